section
variable {N : Nat} {S : Hp} {m : Nat} {g : Nat → Nat} {A : Ab}
/-- a stretch of the hash on the model's side: the state stays, the hash is h -/
def DS (S : Hp) (m : Nat) (g : Nat → Nat) (A : Ab) (h : Int64) (T : Hp) : Prop := Kee (fun a => a ∉ MLx m g) S T ∧ hL T = hL S ∧ MX T m g A ∧ hI T m 7 = hI S m 7 ∧ hJ T m 19 = h
theorem DS.tr {T U : Hp} {a b : Int64} (h : DS S m g A a T) (k : DS T m g A b U) : DS S m g A b U := ⟨h.1.tr k.1, k.2.1.trans h.2.1, k.2.2.1, k.2.2.2.1.trans h.2.2.2.1, k.2.2.2.2⟩
theorem DS.rf (h : MX S m g A) : DS S m g A (hJ S m 19) S := ⟨Kee.rf, rfl, h, rfl, rfl⟩
theorem MSteq.ds {T : Hp} (h : MSteq S m g A T) : DS S m g A (hJ S m 19) T := ⟨h.1.kee (fun _ q => q), h.1.1, h.2.1, h.2.2, by rw [h.1.2.2.2.2.1]⟩
theorem mlx_m : m ∈ MLx m g := List.mem_cons_of_mem _ mls_m
theorem MX.J (h : MX S m g A) (k : Nat) (v : Int64) : MX (sJ S m k v) m g A := h
theorem ds_J (h : MX S m g A) (v : Int64) : DS S m g A v (sJ S m 19 v) := by
  refine ⟨fun a ha hp => ⟨ha, rfl, rfl, rfl, rfl, ?_⟩, rfl, h, rfl, ?_⟩
  · funext j
    rw [hJ_sJ, if_neg (fun q => hp (by rw [q.1]; exact mlx_m))]
  · rw [hJ_sJ, if_pos ⟨rfl, rfl⟩]
theorem m_mix (h : MX S m g A) (v : Int64) : ∃ T, f_X7_mix N S m v = some ((), T) ∧ DS S m g A (31 * hJ S m 19 + v) T := by
  unfold f_X7_mix
  rw [gd_pos h.1.1, bd_d]
  exact ⟨_, rfl, ds_J h _⟩
/-- a look, then its value mixed in -/
theorem m_lm {α : Type} {r : α} {v : Int64} {run : Option (α × Hp)} (h : ∃ T, run = some (r, T) ∧ MSteq S m g A T) : ∃ T, ∃ U, run = some (r, T) ∧ ok T m 7 ∧ f_X7_mix N T m v = some ((), U) ∧ DS S m g A (31 * hJ S m 19 + v) U := by
  obtain ⟨T, t1, t2⟩ := h
  obtain ⟨U, u1, u2⟩ := m_mix (N := N) t2.2.1 v
  have d := t2.ds.tr u2
  rw [t2.ds.2.2.2.2] at d
  exact ⟨T, U, t1, t2.2.1.1.1, u1, d⟩
theorem mix_ok {T : Hp} {v : Int64} (h : DS S m g A v T) : ok T m 7 := h.2.2.1.1.1
/-- the whole run's end -/
def DE (S : Hp) (m : Nat) (g : Nat → Nat) (A : Ab) (run : Option (Int64 × Hp)) : Prop := ∃ T, run = some (dgA A, T) ∧ DS S m g A (dgA A) T
theorem DE.af {T : Hp} {v : Int64} {run : Option (Int64 × Hp)} (h : DS S m g A v T) (k : DE T m g A run) : DE S m g A run := by
  obtain ⟨U, u1, u2⟩ := k
  exact ⟨U, u1, h.tr u2⟩
theorem m_dg232 (hw : WfA A) : ∀ d k i S, MX S m g A → hJ S m 19 = hs6 A i → i + d = aL A → d < k → DE S m g A (f_X7_digest_l232 N m k S (nI i)) := by
  have h60 := hw.2.2.2.1
  intro d
  induction d with
  | zero =>
    intro k i S h hj hi hk
    obtain ⟨k, rfl⟩ : ∃ u, k = u + 1 := ⟨k - 1, by omega⟩
    obtain rfl : i = aL A := by omega
    unfold f_X7_digest_l232 f_X7_digest_b232
    rw [gd_pos h.1.1, h.2.1.2, if_pos (Int32.le_refl _), hj]
    have q := DS.rf h
    rw [hj] at q
    exact ⟨S, rfl, q⟩
  | succ d ih =>
    intro k i S h hj hi hk
    obtain ⟨k, rfl⟩ : ∃ u, k = u + 1 := ⟨k - 1, by omega⟩
    have il : i < aL A := by omega
    have h6 := h.1.2.1 6 (by decide)
    have n6 : hN S (g 6) = 60 := h6.2.2
    obtain ⟨U, u1, u2⟩ := m_mix (N := N) h (nI (aT A i)).toInt64
    unfold f_X7_digest_l232 f_X7_digest_b232
    rw [gd_pos h.1.1, h.2.1.2, if_neg (nle_i il (by omega)), h6.1, nn_s, gd_pos h6.2.1, gd_pos (inN n6 (show i < 60 by omega) (by decide)), nI_clamp (by omega), h.2.2.2.2.2.1 i il, u1, cl_s, nI_p1]
    refine DE.af u2 (ih k (i + 1) U u2.2.2.1 ?_ (by omega) (by omega))
    rw [u2.2.2.2.2, hj]
    rfl
theorem m_dsh (h : MX S m g A) (hw : WfA A) (hB : Big N) : f_X7_share N S m = some (shF (bws (aN A)), S) := by
  have q := (sh_ok (bws_le hw.1)).1
  unfold f_X7_share
  rw [gd_pos h.1.1, m_weight (h.zm.mz hw.1) (by have := hB.1; omega), cl_s]
  exact gd_pos q
theorem m_dg125e (h : MX S m g A) (hw : WfA A) (hB : Big N) (hj : hJ S m 19 = hs4 A 4) {k : Nat} : DE S m g A (f_X7_digest_l125 N m (k + 1) S (nI 4)) := by
  have hB0 := hB.1
  obtain ⟨T0, U0, a1, a2, a3, a4⟩ := m_lm (N := N) (v := (nI (svB (aN A) 0)).toInt64) (let ⟨T, t1, t2⟩ := m_sv (N := N) h hw hB (w := 0) (by decide); ⟨T, t1, t2.q⟩)
  obtain ⟨T1, U1, b1, b2, b3, b4⟩ := m_lm (N := N) (v := (nI (svB (aN A) 1)).toInt64) (let ⟨T, t1, t2⟩ := m_sv (N := N) a4.2.2.1 hw hB (w := 1) (by decide); ⟨T, t1, t2.q⟩)
  obtain ⟨T2, U2, c1, c2, c3, c4⟩ := m_lm (N := N) (v := (nI (plB (aN A) 1 1)).toInt64) (m_playedThen (N := N) b4.2.2.1 hw hB (r1 := 1) (r2 := 1) (by decide) (by decide))
  obtain ⟨T3, U3, d1, d2, d3, d4⟩ := m_lm (N := N) (v := (nI (plB (aN A) 1 2)).toInt64) (m_playedThen (N := N) c4.2.2.1 hw hB (r1 := 1) (r2 := 2) (by decide) (by decide))
  obtain ⟨T4, U4, e1, e2, e3, e4⟩ := m_lm (N := N) (v := (nI (plB (aN A) 2 3)).toInt64) (m_playedThen (N := N) d4.2.2.1 hw hB (r1 := 2) (r2 := 3) (by decide) (by decide))
  obtain ⟨T5, U5, f1, f2, f3, f4⟩ := m_lm (N := N) (v := (nI (plB (aN A) 3 1)).toInt64) (m_playedThen (N := N) e4.2.2.1 hw hB (r1 := 3) (r2 := 1) (by decide) (by decide))
  have g1 := m_dsh (N := N) f4.2.2.1 hw hB
  obtain ⟨U6, g3, g4⟩ := m_mix (N := N) f4.2.2.1 (shB (bws (aN A)))
  obtain ⟨U7, i3, i4⟩ := m_mix (N := N) g4.2.2.1 (nI (aL A)).toInt64
  have hL5 := g4.2.2.1.2.1.2
  rw [hj] at a4
  rw [a4.2.2.2.2] at b4
  rw [b4.2.2.2.2] at c4
  rw [c4.2.2.2.2] at d4
  rw [d4.2.2.2.2] at e4
  rw [e4.2.2.2.2] at f4
  rw [f4.2.2.2.2] at g4
  rw [g4.2.2.2.2] at i4
  unfold f_X7_digest_l125 f_X7_digest_b125
  rw [if_pos (show (4 : Int32) ≤ nI 4 by decide), gd_pos h.1.1, show (0 : Int32) = nI 0 from rfl, a1, cl_s, gd_pos a2, a3, cl_s, gd_pos (mix_ok a4), show (1 : Int32) = nI 1 from rfl, b1, cl_s, gd_pos b2, b3, cl_s, gd_pos (mix_ok b4), c1, cl_s, gd_pos c2, c3, cl_s, gd_pos (mix_ok c4), show (2 : Int32) = nI 2 from rfl, d1, cl_s, gd_pos d2, d3, cl_s, gd_pos (mix_ok d4), show (3 : Int32) = nI 3 from rfl, e1, cl_s, gd_pos e2, e3, cl_s, gd_pos (mix_ok e4), f1, cl_s, gd_pos f2, f3, cl_s, gd_pos (mix_ok f4), g1, cl_s, d_bits (bws_le hw.1), cl_s, gd_pos (mix_ok f4), g3, cl_s, gd_pos (mix_ok g4), hL5, i3, cl_s]
  refine DE.af (a4.tr (b4.tr (c4.tr (d4.tr (e4.tr (f4.tr (g4.tr i4))))))) (m_dg232 hw (aL A) N 0 U7 i4.2.2.1 i4.2.2.2.2 (by omega) (by have := hw.2.2.2.1; omega))
theorem m_dg125 (hw : WfA A) (hB : Big N) : ∀ d k r S, MX S m g A → hJ S m 19 = hs4 A r → r + d = 4 → d < k → DE S m g A (f_X7_digest_l125 N m k S (nI r)) := by
  intro d
  induction d with
  | zero =>
    intro k r S h hj hr hk
    obtain ⟨k, rfl⟩ : ∃ u, k = u + 1 := ⟨k - 1, by omega⟩
    obtain rfl : r = 4 := by omega
    exact m_dg125e h hw hB hj
  | succ d ih =>
    intro k r S h hj hr hk
    obtain ⟨k, rfl⟩ : ∃ u, k = u + 1 := ⟨k - 1, by omega⟩
    obtain ⟨T0, U0, a1, a2, a3, a4⟩ := m_lm (N := N) (v := (rplB (aN A) r).toInt64) (let ⟨T, t1, t2⟩ := m_replyBy (N := N) h hw hB (r := r) (by omega); ⟨T, t1, t2.q⟩)
    unfold f_X7_digest_l125 f_X7_digest_b125
    rw [if_neg (nle_c 4 (n := 4) rfl (by omega) (by decide)), gd_pos h.1.1, a1, cl_s, gd_pos a2, a3, cl_s, nI_p1]
    refine DE.af a4 (ih k (r + 1) U0 a4.2.2.1 ?_ (by omega) (by omega))
    rw [a4.2.2.2.2, hj]
    rfl
theorem m_dg85 (hw : WfA A) (hB : Big N) {K : Hp → Int32 → Option (Int64 × Hp)} {i : Nat} (hi : i < bc (aN A)) (hK : ∀ T, MX T m g A → hJ T m 19 = hs3 A (i + 1) → DE T m g A (K T (nI (i + 1)))) : ∀ d k w S, MX S m g A → hJ S m 19 = foN (fun w => (lkC (aN A) i w).toInt64) w (hs3 A i) → w + d = 4 → d < k → DE S m g A (f_X7_digest_l85 N m K k S (nI i) (nI w)) := by
  have hc := hw.1.c10
  intro d
  induction d with
  | zero =>
    intro k w S h hj hr hk
    obtain ⟨k, rfl⟩ : ∃ u, k = u + 1 := ⟨k - 1, by omega⟩
    obtain rfl : w = 4 := by omega
    obtain ⟨T0, U0, a1, a2, a3, a4⟩ := m_lm (N := N) (v := (imB (aN A) i).toInt64) (let ⟨T, t1, t2⟩ := m_im (N := N) h hw hB (i := i) (by omega); ⟨T, t1, t2.q⟩)
    unfold f_X7_digest_l85 f_X7_digest_b85
    rw [if_pos (show (4 : Int32) ≤ nI 4 by decide), gd_pos h.1.1, a1, cl_s, gd_pos a2, a3, cl_s, nI_p1]
    refine DE.af a4 (hK U0 a4.2.2.1 ?_)
    rw [a4.2.2.2.2, hj]
    rfl
  | succ d ih =>
    intro k w S h hj hr hk
    obtain ⟨k, rfl⟩ : ∃ u, k = u + 1 := ⟨k - 1, by omega⟩
    obtain ⟨T0, U0, a1, a2, a3, a4⟩ := m_lm (N := N) (v := (lkC (aN A) i w).toInt64) (let ⟨T, t1, t2⟩ := m_cellNow (N := N) h hw hB hi (w := w) (by omega); ⟨T, t1, t2.q⟩)
    unfold f_X7_digest_l85 f_X7_digest_b85
    rw [if_neg (nle_c 4 (n := 4) rfl (by omega) (by decide)), gd_pos h.1.1, a1, cl_s, gd_pos a2, a3, cl_s, nI_p1]
    refine DE.af a4 (ih k (w + 1) U0 a4.2.2.1 ?_ (by omega) (by omega))
    rw [a4.2.2.2.2, hj]
    rfl
theorem m_dg73 (hw : WfA A) (hB : Big N) : ∀ d k i S, MX S m g A → hJ S m 19 = hs3 A i → i + d = bc (aN A) → d < k → DE S m g A (f_X7_digest_l73 N m k S (nI i)) := by
  have hc := hw.1.c10
  have hB0 := hB.1
  intro d
  induction d with
  | zero =>
    intro k i S h hj hi hk
    obtain ⟨k, rfl⟩ : ∃ u, k = u + 1 := ⟨k - 1, by omega⟩
    obtain rfl : i = bc (aN A) := by omega
    obtain ⟨⟨b1, b2, b3, b4⟩, z⟩ := h.zm
    unfold f_X7_digest_l73 f_X7_digest_b73
    rw [gd_pos b1, b2, nn_s, gd_pos b3, gd_pos (zin b4 (i := (0 : Int32)) (k := 0) rfl (by decide)), tn0, z.1.1, if_pos (Int32.le_refl _)]
    exact m_dg125 hw hB 4 N 0 S h hj rfl (by omega)
  | succ d ih =>
    intro k i S h hj hi hk
    obtain ⟨k, rfl⟩ : ∃ u, k = u + 1 := ⟨k - 1, by omega⟩
    obtain ⟨⟨b1, b2, b3, b4⟩, z⟩ := h.zm
    unfold f_X7_digest_l73 f_X7_digest_b73
    rw [gd_pos b1, b2, nn_s, gd_pos b3, gd_pos (zin b4 (i := (0 : Int32)) (k := 0) rfl (by decide)), tn0, z.1.1, if_neg (nle_i (by omega) (by omega))]
    exact m_dg85 hw hB (by omega) (fun T t1 t2 => ih k (i + 1) T t1 t2 (by omega) (by omega)) 4 N 0 S h hj rfl (by omega)
theorem d5 : ∀ v, v < 60 → nI v / (5 : Int32) = nI (v / 5) ∧ nI v - nI v / (5 : Int32) * (5 : Int32) = nI (v % 5) := by decide +kernel
theorem m_dg38 (hw : WfA A) (hB : Big N) : ∀ d k v S, MX S m g A → hJ S m 19 = hs2 A v → v + d = 5 * bn (aN A) → d < k → DE S m g A (f_X7_digest_l38 N m k S (nI v)) := by
  have hn := hw.1.1.2.2.1
  have hc := hw.1.c10
  have hB0 := hB.1
  intro d
  induction d with
  | zero =>
    intro k v S h hj hi hk
    obtain ⟨k, rfl⟩ : ∃ u, k = u + 1 := ⟨k - 1, by omega⟩
    obtain rfl : v = 5 * bn (aN A) := by omega
    obtain ⟨⟨b1, b2, b3, b4⟩, z⟩ := h.zm
    unfold f_X7_digest_l38 f_X7_digest_b38
    rw [gd_pos b1, b2, nn_s, gd_pos b3, gd_pos (zin b4 (i := (2 : Int32)) (k := 2) rfl (by decide)), tn2, z.1.2.2.1, show (5 : Int32) * nI (bn (aN A)) = nI (5 * bn (aN A)) from nI_mul 5 _, if_pos (Int32.le_refl _)]
    exact m_dg73 hw hB (bc (aN A)) N 0 S h hj (by omega) (by omega)
  | succ d ih =>
    intro k v S h hj hi hk
    obtain ⟨k, rfl⟩ : ∃ u, k = u + 1 := ⟨k - 1, by omega⟩
    obtain ⟨⟨b1, b2, b3, b4⟩, z⟩ := h.zm
    have e := m_lineNow (N := N) h hw hB (j := v / 5) (w := v % 5) (by omega) (by omega)
    obtain ⟨U0, a3, a4⟩ := m_mix (N := N) h (lkL (aN A) (v / 5) (v % 5)).toInt64
    unfold f_X7_digest_l38 f_X7_digest_b38
    rw [gd_pos b1, b2, nn_s, gd_pos b3, gd_pos (zin b4 (i := (2 : Int32)) (k := 2) rfl (by decide)), tn2, z.1.2.2.1, show (5 : Int32) * nI (bn (aN A)) = nI (5 * bn (aN A)) from nI_mul 5 _, if_neg (nle_i (by omega) (by omega)), (d5 v (by omega)).2, (d5 v (by omega)).1, e, cl_s, gd_pos b1, a3, cl_s, nI_p1]
    refine DE.af a4 (ih k (v + 1) U0 a4.2.2.1 ?_ (by omega) (by omega))
    rw [a4.2.2.2.2, hj]
    rfl
theorem m_dg14 (hw : WfA A) (hB : Big N) : ∀ d k w S, MX S m g A → hJ S m 19 = foN (fun w => (ctA A w).toInt64) w 2503 → w + d = 16 → d < k → DE S m g A (f_X7_digest_l14 N m k S (nI w)) := by
  have hn := hw.1.1.2.2.1
  have hB0 := hB.1
  intro d
  induction d with
  | zero =>
    intro k w S h hj hi hk
    obtain ⟨k, rfl⟩ : ∃ u, k = u + 1 := ⟨k - 1, by omega⟩
    obtain rfl : w = 16 := by omega
    unfold f_X7_digest_l14 f_X7_digest_b14
    rw [if_pos (show (16 : Int32) ≤ nI 16 by decide)]
    exact m_dg38 hw hB (5 * bn (aN A)) N 0 S h hj (by omega) (by omega)
  | succ d ih =>
    intro k w S h hj hi hk
    obtain ⟨k, rfl⟩ : ∃ u, k = u + 1 := ⟨k - 1, by omega⟩
    obtain ⟨T0, U0, a1, a2, a3, a4⟩ := m_lm (N := N) (v := (ctA A w).toInt64) (let ⟨T, t1, t2⟩ := m_counted (N := N) h hw hB w (by omega); ⟨T, t1, t2.q⟩)
    unfold f_X7_digest_l14 f_X7_digest_b14
    rw [if_neg (nle_c 16 (n := 16) rfl (by omega) (by decide)), gd_pos h.1.1, a1, cl_s, gd_pos a2, a3, cl_s, nI_p1]
    refine DE.af a4 (ih k (w + 1) U0 a4.2.2.1 ?_ (by omega) (by omega))
    rw [a4.2.2.2.2, hj]
    rfl
theorem m_digest (h : MX S m g A) (hw : WfA A) (hB : Big N) : ∃ T, f_X7_digest N S m = some (dgA A, T) ∧ Kee (fun a => a ∉ MLx m g) S T ∧ hL T = hL S ∧ MX T m g A ∧ hI T m 7 = 0 := by
  have h1 := h.t7 0
  have d1 := ds_J h1 (2503 : Int64)
  obtain ⟨T, t1, t2⟩ := m_dg14 (N := N) hw hB 16 N 0 _ d1.2.2.1 d1.2.2.2.2 rfl (by have := hB.1; omega)
  have d := d1.tr t2
  have f : Fr (MLx m g) S (sI S m 7 0) := Fr.rf.sI mlx_m
  refine ⟨T, ?_, (f.kee (fun _ q => q)).tr d.1, d.2.1, d.2.2.1, d.2.2.2.1.trans (hI_same _ _ _ _)⟩
  unfold f_X7_digest
  rw [gd_pos h.1.1, bd_d]
  exact t1
theorem m_weightShare (h : MX S m g A) (hw : WfA A) (hB : Big N) : ∃ T, f_X7_weightShare N S m = some (shF (bws (aN A)), T) ∧ Fr (MLx m g) S T ∧ MX T m g A ∧ hI T m 7 = 0 := by
  have h1 := h.t7 0
  unfold f_X7_weightShare
  rw [gd_pos h.1.1, m_dsh h1 hw hB, cl_s]
  exact ⟨_, rfl, Fr.rf.sI mlx_m, h1, hI_same _ _ _ _⟩
end
