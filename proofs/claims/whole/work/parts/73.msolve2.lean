section
variable {N : Nat} {S : Hp} {m z sm wi le c n mk br : Nat} {M : Nat → Nat}
theorem m_solveAt (h0 : MS S m z sm wi le c n mk br M) (hN0 : 12 < N) (hl : Lns c n M) {x v : Nat} (hv : v = 1 ∨ v = 2) (hx : x < 3 ^ c) (ht : Tab S wi le c n M (x + 1)) (hw : winP M n (mkC c x) (brC c x) = 0) :
    ∃ T, f_X7_solveAt N S m (nI x) (nI v) (nI (fre c (mkC c x) (brC c x))) = some ((), T) ∧ Wr S T wi le (x + 59049 * (v - 1)) (VV c n M (mkC c x) (brC c x) v).1 (VV c n M (mkC c x) (brC c x) v).2 := by
  have hc := hl.1
  have q := m_solveAt_l (N := N) h0 hN0 hl hv hx ht (W := fun i => VV c n M (chK v (mkC c x) i) (chB v (brC c x) i) (3 - v)) (fun _ => rfl) c N 0 (by omega) (by omega)
  rw [VV_open hc hw]
  have e : nI (v * 3 ^ 0) = nI v := by rw [Nat.pow_zero, Nat.mul_one]
  rw [e] at q
  exact q
/-- one place, one mover -/
theorem m_mover (h0 : MS S m z sm wi le c n mk br M) (hN0 : 12 < N) (hl : Lns c n M) {x v : Nat} (hv : v = 1 ∨ v = 2) (hx : x < 3 ^ c) (ht : Tab S wi le c n M (x + 1)) {K : Hp → Int32 → Option (Unit × Hp)} {k : Nat} :
    ∃ T, f_X7_solveAll_l179 N m K (k + 1) S (nI x) (nI (winP M n (mkC c x) (brC c x))) (nI (fre c (mkC c x) (brC c x))) (nI v) = f_X7_solveAll_l179 N m K k T (nI x) (nI (winP M n (mkC c x) (brC c x))) (nI (fre c (mkC c x) (brC c x))) (nI (v + 1)) ∧ Wr S T wi le (x + 59049 * (v - 1)) (VV c n M (mkC c x) (brC c x) v).1 (VV c n M (mkC c x) (brC c x) v).2 := by
  have hc := hl.1
  have p10 := pow3_le hc
  have hF : fre c (mkC c x) (brC c x) < 1024 := fre_lt hc
  have wl := winP_le M n (mkC c x) (brC c x)
  have pl : x + 59049 * (v - 1) < 118098 := by omega
  have pe : nI x + (59049 : Int32) * (nI v - (1 : Int32)) = nI (x + 59049 * (v - 1)) := by
    rw [show (59049 : Int32) = nI 59049 from rfl, show (1 : Int32) = nI 1 from rfl, nI_minus (by omega), nI_mul, nI_plus]
  have cp : (nI (x + 59049 * (v - 1))).toNatClampNeg = x + 59049 * (v - 1) := nI_clamp (by omega)
  have hm := h0.1.1.1
  show ∃ T, f_X7_solveAll_b179 N m K (f_X7_solveAll_l179 N m K k) S (nI x) (nI (winP M n (mkC c x) (brC c x))) (nI (fre c (mkC c x) (brC c x))) (nI v) = _ ∧ _
  unfold f_X7_solveAll_b179
  rw [if_neg (show ¬ (3 : Int32) ≤ nI v from nle_i (a := 3) (by omega) (by decide)), nI_p1]
  by_cases w0 : winP M n (mkC c x) (brC c x) = 0
  · obtain ⟨T, t1, t2⟩ := m_solveAt (N := N) h0 hN0 hl hv hx ht w0
    rw [if_pos (by rw [w0]; decide), gd_pos hm, t1, cl_s]
    exact ⟨T, rfl, t2⟩
  · rw [if_neg (nI_nle (by omega) (by omega))]
    obtain ⟨-, -, ⟨w1, w2, w3⟩, ⟨l1, l2, l3⟩, d1, d2, d3, d4, d5, d6⟩ := h0
    have iw := inN w3 pl (by decide)
    have il := inN l3 pl (by decide)
    have wr : ∀ (r : Int32), r = nI (if winP M n (mkC c x) (brC c x) = 1 then 0 else pop (fre c (mkC c x) (brC c x))) → Wr S (sI (sI S wi (x + 59049 * (v - 1)) (nI (winP M n (mkC c x) (brC c x)))) le (x + 59049 * (v - 1)) r) wi le (x + 59049 * (v - 1)) (VV c n M (mkC c x) (brC c x) v).1 (VV c n M (mkC c x) (brC c x) v).2 := by
      intro r er
      rw [VV_won w0]
      exact ⟨(Fr.rf.sI (by simp)).sI (by simp), by rw [hI_a d6, hI_same], by rw [hI_same, er], fun k hk => ⟨by rw [hI_a d6, hI_k hk], by rw [hI_k hk, hI_a d6.symm]⟩⟩
    unfold f_X7_solveAll_b234
    rw [gd_pos hm, w1, nn_s, gd_pos w2, pe, gd_pos iw, bd_d, hR_sI, l1, nn_s, cp]
    by_cases g : winP M n (mkC c x) (brC c x) = 1
    · rw [if_pos (by rw [g]; rfl), gd_pos (ok_sI l2), hN_sI, gd_pos il, nI_p1]
      exact ⟨_, rfl, wr 0 (by rw [if_pos g]; rfl)⟩
    · rw [if_neg (fun q => g ((nI_eq1 (by omega)).mp q)), m_ones (by omega) hF, cl_s, gd_pos (ok_sI l2), hN_sI, gd_pos il, nI_p1]
      exact ⟨_, rfl, wr _ (by rw [if_neg g])⟩
theorem mkC_succ (i x : Nat) : mkC (i + 1) x = mkC i x ||| (if x / 3 ^ i % 3 = 1 then 2 ^ i else 0) := rfl
theorem brC_succ (i x : Nat) : brC (i + 1) x = brC i x ||| (if x / 3 ^ i % 3 = 2 then 2 ^ i else 0) := rfl
/-- a place is read, its values are found -/
theorem m_code (h0 : MS S m z sm wi le c n mk br M) (hN0 : 12 < N) (hl : Lns c n M) {x : Nat} (hx : x < 3 ^ c) (ht : Tab S wi le c n M (x + 1)) {K : Hp → Int32 → Option (Unit × Hp)} :
    ∀ d k i, i + d = c → d < k → ∃ T, f_X7_solveAll_l87 N m K k S (nI x) (nI (mkC i x)) (nI (brC i x)) (nI (x / 3 ^ i)) (nI i) = K T (nI x - 1) ∧ Fr [wi, le] S T ∧ Tab T wi le c n M x := by
  have hc := hl.1
  have p10 := pow3_le hc
  intro d
  induction d with
  | zero =>
    intro k i hi hk
    obtain ⟨k, rfl⟩ : ∃ q, k = q + 1 := ⟨k - 1, by omega⟩
    obtain rfl : i = c := by omega
    have ps := posC i x
    have m1 : mkC i x < 1024 := Nat.lt_of_lt_of_le ps.1 (pw10 hc)
    have m2 : brC i x < 1024 := Nat.lt_of_lt_of_le ps.2.1 (pw10 hc)
    have ew := m_winner (N := N) h0.1 (by omega) m1 m2
    obtain ⟨N', rfl⟩ : ∃ q, N = q + 3 := ⟨N - 3, by omega⟩
    obtain ⟨T, t1, t2, t3, t4, t5⟩ := m_mover (N := N' + 3) (K := K) (k := N' + 2) h0 hN0 hl (Or.inl rfl) hx ht
    have hcT := h0.fr t2 (by simp [h0.2.2.2.2.2.1, h0.2.2.2.2.2.2.1])
    have htT : Tab T wi le i n M (x + 1) := by
      intro y v hy hy2 hv
      have q := t5 (y + 59049 * (v - 1)) (by omega)
      rw [q.1, q.2]
      exact ht y v hy hy2 hv
    obtain ⟨U, u1, u2, u3, u4, u5⟩ := m_mover (N := N' + 3) (K := K) (k := N' + 1) hcT hN0 hl (Or.inr rfl) hx htT
    refine ⟨U, ?_, t2.tr u2, ?_⟩
    · obtain ⟨⟨⟨hm, hz, hk, hn⟩, ⟨z0, h2, h3, h4, hM⟩, -⟩, -⟩ := h0
      simp only [f_X7_solveAll_l87, f_X7_solveAll_b87, gd_pos hm, hz, nn_s, gd_pos hk, gd_pos (zin hn (i := (0 : Int32)) (k := 0) rfl (by decide)), tn0, z0]
      rw [if_pos (Int32.le_refl _), ew, cl_s, gd_pos hm, hz, nn_s, gd_pos hk, gd_pos (zin hn (i := (0 : Int32)) (k := 0) rfl (by decide)), z0, bd_d, nI_all i (by omega), nI_dif (all_lt hc), nI_dif (dif_lt (all_lt hc))]
      have t1' : f_X7_solveAll_l179 (N' + 3) m K (N' + 3) S (nI x) (nI (winP M n (mkC i x) (brC i x))) (nI (dif (dif (2 ^ i - 1) (mkC i x)) (brC i x))) 1 = f_X7_solveAll_l179 (N' + 3) m K (N' + 2) T (nI x) (nI (winP M n (mkC i x) (brC i x))) (nI (fre i (mkC i x) (brC i x))) (nI (1 + 1)) := t1
      rw [t1', u1]
      show f_X7_solveAll_b179 _ m K _ U _ _ _ (nI (2 + 1)) = _
      unfold f_X7_solveAll_b179
      rw [if_pos (show (3 : Int32) ≤ nI (2 + 1) from Int32.le_refl _), show nI x + (-1 : Int32) = nI x - 1 from (Int32.sub_eq_add_neg _ _).symm]
    · intro y v hy hy2 hv
      by_cases e : y = x
      · subst e
        rcases hv with rfl | rfl
        · have q := u5 (y + 59049 * (1 - 1)) (by omega)
          rw [q.1, q.2]
          exact ⟨t3, t4⟩
        · exact ⟨u3, u4⟩
      · have q := u5 (y + 59049 * (v - 1)) (by omega)
        rw [q.1, q.2]
        exact htT y v (by omega) hy2 hv
  | succ d ih =>
    intro k i hi hk
    obtain ⟨k, rfl⟩ : ∃ q, k = q + 1 := ⟨k - 1, by omega⟩
    have ih' := ih k (i + 1) (by omega) (by omega)
    rw [mkC_succ, brC_succ] at ih'
    have pi0 : 0 < 3 ^ i := Nat.pow_pos (by decide)
    have dl : x / 3 ^ i ≤ x := Nat.div_le_self _ _
    have dv : nI (x / 3 ^ i) / (3 : Int32) = nI (x / 3 ^ (i + 1)) := by
      rw [show (3 : Int32) = nI 3 from rfl, pk_div (by omega) (by decide) (by decide), Nat.div_div_eq_div_mul, ← Nat.pow_succ]
    have rm : nI (x / 3 ^ i) - nI (x / 3 ^ i) / (3 : Int32) * (3 : Int32) = nI (x / 3 ^ i % 3) := by
      rw [show (3 : Int32) = nI 3 from rfl, pk_rem (by omega) (by decide) (by decide)]
    have rm2 : nI (x / 3 ^ i) - nI (x / 3 ^ (i + 1)) * (3 : Int32) = nI (x / 3 ^ i % 3) := by rw [← dv]; exact rm
    have ml := Nat.mod_lt (x / 3 ^ i) (show 0 < 3 by decide)
    obtain ⟨⟨⟨hm, hz, hk, hn⟩, ⟨z0, h2, h3, h4, hM⟩, -⟩, -⟩ := h0
    simp only [f_X7_solveAll_l87, f_X7_solveAll_b87, f_X7_solveAll_b115, f_X7_solveAll_b134, gd_pos hm, hz, nn_s, gd_pos hk, gd_pos (zin hn (i := (0 : Int32)) (k := 0) rfl (by decide)), tn0, z0, dv, rm2, nI_bit i (by omega), nI_p1]
    rw [if_neg (nle_i (by omega) (by omega))]
    by_cases e1 : x / 3 ^ i % 3 = 1
    · rw [if_pos e1, if_neg (by omega)] at ih'
      rw [if_pos (by rw [e1]; rfl), if_neg (fun q => by have := (nI_eq2 (by omega)).mp q; omega), nI_or, show (0 : Int32) = nI 0 from rfl, nI_or]
      exact ih'
    · rw [if_neg e1] at ih'
      rw [if_neg (fun q => e1 ((nI_eq1 (by omega)).mp q))]
      by_cases e2 : x / 3 ^ i % 3 = 2
      · rw [if_pos e2] at ih'
        rw [if_pos (by rw [e2]; rfl), show (0 : Int32) = nI 0 from rfl, nI_or, nI_or]
        exact ih'
      · rw [if_neg e2] at ih'
        rw [if_neg (fun q => e2 ((nI_eq2 (by omega)).mp q)), show (0 : Int32) = nI 0 from rfl, nI_or, nI_or]
        exact ih'
theorem m_codes (hN0 : 12 < N) (hl : Lns c n M) : ∀ y k S, y ≤ 3 ^ c → y < k → MS S m z sm wi le c n mk br M → Tab S wi le c n M y → ∃ T, f_X7_solveAll_l73 N m k S (nI y - 1) = some ((), T) ∧ Fr [wi, le] S T ∧ Tab T wi le c n M 0 := by
  intro y
  induction y with
  | zero =>
    intro k S hy hk h0 ht
    obtain ⟨k, rfl⟩ : ∃ q, k = q + 1 := ⟨k - 1, by omega⟩
    unfold f_X7_solveAll_l73 f_X7_solveAll_b73
    rw [if_pos (by decide)]
    exact ⟨S, rfl, Fr.rf, ht⟩
  | succ y ih =>
    intro k S hy hk h0 ht
    obtain ⟨k, rfl⟩ : ∃ q, k = q + 1 := ⟨k - 1, by omega⟩
    have p10 := pow3_le hl.1
    have hc := hl.1
    unfold f_X7_solveAll_l73 f_X7_solveAll_b73
    rw [nI_m1, if_neg (nI_pos (by omega))]
    obtain ⟨T, t1, t2, t3⟩ := m_code (N := N) (K := f_X7_solveAll_l73 N m k) h0 hN0 hl (x := y) (by omega) ht c N 0 (by omega) (by omega)
    have hcT := h0.fr t2 (by simp [h0.2.2.2.2.2.1, h0.2.2.2.2.2.2.1])
    obtain ⟨U, u1, u2, u3⟩ := ih k T (by omega) (by omega) hcT t3
    refine ⟨U, ?_, t2.tr u2, u3⟩
    have t1' : f_X7_solveAll_l87 N m (f_X7_solveAll_l73 N m k) N S (nI y) 0 0 (nI y) 0 = f_X7_solveAll_l73 N m k T (nI y - 1) := by
      rw [← t1]
      show _ = f_X7_solveAll_l87 N m (f_X7_solveAll_l73 N m k) N S (nI y) (nI 0) (nI 0) (nI (y / 1)) (nI 0)
      rw [Nat.div_one]
      rfl
    rw [t1', u1]
end
