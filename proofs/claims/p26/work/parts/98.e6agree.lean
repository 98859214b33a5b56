/-! the law's look at all that the class tells -/
section
variable {N : Nat} {S : Hp} {x zz li pa : Nat} {d : Nat → Nat} {q : Nat → Option (Nat × Nat × Nat)} {A : Ab} {nb : Nat}
theorem agree_1 (h : KA S x zz li pa d q A nb) (hz : LZ S zz li (aN A) (aH A)) (hN : 12 < N) : ∀ D k j, j + D = bn (aN A) → D < k → f_L_agree_l6 N x zz li pa k S (nI (fb_sm (wtP (bM (aN A)) (bc (aN A)) (bk (aN A)) (bb (aN A))) j)) (nI j) = cl (f_L_pairing N S zz li pa) fun r13 S13 => f_L_agree_l148 N x zz li pa N S13 (nI (bws (aN A))) r13 0 0 := by
  have ha := h.1
  have hd := h.2.1
  have hw := h.2.2.1
  have lb := hz.1
  have e1 := l_free (N := N) lb
  have e2 := fun j (hj : j < bn (aN A)) => l_weight lb (by omega : 10 < N) hj
  have e3 := fun j (hj : j < bn (aN A)) w (h5 : w < 5) => x_line (N := N) ha hd hw hj h5
  obtain ⟨⟨hk, hn, hl, hm⟩, ⟨h0, h2, h3, h4, hM⟩, hc, hn3, hmk, hbr, hM1⟩ := lb
  intro D
  induction D with
  | zero =>
    intro k j hj hk'
    obtain ⟨k, rfl⟩ : ∃ q, k = q + 1 := ⟨k - 1, by omega⟩
    obtain rfl : j = bn (aN A) := by omega
    rw [f_L_agree_l6, f_L_agree_b6, gd_pos hk, gd_pos (zq hn (i := (2 : Int32)) (k := 2) rfl (by decide)), tn2, h2, if_pos (Int32.le_refl _)]
    rfl
  | succ D ih =>
    intro k j hj hk'
    obtain ⟨k, rfl⟩ : ∃ q, k = q + 1 := ⟨k - 1, by omega⟩
    have hjn : j < bn (aN A) := by omega
    have b3 := and_lt (b := bb (aN A)) (hM1 j hjn)
    have o2 := l_ones (N := N) (S := S) (by omega) (and_lt (b := fre (bc (aN A)) (bk (aN A)) (bb (aN A))) (hM1 j hjn))
    have o4 := l_ones (N := N) (S := S) (by omega) (and_lt (b := bk (aN A)) (hM1 j hjn))
    have q0 : f_X6_line N S x (nI j) 0 = some (nI (bM (aN A) j), S) := e3 j hjn 0 (by decide)
    have q1 : f_X6_line N S x (nI j) 1 = some ((if isAl (bM (aN A)) (bb (aN A)) j = true then 0 else 1), S) := e3 j hjn 1 (by decide)
    have q2 : f_X6_line N S x (nI j) 2 = some (nI (pop (bM (aN A) j &&& fre (bc (aN A)) (bk (aN A)) (bb (aN A)))), S) := e3 j hjn 2 (by decide)
    have q3 : f_X6_line N S x (nI j) 3 = some (nI (wtP (bM (aN A)) (bc (aN A)) (bk (aN A)) (bb (aN A)) j), S) := e3 j hjn 3 (by decide)
    have q4 : f_X6_line N S x (nI j) 4 = some (nI (pop (bM (aN A) j &&& bk (aN A))), S) := e3 j hjn 4 (by decide)
    have tail : ∀ v : Int32, f_L_agree_b63 N x zz li pa (f_L_agree_l6 N x zz li pa k) S v (nI j) (if isAl (bM (aN A)) (bb (aN A)) j = true then 0 else 1) (if isAl (bM (aN A)) (bb (aN A)) j = true then 0 else 1) = f_L_agree_l6 N x zz li pa k S v (nI (j + 1)) := by
      intro v
      unfold f_L_agree_b63
      rw [if_pos rfl, gd_pos h.ok6, q2, cl_s, gd_pos hl, gd_pos (lq hm (j := j) (by omega)), e1, cl_s, nI_clamp (show j < 2 ^ 31 by omega), hM j hjn, nI_and, o2, cl_s, if_pos rfl, gd_pos h.ok6, q3, cl_s, e2 j hjn, cl_s, if_pos rfl, gd_pos h.ok6, q4, cl_s, gd_pos hl, gd_pos (lq hm (j := j) (by omega)), gd_pos hk, gd_pos (zq hn (i := (3 : Int32)) (k := 3) rfl (by decide)), tn3, h3, hM j hjn, nI_and, o4, cl_s, if_pos rfl, nI_p1]
    rw [f_L_agree_l6, f_L_agree_b6, gd_pos hk, gd_pos (zq hn (i := (2 : Int32)) (k := 2) rfl (by decide)), tn2, h2, if_neg (fun q => absurd ((nI_le_iff (by omega) (by omega)).mp q) (by omega)), e2 j hjn, cl_s, gd_pos h.ok6, q0, cl_s, gd_pos hl, gd_pos (lq hm (j := j) (by omega)), nI_clamp (show j < 2 ^ 31 by omega), hM j hjn, if_pos rfl, gd_pos h.ok6, q1, cl_s, gd_pos hl, gd_pos (lq hm (j := j) (by omega)), gd_pos hk, gd_pos (zq hn (i := (4 : Int32)) (k := 4) rfl (by decide)), tn4, h4, hM j hjn, nI_and, nI_plus]
    have ih' := ih k (j + 1) (by omega) (by omega)
    rw [fb_sm_succ] at ih'
    by_cases g : bM (aN A) j &&& bb (aN A) = 0
    · have ga : isAl (bM (aN A)) (bb (aN A)) j = true := by simp [isAl, g]
      have t := tail (nI (fb_sm (wtP (bM (aN A)) (bc (aN A)) (bk (aN A)) (bb (aN A))) j + wtP (bM (aN A)) (bc (aN A)) (bk (aN A)) (bb (aN A)) j))
      rw [if_pos ga] at t
      rw [if_pos ((nI_eq0 (by omega)).mpr g), if_pos ga, t]
      exact ih'
    · have ga : ¬ isAl (bM (aN A)) (bb (aN A)) j = true := by simp [isAl, g]
      have t := tail (nI (fb_sm (wtP (bM (aN A)) (bc (aN A)) (bk (aN A)) (bb (aN A))) j + wtP (bM (aN A)) (bc (aN A)) (bk (aN A)) (bb (aN A)) j))
      rw [if_neg ga] at t
      rw [if_neg (fun w => g ((nI_eq0 (by omega)).mp w)), if_neg ga, t]
      exact ih'
/-- what the law knows of the pairing, c cells counted -/
def PRs (S : Hp) (pa : Nat) (B : Bd) (c : Nat) (r v : Int32) : Prop := (DB B = none ∧ r = 0 ∧ v = 0) ∨ ∃ w, DB B = some w ∧ r = 1 ∧ LPq S pa w.1 w.2 ∧ goodQ (bfre B) w.1 w.2 ∧ v = nI (fb_ct (lowQ w.1 w.2) c)
theorem PRs.cong {S T : Hp} {pa : Nat} {B : Bd} {c : Nat} {r v : Int32} (h : PRs S pa B c r v) (o : ok T pa 8 ∧ hN T pa = 5) (e : hI T pa = hI S pa) : PRs T pa B c r v := by
  rcases h with h | ⟨w, h1, h2, h3, h4⟩
  · exact Or.inl h
  · exact Or.inr ⟨w, h1, h2, ⟨o, by rw [e]; exact h3.2⟩, h4⟩
theorem PRs.fin {B : Bd} {r v : Int32} (h : PRs S pa B (bc B) r v) (hw : Wf B) : (r = 0 ∧ npB B = -1) ∨ (r = 1 ∧ npB B = v) := by
  unfold npB
  rcases h with ⟨h1, h2, h3⟩ | ⟨w, h1, h2, h3, h4, h5⟩
  · rw [h1]; exact Or.inl ⟨h2, rfl⟩
  · rw [h1]
    refine Or.inr ⟨h2, ?_⟩
    have c10 := hw.c10
    have e := low_ct h4
    have e2 := fb_ct_split (lowQ w.1 w.2) (bc B) (10 - bc B)
    have e3 : fb_ct (fun k => lowQ w.1 w.2 (bc B + k)) (10 - bc B) = 0 := fb_ct_zero.mpr (fun k hk => by
      unfold lowQ
      refine anyN_not.mpr (fun i hi => ?_)
      have := fr_lt c10 (h4 i hi).2.2.2.2.1
      exact decide_eq_false (by omega))
    rw [show bc B + (10 - bc B) = 10 by omega, e3, e] at e2
    rw [h5]
    exact congrArg nI e2
theorem bow_bits {B : Bd} (hw : Wf B) {i : Nat} (hi : i < 31) : ((nI (bk B) >>> (nI i &&& 31)) &&& (1 : Int32)) + ((2 : Int32) * ((nI (bb B) >>> (nI i &&& 31)) &&& (1 : Int32))) = nI (bow B i) := by
  have k10 := hw.k10
  have b10 := hw.b10
  rw [nI_has (by omega) (by omega), nI_has (by omega) (by omega)]
  unfold bow
  by_cases g : (bk B).testBit i = true
  · have nb : (bb B).testBit i = false := by
      have e := congrArg (fun w => w.testBit i) hw.d
      simp only [Nat.testBit_and, Nat.zero_testBit, g, Bool.true_and] at e
      exact e
    rw [if_pos g, if_pos g, nb]
    rfl
  · rw [if_neg g, if_neg g]
    by_cases g2 : (bb B).testBit i = true
    · rw [if_pos g2, if_pos g2]; rfl
    · rw [if_neg g2, if_neg g2]; rfl
theorem agree_2 (hN : 2000 < N) {v4 : Int32} : ∀ D k i S r v6, i + D = bc (aN A) → D < k → KA S x zz li pa d q A nb → LZ S zz li (aN A) (aH A) → PRs S pa (aN A) i r v6 → ∃ T v, KA T x zz li pa d q A nb ∧ LZ T zz li (aN A) (aH A) ∧ PRs T pa (aN A) (bc (aN A)) r v ∧ f_L_agree_l148 N x zz li pa k S v4 r v6 (nI i) = f_L_agree_l260 N x zz li pa N T v4 r v (nI (bwin (aN A))) 0 := by
  intro D
  induction D with
  | zero =>
    intro k i S r v6 hi hk' h hz hp
    obtain ⟨k, rfl⟩ : ∃ q, k = q + 1 := ⟨k - 1, by omega⟩
    obtain rfl : i = bc (aN A) := by omega
    refine ⟨S, v6, h, hz, hp, ?_⟩
    have e := l_winner (N := N) hz.1 (by omega)
    rw [f_L_agree_l148, f_L_agree_b148, gd_pos hz.1.1.1, gd_pos (zq hz.1.1.2.1 (i := (0 : Int32)) (k := 0) rfl (by decide)), tn0, hz.1.2.1.1, if_pos (Int32.le_refl _), e, cl_s]
    rfl
  | succ D ih =>
    intro k i S r v6 hi hk' h hz hp
    obtain ⟨k, rfl⟩ : ∃ q, k = q + 1 := ⟨k - 1, by omega⟩
    have ic : i < bc (aN A) := by omega
    have c5 := hz.1.2.2.1
    have hwf := h.2.2.1.1
    obtain ⟨T1, a1, a2⟩ := x_cell (N := N) h.1 h.2.1 h.2.2.1 (by omega) ic (show 0 < 4 by decide)
    have a1' : f_X6_cell N S x (nI i) 0 = some (nI (bow (aN A) i), T1) := a1
    obtain ⟨h1, z1, p1⟩ := h.look a2 hz
    obtain ⟨T2, b1, b2⟩ := x_cell (N := N) h1.1 h1.2.1 h1.2.2.1 (by omega) ic (show 1 < 4 by decide)
    have b1' : f_X6_cell N T1 x (nI i) 1 = some (nI (bdg (aN A) i), T2) := b1
    obtain ⟨h2, z2, p2⟩ := h1.look b2 z1
    have e2 := l_danger (N := N) z2.1 (by omega) (show i < 31 by omega)
    obtain ⟨T3, c1, c2⟩ := x_cell (N := N) h2.1 h2.2.1 h2.2.2.1 (by omega) ic (show 2 < 4 by decide)
    have c1' : f_X6_cell N T2 x (nI i) 2 = some (parB (aN A) i, T3) := c1
    obtain ⟨h3, z3, p3⟩ := h2.look c2 z2
    have hp3 : PRs T3 pa (aN A) i r v6 := hp.cong h3.2.2.2.1 (p3.trans (p2.trans p1))
    have hzk := z1.1.1.1
    have hzn := z1.1.1.2.1
    rw [f_L_agree_l148, f_L_agree_b148, gd_pos hz.1.1.1, gd_pos (zq hz.1.1.2.1 (i := (0 : Int32)) (k := 0) rfl (by decide)), tn0, hz.1.2.1.1, if_neg (fun w => absurd ((nI_le_iff (by omega) (by omega)).mp w) (by omega)), gd_pos h.ok6, a1', cl_s, gd_pos hzk, gd_pos (zq hzn (i := (3 : Int32)) (k := 3) rfl (by decide)), gd_pos (zq hzn (i := (4 : Int32)) (k := 4) rfl (by decide)), tn3, tn4, z1.1.2.1.2.2.1, z1.1.2.1.2.2.2.1, bow_bits hwf (by omega), if_pos rfl, gd_pos h1.ok6, b1', cl_s, e2, cl_s, if_pos (show nI (bdg (aN A) i) = nI (dgP (bM (aN A)) (bn (aN A)) (bc (aN A)) (bk (aN A)) (bb (aN A)) i) from rfl), gd_pos h2.ok6, c1', cl_s]
    rcases hp3 with ⟨q1, q2, q3⟩ | ⟨w, q1, q2, q3, q4, q5⟩
    · have pn : parB (aN A) i = -1 := by unfold parB; rw [q1]
      rw [q2, if_pos rfl]
      unfold f_L_agree_b222
      rw [if_pos pn, if_pos rfl, nI_p1]
      rw [q2] at hp
      exact ih k (i + 1) T3 0 v6 (by omega) (by omega) h3 z3 (Or.inl ⟨q1, rfl, q3⟩)
    · have pe : parB (aN A) i = parOf w.1 w.2 i := by unfold parB; rw [q1]
      have pI := q3.2 i (by omega)
      rw [q2, if_neg (show ¬ (1 : Int32) = 0 by decide), gd_pos h3.2.2.2.1.1, gd_pos (pq h3.2.2.2.1.2 (show i < 5 by omega)), nI_clamp (show i < 2 ^ 31 by omega), pI]
      unfold f_L_agree_b222
      rw [if_pos pe, if_neg (show ¬ (1 : Int32) = 0 by decide), gd_pos h3.2.2.2.1.1, gd_pos (pq h3.2.2.2.1.2 (show i < 5 by omega)), nI_clamp (show i < 2 ^ 31 by omega), pI]
      have pl := par_low q4 (show i < 10 by omega)
      by_cases g : lowQ w.1 w.2 i = true
      · rw [if_neg (fun u => by rw [pl.mp u] at g; cases g), q5, nI_p1, nI_p1]
        exact ih k (i + 1) T3 1 _ (by omega) (by omega) h3 z3 (Or.inr ⟨w, q1, rfl, q3, q4, by rw [fb_ct_succ, if_pos g]⟩)
      · rw [if_pos (pl.mpr (by simpa using g)), nI_p1]
        exact ih k (i + 1) T3 1 _ (by omega) (by omega) h3 z3 (Or.inr ⟨w, q1, rfl, q3, q4, by rw [fb_ct_succ, if_neg g, Nat.add_zero]; exact q5⟩)
/-- the last looks -/
theorem agree_4 (hN : 12 < N) {k : Nat} {r v : Int32} (h : KA S x zz li pa d q A nb) (hz : LZ S zz li (aN A) (aH A)) (hp : PRs S pa (aN A) (bc (aN A)) r v) : ∃ T, KA T x zz li pa d q A nb ∧ LZ T zz li (aN A) (aH A) ∧ f_L_agree_l260 N x zz li pa (k + 1) S (nI (bws (aN A))) r v (nI (bwin (aN A))) (nI 3) = some (1, T) := by
  have hwf := h.2.2.1.1
  have wle := bwin_le (aN A)
  have np := hp.fin hwf
  have ct := fun {S : Hp} (h : KA S x zz li pa d q A nb) w (hw : w < 16) => x_count (N := N) h.1 h.2.1 h.2.2.1 hN w hw
  obtain ⟨T3, a1, a2⟩ := ct h 3 (by decide)
  obtain ⟨h3, z3, -⟩ := h.look a2 hz
  obtain ⟨T4, b1, b2⟩ := ct h3 4 (by decide)
  obtain ⟨h4, z4, -⟩ := h3.look b2 z3
  obtain ⟨T5, c1, c2⟩ := ct h4 5 (by decide)
  obtain ⟨h5, z5, -⟩ := h4.look c2 z4
  obtain ⟨T6, d1, d2⟩ := ct h5 6 (by decide)
  obtain ⟨h6, z6, -⟩ := h5.look d2 z5
  obtain ⟨T7, e1, e2⟩ := ct h6 7 (by decide)
  obtain ⟨h7, z7, -⟩ := h6.look e2 z6
  obtain ⟨T8, f1, f2⟩ := ct h7 8 (by decide)
  obtain ⟨h8, z8, -⟩ := h7.look f2 z7
  obtain ⟨T9, g1, g2⟩ := ct h8 9 (by decide)
  obtain ⟨h9, z9, -⟩ := h8.look g2 z8
  obtain ⟨U0, i1, i2⟩ := ct h9 10 (by decide)
  obtain ⟨k0, y0, -⟩ := h9.look i2 z9
  obtain ⟨U1, j1, j2⟩ := ct k0 11 (by decide)
  obtain ⟨k1, y1, -⟩ := k0.look j2 y0
  obtain ⟨U2, l1, l2⟩ := ct k1 12 (by decide)
  obtain ⟨k2, y2, -⟩ := k1.look l2 y1
  obtain ⟨U3, m1, m2⟩ := ct k2 13 (by decide)
  obtain ⟨k3, y3, -⟩ := k2.look m2 y2
  obtain ⟨U5, n1, n2⟩ := ct k3 15 (by decide)
  obtain ⟨k5, y5, -⟩ := k3.look n2 y3
  have a1' : f_X6_count N S x 3 = some (nI (bws (aN A)), T3) := a1
  have b1' : f_X6_count N T3 x 4 = some ((if bwin (aN A) = 0 then nI (bv (aN A)) else 0), T4) := b1
  have c1' : f_X6_count N T4 x 5 = some (nI (bwin (aN A)), T5) := c1
  have d1' : f_X6_count N T5 x 6 = some (nI (bth (aN A)), T6) := d1
  have e1' : f_X6_count N T6 x 7 = some ((if bwin (aN A) = 0 then lowI (bth (aN A)) else -1), T7) := e1
  have f1' : f_X6_count N T7 x 8 = some (npB (aN A), T8) := f1
  have g1' : f_X6_count N T8 x 9 = some (nI (bfre (aN A)), T9) := g1
  have i1' : f_X6_count N T9 x 10 = some (bo (aN A), U0) := i1
  have j1' : f_X6_count N U0 x 11 = some (bx (aN A), U1) := j1
  have l1' : f_X6_count N U1 x 12 = some (by_ (aN A), U2) := l1
  have m1' : f_X6_count N U2 x 13 = some (bl (aN A), U3) := m1
  have n1' : f_X6_count N U3 x 15 = some (nI (aH A), U5) := n1
  have t6 : f_L_threats N T6 zz li = some (nI (bth (aN A)), T6) := l_threats (N := N) z6.1 hN
  have t7 : f_L_threats N T7 zz li = some (nI (bth (aN A)), T7) := l_threats (N := N) z7.1 hN
  have lo7 := l_low (N := N) (S := T7) (by omega) (bth_lt hwf)
  have fr9 : f_L_free N T9 zz = some (nI (bfre (aN A)), T9) := l_free (N := N) z9.1
  have b387 : f_L_agree_b387 N x zz li pa T8 (npB (aN A)) (npB (aN A)) = some (1, U5) := by
    unfold f_L_agree_b387
    rw [if_pos rfl, gd_pos h8.ok6, g1', cl_s, fr9, cl_s, if_pos rfl, gd_pos h9.ok6, i1', cl_s, gd_pos y0.1.1.1, gd_pos (zq y0.1.1.2.1 (i := (7 : Int32)) (k := 7) rfl (by decide)), tn7, y0.2.2.2.2.1, if_pos rfl, gd_pos k0.ok6, j1', cl_s, gd_pos y1.1.1.1, gd_pos (zq y1.1.1.2.1 (i := (8 : Int32)) (k := 8) rfl (by decide)), tn8, y1.2.2.2.2.2.1, if_pos rfl, gd_pos k1.ok6, l1', cl_s, gd_pos y2.1.1.1, gd_pos (zq y2.1.1.2.1 (i := (9 : Int32)) (k := 9) rfl (by decide)), tn9, y2.2.2.2.2.2.2.1, if_pos rfl, gd_pos k2.ok6, m1', cl_s, gd_pos y3.1.1.1, gd_pos (zq y3.1.1.2.1 (i := (5 : Int32)) (k := 5) rfl (by decide)), tn5, y3.2.2.1, if_pos rfl, gd_pos k3.ok6, n1', cl_s, gd_pos y5.1.1.1, gd_pos (zq y5.1.1.2.1 (i := (10 : Int32)) (k := 10) rfl (by decide)), tn10, y5.2.2.2.2.2.2.2, if_pos rfl]
  have b367 : ∀ o : Int32, f_L_agree_b367 N x zz li pa T7 r v o o = some (1, U5) := by
    intro o
    unfold f_L_agree_b367
    rw [if_pos rfl, gd_pos h7.ok6, f1', cl_s]
    rcases np with ⟨r0, e⟩ | ⟨r1, e⟩
    · rw [r0, if_pos rfl]
      rw [e] at b387 ⊢
      exact b387
    · rw [r1, if_neg (by decide), ← e]
      exact b387
  have b317 : ∀ o : Int32, f_L_agree_b317 N x zz li pa T4 r v (nI (bwin (aN A))) o o = some (1, U5) := by
    intro o
    unfold f_L_agree_b317
    rw [if_pos rfl, gd_pos h4.ok6, c1', cl_s, if_pos rfl, gd_pos h5.ok6, d1', cl_s, t6, cl_s, if_pos rfl, gd_pos h6.ok6, e1', cl_s]
    by_cases w : bwin (aN A) = 0
    · rw [if_pos ((nI_eq0 (by omega)).mpr w), t7, cl_s, lo7, cl_s, if_pos w]
      exact b367 _
    · rw [if_neg (fun u => w ((nI_eq0 (by omega)).mp u)), if_neg w]
      exact b367 _
  refine ⟨U5, k5, y5, ?_⟩
  rw [f_L_agree_l260, f_L_agree_b260, if_pos (show (3 : Int32) ≤ nI 3 by decide), gd_pos h.ok6, a1', cl_s, if_pos rfl, gd_pos h3.ok6, b1', cl_s]
  by_cases w : bwin (aN A) = 0
  · rw [if_pos ((nI_eq0 (by omega)).mpr w), if_pos w, gd_pos z4.1.1.1, gd_pos (zq z4.1.1.2.1 (i := (1 : Int32)) (k := 1) rfl (by decide)), tn1, z4.2.1]
    exact b317 _
  · rw [if_neg (fun u => w ((nI_eq0 (by omega)).mp u)), if_neg w]
    exact b317 _
theorem agree_3 (hN : 12 < N) : ∀ D k r S nb v p, r + D = 3 → D < k → nb + D < 2 ^ 27 → KA S x zz li pa d q A nb → LZ S zz li (aN A) (aH A) → PRs S pa (aN A) (bc (aN A)) p v → ∃ T, KA T x zz li pa d q A (nb + D) ∧ LZ T zz li (aN A) (aH A) ∧ f_L_agree_l260 N x zz li pa k S (nI (bws (aN A))) p v (nI (bwin (aN A))) (nI r) = some (1, T) := by
  intro D
  induction D with
  | zero =>
    intro k r S nb v p hr hk' hb h hz hp
    obtain ⟨k, rfl⟩ : ∃ q, k = q + 1 := ⟨k - 1, by omega⟩
    obtain rfl : r = 3 := by omega
    exact agree_4 hN h hz hp
  | succ D ih =>
    intro k r S nb v p hr hk' hb h hz hp
    obtain ⟨k, rfl⟩ : ∃ q, k = q + 1 := ⟨k - 1, by omega⟩
    obtain ⟨T, e1, e2⟩ := x_reply (N := N) h.1 h.2.1 h.2.2.1 hN (by omega) (show r < 4 by omega)
    obtain ⟨h', z', p'⟩ := h.look e2 hz
    have e3 := l_reply (N := N) z' h.2.2.1.1 hN (show r < 3 by omega)
    obtain ⟨T', i1, i2, i3⟩ := ih k (r + 1) T (nb + 1) v p (by omega) (by omega) (by omega) h' z' (hp.cong h'.2.2.2.1 p')
    refine ⟨T', by rw [show nb + (D + 1) = nb + 1 + D by omega]; exact i1, i2, ?_⟩
    rw [f_L_agree_l260, f_L_agree_b260, if_neg (nle_c 3 (n := 3) rfl (show r < 3 by omega) (by decide)), gd_pos h.ok6, e1, cl_s, e3, cl_s, if_pos rfl, nI_p1]
    exact i3
theorem agree_ok (hN : 2000 < N) (hb : nb + 3 < 2 ^ 27) (h : KA S x zz li pa d q A nb) (hz : LZ S zz li (aN A) (aH A)) : ∃ T, KA T x zz li pa d q A (nb + 3) ∧ LZ T zz li (aN A) (aH A) ∧ f_L_agree N S x zz li pa = some (1, T) := by
  have e1 := agree_1 (N := N) h hz (by omega) (bn (aN A)) N 0 (by omega) (by have := hz.1.2.2.2.1; omega)
  obtain ⟨r, S1, p1, p2, p3⟩ := l_pairing (N := N) h.2.2.1.1 hN hz.1 h.2.2.2.1 ⟨h.2.2.2.2.1.1, h.2.2.2.2.1.2.1⟩
  have h1 := h.fr p2 (fun a ha => Or.inr (Or.inr (List.mem_singleton.mp ha)))
  have z1 := hz.fr p2 (fun w => h.2.2.2.2.1.1 (List.mem_singleton.mp w).symm) (fun w => h.2.2.2.2.1.2.1 (List.mem_singleton.mp w).symm)
  have pr : PRs S1 pa (aN A) 0 r 0 := by
    rcases p3 with ⟨a, b⟩ | ⟨w, a, b, c, e⟩
    · exact Or.inl ⟨a, b, rfl⟩
    · exact Or.inr ⟨w, a, b, c, e, rfl⟩
  obtain ⟨T, v, t1, t2, t3, t4⟩ := agree_2 (v4 := nI (bws (aN A))) hN (bc (aN A)) N 0 S1 r 0 (by omega) (by have := hz.1.2.2.1; omega) h1 z1 pr
  obtain ⟨U, u1, u2, u3⟩ := agree_3 (N := N) (by omega) 3 N 0 T nb v r rfl (by omega) hb t1 t2 t3
  refine ⟨U, u1, u2, ?_⟩
  unfold f_L_agree
  refine Eq.trans (show f_L_agree_l6 N x zz li pa N S 0 0 = _ from e1) ?_
  rw [p1, cl_s]
  refine Eq.trans (show f_L_agree_l148 N x zz li pa N S1 (nI (bws (aN A))) r 0 0 = _ from t4) ?_
  exact u3
end
