/-- the model's tables are right from the place y on -/
def Tab (S : Hp) (wi le c n : Nat) (M : Nat → Nat) (y : Nat) : Prop := ∀ x v, y ≤ x → x < 3 ^ c → (v = 1 ∨ v = 2) → hI S wi (x + 59049 * (v - 1)) = nI (VV c n M (mkC c x) (brC c x) v).1 ∧ hI S le (x + 59049 * (v - 1)) = nI (VV c n M (mkC c x) (brC c x) v).2
theorem pow3_le {c : Nat} (h : c ≤ 10) : 3 ^ c ≤ 59049 := Nat.pow_le_pow_right (n := 3) (by decide) h
/-- the model's solver: its board, the masks it was solved for, its tables -/
def MS (S : Hp) (m z sm wi le c n mk br : Nat) (M : Nat → Nat) : Prop := Mz S m z c n mk br M ∧ (hR S m 13 = some sm ∧ ok S sm 8 ∧ hN S sm = 12) ∧ (hR S m 14 = some wi ∧ ok S wi 8 ∧ hN S wi = 118098) ∧ (hR S m 15 = some le ∧ ok S le 8 ∧ hN S le = 118098) ∧ (z ≠ sm ∧ z ≠ wi ∧ z ≠ le ∧ sm ≠ wi ∧ sm ≠ le ∧ wi ≠ le)
theorem MS.fr {E : List Nat} {S T : Hp} {m z sm wi le c n mk br : Nat} {M : Nat → Nat} (h : MS S m z sm wi le c n mk br M) (f : Fr E S T) (hz : z ∉ E) : MS T m z sm wi le c n mk br M := by
  obtain ⟨h1, ⟨a1, a2, a3⟩, ⟨b1, b2, b3⟩, ⟨c1, c2, c3⟩, d⟩ := h
  exact ⟨h1.fr f hz, ⟨by rw [f.R]; exact a1, f.ok a2, by rw [f.N]; exact a3⟩, ⟨by rw [f.R]; exact b1, f.ok b2, by rw [f.N]; exact b3⟩, ⟨by rw [f.R]; exact c1, f.ok c2, by rw [f.N]; exact c3⟩, d⟩
theorem shN_22 {g : Nat → Bool} {l : Nat → Nat} : ∀ n, shN g l n ≤ 22
  | 0 => Nat.le_refl 22
  | n + 1 => by
    have ih := shN_22 (g := g) (l := l) n
    unfold shN
    split
    · rename_i q; omega
    · exact ih
section
variable {N : Nat} {S : Hp} {m z sm wi le c n mk br : Nat} {M : Nat → Nat}
/-- what is written for a place -/
def Wr (S T : Hp) (wi le p w l : Nat) : Prop := Fr [wi, le] S T ∧ hI T wi p = nI w ∧ hI T le p = nI l ∧ ∀ k, k ≠ p → hI T wi k = hI S wi k ∧ hI T le k = hI S le k
theorem m_solveAt_l (h0 : MS S m z sm wi le c n mk br M) (hN0 : 12 < N) (hl : Lns c n M) {x v : Nat} (hv : v = 1 ∨ v = 2) (hx : x < 3 ^ c) (ht : Tab S wi le c n M (x + 1)) {W : Nat → Nat × Nat} (hW : ∀ i, W i = VV c n M (chK v (mkC c x) i) (chB v (brC c x) i) (3 - v)) :
    ∀ d k i, i + d = c → d < k → ∃ T, f_X7_solveAt_l19 N m (nI x) (nI v) (nI (fre c (mkC c x) (brC c x))) k S (nI (shN (canV (fre c (mkC c x) (brC c x)) W) (fun i => (W i).2) i)) (nI (loN (canV (fre c (mkC c x) (brC c x)) W) (fun i => (W i).2) i)) (if anyN (canV (fre c (mkC c x) (brC c x)) W) i = true then 1 else 0) (if anyN (brkV (fre c (mkC c x) (brC c x)) W) i = true then 1 else 0) (nI (v * 3 ^ i)) (nI i) = some ((), T) ∧ Wr S T wi le (x + 59049 * (v - 1)) (stepV c (fre c (mkC c x) (brC c x)) v W).1 (stepV c (fre c (mkC c x) (brC c x)) v W).2 := by
  obtain ⟨⟨⟨hm, hz, hk, hn⟩, ⟨z0, h2, h3, h4, hM⟩, hc, hn12, hmk, hbr, hM1⟩, ⟨s1, s2, s3⟩, ⟨w1, w2, w3⟩, ⟨l1, l2, l3⟩, d1, d2, d3, d4, d5, d6⟩ := h0
  have p10 := pow3_le hc
  have hF : fre c (mkC c x) (brC c x) < 1024 := fre_lt hc
  have pF := pop_le (fre c (mkC c x) (brC c x))
  -- what the tables tell of a free cell's move
  have rd : ∀ i, (fre c (mkC c x) (brC c x)).testBit i = true → x + v * 3 ^ i + 59049 * (2 - v) < 118098 ∧ hI S wi (x + v * 3 ^ i + 59049 * (2 - v)) = nI (W i).1 ∧ hI S le (x + v * 3 ^ i + 59049 * (2 - v)) = nI (W i).2 := by
    intro i hi
    have q := (dgt_free hc).mp hi
    have lt := add_lt3 (v := v) (by omega) hx q.1 q.2
    have e := mkC_add hv q.1 q.2
    have p0 : 0 < 3 ^ i := Nat.pow_pos (by decide)
    have vp : 1 * 3 ^ i ≤ v * 3 ^ i := Nat.mul_le_mul_right _ (by omega)
    have t := ht (x + v * 3 ^ i) (3 - v) (by omega) lt (by omega)
    rw [e.1, e.2, ← hW, show 3 - v - 1 = 2 - v by omega] at t
    exact ⟨by omega, t⟩
  have W12 : ∀ i, (W i).1 = 1 ∨ (W i).1 = 2 := fun i => by rw [hW]; exact VV_12 hc
  have Wl : ∀ i, (W i).1 = 1 → (W i).2 ≤ 10 := fun i h => by
    rw [hW] at h ⊢
    have q := VV_len hl _ _ _ _ (Nat.le_refl _) h
    have p := pop_le (fre c (chK v (mkC c x) i) (chB v (brC c x) i))
    omega
  intro d
  induction d with
  | zero =>
    intro k i hi hk'
    obtain ⟨k, rfl⟩ : ∃ q, k = q + 1 := ⟨k - 1, by omega⟩
    obtain rfl : i = c := by omega
    have pl : x + 59049 * (v - 1) < 118098 := by omega
    have pe : nI x + (59049 : Int32) * (nI v - (1 : Int32)) = nI (x + 59049 * (v - 1)) := by
      rw [show (59049 : Int32) = nI 59049 from rfl, show (1 : Int32) = nI 1 from rfl, nI_minus (by omega), nI_mul, nI_plus]
    have sh := shN_22 (g := canV (fre i (mkC i x) (brC i x)) W) (l := fun i => (W i).2) i
    have lo : loN (canV (fre i (mkC i x) (brC i x)) W) (fun i => (W i).2) i ≤ 10 := loN_le (fun k _ q => Wl k (canV_iff.mp q).2)
    have wr : ∀ (w : Int32) (wn l : Nat) (r : Int32), w = nI wn → r = nI l → Wr S (sI (sI S wi (x + 59049 * (v - 1)) w) le (x + 59049 * (v - 1)) r) wi le (x + 59049 * (v - 1)) wn l := by
      intro w wn l r ew er
      refine ⟨(Fr.rf.sI (by simp)).sI (by simp), by rw [hI_a d6, hI_same, ew], by rw [hI_same, er], fun k hk => ⟨by rw [hI_a d6, hI_k hk], by rw [hI_k hk, hI_a d6.symm]⟩⟩
    have ev : nI v = (1 : Int32) ↔ v = 1 := nI_eq1 (by omega)
    simp only [f_X7_solveAt_l19, f_X7_solveAt_b19, gd_pos hm, hz, nn_s, gd_pos hk, gd_pos (zin hn (i := (0 : Int32)) (k := 0) rfl (by decide)), tn0, z0]
    rw [if_pos (Int32.le_refl _), bd_d, pe, w1, nn_s]
    have iw := inN w3 pl (by decide)
    have il := inN l3 pl (by decide)
    have cp : (nI (x + 59049 * (v - 1))).toNatClampNeg = x + 59049 * (v - 1) := nI_clamp (by omega)
    have b200 : ∀ a b, ∃ T, f_X7_solveAt_b200 N m (nI x) (nI v) (nI (fre i (mkC i x) (brC i x))) S a b (nI (x + 59049 * (v - 1))) (nI (x + 59049 * (v - 1))) wi = some ((), T) ∧ Wr S T wi le (x + 59049 * (v - 1)) 2 (pop (fre i (mkC i x) (brC i x))) := by
      intro a b
      unfold f_X7_solveAt_b200 f_X7_solveAt_b201 f_X7_solveAt_b240
      rw [gd_pos w2, gd_pos iw, cp, gd_pos (ok_sI hm), hR_sI, l1, nn_s, w1, nn_s, gd_pos (ok_sI w2), hN_sI, gd_pos iw, hI_same, if_pos rfl, m_ones (by omega) hF, cl_s, gd_pos (ok_sI l2), hN_sI, gd_pos il]
      exact ⟨_, rfl, wr 2 2 _ _ rfl rfl⟩
    have b196 : ∀ a b l, (if v = 1 then a else b) = nI l → ∃ T, f_X7_solveAt_b196 N m (nI x) (nI v) (nI (fre i (mkC i x) (brC i x))) S a b (nI (x + 59049 * (v - 1))) (nI (x + 59049 * (v - 1))) wi = some ((), T) ∧ Wr S T wi le (x + 59049 * (v - 1)) 1 (1 + l) := by
      intro a b l e
      unfold f_X7_solveAt_b196 f_X7_solveAt_b201 f_X7_solveAt_b239 f_X7_solveAt_b240
      rw [gd_pos w2, gd_pos iw, cp, gd_pos (ok_sI hm), hR_sI, l1, nn_s, w1, nn_s, gd_pos (ok_sI w2), hN_sI, gd_pos iw, hI_same, if_neg (by decide)]
      rcases hv with q | q
      · rw [if_pos (ev.mpr q), gd_pos (ok_sI l2), gd_pos il]
        rw [if_pos q] at e
        rw [e, show (1 : Int32) + nI l = nI (1 + l) from nI_plus 1 l]
        exact ⟨_, rfl, wr 1 1 _ _ rfl rfl⟩
      · rw [if_neg (fun w => by rw [ev.mp w] at q; cases q), gd_pos (ok_sI l2), gd_pos il]
        rw [if_neg (by rw [q]; decide)] at e
        rw [e, show (1 : Int32) + nI l = nI (1 + l) from nI_plus 1 l]
        exact ⟨_, rfl, wr 1 1 _ _ rfl rfl⟩
    unfold stepV
    rcases hv with q | q
    · rw [if_pos (ev.mpr q), if_pos q, if_pos q]
      cases a : anyN (canV (fre i (mkC i x) (brC i x)) W) i
      · rw [if_pos (i01.mpr (by decide)), if_neg (by decide)]
        exact b200 _ _
      · rw [if_neg (by decide), if_pos rfl]
        exact b196 _ _ _ (by rw [if_pos q])
    · have nq : ¬ v = 1 := by rw [q]; decide
      rw [if_neg (fun w => nq (ev.mp w)), if_neg nq, if_neg nq]
      cases a : anyN (brkV (fre i (mkC i x) (brC i x)) W) i
      · rw [if_pos (i01.mpr (by decide)), if_pos (show (!false) = true from rfl)]
        exact b196 _ _ _ (by rw [if_neg nq])
      · rw [if_neg (by decide), if_neg (by decide)]
        exact b200 _ _
  | succ d ih =>
    intro k i hi hk'
    obtain ⟨k, rfl⟩ : ∃ q, k = q + 1 := ⟨k - 1, by omega⟩
    have ih' := ih k (i + 1) (by omega) (by omega)
    rw [anyN, anyN, shN, loN] at ih'
    have p3i : 3 ^ i ≤ 3 ^ 10 := Nat.pow_le_pow_right (by decide) (by omega)
    have st : nI (v * 3 ^ i) * (3 : Int32) = nI (v * 3 ^ (i + 1)) := by
      rw [show (3 : Int32) = nI 3 from rfl, nI_mul, Nat.mul_assoc, ← Nat.pow_succ]
    have te : (nI x + nI (v * 3 ^ i)) + (59049 : Int32) * ((2 : Int32) - nI v) = nI (x + v * 3 ^ i + 59049 * (2 - v)) := by
      rw [nI_plus, show (59049 : Int32) = nI 59049 from rfl, show (2 : Int32) = nI 2 from rfl, nI_minus (by omega), nI_mul, nI_plus]
    simp only [f_X7_solveAt_l19, f_X7_solveAt_b19, gd_pos hm, hz, nn_s, gd_pos hk, gd_pos (zin hn (i := (0 : Int32)) (k := 0) rfl (by decide)), tn0, z0]
    rw [if_neg (nle_i (by omega) (by omega)), bd_d, te, m_has (by omega) (by omega), cl_s]
    -- the second half of a turn: whether the breaker can
    have half : ∀ (a b cm : Int32), (∃ T, f_X7_solveAt_l19 N m (nI x) (nI v) (nI (fre c (mkC c x) (brC c x))) k S a b cm (if (anyN (brkV (fre c (mkC c x) (brC c x)) W) i || brkV (fre c (mkC c x) (brC c x)) W i) = true then 1 else 0) (nI (v * 3 ^ (i + 1))) (nI (i + 1)) = some ((), T) ∧ Wr S T wi le (x + 59049 * (v - 1)) (stepV c (fre c (mkC c x) (brC c x)) v W).1 (stepV c (fre c (mkC c x) (brC c x)) v W).2) → ∃ T, f_X7_solveAt_b118 N m (nI x) (nI v) (nI (fre c (mkC c x) (brC c x))) (f_X7_solveAt_l19 N m (nI x) (nI v) (nI (fre c (mkC c x) (brC c x))) k) S a b cm (if anyN (brkV (fre c (mkC c x) (brC c x)) W) i = true then 1 else 0) (nI (v * 3 ^ i)) (nI i) (nI (x + v * 3 ^ i + 59049 * (2 - v))) = some ((), T) ∧ Wr S T wi le (x + 59049 * (v - 1)) (stepV c (fre c (mkC c x) (brC c x)) v W).1 (stepV c (fre c (mkC c x) (brC c x)) v W).2 := by
      intro a b cm hh
      unfold f_X7_solveAt_b118 f_X7_solveAt_b143 f_X7_solveAt_b147
      rw [st, nI_p1]
      cases q : anyN (brkV (fre c (mkC c x) (brC c x)) W) i
      · rw [q] at hh
        rw [if_pos (i01.mpr (by decide)), m_has (by omega) (by omega), cl_s]
        cases t : (fre c (mkC c x) (brC c x)).testBit i
        · have bn : brkV (fre c (mkC c x) (brC c x)) W i = false := by unfold brkV; rw [t]; rfl
          rw [bn] at hh
          rw [if_pos (i01.mpr (by decide))]
          exact hh
        · have r := rd i t
          rw [if_neg (by decide), gd_pos hm, w1, nn_s, gd_pos w2, gd_pos (inN w3 r.1 (by decide)), nI_clamp (by omega), r.2.1]
          by_cases g : (W i).1 = 2
          · have bn : brkV (fre c (mkC c x) (brC c x)) W i = true := brkV_iff.mpr ⟨t, g⟩
            rw [bn] at hh
            rw [if_pos (by rw [g]; rfl)]
            exact hh
          · have bn : brkV (fre c (mkC c x) (brC c x)) W i = false := by
              cases y : brkV (fre c (mkC c x) (brC c x)) W i
              · rfl
              · exact absurd (brkV_iff.mp y).2 g
            rw [bn] at hh
            have := W12 i
            rw [if_neg (fun w => g ((nI_eq2 (by omega)).mp w))]
            exact hh
      · rw [q] at hh
        rw [if_neg (by decide)]
        exact hh
    cases t : (fre c (mkC c x) (brC c x)).testBit i
    · have cn : canV (fre c (mkC c x) (brC c x)) W i = false := by unfold canV; rw [t]; rfl
      rw [cn, Bool.or_false, if_neg (show ¬ (false = true ∧ _) from fun q => by cases q.1), if_neg (show ¬ (false = true ∧ _) from fun q => by cases q.1)] at ih'
      rw [if_pos (i01.mpr (by decide))]
      exact half _ _ _ ih'
    · have r := rd i t
      have sh := shN_22 (g := canV (fre c (mkC c x) (brC c x)) W) (l := fun i => (W i).2) i
      have lo : loN (canV (fre c (mkC c x) (brC c x)) W) (fun i => (W i).2) i ≤ 10 := loN_le (fun k _ q => Wl k (canV_iff.mp q).2)
      rw [if_neg (by decide), gd_pos hm, w1, nn_s, gd_pos w2, gd_pos (inN w3 r.1 (by decide)), nI_clamp (by omega), r.2.1]
      by_cases g : (W i).1 = 1
      · have cn : canV (fre c (mkC c x) (brC c x)) W i = true := canV_iff.mpr ⟨t, g⟩
        have wl := Wl i g
        rw [cn, Bool.or_true, if_pos rfl] at ih'
        rw [if_pos (by rw [g]; rfl), l1, nn_s, gd_pos l2, gd_pos (inN l3 r.1 (by decide)), r.2.2]
        have b90 : ∀ sv : Int32, sv = nI (if true = true ∧ (W i).2 < shN (canV (fre c (mkC c x) (brC c x)) W) (fun i => (W i).2) i then (W i).2 else shN (canV (fre c (mkC c x) (brC c x)) W) (fun i => (W i).2) i) → ∃ T, f_X7_solveAt_b90 N m (nI x) (nI v) (nI (fre c (mkC c x) (brC c x))) (f_X7_solveAt_l19 N m (nI x) (nI v) (nI (fre c (mkC c x) (brC c x))) k) S (nI (loN (canV (fre c (mkC c x) (brC c x)) W) (fun i => (W i).2) i)) 1 (if anyN (brkV (fre c (mkC c x) (brC c x)) W) i = true then 1 else 0) (nI (v * 3 ^ i)) (nI i) (nI (x + v * 3 ^ i + 59049 * (2 - v))) sv = some ((), T) ∧ Wr S T wi le (x + 59049 * (v - 1)) (stepV c (fre c (mkC c x) (brC c x)) v W).1 (stepV c (fre c (mkC c x) (brC c x)) v W).2 := by
          intro sv hsv
          unfold f_X7_solveAt_b90 f_X7_solveAt_b116
          rw [gd_pos hm, l1, nn_s, gd_pos l2, gd_pos (inN l3 r.1 (by decide)), nI_clamp (by omega), r.2.2, hsv]
          by_cases q : loN (canV (fre c (mkC c x) (brC c x)) W) (fun i => (W i).2) i < (W i).2
          · rw [if_neg (nle_i q (by omega))]
            rw [if_pos (show true = true ∧ _ from ⟨rfl, q⟩)] at ih'
            exact half _ _ _ ih'
          · rw [if_pos (nI_le (by omega) (by omega))]
            rw [if_neg (show ¬ (true = true ∧ _) from fun w => q w.2)] at ih'
            exact half _ _ _ ih'
        by_cases q : (W i).2 < shN (canV (fre c (mkC c x) (brC c x)) W) (fun i => (W i).2) i
        · rw [if_neg (nle_i q (by omega))]
          exact b90 _ (by rw [if_pos ⟨rfl, q⟩])
        · rw [if_pos (nI_le (by omega) (by omega))]
          exact b90 _ (by rw [if_neg (fun w => q w.2)])
      · have cn : canV (fre c (mkC c x) (brC c x)) W i = false := by
          cases y : canV (fre c (mkC c x) (brC c x)) W i
          · rfl
          · exact absurd (canV_iff.mp y).2 g
        rw [cn, Bool.or_false, if_neg (show ¬ (false = true ∧ _) from fun q => by cases q.1), if_neg (show ¬ (false = true ∧ _) from fun q => by cases q.1)] at ih'
        have := W12 i
        rw [if_neg (fun w => g ((nI_eq1 (by omega)).mp w))]
        exact half _ _ _ ih'
end
