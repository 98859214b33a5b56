/-- what the model's solver knows: of a board of its own, or of none yet -/
def TabS (S : Hp) (m sm wi le : Nat) : Prop := ∃ (c n : Nat) (M : Nat → Nat), hI S m 11 = nI c ∧ hI S m 12 = nI n ∧ c ≤ 10 ∧ n ≤ 12 ∧ (∀ j, j < n → hI S sm j = nI (M j) ∧ M j < 1024) ∧ (2 ≤ c → Tab S wi le c n M 0)
theorem Tab_congM {S : Hp} {wi le c n : Nat} {M M' : Nat → Nat} (h : ∀ j, j < n → M j = M' j) (t : Tab S wi le c n M 0) : Tab S wi le c n M' 0 := by
  intro x v h1 h2 h3
  have q := t x v h1 h2 h3
  unfold VV at q ⊢
  rw [← VF_congM h]
  exact q
section
variable {N : Nat} {S : Hp} {m z sm wi le c n mk br : Nat} {M : Nat → Nat}
theorem m_power_l (hc : c ≤ 10) : ∀ d k i, i + d = c → d < k → f_X7_power_l4 N (nI c) k S (nI (3 ^ i)) (nI i) = some (nI (3 ^ c), S) := by
  intro d
  induction d with
  | zero =>
    intro k i hi hk
    obtain ⟨k, rfl⟩ : ∃ q, k = q + 1 := ⟨k - 1, by omega⟩
    obtain rfl : i = c := by omega
    unfold f_X7_power_l4 f_X7_power_b4
    rw [if_pos (Int32.le_refl _)]
  | succ d ih =>
    intro k i hi hk
    obtain ⟨k, rfl⟩ : ∃ q, k = q + 1 := ⟨k - 1, by omega⟩
    unfold f_X7_power_l4 f_X7_power_b4
    rw [if_neg (nle_i (by omega) (by omega)), show (3 : Int32) = nI 3 from rfl, nI_mul, nI_p1, ← Nat.pow_succ]
    exact ih k (i + 1) (by omega) (by omega)
theorem m_power (hc : c ≤ 10) (hN0 : 12 < N) : f_X7_power N S (nI c) = some (nI (3 ^ c), S) := m_power_l hc c N 0 (by omega) (by omega)
theorem m_isSolved_0 (h0 : MS S m z sm wi le c n mk br M) : ∀ d k i, i + d = n → d < k → f_X7_isSolved_l34 N m k S 0 (nI i) = some (0, S) := by
  obtain ⟨⟨⟨hm, hz, hk, hn⟩, ⟨z0, h2, h3, h4, hM⟩, hc, hn12, -⟩, -⟩ := h0
  intro d
  induction d with
  | zero =>
    intro k i hi hk'
    obtain ⟨k, rfl⟩ : ∃ q, k = q + 1 := ⟨k - 1, by omega⟩
    obtain rfl : i = n := by omega
    simp only [f_X7_isSolved_l34, f_X7_isSolved_b34, gd_pos hm, hz, nn_s, gd_pos hk, gd_pos (zin hn (i := (2 : Int32)) (k := 2) rfl (by decide)), tn2, h2]
    rw [if_pos (Int32.le_refl _), gd_pos (show isB (0 : Int32) from Or.inl rfl)]
  | succ d ih =>
    intro k i hi hk'
    obtain ⟨k, rfl⟩ : ∃ q, k = q + 1 := ⟨k - 1, by omega⟩
    simp only [f_X7_isSolved_l34, f_X7_isSolved_b34, gd_pos hm, hz, nn_s, gd_pos hk, gd_pos (zin hn (i := (2 : Int32)) (k := 2) rfl (by decide)), tn2, h2]
    rw [if_neg (nle_i (by omega) (by omega)), if_pos True.intro, nI_p1]
    exact ih k (i + 1) (by omega) (by omega)
theorem m_isSolved_1 (h0 : MS S m z sm wi le c n mk br M) {M' : Nat → Nat} (hs : ∀ j, j < n → hI S sm j = nI (M' j) ∧ M' j < 1024) : ∀ d k i, i + d = n → d < k → f_X7_isSolved_l34 N m k S (if anyN (fun j => decide (M' j ≠ M j)) i = true then 0 else 1) (nI i) = some ((if anyN (fun j => decide (M' j ≠ M j)) n = true then (0 : Int32) else 1), S) := by
  have h00 := h0
  obtain ⟨⟨⟨hm, hz, hk, hn⟩, ⟨z0, h2, h3, h4, hM⟩, hc, hn12, hmk, hbr, hM1⟩, ⟨s1, s2, s3⟩, -⟩ := h0
  intro d
  induction d with
  | zero =>
    intro k i hi hk'
    obtain ⟨k, rfl⟩ : ∃ q, k = q + 1 := ⟨k - 1, by omega⟩
    obtain rfl : i = n := by omega
    simp only [f_X7_isSolved_l34, f_X7_isSolved_b34, gd_pos hm, hz, nn_s, gd_pos hk, gd_pos (zin hn (i := (2 : Int32)) (k := 2) rfl (by decide)), tn2, h2]
    rw [if_pos (Int32.le_refl _)]
    cases anyN (fun j => decide (M' j ≠ M j)) i
    · rw [gd_pos (show isB (if false = true then (0 : Int32) else 1) from Or.inr rfl)]
    · rw [gd_pos (show isB (if true = true then (0 : Int32) else 1) from Or.inl rfl)]
  | succ d ih =>
    intro k i hi hk'
    obtain ⟨k, rfl⟩ : ∃ q, k = q + 1 := ⟨k - 1, by omega⟩
    have ih' := ih k (i + 1) (by omega) (by omega)
    have q1 := (hs i (by omega)).2
    have q2 := hM1 i (by omega)
    rw [anyN] at ih'
    simp only [f_X7_isSolved_l34, f_X7_isSolved_b34, gd_pos hm, hz, nn_s, gd_pos hk, gd_pos (zin hn (i := (2 : Int32)) (k := 2) rfl (by decide)), tn2, h2]
    rw [if_neg (nle_i (by omega) (by omega)), nI_p1]
    cases a : anyN (fun j => decide (M' j ≠ M j)) i
    · rw [a] at ih'
      rw [if_neg (by decide), s1, nn_s, gd_pos s2, gd_pos (inN s3 (show i < 12 by omega) (by decide)), gd_pos (zin hn (i := (10 : Int32) + nI i) (k := 10 + i) (nI_10 i) (by omega)), ix10 (show i < 1000 by omega), hM i (by omega), nI_clamp (by omega), (hs i (by omega)).1]
      by_cases g : M' i = M i
      · rw [if_pos (by rw [g])]
        simpa [g] using ih'
      · rw [if_neg (fun w => g ((nI_eq_iff (by omega) (by omega)).mp w))]
        simpa [g] using ih'
    · rw [a] at ih'
      rw [if_pos (show (if true = true then (0 : Int32) else 1) = 0 from rfl)]
      exact ih'
/-- the masks are noted, then all is solved -/
theorem m_solve_l30 (hN0 : 12 < N) (hN9 : 59050 < N) (hl : Lns c n M) : ∀ d k i S, i + d = n → d < k → MS S m z sm wi le c n mk br M → (∀ j, j < i → hI S sm j = nI (M j)) → ∃ T, f_X7_solveAll_l30 N m k S (nI i) = some ((), T) ∧ Fr [sm, wi, le] S T ∧ Tab T wi le c n M 0 ∧ ∀ j, j < n → hI T sm j = nI (M j) := by
  intro d
  induction d with
  | zero =>
    intro k i S hi hk' h0 hs
    obtain ⟨k, rfl⟩ : ∃ q, k = q + 1 := ⟨k - 1, by omega⟩
    obtain rfl : i = n := by omega
    have hc := hl.1
    have p10 := pow3_le hc
    have p0 : 0 < 3 ^ c := Nat.pow_pos (by decide)
    obtain ⟨T, t1, t2, t3⟩ := m_codes (N := N) hN0 hl (3 ^ c) N S (Nat.le_refl _) (by omega) h0 (fun x v h1 h2 => absurd h2 (by omega))
    have dd := h0.2.2.2.2
    obtain ⟨⟨⟨hm, hz, hk, hn⟩, ⟨z0, h2, h3, h4, hM⟩, -⟩, -⟩ := h0
    refine ⟨T, ?_, t2.mono (by simp), t3, fun j hj => by rw [t2.I (by simp [dd.2.2.2.1, dd.2.2.2.2.1])]; exact hs j hj⟩
    simp only [f_X7_solveAll_l30, f_X7_solveAll_b30, gd_pos hm, hz, nn_s, gd_pos hk, gd_pos (zin hn (i := (2 : Int32)) (k := 2) rfl (by decide)), tn2, h2]
    rw [if_pos (Int32.le_refl _), gd_pos (zin hn (i := (0 : Int32)) (k := 0) rfl (by decide)), tn0, z0, m_power hc hN0, cl_s, t1]
  | succ d ih =>
    intro k i S hi hk' h0 hs
    obtain ⟨k, rfl⟩ : ∃ q, k = q + 1 := ⟨k - 1, by omega⟩
    have dd := h0.2.2.2.2
    have f : Fr [sm, wi, le] S (sI S sm i (nI (M i))) := Fr.rf.sI (by simp)
    have hc1 := h0.fr f (by simp [dd.1, dd.2.1, dd.2.2.1])
    obtain ⟨T, t1, t2, t3⟩ := ih k (i + 1) _ (by omega) (by omega) hc1 (fun j hj => by
      by_cases e : j = i
      · rw [e, hI_same]
      · rw [hI_k e]; exact hs j (by omega))
    refine ⟨T, ?_, f.tr t2, t3⟩
    have n12 := h0.1.2.2.2.1
    obtain ⟨⟨⟨hm, hz, hk, hn⟩, ⟨z0, h2, h3, h4, hM⟩, -⟩, ⟨s1, s2, s3⟩, -⟩ := h0
    simp only [f_X7_solveAll_l30, f_X7_solveAll_b30, gd_pos hm, hz, nn_s, gd_pos hk, gd_pos (zin hn (i := (2 : Int32)) (k := 2) rfl (by decide)), tn2, h2]
    rw [if_neg (nle_i (by omega) (by omega)), s1, nn_s, gd_pos (zin hn (i := (10 : Int32) + nI i) (k := 10 + i) (nI_10 i) (by omega)), gd_pos s2, gd_pos (inN s3 (show i < 12 by omega) (by decide)), bd_d, ix10 (show i < 1000 by omega), hM i (by omega), nI_clamp (by omega), nI_p1]
    exact t1
/-- the model's solver: its tables are right for the board -/
theorem m_solveAll (h0 : MS S m z sm wi le c n mk br M) (hmz : m ≠ z ∧ m ≠ sm ∧ m ≠ wi ∧ m ≠ le) (hN0 : 12 < N) (hN9 : 59050 < N) (hl : Lns c n M) (h2c : 2 ≤ c) (ht : TabS S m sm wi le) :
    ∃ T, f_X7_solveAll N S m = some ((), T) ∧ Fr [m, sm, wi, le] S T ∧ (∀ k, k ≠ 11 → k ≠ 12 → hI T m k = hI S m k) ∧ TabS T m sm wi le ∧ Tab T wi le c n M 0 := by
  have h00 := h0
  obtain ⟨c', n', M', e1, e2, e3, e4, e5, e6⟩ := ht
  obtain ⟨⟨⟨hm, hz, hk, hn⟩, ⟨z0, h2, h3, h4, hM⟩, hc, hn12, hmk, hbr, hM1⟩, ⟨s1, s2, s3⟩, ⟨w1, w2, w3⟩, ⟨l1, l2, l3⟩, d1, d2, d3, d4, d5, d6⟩ := h0
  -- solved anew
  have anew : ∃ T, (bd (sI S m 11 (nI c)) fun S17 => gd (inb (2 : Int32) (hN S17 z)) <| bd (sI S17 m 12 (hI S17 z (2 : Int32).toNatClampNeg)) fun S23 => f_X7_solveAll_l30 N m N S23 ((0 : Int32))) = some ((), T) ∧ Fr [m, sm, wi, le] S T ∧ (∀ k, k ≠ 11 → k ≠ 12 → hI T m k = hI S m k) ∧ TabS T m sm wi le ∧ Tab T wi le c n M 0 := by
    have f : Fr [m] S (sI (sI S m 11 (nI c)) m 12 (nI n)) := (Fr.rf.sI (by simp)).sI (by simp)
    obtain ⟨T, t1, t2, t3, t4⟩ := m_solve_l30 (N := N) hN0 hN9 hl n N 0 _ (by omega) (by omega) (h00.fr f (n1 hmz.1.symm)) (fun j hj => absurd hj (Nat.not_lt_zero j))
    rw [bd_d, hN_sI, gd_pos (zin hn (i := (2 : Int32)) (k := 2) rfl (by decide)), bd_d, tn2, hI_a hmz.1.symm, h2]
    have hmT : hI T m = hI (sI (sI S m 11 (nI c)) m 12 (nI n)) m := t2.I (by simp [hmz.2.1, hmz.2.2.1, hmz.2.2.2])
    refine ⟨T, t1, (f.mono (by simp)).tr (t2.mono (by simp)), fun k k1 k2 => ?_, ⟨c, n, M, ?_, ?_, hc, hn12, fun j hj => ⟨t4 j hj, hM1 j hj⟩, fun _ => t3⟩, t3⟩
    · rw [hmT, hI_k k2, hI_k k1]
    · rw [hmT, hI_k (by decide), hI_same]
    · rw [hmT, hI_same]
  have run : ∀ r : Int32, f_X7_isSolved N S m = some (r, S) → f_X7_solveAll N S m = if r = 0 then (bd (sI S m 11 (nI c)) fun S17 => gd (inb (2 : Int32) (hN S17 z)) <| bd (sI S17 m 12 (hI S17 z (2 : Int32).toNatClampNeg)) fun S23 => f_X7_solveAll_l30 N m N S23 ((0 : Int32))) else some ((), S) := by
    intro r hr
    unfold f_X7_solveAll
    rw [gd_pos hm, hr, cl_s]
    by_cases q : r = 0
    · rw [if_pos q, if_pos q, gd_pos hm, hz, nn_s, gd_pos hk, gd_pos (zin hn (i := (0 : Int32)) (k := 0) rfl (by decide)), tn0, z0]
    · rw [if_neg q, if_neg q]
  have zero := m_isSolved_0 (N := N) h00 n N 0 (by omega) (by omega)
  by_cases g1 : c' = c
  · by_cases g2 : n' = n
    · subst g1
      subst g2
      have q := m_isSolved_1 (N := N) h00 e5 n' N 0 (by omega) (by omega)
      have rs : f_X7_isSolved N S m = some ((if anyN (fun j => decide (M' j ≠ M j)) n' = true then (0 : Int32) else 1), S) := by
        simp only [f_X7_isSolved, gd_pos hm, hz, nn_s, gd_pos hk, gd_pos (zin hn (i := (0 : Int32)) (k := 0) rfl (by decide)), gd_pos (zin hn (i := (2 : Int32)) (k := 2) rfl (by decide)), tn0, tn2, z0, h2, e1, e2, if_true]
        exact q
      rw [run _ rs]
      cases a : anyN (fun j => decide (M' j ≠ M j)) n'
      · have eM : ∀ j, j < n' → M' j = M j := fun j hj => by simpa using anyN_not.mp a j hj
        rw [if_neg (by decide)]
        exact ⟨S, rfl, Fr.rf, fun _ _ _ => rfl, ⟨c', n', M', e1, e2, e3, e4, e5, e6⟩, Tab_congM eM (e6 h2c)⟩
      · rw [if_pos (show (if true = true then (0 : Int32) else 1) = 0 from rfl)]
        exact anew
    · have rs : f_X7_isSolved N S m = some (0, S) := by
        simp only [f_X7_isSolved, gd_pos hm, hz, nn_s, gd_pos hk, gd_pos (zin hn (i := (0 : Int32)) (k := 0) rfl (by decide)), gd_pos (zin hn (i := (2 : Int32)) (k := 2) rfl (by decide)), tn0, tn2, z0, h2, e1, e2, g1, if_true]
        rw [if_neg (fun w => g2 ((nI_eq_iff (by omega) (by omega)).mp w))]
        exact zero
      rw [run _ rs, if_pos rfl]
      exact anew
  · have rs : f_X7_isSolved N S m = some (0, S) := by
      simp only [f_X7_isSolved, gd_pos hm, hz, nn_s, gd_pos hk, gd_pos (zin hn (i := (0 : Int32)) (k := 0) rfl (by decide)), tn0, z0, e1]
      rw [if_neg (fun w => g1 ((nI_eq_iff (by omega) (by omega)).mp w))]
      exact zero
    rw [run _ rs, if_pos rfl]
    exact anew
end
