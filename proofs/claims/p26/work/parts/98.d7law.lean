theorem i_rng {p c e : Int32} {a b : Nat} (hc : c = nI a) (he : e = nI b) (ha : a < 2 ^ 31) (hb : b < 2 ^ 31) (h1 : c ≤ p) (h2 : p ≤ e) : ∃ n, p = nI n ∧ a ≤ n ∧ n ≤ b := by
  subst hc he
  have h0 : (0 : Int32) ≤ nI a := (nI_le_iff (a := 0) (by decide) ha).mpr (Nat.zero_le _)
  obtain ⟨n, rfl, h⟩ := i_nat (Int32.le_trans h0 h1) h2 hb
  exact ⟨n, rfl, (nI_le_iff ha (by omega)).mp h1, h⟩
theorem i_lt {p : Int32} {n : Nat} (hn : n < 2 ^ 31) (h : 0 ≤ p ∧ p < nI n) : ∃ j, p = nI j ∧ j < n := by
  obtain ⟨j, rfl, hj⟩ := i_nat h.1 (Int32.le_of_lt h.2) hn
  exact ⟨j, rfl, (nI_lt_iff (by omega) hn).mp h.2⟩
