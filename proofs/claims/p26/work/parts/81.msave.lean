theorem nle_c (c : Int32) {n b : Nat} (hc : c = nI n) (h : b < n) (hn : n < 2 ^ 31) : ¬ c ≤ nI b := by subst hc; exact nle_i h hn
theorem eq_c (c : Int32) {n a : Nat} (hc : c = nI n) (ha : a < 2 ^ 31) (hn : n < 2 ^ 31) : nI a = c ↔ a = n := by subst hc; exact nI_eq_iff ha hn
