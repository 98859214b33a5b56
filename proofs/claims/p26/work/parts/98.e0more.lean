theorem shr_and1 (a i : Nat) : (a >>> i) &&& 1 = if a.testBit i = true then 1 else 0 := by
  rw [Nat.and_one_is_mod, Nat.shiftRight_eq_div_pow]
  have q := Nat.testBit_eq_decide_div_mod_eq (x := a) (i := i)
  rw [q]
  by_cases h : a / 2 ^ i % 2 = 1
  · simp [h]
  · have h2 : a / 2 ^ i % 2 = 0 := by omega
    simp [h2]
theorem fb_ct_split (p : Nat → Bool) (m : Nat) : ∀ n, fb_ct p (m + n) = fb_ct p m + fb_ct (fun k => p (m + k)) n
  | 0 => rfl
  | n + 1 => by
    have h := fb_ct_split p m n
    show fb_ct p (m + n + 1) = _
    rw [fb_ct_succ, fb_ct_succ, h, Nat.add_assoc]
theorem nI_has {a i : Nat} (ha : a < 2 ^ 31) (hi : i < 32) : ((nI a >>> (nI i &&& 31)) &&& (1 : Int32)) = nI (if a.testBit i = true then 1 else 0) := by
  rw [nI_shr ha hi, ← shr_and1]
  exact nI_and _ 1
theorem nI_eq10 {a : Nat} (ha : a < 2 ^ 31) : nI a = (10 : Int32) ↔ a = 10 := nI_eq_iff (b := 10) ha (by decide)
