def pT (T : Nat → Nat) (i : Nat) : Nat := fb_ct (fun k => decide (T k = 59)) i
def fT (T : Nat → Nat) : Nat → Nat → Nat
  | 0, _ => 0
  | i + 1, j => if T i ≠ 59 ∧ j = pT T i then fT T i j ||| 2 ^ (T i - 48) else fT T i j
theorem lt_i {a b : Nat} (h : a < b) (hb : b < 2 ^ 31) : nI a < nI b := (nI_lt_iff (by omega) hb).mpr h
