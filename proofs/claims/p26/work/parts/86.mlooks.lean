theorem le_c (c : Int32) {n a : Nat} (hc : c = nI n) (ha : a < 2 ^ 31) (hn : n < 2 ^ 31) : nI a ≤ c ↔ a ≤ n := by subst hc; exact nI_le_iff ha hn
theorem lt_c (c : Int32) {n a : Nat} (hc : c = nI n) (ha : a < 2 ^ 31) (hn : n < 2 ^ 31) : nI a < c ↔ a < n := by subst hc; exact nI_lt_iff ha hn
/-! what each look answers -/
def lkL (B : Bd) (j w : Nat) : Int32 := if w = 0 then nI (bM B j) else if w = 1 then (if isAl (bM B) (bb B) j = true then 0 else 1) else if w = 2 then nI (pop (bM B j &&& bfre B)) else if w = 3 then nI (wtP (bM B) (bc B) (bk B) (bb B) j) else nI (pop (bM B j &&& bk B))
def lkC (B : Bd) (i w : Nat) : Int32 := if w = 0 then nI (bow B i) else if w = 1 then nI (bdg B i) else if w = 2 then parB B i else nI (lvP (bM B) (bn B) (bb B) i)
def ctA (A : Ab) : Nat → Int32
  | 0 => nI (bc (aN A))
  | 1 => nI (bn (aN A))
  | 2 => nI (bal (aN A))
  | 3 => nI (bws (aN A))
  | 4 => if bwin (aN A) = 0 then nI (bv (aN A)) else 0
  | 5 => nI (bwin (aN A))
  | 6 => nI (bth (aN A))
  | 7 => if bwin (aN A) = 0 then lowI (bth (aN A)) else -1
  | 8 => npB (aN A)
  | 9 => nI (bfre (aN A))
  | 10 => bo (aN A)
  | 11 => bx (aN A)
  | 12 => by_ (aN A)
  | 13 => bl (aN A)
  | 14 => (if (aS A 0).isSome = true then (1 : Int32) else 0) + (if (aS A 1).isSome = true then (1 : Int32) else 0)
  | _ => nI (aH A)
theorem bdg_0 {B : Bd} {i : Nat} (h : (bfre B).testBit i = false) : bdg B i = 0 := by
  have : ∀ n, fb_sm (fun j => if (bM B j &&& fre (bc B) (bk B) (bb B)).testBit i = true then wtP (bM B) (bc B) (bk B) (bb B) j else 0) n = 0 := by
    intro n
    induction n with
    | zero => rfl
    | succ n ih =>
      show _ + _ = 0
      rw [ih]
      have : (bM B n &&& fre (bc B) (bk B) (bb B)).testBit i = false := by
        have h' : (fre (bc B) (bk B) (bb B)).testBit i = false := h
        rw [Nat.testBit_and, h', Bool.and_false]
      simp [this]
  exact this _
