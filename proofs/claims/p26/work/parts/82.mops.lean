theorem fr_s1 {S T : Hp} {z k : Nat} {v : Int32} (h : Fr [z] S T) : Fr [z] S (sI T z k v) := h.sI (List.mem_cons_self)
/-- a number between two others -/
theorem i_nat {p : Int32} {n : Nat} (h0 : 0 ≤ p) (h1 : p ≤ nI n) (hn : n < 2 ^ 31) : ∃ k, p = nI k ∧ k ≤ n := by
  have a0 : (0 : Int) ≤ p.toInt := by
    have q := Int32.le_iff_toInt_le.mp h0
    exact q
  have a1 := Int32.le_iff_toInt_le.mp h1
  rw [nI_toInt hn] at a1
  refine ⟨p.toInt.toNat, ?_, by omega⟩
  apply Int32.toInt_inj.mp
  rw [nI_toInt (by omega)]
  omega
def cutB (B : Bd) (n : Nat) : Bd := mkB (bM B) 0 n (bk B) (bb B) (bv B) (bl B) (bp B) (bo B) (bx B) (by_ B)
def begB (B : Bd) (n : Nat) : Bd := clrB (cutB B n) 1
def addB (B : Bd) (v : Nat) : Bd := mkB (fun j => if j = bn B then v else bM B j) (bn B + 1) (bc B) (bk B) (bb B) (bv B) (bl B) (bp B) (bo B) (bx B) (by_ B)
def remB (B : Bd) (i : Nat) : Bd := mkB (fun j => if j < i then bM B j else bM B (j + 1)) (bn B - 1) (bc B) (bk B) (bb B) (bv B) (bl B) (bp B) (bo B) (bx B) (by_ B)
def skpB (B : Bd) : Bd := mkB (bM B) (bn B) (bc B) (bk B) (bb B) (3 - bv B) (-1) (-1) (bo B) (bx B) (by_ B)
theorem begB_wf {B : Bd} {n : Nat} (h2 : 2 ≤ n) (h10 : n ≤ 10) : Wf (begB B n) := by
  refine ⟨⟨h2, h10, Nat.zero_le _, fun j hj => absurd hj (Nat.not_lt_zero _)⟩, ⟨Nat.two_pow_pos _, Nat.two_pow_pos _, (by show (0 : Nat) &&& 0 = 0; decide)⟩, Or.inl rfl, Or.inl rfl⟩
theorem addB_wf {B : Bd} (hw : Wf B) {v : Nat} (hv : v < 2 ^ bc B) (h0 : v ≠ 0) (hn : bn B < 12) : Wf (addB B v) := by
  obtain ⟨⟨a1, a2, a3, a4⟩, b, c, d⟩ := hw
  refine ⟨⟨a1, a2, hn, fun j hj => ?_⟩, b, c, d⟩
  show (if j = bn B then v else bM B j) < 2 ^ bc B ∧ (if j = bn B then v else bM B j) ≠ 0
  have hj' : j < bn B + 1 := hj
  by_cases e : j = bn B
  · rw [if_pos e]; exact ⟨hv, h0⟩
  · rw [if_neg e]; exact a4 j (by omega)
theorem remB_wf {B : Bd} (hw : Wf B) {i : Nat} (hi : i < bn B) : Wf (remB B i) := by
  obtain ⟨⟨a1, a2, a3, a4⟩, b, c, d⟩ := hw
  refine ⟨⟨a1, a2, (by show bn B - 1 ≤ 12; omega), fun j hj => ?_⟩, b, c, d⟩
  show (if j < i then bM B j else bM B (j + 1)) < 2 ^ bc B ∧ (if j < i then bM B j else bM B (j + 1)) ≠ 0
  have hj' : j < bn B - 1 := hj
  by_cases e : j < i
  · rw [if_pos e]; exact a4 j (by omega)
  · rw [if_neg e]; exact a4 (j + 1) (by omega)
theorem skpB_wf {B : Bd} (hw : Wf B) : Wf (skpB B) := by
  obtain ⟨a, b, c, d⟩ := hw
  refine ⟨a, b, ?_, Or.inl rfl⟩
  show 3 - bv B = 1 ∨ 3 - bv B = 2
  omega
section
variable {N : Nat} {S : Hp} {m : Nat} {g : Nat → Nat} {A : Ab}
theorem z4 {z : Nat} : ∀ a, a ∈ [z] → a ∈ [z, g 8, g 9, g 10] := by simp
end
