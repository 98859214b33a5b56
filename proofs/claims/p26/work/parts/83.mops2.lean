theorem cntB_wf {B : Bd} (h : Wf B) (o x y : Int32) : Wf (cntB B o x y) := h
section
variable {N : Nat} {S : Hp} {m : Nat} {g : Nat → Nat} {A : Ab}
theorem in0 {i n : Nat} (h : i < n) (hn : n < 2 ^ 31) : (0 : Int32) ≤ nI i ∧ nI i < nI n := ⟨(nI_le_iff (a := 0) (by decide) (by omega)).mpr (Nat.zero_le _), (nI_lt_iff (by omega) hn).mpr h⟩
theorem bwin_le (B : Bd) : bwin B ≤ 2 := winP_le _ _ _ _
theorem in03 {r : Nat} (hr : r < 4) : (0 : Int32) ≤ nI r ∧ nI r ≤ 3 := ⟨(nI_le_iff (a := 0) (by decide) (by omega)).mpr (Nat.zero_le _), (nI_le_iff (b := 3) (by omega) (by decide)).mpr (by omega)⟩
theorem in110 {q : Nat} (h1 : 1 ≤ q) (h2 : q ≤ 10) : (1 : Int32) ≤ nI q ∧ nI q ≤ 10 := ⟨(nI_le_iff (a := 1) (by decide) (by omega)).mpr h1, (nI_le_iff (b := 10) (by omega) (by decide)).mpr h2⟩
end
