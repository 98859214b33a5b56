section
variable {N : Nat} {S : Hp} {m z sm wi le : Nat} {B : Bd}
theorem MB.fr {E : List Nat} {T : Hp} (h : MB S m z sm wi le B) (f : Fr E S T) (hz : z ∉ E) : MB T m z sm wi le B := ⟨h.1.fr f hz, by rw [f.I hz]; exact h.2⟩
/-- who wins behind a move -/
def imB (B : Bd) (i : Nat) : Int32 := if bwin B = 0 ∧ (bfre B).testBit i = true then nI (bWV B i).1 else -1
end
