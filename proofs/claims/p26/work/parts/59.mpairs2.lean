section
variable {N : Nat} {S : Hp} {m z pa lo up c n mk br s : Nat} {M : Nat → Nat} {Q : Nat → Nat × Nat}
/-- all that is written in the model's three arrays for lines ahead of j stays -/
def Kp (lo up j : Nat) (S T : Hp) : Prop := ∀ l, l < j → hI T lo l = hI S lo l ∧ hI T up l = hI S up l
theorem Kp.rf {lo up j : Nat} {S : Hp} : Kp lo up j S S := fun _ _ => ⟨rfl, rfl⟩
theorem Kp.tr {lo up j : Nat} {S T U : Hp} (h : Kp lo up j S T) (g : Kp lo up j T U) : Kp lo up j S U := fun l hl => ⟨(g l hl).1.trans (h l hl).1, (g l hl).2.trans (h l hl).2⟩
end
