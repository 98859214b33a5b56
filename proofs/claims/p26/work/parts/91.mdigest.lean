section
variable {N : Nat} {S : Hp} {m : Nat} {g : Nat → Nat} {A : Ab}
theorem d5 : ∀ v, v < 60 → nI v / (5 : Int32) = nI (v / 5) ∧ nI v - nI v / (5 : Int32) * (5 : Int32) = nI (v % 5) := by decide +kernel
end
