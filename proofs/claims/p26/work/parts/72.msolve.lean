/-- the model's solver: its board, the masks it was solved for, its tables -/
def MS (S : Hp) (m z sm wi le c n mk br : Nat) (M : Nat → Nat) : Prop := Mz S m z c n mk br M ∧ (hR S m 13 = some sm ∧ ok S sm 8 ∧ hN S sm = 12) ∧ (hR S m 14 = some wi ∧ ok S wi 8 ∧ hN S wi = 118098) ∧ (hR S m 15 = some le ∧ ok S le 8 ∧ hN S le = 118098) ∧ (z ≠ sm ∧ z ≠ wi ∧ z ≠ le ∧ sm ≠ wi ∧ sm ≠ le ∧ wi ≠ le)
theorem MS.fr {E : List Nat} {S T : Hp} {m z sm wi le c n mk br : Nat} {M : Nat → Nat} (h : MS S m z sm wi le c n mk br M) (f : Fr E S T) (hz : z ∉ E) : MS T m z sm wi le c n mk br M := by
  obtain ⟨h1, ⟨a1, a2, a3⟩, ⟨b1, b2, b3⟩, ⟨c1, c2, c3⟩, d⟩ := h
  exact ⟨h1.fr f hz, ⟨by rw [f.R]; exact a1, f.ok a2, by rw [f.N]; exact a3⟩, ⟨by rw [f.R]; exact b1, f.ok b2, by rw [f.N]; exact b3⟩, ⟨by rw [f.R]; exact c1, f.ok c2, by rw [f.N]; exact c3⟩, d⟩
