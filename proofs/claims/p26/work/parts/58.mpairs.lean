theorem Mz.fr {E : List Nat} {S T : Hp} {m z c n mk br : Nat} {M : Nat → Nat} (h : Mz S m z c n mk br M) (f : Fr E S T) (hz : z ∉ E) : Mz T m z c n mk br M := by
  obtain ⟨⟨g1, g2, g3, g4⟩, ⟨g5, g6, g7, g8, g9⟩, g10⟩ := h
  exact ⟨⟨f.ok g1, by rw [f.R]; exact g2, f.ok g3, by rw [f.N]; exact g4⟩, by rw [f.I hz]; exact ⟨g5, g6, g7, g8, g9⟩, g10⟩
/-- the model's board and the three arrays of its pairing -/
def MC (S : Hp) (m z pa lo up c n mk br : Nat) (M : Nat → Nat) : Prop := Mz S m z c n mk br M ∧ (hR S m 8 = some pa ∧ ok S pa 8 ∧ hN S pa = 10) ∧ (hR S m 9 = some lo ∧ ok S lo 8 ∧ hN S lo = 12) ∧ (hR S m 10 = some up ∧ ok S up 8 ∧ hN S up = 12) ∧ (pa ≠ lo ∧ pa ≠ up ∧ lo ≠ up ∧ z ≠ pa ∧ z ≠ lo ∧ z ≠ up)
theorem MC.fr {S T : Hp} {m z pa lo up c n mk br : Nat} {M : Nat → Nat} (h : MC S m z pa lo up c n mk br M) (f : Fr [pa, lo, up] S T) : MC T m z pa lo up c n mk br M := by
  obtain ⟨h1, ⟨a1, a2, a3⟩, ⟨b1, b2, b3⟩, ⟨c1, c2, c3⟩, d1, d2, d3, d4, d5, d6⟩ := h
  exact ⟨h1.fr f (by simp [d4, d5, d6]), ⟨by rw [f.R]; exact a1, f.ok a2, by rw [f.N]; exact a3⟩, ⟨by rw [f.R]; exact b1, f.ok b2, by rw [f.N]; exact b3⟩, ⟨by rw [f.R]; exact c1, f.ok c2, by rw [f.N]; exact c3⟩, d1, d2, d3, d4, d5, d6⟩
theorem inN {S : Hp} {a L j : Nat} (h : hN S a = L) (hj : j < L) (hL : L < 2 ^ 31) : inb (nI j) (hN S a) := by
  rw [h]
  unfold inb
  rw [nI_toInt (by omega)]
  omega
