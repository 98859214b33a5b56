/-- the model's row of numbers is B's -/
def Zr (S : Hp) (z : Nat) (B : Bd) : Prop := (hI S z 0 = nI (bc B) ∧ hI S z 1 = nI (bv B) ∧ hI S z 2 = nI (bn B) ∧ hI S z 3 = nI (bk B) ∧ hI S z 4 = nI (bb B) ∧ hI S z 5 = bl B ∧ hI S z 6 = bp B ∧ hI S z 7 = bo B ∧ hI S z 8 = bx B ∧ hI S z 9 = by_ B) ∧ ∀ j, j < bn B → hI S z (10 + j) = nI (bM B j)
def ZM (S : Hp) (m z : Nat) (B : Bd) : Prop := (ok S m 7 ∧ hR S m 0 = some z ∧ ok S z 8 ∧ hN S z = 22) ∧ Zr S z B
theorem ZM.fr {E : List Nat} {S T : Hp} {m z : Nat} {B : Bd} (h : ZM S m z B) (f : Fr E S T) (hz : z ∉ E) : ZM T m z B := by
  obtain ⟨⟨a1, a2, a3, a4⟩, b⟩ := h
  refine ⟨⟨f.ok a1, by rw [f.R]; exact a2, f.ok a3, by rw [f.N]; exact a4⟩, ?_⟩
  unfold Zr
  rw [f.I hz]
  exact b
/-- the shapes of the model's arrays -/
def PS (S : Hp) (m pa lo up : Nat) : Prop := (hR S m 8 = some pa ∧ ok S pa 8 ∧ hN S pa = 10) ∧ (hR S m 9 = some lo ∧ ok S lo 8 ∧ hN S lo = 12) ∧ (hR S m 10 = some up ∧ ok S up 8 ∧ hN S up = 12)
def SS (S : Hp) (m sm wi le : Nat) : Prop := (hR S m 13 = some sm ∧ ok S sm 8 ∧ hN S sm = 12) ∧ (hR S m 14 = some wi ∧ ok S wi 8 ∧ hN S wi = 118098) ∧ (hR S m 15 = some le ∧ ok S le 8 ∧ hN S le = 118098)
theorem PS.fr {E : List Nat} {S T : Hp} {m pa lo up : Nat} (h : PS S m pa lo up) (f : Fr E S T) : PS T m pa lo up := by
  obtain ⟨⟨a1, a2, a3⟩, ⟨b1, b2, b3⟩, c1, c2, c3⟩ := h
  exact ⟨⟨by rw [f.R]; exact a1, f.ok a2, by rw [f.N]; exact a3⟩, ⟨by rw [f.R]; exact b1, f.ok b2, by rw [f.N]; exact b3⟩, by rw [f.R]; exact c1, f.ok c2, by rw [f.N]; exact c3⟩
theorem SS.fr {E : List Nat} {S T : Hp} {m sm wi le : Nat} (h : SS S m sm wi le) (f : Fr E S T) : SS T m sm wi le := by
  obtain ⟨⟨a1, a2, a3⟩, ⟨b1, b2, b3⟩, c1, c2, c3⟩ := h
  exact ⟨⟨by rw [f.R]; exact a1, f.ok a2, by rw [f.N]; exact a3⟩, ⟨by rw [f.R]; exact b1, f.ok b2, by rw [f.N]; exact b3⟩, by rw [f.R]; exact c1, f.ok c2, by rw [f.N]; exact c3⟩
