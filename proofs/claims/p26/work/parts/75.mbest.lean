/-- the model's board is B, as far as its solver looks -/
def MB (S : Hp) (m z sm wi le : Nat) (B : Bd) : Prop := MS S m z sm wi le (bc B) (bn B) (bk B) (bb B) (bM B) ∧ hI S z 1 = nI (bv B)
