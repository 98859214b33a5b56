section
variable {P : Nat → Prop} {S T : Hp} {x z : Nat} {d : Nat → Nat} {q q' : Nat → Option (Nat × Nat × Nat)} {A A' : Ab} {nb N : Nat}
/-- the picture stands where nothing of it is written -/
theorem CX.kp (h : CX S x d q A nb) (k : Kee P S T) (hp : ∀ a, PA x d q a → P a) (up : ∀ a, a ∈ hL S → a ∈ hL T) : CX T x d q A nb := by
  have shp := h.1.2.2.1
  have pd : ∀ i, i < 20 → P (d i) := fun i hi => hp _ (PA.d0 hi)
  have ps : ∀ i, i < 8 → ∀ a, inS (q i) a → P a := fun i hi a ha => hp _ (PA.s0 hi ha)
  exact h.re k (hp x PA.x0) (fun i hi _ => pd i hi) ⟨k.ok shp.1 (pd 6 (by decide)), by rw [k.R shp.1.1 (pd 6 (by decide))]; exact shp.2.1, k.ok shp.2.2.1 (pd 7 (by decide)), by rw [k.N shp.2.2.1.1 (pd 7 (by decide))]; exact shp.2.2.2⟩ ⟨k.ok h.1.2.2.2.1.1 (pd 8 (by decide)), by rw [k.N h.1.2.2.2.1.1.1 (pd 8 (by decide))]; exact h.1.2.2.2.1.2⟩ ⟨by rw [k.I shp.1.1 (pd 6 (by decide))]; exact h.2.2.1.1, h.2.2.1.2.kp k shp.2.2.1.1 (pd 7 (by decide)) (fun i hi => ps i (by omega)) (Nat.le_refl _) (fun _ _ => rfl)⟩ (h.2.2.2.1.kp k h.1.2.2.2.1.1.1 (pd 8 (by decide)) (fun i hi => ps (6 + i) (by omega)) (fun _ _ => rfl) rfl) rfl rfl (fun a ha => up a (h.2.2.2.2.2.2 a ha))
end
