/-! the class's picture beside the law's arrays -/
def KA (S : Hp) (x zz li pa : Nat) (d : Nat → Nat) (q : Nat → Option (Nat × Nat × Nat)) (A : Ab) (nb : Nat) : Prop := CX S x d q A nb ∧ CD x d q ∧ WfA A ∧ (ok S pa 8 ∧ hN S pa = 5) ∧ (pa ≠ zz ∧ pa ≠ li ∧ li ≠ zz) ∧ ¬ PA x d q zz ∧ ¬ PA x d q li ∧ ¬ PA x d q pa
section
variable {S T : Hp} {x zz li pa : Nat} {d : Nat → Nat} {q q' : Nat → Option (Nat × Nat × Nat)} {A A' : Ab} {nb n2 hh : Nat} {B : Bd}
theorem LZ.kp {P : Nat → Prop} (h : LZ S zz li B hh) (k : Kee P S T) (h1 : P zz) (h2 : P li) : LZ T zz li B hh := by
  obtain ⟨⟨⟨a1, a2, a3, a4⟩, b, c⟩, e⟩ := h
  refine ⟨⟨⟨k.ok a1 h1, by rw [k.N a1.1 h1]; exact a2, k.ok a3 h2, by rw [k.N a3.1 h2]; exact a4⟩, ?_, c⟩, ?_⟩
  · rw [k.I a1.1 h1, k.I a3.1 h2]; exact b
  · rw [k.I a1.1 h1]; exact e
/-- the law writes on its own arrays -/
theorem KA.fr {E : List Nat} (h : KA S x zz li pa d q A nb) (f : Fr E S T) (hE : ∀ a, a ∈ E → a = zz ∨ a = li ∨ a = pa) : KA T x zz li pa d q A nb := by
  obtain ⟨h1, h2, h3, h4, h5, h6, h7, h8⟩ := h
  have np : ∀ a, PA x d q a → a ∉ E := fun a ha w => by
    rcases hE a w with e | e | e
    · rw [e] at ha; exact h6 ha
    · rw [e] at ha; exact h7 ha
    · rw [e] at ha; exact h8 ha
  exact ⟨h1.kp (f.kee np) (fun a ha => ha) (fun a ha => by rw [f.1]; exact ha), h2, h3, ⟨f.ok h4.1, by rw [f.N]; exact h4.2⟩, h5, h6, h7, h8⟩
/-- the class makes a step -/
theorem KA.cls (h : KA S x zz li pa d q A nb) (c : CG S x d q q' A' n2 T) (hw : WfA A') (lz : LZ S zz li B hh) : KA T x zz li pa d q' A' n2 ∧ LZ T zz li B hh ∧ hI T pa = hI S pa := by
  obtain ⟨h1, h2, h3, h4, h5, h6, h7, h8⟩ := h
  obtain ⟨c1, c2, c3, c4, c5⟩ := c
  have out : ∀ a, a ∈ hL S → ¬ PA x d q a → ¬ PA x d q' a := fun a ha w v => by
    rcases c4 a v with u | u
    · exact w u
    · exact u ha
  exact ⟨⟨c5, c3, hw, ⟨c1.ok h4.1 h8, by rw [c1.N h4.1.1 h8]; exact h4.2⟩, h5, out _ lz.1.1.1.1 h6, out _ lz.1.1.2.2.1.1 h7, out _ h4.1.1 h8⟩, lz.kp c1 h6 h7, c1.I h4.1.1 h8⟩
theorem KA.look (h : KA S x zz li pa d q A nb) (c : CN S x d q A n2 T) (lz : LZ S zz li B hh) : KA T x zz li pa d q A n2 ∧ LZ T zz li B hh ∧ hI T pa = hI S pa := h.cls (c.g h.2.1) h.2.2.1 lz
theorem KA.ok6 (h : KA S x zz li pa d q A nb) : ok S x 6 := h.1.1.1.1
theorem aH_sv : aH (svA A) = if aH A = 6 then 6 else aH A + 1 := by
  unfold svA svH
  by_cases h : aH A = 6
  · rw [if_pos h, if_pos h]; rfl
  · rw [if_neg h, if_neg h]; rfl
theorem aH_now : aH (nowA A B) = aH A := rfl
theorem aN_now : aN (nowA A B) = B := rfl
end
