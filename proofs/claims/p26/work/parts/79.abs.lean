/-- all that a run has made: the board, the saved ones, the snapshots, the text -/
abbrev Ab : Type := Bd × (Nat × (Nat → Bd)) × (Nat → Option Bd) × (Nat × (Nat → Nat))
def aN (A : Ab) : Bd := A.1
def aH (A : Ab) : Nat := A.2.1.1
def aHs (A : Ab) : Nat → Bd := A.2.1.2
def aS (A : Ab) : Nat → Option Bd := A.2.2.1
def aL (A : Ab) : Nat := A.2.2.2.1
def aT (A : Ab) : Nat → Nat := A.2.2.2.2
def WfA (A : Ab) : Prop := Wf (aN A) ∧ (aH A ≤ 6 ∧ ∀ j, j < aH A → Wf (aHs A j)) ∧ (∀ i B, aS A i = some B → Wf B) ∧ aL A ≤ 60 ∧ ∀ k, k < aL A → 33 ≤ aT A k ∧ aT A k ≤ 126
def nowA (A : Ab) (B : Bd) : Ab := (B, A.2)
def svH (A : Ab) : Nat × (Nat → Bd) := if aH A = 6 then (6, fun j => if j = 5 then aN A else aHs A (j + 1)) else (aH A + 1, fun j => if j = aH A then aN A else aHs A j)
/-- the board saved -/
def svA (A : Ab) : Ab := (aN A, svH A, A.2.2)
theorem svA_wf {A : Ab} (h : WfA A) : WfA (svA A) := by
  obtain ⟨h1, ⟨h2, h3⟩, h4, h5, h6⟩ := h
  refine ⟨h1, ?_, h4, h5, h6⟩
  show (svH A).1 ≤ 6 ∧ ∀ j, j < (svH A).1 → Wf ((svH A).2 j)
  unfold svH
  by_cases g : aH A = 6
  · rw [if_pos g]
    refine ⟨Nat.le_refl 6, fun j hj => ?_⟩
    show Wf (if j = 5 then aN A else aHs A (j + 1))
    split
    · exact h1
    · exact h3 _ (by simp only at hj; omega)
  · rw [if_neg g]
    refine ⟨by simp only; omega, fun j hj => ?_⟩
    show Wf (if j = aH A then aN A else aHs A j)
    split
    · exact h1
    · exact h3 _ (by simp only at hj; omega)
theorem nowA_wf {A : Ab} (h : WfA A) {B : Bd} (hB : Wf B) : WfA (nowA A B) := ⟨hB, h.2⟩
/-- a row of numbers that tells a board -/
def RowF (f : Nat → Int32) (B : Bd) : Prop := (f 0 = nI (bc B) ∧ f 1 = nI (bv B) ∧ f 2 = nI (bn B) ∧ f 3 = nI (bk B) ∧ f 4 = nI (bb B) ∧ f 5 = bl B ∧ f 6 = bp B ∧ f 7 = bo B ∧ f 8 = bx B ∧ f 9 = by_ B) ∧ ∀ j, j < bn B → f (10 + j) = nI (bM B j)
theorem RowF.cong {f g : Nat → Int32} {B : Bd} (h : RowF f B) (hn : bn B ≤ 12) (e : ∀ k, k < 22 → g k = f k) : RowF g B := by
  obtain ⟨⟨a0, a1, a2, a3, a4, a5, a6, a7, a8, a9⟩, b⟩ := h
  refine ⟨⟨?_, ?_, ?_, ?_, ?_, ?_, ?_, ?_, ?_, ?_⟩, fun j hj => ?_⟩
  · rw [e 0 (by decide), a0]
  · rw [e 1 (by decide), a1]
  · rw [e 2 (by decide), a2]
  · rw [e 3 (by decide), a3]
  · rw [e 4 (by decide), a4]
  · rw [e 5 (by decide), a5]
  · rw [e 6 (by decide), a6]
  · rw [e 7 (by decide), a7]
  · rw [e 8 (by decide), a8]
  · rw [e 9 (by decide), a9]
  · rw [e (10 + j) (by omega), b j hj]
/-- cells of P stand as they stood -/
def Kee (P : Nat → Prop) (S T : Hp) : Prop := ∀ a, a ∈ hL S → P a → a ∈ hL T ∧ hK T a = hK S a ∧ hN T a = hN S a ∧ hI T a = hI S a ∧ hR T a = hR S a ∧ hJ T a = hJ S a
theorem Kee.rf {P : Nat → Prop} {S : Hp} : Kee P S S := fun _ h _ => ⟨h, rfl, rfl, rfl, rfl, rfl⟩
theorem Kee.tr {P : Nat → Prop} {S T U : Hp} (h : Kee P S T) (g : Kee P T U) : Kee P S U := by
  intro a ha hp
  obtain ⟨a1, a2, a3, a4, a5, a6⟩ := h a ha hp
  obtain ⟨b1, b2, b3, b4, b5, b6⟩ := g a a1 hp
  exact ⟨b1, b2.trans a2, b3.trans a3, b4.trans a4, b5.trans a5, b6.trans a6⟩
theorem Kee.mono {P Q : Nat → Prop} {S T : Hp} (h : Kee P S T) (g : ∀ a, Q a → P a) : Kee Q S T := fun a ha hq => h a ha (g a hq)
theorem Fr.kee {E : List Nat} {P : Nat → Prop} {S T : Hp} (f : Fr E S T) (h : ∀ a, P a → a ∉ E) : Kee P S T := by
  intro a ha hp
  obtain ⟨f1, f2, f3, f4, f5, f6⟩ := f
  exact ⟨by rw [f1]; exact ha, by rw [f2], by rw [f3], f6 a (h a hp), by rw [f4], by rw [f5]⟩
theorem Kee.ok {P : Nat → Prop} {S T : Hp} (h : Kee P S T) {a k : Nat} (g : ok S a k) (hp : P a) : ok T a k := ⟨(h a g.1 hp).1, (h a g.1 hp).2.1.trans g.2⟩
theorem Kee.I {P : Nat → Prop} {S T : Hp} (h : Kee P S T) {a : Nat} (ha : a ∈ hL S) (hp : P a) : hI T a = hI S a := (h a ha hp).2.2.2.1
theorem Kee.R {P : Nat → Prop} {S T : Hp} (h : Kee P S T) {a : Nat} (ha : a ∈ hL S) (hp : P a) : hR T a = hR S a := (h a ha hp).2.2.2.2.1
theorem Kee.N {P : Nat → Prop} {S T : Hp} (h : Kee P S T) {a : Nat} (ha : a ∈ hL S) (hp : P a) : hN T a = hN S a := (h a ha hp).2.2.1
