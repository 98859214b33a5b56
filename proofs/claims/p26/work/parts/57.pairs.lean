/-! THE PAIRING: a search by lines, a pair of loose cells for each that needs one; both programs go its way -/
def prC (p : Nat × Nat) : Nat := 2 ^ p.1 ||| 2 ^ p.2
def updQ (Q : Nat → Nat × Nat) (s : Nat) (p : Nat × Nat) : Nat → Nat × Nat := fun i => if i = s then p else Q i
def covQ (s : Nat) (Q : Nat → Nat × Nat) (x : Nat) : Bool := anyN (fun i => decide ((Q i).1 = x) || decide ((Q i).2 = x)) s
def inQ (a s : Nat) (Q : Nat → Nat × Nat) : Bool := anyN (fun i => a.testBit (Q i).1 && a.testBit (Q i).2) s
def needQ (M : Nat → Nat) (br j s : Nat) (Q : Nat → Nat × Nat) : Bool := isAl M br j && !inQ (M j) s Q
def looQ (M : Nat → Nat) (F j s : Nat) (Q : Nat → Nat × Nat) (x : Nat) : Bool := (M j &&& F).testBit x && !covQ s Q x
def tryL {α : Type} (lo : Nat → Bool) (f : Nat × Nat → Option α) : List (Nat × Nat) → Option α
  | [] => none
  | p :: t => if (lo p.1 && lo p.2) = true then (match f p with
    | some r => some r
    | none => tryL lo f t) else tryL lo f t
def row (a b : Nat) : Nat → List (Nat × Nat)
  | 0 => []
  | k + 1 => (a, b) :: row a (b + 1) k
def rows (a : Nat) : Nat → List (Nat × Nat)
  | 0 => []
  | k + 1 => row a (a + 1) (9 - a) ++ rows (a + 1) k
/-- the pairs behind (a, b) -/
def restP (a b : Nat) : List (Nat × Nat) := row a (b + 1) (9 - b) ++ rows (a + 1) (9 - a)
def DQ (M : Nat → Nat) (br F : Nat) : Nat → Nat → Nat → (Nat → Nat × Nat) → Option (Nat × (Nat → Nat × Nat))
  | 0, _, s, Q => some (s, Q)
  | m + 1, j, s, Q => if needQ M br j s Q = true then tryL (looQ M F j s Q) (fun p => DQ M br F m (j + 1) (s + 1) (updQ Q s p)) (restP 0 0) else DQ M br F m (j + 1) s Q
def goodQ (F s : Nat) (Q : Nat → Nat × Nat) : Prop := ∀ i, i < s → (Q i).1 < (Q i).2 ∧ (Q i).2 < 10 ∧ covQ i Q (Q i).1 = false ∧ covQ i Q (Q i).2 = false ∧ F.testBit (Q i).1 = true ∧ F.testBit (Q i).2 = true
theorem mem_row {p : Nat × Nat} {a : Nat} : ∀ {k b : Nat}, p ∈ row a b k → p.1 = a ∧ b ≤ p.2 ∧ p.2 < b + k
  | 0, b, h => by cases h
  | k + 1, b, h => by
    unfold row at h
    rcases List.mem_cons.mp h with rfl | h
    · exact ⟨rfl, Nat.le_refl _, by omega⟩
    · have q := mem_row h
      exact ⟨q.1, by omega, by omega⟩
theorem mem_rows {p : Nat × Nat} : ∀ {k a : Nat}, a + k = 10 → p ∈ rows a k → p.1 < p.2 ∧ p.2 < 10
  | 0, a, _, h => by cases h
  | k + 1, a, hk, h => by
    unfold rows at h
    rcases List.mem_append.mp h with h | h
    · have q := mem_row h
      omega
    · exact mem_rows (by omega) h
theorem mem_rest {p : Nat × Nat} {a b : Nat} (ha : a < 10) (hab : a ≤ b) (h : p ∈ restP a b) : p.1 < p.2 ∧ p.2 < 10 := by
  unfold restP at h
  rcases List.mem_append.mp h with h | h
  · have q := mem_row h
    omega
  · exact mem_rows (by omega) h
theorem tryL_none {α : Type} {lo : Nat → Bool} {f : Nat × Nat → Option α} : ∀ {l : List (Nat × Nat)}, (∀ p, p ∈ l → lo p.1 = true → lo p.2 = true → f p = none) → tryL lo f l = none
  | [], _ => rfl
  | p :: t, h => by
    unfold tryL
    have ht := tryL_none (l := t) (fun q hq => h q (List.mem_cons_of_mem _ hq))
    split
    · rename_i g
      rw [Bool.and_eq_true] at g
      rw [h p List.mem_cons_self g.1 g.2]
      exact ht
    · exact ht
theorem cov_upd {s x : Nat} {Q : Nat → Nat × Nat} {p : Nat × Nat} {k : Nat} (hk : k ≤ s) : covQ k (updQ Q s p) x = covQ k Q x := anyN_cong (fun i hi => by
  have e : updQ Q s p i = Q i := if_neg (by omega)
  rw [e])
theorem in_upd {s a : Nat} {Q : Nat → Nat × Nat} {p : Nat × Nat} {k : Nat} (hk : k ≤ s) : inQ a k (updQ Q s p) = inQ a k Q := anyN_cong (fun i hi => by
  have e : updQ Q s p i = Q i := if_neg (by omega)
  rw [e])
theorem upd_at {s : Nat} {Q : Nat → Nat × Nat} {p : Nat × Nat} : updQ Q s p s = p := if_pos rfl
theorem cov_push {s x : Nat} {Q : Nat → Nat × Nat} {p : Nat × Nat} : covQ (s + 1) (updQ Q s p) x = (covQ s Q x || (decide (p.1 = x) || decide (p.2 = x))) := by
  show (covQ s (updQ Q s p) x || (decide ((updQ Q s p s).1 = x) || decide ((updQ Q s p s).2 = x))) = _
  rw [cov_upd (Nat.le_refl s), upd_at]
theorem in_push {s a : Nat} {Q : Nat → Nat × Nat} {p : Nat × Nat} : inQ a (s + 1) (updQ Q s p) = (inQ a s Q || (a.testBit p.1 && a.testBit p.2)) := by
  show (inQ a s (updQ Q s p) || (a.testBit (updQ Q s p s).1 && a.testBit (updQ Q s p s).2)) = _
  rw [in_upd (Nat.le_refl s), upd_at]
theorem good_push {M : Nat → Nat} {F j s : Nat} {Q : Nat → Nat × Nat} {p : Nat × Nat} (h : goodQ F s Q) (hp : p.1 < p.2 ∧ p.2 < 10) (h1 : looQ M F j s Q p.1 = true) (h2 : looQ M F j s Q p.2 = true) : goodQ F (s + 1) (updQ Q s p) := by
  unfold looQ at h1 h2
  rw [Bool.and_eq_true, Nat.testBit_and, Bool.and_eq_true] at h1 h2
  intro i hi
  by_cases e : i = s
  · subst e
    rw [upd_at, cov_upd (Nat.le_refl _), cov_upd (Nat.le_refl _)]
    exact ⟨hp.1, hp.2, by simpa using h1.2, by simpa using h2.2, h1.1.2, h2.1.2⟩
  · have q : updQ Q s p i = Q i := if_neg e
    rw [q, cov_upd (by omega), cov_upd (by omega)]
    exact h i (by omega)
theorem good_pop {F s : Nat} {Q : Nat → Nat × Nat} (h : goodQ F (s + 1) Q) : goodQ F s Q := fun i hi => h i (by omega)
/-- a line that needs a pair and has no two loose cells: there is no pairing -/
theorem hopeless {M : Nat → Nat} {br F : Nat} : ∀ (m j s l : Nat) (Q : Nat → Nat × Nat), j ≤ l → l < j + m → needQ M br l s Q = true → (∀ x y, x ≠ y → looQ M F l s Q x = true → looQ M F l s Q y = true → False) → DQ M br F m j s Q = none
  | 0, j, s, l, Q, h1, h2, _, _ => absurd h2 (by omega)
  | m + 1, j, s, l, Q, h1, h2, h3, h4 => by
    unfold DQ
    by_cases e : j = l
    · subst e
      rw [if_pos h3]
      refine tryL_none (fun p hp g1 g2 => ?_)
      have q := mem_rest (by omega) (Nat.le_refl 0) hp
      exact (h4 p.1 p.2 (by omega) g1 g2).elim
    · split
      · refine tryL_none (fun p hp g1 g2 => ?_)
        have q := mem_rest (by omega) (Nat.le_refl 0) hp
        refine hopeless m (j + 1) (s + 1) l (updQ Q s p) (by omega) (by omega) ?_ ?_
        · unfold needQ at h3 ⊢
          rw [Bool.and_eq_true] at h3 ⊢
          refine ⟨h3.1, ?_⟩
          rw [in_push]
          cases b : ((M l).testBit p.1 && (M l).testBit p.2)
          · simpa using h3.2
          · rw [Bool.and_eq_true] at b
            unfold looQ at g1 g2 h4
            rw [Bool.and_eq_true, Nat.testBit_and, Bool.and_eq_true] at g1 g2
            exact (h4 p.1 p.2 (by omega) (by rw [Nat.testBit_and, b.1, g1.1.2, g1.2]; rfl) (by rw [Nat.testBit_and, b.2, g2.1.2, g2.2]; rfl)).elim
        · intro x y hxy g3 g4
          have w : ∀ x, looQ M F l (s + 1) (updQ Q s p) x = true → looQ M F l s Q x = true := by
            intro x g
            unfold looQ at g ⊢
            rw [cov_push] at g
            rw [Bool.and_eq_true] at g ⊢
            refine ⟨g.1, ?_⟩
            have g5 := g.2
            cases b : covQ s Q x
            · rfl
            · rw [b] at g5; simp at g5
          exact h4 x y hxy (w x g3) (w y g4)
      · exact hopeless m (j + 1) s l Q (by omega) (by omega) h3 h4
/-- the other cell of a cell's pair -/
def parOf : Nat → (Nat → Nat × Nat) → Nat → Int32
  | 0, _, _ => -1
  | s + 1, Q, x => if x = (Q s).1 then nI (Q s).2 else if x = (Q s).2 then nI (Q s).1 else parOf s Q x
theorem parOf_cong {Q R : Nat → Nat × Nat} {x : Nat} : ∀ {s : Nat}, (∀ i, i < s → Q i = R i) → parOf s Q x = parOf s R x
  | 0, _ => rfl
  | s + 1, h => by rw [parOf, parOf, parOf_cong (s := s) (fun i hi => h i (by omega)), h s (by omega)]
theorem parOf_push {s x : Nat} {Q : Nat → Nat × Nat} {p : Nat × Nat} : parOf (s + 1) (updQ Q s p) x = if x = p.1 then nI p.2 else if x = p.2 then nI p.1 else parOf s Q x := by
  have e : parOf s (updQ Q s p) x = parOf s Q x := parOf_cong (fun i hi => if_neg (by omega))
  rw [parOf, upd_at, e]
theorem nI_nm1 {a : Nat} (h : a < 2 ^ 31) : nI a ≠ (-1 : Int32) := fun q => by
  have r := congrArg Int32.toInt q
  rw [nI_toInt h, show (-1 : Int32).toInt = -1 from rfl] at r
  omega
theorem parOf_no {F : Nat} {Q : Nat → Nat × Nat} {x : Nat} : ∀ {s : Nat}, goodQ F s Q → (parOf s Q x = -1 ↔ covQ s Q x = false)
  | 0, _ => ⟨fun _ => rfl, fun _ => rfl⟩
  | s + 1, h => by
    have g := h s (by omega)
    have ih := parOf_no (x := x) (good_pop h)
    rw [parOf]
    show _ ↔ (covQ s Q x || (decide ((Q s).1 = x) || decide ((Q s).2 = x))) = false
    by_cases e1 : x = (Q s).1
    · rw [if_pos e1]
      refine ⟨fun q => absurd q (nI_nm1 (by omega)), fun q => ?_⟩
      rw [e1] at q; simp at q
    · rw [if_neg e1]
      by_cases e2 : x = (Q s).2
      · rw [if_pos e2]
        refine ⟨fun q => absurd q (nI_nm1 (by omega)), fun q => ?_⟩
        rw [e2] at q; simp at q
      · rw [if_neg e2, ih]
        have e3 : ¬ (Q s).1 = x := fun q => e1 q.symm
        have e4 : ¬ (Q s).2 = x := fun q => e2 q.symm
        simp [e3, e4]
/-- a cell's partner is its pair's other cell -/
theorem parOf_is {F : Nat} {Q : Nat → Nat × Nat} {x : Nat} : ∀ {s : Nat}, goodQ F s Q → parOf s Q x ≠ -1 → ∃ i, i < s ∧ ((x = (Q i).1 ∧ parOf s Q x = nI (Q i).2) ∨ (x = (Q i).2 ∧ parOf s Q x = nI (Q i).1))
  | 0, _, h => absurd rfl h
  | s + 1, hg, h => by
    rw [parOf] at h ⊢
    by_cases e1 : x = (Q s).1
    · rw [if_pos e1]
      exact ⟨s, by omega, Or.inl ⟨e1, rfl⟩⟩
    · rw [if_neg e1] at h ⊢
      by_cases e2 : x = (Q s).2
      · rw [if_pos e2]
        exact ⟨s, by omega, Or.inr ⟨e2, rfl⟩⟩
      · rw [if_neg e2] at h ⊢
        obtain ⟨i, hi, q⟩ := parOf_is (good_pop hg) h
        exact ⟨i, by omega, q⟩
theorem parOf_at {F : Nat} {Q : Nat → Nat × Nat} {i : Nat} : ∀ {s : Nat}, goodQ F s Q → i < s → parOf s Q (Q i).1 = nI (Q i).2 ∧ parOf s Q (Q i).2 = nI (Q i).1
  | 0, _, h => absurd h (Nat.not_lt_zero _)
  | s + 1, hg, h => by
    have g := hg s (by omega)
    rw [parOf, parOf]
    by_cases e : i = s
    · subst e
      rw [if_pos rfl, if_neg (by omega), if_pos rfl]
      exact ⟨rfl, rfl⟩
    · have ih := parOf_at (good_pop hg) (show i < s by omega)
      have c1 := anyN_not.mp g.2.2.1 i (by omega)
      have c2 := anyN_not.mp g.2.2.2.1 i (by omega)
      simp at c1 c2
      rw [if_neg c1.1, if_neg c2.1, if_neg c1.2, if_neg c2.2]
      exact ih
