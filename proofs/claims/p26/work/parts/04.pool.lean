/-! THE POOL: every object and array of a run is a cell of one picture: addresses, the kind of each (a class's number; 8 int[], 9 State[], 10 long[]), lengths, and what each holds by address and place. -/
abbrev Hp : Type := List Nat × (Nat → Nat) × (Nat → Nat) × (Nat → Nat → Int32) × (Nat → Nat → Option Nat) × (Nat → Nat → Int64)
def hL (S : Hp) : List Nat := S.1
def hK (S : Hp) (a : Nat) : Nat := S.2.1 a
def hN (S : Hp) (a : Nat) : Nat := S.2.2.1 a
def hI (S : Hp) (a k : Nat) : Int32 := S.2.2.2.1 a k
def hR (S : Hp) (a k : Nat) : Option Nat := S.2.2.2.2.1 a k
def hJ (S : Hp) (a k : Nat) : Int64 := S.2.2.2.2.2 a k
def u2 {α : Type} (f : Nat → Nat → α) (a k : Nat) (v : α) : Nat → Nat → α := fun b j => if b = a ∧ j = k then v else f b j
def u1 {α : Type} (f : Nat → Nat → α) (a : Nat) (g : Nat → α) : Nat → Nat → α := fun b j => if b = a then g j else f b j
def sI (S : Hp) (a k : Nat) (v : Int32) : Hp := (S.1, S.2.1, S.2.2.1, u2 S.2.2.2.1 a k v, S.2.2.2.2.1, S.2.2.2.2.2)
def sR (S : Hp) (a k : Nat) (v : Option Nat) : Hp := (S.1, S.2.1, S.2.2.1, S.2.2.2.1, u2 S.2.2.2.2.1 a k v, S.2.2.2.2.2)
def sJ (S : Hp) (a k : Nat) (v : Int64) : Hp := (S.1, S.2.1, S.2.2.1, S.2.2.2.1, S.2.2.2.2.1, u2 S.2.2.2.2.2 a k v)
/-- a new cell: nothing but zeros and nulls in it -/
def sNew (S : Hp) (a kd n : Nat) : Hp := (S.1 ++ [a], va_up S.2.1 a kd, va_up S.2.2.1 a n, u1 S.2.2.2.1 a (fun _ => 0), u1 S.2.2.2.2.1 a (fun _ => none), u1 S.2.2.2.2.2 a (fun _ => 0))
abbrev ok (S : Hp) (a k : Nat) : Prop := a ∈ hL S ∧ hK S a = k
theorem hL_sI (S : Hp) (a k : Nat) (v : Int32) : hL (sI S a k v) = hL S := rfl
theorem hK_sI (S : Hp) (a k : Nat) (v : Int32) : hK (sI S a k v) = hK S := rfl
theorem hN_sI (S : Hp) (a k : Nat) (v : Int32) : hN (sI S a k v) = hN S := rfl
theorem hR_sI (S : Hp) (a k : Nat) (v : Int32) : hR (sI S a k v) = hR S := rfl
theorem hJ_sI (S : Hp) (a k : Nat) (v : Int32) : hJ (sI S a k v) = hJ S := rfl
theorem hI_sI (S : Hp) (a k : Nat) (v : Int32) (b j : Nat) : hI (sI S a k v) b j = if b = a ∧ j = k then v else hI S b j := rfl
theorem hL_sR (S : Hp) (a k : Nat) (v : Option Nat) : hL (sR S a k v) = hL S := rfl
theorem hK_sR (S : Hp) (a k : Nat) (v : Option Nat) : hK (sR S a k v) = hK S := rfl
theorem hN_sR (S : Hp) (a k : Nat) (v : Option Nat) : hN (sR S a k v) = hN S := rfl
theorem hI_sR (S : Hp) (a k : Nat) (v : Option Nat) : hI (sR S a k v) = hI S := rfl
theorem hJ_sR (S : Hp) (a k : Nat) (v : Option Nat) : hJ (sR S a k v) = hJ S := rfl
theorem hR_sR (S : Hp) (a k : Nat) (v : Option Nat) (b j : Nat) : hR (sR S a k v) b j = if b = a ∧ j = k then v else hR S b j := rfl
theorem hL_sJ (S : Hp) (a k : Nat) (v : Int64) : hL (sJ S a k v) = hL S := rfl
theorem hK_sJ (S : Hp) (a k : Nat) (v : Int64) : hK (sJ S a k v) = hK S := rfl
theorem hN_sJ (S : Hp) (a k : Nat) (v : Int64) : hN (sJ S a k v) = hN S := rfl
theorem hI_sJ (S : Hp) (a k : Nat) (v : Int64) : hI (sJ S a k v) = hI S := rfl
theorem hR_sJ (S : Hp) (a k : Nat) (v : Int64) : hR (sJ S a k v) = hR S := rfl
theorem hJ_sJ (S : Hp) (a k : Nat) (v : Int64) (b j : Nat) : hJ (sJ S a k v) b j = if b = a ∧ j = k then v else hJ S b j := rfl
theorem hL_sNew (S : Hp) (a kd n : Nat) : hL (sNew S a kd n) = hL S ++ [a] := rfl
theorem hK_sNew (S : Hp) (a kd n b : Nat) : hK (sNew S a kd n) b = if b = a then kd else hK S b := rfl
theorem hN_sNew (S : Hp) (a kd n b : Nat) : hN (sNew S a kd n) b = if b = a then n else hN S b := rfl
theorem hI_sNew (S : Hp) (a kd n b j : Nat) : hI (sNew S a kd n) b j = if b = a then 0 else hI S b j := rfl
theorem hR_sNew (S : Hp) (a kd n b j : Nat) : hR (sNew S a kd n) b j = if b = a then none else hR S b j := rfl
theorem hJ_sNew (S : Hp) (a kd n b j : Nat) : hJ (sNew S a kd n) b j = if b = a then 0 else hJ S b j := rfl
/-- the classes of int[], State[], long[] -/
abbrev C3 : Type := ClassId × ClassId × ClassId
def wF (C : C3) (S : Hp) (a : Nat) : va_E :=
  if hK S a = 0 then .inr (0, [va_rf (hR S a 0), .int (hI S a 1)]) else
  if hK S a = 1 then .inr (1, [va_rf (hR S a 0), .int (hI S a 1), .int (hI S a 2), .int (hI S a 3), .int (hI S a 4), .int (hI S a 5)]) else
  if hK S a = 2 then .inr (2, [va_rf (hR S a 0), .int (hI S a 1), .int (hI S a 2), va_rf (hR S a 3), .int (hI S a 4), .int (hI S a 5)]) else
  if hK S a = 3 then .inr (3, [va_rf (hR S a 0), .int (hI S a 1), .int (hI S a 2), va_rf (hR S a 3), .int (hI S a 4), va_rf (hR S a 5)]) else
  if hK S a = 4 then .inr (4, [va_rf (hR S a 0), .int (hI S a 1), .int (hI S a 2), .int (hI S a 3), .int (hI S a 4), .int (hI S a 5), .int (hI S a 6), .int (hI S a 7), .int (hI S a 8), .int (hI S a 9)]) else
  if hK S a = 5 then .inr (5, [va_rf (hR S a 0), .int (hI S a 1)]) else
  if hK S a = 6 then .inr (6, [va_rf (hR S a 0), va_rf (hR S a 1), va_rf (hR S a 2), va_rf (hR S a 3), va_rf (hR S a 4), va_rf (hR S a 5), va_rf (hR S a 6)]) else
  if hK S a = 8 then .inl (C.1, hN S a, .inl (hI S a)) else
  if hK S a = 9 then .inl (C.2.1, hN S a, .inr (.inr (.inr (.inr (hR S a))))) else .inl (C.2.2, hN S a, .inr (.inl (hJ S a)))
theorem wF_0 {C : C3} {S : Hp} {a : Nat} (h : hK S a = 0) : wF C S a = .inr (0, [va_rf (hR S a 0), .int (hI S a 1)]) := by simp [wF, h]
theorem wF_1 {C : C3} {S : Hp} {a : Nat} (h : hK S a = 1) : wF C S a = .inr (1, [va_rf (hR S a 0), .int (hI S a 1), .int (hI S a 2), .int (hI S a 3), .int (hI S a 4), .int (hI S a 5)]) := by simp [wF, h]
theorem wF_2 {C : C3} {S : Hp} {a : Nat} (h : hK S a = 2) : wF C S a = .inr (2, [va_rf (hR S a 0), .int (hI S a 1), .int (hI S a 2), va_rf (hR S a 3), .int (hI S a 4), .int (hI S a 5)]) := by simp [wF, h]
theorem wF_3 {C : C3} {S : Hp} {a : Nat} (h : hK S a = 3) : wF C S a = .inr (3, [va_rf (hR S a 0), .int (hI S a 1), .int (hI S a 2), va_rf (hR S a 3), .int (hI S a 4), va_rf (hR S a 5)]) := by simp [wF, h]
theorem wF_4 {C : C3} {S : Hp} {a : Nat} (h : hK S a = 4) : wF C S a = .inr (4, [va_rf (hR S a 0), .int (hI S a 1), .int (hI S a 2), .int (hI S a 3), .int (hI S a 4), .int (hI S a 5), .int (hI S a 6), .int (hI S a 7), .int (hI S a 8), .int (hI S a 9)]) := by simp [wF, h]
theorem wF_5 {C : C3} {S : Hp} {a : Nat} (h : hK S a = 5) : wF C S a = .inr (5, [va_rf (hR S a 0), .int (hI S a 1)]) := by simp [wF, h]
theorem wF_6 {C : C3} {S : Hp} {a : Nat} (h : hK S a = 6) : wF C S a = .inr (6, [va_rf (hR S a 0), va_rf (hR S a 1), va_rf (hR S a 2), va_rf (hR S a 3), va_rf (hR S a 4), va_rf (hR S a 5), va_rf (hR S a 6)]) := by simp [wF, h]
theorem wF_8 {C : C3} {S : Hp} {a : Nat} (h : hK S a = 8) : wF C S a = .inl (C.1, hN S a, .inl (hI S a)) := by simp [wF, h]
theorem wF_9 {C : C3} {S : Hp} {a : Nat} (h : hK S a = 9) : wF C S a = .inl (C.2.1, hN S a, .inr (.inr (.inr (.inr (hR S a))))) := by simp [wF, h]
theorem wF_10 {C : C3} {S : Hp} {a : Nat} (h : hK S a = 10) : wF C S a = .inl (C.2.2, hN S a, .inr (.inl (hJ S a))) := by simp [wF, h]
theorem wF_congr {C : C3} {S T : Hp} {b : Nat} (h1 : hK T b = hK S b) (h2 : hN T b = hN S b) (h3 : hI T b = hI S b) (h4 : hR T b = hR S b) (h5 : hJ T b = hJ S b) : wF C T b = wF C S b := by
  unfold wF
  rw [h1, h2, h3, h4, h5]
theorem wF_sI_ne {C : C3} {S : Hp} {a b k : Nat} {v : Int32} (h : ¬ b = a) : wF C (sI S a k v) b = wF C S b := by
  refine wF_congr rfl rfl ?_ rfl rfl
  funext j
  rw [hI_sI, if_neg (fun q => h q.1)]
theorem wF_sR_ne {C : C3} {S : Hp} {a b k : Nat} {v : Option Nat} (h : ¬ b = a) : wF C (sR S a k v) b = wF C S b := by
  refine wF_congr rfl rfl rfl ?_ rfl
  funext j
  rw [hR_sR, if_neg (fun q => h q.1)]
theorem wF_sJ_ne {C : C3} {S : Hp} {a b k : Nat} {v : Int64} (h : ¬ b = a) : wF C (sJ S a k v) b = wF C S b := by
  refine wF_congr rfl rfl rfl rfl ?_
  funext j
  rw [hJ_sJ, if_neg (fun q => h q.1)]
theorem wF_sNew_ne {C : C3} {S : Hp} {a b kd n : Nat} (h : ¬ b = a) : wF C (sNew S a kd n) b = wF C S b := by
  refine wF_congr ?_ ?_ ?_ ?_ ?_
  · rw [hK_sNew, if_neg h]
  · rw [hN_sNew, if_neg h]
  · funext j; rw [hI_sNew, if_neg h]
  · funext j; rw [hR_sNew, if_neg h]
  · funext j; rw [hJ_sNew, if_neg h]
theorem wF_up {C : C3} {S T : Hp} {a : Nat} {e : va_E} (h1 : ∀ b, ¬ b = a → wF C T b = wF C S b) (h2 : wF C T a = e) : va_up (wF C S) a e = wF C T := by
  funext b
  by_cases hb : b = a
  · subst hb; rw [h2]; simp [va_up]
  · rw [h1 b hb]; simp [va_up, hb]
theorem wq_0_0 {C : C3} {S : Hp} {a : Nat} (h : hK S a = 0) (v : Option Nat) : wF C (sR S a 0 v) a = .inr (0, ([va_rf (hR S a 0), .int (hI S a 1)] : List Value).set 0 (va_rf v)) := (wF_0 (S := sR S a 0 v) h).trans (by simp [hI_sI, hR_sR, hJ_sJ, hR_sI, hJ_sI, hI_sR, hJ_sR, hI_sJ, hR_sJ])
theorem wq_0_1 {C : C3} {S : Hp} {a : Nat} (h : hK S a = 0) (v : Int32) : wF C (sI S a 1 v) a = .inr (0, ([va_rf (hR S a 0), .int (hI S a 1)] : List Value).set 1 (.int v)) := (wF_0 (S := sI S a 1 v) h).trans (by simp [hI_sI, hR_sR, hJ_sJ, hR_sI, hJ_sI, hI_sR, hJ_sR, hI_sJ, hR_sJ])
theorem wq_1_0 {C : C3} {S : Hp} {a : Nat} (h : hK S a = 1) (v : Option Nat) : wF C (sR S a 0 v) a = .inr (1, ([va_rf (hR S a 0), .int (hI S a 1), .int (hI S a 2), .int (hI S a 3), .int (hI S a 4), .int (hI S a 5)] : List Value).set 0 (va_rf v)) := (wF_1 (S := sR S a 0 v) h).trans (by simp [hI_sI, hR_sR, hJ_sJ, hR_sI, hJ_sI, hI_sR, hJ_sR, hI_sJ, hR_sJ])
theorem wq_1_1 {C : C3} {S : Hp} {a : Nat} (h : hK S a = 1) (v : Int32) : wF C (sI S a 1 v) a = .inr (1, ([va_rf (hR S a 0), .int (hI S a 1), .int (hI S a 2), .int (hI S a 3), .int (hI S a 4), .int (hI S a 5)] : List Value).set 1 (.int v)) := (wF_1 (S := sI S a 1 v) h).trans (by simp [hI_sI, hR_sR, hJ_sJ, hR_sI, hJ_sI, hI_sR, hJ_sR, hI_sJ, hR_sJ])
theorem wq_1_2 {C : C3} {S : Hp} {a : Nat} (h : hK S a = 1) (v : Int32) : wF C (sI S a 2 v) a = .inr (1, ([va_rf (hR S a 0), .int (hI S a 1), .int (hI S a 2), .int (hI S a 3), .int (hI S a 4), .int (hI S a 5)] : List Value).set 2 (.int v)) := (wF_1 (S := sI S a 2 v) h).trans (by simp [hI_sI, hR_sR, hJ_sJ, hR_sI, hJ_sI, hI_sR, hJ_sR, hI_sJ, hR_sJ])
theorem wq_1_3 {C : C3} {S : Hp} {a : Nat} (h : hK S a = 1) (v : Int32) : wF C (sI S a 3 v) a = .inr (1, ([va_rf (hR S a 0), .int (hI S a 1), .int (hI S a 2), .int (hI S a 3), .int (hI S a 4), .int (hI S a 5)] : List Value).set 3 (.int v)) := (wF_1 (S := sI S a 3 v) h).trans (by simp [hI_sI, hR_sR, hJ_sJ, hR_sI, hJ_sI, hI_sR, hJ_sR, hI_sJ, hR_sJ])
theorem wq_1_4 {C : C3} {S : Hp} {a : Nat} (h : hK S a = 1) (v : Int32) : wF C (sI S a 4 v) a = .inr (1, ([va_rf (hR S a 0), .int (hI S a 1), .int (hI S a 2), .int (hI S a 3), .int (hI S a 4), .int (hI S a 5)] : List Value).set 4 (.int v)) := (wF_1 (S := sI S a 4 v) h).trans (by simp [hI_sI, hR_sR, hJ_sJ, hR_sI, hJ_sI, hI_sR, hJ_sR, hI_sJ, hR_sJ])
theorem wq_1_5 {C : C3} {S : Hp} {a : Nat} (h : hK S a = 1) (v : Int32) : wF C (sI S a 5 v) a = .inr (1, ([va_rf (hR S a 0), .int (hI S a 1), .int (hI S a 2), .int (hI S a 3), .int (hI S a 4), .int (hI S a 5)] : List Value).set 5 (.int v)) := (wF_1 (S := sI S a 5 v) h).trans (by simp [hI_sI, hR_sR, hJ_sJ, hR_sI, hJ_sI, hI_sR, hJ_sR, hI_sJ, hR_sJ])
theorem wq_2_0 {C : C3} {S : Hp} {a : Nat} (h : hK S a = 2) (v : Option Nat) : wF C (sR S a 0 v) a = .inr (2, ([va_rf (hR S a 0), .int (hI S a 1), .int (hI S a 2), va_rf (hR S a 3), .int (hI S a 4), .int (hI S a 5)] : List Value).set 0 (va_rf v)) := (wF_2 (S := sR S a 0 v) h).trans (by simp [hI_sI, hR_sR, hJ_sJ, hR_sI, hJ_sI, hI_sR, hJ_sR, hI_sJ, hR_sJ])
theorem wq_2_1 {C : C3} {S : Hp} {a : Nat} (h : hK S a = 2) (v : Int32) : wF C (sI S a 1 v) a = .inr (2, ([va_rf (hR S a 0), .int (hI S a 1), .int (hI S a 2), va_rf (hR S a 3), .int (hI S a 4), .int (hI S a 5)] : List Value).set 1 (.int v)) := (wF_2 (S := sI S a 1 v) h).trans (by simp [hI_sI, hR_sR, hJ_sJ, hR_sI, hJ_sI, hI_sR, hJ_sR, hI_sJ, hR_sJ])
theorem wq_2_2 {C : C3} {S : Hp} {a : Nat} (h : hK S a = 2) (v : Int32) : wF C (sI S a 2 v) a = .inr (2, ([va_rf (hR S a 0), .int (hI S a 1), .int (hI S a 2), va_rf (hR S a 3), .int (hI S a 4), .int (hI S a 5)] : List Value).set 2 (.int v)) := (wF_2 (S := sI S a 2 v) h).trans (by simp [hI_sI, hR_sR, hJ_sJ, hR_sI, hJ_sI, hI_sR, hJ_sR, hI_sJ, hR_sJ])
theorem wq_2_3 {C : C3} {S : Hp} {a : Nat} (h : hK S a = 2) (v : Option Nat) : wF C (sR S a 3 v) a = .inr (2, ([va_rf (hR S a 0), .int (hI S a 1), .int (hI S a 2), va_rf (hR S a 3), .int (hI S a 4), .int (hI S a 5)] : List Value).set 3 (va_rf v)) := (wF_2 (S := sR S a 3 v) h).trans (by simp [hI_sI, hR_sR, hJ_sJ, hR_sI, hJ_sI, hI_sR, hJ_sR, hI_sJ, hR_sJ])
theorem wq_2_4 {C : C3} {S : Hp} {a : Nat} (h : hK S a = 2) (v : Int32) : wF C (sI S a 4 v) a = .inr (2, ([va_rf (hR S a 0), .int (hI S a 1), .int (hI S a 2), va_rf (hR S a 3), .int (hI S a 4), .int (hI S a 5)] : List Value).set 4 (.int v)) := (wF_2 (S := sI S a 4 v) h).trans (by simp [hI_sI, hR_sR, hJ_sJ, hR_sI, hJ_sI, hI_sR, hJ_sR, hI_sJ, hR_sJ])
theorem wq_2_5 {C : C3} {S : Hp} {a : Nat} (h : hK S a = 2) (v : Int32) : wF C (sI S a 5 v) a = .inr (2, ([va_rf (hR S a 0), .int (hI S a 1), .int (hI S a 2), va_rf (hR S a 3), .int (hI S a 4), .int (hI S a 5)] : List Value).set 5 (.int v)) := (wF_2 (S := sI S a 5 v) h).trans (by simp [hI_sI, hR_sR, hJ_sJ, hR_sI, hJ_sI, hI_sR, hJ_sR, hI_sJ, hR_sJ])
theorem wq_3_0 {C : C3} {S : Hp} {a : Nat} (h : hK S a = 3) (v : Option Nat) : wF C (sR S a 0 v) a = .inr (3, ([va_rf (hR S a 0), .int (hI S a 1), .int (hI S a 2), va_rf (hR S a 3), .int (hI S a 4), va_rf (hR S a 5)] : List Value).set 0 (va_rf v)) := (wF_3 (S := sR S a 0 v) h).trans (by simp [hI_sI, hR_sR, hJ_sJ, hR_sI, hJ_sI, hI_sR, hJ_sR, hI_sJ, hR_sJ])
theorem wq_3_1 {C : C3} {S : Hp} {a : Nat} (h : hK S a = 3) (v : Int32) : wF C (sI S a 1 v) a = .inr (3, ([va_rf (hR S a 0), .int (hI S a 1), .int (hI S a 2), va_rf (hR S a 3), .int (hI S a 4), va_rf (hR S a 5)] : List Value).set 1 (.int v)) := (wF_3 (S := sI S a 1 v) h).trans (by simp [hI_sI, hR_sR, hJ_sJ, hR_sI, hJ_sI, hI_sR, hJ_sR, hI_sJ, hR_sJ])
theorem wq_3_2 {C : C3} {S : Hp} {a : Nat} (h : hK S a = 3) (v : Int32) : wF C (sI S a 2 v) a = .inr (3, ([va_rf (hR S a 0), .int (hI S a 1), .int (hI S a 2), va_rf (hR S a 3), .int (hI S a 4), va_rf (hR S a 5)] : List Value).set 2 (.int v)) := (wF_3 (S := sI S a 2 v) h).trans (by simp [hI_sI, hR_sR, hJ_sJ, hR_sI, hJ_sI, hI_sR, hJ_sR, hI_sJ, hR_sJ])
theorem wq_3_3 {C : C3} {S : Hp} {a : Nat} (h : hK S a = 3) (v : Option Nat) : wF C (sR S a 3 v) a = .inr (3, ([va_rf (hR S a 0), .int (hI S a 1), .int (hI S a 2), va_rf (hR S a 3), .int (hI S a 4), va_rf (hR S a 5)] : List Value).set 3 (va_rf v)) := (wF_3 (S := sR S a 3 v) h).trans (by simp [hI_sI, hR_sR, hJ_sJ, hR_sI, hJ_sI, hI_sR, hJ_sR, hI_sJ, hR_sJ])
theorem wq_3_4 {C : C3} {S : Hp} {a : Nat} (h : hK S a = 3) (v : Int32) : wF C (sI S a 4 v) a = .inr (3, ([va_rf (hR S a 0), .int (hI S a 1), .int (hI S a 2), va_rf (hR S a 3), .int (hI S a 4), va_rf (hR S a 5)] : List Value).set 4 (.int v)) := (wF_3 (S := sI S a 4 v) h).trans (by simp [hI_sI, hR_sR, hJ_sJ, hR_sI, hJ_sI, hI_sR, hJ_sR, hI_sJ, hR_sJ])
theorem wq_3_5 {C : C3} {S : Hp} {a : Nat} (h : hK S a = 3) (v : Option Nat) : wF C (sR S a 5 v) a = .inr (3, ([va_rf (hR S a 0), .int (hI S a 1), .int (hI S a 2), va_rf (hR S a 3), .int (hI S a 4), va_rf (hR S a 5)] : List Value).set 5 (va_rf v)) := (wF_3 (S := sR S a 5 v) h).trans (by simp [hI_sI, hR_sR, hJ_sJ, hR_sI, hJ_sI, hI_sR, hJ_sR, hI_sJ, hR_sJ])
theorem wq_4_0 {C : C3} {S : Hp} {a : Nat} (h : hK S a = 4) (v : Option Nat) : wF C (sR S a 0 v) a = .inr (4, ([va_rf (hR S a 0), .int (hI S a 1), .int (hI S a 2), .int (hI S a 3), .int (hI S a 4), .int (hI S a 5), .int (hI S a 6), .int (hI S a 7), .int (hI S a 8), .int (hI S a 9)] : List Value).set 0 (va_rf v)) := (wF_4 (S := sR S a 0 v) h).trans (by simp [hI_sI, hR_sR, hJ_sJ, hR_sI, hJ_sI, hI_sR, hJ_sR, hI_sJ, hR_sJ])
theorem wq_4_1 {C : C3} {S : Hp} {a : Nat} (h : hK S a = 4) (v : Int32) : wF C (sI S a 1 v) a = .inr (4, ([va_rf (hR S a 0), .int (hI S a 1), .int (hI S a 2), .int (hI S a 3), .int (hI S a 4), .int (hI S a 5), .int (hI S a 6), .int (hI S a 7), .int (hI S a 8), .int (hI S a 9)] : List Value).set 1 (.int v)) := (wF_4 (S := sI S a 1 v) h).trans (by simp [hI_sI, hR_sR, hJ_sJ, hR_sI, hJ_sI, hI_sR, hJ_sR, hI_sJ, hR_sJ])
theorem wq_4_2 {C : C3} {S : Hp} {a : Nat} (h : hK S a = 4) (v : Int32) : wF C (sI S a 2 v) a = .inr (4, ([va_rf (hR S a 0), .int (hI S a 1), .int (hI S a 2), .int (hI S a 3), .int (hI S a 4), .int (hI S a 5), .int (hI S a 6), .int (hI S a 7), .int (hI S a 8), .int (hI S a 9)] : List Value).set 2 (.int v)) := (wF_4 (S := sI S a 2 v) h).trans (by simp [hI_sI, hR_sR, hJ_sJ, hR_sI, hJ_sI, hI_sR, hJ_sR, hI_sJ, hR_sJ])
theorem wq_4_3 {C : C3} {S : Hp} {a : Nat} (h : hK S a = 4) (v : Int32) : wF C (sI S a 3 v) a = .inr (4, ([va_rf (hR S a 0), .int (hI S a 1), .int (hI S a 2), .int (hI S a 3), .int (hI S a 4), .int (hI S a 5), .int (hI S a 6), .int (hI S a 7), .int (hI S a 8), .int (hI S a 9)] : List Value).set 3 (.int v)) := (wF_4 (S := sI S a 3 v) h).trans (by simp [hI_sI, hR_sR, hJ_sJ, hR_sI, hJ_sI, hI_sR, hJ_sR, hI_sJ, hR_sJ])
theorem wq_4_4 {C : C3} {S : Hp} {a : Nat} (h : hK S a = 4) (v : Int32) : wF C (sI S a 4 v) a = .inr (4, ([va_rf (hR S a 0), .int (hI S a 1), .int (hI S a 2), .int (hI S a 3), .int (hI S a 4), .int (hI S a 5), .int (hI S a 6), .int (hI S a 7), .int (hI S a 8), .int (hI S a 9)] : List Value).set 4 (.int v)) := (wF_4 (S := sI S a 4 v) h).trans (by simp [hI_sI, hR_sR, hJ_sJ, hR_sI, hJ_sI, hI_sR, hJ_sR, hI_sJ, hR_sJ])
theorem wq_4_5 {C : C3} {S : Hp} {a : Nat} (h : hK S a = 4) (v : Int32) : wF C (sI S a 5 v) a = .inr (4, ([va_rf (hR S a 0), .int (hI S a 1), .int (hI S a 2), .int (hI S a 3), .int (hI S a 4), .int (hI S a 5), .int (hI S a 6), .int (hI S a 7), .int (hI S a 8), .int (hI S a 9)] : List Value).set 5 (.int v)) := (wF_4 (S := sI S a 5 v) h).trans (by simp [hI_sI, hR_sR, hJ_sJ, hR_sI, hJ_sI, hI_sR, hJ_sR, hI_sJ, hR_sJ])
theorem wq_4_6 {C : C3} {S : Hp} {a : Nat} (h : hK S a = 4) (v : Int32) : wF C (sI S a 6 v) a = .inr (4, ([va_rf (hR S a 0), .int (hI S a 1), .int (hI S a 2), .int (hI S a 3), .int (hI S a 4), .int (hI S a 5), .int (hI S a 6), .int (hI S a 7), .int (hI S a 8), .int (hI S a 9)] : List Value).set 6 (.int v)) := (wF_4 (S := sI S a 6 v) h).trans (by simp [hI_sI, hR_sR, hJ_sJ, hR_sI, hJ_sI, hI_sR, hJ_sR, hI_sJ, hR_sJ])
theorem wq_4_7 {C : C3} {S : Hp} {a : Nat} (h : hK S a = 4) (v : Int32) : wF C (sI S a 7 v) a = .inr (4, ([va_rf (hR S a 0), .int (hI S a 1), .int (hI S a 2), .int (hI S a 3), .int (hI S a 4), .int (hI S a 5), .int (hI S a 6), .int (hI S a 7), .int (hI S a 8), .int (hI S a 9)] : List Value).set 7 (.int v)) := (wF_4 (S := sI S a 7 v) h).trans (by simp [hI_sI, hR_sR, hJ_sJ, hR_sI, hJ_sI, hI_sR, hJ_sR, hI_sJ, hR_sJ])
theorem wq_4_8 {C : C3} {S : Hp} {a : Nat} (h : hK S a = 4) (v : Int32) : wF C (sI S a 8 v) a = .inr (4, ([va_rf (hR S a 0), .int (hI S a 1), .int (hI S a 2), .int (hI S a 3), .int (hI S a 4), .int (hI S a 5), .int (hI S a 6), .int (hI S a 7), .int (hI S a 8), .int (hI S a 9)] : List Value).set 8 (.int v)) := (wF_4 (S := sI S a 8 v) h).trans (by simp [hI_sI, hR_sR, hJ_sJ, hR_sI, hJ_sI, hI_sR, hJ_sR, hI_sJ, hR_sJ])
theorem wq_4_9 {C : C3} {S : Hp} {a : Nat} (h : hK S a = 4) (v : Int32) : wF C (sI S a 9 v) a = .inr (4, ([va_rf (hR S a 0), .int (hI S a 1), .int (hI S a 2), .int (hI S a 3), .int (hI S a 4), .int (hI S a 5), .int (hI S a 6), .int (hI S a 7), .int (hI S a 8), .int (hI S a 9)] : List Value).set 9 (.int v)) := (wF_4 (S := sI S a 9 v) h).trans (by simp [hI_sI, hR_sR, hJ_sJ, hR_sI, hJ_sI, hI_sR, hJ_sR, hI_sJ, hR_sJ])
theorem wq_5_0 {C : C3} {S : Hp} {a : Nat} (h : hK S a = 5) (v : Option Nat) : wF C (sR S a 0 v) a = .inr (5, ([va_rf (hR S a 0), .int (hI S a 1)] : List Value).set 0 (va_rf v)) := (wF_5 (S := sR S a 0 v) h).trans (by simp [hI_sI, hR_sR, hJ_sJ, hR_sI, hJ_sI, hI_sR, hJ_sR, hI_sJ, hR_sJ])
theorem wq_5_1 {C : C3} {S : Hp} {a : Nat} (h : hK S a = 5) (v : Int32) : wF C (sI S a 1 v) a = .inr (5, ([va_rf (hR S a 0), .int (hI S a 1)] : List Value).set 1 (.int v)) := (wF_5 (S := sI S a 1 v) h).trans (by simp [hI_sI, hR_sR, hJ_sJ, hR_sI, hJ_sI, hI_sR, hJ_sR, hI_sJ, hR_sJ])
theorem wq_6_0 {C : C3} {S : Hp} {a : Nat} (h : hK S a = 6) (v : Option Nat) : wF C (sR S a 0 v) a = .inr (6, ([va_rf (hR S a 0), va_rf (hR S a 1), va_rf (hR S a 2), va_rf (hR S a 3), va_rf (hR S a 4), va_rf (hR S a 5), va_rf (hR S a 6)] : List Value).set 0 (va_rf v)) := (wF_6 (S := sR S a 0 v) h).trans (by simp [hI_sI, hR_sR, hJ_sJ, hR_sI, hJ_sI, hI_sR, hJ_sR, hI_sJ, hR_sJ])
theorem wq_6_1 {C : C3} {S : Hp} {a : Nat} (h : hK S a = 6) (v : Option Nat) : wF C (sR S a 1 v) a = .inr (6, ([va_rf (hR S a 0), va_rf (hR S a 1), va_rf (hR S a 2), va_rf (hR S a 3), va_rf (hR S a 4), va_rf (hR S a 5), va_rf (hR S a 6)] : List Value).set 1 (va_rf v)) := (wF_6 (S := sR S a 1 v) h).trans (by simp [hI_sI, hR_sR, hJ_sJ, hR_sI, hJ_sI, hI_sR, hJ_sR, hI_sJ, hR_sJ])
theorem wq_6_2 {C : C3} {S : Hp} {a : Nat} (h : hK S a = 6) (v : Option Nat) : wF C (sR S a 2 v) a = .inr (6, ([va_rf (hR S a 0), va_rf (hR S a 1), va_rf (hR S a 2), va_rf (hR S a 3), va_rf (hR S a 4), va_rf (hR S a 5), va_rf (hR S a 6)] : List Value).set 2 (va_rf v)) := (wF_6 (S := sR S a 2 v) h).trans (by simp [hI_sI, hR_sR, hJ_sJ, hR_sI, hJ_sI, hI_sR, hJ_sR, hI_sJ, hR_sJ])
theorem wq_6_3 {C : C3} {S : Hp} {a : Nat} (h : hK S a = 6) (v : Option Nat) : wF C (sR S a 3 v) a = .inr (6, ([va_rf (hR S a 0), va_rf (hR S a 1), va_rf (hR S a 2), va_rf (hR S a 3), va_rf (hR S a 4), va_rf (hR S a 5), va_rf (hR S a 6)] : List Value).set 3 (va_rf v)) := (wF_6 (S := sR S a 3 v) h).trans (by simp [hI_sI, hR_sR, hJ_sJ, hR_sI, hJ_sI, hI_sR, hJ_sR, hI_sJ, hR_sJ])
theorem wq_6_4 {C : C3} {S : Hp} {a : Nat} (h : hK S a = 6) (v : Option Nat) : wF C (sR S a 4 v) a = .inr (6, ([va_rf (hR S a 0), va_rf (hR S a 1), va_rf (hR S a 2), va_rf (hR S a 3), va_rf (hR S a 4), va_rf (hR S a 5), va_rf (hR S a 6)] : List Value).set 4 (va_rf v)) := (wF_6 (S := sR S a 4 v) h).trans (by simp [hI_sI, hR_sR, hJ_sJ, hR_sI, hJ_sI, hI_sR, hJ_sR, hI_sJ, hR_sJ])
theorem wq_6_5 {C : C3} {S : Hp} {a : Nat} (h : hK S a = 6) (v : Option Nat) : wF C (sR S a 5 v) a = .inr (6, ([va_rf (hR S a 0), va_rf (hR S a 1), va_rf (hR S a 2), va_rf (hR S a 3), va_rf (hR S a 4), va_rf (hR S a 5), va_rf (hR S a 6)] : List Value).set 5 (va_rf v)) := (wF_6 (S := sR S a 5 v) h).trans (by simp [hI_sI, hR_sR, hJ_sJ, hR_sI, hJ_sI, hI_sR, hJ_sR, hI_sJ, hR_sJ])
theorem wq_6_6 {C : C3} {S : Hp} {a : Nat} (h : hK S a = 6) (v : Option Nat) : wF C (sR S a 6 v) a = .inr (6, ([va_rf (hR S a 0), va_rf (hR S a 1), va_rf (hR S a 2), va_rf (hR S a 3), va_rf (hR S a 4), va_rf (hR S a 5), va_rf (hR S a 6)] : List Value).set 6 (va_rf v)) := (wF_6 (S := sR S a 6 v) h).trans (by simp [hI_sI, hR_sR, hJ_sJ, hR_sI, hJ_sI, hI_sR, hJ_sR, hI_sJ, hR_sJ])
theorem wq_8 {C : C3} {S : Hp} {a : Nat} (h : hK S a = 8) (i : Nat) (v : Int32) : wF C (sI S a i v) a = .inl (C.1, hN S a, .inl (upd (hI S a) i v)) := by
  refine (wF_8 (S := sI S a i v) h).trans ?_
  rw [hN_sI]
  congr 4
  funext j
  rw [hI_sI]
  simp [upd]
theorem wq_9 {C : C3} {S : Hp} {a : Nat} (h : hK S a = 9) (i : Nat) (v : Option Nat) : wF C (sR S a i v) a = .inl (C.2.1, hN S a, .inr (.inr (.inr (.inr (va_up (hR S a) i v))))) := by
  refine (wF_9 (S := sR S a i v) h).trans ?_
  rw [hN_sR]
  congr 7
  funext j
  rw [hR_sR]
  simp [va_up]
theorem wq_10 {C : C3} {S : Hp} {a : Nat} (h : hK S a = 10) (i : Nat) (v : Int64) : wF C (sJ S a i v) a = .inl (C.2.2, hN S a, .inr (.inl (vp_updL (hJ S a) i v))) := by
  refine (wF_10 (S := sJ S a i v) h).trans ?_
  rw [hN_sJ]
  congr 5
  funext j
  rw [hJ_sJ]
  simp [vp_updL]
def wP (C : C3) (S : Hp) : va_W := va_pl (hL S) (wF C S)
theorem wP_at {C : C3} {S : Hp} {a : Nat} (h : a ∈ hL S) : ∃ k : Nat, (wP C S)[k]? = some (a, wF C S a) := List.getElem?_of_mem (List.mem_map.mpr ⟨a, h, rfl⟩)
theorem wP_set {C : C3} {A : Nat → Prop} {S T : Hp} {a k : Nat} {e : va_E} (hD : va_D A (wP C S)) (h : a ∈ hL S) (hk : (wP C S)[k]? = some (a, wF C S a)) (hL' : hL T = hL S) (h1 : ∀ b, ¬ b = a → wF C T b = wF C S b) (h2 : wF C T a = e) : (wP C S).set k (a, e) = wP C T := by
  have q := va_pl_set (X := []) (e := e) hD h hk
  rw [wF_up h1 h2] at q
  unfold wP
  rw [hL']
  exact q
theorem wP_push {C : C3} {S : Hp} {a kd n : Nat} {e : va_E} (h : a ∉ hL S) (h2 : wF C (sNew S a kd n) a = e) : wP C S ++ [(a, e)] = wP C (sNew S a kd n) := by
  have q := va_pl_push (f := wF C S) (e := e) h
  rw [wF_up (T := sNew S a kd n) (fun b hb => wF_sNew_ne hb) h2] at q
  exact q
abbrev tysC (C : C3) : List (ClassId × FieldType) := [(C.1, .int), (C.2.1, .object RX4)]
/-- links among nest mates that a method's own words don't hold -/
def nestL : List (String × Nat × MethodName) := [(RX2, 53, yX6_lowestOf), (RX4, 84, yX6_lowestOf), (RX2, 11, yX1_init), (RX3, 11, yX1_init), (RX4, 11, yX1_init), (RX6, 11, yX4_init), (RX6, 21, yX0_init), (RX0, 24, yX4_init), (RX6, 32, yX5_init), (RX6, 39, yX2_init)]
def nestOk (U : State) : Prop := (∀ q ∈ nestL, va_Nw (.methodLinkNest q.1 q.2.1 q.2.2 RX6) U) ∧ va_AO RX4 U
theorem nestOk.moved {s U : State} (hW : s.WarmedH U.vm) (h : nestOk s) : nestOk U := ⟨fun q hq => va_Nw.warmM hW (h.1 q hq), va_AO.moved hW.alike h.2⟩
/-- the world as it stands: the pool S in the heap H of z cells; since H0 nothing outside A has changed -/
def Wd (D : va_G) (C : C3) (A : Nat → Prop) (H0 : Heap) (S : Hp) (z : Nat) (H : Heap) (locs : List Loc) (s : State) : Prop :=
  va_P D vwCl (wP C S) H ∧ va_D A (wP C S) ∧ va_K D vwCl (tysC C) s ∧ va_S A H0 H locs ∧ (∀ q, H0.size ≤ q → A q) ∧ H.size = z ∧ nestOk s
theorem wn_0 {C : C3} {S : Hp} {a n : Nat} : wF C (sNew S a 0 n) a = .inr (0, [.null, .int 0]) := by rw [wF_0 (by simp [hK_sNew])]; simp [hI_sNew, hR_sNew, hJ_sNew, va_rf]
theorem wn_1 {C : C3} {S : Hp} {a n : Nat} : wF C (sNew S a 1 n) a = .inr (1, [.null, .int 0, .int 0, .int 0, .int 0, .int 0]) := by rw [wF_1 (by simp [hK_sNew])]; simp [hI_sNew, hR_sNew, hJ_sNew, va_rf]
theorem wn_2 {C : C3} {S : Hp} {a n : Nat} : wF C (sNew S a 2 n) a = .inr (2, [.null, .int 0, .int 0, .null, .int 0, .int 0]) := by rw [wF_2 (by simp [hK_sNew])]; simp [hI_sNew, hR_sNew, hJ_sNew, va_rf]
theorem wn_3 {C : C3} {S : Hp} {a n : Nat} : wF C (sNew S a 3 n) a = .inr (3, [.null, .int 0, .int 0, .null, .int 0, .null]) := by rw [wF_3 (by simp [hK_sNew])]; simp [hI_sNew, hR_sNew, hJ_sNew, va_rf]
theorem wn_4 {C : C3} {S : Hp} {a n : Nat} : wF C (sNew S a 4 n) a = .inr (4, [.null, .int 0, .int 0, .int 0, .int 0, .int 0, .int 0, .int 0, .int 0, .int 0]) := by rw [wF_4 (by simp [hK_sNew])]; simp [hI_sNew, hR_sNew, hJ_sNew, va_rf]
theorem wn_5 {C : C3} {S : Hp} {a n : Nat} : wF C (sNew S a 5 n) a = .inr (5, [.null, .int 0]) := by rw [wF_5 (by simp [hK_sNew])]; simp [hI_sNew, hR_sNew, hJ_sNew, va_rf]
theorem wn_6 {C : C3} {S : Hp} {a n : Nat} : wF C (sNew S a 6 n) a = .inr (6, [.null, .null, .null, .null, .null, .null, .null]) := by rw [wF_6 (by simp [hK_sNew])]; simp [hI_sNew, hR_sNew, hJ_sNew, va_rf]
theorem wn_8 {C : C3} {S : Hp} {a n : Nat} : wF C (sNew S a 8 n) a = .inl (C.1, n, .inl (fun _ => 0)) := by
  rw [wF_8 (by simp [hK_sNew]), hN_sNew, if_pos rfl]
  congr 4
  funext j
  simp [hI_sNew]
theorem wn_9 {C : C3} {S : Hp} {a n : Nat} : wF C (sNew S a 9 n) a = .inl (C.2.1, n, .inr (.inr (.inr (.inr (fun _ => none))))) := by
  rw [wF_9 (by simp [hK_sNew]), hN_sNew, if_pos rfl]
  congr 7
  funext j
  simp [hR_sNew]
theorem wn_10 {C : C3} {S : Hp} {a n : Nat} : wF C (sNew S a 10 n) a = .inl (C.2.2, n, .inr (.inl (fun _ => 0))) := by
  rw [wF_10 (by simp [hK_sNew]), hN_sNew, if_pos rfl]
  congr 5
  funext j
  simp [hJ_sNew]
