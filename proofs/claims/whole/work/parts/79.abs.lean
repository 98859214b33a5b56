/-- all that a run has made: the board, the saved ones, the snapshots, the text -/
abbrev Ab : Type := Bd × (Nat × (Nat → Bd)) × (Nat → Option Bd) × (Nat × (Nat → Nat))
def aN (A : Ab) : Bd := A.1
def aH (A : Ab) : Nat := A.2.1.1
def aHs (A : Ab) : Nat → Bd := A.2.1.2
def aS (A : Ab) : Nat → Option Bd := A.2.2.1
def aL (A : Ab) : Nat := A.2.2.2.1
def aT (A : Ab) : Nat → Nat := A.2.2.2.2
def WfA (A : Ab) : Prop := Wf (aN A) ∧ (aH A ≤ 6 ∧ ∀ j, j < aH A → Wf (aHs A j)) ∧ (∀ i B, aS A i = some B → Wf B) ∧ aL A ≤ 60 ∧ ∀ k, k < aL A → 33 ≤ aT A k ∧ aT A k ≤ 126
def nowA (A : Ab) (B : Bd) : Ab := (B, A.2)
def svH (A : Ab) : Nat × (Nat → Bd) := if aH A = 6 then (6, fun j => if j = 5 then aN A else aHs A (j + 1)) else (aH A + 1, fun j => if j = aH A then aN A else aHs A j)
/-- the board saved -/
def svA (A : Ab) : Ab := (aN A, svH A, A.2.2)
theorem svA_wf {A : Ab} (h : WfA A) : WfA (svA A) := by
  obtain ⟨h1, ⟨h2, h3⟩, h4, h5, h6⟩ := h
  refine ⟨h1, ?_, h4, h5, h6⟩
  show (svH A).1 ≤ 6 ∧ ∀ j, j < (svH A).1 → Wf ((svH A).2 j)
  unfold svH
  by_cases g : aH A = 6
  · rw [if_pos g]
    refine ⟨Nat.le_refl 6, fun j hj => ?_⟩
    show Wf (if j = 5 then aN A else aHs A (j + 1))
    split
    · exact h1
    · exact h3 _ (by simp only at hj; omega)
  · rw [if_neg g]
    refine ⟨by simp only; omega, fun j hj => ?_⟩
    show Wf (if j = aH A then aN A else aHs A j)
    split
    · exact h1
    · exact h3 _ (by simp only at hj; omega)
theorem nowA_wf {A : Ab} (h : WfA A) {B : Bd} (hB : Wf B) : WfA (nowA A B) := ⟨hB, h.2⟩
/-- a row of numbers that tells a board -/
def RowF (f : Nat → Int32) (B : Bd) : Prop := (f 0 = nI (bc B) ∧ f 1 = nI (bv B) ∧ f 2 = nI (bn B) ∧ f 3 = nI (bk B) ∧ f 4 = nI (bb B) ∧ f 5 = bl B ∧ f 6 = bp B ∧ f 7 = bo B ∧ f 8 = bx B ∧ f 9 = by_ B) ∧ ∀ j, j < bn B → f (10 + j) = nI (bM B j)
theorem zr_row {S : Hp} {z : Nat} {B : Bd} : Zr S z B ↔ RowF (hI S z) B := Iff.rfl
theorem RowF.cong {f g : Nat → Int32} {B : Bd} (h : RowF f B) (hn : bn B ≤ 12) (e : ∀ k, k < 22 → g k = f k) : RowF g B := by
  obtain ⟨⟨a0, a1, a2, a3, a4, a5, a6, a7, a8, a9⟩, b⟩ := h
  refine ⟨⟨?_, ?_, ?_, ?_, ?_, ?_, ?_, ?_, ?_, ?_⟩, fun j hj => ?_⟩
  · rw [e 0 (by decide), a0]
  · rw [e 1 (by decide), a1]
  · rw [e 2 (by decide), a2]
  · rw [e 3 (by decide), a3]
  · rw [e 4 (by decide), a4]
  · rw [e 5 (by decide), a5]
  · rw [e 6 (by decide), a6]
  · rw [e 7 (by decide), a7]
  · rw [e 8 (by decide), a8]
  · rw [e 9 (by decide), a9]
  · rw [e (10 + j) (by omega), b j hj]
/-- cells of P stand as they stood -/
def Kee (P : Nat → Prop) (S T : Hp) : Prop := ∀ a, a ∈ hL S → P a → a ∈ hL T ∧ hK T a = hK S a ∧ hN T a = hN S a ∧ hI T a = hI S a ∧ hR T a = hR S a ∧ hJ T a = hJ S a
theorem Kee.rf {P : Nat → Prop} {S : Hp} : Kee P S S := fun _ h _ => ⟨h, rfl, rfl, rfl, rfl, rfl⟩
theorem Kee.tr {P : Nat → Prop} {S T U : Hp} (h : Kee P S T) (g : Kee P T U) : Kee P S U := by
  intro a ha hp
  obtain ⟨a1, a2, a3, a4, a5, a6⟩ := h a ha hp
  obtain ⟨b1, b2, b3, b4, b5, b6⟩ := g a a1 hp
  exact ⟨b1, b2.trans a2, b3.trans a3, b4.trans a4, b5.trans a5, b6.trans a6⟩
theorem Kee.mono {P Q : Nat → Prop} {S T : Hp} (h : Kee P S T) (g : ∀ a, Q a → P a) : Kee Q S T := fun a ha hq => h a ha (g a hq)
theorem Fr.kee {E : List Nat} {P : Nat → Prop} {S T : Hp} (f : Fr E S T) (h : ∀ a, P a → a ∉ E) : Kee P S T := by
  intro a ha hp
  obtain ⟨f1, f2, f3, f4, f5, f6⟩ := f
  exact ⟨by rw [f1]; exact ha, by rw [f2], by rw [f3], f6 a (h a hp), by rw [f4], by rw [f5]⟩
theorem Kee.ok {P : Nat → Prop} {S T : Hp} (h : Kee P S T) {a k : Nat} (g : ok S a k) (hp : P a) : ok T a k := ⟨(h a g.1 hp).1, (h a g.1 hp).2.1.trans g.2⟩
theorem Kee.I {P : Nat → Prop} {S T : Hp} (h : Kee P S T) {a : Nat} (ha : a ∈ hL S) (hp : P a) : hI T a = hI S a := (h a ha hp).2.2.2.1
theorem Kee.R {P : Nat → Prop} {S T : Hp} (h : Kee P S T) {a : Nat} (ha : a ∈ hL S) (hp : P a) : hR T a = hR S a := (h a ha hp).2.2.2.2.1
theorem Kee.N {P : Nat → Prop} {S T : Hp} (h : Kee P S T) {a : Nat} (ha : a ∈ hL S) (hp : P a) : hN T a = hN S a := (h a ha hp).2.2.1
/-! the model's picture: g gives its arrays by the numbers of its fields -/
def FS : List Nat := [0, 2, 3, 4, 6, 8, 9, 10, 13, 14, 15, 16, 18]
def lnM : Nat → Nat
  | 0 => 22
  | 2 => 132
  | 3 => 44
  | 4 => 2
  | 6 => 60
  | 8 => 10
  | 9 => 12
  | 10 => 12
  | 13 => 12
  | 14 => 118098
  | 15 => 118098
  | 16 => 32
  | _ => 22
def MSh (S : Hp) (m : Nat) (g : Nat → Nat) : Prop := ok S m 7 ∧ (∀ i, i ∈ FS → hR S m i = some (g i) ∧ ok S (g i) 8 ∧ hN S (g i) = lnM i) ∧ ∀ i j, i ∈ FS → j ∈ FS → i ≠ j → g i ≠ g j
theorem MSh.fr {E : List Nat} {S T : Hp} {m : Nat} {g : Nat → Nat} (h : MSh S m g) (f : Fr E S T) : MSh T m g := by
  obtain ⟨h1, h2, h3⟩ := h
  exact ⟨f.ok h1, fun i hi => ⟨by rw [f.R]; exact (h2 i hi).1, f.ok (h2 i hi).2.1, by rw [f.N]; exact (h2 i hi).2.2⟩, h3⟩
theorem MSh.m {S : Hp} {m : Nat} {g : Nat → Nat} (h : MSh S m g) {i : Nat} (hi : i ∈ FS) : m ≠ g i := ok_ne h.1 (h.2.1 i hi).2.1 (by decide)
def MX (S : Hp) (m : Nat) (g : Nat → Nat) (A : Ab) : Prop :=
  MSh S m g ∧ (hI S m 1 = nI (aH A) ∧ hI S m 5 = nI (aL A)) ∧ Zr S (g 0) (aN A) ∧ (∀ j, j < aH A → RowF (fun k => hI S (g 2) (22 * j + k)) (aHs A j)) ∧ (∀ i, i < 2 → hI S (g 4) i = (if (aS A i).isSome = true then (1 : Int32) else 0) ∧ ∀ B, aS A i = some B → RowF (fun k => hI S (g 3) (22 * i + k)) B) ∧ (∀ k, k < aL A → hI S (g 6) k = nI (aT A k)) ∧ TabS S m (g 13) (g 14) (g 15)
theorem TabS.cong {S T : Hp} {m sm wi le : Nat} (h : TabS S m sm wi le) (h1 : hI T m 11 = hI S m 11) (h2 : hI T m 12 = hI S m 12) (h3 : hI T sm = hI S sm) (h4 : hI T wi = hI S wi) (h5 : hI T le = hI S le) : TabS T m sm wi le := by
  obtain ⟨c, n, M, a1, a2, a3, a4, a5, a6⟩ := h
  refine ⟨c, n, M, by rw [h1, a1], by rw [h2, a2], a3, a4, fun j hj => by rw [h3]; exact a5 j hj, fun hc => ?_⟩
  intro x v b1 b2 b3
  rw [h4, h5]
  exact a6 hc x v b1 b2 b3
/-- the model behind a change of its board alone -/
theorem MX.now {E : List Nat} {S T : Hp} {m : Nat} {g : Nat → Nat} {A : Ab} {B : Bd} (h : MX S m g A) (f : Fr E S T) (hm : m ∉ E) (hE : ∀ i, i ∈ [2, 3, 4, 6, 13, 14, 15] → g i ∉ E) (hz : Zr T (g 0) B) : MX T m g (nowA A B) := by
  obtain ⟨h1, ⟨h2, h2'⟩, h3, h4, h5, h6, h7⟩ := h
  have e2 := f.I (hE 2 (by decide))
  have e3 := f.I (hE 3 (by decide))
  have e4 := f.I (hE 4 (by decide))
  have e6 := f.I (hE 6 (by decide))
  refine ⟨h1.fr f, ⟨by rw [f.I hm]; exact h2, by rw [f.I hm]; exact h2'⟩, hz, ?_, ?_, ?_, ?_⟩
  · intro j hj
    simp only [e2]
    exact h4 j hj
  · intro i hi
    simp only [e3, e4]
    exact h5 i hi
  · intro k hk
    rw [e6]
    exact h6 k hk
  · exact h7.cong (by rw [f.I hm]) (by rw [f.I hm]) (f.I (hE 13 (by decide))) (f.I (hE 14 (by decide))) (f.I (hE 15 (by decide)))
/-- the model behind a look into its table -/
theorem MX.tab {S T : Hp} {m : Nat} {g : Nat → Nat} {A : Ab} (h : MX S m g A) (f : Fr [m, g 13, g 14, g 15] S T) (hm : ∀ k, k ≠ 11 → k ≠ 12 → hI T m k = hI S m k) (ht : TabS T m (g 13) (g 14) (g 15)) : MX T m g A := by
  have o : ∀ i, i ∈ [0, 2, 3, 4, 6] → g i ∉ [m, g 13, g 14, g 15] := by
    intro i hi
    have hi' : i ∈ FS := by
      simp only [List.mem_cons, List.not_mem_nil, or_false] at hi
      rcases hi with rfl | rfl | rfl | rfl | rfl <;> decide
    have n : ∀ j, j ∈ [13, 14, 15] → g i ≠ g j := by
      intro j hj
      refine h.1.2.2 i j hi' ?_ ?_
      · simp only [List.mem_cons, List.not_mem_nil, or_false] at hj
        rcases hj with rfl | rfl | rfl <;> decide
      · simp only [List.mem_cons, List.not_mem_nil, or_false] at hj hi
        omega
    simp only [List.mem_cons, List.not_mem_nil, or_false, not_or]
    exact ⟨fun e => h.1.m hi' e.symm, n 13 (by decide), n 14 (by decide), n 15 (by decide)⟩
  obtain ⟨h1, ⟨h2, h2'⟩, h3, h4, h5, h6, h7⟩ := h
  have e0 := f.I (o 0 (by decide))
  have e2 := f.I (o 2 (by decide))
  have e3 := f.I (o 3 (by decide))
  have e4 := f.I (o 4 (by decide))
  have e6 := f.I (o 6 (by decide))
  refine ⟨h1.fr f, ⟨by rw [hm 1 (by decide) (by decide)]; exact h2, by rw [hm 5 (by decide) (by decide)]; exact h2'⟩, ?_, ?_, ?_, ?_, ht⟩
  · unfold Zr
    rw [e0]
    exact h3
  · intro j hj
    simp only [e2]
    exact h4 j hj
  · intro i hi
    simp only [e3, e4]
    exact h5 i hi
  · intro k hk
    rw [e6]
    exact h6 k hk
theorem MX.thr {S : Hp} {m : Nat} {g : Nat → Nat} {A : Ab} (h : MX S m g A) (k : Nat) (hk : k ∉ [1, 5, 11, 12]) (v : Int32) : MX (sI S m k v) m g A := by
  have f : Fr [m] S (sI S m k v) := Fr.rf.sI (by simp)
  obtain ⟨h1, ⟨h2, h2'⟩, h3, h4, h5, h6, h7⟩ := h
  simp only [List.mem_cons, List.not_mem_nil, or_false, not_or] at hk
  have e : ∀ i, i ∈ FS → hI (sI S m k v) (g i) = hI S (g i) := fun i hi => hI_a (fun q => h1.m hi q.symm)
  refine ⟨h1.fr f, ⟨by rw [hI_k (Ne.symm hk.1)]; exact h2, by rw [hI_k (Ne.symm hk.2.1)]; exact h2'⟩, ?_, ?_, ?_, ?_, ?_⟩
  · unfold Zr
    rw [e 0 (by decide)]
    exact h3
  · intro j hj
    simp only [e 2 (by decide)]
    exact h4 j hj
  · intro i hi
    simp only [e 3 (by decide), e 4 (by decide)]
    exact h5 i hi
  · intro q hq
    rw [e 6 (by decide)]
    exact h6 q hq
  · exact h7.cong (hI_k (Ne.symm hk.2.2.1)) (hI_k (Ne.symm hk.2.2.2)) (e 13 (by decide)) (e 14 (by decide)) (e 15 (by decide))
theorem MX.kp {P : Nat → Prop} {S T : Hp} {m : Nat} {g : Nat → Nat} {A : Ab} (h : MX S m g A) (f : Kee P S T) (hm : P m) (hg : ∀ i, i ∈ FS → P (g i)) : MX T m g A := by
  obtain ⟨⟨h0, h0', h0''⟩, ⟨h2, h2'⟩, h3, h4, h5, h6, h7⟩ := h
  have e : ∀ i, i ∈ FS → hI T (g i) = hI S (g i) := fun i hi => f.I (h0' i hi).2.1.1 (hg i hi)
  have em := f.I h0.1 hm
  refine ⟨⟨f.ok h0 hm, fun i hi => ⟨by rw [f.R h0.1 hm]; exact (h0' i hi).1, f.ok (h0' i hi).2.1 (hg i hi), by rw [f.N (h0' i hi).2.1.1 (hg i hi)]; exact (h0' i hi).2.2⟩, h0''⟩, ⟨by rw [em]; exact h2, by rw [em]; exact h2'⟩, ?_, ?_, ?_, ?_, ?_⟩
  · unfold Zr
    rw [e 0 (by decide)]
    exact h3
  · intro j hj
    simp only [e 2 (by decide)]
    exact h4 j hj
  · intro i hi
    simp only [e 3 (by decide), e 4 (by decide)]
    exact h5 i hi
  · intro q hq
    rw [e 6 (by decide)]
    exact h6 q hq
  · exact h7.cong (by rw [em]) (by rw [em]) (e 13 (by decide)) (e 14 (by decide)) (e 15 (by decide))
/-- the fuel is enough -/
def Big (N : Nat) : Prop := 60000 < N ∧ TT 12 ≤ N
theorem TT_mono : ∀ (d q : Nat), TT q ≤ TT (q + d)
  | 0, _ => Nat.le_refl _
  | d + 1, q => Nat.le_trans (TT_mono d q) (by show TT (q + d) ≤ 1 + c45 * TT (q + d) + TT (q + d); omega)
theorem Big.tt {N n : Nat} (h : Big N) (hn : n ≤ 12) : TT n ≤ N := by
  have q := TT_mono (12 - n) n
  rw [show n + (12 - n) = 12 by omega] at q
  exact Nat.le_trans q h.2
theorem MX.zm {S : Hp} {m : Nat} {g : Nat → Nat} {A : Ab} (h : MX S m g A) : ZM S m (g 0) (aN A) := ⟨⟨h.1.1, (h.1.2.1 0 (by decide)).1, (h.1.2.1 0 (by decide)).2.1, (h.1.2.1 0 (by decide)).2.2⟩, h.2.2.1⟩
theorem MSh.ps {S : Hp} {m : Nat} {g : Nat → Nat} (h : MSh S m g) : PS S m (g 8) (g 9) (g 10) := ⟨h.2.1 8 (by decide), h.2.1 9 (by decide), h.2.1 10 (by decide)⟩
theorem MSh.ss {S : Hp} {m : Nat} {g : Nat → Nat} (h : MSh S m g) : SS S m (g 13) (g 14) (g 15) := ⟨h.2.1 13 (by decide), h.2.1 14 (by decide), h.2.1 15 (by decide)⟩
theorem MSh.pd {S : Hp} {m : Nat} {g : Nat → Nat} (h : MSh S m g) : g 8 ≠ g 9 ∧ g 8 ≠ g 10 ∧ g 9 ≠ g 10 ∧ g 0 ≠ g 8 ∧ g 0 ≠ g 9 ∧ g 0 ≠ g 10 :=
  ⟨h.2.2 8 9 (by decide) (by decide) (by decide), h.2.2 8 10 (by decide) (by decide) (by decide), h.2.2 9 10 (by decide) (by decide) (by decide), h.2.2 0 8 (by decide) (by decide) (by decide), h.2.2 0 9 (by decide) (by decide) (by decide), h.2.2 0 10 (by decide) (by decide) (by decide)⟩
theorem MSh.sd {S : Hp} {m : Nat} {g : Nat → Nat} (h : MSh S m g) : g 0 ≠ g 13 ∧ g 0 ≠ g 14 ∧ g 0 ≠ g 15 ∧ g 13 ≠ g 14 ∧ g 13 ≠ g 15 ∧ g 14 ≠ g 15 :=
  ⟨h.2.2 0 13 (by decide) (by decide) (by decide), h.2.2 0 14 (by decide) (by decide) (by decide), h.2.2 0 15 (by decide) (by decide) (by decide), h.2.2 13 14 (by decide) (by decide) (by decide), h.2.2 13 15 (by decide) (by decide) (by decide), h.2.2 14 15 (by decide) (by decide) (by decide)⟩
theorem MSh.md {S : Hp} {m : Nat} {g : Nat → Nat} (h : MSh S m g) : m ≠ g 0 ∧ m ≠ g 13 ∧ m ≠ g 14 ∧ m ≠ g 15 := ⟨h.m (by decide), h.m (by decide), h.m (by decide), h.m (by decide)⟩
/-- g i is none of these -/
theorem MSh.out {S : Hp} {m : Nat} {g : Nat → Nat} (h : MSh S m g) {i : Nat} {l : List Nat} (hi : i ∈ FS) (hl : ∀ j, j ∈ l → j ∈ FS ∧ i ≠ j) : g i ∉ l.map g := by
  intro q
  obtain ⟨j, hj, e⟩ := List.mem_map.mp q
  exact h.2.2 i j hi (hl j hj).1 (hl j hj).2 e.symm
theorem MSh.outm {S : Hp} {m : Nat} {g : Nat → Nat} (h : MSh S m g) {l : List Nat} (hl : ∀ j, j ∈ l → j ∈ FS) : m ∉ l.map g := by
  intro q
  obtain ⟨j, hj, e⟩ := List.mem_map.mp q
  exact h.m (hl j hj) e.symm
theorem MX.mb {S : Hp} {m : Nat} {g : Nat → Nat} {A : Ab} (h : MX S m g A) (hw : Wf (aN A)) : MB S m (g 0) (g 13) (g 14) (g 15) (aN A) :=
  ⟨⟨h.zm.mz hw, h.1.ss.1, h.1.ss.2.1, h.1.ss.2.2, h.1.sd⟩, h.2.2.1.1.2.1⟩
