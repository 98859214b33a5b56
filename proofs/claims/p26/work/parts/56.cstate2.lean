def occK (B : Bd) (i : Nat) : Nat := if bv B = 1 then bk B ||| 2 ^ i else bk B
def occR (B : Bd) (i : Nat) : Nat := if bv B = 1 then bb B else bb B ||| 2 ^ i
/-- behind a move, but for the wins -/
def occ0 (B : Bd) (i : Nat) (p : Int32) : Bd := mkB (bM B) (bn B) (bc B) (occK B i) (occR B i) (3 - bv B) (nI i) p (bo B + 1) (bx B) (by_ B)
def occB (B : Bd) (i : Nat) (p : Int32) : Bd := mkB (bM B) (bn B) (bc B) (occK B i) (occR B i) (3 - bv B) (nI i) p (bo B + 1) (bx B + (if winP (bM B) (bn B) (occK B i) (occR B i) = 1 then 1 else 0)) (by_ B + (if winP (bM B) (bn B) (occK B i) (occR B i) = 2 then 1 else 0))
theorem tb_bit (i j : Nat) : (2 ^ i).testBit j = decide (i = j) := Nat.testBit_two_pow
theorem or_bit_lt {a c i : Nat} (h : a < 2 ^ c) (hi : i < c) : a ||| 2 ^ i < 2 ^ c := Nat.or_lt_two_pow h (Nat.pow_lt_pow_right (by decide) hi)
theorem or_bit_and {a b i : Nat} (h : a &&& b = 0) (hb : b.testBit i = false) : (a ||| 2 ^ i) &&& b = 0 := by
  refine Nat.eq_of_testBit_eq (fun j => ?_)
  have q := congrArg (fun w => w.testBit j) h
  simp only [Nat.testBit_and, Nat.zero_testBit, Nat.testBit_or, tb_bit] at q ⊢
  by_cases e : i = j
  · subst e; simp [hb]
  · simp [e, q]
theorem fre_bits {c k b i : Nat} (hc : c ≤ 10) (h : (fre c k b).testBit i = true) : i < c ∧ k.testBit i = false ∧ b.testBit i = false := by
  rw [tb_fre hc] at h
  simp at h
  exact ⟨h.1.1, h.1.2, h.2⟩
/-- the pairs' other cell: none, or a free one, not the cell itself -/
def parOk (B : Bd) (i : Nat) (p : Int32) : Prop := p = -1 ∨ ∃ j, p = nI j ∧ (bfre B).testBit j = true ∧ j ≠ i
theorem tb_occ {B : Bd} (hw : Wf B) {i j : Nat} (h : (bfre B).testBit j = true) (hij : j ≠ i) : (fre (bc B) (occK B i) (occR B i)).testBit j = true := by
  have q := fre_bits hw.c10 h
  rw [tb_fre hw.c10]
  unfold occK occR
  rcases hw.2.2.1 with e | e
  · simp [e, Nat.testBit_or, tb_bit, q, hij.symm]
  · simp [e, Nat.testBit_or, tb_bit, q, hij.symm]
theorem occ_d {B : Bd} (hw : Wf B) {i : Nat} (h : (bfre B).testBit i = true) : occK B i < 2 ^ bc B ∧ occR B i < 2 ^ bc B ∧ occK B i &&& occR B i = 0 := by
  have q := fre_bits hw.c10 h
  unfold occK occR
  rcases hw.2.2.1 with e | e
  · simp only [e, if_true]
    exact ⟨or_bit_lt hw.2.1.1 q.1, hw.2.1.2.1, or_bit_and hw.d q.2.2⟩
  · simp only [e, show ¬ (2 = 1) by decide, if_false]
    exact ⟨hw.2.1.1, or_bit_lt hw.2.1.2.1 q.1, by rw [Nat.and_comm]; exact or_bit_and (by rw [Nat.and_comm]; exact hw.d) q.2.1⟩
theorem occ0_wf {B : Bd} (hw : Wf B) {i : Nat} {p : Int32} (h : (bfre B).testBit i = true) (hp : parOk B i p) : Wf (occ0 B i p) := by
  refine ⟨hw.1, occ_d hw h, ?_, ?_⟩
  · show 3 - bv B = 1 ∨ 3 - bv B = 2
    rcases hw.2.2.1 with e | e <;> rw [e]
    · exact Or.inr rfl
    · exact Or.inl rfl
  · rcases hp with e | ⟨j, e1, e2, e3⟩
    · exact Or.inl e
    · exact Or.inr ⟨j, e1, tb_occ hw e2 e3⟩
theorem occB_wf {B : Bd} (hw : Wf B) {i : Nat} {p : Int32} (h : (bfre B).testBit i = true) (hp : parOk B i p) : Wf (occB B i p) := occ0_wf hw h hp
section
variable {N : Nat} {S : Hp} {s L a : Nat} {B : Bd}
theorem c_occupy (h : StV S s L a B) (hw : Wf B) (hN : 12 < N) {i : Nat} {p : Int32} (hf : (bfre B).testBit i = true) (hp : parOk B i p) : ∃ T, f_X4_occupy N S s (nI i) p = some ((), T) ∧ Fr [s, L] S T ∧ StV T s L a (occB B i p) := by
  have hi := fr_lt hw.c10 hf
  have hc := hw.c10
  have eL : L ≠ s := ok_ne h.2.1.1.1 h.1.1 (by decide)
  have ea : a ≠ s := ok_ne h.2.1.1.2.2.1 h.1.1 (by decide)
  obtain ⟨⟨g2, g3⟩, g4, g5, g6, g7, g8, g9, g10, g11, g12, g13⟩ := h
  -- the rest, from where the cell is taken
  have rest : ∀ S1 : Hp, Fr [s] S S1 → hI S1 s 1 = nI (bc B) → hI S1 s 2 = nI (occK B i) → hI S1 s 3 = nI (occR B i) → hI S1 s 4 = hI S s 4 → hI S1 s 7 = bo B → hI S1 s 8 = bx B → hI S1 s 9 = by_ B → ∃ T, f_X4_occupy_b34 N s (nI i) p S1 = some ((), T) ∧ Fr [s, L] S T ∧ StV T s L a (occB B i p) := by
    intro S1 f e1 e2 e3 e4 e7 e8 e9
    have ok1 := f.ok g2
    have go : ∀ v : Int32, v = (if 3 - bv B = 1 then (1 : Int32) else 0) → ∃ T, f_X4_occupy_b47 N s (nI i) p S1 v s = some ((), T) ∧ Fr [s, L] S T ∧ StV T s L a (occB B i p) := by
      intro v hv
      have isb : isB v := by
        rw [hv]
        by_cases q : 3 - bv B = 1
        · rw [if_pos q]; exact Or.inr rfl
        · rw [if_neg q]; exact Or.inl rfl
      have f2 : Fr [s] S (sI (sI (sI (sI S1 s 4 v) s 5 (nI i)) s 6 p) s 7 (bo B + 1)) := (((f.sI (by simp)).sI (by simp)).sI (by simp)).sI (by simp)
      have V : StV (sI (sI (sI (sI S1 s 4 v) s 5 (nI i)) s 6 p) s 7 (bo B + 1)) s L a (occ0 B i p) := by
        refine ⟨⟨f2.ok g2, by rw [f2.R]; exact g3⟩, g4.fr f2 (by rw [f2.I (n1 eL)]) (n1 ea), ?_, ?_, ?_, ?_, ?_, ?_, ?_, ?_, ?_⟩
        · rw [hI_k (by decide), hI_k (by decide), hI_k (by decide), hI_k (by decide)]; exact e1
        · rw [hI_k (by decide), hI_k (by decide), hI_k (by decide), hI_k (by decide)]; exact e2
        · rw [hI_k (by decide), hI_k (by decide), hI_k (by decide), hI_k (by decide)]; exact e3
        · rw [hI_k (by decide), hI_k (by decide), hI_k (by decide), hI_same]; exact hv
        · rw [hI_k (by decide), hI_k (by decide), hI_same]; rfl
        · rw [hI_k (by decide), hI_same]; rfl
        · rw [hI_same]; rfl
        · rw [hI_k (by decide), hI_k (by decide), hI_k (by decide), hI_k (by decide)]; exact e8
        · rw [hI_k (by decide), hI_k (by decide), hI_k (by decide), hI_k (by decide)]; exact e9
      have hw0 := occ0_wf hw hf hp
      obtain ⟨T, t1, t2, t3, t4⟩ := c_winner V hw0 hN
      unfold f_X4_occupy_b47
      rw [gd_pos ok1, gd_pos isb, gd_pos (ok_sI ok1), bd_d, hI_k (show (7 : Nat) ≠ 6 by decide), hI_k (show (7 : Nat) ≠ 5 by decide), hI_k (show (7 : Nat) ≠ 4 by decide), e7, t1, cl_s, gd_pos t3.1.1]
      have fT : Fr [s, L] S T := (f2.mono (by simp)).tr (t2.mono (by simp))
      have wl := winP_le (bM B) (bn B) (occK B i) (occR B i)
      have ewin : bwin (occ0 B i p) = winP (bM B) (bn B) (occK B i) (occR B i) := rfl
      obtain ⟨⟨j2, j3⟩, j4, j5, j6, j7, j8, j9, j10, j11, j12, j13⟩ := t3
      have fin : ∀ x y : Int32, x = bx B + (if winP (bM B) (bn B) (occK B i) (occR B i) = 1 then 1 else 0) → y = by_ B + (if winP (bM B) (bn B) (occK B i) (occR B i) = 2 then 1 else 0) → ∃ T', some ((), sI (sI T s 8 x) s 9 y) = some ((), T') ∧ Fr [s, L] S T' ∧ StV T' s L a (occB B i p) := by
        intro x y hx hy
        have f3 : Fr [s] T (sI (sI T s 8 x) s 9 y) := (Fr.rf.sI (by simp)).sI (by simp)
        refine ⟨_, rfl, fT.tr (f3.mono (by simp)), ⟨f3.ok j2, by rw [f3.R]; exact j3⟩, j4.fr f3 (by rw [f3.I (n1 eL)]) (n1 ea), ?_, ?_, ?_, ?_, ?_, ?_, ?_, ?_, ?_⟩
        · rw [hI_k (by decide), hI_k (by decide)]; exact j5
        · rw [hI_k (by decide), hI_k (by decide)]; exact j6
        · rw [hI_k (by decide), hI_k (by decide)]; exact j7
        · rw [hI_k (by decide), hI_k (by decide)]; exact j8
        · rw [hI_k (by decide), hI_k (by decide)]; exact j9
        · rw [hI_k (by decide), hI_k (by decide)]; exact j10
        · rw [hI_k (by decide), hI_k (by decide)]; exact j11
        · rw [hI_k (by decide), hI_same]; exact hx
        · rw [hI_same]; exact hy
      rw [ewin]
      have b90 : ∀ x : Int32, x = (if winP (bM B) (bn B) (occK B i) (occR B i) = 1 then 1 else 0) → ∃ T', f_X4_occupy_b90 N s (nI i) p T (nI (winP (bM B) (bn B) (occK B i) (occR B i))) x (hI T s 8) s = some ((), T') ∧ Fr [s, L] S T' ∧ StV T' s L a (occB B i p) := by
        intro x hx
        unfold f_X4_occupy_b90
        rw [gd_pos j2, gd_pos (ok_sI j2), j12, hI_k (show (9 : Nat) ≠ 8 by decide), j13]
        unfold f_X4_occupy_b109
        by_cases q : winP (bM B) (bn B) (occK B i) (occR B i) = 2
        · rw [if_pos (by rw [q]; rfl), gd_pos (ok_sI j2)]
          exact fin _ _ (by rw [hx]; rfl) (by rw [if_pos q]; rfl)
        · rw [if_neg (fun w => q ((nI_eq2 (by omega)).mp w)), gd_pos (ok_sI j2)]
          exact fin _ _ (by rw [hx]; rfl) (by rw [if_neg q]; rfl)
      by_cases q : winP (bM B) (bn B) (occK B i) (occR B i) = 1
      · rw [if_pos (by rw [q]; rfl)]
        exact b90 1 (by rw [if_pos q])
      · rw [if_neg (fun w => q ((nI_eq1 (by omega)).mp w))]
        exact b90 0 (by rw [if_neg q])
    unfold f_X4_occupy_b34
    rw [gd_pos ok1, e4, g8]
    rcases hw.2.2.1 with e | e
    · rw [e, if_pos rfl, if_neg (by decide)]
      exact go 0 (by rw [e]; rfl)
    · rw [e, if_pos (i01.mpr (by decide))]
      exact go 1 (by rw [e]; rfl)
  unfold f_X4_occupy
  rw [gd_pos g2, g8, g6, g7, nI_bit i (by omega), nI_or, nI_or]
  rcases hw.2.2.1 with e | e
  · rw [e, if_pos rfl, if_neg (by decide), bd_d]
    refine rest _ (Fr.rf.sI (by simp)) ?_ ?_ ?_ ?_ ?_ ?_ ?_
    · rw [hI_k (by decide)]; exact g5
    · rw [hI_same, occK, if_pos e]
    · rw [hI_k (by decide), occR, if_pos e]; exact g7
    · rw [hI_k (by decide)]
    · rw [hI_k (by decide)]; exact g11
    · rw [hI_k (by decide)]; exact g12
    · rw [hI_k (by decide)]; exact g13
  · rw [e, if_pos (i01.mpr (by decide)), bd_d]
    refine rest _ (Fr.rf.sI (by simp)) ?_ ?_ ?_ ?_ ?_ ?_ ?_
    · rw [hI_k (by decide)]; exact g5
    · rw [hI_k (by decide), occK, if_neg (by rw [e]; decide)]; exact g6
    · rw [hI_same, occR, if_neg (by rw [e]; decide)]
    · rw [hI_k (by decide)]
    · rw [hI_k (by decide)]; exact g11
    · rw [hI_k (by decide)]; exact g12
    · rw [hI_k (by decide)]; exact g13
/-- the shape of a State object -/
def StS (S : Hp) (s L a : Nat) : Prop := (ok S s 4 ∧ hR S s 0 = some L) ∧ LnS S L a
theorem StS.fr {E : List Nat} {S T : Hp} {s L a : Nat} (h : StS S s L a) (f : Fr E S T) : StS T s L a := ⟨⟨f.ok h.1.1, by rw [f.R]; exact h.1.2⟩, h.2.fr f⟩
theorem StV.sh (h : StV S s L a B) : StS S s L a := ⟨h.1, h.2.1.1⟩
/-- B with other numbers of moves and wins -/
def cntB (B : Bd) (o x y : Int32) : Bd := mkB (bM B) (bn B) (bc B) (bk B) (bb B) (bv B) (bl B) (bp B) o x y
theorem c_copyBoard {s1 L1 a1 : Nat} (h : StV S s L a B) (h1 : StS S s1 L1 a1) (hN : 12 < N) (d1 : s1 ≠ s) (d2 : L1 ≠ L) (d3 : a1 ≠ a) : ∃ T, f_X4_copyBoard N S s1 s = some ((), T) ∧ Fr [s1, L1, a1] S T ∧ StV T s1 L1 a1 (cntB B (hI S s1 7) (hI S s1 8) (hI S s1 9)) := by
  have o1 : s ≠ L1 := ok_ne h.1.1 h1.2.1 (by decide)
  have o2 : s ≠ a1 := ok_ne h.1.1 h1.2.2.2.1 (by decide)
  have o3 : s1 ≠ L1 := ok_ne h1.1.1 h1.2.1 (by decide)
  have o4 : s1 ≠ a1 := ok_ne h1.1.1 h1.2.2.2.1 (by decide)
  obtain ⟨U, u1, u2, u3⟩ := c_copy h.2.1 hN h1.2 d2 d3
  obtain ⟨⟨g2, g3⟩, g4, g5, g6, g7, g8, g9, g10, g11, g12, g13⟩ := h
  have es : hI U s = hI S s := u2.I (by simp [o1, o2])
  have es1 : hI U s1 = hI S s1 := u2.I (by simp [o3, o4])
  have ib : isB (hI S s 4) := by
    rw [g8]
    by_cases q : bv B = 1
    · rw [if_pos q]; exact Or.inr rfl
    · rw [if_neg q]; exact Or.inl rfl
  unfold f_X4_copyBoard
  rw [gd_pos h1.1.1, h1.1.2, nn_s, gd_pos g2, g3, nn_s, gd_pos h1.2.1, u1, cl_s, gd_pos (u2.ok g2), gd_pos (u2.ok h1.1.1)]
  simp only [bd_d, hI_a d1.symm, es]
  rw [gd_pos ib]
  have f : Fr [s1] U (sI (sI (sI (sI (sI (sI U s1 1 (hI S s 1)) s1 2 (hI S s 2)) s1 3 (hI S s 3)) s1 4 (hI S s 4)) s1 5 (hI S s 5)) s1 6 (hI S s 6)) := (((((Fr.rf.sI (by simp)).sI (by simp)).sI (by simp)).sI (by simp)).sI (by simp)).sI (by simp)
  refine ⟨_, rfl, (u2.mono (by simp)).tr (f.mono (by simp)), ⟨f.ok (u2.ok h1.1.1), by rw [f.R, u2.R]; exact h1.1.2⟩, u3.fr f (by rw [f.I (n1 o3.symm)]) (n1 o4.symm), ?_, ?_, ?_, ?_, ?_, ?_, ?_, ?_, ?_⟩
  · rw [hI_k (by decide), hI_k (by decide), hI_k (by decide), hI_k (by decide), hI_k (by decide), hI_same]; exact g5
  · rw [hI_k (by decide), hI_k (by decide), hI_k (by decide), hI_k (by decide), hI_same]; exact g6
  · rw [hI_k (by decide), hI_k (by decide), hI_k (by decide), hI_same]; exact g7
  · rw [hI_k (by decide), hI_k (by decide), hI_same]; exact g8
  · rw [hI_k (by decide), hI_same]; exact g9
  · rw [hI_same]; exact g10
  · rw [hI_k (by decide), hI_k (by decide), hI_k (by decide), hI_k (by decide), hI_k (by decide), hI_k (by decide), es1]; rfl
  · rw [hI_k (by decide), hI_k (by decide), hI_k (by decide), hI_k (by decide), hI_k (by decide), hI_k (by decide), es1]; rfl
  · rw [hI_k (by decide), hI_k (by decide), hI_k (by decide), hI_k (by decide), hI_k (by decide), hI_k (by decide), es1]; rfl
theorem c_copyAll {s1 L1 a1 : Nat} (h : StV S s L a B) (h1 : StS S s1 L1 a1) (hN : 12 < N) (d1 : s1 ≠ s) (d2 : L1 ≠ L) (d3 : a1 ≠ a) : ∃ T, f_X4_copyAll N S s1 s = some ((), T) ∧ Fr [s1, L1, a1] S T ∧ StV T s1 L1 a1 B := by
  have o1 : s ≠ L1 := ok_ne h.1.1 h1.2.1 (by decide)
  have o2 : s ≠ a1 := ok_ne h.1.1 h1.2.2.2.1 (by decide)
  have o3 : L1 ≠ s1 := ok_ne h1.2.1 h1.1.1 (by decide)
  have o4 : a1 ≠ s1 := ok_ne h1.2.2.2.1 h1.1.1 (by decide)
  obtain ⟨U, u1, u2, u3⟩ := c_copyBoard h h1 hN d1 d2 d3
  obtain ⟨⟨g2, g3⟩, g4, g5, g6, g7, g8, g9, g10, g11, g12, g13⟩ := h
  obtain ⟨⟨i2, i3⟩, i4, i5, i6, i7, i8, i9, i10, i11, i12, i13⟩ := u3
  have es : hI U s = hI S s := u2.I (by simp [d1.symm, o1, o2])
  unfold f_X4_copyAll
  rw [gd_pos h1.1.1, u1, cl_s, gd_pos (u2.ok g2), gd_pos i2]
  simp only [bd_d, hI_a d1.symm, es]
  have f : Fr [s1] U (sI (sI (sI U s1 7 (hI S s 7)) s1 8 (hI S s 8)) s1 9 (hI S s 9)) := ((Fr.rf.sI (by simp)).sI (by simp)).sI (by simp)
  refine ⟨_, rfl, u2.tr (f.mono (by simp)), ⟨f.ok i2, by rw [f.R]; exact i3⟩, i4.fr f (by rw [f.I (n1 o3)]) (n1 o4), ?_, ?_, ?_, ?_, ?_, ?_, ?_, ?_, ?_⟩
  · rw [hI_k (by decide), hI_k (by decide), hI_k (by decide)]; exact i5
  · rw [hI_k (by decide), hI_k (by decide), hI_k (by decide)]; exact i6
  · rw [hI_k (by decide), hI_k (by decide), hI_k (by decide)]; exact i7
  · rw [hI_k (by decide), hI_k (by decide), hI_k (by decide)]; exact i8
  · rw [hI_k (by decide), hI_k (by decide), hI_k (by decide)]; exact i9
  · rw [hI_k (by decide), hI_k (by decide), hI_k (by decide)]; exact i10
  · rw [hI_k (by decide), hI_k (by decide), hI_same]; exact g11
  · rw [hI_k (by decide), hI_same]; exact g12
  · rw [hI_same]; exact g13
/-- no cell is taken, v moves -/
def clrB (B : Bd) (v : Nat) : Bd := mkB (bM B) (bn B) (bc B) 0 0 v (-1) (-1) (bo B) (bx B) (by_ B)
theorem c_freeAll (h : StV S s L a B) {x : Int32} (hx : isB x) : ∃ T, f_X4_freeAll N S s x = some ((), T) ∧ Fr [s] S T ∧ StV T s L a (clrB B (if x = 0 then 2 else 1)) := by
  have o3 : L ≠ s := ok_ne h.2.1.1.1 h.1.1 (by decide)
  have o4 : a ≠ s := ok_ne h.2.1.1.2.2.1 h.1.1 (by decide)
  obtain ⟨⟨g2, g3⟩, g4, g5, g6, g7, g8, g9, g10, g11, g12, g13⟩ := h
  unfold f_X4_freeAll f_X4_forgetLatest
  rw [gd_pos g2, gd_pos hx, bd_d, gd_pos (ok_sI (ok_sI (ok_sI g2))), bd_d, cl_s]
  have f : Fr [s] S (sI (sI (sI (sI (sI S s 2 0) s 3 0) s 4 x) s 5 (-1)) s 6 (-1)) := ((((Fr.rf.sI (by simp)).sI (by simp)).sI (by simp)).sI (by simp)).sI (by simp)
  refine ⟨_, rfl, f, ⟨f.ok g2, by rw [f.R]; exact g3⟩, g4.fr f (by rw [f.I (n1 o3)]) (n1 o4), ?_, ?_, ?_, ?_, ?_, ?_, ?_, ?_, ?_⟩
  · rw [hI_k (by decide), hI_k (by decide), hI_k (by decide), hI_k (by decide), hI_k (by decide)]; exact g5
  · rw [hI_k (by decide), hI_k (by decide), hI_k (by decide), hI_k (by decide), hI_same]; rfl
  · rw [hI_k (by decide), hI_k (by decide), hI_k (by decide), hI_same]; rfl
  · rw [hI_k (by decide), hI_k (by decide), hI_same]
    rcases hx with e | e <;> rw [e] <;> rfl
  · rw [hI_k (by decide), hI_same]; rfl
  · rw [hI_same]; rfl
  · rw [hI_k (by decide), hI_k (by decide), hI_k (by decide), hI_k (by decide), hI_k (by decide)]; exact g11
  · rw [hI_k (by decide), hI_k (by decide), hI_k (by decide), hI_k (by decide), hI_k (by decide)]; exact g12
  · rw [hI_k (by decide), hI_k (by decide), hI_k (by decide), hI_k (by decide), hI_k (by decide)]; exact g13
theorem clrB_wf (hw : Wf B) {v : Nat} (hv : v = 1 ∨ v = 2) : Wf (clrB B v) := ⟨hw.1, ⟨Nat.two_pow_pos _, Nat.two_pow_pos _, Nat.zero_and 0⟩, hv, Or.inl rfl⟩
end
