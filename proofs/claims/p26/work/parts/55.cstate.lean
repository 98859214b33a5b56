/-- a board with all that goes on it: lines; how many, cells, the maker's, the breaker's, who moves (1, 2); latest, its partner, moves, wins of both -/
abbrev Bd : Type := (Nat → Nat) × (Nat × Nat × Nat × Nat × Nat) × (Int32 × Int32 × Int32 × Int32 × Int32)
def bM (B : Bd) : Nat → Nat := B.1
def bn (B : Bd) : Nat := B.2.1.1
def bc (B : Bd) : Nat := B.2.1.2.1
def bk (B : Bd) : Nat := B.2.1.2.2.1
def bb (B : Bd) : Nat := B.2.1.2.2.2.1
def bv (B : Bd) : Nat := B.2.1.2.2.2.2
def bl (B : Bd) : Int32 := B.2.2.1
def bp (B : Bd) : Int32 := B.2.2.2.1
def bo (B : Bd) : Int32 := B.2.2.2.2.1
def bx (B : Bd) : Int32 := B.2.2.2.2.2.1
def by_ (B : Bd) : Int32 := B.2.2.2.2.2.2
def mkB (M : Nat → Nat) (n c k b v : Nat) (l p o x y : Int32) : Bd := (M, (n, c, k, b, v), (l, p, o, x, y))
def bfre (B : Bd) : Nat := fre (bc B) (bk B) (bb B)
/-- a board as it can be -/
def Wf (B : Bd) : Prop := (2 ≤ bc B ∧ bc B ≤ 10 ∧ bn B ≤ 12 ∧ ∀ j, j < bn B → bM B j < 2 ^ bc B ∧ bM B j ≠ 0) ∧ (bk B < 2 ^ bc B ∧ bb B < 2 ^ bc B ∧ bk B &&& bb B = 0) ∧ (bv B = 1 ∨ bv B = 2) ∧ (bp B = -1 ∨ ∃ i, bp B = nI i ∧ (bfre B).testBit i = true)
theorem pw10 {c : Nat} (h : c ≤ 10) : 2 ^ c ≤ 1024 := Nat.pow_le_pow_right (n := 2) (by decide) h
theorem and_all {a c : Nat} (h : a < 2 ^ c) : a &&& (2 ^ c - 1) = a := by rw [Nat.and_two_pow_sub_one_eq_mod, Nat.mod_eq_of_lt h]
theorem Wf.c10 {B : Bd} (h : Wf B) : bc B ≤ 10 := h.1.2.1
theorem Wf.sub {B : Bd} (h : Wf B) : ∀ j, j < bn B → bM B j &&& (2 ^ bc B - 1) = bM B j := fun j hj => and_all (h.1.2.2.2 j hj).1
theorem Wf.k10 {B : Bd} (h : Wf B) : bk B < 1024 := Nat.lt_of_lt_of_le h.2.1.1 (pw10 h.c10)
theorem Wf.b10 {B : Bd} (h : Wf B) : bb B < 1024 := Nat.lt_of_lt_of_le h.2.1.2.1 (pw10 h.c10)
theorem Wf.d {B : Bd} (h : Wf B) : bk B &&& bb B = 0 := h.2.1.2.2
theorem fr_lt {c mk br i : Nat} (hc : c ≤ 10) (h : (fre c mk br).testBit i = true) : i < c := by
  rw [tb_fre hc] at h
  simp at h
  exact h.1.1
/-- the class's state s, its lines L in a, holds B -/
def StV (S : Hp) (s L a : Nat) (B : Bd) : Prop := (ok S s 4 ∧ hR S s 0 = some L) ∧ LnV S L a (bn B) (bM B) ∧ (hI S s 1 = nI (bc B) ∧ hI S s 2 = nI (bk B) ∧ hI S s 3 = nI (bb B) ∧ hI S s 4 = (if bv B = 1 then (1 : Int32) else 0) ∧ hI S s 5 = bl B ∧ hI S s 6 = bp B ∧ hI S s 7 = bo B ∧ hI S s 8 = bx B ∧ hI S s 9 = by_ B)
theorem StV.frL {S T : Hp} {s L a : Nat} {B : Bd} (h : StV S s L a B) (f : Fr [L] S T) (h1 : hI T L 1 = hI S L 1) : StV T s L a B := by
  obtain ⟨⟨h2, h3⟩, h4, h5⟩ := h
  have e1 : s ≠ L := ok_ne h2 h4.1.1 (by decide)
  have e2 : a ≠ L := ok_ne h4.1.2.2.1 h4.1.1 (by decide)
  exact ⟨⟨f.ok h2, by rw [f.R]; exact h3⟩, h4.fr f h1 (n1 e2), by rw [f.I (n1 e1)]; exact h5⟩
theorem StV.fr {E : List Nat} {S T : Hp} {s L a : Nat} {B : Bd} (h : StV S s L a B) (f : Fr E S T) (h1 : s ∉ E) (h2 : L ∉ E) (h3 : a ∉ E) : StV T s L a B := by
  obtain ⟨⟨g2, g3⟩, g4, g5⟩ := h
  exact ⟨⟨f.ok g2, by rw [f.R]; exact g3⟩, g4.fr f (by rw [f.I h2]) h3, by rw [f.I h1]; exact g5⟩
def bwin (B : Bd) : Nat := winP (bM B) (bn B) (bk B) (bb B)
def bws (B : Bd) : Nat := wsP (bM B) (bn B) (bc B) (bk B) (bb B)
def bth (B : Bd) : Nat := thP (bM B) (bn B) (bc B) (bk B) (bb B)
def bdg (B : Bd) (i : Nat) : Nat := dgP (bM B) (bn B) (bc B) (bk B) (bb B) i
def bal (B : Bd) : Nat := fb_ct (isAl (bM B) (bb B)) (bn B)
theorem bth_lt {B : Bd} (h : Wf B) : bth B < 1024 := thP_lt h.c10 (fun j hj => Nat.lt_of_lt_of_le (h.1.2.2.2 j hj).1 (pw10 h.c10))
section
variable {N : Nat} {S : Hp} {s L a : Nat} {B : Bd}
/-- a look at all lines: the state is as it was, the lines know what was found -/
theorem c_look (h : StV S s L a B) (hw : Wf B) (hN : 12 < N) : ∃ T, f_X1_survey N S L (nI (bk B)) (nI (bb B)) = some ((), T) ∧ Fr [L] S T ∧ StV T s L a B ∧ hI T L 2 = nI (bwin B) ∧ hI T L 3 = nI (bal B) ∧ hI T L 4 = nI (bws B) ∧ hI T L 5 = nI (bth B) := by
  obtain ⟨T, t1, t2, t3, t4, t5, t6, t7⟩ := c_survey h.2.1 hN hw.c10 hw.sub hw.d hw.k10 hw.b10
  exact ⟨T, t1, t2, h.frL t2 (by rw [t3]; exact h.2.1.2.1.1.symm), t4, t5, t6, t7⟩
theorem c_winner (h : StV S s L a B) (hw : Wf B) (hN : 12 < N) : ∃ T, f_X4_winner N S s = some (nI (bwin B), T) ∧ Fr [L] S T ∧ StV T s L a B ∧ hI T L 2 = nI (bwin B) ∧ hI T L 3 = nI (bal B) ∧ hI T L 4 = nI (bws B) ∧ hI T L 5 = nI (bth B) := by
  obtain ⟨T, t1, t2, t3, t4, t5⟩ := c_look h hw hN
  refine ⟨T, ?_, t2, t3, t4, t5⟩
  obtain ⟨⟨g2, g3⟩, g4, g5⟩ := h
  obtain ⟨⟨i2, i3⟩, i4, i5⟩ := t3
  unfold f_X4_winner
  rw [gd_pos g2, g3, nn_s, gd_pos g4.1.1, g5.2.1, g5.2.2.1, t1, cl_s, gd_pos i2, i3, nn_s, gd_pos i4.1.1, t4]
theorem c_forcedReply (h : StV S s L a B) (hw : Wf B) (hN : 12 < N) : ∃ T, f_X4_forcedReply N S s = some (lowI (bth B), T) ∧ Fr [L] S T ∧ StV T s L a B := by
  obtain ⟨T, t1, t2, t3, t4, t5, t6, t7⟩ := c_look h hw hN
  refine ⟨T, ?_, t2, t3⟩
  obtain ⟨⟨g2, g3⟩, g4, g5⟩ := h
  obtain ⟨⟨i2, i3⟩, i4, i5⟩ := t3
  unfold f_X4_forcedReply
  rw [gd_pos g2, g3, nn_s, gd_pos g4.1.1, g5.2.1, g5.2.2.1, t1, cl_s, gd_pos i2, i3, nn_s, gd_pos i4.1.1, t7, c_lowestOf (by omega) (bth_lt hw), cl_s]
theorem c_allCells (h : StV S s L a B) (hw : Wf B) : f_X4_allCells N S s = some (nI (2 ^ bc B - 1), S) := by
  have q := hw.c10
  unfold f_X4_allCells
  rw [gd_pos h.1.1, h.2.2.1, nI_all _ (by omega)]
theorem fre_or {c k b : Nat} (hc : c ≤ 10) : nI (2 ^ c - 1) &&& ((nI k ||| nI b) ^^^ (-1 : Int32)) = nI (fre c k b) := by
  rw [nI_or, nI_dif (all_lt hc)]
  congr 1
  refine Nat.eq_of_testBit_eq (fun i => ?_)
  rw [tb_dif (all_lt hc), tb_fre hc, tb_all, Nat.testBit_or]
  cases k.testBit i <;> cases b.testBit i <;> simp
theorem c_freeCells (h : StV S s L a B) (hw : Wf B) : f_X4_freeCells N S s = some (nI (bfre B), S) := by
  unfold f_X4_freeCells
  rw [gd_pos h.1.1, c_allCells h hw, cl_s, gd_pos h.1.1, h.2.2.2.1, h.2.2.2.2.1, fre_or hw.c10]
  rfl
theorem c_isFree (h : StV S s L a B) (hw : Wf B) {i : Nat} (hi : i < 31) : f_X4_isFree N S s (nI i) = some ((if (bfre B).testBit i = true then (1 : Int32) else 0), S) := by
  unfold f_X4_isFree
  rw [gd_pos h.1.1, c_freeCells h hw, cl_s]
  cases g : (bfre B).testBit i
  · rw [if_pos ((nI_mbit hi).mpr g)]; rfl
  · rw [if_neg (fun q => by rw [(nI_mbit hi).mp q] at g; cases g)]; rfl
theorem c_hasCell (h : StV S s L a B) {x : Int32} : f_X4_hasCell N S s x = some ((if 0 ≤ x ∧ x < nI (bc B) then (1 : Int32) else 0), S) := by
  unfold f_X4_hasCell
  by_cases h1 : x < 0
  · rw [if_pos h1, if_neg (fun q => absurd h1 (Int32.not_lt.mpr q.1))]
  · rw [if_neg h1, gd_pos h.1.1, h.2.2.1]
    by_cases h2 : nI (bc B) ≤ x
    · rw [if_pos h2, if_neg (fun q => absurd q.2 (Int32.not_lt.mpr h2))]
    · rw [if_neg h2, if_pos ⟨Int32.not_lt.mp h1, Int32.not_le.mp h2⟩]
def bow (B : Bd) (i : Nat) : Nat := if (bk B).testBit i = true then 1 else if (bb B).testBit i = true then 2 else 0
theorem c_ownerOf (h : StV S s L a B) (hw : Wf B) {i : Nat} (hi : i < bc B) : f_X4_ownerOf N S s (nI i) = some (nI (bow B i), S) := by
  have q := hw.c10
  unfold f_X4_ownerOf
  rw [gd_pos h.1.1, c_isFree h hw (by omega), cl_s, bow]
  have t := tb_fre (mk := bk B) (br := bb B) q i
  have d := congrArg (fun w => w.testBit i) hw.d
  simp only [Nat.testBit_and, Nat.zero_testBit] at d
  cases g : (bfre B).testBit i
  · rw [if_pos (i01.mpr (by decide)), gd_pos h.1.1, h.2.2.2.1]
    unfold bfre at g
    rw [t] at g
    cases g2 : (bk B).testBit i
    · rw [if_pos ((nI_mbit (by omega)).mpr g2)]
      have g3 : (bb B).testBit i = true := by simpa [g2, hi] using g
      simp [g3]; rfl
    · rw [if_neg (fun q => by rw [(nI_mbit (by omega)).mp q] at g2; cases g2)]
      simp; rfl
  · rw [if_neg (by decide)]
    unfold bfre at g
    rw [t] at g
    simp at g
    simp [g]; rfl
theorem c_mover (h : StV S s L a B) (hw : Wf B) : f_X4_mover N S s = some (nI (bv B), S) := by
  unfold f_X4_mover
  rw [gd_pos h.1.1, h.2.2.2.2.2.1]
  rcases hw.2.2.1 with e | e
  · rw [e]; rfl
  · rw [e]; rfl
theorem c_dangerOf (h : StV S s L a B) (hw : Wf B) (hN : 12 < N) {i : Nat} (hi : i < bc B) : f_X4_dangerOf N S s (nI i) = some (nI (if (bfre B).testBit i = true then bdg B i else 0), S) := by
  have q := hw.c10
  unfold f_X4_dangerOf
  rw [gd_pos h.1.1, c_isFree h hw (by omega), cl_s]
  cases g : (bfre B).testBit i
  · rw [if_pos (i01.mpr (by decide))]; rfl
  · rw [if_neg (by decide), gd_pos h.1.1, h.1.2, nn_s, gd_pos h.2.1.1.1, h.2.2.2.1, h.2.2.2.2.1, c_weightWith h.2.1 hN hw.c10 hw.sub (by omega) g, cl_s]
    rfl
/-- the lowest one of the most dangerous free cells below i -/
def mdS (B : Bd) : Nat → Option Nat
  | 0 => none
  | i + 1 => if (bfre B).testBit i = true then (match mdS B i with
    | none => some i
    | some b => if bdg B b < bdg B i then some i else some b) else mdS B i
def opI (o : Option Nat) : Int32 := match o with
  | none => -1
  | some i => nI i
theorem mdS_lt {B : Bd} : ∀ {i b : Nat}, mdS B i = some b → b < i ∧ (bfre B).testBit b = true
  | 0, b, h => by cases h
  | i + 1, b, h => by
    unfold mdS at h
    split at h
    · rename_i g
      split at h
      · cases h; exact ⟨by omega, g⟩
      · rename_i b' hb
        split at h
        · cases h; exact ⟨by omega, g⟩
        · cases h; have := mdS_lt hb; exact ⟨by omega, this.2⟩
    · have := mdS_lt h; exact ⟨by omega, this.2⟩
theorem bdg_lt (hw : Wf B) (i : Nat) : bdg B i < 2 ^ 31 := by
  have q : fb_sm (fun j => if (bM B j &&& fre (bc B) (bk B) (bb B)).testBit i = true then wtP (bM B) (bc B) (bk B) (bb B) j else 0) (bn B) ≤ bn B * 1024 := fb_sm_bound (fun k hk => by
    split
    · unfold wtP
      split
      · exact Nat.shiftRight_le 1024 _
      · omega
    · omega)
  have r := hw.1.2.2.1
  show fb_sm _ _ < _
  omega
theorem c_mostDangerous_l (h : StV S s L a B) (hw : Wf B) (hN : 12 < N) : ∀ d k i, i + d = 10 → d < k → f_X4_mostDangerous_l12 N s k S (nI (bfre B)) (opI (mdS B i)) (match mdS B i with | none => (-1 : Int32) | some b => nI (bdg B b)) (nI i) = some (opI (mdS B 10), S) := by
  intro d
  induction d with
  | zero =>
    intro k i hi hk
    obtain ⟨k, rfl⟩ : ∃ q, k = q + 1 := ⟨k - 1, by omega⟩
    obtain rfl : i = 10 := by omega
    unfold f_X4_mostDangerous_l12 f_X4_mostDangerous_b12
    rw [if_pos (show (10 : Int32) ≤ nI 10 by decide)]
  | succ d ih =>
    intro k i hi hk
    obtain ⟨k, rfl⟩ : ∃ q, k = q + 1 := ⟨k - 1, by omega⟩
    have ih' := ih k (i + 1) (by omega) (by omega)
    unfold f_X4_mostDangerous_l12 f_X4_mostDangerous_b12
    rw [if_neg (nle10 (by omega)), nI_p1]
    cases g : (bfre B).testBit i
    · rw [if_pos ((nI_mbit (by omega)).mpr g)]
      rw [show mdS B (i + 1) = mdS B i by rw [mdS, if_neg (by rw [g]; decide)]] at ih'
      exact ih'
    · rw [if_neg (fun q => by rw [(nI_mbit (by omega)).mp q] at g; cases g), gd_pos h.1.1, h.1.2, nn_s, gd_pos h.2.1.1.1, h.2.2.2.1, h.2.2.2.2.1, c_weightWith h.2.1 hN hw.c10 hw.sub (by omega) g, cl_s]
      have b1 := bdg_lt hw i
      have e : dgP (bM B) (bn B) (bc B) (bk B) (bb B) i = bdg B i := rfl
      rw [e]
      cases m : mdS B i with
      | none =>
        rw [show mdS B (i + 1) = some i by rw [mdS, if_pos g, m]] at ih'
        rw [if_neg (fun q => absurd q (by
          rw [Int32.le_iff_toInt_le, nI_toInt b1, show (-1 : Int32).toInt = -1 from rfl]; omega))]
        exact ih'
      | some b =>
        have b2 := bdg_lt hw b
        by_cases c1 : bdg B b < bdg B i
        · rw [show mdS B (i + 1) = some i by rw [mdS, if_pos g, m]; simp [c1]] at ih'
          simp only
          rw [if_neg (nle_i c1 b1)]
          exact ih'
        · rw [show mdS B (i + 1) = some b by rw [mdS, if_pos g, m]; simp [c1]] at ih'
          simp only
          rw [if_pos (nI_le (by omega) b2)]
          exact ih'
theorem c_mostDangerous (h : StV S s L a B) (hw : Wf B) (hN : 12 < N) : f_X4_mostDangerous N S s = some (opI (mdS B 10), S) := by
  unfold f_X4_mostDangerous
  rw [gd_pos h.1.1, c_freeCells h hw, cl_s]
  exact c_mostDangerous_l h hw hN 10 N 0 rfl (by omega)
end
