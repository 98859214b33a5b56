theorem fr_s1 {S T : Hp} {z k : Nat} {v : Int32} (h : Fr [z] S T) : Fr [z] S (sI T z k v) := h.sI (List.mem_cons_self)
theorem le_pred {p : Int32} {n : Nat} (hn : n < 2 ^ 30) : p ≤ nI n - 1 ↔ p < nI n := by
  rw [Int32.le_iff_toInt_le, Int32.lt_iff_toInt_lt, Int32.toInt_sub, nI_toInt (by omega), show (1 : Int32).toInt = 1 from rfl, lw_bm _ (by omega) (by omega)]
  omega
theorem isB_if {p : Prop} [Decidable p] : isB (if p then (1 : Int32) else 0) := by
  by_cases h : p
  · rw [if_pos h]; exact Or.inr rfl
  · rw [if_neg h]; exact Or.inl rfl
/-- a number between two others -/
theorem i_nat {p : Int32} {n : Nat} (h0 : 0 ≤ p) (h1 : p ≤ nI n) (hn : n < 2 ^ 31) : ∃ k, p = nI k ∧ k ≤ n := by
  have a0 : (0 : Int) ≤ p.toInt := by
    have q := Int32.le_iff_toInt_le.mp h0
    exact q
  have a1 := Int32.le_iff_toInt_le.mp h1
  rw [nI_toInt hn] at a1
  refine ⟨p.toInt.toNat, ?_, by omega⟩
  apply Int32.toInt_inj.mp
  rw [nI_toInt (by omega)]
  omega
def cutB (B : Bd) (n : Nat) : Bd := mkB (bM B) 0 n (bk B) (bb B) (bv B) (bl B) (bp B) (bo B) (bx B) (by_ B)
def begB (B : Bd) (n : Nat) : Bd := clrB (cutB B n) 1
def addB (B : Bd) (v : Nat) : Bd := mkB (fun j => if j = bn B then v else bM B j) (bn B + 1) (bc B) (bk B) (bb B) (bv B) (bl B) (bp B) (bo B) (bx B) (by_ B)
def remB (B : Bd) (i : Nat) : Bd := mkB (fun j => if j < i then bM B j else bM B (j + 1)) (bn B - 1) (bc B) (bk B) (bb B) (bv B) (bl B) (bp B) (bo B) (bx B) (by_ B)
def skpB (B : Bd) : Bd := mkB (bM B) (bn B) (bc B) (bk B) (bb B) (3 - bv B) (-1) (-1) (bo B) (bx B) (by_ B)
theorem begB_wf {B : Bd} {n : Nat} (h2 : 2 ≤ n) (h10 : n ≤ 10) : Wf (begB B n) := by
  refine ⟨⟨h2, h10, Nat.zero_le _, fun j hj => absurd hj (Nat.not_lt_zero _)⟩, ⟨Nat.two_pow_pos _, Nat.two_pow_pos _, (by show (0 : Nat) &&& 0 = 0; decide)⟩, Or.inl rfl, Or.inl rfl⟩
theorem addB_wf {B : Bd} (hw : Wf B) {v : Nat} (hv : v < 2 ^ bc B) (h0 : v ≠ 0) (hn : bn B < 12) : Wf (addB B v) := by
  obtain ⟨⟨a1, a2, a3, a4⟩, b, c, d⟩ := hw
  refine ⟨⟨a1, a2, hn, fun j hj => ?_⟩, b, c, d⟩
  show (if j = bn B then v else bM B j) < 2 ^ bc B ∧ (if j = bn B then v else bM B j) ≠ 0
  have hj' : j < bn B + 1 := hj
  by_cases e : j = bn B
  · rw [if_pos e]; exact ⟨hv, h0⟩
  · rw [if_neg e]; exact a4 j (by omega)
theorem remB_wf {B : Bd} (hw : Wf B) {i : Nat} (hi : i < bn B) : Wf (remB B i) := by
  obtain ⟨⟨a1, a2, a3, a4⟩, b, c, d⟩ := hw
  refine ⟨⟨a1, a2, (by show bn B - 1 ≤ 12; omega), fun j hj => ?_⟩, b, c, d⟩
  show (if j < i then bM B j else bM B (j + 1)) < 2 ^ bc B ∧ (if j < i then bM B j else bM B (j + 1)) ≠ 0
  have hj' : j < bn B - 1 := hj
  by_cases e : j < i
  · rw [if_pos e]; exact a4 j (by omega)
  · rw [if_neg e]; exact a4 (j + 1) (by omega)
theorem skpB_wf {B : Bd} (hw : Wf B) : Wf (skpB B) := by
  obtain ⟨a, b, c, d⟩ := hw
  refine ⟨a, b, ?_, Or.inl rfl⟩
  show 3 - bv B = 1 ∨ 3 - bv B = 2
  omega
/-- a whole call of the model: c is what it says was thrown, b its answer -/
def MRes (S : Hp) (m : Nat) (g : Nat → Nat) (A : Ab) (c b : Int32) (run : Option (Int32 × Hp)) : Prop := ∃ T, run = some (b, T) ∧ Fr (MLs m g) S T ∧ MX T m g A ∧ hI T m 7 = c
theorem thr_go {α : Type} {S : Hp} {m : Nat} (hm : ok S m 7) {X Y : Option α} : (gd (ok S m 7) <| gd (ok (sI S m 7 0) m 7) <| if hI (sI S m 7 0) m 7 ≤ 0 then X else Y) = X := by
  rw [gd_pos hm, gd_pos (ok_sI hm), hI_same, if_pos (Int32.le_refl 0)]
theorem thr_no {α : Type} {S : Hp} {m : Nat} (hm : ok S m 7) {c : Int32} (hc : ¬ c ≤ 0) {X Y : Option α} : (gd (ok S m 7) <| gd (ok (sI S m 7 c) m 7) <| if hI (sI S m 7 c) m 7 ≤ 0 then X else Y) = Y := by
  rw [gd_pos hm, gd_pos (ok_sI hm), hI_same, if_neg hc]
section
variable {N : Nat} {S : Hp} {m : Nat} {g : Nat → Nat} {A : Ab}
theorem MX.t7 (h : MX S m g A) (c : Int32) : MX (sI S m 7 c) m g A := h.thr 7 (by decide) c
theorem MX.f7 {k : Nat} {c : Int32} : Fr (MLs m g) S (sI S m k c) := Fr.rf.sI mls_m
theorem mres_bad (h : MX S m g A) (c : Int32) : MRes S m g A c 0 (some (0, sI S m 7 c)) := ⟨_, rfl, MX.f7, h.t7 c, hI_same _ _ _ _⟩
theorem mres_of {A' : Ab} {c b : Int32} {run : Option (Int32 × Hp)} (h : ∃ T, run = some (b, T) ∧ MStep (sI S m 7 c) m g A' T) : MRes S m g A' c b run := by
  obtain ⟨T, t1, t2, t3, t4⟩ := h
  exact ⟨T, t1, MX.f7.tr t2, t3, t4.trans (hI_same _ _ _ _)⟩
theorem m_isCell (h : MX S m g A) (hw : WfA A) {x : Int32} : f_X7_isCell N S m x = some ((if 0 ≤ x ∧ x < nI (bc (aN A)) then (1 : Int32) else 0), S) := by
  obtain ⟨⟨a1, a2, a3, a4⟩, z⟩ := h.zm
  have hc := hw.1.c10
  unfold f_X7_isCell
  rw [gd_pos a1, a2, nn_s, gd_pos a3, gd_pos (zin a4 (i := (0 : Int32)) (k := 0) rfl (by decide)), tn0, z.1.1, m_within, cl_s]
  simp only [le_pred (show bc (aN A) < 2 ^ 30 by omega)]
  rw [gd_pos isB_if]
theorem m_isLine (h : MX S m g A) (hw : WfA A) {x : Int32} : f_X7_isLine N S m x = some ((if 0 ≤ x ∧ x < nI (bn (aN A)) then (1 : Int32) else 0), S) := by
  obtain ⟨⟨a1, a2, a3, a4⟩, z⟩ := h.zm
  have hc := hw.1.1.2.2.1
  unfold f_X7_isLine
  rw [gd_pos a1, a2, nn_s, gd_pos a3, gd_pos (zin a4 (i := (2 : Int32)) (k := 2) rfl (by decide)), tn2, z.1.2.2.1, m_within, cl_s]
  simp only [le_pred (show bn (aN A) < 2 ^ 30 by omega)]
  rw [gd_pos isB_if]
theorem m_isRule {x : Int32} : f_X7_isRule N S x = some ((if 0 ≤ x ∧ x ≤ 3 then (1 : Int32) else 0), S) := by
  unfold f_X7_isRule
  rw [m_within, cl_s, gd_pos isB_if]
theorem m_isSnap {x : Int32} : f_X7_isSnapshot N S x = some ((if 0 ≤ x ∧ x ≤ 1 then (1 : Int32) else 0), S) := by
  unfold f_X7_isSnapshot
  rw [m_within, cl_s, gd_pos isB_if]
theorem m_empties {z : Nat} {B : Bd} (h : ZM S m z B) {v : Nat} : ∃ T, f_X7_empties N S m (nI v) = some ((), T) ∧ Fr [z] S T ∧ Zr T z (clrB B v) := by
  obtain ⟨⟨a1, a2, a3, a4⟩, ⟨z0, z1, z2, z3, z4, z5, z6, z7, z8, z9⟩, zM⟩ := h
  have i1 := zin a4 (i := (1 : Int32)) (k := 1) rfl (by decide)
  have i3 := zin a4 (i := (3 : Int32)) (k := 3) rfl (by decide)
  have i4 := zin a4 (i := (4 : Int32)) (k := 4) rfl (by decide)
  have i5 := zin a4 (i := (5 : Int32)) (k := 5) rfl (by decide)
  have i6 := zin a4 (i := (6 : Int32)) (k := 6) rfl (by decide)
  unfold f_X7_empties
  rw [gd_pos a1, a2, nn_s, gd_pos a3, gd_pos i1, gd_pos (by exact i3), bd_d, gd_pos (by exact i4), bd_d, gd_pos (by exact i5), bd_d, gd_pos (by exact i6), bd_d, tn1, tn3, tn4, tn5, tn6]
  refine ⟨_, rfl, fr_s1 (fr_s1 (fr_s1 (fr_s1 (fr_s1 Fr.rf)))), ⟨?_, ?_, ?_, ?_, ?_, ?_, ?_, ?_, ?_, ?_⟩, fun j hj => ?_⟩
  · rw [hI_k (by decide), hI_k (by decide), hI_k (by decide), hI_k (by decide), hI_k (by decide)]; exact z0
  · rw [hI_k (by decide), hI_k (by decide), hI_k (by decide), hI_k (by decide), hI_same]; rfl
  · rw [hI_k (by decide), hI_k (by decide), hI_k (by decide), hI_k (by decide), hI_k (by decide)]; exact z2
  · rw [hI_k (by decide), hI_k (by decide), hI_k (by decide), hI_same]; rfl
  · rw [hI_k (by decide), hI_k (by decide), hI_same]; rfl
  · rw [hI_k (by decide), hI_same]; rfl
  · rw [hI_same]; rfl
  · rw [hI_k (by decide), hI_k (by decide), hI_k (by decide), hI_k (by decide), hI_k (by decide)]; exact z7
  · rw [hI_k (by decide), hI_k (by decide), hI_k (by decide), hI_k (by decide), hI_k (by decide)]; exact z8
  · rw [hI_k (by decide), hI_k (by decide), hI_k (by decide), hI_k (by decide), hI_k (by decide)]; exact z9
  · rw [hI_k (by omega), hI_k (by omega), hI_k (by omega), hI_k (by omega), hI_k (by omega)]; exact zM j hj
theorem z4 {z : Nat} : ∀ a, a ∈ [z] → a ∈ [z, g 8, g 9, g 10] := by simp
theorem m_begin_bad (h : MX S m g A) {p : Int32} (hp : ¬ ((2 : Int32) ≤ p ∧ p ≤ 10)) : MRes S m g A 1 0 (f_X7_begin N S m p) := by
  unfold f_X7_begin
  rw [m_within, cl_s, if_neg hp, if_pos rfl, f_X7_begin_b16, thr_no h.1.1 (by decide)]
  exact mres_bad h 1
theorem m_begin (h : MX S m g A) (hw : WfA A) (hB : Big N) {n : Nat} (h2 : 2 ≤ n) (h10 : n ≤ 10) : MRes S m g (nowA (svA A) (begB (aN A) n)) 0 (nI (bc (aN A))) (f_X7_begin N S m (nI n)) := by
  unfold f_X7_begin
  have q : (2 : Int32) ≤ nI n ∧ nI n ≤ 10 := ⟨(nI_le_iff (a := 2) (by decide) (by omega)).mpr h2, (nI_le_iff (b := 10) (by omega) (by decide)).mpr h10⟩
  rw [m_within, cl_s, if_pos q, if_neg (by decide), f_X7_begin_b16, thr_go h.1.1]
  refine mres_of ?_
  obtain ⟨T, t1, t2⟩ := m_save (h.t7 0) hw hB
  have hz := t2.2.1.zm
  obtain ⟨⟨a1, a2, a3, a4⟩, ⟨z0, z1, z2, z3, z4', z5, z6, z7, z8, z9⟩, zM⟩ := t2.2.1.zm
  rw [t1, cl_s, gd_pos a1, a2, nn_s, gd_pos a3, gd_pos (zin a4 (i := (0 : Int32)) (k := 0) rfl (by decide)), bd_d, hN_sI, gd_pos (zin a4 (i := (2 : Int32)) (k := 2) rfl (by decide)), bd_d, tn0, tn2]
  have f : Fr [g 0] T (sI (sI T (g 0) 0 (nI n)) (g 0) 2 0) := fr_s1 (fr_s1 Fr.rf)
  have zc : ZM (sI (sI T (g 0) 0 (nI n)) (g 0) 2 0) m (g 0) (cutB (aN A) n) := by
    refine ⟨⟨a1, a2, a3, a4⟩, ⟨?_, ?_, ?_, ?_, ?_, ?_, ?_, ?_, ?_, ?_⟩, fun j hj => absurd hj (Nat.not_lt_zero _)⟩
    · rw [hI_k (by decide), hI_same]; rfl
    · rw [hI_k (by decide), hI_k (by decide)]; exact z1
    · rw [hI_same]; rfl
    · rw [hI_k (by decide), hI_k (by decide)]; exact z3
    · rw [hI_k (by decide), hI_k (by decide)]; exact z4'
    · rw [hI_k (by decide), hI_k (by decide)]; exact z5
    · rw [hI_k (by decide), hI_k (by decide)]; exact z6
    · rw [hI_k (by decide), hI_k (by decide)]; exact z7
    · rw [hI_k (by decide), hI_k (by decide)]; exact z8
    · rw [hI_k (by decide), hI_k (by decide)]; exact z9
  obtain ⟨U, u1, u2, u3⟩ := m_empties (N := N) zc (v := 1)
  have u1' : f_X7_empties N (sI (sI T (g 0) 0 (nI n)) (g 0) 2 0) m 1 = some ((), U) := u1
  rw [u1', cl_s, z0]
  exact ⟨U, rfl, t2.tr (m_zw t2.2.1 ((f.tr u2).mono z4) u3)⟩
theorem m_addLine_bad (h : MX S m g A) (hw : WfA A) {p : Int32} (hp : ¬ ((1 : Int32) ≤ p ∧ p ≤ nI (2 ^ bc (aN A) - 1))) : MRes S m g A 1 0 (f_X7_addLine N S m p) := by
  obtain ⟨⟨a1, a2, a3, a4⟩, z⟩ := h.zm
  have hc := hw.1.c10
  unfold f_X7_addLine
  rw [gd_pos a1, a2, nn_s, gd_pos a3, gd_pos (zin a4 (i := (0 : Int32)) (k := 0) rfl (by decide)), tn0, z.1.1, nI_all _ (by omega), m_within, cl_s, if_neg hp, if_pos rfl, f_X7_addLine_b39, thr_no h.1.1 (by decide)]
  exact mres_bad h 1
theorem in1 {v c : Nat} (hc : c ≤ 10) (h0 : v ≠ 0) (hv : v < 2 ^ c) : (1 : Int32) ≤ nI v ∧ nI v ≤ nI (2 ^ c - 1) := by
  have q := pw10 hc
  exact ⟨(nI_le_iff (a := 1) (by decide) (by omega)).mpr (by omega), (nI_le_iff (by omega) (by omega)).mpr (by omega)⟩
theorem m_addLine_full (h : MX S m g A) (hw : WfA A) {v : Nat} (h0 : v ≠ 0) (hv : v < 2 ^ bc (aN A)) (hn : bn (aN A) = 12) : MRes S m g A 2 0 (f_X7_addLine N S m (nI v)) := by
  obtain ⟨⟨a1, a2, a3, a4⟩, z⟩ := h.zm
  have hc := hw.1.c10
  unfold f_X7_addLine
  rw [gd_pos a1, a2, nn_s, gd_pos a3, gd_pos (zin a4 (i := (0 : Int32)) (k := 0) rfl (by decide)), tn0, z.1.1, nI_all _ (by omega), m_within, cl_s, if_pos (in1 hc h0 hv), if_neg (by decide), gd_pos a1, a2, nn_s, gd_pos a3, gd_pos (zin a4 (i := (2 : Int32)) (k := 2) rfl (by decide)), tn2, z.1.2.2.1, if_pos (by rw [hn]; rfl), f_X7_addLine_b39, thr_no h.1.1 (by decide)]
  exact mres_bad h 2
theorem m_addLine (h : MX S m g A) (hw : WfA A) (hB : Big N) {v : Nat} (h0 : v ≠ 0) (hv : v < 2 ^ bc (aN A)) (hn : bn (aN A) < 12) : MRes S m g (nowA (svA A) (addB (aN A) v)) 0 (nI (bn (aN A))) (f_X7_addLine N S m (nI v)) := by
  have hc := hw.1.c10
  obtain ⟨T, t1, t2⟩ := m_save (h.t7 0) hw hB
  have hT := t2.2.1.zm
  unfold f_X7_addLine
  obtain ⟨⟨a1, a2, a3, a4⟩, z⟩ := h.zm
  rw [gd_pos a1, a2, nn_s, gd_pos a3, gd_pos (zin a4 (i := (0 : Int32)) (k := 0) rfl (by decide)), tn0, z.1.1, nI_all _ (by omega), m_within, cl_s, if_pos (in1 hc h0 hv), if_neg (by decide), gd_pos a1, a2, nn_s, gd_pos a3, gd_pos (zin a4 (i := (2 : Int32)) (k := 2) rfl (by decide)), tn2, z.1.2.2.1, if_neg (fun w => absurd ((eq_c 12 (n := 12) rfl (by omega) (by decide)).mp w) (by omega)), f_X7_addLine_b39, thr_go h.1.1]
  refine mres_of ?_
  obtain ⟨⟨b1, b2, b3, b4⟩, ⟨z0, z1, z2, z3, z4', z5, z6, z7, z8, z9⟩, zM⟩ := hT
  have z2' : hI T (g 0) 2 = nI (bn (aN A)) := z2
  have i2 := zin b4 (i := (2 : Int32)) (k := 2) rfl (by decide)
  rw [t1, cl_s, gd_pos b1, b2, nn_s, gd_pos b3, gd_pos i2, tn2, z2', gd_pos (zin b4 (k := 10 + bn (aN A)) (nI_10 _) (by omega)), bd_d, bd_d, ix10 (by omega), hI_k (show 2 ≠ 10 + bn (aN A) by omega), z2', hI_same, nI_p1, nI_m1]
  refine ⟨_, rfl, t2.tr (m_zw t2.2.1 ((fr_s1 (fr_s1 Fr.rf)).mono z4) ?_)⟩
  refine ⟨⟨?_, ?_, ?_, ?_, ?_, ?_, ?_, ?_, ?_, ?_⟩, fun j hj => ?_⟩
  · rw [hI_k (by decide), hI_k (by omega)]; exact z0
  · rw [hI_k (by decide), hI_k (by omega)]; exact z1
  · rw [hI_same]; rfl
  · rw [hI_k (by decide), hI_k (by omega)]; exact z3
  · rw [hI_k (by decide), hI_k (by omega)]; exact z4'
  · rw [hI_k (by decide), hI_k (by omega)]; exact z5
  · rw [hI_k (by decide), hI_k (by omega)]; exact z6
  · rw [hI_k (by decide), hI_k (by omega)]; exact z7
  · rw [hI_k (by decide), hI_k (by omega)]; exact z8
  · rw [hI_k (by decide), hI_k (by omega)]; exact z9
  · rw [hI_k (by omega)]
    show _ = nI (if j = bn (aN A) then v else bM (aN A) j)
    have hj' : j < bn (aN A) + 1 := hj
    by_cases e : j = bn (aN A)
    · rw [if_pos e, e, hI_same]
    · rw [if_neg e, hI_k (by omega)]
      exact zM j (by show j < bn (aN A); omega)
theorem m_clear (h : MX S m g A) (hw : WfA A) (hB : Big N) {x : Int32} : MRes S m g (nowA (svA A) (clrB (aN A) (if x = 0 then 2 else 1))) 0 (nI (pop (bk (aN A) ||| bb (aN A)))) (f_X7_clear N S m x) := by
  obtain ⟨T, t1, t2⟩ := m_save (h.t7 0) hw hB
  have hz := t2.2.1.zm
  have hwT : Wf (aN (svA A)) := hw.1
  have e1 := m_maker (N := N) (hz.mz hwT)
  have e2 := m_breaker (N := N) (hz.mz hwT)
  have e3 := m_ones (N := N) (S := T) (by have := hB.1; omega) (or_lt hw.1.k10 hw.1.b10)
  have e1' : f_X7_maker N T m = some (nI (bk (aN A)), T) := e1
  have e2' : f_X7_breaker N T m = some (nI (bb (aN A)), T) := e2
  unfold f_X7_clear
  rw [gd_pos h.1.1, t1, cl_s, gd_pos hz.1.1, e1', cl_s, gd_pos hz.1.1, e2', cl_s, nI_or, e3, cl_s]
  refine mres_of ?_
  have key : ∀ v, ∃ U, f_X7_clear_b32 N m x T (nI (pop (bk (aN A) ||| bb (aN A)))) (nI v) m = some (nI (pop (bk (aN A) ||| bb (aN A))), U) ∧ MStep (sI S m 7 0) m g (nowA (svA A) (clrB (aN A) v)) U := by
    intro v
    obtain ⟨U, u1, u2, u3⟩ := m_empties (N := N) hz (v := v)
    unfold f_X7_clear_b32
    rw [gd_pos hz.1.1, u1, cl_s]
    exact ⟨U, rfl, t2.tr (m_zw t2.2.1 (u2.mono z4) u3)⟩
  by_cases hx : x = 0
  · rw [if_pos hx, if_pos hx]
    exact key 2
  · rw [if_neg hx, if_neg hx]
    exact key 1
end
