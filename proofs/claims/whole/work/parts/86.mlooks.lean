theorem le_c (c : Int32) {n a : Nat} (hc : c = nI n) (ha : a < 2 ^ 31) (hn : n < 2 ^ 31) : nI a ≤ c ↔ a ≤ n := by subst hc; exact nI_le_iff ha hn
theorem lt_c (c : Int32) {n a : Nat} (hc : c = nI n) (ha : a < 2 ^ 31) (hn : n < 2 ^ 31) : nI a < c ↔ a < n := by subst hc; exact nI_lt_iff ha hn
theorem c_lt (c : Int32) {n a : Nat} (hc : c = nI n) (ha : a < 2 ^ 31) (hn : n < 2 ^ 31) : c < nI a ↔ n < a := by subst hc; exact nI_lt_iff hn ha
/-! what each look answers -/
def lkL (B : Bd) (j w : Nat) : Int32 := if w = 0 then nI (bM B j) else if w = 1 then (if isAl (bM B) (bb B) j = true then 0 else 1) else if w = 2 then nI (pop (bM B j &&& bfre B)) else if w = 3 then nI (wtP (bM B) (bc B) (bk B) (bb B) j) else nI (pop (bM B j &&& bk B))
def lkC (B : Bd) (i w : Nat) : Int32 := if w = 0 then nI (bow B i) else if w = 1 then nI (bdg B i) else if w = 2 then parB B i else nI (lvP (bM B) (bn B) (bb B) i)
def ctA (A : Ab) : Nat → Int32
  | 0 => nI (bc (aN A))
  | 1 => nI (bn (aN A))
  | 2 => nI (bal (aN A))
  | 3 => nI (bws (aN A))
  | 4 => if bwin (aN A) = 0 then nI (bv (aN A)) else 0
  | 5 => nI (bwin (aN A))
  | 6 => nI (bth (aN A))
  | 7 => if bwin (aN A) = 0 then lowI (bth (aN A)) else -1
  | 8 => npB (aN A)
  | 9 => nI (bfre (aN A))
  | 10 => bo (aN A)
  | 11 => bx (aN A)
  | 12 => by_ (aN A)
  | 13 => bl (aN A)
  | 14 => (if (aS A 0).isSome = true then (1 : Int32) else 0) + (if (aS A 1).isSome = true then (1 : Int32) else 0)
  | _ => nI (aH A)
def plB (B : Bd) (r1 r2 : Nat) : Nat := bwin (itB r1 r2 10 B).1
theorem bdg_0 {B : Bd} {i : Nat} (h : (bfre B).testBit i = false) : bdg B i = 0 := by
  have : ∀ n, fb_sm (fun j => if (bM B j &&& fre (bc B) (bk B) (bb B)).testBit i = true then wtP (bM B) (bc B) (bk B) (bb B) j else 0) n = 0 := by
    intro n
    induction n with
    | zero => rfl
    | succ n ih =>
      show _ + _ = 0
      rw [ih]
      have : (bM B n &&& fre (bc B) (bk B) (bb B)).testBit i = false := by
        have h' : (fre (bc B) (bk B) (bb B)).testBit i = false := h
        rw [Nat.testBit_and, h', Bool.and_false]
      simp [this]
  exact this _
section
variable {N : Nat} {S : Hp} {m : Nat} {g : Nat → Nat} {A : Ab}
theorem m_lineNow (h : MX S m g A) (hw : WfA A) (hB : Big N) {j w : Nat} (hj : j < bn (aN A)) (hw5 : w < 5) : f_X7_lineNow N S m (nI j) (nI w) = some (lkL (aN A) j w, S) := by
  have hN0 : 12 < N := by have := hB.1; omega
  have hz := h.zm.mz hw.1
  have hn := hw.1.1.2.2.1
  have e1 := m_isDead (N := N) hz hj
  have e2 := m_freeOf (N := N) hz hj
  have e3 := m_weightOf (N := N) hz (by omega) hj
  have e4 := m_maker (N := N) hz
  have hM := hz.2.2.2.2.2.2 j hj
  obtain ⟨⟨a1, a2, a3, a4⟩, z⟩ := h.zm
  have i10 : inb ((10 : Int32) + nI j) (hN S (g 0)) := zin a4 (i := (10 : Int32) + nI j) (k := 10 + j) (nI_10 j) (by omega)
  unfold f_X7_lineNow lkL
  by_cases w0 : w = 0
  · subst w0
    rw [if_pos (show nI 0 = (0 : Int32) from rfl), if_pos rfl, gd_pos a1, a2, nn_s, gd_pos a3, gd_pos i10, ix10 (by omega), z.2 j hj]
  · rw [if_neg (fun q => w0 ((nI_eq0 (by omega)).mp q)), if_neg w0]
    by_cases w1 : w = 1
    · subst w1
      rw [if_pos (show nI 1 = (1 : Int32) from rfl), if_pos rfl, gd_pos a1, e1, cl_s]
      by_cases q : isAl (bM (aN A)) (bb (aN A)) j = true
      · rw [if_pos q, if_pos rfl]
      · rw [if_neg q, if_neg (by decide)]
    · rw [if_neg (fun q => w1 ((nI_eq1 (by omega)).mp q)), if_neg w1]
      by_cases w2 : w = 2
      · subst w2
        rw [if_pos (show nI 2 = (2 : Int32) from rfl), if_pos rfl, gd_pos a1, e2, cl_s, m_ones (by omega) (and_lt hM), cl_s]
        rfl
      · rw [if_neg (fun q => w2 ((nI_eq2 (by omega)).mp q)), if_neg w2]
        by_cases w3 : w = 3
        · subst w3
          rw [if_pos (show nI 3 = (3 : Int32) from rfl), if_pos rfl, gd_pos a1, e3, cl_s]
        · rw [if_neg (fun q => w3 ((eq_c 3 rfl (by omega) (by decide)).mp q)), if_neg w3, gd_pos a1, a2, nn_s, gd_pos a3, gd_pos i10, e4, cl_s, ix10 (by omega), z.2 j hj, nI_and, m_ones (by omega) (and_lt hM), cl_s]
theorem m_lv_l (h : MX S m g A) (hw : WfA A) {i : Nat} (hi : i < 32) : ∀ d k j, j + d = bn (aN A) → d < k → f_X7_livelyWith_l4 N m (nI i) k S (nI (lvP (bM (aN A)) j (bb (aN A)) i)) (nI j) = some (nI (lvP (bM (aN A)) (bn (aN A)) (bb (aN A)) i), S) := by
  have hz := h.zm.mz hw.1
  have hn := hw.1.1.2.2.1
  obtain ⟨⟨a1, a2, a3, a4⟩, z⟩ := h.zm
  intro d
  induction d with
  | zero =>
    intro k j hj hk
    obtain ⟨k, rfl⟩ : ∃ q, k = q + 1 := ⟨k - 1, by omega⟩
    unfold f_X7_livelyWith_l4 f_X7_livelyWith_b4
    rw [gd_pos a1, a2, nn_s, gd_pos a3, gd_pos (zin a4 (i := (2 : Int32)) (k := 2) rfl (by decide)), tn2, z.1.2.2.1, if_pos (by rw [show j = bn (aN A) by omega]; exact Int32.le_refl _), show j = bn (aN A) by omega]
  | succ d ih =>
    intro k j hj hk
    obtain ⟨k, rfl⟩ : ∃ q, k = q + 1 := ⟨k - 1, by omega⟩
    have jl : j < bn (aN A) := by omega
    have hM := hz.2.2.2.2.2.2 j jl
    have i10 : inb ((10 : Int32) + nI j) (hN S (g 0)) := zin a4 (i := (10 : Int32) + nI j) (k := 10 + j) (nI_10 j) (by omega)
    have r := ih k (j + 1) (by omega) (by omega)
    unfold f_X7_livelyWith_l4 f_X7_livelyWith_b4
    rw [gd_pos a1, a2, nn_s, gd_pos a3, gd_pos (zin a4 (i := (2 : Int32)) (k := 2) rfl (by decide)), tn2, z.1.2.2.1, if_neg (nle_i (by omega) (by omega)), m_isDead hz jl, cl_s]
    unfold lvP at r ⊢
    rw [fb_ct_succ] at r
    by_cases q : isAl (bM (aN A)) (bb (aN A)) j = true
    · rw [if_pos q, if_pos rfl, gd_pos a1, a2, nn_s, gd_pos a3, gd_pos i10, ix10 (by omega), z.2 j jl, m_has (by omega) hi, cl_s]
      by_cases u : (bM (aN A) j).testBit i = true
      · rw [if_pos u, if_neg (by decide), nI_p1, nI_p1]
        simpa [q, u] using r
      · rw [if_neg u, if_pos rfl, nI_p1, show nI (fb_ct (fun j => (bM (aN A) j).testBit i && isAl (bM (aN A)) (bb (aN A)) j) j) + (0 : Int32) = nI (fb_ct (fun j => (bM (aN A) j).testBit i && isAl (bM (aN A)) (bb (aN A)) j) j) from nI_plus _ 0]
        simpa [q, u] using r
    · rw [if_neg q, if_neg (by decide), nI_p1, show nI (fb_ct (fun j => (bM (aN A) j).testBit i && isAl (bM (aN A)) (bb (aN A)) j) j) + (0 : Int32) = nI (fb_ct (fun j => (bM (aN A) j).testBit i && isAl (bM (aN A)) (bb (aN A)) j) j) from nI_plus _ 0]
      simpa [q] using r
theorem m_lv (h : MX S m g A) (hw : WfA A) (hB : Big N) {i : Nat} (hi : i < 32) : f_X7_livelyWith N S m (nI i) = some (nI (lvP (bM (aN A)) (bn (aN A)) (bb (aN A)) i), S) := m_lv_l h hw hi (bn (aN A)) N 0 (by omega) (by have := hw.1.1.2.2.1; have := hB.1; omega)
theorem m_lively_l (h : MX S m g A) (hw : WfA A) : ∀ d k j, j + d = bn (aN A) → d < k → f_X7_lively_l4 N m k S (nI (fb_ct (isAl (bM (aN A)) (bb (aN A))) j)) (nI j) = some (nI (bal (aN A)), S) := by
  have hz := h.zm.mz hw.1
  have hn := hw.1.1.2.2.1
  obtain ⟨⟨a1, a2, a3, a4⟩, z⟩ := h.zm
  intro d
  induction d with
  | zero =>
    intro k j hj hk
    obtain ⟨k, rfl⟩ : ∃ q, k = q + 1 := ⟨k - 1, by omega⟩
    unfold f_X7_lively_l4 f_X7_lively_b4
    rw [gd_pos a1, a2, nn_s, gd_pos a3, gd_pos (zin a4 (i := (2 : Int32)) (k := 2) rfl (by decide)), tn2, z.1.2.2.1, if_pos (by rw [show j = bn (aN A) by omega]; exact Int32.le_refl _), show j = bn (aN A) by omega]
    rfl
  | succ d ih =>
    intro k j hj hk
    obtain ⟨k, rfl⟩ : ∃ q, k = q + 1 := ⟨k - 1, by omega⟩
    have jl : j < bn (aN A) := by omega
    have r := ih k (j + 1) (by omega) (by omega)
    unfold f_X7_lively_l4 f_X7_lively_b4
    rw [gd_pos a1, a2, nn_s, gd_pos a3, gd_pos (zin a4 (i := (2 : Int32)) (k := 2) rfl (by decide)), tn2, z.1.2.2.1, if_neg (nle_i (by omega) (by omega)), m_isDead hz jl, cl_s]
    rw [fb_ct_succ] at r
    by_cases q : isAl (bM (aN A)) (bb (aN A)) j = true
    · rw [if_pos q, if_pos rfl, nI_p1, nI_p1]
      simpa [q] using r
    · rw [if_neg q, if_neg (by decide), nI_p1, show nI (fb_ct (isAl (bM (aN A)) (bb (aN A))) j) + (0 : Int32) = nI (fb_ct (isAl (bM (aN A)) (bb (aN A))) j) from nI_plus _ 0]
      simpa [q] using r
theorem m_lively (h : MX S m g A) (hw : WfA A) (hB : Big N) : f_X7_lively N S m = some (nI (bal (aN A)), S) := m_lively_l h hw (bn (aN A)) N 0 (by omega) (by have := hw.1.1.2.2.1; have := hB.1; omega)
theorem MX.mc (h : MX S m g A) (hw : WfA A) : MC S m (g 0) (g 8) (g 9) (g 10) (bc (aN A)) (bn (aN A)) (bk (aN A)) (bb (aN A)) (bM (aN A)) := ⟨h.zm.mz hw.1, h.1.ps.1, h.1.ps.2.1, h.1.ps.2.2, h.1.pd⟩
theorem m_cellNow (h : MX S m g A) (hw : WfA A) (hB : Big N) {i w : Nat} (hi : i < bc (aN A)) (hw4 : w < 4) : ∃ T, f_X7_cellNow N S m (nI i) (nI w) = some (lkC (aN A) i w, T) ∧ MStep S m g A T := by
  have hN0 : 12 < N := by have := hB.1; omega
  have hz := h.zm.mz hw.1
  have hc := hw.1.c10
  have hk := hw.1.k10
  have hb := hw.1.b10
  unfold f_X7_cellNow lkC
  by_cases w0 : w = 0
  · subst w0
    refine ⟨S, ?_, MStep.rf h⟩
    unfold bow
    rw [if_pos (show nI 0 = (0 : Int32) from rfl), if_pos rfl, gd_pos h.1.1, m_maker hz, cl_s, m_has (by omega) (by omega), cl_s]
    by_cases q : (bk (aN A)).testBit i = true
    · rw [if_pos q, if_neg (by decide), if_pos q]
      rfl
    · rw [if_neg q, if_pos rfl, if_neg q, gd_pos h.1.1, m_breaker hz, cl_s, m_has (by omega) (by omega), cl_s]
      by_cases q2 : (bb (aN A)).testBit i = true
      · rw [if_pos q2, if_neg (by decide), if_pos q2]
        rfl
      · rw [if_neg q2, if_pos rfl, if_neg q2]
        rfl
  · rw [if_neg (fun q => w0 ((nI_eq0 (by omega)).mp q)), if_neg w0]
    by_cases w1 : w = 1
    · subst w1
      rw [if_pos (show nI 1 = (1 : Int32) from rfl), if_pos rfl, gd_pos h.1.1, m_danger hz hN0 (by omega), cl_s]
      exact ⟨S, rfl, MStep.rf h⟩
    · rw [if_neg (fun q => w1 ((nI_eq1 (by omega)).mp q)), if_neg w1]
      by_cases w2 : w = 2
      · subst w2
        obtain ⟨T, t1, t2⟩ := m_partnerOf (N := N) (h.mc hw) hw.1 (by have := hB.1; omega) hB.2 (hB.tt hw.1.1.2.2.1) (i := i) (by omega)
        rw [if_pos (show nI 2 = (2 : Int32) from rfl), if_pos rfl, gd_pos h.1.1, t1, cl_s]
        exact ⟨T, rfl, m_pr h t2⟩
      · rw [if_neg (fun q => w2 ((nI_eq2 (by omega)).mp q)), if_neg w2, gd_pos h.1.1, m_lv h hw hB (by omega), cl_s]
        exact ⟨S, rfl, MStep.rf h⟩
theorem m_counted (h : MX S m g A) (hw : WfA A) (hB : Big N) : ∀ w, w < 16 → ∃ T, f_X7_counted N S m (nI w) = some (ctA A w, T) ∧ MStep S m g A T := by
  have hN0 : 12 < N := by have := hB.1; omega
  have hz := h.zm.mz hw.1
  obtain ⟨⟨a1, a2, a3, a4⟩, z⟩ := h.zm
  have h4 := h.1.2.1 4 (by decide)
  have zi : ∀ (i : Int32) (k : Nat), i = nI k → k < 22 → inb i (hN S (g 0)) := fun i k e hk => zin a4 (i := i) (k := k) e hk
  have e143 : ∀ x k, (((7 : Int32) + x) - (10 : Int32)) = nI k → k < 22 → f_X7_counted_b143 N m x S = some (hI S (g 0) k, S) := by
    intro x k e hk
    unfold f_X7_counted_b143
    rw [gd_pos a1, a2, nn_s, gd_pos a3, gd_pos (zi _ k e hk), e, nI_clamp (by omega)]
  intro w hw16
  unfold f_X7_counted
  have hcases : w = 0 ∨ w = 1 ∨ w = 2 ∨ w = 3 ∨ w = 4 ∨ w = 5 ∨ w = 6 ∨ w = 7 ∨ w = 8 ∨ w = 9 ∨ w = 10 ∨ w = 11 ∨ w = 12 ∨ w = 13 ∨ w = 14 ∨ w = 15 := by omega
  have fin : ∀ {r : Option (Int32 × Hp)} {v : Int32}, r = some (v, S) → ∃ T, r = some (v, T) ∧ MStep S m g A T := fun e => ⟨S, e, MStep.rf h⟩
  rcases hcases with rfl | rfl | rfl | rfl | rfl | rfl | rfl | rfl | rfl | rfl | rfl | rfl | rfl | rfl | rfl | rfl
  · refine fin ?_
    rw [if_pos (show nI 0 = (0 : Int32) from rfl), gd_pos a1, a2, nn_s, gd_pos a3, gd_pos (zi 0 0 rfl (by decide)), tn0, z.1.1]
    rfl
  · refine fin ?_
    iterate 1 rw [if_neg (by decide)]
    rw [if_pos (show nI 1 = (1 : Int32) from rfl), gd_pos a1, a2, nn_s, gd_pos a3, gd_pos (zi 2 2 rfl (by decide)), tn2, z.1.2.2.1]
    rfl
  · refine fin ?_
    iterate 2 rw [if_neg (by decide)]
    rw [if_pos (show nI 2 = (2 : Int32) from rfl), gd_pos a1, m_lively h hw hB, cl_s]
    rfl
  · refine fin ?_
    iterate 3 rw [if_neg (by decide)]
    rw [if_pos (show nI 3 = (3 : Int32) from rfl), gd_pos a1, m_weight hz hN0, cl_s]
    rfl
  · refine fin ?_
    iterate 4 rw [if_neg (by decide)]
    rw [if_pos (show nI 4 = (4 : Int32) from rfl), gd_pos a1, m_wn h hw hB, cl_s]
    have hb := bwin_le (aN A)
    show _ = some ((if bwin (aN A) = 0 then nI (bv (aN A)) else 0), S)
    by_cases q : bwin (aN A) = 0
    · rw [if_pos ((nI_eq0 (by omega)).mpr q), if_pos q, gd_pos a1, a2, nn_s, gd_pos a3, gd_pos (zi 1 1 rfl (by decide)), tn1, z.1.2.1]
    · rw [if_neg (fun u => q ((nI_eq0 (by omega)).mp u)), if_neg q]
  · refine fin ?_
    iterate 5 rw [if_neg (by decide)]
    rw [if_pos (show nI 5 = (5 : Int32) from rfl), gd_pos a1, m_wn h hw hB, cl_s]
    rfl
  · refine fin ?_
    iterate 6 rw [if_neg (by decide)]
    rw [if_pos (show nI 6 = (6 : Int32) from rfl), gd_pos a1, m_threats hz hN0, cl_s]
    rfl
  · refine fin ?_
    iterate 7 rw [if_neg (by decide)]
    rw [if_pos (show nI 7 = (7 : Int32) from rfl), gd_pos a1, m_forced hz hN0, cl_s]
    rfl
  · obtain ⟨T, t1, t2⟩ := m_pairs (N := N) (h.mc hw) hw.1 (by have := hB.1; omega) hB.2 (hB.tt hw.1.1.2.2.1)
    iterate 8 rw [if_neg (by decide)]
    rw [if_pos (show nI 8 = (8 : Int32) from rfl), gd_pos a1, t1, cl_s]
    exact ⟨T, rfl, m_pr h t2⟩
  · refine fin ?_
    iterate 9 rw [if_neg (by decide)]
    rw [if_pos (show nI 9 = (9 : Int32) from rfl), gd_pos a1, m_free hz, cl_s]
    rfl
  · refine fin ?_
    iterate 10 rw [if_neg (by decide)]
    rw [if_pos (show nI 10 = (10 : Int32) from rfl), e143 _ 7 (by decide) (by decide), z.1.2.2.2.2.2.2.2.1]
    rfl
  · refine fin ?_
    iterate 11 rw [if_neg (by decide)]
    rw [if_pos (show nI 11 = (11 : Int32) from rfl), e143 _ 8 (by decide) (by decide), z.1.2.2.2.2.2.2.2.2.1]
    rfl
  · refine fin ?_
    iterate 12 rw [if_neg (by decide)]
    rw [if_pos (show nI 12 = (12 : Int32) from rfl), e143 _ 9 (by decide) (by decide), z.1.2.2.2.2.2.2.2.2.2]
    rfl
  · refine fin ?_
    iterate 13 rw [if_neg (by decide)]
    rw [if_pos (show nI 13 = (13 : Int32) from rfl), gd_pos a1, a2, nn_s, gd_pos a3, gd_pos (zi 5 5 rfl (by decide)), tn5, z.1.2.2.2.2.2.1]
    rfl
  · refine fin ?_
    iterate 14 rw [if_neg (by decide)]
    rw [if_pos (show nI 14 = (14 : Int32) from rfl), gd_pos a1, h4.1, nn_s, gd_pos h4.2.1, gd_pos (show inb (0 : Int32) (hN S (g 4)) from inN h4.2.2 (show 0 < 2 by decide) (by decide)), gd_pos (show inb (1 : Int32) (hN S (g 4)) from inN h4.2.2 (show 1 < 2 by decide) (by decide)), tn0, tn1, (h.2.2.2.2.1 0 (by decide)).1, (h.2.2.2.2.1 1 (by decide)).1]
    rfl
  · refine fin ?_
    iterate 15 rw [if_neg (by decide)]
    rw [gd_pos a1, h.2.1.1]
    rfl
end
