/-! the buffer as rows of lines: what its first i characters tell -/
def dT (T : Nat → Nat) (i : Nat) : Nat := if i = 0 then 0 else if T (i - 1) = 59 then 0 else T (i - 1) - 47
def pT (T : Nat → Nat) (i : Nat) : Nat := fb_ct (fun k => decide (T k = 59)) i
def fT (T : Nat → Nat) : Nat → Nat → Nat
  | 0, _ => 0
  | i + 1, j => if T i ≠ 59 ∧ j = pT T i then fT T i j ||| 2 ^ (T i - 48) else fT T i j
abbrev okT (c : Nat) (T : Nat → Nat) (i : Nat) : Prop := (T i = 59 ∧ dT T i ≠ 0) ∨ (48 ≤ T i ∧ dT T i ≤ T i - 48 ∧ T i - 48 < c)
def erT (c : Nat) (T : Nat → Nat) (L : Nat) : Nat := fa_first (fun i => decide (¬ okT c T i)) L
def Rg (c : Nat) (T : Nat → Nat) (i : Nat) : Prop := ∀ k, k < i → okT c T k
theorem er_at {c L i : Nat} {T : Nat → Nat} (hi : i < L) (h : Rg c T i) (g : ¬ okT c T i) : erT c T L = i := first_at hi (fun k hk => decide_eq_false (fun w => w (h k hk))) (decide_eq_true g)
theorem er_no {c L : Nat} {T : Nat → Nat} (h : Rg c T L) : erT c T L = L := first_none (fun k hk => decide_eq_false (fun w => w (h k hk)))
theorem er_rg {c L : Nat} {T : Nat → Nat} (h : erT c T L = L) : Rg c T L := by
  intro k hk
  have q := fa_first_no (fun i => decide (¬ okT c T i)) L k (by rw [show fa_first (fun i => decide (¬ okT c T i)) L = L from h]; exact hk)
  exact Decidable.of_not_not (of_decide_eq_false q)
theorem dT_s (T : Nat → Nat) (i : Nat) : dT T (i + 1) = if T i = 59 then 0 else T i - 47 := by
  unfold dT
  rw [if_neg (Nat.succ_ne_zero i), Nat.add_sub_cancel]
theorem pT_s (T : Nat → Nat) (i : Nat) : pT T (i + 1) = pT T i + (if T i = 59 then 1 else 0) := by
  unfold pT
  rw [fb_ct_succ]
  simp only [decide_eq_true_eq]
theorem fT_s (T : Nat → Nat) (i j : Nat) : fT T (i + 1) j = if T i ≠ 59 ∧ j = pT T i then fT T i j ||| 2 ^ (T i - 48) else fT T i j := rfl
/-- what holds while all is right -/
def RgI (c : Nat) (T : Nat → Nat) (i : Nat) : Prop := (dT T i ≤ c ∧ fT T i (pT T i) < 2 ^ dT T i ∧ (dT T i ≠ 0 → 2 ^ (dT T i - 1) ≤ fT T i (pT T i))) ∧ (∀ j, pT T i < j → fT T i j = 0) ∧ (∀ j, j < pT T i → fT T i j ≠ 0 ∧ fT T i j < 2 ^ c) ∧ 2 * pT T i + (if dT T i = 0 then 0 else 1) ≤ i
theorem rg_inv {c : Nat} {T : Nat → Nat} (hc : c ≤ 10) : ∀ {i : Nat}, Rg c T i → RgI c T i
  | 0, _ => ⟨⟨Nat.zero_le _, by show 0 < 2 ^ 0; decide, fun q => absurd rfl q⟩, fun _ _ => rfl, fun j hj => absurd hj (Nat.not_lt_zero j), Nat.le_refl 0⟩
  | i + 1, h => by
    obtain ⟨⟨a1, a2, a3⟩, b, d, e⟩ := rg_inv hc (fun k hk => h k (Nat.lt_succ_of_lt hk) : Rg c T i)
    rcases h i (Nat.lt_succ_self i) with ⟨t1, t2⟩ | ⟨t1, t2, t3⟩
    · have ed : dT T (i + 1) = 0 := by rw [dT_s, if_pos t1]
      have ep : pT T (i + 1) = pT T i + 1 := by rw [pT_s, if_pos t1]
      have ef : ∀ j, fT T (i + 1) j = fT T i j := fun j => by rw [fT_s, if_neg (fun q => q.1 t1)]
      rw [if_neg t2] at e
      refine ⟨⟨by omega, ?_, fun q => absurd ed q⟩, fun j hj => ?_, fun j hj => ?_, ?_⟩
      · rw [ed, ep, ef, b _ (Nat.lt_succ_self _)]
        decide
      · rw [ef]
        exact b j (by omega)
      · rw [ef]
        by_cases q : j = pT T i
        · rw [q]
          have := a3 t2
          have := Nat.two_pow_pos (dT T i - 1)
          exact ⟨by omega, Nat.lt_of_lt_of_le a2 (Nat.pow_le_pow_right (by decide) a1)⟩
        · exact d j (by omega)
      · rw [ed, ep, if_pos rfl]
        omega
    · have n59 : T i ≠ 59 := by omega
      have ed : dT T (i + 1) = T i - 48 + 1 := by rw [dT_s, if_neg n59]; omega
      have ep : pT T (i + 1) = pT T i := by rw [pT_s, if_neg n59]; rfl
      have e1 : fT T (i + 1) (pT T i) = fT T i (pT T i) ||| 2 ^ (T i - 48) := by rw [fT_s, if_pos ⟨n59, rfl⟩]
      have ef : ∀ j, j ≠ pT T i → fT T (i + 1) j = fT T i j := fun j hj => by rw [fT_s, if_neg (fun q => hj q.2)]
      refine ⟨⟨by omega, ?_, fun _ => ?_⟩, fun j hj => ?_, fun j hj => ?_, ?_⟩
      · rw [ed, ep, e1]
        exact Nat.or_lt_two_pow (Nat.lt_of_lt_of_le a2 (Nat.pow_le_pow_right (by decide) (by omega))) (Nat.pow_lt_pow_right (by decide) (by omega))
      · rw [ed, ep, e1, Nat.add_sub_cancel]
        exact Nat.right_le_or
      · rw [ep] at hj
        rw [ef j (by omega)]
        exact b j hj
      · rw [ep] at hj
        rw [ef j (by omega)]
        exact d j hj
      · rw [ed, ep, if_neg (by omega)]
        have : 0 ≤ (if dT T i = 0 then 0 else 1 : Nat) := Nat.zero_le _
        omega
theorem rg_lt {c : Nat} {T : Nat → Nat} {i e : Nat} (h : RgI c T i) : fT T i (pT T i) < 2 ^ e ↔ dT T i ≤ e := by
  obtain ⟨⟨a1, a2, a3⟩, -⟩ := h
  constructor
  · intro q
    by_cases g : dT T i ≤ e
    · exact g
    · have := a3 (by omega)
      have := Nat.pow_le_pow_right (n := 2) (by decide) (show e ≤ dT T i - 1 by omega)
      omega
  · intro q
    exact Nat.lt_of_lt_of_le a2 (Nat.pow_le_pow_right (by decide) q)
theorem rg_0 {c : Nat} {T : Nat → Nat} {i : Nat} (h : RgI c T i) : fT T i (pT T i) = 0 ↔ dT T i = 0 := by
  have q := rg_lt (e := 0) h
  rw [Nat.pow_zero] at q
  omega
theorem fT_lt {c : Nat} {T : Nat → Nat} {i : Nat} (hc : c ≤ 10) (h : RgI c T i) (j : Nat) : fT T i j < 1024 := by
  obtain ⟨⟨a1, a2, a3⟩, b, d, e⟩ := h
  rcases Nat.lt_trichotomy j (pT T i) with q | q | q
  · exact Nat.lt_of_lt_of_le (d j q).2 (pw10 hc)
  · rw [q]
    exact Nat.lt_of_lt_of_le a2 (pw10 (by omega))
  · rw [b j q]
    decide
/-- the buffer is a complete row of lines -/
abbrev cmT (c : Nat) (T : Nat → Nat) (L : Nat) : Prop := erT c T L = L ∧ dT T L ≠ 0
def rdB (B : Bd) (T : Nat → Nat) (L : Nat) : Bd := mkB (fun j => if j < bn B then bM B j else fT T L (j - bn B)) (bn B + (pT T L + 1)) (bc B) (bk B) (bb B) (bv B) (bl B) (bp B) (bo B) (bx B) (by_ B)
theorem rdB_wf {B : Bd} (hw : Wf B) {T : Nat → Nat} {L : Nat} (h : cmT (bc B) T L) (hn : bn B + (pT T L + 1) ≤ 12) : Wf (rdB B T L) := by
  obtain ⟨⟨a1, a2, a3⟩, b, d, e⟩ := rg_inv hw.c10 (er_rg h.1)
  refine ⟨⟨hw.1.1, hw.1.2.1, hn, fun j hj => ?_⟩, hw.2⟩
  have hj' : j < bn B + (pT T L + 1) := hj
  show (if j < bn B then bM B j else fT T L (j - bn B)) < 2 ^ bc B ∧ (if j < bn B then bM B j else fT T L (j - bn B)) ≠ 0
  by_cases q : j < bn B
  · rw [if_pos q]
    exact hw.1.2.2.2 j q
  · rw [if_neg q]
    by_cases u : j - bn B = pT T L
    · rw [u]
      have := a3 h.2
      have := Nat.two_pow_pos (dT T L - 1)
      exact ⟨Nat.lt_of_lt_of_le a2 (Nat.pow_le_pow_right (by decide) a1), by omega⟩
    · have := d (j - bn B) (by omega)
      exact ⟨this.2, this.1⟩
theorem lo48 : ∀ t, t < 48 → ¬ (0 : Int32) ≤ nI t - 48 := by decide
theorem lt_i {a b : Nat} (h : a < b) (hb : b < 2 ^ 31) : nI a < nI b := (nI_lt_iff (by omega) hb).mpr h
section
variable {N : Nat} {S : Hp} {m : Nat} {g : Nat → Nat} {A : Ab}
def TX (S : Hp) (m : Nat) (g : Nat → Nat) (T : Nat → Nat) (i : Nat) : Prop := hI S m 17 = nI (pT T i) ∧ ∀ j, j ≤ pT T i → hI S (g 16) j = nI (fT T i j)
theorem m_tx (h : MX S m g A) {U : Hp} (f : Fr [m, g 16] S U) (hm : ∀ k, k ≠ 17 → hI U m k = hI S m k) : MStep S m g A U := by
  have o : ∀ i, i ∈ [0, 2, 3, 4, 6, 13, 14, 15] → g i ∉ [m, g 16] := by
    intro i hi
    have hi' : i ∈ FS ∧ i ≠ 16 := by
      simp only [List.mem_cons, List.not_mem_nil, or_false] at hi
      rcases hi with rfl | rfl | rfl | rfl | rfl | rfl | rfl | rfl <;> decide
    simp only [List.mem_cons, List.not_mem_nil, or_false, not_or]
    exact ⟨(h.1.m hi'.1).symm, h.1.2.2 i 16 hi'.1 (by decide) hi'.2⟩
  refine ⟨f.mono (fun a ha => ?_), ?_, hm 7 (by decide)⟩
  · simp only [List.mem_cons, List.not_mem_nil, or_false] at ha
    rcases ha with rfl | rfl
    · exact mls_m
    · exact mls_g (by decide)
  · have hh := h
    obtain ⟨a1, ⟨a2, a2'⟩, a3, a4, a5, a6, a7⟩ := h
    refine hh.of f (hm 11 (by decide)) (hm 12 (by decide)) (fun i hi => o i (by simp only [List.mem_cons, List.not_mem_nil, or_false] at hi ⊢; omega)) ?_ ?_ ?_ ?_ ?_ ?_
    · rw [hm 1 (by decide)]; exact a2
    · rw [hm 5 (by decide)]; exact a2'
    · unfold Zr
      rw [f.I (o 0 (by decide))]
      exact a3
    · intro j hj
      simp only [f.I (o 2 (by decide))]
      exact a4 j hj
    · intro i hi
      simp only [f.I (o 3 (by decide)), f.I (o 4 (by decide))]
      exact a5 i hi
    · intro k hk
      rw [f.I (o 6 (by decide))]
      exact a6 k hk
theorem m_takes_59 (h : MX S m g A) (hw : WfA A) {T : Nat → Nat} {i : Nat} (hi : i < 60) (ht : TX S m g T i) (hr : Rg (bc (aN A)) T i) (h1 : T i = 59) (h2 : dT T i ≠ 0) : ∃ U, f_X7_takes N S m (nI (T i)) = some (1, U) ∧ Fr [m, g 16] S U ∧ (∀ k, k ≠ 17 → hI U m k = hI S m k) ∧ TX U m g T (i + 1) := by
  have hv := rg_inv hw.1.c10 hr
  have h16 := h.1.2.1 16 (by decide)
  have n16 := h.1.m (i := 16) (by decide)
  obtain ⟨⟨a1, a2, a3⟩, b, d, e⟩ := hv
  rw [if_neg h2] at e
  have fp : fT T i (pT T i) ≠ 0 := fun w => h2 ((rg_0 (rg_inv hw.1.c10 hr)).mp w)
  have fl := fT_lt hw.1.c10 (rg_inv hw.1.c10 hr) (pT T i)
  have n5 : hN S (g 16) = 32 := h16.2.2
  refine ⟨sI (sI S m 17 (nI (pT T i + 1))) (g 16) (pT T i + 1) 0, ?_, (Fr.rf.sI (by simp)).sI (by simp), fun k hk => ?_, ?_⟩
  · unfold f_X7_takes
    rw [if_pos (by rw [h1]; rfl), gd_pos h.1.1, h16.1, nn_s, gd_pos h16.2.1, ht.1, gd_pos (inN n5 (show pT T i < 32 by omega) (by decide)), nI_clamp (by omega), ht.2 _ (Nat.le_refl _), if_neg (fun q => fp ((nI_le0 (by omega)).mp q)), nI_p1, hI_same, hN_sI, gd_pos (inN n5 (show pT T i + 1 < 32 by omega) (by decide)), bd_d, nI_clamp (by omega)]
  · rw [hI_a n16, hI_k hk]
  · have ep : pT T (i + 1) = pT T i + 1 := by rw [pT_s, if_pos h1]
    refine ⟨?_, fun j hj => ?_⟩
    · rw [hI_a n16, hI_same, ep]
    · rw [ep] at hj
      rw [fT_s, if_neg (fun q => q.1 h1)]
      by_cases q : j = pT T i + 1
      · rw [q, hI_same, b _ (Nat.lt_succ_self _)]
        rfl
      · rw [hI_k q, hI_a (Ne.symm n16)]
        exact ht.2 j (by omega)
theorem m_takes_40 (h : MX S m g A) (hw : WfA A) {T : Nat → Nat} {i : Nat} (hi : i < 60) (h126 : T i ≤ 126) (ht : TX S m g T i) (hr : Rg (bc (aN A)) T i) : (48 ≤ T i ∧ dT T i ≤ T i - 48 ∧ T i - 48 < bc (aN A) → ∃ U, f_X7_takes_b40 N m (nI (T i)) S = some (1, U) ∧ Fr [m, g 16] S U ∧ (∀ k, k ≠ 17 → hI U m k = hI S m k) ∧ TX U m g T (i + 1)) ∧ (¬ (48 ≤ T i ∧ dT T i ≤ T i - 48 ∧ T i - 48 < bc (aN A)) → ∃ U, f_X7_takes_b40 N m (nI (T i)) S = some (0, U) ∧ Fr [m, g 16] S U ∧ (∀ k, k ≠ 17 → hI U m k = hI S m k)) := by
  have hc := hw.1.c10
  have hv := rg_inv hw.1.c10 hr
  have h16 := h.1.2.1 16 (by decide)
  have n16 := h.1.m (i := 16) (by decide)
  obtain ⟨⟨a1, a2, a3⟩, b, d, e⟩ := hv
  have hv := rg_inv hw.1.c10 hr
  have fl := fT_lt hw.1.c10 hv (pT T i)
  have n5 : hN S (g 16) = 32 := h16.2.2
  have e74 : ∀ s0, f_X7_takes_b74 N m (nI (T i)) S s0 = if s0 = 0 then (f_X7_takes_b99 N m (nI (T i)) S s0 ((0 : Int32)) (nI (fT T i (pT T i))) (nI (pT T i)) (g 16)) else (f_X7_takes_b99 N m (nI (T i)) S s0 (((1 : Int32) <<< ((nI (T i) - (48 : Int32)) &&& 31))) (nI (fT T i (pT T i))) (nI (pT T i)) (g 16)) := by
    intro s0
    unfold f_X7_takes_b74
    rw [gd_pos h.1.1, h16.1, nn_s, gd_pos h16.2.1, ht.1, gd_pos (inN n5 (show pT T i < 32 by omega) (by decide)), nI_clamp (by omega), ht.2 _ (Nat.le_refl _)]
  have bad : ∃ U, f_X7_takes_b73 N m (nI (T i)) S = some (0, U) ∧ Fr [m, g 16] S U ∧ (∀ k, k ≠ 17 → hI U m k = hI S m k) := by
    refine ⟨sI S (g 16) (pT T i) (nI (fT T i (pT T i)) ||| 0), ?_, Fr.rf.sI (by simp), fun k hk => by rw [hI_a n16]⟩
    unfold f_X7_takes_b73
    rw [e74, if_pos rfl]
    unfold f_X7_takes_b99
    rw [gd_pos h16.2.1, gd_pos (inN n5 (show pT T i < 32 by omega) (by decide)), gd_pos (Or.inl rfl), nI_clamp (by omega)]
  unfold f_X7_takes_b40
  rw [gd_pos h.1.1, m_isCell h hw, cl_s]
  by_cases t1 : 48 ≤ T i
  · have e48 : nI (T i) - (48 : Int32) = nI (T i - 48) := nI_minus (b := 48) t1
    rw [e48]
    by_cases t3 : T i - 48 < bc (aN A)
    · rw [if_pos (in0 t3 (by omega)), if_neg (by decide), gd_pos h.1.1, h16.1, nn_s, gd_pos h16.2.1, ht.1, gd_pos (inN n5 (show pT T i < 32 by omega) (by decide)), nI_clamp (by omega), ht.2 _ (Nat.le_refl _), nI_bit _ (by omega)]
      have p10 : 2 ^ (T i - 48) < 2 ^ 31 := Nat.pow_lt_pow_right (by decide) (by omega)
      by_cases t2 : dT T i ≤ T i - 48
      · refine ⟨fun _ => ?_, fun q => absurd ⟨t1, t2, t3⟩ q⟩
        have n59 : T i ≠ 59 := by omega
        have l := (rg_lt hv).mpr t2
        rw [if_neg (nle_i l (by omega)), e74, if_neg (by decide), e48, nI_bit _ (by omega)]
        unfold f_X7_takes_b99
        rw [gd_pos h16.2.1, gd_pos (inN n5 (show pT T i < 32 by omega) (by decide)), gd_pos (Or.inr rfl), nI_clamp (by omega), nI_or]
        refine ⟨_, rfl, Fr.rf.sI (by simp), fun k hk => by rw [hI_a n16], ?_⟩
        have ep : pT T (i + 1) = pT T i := by rw [pT_s, if_neg n59]; rfl
        refine ⟨?_, fun j hj => ?_⟩
        · rw [hI_a n16, ep]
          exact ht.1
        · rw [ep] at hj
          rw [fT_s]
          by_cases q : j = pT T i
          · rw [if_pos ⟨n59, q⟩, q, hI_same]
          · rw [if_neg (fun u => q u.2), hI_k q]
            exact ht.2 j hj
      · refine ⟨fun q => absurd q.2.1 t2, fun _ => ?_⟩
        have l : ¬ fT T i (pT T i) < 2 ^ (T i - 48) := fun u => t2 ((rg_lt hv).mp u)
        rw [if_pos ((nI_le_iff p10 (by omega)).mpr (by omega))]
        exact bad
    · refine ⟨fun q => absurd q.2.2 t3, fun _ => ?_⟩
      have np : ¬ ((0 : Int32) ≤ nI (T i - 48) ∧ nI (T i - 48) < nI (bc (aN A))) := fun q => t3 ((nI_lt_iff (by omega) (by omega)).mp q.2)
      rw [if_neg np, if_pos rfl]
      exact bad
  · refine ⟨fun q => absurd q.1 t1, fun _ => ?_⟩
    have np : ¬ ((0 : Int32) ≤ nI (T i) - 48 ∧ nI (T i) - 48 < nI (bc (aN A))) := fun q => lo48 _ (by omega) q.1
    rw [if_neg np, if_pos rfl]
    exact bad
theorem m_takes (h : MX S m g A) (hw : WfA A) {T : Nat → Nat} {i : Nat} (hi : i < 60) (h126 : T i ≤ 126) (ht : TX S m g T i) (hr : Rg (bc (aN A)) T i) : (okT (bc (aN A)) T i → ∃ U, f_X7_takes N S m (nI (T i)) = some (1, U) ∧ Fr [m, g 16] S U ∧ (∀ k, k ≠ 17 → hI U m k = hI S m k) ∧ TX U m g T (i + 1)) ∧ (¬ okT (bc (aN A)) T i → ∃ U, f_X7_takes N S m (nI (T i)) = some (0, U) ∧ Fr [m, g 16] S U ∧ (∀ k, k ≠ 17 → hI U m k = hI S m k)) := by
  have hc := hw.1.c10
  have hv := rg_inv hw.1.c10 hr
  have h16 := h.1.2.1 16 (by decide)
  have fl := fT_lt hw.1.c10 hv (pT T i)
  have e := hv.2.2.2
  have n5 : hN S (g 16) = 32 := h16.2.2
  obtain ⟨p1, p2⟩ := m_takes_40 (N := N) h hw hi h126 ht hr
  by_cases h1 : T i = 59
  · by_cases h2 : dT T i = 0
    · have eb : f_X7_takes N S m (nI (T i)) = f_X7_takes_b40 N m (nI (T i)) S := by
        unfold f_X7_takes
        rw [if_pos (show nI (T i) = (59 : Int32) by rw [h1]; rfl), gd_pos h.1.1, h16.1, nn_s, gd_pos h16.2.1, ht.1, gd_pos (inN n5 (show pT T i < 32 by omega) (by decide)), nI_clamp (by omega), ht.2 _ (Nat.le_refl _), if_pos ((nI_le0 (by omega)).mpr ((rg_0 hv).mpr h2))]
      rw [eb]
      refine ⟨fun q => ?_, fun _ => p2 (fun u => by omega)⟩
      rcases q with q | q
      · exact absurd h2 q.2
      · exact p1 q
    · exact ⟨fun _ => m_takes_59 h hw hi ht hr h1 h2, fun q => absurd (Or.inl ⟨h1, h2⟩) q⟩
  · have eb : f_X7_takes N S m (nI (T i)) = f_X7_takes_b40 N m (nI (T i)) S := by
      unfold f_X7_takes
      rw [if_neg (fun q : nI (T i) = (59 : Int32) => h1 ((eq_c 59 rfl (by omega) (by decide)).mp q))]
    rw [eb]
    refine ⟨fun q => ?_, fun q => p2 (fun u => q (Or.inr u))⟩
    rcases q with q | q
    · exact absurd q.1 h1
    · exact p1 q
theorem m_rut_l (hw : WfA A) : ∀ d k i S, MX S m g A → TX S m g (aT A) i → Rg (bc (aN A)) (aT A) i → i + d = aL A → d < k → ∃ U, f_X7_rightUpTo_l14 N m k S (nI i) = some (nI (erT (bc (aN A)) (aT A) (aL A)), U) ∧ MStep S m g A U ∧ (erT (bc (aN A)) (aT A) (aL A) = aL A → TX U m g (aT A) (aL A)) := by
  have h60 := hw.2.2.2.1
  intro d
  induction d with
  | zero =>
    intro k i S h ht hr hi hk
    obtain ⟨k, rfl⟩ : ∃ u, k = u + 1 := ⟨k - 1, by omega⟩
    obtain rfl : i = aL A := by omega
    unfold f_X7_rightUpTo_l14 f_X7_rightUpTo_b14
    rw [gd_pos h.1.1, h.2.1.2, if_pos (Int32.le_refl _), er_no hr]
    exact ⟨S, rfl, MStep.rf h, fun _ => ht⟩
  | succ d ih =>
    intro k i S h ht hr hi hk
    obtain ⟨k, rfl⟩ : ∃ u, k = u + 1 := ⟨k - 1, by omega⟩
    have il : i < aL A := by omega
    have h6 := h.1.2.1 6 (by decide)
    have n6 : hN S (g 6) = 60 := h6.2.2
    have hk6 := hw.2.2.2.2 i il
    obtain ⟨q1, q2⟩ := m_takes (N := N) h hw (show i < 60 by omega) hk6.2 ht hr
    unfold f_X7_rightUpTo_l14 f_X7_rightUpTo_b14
    rw [gd_pos h.1.1, h.2.1.2, if_neg (nle_i il (by omega)), h6.1, nn_s, gd_pos h6.2.1, gd_pos (inN n6 (show i < 60 by omega) (by decide)), nI_clamp (by omega), h.2.2.2.2.2.1 i il]
    by_cases o : okT (bc (aN A)) (aT A) i
    · obtain ⟨U, u1, u2, u3, u4⟩ := q1 o
      have s := m_tx h u2 u3
      obtain ⟨V, v1, v2, v3⟩ := ih k (i + 1) U s.2.1 u4 (fun j hj => by
        by_cases e : j = i
        · rw [e]; exact o
        · exact hr j (by omega)) (by omega) (by omega)
      rw [u1, cl_s, if_neg (by decide), nI_p1, v1]
      exact ⟨V, rfl, s.tr v2, v3⟩
    · obtain ⟨U, u1, u2, u3⟩ := q2 o
      have er := er_at il hr o
      rw [u1, cl_s, if_pos rfl, er]
      exact ⟨U, rfl, m_tx h u2 u3, fun q => absurd q (by omega)⟩
theorem m_rut (h : MX S m g A) (hw : WfA A) (hB : Big N) : ∃ U, f_X7_rightUpTo N S m = some (nI (erT (bc (aN A)) (aT A) (aL A)), U) ∧ MStep S m g A U ∧ (erT (bc (aN A)) (aT A) (aL A) = aL A → TX U m g (aT A) (aL A)) := by
  have h16 := h.1.2.1 16 (by decide)
  have n16 := h.1.m (i := 16) (by decide)
  have n5 : hN S (g 16) = 32 := h16.2.2
  have f : Fr [m, g 16] S (sI (sI S m 17 0) (g 16) 0 0) := (Fr.rf.sI (by simp)).sI (by simp)
  have s := m_tx h f (fun k hk => by rw [hI_a n16, hI_k hk])
  obtain ⟨V, v1, v2, v3⟩ := m_rut_l (N := N) (A := A) hw (aL A) N 0 _ s.2.1 ⟨by rw [hI_a n16, hI_same]; rfl, fun j hj => by
    have : pT (aT A) 0 = 0 := rfl
    obtain rfl : j = 0 := by omega
    rw [hI_same]
    rfl⟩ (fun j hj => absurd hj (Nat.not_lt_zero j)) (by omega) (by have := hw.2.2.2.1; have := hB.1; omega)
  refine ⟨V, ?_, s.tr v2, v3⟩
  unfold f_X7_rightUpTo
  rw [gd_pos h.1.1, hR_sI, h16.1, nn_s, gd_pos (ok_sI h16.2.1), hN_sI, gd_pos (show inb (0 : Int32) (hN S (g 16)) from inN n5 (show 0 < 32 by decide) (by decide)), bd_d, tn0]
  exact v1
theorem m_firstError (h : MX S m g A) (hw : WfA A) (hB : Big N) : MRes S m g A 0 (nI (erT (bc (aN A)) (aT A) (aL A))) (f_X7_firstError N S m) := by
  obtain ⟨U, u1, u2, -⟩ := m_rut (N := N) (h.t7 0) hw hB
  refine mres_of ⟨U, ?_, u2⟩
  unfold f_X7_firstError
  rw [gd_pos h.1.1, u1, cl_s]
end
