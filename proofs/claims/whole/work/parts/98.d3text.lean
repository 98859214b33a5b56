theorem neg48 : ∀ t, t < 48 → ∀ e, e < 12 → nI t - (48 : Int32) < nI e := by decide +kernel
theorem dT_le {c : Nat} {T : Nat → Nat} {i : Nat} (hc : c ≤ 10) (h : Rg c T i) : dT T i ≤ 10 := by
  have := (rg_inv hc h).1.1
  omega
section
variable {S T : Hp} {x z : Nat} {d : Nat → Nat} {q : Nat → Option (Nat × Nat × Nat)} {A A' : Ab} {nb N : Nat}
theorem CX.txt (h : CX S x d q A nb) (hd : CD x d q) (f : Fr ([9, 10].map d) S T) (ht : TxO T d A') (e1 : aN A' = aN A) (e2 : A'.2.1 = A.2.1) (e3 : aS A' = aS A) : CN S x d q A' nb T := by
  obtain ⟨a1, a2, ⟨a3, a3'⟩, a4, -, ⟨a6, a6'⟩, a7⟩ := h
  have eH : aH A' = aH A := by unfold aH; rw [e2]
  have eHs : aHs A' = aHs A := by unfold aHs; rw [e2]
  have hl' : ∀ k, k ∈ [9, 10] → k < 20 := by decide
  refine ⟨fr_kee f hl', f.1, a1.fr f, ?_, ⟨by rw [f.I (hd.out (by decide) (by decide)), eH]; exact a3, fun i hi => ?_⟩, fun i hi => ?_, ht, ⟨a6.fr hd f (by decide), a6'.fr hd f (by decide)⟩, fun a ha => by rw [f.1]; exact a7 a ha⟩
  · rw [e1]
    exact a2.fr f (hd.out (by decide) (by decide)) (hd.out (by decide) (by decide)) (hd.out (by decide) (by decide))
  · obtain ⟨b1, b2⟩ := a3' i hi
    refine ⟨b1.fr f, fun ih => ?_⟩
    rw [eH] at ih
    obtain ⟨t, t1, t2⟩ := b2 ih
    rw [eHs]
    exact ⟨t, t1, t2.fr f (hd.outs (i := i) (by omega) (in1S t1) hl') (hd.outs (i := i) (by omega) (in2S t1) hl') (hd.outs (i := i) (by omega) (in3S t1) hl')⟩
  · obtain ⟨b1, b2, b3⟩ := a4 i hi
    rw [e3]
    refine ⟨b1.fr f, b2, fun B' hB' => ?_⟩
    obtain ⟨t, o1, o2, o3, t1, t2⟩ := b3 B' hB'
    exact ⟨t, o1, o2, o3, t1, t2.fr f (hd.outs (i := 6 + i) (by omega) (in1S t1) hl') (hd.outs (i := 6 + i) (by omega) (in2S t1) hl') (hd.outs (i := 6 + i) (by omega) (in3S t1) hl')⟩
theorem x_append (h : CX S x d q A nb) (hd : CD x d q) {c : Nat} (hp : (33 : Int32) ≤ nI c ∧ nI c ≤ 126) (hl : aL A < 60) : ∃ T, f_X6_append N S x (nI c) = some (nI (aL A + 1), T) ∧ CN S x d q (appA A c) nb T := by
  obtain ⟨⟨a1, a2, a3, a4⟩, b1, b2⟩ := h.tx
  have ne : d 9 ≠ d 10 := hd.1 9 10 (by decide) (by decide) (by decide)
  have f : Fr ([9, 10].map d) S (sI (sI S (d 10) (aL A) (nI c)) (d 9) 1 (nI (aL A + 1))) := (Fr.rf.sI (by simp)).sI (by simp)
  have ht : TxO (sI (sI S (d 10) (aL A) (nI c)) (d 9) 1 (nI (aL A + 1))) d (appA A c) := by
    refine ⟨hI_same _ _ _ _, fun k hk => ?_⟩
    have hk' : k < aL A + 1 := hk
    show _ = nI (if k = aL A then c else aT A k)
    rw [hI_a ne.symm]
    by_cases e : k = aL A
    · rw [if_pos e, e, hI_same]
    · rw [if_neg e, hI_k e]
      exact b2 k (by omega)
  have cn := h.txt hd f ht rfl rfl rfl
  refine ⟨_, ?_, cn⟩
  have c1 := cn.2.2
  unfold f_X6_append f_X5_put
  rw [if_neg (fun w => absurd hp.1 (Int32.not_le.mpr w)), if_pos hp.2, gd_pos h.1.1.1, h.1.1.2.2.2.2.2.1, nn_s, gd_pos a1, b1, if_pos ((lt_c 60 (n := 60) rfl (by omega) (by decide)).mpr hl), gd_pos a1, if_neg (nlt0 (by omega)), a2, nn_s, gd_pos a3, a4, if_neg (nle_i hl (by decide)), gd_pos (by rw [← a4]; exact inN a4 hl (by decide)), nI_clamp (by omega), hI_a ne, b1, nI_p1, bd_d, cl_s, gd_pos c1.1.1.1, c1.1.1.2.2.2.2.2.1, nn_s, gd_pos c1.tx.1.1, hI_same]
theorem x_append_bad1 (h : CX S x d q A nb) {p : Int32} (hp : ¬ ((33 : Int32) ≤ p ∧ p ≤ 126)) : CB S x d q A nb "java/lang/IllegalArgumentException" (f_X6_append N S x p) (e_X6_append N S x p) := by
  refine ⟨?_, S, ?_, CN.rf h⟩
  · unfold f_X6_append f_X6_append_b12
    by_cases w0 : p < 33
    · rw [if_pos w0]
    · rw [if_neg w0, if_neg (fun u => hp ⟨Int32.not_lt.mp w0, u⟩)]
  · unfold e_X6_append e_X6_append_b12
    by_cases w0 : p < 33
    · rw [if_pos w0]
    · rw [if_neg w0, if_neg (fun u => hp ⟨Int32.not_lt.mp w0, u⟩)]
theorem x_append_bad2 (h : CX S x d q A nb) {p : Int32} (hp : (33 : Int32) ≤ p ∧ p ≤ 126) (hl : aL A = 60) : CB S x d q A nb "java/lang/IllegalStateException" (f_X6_append N S x p) (e_X6_append N S x p) := by
  obtain ⟨⟨a1, a2, a3, a4⟩, b1, b2⟩ := h.tx
  refine ⟨?_, S, ?_, CN.rf h⟩
  · unfold f_X6_append
    rw [if_neg (fun w => absurd hp.1 (Int32.not_le.mpr w)), if_pos hp.2, gd_pos h.1.1.1, h.1.1.2.2.2.2.2.1, nn_s, gd_pos a1, b1, hl, if_neg (by decide)]
  · unfold e_X6_append
    rw [if_neg (fun w => absurd hp.1 (Int32.not_le.mpr w)), if_pos hp.2, gd_pos h.1.1.1, h.1.1.2.2.2.2.2.1, nn_s, gd_pos a1, b1, hl, if_neg (by decide)]
theorem x_clb (h : CX S x d q A nb) (hd : CD x d q) : CN S x d q (clbA A) nb (sI S (d 9) 1 0) :=
  h.txt hd (Fr.rf.sI (by simp)) ⟨hI_same _ _ _ _, fun k hk => absurd hk (Nat.not_lt_zero k)⟩ rfl rfl rfl
theorem x_clearBuffer (h : CX S x d q A nb) (hd : CD x d q) : ∃ T, f_X6_clearBuffer N S x = some (nI (aL A), T) ∧ CN S x d q (clbA A) nb T := by
  obtain ⟨⟨a1, a2, a3, a4⟩, b1, b2⟩ := h.tx
  refine ⟨_, ?_, x_clb h hd⟩
  unfold f_X6_clearBuffer
  rw [gd_pos h.1.1.1, h.1.1.2.2.2.2.2.1, nn_s, gd_pos a1, b1]
theorem c_err_l (h : CX S x d q A nb) (hw : WfA A) {c : Nat} (hc : c ≤ 10) : ∀ D k i, Rg c (aT A) i → i + D = aL A → D < k → f_X5_errorAt_l4 N (d 9) (nI c) k S (nI (dT (aT A) i)) (nI i) = some (nI (erT c (aT A) (aL A)), S) := by
  obtain ⟨⟨a1, a2, a3, a4⟩, b1, b2⟩ := h.tx
  have h60 := hw.2.2.2.1
  intro D
  induction D with
  | zero =>
    intro k i hr hi hk
    obtain ⟨k, rfl⟩ : ∃ u, k = u + 1 := ⟨k - 1, by omega⟩
    obtain rfl : i = aL A := by omega
    unfold f_X5_errorAt_l4 f_X5_errorAt_b4
    rw [gd_pos a1, b1, if_pos (Int32.le_refl _), er_no hr]
  | succ D ih =>
    intro k i hr hi hk
    obtain ⟨k, rfl⟩ : ∃ u, k = u + 1 := ⟨k - 1, by omega⟩
    have il : i < aL A := by omega
    have t126 := (hw.2.2.2.2 i il).2
    have dl := dT_le hc hr
    have nx : okT c (aT A) i → Rg c (aT A) (i + 1) := fun o j hj => by
      by_cases e : j = i
      · rw [e]; exact o
      · exact hr j (by omega)
    unfold f_X5_errorAt_l4 f_X5_errorAt_b4
    rw [gd_pos a1, b1, if_neg (nle_i il (by omega)), a2, nn_s, gd_pos a3, a4, if_neg (nle_i (by omega) (by decide)), gd_pos (by rw [← a4]; exact inN a4 (show i < 60 by omega) (by decide)), bd_d, nI_clamp (by omega), b2 i il]
    have e52 : f_X5_errorAt_b52 N (d 9) (nI c) (f_X5_errorAt_l4 N (d 9) (nI c) k) S (nI (dT (aT A) i)) (nI i) (nI (aT A i) - 48) = if 48 ≤ aT A i ∧ dT (aT A) i ≤ aT A i - 48 ∧ aT A i - 48 < c then f_X5_errorAt_l4 N (d 9) (nI c) k S (nI (aT A i - 48 + 1)) (nI (i + 1)) else some (nI i, S) := by
      unfold f_X5_errorAt_b52
      by_cases t1 : 48 ≤ aT A i
      · rw [show nI (aT A i) - (48 : Int32) = nI (aT A i - 48) from nI_minus (b := 48) t1]
        by_cases t2 : dT (aT A) i ≤ aT A i - 48
        · rw [if_neg (fun w => absurd ((nI_lt_iff (by omega) (by omega)).mp w) (by omega))]
          by_cases t3 : aT A i - 48 < c
          · rw [if_neg (nle_i t3 (by omega)), if_pos ⟨t1, t2, t3⟩, nI_p1, nI_p1]
          · rw [if_pos ((nI_le_iff (by omega) (by omega)).mpr (by omega)), if_neg (fun w => t3 w.2.2)]
        · rw [if_pos ((nI_lt_iff (by omega) (by omega)).mpr (by omega)), if_neg (fun w => t2 w.2.1)]
      · rw [if_pos (neg48 _ (by omega) _ (by omega)), if_neg (fun w => t1 w.1)]
    by_cases h59 : aT A i = 59
    · rw [if_pos (by rw [h59]; rfl)]
      by_cases d0 : dT (aT A) i = 0
      · have no : ¬ okT c (aT A) i := fun o => by
          rcases o with o | o
          · exact o.2 d0
          · omega
        rw [if_pos ((nI_le0 (by omega)).mpr d0), e52, if_neg (fun w => by omega), er_at il hr no]
      · have o : okT c (aT A) i := Or.inl ⟨h59, d0⟩
        have r := ih k (i + 1) (nx o) (by omega) (by omega)
        rw [dT_s, if_pos h59] at r
        rw [if_neg (fun w => d0 ((nI_le0 (by omega)).mp w)), nI_p1]
        exact r
    · rw [if_neg (fun w : nI (aT A i) = (59 : Int32) => h59 ((eq_c 59 rfl (by omega) (by decide)).mp w)), e52]
      by_cases o2 : 48 ≤ aT A i ∧ dT (aT A) i ≤ aT A i - 48 ∧ aT A i - 48 < c
      · have r := ih k (i + 1) (nx (Or.inr o2)) (by omega) (by omega)
        rw [dT_s, if_neg h59] at r
        rw [if_pos o2, show aT A i - 48 + 1 = aT A i - 47 by omega]
        exact r
      · have no : ¬ okT c (aT A) i := fun o => by
          rcases o with o | o
          · exact h59 o.1
          · exact o2 o
        rw [if_neg o2, er_at il hr no]
theorem c_err (h : CX S x d q A nb) (hw : WfA A) (hN0 : 60 < N) {c : Nat} (hc : c ≤ 10) : f_X5_errorAt N S (d 9) (nI c) = some (nI (erT c (aT A) (aL A)), S) := c_err_l h hw hc (aL A) N 0 (fun j hj => absurd hj (Nat.not_lt_zero j)) (by omega) (by have := hw.2.2.2.1; omega)
theorem x_firstError (h : CX S x d q A nb) (hw : WfA A) (hN0 : 60 < N) : f_X6_firstError N S x = some (nI (erT (bc (aN A)) (aT A) (aL A)), S) := by
  unfold f_X6_firstError
  rw [gd_pos h.1.1.1, h.1.1.2.2.2.2.2.1, nn_s, h.1.1.2.1, nn_s, gd_pos h.2.1.1.1, gd_pos h.tx.1.1, h.2.1.2.2.1, c_err h hw hN0 hw.1.c10, cl_s]
theorem c_cm (h : CX S x d q A nb) (hw : WfA A) (hN0 : 60 < N) {c : Nat} (hc : c ≤ 10) : f_X5_isComplete N S (d 9) (nI c) = some ((if cmT c (aT A) (aL A) then (1 : Int32) else 0), S) := by
  obtain ⟨⟨a1, a2, a3, a4⟩, b1, b2⟩ := h.tx
  have h60 := hw.2.2.2.1
  unfold f_X5_isComplete
  rw [gd_pos a1, b1]
  by_cases l0 : aL A = 0
  · rw [if_pos (by rw [l0]; decide), if_neg (fun w => w.2 (by rw [l0]; rfl))]
  · have il : aL A - 1 < aL A := by omega
    have t126 := (hw.2.2.2.2 _ il).2
    have ed : dT (aT A) (aL A) = if aT A (aL A - 1) = 59 then 0 else aT A (aL A - 1) - 47 := by
      unfold dT
      rw [if_neg l0]
    rw [if_neg (fun w => l0 ((nI_le0 (by omega)).mp w)), a2, nn_s, gd_pos a3, a4, if_pos ((nI_le_iff (by omega) (by decide)).mpr h60), show nI (aL A) - (1 : Int32) = nI (aL A - 1) from nI_minus (b := 1) (by omega), gd_pos (by rw [← a4]; exact inN a4 (show aL A - 1 < 60 by omega) (by decide)), nI_clamp (by omega), b2 _ il]
    by_cases t : aT A (aL A - 1) = 59
    · rw [if_pos (by rw [t]; rfl), if_neg (fun w => w.2 (by rw [ed, if_pos t]))]
    · have le : erT c (aT A) (aL A) ≤ aL A := fa_first_le _ _
      rw [if_neg (fun w : nI (aT A (aL A - 1)) = (59 : Int32) => t ((eq_c 59 rfl (by omega) (by decide)).mp w)), c_err h hw hN0 hc, cl_s, gd_pos a1, b1]
      by_cases e : erT c (aT A) (aL A) = aL A
      · have o := er_rg e (aL A - 1) il
        have d1 : dT (aT A) (aL A) ≠ 0 := by
          rw [ed, if_neg t]
          rcases o with o | o
          · exact absurd o.1 t
          · omega
        rw [if_pos (by rw [e]), if_pos ⟨e, d1⟩]
      · rw [if_neg (fun w => e ((nI_eq_iff (by omega) (by omega)).mp w)), if_neg (fun w => e w.1)]
theorem c_rows_l (h : CX S x d q A nb) (hw : WfA A) : ∀ D k i, i + D = aL A → D < k → f_X5_rows_l4 N (d 9) k S (nI (pT (aT A) i + 1)) (nI i) = some (nI (pT (aT A) (aL A) + 1), S) := by
  obtain ⟨⟨a1, a2, a3, a4⟩, b1, b2⟩ := h.tx
  have h60 := hw.2.2.2.1
  intro D
  induction D with
  | zero =>
    intro k i hi hk
    obtain ⟨k, rfl⟩ : ∃ u, k = u + 1 := ⟨k - 1, by omega⟩
    obtain rfl : i = aL A := by omega
    unfold f_X5_rows_l4 f_X5_rows_b4
    rw [gd_pos a1, b1, if_pos (Int32.le_refl _)]
  | succ D ih =>
    intro k i hi hk
    obtain ⟨k, rfl⟩ : ∃ u, k = u + 1 := ⟨k - 1, by omega⟩
    have il : i < aL A := by omega
    have t126 := (hw.2.2.2.2 i il).2
    have r := ih k (i + 1) (by omega) (by omega)
    unfold f_X5_rows_l4 f_X5_rows_b4
    rw [gd_pos a1, b1, if_neg (nle_i il (by omega)), a2, nn_s, gd_pos a3, a4, if_neg (nle_i (by omega) (by decide)), gd_pos (by rw [← a4]; exact inN a4 (show i < 60 by omega) (by decide)), nI_clamp (by omega), b2 i il]
    rw [pT_s] at r
    by_cases t : aT A i = 59
    · rw [if_pos t] at r
      rw [if_pos (by rw [t]; rfl), nI_p1, nI_p1]
      exact r
    · rw [if_neg t] at r
      rw [if_neg (fun w : nI (aT A i) = (59 : Int32) => t ((eq_c 59 rfl (by omega) (by decide)).mp w)), nI_p1]
      exact r
theorem c_rows (h : CX S x d q A nb) (hw : WfA A) (hN0 : 60 < N) : f_X5_rows N S (d 9) = some (nI (pT (aT A) (aL A) + 1), S) := c_rows_l h hw (aL A) N 0 (by omega) (by have := hw.2.2.2.1; omega)
theorem c_addTo_l (h : (ok S (d 9) 5 ∧ hR S (d 9) 0 = some (d 10) ∧ ok S (d 10) 8 ∧ hN S (d 10) = 60) ∧ TxO S d A) (hd : CD x d q) (hw : WfA A) {c n : Nat} {M : Nat → Nat} (hc : c ≤ 10) (hr : Rg c (aT A) (aL A)) (hn : n + (pT (aT A) (aL A) + 1) ≤ 12) : ∀ D k i T, Fr ([1, 2].map d) S T → LnV T (d 1) (d 2) (n + pT (aT A) i) (fun j => if j < n then M j else fT (aT A) i (j - n)) → i + D = aL A → D < k → ∃ U, f_X5_addTo_l4 N (d 9) (d 1) k T (nI (fT (aT A) i (pT (aT A) i))) (nI i) = some ((), U) ∧ Fr ([1, 2].map d) S U ∧ LnV U (d 1) (d 2) (n + (pT (aT A) (aL A) + 1)) (fun j => if j < n then M j else fT (aT A) (aL A) (j - n)) := by
  obtain ⟨⟨a1, a2, a3, a4⟩, b1, b2⟩ := h
  have h60 := hw.2.2.2.1
  intro D
  induction D with
  | zero =>
    intro k i T f hl hi hk
    obtain ⟨k, rfl⟩ : ∃ u, k = u + 1 := ⟨k - 1, by omega⟩
    obtain rfl : i = aL A := by omega
    have o9 := f.I (hd.out (k := 9) (by decide) (by decide))
    obtain ⟨U, u1, u2, u3⟩ := c_put (N := N) hl (by omega) (fT_lt hc (rg_inv hc hr) (pT (aT A) (aL A)))
    unfold f_X5_addTo_l4 f_X5_addTo_b4 f_X5_addTo_b62
    rw [gd_pos (f.ok a1), o9, b1, if_pos (Int32.le_refl _), gd_pos hl.1.1, u1, cl_s]
    refine ⟨U, rfl, f.tr u2, ?_⟩
    refine LnV.cong u3 (fun j hj => ?_)
    show (if j = n + pT (aT A) (aL A) then fT (aT A) (aL A) (pT (aT A) (aL A)) else if j < n then M j else fT (aT A) (aL A) (j - n)) = _
    by_cases e : j = n + pT (aT A) (aL A)
    · rw [if_pos e, if_neg (by omega), e, Nat.add_sub_cancel_left]
    · rw [if_neg e]
  | succ D ih =>
    intro k i T f hl hi hk
    obtain ⟨k, rfl⟩ : ∃ u, k = u + 1 := ⟨k - 1, by omega⟩
    have il : i < aL A := by omega
    have t126 := (hw.2.2.2.2 i il).2
    have o9 := f.I (hd.out (k := 9) (by decide) (by decide))
    have o10 := f.I (hd.out (k := 10) (by decide) (by decide))
    have hri : Rg c (aT A) i := fun j hj => hr j (by omega)
    have mono : pT (aT A) i ≤ pT (aT A) (aL A) := fb_ct_mono _ (by omega)
    have n4 : hN T (d 10) = 60 := by rw [f.N]; exact a4
    unfold f_X5_addTo_l4 f_X5_addTo_b4
    rw [gd_pos (f.ok a1), o9, b1, if_neg (nle_i il (by omega)), f.R, a2, nn_s, gd_pos (f.ok a3), n4, if_neg (nle_i (by omega) (by decide)), gd_pos (by rw [← n4]; exact inN n4 (show i < 60 by omega) (by decide)), nI_clamp (by omega), o10, b2 i il]
    by_cases t : aT A i = 59
    · obtain ⟨U, u1, u2, u3⟩ := c_put (N := N) hl (by omega) (fT_lt hc (rg_inv hc hri) (pT (aT A) i))
      have ep : pT (aT A) (i + 1) = pT (aT A) i + 1 := by rw [pT_s, if_pos t]
      have ef : ∀ j, fT (aT A) (i + 1) j = fT (aT A) i j := fun j => by rw [fT_s, if_neg (fun w => w.1 t)]
      have e0 : nI (fT (aT A) (i + 1) (pT (aT A) (i + 1))) = 0 := by
        rw [ep, ef, (rg_inv hc hri).2.1 _ (Nat.lt_succ_self _)]
        rfl
      rw [if_pos (by rw [t]; rfl), gd_pos hl.1.1, u1, cl_s, nI_p1, ← e0]
      refine ih k (i + 1) U (f.tr u2) ?_ (by omega) (by omega)
      rw [ep]
      refine LnV.cong u3 (fun j hj => ?_)
      show (if j = n + pT (aT A) i then fT (aT A) i (pT (aT A) i) else if j < n then M j else fT (aT A) i (j - n)) = if j < n then M j else fT (aT A) (i + 1) (j - n)
      rw [ef]
      by_cases e : j = n + pT (aT A) i
      · rw [if_pos e, if_neg (by omega), e, Nat.add_sub_cancel_left]
      · rw [if_neg e]
    · have o := hr i il
      rcases o with o | ⟨t1, t2, t3⟩
      · exact absurd o.1 t
      · have ep : pT (aT A) (i + 1) = pT (aT A) i := by rw [pT_s, if_neg t]; rfl
        have e1 : fT (aT A) (i + 1) (pT (aT A) (i + 1)) = fT (aT A) i (pT (aT A) i) ||| 2 ^ (aT A i - 48) := by rw [ep, fT_s, if_pos ⟨t, rfl⟩]
        rw [if_neg (fun w : nI (aT A i) = (59 : Int32) => t ((eq_c 59 rfl (by omega) (by decide)).mp w)), bd_d, show nI (aT A i) - (48 : Int32) = nI (aT A i - 48) from nI_minus (b := 48) t1, nI_bit _ (by omega), nI_or, ← e1, nI_p1]
        refine ih k (i + 1) T f ?_ (by omega) (by omega)
        rw [ep]
        refine LnV.cong hl (fun j hj => ?_)
        show (if j < n then M j else fT (aT A) i (j - n)) = if j < n then M j else fT (aT A) (i + 1) (j - n)
        by_cases e : j < n
        · rw [if_pos e, if_pos e]
        · rw [if_neg e, if_neg e, fT_s, if_neg (fun w => by omega)]
theorem x_read (h : CX S x d q A nb) (hd : CD x d q) (hw : WfA A) (hN0 : 60 < N) (hz : ∀ a, a ∈ hL S → a < z) (hc : cmT (bc (aN A)) (aT A) (aL A)) (hn : bn (aN A) + (pT (aT A) (aL A) + 1) ≤ 12) : CA S x d q (clbA (nowA (svA A) (rdB (aN A) (aT A) (aL A)))) nb (nI (bn (aN A) + (pT (aT A) (aL A) + 1))) (f_X6_read N S z x) := by
  obtain ⟨T, z', q', t1, t2, -⟩ := x_save (N := N) h hd hw (by omega) hz
  have hd' := t2.2.2.1
  have c := t2.2.2.2.2
  have st := c.2.1
  have st0 := h.2.1
  have c10 := hw.1.c10
  obtain ⟨U, u1, u2, u3⟩ := c_addTo_l (N := N) (A := A) (M := bM (aN A)) (n := bn (aN A)) c.tx hd' hw c10 (er_rg hc.1) hn (aL A) N 0 T Fr.rf (LnV.cong st.2.1 (fun j hj => by
    have hj' : j < bn (aN A) := hj
    rw [if_pos hj']
    rfl)) (by omega) (by have := hw.2.2.2.1; omega)
  have cn := x_lines (B := rdB (aN A) (aT A) (aL A)) c hd' u2 u3 ⟨rfl, rfl, rfl, rfl⟩
  have cu := cn.2.2
  have cm := x_clb cu hd'
  have cv := cm.2.2
  refine ⟨_, z', q', ?_, t2.tr ((cn.tr cm).g hd')⟩
  have e5 : hI S (d 0) 1 = nI (bc (aN A)) := st0.2.2.1
  have ea : f_X5_addTo N T (d 9) (d 1) = some ((), U) := u1
  unfold f_X6_read
  rw [gd_pos h.1.1.1, h.1.1.2.2.2.2.2.1, nn_s, h.1.1.2.1, nn_s, gd_pos st0.1.1, gd_pos h.tx.1.1, e5, c_cm h hw hN0 c10, if_pos hc, cl_s, if_neg (by decide), gd_pos h.1.1.1, h.1.1.2.1, nn_s, gd_pos st0.1.1, st0.1.2, nn_s, gd_pos st0.2.1.1.1, h.1.1.2.2.2.2.2.1, nn_s, gd_pos h.tx.1.1, c_rows h hw hN0, cl_s, st0.2.1.2.1.1, nI_plus, if_pos ((le_c 12 (n := 12) rfl (by omega) (by decide)).mpr hn), gd_pos h.1.1.1, h.1.1.2.2.2.1, nn_s, h.1.1.2.1, nn_s, gd_pos h.1.2.2.1.1, t1, cz_s, gd_pos c.1.1.1, c.1.1.2.2.2.2.2.1, nn_s, c.1.1.2.1, nn_s, gd_pos st.1.1, st.1.2, nn_s, gd_pos c.tx.1.1, ea, cl_s, gd_pos cu.1.1.1, cu.1.1.2.2.2.2.2.1, nn_s, gd_pos cu.tx.1.1, cv.1.1.2.1, nn_s, gd_pos cv.2.1.1.1, cv.2.1.1.2, nn_s, gd_pos cv.2.1.2.1.1.1, cv.2.1.2.1.2.1.1]
  rfl
theorem x_read_bad1 (h : CX S x d q A nb) (hw : WfA A) (hN0 : 60 < N) (hc : ¬ cmT (bc (aN A)) (aT A) (aL A)) : CB S x d q A nb "java/lang/IllegalArgumentException" (f_X6_read N S z x) (e_X6_read N S x) := by
  have st0 := h.2.1
  have c10 := hw.1.c10
  have e5 : hI S (d 0) 1 = nI (bc (aN A)) := st0.2.2.1
  refine ⟨?_, S, ?_, CN.rf h⟩
  · unfold f_X6_read
    rw [gd_pos h.1.1.1, h.1.1.2.2.2.2.2.1, nn_s, h.1.1.2.1, nn_s, gd_pos st0.1.1, gd_pos h.tx.1.1, e5, c_cm h hw hN0 c10, if_neg hc, cl_s, if_pos rfl]
  · unfold e_X6_read
    rw [gd_pos h.1.1.1, h.1.1.2.2.2.2.2.1, nn_s, h.1.1.2.1, nn_s, gd_pos st0.1.1, gd_pos h.tx.1.1, e5, c_cm h hw hN0 c10, if_neg hc, cl_s, if_pos rfl]
theorem x_read_bad2 (h : CX S x d q A nb) (hw : WfA A) (hN0 : 60 < N) (hc : cmT (bc (aN A)) (aT A) (aL A)) (hn : ¬ bn (aN A) + (pT (aT A) (aL A) + 1) ≤ 12) : CB S x d q A nb "java/lang/IllegalStateException" (f_X6_read N S z x) (e_X6_read N S x) := by
  have st0 := h.2.1
  have c10 := hw.1.c10
  have e5 : hI S (d 0) 1 = nI (bc (aN A)) := st0.2.2.1
  have h60 := hw.2.2.2.1
  have b12 := hw.1.1.2.2.1
  have hv := (rg_inv c10 (er_rg hc.1)).2.2.2
  refine ⟨?_, S, ?_, CN.rf h⟩
  · unfold f_X6_read
    rw [gd_pos h.1.1.1, h.1.1.2.2.2.2.2.1, nn_s, h.1.1.2.1, nn_s, gd_pos st0.1.1, gd_pos h.tx.1.1, e5, c_cm h hw hN0 c10, if_pos hc, cl_s, if_neg (by decide), gd_pos h.1.1.1, h.1.1.2.1, nn_s, gd_pos st0.1.1, st0.1.2, nn_s, gd_pos st0.2.1.1.1, h.1.1.2.2.2.2.2.1, nn_s, gd_pos h.tx.1.1, c_rows h hw hN0, cl_s, st0.2.1.2.1.1, nI_plus, if_neg (fun w => hn ((le_c 12 (n := 12) rfl (by omega) (by decide)).mp w))]
  · unfold e_X6_read
    rw [gd_pos h.1.1.1, h.1.1.2.2.2.2.2.1, nn_s, h.1.1.2.1, nn_s, gd_pos st0.1.1, gd_pos h.tx.1.1, e5, c_cm h hw hN0 c10, if_pos hc, cl_s, if_neg (by decide), gd_pos h.1.1.1, h.1.1.2.1, nn_s, gd_pos st0.1.1, st0.1.2, nn_s, gd_pos st0.2.1.1.1, h.1.1.2.2.2.2.2.1, nn_s, gd_pos h.tx.1.1, c_rows h hw hN0, cl_s, st0.2.1.2.1.1, nI_plus, if_neg (fun w => hn ((le_c 12 (n := 12) rfl (by omega) (by decide)).mp w))]
end
