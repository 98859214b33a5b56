/-- the shape of a Lines object -/
def LnS (S : Hp) (L a : Nat) : Prop := ok S L 1 ∧ hR S L 0 = some a ∧ ok S a 8 ∧ hN S a = 12
theorem LnS.fr {E : List Nat} {S T : Hp} {L a : Nat} (h : LnS S L a) (f : Fr E S T) : LnS T L a := ⟨f.ok h.1, by rw [f.R]; exact h.2.1, f.ok h.2.2.1, by rw [f.N]; exact h.2.2.2⟩
theorem LnV.sh {S : Hp} {L a n : Nat} {M : Nat → Nat} (h : LnV S L a n M) : LnS S L a := h.1
def lvP (M : Nat → Nat) (n br i : Nat) : Nat := fb_ct (fun j => (M j).testBit i && isAl M br j) n
theorem tb_an {a c mk br i : Nat} (h : (fre c mk br).testBit i = true) : (a &&& fre c mk br).testBit i = a.testBit i := by rw [Nat.testBit_and, h, Bool.and_true]
section
variable {N : Nat} {S : Hp} {L a n c mk br : Nat} {M : Nat → Nat}
theorem c_weightWith_l (h : LnV S L a n M) (hc : c ≤ 10) (hsub : ∀ j, j < n → M j &&& (2 ^ c - 1) = M j) {i : Nat} (hi : i < 10) (hf : (fre c mk br).testBit i = true) : ∀ d k j, j + d = n → d < k → f_X1_weightWith_l6 N L (nI i) (nI mk) (nI br) k S (nI (fb_sm (fun j => if (M j &&& fre c mk br).testBit i = true then wtP M c mk br j else 0) j)) (nI j) = some (nI (dgP M n c mk br i), S) := by
  obtain ⟨⟨g1, g2, g3, g4⟩, ⟨g5, g6⟩, hn, hM1⟩ := h
  intro d
  induction d with
  | zero =>
    intro k j hj hk
    obtain ⟨k, rfl⟩ : ∃ q, k = q + 1 := ⟨k - 1, by omega⟩
    obtain rfl : j = n := by omega
    simp only [f_X1_weightWith_l6, f_X1_weightWith_b6, gd_pos g1, g5]
    rw [if_pos (Int32.le_refl _)]
    rfl
  | succ d ih =>
    intro k j hj hk
    obtain ⟨k, rfl⟩ : ∃ q, k = q + 1 := ⟨k - 1, by omega⟩
    have hjn : j < n := by omega
    have b1 := dif_lt (b := mk) (hM1 j hjn)
    have b2 := and_lt (b := br) (hM1 j hjn)
    have ih' := ih k (j + 1) (by omega) (by omega)
    rw [fb_sm_succ, tb_an hf] at ih'
    simp only [f_X1_weightWith_l6, f_X1_weightWith_b6, gd_pos g1, g5]
    rw [if_neg (nle_i hjn (by omega))]
    simp only [g2, nn_s, gd_pos g3, g4]
    rw [if_neg (nle_i (a := 12) (show j < 12 by omega) (by decide)), ← g4, gd_pos (nlin g4 hjn hn), nI_clamp (by omega), g6 j hjn]
    cases t : (M j).testBit i
    · rw [if_pos ((nI_mbit (by omega)).mpr t), nI_p1]
      rw [t, if_neg (by decide), Nat.add_zero] at ih'
      exact ih'
    · rw [if_neg (fun q => by rw [(nI_mbit (by omega)).mp q] at t; cases t), nI_and]
      rw [t, if_pos rfl] at ih'
      by_cases al : M j &&& br = 0
      · rw [if_pos ((nI_eq0 (by omega)).mpr al), bd_d, nI_dif (hM1 j hjn), bitc_pop _ b1, i1024 (pop_le _), nI_plus, nI_p1]
        rw [wtP, if_pos (by simp [isAl, al]), al_fre hc (hM1 j hjn) (hsub j hjn) al] at ih'
        exact ih'
      · rw [if_neg (fun q => al ((nI_eq0 (by omega)).mp q)), nI_p1]
        rw [wtP, if_neg (by simp [isAl, al]), Nat.add_zero] at ih'
        exact ih'
theorem c_weightWith (h : LnV S L a n M) (hN : 12 < N) (hc : c ≤ 10) (hsub : ∀ j, j < n → M j &&& (2 ^ c - 1) = M j) {i : Nat} (hi : i < 10) (hf : (fre c mk br).testBit i = true) : f_X1_weightWith N S L (nI i) (nI mk) (nI br) = some (nI (dgP M n c mk br i), S) := c_weightWith_l h hc hsub hi hf n N 0 (by omega) (by have := h.2.2.1; omega)
theorem c_aliveWith_l (h : LnV S L a n M) {i : Nat} (hi : i < 10) : ∀ d k j, j + d = n → d < k → f_X1_aliveWith_l5 N L (nI i) (nI br) k S (nI (fb_ct (fun j => (M j).testBit i && isAl M br j) j)) (nI j) = some (nI (lvP M n br i), S) := by
  obtain ⟨⟨g1, g2, g3, g4⟩, ⟨g5, g6⟩, hn, hM1⟩ := h
  intro d
  induction d with
  | zero =>
    intro k j hj hk
    obtain ⟨k, rfl⟩ : ∃ q, k = q + 1 := ⟨k - 1, by omega⟩
    obtain rfl : j = n := by omega
    simp only [f_X1_aliveWith_l5, f_X1_aliveWith_b5, gd_pos g1, g5]
    rw [if_pos (Int32.le_refl _)]
    rfl
  | succ d ih =>
    intro k j hj hk
    obtain ⟨k, rfl⟩ : ∃ q, k = q + 1 := ⟨k - 1, by omega⟩
    have hjn : j < n := by omega
    have b2 := and_lt (b := br) (hM1 j hjn)
    have ih' := ih k (j + 1) (by omega) (by omega)
    rw [fb_ct_succ] at ih'
    simp only [f_X1_aliveWith_l5, f_X1_aliveWith_b5, gd_pos g1, g5]
    rw [if_neg (nle_i hjn (by omega))]
    simp only [g2, nn_s, gd_pos g3, g4]
    rw [if_neg (nle_i (a := 12) (show j < 12 by omega) (by decide)), ← g4, gd_pos (nlin g4 hjn hn), nI_clamp (by omega), g6 j hjn]
    cases t : (M j).testBit i
    · rw [if_pos ((nI_mbit (by omega)).mpr t), nI_p1]
      simpa [t] using ih'
    · rw [if_neg (fun q => by rw [(nI_mbit (by omega)).mp q] at t; cases t), nI_and]
      by_cases al : M j &&& br = 0
      · rw [if_pos ((nI_eq0 (by omega)).mpr al), nI_p1, nI_p1]
        simpa [t, isAl, al] using ih'
      · rw [if_neg (fun q => al ((nI_eq0 (by omega)).mp q)), nI_p1]
        simpa [t, isAl, al] using ih'
theorem c_aliveWith (h : LnV S L a n M) (hN : 12 < N) {i : Nat} (hi : i < 10) : f_X1_aliveWith N S L (nI i) (nI br) = some (nI (lvP M n br i), S) := c_aliveWith_l h hi n N 0 (by omega) (by have := h.2.2.1; omega)
theorem c_has (h : LnV S L a n M) {x : Int32} : f_X1_has N S L x = some ((if 0 ≤ x ∧ x < nI n then (1 : Int32) else 0), S) := by
  obtain ⟨⟨g1, g2, g3, g4⟩, ⟨g5, g6⟩, hn, hM1⟩ := h
  unfold f_X1_has
  by_cases h1 : x < 0
  · rw [if_pos h1, if_neg (fun q => absurd h1 (Int32.not_lt.mpr q.1))]
  · rw [if_neg h1, gd_pos g1, g5]
    by_cases h2 : nI n ≤ x
    · rw [if_pos h2, if_neg (fun q => absurd q.2 (Int32.not_lt.mpr h2))]
    · rw [if_neg h2, g2, nn_s, gd_pos g3, g4, if_neg (fun q => h2 (Int32.le_trans (nI_le (by omega) (by decide)) q)), if_pos ⟨Int32.not_lt.mp h1, Int32.not_le.mp h2⟩]
theorem c_maskOf (h : LnV S L a n M) {j : Nat} (hj : j < 2 ^ 31) : f_X1_maskOf N S L (nI j) = some ((if j < n then nI (M j) else 0), S) := by
  obtain ⟨⟨g1, g2, g3, g4⟩, ⟨g5, g6⟩, hn, hM1⟩ := h
  unfold f_X1_maskOf
  rw [if_neg (nI_pos hj), gd_pos g1, g5]
  by_cases h2 : j < n
  · rw [if_neg (nle_i h2 (by omega)), g2, nn_s, gd_pos g3, g4, if_neg (nle_i (a := 12) (show j < 12 by omega) (by decide)), ← g4, gd_pos (nlin g4 h2 hn), nI_clamp hj, g6 j h2, if_pos h2]
  · rw [if_pos (nI_le (by omega) hj), if_neg h2]
theorem c_put (h : LnV S L a n M) (hn : n < 12) {v : Nat} (hv : v < 1024) : ∃ T, f_X1_put N S L (nI v) = some ((), T) ∧ Fr [L, a] S T ∧ LnV T L a (n + 1) (fun j => if j = n then v else M j) := by
  obtain ⟨⟨g1, g2, g3, g4⟩, ⟨g5, g6⟩, hn', hM1⟩ := h
  have hne : a ≠ L := ok_ne g3 g1 (by decide)
  unfold f_X1_put
  rw [gd_pos g1, g5, if_neg (nI_pos (by omega)), g2, nn_s, gd_pos g3, g4, if_neg (nle_i (a := 12) hn (by decide)), ← g4, gd_pos (nlin g4 hn (Nat.le_refl 12)), bd_d, nI_clamp (by omega), hI_a hne.symm, g5, nI_p1]
  have f : Fr [L, a] S (sI (sI S a n (nI v)) L 1 (nI (n + 1))) := (Fr.rf.sI (by simp)).sI (by simp)
  refine ⟨_, rfl, f, LnS.fr ⟨g1, g2, g3, g4⟩ f, ⟨hI_same _ _ _ _, fun j hj => ?_⟩, by omega, fun j hj => ?_⟩
  · rw [hI_a hne]
    by_cases e : j = n
    · subst e; rw [hI_same]; simp
    · rw [hI_k e, g6 j (by omega)]; simp [e]
  · by_cases e : j = n
    · simp [e, hv]
    · simp only [e, if_false]; exact hM1 j (by omega)
theorem c_drop_l (hs : LnS S L a) (hn : n ≤ 12) (h5 : hI S L 1 = nI n) (h6 : ∀ j, j < n → hI S a j = nI (M j)) {i : Nat} : ∀ d k j S', Fr [L, a] S S' → hI S' L 1 = nI n → i + 1 ≤ j → (∀ q, q < n → hI S' a q = nI (if q < i then M q else if q + 1 < j then M (q + 1) else M q)) → j + d = n → d < k →
    ∃ T, f_X1_drop_l12 N L (nI i) k S' (nI j) = some ((), T) ∧ Fr [L, a] S T ∧ hI T L 1 = nI (n - 1) ∧ ∀ q, q < n - 1 → hI T a q = nI (if q < i then M q else M (q + 1)) := by
  obtain ⟨g1, g2, g3, g4⟩ := hs
  have hne : a ≠ L := ok_ne g3 g1 (by decide)
  intro d
  induction d with
  | zero =>
    intro k j S' f e1 hij e2 hj hk
    obtain ⟨k, rfl⟩ : ∃ q, k = q + 1 := ⟨k - 1, by omega⟩
    obtain rfl : j = n := by omega
    simp only [f_X1_drop_l12, f_X1_drop_b12, gd_pos (f.ok g1), e1]
    rw [if_pos (Int32.le_refl _), f_X1_drop_b49, gd_pos (f.ok g1), e1]
    obtain ⟨n', rfl⟩ : ∃ q, j = q + 1 := ⟨j - 1, by omega⟩
    rw [nI_m1]
    refine ⟨_, rfl, f.sI (by simp), hI_same _ _ _ _, fun q hq => ?_⟩
    rw [hI_a hne, e2 q (by omega)]
    by_cases c1 : q < i
    · rw [if_pos c1, if_pos c1]
    · rw [if_neg c1, if_neg c1, if_pos (by omega)]
  | succ d ih =>
    intro k j S' f e1 hij e2 hj hk
    obtain ⟨k, rfl⟩ : ∃ q, k = q + 1 := ⟨k - 1, by omega⟩
    have hjn : j < n := by omega
    obtain ⟨j', rfl⟩ : ∃ q, j = q + 1 := ⟨j - 1, by omega⟩
    have hn2 : hN S' a = 12 := by rw [f.N]; exact g4
    simp only [f_X1_drop_l12, f_X1_drop_b12, gd_pos (f.ok g1), e1]
    rw [if_neg (nle_i hjn (by omega)), f.R, g2, nn_s, gd_pos (f.ok g3), hn2, if_neg (nle_i (a := 12) (by omega) (by decide)), ← hn2, gd_pos (nlin hn2 hjn hn), nI_m1, gd_pos (nlin hn2 (show j' < n by omega) hn), bd_d, nI_clamp (by omega), nI_clamp (by omega), nI_p1]
    refine ih k (j' + 1 + 1) _ (f.sI (by simp)) ?_ (by omega) (fun q hq => ?_) (by omega) (by omega)
    · rw [hI_a hne.symm]; exact e1
    · by_cases e : q = j'
      · subst e
        rw [hI_same, e2 (q + 1) hjn, if_neg (by omega), if_neg (by omega), if_neg (by omega), if_pos (by omega)]
      · rw [hI_k e, e2 q hq]
        by_cases c1 : q < i
        · rw [if_pos c1, if_pos c1]
        · rw [if_neg c1, if_neg c1]
          by_cases c2 : q + 1 < j' + 1
          · rw [if_pos c2, if_pos (by omega)]
          · rw [if_neg c2, if_neg (by omega)]
theorem c_drop (h : LnV S L a n M) (hN : 12 < N) {i : Nat} (hi : i < n) : ∃ T, f_X1_drop N S L (nI i) = some ((), T) ∧ Fr [L, a] S T ∧ LnV T L a (n - 1) (fun j => if j < i then M j else M (j + 1)) := by
  have e1 := c_has (N := N) h (x := nI i)
  have hs := h.sh
  obtain ⟨⟨g1, g2, g3, g4⟩, ⟨g5, g6⟩, hn, hM1⟩ := h
  unfold f_X1_drop
  rw [if_pos ⟨nI_pos' (by omega), nI_lt hi (by omega)⟩] at e1
  rw [gd_pos g1, e1, cl_s, if_neg (by decide), nI_p1]
  obtain ⟨T, t1, t2, t3, t4⟩ := c_drop_l (N := N) hs hn g5 g6 (i := i) (n - (i + 1)) N (i + 1) S Fr.rf g5 (by omega) (fun q hq => by
    by_cases c1 : q < i
    · rw [if_pos c1]; exact g6 q hq
    · rw [if_neg c1, if_neg (by omega)]; exact g6 q hq) (by omega) (by omega)
  refine ⟨T, t1, t2, hs.fr t2, ⟨t3, t4⟩, by omega, fun j hj => ?_⟩
  dsimp only
  split
  · exact hM1 j (by omega)
  · exact hM1 _ (by omega)
theorem c_copy_l {L2 a2 : Nat} (h : LnV S L a n M) (h2 : LnS S L2 a2) (hLL : L2 ≠ L) (haa : a2 ≠ a) : ∀ d k j S', Fr [L2, a2] S S' → (∀ q, q < j → hI S' a2 q = nI (M q)) → j + d = n → d < k →
    ∃ T, f_X1_copy_l2 N L2 L k S' (nI j) = some ((), T) ∧ Fr [L2, a2] S T ∧ LnV T L2 a2 n M := by
  obtain ⟨⟨g1, g2, g3, g4⟩, ⟨g5, g6⟩, hn, hM1⟩ := h
  have hs2 := h2
  obtain ⟨i1, i2, i3, i4⟩ := h2
  have n1 : a2 ≠ L2 := ok_ne i3 i1 (by decide)
  have n2 : a2 ≠ L := ok_ne i3 g1 (by decide)
  have n3 : a ≠ L2 := ok_ne g3 i1 (by decide)
  have nL : L ∉ [L2, a2] := by simp [hLL.symm, n2.symm]
  have na : a ∉ [L2, a2] := by simp [n3, haa.symm]
  intro d
  induction d with
  | zero =>
    intro k j S' f e2 hj hk
    obtain ⟨k, rfl⟩ : ∃ q, k = q + 1 := ⟨k - 1, by omega⟩
    obtain rfl : j = n := by omega
    simp only [f_X1_copy_l2, f_X1_copy_b2, gd_pos (f.ok g1), f.I nL, g5]
    rw [if_pos (Int32.le_refl _), f_X1_copy_b46, gd_pos (f.ok g1), gd_pos (f.ok i1), f.I nL, g5]
    have f' : Fr [L2, a2] S (sI S' L2 1 (nI j)) := f.sI (by simp)
    exact ⟨_, rfl, f', hs2.fr f', ⟨hI_same _ _ _ _, fun q hq => by rw [hI_a n1]; exact e2 q hq⟩, hn, hM1⟩
  | succ d ih =>
    intro k j S' f e2 hj hk
    obtain ⟨k, rfl⟩ : ∃ q, k = q + 1 := ⟨k - 1, by omega⟩
    have hjn : j < n := by omega
    have x1 : hN S' a = 12 := by rw [f.N]; exact g4
    have x2 : hN S' a2 = 12 := by rw [f.N]; exact i4
    simp only [f_X1_copy_l2, f_X1_copy_b2, gd_pos (f.ok g1), f.I nL, g5]
    rw [if_neg (nle_i hjn (by omega)), f.R, g2, nn_s, gd_pos (f.ok g3), x1, if_neg (nle_i (a := 12) (by omega) (by decide)), gd_pos (f.ok i1), i2, nn_s, gd_pos (f.ok i3), x2, if_neg (nle_i (a := 12) (by omega) (by decide)), ← x1, gd_pos (nlin x1 hjn hn), x1, ← x2, gd_pos (nlin x2 hjn hn), bd_d, nI_clamp (by omega), f.I na, g6 j hjn, nI_p1]
    refine ih k (j + 1) _ (f.sI (by simp)) (fun q hq => ?_) (by omega) (by omega)
    by_cases e : q = j
    · subst e; rw [hI_same]
    · rw [hI_k e]; exact e2 q (by omega)
theorem c_copy {L2 a2 : Nat} (h : LnV S L a n M) (hN : 12 < N) (h2 : LnS S L2 a2) (hLL : L2 ≠ L) (haa : a2 ≠ a) : ∃ T, f_X1_copy N S L2 L = some ((), T) ∧ Fr [L2, a2] S T ∧ LnV T L2 a2 n M :=
  c_copy_l h h2 hLL haa n N 0 S Fr.rf (fun q hq => absurd hq (Nat.not_lt_zero q)) (by omega) (by have := h.2.2.1; omega)
def sameB (n n2 : Nat) (M M2 : Nat → Nat) : Bool := decide (n = n2) && !anyN (fun j => decide (M j ≠ M2 j)) n
theorem c_areSame_l {L2 a2 : Nat} {M2 : Nat → Nat} (h : LnV S L a n M) (h2 : LnV S L2 a2 n M2) : ∀ d k j, j + d = n → d < k → anyN (fun j => decide (M j ≠ M2 j)) j = false →
    f_X1_areSame_l15 N L L2 k S (nI j) = some ((if sameB n n M M2 = true then (1 : Int32) else 0), S) := by
  obtain ⟨⟨g1, g2, g3, g4⟩, ⟨g5, g6⟩, hn, hM1⟩ := h
  obtain ⟨⟨i1, i2, i3, i4⟩, ⟨i5, i6⟩, -, iM1⟩ := h2
  intro d
  induction d with
  | zero =>
    intro k j hj hk hno
    obtain ⟨k, rfl⟩ : ∃ q, k = q + 1 := ⟨k - 1, by omega⟩
    obtain rfl : j = n := by omega
    simp only [f_X1_areSame_l15, f_X1_areSame_b15, gd_pos g1, g5]
    rw [if_pos (Int32.le_refl _), sameB, hno]
    simp
  | succ d ih =>
    intro k j hj hk hno
    obtain ⟨k, rfl⟩ : ∃ q, k = q + 1 := ⟨k - 1, by omega⟩
    have hjn : j < n := by omega
    have q1 := hM1 j hjn
    have q2 := iM1 j hjn
    simp only [f_X1_areSame_l15, f_X1_areSame_b15, gd_pos g1, g5]
    rw [if_neg (nle_i hjn (by omega)), g2, nn_s, gd_pos g3, g4, if_neg (nle_i (a := 12) (by omega) (by decide)), gd_pos i1, i2, nn_s, gd_pos i3, i4, if_neg (nle_i (a := 12) (by omega) (by decide)), ← g4, gd_pos (nlin g4 hjn hn), g4, ← i4, gd_pos (nlin i4 hjn hn), nI_clamp (by omega), g6 j hjn, i6 j hjn, nI_p1]
    by_cases e : M j = M2 j
    · rw [if_pos (by rw [e])]
      exact ih k (j + 1) (by omega) (by omega) (by rw [anyN, hno]; simp [e])
    · rw [if_neg (fun w => e ((nI_eq_iff (by omega) (by omega)).mp w))]
      have w : anyN (fun j => decide (M j ≠ M2 j)) n = true := anyN_iff.mpr ⟨j, hjn, by simp [e]⟩
      rw [sameB, w]
      simp
theorem c_areSame {L2 a2 n2 : Nat} {M2 : Nat → Nat} (h : LnV S L a n M) (h2 : LnV S L2 a2 n2 M2) (hN : 12 < N) : f_X1_areSame N S L L2 = some ((if sameB n n2 M M2 = true then (1 : Int32) else 0), S) := by
  have g := h.2.2.1
  have g' := h2.2.2.1
  unfold f_X1_areSame
  rw [gd_pos h.1.1, gd_pos h2.1.1, h.2.1.1, h2.2.1.1]
  by_cases e : n = n2
  · subst e
    rw [if_pos rfl]
    exact c_areSame_l h h2 n N 0 (by omega) (by omega) rfl
  · rw [if_neg (fun w => e ((nI_eq_iff (by omega) (by omega)).mp w)), sameB]
    simp [e]
theorem c_lowestOf_l {x : Nat} (ha : x < 1024) : ∀ d k i, i + d = 10 → d < k → (∀ q, q < i → x.testBit q = false) → f_X6_lowestOf_l2 N (nI x) k S (nI i) = some (lowI x, S) := by
  intro d
  induction d with
  | zero =>
    intro k i hi hk' hno
    obtain ⟨k, rfl⟩ : ∃ q, k = q + 1 := ⟨k - 1, by omega⟩
    obtain rfl : i = 10 := by omega
    have a0 : x = 0 := by
      refine Nat.eq_of_testBit_eq (fun q => ?_)
      rw [Nat.zero_testBit]
      by_cases hq : q < 10
      · exact hno q hq
      · exact tb_hi ha (by omega)
    unfold f_X6_lowestOf_l2 f_X6_lowestOf_b2
    rw [if_pos (show (10 : Int32) ≤ nI 10 by decide)]
    unfold lowI
    rw [if_pos a0]
  | succ d ih =>
    intro k i hi hk' hno
    obtain ⟨k, rfl⟩ : ∃ q, k = q + 1 := ⟨k - 1, by omega⟩
    unfold f_X6_lowestOf_l2 f_X6_lowestOf_b2
    rw [if_neg (nle10 (by omega))]
    cases g : x.testBit i
    · rw [if_pos ((nI_mbit (by omega)).mpr g), nI_p1]
      refine ih k (i + 1) (by omega) (by omega) (fun q hq => ?_)
      by_cases e : q = i
      · subst e; exact g
      · exact hno q (by omega)
    · rw [if_neg (fun q => by rw [(nI_mbit (by omega)).mp q] at g; cases g), lowI_at (by omega) hno g]
theorem c_lowestOf (hN : 10 < N) {x : Nat} (ha : x < 1024) : f_X6_lowestOf N S (nI x) = some (lowI x, S) := c_lowestOf_l ha 10 N 0 rfl hN (fun q hq => absurd hq (Nat.not_lt_zero q))
end
