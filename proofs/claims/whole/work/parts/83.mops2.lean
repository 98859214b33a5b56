def takA (A : Ab) (i : Nat) : Ab := (aN A, A.2.1, (fun j => if j = i then some (aN A) else aS A j), A.2.2.2)
def undA (A : Ab) : Ab := (aHs A (aH A - 1), (aH A - 1, aHs A), A.2.2)
def appA (A : Ab) (c : Nat) : Ab := (aN A, A.2.1, A.2.2.1, (aL A + 1, fun k => if k = aL A then c else aT A k))
def clbA (A : Ab) : Ab := (aN A, A.2.1, A.2.2.1, (0, aT A))
theorem takA_wf {A : Ab} (h : WfA A) (i : Nat) : WfA (takA A i) := by
  obtain ⟨h1, h2, h3, h4⟩ := h
  refine ⟨h1, h2, fun j B hj => ?_, h4⟩
  have hj' : (if j = i then some (aN A) else aS A j) = some B := hj
  by_cases e : j = i
  · rw [if_pos e] at hj'
    cases hj'
    exact h1
  · rw [if_neg e] at hj'
    exact h3 j B hj'
theorem undA_wf {A : Ab} (h : WfA A) (h0 : aH A ≠ 0) : WfA (undA A) := by
  obtain ⟨h1, ⟨h2, h2'⟩, h3, h4⟩ := h
  refine ⟨h2' _ (by omega), ⟨(by show aH A - 1 ≤ 6; omega), fun j hj => h2' j (by have : j < aH A - 1 := hj; omega)⟩, h3, h4⟩
theorem appA_wf {A : Ab} (h : WfA A) {c : Nat} (hc : 33 ≤ c ∧ c ≤ 126) (hl : aL A < 60) : WfA (appA A c) := by
  obtain ⟨h1, h2, h3, h4, h5⟩ := h
  refine ⟨h1, h2, h3, hl, fun k hk => ?_⟩
  have hk' : k < aL A + 1 := hk
  show 33 ≤ (if k = aL A then c else aT A k) ∧ (if k = aL A then c else aT A k) ≤ 126
  by_cases e : k = aL A
  · rw [if_pos e]; exact hc
  · rw [if_neg e]; exact h5 k (by omega)
theorem clbA_wf {A : Ab} (h : WfA A) : WfA (clbA A) := ⟨h.1, h.2.1, h.2.2.1, Nat.zero_le _, fun _ hk => absurd hk (Nat.not_lt_zero _)⟩
theorem cntB_wf {B : Bd} (h : Wf B) (o x y : Int32) : Wf (cntB B o x y) := h
theorem MX.of {E : List Nat} {S T : Hp} {m : Nat} {g : Nat → Nat} {A A' : Ab} (h : MX S m g A) (f : Fr E S T) (e1 : hI T m 11 = hI S m 11) (e2 : hI T m 12 = hI S m 12) (o : ∀ i, i ∈ [13, 14, 15] → g i ∉ E) (c1 : hI T m 1 = nI (aH A')) (c2 : hI T m 5 = nI (aL A')) (c3 : Zr T (g 0) (aN A')) (c4 : ∀ j, j < aH A' → RowF (fun k => hI T (g 2) (22 * j + k)) (aHs A' j)) (c5 : ∀ i, i < 2 → hI T (g 4) i = (if (aS A' i).isSome = true then (1 : Int32) else 0) ∧ ∀ B, aS A' i = some B → RowF (fun k => hI T (g 3) (22 * i + k)) B) (c6 : ∀ k, k < aL A' → hI T (g 6) k = nI (aT A' k)) : MX T m g A' :=
  ⟨h.1.fr f, ⟨c1, c2⟩, c3, c4, c5, c6, h.2.2.2.2.2.2.cong e1 e2 (f.I (o 13 (by decide))) (f.I (o 14 (by decide))) (f.I (o 15 (by decide)))⟩
section
variable {N : Nat} {S : Hp} {m : Nat} {g : Nat → Nat} {A : Ab}
theorem m_rem_l {z n i : Nat} {M : Nat → Nat} {p v : Int32} (h : ok S m 7 ∧ hR S m 0 = some z ∧ ok S z 8 ∧ hN S z = 22) (hn : n ≤ 12) (hn0 : i < n) (h2 : hI S z 2 = nI (n - 1)) (hM : ∀ j, j < n → hI S z (10 + j) = nI (M j)) : ∀ d k q T, Fr [z] S T → (∀ r, r < 10 → hI T z r = hI S z r) → i ≤ q → (∀ j, j < n → hI T z (10 + j) = nI (if j < i then M j else if j < q then M (j + 1) else M j)) → q + d = n - 1 → d < k → ∃ U, f_X7_removeLine_l52 N m p k T v (nI q) = some (v, U) ∧ Fr [z] S U ∧ (∀ r, r < 10 → hI U z r = hI S z r) ∧ ∀ j, j < n - 1 → hI U z (10 + j) = nI (if j < i then M j else M (j + 1)) := by
  obtain ⟨a1, a2, a3, a4⟩ := h
  intro d
  induction d with
  | zero =>
    intro k q T f b1 hq b2 hd hk
    obtain ⟨k, rfl⟩ : ∃ u, k = u + 1 := ⟨k - 1, by omega⟩
    have n4 : hN T z = 22 := by rw [f.N]; exact a4
    unfold f_X7_removeLine_l52 f_X7_removeLine_b52
    rw [gd_pos (f.ok a1), f.R, a2, nn_s, gd_pos (f.ok a3), gd_pos (zin n4 (i := (2 : Int32)) (k := 2) rfl (by decide)), tn2, b1 2 (by decide), h2, if_pos (by rw [show n - 1 = q by omega]; exact Int32.le_refl _)]
    refine ⟨T, rfl, f, b1, fun j hj => ?_⟩
    rw [b2 j (by omega), if_pos (show j < q by omega)]
  | succ d ih =>
    intro k q T f b1 hq b2 hd hk
    obtain ⟨k, rfl⟩ : ∃ u, k = u + 1 := ⟨k - 1, by omega⟩
    have n4 : hN T z = 22 := by rw [f.N]; exact a4
    have ei : (10 : Int32) + nI q + 1 = nI (10 + (q + 1)) := by rw [nI_10, nI_p1]; rfl
    unfold f_X7_removeLine_l52 f_X7_removeLine_b52
    rw [gd_pos (f.ok a1), f.R, a2, nn_s, gd_pos (f.ok a3), gd_pos (zin n4 (i := (2 : Int32)) (k := 2) rfl (by decide)), tn2, b1 2 (by decide), h2, if_neg (nle_i (by omega) (by omega)), ei, gd_pos (zin n4 (k := 10 + (q + 1)) rfl (by omega)), gd_pos (zin n4 (k := 10 + q) (nI_10 q) (by omega)), bd_d, ix10 (by omega), nI_clamp (by omega), nI_p1]
    refine ih k (q + 1) _ (fr_s1 f) (fun r hr => ?_) (by omega) (fun j hj => ?_) (by omega) (by omega)
    · rw [hI_k (by omega), b1 r hr]
    · by_cases e : j = q
      · rw [e, hI_same, b2 (q + 1) (by omega), if_neg (by omega), if_neg (by omega), if_neg (by omega), if_pos (by omega)]
      · rw [hI_k (by omega), b2 j hj]
        by_cases j1 : j < i
        · rw [if_pos j1, if_pos j1]
        · rw [if_neg j1, if_neg j1]
          by_cases j2 : j < q
          · rw [if_pos j2, if_pos (by omega)]
          · rw [if_neg j2, if_neg (by omega)]
theorem m_removeLine_bad (h : MX S m g A) (hw : WfA A) {p : Int32} (hp : ¬ (0 ≤ p ∧ p < nI (bn (aN A)))) : MRes S m g A 1 0 (f_X7_removeLine N S m p) := by
  unfold f_X7_removeLine
  rw [gd_pos h.1.1, m_isLine h hw, cl_s, if_neg hp, if_pos rfl, f_X7_removeLine_b14, thr_no h.1.1 (by decide)]
  exact mres_bad h 1
theorem in0 {i n : Nat} (h : i < n) (hn : n < 2 ^ 31) : (0 : Int32) ≤ nI i ∧ nI i < nI n := ⟨(nI_le_iff (a := 0) (by decide) (by omega)).mpr (Nat.zero_le _), (nI_lt_iff (by omega) hn).mpr h⟩
theorem m_removeLine (h : MX S m g A) (hw : WfA A) (hB : Big N) {i : Nat} (hi : i < bn (aN A)) : MRes S m g (nowA (svA A) (remB (aN A) i)) 0 (nI (bM (aN A) i)) (f_X7_removeLine N S m (nI i)) := by
  have hn := hw.1.1.2.2.1
  unfold f_X7_removeLine
  rw [gd_pos h.1.1, m_isLine h hw, cl_s, if_pos (in0 hi (by omega)), if_neg (by decide), f_X7_removeLine_b14, thr_go h.1.1]
  refine mres_of ?_
  obtain ⟨T, t1, t2⟩ := m_save (h.t7 0) hw hB
  obtain ⟨⟨b1, b2, b3, b4⟩, ⟨z0, z1, z2, z3, z4', z5, z6, z7, z8, z9⟩, zM⟩ := t2.2.1.zm
  have z2' : hI T (g 0) 2 = nI (bn (aN A)) := z2
  have zM' : ∀ j, j < bn (aN A) → hI T (g 0) (10 + j) = nI (bM (aN A) j) := zM
  rw [t1, cl_s, gd_pos b1, b2, nn_s, gd_pos b3, gd_pos (zin b4 (k := 10 + i) (nI_10 _) (by omega)), bd_d, gd_pos (zin b4 (i := (2 : Int32)) (k := 2) rfl (by decide)), bd_d, tn2, ix10 (by omega), z2', zM' i hi, show nI (bn (aN A)) - 1 = nI (bn (aN A) - 1) from nI_minus (b := 1) (by omega)]
  have hq : ∀ j, j < bn (aN A) → hI (sI T (g 0) 2 (nI (bn (aN A) - 1))) (g 0) (10 + j) = nI (if j < i then bM (aN A) j else if j < i then bM (aN A) (j + 1) else bM (aN A) j) := by
    intro j hj
    rw [hI_k (by omega), zM' j hj]
    by_cases e : j < i
    · rw [if_pos e]
    · rw [if_neg e, if_neg e]
  obtain ⟨U, u1, u2, u3, u4⟩ := m_rem_l (N := N) (S := sI T (g 0) 2 (nI (bn (aN A) - 1))) (p := nI i) (v := nI (bM (aN A) i)) (M := bM (aN A)) (i := i) ⟨b1, b2, b3, b4⟩ hn hi (hI_same _ _ _ _) (fun j hj => by rw [hI_k (by omega)]; exact zM j hj) (bn (aN A) - 1 - i) N i _ Fr.rf (fun _ _ => rfl) (Nat.le_refl _) hq (by omega) (by have := hB.1; omega)
  refine ⟨U, u1, t2.tr (m_zw t2.2.1 ((fr_s1 Fr.rf : Fr [g 0] T _).tr u2 |>.mono z4) ?_)⟩
  have s : ∀ r, r < 10 → r ≠ 2 → hI U (g 0) r = hI T (g 0) r := fun r h1 h2 => by rw [u3 r h1, hI_k h2]
  refine ⟨⟨?_, ?_, ?_, ?_, ?_, ?_, ?_, ?_, ?_, ?_⟩, fun j hj => u4 j hj⟩
  · rw [s 0 (by decide) (by decide)]; exact z0
  · rw [s 1 (by decide) (by decide)]; exact z1
  · rw [u3 2 (by decide), hI_same]; rfl
  · rw [s 3 (by decide) (by decide)]; exact z3
  · rw [s 4 (by decide) (by decide)]; exact z4'
  · rw [s 5 (by decide) (by decide)]; exact z5
  · rw [s 6 (by decide) (by decide)]; exact z6
  · rw [s 7 (by decide) (by decide)]; exact z7
  · rw [s 8 (by decide) (by decide)]; exact z8
  · rw [s 9 (by decide) (by decide)]; exact z9
theorem m_wn (h : MX S m g A) (hw : WfA A) (hB : Big N) : f_X7_winnerNow N S m = some (nI (bwin (aN A)), S) := m_winnerNow (N := N) (h.zm.mz hw.1) (by have := hB.1; omega)
theorem bwin_le (B : Bd) : bwin B ≤ 2 := winP_le _ _ _ _
theorem m_move_bad1 (h : MX S m g A) (hw : WfA A) {p : Int32} (hp : ¬ (0 ≤ p ∧ p < nI (bc (aN A)))) : MRes S m g A 1 0 (f_X7_move N S m p) := by
  unfold f_X7_move
  rw [gd_pos h.1.1, m_isCell h hw, cl_s, if_neg hp, if_pos rfl, f_X7_move_b36, thr_no h.1.1 (by decide)]
  exact mres_bad h 1
theorem m_move_bad2 (h : MX S m g A) (hw : WfA A) (hB : Big N) {i : Nat} (hi : i < bc (aN A)) (hf : ¬ (bwin (aN A) = 0 ∧ (bfre (aN A)).testBit i = true)) : MRes S m g A 2 0 (f_X7_move N S m (nI i)) := by
  have hc := hw.1.c10
  have hb := bwin_le (aN A)
  have e2 := m_free (N := N) (h.zm.mz hw.1)
  have eb : f_X7_move_b35 N m (nI i) S m = some (0, sI S m 7 2) := by
    unfold f_X7_move_b35 f_X7_move_b36
    exact thr_no h.1.1 (by decide)
  unfold f_X7_move
  rw [gd_pos h.1.1, m_isCell h hw, cl_s, if_pos (in0 hi (by omega)), if_neg (by decide), gd_pos h.1.1, m_wn h hw hB, cl_s]
  by_cases g0 : bwin (aN A) = 0
  · have hf' : ¬ (fre (bc (aN A)) (bk (aN A)) (bb (aN A))).testBit i = true := fun q => hf ⟨g0, q⟩
    rw [if_pos (by rw [g0]; rfl), gd_pos h.1.1, e2, cl_s, m_has (by have := fre_lt (mk := bk (aN A)) (br := bb (aN A)) hc; omega) (by omega), cl_s, if_neg hf', if_pos rfl, eb]
    exact mres_bad h 2
  · rw [if_neg (fun q => g0 ((nI_eq0 (by omega)).mp q)), eb]
    exact mres_bad h 2
theorem m_move (h : MX S m g A) (hw : WfA A) (hB : Big N) {i : Nat} (g0 : bwin (aN A) = 0) (hf : (bfre (aN A)).testBit i = true) : MRes S m g (nowA (svA A) (occB (aN A) i (parB (aN A) i))) 0 (nI (bwin (occB (aN A) i (parB (aN A) i)))) (f_X7_move N S m (nI i)) := by
  have hc := hw.1.c10
  have hi := fr_lt hc hf
  have e2 := m_free (N := N) (h.zm.mz hw.1)
  have hf' : (fre (bc (aN A)) (bk (aN A)) (bb (aN A))).testBit i = true := hf
  unfold f_X7_move
  rw [gd_pos h.1.1, m_isCell h hw, cl_s, if_pos (in0 hi (by omega)), if_neg (by decide), gd_pos h.1.1, m_wn h hw hB, cl_s, if_pos (by rw [g0]; rfl), gd_pos h.1.1, e2, cl_s, m_has (by have := fre_lt (mk := bk (aN A)) (br := bb (aN A)) hc; omega) (by omega), cl_s, if_pos hf', if_neg (by decide), f_X7_move_b36, thr_go h.1.1]
  refine mres_of ?_
  obtain ⟨T, t1, t2⟩ := m_save (h.t7 0) hw hB
  obtain ⟨U, u1, u2⟩ := m_moves2 t2.2.1 (svA_wf hw) hB (i := i) hf
  rw [t1, cl_s, gd_pos t2.2.1.1.1, u1, cl_s, gd_pos u2.2.1.1.1, m_wn u2.2.1 (nowA_wf (svA_wf hw) (occB_wf hw.1 hf (par_ok hw.1 i))) hB, cl_s]
  exact ⟨U, rfl, t2.tr u2⟩
theorem m_skip_bad (h : MX S m g A) (hw : WfA A) (hB : Big N) (g0 : bwin (aN A) ≠ 0) : MRes S m g A 1 0 (f_X7_skip N S m) := by
  have hb := bwin_le (aN A)
  unfold f_X7_skip
  rw [gd_pos h.1.1, m_wn h hw hB, cl_s, if_neg (fun q => g0 ((nI_eq0 (by omega)).mp q)), f_X7_skip_b13, thr_no h.1.1 (by decide)]
  exact mres_bad h 1
theorem m_skip (h : MX S m g A) (hw : WfA A) (hB : Big N) (g0 : bwin (aN A) = 0) : MRes S m g (nowA (svA A) (skpB (aN A))) 0 (nI (3 - bv (aN A))) (f_X7_skip N S m) := by
  unfold f_X7_skip
  rw [gd_pos h.1.1, m_wn h hw hB, cl_s, if_pos (by rw [g0]; rfl), f_X7_skip_b13, thr_go h.1.1]
  refine mres_of ?_
  obtain ⟨T, t1, t2⟩ := m_save (h.t7 0) hw hB
  obtain ⟨⟨b1, b2, b3, b4⟩, ⟨z0, z1, z2, z3, z4', z5, z6, z7, z8, z9⟩, zM⟩ := t2.2.1.zm
  have z1' : hI T (g 0) 1 = nI (bv (aN A)) := z1
  have ev : (3 : Int32) - nI (bv (aN A)) = nI (3 - bv (aN A)) := nI_minus (a := 3) (by have := hw.1.2.2.1; omega)
  rw [t1, cl_s, gd_pos b1, b2, nn_s, gd_pos b3, gd_pos (zin b4 (i := (1 : Int32)) (k := 1) rfl (by decide)), bd_d, gd_pos (by exact zin b4 (i := (5 : Int32)) (k := 5) rfl (by decide)), bd_d, gd_pos (by exact zin b4 (i := (6 : Int32)) (k := 6) rfl (by decide)), bd_d, tn1, tn5, tn6, z1', ev, hI_k (show 1 ≠ 6 by decide), hI_k (show 1 ≠ 5 by decide), hI_same]
  refine ⟨_, rfl, t2.tr (m_zw t2.2.1 ((fr_s1 (fr_s1 (fr_s1 Fr.rf))).mono z4) ?_)⟩
  refine ⟨⟨?_, ?_, ?_, ?_, ?_, ?_, ?_, ?_, ?_, ?_⟩, fun j hj => ?_⟩
  · rw [hI_k (by decide), hI_k (by decide), hI_k (by decide)]; exact z0
  · rw [hI_k (by decide), hI_k (by decide), hI_same]; rfl
  · rw [hI_k (by decide), hI_k (by decide), hI_k (by decide)]; exact z2
  · rw [hI_k (by decide), hI_k (by decide), hI_k (by decide)]; exact z3
  · rw [hI_k (by decide), hI_k (by decide), hI_k (by decide)]; exact z4'
  · rw [hI_k (by decide), hI_same]; rfl
  · rw [hI_same]; rfl
  · rw [hI_k (by decide), hI_k (by decide), hI_k (by decide)]; exact z7
  · rw [hI_k (by decide), hI_k (by decide), hI_k (by decide)]; exact z8
  · rw [hI_k (by decide), hI_k (by decide), hI_k (by decide)]; exact z9
  · rw [hI_k (by omega), hI_k (by omega), hI_k (by omega)]; exact zM j hj
theorem m_play_bad1 (h : MX S m g A) {p1 p2 p3 : Int32} (hp : ¬ ((0 ≤ p1 ∧ p1 ≤ 3) ∧ (0 ≤ p2 ∧ p2 ≤ 3) ∧ 1 ≤ p3 ∧ p3 ≤ 10)) : MRes S m g A 1 0 (f_X7_play N S m p1 p2 p3) := by
  have eb : f_X7_play_b25 N m p1 p2 p3 S m = some (0, sI S m 7 1) := by
    unfold f_X7_play_b25 f_X7_play_b41
    exact thr_no h.1.1 (by decide)
  unfold f_X7_play
  rw [m_isRule, cl_s]
  by_cases h1 : 0 ≤ p1 ∧ p1 ≤ 3
  · rw [if_pos h1, if_neg (by decide), m_isRule, cl_s]
    by_cases h2 : 0 ≤ p2 ∧ p2 ≤ 3
    · rw [if_pos h2, if_neg (by decide), m_within, cl_s, if_neg (fun h3 => hp ⟨h1, h2, h3⟩), if_pos rfl, eb]
      exact mres_bad h 1
    · rw [if_neg h2, if_pos rfl, eb]
      exact mres_bad h 1
  · rw [if_neg h1, if_pos rfl, eb]
    exact mres_bad h 1
theorem in03 {r : Nat} (hr : r < 4) : (0 : Int32) ≤ nI r ∧ nI r ≤ 3 := ⟨(nI_le_iff (a := 0) (by decide) (by omega)).mpr (Nat.zero_le _), (nI_le_iff (b := 3) (by omega) (by decide)).mpr (by omega)⟩
theorem in110 {q : Nat} (h1 : 1 ≤ q) (h2 : q ≤ 10) : (1 : Int32) ≤ nI q ∧ nI q ≤ 10 := ⟨(nI_le_iff (a := 1) (by decide) (by omega)).mpr h1, (nI_le_iff (b := 10) (by omega) (by decide)).mpr h2⟩
theorem m_play_bad2 (h : MX S m g A) (hw : WfA A) (hB : Big N) {r1 r2 q : Nat} (h1 : r1 < 4) (h2 : r2 < 4) (h3 : 1 ≤ q) (h4 : q ≤ 10) (g0 : bwin (aN A) ≠ 0) : MRes S m g A 2 0 (f_X7_play N S m (nI r1) (nI r2) (nI q)) := by
  have hb := bwin_le (aN A)
  unfold f_X7_play
  rw [m_isRule, cl_s, if_pos (in03 h1), if_neg (by decide), m_isRule, cl_s, if_pos (in03 h2), if_neg (by decide), m_within, cl_s, if_pos (in110 h3 h4), if_neg (by decide), gd_pos h.1.1, m_wn h hw hB, cl_s, if_neg (fun q => g0 ((nI_eq0 (by omega)).mp q)), f_X7_play_b41, thr_no h.1.1 (by decide)]
  exact mres_bad h 2
theorem m_play (h : MX S m g A) (hw : WfA A) (hB : Big N) {r1 r2 q : Nat} (h1 : r1 < 4) (h2 : r2 < 4) (h3 : 1 ≤ q) (h4 : q ≤ 10) (g0 : bwin (aN A) = 0) : MRes S m g (nowA (svA A) (itB r1 r2 q (aN A)).1) 0 (nI (itB r1 r2 q (aN A)).2) (f_X7_play N S m (nI r1) (nI r2) (nI q)) := by
  unfold f_X7_play
  rw [m_isRule, cl_s, if_pos (in03 h1), if_neg (by decide), m_isRule, cl_s, if_pos (in03 h2), if_neg (by decide), m_within, cl_s, if_pos (in110 h3 h4), if_neg (by decide), gd_pos h.1.1, m_wn h hw hB, cl_s, if_pos (by rw [g0]; rfl), f_X7_play_b41, thr_go h.1.1]
  refine mres_of ?_
  obtain ⟨T, t1, t2⟩ := m_save (h.t7 0) hw hB
  obtain ⟨U, u1, u2⟩ := m_plays t2.2.1 (svA_wf hw) hB h1 h2 h4
  rw [t1, cl_s, gd_pos t2.2.1.1.1, u1, cl_s]
  exact ⟨U, rfl, t2.tr u2⟩
end
