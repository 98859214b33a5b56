section
variable {N : Nat} {S : Hp} {m : Nat} {g : Nat → Nat} {A : Ab}
def keptP (k : Nat) : Bool := decide (k < 7) || decide (10 ≤ k)
theorem m_isKept {k : Nat} (hk : k < 22) : f_X7_isKept N S (nI k) = some ((if keptP k = true then (1 : Int32) else 0), S) := by
  unfold f_X7_isKept
  have e7 : nI k < (7 : Int32) ↔ k < 7 := nI_lt_iff (b := 7) (by omega) (by decide)
  have e10 : nI k < (10 : Int32) ↔ k < 10 := nI_lt_iff (b := 10) (by omega) (by decide)
  by_cases h1 : k < 7
  · rw [if_pos (e7.mpr h1), if_pos (by simp [keptP, h1])]
  · rw [if_neg (fun q => h1 (e7.mp q))]
    by_cases h2 : k < 10
    · rw [if_pos (e10.mpr h2), if_neg (by simp [keptP]; omega)]
    · rw [if_neg (fun q => h2 (e10.mp q)), if_pos (by simp [keptP]; omega)]
theorem m_restore_l (h : MSh S m g) {i : Nat} (hi : i < 2) {p : Int32} (hp : p = nI i) {n : Nat} (h2 : hI S (g 3) (22 * i + 2) = nI n) : ∀ d k q T, Fr [g 0] S T → (∀ j, j < q → hI T (g 0) j = if keptP j = true then hI S (g 3) (22 * i + j) else hI S (g 0) j) → (∀ j, q ≤ j → hI T (g 0) j = hI S (g 0) j) → q + d = 22 → d < k → ∃ U, f_X7_restore_l57 N m p k T (nI q) = some (nI n, U) ∧ Fr [g 0] S U ∧ ∀ j, j < 22 → hI U (g 0) j = if keptP j = true then hI S (g 3) (22 * i + j) else hI S (g 0) j := by
  have hm := h.1
  have h3 := h.2.1 3 (by decide)
  have hz := h.2.1 0 (by decide)
  have n3 : g 3 ∉ [g 0] := h.out (l := [0]) (by decide) (by decide)
  intro d
  induction d with
  | zero =>
    intro k q T f b1 b2 hq hk
    obtain ⟨k, rfl⟩ : ∃ u, k = u + 1 := ⟨k - 1, by omega⟩
    obtain rfl : q = 22 := by omega
    have n4 : hN T (g 0) = 22 := by rw [f.N]; exact hz.2.2
    unfold f_X7_restore_l57 f_X7_restore_b57
    rw [if_pos (show (22 : Int32) ≤ nI 22 by decide), gd_pos (f.ok hm), f.R, hz.1, nn_s, gd_pos (f.ok hz.2.1), gd_pos (zin n4 (i := (2 : Int32)) (k := 2) rfl (by decide)), tn2, b1 2 (by decide), if_pos (by decide), h2]
    exact ⟨T, rfl, f, b1⟩
  | succ d ih =>
    intro k q T f b1 b2 hq hk
    obtain ⟨k, rfl⟩ : ∃ u, k = u + 1 := ⟨k - 1, by omega⟩
    have n4 : hN T (g 0) = 22 := by rw [f.N]; exact hz.2.2
    have n5 : hN T (g 3) = 44 := by rw [f.N]; exact h3.2.2
    have e95 : ∀ v, f_X7_restore_b95 N m p (f_X7_restore_l57 N m p k) T (nI q) v (nI q) (g 0) = f_X7_restore_l57 N m p k (sI T (g 0) q v) (nI (q + 1)) := by
      intro v
      unfold f_X7_restore_b95
      rw [gd_pos (f.ok hz.2.1), gd_pos (inN n4 (show q < 22 by omega) (by decide)), nI_clamp (by omega), nI_p1]
    have go : ∀ v, (v = if keptP q = true then hI S (g 3) (22 * i + q) else hI S (g 0) q) → ∃ U, f_X7_restore_l57 N m p k (sI T (g 0) q v) (nI (q + 1)) = some (nI n, U) ∧ Fr [g 0] S U ∧ ∀ j, j < 22 → hI U (g 0) j = if keptP j = true then hI S (g 3) (22 * i + j) else hI S (g 0) j := by
      intro v hv
      refine ih k (q + 1) _ (fr_s1 f) (fun j hj => ?_) (fun j hj => ?_) (by omega) (by omega)
      · by_cases e : j = q
        · rw [e, hI_same, hv]
        · rw [hI_k e]
          exact b1 j (by omega)
      · rw [hI_k (by omega)]
        exact b2 j (by omega)
    unfold f_X7_restore_l57 f_X7_restore_b57
    rw [if_neg (nle_c 22 (n := 22) rfl (by omega) (by decide)), gd_pos (f.ok hm), f.R, hz.1, nn_s, m_isKept (by omega), cl_s]
    by_cases kp : keptP q = true
    · rw [if_pos kp, if_neg (by decide), gd_pos (f.ok hm), f.R, h3.1, nn_s, gd_pos (f.ok h3.2.1), hp, i22, gd_pos (inN n5 (show 22 * i + q < 44 by omega) (by decide)), nI_clamp (by omega), ← hp, e95, f.I n3]
      exact go _ (by rw [if_pos kp])
    · rw [if_neg kp, if_pos rfl, gd_pos (f.ok hm), f.R, hz.1, nn_s, gd_pos (f.ok hz.2.1), gd_pos (inN n4 (show q < 22 by omega) (by decide)), nI_clamp (by omega), e95]
      exact go _ (by rw [if_neg kp, b2 q (Nat.le_refl _)])
theorem m_restore_bad1 (h : MX S m g A) {p : Int32} (hp : ¬ (0 ≤ p ∧ p ≤ 1)) : MRes S m g A 1 0 (f_X7_restore N S m p) := by
  have hm := h.1.1
  unfold f_X7_restore
  rw [m_isSnap, cl_s, if_neg hp, if_pos rfl]
  unfold f_X7_restore_b13
  rw [gd_pos hm, gd_pos (ok_sI hm), hI_same, if_neg (by decide)]
  unfold f_X7_restore_b42
  rw [gd_pos (ok_sI hm), hI_same, if_neg (by decide)]
  exact mres_bad h 1
theorem m_restore_bad2 (h : MX S m g A) {i : Nat} (hi : i < 2) (hs : aS A i = none) : MRes S m g A 2 0 (f_X7_restore N S m (nI i)) := by
  have hm := h.1.1
  have h4 := h.1.2.1 4 (by decide)
  have e4 : hI S (g 4) i = 0 := by rw [(h.2.2.2.2.1 i hi).1, hs]; rfl
  unfold f_X7_restore
  rw [m_isSnap, cl_s, if_pos (in01 hi), if_neg (by decide)]
  unfold f_X7_restore_b13
  rw [gd_pos hm, gd_pos (ok_sI hm), hI_same, if_pos rfl, hR_sI, h4.1, nn_s, gd_pos (ok_sI h4.2.1), hN_sI, gd_pos (inN h4.2.2 (show i < 2 from hi) (by decide)), nI_clamp (by omega), hI_a (h.1.m (i := 4) (by decide)).symm, e4, if_neg (by decide)]
  unfold f_X7_restore_b39 f_X7_restore_b42
  rw [gd_pos (ok_sI hm), gd_pos (ok_sI (ok_sI hm)), hI_same, if_neg (by decide)]
  have f : Fr [m] S (sI (sI S m 7 0) m 7 2) := fr_s1 (fr_s1 Fr.rf)
  exact ⟨_, rfl, f.mono (fun a ha => by rw [List.mem_singleton.mp ha]; exact mls_m), (h.t7 0).t7 2, hI_same _ _ _ _⟩
theorem m_restore (h : MX S m g A) (hw : WfA A) (hB : Big N) {i : Nat} (hi : i < 2) {B : Bd} (hs : aS A i = some B) : MRes S m g (nowA (svA A) (cntB B (bo (aN A)) (bx (aN A)) (by_ (aN A)))) 0 (nI (bn B)) (f_X7_restore N S m (nI i)) := by
  have hm := h.1.1
  have h4 := h.1.2.1 4 (by decide)
  have e4 : hI S (g 4) i = 1 := by rw [(h.2.2.2.2.1 i hi).1, hs]; rfl
  unfold f_X7_restore
  rw [m_isSnap, cl_s, if_pos (in01 hi), if_neg (by decide)]
  unfold f_X7_restore_b13
  rw [gd_pos hm, gd_pos (ok_sI hm), hI_same, if_pos rfl, hR_sI, h4.1, nn_s, gd_pos (ok_sI h4.2.1), hN_sI, gd_pos (inN h4.2.2 (show i < 2 from hi) (by decide)), nI_clamp (by omega), hI_a (h.1.m (i := 4) (by decide)).symm, e4, if_pos rfl]
  unfold f_X7_restore_b39 f_X7_restore_b42
  rw [gd_pos (ok_sI hm), gd_pos (ok_sI (ok_sI hm)), hI_same, if_pos (Int32.le_refl 0)]
  have h0 : MX (sI (sI S m 7 0) m 7 0) m g A := (h.t7 0).t7 0
  have f0 : Fr [m] S (sI (sI S m 7 0) m 7 0) := fr_s1 (fr_s1 Fr.rf)
  obtain ⟨T, t1, t2⟩ := m_save h0 hw hB
  have hr := (t2.2.1.2.2.2.2.1 i hi).2 B hs
  have hr3 : RowF (fun k => hI T (g 3) (22 * i + k)) B := hr
  obtain ⟨⟨r0, r1, r2, r3, r4, r5, r6, r7, r8, r9⟩, rM⟩ := hr3
  have hn := (hw.2.2.1 i B hs).1.2.2.1
  obtain ⟨⟨z0, z1, z2, z3, z4', z5, z6, z7, z8, z9⟩, zM⟩ := t2.2.1.2.2.1
  obtain ⟨U, u1, u2, u3⟩ := m_restore_l (N := N) t2.2.1.1 hi (p := nI i) rfl (n := bn B) r2 22 N 0 T Fr.rf (fun j hj => absurd hj (Nat.not_lt_zero _)) (fun _ _ => rfl) rfl (by have := hB.1; omega)
  rw [t1, cl_s]
  have st : MStep T m g (nowA (svA A) (cntB B (bo (aN A)) (bx (aN A)) (by_ (aN A)))) U := by
    refine m_zw t2.2.1 (u2.mono z4) ⟨⟨?_, ?_, ?_, ?_, ?_, ?_, ?_, ?_, ?_, ?_⟩, fun j hj => ?_⟩
    · rw [u3 0 (by decide), if_pos (by decide)]; exact r0
    · rw [u3 1 (by decide), if_pos (by decide)]; exact r1
    · rw [u3 2 (by decide), if_pos (by decide)]; exact r2
    · rw [u3 3 (by decide), if_pos (by decide)]; exact r3
    · rw [u3 4 (by decide), if_pos (by decide)]; exact r4
    · rw [u3 5 (by decide), if_pos (by decide)]; exact r5
    · rw [u3 6 (by decide), if_pos (by decide)]; exact r6
    · rw [u3 7 (by decide), if_neg (by decide)]; exact z7
    · rw [u3 8 (by decide), if_neg (by decide)]; exact z8
    · rw [u3 9 (by decide), if_neg (by decide)]; exact z9
    · have hj' : j < bn B := hj
      rw [u3 (10 + j) (by omega), if_pos (by simp [keptP])]
      exact rM j hj
  have s2 := t2.tr st
  exact ⟨U, u1, (f0.mono (fun a ha => by rw [List.mem_singleton.mp ha]; exact mls_m)).tr s2.1, s2.2.1, s2.2.2.trans (hI_same _ _ _ _)⟩
theorem m_undo_l (h : MSh S m g) {s : Nat} (hs : s ≤ 5) (h1 : hI S m 1 = nI s) : ∀ d k q T, Fr [g 0] S T → (∀ j, j < q → hI T (g 0) j = hI S (g 2) (22 * s + j)) → q + d = 22 → d < k → ∃ U, f_X7_undo_l37 N m k T (nI q) = some (nI s, U) ∧ Fr [g 0] S U ∧ ∀ j, j < 22 → hI U (g 0) j = hI S (g 2) (22 * s + j) := by
  have hm := h.1
  have h3 := h.2.1 2 (by decide)
  have hz := h.2.1 0 (by decide)
  have n3 : g 2 ∉ [g 0] := h.out (l := [0]) (by decide) (by decide)
  have nm : m ∉ [g 0] := h.outm (l := [0]) (by decide)
  intro d
  induction d with
  | zero =>
    intro k q T f b1 hq hk
    obtain ⟨k, rfl⟩ : ∃ u, k = u + 1 := ⟨k - 1, by omega⟩
    obtain rfl : q = 22 := by omega
    unfold f_X7_undo_l37 f_X7_undo_b37
    rw [if_pos (show (22 : Int32) ≤ nI 22 by decide), gd_pos (f.ok hm), f.I nm, h1]
    exact ⟨T, rfl, f, b1⟩
  | succ d ih =>
    intro k q T f b1 hq hk
    obtain ⟨k, rfl⟩ : ∃ u, k = u + 1 := ⟨k - 1, by omega⟩
    have n4 : hN T (g 0) = 22 := by rw [f.N]; exact hz.2.2
    have n5 : hN T (g 2) = 132 := by rw [f.N]; exact h3.2.2
    unfold f_X7_undo_l37 f_X7_undo_b37
    rw [if_neg (nle_c 22 (n := 22) rfl (by omega) (by decide)), gd_pos (f.ok hm), f.R, hz.1, nn_s, h3.1, nn_s, gd_pos (f.ok h3.2.1), f.I nm, h1, i22, gd_pos (inN n5 (show 22 * s + q < 132 by omega) (by decide)), gd_pos (f.ok hz.2.1), gd_pos (inN n4 (show q < 22 by omega) (by decide)), bd_d, nI_clamp (by omega), nI_clamp (by omega), nI_p1]
    refine ih k (q + 1) _ (fr_s1 f) (fun j hj => ?_) (by omega) (by omega)
    by_cases e : j = q
    · rw [e, hI_same, f.I n3]
    · rw [hI_k e]
      exact b1 j (by omega)
theorem m_undo_bad (h : MX S m g A) (h0 : aH A = 0) : MRes S m g A 1 0 (f_X7_undo N S m) := by
  unfold f_X7_undo
  rw [gd_pos h.1.1, h.2.1.1, if_pos (by rw [h0]; decide), f_X7_undo_b13, thr_no h.1.1 (by decide)]
  exact mres_bad h 1
theorem m_undo (h : MX S m g A) (hw : WfA A) (hB : Big N) (h0 : aH A ≠ 0) : MRes S m g (undA A) 0 (nI (aH A - 1)) (f_X7_undo N S m) := by
  have h6 := hw.2.1.1
  have h7 := h.t7 0
  unfold f_X7_undo
  rw [gd_pos h.1.1, h.2.1.1, if_neg (fun q => h0 ((nI_le0 (by omega)).mp q)), f_X7_undo_b13, thr_go h.1.1]
  refine mres_of ?_
  have e1 : hI (sI S m 7 0) m 1 - 1 = nI (aH A - 1) := by rw [h7.2.1.1]; exact nI_minus (b := 1) (by omega)
  rw [bd_d, e1]
  have f1 : Fr [m] (sI S m 7 0) (sI (sI S m 7 0) m 1 (nI (aH A - 1))) := fr_s1 Fr.rf
  have n2 := h.1.m (i := 2) (by decide)
  have n20 : g 2 ≠ g 0 := h.1.2.2 2 0 (by decide) (by decide) (by decide)
  obtain ⟨U, u1, u2, u3⟩ := m_undo_l (N := N) (h7.1.fr f1) (s := aH A - 1) (by omega) (hI_same _ _ _ _) 22 N 0 _ Fr.rf (fun j hj => absurd hj (Nat.not_lt_zero _)) rfl (by have := hB.1; omega)
  have nm : m ∉ [g 0] := h.1.outm (l := [0]) (by decide)
  have f : Fr [m, g 0] (sI S m 7 0) U := (f1.mono (by simp)).tr (u2.mono (by simp))
  have e : ∀ j, j ∈ FS → j ≠ 0 → hI U (g j) = hI (sI S m 7 0) (g j) := by
    intro j hj hj0
    refine f.I ?_
    simp only [List.mem_cons, List.not_mem_nil, or_false, not_or]
    exact ⟨(h.1.m hj).symm, h.1.2.2 j 0 hj (by decide) hj0⟩
  refine ⟨U, u1, f.mono (fun a ha => ?_), ?_, by rw [u2.I nm, hI_k (by decide)]⟩
  · simp only [List.mem_cons, List.not_mem_nil, or_false] at ha
    rcases ha with rfl | rfl
    · exact mls_m
    · exact mls_g (by decide)
  · have hh := h7
    obtain ⟨a1, ⟨a2, a2'⟩, a3, a4, a5, a6, a7⟩ := h7
    refine hh.of f (by rw [u2.I nm, hI_k (by decide)]) (by rw [u2.I nm, hI_k (by decide)]) (fun j hj => ?_) ?_ ?_ ?_ ?_ ?_ ?_
    · have hj' : j ∈ FS ∧ j ≠ 0 := by
        simp only [List.mem_cons, List.not_mem_nil, or_false] at hj
        rcases hj with rfl | rfl | rfl <;> decide
      simp only [List.mem_cons, List.not_mem_nil, or_false, not_or]
      exact ⟨(h.1.m hj'.1).symm, h.1.2.2 j 0 hj'.1 (by decide) hj'.2⟩
    · rw [u2.I nm, hI_same]; rfl
    · rw [u2.I nm, hI_k (by decide)]; exact a2'
    · have r := a4 (aH A - 1) (by omega)
      have r' : RowF (hI U (g 0)) (aHs A (aH A - 1)) := by
        refine r.cong (hw.2.1.2 _ (by omega)).1.2.2.1 (fun k hk => ?_)
        rw [u3 k hk, hI_a n2.symm]
      exact r'
    · intro j hj
      simp only [e 2 (by decide) (by decide)]
      exact a4 j (by have : j < aH A - 1 := hj; omega)
    · intro j hj
      simp only [e 3 (by decide) (by decide), e 4 (by decide) (by decide)]
      exact a5 j hj
    · intro k hk
      rw [e 6 (by decide) (by decide)]
      exact a6 k hk
end
