section
variable {N : Nat} {S : Hp} {m : Nat} {g : Nat → Nat} {A : Ab}
theorem nI_le0 {n : Nat} (h : n < 2 ^ 31) : nI n ≤ 0 ↔ n = 0 := by
  rw [show (0 : Int32) = nI 0 from rfl, nI_le_iff h (by decide)]
  omega
theorem m_append_bad1 (h : MX S m g A) {p : Int32} (hp : ¬ ((33 : Int32) ≤ p ∧ p ≤ 126)) : MRes S m g A 1 0 (f_X7_append N S m p) := by
  unfold f_X7_append
  rw [m_within, cl_s, if_neg hp, if_pos rfl, f_X7_append_b30, thr_no h.1.1 (by decide)]
  exact mres_bad h 1
theorem m_append_bad2 (h : MX S m g A) {p : Int32} (hp : (33 : Int32) ≤ p ∧ p ≤ 126) (hl : aL A = 60) : MRes S m g A 2 0 (f_X7_append N S m p) := by
  unfold f_X7_append
  rw [m_within, cl_s, if_pos hp, if_neg (by decide), gd_pos h.1.1, h.2.1.2, if_pos (by rw [hl]; rfl), f_X7_append_b30, thr_no h.1.1 (by decide)]
  exact mres_bad h 2
theorem m_append (h : MX S m g A) {c : Nat} (hp : (33 : Int32) ≤ nI c ∧ nI c ≤ 126) (hl : aL A < 60) : MRes S m g (appA A c) 0 (nI (aL A + 1)) (f_X7_append N S m (nI c)) := by
  have h6 := h.1.2.1 6 (by decide)
  have n6 : m ≠ g 6 := h.1.m (by decide)
  unfold f_X7_append
  rw [m_within, cl_s, if_pos hp, if_neg (by decide), gd_pos h.1.1, h.2.1.2, if_neg (fun q : nI (aL A) = 60 => absurd ((eq_c 60 (n := 60) rfl (by omega) (by decide)).mp q) (by omega)), f_X7_append_b30, thr_go h.1.1]
  refine mres_of ?_
  have e5 : hI (sI S m 7 0) m 5 = nI (aL A) := by rw [hI_k (by decide)]; exact h.2.1.2
  rw [hR_sI, h6.1, nn_s, gd_pos (ok_sI h6.2.1), e5, hN_sI, gd_pos (inN h6.2.2 (show aL A < 60 by exact hl) (by decide)), bd_d, nI_clamp (by omega), hI_same, hI_a n6, e5, nI_p1]
  have e : ∀ i, i ∈ FS → i ≠ 6 → hI (sI (sI (sI S m 7 0) (g 6) (aL A) (nI c)) m 5 (nI (aL A + 1))) (g i) = hI S (g i) := by
    intro i hi h6'
    rw [hI_a (h.1.m hi).symm, hI_a (h.1.2.2 i 6 hi (by decide) h6'), hI_a (h.1.m hi).symm]
  have em : ∀ k, k ≠ 5 → k ≠ 7 → hI (sI (sI (sI S m 7 0) (g 6) (aL A) (nI c)) m 5 (nI (aL A + 1))) m k = hI S m k := by
    intro k h1 h2
    rw [hI_k h1, hI_a n6, hI_k h2]
  have f : Fr [m, g 6] S (sI (sI (sI S m 7 0) (g 6) (aL A) (nI c)) m 5 (nI (aL A + 1))) := ((Fr.rf.sI (E := [m, g 6]) (k := 7) (v := 0) (by simp)).sI (k := aL A) (v := nI c) (by simp)).sI (k := 5) (v := nI (aL A + 1)) (by simp)
  have f2 : Fr [m, g 6] (sI S m 7 0) (sI (sI (sI S m 7 0) (g 6) (aL A) (nI c)) m 5 (nI (aL A + 1))) := (Fr.rf.sI (E := [m, g 6]) (k := aL A) (v := nI c) (by simp)).sI (k := 5) (v := nI (aL A + 1)) (by simp)
  refine ⟨_, rfl, f2.mono (fun a ha => ?_), ?_, ?_⟩
  · simp only [List.mem_cons, List.not_mem_nil, or_false] at ha
    rcases ha with rfl | rfl
    · exact mls_m
    · exact mls_g (by decide)
  · have hh := h
    obtain ⟨a1, ⟨a2, a2'⟩, a3, a4, a5, a6, a7⟩ := h
    refine hh.of f (em 11 (by decide) (by decide)) (em 12 (by decide) (by decide)) (fun i hi => ?_) ?_ ?_ ?_ ?_ ?_ ?_
    · have hi' : i ∈ FS ∧ i ≠ 6 := by
        simp only [List.mem_cons, List.not_mem_nil, or_false] at hi
        rcases hi with rfl | rfl | rfl <;> decide
      simp only [List.mem_cons, List.not_mem_nil, or_false, not_or]
      exact ⟨fun e => a1.m hi'.1 e.symm, a1.2.2 i 6 hi'.1 (by decide) hi'.2⟩
    · rw [em 1 (by decide) (by decide)]; exact a2
    · exact hI_same _ _ _ _
    · unfold Zr
      rw [e 0 (by decide) (by decide)]
      exact a3
    · intro j hj
      simp only [e 2 (by decide) (by decide)]
      exact a4 j hj
    · intro i hi
      simp only [e 3 (by decide) (by decide), e 4 (by decide) (by decide)]
      exact a5 i hi
    · intro k hk
      have hk' : k < aL A + 1 := hk
      rw [hI_a n6.symm]
      show _ = nI (if k = aL A then c else aT A k)
      by_cases q : k = aL A
      · rw [if_pos q, q, hI_same]
      · rw [if_neg q, hI_k q, hI_a n6.symm]
        exact a6 k (by omega)
  · rw [hI_k (by decide), hI_a n6, hI_same]
theorem m_clearBuffer (h : MX S m g A) : MRes S m g (clbA A) 0 (nI (aL A)) (f_X7_clearBuffer N S m) := by
  unfold f_X7_clearBuffer
  have e5 : hI (sI S m 7 0) m 5 = nI (aL A) := by rw [hI_k (by decide)]; exact h.2.1.2
  rw [gd_pos h.1.1, bd_d, e5]
  have h7 := h.t7 0
  have f2 : Fr [m] (sI S m 7 0) (sI (sI S m 7 0) m 5 0) := fr_s1 Fr.rf
  have e : ∀ i, i ∈ FS → hI (sI (sI S m 7 0) m 5 0) (g i) = hI (sI S m 7 0) (g i) := fun i hi => hI_a (h.1.m hi).symm
  refine mres_of ⟨_, rfl, f2.mono (fun a ha => ?_), ?_, hI_k (by decide)⟩
  · simp only [List.mem_cons, List.not_mem_nil, or_false] at ha
    rw [ha]
    exact mls_m
  · have hh := h7
    obtain ⟨a1, ⟨a2, a2'⟩, a3, a4, a5, a6, a7⟩ := h7
    refine hh.of f2 (hI_k (by decide)) (hI_k (by decide)) (fun i hi => ?_) ?_ ?_ ?_ ?_ ?_ ?_
    · have hi' : i ∈ FS := by
        simp only [List.mem_cons, List.not_mem_nil, or_false] at hi
        rcases hi with rfl | rfl | rfl <;> decide
      simp only [List.mem_cons, List.not_mem_nil, or_false]
      exact fun e => a1.m hi' e.symm
    · rw [hI_k (by decide)]; exact a2
    · exact hI_same _ _ _ _
    · unfold Zr
      rw [e 0 (by decide)]
      exact a3
    · intro j hj
      simp only [e 2 (by decide)]
      exact a4 j hj
    · intro i hi
      simp only [e 3 (by decide), e 4 (by decide)]
      exact a5 i hi
    · intro k hk
      exact absurd hk (Nat.not_lt_zero _)
theorem m_take_l (h : MSh S m g) {i : Nat} (hi : i < 2) {n : Nat} (h2 : hI S (g 0) 2 = nI n) : ∀ d k q T, Fr [g 3] S T → (∀ j, j < q → hI T (g 3) (22 * i + j) = hI S (g 0) j) → (∀ j, j < 22 * i ∨ 22 * i + q ≤ j → hI T (g 3) j = hI S (g 3) j) → q + d = 22 → d < k → ∃ U, f_X7_take_l34 N m (nI i) k T (nI q) = some (nI n, U) ∧ Fr [g 3] S U ∧ (∀ j, j < 22 → hI U (g 3) (22 * i + j) = hI S (g 0) j) ∧ ∀ j, j < 22 * i ∨ 22 * i + 22 ≤ j → hI U (g 3) j = hI S (g 3) j := by
  have hm := h.1
  have h3 := h.2.1 3 (by decide)
  have hz := h.2.1 0 (by decide)
  have n0 : g 0 ∉ [g 3] := h.out (l := [3]) (by decide) (by decide)
  intro d
  induction d with
  | zero =>
    intro k q T f b1 b2 hq hk
    obtain ⟨k, rfl⟩ : ∃ u, k = u + 1 := ⟨k - 1, by omega⟩
    obtain rfl : q = 22 := by omega
    have n4 : hN T (g 0) = 22 := by rw [f.N]; exact hz.2.2
    unfold f_X7_take_l34 f_X7_take_b34
    rw [if_pos (show (22 : Int32) ≤ nI 22 by decide), gd_pos (f.ok hm), f.R, hz.1, nn_s, gd_pos (f.ok hz.2.1), gd_pos (zin n4 (i := (2 : Int32)) (k := 2) rfl (by decide)), tn2, f.I n0, h2]
    exact ⟨T, rfl, f, b1, b2⟩
  | succ d ih =>
    intro k q T f b1 b2 hq hk
    obtain ⟨k, rfl⟩ : ∃ u, k = u + 1 := ⟨k - 1, by omega⟩
    have n4 : hN T (g 0) = 22 := by rw [f.N]; exact hz.2.2
    have n5 : hN T (g 3) = 44 := by rw [f.N]; exact h3.2.2
    unfold f_X7_take_l34 f_X7_take_b34
    rw [if_neg (nle_c 22 (n := 22) rfl (by omega) (by decide)), gd_pos (f.ok hm), f.R, h3.1, nn_s, hz.1, nn_s, gd_pos (f.ok hz.2.1), gd_pos (inN n4 (show q < 22 by omega) (by decide)), gd_pos (f.ok h3.2.1), i22, gd_pos (inN n5 (show 22 * i + q < 44 by omega) (by decide)), bd_d, nI_clamp (by omega), nI_clamp (by omega), nI_p1]
    refine ih k (q + 1) _ (fr_s1 f) (fun j hj => ?_) (fun j hj => ?_) (by omega) (by omega)
    · by_cases e : j = q
      · rw [e, hI_same, f.I n0]
      · rw [hI_k (by omega)]
        exact b1 j (by omega)
    · rw [hI_k (by omega)]
      exact b2 j (by omega)
theorem m_take_bad (h : MX S m g A) {p : Int32} (hp : ¬ (0 ≤ p ∧ p ≤ 1)) : MRes S m g A 1 0 (f_X7_take N S m p) := by
  unfold f_X7_take
  rw [m_isSnap, cl_s, if_neg hp, if_pos rfl, f_X7_take_b13, thr_no h.1.1 (by decide)]
  exact mres_bad h 1
theorem in01 {i : Nat} (hi : i < 2) : (0 : Int32) ≤ nI i ∧ nI i ≤ 1 := ⟨(nI_le_iff (a := 0) (by decide) (by omega)).mpr (Nat.zero_le _), (nI_le_iff (b := 1) (by omega) (by decide)).mpr (by omega)⟩
theorem m_take (h : MX S m g A) (hw : WfA A) (hB : Big N) {i : Nat} (hi : i < 2) : MRes S m g (takA A i) 0 (nI (bn (aN A))) (f_X7_take N S m (nI i)) := by
  have h7 := h.t7 0
  have h4 := h7.1.2.1 4 (by decide)
  have n43 : g 4 ≠ g 3 := h.1.2.2 4 3 (by decide) (by decide) (by decide)
  have n04 : g 0 ≠ g 4 := h.1.2.2 0 4 (by decide) (by decide) (by decide)
  unfold f_X7_take
  rw [m_isSnap, cl_s, if_pos (in01 hi), if_neg (by decide), f_X7_take_b13, thr_go h.1.1]
  refine mres_of ?_
  have f1 : Fr [g 4] (sI S m 7 0) (sI (sI S m 7 0) (g 4) i 1) := fr_s1 Fr.rf
  obtain ⟨U, u1, u2, u3, u4⟩ := m_take_l (N := N) (h7.1.fr f1) hi (n := bn (aN A)) (by rw [hI_a n04]; exact h7.2.2.1.1.2.2.1) 22 N 0 _ Fr.rf (fun j hj => absurd hj (Nat.not_lt_zero _)) (fun _ _ => rfl) rfl (by have := hB.1; omega)
  rw [h4.1, nn_s, gd_pos h4.2.1, gd_pos (inN h4.2.2 (show i < 2 from hi) (by decide)), bd_d, nI_clamp (by omega)]
  have f : Fr [g 4, g 3] (sI S m 7 0) U := (f1.mono (by simp)).tr (u2.mono (by simp))
  have om : m ∉ [g 4, g 3] := h.1.outm (l := [4, 3]) (by decide)
  have e : ∀ j, j ∈ [0, 2, 6] → hI U (g j) = hI (sI S m 7 0) (g j) := by
    intro j hj
    refine f.I (h.1.out (l := [4, 3]) ?_ ?_)
    · simp only [List.mem_cons, List.not_mem_nil, or_false] at hj
      rcases hj with rfl | rfl | rfl <;> decide
    · simp only [List.mem_cons, List.not_mem_nil, or_false] at hj
      rcases hj with rfl | rfl | rfl <;> decide
  refine ⟨U, u1, f.mono (fun a ha => ?_), ?_, by rw [f.I om]⟩
  · simp only [List.mem_cons, List.not_mem_nil, or_false] at ha
    rcases ha with rfl | rfl <;> exact mls_g (by decide)
  · have hh := h7
    obtain ⟨a1, ⟨a2, a2'⟩, a3, a4, a5, a6, a7⟩ := h7
    refine hh.of f (by rw [f.I om]) (by rw [f.I om]) (fun j hj => ?_) ?_ ?_ ?_ ?_ ?_ ?_
    · refine h.1.out (l := [4, 3]) ?_ ?_
      · simp only [List.mem_cons, List.not_mem_nil, or_false] at hj
        rcases hj with rfl | rfl | rfl <;> decide
      · simp only [List.mem_cons, List.not_mem_nil, or_false] at hj
        rcases hj with rfl | rfl | rfl <;> decide
    · rw [f.I om]; exact a2
    · rw [f.I om]; exact a2'
    · unfold Zr
      rw [e 0 (by decide)]
      exact a3
    · intro j hj
      simp only [e 2 (by decide)]
      exact a4 j hj
    · intro j hj
      have e4 : hI U (g 4) j = if j = i then 1 else hI (sI S m 7 0) (g 4) j := by
        rw [u2.I (n1 n43), hI_sI]
        simp
      rw [e4]
      show (if j = i then (1 : Int32) else hI (sI S m 7 0) (g 4) j) = (if (if j = i then some (aN A) else aS A j).isSome = true then (1 : Int32) else 0) ∧ ∀ B, (if j = i then some (aN A) else aS A j) = some B → RowF (fun k => hI U (g 3) (22 * j + k)) B
      by_cases q : j = i
      · simp only [if_pos q]
        refine ⟨rfl, fun B hB' => ?_⟩
        cases hB'
        have a3' : RowF (hI (sI S m 7 0) (g 0)) (aN A) := a3
        refine a3'.cong hw.1.1.2.2.1 (fun k hk => ?_)
        rw [q, u3 k hk, hI_a n04]
      · simp only [if_neg q]
        refine ⟨(a5 j hj).1, fun B hB' => ?_⟩
        refine ((a5 j hj).2 B hB').cong (hw.2.2.1 j B hB').1.2.2.1 (fun k hk => ?_)
        rw [u4 _ (by omega), hI_a n43.symm]
    · intro k hk
      rw [e 6 (by decide)]
      exact a6 k hk
end
