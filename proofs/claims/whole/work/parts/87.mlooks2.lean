/-- all that the model writes -/
def MLx (m : Nat) (g : Nat → Nat) : List Nat := g 18 :: MLs m g
/-- as MRes, of a look that may lay the board aside -/
def MRex (S : Hp) (m : Nat) (g : Nat → Nat) (A : Ab) (c b : Int32) (run : Option (Int32 × Hp)) : Prop := ∃ T, run = some (b, T) ∧ Fr (MLx m g) S T ∧ MX T m g A ∧ hI T m 7 = c
theorem MRes.x {S : Hp} {m : Nat} {g : Nat → Nat} {A : Ab} {c b : Int32} {run : Option (Int32 × Hp)} (h : MRes S m g A c b run) : MRex S m g A c b run := by
  obtain ⟨T, t1, t2, t3⟩ := h
  exact ⟨T, t1, t2.mono (fun a ha => List.mem_cons_of_mem _ ha), t3⟩
def MSteq (S : Hp) (m : Nat) (g : Nat → Nat) (A : Ab) (T : Hp) : Prop := Fr (MLx m g) S T ∧ MX T m g A ∧ hI T m 7 = hI S m 7
theorem MStep.q {S T : Hp} {m : Nat} {g : Nat → Nat} {A : Ab} (h : MStep S m g A T) : MSteq S m g A T := ⟨h.1.mono (fun a ha => List.mem_cons_of_mem _ ha), h.2⟩
theorem MSteq.tr {S T U : Hp} {m : Nat} {g : Nat → Nat} {A B : Ab} (h : MSteq S m g A T) (k : MSteq T m g B U) : MSteq S m g B U := ⟨h.1.tr k.1, k.2.1, k.2.2.trans h.2.2⟩
theorem mrex_of {S : Hp} {m : Nat} {g : Nat → Nat} {A' : Ab} {c b : Int32} {run : Option (Int32 × Hp)} (h : ∃ T, run = some (b, T) ∧ MSteq (sI S m 7 c) m g A' T) : MRex S m g A' c b run := by
  obtain ⟨T, t1, t2, t3, t4⟩ := h
  exact ⟨T, t1, (MX.f7.mono (fun a ha => List.mem_cons_of_mem _ ha)).tr t2, t3, t4.trans (hI_same _ _ _ _)⟩
section
variable {N : Nat} {S : Hp} {m : Nat} {g : Nat → Nat} {A : Ab}
theorem m_pt_l2 (h : MSh S m g) {p1 p2 : Int32} : ∀ d k q T, Fr [g 18] S T → (∀ j, j < q → hI T (g 18) j = hI S (g 0) j) → q + d = 22 → d < k → ∃ U, f_X7_playedThen_l2 N m p1 p2 k T (nI q) = (gd (ok U m 7) <| cl (f_X7_plays N U m p1 p2 ((10 : Int32))) fun r12 S12 => gd (ok S12 m 7) <| cl (f_X7_winnerNow N S12 m) fun r14 S14 => f_X7_playedThen_l44 N m p1 p2 N S14 r14 ((0 : Int32))) ∧ Fr [g 18] S U ∧ ∀ j, j < 22 → hI U (g 18) j = hI S (g 0) j := by
  have hm := h.1
  have h3 := h.2.1 18 (by decide)
  have hz := h.2.1 0 (by decide)
  have n3 : g 0 ∉ [g 18] := h.out (l := [18]) (by decide) (by decide)
  intro d
  induction d with
  | zero =>
    intro k q T f b1 hq hk
    obtain ⟨k, rfl⟩ : ∃ u, k = u + 1 := ⟨k - 1, by omega⟩
    obtain rfl : q = 22 := by omega
    unfold f_X7_playedThen_l2 f_X7_playedThen_b2
    rw [if_pos (show (22 : Int32) ≤ nI 22 by decide)]
    exact ⟨T, rfl, f, b1⟩
  | succ d ih =>
    intro k q T f b1 hq hk
    obtain ⟨k, rfl⟩ : ∃ u, k = u + 1 := ⟨k - 1, by omega⟩
    have n4 : hN T (g 0) = 22 := by rw [f.N]; exact hz.2.2
    have n5 : hN T (g 18) = 22 := by rw [f.N]; exact h3.2.2
    unfold f_X7_playedThen_l2 f_X7_playedThen_b2
    rw [if_neg (nle_c 22 (n := 22) rfl (by omega) (by decide)), gd_pos (f.ok hm), f.R, h3.1, nn_s, hz.1, nn_s, gd_pos (f.ok hz.2.1), gd_pos (inN n4 (show q < 22 by omega) (by decide)), gd_pos (f.ok h3.2.1), gd_pos (inN n5 (show q < 22 by omega) (by decide)), bd_d, nI_clamp (by omega), nI_p1]
    refine ih k (q + 1) _ (fr_s1 f) (fun j hj => ?_) (by omega) (by omega)
    by_cases e : j = q
    · rw [e, hI_same, f.I n3]
    · rw [hI_k e]
      exact b1 j (by omega)
theorem m_pt_l44 (h : MSh S m g) {p1 p2 v : Int32} : ∀ d k q T, Fr [g 0] S T → (∀ j, j < q → hI T (g 0) j = hI S (g 18) j) → q + d = 22 → d < k → ∃ U, f_X7_playedThen_l44 N m p1 p2 k T v (nI q) = some (v, U) ∧ Fr [g 0] S U ∧ ∀ j, j < 22 → hI U (g 0) j = hI S (g 18) j := by
  have hm := h.1
  have h3 := h.2.1 18 (by decide)
  have hz := h.2.1 0 (by decide)
  have n3 : g 18 ∉ [g 0] := h.out (l := [0]) (by decide) (by decide)
  intro d
  induction d with
  | zero =>
    intro k q T f b1 hq hk
    obtain ⟨k, rfl⟩ : ∃ u, k = u + 1 := ⟨k - 1, by omega⟩
    obtain rfl : q = 22 := by omega
    unfold f_X7_playedThen_l44 f_X7_playedThen_b44
    rw [if_pos (show (22 : Int32) ≤ nI 22 by decide)]
    exact ⟨T, rfl, f, b1⟩
  | succ d ih =>
    intro k q T f b1 hq hk
    obtain ⟨k, rfl⟩ : ∃ u, k = u + 1 := ⟨k - 1, by omega⟩
    have n4 : hN T (g 0) = 22 := by rw [f.N]; exact hz.2.2
    have n5 : hN T (g 18) = 22 := by rw [f.N]; exact h3.2.2
    unfold f_X7_playedThen_l44 f_X7_playedThen_b44
    rw [if_neg (nle_c 22 (n := 22) rfl (by omega) (by decide)), gd_pos (f.ok hm), f.R, hz.1, nn_s, h3.1, nn_s, gd_pos (f.ok h3.2.1), gd_pos (inN n5 (show q < 22 by omega) (by decide)), gd_pos (f.ok hz.2.1), gd_pos (inN n4 (show q < 22 by omega) (by decide)), bd_d, nI_clamp (by omega), nI_p1]
    refine ih k (q + 1) _ (fr_s1 f) (fun j hj => ?_) (by omega) (by omega)
    by_cases e : j = q
    · rw [e, hI_same, f.I n3]
    · rw [hI_k e]
      exact b1 j (by omega)
theorem m_playedThen (h : MX S m g A) (hw : WfA A) (hB : Big N) {r1 r2 : Nat} (h1 : r1 < 4) (h2 : r2 < 4) : ∃ T, f_X7_playedThen N S m (nI r1) (nI r2) = some (nI (plB (aN A) r1 r2), T) ∧ MSteq S m g A T := by
  have hB0 := hB.1
  obtain ⟨T, t1, t2, t3⟩ := m_pt_l2 (N := N) h.1 (p1 := nI r1) (p2 := nI r2) 22 N 0 S Fr.rf (fun j hj => absurd hj (Nat.not_lt_zero _)) rfl (by omega)
  have om : m ∉ [g 18] := h.1.outm (l := [18]) (by decide)
  have o0 : g 0 ∉ [g 18] := h.1.out (l := [18]) (by decide) (by decide)
  have hT : MX T m g A := by
    have q := MX.now (B := aN A) h t2 om (fun i hi => ?_) (by unfold Zr; rw [t2.I o0]; exact h.2.2.1)
    · exact q
    · refine h.1.out (l := [18]) ?_ ?_
      · simp only [List.mem_cons, List.not_mem_nil, or_false] at hi
        rcases hi with rfl | rfl | rfl | rfl | rfl | rfl | rfl <;> decide
      · simp only [List.mem_cons, List.not_mem_nil, or_false] at hi
        rcases hi with rfl | rfl | rfl | rfl | rfl | rfl | rfl <;> decide
  obtain ⟨U, u1, u2⟩ := m_plays (N := N) hT hw hB h1 h2 (q := 10) (Nat.le_refl _)
  have hw2 : WfA (nowA A (itB r1 r2 10 (aN A)).1) := nowA_wf hw (it_wf hw.1)
  have e3 := m_wn (N := N) u2.2.1 hw2 hB
  obtain ⟨V, v1, v2, v3⟩ := m_pt_l44 (N := N) u2.2.1.1 (p1 := nI r1) (p2 := nI r2) (v := nI (plB (aN A) r1 r2)) 22 N 0 U Fr.rf (fun j hj => absurd hj (Nat.not_lt_zero _)) rfl (by omega)
  refine ⟨V, ?_, ?_⟩
  · unfold f_X7_playedThen
    rw [show (0 : Int32) = nI 0 from rfl, t1, gd_pos hT.1.1, show (10 : Int32) = nI 10 from rfl, u1, cl_s, gd_pos u2.2.1.1.1, e3, cl_s]
    exact v1
  · have o18 : g 18 ∉ MLs m g := by
      simp only [MLs, List.mem_cons, not_or]
      exact ⟨fun e => h.1.m (i := 18) (by decide) e.symm, h.1.out (l := FT) (by decide) (by decide)⟩
    have ez : Zr V (g 0) (aN A) := by
      have r : RowF (hI S (g 0)) (aN A) := h.2.2.1
      have r2 : RowF (hI V (g 0)) (aN A) := by
        refine r.cong hw.1.1.2.2.1 (fun k hk => ?_)
        rw [v3 k hk, u2.1.I o18, t3 k hk]
      exact r2
    have s3 := m_zw u2.2.1 (v2.mono z4) ez
    have s1 : MSteq S m g A T := ⟨t2.mono (fun a ha => by rw [List.mem_singleton.mp ha]; exact List.mem_cons_self), hT, by rw [t2.I om]⟩
    exact (s1.tr u2.q).tr s3.q
theorem m_line_bad1 (h : MX S m g A) (hw : WfA A) {p w : Int32} (hp : ¬ (0 ≤ p ∧ p < nI (bn (aN A)))) : MRes S m g A 1 0 (f_X7_line N S m p w) := by
  unfold f_X7_line
  rw [gd_pos h.1.1, m_isLine h hw, cl_s, if_neg hp, if_pos rfl, f_X7_line_b27, thr_no h.1.1 (by decide)]
  exact mres_bad h 1
theorem m_line_bad2 (h : MX S m g A) (hw : WfA A) {p w : Int32} (hp : 0 ≤ p ∧ p < nI (bn (aN A))) (hq : ¬ ((0 : Int32) ≤ w ∧ w ≤ 4)) : MRes S m g A 2 0 (f_X7_line N S m p w) := by
  unfold f_X7_line
  rw [gd_pos h.1.1, m_isLine h hw, cl_s, if_pos hp, if_neg (by decide), m_within, cl_s, if_neg hq, if_pos rfl, f_X7_line_b27, thr_no h.1.1 (by decide)]
  exact mres_bad h 2
theorem in0c {w n : Nat} (c : Int32) (hc : c = nI n) (hw : w ≤ n) (hn : n < 2 ^ 31) : (0 : Int32) ≤ nI w ∧ nI w ≤ c := by
  subst hc
  exact ⟨(nI_le_iff (a := 0) (by decide) (by omega)).mpr (Nat.zero_le _), (nI_le_iff (by omega) hn).mpr hw⟩
theorem m_line (h : MX S m g A) (hw : WfA A) (hB : Big N) {j w : Nat} (hj : j < bn (aN A)) (hw5 : w < 5) : MRes S m g A 0 (lkL (aN A) j w) (f_X7_line N S m (nI j) (nI w)) := by
  have hn := hw.1.1.2.2.1
  unfold f_X7_line
  rw [gd_pos h.1.1, m_isLine h hw, cl_s, if_pos (in0 hj (by omega)), if_neg (by decide), m_within, cl_s, if_pos (in0c 4 rfl (show w ≤ 4 by omega) (by decide)), if_neg (by decide), f_X7_line_b27, thr_go h.1.1]
  refine mres_of ?_
  rw [m_lineNow (h.t7 0) hw hB hj hw5, cl_s]
  exact ⟨_, rfl, MStep.rf (h.t7 0)⟩
theorem m_cell_bad1 (h : MX S m g A) (hw : WfA A) {p w : Int32} (hp : ¬ (0 ≤ p ∧ p < nI (bc (aN A)))) : MRes S m g A 1 0 (f_X7_cell N S m p w) := by
  unfold f_X7_cell
  rw [gd_pos h.1.1, m_isCell h hw, cl_s, if_neg hp, if_pos rfl, f_X7_cell_b27, thr_no h.1.1 (by decide)]
  exact mres_bad h 1
theorem m_cell_bad2 (h : MX S m g A) (hw : WfA A) {p w : Int32} (hp : 0 ≤ p ∧ p < nI (bc (aN A))) (hq : ¬ ((0 : Int32) ≤ w ∧ w ≤ 3)) : MRes S m g A 2 0 (f_X7_cell N S m p w) := by
  unfold f_X7_cell
  rw [gd_pos h.1.1, m_isCell h hw, cl_s, if_pos hp, if_neg (by decide), m_within, cl_s, if_neg hq, if_pos rfl, f_X7_cell_b27, thr_no h.1.1 (by decide)]
  exact mres_bad h 2
theorem m_cell (h : MX S m g A) (hw : WfA A) (hB : Big N) {i w : Nat} (hi : i < bc (aN A)) (hw4 : w < 4) : MRes S m g A 0 (lkC (aN A) i w) (f_X7_cell N S m (nI i) (nI w)) := by
  have hc := hw.1.c10
  unfold f_X7_cell
  rw [gd_pos h.1.1, m_isCell h hw, cl_s, if_pos (in0 hi (by omega)), if_neg (by decide), m_within, cl_s, if_pos (in0c 3 rfl (show w ≤ 3 by omega) (by decide)), if_neg (by decide), f_X7_cell_b27, thr_go h.1.1]
  refine mres_of ?_
  obtain ⟨T, t1, t2⟩ := m_cellNow (N := N) (h.t7 0) hw hB hi hw4
  rw [t1, cl_s]
  exact ⟨T, rfl, t2⟩
theorem m_reply_bad (h : MX S m g A) {p : Int32} (hp : ¬ ((0 : Int32) ≤ p ∧ p ≤ 3)) : MRes S m g A 1 0 (f_X7_reply N S m p) := by
  unfold f_X7_reply
  rw [m_isRule, cl_s, if_neg hp, if_pos rfl, f_X7_reply_b13, thr_no h.1.1 (by decide)]
  exact mres_bad h 1
theorem m_reply (h : MX S m g A) (hw : WfA A) (hB : Big N) {r : Nat} (hr : r < 4) : MRes S m g A 0 (rplB (aN A) r) (f_X7_reply N S m (nI r)) := by
  unfold f_X7_reply
  rw [m_isRule, cl_s, if_pos (in03 hr), if_neg (by decide), f_X7_reply_b13, thr_go h.1.1]
  refine mres_of ?_
  obtain ⟨T, t1, t2⟩ := m_replyBy (N := N) (h.t7 0) hw hB hr
  rw [t1, cl_s]
  exact ⟨T, rfl, t2⟩
theorem m_sv (h : MX S m g A) (hw : WfA A) (hB : Big N) {w : Nat} (hw2 : w < 2) : ∃ T, f_X7_solvedNow N S m (nI w) = some (nI (svB (aN A) w), T) ∧ MStep S m g A T := by
  obtain ⟨T, t1, t2, t3, t4⟩ := m_solvedNow (N := N) (h.mb hw.1) h.1.md hw.1 (by have := hB.1; omega) (by have := hB.1; omega) h.2.2.2.2.2.2 hw2
  exact ⟨T, t1, m_tb h t2 t3 t4⟩
theorem m_im (h : MX S m g A) (hw : WfA A) (hB : Big N) {i : Nat} (hi : i < 10) : ∃ T, f_X7_movedThen N S m (nI i) = some (imB (aN A) i, T) ∧ MStep S m g A T := by
  obtain ⟨T, t1, t2, t3, t4⟩ := m_movedThen (N := N) (h.mb hw.1) h.1.md hw.1 (by have := hB.1; omega) (by have := hB.1; omega) h.2.2.2.2.2.2 hi
  exact ⟨T, t1, m_tb h t2 t3 t4⟩
theorem m_solved_bad (h : MX S m g A) {p : Int32} (hp : ¬ ((0 : Int32) ≤ p ∧ p ≤ 1)) : MRes S m g A 1 0 (f_X7_solved N S m p) := by
  unfold f_X7_solved
  rw [m_within, cl_s, if_neg hp, if_pos rfl, f_X7_solved_b15, thr_no h.1.1 (by decide)]
  exact mres_bad h 1
theorem m_solved (h : MX S m g A) (hw : WfA A) (hB : Big N) {w : Nat} (hw2 : w < 2) : MRes S m g A 0 (nI (svB (aN A) w)) (f_X7_solved N S m (nI w)) := by
  unfold f_X7_solved
  rw [m_within, cl_s, if_pos (in01 hw2), if_neg (by decide), f_X7_solved_b15, thr_go h.1.1]
  refine mres_of ?_
  obtain ⟨T, t1, t2⟩ := m_sv (N := N) (h.t7 0) hw hB hw2
  rw [t1, cl_s]
  exact ⟨T, rfl, t2⟩
theorem m_ifMoved_bad (h : MX S m g A) (hw : WfA A) {p : Int32} (hp : ¬ (0 ≤ p ∧ p < nI (bc (aN A)))) : MRes S m g A 1 0 (f_X7_ifMoved N S m p) := by
  unfold f_X7_ifMoved
  rw [gd_pos h.1.1, m_isCell h hw, cl_s, if_neg hp, if_pos rfl, f_X7_ifMoved_b14, thr_no h.1.1 (by decide)]
  exact mres_bad h 1
theorem m_ifMoved (h : MX S m g A) (hw : WfA A) (hB : Big N) {i : Nat} (hi : i < bc (aN A)) : MRes S m g A 0 (imB (aN A) i) (f_X7_ifMoved N S m (nI i)) := by
  have hc := hw.1.c10
  unfold f_X7_ifMoved
  rw [gd_pos h.1.1, m_isCell h hw, cl_s, if_pos (in0 hi (by omega)), if_neg (by decide), f_X7_ifMoved_b14, thr_go h.1.1]
  refine mres_of ?_
  obtain ⟨T, t1, t2⟩ := m_im (N := N) (h.t7 0) hw hB (i := i) (by omega)
  rw [t1, cl_s]
  exact ⟨T, rfl, t2⟩
theorem m_ifPlayed_bad (h : MX S m g A) {p1 p2 : Int32} (hp : ¬ (((0 : Int32) ≤ p1 ∧ p1 ≤ 3) ∧ (0 : Int32) ≤ p2 ∧ p2 ≤ 3)) : MRes S m g A 1 0 (f_X7_ifPlayed N S m p1 p2) := by
  have eb : f_X7_ifPlayed_b19 N m p1 p2 S m = some (0, sI S m 7 1) := by
    unfold f_X7_ifPlayed_b19 f_X7_ifPlayed_b20
    exact thr_no h.1.1 (by decide)
  unfold f_X7_ifPlayed
  rw [m_isRule, cl_s]
  by_cases h1 : (0 : Int32) ≤ p1 ∧ p1 ≤ 3
  · rw [if_pos h1, if_neg (by decide), m_isRule, cl_s, if_neg (fun h2 => hp ⟨h1, h2⟩), if_pos rfl, eb]
    exact mres_bad h 1
  · rw [if_neg h1, if_pos rfl, eb]
    exact mres_bad h 1
theorem m_ifPlayed (h : MX S m g A) (hw : WfA A) (hB : Big N) {r1 r2 : Nat} (h1 : r1 < 4) (h2 : r2 < 4) : MRex S m g A 0 (nI (plB (aN A) r1 r2)) (f_X7_ifPlayed N S m (nI r1) (nI r2)) := by
  unfold f_X7_ifPlayed
  rw [m_isRule, cl_s, if_pos (in03 h1), if_neg (by decide), m_isRule, cl_s, if_pos (in03 h2), if_neg (by decide), f_X7_ifPlayed_b20, thr_go h.1.1]
  refine mrex_of ?_
  obtain ⟨T, t1, t2⟩ := m_playedThen (N := N) (h.t7 0) hw hB h1 h2
  rw [t1, cl_s]
  exact ⟨T, rfl, t2⟩
theorem m_count_bad (h : MX S m g A) {p : Int32} (hp : ¬ ((0 : Int32) ≤ p ∧ p ≤ 15)) : MRes S m g A 1 0 (f_X7_count N S m p) := by
  unfold f_X7_count
  rw [m_within, cl_s, if_neg hp, if_pos rfl, f_X7_count_b16, thr_no h.1.1 (by decide)]
  exact mres_bad h 1
theorem m_count (h : MX S m g A) (hw : WfA A) (hB : Big N) {w : Nat} (hw16 : w < 16) : MRes S m g A 0 (ctA A w) (f_X7_count N S m (nI w)) := by
  unfold f_X7_count
  rw [m_within, cl_s, if_pos (in0c 15 rfl (show w ≤ 15 by omega) (by decide)), if_neg (by decide), f_X7_count_b16, thr_go h.1.1]
  refine mres_of ?_
  obtain ⟨T, t1, t2⟩ := m_counted (N := N) (h.t7 0) hw hB w hw16
  rw [t1, cl_s]
  exact ⟨T, rfl, t2⟩
end
