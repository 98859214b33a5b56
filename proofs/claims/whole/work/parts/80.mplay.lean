def FT : List Nat := [0, 2, 3, 4, 6, 8, 9, 10, 13, 14, 15, 16]
/-- all that the model writes, but the kept board of a look ahead -/
def MLs (m : Nat) (g : Nat → Nat) : List Nat := m :: FT.map g
/-- a stretch of the model's own run: it ends with A -/
def MStep (S : Hp) (m : Nat) (g : Nat → Nat) (A : Ab) (T : Hp) : Prop := Fr (MLs m g) S T ∧ MX T m g A ∧ hI T m 7 = hI S m 7
theorem MStep.rf {S : Hp} {m : Nat} {g : Nat → Nat} {A : Ab} (h : MX S m g A) : MStep S m g A S := ⟨Fr.rf, h, rfl⟩
theorem MStep.tr {S T U : Hp} {m : Nat} {g : Nat → Nat} {A B : Ab} (h : MStep S m g A T) (k : MStep T m g B U) : MStep S m g B U := ⟨h.1.tr k.1, k.2.1, k.2.2.trans h.2.2⟩
theorem mls_g {m i : Nat} {g : Nat → Nat} (hi : i ∈ FT) : g i ∈ MLs m g := List.mem_cons_of_mem _ (List.mem_map.mpr ⟨i, hi, rfl⟩)
theorem mls_m {m : Nat} {g : Nat → Nat} : m ∈ MLs m g := List.mem_cons_self
section
variable {N : Nat} {S : Hp} {m : Nat} {g : Nat → Nat} {A : Ab}
theorem m_pr (h : MX S m g A) {T : Hp} (f : Fr [g 8, g 9, g 10] S T) : MStep S m g A T := by
  have o0 : g 0 ∉ [g 8, g 9, g 10] := h.1.out (l := [8, 9, 10]) (by decide) (by decide)
  have om : m ∉ [g 8, g 9, g 10] := h.1.outm (l := [8, 9, 10]) (by decide)
  refine ⟨f.mono (fun a ha => ?_), ?_, by rw [f.I om]⟩
  · simp only [List.mem_cons, List.not_mem_nil, or_false] at ha
    rcases ha with rfl | rfl | rfl <;> exact mls_g (by decide)
  · have q := MX.now (B := aN A) h f om (fun i hi => ?_) (by unfold Zr; rw [f.I o0]; exact h.2.2.1)
    · exact q
    · refine h.1.out (l := [8, 9, 10]) ?_ ?_
      · simp only [List.mem_cons, List.not_mem_nil, or_false] at hi
        rcases hi with rfl | rfl | rfl | rfl | rfl | rfl | rfl <;> decide
      · simp only [List.mem_cons, List.not_mem_nil, or_false] at hi
        rcases hi with rfl | rfl | rfl | rfl | rfl | rfl | rfl <;> decide
theorem m_zw (h : MX S m g A) {B : Bd} {T : Hp} (f : Fr [g 0, g 8, g 9, g 10] S T) (hz : Zr T (g 0) B) : MStep S m g (nowA A B) T := by
  have om : m ∉ [g 0, g 8, g 9, g 10] := h.1.outm (l := [0, 8, 9, 10]) (by decide)
  refine ⟨f.mono (fun a ha => ?_), ?_, by rw [f.I om]⟩
  · simp only [List.mem_cons, List.not_mem_nil, or_false] at ha
    rcases ha with rfl | rfl | rfl | rfl <;> exact mls_g (by decide)
  · refine MX.now h f om (fun i hi => ?_) hz
    refine h.1.out (l := [0, 8, 9, 10]) ?_ ?_
    · simp only [List.mem_cons, List.not_mem_nil, or_false] at hi
      rcases hi with rfl | rfl | rfl | rfl | rfl | rfl | rfl <;> decide
    · simp only [List.mem_cons, List.not_mem_nil, or_false] at hi
      rcases hi with rfl | rfl | rfl | rfl | rfl | rfl | rfl <;> decide
theorem m_tb (h : MX S m g A) {T : Hp} (f : Fr [m, g 13, g 14, g 15] S T) (hm : ∀ k, k ≠ 11 → k ≠ 12 → hI T m k = hI S m k) (ht : TabS T m (g 13) (g 14) (g 15)) : MStep S m g A T := by
  refine ⟨f.mono (fun a ha => ?_), h.tab f hm ht, hm 7 (by decide) (by decide)⟩
  simp only [List.mem_cons, List.not_mem_nil, or_false] at ha
  rcases ha with rfl | rfl | rfl | rfl
  · exact mls_m
  all_goals exact mls_g (by decide)
theorem m_moves2 (h : MX S m g A) (hw : WfA A) (hB : Big N) {i : Nat} (hf : (bfre (aN A)).testBit i = true) : ∃ T, f_X7_moves N S m (nI i) = some ((), T) ∧ MStep S m g (nowA A (occB (aN A) i (parB (aN A) i))) T := by
  obtain ⟨T, t1, t2, t3⟩ := m_moves (N := N) h.zm hw.1 h.1.ps h.1.pd (by have := hB.1; omega) hB.2 (hB.tt hw.1.1.2.2.1) hf
  exact ⟨T, t1, m_zw h t2 t3.2⟩
theorem bth_low {B : Bd} (hw : Wf B) : lowI (bth B) = -1 ∨ ∃ i, i < 10 ∧ lowI (bth B) = nI i := by
  by_cases g : bth B = 0
  · exact Or.inl (by rw [g]; rfl)
  · obtain ⟨i, h1, h2, -⟩ := lowI_free (bth_lt hw) g
    exact Or.inr ⟨i, h1, h2⟩
def rplB (B : Bd) (r : Nat) : Int32 := if bwin B = 0 then rpB B r else -1
theorem m_replyBy (h : MX S m g A) (hw : WfA A) (hB : Big N) {r : Nat} (hr : r < 4) : ∃ T, f_X7_replyBy N S m (nI r) = some (rplB (aN A) r, T) ∧ MStep S m g A T := by
  have hN0 : 12 < N := by have := hB.1; omega
  have hz := h.zm.mz hw.1
  have e1 := m_winnerNow (N := N) hz hN0
  have e2 := m_free (N := N) hz
  have e3 := m_lowest (N := N) (S := S) (m := m) (by omega) (fre_lt (mk := bk (aN A)) (br := bb (aN A)) hw.1.c10)
  have e4 := m_forced (N := N) hz hN0
  have e5 := m_byDanger (N := N) hz hw.1 hN0
  have hm := h.1.1
  have wl := winP_le (bM (aN A)) (bn (aN A)) (bk (aN A)) (bb (aN A))
  unfold f_X7_replyBy
  rw [gd_pos hm, e1, cl_s]
  show ∃ T, (if nI (bwin (aN A)) ≤ 0 then _ else _) = _ ∧ _
  by_cases g0 : bwin (aN A) = 0
  · rw [if_pos (by rw [g0]; decide)]
    have eb : f_X7_replyBy_b56 N m (nI r) S = some ((if lowI (bth (aN A)) = -1 then opI (mdS (aN A) 10) else lowI (bth (aN A))), S) := by
      have e4' : f_X7_forced N S m = some (lowI (bth (aN A)), S) := by
        rw [e4]
        show some ((if bwin (aN A) = 0 then lowI (bth (aN A)) else -1), S) = _
        rw [if_pos g0]
      unfold f_X7_replyBy_b56
      rw [gd_pos hm, e4', cl_s]
      by_cases q : lowI (bth (aN A)) = -1
      · rw [if_pos q, if_pos q, gd_pos hm, e5, cl_s]
      · rw [if_neg q, if_neg q, gd_pos hm, e4', cl_s]
    unfold rplB
    rw [if_pos g0]
    unfold rpB
    by_cases r0 : r = 0
    · rw [if_pos (by rw [r0]; rfl), gd_pos hm, e2, cl_s, gd_pos hm, e3, cl_s, if_pos r0]
      exact ⟨S, rfl, MStep.rf h⟩
    · rw [if_neg (fun q => r0 ((nI_eq0 (by omega)).mp q)), if_neg r0]
      by_cases r3 : r = 3
      · obtain ⟨T, t1, t2, t3, t4⟩ := m_bestMove (N := N) (h.mb hw.1) h.1.md hw.1 hN0 (by have := hB.1; omega) h.2.2.2.2.2.2
        rw [if_pos (by rw [r3]; rfl), if_pos r3, gd_pos hm, t1, cl_s]
        exact ⟨T, rfl, m_tb h t2 t3 t4⟩
      · rw [if_neg (fun q : nI r = (3 : Int32) => r3 ((nI_eq_iff (b := 3) (by omega) (by decide)).mp q)), if_neg r3]
        by_cases r2 : r = 2
        · rw [if_pos (by rw [r2]; rfl), gd_pos hm, h.zm.1.2.1, nn_s, gd_pos h.zm.1.2.2.1, gd_pos (zin h.zm.1.2.2.2 (i := (6 : Int32)) (k := 6) rfl (by decide)), tn6, h.2.2.1.1.2.2.2.2.2.2.1]
          by_cases q : bp (aN A) = -1
          · rw [if_pos q, if_neg (fun w => w.2 q), eb]
            exact ⟨S, rfl, MStep.rf h⟩
          · rw [if_neg q, if_pos ⟨r2, q⟩]
            exact ⟨S, rfl, MStep.rf h⟩
        · rw [if_neg (fun q : nI r = (2 : Int32) => r2 ((nI_eq2 (by omega)).mp q)), if_neg (fun w => r2 w.1), eb]
          exact ⟨S, rfl, MStep.rf h⟩
  · have wl' : bwin (aN A) ≤ 2 := wl
    rw [if_neg (nI_nle (by omega) (by omega))]
    unfold rplB
    rw [if_neg g0]
    exact ⟨S, rfl, MStep.rf h⟩
theorem m_plays_l (hB : Big N) {r1 r2 q : Nat} (h1 : r1 < 4) (h2 : r2 < 4) (hq : q ≤ 10) : ∀ d k j S A, MX S m g A → WfA A → j + d = q → d < k → ∃ T, f_X7_plays_l3 N m (nI r1) (nI r2) (nI q) k S (nI j) = some (nI (j + (itB r1 r2 d (aN A)).2), T) ∧ MStep S m g (nowA A (itB r1 r2 d (aN A)).1) T := by
  intro d
  induction d with
  | zero =>
    intro k j S A h hw hj hk
    obtain ⟨k, rfl⟩ : ∃ u, k = u + 1 := ⟨k - 1, by omega⟩
    unfold f_X7_plays_l3 f_X7_plays_b3
    rw [if_pos (by rw [show j = q by omega]; exact Int32.le_refl _)]
    exact ⟨S, rfl, MStep.rf h⟩
  | succ d ih =>
    intro k j S A h hw hj hk
    obtain ⟨k, rfl⟩ : ∃ u, k = u + 1 := ⟨k - 1, by omega⟩
    have hN0 : 12 < N := by have := hB.1; omega
    have e1 := m_winnerNow (N := N) (h.zm.mz hw.1) hN0
    have hm := h.1.1
    have wl := winP_le (bM (aN A)) (bn (aN A)) (bk (aN A)) (bb (aN A))
    unfold f_X7_plays_l3 f_X7_plays_b3
    rw [if_neg (nle_i (by omega) (by omega)), gd_pos hm, e1, cl_s]
    show ∃ T, (if nI (bwin (aN A)) = 0 then _ else _) = _ ∧ _
    by_cases g0 : bwin (aN A) = 0
    · rw [if_pos (by rw [g0]; rfl), gd_pos hm, h.zm.1.2.1, nn_s, gd_pos h.zm.1.2.2.1, gd_pos (zin h.zm.1.2.2.2 (i := (1 : Int32)) (k := 1) rfl (by decide)), tn1, h.2.2.1.1.2.1]
      have key : ∀ r, r < 4 → (if bv (aN A) = 1 then r1 else r2) = r → ∃ T, f_X7_plays_b33 N m (nI r1) (nI r2) (nI q) (f_X7_plays_l3 N m (nI r1) (nI r2) (nI q) k) S (nI j) (nI r) m m = some (nI (j + (itB r1 r2 (d + 1) (aN A)).2), T) ∧ MStep S m g (nowA A (itB r1 r2 (d + 1) (aN A)).1) T := by
        intro r hr er
        obtain ⟨T, t1, t2⟩ := m_replyBy h hw hB hr
        obtain ⟨i, p1, p2⟩ := rp_free hw.1 g0 r
        obtain ⟨U, u1, u2⟩ := m_moves2 t2.2.1 hw hB p2
        have es : stpB (aN A) r1 r2 = occB (aN A) i (parB (aN A) i) := by
          unfold stpB
          rw [er, p1, nI_clamp (by have := fr_lt hw.1.c10 p2; have := hw.1.c10; omega)]
        obtain ⟨V, v1, v2⟩ := ih k (j + 1) U _ u2.2.1 (nowA_wf hw (es ▸ stp_wf hw.1 g0 r1 r2)) (by omega) (by omega)
        have e9 : (itB r1 r2 (d + 1) (aN A)) = ((itB r1 r2 d (stpB (aN A) r1 r2)).1, (itB r1 r2 d (stpB (aN A) r1 r2)).2 + 1) := by
          rw [itB, if_pos g0]
        unfold f_X7_plays_b33
        unfold rplB at t1
        rw [if_pos g0, p1] at t1
        rw [gd_pos hm, t1, cl_s, gd_pos t2.2.1.1.1, u1, cl_s, nI_p1, v1, e9, es]
        refine ⟨V, ?_, (t2.tr u2).tr v2⟩
        show some (nI (j + 1 + _), V) = some (nI (j + (_ + 1)), V)
        rw [show ∀ x, j + 1 + x = j + (x + 1) from fun x => by omega]
        rfl
      rcases hw.1.2.2.1 with v | v
      · rw [if_pos (by rw [v]; rfl)]
        exact key r1 h1 (if_pos v)
      · rw [if_neg (by rw [v]; decide)]
        exact key r2 h2 (if_neg (by rw [v]; decide))
    · rw [if_neg (fun w => g0 ((nI_eq0 (by have : bwin (aN A) ≤ 2 := wl; omega)).mp w))]
      rw [itB, if_neg g0]
      exact ⟨S, rfl, MStep.rf h⟩
theorem m_plays (h : MX S m g A) (hw : WfA A) (hB : Big N) {r1 r2 q : Nat} (h1 : r1 < 4) (h2 : r2 < 4) (hq : q ≤ 10) : ∃ T, f_X7_plays N S m (nI r1) (nI r2) (nI q) = some (nI (itB r1 r2 q (aN A)).2, T) ∧ MStep S m g (nowA A (itB r1 r2 q (aN A)).1) T := by
  obtain ⟨T, t1, t2⟩ := m_plays_l hB h1 h2 hq q N 0 S A h hw (by omega) (by have := hB.1; omega)
  rw [Nat.zero_add] at t1
  exact ⟨T, t1, t2⟩
end
