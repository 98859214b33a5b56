section
variable {S : Hp} {x mm o z k : Nat} {d g : Nat → Nat} {q : Nat → Option (Nat × Nat × Nat)} {A : Ab} {nb N : Nat}
theorem ls_begin (hB : Big N) (ib : IB S x mm o d q g A nb) (hn : nb + 100 * (k + 1) ≤ 60000) (hz : ∀ a, a ∈ hL S → a < z) (p1 : Int32) : LwH (II k) N x mm o (f_L_begin N S z x p1 o) (fun T => f_X7_begin N T mm p1) := by
  have hB0 := hB.1
  obtain ⟨h1, h2, h3, h4, -⟩ := id ib
  by_cases hp : (2 : Int32) ≤ p1 ∧ p1 ≤ 10
  · obtain ⟨n, rfl, n2, n10⟩ := i_rng (a := 2) (b := 10) rfl rfl (by decide) (by decide) hp.1 hp.2
    exact lw_goodA ib (x_begin h1 h2 h4 (by omega) hz n2 n10) (nowA_wf (svA_wf h4) (begB_wf n2 n10)) (by omega) (fun S' h => (m_begin h h4 hB n2 n10).x)
  · exact lw_badA1 ib (by omega) (x_begin_bad h1 hp) (fun S' h => m_begin_bad h hp)
theorem ls_addLine (hB : Big N) (ib : IB S x mm o d q g A nb) (hn : nb + 100 * (k + 1) ≤ 60000) (hz : ∀ a, a ∈ hL S → a < z) (p1 : Int32) : LwH (II k) N x mm o (f_L_addLine N S z x p1 o) (fun T => f_X7_addLine N T mm p1) := by
  have hB0 := hB.1
  obtain ⟨h1, h2, h3, h4, -⟩ := id ib
  have hc := h4.1.c10
  have p10 := pw10 hc
  have pp := Nat.two_pow_pos (bc (aN A))
  by_cases hp : (1 : Int32) ≤ p1 ∧ p1 ≤ nI (2 ^ bc (aN A) - 1)
  · obtain ⟨v, rfl, n1, n2⟩ := i_rng (a := 1) (b := 2 ^ bc (aN A) - 1) rfl rfl (by decide) (by omega) hp.1 hp.2
    have v0 : v ≠ 0 := by omega
    have vl : v < 2 ^ bc (aN A) := by omega
    by_cases hn12 : bn (aN A) = 12
    · exact lw_badA2 (by decide) ib (by omega) (x_addLine_full h1 h4 v0 vl hn12) (fun S' h => m_addLine_full h h4 v0 vl hn12)
    · have hn12' : bn (aN A) < 12 := by have := h4.1.1.2.2.1; omega
      exact lw_goodA ib (x_addLine h1 h2 h4 (by omega) hz v0 vl hn12') (nowA_wf (svA_wf h4) (addB_wf h4.1 vl v0 hn12')) (by omega) (fun S' h => (m_addLine h h4 hB v0 vl hn12').x)
  · exact lw_badA1 ib (by omega) (x_addLine_bad h1 h4 hp) (fun S' h => m_addLine_bad h h4 hp)
theorem ls_removeLine (hB : Big N) (ib : IB S x mm o d q g A nb) (hn : nb + 100 * (k + 1) ≤ 60000) (hz : ∀ a, a ∈ hL S → a < z) (p1 : Int32) : LwH (II k) N x mm o (f_L_removeLine N S z x p1 o) (fun T => f_X7_removeLine N T mm p1) := by
  have hB0 := hB.1
  obtain ⟨h1, h2, h3, h4, -⟩ := id ib
  have b12 := h4.1.1.2.2.1
  by_cases hp : 0 ≤ p1 ∧ p1 < nI (bn (aN A))
  · obtain ⟨i, rfl, hi⟩ := i_lt (by omega) hp
    exact lw_goodA ib (x_removeLine h1 h2 h4 (by omega) hz hi) (nowA_wf (svA_wf h4) (remB_wf h4.1 hi)) (by omega) (fun S' h => (m_removeLine h h4 hB hi).x)
  · exact lw_badA1 ib (by omega) (x_removeLine_bad h1 hp) (fun S' h => m_removeLine_bad h h4 hp)
theorem ls_clear (hB : Big N) (ib : IB S x mm o d q g A nb) (hn : nb + 100 * (k + 1) ≤ 60000) (hz : ∀ a, a ∈ hL S → a < z) (p1 : Int32) (hp : isB p1) : ok S x 6 ∧ LwZ (II k) x mm o (f_X6_clear N S z x p1) (fun T => f_X7_clear N T mm p1) := by
  have hB0 := hB.1
  obtain ⟨h1, h2, h3, h4, -⟩ := id ib
  obtain ⟨T, z', q', e1, cg⟩ := x_clear (N := N) h1 h2 h4 (by omega) hz hp
  have J := ib_cls ib cg
  obtain ⟨V, v1, v2, v3, v4⟩ := (m_clear (N := N) (x := p1) J.2.2.1 h4 hB).x
  have mf := mfr v2
  have hv : (if p1 = 0 then 2 else 1 : Nat) = 1 ∨ (if p1 = 0 then 2 else 1 : Nat) = 2 := by
    by_cases e : p1 = 0
    · rw [if_pos e]; exact Or.inr rfl
    · rw [if_neg e]; exact Or.inl rfl
  have ib2 := ib_mod J (nowA_wf (svA_wf h4) (clrB_wf h4.1 hv)) mf.1 mf.2 v3
  exact ⟨h1.1.1.1, _, T, z', V, e1, v1, J.2.2.1.1.1, d, q', g, _, nb, ib2, by omega⟩
theorem ls_move (hB : Big N) (ib : IB S x mm o d q g A nb) (hn : nb + 100 * (k + 1) ≤ 60000) (hz : ∀ a, a ∈ hL S → a < z) (p1 : Int32) : LwH (II k) N x mm o (f_L_move N S z x p1 o) (fun T => f_X7_move N T mm p1) := by
  have hB0 := hB.1
  obtain ⟨h1, h2, h3, h4, -⟩ := id ib
  have hc := h4.1.c10
  by_cases hp : 0 ≤ p1 ∧ p1 < nI (bc (aN A))
  · obtain ⟨i, rfl, hi⟩ := i_lt (by omega) hp
    by_cases hf : bwin (aN A) = 0 ∧ (bfre (aN A)).testBit i = true
    · exact lw_goodA ib (x_move h1 h2 h4 (by omega) hz hf.1 hf.2) (nowA_wf (svA_wf h4) (occB_wf h4.1 hf.2 (par_ok h4.1 i))) (by omega) (fun S' h => (m_move h h4 hB hf.1 hf.2).x)
    · exact lw_badA2 (by decide) ib (by omega) (x_move_bad2 h1 h2 h4 (by omega) hi hf) (fun S' h => m_move_bad2 h h4 hB hi hf)
  · exact lw_badA1 ib (by omega) (x_move_bad1 h1 hp) (fun S' h => m_move_bad1 h h4 hp)
theorem ls_skip (hB : Big N) (ib : IB S x mm o d q g A nb) (hn : nb + 100 * (k + 1) ≤ 60000) (hz : ∀ a, a ∈ hL S → a < z) : LwH (II k) N x mm o (f_L_skip N S z x o) (fun T => f_X7_skip N T mm) := by
  have hB0 := hB.1
  obtain ⟨h1, h2, h3, h4, -⟩ := id ib
  by_cases g0 : bwin (aN A) = 0
  · exact lw_goodA ib (x_skip h1 h2 h4 (by omega) hz g0) (nowA_wf (svA_wf h4) (skpB_wf h4.1)) (by omega) (fun S' h => (m_skip h h4 hB g0).x)
  · exact lw_badA1 ib (by omega) (x_skip_bad h1 h2 h4 (by omega) g0) (fun S' h => m_skip_bad h h4 hB g0)
theorem ls_play (hB : Big N) (ib : IB S x mm o d q g A nb) (hn : nb + 100 * (k + 1) ≤ 60000) (hz : ∀ a, a ∈ hL S → a < z) (p1 p2 p3 : Int32) : LwH (II k) N x mm o (f_L_play N S z x p1 p2 p3 o) (fun T => f_X7_play N T mm p1 p2 p3) := by
  have hB0 := hB.1
  obtain ⟨h1, h2, h3, h4, -⟩ := id ib
  by_cases hp : (0 ≤ p1 ∧ p1 ≤ 3) ∧ (0 ≤ p2 ∧ p2 ≤ 3) ∧ 1 ≤ p3 ∧ p3 ≤ 10
  · obtain ⟨r1, rfl, -, r13⟩ := i_rng (a := 0) (b := 3) rfl rfl (by decide) (by decide) hp.1.1 hp.1.2
    obtain ⟨r2, rfl, -, r23⟩ := i_rng (a := 0) (b := 3) rfl rfl (by decide) (by decide) hp.2.1.1 hp.2.1.2
    obtain ⟨m, rfl, m1, m10⟩ := i_rng (a := 1) (b := 10) rfl rfl (by decide) (by decide) hp.2.2.1 hp.2.2.2
    by_cases g0 : bwin (aN A) = 0
    · exact lw_goodA ib (x_play h1 h2 h4 (by omega) (by omega) hz (by omega) (by omega) m1 m10 g0) (nowA_wf (svA_wf h4) (it_wf h4.1)) (by omega) (fun S' h => (m_play h h4 hB (by omega) (by omega) m1 m10 g0).x)
    · exact lw_badA2 (by decide) ib (by omega) (x_play_bad2 h1 h2 h4 (by omega) (by omega) (by omega) m1 m10 g0) (fun S' h => m_play_bad2 h h4 hB (by omega) (by omega) m1 m10 g0)
  · exact lw_badA1 ib (by omega) (x_play_bad1 h1 hp) (fun S' h => m_play_bad1 h hp)
theorem ls_append (hB : Big N) (ib : IB S x mm o d q g A nb) (hn : nb + 100 * (k + 1) ≤ 60000) (p1 : Int32) : LwH (II k) N x mm o (f_L_append N S z x p1 o) (fun T => f_X7_append N T mm p1) := by
  have hB0 := hB.1
  obtain ⟨h1, h2, h3, h4, -⟩ := id ib
  by_cases hp : (33 : Int32) ≤ p1 ∧ p1 ≤ 126
  · by_cases hl : aL A = 60
    · exact lw_badB2 (by decide) ib (by omega) (x_append_bad2 h1 hp hl) (fun S' h => m_append_bad2 h hp hl)
    · have hl' : aL A < 60 := by have := h4.2.2.2.1; omega
      obtain ⟨c, rfl, c1, c2⟩ := i_rng (a := 33) (b := 126) rfl rfl (by decide) (by decide) hp.1 hp.2
      exact lw_goodB ib (x_append h1 h2 hp hl') (appA_wf h4 ⟨c1, c2⟩ hl') (by omega) (fun S' h => (m_append h hp hl').x)
  · exact lw_badB1 ib (by omega) (x_append_bad1 h1 hp) (fun S' h => m_append_bad1 h hp)
theorem ls_clearBuffer (ib : IB S x mm o d q g A nb) (hn : nb + 100 * (k + 1) ≤ 60000) : ok S x 6 ∧ LwI (II k) x mm o (f_X6_clearBuffer N S x) (fun T => f_X7_clearBuffer N T mm) := by
  obtain ⟨h1, h2, h3, h4, -⟩ := id ib
  obtain ⟨T, e1, cn⟩ := x_clearBuffer (N := N) h1 h2
  have J := ib_cls ib (cn.g h2)
  obtain ⟨V, v1, v2, v3, v4⟩ := (m_clearBuffer (N := N) J.2.2.1).x
  have mf := mfr v2
  have ib2 := ib_mod J (clbA_wf h4) mf.1 mf.2 v3
  exact ⟨h1.1.1.1, _, T, V, e1, v1, J.2.2.1.1.1, d, q, g, _, nb, ib2, by omega⟩
theorem ls_firstError (hB : Big N) (ib : IB S x mm o d q g A nb) (hn : nb + 100 * (k + 1) ≤ 60000) : ok S x 6 ∧ LwI (II k) x mm o (f_X6_firstError N S x) (fun T => f_X7_firstError N T mm) := by
  have hB0 := hB.1
  obtain ⟨h1, h2, h3, h4, -⟩ := id ib
  have e1 := x_firstError (N := N) h1 h4 (by omega)
  have J := ib_cls ib ((CN.rf h1).g h2)
  obtain ⟨V, v1, v2, v3, v4⟩ := (m_firstError (N := N) J.2.2.1 h4 hB).x
  have mf := mfr v2
  have ib2 := ib_mod J h4 mf.1 mf.2 v3
  exact ⟨h1.1.1.1, _, S, V, e1, v1, J.2.2.1.1.1, d, q, g, _, nb, ib2, by omega⟩
theorem ls_read (hB : Big N) (ib : IB S x mm o d q g A nb) (hn : nb + 100 * (k + 1) ≤ 60000) (hz : ∀ a, a ∈ hL S → a < z) : LwH (II k) N x mm o (f_L_read N S z x o) (fun T => f_X7_read N T mm) := by
  have hB0 := hB.1
  obtain ⟨h1, h2, h3, h4, -⟩ := id ib
  by_cases hc : cmT (bc (aN A)) (aT A) (aL A)
  · by_cases h12 : bn (aN A) + (pT (aT A) (aL A) + 1) ≤ 12
    · exact lw_goodA ib (x_read h1 h2 h4 (by omega) hz hc h12) (clbA_wf (nowA_wf (svA_wf h4) (rdB_wf h4.1 hc h12))) (by omega) (fun S' h => (m_read h h4 hB hc h12).x)
    · exact lw_badA2 (by decide) ib (by omega) (x_read_bad2 h1 h4 (by omega) hc h12) (fun S' h => m_read_bad2 h h4 hB hc h12)
  · exact lw_badA1 ib (by omega) (x_read_bad1 h1 h4 (by omega) hc) (fun S' h => m_read_bad1 h h4 hB hc)
theorem ls_take (hB : Big N) (ib : IB S x mm o d q g A nb) (hn : nb + 100 * (k + 1) ≤ 60000) (hz : ∀ a, a ∈ hL S → a < z) (p1 : Int32) : LwH (II k) N x mm o (f_L_take N S z x p1 o) (fun T => f_X7_take N T mm p1) := by
  have hB0 := hB.1
  obtain ⟨h1, h2, h3, h4, -⟩ := id ib
  by_cases hp : 0 ≤ p1 ∧ p1 ≤ 1
  · obtain ⟨i, rfl, -, hi⟩ := i_rng (a := 0) (b := 1) rfl rfl (by decide) (by decide) hp.1 hp.2
    exact lw_goodA ib (x_take h1 h2 (by omega) hz (show i < 2 by omega)) (takA_wf h4 i) (by omega) (fun S' h => (m_take h h4 hB (show i < 2 by omega)).x)
  · exact lw_badA1 ib (by omega) (x_take_bad h1 hp) (fun S' h => m_take_bad h hp)
theorem ls_restore (hB : Big N) (ib : IB S x mm o d q g A nb) (hn : nb + 100 * (k + 1) ≤ 60000) (hz : ∀ a, a ∈ hL S → a < z) (p1 : Int32) : LwH (II k) N x mm o (f_L_restore N S z x p1 o) (fun T => f_X7_restore N T mm p1) := by
  have hB0 := hB.1
  obtain ⟨h1, h2, h3, h4, -⟩ := id ib
  by_cases hp : 0 ≤ p1 ∧ p1 ≤ 1
  · obtain ⟨i, rfl, -, hi⟩ := i_rng (a := 0) (b := 1) rfl rfl (by decide) (by decide) hp.1 hp.2
    have i2 : i < 2 := by omega
    cases hs : aS A i with
    | none => exact lw_badA2 (by decide) ib (by omega) (x_restore_bad2 h1 i2 hs) (fun S' h => m_restore_bad2 h i2 hs)
    | some B => exact lw_goodA ib (x_restore h1 h2 h4 (by omega) hz i2 hs) (nowA_wf (svA_wf h4) (cntB_wf (h4.2.2.1 i B hs) _ _ _)) (by omega) (fun S' h => (m_restore h h4 hB i2 hs).x)
  · exact lw_badA1 ib (by omega) (x_restore_bad1 h1 hp) (fun S' h => m_restore_bad1 h hp)
theorem ls_undo (hB : Big N) (ib : IB S x mm o d q g A nb) (hn : nb + 100 * (k + 1) ≤ 60000) : LwH (II k) N x mm o (f_L_undo N S z x o) (fun T => f_X7_undo N T mm) := by
  have hB0 := hB.1
  obtain ⟨h1, h2, h3, h4, -⟩ := id ib
  by_cases h0 : aH A = 0
  · exact lw_badB1 ib (by omega) (x_undo_bad h1 h0) (fun S' h => m_undo_bad h h0)
  · exact lw_goodB ib (x_undo h1 h2 h4 (by omega) h0) (undA_wf h4 h0) (by omega) (fun S' h => (m_undo h h4 hB h0).x)
theorem ls_line (hB : Big N) (ib : IB S x mm o d q g A nb) (hn : nb + 100 * (k + 1) ≤ 60000) (p1 p2 : Int32) : LwH (II k) N x mm o (f_L_line N S z x p1 p2 o) (fun T => f_X7_line N T mm p1 p2) := by
  have hB0 := hB.1
  obtain ⟨h1, h2, h3, h4, -⟩ := id ib
  have b12 := h4.1.1.2.2.1
  by_cases hp : 0 ≤ p1 ∧ p1 < nI (bn (aN A))
  · by_cases hq : (0 : Int32) ≤ p2 ∧ p2 ≤ 4
    · obtain ⟨j, rfl, hj⟩ := i_lt (by omega) hp
      obtain ⟨w, rfl, -, hw⟩ := i_rng (a := 0) (b := 4) rfl rfl (by decide) (by decide) hq.1 hq.2
      exact lw_goodB ib ⟨S, x_line h1 h2 h4 hj (by omega), CN.rf h1⟩ h4 (by omega) (fun S' h => (m_line h h4 hB hj (by omega)).x)
    · exact lw_badB2 (by decide) ib (by omega) (x_line_bad2 h1 hp hq) (fun S' h => m_line_bad2 h h4 hp hq)
  · exact lw_badB1 ib (by omega) (x_line_bad1 h1 hp) (fun S' h => m_line_bad1 h h4 hp)
theorem ls_cell (hB : Big N) (ib : IB S x mm o d q g A nb) (hn : nb + 100 * (k + 1) ≤ 60000) (p1 p2 : Int32) : LwH (II k) N x mm o (f_L_cell N S z x p1 p2 o) (fun T => f_X7_cell N T mm p1 p2) := by
  have hB0 := hB.1
  obtain ⟨h1, h2, h3, h4, -⟩ := id ib
  have hc := h4.1.c10
  by_cases hp : 0 ≤ p1 ∧ p1 < nI (bc (aN A))
  · by_cases hq : (0 : Int32) ≤ p2 ∧ p2 ≤ 3
    · obtain ⟨j, rfl, hj⟩ := i_lt (by omega) hp
      obtain ⟨w, rfl, -, hw⟩ := i_rng (a := 0) (b := 3) rfl rfl (by decide) (by decide) hq.1 hq.2
      exact lw_goodB ib (x_cell h1 h2 h4 (by omega) hj (by omega)) h4 (by omega) (fun S' h => (m_cell h h4 hB hj (by omega)).x)
    · exact lw_badB2 (by decide) ib (by omega) (x_cell_bad2 h1 hp hq) (fun S' h => m_cell_bad2 h h4 hp hq)
  · exact lw_badB1 ib (by omega) (x_cell_bad1 h1 hp) (fun S' h => m_cell_bad1 h h4 hp)
theorem ls_reply (hB : Big N) (ib : IB S x mm o d q g A nb) (hn : nb + 100 * (k + 1) ≤ 60000) (p1 : Int32) : LwH (II k) N x mm o (f_L_reply N S z x p1 o) (fun T => f_X7_reply N T mm p1) := by
  have hB0 := hB.1
  obtain ⟨h1, h2, h3, h4, -⟩ := id ib
  by_cases hp : (0 : Int32) ≤ p1 ∧ p1 ≤ 3
  · obtain ⟨r, rfl, -, hr⟩ := i_rng (a := 0) (b := 3) rfl rfl (by decide) (by decide) hp.1 hp.2
    exact lw_goodB ib (x_reply h1 h2 h4 (by omega) (by omega) (by omega)) h4 (by omega) (fun S' h => (m_reply h h4 hB (by omega)).x)
  · exact lw_badB1 ib (by omega) (x_reply_bad h1 hp) (fun S' h => m_reply_bad h hp)
theorem ls_solved (hB : Big N) (ib : IB S x mm o d q g A nb) (hn : nb + 100 * (k + 1) ≤ 60000) (p1 : Int32) : LwH (II k) N x mm o (f_L_solved N S z x p1 o) (fun T => f_X7_solved N T mm p1) := by
  have hB0 := hB.1
  obtain ⟨h1, h2, h3, h4, -⟩ := id ib
  by_cases hp : (0 : Int32) ≤ p1 ∧ p1 ≤ 1
  · obtain ⟨r, rfl, -, hr⟩ := i_rng (a := 0) (b := 1) rfl rfl (by decide) (by decide) hp.1 hp.2
    exact lw_goodB ib (x_solved h1 h2 h4 (by omega) (by omega) (by omega)) h4 (by omega) (fun S' h => (m_solved h h4 hB (by omega)).x)
  · exact lw_badB1 ib (by omega) (x_solved_bad h1 hp) (fun S' h => m_solved_bad h hp)
theorem ls_ifMoved (hB : Big N) (ib : IB S x mm o d q g A nb) (hn : nb + 100 * (k + 1) ≤ 60000) (p1 : Int32) : LwH (II k) N x mm o (f_L_ifMoved N S z x p1 o) (fun T => f_X7_ifMoved N T mm p1) := by
  have hB0 := hB.1
  obtain ⟨h1, h2, h3, h4, -⟩ := id ib
  have hc := h4.1.c10
  by_cases hp : 0 ≤ p1 ∧ p1 < nI (bc (aN A))
  · obtain ⟨j, rfl, hj⟩ := i_lt (by omega) hp
    exact lw_goodB ib (x_ifMoved h1 h2 h4 (by omega) (by omega) hj) h4 (by omega) (fun S' h => (m_ifMoved h h4 hB hj).x)
  · exact lw_badB1 ib (by omega) (x_ifMoved_bad h1 hp) (fun S' h => m_ifMoved_bad h h4 hp)
theorem ls_ifPlayed (hB : Big N) (ib : IB S x mm o d q g A nb) (hn : nb + 100 * (k + 1) ≤ 60000) (p1 p2 : Int32) : LwH (II k) N x mm o (f_L_ifPlayed N S z x p1 p2 o) (fun T => f_X7_ifPlayed N T mm p1 p2) := by
  have hB0 := hB.1
  obtain ⟨h1, h2, h3, h4, -⟩ := id ib
  by_cases hp : ((0 : Int32) ≤ p1 ∧ p1 ≤ 3) ∧ (0 : Int32) ≤ p2 ∧ p2 ≤ 3
  · obtain ⟨r1, rfl, -, r13⟩ := i_rng (a := 0) (b := 3) rfl rfl (by decide) (by decide) hp.1.1 hp.1.2
    obtain ⟨r2, rfl, -, r23⟩ := i_rng (a := 0) (b := 3) rfl rfl (by decide) (by decide) hp.2.1 hp.2.2
    exact lw_goodB ib (x_ifPlayed h1 h2 h4 (by omega) (by omega) (by omega) (by omega)) h4 (by omega) (fun S' h => m_ifPlayed h h4 hB (by omega) (by omega))
  · exact lw_badB1 ib (by omega) (x_ifPlayed_bad h1 hp) (fun S' h => m_ifPlayed_bad h hp)
theorem ls_count (hB : Big N) (ib : IB S x mm o d q g A nb) (hn : nb + 100 * (k + 1) ≤ 60000) (p1 : Int32) : LwH (II k) N x mm o (f_L_count N S z x p1 o) (fun T => f_X7_count N T mm p1) := by
  have hB0 := hB.1
  obtain ⟨h1, h2, h3, h4, -⟩ := id ib
  by_cases hp : (0 : Int32) ≤ p1 ∧ p1 ≤ 15
  · obtain ⟨w, rfl, -, hw⟩ := i_rng (a := 0) (b := 15) rfl rfl (by decide) (by decide) hp.1 hp.2
    exact lw_goodB ib (x_count h1 h2 h4 (by omega) w (by omega)) h4 (by omega) (fun S' h => (m_count h h4 hB (by omega)).x)
  · exact lw_badB1 ib (by omega) (x_count_bad h1 hp) (fun S' h => m_count_bad h hp)
theorem ls_weightShare (hB : Big N) (ib : IB S x mm o d q g A nb) (hn : nb + 100 * (k + 1) ≤ 60000) : ok S x 6 ∧ LwD (II k) x mm o (f_X6_weightShare N S x) (fun T => f_X7_weightShare N T mm) := by
  have hB0 := hB.1
  obtain ⟨h1, h2, h3, h4, -⟩ := id ib
  obtain ⟨T, e1, cn⟩ := x_weightShare (N := N) h1 h2 h4 (by omega)
  have J := ib_cls ib (cn.g h2)
  obtain ⟨V, v1, v2, v3, v4⟩ := m_weightShare (N := N) J.2.2.1 h4 hB
  have mf := mfr v2
  have ib2 := ib_mod J h4 mf.1 mf.2 v3
  exact ⟨h1.1.1.1, _, _, T, V, e1, v1, (sh_ok (bws_le h4.1)).2.1, J.2.2.1.1.1, d, q, g, _, nb, ib2, by omega⟩
theorem ls_digest (hB : Big N) (ib : IB S x mm o d q g A nb) (hn : nb + 100 * (k + 1) ≤ 60000) : ok S x 6 ∧ LwJ (II k) x mm o (f_X6_digest N S x) (fun T => f_X7_digest N T mm) := by
  have hB0 := hB.1
  obtain ⟨h1, h2, h3, h4, -⟩ := id ib
  obtain ⟨T, e1, cn⟩ := x_digest (N := N) h1 h2 h4 (by omega) (by omega)
  have J := ib_cls ib (cn.g h2)
  obtain ⟨V, v1, v2, v3, v4, v5⟩ := m_digest (N := N) J.2.2.1 h4 hB
  have ib2 := ib_mod J h4 v2 (fun a ha => by rw [v3]; exact ha) v4
  exact ⟨h1.1.1.1, _, T, V, e1, v1, J.2.2.1.1.1, d, q, g, _, nb + 56, ib2, by omega⟩
theorem law_step (hB : Big N) (h : II (k + 1) x mm o S) (hz : ∀ a, a ∈ hL S → a < z) : LawStep N (II k) x mm o S z := by
  obtain ⟨d, q, g, A, nb, ib, hn⟩ := h
  exact ⟨ls_begin hB ib hn hz, ls_addLine hB ib hn hz, ls_removeLine hB ib hn hz, ls_clear hB ib hn hz, ls_move hB ib hn hz, ls_skip hB ib hn hz, ls_play hB ib hn hz, ls_append hB ib hn, ls_clearBuffer ib hn, ls_firstError hB ib hn, ls_read hB ib hn hz, ls_take hB ib hn hz, ls_restore hB ib hn hz, ls_undo hB ib hn, ls_line hB ib hn, ls_cell hB ib hn, ls_reply hB ib hn, ls_solved hB ib hn, ls_ifMoved hB ib hn, ls_ifPlayed hB ib hn, ls_count hB ib hn, ls_weightShare hB ib hn, ls_digest hB ib hn⟩
theorem law_init (hB : Big N) : LawInit N II := by
  intro x
  have hB0 := hB.1
  obtain ⟨S1, e1, c1⟩ := x6_init (N := N) (by omega) x
  have pl : ∀ a, PA x (fun i => x + 1 + i) (fun _ => none) a → a < x + 21 := by
    intro a ha
    rcases ha with w | ⟨j, hj, w⟩ | ⟨j, hj, w⟩
    · omega
    · have w' : a = x + 1 + j := w
      omega
    · exact absurd w (fun w => w)
  have hd : CD x (fun i => x + 1 + i) (fun _ => none) := ⟨fun i j _ _ ne => by show x + 1 + i ≠ x + 1 + j; omega, fun i _ => by show x ≠ x + 1 + i; omega, fun i _ a ha => absurd ha (fun w => w), fun i j _ _ _ a ha => absurd ha (fun w => w)⟩
  have mi : MI S1 (sNew S1 (x + 21) 7 0) (x + 21) (x + 21 + 1) [] := ⟨Nat.lt_succ_self _, ⟨by rw [hL_sNew]; exact List.mem_append_right _ (List.mem_singleton.mpr rfl), by rw [hK_sNew, if_pos rfl]⟩, by funext j; rw [hI_sNew, if_pos rfl], kee_New (fun w => Nat.lt_irrefl _ w), fun t ht => (by cases ht), fun a ha => by rw [hL_sNew]; exact List.mem_append_left _ ha⟩
  obtain ⟨S2, e2, k2, u2, m2⟩ := x7_init (N := N) mi
  have c2 : CX S2 x (fun i => x + 1 + i) (fun _ => none) A00 1 := c1.kp k2 pl u2
  have k3 : Kee (fun a => a < x + 21 + 1 + 13) S2 (sNew S2 (x + 21 + 1 + 13) 10 1) := kee_New (fun w => Nat.lt_irrefl _ w)
  have u3 : ∀ a, a ∈ hL S2 → a ∈ hL (sNew S2 (x + 21 + 1 + 13) 10 1) := fun a ha => by rw [hL_sNew]; exact List.mem_append_left _ ha
  have ixl : ∀ i, i ∈ FS → ixM i ≤ 12 := by decide
  have ml : ∀ a, a ∈ MLx (x + 21) (fun i => x + 21 + 1 + ixM i) → x + 21 ≤ a := by
    intro a ha
    simp only [MLx, MLs, List.mem_cons] at ha
    rcases ha with w | w | w
    · omega
    · omega
    · obtain ⟨j, hj, e⟩ := List.mem_map.mp w
      omega
  refine ⟨S1, x + 21, S2, x + 21 + 1 + 13, e1, e2, _, _, _, A00, 1, ⟨c2.kp k3 (fun a ha => by have := pl a ha; omega) u3, hd, m2.kp k3 (by omega) (fun i hi => ?_), A00_wf, fun a ha w => ?_, ⟨⟨?_, ?_⟩, ?_⟩, fun w => ?_⟩, by omega⟩
  · have := ixl i hi
    show x + 21 + 1 + ixM i < x + 21 + 1 + 13
    omega
  · have := pl a ha
    have := ml a w
    omega
  · rw [hL_sNew]
    exact List.mem_append_right _ (List.mem_singleton.mpr rfl)
  · rw [hK_sNew, if_pos rfl]
  · rw [hN_sNew, if_pos rfl]
  · have := pl _ w
    omega
def NN : Nat := 60001 + TT 12
theorem NN_big : Big NN := ⟨by unfold NN; omega, by unfold NN; omega⟩
theorem law_ok : LawOk NN II := ⟨law_init NN_big, fun k x mm o S z h hz => law_step NN_big h hz, fun k x mm o S h => by
  obtain ⟨d, q, g, A, nb, ib, hn⟩ := h
  exact ⟨d, q, g, A, nb, ib, by omega⟩⟩
end
