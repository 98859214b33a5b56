section
variable {S T : Hp} {x : Nat} {d : Nat → Nat} {q : Nat → Option (Nat × Nat × Nat)} {A : Ab} {nb : Nat} {N : Nat}
/-- the trial is the board -/
theorem x_trial (h : CX S x d q A nb) (hd : CD x d q) (hN0 : 12 < N) : ∃ T o1 o2 o3, f_X4_copyBoard N S (d 3) (d 0) = some ((), T) ∧ Fr ([3, 4, 5].map d) S T ∧ CN S x d q A nb T ∧ StV T (d 3) (d 4) (d 5) (cntB (aN A) o1 o2 o3) := by
  obtain ⟨T, t1, t2, t3⟩ := c_copyBoard (N := N) h.2.1 h.1.2.1 hN0 (hd.1 3 0 (by decide) (by decide) (by decide)) (hd.1 4 1 (by decide) (by decide) (by decide)) (hd.1 5 2 (by decide) (by decide) (by decide))
  have t2' : Fr ([3, 4, 5].map d) S T := t2
  have st : StV T (d 0) (d 1) (d 2) (aN A) := h.2.1.fr t2' (hd.out (by decide) (by decide)) (hd.out (by decide) (by decide)) (hd.out (by decide) (by decide))
  have cn := h.st1 [3, 4, 5] hd t2' (by decide) st
  exact ⟨T, _, _, _, t1, t2', cn, t3⟩
theorem x_ifMoved (h : CX S x d q A nb) (hd : CD x d q) (hw : WfA A) (hN0 : 12 < N) (hb : nb + 1 < 2 ^ 27) {i : Nat} (hi : i < bc (aN A)) : ∃ T, f_X6_ifMoved N S x (nI i) = some (imB (aN A) i, T) ∧ CN S x d q A (nb + 1) T := by
  obtain ⟨T, t1, t2, -⟩ := x_win (N := N) h hd hw hN0
  have c := t2.2.2
  have wl := bwin_le (aN A)
  have hc := hw.1.c10
  unfold f_X6_ifMoved imB
  rw [gd_pos h.1.1.1, h.1.1.2.1, nn_s, gd_pos h.2.1.1.1, c_hasCell h.2.1, cl_s, if_pos (in0 hi (by omega)), if_neg (by decide), gd_pos h.1.1.1, h.1.1.2.1, nn_s, gd_pos h.2.1.1.1, t1, cl_s]
  by_cases g0 : bwin (aN A) = 0
  · rw [if_pos (by rw [g0]; rfl), gd_pos c.1.1.1, c.1.1.2.1, nn_s, gd_pos c.2.1.1.1, c_isFree c.2.1 hw.1 (by omega), cl_s]
    by_cases f : (bfre (aN A)).testBit i = true
    · obtain ⟨U, o1, o2, o3, u1, u2, u3, u4⟩ := x_trial (N := N) c hd hN0
      have cu := u3.2.2
      have wt : Wf (cntB (aN A) o1 o2 o3) := cntB_wf hw.1 _ _ _
      obtain ⟨V, v1, v2, v3⟩ := c_occupy (N := N) (i := i) (p := -1) u4 wt hN0 f (Or.inl rfl)
      have v2' : Fr ([3, 4].map d) U V := v2
      have sv : StV V (d 0) (d 1) (d 2) (aN A) := cu.2.1.fr v2' (hd.out (by decide) (by decide)) (hd.out (by decide) (by decide)) (hd.out (by decide) (by decide))
      have cv := cu.st1 [3, 4] hd v2' (by decide) sv
      have xv := cv.2.2
      have wv : Wf (occB (cntB (aN A) o1 o2 o3) i (-1)) := occB_wf wt f (Or.inl rfl)
      obtain ⟨X, x1, x2, x3, x4⟩ := c_lengthOf (N := N) v3 wv hN0 xv.cr.2.2 hb (hd.1 16 4 (by decide) (by decide) (by decide)) (hd.1 17 5 (by decide) (by decide) (by decide)) (hd.1 18 5 (by decide) (by decide) (by decide)) (hd.1 19 5 (by decide) (by decide) (by decide)) (hd.1 19 17 (by decide) (by decide) (by decide))
      have x2' : Fr ([15, 16, 17, 18].map d) V X := x2
      have sx : StV X (d 0) (d 1) (d 2) (aN A) := xv.2.1.fr x2' (hd.out (by decide) (by decide)) (hd.out (by decide) (by decide)) (hd.out (by decide) (by decide))
      have cx := xv.st [15, 16, 17, 18] hd x2' (by decide) sx (xv.cr.2.1.fr hd x2' (by decide)) x4
      rw [if_pos f, if_neg (by decide), if_pos ⟨g0, f⟩, gd_pos c.1.1.1, c.1.1.2.2.1, nn_s, c.1.1.2.1, nn_s, gd_pos c.1.2.1.1.1, u1, cl_s, gd_pos cu.1.1.1, cu.1.1.2.2.1, nn_s, gd_pos u4.1.1, v1, cl_s, gd_pos xv.1.1.1, xv.cr.1.2.2, nn_s, xv.1.1.2.2.1, nn_s, gd_pos xv.cr.2.2.ok3, x1, cl_s]
      have e : bLv (occB (cntB (aN A) o1 o2 o3) i (-1)) = Lv (bc (aN A)) (bn (aN A)) (bM (aN A)) (chK (bv (aN A)) (bk (aN A)) i) (chB (bv (aN A)) (bb (aN A)) i) (3 - bv (aN A)) := rfl
      have st := ((t2.tr u3).tr cv).tr cx
      rw [e]
      unfold Lv bWV
      rcases VV_12 (n := bn (aN A)) (M := bM (aN A)) (mk := chK (bv (aN A)) (bk (aN A)) i) (br := chB (bv (aN A)) (bb (aN A)) i) (v := 3 - bv (aN A)) hc with v | v
      · have len := VV_len hw.1.lns _ (chK (bv (aN A)) (bk (aN A)) i) (chB (bv (aN A)) (bb (aN A)) i) (3 - bv (aN A)) (Nat.le_refl _) v
        have p10 := pop_le (fre (bc (aN A)) (chK (bv (aN A)) (bk (aN A)) i) (chB (bv (aN A)) (bb (aN A)) i))
        rw [if_pos v, if_neg (nI_nm1 (by omega)), v]
        exact ⟨X, rfl, st⟩
      · have nv : ¬ (VV (bc (aN A)) (bn (aN A)) (bM (aN A)) (chK (bv (aN A)) (bk (aN A)) i) (chB (bv (aN A)) (bb (aN A)) i) (3 - bv (aN A))).1 = 1 := by rw [v]; decide
        rw [if_neg nv, if_pos rfl, v]
        exact ⟨X, rfl, st⟩
    · rw [if_neg f, if_pos rfl, if_neg (fun w => f w.2)]
      exact ⟨T, rfl, t2.mono (Nat.le_succ _)⟩
  · rw [if_neg (fun w => g0 ((nI_eq0 (by omega)).mp w)), if_neg (fun w => g0 w.1)]
    exact ⟨T, rfl, t2.mono (Nat.le_succ _)⟩
theorem x_taken (h : CX S x d q A nb) (hN0 : 12 < N) : f_X6_snapshotsTaken N S x = some ((if (aS A 0).isSome = true then (1 : Int32) else 0) + (if (aS A 1).isSome = true then (1 : Int32) else 0), S) := by
  obtain ⟨k, rfl⟩ : ∃ k, N = k + 3 := ⟨N - 3, by omega⟩
  have hs := h.1.2.2.2.1
  have n2 := hs.2
  have at_ : ∀ i, i < 2 → ((aS A i).isSome = true → ∃ s, hR S (d 8) i = some s) ∧ ((aS A i).isSome = false → hR S (d 8) i = none) := by
    intro i hi
    obtain ⟨b1, b2, b3⟩ := h.2.2.2.1 i hi
    refine ⟨fun w => ?_, fun w => ?_⟩
    · obtain ⟨B, hB⟩ := Option.isSome_iff_exists.mp w
      obtain ⟨t, o1, o2, o3, t1, t2⟩ := b3 B hB
      exact ⟨t.1, by rw [b1.1, t1]; rfl⟩
    · have := b2 (by simpa using w)
      rw [b1.1, this]
      rfl
  have e2 : f_X6_snapshotsTaken_l4 (k + 3) x (k + 1) S ((if (aS A 0).isSome = true then (1 : Int32) else 0) + (if (aS A 1).isSome = true then (1 : Int32) else 0)) 2 = some ((if (aS A 0).isSome = true then (1 : Int32) else 0) + (if (aS A 1).isSome = true then (1 : Int32) else 0), S) := by
    unfold f_X6_snapshotsTaken_l4 f_X6_snapshotsTaken_b4
    rw [gd_pos h.1.1.1, h.1.1.2.2.2.2.1, nn_s, gd_pos hs.1, n2, if_pos (by decide)]
  have e1 : f_X6_snapshotsTaken_l4 (k + 3) x (k + 2) S (if (aS A 0).isSome = true then (1 : Int32) else 0) 1 = some ((if (aS A 0).isSome = true then (1 : Int32) else 0) + (if (aS A 1).isSome = true then (1 : Int32) else 0), S) := by
    unfold f_X6_snapshotsTaken_l4 f_X6_snapshotsTaken_b4
    rw [gd_pos h.1.1.1, h.1.1.2.2.2.2.1, nn_s, gd_pos hs.1, if_neg (by rw [n2]; decide), gd_pos (show inb (1 : Int32) (hN S (d 8)) from inN n2 (show 1 < 2 by decide) (by decide)), tn1]
    cases g : (aS A 1).isSome
    · rw [(at_ 1 (by decide)).2 g, nz_n]
      rw [g] at e2
      simpa using e2
    · obtain ⟨s, hs1⟩ := (at_ 1 (by decide)).1 g
      rw [hs1, nz_s]
      rw [g] at e2
      simpa using e2
  unfold f_X6_snapshotsTaken f_X6_snapshotsTaken_l4 f_X6_snapshotsTaken_b4
  rw [gd_pos h.1.1.1, h.1.1.2.2.2.2.1, nn_s, gd_pos hs.1, if_neg (by rw [n2]; decide), gd_pos (show inb (0 : Int32) (hN S (d 8)) from inN n2 (show 0 < 2 by decide) (by decide)), tn0]
  cases g : (aS A 0).isSome
  · rw [(at_ 0 (by decide)).2 g, nz_n]
    rw [g] at e1
    simpa using e1
  · obtain ⟨s, hs1⟩ := (at_ 0 (by decide)).1 g
    rw [hs1, nz_s]
    rw [g] at e1
    simpa using e1
theorem x_count (h : CX S x d q A nb) (hd : CD x d q) (hw : WfA A) (hN0 : 12 < N) : ∀ w, w < 16 → ∃ T, f_X6_count N S x (nI w) = some (ctA A w, T) ∧ CN S x d q A nb T := by
  obtain ⟨T, t1, t2, t3, t4, t5⟩ := x_win (N := N) h hd hw hN0
  have c := t2.2.2
  have wl := bwin_le (aN A)
  have hc := hw.1.c10
  have st := c.2.1
  obtain ⟨s1, s2, s3, s4, s5, s6, s7, s8, s9⟩ := st.2.2
  have sl := st.2.1.2.1.1
  intro w hw16
  unfold f_X6_count
  rw [if_neg (nlt0 (by omega)), if_pos ((lt_c 16 (n := 16) rfl (by omega) (by decide)).mpr hw16), gd_pos h.1.1.1, h.1.1.2.1, nn_s, gd_pos h.2.1.1.1, t1, cl_s]
  have fin : ∀ {r : Option (Int32 × Hp)} {v : Int32}, r = some (v, T) → ∃ U, r = some (v, U) ∧ CN S x d q A nb U := fun e => ⟨T, e, t2⟩
  have hcases : w = 0 ∨ w = 1 ∨ w = 2 ∨ w = 3 ∨ w = 4 ∨ w = 5 ∨ w = 6 ∨ w = 7 ∨ w = 8 ∨ w = 9 ∨ w = 10 ∨ w = 11 ∨ w = 12 ∨ w = 13 ∨ w = 14 ∨ w = 15 := by omega
  rcases hcases with rfl | rfl | rfl | rfl | rfl | rfl | rfl | rfl | rfl | rfl | rfl | rfl | rfl | rfl | rfl | rfl
  · refine fin ?_
    rw [if_pos (show nI 0 = (0 : Int32) from rfl), gd_pos c.1.1.1, c.1.1.2.1, nn_s, gd_pos st.1.1, s1]
    rfl
  · refine fin ?_
    iterate 1 rw [if_neg (by decide)]
    rw [if_pos (show nI 1 = (1 : Int32) from rfl), gd_pos c.1.1.1, c.1.1.2.1, nn_s, gd_pos st.1.1, st.1.2, nn_s, gd_pos st.2.1.1.1, sl]
    rfl
  · refine fin ?_
    iterate 2 rw [if_neg (by decide)]
    rw [if_pos (show nI 2 = (2 : Int32) from rfl), gd_pos c.1.1.1, c.1.1.2.1, nn_s, gd_pos st.1.1, st.1.2, nn_s, gd_pos st.2.1.1.1, t3]
    rfl
  · refine fin ?_
    iterate 3 rw [if_neg (by decide)]
    rw [if_pos (show nI 3 = (3 : Int32) from rfl), gd_pos c.1.1.1, c.1.1.2.1, nn_s, gd_pos st.1.1, st.1.2, nn_s, gd_pos st.2.1.1.1, t4]
    rfl
  · refine fin ?_
    iterate 4 rw [if_neg (by decide)]
    rw [if_pos (show nI 4 = (4 : Int32) from rfl)]
    show _ = some ((if bwin (aN A) = 0 then nI (bv (aN A)) else 0), T)
    by_cases g : bwin (aN A) = 0
    · rw [if_pos ((nI_eq0 (by omega)).mpr g), if_pos g, gd_pos c.1.1.1, c.1.1.2.1, nn_s, gd_pos st.1.1, c_mover st hw.1, cl_s]
    · rw [if_neg (fun u => g ((nI_eq0 (by omega)).mp u)), if_neg g]
  · refine fin ?_
    iterate 5 rw [if_neg (by decide)]
    rw [if_pos (show nI 5 = (5 : Int32) from rfl)]
    rfl
  · refine fin ?_
    iterate 6 rw [if_neg (by decide)]
    rw [if_pos (show nI 6 = (6 : Int32) from rfl), gd_pos c.1.1.1, c.1.1.2.1, nn_s, gd_pos st.1.1, st.1.2, nn_s, gd_pos st.2.1.1.1, t5]
    rfl
  · iterate 7 rw [if_neg (by decide)]
    rw [if_pos (show nI 7 = (7 : Int32) from rfl)]
    show ∃ U, _ = some ((if bwin (aN A) = 0 then lowI (bth (aN A)) else -1), U) ∧ _
    by_cases g : bwin (aN A) = 0
    · obtain ⟨U, u1, u2, u3⟩ := c_forcedReply (N := N) st hw.1 hN0
      rw [if_pos ((nI_eq0 (by omega)).mpr g), if_pos g, gd_pos c.1.1.1, c.1.1.2.1, nn_s, gd_pos st.1.1, u1, cl_s]
      exact ⟨U, rfl, t2.tr (c.l1 hd u2 u3)⟩
    · rw [if_neg (fun u => g ((nI_eq0 (by omega)).mp u)), if_neg g]
      exact ⟨T, rfl, t2⟩
  · obtain ⟨U, u1, u2⟩ := x_pairs (N := N) c hd hw hN0
    iterate 8 rw [if_neg (by decide)]
    rw [if_pos (show nI 8 = (8 : Int32) from rfl), gd_pos c.1.1.1, u1, cl_s]
    exact ⟨U, rfl, t2.tr u2⟩
  · refine fin ?_
    iterate 9 rw [if_neg (by decide)]
    rw [if_pos (show nI 9 = (9 : Int32) from rfl), gd_pos c.1.1.1, c.1.1.2.1, nn_s, gd_pos st.1.1, c_freeCells st hw.1, cl_s]
    rfl
  · refine fin ?_
    iterate 10 rw [if_neg (by decide)]
    rw [if_pos (show nI 10 = (10 : Int32) from rfl), gd_pos c.1.1.1, c.1.1.2.1, nn_s, gd_pos st.1.1, s7]
    rfl
  · refine fin ?_
    iterate 11 rw [if_neg (by decide)]
    rw [if_pos (show nI 11 = (11 : Int32) from rfl), gd_pos c.1.1.1, c.1.1.2.1, nn_s, gd_pos st.1.1, s8]
    rfl
  · refine fin ?_
    iterate 12 rw [if_neg (by decide)]
    rw [if_pos (show nI 12 = (12 : Int32) from rfl), gd_pos c.1.1.1, c.1.1.2.1, nn_s, gd_pos st.1.1, s9]
    rfl
  · refine fin ?_
    iterate 13 rw [if_neg (by decide)]
    rw [if_pos (show nI 13 = (13 : Int32) from rfl), gd_pos c.1.1.1, c.1.1.2.1, nn_s, gd_pos st.1.1, s5]
    rfl
  · refine fin ?_
    iterate 14 rw [if_neg (by decide)]
    rw [if_pos (show nI 14 = (14 : Int32) from rfl), gd_pos c.1.1.1, x_taken c hN0, cl_s]
    rfl
  · refine fin ?_
    iterate 15 rw [if_neg (by decide)]
    rw [gd_pos c.1.1.1, c.1.1.2.2.2.1, nn_s, gd_pos c.1.2.2.1.1, c.2.2.1.1]
    rfl
end
