section
variable {N : Nat} {S : Hp} {so Ls as_ kn pw c n b mk br : Nat} {M : Nat → Nat} {e : Bool}
theorem ws_lt (hn : n ≤ 12) : wsP M n c mk br < 2 ^ 31 := by
  have q : fb_sm (wtP M c mk br) n ≤ n * 1024 := fb_sm_bound (fun k _ => by
    unfold wtP
    split
    · exact Nat.shiftRight_le 1024 _
    · omega)
  unfold wsP
  omega
theorem th_lt (hl : Lns c n M) : thP M n c mk br < 1024 := thP_lt hl.1 (fun j hj => hl.m10 hj)
theorem Lv_short (hl : Lns c n M) (h0 : winP M n mk br = 0) : Lv c n M mk br 1 = bestS (fre c mk br) (fun i => VV c n M (chK 1 mk i) (chB 1 br i) 2) 10 := by
  unfold Lv bestS
  rw [VV_open hl.1 h0, stepV_10 hl.1]
  generalize hW : (fun i => VV c n M (chK 1 mk i) (chB 1 br i) (3 - 1)) = W
  unfold stepV
  rw [if_pos rfl]
  cases a : anyN (canV (fre c mk br) W) 10
  · rfl
  · rfl
theorem Lv_long (hl : Lns c n M) (h0 : winP M n mk br = 0) : Lv c n M mk br 2 = resL (fre c mk br) (fun i => VV c n M (chK 2 mk i) (chB 2 br i) 1) := by
  unfold Lv resL bestL
  rw [VV_open hl.1 h0, stepV_10 hl.1]
  have all := fun i => VV_12 (n := n) (M := M) (mk := chK 2 mk i) (br := chB 2 br i) (v := 3 - 2) hl.1
  generalize hW : (fun i => VV c n M (chK 2 mk i) (chB 2 br i) (3 - 2)) = W
  have all' : ∀ i, (W i).1 = 1 ∨ (W i).1 = 2 := fun i => by rw [← hW]; exact all i
  unfold stepV
  rw [if_neg (show ¬ (2 = 1) by decide)]
  cases a : anyN (brkV (fre c mk br) W) 10
  · obtain ⟨i, hi⟩ := open_free hl h0
    have i10 := fr_lt hl.1 hi
    have hc := hl.1
    have cn : anyN (canV (fre c mk br) W) 10 = true := anyN_iff.mpr ⟨i, by omega, canV_iff.mpr ⟨hi, by
      rcases all' i with q | q
      · exact q
      · have := anyN_not.mp a i (by omega)
        rw [brkV_iff.mpr ⟨hi, q⟩] at this; cases this⟩⟩
    rw [cn]
    rfl
  · rfl
theorem Lv_one (hl : Lns c n M) (h0 : winP M n mk br = 0) (h1 : pop (thP M n c mk br) = 1) : Lv c n M mk br 2 = resL (thP M n c mk br) (fun i => VV c n M (chK 2 mk i) (chB 2 br i) 1) := by
  have tl := th_lt (mk := mk) (br := br) hl
  obtain ⟨t, t1, t2, -⟩ := fb_ct_kth (p := fun i => (thP M n c mk br).testBit i) (k := 0) (n := 10) (by show 0 < pop _; omega)
  have uni : ∀ i, (thP M n c mk br).testBit i = true → t = i := fun i hi => pop1 tl h1 t2 hi
  unfold Lv resL bestL
  rw [VV_th3 hl h0 t2]
  have kt : (fun i => VV c n M (chK 2 mk i) (chB 2 br i) 1) t = VV c n M mk (br ||| 2 ^ t) 1 := rfl
  generalize (fun i => VV c n M (chK 2 mk i) (chB 2 br i) 1) = W at kt ⊢
  have e12 := VV_12 (n := n) (M := M) (mk := mk) (br := br ||| 2 ^ t) (v := 1) hl.1
  rw [← kt] at e12 ⊢
  by_cases g : (W t).1 = 1
  · have nb : anyN (brkV (thP M n c mk br) W) 10 = false := brkV_no (fun k hk => by rw [← uni k hk, g]; decide)
    have cn : anyN (canV (thP M n c mk br) W) 10 = true := anyN_iff.mpr ⟨t, t1, canV_iff.mpr ⟨t2, g⟩⟩
    have l1 : loN (canV (thP M n c mk br) W) (fun i => (W i).2) 10 = (W t).2 := by
      have a : loN (canV (thP M n c mk br) W) (fun i => (W i).2) 10 ≤ (W t).2 := loN_le (fun k _ q => by
        rw [← uni k (canV_iff.mp q).1]; exact Nat.le_refl _)
      have b : (W t).2 ≤ loN (canV (thP M n c mk br) W) (fun i => (W i).2) 10 := loN_ge (l := fun i => (W i).2) t1 (canV_iff.mpr ⟨t2, g⟩)
      omega
    rw [if_pos g, if_pos rfl, nb, if_neg (by decide), cn, if_pos rfl, l1]
  · have g2 : (W t).1 = 2 := by omega
    have yb : anyN (brkV (thP M n c mk br) W) 10 = true := anyN_iff.mpr ⟨t, t1, brkV_iff.mpr ⟨t2, g2⟩⟩
    rw [if_neg g, yb, if_pos rfl, if_neg (show ¬ (2 = 1) by decide)]
theorem Lv_two (hl : Lns c n M) (h0 : winP M n mk br = 0) (h1 : 2 ≤ pop (thP M n c mk br)) : Lv c n M mk br 2 = 2 := by
  obtain ⟨t, t1, t2, t3⟩ := fb_ct_kth (p := fun i => (thP M n c mk br).testBit i) (k := 0) (n := 10) (by show 0 < pop _; omega)
  obtain ⟨u, u1, u2, u3⟩ := fb_ct_kth (p := fun i => (thP M n c mk br).testBit i) (k := 1) (n := 10) (by show 1 < pop _; omega)
  unfold Lv
  rw [VV_th2 hl h0 t2 u2 (fun q => by rw [q, u3] at t3; cases t3)]
  rfl
/-- the class's search finds the length -/
theorem c_searchD (hN : 12 < N) (hb : b < 2 ^ 27) (hl : Lns c n M) : ∀ (D mk br dep : Nat) (S : Hp), Pos c mk br → pop (fre c mk br) < D → dep ≤ pop (mk ||| br) → SP S so Ls as_ kn pw c n M e b → SEnd Ls kn c n M e b S (Lv c n M mk br (mvr e mk br)) (f_X3_searchD N D S so (nI mk) (nI br) (if mvr e mk br = 1 then 1 else 0) (nI dep)) := by
  intro D
  induction D with
  | zero => intro mk br dep S _ h; exact absurd h (Nat.not_lt_zero _)
  | succ D ihD =>
    intro mk br dep S hp hD hdep h
    have hc := hl.1
    have m1 : mk < 1024 := Nat.lt_of_lt_of_le hp.1 (pw10 hc)
    have m2 : br < 1024 := Nat.lt_of_lt_of_le hp.2.1 (pw10 hc)
    have pl := pl_lt (mk := mk) (br := br)
    have po := pop_le (mk ||| br)
    have ihc : ∀ (v : Nat), mvr e mk br = v → ∀ (S : Hp) (i : Nat), SP S so Ls as_ kn pw c n M e b → (fre c mk br).testBit i = true → SEnd Ls kn c n M e b S (Lv c n M (chK v mk i) (chB v br i) (3 - v)) (f_X3_searchD N D S so (nI (chK v mk i)) (nI (chB v br i)) (if 3 - v = 1 then 1 else 0) (nI (dep + 1))) := by
      intro v hv S i hS hi
      have q := ihD (chK v mk i) (chB v br i) (dep + 1) S (hp.ch hc hi) (by have := pop_ch (v := v) hc hi; omega) (by rw [pop_or_ch hc hi]; omega) hS
      rw [mvr_ch hc hi, hv] at q
      exact q
    have keep : ∀ (T : Hp) (se : Hp → Nat → Int32 → Int32 → Int32 → Int32 → Option (Int32 × Hp)) (x3 x4 : Int32), SP T so Ls as_ kn pw c n M e b → SEnd Ls kn c n M e b T (Lv c n M mk br (mvr e mk br)) (f_X3_searchB_b99 se N so (nI mk) (nI br) x3 x4 T (nI (plV 10 mk br)) (Lv c n M mk br (mvr e mk br))) := by
      intro T se x3 x4 hT
      obtain ⟨U, u1, u2, u3, u4⟩ := c_keep (N := N) hT.1 hT.2 hb hl hp
      unfold f_X3_searchB_b99
      rw [gd_pos hT.1.1.1, u1, cl_s]
      exact ⟨U, rfl, u2, u3, u4⟩
    show SEnd Ls kn c n M e b S _ (f_X3_searchB (f_X3_searchD N D) N S so (nI mk) (nI br) _ (nI dep))
    unfold f_X3_searchB
    rw [if_pos (show nI dep ≤ (10 : Int32) from nI_le (b := 10) (by omega) (by decide)), gd_pos h.1.1.1, c_placeOf h.1 hc hp, cl_s, gd_pos h.1.1.1, c_recall h.1 pl, cl_s]
    by_cases g : hI S kn (plV 10 mk br) >>> ((4 : Int32) &&& 31) = nI b
    · rw [if_pos g, h.2.2 mk br hp g, if_neg (Lv_ne2 hl _ _ _)]
      exact ⟨S, rfl, Fr.rf, rfl, h.2⟩
    · rw [if_neg g, if_pos rfl, gd_pos h.1.1.1, h.1.1.2.1, nn_s, gd_pos h.1.2.1.1.1]
      obtain ⟨T, t1, t2, t3, t4, t5, t6, t7⟩ := c_survey (c := c) h.1.2.1 hN hc (fun j hj => and_all (hl.2 j hj).1) hp.2.2 m1 m2
      have nLk : Ls ≠ kn := ok_ne h.1.2.1.1.1 h.1.2.2.1.1 (by decide)
      have f2 : Fr [Ls, kn] S T := t2.mono (by simp)
      have k1 : hI T Ls 1 = hI S Ls 1 := by rw [t3]; exact h.1.2.1.2.1.1.symm
      have hT : SP T so Ls as_ kn pw c n M e b := ⟨h.1.fr f2 k1, fun x hx => by rw [t2.I (n1 nLk.symm)]; exact h.2.1 x hx, fun a d hpa ht => by
        rw [t2.I (n1 nLk.symm)] at ht ⊢
        exact h.2.2 a d hpa ht⟩
      rw [t1, cl_s, gd_pos hT.1.1.1, hT.1.1.2.1, nn_s, gd_pos hT.1.2.1.1.1, t4]
      have wl := winP_le M n mk br
      refine SEnd.after f2 k1 ?_
      have n12 := h.1.2.1.2.2.1
      by_cases w0 : winP M n mk br = 0
      · rw [if_pos (by rw [w0]; rfl)]
        rcases mvr_12 e mk br with v | v
        · -- the maker moves
          rw [v, if_pos rfl, if_neg (by decide)]
          have fin : SEnd Ls kn c n M e b T (Lv c n M mk br 1) (f_X3_shortest (f_X3_searchD N D) N T so (nI mk) (nI br) (nI dep)) := by
            have tl := th_lt (mk := mk) (br := br) hl
            unfold f_X3_shortest
            rw [gd_pos hT.1.1.1, hT.1.1.2.1, nn_s, gd_pos hT.1.2.1.1.1, t7]
            by_cases th : thP M n c mk br = 0
            · rw [if_pos (by rw [th]; rfl), bd_d, hT.1.2.2.2.2.1, fre_or hc, Lv_short hl w0]
              have q := c_short_l (N := N) (dep := dep) hl hp (fun S i hS hi => ihc 1 v S i hS hi) (W := fun i => VV c n M (chK 1 mk i) (chB 1 br i) 2) (fun _ => rfl) 10 N 0 T rfl (by omega) hT
              exact q
            · rw [if_neg (fun q => th ((nI_eq0 (by omega)).mp q))]
              obtain ⟨t, ht⟩ := Nat.exists_testBit_of_ne_zero th
              refine ⟨T, ?_, Fr.rf, rfl, hT.2⟩
              unfold Lv
              rw [VV_th1 hl w0 ht]
              rfl
          obtain ⟨U, u1, u2, u3, u4⟩ := fin
          rw [u1, cl_s]
          have k := keep U (f_X3_searchD N D) 1 (nI dep) ⟨hT.1.fr u2 u3, u4⟩
          rw [v] at k
          exact k.after u2 u3
        · -- the breaker moves
          rw [v, if_pos (i01.mpr (by decide))]
          have fin : SEnd Ls kn c n M e b T (Lv c n M mk br 2) (f_X3_longest (f_X3_searchD N D) N T so (nI mk) (nI br) (nI dep)) := by
            have tl := th_lt (mk := mk) (br := br) hl
            have wt := ws_lt (M := M) (c := c) (mk := mk) (br := br) n12
            have pt := pop_le (thP M n c mk br)
            unfold f_X3_longest
            rw [gd_pos hT.1.1.1, hT.1.1.2.1, nn_s, gd_pos hT.1.2.1.1.1, t6, t7]
            by_cases ww : 1024 ≤ wsP M n c mk br
            · rw [if_pos (show (1024 : Int32) ≤ nI (wsP M n c mk br) from nI_le (a := 1024) ww wt), bitc_pop _ tl]
              by_cases p1 : pop (thP M n c mk br) ≤ 1
              · rw [if_pos (show nI (pop (thP M n c mk br)) ≤ (1 : Int32) from nI_le (b := 1) p1 (by decide))]
                by_cases th : thP M n c mk br = 0
                · rw [if_pos (by rw [th]; rfl), bd_d, hT.1.2.2.2.2.1, fre_or hc, Lv_long hl w0]
                  exact c_long_l (N := N) (dep := dep) hl hp (fun i hi => hi) (fun S i hS hi => ihc 2 v S i hS hi) (W := fun i => VV c n M (chK 2 mk i) (chB 2 br i) 1) (fun _ => rfl) 10 N 0 T rfl (by omega) hT rfl
                · rw [if_neg (fun q => th ((nI_eq0 (by omega)).mp q))]
                  have p0 : pop (thP M n c mk br) ≠ 0 := fun q => th ((pop_0 tl).mp q)
                  rw [Lv_one hl w0 (by omega)]
                  exact c_long_l (N := N) (dep := dep) hl hp (fun i hi => th_free hi) (fun S i hS hi => ihc 2 v S i hS hi) (W := fun i => VV c n M (chK 2 mk i) (chB 2 br i) 1) (fun _ => rfl) 10 N 0 T rfl (by omega) hT rfl
              · rw [if_neg (show ¬ nI (pop (thP M n c mk br)) ≤ (1 : Int32) from nle_i (b := 1) (by omega) (by omega)), Lv_two hl w0 (by omega)]
                exact ⟨T, rfl, Fr.rf, rfl, hT.2⟩
            · rw [if_neg (show ¬ (1024 : Int32) ≤ nI (wsP M n c mk br) from nle_i (a := 1024) (by omega) (by decide))]
              have hb2 := holds_board hl _ mk br (Nat.le_refl _) hp (by omega)
              refine ⟨T, ?_, Fr.rf, rfl, hT.2⟩
              unfold Lv
              rw [if_neg (by rw [hb2]; decide)]
          obtain ⟨U, u1, u2, u3, u4⟩ := fin
          rw [u1, cl_s]
          have k := keep U (f_X3_searchD N D) 0 (nI dep) ⟨hT.1.fr u2 u3, u4⟩
          rw [v] at k
          exact k.after u2 u3
      · rw [if_neg (fun q => w0 ((nI_eq0 (by omega)).mp q))]
        unfold f_X3_searchB_b67
        by_cases w1 : winP M n mk br = 1
        · have el : Lv c n M mk br (mvr e mk br) = 0 := by
            unfold Lv
            rw [VV_won w0, w1]
            rfl
          rw [if_pos (by rw [w1]; rfl)]
          have k := keep T (f_X3_searchD N D) (if mvr e mk br = 1 then 1 else 0) (nI dep) hT
          rw [el] at k ⊢
          exact k
        · have el : Lv c n M mk br (mvr e mk br) = -1 := by
            unfold Lv
            rw [VV_won w0, if_neg w1]
          rw [if_neg (fun q => w1 ((nI_eq1 (by omega)).mp q))]
          have k := keep T (f_X3_searchD N D) (if mvr e mk br = 1 then 1 else 0) (nI dep) hT
          rw [el] at k ⊢
          exact k
end
