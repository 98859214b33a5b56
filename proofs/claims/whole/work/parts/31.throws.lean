def e_X6_begin_b11 (N : Nat) (a0 : Nat) (x1 : Int32) (S : Hp) : Option (String × Hp) :=
  some ("java/lang/IllegalArgumentException", S)
def e_X6_begin (N : Nat) (S : Hp) (a0 : Nat) (x1 : Int32) : Option (String × Hp) :=
  if x1 < (2 : Int32) then (e_X6_begin_b11 N a0 x1 S) else (if x1 ≤ (10 : Int32) then (none) else (e_X6_begin_b11 N a0 x1 S))
abbrev rmT_X6_begin : Room := { frames := 6, cells := 1, slots := 6, locals := 90 }
set_option maxHeartbeats 4000000 in
set_option maxRecDepth 100000 in
theorem t_X6_begin (l : Launch) (hlt : l.stackTraces = false) (D : va_G) (C : C3) (N : Nat) (S0 : Hp) (z : Nat) (a0 : Nat) (x1 : Int32) (r : String) (S9 : Hp) (hg : e_X6_begin N S0 a0 x1 = some (r, S9)) : MetT l yX6_begin wsX6_begin rmT_X6_begin D C S0 z [.ref a0, .int x1] r S9 := by
  refine tw_ofW (cc := cX6_begin) (maxL := 3) (ret := (some .int)) (lv := [(0, .ref a0), (1, .int x1)]) (by decide) rfl (Nat.le_of_ble_eq_true rfl) rfl ?_
  intro p e s m below meth c ls hx hb hr hts hown hlk hml htab hthr hl hw
  have hown : s.vm.findClass RX6 = some m.cls := hown
  have B11 : ∀ (S : Hp) (H : Heap) (locs : List Loc) (ls : Array Slot), e_X6_begin_b11 N a0 x1 S = some (r, S9) → Wd D C (va_A (wP C S0) z) s.heap S z H locs s → lv_has ls 3 [] → W p l e rmT_X6_begin s m ([.ref a0, .int x1] : List Value).toArray below meth c H locs 0 0 (vx_MQ below QnT (XcT D C S0 z r S9) ([.ref a0, .int x1] : List Value).toArray s 1 6 (va_A (wP C S0) z)) (F0 m 11 ls []) := by
    intro S H locs ls hg hw hl
    unfold e_X6_begin_b11 at hg
    cases hg
    obtain ⟨sa, hsa⟩ := hthr.2.2.1 (53, "a board has 2 to 10 cells") (List.mem_of_getElem? (i := 0) rfl)
    exact vx_throwS (own := RX6) (cls := "java/lang/IllegalArgumentException") (text := "a board has 2 to 10 cells") (names := exN) (ik := 51) (is := 53) (ic := 55) (sa := sa) hx hb hlt hown (by decide +kernel) (by decide +kernel) (hts _ (List.mem_of_getElem? (i := 1) rfl)) (hts _ (List.mem_of_getElem? (i := 2) rfl)) hsa (vx_hat (fun w h => hts w (List.mem_cons_of_mem _ (List.mem_append_right _ (h)))) (fun w h => by rw [vb_IAE] at h; exact h) (fun w h => va_Nw.use (thrB_t h) (hthr.2.2.2.2.2.2 _ (by decide) w h))) vg_IAE hthr.1 hthr.2.1 hw.2.2.2.1 (hl.1.trans hml.symm) dX6_begin_11 dX6_begin_14 dX6_begin_15 dX6_begin_17 dX6_begin_20 (fun x9 hx9 => (htab x9 hx9).elim) (Nat.le_of_ble_eq_true rfl) (Nat.le_of_ble_eq_true rfl) (Nat.le_of_ble_eq_true rfl) (Nat.le_of_ble_eq_true rfl) hlk (fun t _ hz9 hq9 => wd_thr hw hz9 hq9) hw.2.2.2.1.2.2 (Nat.le_of_ble_eq_true rfl) (Nat.le_of_ble_eq_true rfl)
  have B0 : ∀ (S : Hp) (H : Heap) (locs : List Loc) (ls : Array Slot), e_X6_begin N S a0 x1 = some (r, S9) → Wd D C (va_A (wP C S0) z) s.heap S z H locs s → lv_has ls 3 [(0, .ref a0), (1, .int x1)] → W p l e rmT_X6_begin s m ([.ref a0, .int x1] : List Value).toArray below meth c H locs 0 0 (vx_MQ below QnT (XcT D C S0 z r S9) ([.ref a0, .int x1] : List Value).toArray s 1 6 (va_A (wP C S0) z)) (F0 m 0 ls []) := by
    intro S H locs ls hg hw hl
    unfold e_X6_begin at hg
    refine lv_iload_n hx hb dX6_begin_0 rfl (lv_at hl 1 rfl) ?_
    refine lv_iconst (v := (2 : Int32)) hx hb dX6_begin_1 (by decide) ?_
    refine lv_icmp_lt (tgt := 11) hx hb dX6_begin_2 (by decide) (fun c10 => ?_) (fun c10 => ?_)
    · have hg := it_pos hg c10
      exact B11 _ _ _ _ hg hw (lv_sub hl [] rfl)
    · have hg := it_neg hg c10
      refine lv_iload_n hx hb dX6_begin_5 rfl (lv_at hl 1 rfl) ?_
      refine lv_bipush (v := (10 : Int32)) hx hb dX6_begin_6 (by decide) ?_
      refine lv_icmp_le (tgt := 21) hx hb dX6_begin_8 (by decide) (fun c11 => ?_) (fun c11 => ?_)
      · have hg := it_pos hg c11
        exact absurd hg (by simp)
      · have hg := it_neg hg c11
        exact B11 _ _ _ _ hg hw (lv_sub hl [] rfl)
  exact B0 S0 _ _ _ hg hw hl
def e_X6_addLine_b18 (N : Nat) (a0 : Nat) (x1 : Int32) (S : Hp) : Option (String × Hp) :=
  some ("java/lang/IllegalArgumentException", S)
def e_X6_addLine (N : Nat) (S : Hp) (a0 : Nat) (x1 : Int32) : Option (String × Hp) :=
  if x1 = 0 then (e_X6_addLine_b18 N a0 x1 S) else (gd (ok S a0 6) <| nn (hR S a0 0) fun r12 => gd (ok S r12 4) <| cl (f_X4_allCells N S r12) fun r14 S14 => if (x1 &&& (r14 ^^^ (-1 : Int32))) = 0 then (gd (ok S14 a0 6) <| nn (hR S14 a0 0) fun r17 => gd (ok S14 r17 4) <| nn (hR S14 r17 0) fun r19 => gd (ok S14 r19 1) <| if (hI S14 r19 1) < (12 : Int32) then (none) else (some ("java/lang/IllegalStateException", S14))) else (e_X6_addLine_b18 N a0 x1 S14))
theorem hit_X6_addLine_X1 : ∀ w ∈ wsX10, w ∈ wsX6_addLine := fun _ h => List.mem_cons_of_mem _ (List.mem_append_left _ (List.mem_append_left _ (List.mem_append_left _ (List.mem_append_right _ (h)))))
theorem hit_X6_addLine_X4 : ∀ w ∈ wsX40, w ∈ wsX6_addLine := fun _ h => List.mem_cons_of_mem _ (List.mem_append_left _ (List.mem_append_left _ (List.mem_append_left _ (List.mem_append_left _ (List.mem_append_right _ (h))))))
theorem hit_X6_addLine_X6 : ∀ w ∈ wsX60, w ∈ wsX6_addLine := fun _ h => List.mem_cons_of_mem _ (List.mem_append_left _ (List.mem_append_left _ (List.mem_append_left _ (List.mem_append_left _ (List.mem_append_left _ (List.mem_append_right _ (h)))))))
abbrev rmT_X6_addLine : Room := { frames := 6, cells := 1, slots := 6, locals := 90 }
set_option maxHeartbeats 4000000 in
set_option maxRecDepth 100000 in
theorem t_X6_addLine (l : Launch) (hlt : l.stackTraces = false) (D : va_G) (C : C3) (N : Nat) (S0 : Hp) (z : Nat) (a0 : Nat) (x1 : Int32) (r : String) (S9 : Hp) (hg : e_X6_addLine N S0 a0 x1 = some (r, S9)) : MetT l yX6_addLine wsX6_addLine rmT_X6_addLine D C S0 z [.ref a0, .int x1] r S9 := by
  refine tw_ofW (cc := cX6_addLine) (maxL := 2) (ret := (some .int)) (lv := [(0, .ref a0), (1, .int x1)]) (by decide) rfl (Nat.le_of_ble_eq_true rfl) rfl ?_
  intro p e s m below meth c ls hx hb hr hts hown hlk hml htab hthr hl hw
  have hown : s.vm.findClass RX6 = some m.cls := hown
  have B18 : ∀ (S : Hp) (H : Heap) (locs : List Loc) (ls : Array Slot), e_X6_addLine_b18 N a0 x1 S = some (r, S9) → Wd D C (va_A (wP C S0) z) s.heap S z H locs s → lv_has ls 2 [] → W p l e rmT_X6_addLine s m ([.ref a0, .int x1] : List Value).toArray below meth c H locs 0 0 (vx_MQ below QnT (XcT D C S0 z r S9) ([.ref a0, .int x1] : List Value).toArray s 1 6 (va_A (wP C S0) z)) (F0 m 18 ls []) := by
    intro S H locs ls hg hw hl
    unfold e_X6_addLine_b18 at hg
    cases hg
    obtain ⟨sa, hsa⟩ := hthr.2.2.1 (83, "a line has one or more cells of the board") (List.mem_of_getElem? (i := 1) rfl)
    exact vx_throwS (own := RX6) (cls := "java/lang/IllegalArgumentException") (text := "a line has one or more cells of the board") (names := exN) (ik := 51) (is := 83) (ic := 55) (sa := sa) hx hb hlt hown (by decide +kernel) (by decide +kernel) (hts _ (List.mem_of_getElem? (i := 1) rfl)) (hts _ (List.mem_of_getElem? (i := 2) rfl)) hsa (vx_hat (fun w h => hts w (List.mem_cons_of_mem _ (List.mem_append_left _ (List.mem_append_right _ (h))))) (fun w h => by rw [vb_IAE] at h; exact h) (fun w h => va_Nw.use (thrB_t h) (hthr.2.2.2.2.2.2 _ (by decide) w h))) vg_IAE hthr.1 hthr.2.1 hw.2.2.2.1 (hl.1.trans hml.symm) dX6_addLine_18 dX6_addLine_21 dX6_addLine_22 dX6_addLine_24 dX6_addLine_27 (fun x9 hx9 => (htab x9 hx9).elim) (Nat.le_of_ble_eq_true rfl) (Nat.le_of_ble_eq_true rfl) (Nat.le_of_ble_eq_true rfl) (Nat.le_of_ble_eq_true rfl) hlk (fun t _ hz9 hq9 => wd_thr hw hz9 hq9) hw.2.2.2.1.2.2 (Nat.le_of_ble_eq_true rfl) (Nat.le_of_ble_eq_true rfl)
  have B0 : ∀ (S : Hp) (H : Heap) (locs : List Loc) (ls : Array Slot), e_X6_addLine N S a0 x1 = some (r, S9) → Wd D C (va_A (wP C S0) z) s.heap S z H locs s → lv_has ls 2 [(0, .ref a0), (1, .int x1)] → W p l e rmT_X6_addLine s m ([.ref a0, .int x1] : List Value).toArray below meth c H locs 0 0 (vx_MQ below QnT (XcT D C S0 z r S9) ([.ref a0, .int x1] : List Value).toArray s 1 6 (va_A (wP C S0) z)) (F0 m 0 ls []) := by
    intro S H locs ls hg hw hl
    unfold e_X6_addLine at hg
    refine lv_iload_n hx hb dX6_addLine_0 rfl (lv_at hl 1 rfl) ?_
    refine lv_if_eq (tgt := 18) hx hb dX6_addLine_1 (by decide) (fun c10 => ?_) (fun c10 => ?_)
    · have hg := it_pos hg c10
      exact B18 _ _ _ _ hg hw (lv_sub hl [] rfl)
    · have hg := it_neg hg c10
      refine lv_iload_n hx hb dX6_addLine_4 rfl (lv_at hl 1 rfl) ?_
      refine lv_aload_n hx hb dX6_addLine_5 rfl (lv_at hl 0 rfl) ?_
      obtain ⟨hok11, hg⟩ := gd_some hg
      obtain ⟨r12, hr12, hg⟩ := nn_some hg
      refine wr_get (K := RX6) (T := TX6) (N := 7) (index := 12) (ref := "MakerLines") (v := .ref r12) hx hb hts hit_X6_addLine_X6 hown hw hok11 (wF_6 (S := S) hok11.2) rfl 0 (by decide) (hts _ (List.mem_of_getElem? (i := 5) rfl)) (fun _ h9 => h9) (congrArg (fun o => some (va_rf o)) hr12) dX6_addLine_6 ?_
      obtain ⟨hok13, hg⟩ := gd_some hg
      obtain ⟨r14, S14, hc14, hg⟩ := cl_some hg
      refine wr_ci (va_runV (As := []) (rest := [.int x1]) ⟨hx, hb, hml, hown, hts⟩ (c_X4_allCells l D C N S z r12 r14 S14 hc14) (cwV 0 hts gX6_addLine_X4_allCells rfl rfl rfl (by decide +kernel) ⟨Nat.le_of_ble_eq_true rfl, Nat.le_of_ble_eq_true rfl⟩) (wd_preV hw hok13 (wF_4 (S := S) hok13.2) rfl) rfl rfl hl.1 rfl (lv_room (Nat.le_of_ble_eq_true rfl)) dX6_addLine_9 ⟨Nat.zero_le _, Nat.zero_le _⟩) hw (fun H locs hw => ?_)
      refine lv_iconst (v := (-1 : Int32)) hx hb dX6_addLine_12 (by decide) ?_
      refine lv_ixor hx hb dX6_addLine_13 ?_
      refine lv_iand hx hb dX6_addLine_14 ?_
      refine lv_if_eq (tgt := 28) hx hb dX6_addLine_15 (by decide) (fun c15 => ?_) (fun c15 => ?_)
      · have hg := it_pos hg c15
        refine lv_aload_n hx hb dX6_addLine_28 rfl (lv_at hl 0 rfl) ?_
        obtain ⟨hok16, hg⟩ := gd_some hg
        obtain ⟨r17, hr17, hg⟩ := nn_some hg
        refine wr_get (K := RX6) (T := TX6) (N := 7) (index := 12) (ref := "MakerLines") (v := .ref r17) hx hb hts hit_X6_addLine_X6 hown hw hok16 (wF_6 (S := S14) hok16.2) rfl 0 (by decide) (hts _ (List.mem_of_getElem? (i := 5) rfl)) (fun _ h9 => h9) (congrArg (fun o => some (va_rf o)) hr17) dX6_addLine_29 ?_
        obtain ⟨hok18, hg⟩ := gd_some hg
        obtain ⟨r19, hr19, hg⟩ := nn_some hg
        refine wr_get (K := RX4) (T := TX4) (N := 10) (index := 66) (ref := "MakerLines$State") (v := .ref r19) hx hb hts hit_X6_addLine_X4 hown hw hok18 (wF_4 (S := S14) hok18.2) rfl 0 (by decide) (hts _ (List.mem_of_getElem? (i := 6) rfl)) (fun _ h9 => h9) (congrArg (fun o => some (va_rf o)) hr19) dX6_addLine_32 ?_
        obtain ⟨hok20, hg⟩ := gd_some hg
        refine wr_get (K := RX1) (T := TX1) (N := 6) (index := 70) (ref := "MakerLines$Lines") (v := .int (hI S14 r19 1)) hx hb hts hit_X6_addLine_X1 hown hw hok20 (wF_1 (S := S14) hok20.2) rfl 1 (by decide) (hts _ (List.mem_of_getElem? (i := 7) rfl)) (fun _ h9 => h9) rfl dX6_addLine_35 ?_
        refine lv_bipush (v := (12 : Int32)) hx hb dX6_addLine_38 (by decide) ?_
        refine lv_icmp_lt (tgt := 53) hx hb dX6_addLine_40 (by decide) (fun c21 => ?_) (fun c21 => ?_)
        · have hg := it_pos hg c21
          exact absurd hg (by simp)
        · have hg := it_neg hg c21
          cases hg
          obtain ⟨sa, hsa⟩ := hthr.2.2.1 (87, "there are 12 lines") (List.mem_of_getElem? (i := 2) rfl)
          exact vx_throwS (own := RX6) (cls := "java/lang/IllegalStateException") (text := "there are 12 lines") (names := exN) (ik := 85) (is := 87) (ic := 89) (sa := sa) hx hb hlt hown (by decide +kernel) (by decide +kernel) (hts _ (List.mem_of_getElem? (i := 3) rfl)) (hts _ (List.mem_of_getElem? (i := 4) rfl)) hsa (vx_hat (fun w h => hts w (List.mem_cons_of_mem _ (List.mem_append_right _ (h)))) (fun w h => by rw [vb_ISE] at h; exact h) (fun w h => va_Nw.use (thrB_t h) (hthr.2.2.2.2.2.2 _ (by decide) w h))) vg_ISE hthr.1 hthr.2.1 hw.2.2.2.1 (hl.1.trans hml.symm) dX6_addLine_43 dX6_addLine_46 dX6_addLine_47 dX6_addLine_49 dX6_addLine_52 (fun x9 hx9 => (htab x9 hx9).elim) (Nat.le_of_ble_eq_true rfl) (Nat.le_of_ble_eq_true rfl) (Nat.le_of_ble_eq_true rfl) (Nat.le_of_ble_eq_true rfl) hlk (fun t _ hz9 hq9 => wd_thr hw hz9 hq9) hw.2.2.2.1.2.2 (Nat.le_of_ble_eq_true rfl) (Nat.le_of_ble_eq_true rfl)
      · have hg := it_neg hg c15
        exact B18 _ _ _ _ hg hw (lv_sub hl [] rfl)
  exact B0 S0 _ _ _ hg hw hl
def e_X6_removeLine (N : Nat) (S : Hp) (a0 : Nat) (x1 : Int32) : Option (String × Hp) :=
  gd (ok S a0 6) <| nn (hR S a0 0) fun r11 => gd (ok S r11 4) <| nn (hR S r11 0) fun r13 => gd (ok S r13 1) <| cl (f_X1_has N S r13 x1) fun r15 S15 => if r15 = 0 then (some ("java/lang/IndexOutOfBoundsException", S15)) else (none)
theorem hit_X6_removeLine_X4 : ∀ w ∈ wsX40, w ∈ wsX6_removeLine := fun _ h => List.mem_cons_of_mem _ (List.mem_append_left _ (List.mem_append_left _ (List.mem_append_left _ (List.mem_append_right _ (h)))))
theorem hit_X6_removeLine_X6 : ∀ w ∈ wsX60, w ∈ wsX6_removeLine := fun _ h => List.mem_cons_of_mem _ (List.mem_append_left _ (List.mem_append_left _ (List.mem_append_left _ (List.mem_append_left _ (List.mem_append_right _ (h))))))
abbrev rmT_X6_removeLine : Room := { frames := 6, cells := 1, slots := 6, locals := 90 }
set_option maxHeartbeats 4000000 in
set_option maxRecDepth 100000 in
theorem t_X6_removeLine (l : Launch) (hlt : l.stackTraces = false) (D : va_G) (C : C3) (N : Nat) (S0 : Hp) (z : Nat) (a0 : Nat) (x1 : Int32) (r : String) (S9 : Hp) (hg : e_X6_removeLine N S0 a0 x1 = some (r, S9)) : MetT l yX6_removeLine wsX6_removeLine rmT_X6_removeLine D C S0 z [.ref a0, .int x1] r S9 := by
  refine tw_ofW (cc := cX6_removeLine) (maxL := 3) (ret := (some .int)) (lv := [(0, .ref a0), (1, .int x1)]) (by decide) rfl (Nat.le_of_ble_eq_true rfl) rfl ?_
  intro p e s m below meth c ls hx hb hr hts hown hlk hml htab hthr hl hw
  have hown : s.vm.findClass RX6 = some m.cls := hown
  have B0 : ∀ (S : Hp) (H : Heap) (locs : List Loc) (ls : Array Slot), e_X6_removeLine N S a0 x1 = some (r, S9) → Wd D C (va_A (wP C S0) z) s.heap S z H locs s → lv_has ls 3 [(0, .ref a0), (1, .int x1)] → W p l e rmT_X6_removeLine s m ([.ref a0, .int x1] : List Value).toArray below meth c H locs 0 0 (vx_MQ below QnT (XcT D C S0 z r S9) ([.ref a0, .int x1] : List Value).toArray s 1 6 (va_A (wP C S0) z)) (F0 m 0 ls []) := by
    intro S H locs ls hg hw hl
    unfold e_X6_removeLine at hg
    refine lv_aload_n hx hb dX6_removeLine_0 rfl (lv_at hl 0 rfl) ?_
    obtain ⟨hok10, hg⟩ := gd_some hg
    obtain ⟨r11, hr11, hg⟩ := nn_some hg
    refine wr_get (K := RX6) (T := TX6) (N := 7) (index := 12) (ref := "MakerLines") (v := .ref r11) hx hb hts hit_X6_removeLine_X6 hown hw hok10 (wF_6 (S := S) hok10.2) rfl 0 (by decide) (hts _ (List.mem_of_getElem? (i := 3) rfl)) (fun _ h9 => h9) (congrArg (fun o => some (va_rf o)) hr11) dX6_removeLine_1 ?_
    obtain ⟨hok12, hg⟩ := gd_some hg
    obtain ⟨r13, hr13, hg⟩ := nn_some hg
    refine wr_get (K := RX4) (T := TX4) (N := 10) (index := 66) (ref := "MakerLines$State") (v := .ref r13) hx hb hts hit_X6_removeLine_X4 hown hw hok12 (wF_4 (S := S) hok12.2) rfl 0 (by decide) (hts _ (List.mem_of_getElem? (i := 4) rfl)) (fun _ h9 => h9) (congrArg (fun o => some (va_rf o)) hr13) dX6_removeLine_4 ?_
    refine lv_iload_n hx hb dX6_removeLine_7 rfl (lv_at hl 1 rfl) ?_
    obtain ⟨hok14, hg⟩ := gd_some hg
    obtain ⟨r15, S15, hc15, hg⟩ := cl_some hg
    refine wr_ci (va_runV (As := [.int x1]) (rest := []) ⟨hx, hb, hml, hown, hts⟩ (c_X1_has l D C N S z r13 x1 r15 S15 hc15) (cwV 1 hts gX6_removeLine_X1_has rfl rfl rfl (by decide +kernel) ⟨Nat.le_of_ble_eq_true rfl, Nat.le_of_ble_eq_true rfl⟩) (wd_preV hw hok14 (wF_1 (S := S) hok14.2) rfl) rfl rfl hl.1 rfl (lv_room (Nat.le_of_ble_eq_true rfl)) dX6_removeLine_8 ⟨Nat.zero_le _, Nat.zero_le _⟩) hw (fun H locs hw => ?_)
    refine lv_if_ne (tgt := 24) hx hb dX6_removeLine_11 (by decide) (fun c16 => ?_) (fun c16 => ?_)
    · have hg := it_neg hg c16
      exact absurd hg (by simp)
    · have hg := it_pos hg c16
      cases hg
      obtain ⟨sa, hsa⟩ := hthr.2.2.1 (100, "there is no such line") (List.mem_of_getElem? (i := 3) rfl)
      exact vx_throwS (own := RX6) (cls := "java/lang/IndexOutOfBoundsException") (text := "there is no such line") (names := exN) (ik := 98) (is := 100) (ic := 102) (sa := sa) hx hb hlt hown (by decide +kernel) (by decide +kernel) (hts _ (List.mem_of_getElem? (i := 1) rfl)) (hts _ (List.mem_of_getElem? (i := 2) rfl)) hsa (vx_hat (fun w h => hts w (List.mem_cons_of_mem _ (List.mem_append_right _ (h)))) (fun w h => by rw [vb_IOE] at h; exact h) (fun w h => va_Nw.use (thrB_t h) (hthr.2.2.2.2.2.2 _ (by decide) w h))) vg_IOE hthr.1 hthr.2.1 hw.2.2.2.1 (hl.1.trans hml.symm) dX6_removeLine_14 dX6_removeLine_17 dX6_removeLine_18 dX6_removeLine_20 dX6_removeLine_23 (fun x9 hx9 => (htab x9 hx9).elim) (Nat.le_of_ble_eq_true rfl) (Nat.le_of_ble_eq_true rfl) (Nat.le_of_ble_eq_true rfl) (Nat.le_of_ble_eq_true rfl) hlk (fun t _ hz9 hq9 => wd_thr hw hz9 hq9) hw.2.2.2.1.2.2 (Nat.le_of_ble_eq_true rfl) (Nat.le_of_ble_eq_true rfl)
  exact B0 S0 _ _ _ hg hw hl
def e_X6_move_b42 (N : Nat) (a0 : Nat) (x1 : Int32) (S : Hp) : Option (String × Hp) :=
  some ("java/lang/IllegalStateException", S)
def e_X6_move (N : Nat) (S : Hp) (a0 : Nat) (x1 : Int32) : Option (String × Hp) :=
  gd (ok S a0 6) <| nn (hR S a0 0) fun r11 => gd (ok S r11 4) <| cl (f_X4_hasCell N S r11 x1) fun r13 S13 => if r13 = 0 then (some ("java/lang/IndexOutOfBoundsException", S13)) else (gd (ok S13 a0 6) <| nn (hR S13 a0 0) fun r16 => gd (ok S13 r16 4) <| cl (f_X4_winner N S13 r16) fun r18 S18 => if r18 = 0 then (gd (ok S18 a0 6) <| nn (hR S18 a0 0) fun r21 => gd (ok S18 r21 4) <| cl (f_X4_isFree N S18 r21 x1) fun r23 S23 => if r23 = 0 then (e_X6_move_b42 N a0 x1 S23) else (none)) else (e_X6_move_b42 N a0 x1 S18))
theorem hit_X6_move_X6 : ∀ w ∈ wsX60, w ∈ wsX6_move := fun _ h => List.mem_cons_of_mem _ (List.mem_append_left _ (List.mem_append_left _ (List.mem_append_left _ (List.mem_append_left _ (List.mem_append_left _ (List.mem_append_left _ (List.mem_append_right _ (h))))))))
abbrev rmT_X6_move : Room := { frames := 6, cells := 1, slots := 6, locals := 90 }
set_option maxHeartbeats 4000000 in
set_option maxRecDepth 100000 in
theorem t_X6_move (l : Launch) (hlt : l.stackTraces = false) (D : va_G) (C : C3) (N : Nat) (S0 : Hp) (z : Nat) (a0 : Nat) (x1 : Int32) (r : String) (S9 : Hp) (hg : e_X6_move N S0 a0 x1 = some (r, S9)) : MetT l yX6_move wsX6_move rmT_X6_move D C S0 z [.ref a0, .int x1] r S9 := by
  refine tw_ofW (cc := cX6_move) (maxL := 2) (ret := (some .int)) (lv := [(0, .ref a0), (1, .int x1)]) (by decide) rfl (Nat.le_of_ble_eq_true rfl) rfl ?_
  intro p e s m below meth c ls hx hb hr hts hown hlk hml htab hthr hl hw
  have hown : s.vm.findClass RX6 = some m.cls := hown
  have B42 : ∀ (S : Hp) (H : Heap) (locs : List Loc) (ls : Array Slot), e_X6_move_b42 N a0 x1 S = some (r, S9) → Wd D C (va_A (wP C S0) z) s.heap S z H locs s → lv_has ls 2 [] → W p l e rmT_X6_move s m ([.ref a0, .int x1] : List Value).toArray below meth c H locs 0 0 (vx_MQ below QnT (XcT D C S0 z r S9) ([.ref a0, .int x1] : List Value).toArray s 1 6 (va_A (wP C S0) z)) (F0 m 42 ls []) := by
    intro S H locs ls hg hw hl
    unfold e_X6_move_b42 at hg
    cases hg
    obtain ⟨sa, hsa⟩ := hthr.2.2.1 (132, "the game is not open, or the cell is not free") (List.mem_of_getElem? (i := 5) rfl)
    exact vx_throwS (own := RX6) (cls := "java/lang/IllegalStateException") (text := "the game is not open, or the cell is not free") (names := exN) (ik := 85) (is := 132) (ic := 89) (sa := sa) hx hb hlt hown (by decide +kernel) (by decide +kernel) (hts _ (List.mem_of_getElem? (i := 3) rfl)) (hts _ (List.mem_of_getElem? (i := 4) rfl)) hsa (vx_hat (fun w h => hts w (List.mem_cons_of_mem _ (List.mem_append_right _ (h)))) (fun w h => by rw [vb_ISE] at h; exact h) (fun w h => va_Nw.use (thrB_t h) (hthr.2.2.2.2.2.2 _ (by decide) w h))) vg_ISE hthr.1 hthr.2.1 hw.2.2.2.1 (hl.1.trans hml.symm) dX6_move_42 dX6_move_45 dX6_move_46 dX6_move_48 dX6_move_51 (fun x9 hx9 => (htab x9 hx9).elim) (Nat.le_of_ble_eq_true rfl) (Nat.le_of_ble_eq_true rfl) (Nat.le_of_ble_eq_true rfl) (Nat.le_of_ble_eq_true rfl) hlk (fun t _ hz9 hq9 => wd_thr hw hz9 hq9) hw.2.2.2.1.2.2 (Nat.le_of_ble_eq_true rfl) (Nat.le_of_ble_eq_true rfl)
  have B0 : ∀ (S : Hp) (H : Heap) (locs : List Loc) (ls : Array Slot), e_X6_move N S a0 x1 = some (r, S9) → Wd D C (va_A (wP C S0) z) s.heap S z H locs s → lv_has ls 2 [(0, .ref a0), (1, .int x1)] → W p l e rmT_X6_move s m ([.ref a0, .int x1] : List Value).toArray below meth c H locs 0 0 (vx_MQ below QnT (XcT D C S0 z r S9) ([.ref a0, .int x1] : List Value).toArray s 1 6 (va_A (wP C S0) z)) (F0 m 0 ls []) := by
    intro S H locs ls hg hw hl
    unfold e_X6_move at hg
    refine lv_aload_n hx hb dX6_move_0 rfl (lv_at hl 0 rfl) ?_
    obtain ⟨hok10, hg⟩ := gd_some hg
    obtain ⟨r11, hr11, hg⟩ := nn_some hg
    refine wr_get (K := RX6) (T := TX6) (N := 7) (index := 12) (ref := "MakerLines") (v := .ref r11) hx hb hts hit_X6_move_X6 hown hw hok10 (wF_6 (S := S) hok10.2) rfl 0 (by decide) (hts _ (List.mem_of_getElem? (i := 5) rfl)) (fun _ h9 => h9) (congrArg (fun o => some (va_rf o)) hr11) dX6_move_1 ?_
    refine lv_iload_n hx hb dX6_move_4 rfl (lv_at hl 1 rfl) ?_
    obtain ⟨hok12, hg⟩ := gd_some hg
    obtain ⟨r13, S13, hc13, hg⟩ := cl_some hg
    refine wr_ci (va_runV (As := [.int x1]) (rest := []) ⟨hx, hb, hml, hown, hts⟩ (c_X4_hasCell l D C N S z r11 x1 r13 S13 hc13) (cwV 1 hts gX6_move_X4_hasCell rfl rfl rfl (by decide +kernel) ⟨Nat.le_of_ble_eq_true rfl, Nat.le_of_ble_eq_true rfl⟩) (wd_preV hw hok12 (wF_4 (S := S) hok12.2) rfl) rfl rfl hl.1 rfl (lv_room (Nat.le_of_ble_eq_true rfl)) dX6_move_5 ⟨Nat.zero_le _, Nat.zero_le _⟩) hw (fun H locs hw => ?_)
    refine lv_if_ne (tgt := 21) hx hb dX6_move_8 (by decide) (fun c14 => ?_) (fun c14 => ?_)
    · have hg := it_neg hg c14
      refine lv_aload_n hx hb dX6_move_21 rfl (lv_at hl 0 rfl) ?_
      obtain ⟨hok15, hg⟩ := gd_some hg
      obtain ⟨r16, hr16, hg⟩ := nn_some hg
      refine wr_get (K := RX6) (T := TX6) (N := 7) (index := 12) (ref := "MakerLines") (v := .ref r16) hx hb hts hit_X6_move_X6 hown hw hok15 (wF_6 (S := S13) hok15.2) rfl 0 (by decide) (hts _ (List.mem_of_getElem? (i := 5) rfl)) (fun _ h9 => h9) (congrArg (fun o => some (va_rf o)) hr16) dX6_move_22 ?_
      obtain ⟨hok17, hg⟩ := gd_some hg
      obtain ⟨r18, S18, hc18, hg⟩ := cl_some hg
      refine wr_ci (va_runV (As := []) (rest := []) ⟨hx, hb, hml, hown, hts⟩ (c_X4_winner l D C N S13 z r16 r18 S18 hc18) (cwV 0 hts gX6_move_X4_winner rfl rfl rfl (by decide +kernel) ⟨Nat.le_of_ble_eq_true rfl, Nat.le_of_ble_eq_true rfl⟩) (wd_preV hw hok17 (wF_4 (S := S13) hok17.2) rfl) rfl rfl hl.1 rfl (lv_room (Nat.le_of_ble_eq_true rfl)) dX6_move_25 ⟨Nat.zero_le _, Nat.zero_le _⟩) hw (fun H locs hw => ?_)
      refine lv_if_ne (tgt := 42) hx hb dX6_move_28 (by decide) (fun c19 => ?_) (fun c19 => ?_)
      · have hg := it_neg hg c19
        exact B42 _ _ _ _ hg hw (lv_sub hl [] rfl)
      · have hg := it_pos hg c19
        refine lv_aload_n hx hb dX6_move_31 rfl (lv_at hl 0 rfl) ?_
        obtain ⟨hok20, hg⟩ := gd_some hg
        obtain ⟨r21, hr21, hg⟩ := nn_some hg
        refine wr_get (K := RX6) (T := TX6) (N := 7) (index := 12) (ref := "MakerLines") (v := .ref r21) hx hb hts hit_X6_move_X6 hown hw hok20 (wF_6 (S := S18) hok20.2) rfl 0 (by decide) (hts _ (List.mem_of_getElem? (i := 5) rfl)) (fun _ h9 => h9) (congrArg (fun o => some (va_rf o)) hr21) dX6_move_32 ?_
        refine lv_iload_n hx hb dX6_move_35 rfl (lv_at hl 1 rfl) ?_
        obtain ⟨hok22, hg⟩ := gd_some hg
        obtain ⟨r23, S23, hc23, hg⟩ := cl_some hg
        refine wr_ci (va_runV (As := [.int x1]) (rest := []) ⟨hx, hb, hml, hown, hts⟩ (c_X4_isFree l D C N S18 z r21 x1 r23 S23 hc23) (cwV 1 hts gX6_move_X4_isFree rfl rfl rfl (by decide +kernel) ⟨Nat.le_of_ble_eq_true rfl, Nat.le_of_ble_eq_true rfl⟩) (wd_preV hw hok22 (wF_4 (S := S18) hok22.2) rfl) rfl rfl hl.1 rfl (lv_room (Nat.le_of_ble_eq_true rfl)) dX6_move_36 ⟨Nat.zero_le _, Nat.zero_le _⟩) hw (fun H locs hw => ?_)
        refine lv_if_ne (tgt := 52) hx hb dX6_move_39 (by decide) (fun c24 => ?_) (fun c24 => ?_)
        · have hg := it_neg hg c24
          exact absurd hg (by simp)
        · have hg := it_pos hg c24
          exact B42 _ _ _ _ hg hw (lv_sub hl [] rfl)
    · have hg := it_pos hg c14
      cases hg
      obtain ⟨sa, hsa⟩ := hthr.2.2.1 (124, "there is no such cell") (List.mem_of_getElem? (i := 4) rfl)
      exact vx_throwS (own := RX6) (cls := "java/lang/IndexOutOfBoundsException") (text := "there is no such cell") (names := exN) (ik := 98) (is := 124) (ic := 102) (sa := sa) hx hb hlt hown (by decide +kernel) (by decide +kernel) (hts _ (List.mem_of_getElem? (i := 1) rfl)) (hts _ (List.mem_of_getElem? (i := 2) rfl)) hsa (vx_hat (fun w h => hts w (List.mem_cons_of_mem _ (List.mem_append_left _ (List.mem_append_right _ (h))))) (fun w h => by rw [vb_IOE] at h; exact h) (fun w h => va_Nw.use (thrB_t h) (hthr.2.2.2.2.2.2 _ (by decide) w h))) vg_IOE hthr.1 hthr.2.1 hw.2.2.2.1 (hl.1.trans hml.symm) dX6_move_11 dX6_move_14 dX6_move_15 dX6_move_17 dX6_move_20 (fun x9 hx9 => (htab x9 hx9).elim) (Nat.le_of_ble_eq_true rfl) (Nat.le_of_ble_eq_true rfl) (Nat.le_of_ble_eq_true rfl) (Nat.le_of_ble_eq_true rfl) hlk (fun t _ hz9 hq9 => wd_thr hw hz9 hq9) hw.2.2.2.1.2.2 (Nat.le_of_ble_eq_true rfl) (Nat.le_of_ble_eq_true rfl)
  exact B0 S0 _ _ _ hg hw hl
def e_X6_skip (N : Nat) (S : Hp) (a0 : Nat) : Option (String × Hp) :=
  gd (ok S a0 6) <| nn (hR S a0 0) fun r11 => gd (ok S r11 4) <| cl (f_X4_winner N S r11) fun r13 S13 => if r13 = 0 then (none) else (some ("java/lang/IllegalStateException", S13))
theorem hit_X6_skip_X6 : ∀ w ∈ wsX60, w ∈ wsX6_skip := fun _ h => List.mem_cons_of_mem _ (List.mem_append_left _ (List.mem_append_left _ (List.mem_append_left _ (List.mem_append_left _ (List.mem_append_right _ (h))))))
abbrev rmT_X6_skip : Room := { frames := 6, cells := 1, slots := 6, locals := 90 }
set_option maxHeartbeats 4000000 in
set_option maxRecDepth 100000 in
theorem t_X6_skip (l : Launch) (hlt : l.stackTraces = false) (D : va_G) (C : C3) (N : Nat) (S0 : Hp) (z : Nat) (a0 : Nat) (r : String) (S9 : Hp) (hg : e_X6_skip N S0 a0 = some (r, S9)) : MetT l yX6_skip wsX6_skip rmT_X6_skip D C S0 z [.ref a0] r S9 := by
  refine tw_ofW (cc := cX6_skip) (maxL := 1) (ret := (some .int)) (lv := [(0, .ref a0)]) (by decide) rfl (Nat.le_of_ble_eq_true rfl) rfl ?_
  intro p e s m below meth c ls hx hb hr hts hown hlk hml htab hthr hl hw
  have hown : s.vm.findClass RX6 = some m.cls := hown
  have B0 : ∀ (S : Hp) (H : Heap) (locs : List Loc) (ls : Array Slot), e_X6_skip N S a0 = some (r, S9) → Wd D C (va_A (wP C S0) z) s.heap S z H locs s → lv_has ls 1 [(0, .ref a0)] → W p l e rmT_X6_skip s m ([.ref a0] : List Value).toArray below meth c H locs 0 0 (vx_MQ below QnT (XcT D C S0 z r S9) ([.ref a0] : List Value).toArray s 1 6 (va_A (wP C S0) z)) (F0 m 0 ls []) := by
    intro S H locs ls hg hw hl
    unfold e_X6_skip at hg
    refine lv_aload_n hx hb dX6_skip_0 rfl (lv_at hl 0 rfl) ?_
    obtain ⟨hok10, hg⟩ := gd_some hg
    obtain ⟨r11, hr11, hg⟩ := nn_some hg
    refine wr_get (K := RX6) (T := TX6) (N := 7) (index := 12) (ref := "MakerLines") (v := .ref r11) hx hb hts hit_X6_skip_X6 hown hw hok10 (wF_6 (S := S) hok10.2) rfl 0 (by decide) (hts _ (List.mem_of_getElem? (i := 3) rfl)) (fun _ h9 => h9) (congrArg (fun o => some (va_rf o)) hr11) dX6_skip_1 ?_
    obtain ⟨hok12, hg⟩ := gd_some hg
    obtain ⟨r13, S13, hc13, hg⟩ := cl_some hg
    refine wr_ci (va_runV (As := []) (rest := []) ⟨hx, hb, hml, hown, hts⟩ (c_X4_winner l D C N S z r11 r13 S13 hc13) (cwV 0 hts gX6_skip_X4_winner rfl rfl rfl (by decide +kernel) ⟨Nat.le_of_ble_eq_true rfl, Nat.le_of_ble_eq_true rfl⟩) (wd_preV hw hok12 (wF_4 (S := S) hok12.2) rfl) rfl rfl hl.1 rfl (lv_room (Nat.le_of_ble_eq_true rfl)) dX6_skip_4 ⟨Nat.zero_le _, Nat.zero_le _⟩) hw (fun H locs hw => ?_)
    refine lv_if_eq (tgt := 20) hx hb dX6_skip_7 (by decide) (fun c14 => ?_) (fun c14 => ?_)
    · have hg := it_pos hg c14
      exact absurd hg (by simp)
    · have hg := it_neg hg c14
      cases hg
      obtain ⟨sa, hsa⟩ := hthr.2.2.1 (141, "the game is not open") (List.mem_of_getElem? (i := 6) rfl)
      exact vx_throwS (own := RX6) (cls := "java/lang/IllegalStateException") (text := "the game is not open") (names := exN) (ik := 85) (is := 141) (ic := 89) (sa := sa) hx hb hlt hown (by decide +kernel) (by decide +kernel) (hts _ (List.mem_of_getElem? (i := 1) rfl)) (hts _ (List.mem_of_getElem? (i := 2) rfl)) hsa (vx_hat (fun w h => hts w (List.mem_cons_of_mem _ (List.mem_append_right _ (h)))) (fun w h => by rw [vb_ISE] at h; exact h) (fun w h => va_Nw.use (thrB_t h) (hthr.2.2.2.2.2.2 _ (by decide) w h))) vg_ISE hthr.1 hthr.2.1 hw.2.2.2.1 (hl.1.trans hml.symm) dX6_skip_10 dX6_skip_13 dX6_skip_14 dX6_skip_16 dX6_skip_19 (fun x9 hx9 => (htab x9 hx9).elim) (Nat.le_of_ble_eq_true rfl) (Nat.le_of_ble_eq_true rfl) (Nat.le_of_ble_eq_true rfl) (Nat.le_of_ble_eq_true rfl) hlk (fun t _ hz9 hq9 => wd_thr hw hz9 hq9) hw.2.2.2.1.2.2 (Nat.le_of_ble_eq_true rfl) (Nat.le_of_ble_eq_true rfl)
  exact B0 S0 _ _ _ hg hw hl
def e_X6_play_b25 (N : Nat) (a0 : Nat) (x1 : Int32) (x2 : Int32) (x3 : Int32) (S : Hp) : Option (String × Hp) :=
  some ("java/lang/IllegalArgumentException", S)
def e_X6_play (N : Nat) (S : Hp) (a0 : Nat) (x1 : Int32) (x2 : Int32) (x3 : Int32) : Option (String × Hp) :=
  cl (f_X6_isRule N S x1) fun r10 S10 => if r10 = 0 then (e_X6_play_b25 N a0 x1 x2 x3 S10) else (cl (f_X6_isRule N S10 x2) fun r12 S12 => if r12 = 0 then (e_X6_play_b25 N a0 x1 x2 x3 S12) else (if x3 < (1 : Int32) then (e_X6_play_b25 N a0 x1 x2 x3 S12) else (if x3 ≤ (10 : Int32) then (gd (ok S12 a0 6) <| nn (hR S12 a0 0) fun r17 => gd (ok S12 r17 4) <| cl (f_X4_winner N S12 r17) fun r19 S19 => if r19 = 0 then (none) else (some ("java/lang/IllegalStateException", S19))) else (e_X6_play_b25 N a0 x1 x2 x3 S12))))
theorem hit_X6_play_X6 : ∀ w ∈ wsX60, w ∈ wsX6_play := fun _ h => List.mem_cons_of_mem _ (List.mem_append_left _ (List.mem_append_left _ (List.mem_append_left _ (List.mem_append_left _ (List.mem_append_left _ (List.mem_append_left _ (List.mem_append_left _ (List.mem_append_right _ (h)))))))))
abbrev rmT_X6_play : Room := { frames := 6, cells := 1, slots := 6, locals := 90 }
set_option maxHeartbeats 4000000 in
set_option maxRecDepth 100000 in
theorem t_X6_play (l : Launch) (hlt : l.stackTraces = false) (D : va_G) (C : C3) (N : Nat) (S0 : Hp) (z : Nat) (a0 : Nat) (x1 : Int32) (x2 : Int32) (x3 : Int32) (r : String) (S9 : Hp) (hg : e_X6_play N S0 a0 x1 x2 x3 = some (r, S9)) : MetT l yX6_play wsX6_play rmT_X6_play D C S0 z [.ref a0, .int x1, .int x2, .int x3] r S9 := by
  refine tw_ofW (cc := cX6_play) (maxL := 4) (ret := (some .int)) (lv := [(0, .ref a0), (1, .int x1), (2, .int x2), (3, .int x3)]) (by decide) rfl (Nat.le_of_ble_eq_true rfl) rfl ?_
  intro p e s m below meth c ls hx hb hr hts hown hlk hml htab hthr hl hw
  have hown : s.vm.findClass RX6 = some m.cls := hown
  have B25 : ∀ (S : Hp) (H : Heap) (locs : List Loc) (ls : Array Slot), e_X6_play_b25 N a0 x1 x2 x3 S = some (r, S9) → Wd D C (va_A (wP C S0) z) s.heap S z H locs s → lv_has ls 4 [] → W p l e rmT_X6_play s m ([.ref a0, .int x1, .int x2, .int x3] : List Value).toArray below meth c H locs 0 0 (vx_MQ below QnT (XcT D C S0 z r S9) ([.ref a0, .int x1, .int x2, .int x3] : List Value).toArray s 1 6 (va_A (wP C S0) z)) (F0 m 25 ls []) := by
    intro S H locs ls hg hw hl
    unfold e_X6_play_b25 at hg
    cases hg
    obtain ⟨sa, hsa⟩ := hthr.2.2.1 (156, "a rule is 0 to 3, and moves are 1 to 10") (List.mem_of_getElem? (i := 7) rfl)
    exact vx_throwS (own := RX6) (cls := "java/lang/IllegalArgumentException") (text := "a rule is 0 to 3, and moves are 1 to 10") (names := exN) (ik := 51) (is := 156) (ic := 55) (sa := sa) hx hb hlt hown (by decide +kernel) (by decide +kernel) (hts _ (List.mem_of_getElem? (i := 1) rfl)) (hts _ (List.mem_of_getElem? (i := 2) rfl)) hsa (vx_hat (fun w h => hts w (List.mem_cons_of_mem _ (List.mem_append_left _ (List.mem_append_right _ (h))))) (fun w h => by rw [vb_IAE] at h; exact h) (fun w h => va_Nw.use (thrB_t h) (hthr.2.2.2.2.2.2 _ (by decide) w h))) vg_IAE hthr.1 hthr.2.1 hw.2.2.2.1 (hl.1.trans hml.symm) dX6_play_25 dX6_play_28 dX6_play_29 dX6_play_31 dX6_play_34 (fun x9 hx9 => (htab x9 hx9).elim) (Nat.le_of_ble_eq_true rfl) (Nat.le_of_ble_eq_true rfl) (Nat.le_of_ble_eq_true rfl) (Nat.le_of_ble_eq_true rfl) hlk (fun t _ hz9 hq9 => wd_thr hw hz9 hq9) hw.2.2.2.1.2.2 (Nat.le_of_ble_eq_true rfl) (Nat.le_of_ble_eq_true rfl)
  have B0 : ∀ (S : Hp) (H : Heap) (locs : List Loc) (ls : Array Slot), e_X6_play N S a0 x1 x2 x3 = some (r, S9) → Wd D C (va_A (wP C S0) z) s.heap S z H locs s → lv_has ls 4 [(0, .ref a0), (1, .int x1), (2, .int x2), (3, .int x3)] → W p l e rmT_X6_play s m ([.ref a0, .int x1, .int x2, .int x3] : List Value).toArray below meth c H locs 0 0 (vx_MQ below QnT (XcT D C S0 z r S9) ([.ref a0, .int x1, .int x2, .int x3] : List Value).toArray s 1 6 (va_A (wP C S0) z)) (F0 m 0 ls []) := by
    intro S H locs ls hg hw hl
    unfold e_X6_play at hg
    refine lv_iload_n hx hb dX6_play_0 rfl (lv_at hl 1 rfl) ?_
    obtain ⟨r10, S10, hc10, hg⟩ := cl_some hg
    refine wr_ci (va_runS (As := [.int x1]) (rest := []) ⟨hx, hb, hml, hown, hts⟩ (c_X6_isRule l D C N S z x1 r10 S10 hc10) (va_cwS 1 hts gX6_play_X6_isRule rfl rfl rfl (by decide +kernel) ⟨Nat.le_of_ble_eq_true rfl, Nat.le_of_ble_eq_true rfl⟩) (wd_preS hw) rfl rfl hl.1 rfl (lv_room (Nat.le_of_ble_eq_true rfl)) dX6_play_1 ⟨Nat.zero_le _, Nat.zero_le _⟩) hw (fun H locs hw => ?_)
    refine lv_if_eq (tgt := 25) hx hb dX6_play_4 (by decide) (fun c11 => ?_) (fun c11 => ?_)
    · have hg := it_pos hg c11
      exact B25 _ _ _ _ hg hw (lv_sub hl [] rfl)
    · have hg := it_neg hg c11
      refine lv_iload_n hx hb dX6_play_7 rfl (lv_at hl 2 rfl) ?_
      obtain ⟨r12, S12, hc12, hg⟩ := cl_some hg
      refine wr_ci (va_runS (As := [.int x2]) (rest := []) ⟨hx, hb, hml, hown, hts⟩ (c_X6_isRule l D C N S10 z x2 r12 S12 hc12) (va_cwS 1 hts gX6_play_X6_isRule rfl rfl rfl (by decide +kernel) ⟨Nat.le_of_ble_eq_true rfl, Nat.le_of_ble_eq_true rfl⟩) (wd_preS hw) rfl rfl hl.1 rfl (lv_room (Nat.le_of_ble_eq_true rfl)) dX6_play_8 ⟨Nat.zero_le _, Nat.zero_le _⟩) hw (fun H locs hw => ?_)
      refine lv_if_eq (tgt := 25) hx hb dX6_play_11 (by decide) (fun c13 => ?_) (fun c13 => ?_)
      · have hg := it_pos hg c13
        exact B25 _ _ _ _ hg hw (lv_sub hl [] rfl)
      · have hg := it_neg hg c13
        refine lv_iload_n hx hb dX6_play_14 rfl (lv_at hl 3 rfl) ?_
        refine lv_iconst (v := (1 : Int32)) hx hb dX6_play_15 (by decide) ?_
        refine lv_icmp_lt (tgt := 25) hx hb dX6_play_16 (by decide) (fun c14 => ?_) (fun c14 => ?_)
        · have hg := it_pos hg c14
          exact B25 _ _ _ _ hg hw (lv_sub hl [] rfl)
        · have hg := it_neg hg c14
          refine lv_iload_n hx hb dX6_play_19 rfl (lv_at hl 3 rfl) ?_
          refine lv_bipush (v := (10 : Int32)) hx hb dX6_play_20 (by decide) ?_
          refine lv_icmp_le (tgt := 35) hx hb dX6_play_22 (by decide) (fun c15 => ?_) (fun c15 => ?_)
          · have hg := it_pos hg c15
            refine lv_aload_n hx hb dX6_play_35 rfl (lv_at hl 0 rfl) ?_
            obtain ⟨hok16, hg⟩ := gd_some hg
            obtain ⟨r17, hr17, hg⟩ := nn_some hg
            refine wr_get (K := RX6) (T := TX6) (N := 7) (index := 12) (ref := "MakerLines") (v := .ref r17) hx hb hts hit_X6_play_X6 hown hw hok16 (wF_6 (S := S12) hok16.2) rfl 0 (by decide) (hts _ (List.mem_of_getElem? (i := 5) rfl)) (fun _ h9 => h9) (congrArg (fun o => some (va_rf o)) hr17) dX6_play_36 ?_
            obtain ⟨hok18, hg⟩ := gd_some hg
            obtain ⟨r19, S19, hc19, hg⟩ := cl_some hg
            refine wr_ci (va_runV (As := []) (rest := []) ⟨hx, hb, hml, hown, hts⟩ (c_X4_winner l D C N S12 z r17 r19 S19 hc19) (cwV 0 hts gX6_play_X4_winner rfl rfl rfl (by decide +kernel) ⟨Nat.le_of_ble_eq_true rfl, Nat.le_of_ble_eq_true rfl⟩) (wd_preV hw hok18 (wF_4 (S := S12) hok18.2) rfl) rfl rfl hl.1 rfl (lv_room (Nat.le_of_ble_eq_true rfl)) dX6_play_39 ⟨Nat.zero_le _, Nat.zero_le _⟩) hw (fun H locs hw => ?_)
            refine lv_if_eq (tgt := 55) hx hb dX6_play_42 (by decide) (fun c20 => ?_) (fun c20 => ?_)
            · have hg := it_pos hg c20
              exact absurd hg (by simp)
            · have hg := it_neg hg c20
              cases hg
              obtain ⟨sa, hsa⟩ := hthr.2.2.1 (141, "the game is not open") (List.mem_of_getElem? (i := 6) rfl)
              exact vx_throwS (own := RX6) (cls := "java/lang/IllegalStateException") (text := "the game is not open") (names := exN) (ik := 85) (is := 141) (ic := 89) (sa := sa) hx hb hlt hown (by decide +kernel) (by decide +kernel) (hts _ (List.mem_of_getElem? (i := 3) rfl)) (hts _ (List.mem_of_getElem? (i := 4) rfl)) hsa (vx_hat (fun w h => hts w (List.mem_cons_of_mem _ (List.mem_append_right _ (h)))) (fun w h => by rw [vb_ISE] at h; exact h) (fun w h => va_Nw.use (thrB_t h) (hthr.2.2.2.2.2.2 _ (by decide) w h))) vg_ISE hthr.1 hthr.2.1 hw.2.2.2.1 (hl.1.trans hml.symm) dX6_play_45 dX6_play_48 dX6_play_49 dX6_play_51 dX6_play_54 (fun x9 hx9 => (htab x9 hx9).elim) (Nat.le_of_ble_eq_true rfl) (Nat.le_of_ble_eq_true rfl) (Nat.le_of_ble_eq_true rfl) (Nat.le_of_ble_eq_true rfl) hlk (fun t _ hz9 hq9 => wd_thr hw hz9 hq9) hw.2.2.2.1.2.2 (Nat.le_of_ble_eq_true rfl) (Nat.le_of_ble_eq_true rfl)
          · have hg := it_neg hg c15
            exact B25 _ _ _ _ hg hw (lv_sub hl [] rfl)
  exact B0 S0 _ _ _ hg hw hl
def e_X6_append_b12 (N : Nat) (a0 : Nat) (x1 : Int32) (S : Hp) : Option (String × Hp) :=
  some ("java/lang/IllegalArgumentException", S)
def e_X6_append (N : Nat) (S : Hp) (a0 : Nat) (x1 : Int32) : Option (String × Hp) :=
  if x1 < (33 : Int32) then (e_X6_append_b12 N a0 x1 S) else (if x1 ≤ (126 : Int32) then (gd (ok S a0 6) <| nn (hR S a0 4) fun r13 => gd (ok S r13 5) <| if (hI S r13 1) < (60 : Int32) then (none) else (some ("java/lang/IllegalStateException", S))) else (e_X6_append_b12 N a0 x1 S))
theorem hit_X6_append_X5 : ∀ w ∈ wsX50, w ∈ wsX6_append := fun _ h => List.mem_cons_of_mem _ (List.mem_append_left _ (List.mem_append_left _ (List.mem_append_right _ (h))))
theorem hit_X6_append_X6 : ∀ w ∈ wsX60, w ∈ wsX6_append := fun _ h => List.mem_cons_of_mem _ (List.mem_append_left _ (List.mem_append_left _ (List.mem_append_left _ (List.mem_append_right _ (h)))))
abbrev rmT_X6_append : Room := { frames := 6, cells := 1, slots := 6, locals := 90 }
set_option maxHeartbeats 4000000 in
set_option maxRecDepth 100000 in
theorem t_X6_append (l : Launch) (hlt : l.stackTraces = false) (D : va_G) (C : C3) (N : Nat) (S0 : Hp) (z : Nat) (a0 : Nat) (x1 : Int32) (r : String) (S9 : Hp) (hg : e_X6_append N S0 a0 x1 = some (r, S9)) : MetT l yX6_append wsX6_append rmT_X6_append D C S0 z [.ref a0, .int x1] r S9 := by
  refine tw_ofW (cc := cX6_append) (maxL := 2) (ret := (some .int)) (lv := [(0, .ref a0), (1, .int x1)]) (by decide) rfl (Nat.le_of_ble_eq_true rfl) rfl ?_
  intro p e s m below meth c ls hx hb hr hts hown hlk hml htab hthr hl hw
  have hown : s.vm.findClass RX6 = some m.cls := hown
  have B12 : ∀ (S : Hp) (H : Heap) (locs : List Loc) (ls : Array Slot), e_X6_append_b12 N a0 x1 S = some (r, S9) → Wd D C (va_A (wP C S0) z) s.heap S z H locs s → lv_has ls 2 [] → W p l e rmT_X6_append s m ([.ref a0, .int x1] : List Value).toArray below meth c H locs 0 0 (vx_MQ below QnT (XcT D C S0 z r S9) ([.ref a0, .int x1] : List Value).toArray s 1 6 (va_A (wP C S0) z)) (F0 m 12 ls []) := by
    intro S H locs ls hg hw hl
    unfold e_X6_append_b12 at hg
    cases hg
    obtain ⟨sa, hsa⟩ := hthr.2.2.1 (162, "a character code is 33 to 126") (List.mem_of_getElem? (i := 8) rfl)
    exact vx_throwS (own := RX6) (cls := "java/lang/IllegalArgumentException") (text := "a character code is 33 to 126") (names := exN) (ik := 51) (is := 162) (ic := 55) (sa := sa) hx hb hlt hown (by decide +kernel) (by decide +kernel) (hts _ (List.mem_of_getElem? (i := 1) rfl)) (hts _ (List.mem_of_getElem? (i := 2) rfl)) hsa (vx_hat (fun w h => hts w (List.mem_cons_of_mem _ (List.mem_append_left _ (List.mem_append_right _ (h))))) (fun w h => by rw [vb_IAE] at h; exact h) (fun w h => va_Nw.use (thrB_t h) (hthr.2.2.2.2.2.2 _ (by decide) w h))) vg_IAE hthr.1 hthr.2.1 hw.2.2.2.1 (hl.1.trans hml.symm) dX6_append_12 dX6_append_15 dX6_append_16 dX6_append_18 dX6_append_21 (fun x9 hx9 => (htab x9 hx9).elim) (Nat.le_of_ble_eq_true rfl) (Nat.le_of_ble_eq_true rfl) (Nat.le_of_ble_eq_true rfl) (Nat.le_of_ble_eq_true rfl) hlk (fun t _ hz9 hq9 => wd_thr hw hz9 hq9) hw.2.2.2.1.2.2 (Nat.le_of_ble_eq_true rfl) (Nat.le_of_ble_eq_true rfl)
  have B0 : ∀ (S : Hp) (H : Heap) (locs : List Loc) (ls : Array Slot), e_X6_append N S a0 x1 = some (r, S9) → Wd D C (va_A (wP C S0) z) s.heap S z H locs s → lv_has ls 2 [(0, .ref a0), (1, .int x1)] → W p l e rmT_X6_append s m ([.ref a0, .int x1] : List Value).toArray below meth c H locs 0 0 (vx_MQ below QnT (XcT D C S0 z r S9) ([.ref a0, .int x1] : List Value).toArray s 1 6 (va_A (wP C S0) z)) (F0 m 0 ls []) := by
    intro S H locs ls hg hw hl
    unfold e_X6_append at hg
    refine lv_iload_n hx hb dX6_append_0 rfl (lv_at hl 1 rfl) ?_
    refine lv_bipush (v := (33 : Int32)) hx hb dX6_append_1 (by decide) ?_
    refine lv_icmp_lt (tgt := 12) hx hb dX6_append_3 (by decide) (fun c10 => ?_) (fun c10 => ?_)
    · have hg := it_pos hg c10
      exact B12 _ _ _ _ hg hw (lv_sub hl [] rfl)
    · have hg := it_neg hg c10
      refine lv_iload_n hx hb dX6_append_6 rfl (lv_at hl 1 rfl) ?_
      refine lv_bipush (v := (126 : Int32)) hx hb dX6_append_7 (by decide) ?_
      refine lv_icmp_le (tgt := 22) hx hb dX6_append_9 (by decide) (fun c11 => ?_) (fun c11 => ?_)
      · have hg := it_pos hg c11
        refine lv_aload_n hx hb dX6_append_22 rfl (lv_at hl 0 rfl) ?_
        obtain ⟨hok12, hg⟩ := gd_some hg
        obtain ⟨r13, hr13, hg⟩ := nn_some hg
        refine wr_get (K := RX6) (T := TX6) (N := 7) (index := 33) (ref := "MakerLines") (v := .ref r13) hx hb hts hit_X6_append_X6 hown hw hok12 (wF_6 (S := S) hok12.2) rfl 4 (by decide) (hts _ (List.mem_of_getElem? (i := 5) rfl)) (fun _ h9 => h9) (congrArg (fun o => some (va_rf o)) hr13) dX6_append_23 ?_
        obtain ⟨hok14, hg⟩ := gd_some hg
        refine wr_get (K := RX5) (T := TX5) (N := 2) (index := 164) (ref := "MakerLines$Text") (v := .int (hI S r13 1)) hx hb hts hit_X6_append_X5 hown hw hok14 (wF_5 (S := S) hok14.2) rfl 1 (by decide) (hts _ (List.mem_of_getElem? (i := 6) rfl)) (fun _ h9 => h9) rfl dX6_append_26 ?_
        refine lv_bipush (v := (60 : Int32)) hx hb dX6_append_29 (by decide) ?_
        refine lv_icmp_lt (tgt := 44) hx hb dX6_append_31 (by decide) (fun c15 => ?_) (fun c15 => ?_)
        · have hg := it_pos hg c15
          exact absurd hg (by simp)
        · have hg := it_neg hg c15
          cases hg
          obtain ⟨sa, hsa⟩ := hthr.2.2.1 (165, "the buffer has 60 characters") (List.mem_of_getElem? (i := 9) rfl)
          exact vx_throwS (own := RX6) (cls := "java/lang/IllegalStateException") (text := "the buffer has 60 characters") (names := exN) (ik := 85) (is := 165) (ic := 89) (sa := sa) hx hb hlt hown (by decide +kernel) (by decide +kernel) (hts _ (List.mem_of_getElem? (i := 3) rfl)) (hts _ (List.mem_of_getElem? (i := 4) rfl)) hsa (vx_hat (fun w h => hts w (List.mem_cons_of_mem _ (List.mem_append_right _ (h)))) (fun w h => by rw [vb_ISE] at h; exact h) (fun w h => va_Nw.use (thrB_t h) (hthr.2.2.2.2.2.2 _ (by decide) w h))) vg_ISE hthr.1 hthr.2.1 hw.2.2.2.1 (hl.1.trans hml.symm) dX6_append_34 dX6_append_37 dX6_append_38 dX6_append_40 dX6_append_43 (fun x9 hx9 => (htab x9 hx9).elim) (Nat.le_of_ble_eq_true rfl) (Nat.le_of_ble_eq_true rfl) (Nat.le_of_ble_eq_true rfl) (Nat.le_of_ble_eq_true rfl) hlk (fun t _ hz9 hq9 => wd_thr hw hz9 hq9) hw.2.2.2.1.2.2 (Nat.le_of_ble_eq_true rfl) (Nat.le_of_ble_eq_true rfl)
      · have hg := it_neg hg c11
        exact B12 _ _ _ _ hg hw (lv_sub hl [] rfl)
  exact B0 S0 _ _ _ hg hw hl
def e_X6_read (N : Nat) (S : Hp) (a0 : Nat) : Option (String × Hp) :=
  gd (ok S a0 6) <| nn (hR S a0 4) fun r11 => nn (hR S a0 0) fun r12 => gd (ok S r12 4) <| gd (ok S r11 5) <| cl (f_X5_isComplete N S r11 ((hI S r12 1))) fun r15 S15 => if r15 = 0 then (some ("java/lang/IllegalArgumentException", S15)) else (gd (ok S15 a0 6) <| nn (hR S15 a0 0) fun r18 => gd (ok S15 r18 4) <| nn (hR S15 r18 0) fun r20 => gd (ok S15 r20 1) <| nn (hR S15 a0 4) fun r22 => gd (ok S15 r22 5) <| cl (f_X5_rows N S15 r22) fun r24 S24 => if ((hI S15 r20 1) + r24) ≤ (12 : Int32) then (none) else (some ("java/lang/IllegalStateException", S24)))
theorem hit_X6_read_X1 : ∀ w ∈ wsX10, w ∈ wsX6_read := fun _ h => List.mem_cons_of_mem _ (List.mem_append_left _ (List.mem_append_left _ (List.mem_append_left _ (List.mem_append_left _ (List.mem_append_right _ (h))))))
theorem hit_X6_read_X4 : ∀ w ∈ wsX40, w ∈ wsX6_read := fun _ h => List.mem_cons_of_mem _ (List.mem_append_left _ (List.mem_append_left _ (List.mem_append_left _ (List.mem_append_left _ (List.mem_append_left _ (List.mem_append_right _ (h)))))))
theorem hit_X6_read_X6 : ∀ w ∈ wsX60, w ∈ wsX6_read := fun _ h => List.mem_cons_of_mem _ (List.mem_append_left _ (List.mem_append_left _ (List.mem_append_left _ (List.mem_append_left _ (List.mem_append_left _ (List.mem_append_left _ (List.mem_append_right _ (h))))))))
abbrev rmT_X6_read : Room := { frames := 6, cells := 1, slots := 6, locals := 90 }
set_option maxHeartbeats 4000000 in
set_option maxRecDepth 100000 in
theorem t_X6_read (l : Launch) (hlt : l.stackTraces = false) (D : va_G) (C : C3) (N : Nat) (S0 : Hp) (z : Nat) (a0 : Nat) (r : String) (S9 : Hp) (hg : e_X6_read N S0 a0 = some (r, S9)) : MetT l yX6_read wsX6_read rmT_X6_read D C S0 z [.ref a0] r S9 := by
  refine tw_ofW (cc := cX6_read) (maxL := 1) (ret := (some .int)) (lv := [(0, .ref a0)]) (by decide) rfl (Nat.le_of_ble_eq_true rfl) rfl ?_
  intro p e s m below meth c ls hx hb hr hts hown hlk hml htab hthr hl hw
  have hown : s.vm.findClass RX6 = some m.cls := hown
  have B0 : ∀ (S : Hp) (H : Heap) (locs : List Loc) (ls : Array Slot), e_X6_read N S a0 = some (r, S9) → Wd D C (va_A (wP C S0) z) s.heap S z H locs s → lv_has ls 1 [(0, .ref a0)] → W p l e rmT_X6_read s m ([.ref a0] : List Value).toArray below meth c H locs 0 0 (vx_MQ below QnT (XcT D C S0 z r S9) ([.ref a0] : List Value).toArray s 1 6 (va_A (wP C S0) z)) (F0 m 0 ls []) := by
    intro S H locs ls hg hw hl
    unfold e_X6_read at hg
    refine lv_aload_n hx hb dX6_read_0 rfl (lv_at hl 0 rfl) ?_
    obtain ⟨hok10, hg⟩ := gd_some hg
    obtain ⟨r11, hr11, hg⟩ := nn_some hg
    refine wr_get (K := RX6) (T := TX6) (N := 7) (index := 33) (ref := "MakerLines") (v := .ref r11) hx hb hts hit_X6_read_X6 hown hw hok10 (wF_6 (S := S) hok10.2) rfl 4 (by decide) (hts _ (List.mem_of_getElem? (i := 5) rfl)) (fun _ h9 => h9) (congrArg (fun o => some (va_rf o)) hr11) dX6_read_1 ?_
    refine lv_aload_n hx hb dX6_read_4 rfl (lv_at hl 0 rfl) ?_
    obtain ⟨r12, hr12, hg⟩ := nn_some hg
    refine wr_get (K := RX6) (T := TX6) (N := 7) (index := 12) (ref := "MakerLines") (v := .ref r12) hx hb hts hit_X6_read_X6 hown hw hok10 (wF_6 (S := S) hok10.2) rfl 0 (by decide) (hts _ (List.mem_of_getElem? (i := 6) rfl)) (fun _ h9 => h9) (congrArg (fun o => some (va_rf o)) hr12) dX6_read_5 ?_
    obtain ⟨hok13, hg⟩ := gd_some hg
    refine wr_get (K := RX4) (T := TX4) (N := 10) (index := 62) (ref := "MakerLines$State") (v := .int (hI S r12 1)) hx hb hts hit_X6_read_X4 hown hw hok13 (wF_4 (S := S) hok13.2) rfl 1 (by decide) (hts _ (List.mem_of_getElem? (i := 7) rfl)) (fun _ h9 => h9) rfl dX6_read_8 ?_
    obtain ⟨hok14, hg⟩ := gd_some hg
    obtain ⟨r15, S15, hc15, hg⟩ := cl_some hg
    refine wr_ci (va_runV (As := [.int (hI S r12 1)]) (rest := []) ⟨hx, hb, hml, hown, hts⟩ (c_X5_isComplete l D C N S z r11 ((hI S r12 1)) r15 S15 hc15) (cwV 1 hts gX6_read_X5_isComplete rfl rfl rfl (by decide +kernel) ⟨Nat.le_of_ble_eq_true rfl, Nat.le_of_ble_eq_true rfl⟩) (wd_preV hw hok14 (wF_5 (S := S) hok14.2) rfl) rfl rfl hl.1 rfl (lv_room (Nat.le_of_ble_eq_true rfl)) dX6_read_11 ⟨Nat.zero_le _, Nat.zero_le _⟩) hw (fun H locs hw => ?_)
    refine lv_if_ne (tgt := 27) hx hb dX6_read_14 (by decide) (fun c16 => ?_) (fun c16 => ?_)
    · have hg := it_neg hg c16
      refine lv_aload_n hx hb dX6_read_27 rfl (lv_at hl 0 rfl) ?_
      obtain ⟨hok17, hg⟩ := gd_some hg
      obtain ⟨r18, hr18, hg⟩ := nn_some hg
      refine wr_get (K := RX6) (T := TX6) (N := 7) (index := 12) (ref := "MakerLines") (v := .ref r18) hx hb hts hit_X6_read_X6 hown hw hok17 (wF_6 (S := S15) hok17.2) rfl 0 (by decide) (hts _ (List.mem_of_getElem? (i := 6) rfl)) (fun _ h9 => h9) (congrArg (fun o => some (va_rf o)) hr18) dX6_read_28 ?_
      obtain ⟨hok19, hg⟩ := gd_some hg
      obtain ⟨r20, hr20, hg⟩ := nn_some hg
      refine wr_get (K := RX4) (T := TX4) (N := 10) (index := 66) (ref := "MakerLines$State") (v := .ref r20) hx hb hts hit_X6_read_X4 hown hw hok19 (wF_4 (S := S15) hok19.2) rfl 0 (by decide) (hts _ (List.mem_of_getElem? (i := 8) rfl)) (fun _ h9 => h9) (congrArg (fun o => some (va_rf o)) hr20) dX6_read_31 ?_
      obtain ⟨hok21, hg⟩ := gd_some hg
      refine wr_get (K := RX1) (T := TX1) (N := 6) (index := 70) (ref := "MakerLines$Lines") (v := .int (hI S15 r20 1)) hx hb hts hit_X6_read_X1 hown hw hok21 (wF_1 (S := S15) hok21.2) rfl 1 (by decide) (hts _ (List.mem_of_getElem? (i := 9) rfl)) (fun _ h9 => h9) rfl dX6_read_34 ?_
      refine lv_aload_n hx hb dX6_read_37 rfl (lv_at hl 0 rfl) ?_
      obtain ⟨r22, hr22, hg⟩ := nn_some hg
      refine wr_get (K := RX6) (T := TX6) (N := 7) (index := 33) (ref := "MakerLines") (v := .ref r22) hx hb hts hit_X6_read_X6 hown hw hok17 (wF_6 (S := S15) hok17.2) rfl 4 (by decide) (hts _ (List.mem_of_getElem? (i := 5) rfl)) (fun _ h9 => h9) (congrArg (fun o => some (va_rf o)) hr22) dX6_read_38 ?_
      obtain ⟨hok23, hg⟩ := gd_some hg
      obtain ⟨r24, S24, hc24, hg⟩ := cl_some hg
      refine wr_ci (va_runV (As := []) (rest := [.int (hI S15 r20 1)]) ⟨hx, hb, hml, hown, hts⟩ (c_X5_rows l D C N S15 z r22 r24 S24 hc24) (cwV 0 hts gX6_read_X5_rows rfl rfl rfl (by decide +kernel) ⟨Nat.le_of_ble_eq_true rfl, Nat.le_of_ble_eq_true rfl⟩) (wd_preV hw hok23 (wF_5 (S := S15) hok23.2) rfl) rfl rfl hl.1 rfl (lv_room (Nat.le_of_ble_eq_true rfl)) dX6_read_41 ⟨Nat.zero_le _, Nat.zero_le _⟩) hw (fun H locs hw => ?_)
      refine lv_iadd hx hb dX6_read_44 ?_
      refine lv_bipush (v := (12 : Int32)) hx hb dX6_read_45 (by decide) ?_
      refine lv_icmp_le (tgt := 60) hx hb dX6_read_47 (by decide) (fun c25 => ?_) (fun c25 => ?_)
      · have hg := it_pos hg c25
        exact absurd hg (by simp)
      · have hg := it_neg hg c25
        cases hg
        obtain ⟨sa, hsa⟩ := hthr.2.2.1 (179, "there would be more than 12 lines") (List.mem_of_getElem? (i := 11) rfl)
        exact vx_throwS (own := RX6) (cls := "java/lang/IllegalStateException") (text := "there would be more than 12 lines") (names := exN) (ik := 85) (is := 179) (ic := 89) (sa := sa) hx hb hlt hown (by decide +kernel) (by decide +kernel) (hts _ (List.mem_of_getElem? (i := 3) rfl)) (hts _ (List.mem_of_getElem? (i := 4) rfl)) hsa (vx_hat (fun w h => hts w (List.mem_cons_of_mem _ (List.mem_append_right _ (h)))) (fun w h => by rw [vb_ISE] at h; exact h) (fun w h => va_Nw.use (thrB_t h) (hthr.2.2.2.2.2.2 _ (by decide) w h))) vg_ISE hthr.1 hthr.2.1 hw.2.2.2.1 (hl.1.trans hml.symm) dX6_read_50 dX6_read_53 dX6_read_54 dX6_read_56 dX6_read_59 (fun x9 hx9 => (htab x9 hx9).elim) (Nat.le_of_ble_eq_true rfl) (Nat.le_of_ble_eq_true rfl) (Nat.le_of_ble_eq_true rfl) (Nat.le_of_ble_eq_true rfl) hlk (fun t _ hz9 hq9 => wd_thr hw hz9 hq9) hw.2.2.2.1.2.2 (Nat.le_of_ble_eq_true rfl) (Nat.le_of_ble_eq_true rfl)
    · have hg := it_pos hg c16
      cases hg
      obtain ⟨sa, hsa⟩ := hthr.2.2.1 (174, "the buffer is not a complete row of lines") (List.mem_of_getElem? (i := 10) rfl)
      exact vx_throwS (own := RX6) (cls := "java/lang/IllegalArgumentException") (text := "the buffer is not a complete row of lines") (names := exN) (ik := 51) (is := 174) (ic := 55) (sa := sa) hx hb hlt hown (by decide +kernel) (by decide +kernel) (hts _ (List.mem_of_getElem? (i := 1) rfl)) (hts _ (List.mem_of_getElem? (i := 2) rfl)) hsa (vx_hat (fun w h => hts w (List.mem_cons_of_mem _ (List.mem_append_left _ (List.mem_append_right _ (h))))) (fun w h => by rw [vb_IAE] at h; exact h) (fun w h => va_Nw.use (thrB_t h) (hthr.2.2.2.2.2.2 _ (by decide) w h))) vg_IAE hthr.1 hthr.2.1 hw.2.2.2.1 (hl.1.trans hml.symm) dX6_read_17 dX6_read_20 dX6_read_21 dX6_read_23 dX6_read_26 (fun x9 hx9 => (htab x9 hx9).elim) (Nat.le_of_ble_eq_true rfl) (Nat.le_of_ble_eq_true rfl) (Nat.le_of_ble_eq_true rfl) (Nat.le_of_ble_eq_true rfl) hlk (fun t _ hz9 hq9 => wd_thr hw hz9 hq9) hw.2.2.2.1.2.2 (Nat.le_of_ble_eq_true rfl) (Nat.le_of_ble_eq_true rfl)
  exact B0 S0 _ _ _ hg hw hl
def e_X6_take (N : Nat) (S : Hp) (a0 : Nat) (x1 : Int32) : Option (String × Hp) :=
  gd (ok S a0 6) <| cl (f_X6_isSnapshot N S a0 x1) fun r11 S11 => if r11 = 0 then (some ("java/lang/IndexOutOfBoundsException", S11)) else (none)
abbrev rmT_X6_take : Room := { frames := 6, cells := 1, slots := 6, locals := 90 }
set_option maxHeartbeats 4000000 in
set_option maxRecDepth 100000 in
theorem t_X6_take (l : Launch) (hlt : l.stackTraces = false) (D : va_G) (C : C3) (N : Nat) (S0 : Hp) (z : Nat) (a0 : Nat) (x1 : Int32) (r : String) (S9 : Hp) (hg : e_X6_take N S0 a0 x1 = some (r, S9)) : MetT l yX6_take wsX6_take rmT_X6_take D C S0 z [.ref a0, .int x1] r S9 := by
  refine tw_ofW (cc := cX6_take) (maxL := 3) (ret := (some .int)) (lv := [(0, .ref a0), (1, .int x1)]) (by decide) rfl (Nat.le_of_ble_eq_true rfl) rfl ?_
  intro p e s m below meth c ls hx hb hr hts hown hlk hml htab hthr hl hw
  have hown : s.vm.findClass RX6 = some m.cls := hown
  have B0 : ∀ (S : Hp) (H : Heap) (locs : List Loc) (ls : Array Slot), e_X6_take N S a0 x1 = some (r, S9) → Wd D C (va_A (wP C S0) z) s.heap S z H locs s → lv_has ls 3 [(0, .ref a0), (1, .int x1)] → W p l e rmT_X6_take s m ([.ref a0, .int x1] : List Value).toArray below meth c H locs 0 0 (vx_MQ below QnT (XcT D C S0 z r S9) ([.ref a0, .int x1] : List Value).toArray s 1 6 (va_A (wP C S0) z)) (F0 m 0 ls []) := by
    intro S H locs ls hg hw hl
    unfold e_X6_take at hg
    refine lv_aload_n hx hb dX6_take_0 rfl (lv_at hl 0 rfl) ?_
    refine lv_iload_n hx hb dX6_take_1 rfl (lv_at hl 1 rfl) ?_
    obtain ⟨hok10, hg⟩ := gd_some hg
    obtain ⟨r11, S11, hc11, hg⟩ := cl_some hg
    refine wr_ci (va_runV (As := [.int x1]) (rest := []) ⟨hx, hb, hml, hown, hts⟩ (c_X6_isSnapshot l D C N S z a0 x1 r11 S11 hc11) (cwV 1 hts gX6_take_X6_isSnapshot rfl rfl rfl (by decide +kernel) ⟨Nat.le_of_ble_eq_true rfl, Nat.le_of_ble_eq_true rfl⟩) (wd_preV hw hok10 (wF_6 (S := S) hok10.2) rfl) rfl rfl hl.1 rfl (lv_room (Nat.le_of_ble_eq_true rfl)) dX6_take_2 ⟨Nat.zero_le _, Nat.zero_le _⟩) hw (fun H locs hw => ?_)
    refine lv_if_ne (tgt := 18) hx hb dX6_take_5 (by decide) (fun c12 => ?_) (fun c12 => ?_)
    · have hg := it_neg hg c12
      exact absurd hg (by simp)
    · have hg := it_pos hg c12
      cases hg
      obtain ⟨sa, hsa⟩ := hthr.2.2.1 (188, "a snapshot is 0 or 1") (List.mem_of_getElem? (i := 12) rfl)
      exact vx_throwS (own := RX6) (cls := "java/lang/IndexOutOfBoundsException") (text := "a snapshot is 0 or 1") (names := exN) (ik := 98) (is := 188) (ic := 102) (sa := sa) hx hb hlt hown (by decide +kernel) (by decide +kernel) (hts _ (List.mem_of_getElem? (i := 1) rfl)) (hts _ (List.mem_of_getElem? (i := 2) rfl)) hsa (vx_hat (fun w h => hts w (List.mem_cons_of_mem _ (List.mem_append_right _ (h)))) (fun w h => by rw [vb_IOE] at h; exact h) (fun w h => va_Nw.use (thrB_t h) (hthr.2.2.2.2.2.2 _ (by decide) w h))) vg_IOE hthr.1 hthr.2.1 hw.2.2.2.1 (hl.1.trans hml.symm) dX6_take_8 dX6_take_11 dX6_take_12 dX6_take_14 dX6_take_17 (fun x9 hx9 => (htab x9 hx9).elim) (Nat.le_of_ble_eq_true rfl) (Nat.le_of_ble_eq_true rfl) (Nat.le_of_ble_eq_true rfl) (Nat.le_of_ble_eq_true rfl) hlk (fun t _ hz9 hq9 => wd_thr hw hz9 hq9) hw.2.2.2.1.2.2 (Nat.le_of_ble_eq_true rfl) (Nat.le_of_ble_eq_true rfl)
  exact B0 S0 _ _ _ hg hw hl
def e_X6_restore (N : Nat) (S : Hp) (a0 : Nat) (x1 : Int32) : Option (String × Hp) :=
  gd (ok S a0 6) <| cl (f_X6_isSnapshot N S a0 x1) fun r11 S11 => if r11 = 0 then (some ("java/lang/IndexOutOfBoundsException", S11)) else (gd (ok S11 a0 6) <| nn (hR S11 a0 3) fun r14 => gd (ok S11 r14 9) <| gd (inb x1 (hN S11 r14)) <| nz (hR S11 r14 x1.toNatClampNeg) (some ("java/lang/IllegalStateException", S11)) fun r17 => none)
theorem hit_X6_restore_X6 : ∀ w ∈ wsX60, w ∈ wsX6_restore := fun _ h => List.mem_cons_of_mem _ (List.mem_append_left _ (List.mem_append_left _ (List.mem_append_left _ (List.mem_append_left _ (List.mem_append_left _ (List.mem_append_right _ (h)))))))
abbrev rmT_X6_restore : Room := { frames := 6, cells := 1, slots := 6, locals := 90 }
set_option maxHeartbeats 4000000 in
set_option maxRecDepth 100000 in
theorem t_X6_restore (l : Launch) (hlt : l.stackTraces = false) (D : va_G) (C : C3) (N : Nat) (S0 : Hp) (z : Nat) (a0 : Nat) (x1 : Int32) (r : String) (S9 : Hp) (hg : e_X6_restore N S0 a0 x1 = some (r, S9)) : MetT l yX6_restore wsX6_restore rmT_X6_restore D C S0 z [.ref a0, .int x1] r S9 := by
  refine tw_ofW (cc := cX6_restore) (maxL := 3) (ret := (some .int)) (lv := [(0, .ref a0), (1, .int x1)]) (by decide) rfl (Nat.le_of_ble_eq_true rfl) rfl ?_
  intro p e s m below meth c ls hx hb hr hts hown hlk hml htab hthr hl hw
  have hown : s.vm.findClass RX6 = some m.cls := hown
  have B0 : ∀ (S : Hp) (H : Heap) (locs : List Loc) (ls : Array Slot), e_X6_restore N S a0 x1 = some (r, S9) → Wd D C (va_A (wP C S0) z) s.heap S z H locs s → lv_has ls 3 [(0, .ref a0), (1, .int x1)] → W p l e rmT_X6_restore s m ([.ref a0, .int x1] : List Value).toArray below meth c H locs 0 0 (vx_MQ below QnT (XcT D C S0 z r S9) ([.ref a0, .int x1] : List Value).toArray s 1 6 (va_A (wP C S0) z)) (F0 m 0 ls []) := by
    intro S H locs ls hg hw hl
    unfold e_X6_restore at hg
    refine lv_aload_n hx hb dX6_restore_0 rfl (lv_at hl 0 rfl) ?_
    refine lv_iload_n hx hb dX6_restore_1 rfl (lv_at hl 1 rfl) ?_
    obtain ⟨hok10, hg⟩ := gd_some hg
    obtain ⟨r11, S11, hc11, hg⟩ := cl_some hg
    refine wr_ci (va_runV (As := [.int x1]) (rest := []) ⟨hx, hb, hml, hown, hts⟩ (c_X6_isSnapshot l D C N S z a0 x1 r11 S11 hc11) (cwV 1 hts gX6_restore_X6_isSnapshot rfl rfl rfl (by decide +kernel) ⟨Nat.le_of_ble_eq_true rfl, Nat.le_of_ble_eq_true rfl⟩) (wd_preV hw hok10 (wF_6 (S := S) hok10.2) rfl) rfl rfl hl.1 rfl (lv_room (Nat.le_of_ble_eq_true rfl)) dX6_restore_2 ⟨Nat.zero_le _, Nat.zero_le _⟩) hw (fun H locs hw => ?_)
    refine lv_if_ne (tgt := 18) hx hb dX6_restore_5 (by decide) (fun c12 => ?_) (fun c12 => ?_)
    · have hg := it_neg hg c12
      refine lv_aload_n hx hb dX6_restore_18 rfl (lv_at hl 0 rfl) ?_
      obtain ⟨hok13, hg⟩ := gd_some hg
      obtain ⟨r14, hr14, hg⟩ := nn_some hg
      refine wr_get (K := RX6) (T := TX6) (N := 7) (index := 26) (ref := "MakerLines") (v := .ref r14) hx hb hts hit_X6_restore_X6 hown hw hok13 (wF_6 (S := S11) hok13.2) rfl 3 (by decide) (hts _ (List.mem_of_getElem? (i := 5) rfl)) (fun _ h9 => h9) (congrArg (fun o => some (va_rf o)) hr14) dX6_restore_19 ?_
      refine lv_iload_n hx hb dX6_restore_22 rfl (lv_at hl 1 rfl) ?_
      obtain ⟨hok15, hg⟩ := gd_some hg
      obtain ⟨hin16, hg⟩ := gd_some hg
      rcases ho17 : (hR S11 r14 x1.toNatClampNeg) with _ | r17
      · rw [ho17] at hg; have hg := nz_none hg
        refine wr_aald (v := .null) hx hb hw hok15 (inb_vp hin16) (congrArg va_rf ho17) dX6_restore_23 ?_
        refine lv_astore_nN (lv' := [(2, .null), (0, .ref a0), (1, .int x1)]) hx hb dX6_restore_24 rfl hl (by decide) rfl (fun ls hl => ?_)
        refine lv_aload_nN hx hb dX6_restore_25 rfl (lv_at hl 0 rfl) ?_
        refine lv_ifnonnullN hx hb dX6_restore_26 ?_
        cases hg
        obtain ⟨sa, hsa⟩ := hthr.2.2.1 (193, "the snapshot was not taken") (List.mem_of_getElem? (i := 13) rfl)
        exact vx_throwS (own := RX6) (cls := "java/lang/IllegalStateException") (text := "the snapshot was not taken") (names := exN) (ik := 85) (is := 193) (ic := 89) (sa := sa) hx hb hlt hown (by decide +kernel) (by decide +kernel) (hts _ (List.mem_of_getElem? (i := 3) rfl)) (hts _ (List.mem_of_getElem? (i := 4) rfl)) hsa (vx_hat (fun w h => hts w (List.mem_cons_of_mem _ (List.mem_append_right _ (h)))) (fun w h => by rw [vb_ISE] at h; exact h) (fun w h => va_Nw.use (thrB_t h) (hthr.2.2.2.2.2.2 _ (by decide) w h))) vg_ISE hthr.1 hthr.2.1 hw.2.2.2.1 (hl.1.trans hml.symm) dX6_restore_29 dX6_restore_32 dX6_restore_33 dX6_restore_35 dX6_restore_38 (fun x9 hx9 => (htab x9 hx9).elim) (Nat.le_of_ble_eq_true rfl) (Nat.le_of_ble_eq_true rfl) (Nat.le_of_ble_eq_true rfl) (Nat.le_of_ble_eq_true rfl) hlk (fun t _ hz9 hq9 => wd_thr hw hz9 hq9) hw.2.2.2.1.2.2 (Nat.le_of_ble_eq_true rfl) (Nat.le_of_ble_eq_true rfl)
      · rw [ho17] at hg; have hg := nz_one hg
        refine wr_aald (v := .ref r17) hx hb hw hok15 (inb_vp hin16) (congrArg va_rf ho17) dX6_restore_23 ?_
        exact absurd hg (by simp)
    · have hg := it_pos hg c12
      cases hg
      obtain ⟨sa, hsa⟩ := hthr.2.2.1 (188, "a snapshot is 0 or 1") (List.mem_of_getElem? (i := 12) rfl)
      exact vx_throwS (own := RX6) (cls := "java/lang/IndexOutOfBoundsException") (text := "a snapshot is 0 or 1") (names := exN) (ik := 98) (is := 188) (ic := 102) (sa := sa) hx hb hlt hown (by decide +kernel) (by decide +kernel) (hts _ (List.mem_of_getElem? (i := 1) rfl)) (hts _ (List.mem_of_getElem? (i := 2) rfl)) hsa (vx_hat (fun w h => hts w (List.mem_cons_of_mem _ (List.mem_append_left _ (List.mem_append_right _ (h))))) (fun w h => by rw [vb_IOE] at h; exact h) (fun w h => va_Nw.use (thrB_t h) (hthr.2.2.2.2.2.2 _ (by decide) w h))) vg_IOE hthr.1 hthr.2.1 hw.2.2.2.1 (hl.1.trans hml.symm) dX6_restore_8 dX6_restore_11 dX6_restore_12 dX6_restore_14 dX6_restore_17 (fun x9 hx9 => (htab x9 hx9).elim) (Nat.le_of_ble_eq_true rfl) (Nat.le_of_ble_eq_true rfl) (Nat.le_of_ble_eq_true rfl) (Nat.le_of_ble_eq_true rfl) hlk (fun t _ hz9 hq9 => wd_thr hw hz9 hq9) hw.2.2.2.1.2.2 (Nat.le_of_ble_eq_true rfl) (Nat.le_of_ble_eq_true rfl)
  exact B0 S0 _ _ _ hg hw hl
def e_X6_undo (N : Nat) (S : Hp) (a0 : Nat) : Option (String × Hp) :=
  gd (ok S a0 6) <| nn (hR S a0 2) fun r11 => gd (ok S r11 0) <| if 0 < (hI S r11 1) then (none) else (some ("java/lang/IllegalStateException", S))
theorem hit_X6_undo_X0 : ∀ w ∈ wsX00, w ∈ wsX6_undo := fun _ h => List.mem_cons_of_mem _ (List.mem_append_left _ (List.mem_append_left _ (List.mem_append_left _ (List.mem_append_right _ (h)))))
theorem hit_X6_undo_X6 : ∀ w ∈ wsX60, w ∈ wsX6_undo := fun _ h => List.mem_cons_of_mem _ (List.mem_append_left _ (List.mem_append_left _ (List.mem_append_left _ (List.mem_append_left _ (List.mem_append_right _ (h))))))
abbrev rmT_X6_undo : Room := { frames := 6, cells := 1, slots := 6, locals := 90 }
set_option maxHeartbeats 4000000 in
set_option maxRecDepth 100000 in
theorem t_X6_undo (l : Launch) (hlt : l.stackTraces = false) (D : va_G) (C : C3) (N : Nat) (S0 : Hp) (z : Nat) (a0 : Nat) (r : String) (S9 : Hp) (hg : e_X6_undo N S0 a0 = some (r, S9)) : MetT l yX6_undo wsX6_undo rmT_X6_undo D C S0 z [.ref a0] r S9 := by
  refine tw_ofW (cc := cX6_undo) (maxL := 1) (ret := (some .int)) (lv := [(0, .ref a0)]) (by decide) rfl (Nat.le_of_ble_eq_true rfl) rfl ?_
  intro p e s m below meth c ls hx hb hr hts hown hlk hml htab hthr hl hw
  have hown : s.vm.findClass RX6 = some m.cls := hown
  have B0 : ∀ (S : Hp) (H : Heap) (locs : List Loc) (ls : Array Slot), e_X6_undo N S a0 = some (r, S9) → Wd D C (va_A (wP C S0) z) s.heap S z H locs s → lv_has ls 1 [(0, .ref a0)] → W p l e rmT_X6_undo s m ([.ref a0] : List Value).toArray below meth c H locs 0 0 (vx_MQ below QnT (XcT D C S0 z r S9) ([.ref a0] : List Value).toArray s 1 6 (va_A (wP C S0) z)) (F0 m 0 ls []) := by
    intro S H locs ls hg hw hl
    unfold e_X6_undo at hg
    refine lv_aload_n hx hb dX6_undo_0 rfl (lv_at hl 0 rfl) ?_
    obtain ⟨hok10, hg⟩ := gd_some hg
    obtain ⟨r11, hr11, hg⟩ := nn_some hg
    refine wr_get (K := RX6) (T := TX6) (N := 7) (index := 22) (ref := "MakerLines") (v := .ref r11) hx hb hts hit_X6_undo_X6 hown hw hok10 (wF_6 (S := S) hok10.2) rfl 2 (by decide) (hts _ (List.mem_of_getElem? (i := 3) rfl)) (fun _ h9 => h9) (congrArg (fun o => some (va_rf o)) hr11) dX6_undo_1 ?_
    obtain ⟨hok12, hg⟩ := gd_some hg
    refine wr_get (K := RX0) (T := TX0) (N := 2) (index := 195) (ref := "MakerLines$History") (v := .int (hI S r11 1)) hx hb hts hit_X6_undo_X0 hown hw hok12 (wF_0 (S := S) hok12.2) rfl 1 (by decide) (hts _ (List.mem_of_getElem? (i := 4) rfl)) (fun _ h9 => h9) rfl dX6_undo_4 ?_
    refine lv_if_gt (tgt := 20) hx hb dX6_undo_7 (by decide) (fun c13 => ?_) (fun c13 => ?_)
    · have hg := it_pos hg c13
      exact absurd hg (by simp)
    · have hg := it_neg hg c13
      cases hg
      obtain ⟨sa, hsa⟩ := hthr.2.2.1 (196, "there is no saved state") (List.mem_of_getElem? (i := 14) rfl)
      exact vx_throwS (own := RX6) (cls := "java/lang/IllegalStateException") (text := "there is no saved state") (names := exN) (ik := 85) (is := 196) (ic := 89) (sa := sa) hx hb hlt hown (by decide +kernel) (by decide +kernel) (hts _ (List.mem_of_getElem? (i := 1) rfl)) (hts _ (List.mem_of_getElem? (i := 2) rfl)) hsa (vx_hat (fun w h => hts w (List.mem_cons_of_mem _ (List.mem_append_right _ (h)))) (fun w h => by rw [vb_ISE] at h; exact h) (fun w h => va_Nw.use (thrB_t h) (hthr.2.2.2.2.2.2 _ (by decide) w h))) vg_ISE hthr.1 hthr.2.1 hw.2.2.2.1 (hl.1.trans hml.symm) dX6_undo_10 dX6_undo_13 dX6_undo_14 dX6_undo_16 dX6_undo_19 (fun x9 hx9 => (htab x9 hx9).elim) (Nat.le_of_ble_eq_true rfl) (Nat.le_of_ble_eq_true rfl) (Nat.le_of_ble_eq_true rfl) (Nat.le_of_ble_eq_true rfl) hlk (fun t _ hz9 hq9 => wd_thr hw hz9 hq9) hw.2.2.2.1.2.2 (Nat.le_of_ble_eq_true rfl) (Nat.le_of_ble_eq_true rfl)
  exact B0 S0 _ _ _ hg hw hl
def e_X6_line_b33 (N : Nat) (a0 : Nat) (x1 : Int32) (x2 : Int32) (S : Hp) : Option (String × Hp) :=
  some ("java/lang/IllegalArgumentException", S)
def e_X6_line (N : Nat) (S : Hp) (a0 : Nat) (x1 : Int32) (x2 : Int32) : Option (String × Hp) :=
  gd (ok S a0 6) <| nn (hR S a0 0) fun r11 => gd (ok S r11 4) <| nn (hR S r11 0) fun r13 => gd (ok S r13 1) <| cl (f_X1_has N S r13 x1) fun r15 S15 => if r15 = 0 then (some ("java/lang/IndexOutOfBoundsException", S15)) else (if x2 < 0 then (e_X6_line_b33 N a0 x1 x2 S15) else (if x2 < (5 : Int32) then (none) else (e_X6_line_b33 N a0 x1 x2 S15)))
theorem hit_X6_line_X4 : ∀ w ∈ wsX40, w ∈ wsX6_line := fun _ h => List.mem_cons_of_mem _ (List.mem_append_left _ (List.mem_append_left _ (List.mem_append_left _ (List.mem_append_right _ (h)))))
theorem hit_X6_line_X6 : ∀ w ∈ wsX60, w ∈ wsX6_line := fun _ h => List.mem_cons_of_mem _ (List.mem_append_left _ (List.mem_append_left _ (List.mem_append_left _ (List.mem_append_left _ (List.mem_append_right _ (h))))))
abbrev rmT_X6_line : Room := { frames := 6, cells := 1, slots := 6, locals := 90 }
set_option maxHeartbeats 4000000 in
set_option maxRecDepth 100000 in
theorem t_X6_line (l : Launch) (hlt : l.stackTraces = false) (D : va_G) (C : C3) (N : Nat) (S0 : Hp) (z : Nat) (a0 : Nat) (x1 : Int32) (x2 : Int32) (r : String) (S9 : Hp) (hg : e_X6_line N S0 a0 x1 x2 = some (r, S9)) : MetT l yX6_line wsX6_line rmT_X6_line D C S0 z [.ref a0, .int x1, .int x2] r S9 := by
  refine tw_ofW (cc := cX6_line) (maxL := 6) (ret := (some .int)) (lv := [(0, .ref a0), (1, .int x1), (2, .int x2)]) (by decide) rfl (Nat.le_of_ble_eq_true rfl) rfl ?_
  intro p e s m below meth c ls hx hb hr hts hown hlk hml htab hthr hl hw
  have hown : s.vm.findClass RX6 = some m.cls := hown
  have B33 : ∀ (S : Hp) (H : Heap) (locs : List Loc) (ls : Array Slot), e_X6_line_b33 N a0 x1 x2 S = some (r, S9) → Wd D C (va_A (wP C S0) z) s.heap S z H locs s → lv_has ls 6 [] → W p l e rmT_X6_line s m ([.ref a0, .int x1, .int x2] : List Value).toArray below meth c H locs 0 0 (vx_MQ below QnT (XcT D C S0 z r S9) ([.ref a0, .int x1, .int x2] : List Value).toArray s 1 6 (va_A (wP C S0) z)) (F0 m 33 ls []) := by
    intro S H locs ls hg hw hl
    unfold e_X6_line_b33 at hg
    cases hg
    obtain ⟨sa, hsa⟩ := hthr.2.2.1 (201, "a property of a line is 0 to 4") (List.mem_of_getElem? (i := 15) rfl)
    exact vx_throwS (own := RX6) (cls := "java/lang/IllegalArgumentException") (text := "a property of a line is 0 to 4") (names := exN) (ik := 51) (is := 201) (ic := 55) (sa := sa) hx hb hlt hown (by decide +kernel) (by decide +kernel) (hts _ (List.mem_of_getElem? (i := 3) rfl)) (hts _ (List.mem_of_getElem? (i := 4) rfl)) hsa (vx_hat (fun w h => hts w (List.mem_cons_of_mem _ (List.mem_append_right _ (h)))) (fun w h => by rw [vb_IAE] at h; exact h) (fun w h => va_Nw.use (thrB_t h) (hthr.2.2.2.2.2.2 _ (by decide) w h))) vg_IAE hthr.1 hthr.2.1 hw.2.2.2.1 (hl.1.trans hml.symm) dX6_line_33 dX6_line_36 dX6_line_37 dX6_line_39 dX6_line_42 (fun x9 hx9 => (htab x9 hx9).elim) (Nat.le_of_ble_eq_true rfl) (Nat.le_of_ble_eq_true rfl) (Nat.le_of_ble_eq_true rfl) (Nat.le_of_ble_eq_true rfl) hlk (fun t _ hz9 hq9 => wd_thr hw hz9 hq9) hw.2.2.2.1.2.2 (Nat.le_of_ble_eq_true rfl) (Nat.le_of_ble_eq_true rfl)
  have B0 : ∀ (S : Hp) (H : Heap) (locs : List Loc) (ls : Array Slot), e_X6_line N S a0 x1 x2 = some (r, S9) → Wd D C (va_A (wP C S0) z) s.heap S z H locs s → lv_has ls 6 [(0, .ref a0), (1, .int x1), (2, .int x2)] → W p l e rmT_X6_line s m ([.ref a0, .int x1, .int x2] : List Value).toArray below meth c H locs 0 0 (vx_MQ below QnT (XcT D C S0 z r S9) ([.ref a0, .int x1, .int x2] : List Value).toArray s 1 6 (va_A (wP C S0) z)) (F0 m 0 ls []) := by
    intro S H locs ls hg hw hl
    unfold e_X6_line at hg
    refine lv_aload_n hx hb dX6_line_0 rfl (lv_at hl 0 rfl) ?_
    obtain ⟨hok10, hg⟩ := gd_some hg
    obtain ⟨r11, hr11, hg⟩ := nn_some hg
    refine wr_get (K := RX6) (T := TX6) (N := 7) (index := 12) (ref := "MakerLines") (v := .ref r11) hx hb hts hit_X6_line_X6 hown hw hok10 (wF_6 (S := S) hok10.2) rfl 0 (by decide) (hts _ (List.mem_of_getElem? (i := 5) rfl)) (fun _ h9 => h9) (congrArg (fun o => some (va_rf o)) hr11) dX6_line_1 ?_
    obtain ⟨hok12, hg⟩ := gd_some hg
    obtain ⟨r13, hr13, hg⟩ := nn_some hg
    refine wr_get (K := RX4) (T := TX4) (N := 10) (index := 66) (ref := "MakerLines$State") (v := .ref r13) hx hb hts hit_X6_line_X4 hown hw hok12 (wF_4 (S := S) hok12.2) rfl 0 (by decide) (hts _ (List.mem_of_getElem? (i := 6) rfl)) (fun _ h9 => h9) (congrArg (fun o => some (va_rf o)) hr13) dX6_line_4 ?_
    refine lv_iload_n hx hb dX6_line_7 rfl (lv_at hl 1 rfl) ?_
    obtain ⟨hok14, hg⟩ := gd_some hg
    obtain ⟨r15, S15, hc15, hg⟩ := cl_some hg
    refine wr_ci (va_runV (As := [.int x1]) (rest := []) ⟨hx, hb, hml, hown, hts⟩ (c_X1_has l D C N S z r13 x1 r15 S15 hc15) (cwV 1 hts gX6_line_X1_has rfl rfl rfl (by decide +kernel) ⟨Nat.le_of_ble_eq_true rfl, Nat.le_of_ble_eq_true rfl⟩) (wd_preV hw hok14 (wF_1 (S := S) hok14.2) rfl) rfl rfl hl.1 rfl (lv_room (Nat.le_of_ble_eq_true rfl)) dX6_line_8 ⟨Nat.zero_le _, Nat.zero_le _⟩) hw (fun H locs hw => ?_)
    refine lv_if_ne (tgt := 24) hx hb dX6_line_11 (by decide) (fun c16 => ?_) (fun c16 => ?_)
    · have hg := it_neg hg c16
      refine lv_iload_n hx hb dX6_line_24 rfl (lv_at hl 2 rfl) ?_
      refine lv_if_lt (tgt := 33) hx hb dX6_line_25 (by decide) (fun c17 => ?_) (fun c17 => ?_)
      · have hg := it_pos hg c17
        exact B33 _ _ _ _ hg hw (lv_sub hl [] rfl)
      · have hg := it_neg hg c17
        refine lv_iload_n hx hb dX6_line_28 rfl (lv_at hl 2 rfl) ?_
        refine lv_iconst (v := (5 : Int32)) hx hb dX6_line_29 (by decide) ?_
        refine lv_icmp_lt (tgt := 43) hx hb dX6_line_30 (by decide) (fun c18 => ?_) (fun c18 => ?_)
        · have hg := it_pos hg c18
          exact absurd hg (by simp)
        · have hg := it_neg hg c18
          exact B33 _ _ _ _ hg hw (lv_sub hl [] rfl)
    · have hg := it_pos hg c16
      cases hg
      obtain ⟨sa, hsa⟩ := hthr.2.2.1 (100, "there is no such line") (List.mem_of_getElem? (i := 3) rfl)
      exact vx_throwS (own := RX6) (cls := "java/lang/IndexOutOfBoundsException") (text := "there is no such line") (names := exN) (ik := 98) (is := 100) (ic := 102) (sa := sa) hx hb hlt hown (by decide +kernel) (by decide +kernel) (hts _ (List.mem_of_getElem? (i := 1) rfl)) (hts _ (List.mem_of_getElem? (i := 2) rfl)) hsa (vx_hat (fun w h => hts w (List.mem_cons_of_mem _ (List.mem_append_left _ (List.mem_append_right _ (h))))) (fun w h => by rw [vb_IOE] at h; exact h) (fun w h => va_Nw.use (thrB_t h) (hthr.2.2.2.2.2.2 _ (by decide) w h))) vg_IOE hthr.1 hthr.2.1 hw.2.2.2.1 (hl.1.trans hml.symm) dX6_line_14 dX6_line_17 dX6_line_18 dX6_line_20 dX6_line_23 (fun x9 hx9 => (htab x9 hx9).elim) (Nat.le_of_ble_eq_true rfl) (Nat.le_of_ble_eq_true rfl) (Nat.le_of_ble_eq_true rfl) (Nat.le_of_ble_eq_true rfl) hlk (fun t _ hz9 hq9 => wd_thr hw hz9 hq9) hw.2.2.2.1.2.2 (Nat.le_of_ble_eq_true rfl) (Nat.le_of_ble_eq_true rfl)
  exact B0 S0 _ _ _ hg hw hl
def e_X6_cell_b30 (N : Nat) (a0 : Nat) (x1 : Int32) (x2 : Int32) (S : Hp) : Option (String × Hp) :=
  some ("java/lang/IllegalArgumentException", S)
def e_X6_cell (N : Nat) (S : Hp) (a0 : Nat) (x1 : Int32) (x2 : Int32) : Option (String × Hp) :=
  gd (ok S a0 6) <| nn (hR S a0 0) fun r11 => gd (ok S r11 4) <| cl (f_X4_hasCell N S r11 x1) fun r13 S13 => if r13 = 0 then (some ("java/lang/IndexOutOfBoundsException", S13)) else (if x2 < 0 then (e_X6_cell_b30 N a0 x1 x2 S13) else (if x2 < (4 : Int32) then (none) else (e_X6_cell_b30 N a0 x1 x2 S13)))
theorem hit_X6_cell_X6 : ∀ w ∈ wsX60, w ∈ wsX6_cell := fun _ h => List.mem_cons_of_mem _ (List.mem_append_left _ (List.mem_append_left _ (List.mem_append_left _ (List.mem_append_left _ (List.mem_append_left _ (List.mem_append_right _ (h)))))))
abbrev rmT_X6_cell : Room := { frames := 6, cells := 1, slots := 6, locals := 90 }
set_option maxHeartbeats 4000000 in
set_option maxRecDepth 100000 in
theorem t_X6_cell (l : Launch) (hlt : l.stackTraces = false) (D : va_G) (C : C3) (N : Nat) (S0 : Hp) (z : Nat) (a0 : Nat) (x1 : Int32) (x2 : Int32) (r : String) (S9 : Hp) (hg : e_X6_cell N S0 a0 x1 x2 = some (r, S9)) : MetT l yX6_cell wsX6_cell rmT_X6_cell D C S0 z [.ref a0, .int x1, .int x2] r S9 := by
  refine tw_ofW (cc := cX6_cell) (maxL := 3) (ret := (some .int)) (lv := [(0, .ref a0), (1, .int x1), (2, .int x2)]) (by decide) rfl (Nat.le_of_ble_eq_true rfl) rfl ?_
  intro p e s m below meth c ls hx hb hr hts hown hlk hml htab hthr hl hw
  have hown : s.vm.findClass RX6 = some m.cls := hown
  have B30 : ∀ (S : Hp) (H : Heap) (locs : List Loc) (ls : Array Slot), e_X6_cell_b30 N a0 x1 x2 S = some (r, S9) → Wd D C (va_A (wP C S0) z) s.heap S z H locs s → lv_has ls 3 [] → W p l e rmT_X6_cell s m ([.ref a0, .int x1, .int x2] : List Value).toArray below meth c H locs 0 0 (vx_MQ below QnT (XcT D C S0 z r S9) ([.ref a0, .int x1, .int x2] : List Value).toArray s 1 6 (va_A (wP C S0) z)) (F0 m 30 ls []) := by
    intro S H locs ls hg hw hl
    unfold e_X6_cell_b30 at hg
    cases hg
    obtain ⟨sa, hsa⟩ := hthr.2.2.1 (206, "a property of a cell is 0 to 3") (List.mem_of_getElem? (i := 16) rfl)
    exact vx_throwS (own := RX6) (cls := "java/lang/IllegalArgumentException") (text := "a property of a cell is 0 to 3") (names := exN) (ik := 51) (is := 206) (ic := 55) (sa := sa) hx hb hlt hown (by decide +kernel) (by decide +kernel) (hts _ (List.mem_of_getElem? (i := 3) rfl)) (hts _ (List.mem_of_getElem? (i := 4) rfl)) hsa (vx_hat (fun w h => hts w (List.mem_cons_of_mem _ (List.mem_append_right _ (h)))) (fun w h => by rw [vb_IAE] at h; exact h) (fun w h => va_Nw.use (thrB_t h) (hthr.2.2.2.2.2.2 _ (by decide) w h))) vg_IAE hthr.1 hthr.2.1 hw.2.2.2.1 (hl.1.trans hml.symm) dX6_cell_30 dX6_cell_33 dX6_cell_34 dX6_cell_36 dX6_cell_39 (fun x9 hx9 => (htab x9 hx9).elim) (Nat.le_of_ble_eq_true rfl) (Nat.le_of_ble_eq_true rfl) (Nat.le_of_ble_eq_true rfl) (Nat.le_of_ble_eq_true rfl) hlk (fun t _ hz9 hq9 => wd_thr hw hz9 hq9) hw.2.2.2.1.2.2 (Nat.le_of_ble_eq_true rfl) (Nat.le_of_ble_eq_true rfl)
  have B0 : ∀ (S : Hp) (H : Heap) (locs : List Loc) (ls : Array Slot), e_X6_cell N S a0 x1 x2 = some (r, S9) → Wd D C (va_A (wP C S0) z) s.heap S z H locs s → lv_has ls 3 [(0, .ref a0), (1, .int x1), (2, .int x2)] → W p l e rmT_X6_cell s m ([.ref a0, .int x1, .int x2] : List Value).toArray below meth c H locs 0 0 (vx_MQ below QnT (XcT D C S0 z r S9) ([.ref a0, .int x1, .int x2] : List Value).toArray s 1 6 (va_A (wP C S0) z)) (F0 m 0 ls []) := by
    intro S H locs ls hg hw hl
    unfold e_X6_cell at hg
    refine lv_aload_n hx hb dX6_cell_0 rfl (lv_at hl 0 rfl) ?_
    obtain ⟨hok10, hg⟩ := gd_some hg
    obtain ⟨r11, hr11, hg⟩ := nn_some hg
    refine wr_get (K := RX6) (T := TX6) (N := 7) (index := 12) (ref := "MakerLines") (v := .ref r11) hx hb hts hit_X6_cell_X6 hown hw hok10 (wF_6 (S := S) hok10.2) rfl 0 (by decide) (hts _ (List.mem_of_getElem? (i := 5) rfl)) (fun _ h9 => h9) (congrArg (fun o => some (va_rf o)) hr11) dX6_cell_1 ?_
    refine lv_iload_n hx hb dX6_cell_4 rfl (lv_at hl 1 rfl) ?_
    obtain ⟨hok12, hg⟩ := gd_some hg
    obtain ⟨r13, S13, hc13, hg⟩ := cl_some hg
    refine wr_ci (va_runV (As := [.int x1]) (rest := []) ⟨hx, hb, hml, hown, hts⟩ (c_X4_hasCell l D C N S z r11 x1 r13 S13 hc13) (cwV 1 hts gX6_cell_X4_hasCell rfl rfl rfl (by decide +kernel) ⟨Nat.le_of_ble_eq_true rfl, Nat.le_of_ble_eq_true rfl⟩) (wd_preV hw hok12 (wF_4 (S := S) hok12.2) rfl) rfl rfl hl.1 rfl (lv_room (Nat.le_of_ble_eq_true rfl)) dX6_cell_5 ⟨Nat.zero_le _, Nat.zero_le _⟩) hw (fun H locs hw => ?_)
    refine lv_if_ne (tgt := 21) hx hb dX6_cell_8 (by decide) (fun c14 => ?_) (fun c14 => ?_)
    · have hg := it_neg hg c14
      refine lv_iload_n hx hb dX6_cell_21 rfl (lv_at hl 2 rfl) ?_
      refine lv_if_lt (tgt := 30) hx hb dX6_cell_22 (by decide) (fun c15 => ?_) (fun c15 => ?_)
      · have hg := it_pos hg c15
        exact B30 _ _ _ _ hg hw (lv_sub hl [] rfl)
      · have hg := it_neg hg c15
        refine lv_iload_n hx hb dX6_cell_25 rfl (lv_at hl 2 rfl) ?_
        refine lv_iconst (v := (4 : Int32)) hx hb dX6_cell_26 (by decide) ?_
        refine lv_icmp_lt (tgt := 40) hx hb dX6_cell_27 (by decide) (fun c16 => ?_) (fun c16 => ?_)
        · have hg := it_pos hg c16
          exact absurd hg (by simp)
        · have hg := it_neg hg c16
          exact B30 _ _ _ _ hg hw (lv_sub hl [] rfl)
    · have hg := it_pos hg c14
      cases hg
      obtain ⟨sa, hsa⟩ := hthr.2.2.1 (124, "there is no such cell") (List.mem_of_getElem? (i := 4) rfl)
      exact vx_throwS (own := RX6) (cls := "java/lang/IndexOutOfBoundsException") (text := "there is no such cell") (names := exN) (ik := 98) (is := 124) (ic := 102) (sa := sa) hx hb hlt hown (by decide +kernel) (by decide +kernel) (hts _ (List.mem_of_getElem? (i := 1) rfl)) (hts _ (List.mem_of_getElem? (i := 2) rfl)) hsa (vx_hat (fun w h => hts w (List.mem_cons_of_mem _ (List.mem_append_left _ (List.mem_append_right _ (h))))) (fun w h => by rw [vb_IOE] at h; exact h) (fun w h => va_Nw.use (thrB_t h) (hthr.2.2.2.2.2.2 _ (by decide) w h))) vg_IOE hthr.1 hthr.2.1 hw.2.2.2.1 (hl.1.trans hml.symm) dX6_cell_11 dX6_cell_14 dX6_cell_15 dX6_cell_17 dX6_cell_20 (fun x9 hx9 => (htab x9 hx9).elim) (Nat.le_of_ble_eq_true rfl) (Nat.le_of_ble_eq_true rfl) (Nat.le_of_ble_eq_true rfl) (Nat.le_of_ble_eq_true rfl) hlk (fun t _ hz9 hq9 => wd_thr hw hz9 hq9) hw.2.2.2.1.2.2 (Nat.le_of_ble_eq_true rfl) (Nat.le_of_ble_eq_true rfl)
  exact B0 S0 _ _ _ hg hw hl
def e_X6_reply (N : Nat) (S : Hp) (a0 : Nat) (x1 : Int32) : Option (String × Hp) :=
  cl (f_X6_isRule N S x1) fun r10 S10 => if r10 = 0 then (some ("java/lang/IllegalArgumentException", S10)) else (none)
abbrev rmT_X6_reply : Room := { frames := 6, cells := 1, slots := 6, locals := 90 }
set_option maxHeartbeats 4000000 in
set_option maxRecDepth 100000 in
theorem t_X6_reply (l : Launch) (hlt : l.stackTraces = false) (D : va_G) (C : C3) (N : Nat) (S0 : Hp) (z : Nat) (a0 : Nat) (x1 : Int32) (r : String) (S9 : Hp) (hg : e_X6_reply N S0 a0 x1 = some (r, S9)) : MetT l yX6_reply wsX6_reply rmT_X6_reply D C S0 z [.ref a0, .int x1] r S9 := by
  refine tw_ofW (cc := cX6_reply) (maxL := 2) (ret := (some .int)) (lv := [(0, .ref a0), (1, .int x1)]) (by decide) rfl (Nat.le_of_ble_eq_true rfl) rfl ?_
  intro p e s m below meth c ls hx hb hr hts hown hlk hml htab hthr hl hw
  have hown : s.vm.findClass RX6 = some m.cls := hown
  have B0 : ∀ (S : Hp) (H : Heap) (locs : List Loc) (ls : Array Slot), e_X6_reply N S a0 x1 = some (r, S9) → Wd D C (va_A (wP C S0) z) s.heap S z H locs s → lv_has ls 2 [(0, .ref a0), (1, .int x1)] → W p l e rmT_X6_reply s m ([.ref a0, .int x1] : List Value).toArray below meth c H locs 0 0 (vx_MQ below QnT (XcT D C S0 z r S9) ([.ref a0, .int x1] : List Value).toArray s 1 6 (va_A (wP C S0) z)) (F0 m 0 ls []) := by
    intro S H locs ls hg hw hl
    unfold e_X6_reply at hg
    refine lv_iload_n hx hb dX6_reply_0 rfl (lv_at hl 1 rfl) ?_
    obtain ⟨r10, S10, hc10, hg⟩ := cl_some hg
    refine wr_ci (va_runS (As := [.int x1]) (rest := []) ⟨hx, hb, hml, hown, hts⟩ (c_X6_isRule l D C N S z x1 r10 S10 hc10) (va_cwS 1 hts gX6_reply_X6_isRule rfl rfl rfl (by decide +kernel) ⟨Nat.le_of_ble_eq_true rfl, Nat.le_of_ble_eq_true rfl⟩) (wd_preS hw) rfl rfl hl.1 rfl (lv_room (Nat.le_of_ble_eq_true rfl)) dX6_reply_1 ⟨Nat.zero_le _, Nat.zero_le _⟩) hw (fun H locs hw => ?_)
    refine lv_if_ne (tgt := 17) hx hb dX6_reply_4 (by decide) (fun c11 => ?_) (fun c11 => ?_)
    · have hg := it_neg hg c11
      exact absurd hg (by simp)
    · have hg := it_pos hg c11
      cases hg
      obtain ⟨sa, hsa⟩ := hthr.2.2.1 (218, "a rule is 0 to 3") (List.mem_of_getElem? (i := 17) rfl)
      exact vx_throwS (own := RX6) (cls := "java/lang/IllegalArgumentException") (text := "a rule is 0 to 3") (names := exN) (ik := 51) (is := 218) (ic := 55) (sa := sa) hx hb hlt hown (by decide +kernel) (by decide +kernel) (hts _ (List.mem_of_getElem? (i := 1) rfl)) (hts _ (List.mem_of_getElem? (i := 2) rfl)) hsa (vx_hat (fun w h => hts w (List.mem_cons_of_mem _ (List.mem_append_right _ (h)))) (fun w h => by rw [vb_IAE] at h; exact h) (fun w h => va_Nw.use (thrB_t h) (hthr.2.2.2.2.2.2 _ (by decide) w h))) vg_IAE hthr.1 hthr.2.1 hw.2.2.2.1 (hl.1.trans hml.symm) dX6_reply_7 dX6_reply_10 dX6_reply_11 dX6_reply_13 dX6_reply_16 (fun x9 hx9 => (htab x9 hx9).elim) (Nat.le_of_ble_eq_true rfl) (Nat.le_of_ble_eq_true rfl) (Nat.le_of_ble_eq_true rfl) (Nat.le_of_ble_eq_true rfl) hlk (fun t _ hz9 hq9 => wd_thr hw hz9 hq9) hw.2.2.2.1.2.2 (Nat.le_of_ble_eq_true rfl) (Nat.le_of_ble_eq_true rfl)
  exact B0 S0 _ _ _ hg hw hl
def e_X6_solved_b9 (N : Nat) (a0 : Nat) (x1 : Int32) (S : Hp) : Option (String × Hp) :=
  some ("java/lang/IllegalArgumentException", S)
def e_X6_solved (N : Nat) (S : Hp) (a0 : Nat) (x1 : Int32) : Option (String × Hp) :=
  if x1 < 0 then (e_X6_solved_b9 N a0 x1 S) else (if x1 < (2 : Int32) then (none) else (e_X6_solved_b9 N a0 x1 S))
abbrev rmT_X6_solved : Room := { frames := 6, cells := 1, slots := 6, locals := 90 }
set_option maxHeartbeats 4000000 in
set_option maxRecDepth 100000 in
theorem t_X6_solved (l : Launch) (hlt : l.stackTraces = false) (D : va_G) (C : C3) (N : Nat) (S0 : Hp) (z : Nat) (a0 : Nat) (x1 : Int32) (r : String) (S9 : Hp) (hg : e_X6_solved N S0 a0 x1 = some (r, S9)) : MetT l yX6_solved wsX6_solved rmT_X6_solved D C S0 z [.ref a0, .int x1] r S9 := by
  refine tw_ofW (cc := cX6_solved) (maxL := 4) (ret := (some .int)) (lv := [(0, .ref a0), (1, .int x1)]) (by decide) rfl (Nat.le_of_ble_eq_true rfl) rfl ?_
  intro p e s m below meth c ls hx hb hr hts hown hlk hml htab hthr hl hw
  have hown : s.vm.findClass RX6 = some m.cls := hown
  have B9 : ∀ (S : Hp) (H : Heap) (locs : List Loc) (ls : Array Slot), e_X6_solved_b9 N a0 x1 S = some (r, S9) → Wd D C (va_A (wP C S0) z) s.heap S z H locs s → lv_has ls 4 [] → W p l e rmT_X6_solved s m ([.ref a0, .int x1] : List Value).toArray below meth c H locs 0 0 (vx_MQ below QnT (XcT D C S0 z r S9) ([.ref a0, .int x1] : List Value).toArray s 1 6 (va_A (wP C S0) z)) (F0 m 9 ls []) := by
    intro S H locs ls hg hw hl
    unfold e_X6_solved_b9 at hg
    cases hg
    obtain ⟨sa, hsa⟩ := hthr.2.2.1 (224, "what is told is 0 or 1") (List.mem_of_getElem? (i := 18) rfl)
    exact vx_throwS (own := RX6) (cls := "java/lang/IllegalArgumentException") (text := "what is told is 0 or 1") (names := exN) (ik := 51) (is := 224) (ic := 55) (sa := sa) hx hb hlt hown (by decide +kernel) (by decide +kernel) (hts _ (List.mem_of_getElem? (i := 1) rfl)) (hts _ (List.mem_of_getElem? (i := 2) rfl)) hsa (vx_hat (fun w h => hts w (List.mem_cons_of_mem _ (List.mem_append_right _ (h)))) (fun w h => by rw [vb_IAE] at h; exact h) (fun w h => va_Nw.use (thrB_t h) (hthr.2.2.2.2.2.2 _ (by decide) w h))) vg_IAE hthr.1 hthr.2.1 hw.2.2.2.1 (hl.1.trans hml.symm) dX6_solved_9 dX6_solved_12 dX6_solved_13 dX6_solved_15 dX6_solved_18 (fun x9 hx9 => (htab x9 hx9).elim) (Nat.le_of_ble_eq_true rfl) (Nat.le_of_ble_eq_true rfl) (Nat.le_of_ble_eq_true rfl) (Nat.le_of_ble_eq_true rfl) hlk (fun t _ hz9 hq9 => wd_thr hw hz9 hq9) hw.2.2.2.1.2.2 (Nat.le_of_ble_eq_true rfl) (Nat.le_of_ble_eq_true rfl)
  have B0 : ∀ (S : Hp) (H : Heap) (locs : List Loc) (ls : Array Slot), e_X6_solved N S a0 x1 = some (r, S9) → Wd D C (va_A (wP C S0) z) s.heap S z H locs s → lv_has ls 4 [(0, .ref a0), (1, .int x1)] → W p l e rmT_X6_solved s m ([.ref a0, .int x1] : List Value).toArray below meth c H locs 0 0 (vx_MQ below QnT (XcT D C S0 z r S9) ([.ref a0, .int x1] : List Value).toArray s 1 6 (va_A (wP C S0) z)) (F0 m 0 ls []) := by
    intro S H locs ls hg hw hl
    unfold e_X6_solved at hg
    refine lv_iload_n hx hb dX6_solved_0 rfl (lv_at hl 1 rfl) ?_
    refine lv_if_lt (tgt := 9) hx hb dX6_solved_1 (by decide) (fun c10 => ?_) (fun c10 => ?_)
    · have hg := it_pos hg c10
      exact B9 _ _ _ _ hg hw (lv_sub hl [] rfl)
    · have hg := it_neg hg c10
      refine lv_iload_n hx hb dX6_solved_4 rfl (lv_at hl 1 rfl) ?_
      refine lv_iconst (v := (2 : Int32)) hx hb dX6_solved_5 (by decide) ?_
      refine lv_icmp_lt (tgt := 19) hx hb dX6_solved_6 (by decide) (fun c11 => ?_) (fun c11 => ?_)
      · have hg := it_pos hg c11
        exact absurd hg (by simp)
      · have hg := it_neg hg c11
        exact B9 _ _ _ _ hg hw (lv_sub hl [] rfl)
  exact B0 S0 _ _ _ hg hw hl
def e_X6_ifMoved (N : Nat) (S : Hp) (a0 : Nat) (x1 : Int32) : Option (String × Hp) :=
  gd (ok S a0 6) <| nn (hR S a0 0) fun r11 => gd (ok S r11 4) <| cl (f_X4_hasCell N S r11 x1) fun r13 S13 => if r13 = 0 then (some ("java/lang/IndexOutOfBoundsException", S13)) else (none)
theorem hit_X6_ifMoved_X6 : ∀ w ∈ wsX60, w ∈ wsX6_ifMoved := fun _ h => List.mem_cons_of_mem _ (List.mem_append_left _ (List.mem_append_left _ (List.mem_append_left _ (List.mem_append_left _ (List.mem_append_right _ (h))))))
abbrev rmT_X6_ifMoved : Room := { frames := 6, cells := 1, slots := 6, locals := 90 }
set_option maxHeartbeats 4000000 in
set_option maxRecDepth 100000 in
theorem t_X6_ifMoved (l : Launch) (hlt : l.stackTraces = false) (D : va_G) (C : C3) (N : Nat) (S0 : Hp) (z : Nat) (a0 : Nat) (x1 : Int32) (r : String) (S9 : Hp) (hg : e_X6_ifMoved N S0 a0 x1 = some (r, S9)) : MetT l yX6_ifMoved wsX6_ifMoved rmT_X6_ifMoved D C S0 z [.ref a0, .int x1] r S9 := by
  refine tw_ofW (cc := cX6_ifMoved) (maxL := 2) (ret := (some .int)) (lv := [(0, .ref a0), (1, .int x1)]) (by decide) rfl (Nat.le_of_ble_eq_true rfl) rfl ?_
  intro p e s m below meth c ls hx hb hr hts hown hlk hml htab hthr hl hw
  have hown : s.vm.findClass RX6 = some m.cls := hown
  have B0 : ∀ (S : Hp) (H : Heap) (locs : List Loc) (ls : Array Slot), e_X6_ifMoved N S a0 x1 = some (r, S9) → Wd D C (va_A (wP C S0) z) s.heap S z H locs s → lv_has ls 2 [(0, .ref a0), (1, .int x1)] → W p l e rmT_X6_ifMoved s m ([.ref a0, .int x1] : List Value).toArray below meth c H locs 0 0 (vx_MQ below QnT (XcT D C S0 z r S9) ([.ref a0, .int x1] : List Value).toArray s 1 6 (va_A (wP C S0) z)) (F0 m 0 ls []) := by
    intro S H locs ls hg hw hl
    unfold e_X6_ifMoved at hg
    refine lv_aload_n hx hb dX6_ifMoved_0 rfl (lv_at hl 0 rfl) ?_
    obtain ⟨hok10, hg⟩ := gd_some hg
    obtain ⟨r11, hr11, hg⟩ := nn_some hg
    refine wr_get (K := RX6) (T := TX6) (N := 7) (index := 12) (ref := "MakerLines") (v := .ref r11) hx hb hts hit_X6_ifMoved_X6 hown hw hok10 (wF_6 (S := S) hok10.2) rfl 0 (by decide) (hts _ (List.mem_of_getElem? (i := 3) rfl)) (fun _ h9 => h9) (congrArg (fun o => some (va_rf o)) hr11) dX6_ifMoved_1 ?_
    refine lv_iload_n hx hb dX6_ifMoved_4 rfl (lv_at hl 1 rfl) ?_
    obtain ⟨hok12, hg⟩ := gd_some hg
    obtain ⟨r13, S13, hc13, hg⟩ := cl_some hg
    refine wr_ci (va_runV (As := [.int x1]) (rest := []) ⟨hx, hb, hml, hown, hts⟩ (c_X4_hasCell l D C N S z r11 x1 r13 S13 hc13) (cwV 1 hts gX6_ifMoved_X4_hasCell rfl rfl rfl (by decide +kernel) ⟨Nat.le_of_ble_eq_true rfl, Nat.le_of_ble_eq_true rfl⟩) (wd_preV hw hok12 (wF_4 (S := S) hok12.2) rfl) rfl rfl hl.1 rfl (lv_room (Nat.le_of_ble_eq_true rfl)) dX6_ifMoved_5 ⟨Nat.zero_le _, Nat.zero_le _⟩) hw (fun H locs hw => ?_)
    refine lv_if_ne (tgt := 21) hx hb dX6_ifMoved_8 (by decide) (fun c14 => ?_) (fun c14 => ?_)
    · have hg := it_neg hg c14
      exact absurd hg (by simp)
    · have hg := it_pos hg c14
      cases hg
      obtain ⟨sa, hsa⟩ := hthr.2.2.1 (124, "there is no such cell") (List.mem_of_getElem? (i := 4) rfl)
      exact vx_throwS (own := RX6) (cls := "java/lang/IndexOutOfBoundsException") (text := "there is no such cell") (names := exN) (ik := 98) (is := 124) (ic := 102) (sa := sa) hx hb hlt hown (by decide +kernel) (by decide +kernel) (hts _ (List.mem_of_getElem? (i := 1) rfl)) (hts _ (List.mem_of_getElem? (i := 2) rfl)) hsa (vx_hat (fun w h => hts w (List.mem_cons_of_mem _ (List.mem_append_right _ (h)))) (fun w h => by rw [vb_IOE] at h; exact h) (fun w h => va_Nw.use (thrB_t h) (hthr.2.2.2.2.2.2 _ (by decide) w h))) vg_IOE hthr.1 hthr.2.1 hw.2.2.2.1 (hl.1.trans hml.symm) dX6_ifMoved_11 dX6_ifMoved_14 dX6_ifMoved_15 dX6_ifMoved_17 dX6_ifMoved_20 (fun x9 hx9 => (htab x9 hx9).elim) (Nat.le_of_ble_eq_true rfl) (Nat.le_of_ble_eq_true rfl) (Nat.le_of_ble_eq_true rfl) (Nat.le_of_ble_eq_true rfl) hlk (fun t _ hz9 hq9 => wd_thr hw hz9 hq9) hw.2.2.2.1.2.2 (Nat.le_of_ble_eq_true rfl) (Nat.le_of_ble_eq_true rfl)
  exact B0 S0 _ _ _ hg hw hl
def e_X6_ifPlayed_b14 (N : Nat) (a0 : Nat) (x1 : Int32) (x2 : Int32) (S : Hp) : Option (String × Hp) :=
  some ("java/lang/IllegalArgumentException", S)
def e_X6_ifPlayed (N : Nat) (S : Hp) (a0 : Nat) (x1 : Int32) (x2 : Int32) : Option (String × Hp) :=
  cl (f_X6_isRule N S x1) fun r10 S10 => if r10 = 0 then (e_X6_ifPlayed_b14 N a0 x1 x2 S10) else (cl (f_X6_isRule N S10 x2) fun r12 S12 => if r12 = 0 then (e_X6_ifPlayed_b14 N a0 x1 x2 S12) else (none))
abbrev rmT_X6_ifPlayed : Room := { frames := 6, cells := 1, slots := 6, locals := 90 }
set_option maxHeartbeats 4000000 in
set_option maxRecDepth 100000 in
theorem t_X6_ifPlayed (l : Launch) (hlt : l.stackTraces = false) (D : va_G) (C : C3) (N : Nat) (S0 : Hp) (z : Nat) (a0 : Nat) (x1 : Int32) (x2 : Int32) (r : String) (S9 : Hp) (hg : e_X6_ifPlayed N S0 a0 x1 x2 = some (r, S9)) : MetT l yX6_ifPlayed wsX6_ifPlayed rmT_X6_ifPlayed D C S0 z [.ref a0, .int x1, .int x2] r S9 := by
  refine tw_ofW (cc := cX6_ifPlayed) (maxL := 3) (ret := (some .int)) (lv := [(0, .ref a0), (1, .int x1), (2, .int x2)]) (by decide) rfl (Nat.le_of_ble_eq_true rfl) rfl ?_
  intro p e s m below meth c ls hx hb hr hts hown hlk hml htab hthr hl hw
  have hown : s.vm.findClass RX6 = some m.cls := hown
  have B14 : ∀ (S : Hp) (H : Heap) (locs : List Loc) (ls : Array Slot), e_X6_ifPlayed_b14 N a0 x1 x2 S = some (r, S9) → Wd D C (va_A (wP C S0) z) s.heap S z H locs s → lv_has ls 3 [] → W p l e rmT_X6_ifPlayed s m ([.ref a0, .int x1, .int x2] : List Value).toArray below meth c H locs 0 0 (vx_MQ below QnT (XcT D C S0 z r S9) ([.ref a0, .int x1, .int x2] : List Value).toArray s 1 6 (va_A (wP C S0) z)) (F0 m 14 ls []) := by
    intro S H locs ls hg hw hl
    unfold e_X6_ifPlayed_b14 at hg
    cases hg
    obtain ⟨sa, hsa⟩ := hthr.2.2.1 (218, "a rule is 0 to 3") (List.mem_of_getElem? (i := 17) rfl)
    exact vx_throwS (own := RX6) (cls := "java/lang/IllegalArgumentException") (text := "a rule is 0 to 3") (names := exN) (ik := 51) (is := 218) (ic := 55) (sa := sa) hx hb hlt hown (by decide +kernel) (by decide +kernel) (hts _ (List.mem_of_getElem? (i := 1) rfl)) (hts _ (List.mem_of_getElem? (i := 2) rfl)) hsa (vx_hat (fun w h => hts w (List.mem_cons_of_mem _ (List.mem_append_right _ (h)))) (fun w h => by rw [vb_IAE] at h; exact h) (fun w h => va_Nw.use (thrB_t h) (hthr.2.2.2.2.2.2 _ (by decide) w h))) vg_IAE hthr.1 hthr.2.1 hw.2.2.2.1 (hl.1.trans hml.symm) dX6_ifPlayed_14 dX6_ifPlayed_17 dX6_ifPlayed_18 dX6_ifPlayed_20 dX6_ifPlayed_23 (fun x9 hx9 => (htab x9 hx9).elim) (Nat.le_of_ble_eq_true rfl) (Nat.le_of_ble_eq_true rfl) (Nat.le_of_ble_eq_true rfl) (Nat.le_of_ble_eq_true rfl) hlk (fun t _ hz9 hq9 => wd_thr hw hz9 hq9) hw.2.2.2.1.2.2 (Nat.le_of_ble_eq_true rfl) (Nat.le_of_ble_eq_true rfl)
  have B0 : ∀ (S : Hp) (H : Heap) (locs : List Loc) (ls : Array Slot), e_X6_ifPlayed N S a0 x1 x2 = some (r, S9) → Wd D C (va_A (wP C S0) z) s.heap S z H locs s → lv_has ls 3 [(0, .ref a0), (1, .int x1), (2, .int x2)] → W p l e rmT_X6_ifPlayed s m ([.ref a0, .int x1, .int x2] : List Value).toArray below meth c H locs 0 0 (vx_MQ below QnT (XcT D C S0 z r S9) ([.ref a0, .int x1, .int x2] : List Value).toArray s 1 6 (va_A (wP C S0) z)) (F0 m 0 ls []) := by
    intro S H locs ls hg hw hl
    unfold e_X6_ifPlayed at hg
    refine lv_iload_n hx hb dX6_ifPlayed_0 rfl (lv_at hl 1 rfl) ?_
    obtain ⟨r10, S10, hc10, hg⟩ := cl_some hg
    refine wr_ci (va_runS (As := [.int x1]) (rest := []) ⟨hx, hb, hml, hown, hts⟩ (c_X6_isRule l D C N S z x1 r10 S10 hc10) (va_cwS 1 hts gX6_ifPlayed_X6_isRule rfl rfl rfl (by decide +kernel) ⟨Nat.le_of_ble_eq_true rfl, Nat.le_of_ble_eq_true rfl⟩) (wd_preS hw) rfl rfl hl.1 rfl (lv_room (Nat.le_of_ble_eq_true rfl)) dX6_ifPlayed_1 ⟨Nat.zero_le _, Nat.zero_le _⟩) hw (fun H locs hw => ?_)
    refine lv_if_eq (tgt := 14) hx hb dX6_ifPlayed_4 (by decide) (fun c11 => ?_) (fun c11 => ?_)
    · have hg := it_pos hg c11
      exact B14 _ _ _ _ hg hw (lv_sub hl [] rfl)
    · have hg := it_neg hg c11
      refine lv_iload_n hx hb dX6_ifPlayed_7 rfl (lv_at hl 2 rfl) ?_
      obtain ⟨r12, S12, hc12, hg⟩ := cl_some hg
      refine wr_ci (va_runS (As := [.int x2]) (rest := []) ⟨hx, hb, hml, hown, hts⟩ (c_X6_isRule l D C N S10 z x2 r12 S12 hc12) (va_cwS 1 hts gX6_ifPlayed_X6_isRule rfl rfl rfl (by decide +kernel) ⟨Nat.le_of_ble_eq_true rfl, Nat.le_of_ble_eq_true rfl⟩) (wd_preS hw) rfl rfl hl.1 rfl (lv_room (Nat.le_of_ble_eq_true rfl)) dX6_ifPlayed_8 ⟨Nat.zero_le _, Nat.zero_le _⟩) hw (fun H locs hw => ?_)
      refine lv_if_ne (tgt := 24) hx hb dX6_ifPlayed_11 (by decide) (fun c13 => ?_) (fun c13 => ?_)
      · have hg := it_neg hg c13
        exact absurd hg (by simp)
      · have hg := it_pos hg c13
        exact B14 _ _ _ _ hg hw (lv_sub hl [] rfl)
  exact B0 S0 _ _ _ hg hw hl
def e_X6_count_b10 (N : Nat) (a0 : Nat) (x1 : Int32) (S : Hp) : Option (String × Hp) :=
  some ("java/lang/IllegalArgumentException", S)
def e_X6_count (N : Nat) (S : Hp) (a0 : Nat) (x1 : Int32) : Option (String × Hp) :=
  if x1 < 0 then (e_X6_count_b10 N a0 x1 S) else (if x1 < (16 : Int32) then (none) else (e_X6_count_b10 N a0 x1 S))
abbrev rmT_X6_count : Room := { frames := 6, cells := 1, slots := 6, locals := 90 }
set_option maxHeartbeats 4000000 in
set_option maxRecDepth 100000 in
theorem t_X6_count (l : Launch) (hlt : l.stackTraces = false) (D : va_G) (C : C3) (N : Nat) (S0 : Hp) (z : Nat) (a0 : Nat) (x1 : Int32) (r : String) (S9 : Hp) (hg : e_X6_count N S0 a0 x1 = some (r, S9)) : MetT l yX6_count wsX6_count rmT_X6_count D C S0 z [.ref a0, .int x1] r S9 := by
  refine tw_ofW (cc := cX6_count) (maxL := 3) (ret := (some .int)) (lv := [(0, .ref a0), (1, .int x1)]) (by decide) rfl (Nat.le_of_ble_eq_true rfl) rfl ?_
  intro p e s m below meth c ls hx hb hr hts hown hlk hml htab hthr hl hw
  have hown : s.vm.findClass RX6 = some m.cls := hown
  have B10 : ∀ (S : Hp) (H : Heap) (locs : List Loc) (ls : Array Slot), e_X6_count_b10 N a0 x1 S = some (r, S9) → Wd D C (va_A (wP C S0) z) s.heap S z H locs s → lv_has ls 3 [] → W p l e rmT_X6_count s m ([.ref a0, .int x1] : List Value).toArray below meth c H locs 0 0 (vx_MQ below QnT (XcT D C S0 z r S9) ([.ref a0, .int x1] : List Value).toArray s 1 6 (va_A (wP C S0) z)) (F0 m 10 ls []) := by
    intro S H locs ls hg hw hl
    unfold e_X6_count_b10 at hg
    cases hg
    obtain ⟨sa, hsa⟩ := hthr.2.2.1 (230, "what is counted is 0 to 15") (List.mem_of_getElem? (i := 19) rfl)
    exact vx_throwS (own := RX6) (cls := "java/lang/IllegalArgumentException") (text := "what is counted is 0 to 15") (names := exN) (ik := 51) (is := 230) (ic := 55) (sa := sa) hx hb hlt hown (by decide +kernel) (by decide +kernel) (hts _ (List.mem_of_getElem? (i := 1) rfl)) (hts _ (List.mem_of_getElem? (i := 2) rfl)) hsa (vx_hat (fun w h => hts w (List.mem_cons_of_mem _ (List.mem_append_right _ (h)))) (fun w h => by rw [vb_IAE] at h; exact h) (fun w h => va_Nw.use (thrB_t h) (hthr.2.2.2.2.2.2 _ (by decide) w h))) vg_IAE hthr.1 hthr.2.1 hw.2.2.2.1 (hl.1.trans hml.symm) dX6_count_10 dX6_count_13 dX6_count_14 dX6_count_16 dX6_count_19 (fun x9 hx9 => (htab x9 hx9).elim) (Nat.le_of_ble_eq_true rfl) (Nat.le_of_ble_eq_true rfl) (Nat.le_of_ble_eq_true rfl) (Nat.le_of_ble_eq_true rfl) hlk (fun t _ hz9 hq9 => wd_thr hw hz9 hq9) hw.2.2.2.1.2.2 (Nat.le_of_ble_eq_true rfl) (Nat.le_of_ble_eq_true rfl)
  have B0 : ∀ (S : Hp) (H : Heap) (locs : List Loc) (ls : Array Slot), e_X6_count N S a0 x1 = some (r, S9) → Wd D C (va_A (wP C S0) z) s.heap S z H locs s → lv_has ls 3 [(0, .ref a0), (1, .int x1)] → W p l e rmT_X6_count s m ([.ref a0, .int x1] : List Value).toArray below meth c H locs 0 0 (vx_MQ below QnT (XcT D C S0 z r S9) ([.ref a0, .int x1] : List Value).toArray s 1 6 (va_A (wP C S0) z)) (F0 m 0 ls []) := by
    intro S H locs ls hg hw hl
    unfold e_X6_count at hg
    refine lv_iload_n hx hb dX6_count_0 rfl (lv_at hl 1 rfl) ?_
    refine lv_if_lt (tgt := 10) hx hb dX6_count_1 (by decide) (fun c10 => ?_) (fun c10 => ?_)
    · have hg := it_pos hg c10
      exact B10 _ _ _ _ hg hw (lv_sub hl [] rfl)
    · have hg := it_neg hg c10
      refine lv_iload_n hx hb dX6_count_4 rfl (lv_at hl 1 rfl) ?_
      refine lv_bipush (v := (16 : Int32)) hx hb dX6_count_5 (by decide) ?_
      refine lv_icmp_lt (tgt := 20) hx hb dX6_count_7 (by decide) (fun c11 => ?_) (fun c11 => ?_)
      · have hg := it_pos hg c11
        exact absurd hg (by simp)
      · have hg := it_neg hg c11
        exact B10 _ _ _ _ hg hw (lv_sub hl [] rfl)
  exact B0 S0 _ _ _ hg hw hl
