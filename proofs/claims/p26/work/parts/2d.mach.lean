theorem hi_X6_begin_X1 : ∀ w ∈ wsX10, w ∈ wsX6_begin := fun _ h => List.mem_cons_of_mem _ (List.mem_append_left _ (List.mem_append_left _ (List.mem_append_right _ (h))))
theorem hi_X6_begin_X4 : ∀ w ∈ wsX40, w ∈ wsX6_begin := fun _ h => List.mem_cons_of_mem _ (List.mem_append_left _ (List.mem_append_left _ (List.mem_append_left _ (List.mem_append_right _ (h)))))
theorem hi_X6_begin_X6 : ∀ w ∈ wsX60, w ∈ wsX6_begin := fun _ h => List.mem_cons_of_mem _ (List.mem_append_left _ (List.mem_append_left _ (List.mem_append_left _ (List.mem_append_left _ (List.mem_append_right _ (h))))))
abbrev rm_X6_begin : Room := { frames := 4, cells := 3, slots := 28, locals := 86 }
set_option maxHeartbeats 4000000 in
set_option maxRecDepth 100000 in
theorem c_X6_begin (l : Launch) (D : va_G) (C : C3) (N : Nat) (S0 : Hp) (z0 : Nat) (a0 : Nat) (x1 : Int32) (r : Int32) (S9 : Hp) (z9 : Nat) (hg : f_X6_begin N S0 z0 a0 x1 = some (r, S9, z9)) : MetI l yX6_begin wsX6_begin rm_X6_begin D C S0 z0 [.ref a0, .int x1] r S9 z9 3 28 := by
  refine mw_ofW (cc := cX6_begin) (maxL := 3) (ret := (some .int)) (lv := [(0, .ref a0), (1, .int x1)]) (by decide) rfl (Nat.le_of_ble_eq_true rfl) rfl ?_
  intro p e s m below meth c ls hx hb hr hts hown hlk hml hnm hl hw
  have hown : s.vm.findClass RX6 = some m.cls := hown
  have B11 : ∀ (S : Hp) (z : Nat) (H : Heap) (locs : List Loc) (ls : Array Slot), f_X6_begin_b11 N a0 x1 S z = some (r, S9, z9) → Wd D C (va_A (wP C S0) z0) s.heap S z H locs s → lv_has ls 3 [] → W p l e rm_X6_begin s m ([.ref a0, .int x1] : List Value).toArray below meth c H locs 0 0 (MQ below (QiW D C S0 z0 r S9 z9) ([.ref a0, .int x1] : List Value).toArray s 3 28 (va_A (wP C S0) z0)) (F0 m 11 ls []) := by
    intro S z H locs ls hg hw hl
    unfold f_X6_begin_b11 at hg
    exact absurd hg (by simp)
  have B0 : ∀ (S : Hp) (z : Nat) (H : Heap) (locs : List Loc) (ls : Array Slot), f_X6_begin N S z a0 x1 = some (r, S9, z9) → Wd D C (va_A (wP C S0) z0) s.heap S z H locs s → lv_has ls 3 [(0, .ref a0), (1, .int x1)] → W p l e rm_X6_begin s m ([.ref a0, .int x1] : List Value).toArray below meth c H locs 0 0 (MQ below (QiW D C S0 z0 r S9 z9) ([.ref a0, .int x1] : List Value).toArray s 3 28 (va_A (wP C S0) z0)) (F0 m 0 ls []) := by
    intro S z H locs ls hg hw hl
    unfold f_X6_begin at hg
    refine lv_iload_n hx hb dX6_begin_0 rfl (lv_at hl 1 rfl) ?_
    refine lv_iconst (v := (2 : Int32)) hx hb dX6_begin_1 (by decide) ?_
    refine lv_icmp_lt (tgt := 11) hx hb dX6_begin_2 (by decide) (fun c10 => ?_) (fun c10 => ?_)
    · have hg := it_pos hg c10
      exact B11 _ _ _ _ _ hg hw (lv_sub hl [] rfl)
    · have hg := it_neg hg c10
      refine lv_iload_n hx hb dX6_begin_5 rfl (lv_at hl 1 rfl) ?_
      refine lv_bipush (v := (10 : Int32)) hx hb dX6_begin_6 (by decide) ?_
      refine lv_icmp_le (tgt := 21) hx hb dX6_begin_8 (by decide) (fun c11 => ?_) (fun c11 => ?_)
      · have hg := it_pos hg c11
        refine lv_aload_n hx hb dX6_begin_21 rfl (lv_at hl 0 rfl) ?_
        obtain ⟨hok12, hg⟩ := gd_some hg
        obtain ⟨r13, hr13, hg⟩ := nn_some hg
        refine wr_get (K := RX6) (T := TX6) (N := 7) (index := 22) (ref := "MakerLines") (v := .ref r13) hx hb hts hi_X6_begin_X6 hown hw hok12 (wF_6 (S := S) hok12.2) rfl 2 (by decide) (hts _ (List.mem_of_getElem? (i := 3) rfl)) (fun _ h9 => h9) (congrArg (fun o => some (va_rf o)) hr13) dX6_begin_22 ?_
        refine lv_aload_n hx hb dX6_begin_25 rfl (lv_at hl 0 rfl) ?_
        obtain ⟨r14, hr14, hg⟩ := nn_some hg
        refine wr_get (K := RX6) (T := TX6) (N := 7) (index := 12) (ref := "MakerLines") (v := .ref r14) hx hb hts hi_X6_begin_X6 hown hw hok12 (wF_6 (S := S) hok12.2) rfl 0 (by decide) (hts _ (List.mem_of_getElem? (i := 4) rfl)) (fun _ h9 => h9) (congrArg (fun o => some (va_rf o)) hr14) dX6_begin_26 ?_
        obtain ⟨hok15, hg⟩ := gd_some hg
        obtain ⟨⟨⟩, S16, z16, hc16, hg⟩ := cz_some hg
        refine wr_cv (va_runV (As := [.ref r14]) (rest := []) ⟨hx, hb, hml, hown, hts⟩ (c_X0_save l D C N S z r13 r14 () S16 z16 hc16) (cwV 1 hts gX6_begin_X0_save rfl rfl rfl (by decide +kernel) ⟨Nat.le_of_ble_eq_true rfl, Nat.le_of_ble_eq_true rfl⟩) (wd_preV hw hok15 (wF_0 (S := S) hok15.2) rfl) rfl rfl hl.1 rfl (lv_room (Nat.le_of_ble_eq_true rfl)) dX6_begin_29 ⟨Nat.le_of_ble_eq_true rfl, Nat.le_of_ble_eq_true rfl⟩) hw (fun H locs hw => ?_)
        refine lv_aload_n hx hb dX6_begin_32 rfl (lv_at hl 0 rfl) ?_
        obtain ⟨hok17, hg⟩ := gd_some hg
        obtain ⟨r18, hr18, hg⟩ := nn_some hg
        refine wr_get (K := RX6) (T := TX6) (N := 7) (index := 12) (ref := "MakerLines") (v := .ref r18) hx hb hts hi_X6_begin_X6 hown hw hok17 (wF_6 (S := S16) hok17.2) rfl 0 (by decide) (hts _ (List.mem_of_getElem? (i := 4) rfl)) (fun _ h9 => h9) (congrArg (fun o => some (va_rf o)) hr18) dX6_begin_33 ?_
        obtain ⟨hok19, hg⟩ := gd_some hg
        refine wr_get (K := RX4) (T := TX4) (N := 10) (index := 62) (ref := "MakerLines$State") (v := .int (hI S16 r18 1)) hx hb hts hi_X6_begin_X4 hown hw hok19 (wF_4 (S := S16) hok19.2) rfl 1 (by decide) (hts _ (List.mem_of_getElem? (i := 5) rfl)) (fun _ h9 => h9) rfl dX6_begin_36 ?_
        refine lv_istore_n (lv' := [(2, .int (hI S16 r18 1)), (0, .ref a0), (1, .int x1)]) hx hb dX6_begin_39 rfl hl (by decide) rfl (fun ls hl => ?_)
        refine lv_aload_n hx hb dX6_begin_40 rfl (lv_at hl 1 rfl) ?_
        refine wr_get (K := RX6) (T := TX6) (N := 7) (index := 12) (ref := "MakerLines") (v := .ref r18) hx hb hts hi_X6_begin_X6 hown hw hok17 (wF_6 (S := S16) hok17.2) rfl 0 (by decide) (hts _ (List.mem_of_getElem? (i := 4) rfl)) (fun _ h9 => h9) (congrArg (fun o => some (va_rf o)) hr18) dX6_begin_41 ?_
        refine lv_iload_n hx hb dX6_begin_44 rfl (lv_at hl 2 rfl) ?_
        refine wr_put (K := RX4) (T := TX4) (N := 10) (index := 62) (ref := "MakerLines$State") (ty := (.int)) (S1 := (sI S16 r18 1 x1)) hx hb hts hi_X6_begin_X4 tyX4 tyX4_ok nmX4 hown hw hok19 (wF_4 (S := S16) hok19.2) rfl (fun b hb9 => wF_sI_ne hb9) 1 (wq_4_1 (S := S16) hok19.2 _) rfl (by decide) (hts _ (List.mem_of_getElem? (i := 5) rfl)) (fun _ h9 => h9) rfl (by decide +kernel) rfl rfl (Nat.le_of_ble_eq_true rfl) dX6_begin_45 (fun H locs hw => ?_)
        refine lv_aload_n hx hb dX6_begin_48 rfl (lv_at hl 1 rfl) ?_
        refine wr_get (K := RX6) (T := TX6) (N := 7) (index := 12) (ref := "MakerLines") (v := .ref r18) hx hb hts hi_X6_begin_X6 hown hw hok17 (wF_6 (S := (sI S16 r18 1 x1)) hok17.2) rfl 0 (by decide) (hts _ (List.mem_of_getElem? (i := 4) rfl)) (fun _ h9 => h9) (congrArg (fun o => some (va_rf o)) hr18) dX6_begin_49 ?_
        obtain ⟨r20, hr20, hg⟩ := nn_some hg
        refine wr_get (K := RX4) (T := TX4) (N := 10) (index := 66) (ref := "MakerLines$State") (v := .ref r20) hx hb hts hi_X6_begin_X4 hown hw hok19 (wF_4 (S := (sI S16 r18 1 x1)) hok19.2) rfl 0 (by decide) (hts _ (List.mem_of_getElem? (i := 6) rfl)) (fun _ h9 => h9) (congrArg (fun o => some (va_rf o)) hr20) dX6_begin_52 ?_
        refine lv_iconst (v := (0 : Int32)) hx hb dX6_begin_55 (by decide) ?_
        obtain ⟨hok21, hg⟩ := gd_some hg
        refine wr_put (K := RX1) (T := TX1) (N := 6) (index := 70) (ref := "MakerLines$Lines") (ty := (.int)) (S1 := (sI (sI S16 r18 1 x1) r20 1 (0 : Int32))) hx hb hts hi_X6_begin_X1 tyX1 tyX1_ok nmX1 hown hw hok21 (wF_1 (S := (sI S16 r18 1 x1)) hok21.2) rfl (fun b hb9 => wF_sI_ne hb9) 1 (wq_1_1 (S := (sI S16 r18 1 x1)) hok21.2 _) rfl (by decide) (hts _ (List.mem_of_getElem? (i := 7) rfl)) (fun _ h9 => h9) rfl (by decide +kernel) rfl rfl (Nat.le_of_ble_eq_true rfl) dX6_begin_56 (fun H locs hw => ?_)
        refine lv_aload_n hx hb dX6_begin_59 rfl (lv_at hl 1 rfl) ?_
        refine wr_get (K := RX6) (T := TX6) (N := 7) (index := 12) (ref := "MakerLines") (v := .ref r18) hx hb hts hi_X6_begin_X6 hown hw hok17 (wF_6 (S := (sI (sI S16 r18 1 x1) r20 1 (0 : Int32))) hok17.2) rfl 0 (by decide) (hts _ (List.mem_of_getElem? (i := 4) rfl)) (fun _ h9 => h9) (congrArg (fun o => some (va_rf o)) hr18) dX6_begin_60 ?_
        refine lv_iconst (v := (1 : Int32)) hx hb dX6_begin_63 (by decide) ?_
        obtain ⟨⟨⟩, S22, hc22, hg⟩ := cl_some hg
        refine wr_cv (va_runV (As := [.int (1 : Int32)]) (rest := []) ⟨hx, hb, hml, hown, hts⟩ (c_X4_freeAll l D C N ((sI (sI S16 r18 1 x1) r20 1 (0 : Int32))) z16 r18 ((1 : Int32)) () S22 hc22) (cwV 1 hts gX6_begin_X4_freeAll rfl rfl rfl (by decide +kernel) ⟨Nat.le_of_ble_eq_true rfl, Nat.le_of_ble_eq_true rfl⟩) (wd_preV hw hok19 (wF_4 (S := (sI (sI S16 r18 1 x1) r20 1 (0 : Int32))) hok19.2) rfl) rfl rfl hl.1 rfl (lv_room (Nat.le_of_ble_eq_true rfl)) dX6_begin_64 ⟨Nat.le_of_ble_eq_true rfl, Nat.le_of_ble_eq_true rfl⟩) hw (fun H locs hw => ?_)
        refine lv_iload_n hx hb dX6_begin_67 rfl (lv_at hl 0 rfl) ?_
        cases hg
        refine W.widen (k := 3) (n := 28) (Nat.le_of_ble_eq_true rfl) (Nat.le_of_ble_eq_true rfl) ?_
        exact wr_iret hx hb hr hw dX6_begin_68 hlk
      · have hg := it_neg hg c11
        exact B11 _ _ _ _ _ hg hw (lv_sub hl [] rfl)
  exact B0 S0 z0 _ _ _ hg hw hl
theorem hi_X6_addLine_X1 : ∀ w ∈ wsX10, w ∈ wsX6_addLine := fun _ h => List.mem_cons_of_mem _ (List.mem_append_left _ (List.mem_append_left _ (List.mem_append_left _ (List.mem_append_right _ (h)))))
theorem hi_X6_addLine_X4 : ∀ w ∈ wsX40, w ∈ wsX6_addLine := fun _ h => List.mem_cons_of_mem _ (List.mem_append_left _ (List.mem_append_left _ (List.mem_append_left _ (List.mem_append_left _ (List.mem_append_right _ (h))))))
theorem hi_X6_addLine_X6 : ∀ w ∈ wsX60, w ∈ wsX6_addLine := fun _ h => List.mem_cons_of_mem _ (List.mem_append_left _ (List.mem_append_left _ (List.mem_append_left _ (List.mem_append_left _ (List.mem_append_left _ (List.mem_append_right _ (h)))))))
abbrev rm_X6_addLine : Room := { frames := 4, cells := 3, slots := 28, locals := 86 }
set_option maxHeartbeats 4000000 in
set_option maxRecDepth 100000 in
theorem c_X6_addLine (l : Launch) (D : va_G) (C : C3) (N : Nat) (S0 : Hp) (z0 : Nat) (a0 : Nat) (x1 : Int32) (r : Int32) (S9 : Hp) (z9 : Nat) (hg : f_X6_addLine N S0 z0 a0 x1 = some (r, S9, z9)) : MetI l yX6_addLine wsX6_addLine rm_X6_addLine D C S0 z0 [.ref a0, .int x1] r S9 z9 3 28 := by
  refine mw_ofW (cc := cX6_addLine) (maxL := 2) (ret := (some .int)) (lv := [(0, .ref a0), (1, .int x1)]) (by decide) rfl (Nat.le_of_ble_eq_true rfl) rfl ?_
  intro p e s m below meth c ls hx hb hr hts hown hlk hml hnm hl hw
  have hown : s.vm.findClass RX6 = some m.cls := hown
  have B18 : ∀ (S : Hp) (z : Nat) (H : Heap) (locs : List Loc) (ls : Array Slot), f_X6_addLine_b18 N a0 x1 S z = some (r, S9, z9) → Wd D C (va_A (wP C S0) z0) s.heap S z H locs s → lv_has ls 2 [] → W p l e rm_X6_addLine s m ([.ref a0, .int x1] : List Value).toArray below meth c H locs 0 0 (MQ below (QiW D C S0 z0 r S9 z9) ([.ref a0, .int x1] : List Value).toArray s 3 28 (va_A (wP C S0) z0)) (F0 m 18 ls []) := by
    intro S z H locs ls hg hw hl
    unfold f_X6_addLine_b18 at hg
    exact absurd hg (by simp)
  have B0 : ∀ (S : Hp) (z : Nat) (H : Heap) (locs : List Loc) (ls : Array Slot), f_X6_addLine N S z a0 x1 = some (r, S9, z9) → Wd D C (va_A (wP C S0) z0) s.heap S z H locs s → lv_has ls 2 [(0, .ref a0), (1, .int x1)] → W p l e rm_X6_addLine s m ([.ref a0, .int x1] : List Value).toArray below meth c H locs 0 0 (MQ below (QiW D C S0 z0 r S9 z9) ([.ref a0, .int x1] : List Value).toArray s 3 28 (va_A (wP C S0) z0)) (F0 m 0 ls []) := by
    intro S z H locs ls hg hw hl
    unfold f_X6_addLine at hg
    refine lv_iload_n hx hb dX6_addLine_0 rfl (lv_at hl 1 rfl) ?_
    refine lv_if_eq (tgt := 18) hx hb dX6_addLine_1 (by decide) (fun c10 => ?_) (fun c10 => ?_)
    · have hg := it_pos hg c10
      exact B18 _ _ _ _ _ hg hw (lv_sub hl [] rfl)
    · have hg := it_neg hg c10
      refine lv_iload_n hx hb dX6_addLine_4 rfl (lv_at hl 1 rfl) ?_
      refine lv_aload_n hx hb dX6_addLine_5 rfl (lv_at hl 0 rfl) ?_
      obtain ⟨hok11, hg⟩ := gd_some hg
      obtain ⟨r12, hr12, hg⟩ := nn_some hg
      refine wr_get (K := RX6) (T := TX6) (N := 7) (index := 12) (ref := "MakerLines") (v := .ref r12) hx hb hts hi_X6_addLine_X6 hown hw hok11 (wF_6 (S := S) hok11.2) rfl 0 (by decide) (hts _ (List.mem_of_getElem? (i := 5) rfl)) (fun _ h9 => h9) (congrArg (fun o => some (va_rf o)) hr12) dX6_addLine_6 ?_
      obtain ⟨hok13, hg⟩ := gd_some hg
      obtain ⟨r14, S14, hc14, hg⟩ := cl_some hg
      refine wr_ci (va_runV (As := []) (rest := [.int x1]) ⟨hx, hb, hml, hown, hts⟩ (c_X4_allCells l D C N S z r12 r14 S14 hc14) (cwV 0 hts gX6_addLine_X4_allCells rfl rfl rfl (by decide +kernel) ⟨Nat.le_of_ble_eq_true rfl, Nat.le_of_ble_eq_true rfl⟩) (wd_preV hw hok13 (wF_4 (S := S) hok13.2) rfl) rfl rfl hl.1 rfl (lv_room (Nat.le_of_ble_eq_true rfl)) dX6_addLine_9 ⟨Nat.le_of_ble_eq_true rfl, Nat.le_of_ble_eq_true rfl⟩) hw (fun H locs hw => ?_)
      refine lv_iconst (v := (-1 : Int32)) hx hb dX6_addLine_12 (by decide) ?_
      refine lv_ixor hx hb dX6_addLine_13 ?_
      refine lv_iand hx hb dX6_addLine_14 ?_
      refine lv_if_eq (tgt := 28) hx hb dX6_addLine_15 (by decide) (fun c15 => ?_) (fun c15 => ?_)
      · have hg := it_pos hg c15
        refine lv_aload_n hx hb dX6_addLine_28 rfl (lv_at hl 0 rfl) ?_
        obtain ⟨hok16, hg⟩ := gd_some hg
        obtain ⟨r17, hr17, hg⟩ := nn_some hg
        refine wr_get (K := RX6) (T := TX6) (N := 7) (index := 12) (ref := "MakerLines") (v := .ref r17) hx hb hts hi_X6_addLine_X6 hown hw hok16 (wF_6 (S := S14) hok16.2) rfl 0 (by decide) (hts _ (List.mem_of_getElem? (i := 5) rfl)) (fun _ h9 => h9) (congrArg (fun o => some (va_rf o)) hr17) dX6_addLine_29 ?_
        obtain ⟨hok18, hg⟩ := gd_some hg
        obtain ⟨r19, hr19, hg⟩ := nn_some hg
        refine wr_get (K := RX4) (T := TX4) (N := 10) (index := 66) (ref := "MakerLines$State") (v := .ref r19) hx hb hts hi_X6_addLine_X4 hown hw hok18 (wF_4 (S := S14) hok18.2) rfl 0 (by decide) (hts _ (List.mem_of_getElem? (i := 6) rfl)) (fun _ h9 => h9) (congrArg (fun o => some (va_rf o)) hr19) dX6_addLine_32 ?_
        obtain ⟨hok20, hg⟩ := gd_some hg
        refine wr_get (K := RX1) (T := TX1) (N := 6) (index := 70) (ref := "MakerLines$Lines") (v := .int (hI S14 r19 1)) hx hb hts hi_X6_addLine_X1 hown hw hok20 (wF_1 (S := S14) hok20.2) rfl 1 (by decide) (hts _ (List.mem_of_getElem? (i := 7) rfl)) (fun _ h9 => h9) rfl dX6_addLine_35 ?_
        refine lv_bipush (v := (12 : Int32)) hx hb dX6_addLine_38 (by decide) ?_
        refine lv_icmp_lt (tgt := 53) hx hb dX6_addLine_40 (by decide) (fun c21 => ?_) (fun c21 => ?_)
        · have hg := it_pos hg c21
          refine lv_aload_n hx hb dX6_addLine_53 rfl (lv_at hl 0 rfl) ?_
          obtain ⟨r22, hr22, hg⟩ := nn_some hg
          refine wr_get (K := RX6) (T := TX6) (N := 7) (index := 22) (ref := "MakerLines") (v := .ref r22) hx hb hts hi_X6_addLine_X6 hown hw hok16 (wF_6 (S := S14) hok16.2) rfl 2 (by decide) (hts _ (List.mem_of_getElem? (i := 8) rfl)) (fun _ h9 => h9) (congrArg (fun o => some (va_rf o)) hr22) dX6_addLine_54 ?_
          refine lv_aload_n hx hb dX6_addLine_57 rfl (lv_at hl 0 rfl) ?_
          refine wr_get (K := RX6) (T := TX6) (N := 7) (index := 12) (ref := "MakerLines") (v := .ref r17) hx hb hts hi_X6_addLine_X6 hown hw hok16 (wF_6 (S := S14) hok16.2) rfl 0 (by decide) (hts _ (List.mem_of_getElem? (i := 5) rfl)) (fun _ h9 => h9) (congrArg (fun o => some (va_rf o)) hr17) dX6_addLine_58 ?_
          obtain ⟨hok23, hg⟩ := gd_some hg
          obtain ⟨⟨⟩, S24, z24, hc24, hg⟩ := cz_some hg
          refine wr_cv (va_runV (As := [.ref r17]) (rest := []) ⟨hx, hb, hml, hown, hts⟩ (c_X0_save l D C N S14 z r22 r17 () S24 z24 hc24) (cwV 1 hts gX6_addLine_X0_save rfl rfl rfl (by decide +kernel) ⟨Nat.le_of_ble_eq_true rfl, Nat.le_of_ble_eq_true rfl⟩) (wd_preV hw hok23 (wF_0 (S := S14) hok23.2) rfl) rfl rfl hl.1 rfl (lv_room (Nat.le_of_ble_eq_true rfl)) dX6_addLine_61 ⟨Nat.le_of_ble_eq_true rfl, Nat.le_of_ble_eq_true rfl⟩) hw (fun H locs hw => ?_)
          refine lv_aload_n hx hb dX6_addLine_64 rfl (lv_at hl 0 rfl) ?_
          obtain ⟨hok25, hg⟩ := gd_some hg
          obtain ⟨r26, hr26, hg⟩ := nn_some hg
          refine wr_get (K := RX6) (T := TX6) (N := 7) (index := 12) (ref := "MakerLines") (v := .ref r26) hx hb hts hi_X6_addLine_X6 hown hw hok25 (wF_6 (S := S24) hok25.2) rfl 0 (by decide) (hts _ (List.mem_of_getElem? (i := 5) rfl)) (fun _ h9 => h9) (congrArg (fun o => some (va_rf o)) hr26) dX6_addLine_65 ?_
          obtain ⟨hok27, hg⟩ := gd_some hg
          obtain ⟨r28, hr28, hg⟩ := nn_some hg
          refine wr_get (K := RX4) (T := TX4) (N := 10) (index := 66) (ref := "MakerLines$State") (v := .ref r28) hx hb hts hi_X6_addLine_X4 hown hw hok27 (wF_4 (S := S24) hok27.2) rfl 0 (by decide) (hts _ (List.mem_of_getElem? (i := 6) rfl)) (fun _ h9 => h9) (congrArg (fun o => some (va_rf o)) hr28) dX6_addLine_68 ?_
          refine lv_iload_n hx hb dX6_addLine_71 rfl (lv_at hl 1 rfl) ?_
          obtain ⟨hok29, hg⟩ := gd_some hg
          obtain ⟨⟨⟩, S30, hc30, hg⟩ := cl_some hg
          refine wr_cv (va_runV (As := [.int x1]) (rest := []) ⟨hx, hb, hml, hown, hts⟩ (c_X1_put l D C N S24 z24 r28 x1 () S30 hc30) (cwV 1 hts gX6_addLine_X1_put rfl rfl rfl (by decide +kernel) ⟨Nat.le_of_ble_eq_true rfl, Nat.le_of_ble_eq_true rfl⟩) (wd_preV hw hok29 (wF_1 (S := S24) hok29.2) rfl) rfl rfl hl.1 rfl (lv_room (Nat.le_of_ble_eq_true rfl)) dX6_addLine_72 ⟨Nat.le_of_ble_eq_true rfl, Nat.le_of_ble_eq_true rfl⟩) hw (fun H locs hw => ?_)
          refine lv_aload_n hx hb dX6_addLine_75 rfl (lv_at hl 0 rfl) ?_
          obtain ⟨hok31, hg⟩ := gd_some hg
          obtain ⟨r32, hr32, hg⟩ := nn_some hg
          refine wr_get (K := RX6) (T := TX6) (N := 7) (index := 12) (ref := "MakerLines") (v := .ref r32) hx hb hts hi_X6_addLine_X6 hown hw hok31 (wF_6 (S := S30) hok31.2) rfl 0 (by decide) (hts _ (List.mem_of_getElem? (i := 5) rfl)) (fun _ h9 => h9) (congrArg (fun o => some (va_rf o)) hr32) dX6_addLine_76 ?_
          obtain ⟨hok33, hg⟩ := gd_some hg
          obtain ⟨r34, hr34, hg⟩ := nn_some hg
          refine wr_get (K := RX4) (T := TX4) (N := 10) (index := 66) (ref := "MakerLines$State") (v := .ref r34) hx hb hts hi_X6_addLine_X4 hown hw hok33 (wF_4 (S := S30) hok33.2) rfl 0 (by decide) (hts _ (List.mem_of_getElem? (i := 6) rfl)) (fun _ h9 => h9) (congrArg (fun o => some (va_rf o)) hr34) dX6_addLine_79 ?_
          obtain ⟨hok35, hg⟩ := gd_some hg
          refine wr_get (K := RX1) (T := TX1) (N := 6) (index := 70) (ref := "MakerLines$Lines") (v := .int (hI S30 r34 1)) hx hb hts hi_X6_addLine_X1 hown hw hok35 (wF_1 (S := S30) hok35.2) rfl 1 (by decide) (hts _ (List.mem_of_getElem? (i := 7) rfl)) (fun _ h9 => h9) rfl dX6_addLine_82 ?_
          refine lv_iconst (v := (1 : Int32)) hx hb dX6_addLine_85 (by decide) ?_
          refine lv_isub hx hb dX6_addLine_86 ?_
          cases hg
          refine W.widen (k := 3) (n := 28) (Nat.le_of_ble_eq_true rfl) (Nat.le_of_ble_eq_true rfl) ?_
          exact wr_iret hx hb hr hw dX6_addLine_87 hlk
        · have hg := it_neg hg c21
          exact absurd hg (by simp)
      · have hg := it_neg hg c15
        exact B18 _ _ _ _ _ hg hw (lv_sub hl [] rfl)
  exact B0 S0 z0 _ _ _ hg hw hl
theorem hi_X6_removeLine_X4 : ∀ w ∈ wsX40, w ∈ wsX6_removeLine := fun _ h => List.mem_cons_of_mem _ (List.mem_append_left _ (List.mem_append_left _ (List.mem_append_left _ (List.mem_append_right _ (h)))))
theorem hi_X6_removeLine_X6 : ∀ w ∈ wsX60, w ∈ wsX6_removeLine := fun _ h => List.mem_cons_of_mem _ (List.mem_append_left _ (List.mem_append_left _ (List.mem_append_left _ (List.mem_append_left _ (List.mem_append_right _ (h))))))
abbrev rm_X6_removeLine : Room := { frames := 4, cells := 3, slots := 28, locals := 86 }
set_option maxHeartbeats 4000000 in
set_option maxRecDepth 100000 in
theorem c_X6_removeLine (l : Launch) (D : va_G) (C : C3) (N : Nat) (S0 : Hp) (z0 : Nat) (a0 : Nat) (x1 : Int32) (r : Int32) (S9 : Hp) (z9 : Nat) (hg : f_X6_removeLine N S0 z0 a0 x1 = some (r, S9, z9)) : MetI l yX6_removeLine wsX6_removeLine rm_X6_removeLine D C S0 z0 [.ref a0, .int x1] r S9 z9 3 28 := by
  refine mw_ofW (cc := cX6_removeLine) (maxL := 3) (ret := (some .int)) (lv := [(0, .ref a0), (1, .int x1)]) (by decide) rfl (Nat.le_of_ble_eq_true rfl) rfl ?_
  intro p e s m below meth c ls hx hb hr hts hown hlk hml hnm hl hw
  have hown : s.vm.findClass RX6 = some m.cls := hown
  have B0 : ∀ (S : Hp) (z : Nat) (H : Heap) (locs : List Loc) (ls : Array Slot), f_X6_removeLine N S z a0 x1 = some (r, S9, z9) → Wd D C (va_A (wP C S0) z0) s.heap S z H locs s → lv_has ls 3 [(0, .ref a0), (1, .int x1)] → W p l e rm_X6_removeLine s m ([.ref a0, .int x1] : List Value).toArray below meth c H locs 0 0 (MQ below (QiW D C S0 z0 r S9 z9) ([.ref a0, .int x1] : List Value).toArray s 3 28 (va_A (wP C S0) z0)) (F0 m 0 ls []) := by
    intro S z H locs ls hg hw hl
    unfold f_X6_removeLine at hg
    refine lv_aload_n hx hb dX6_removeLine_0 rfl (lv_at hl 0 rfl) ?_
    obtain ⟨hok10, hg⟩ := gd_some hg
    obtain ⟨r11, hr11, hg⟩ := nn_some hg
    refine wr_get (K := RX6) (T := TX6) (N := 7) (index := 12) (ref := "MakerLines") (v := .ref r11) hx hb hts hi_X6_removeLine_X6 hown hw hok10 (wF_6 (S := S) hok10.2) rfl 0 (by decide) (hts _ (List.mem_of_getElem? (i := 3) rfl)) (fun _ h9 => h9) (congrArg (fun o => some (va_rf o)) hr11) dX6_removeLine_1 ?_
    obtain ⟨hok12, hg⟩ := gd_some hg
    obtain ⟨r13, hr13, hg⟩ := nn_some hg
    refine wr_get (K := RX4) (T := TX4) (N := 10) (index := 66) (ref := "MakerLines$State") (v := .ref r13) hx hb hts hi_X6_removeLine_X4 hown hw hok12 (wF_4 (S := S) hok12.2) rfl 0 (by decide) (hts _ (List.mem_of_getElem? (i := 4) rfl)) (fun _ h9 => h9) (congrArg (fun o => some (va_rf o)) hr13) dX6_removeLine_4 ?_
    refine lv_iload_n hx hb dX6_removeLine_7 rfl (lv_at hl 1 rfl) ?_
    obtain ⟨hok14, hg⟩ := gd_some hg
    obtain ⟨r15, S15, hc15, hg⟩ := cl_some hg
    refine wr_ci (va_runV (As := [.int x1]) (rest := []) ⟨hx, hb, hml, hown, hts⟩ (c_X1_has l D C N S z r13 x1 r15 S15 hc15) (cwV 1 hts gX6_removeLine_X1_has rfl rfl rfl (by decide +kernel) ⟨Nat.le_of_ble_eq_true rfl, Nat.le_of_ble_eq_true rfl⟩) (wd_preV hw hok14 (wF_1 (S := S) hok14.2) rfl) rfl rfl hl.1 rfl (lv_room (Nat.le_of_ble_eq_true rfl)) dX6_removeLine_8 ⟨Nat.le_of_ble_eq_true rfl, Nat.le_of_ble_eq_true rfl⟩) hw (fun H locs hw => ?_)
    refine lv_if_ne (tgt := 24) hx hb dX6_removeLine_11 (by decide) (fun c16 => ?_) (fun c16 => ?_)
    · have hg := it_neg hg c16
      refine lv_aload_n hx hb dX6_removeLine_24 rfl (lv_at hl 0 rfl) ?_
      obtain ⟨hok17, hg⟩ := gd_some hg
      obtain ⟨r18, hr18, hg⟩ := nn_some hg
      refine wr_get (K := RX6) (T := TX6) (N := 7) (index := 22) (ref := "MakerLines") (v := .ref r18) hx hb hts hi_X6_removeLine_X6 hown hw hok17 (wF_6 (S := S15) hok17.2) rfl 2 (by decide) (hts _ (List.mem_of_getElem? (i := 5) rfl)) (fun _ h9 => h9) (congrArg (fun o => some (va_rf o)) hr18) dX6_removeLine_25 ?_
      refine lv_aload_n hx hb dX6_removeLine_28 rfl (lv_at hl 0 rfl) ?_
      obtain ⟨r19, hr19, hg⟩ := nn_some hg
      refine wr_get (K := RX6) (T := TX6) (N := 7) (index := 12) (ref := "MakerLines") (v := .ref r19) hx hb hts hi_X6_removeLine_X6 hown hw hok17 (wF_6 (S := S15) hok17.2) rfl 0 (by decide) (hts _ (List.mem_of_getElem? (i := 3) rfl)) (fun _ h9 => h9) (congrArg (fun o => some (va_rf o)) hr19) dX6_removeLine_29 ?_
      obtain ⟨hok20, hg⟩ := gd_some hg
      obtain ⟨⟨⟩, S21, z21, hc21, hg⟩ := cz_some hg
      refine wr_cv (va_runV (As := [.ref r19]) (rest := []) ⟨hx, hb, hml, hown, hts⟩ (c_X0_save l D C N S15 z r18 r19 () S21 z21 hc21) (cwV 1 hts gX6_removeLine_X0_save rfl rfl rfl (by decide +kernel) ⟨Nat.le_of_ble_eq_true rfl, Nat.le_of_ble_eq_true rfl⟩) (wd_preV hw hok20 (wF_0 (S := S15) hok20.2) rfl) rfl rfl hl.1 rfl (lv_room (Nat.le_of_ble_eq_true rfl)) dX6_removeLine_32 ⟨Nat.le_of_ble_eq_true rfl, Nat.le_of_ble_eq_true rfl⟩) hw (fun H locs hw => ?_)
      refine lv_aload_n hx hb dX6_removeLine_35 rfl (lv_at hl 0 rfl) ?_
      obtain ⟨hok22, hg⟩ := gd_some hg
      obtain ⟨r23, hr23, hg⟩ := nn_some hg
      refine wr_get (K := RX6) (T := TX6) (N := 7) (index := 12) (ref := "MakerLines") (v := .ref r23) hx hb hts hi_X6_removeLine_X6 hown hw hok22 (wF_6 (S := S21) hok22.2) rfl 0 (by decide) (hts _ (List.mem_of_getElem? (i := 3) rfl)) (fun _ h9 => h9) (congrArg (fun o => some (va_rf o)) hr23) dX6_removeLine_36 ?_
      obtain ⟨hok24, hg⟩ := gd_some hg
      obtain ⟨r25, hr25, hg⟩ := nn_some hg
      refine wr_get (K := RX4) (T := TX4) (N := 10) (index := 66) (ref := "MakerLines$State") (v := .ref r25) hx hb hts hi_X6_removeLine_X4 hown hw hok24 (wF_4 (S := S21) hok24.2) rfl 0 (by decide) (hts _ (List.mem_of_getElem? (i := 4) rfl)) (fun _ h9 => h9) (congrArg (fun o => some (va_rf o)) hr25) dX6_removeLine_39 ?_
      refine lv_iload_n hx hb dX6_removeLine_42 rfl (lv_at hl 1 rfl) ?_
      obtain ⟨hok26, hg⟩ := gd_some hg
      obtain ⟨r27, S27, hc27, hg⟩ := cl_some hg
      refine wr_ci (va_runV (As := [.int x1]) (rest := []) ⟨hx, hb, hml, hown, hts⟩ (c_X1_maskOf l D C N S21 z21 r25 x1 r27 S27 hc27) (cwV 1 hts gX6_removeLine_X1_maskOf rfl rfl rfl (by decide +kernel) ⟨Nat.le_of_ble_eq_true rfl, Nat.le_of_ble_eq_true rfl⟩) (wd_preV hw hok26 (wF_1 (S := S21) hok26.2) rfl) rfl rfl hl.1 rfl (lv_room (Nat.le_of_ble_eq_true rfl)) dX6_removeLine_43 ⟨Nat.le_of_ble_eq_true rfl, Nat.le_of_ble_eq_true rfl⟩) hw (fun H locs hw => ?_)
      refine lv_istore_n (lv' := [(2, .int r27), (0, .ref a0), (1, .int x1)]) hx hb dX6_removeLine_46 rfl hl (by decide) rfl (fun ls hl => ?_)
      refine lv_aload_n hx hb dX6_removeLine_47 rfl (lv_at hl 1 rfl) ?_
      obtain ⟨hok28, hg⟩ := gd_some hg
      obtain ⟨r29, hr29, hg⟩ := nn_some hg
      refine wr_get (K := RX6) (T := TX6) (N := 7) (index := 12) (ref := "MakerLines") (v := .ref r29) hx hb hts hi_X6_removeLine_X6 hown hw hok28 (wF_6 (S := S27) hok28.2) rfl 0 (by decide) (hts _ (List.mem_of_getElem? (i := 3) rfl)) (fun _ h9 => h9) (congrArg (fun o => some (va_rf o)) hr29) dX6_removeLine_48 ?_
      obtain ⟨hok30, hg⟩ := gd_some hg
      obtain ⟨r31, hr31, hg⟩ := nn_some hg
      refine wr_get (K := RX4) (T := TX4) (N := 10) (index := 66) (ref := "MakerLines$State") (v := .ref r31) hx hb hts hi_X6_removeLine_X4 hown hw hok30 (wF_4 (S := S27) hok30.2) rfl 0 (by decide) (hts _ (List.mem_of_getElem? (i := 4) rfl)) (fun _ h9 => h9) (congrArg (fun o => some (va_rf o)) hr31) dX6_removeLine_51 ?_
      refine lv_iload_n hx hb dX6_removeLine_54 rfl (lv_at hl 2 rfl) ?_
      obtain ⟨hok32, hg⟩ := gd_some hg
      obtain ⟨⟨⟩, S33, hc33, hg⟩ := cl_some hg
      refine wr_cv (va_runV (As := [.int x1]) (rest := []) ⟨hx, hb, hml, hown, hts⟩ (c_X1_drop l D C N S27 z21 r31 x1 () S33 hc33) (cwV 1 hts gX6_removeLine_X1_drop rfl rfl rfl (by decide +kernel) ⟨Nat.le_of_ble_eq_true rfl, Nat.le_of_ble_eq_true rfl⟩) (wd_preV hw hok32 (wF_1 (S := S27) hok32.2) rfl) rfl rfl hl.1 rfl (lv_room (Nat.le_of_ble_eq_true rfl)) dX6_removeLine_55 ⟨Nat.le_of_ble_eq_true rfl, Nat.le_of_ble_eq_true rfl⟩) hw (fun H locs hw => ?_)
      refine lv_iload_n hx hb dX6_removeLine_58 rfl (lv_at hl 0 rfl) ?_
      cases hg
      refine W.widen (k := 3) (n := 28) (Nat.le_of_ble_eq_true rfl) (Nat.le_of_ble_eq_true rfl) ?_
      exact wr_iret hx hb hr hw dX6_removeLine_59 hlk
    · have hg := it_pos hg c16
      exact absurd hg (by simp)
  exact B0 S0 z0 _ _ _ hg hw hl
theorem hi_X6_clear_X4 : ∀ w ∈ wsX40, w ∈ wsX6_clear := fun _ h => List.mem_cons_of_mem _ (List.mem_append_left _ (List.mem_append_left _ (List.mem_append_right _ (h))))
theorem hi_X6_clear_X6 : ∀ w ∈ wsX60, w ∈ wsX6_clear := fun _ h => List.mem_cons_of_mem _ (List.mem_append_left _ (List.mem_append_left _ (List.mem_append_left _ (List.mem_append_right _ (h)))))
abbrev rm_X6_clear : Room := { frames := 4, cells := 3, slots := 28, locals := 86 }
set_option maxHeartbeats 4000000 in
set_option maxRecDepth 100000 in
theorem c_X6_clear (l : Launch) (D : va_G) (C : C3) (N : Nat) (S0 : Hp) (z0 : Nat) (a0 : Nat) (x1 : Int32) (r : Int32) (S9 : Hp) (z9 : Nat) (hg : f_X6_clear N S0 z0 a0 x1 = some (r, S9, z9)) : MetI l yX6_clear wsX6_clear rm_X6_clear D C S0 z0 [.ref a0, .int x1] r S9 z9 3 28 := by
  refine mw_ofW (cc := cX6_clear) (maxL := 3) (ret := (some .int)) (lv := [(0, .ref a0), (1, .int x1)]) (by decide) rfl (Nat.le_of_ble_eq_true rfl) rfl ?_
  intro p e s m below meth c ls hx hb hr hts hown hlk hml hnm hl hw
  have hown : s.vm.findClass RX6 = some m.cls := hown
  have B0 : ∀ (S : Hp) (z : Nat) (H : Heap) (locs : List Loc) (ls : Array Slot), f_X6_clear N S z a0 x1 = some (r, S9, z9) → Wd D C (va_A (wP C S0) z0) s.heap S z H locs s → lv_has ls 3 [(0, .ref a0), (1, .int x1)] → W p l e rm_X6_clear s m ([.ref a0, .int x1] : List Value).toArray below meth c H locs 0 0 (MQ below (QiW D C S0 z0 r S9 z9) ([.ref a0, .int x1] : List Value).toArray s 3 28 (va_A (wP C S0) z0)) (F0 m 0 ls []) := by
    intro S z H locs ls hg hw hl
    unfold f_X6_clear at hg
    refine lv_aload_n hx hb dX6_clear_0 rfl (lv_at hl 0 rfl) ?_
    obtain ⟨hok10, hg⟩ := gd_some hg
    obtain ⟨r11, hr11, hg⟩ := nn_some hg
    refine wr_get (K := RX6) (T := TX6) (N := 7) (index := 22) (ref := "MakerLines") (v := .ref r11) hx hb hts hi_X6_clear_X6 hown hw hok10 (wF_6 (S := S) hok10.2) rfl 2 (by decide) (hts _ (List.mem_of_getElem? (i := 1) rfl)) (fun _ h9 => h9) (congrArg (fun o => some (va_rf o)) hr11) dX6_clear_1 ?_
    refine lv_aload_n hx hb dX6_clear_4 rfl (lv_at hl 0 rfl) ?_
    obtain ⟨r12, hr12, hg⟩ := nn_some hg
    refine wr_get (K := RX6) (T := TX6) (N := 7) (index := 12) (ref := "MakerLines") (v := .ref r12) hx hb hts hi_X6_clear_X6 hown hw hok10 (wF_6 (S := S) hok10.2) rfl 0 (by decide) (hts _ (List.mem_of_getElem? (i := 2) rfl)) (fun _ h9 => h9) (congrArg (fun o => some (va_rf o)) hr12) dX6_clear_5 ?_
    obtain ⟨hok13, hg⟩ := gd_some hg
    obtain ⟨⟨⟩, S14, z14, hc14, hg⟩ := cz_some hg
    refine wr_cv (va_runV (As := [.ref r12]) (rest := []) ⟨hx, hb, hml, hown, hts⟩ (c_X0_save l D C N S z r11 r12 () S14 z14 hc14) (cwV 1 hts gX6_clear_X0_save rfl rfl rfl (by decide +kernel) ⟨Nat.le_of_ble_eq_true rfl, Nat.le_of_ble_eq_true rfl⟩) (wd_preV hw hok13 (wF_0 (S := S) hok13.2) rfl) rfl rfl hl.1 rfl (lv_room (Nat.le_of_ble_eq_true rfl)) dX6_clear_8 ⟨Nat.le_of_ble_eq_true rfl, Nat.le_of_ble_eq_true rfl⟩) hw (fun H locs hw => ?_)
    refine lv_aload_n hx hb dX6_clear_11 rfl (lv_at hl 0 rfl) ?_
    obtain ⟨hok15, hg⟩ := gd_some hg
    obtain ⟨r16, hr16, hg⟩ := nn_some hg
    refine wr_get (K := RX6) (T := TX6) (N := 7) (index := 12) (ref := "MakerLines") (v := .ref r16) hx hb hts hi_X6_clear_X6 hown hw hok15 (wF_6 (S := S14) hok15.2) rfl 0 (by decide) (hts _ (List.mem_of_getElem? (i := 2) rfl)) (fun _ h9 => h9) (congrArg (fun o => some (va_rf o)) hr16) dX6_clear_12 ?_
    obtain ⟨hok17, hg⟩ := gd_some hg
    refine wr_get (K := RX4) (T := TX4) (N := 10) (index := 110) (ref := "MakerLines$State") (v := .int (hI S14 r16 2)) hx hb hts hi_X6_clear_X4 hown hw hok17 (wF_4 (S := S14) hok17.2) rfl 2 (by decide) (hts _ (List.mem_of_getElem? (i := 3) rfl)) (fun _ h9 => h9) rfl dX6_clear_15 ?_
    refine lv_aload_n hx hb dX6_clear_18 rfl (lv_at hl 0 rfl) ?_
    refine wr_get (K := RX6) (T := TX6) (N := 7) (index := 12) (ref := "MakerLines") (v := .ref r16) hx hb hts hi_X6_clear_X6 hown hw hok15 (wF_6 (S := S14) hok15.2) rfl 0 (by decide) (hts _ (List.mem_of_getElem? (i := 2) rfl)) (fun _ h9 => h9) (congrArg (fun o => some (va_rf o)) hr16) dX6_clear_19 ?_
    refine wr_get (K := RX4) (T := TX4) (N := 10) (index := 113) (ref := "MakerLines$State") (v := .int (hI S14 r16 3)) hx hb hts hi_X6_clear_X4 hown hw hok17 (wF_4 (S := S14) hok17.2) rfl 3 (by decide) (hts _ (List.mem_of_getElem? (i := 4) rfl)) (fun _ h9 => h9) rfl dX6_clear_22 ?_
    refine lv_ior hx hb dX6_clear_25 ?_
    refine wr_ci (va_runS (As := [.int ((hI S14 r16 2) ||| (hI S14 r16 3))]) (rest := []) ⟨hx, hb, hml, hown, hts⟩ (c_bitc l D C S14 z14 (((hI S14 r16 2) ||| (hI S14 r16 3)))) (va_cwS 1 hts gX6_clear_J6_bitCount_0f7a4 rfl rfl rfl (by decide +kernel) ⟨Nat.le_of_ble_eq_true rfl, Nat.le_of_ble_eq_true rfl⟩) (wd_preS hw) rfl rfl hl.1 rfl (lv_room (Nat.le_of_ble_eq_true rfl)) dX6_clear_26 ⟨Nat.le_of_ble_eq_true rfl, Nat.le_of_ble_eq_true rfl⟩) hw (fun H locs hw => ?_)
    obtain ⟨e18, he18, hg⟩ := bd_some hg
    refine lv_istore_n (lv' := [(2, .int e18), (0, .ref a0), (1, .int x1)]) hx hb dX6_clear_29 rfl hl (by decide) (by rw [he18]; rfl) (fun ls hl => ?_)
    refine lv_aload_n hx hb dX6_clear_30 rfl (lv_at hl 1 rfl) ?_
    refine wr_get (K := RX6) (T := TX6) (N := 7) (index := 12) (ref := "MakerLines") (v := .ref r16) hx hb hts hi_X6_clear_X6 hown hw hok15 (wF_6 (S := S14) hok15.2) rfl 0 (by decide) (hts _ (List.mem_of_getElem? (i := 2) rfl)) (fun _ h9 => h9) (congrArg (fun o => some (va_rf o)) hr16) dX6_clear_31 ?_
    refine lv_iload_n hx hb dX6_clear_34 rfl (lv_at hl 2 rfl) ?_
    obtain ⟨⟨⟩, S19, hc19, hg⟩ := cl_some hg
    refine wr_cv (va_runV (As := [.int x1]) (rest := []) ⟨hx, hb, hml, hown, hts⟩ (c_X4_freeAll l D C N S14 z14 r16 x1 () S19 hc19) (cwV 1 hts gX6_clear_X4_freeAll rfl rfl rfl (by decide +kernel) ⟨Nat.le_of_ble_eq_true rfl, Nat.le_of_ble_eq_true rfl⟩) (wd_preV hw hok17 (wF_4 (S := S14) hok17.2) rfl) rfl rfl hl.1 rfl (lv_room (Nat.le_of_ble_eq_true rfl)) dX6_clear_35 ⟨Nat.le_of_ble_eq_true rfl, Nat.le_of_ble_eq_true rfl⟩) hw (fun H locs hw => ?_)
    refine lv_iload_n hx hb dX6_clear_38 rfl (lv_at hl 0 rfl) ?_
    cases hg
    refine W.widen (k := 3) (n := 28) (Nat.le_of_ble_eq_true rfl) (Nat.le_of_ble_eq_true rfl) ?_
    exact wr_iret hx hb hr hw dX6_clear_39 hlk
  exact B0 S0 z0 _ _ _ hg hw hl
theorem hi_X6_otherInPairing_X6 : ∀ w ∈ wsX60, w ∈ wsX6_otherInPairing := fun _ h => List.mem_cons_of_mem _ (List.mem_append_left _ (List.mem_append_left _ (List.mem_append_left _ (List.mem_append_right _ (h)))))
abbrev rm_X6_otherInPairing : Room := { frames := 32, cells := 0, slots := 0, locals := 1544 }
set_option maxHeartbeats 4000000 in
set_option maxRecDepth 100000 in
theorem c_X6_otherInPairing (l : Launch) (D : va_G) (C : C3) (N : Nat) (S0 : Hp) (z : Nat) (a0 : Nat) (x1 : Int32) (r : Int32) (S9 : Hp) (hg : f_X6_otherInPairing N S0 a0 x1 = some (r, S9)) : MetI l yX6_otherInPairing wsX6_otherInPairing rm_X6_otherInPairing D C S0 z [.ref a0, .int x1] r S9 z 0 0 := by
  refine mw_ofW (cc := cX6_otherInPairing) (maxL := 2) (ret := (some .int)) (lv := [(0, .ref a0), (1, .int x1)]) (by decide) rfl (Nat.le_of_ble_eq_true rfl) rfl ?_
  intro p e s m below meth c ls hx hb hr hts hown hlk hml hnm hl hw
  have hown : s.vm.findClass RX6 = some m.cls := hown
  have B0 : ∀ (S : Hp) (H : Heap) (locs : List Loc) (ls : Array Slot), f_X6_otherInPairing N S a0 x1 = some (r, S9) → Wd D C (va_A (wP C S0) z) s.heap S z H locs s → lv_has ls 2 [(0, .ref a0), (1, .int x1)] → W p l e rm_X6_otherInPairing s m ([.ref a0, .int x1] : List Value).toArray below meth c H locs 0 0 (MQ below (QiW D C S0 z r S9 z) ([.ref a0, .int x1] : List Value).toArray s 0 0 (va_A (wP C S0) z)) (F0 m 0 ls []) := by
    intro S H locs ls hg hw hl
    unfold f_X6_otherInPairing at hg
    refine lv_aload_n hx hb dX6_otherInPairing_0 rfl (lv_at hl 0 rfl) ?_
    obtain ⟨hok10, hg⟩ := gd_some hg
    obtain ⟨r11, hr11, hg⟩ := nn_some hg
    refine wr_get (K := RX6) (T := TX6) (N := 7) (index := 40) (ref := "MakerLines") (v := .ref r11) hx hb hts hi_X6_otherInPairing_X6 hown hw hok10 (wF_6 (S := S) hok10.2) rfl 5 (by decide) (hts _ (List.mem_of_getElem? (i := 1) rfl)) (fun _ h9 => h9) (congrArg (fun o => some (va_rf o)) hr11) dX6_otherInPairing_1 ?_
    refine lv_aload_n hx hb dX6_otherInPairing_4 rfl (lv_at hl 0 rfl) ?_
    obtain ⟨r12, hr12, hg⟩ := nn_some hg
    refine wr_get (K := RX6) (T := TX6) (N := 7) (index := 12) (ref := "MakerLines") (v := .ref r12) hx hb hts hi_X6_otherInPairing_X6 hown hw hok10 (wF_6 (S := S) hok10.2) rfl 0 (by decide) (hts _ (List.mem_of_getElem? (i := 2) rfl)) (fun _ h9 => h9) (congrArg (fun o => some (va_rf o)) hr12) dX6_otherInPairing_5 ?_
    obtain ⟨hok13, hg⟩ := gd_some hg
    obtain ⟨⟨⟩, S14, hc14, hg⟩ := cl_some hg
    refine wr_cv (va_runV (As := [.ref r12]) (rest := []) ⟨hx, hb, hml, hown, hts⟩ (c_X2_lookAt l D C N S z r11 r12 () S14 hc14) (cwV 1 hts gX6_otherInPairing_X2_lookAt rfl rfl rfl (by decide +kernel) ⟨Nat.le_of_ble_eq_true rfl, Nat.le_of_ble_eq_true rfl⟩) (wd_preV hw hok13 (wF_2 (S := S) hok13.2) rfl) rfl rfl hl.1 rfl (lv_room (Nat.le_of_ble_eq_true rfl)) dX6_otherInPairing_8 ⟨Nat.zero_le _, Nat.zero_le _⟩) hw (fun H locs hw => ?_)
    refine lv_aload_n hx hb dX6_otherInPairing_11 rfl (lv_at hl 0 rfl) ?_
    obtain ⟨hok15, hg⟩ := gd_some hg
    obtain ⟨r16, hr16, hg⟩ := nn_some hg
    refine wr_get (K := RX6) (T := TX6) (N := 7) (index := 40) (ref := "MakerLines") (v := .ref r16) hx hb hts hi_X6_otherInPairing_X6 hown hw hok15 (wF_6 (S := S14) hok15.2) rfl 5 (by decide) (hts _ (List.mem_of_getElem? (i := 1) rfl)) (fun _ h9 => h9) (congrArg (fun o => some (va_rf o)) hr16) dX6_otherInPairing_12 ?_
    refine lv_iload_n hx hb dX6_otherInPairing_15 rfl (lv_at hl 1 rfl) ?_
    obtain ⟨hok17, hg⟩ := gd_some hg
    obtain ⟨r18, S18, hc18, hg⟩ := cl_some hg
    refine wr_ci (va_runV (As := [.int x1]) (rest := []) ⟨hx, hb, hml, hown, hts⟩ (c_X2_otherOf l D C N S14 z r16 x1 r18 S18 hc18) (cwV 1 hts gX6_otherInPairing_X2_otherOf rfl rfl rfl (by decide +kernel) ⟨Nat.le_of_ble_eq_true rfl, Nat.le_of_ble_eq_true rfl⟩) (wd_preV hw hok17 (wF_2 (S := S14) hok17.2) rfl) rfl rfl hl.1 rfl (lv_room (Nat.le_of_ble_eq_true rfl)) dX6_otherInPairing_16 ⟨Nat.zero_le _, Nat.zero_le _⟩) hw (fun H locs hw => ?_)
    cases hg
    exact wr_iret hx hb hr hw dX6_otherInPairing_19 hlk
  exact B0 S0 _ _ _ hg hw hl
theorem hi_X6_move_X6 : ∀ w ∈ wsX60, w ∈ wsX6_move := fun _ h => List.mem_cons_of_mem _ (List.mem_append_left _ (List.mem_append_left _ (List.mem_append_left _ (List.mem_append_left _ (List.mem_append_left _ (List.mem_append_left _ (List.mem_append_right _ (h))))))))
abbrev rm_X6_move : Room := { frames := 33, cells := 3, slots := 28, locals := 1565 }
set_option maxHeartbeats 4000000 in
set_option maxRecDepth 100000 in
theorem c_X6_move (l : Launch) (D : va_G) (C : C3) (N : Nat) (S0 : Hp) (z0 : Nat) (a0 : Nat) (x1 : Int32) (r : Int32) (S9 : Hp) (z9 : Nat) (hg : f_X6_move N S0 z0 a0 x1 = some (r, S9, z9)) : MetI l yX6_move wsX6_move rm_X6_move D C S0 z0 [.ref a0, .int x1] r S9 z9 3 28 := by
  refine mw_ofW (cc := cX6_move) (maxL := 2) (ret := (some .int)) (lv := [(0, .ref a0), (1, .int x1)]) (by decide) rfl (Nat.le_of_ble_eq_true rfl) rfl ?_
  intro p e s m below meth c ls hx hb hr hts hown hlk hml hnm hl hw
  have hown : s.vm.findClass RX6 = some m.cls := hown
  have B42 : ∀ (S : Hp) (z : Nat) (H : Heap) (locs : List Loc) (ls : Array Slot), f_X6_move_b42 N a0 x1 S z = some (r, S9, z9) → Wd D C (va_A (wP C S0) z0) s.heap S z H locs s → lv_has ls 2 [] → W p l e rm_X6_move s m ([.ref a0, .int x1] : List Value).toArray below meth c H locs 0 0 (MQ below (QiW D C S0 z0 r S9 z9) ([.ref a0, .int x1] : List Value).toArray s 3 28 (va_A (wP C S0) z0)) (F0 m 42 ls []) := by
    intro S z H locs ls hg hw hl
    unfold f_X6_move_b42 at hg
    exact absurd hg (by simp)
  have B0 : ∀ (S : Hp) (z : Nat) (H : Heap) (locs : List Loc) (ls : Array Slot), f_X6_move N S z a0 x1 = some (r, S9, z9) → Wd D C (va_A (wP C S0) z0) s.heap S z H locs s → lv_has ls 2 [(0, .ref a0), (1, .int x1)] → W p l e rm_X6_move s m ([.ref a0, .int x1] : List Value).toArray below meth c H locs 0 0 (MQ below (QiW D C S0 z0 r S9 z9) ([.ref a0, .int x1] : List Value).toArray s 3 28 (va_A (wP C S0) z0)) (F0 m 0 ls []) := by
    intro S z H locs ls hg hw hl
    unfold f_X6_move at hg
    refine lv_aload_n hx hb dX6_move_0 rfl (lv_at hl 0 rfl) ?_
    obtain ⟨hok10, hg⟩ := gd_some hg
    obtain ⟨r11, hr11, hg⟩ := nn_some hg
    refine wr_get (K := RX6) (T := TX6) (N := 7) (index := 12) (ref := "MakerLines") (v := .ref r11) hx hb hts hi_X6_move_X6 hown hw hok10 (wF_6 (S := S) hok10.2) rfl 0 (by decide) (hts _ (List.mem_of_getElem? (i := 5) rfl)) (fun _ h9 => h9) (congrArg (fun o => some (va_rf o)) hr11) dX6_move_1 ?_
    refine lv_iload_n hx hb dX6_move_4 rfl (lv_at hl 1 rfl) ?_
    obtain ⟨hok12, hg⟩ := gd_some hg
    obtain ⟨r13, S13, hc13, hg⟩ := cl_some hg
    refine wr_ci (va_runV (As := [.int x1]) (rest := []) ⟨hx, hb, hml, hown, hts⟩ (c_X4_hasCell l D C N S z r11 x1 r13 S13 hc13) (cwV 1 hts gX6_move_X4_hasCell rfl rfl rfl (by decide +kernel) ⟨Nat.le_of_ble_eq_true rfl, Nat.le_of_ble_eq_true rfl⟩) (wd_preV hw hok12 (wF_4 (S := S) hok12.2) rfl) rfl rfl hl.1 rfl (lv_room (Nat.le_of_ble_eq_true rfl)) dX6_move_5 ⟨Nat.le_of_ble_eq_true rfl, Nat.le_of_ble_eq_true rfl⟩) hw (fun H locs hw => ?_)
    refine lv_if_ne (tgt := 21) hx hb dX6_move_8 (by decide) (fun c14 => ?_) (fun c14 => ?_)
    · have hg := it_neg hg c14
      refine lv_aload_n hx hb dX6_move_21 rfl (lv_at hl 0 rfl) ?_
      obtain ⟨hok15, hg⟩ := gd_some hg
      obtain ⟨r16, hr16, hg⟩ := nn_some hg
      refine wr_get (K := RX6) (T := TX6) (N := 7) (index := 12) (ref := "MakerLines") (v := .ref r16) hx hb hts hi_X6_move_X6 hown hw hok15 (wF_6 (S := S13) hok15.2) rfl 0 (by decide) (hts _ (List.mem_of_getElem? (i := 5) rfl)) (fun _ h9 => h9) (congrArg (fun o => some (va_rf o)) hr16) dX6_move_22 ?_
      obtain ⟨hok17, hg⟩ := gd_some hg
      obtain ⟨r18, S18, hc18, hg⟩ := cl_some hg
      refine wr_ci (va_runV (As := []) (rest := []) ⟨hx, hb, hml, hown, hts⟩ (c_X4_winner l D C N S13 z r16 r18 S18 hc18) (cwV 0 hts gX6_move_X4_winner rfl rfl rfl (by decide +kernel) ⟨Nat.le_of_ble_eq_true rfl, Nat.le_of_ble_eq_true rfl⟩) (wd_preV hw hok17 (wF_4 (S := S13) hok17.2) rfl) rfl rfl hl.1 rfl (lv_room (Nat.le_of_ble_eq_true rfl)) dX6_move_25 ⟨Nat.le_of_ble_eq_true rfl, Nat.le_of_ble_eq_true rfl⟩) hw (fun H locs hw => ?_)
      refine lv_if_ne (tgt := 42) hx hb dX6_move_28 (by decide) (fun c19 => ?_) (fun c19 => ?_)
      · have hg := it_neg hg c19
        exact B42 _ _ _ _ _ hg hw (lv_sub hl [] rfl)
      · have hg := it_pos hg c19
        refine lv_aload_n hx hb dX6_move_31 rfl (lv_at hl 0 rfl) ?_
        obtain ⟨hok20, hg⟩ := gd_some hg
        obtain ⟨r21, hr21, hg⟩ := nn_some hg
        refine wr_get (K := RX6) (T := TX6) (N := 7) (index := 12) (ref := "MakerLines") (v := .ref r21) hx hb hts hi_X6_move_X6 hown hw hok20 (wF_6 (S := S18) hok20.2) rfl 0 (by decide) (hts _ (List.mem_of_getElem? (i := 5) rfl)) (fun _ h9 => h9) (congrArg (fun o => some (va_rf o)) hr21) dX6_move_32 ?_
        refine lv_iload_n hx hb dX6_move_35 rfl (lv_at hl 1 rfl) ?_
        obtain ⟨hok22, hg⟩ := gd_some hg
        obtain ⟨r23, S23, hc23, hg⟩ := cl_some hg
        refine wr_ci (va_runV (As := [.int x1]) (rest := []) ⟨hx, hb, hml, hown, hts⟩ (c_X4_isFree l D C N S18 z r21 x1 r23 S23 hc23) (cwV 1 hts gX6_move_X4_isFree rfl rfl rfl (by decide +kernel) ⟨Nat.le_of_ble_eq_true rfl, Nat.le_of_ble_eq_true rfl⟩) (wd_preV hw hok22 (wF_4 (S := S18) hok22.2) rfl) rfl rfl hl.1 rfl (lv_room (Nat.le_of_ble_eq_true rfl)) dX6_move_36 ⟨Nat.le_of_ble_eq_true rfl, Nat.le_of_ble_eq_true rfl⟩) hw (fun H locs hw => ?_)
        refine lv_if_ne (tgt := 52) hx hb dX6_move_39 (by decide) (fun c24 => ?_) (fun c24 => ?_)
        · have hg := it_neg hg c24
          refine lv_aload_n hx hb dX6_move_52 rfl (lv_at hl 0 rfl) ?_
          obtain ⟨hok25, hg⟩ := gd_some hg
          obtain ⟨r26, hr26, hg⟩ := nn_some hg
          refine wr_get (K := RX6) (T := TX6) (N := 7) (index := 22) (ref := "MakerLines") (v := .ref r26) hx hb hts hi_X6_move_X6 hown hw hok25 (wF_6 (S := S23) hok25.2) rfl 2 (by decide) (hts _ (List.mem_of_getElem? (i := 6) rfl)) (fun _ h9 => h9) (congrArg (fun o => some (va_rf o)) hr26) dX6_move_53 ?_
          refine lv_aload_n hx hb dX6_move_56 rfl (lv_at hl 0 rfl) ?_
          obtain ⟨r27, hr27, hg⟩ := nn_some hg
          refine wr_get (K := RX6) (T := TX6) (N := 7) (index := 12) (ref := "MakerLines") (v := .ref r27) hx hb hts hi_X6_move_X6 hown hw hok25 (wF_6 (S := S23) hok25.2) rfl 0 (by decide) (hts _ (List.mem_of_getElem? (i := 5) rfl)) (fun _ h9 => h9) (congrArg (fun o => some (va_rf o)) hr27) dX6_move_57 ?_
          obtain ⟨hok28, hg⟩ := gd_some hg
          obtain ⟨⟨⟩, S29, z29, hc29, hg⟩ := cz_some hg
          refine wr_cv (va_runV (As := [.ref r27]) (rest := []) ⟨hx, hb, hml, hown, hts⟩ (c_X0_save l D C N S23 z r26 r27 () S29 z29 hc29) (cwV 1 hts gX6_move_X0_save rfl rfl rfl (by decide +kernel) ⟨Nat.le_of_ble_eq_true rfl, Nat.le_of_ble_eq_true rfl⟩) (wd_preV hw hok28 (wF_0 (S := S23) hok28.2) rfl) rfl rfl hl.1 rfl (lv_room (Nat.le_of_ble_eq_true rfl)) dX6_move_60 ⟨Nat.le_of_ble_eq_true rfl, Nat.le_of_ble_eq_true rfl⟩) hw (fun H locs hw => ?_)
          refine lv_aload_n hx hb dX6_move_63 rfl (lv_at hl 0 rfl) ?_
          obtain ⟨hok30, hg⟩ := gd_some hg
          obtain ⟨r31, hr31, hg⟩ := nn_some hg
          refine wr_get (K := RX6) (T := TX6) (N := 7) (index := 12) (ref := "MakerLines") (v := .ref r31) hx hb hts hi_X6_move_X6 hown hw hok30 (wF_6 (S := S29) hok30.2) rfl 0 (by decide) (hts _ (List.mem_of_getElem? (i := 5) rfl)) (fun _ h9 => h9) (congrArg (fun o => some (va_rf o)) hr31) dX6_move_64 ?_
          refine lv_iload_n hx hb dX6_move_67 rfl (lv_at hl 1 rfl) ?_
          refine lv_aload_n hx hb dX6_move_68 rfl (lv_at hl 0 rfl) ?_
          refine lv_iload_n hx hb dX6_move_69 rfl (lv_at hl 1 rfl) ?_
          obtain ⟨r32, S32, hc32, hg⟩ := cl_some hg
          refine wr_ci (va_runV (As := [.int x1]) (rest := [.int x1, .ref r31]) ⟨hx, hb, hml, hown, hts⟩ (c_X6_otherInPairing l D C N S29 z29 a0 x1 r32 S32 hc32) (cwV 1 hts gX6_move_X6_otherInPairing rfl rfl rfl (by decide +kernel) ⟨Nat.le_of_ble_eq_true rfl, Nat.le_of_ble_eq_true rfl⟩) (wd_preV hw hok30 (wF_6 (S := S29) hok30.2) rfl) rfl rfl hl.1 rfl (lv_room (Nat.le_of_ble_eq_true rfl)) dX6_move_70 ⟨Nat.le_of_ble_eq_true rfl, Nat.le_of_ble_eq_true rfl⟩) hw (fun H locs hw => ?_)
          obtain ⟨hok33, hg⟩ := gd_some hg
          obtain ⟨⟨⟩, S34, hc34, hg⟩ := cl_some hg
          refine wr_cv (va_runV (As := [.int x1, .int r32]) (rest := []) ⟨hx, hb, hml, hown, hts⟩ (c_X4_occupy l D C N S32 z29 r31 x1 r32 () S34 hc34) (cwV 2 hts gX6_move_X4_occupy rfl rfl rfl (by decide +kernel) ⟨Nat.le_of_ble_eq_true rfl, Nat.le_of_ble_eq_true rfl⟩) (wd_preV hw hok33 (wF_4 (S := S32) hok33.2) rfl) rfl rfl hl.1 rfl (lv_room (Nat.le_of_ble_eq_true rfl)) dX6_move_73 ⟨Nat.le_of_ble_eq_true rfl, Nat.le_of_ble_eq_true rfl⟩) hw (fun H locs hw => ?_)
          refine lv_aload_n hx hb dX6_move_76 rfl (lv_at hl 0 rfl) ?_
          obtain ⟨hok35, hg⟩ := gd_some hg
          obtain ⟨r36, hr36, hg⟩ := nn_some hg
          refine wr_get (K := RX6) (T := TX6) (N := 7) (index := 12) (ref := "MakerLines") (v := .ref r36) hx hb hts hi_X6_move_X6 hown hw hok35 (wF_6 (S := S34) hok35.2) rfl 0 (by decide) (hts _ (List.mem_of_getElem? (i := 5) rfl)) (fun _ h9 => h9) (congrArg (fun o => some (va_rf o)) hr36) dX6_move_77 ?_
          obtain ⟨hok37, hg⟩ := gd_some hg
          obtain ⟨r38, S38, hc38, hg⟩ := cl_some hg
          refine wr_ci (va_runV (As := []) (rest := []) ⟨hx, hb, hml, hown, hts⟩ (c_X4_winner l D C N S34 z29 r36 r38 S38 hc38) (cwV 0 hts gX6_move_X4_winner rfl rfl rfl (by decide +kernel) ⟨Nat.le_of_ble_eq_true rfl, Nat.le_of_ble_eq_true rfl⟩) (wd_preV hw hok37 (wF_4 (S := S34) hok37.2) rfl) rfl rfl hl.1 rfl (lv_room (Nat.le_of_ble_eq_true rfl)) dX6_move_80 ⟨Nat.le_of_ble_eq_true rfl, Nat.le_of_ble_eq_true rfl⟩) hw (fun H locs hw => ?_)
          cases hg
          refine W.widen (k := 3) (n := 28) (Nat.le_of_ble_eq_true rfl) (Nat.le_of_ble_eq_true rfl) ?_
          exact wr_iret hx hb hr hw dX6_move_83 hlk
        · have hg := it_pos hg c24
          exact B42 _ _ _ _ _ hg hw (lv_sub hl [] rfl)
    · have hg := it_pos hg c14
      exact absurd hg (by simp)
  exact B0 S0 z0 _ _ _ hg hw hl
theorem hi_X6_skip_X4 : ∀ w ∈ wsX40, w ∈ wsX6_skip := fun _ h => List.mem_cons_of_mem _ (List.mem_append_left _ (List.mem_append_left _ (List.mem_append_left _ (List.mem_append_right _ (h)))))
theorem hi_X6_skip_X6 : ∀ w ∈ wsX60, w ∈ wsX6_skip := fun _ h => List.mem_cons_of_mem _ (List.mem_append_left _ (List.mem_append_left _ (List.mem_append_left _ (List.mem_append_left _ (List.mem_append_right _ (h))))))
abbrev rm_X6_skip : Room := { frames := 4, cells := 3, slots := 28, locals := 86 }
set_option maxHeartbeats 4000000 in
set_option maxRecDepth 100000 in
theorem c_X6_skip (l : Launch) (D : va_G) (C : C3) (N : Nat) (S0 : Hp) (z0 : Nat) (a0 : Nat) (r : Int32) (S9 : Hp) (z9 : Nat) (hg : f_X6_skip N S0 z0 a0 = some (r, S9, z9)) : MetI l yX6_skip wsX6_skip rm_X6_skip D C S0 z0 [.ref a0] r S9 z9 3 28 := by
  refine mw_ofW (cc := cX6_skip) (maxL := 1) (ret := (some .int)) (lv := [(0, .ref a0)]) (by decide) rfl (Nat.le_of_ble_eq_true rfl) rfl ?_
  intro p e s m below meth c ls hx hb hr hts hown hlk hml hnm hl hw
  have hown : s.vm.findClass RX6 = some m.cls := hown
  have B50 : ∀ (S : Hp) (z : Nat) (s0 : Int32) (s1 : Nat) (H : Heap) (locs : List Loc) (ls : Array Slot), f_X6_skip_b50 N a0 S z s0 s1 = some (r, S9, z9) → Wd D C (va_A (wP C S0) z0) s.heap S z H locs s → lv_has ls 1 [(0, .ref a0)] → W p l e rm_X6_skip s m ([.ref a0] : List Value).toArray below meth c H locs 3 28 (MQ below (QiW D C S0 z0 r S9 z9) ([.ref a0] : List Value).toArray s 3 28 (va_A (wP C S0) z0)) (F0 m 50 ls [.int s0, .ref s1]) := by
    intro S z s0 s1 H locs ls hg hw hl
    unfold f_X6_skip_b50 at hg
    obtain ⟨hok24, hg⟩ := gd_some hg
    obtain ⟨hz25, hg⟩ := gd_some hg
    refine wr_put (K := RX4) (T := TX4) (N := 10) (index := 143) (ref := "MakerLines$State") (ty := (.boolean)) (S1 := (sI S s1 4 s0)) hx hb hts hi_X6_skip_X4 tyX4 tyX4_ok nmX4 hown hw hok24 (wF_4 (S := S) hok24.2) rfl (fun b hb9 => wF_sI_ne hb9) 4 (wq_4_4 (S := S) hok24.2 _) rfl (by decide) (hts _ (List.mem_of_getElem? (i := 5) rfl)) (fun _ h9 => h9) rfl (by decide +kernel) (isB_nar hz25) (isB_fit hz25) (Nat.le_of_ble_eq_true rfl) dX6_skip_50 (fun H locs hw => ?_)
    refine lv_aload_n hx hb dX6_skip_53 rfl (lv_at hl 0 rfl) ?_
    obtain ⟨hok26, hg⟩ := gd_some hg
    obtain ⟨r27, hr27, hg⟩ := nn_some hg
    refine wr_get (K := RX6) (T := TX6) (N := 7) (index := 12) (ref := "MakerLines") (v := .ref r27) hx hb hts hi_X6_skip_X6 hown hw hok26 (wF_6 (S := (sI S s1 4 s0)) hok26.2) rfl 0 (by decide) (hts _ (List.mem_of_getElem? (i := 3) rfl)) (fun _ h9 => h9) (congrArg (fun o => some (va_rf o)) hr27) dX6_skip_54 ?_
    obtain ⟨hok28, hg⟩ := gd_some hg
    obtain ⟨⟨⟩, S29, hc29, hg⟩ := cl_some hg
    refine wr_cv (va_runV (As := []) (rest := []) ⟨hx, hb, hml, hown, hts⟩ (c_X4_forgetLatest l D C N ((sI S s1 4 s0)) z r27 () S29 hc29) (cwV 0 hts gX6_skip_X4_forgetLatest rfl rfl rfl (by decide +kernel) ⟨Nat.le_of_ble_eq_true rfl, Nat.le_of_ble_eq_true rfl⟩) (wd_preV hw hok28 (wF_4 (S := (sI S s1 4 s0)) hok28.2) rfl) rfl rfl hl.1 rfl (lv_room (Nat.le_of_ble_eq_true rfl)) dX6_skip_57 ⟨Nat.le_of_ble_eq_true rfl, Nat.le_of_ble_eq_true rfl⟩) hw (fun H locs hw => ?_)
    refine lv_aload_n hx hb dX6_skip_60 rfl (lv_at hl 0 rfl) ?_
    obtain ⟨hok30, hg⟩ := gd_some hg
    obtain ⟨r31, hr31, hg⟩ := nn_some hg
    refine wr_get (K := RX6) (T := TX6) (N := 7) (index := 12) (ref := "MakerLines") (v := .ref r31) hx hb hts hi_X6_skip_X6 hown hw hok30 (wF_6 (S := S29) hok30.2) rfl 0 (by decide) (hts _ (List.mem_of_getElem? (i := 3) rfl)) (fun _ h9 => h9) (congrArg (fun o => some (va_rf o)) hr31) dX6_skip_61 ?_
    obtain ⟨hok32, hg⟩ := gd_some hg
    obtain ⟨r33, S33, hc33, hg⟩ := cl_some hg
    refine wr_ci (va_runV (As := []) (rest := []) ⟨hx, hb, hml, hown, hts⟩ (c_X4_mover l D C N S29 z r31 r33 S33 hc33) (cwV 0 hts gX6_skip_X4_mover rfl rfl rfl (by decide +kernel) ⟨Nat.le_of_ble_eq_true rfl, Nat.le_of_ble_eq_true rfl⟩) (wd_preV hw hok32 (wF_4 (S := S29) hok32.2) rfl) rfl rfl hl.1 rfl (lv_room (Nat.le_of_ble_eq_true rfl)) dX6_skip_64 ⟨Nat.le_of_ble_eq_true rfl, Nat.le_of_ble_eq_true rfl⟩) hw (fun H locs hw => ?_)
    cases hg
    refine W.widen (k := 3) (n := 28) (Nat.le_of_ble_eq_true rfl) (Nat.le_of_ble_eq_true rfl) ?_
    exact wr_iret hx hb hr hw dX6_skip_67 hlk
  have B0 : ∀ (S : Hp) (z : Nat) (H : Heap) (locs : List Loc) (ls : Array Slot), f_X6_skip N S z a0 = some (r, S9, z9) → Wd D C (va_A (wP C S0) z0) s.heap S z H locs s → lv_has ls 1 [(0, .ref a0)] → W p l e rm_X6_skip s m ([.ref a0] : List Value).toArray below meth c H locs 0 0 (MQ below (QiW D C S0 z0 r S9 z9) ([.ref a0] : List Value).toArray s 3 28 (va_A (wP C S0) z0)) (F0 m 0 ls []) := by
    intro S z H locs ls hg hw hl
    unfold f_X6_skip at hg
    refine lv_aload_n hx hb dX6_skip_0 rfl (lv_at hl 0 rfl) ?_
    obtain ⟨hok10, hg⟩ := gd_some hg
    obtain ⟨r11, hr11, hg⟩ := nn_some hg
    refine wr_get (K := RX6) (T := TX6) (N := 7) (index := 12) (ref := "MakerLines") (v := .ref r11) hx hb hts hi_X6_skip_X6 hown hw hok10 (wF_6 (S := S) hok10.2) rfl 0 (by decide) (hts _ (List.mem_of_getElem? (i := 3) rfl)) (fun _ h9 => h9) (congrArg (fun o => some (va_rf o)) hr11) dX6_skip_1 ?_
    obtain ⟨hok12, hg⟩ := gd_some hg
    obtain ⟨r13, S13, hc13, hg⟩ := cl_some hg
    refine wr_ci (va_runV (As := []) (rest := []) ⟨hx, hb, hml, hown, hts⟩ (c_X4_winner l D C N S z r11 r13 S13 hc13) (cwV 0 hts gX6_skip_X4_winner rfl rfl rfl (by decide +kernel) ⟨Nat.le_of_ble_eq_true rfl, Nat.le_of_ble_eq_true rfl⟩) (wd_preV hw hok12 (wF_4 (S := S) hok12.2) rfl) rfl rfl hl.1 rfl (lv_room (Nat.le_of_ble_eq_true rfl)) dX6_skip_4 ⟨Nat.le_of_ble_eq_true rfl, Nat.le_of_ble_eq_true rfl⟩) hw (fun H locs hw => ?_)
    refine lv_if_eq (tgt := 20) hx hb dX6_skip_7 (by decide) (fun c14 => ?_) (fun c14 => ?_)
    · have hg := it_pos hg c14
      refine lv_aload_n hx hb dX6_skip_20 rfl (lv_at hl 0 rfl) ?_
      obtain ⟨hok15, hg⟩ := gd_some hg
      obtain ⟨r16, hr16, hg⟩ := nn_some hg
      refine wr_get (K := RX6) (T := TX6) (N := 7) (index := 22) (ref := "MakerLines") (v := .ref r16) hx hb hts hi_X6_skip_X6 hown hw hok15 (wF_6 (S := S13) hok15.2) rfl 2 (by decide) (hts _ (List.mem_of_getElem? (i := 4) rfl)) (fun _ h9 => h9) (congrArg (fun o => some (va_rf o)) hr16) dX6_skip_21 ?_
      refine lv_aload_n hx hb dX6_skip_24 rfl (lv_at hl 0 rfl) ?_
      obtain ⟨r17, hr17, hg⟩ := nn_some hg
      refine wr_get (K := RX6) (T := TX6) (N := 7) (index := 12) (ref := "MakerLines") (v := .ref r17) hx hb hts hi_X6_skip_X6 hown hw hok15 (wF_6 (S := S13) hok15.2) rfl 0 (by decide) (hts _ (List.mem_of_getElem? (i := 3) rfl)) (fun _ h9 => h9) (congrArg (fun o => some (va_rf o)) hr17) dX6_skip_25 ?_
      obtain ⟨hok18, hg⟩ := gd_some hg
      obtain ⟨⟨⟩, S19, z19, hc19, hg⟩ := cz_some hg
      refine wr_cv (va_runV (As := [.ref r17]) (rest := []) ⟨hx, hb, hml, hown, hts⟩ (c_X0_save l D C N S13 z r16 r17 () S19 z19 hc19) (cwV 1 hts gX6_skip_X0_save rfl rfl rfl (by decide +kernel) ⟨Nat.le_of_ble_eq_true rfl, Nat.le_of_ble_eq_true rfl⟩) (wd_preV hw hok18 (wF_0 (S := S13) hok18.2) rfl) rfl rfl hl.1 rfl (lv_room (Nat.le_of_ble_eq_true rfl)) dX6_skip_28 ⟨Nat.le_of_ble_eq_true rfl, Nat.le_of_ble_eq_true rfl⟩) hw (fun H locs hw => ?_)
      refine lv_aload_n hx hb dX6_skip_31 rfl (lv_at hl 0 rfl) ?_
      obtain ⟨hok20, hg⟩ := gd_some hg
      obtain ⟨r21, hr21, hg⟩ := nn_some hg
      refine wr_get (K := RX6) (T := TX6) (N := 7) (index := 12) (ref := "MakerLines") (v := .ref r21) hx hb hts hi_X6_skip_X6 hown hw hok20 (wF_6 (S := S19) hok20.2) rfl 0 (by decide) (hts _ (List.mem_of_getElem? (i := 3) rfl)) (fun _ h9 => h9) (congrArg (fun o => some (va_rf o)) hr21) dX6_skip_32 ?_
      refine lv_aload_n hx hb dX6_skip_35 rfl (lv_at hl 0 rfl) ?_
      refine wr_get (K := RX6) (T := TX6) (N := 7) (index := 12) (ref := "MakerLines") (v := .ref r21) hx hb hts hi_X6_skip_X6 hown hw hok20 (wF_6 (S := S19) hok20.2) rfl 0 (by decide) (hts _ (List.mem_of_getElem? (i := 3) rfl)) (fun _ h9 => h9) (congrArg (fun o => some (va_rf o)) hr21) dX6_skip_36 ?_
      obtain ⟨hok22, hg⟩ := gd_some hg
      refine wr_get (K := RX4) (T := TX4) (N := 10) (index := 143) (ref := "MakerLines$State") (v := .int (hI S19 r21 4)) hx hb hts hi_X6_skip_X4 hown hw hok22 (wF_4 (S := S19) hok22.2) rfl 4 (by decide) (hts _ (List.mem_of_getElem? (i := 5) rfl)) (fun _ h9 => h9) rfl dX6_skip_39 ?_
      refine lv_if_ne (tgt := 49) hx hb dX6_skip_42 (by decide) (fun c23 => ?_) (fun c23 => ?_)
      · have hg := it_neg hg c23
        refine lv_iconst (v := (0 : Int32)) hx hb dX6_skip_49 (by decide) ?_
        exact B50 _ _ _ _ _ _ _ hg hw (lv_sub hl [0] rfl)
      · have hg := it_pos hg c23
        refine lv_iconst (v := (1 : Int32)) hx hb dX6_skip_45 (by decide) ?_
        refine lv_goto (tgt := 50) hx hb dX6_skip_46 (by decide) ?_
        exact B50 _ _ _ _ _ _ _ hg hw (lv_sub hl [0] rfl)
    · have hg := it_neg hg c14
      exact absurd hg (by simp)
  exact B0 S0 z0 _ _ _ hg hw hl
abbrev rm_X6_isRule : Room := { frames := 0, cells := 0, slots := 0, locals := 0 }
set_option maxHeartbeats 4000000 in
set_option maxRecDepth 100000 in
theorem c_X6_isRule (l : Launch) (D : va_G) (C : C3) (N : Nat) (S0 : Hp) (z : Nat) (x0 : Int32) (r : Int32) (S9 : Hp) (hg : f_X6_isRule N S0 x0 = some (r, S9)) : MetI l yX6_isRule wsX6_isRule rm_X6_isRule D C S0 z [.int x0] r S9 z 0 0 := by
  refine mw_ofW (cc := cX6_isRule) (maxL := 1) (ret := (some .boolean)) (lv := [(0, .int x0)]) (by decide) rfl (Nat.le_of_ble_eq_true rfl) rfl ?_
  intro p e s m below meth c ls hx hb hr hts hown hlk hml hnm hl hw
  have hown : s.vm.findClass RX6 = some m.cls := hown
  have B0 : ∀ (S : Hp) (H : Heap) (locs : List Loc) (ls : Array Slot), f_X6_isRule N S x0 = some (r, S9) → Wd D C (va_A (wP C S0) z) s.heap S z H locs s → lv_has ls 1 [(0, .int x0)] → W p l e rm_X6_isRule s m ([.int x0] : List Value).toArray below meth c H locs 0 0 (MQ below (QiW D C S0 z r S9 z) ([.int x0] : List Value).toArray s 0 0 (va_A (wP C S0) z)) (F0 m 0 ls []) := by
    intro S H locs ls hg hw hl
    unfold f_X6_isRule at hg
    refine lv_iload_n hx hb dX6_isRule_0 rfl (lv_at hl 0 rfl) ?_
    refine lv_if_lt (tgt := 13) hx hb dX6_isRule_1 (by decide) (fun c10 => ?_) (fun c10 => ?_)
    · have hg := it_pos hg c10
      refine lv_iconst (v := (0 : Int32)) hx hb dX6_isRule_13 (by decide) ?_
      cases hg
      exact wr_zret hx hb hr (by decide) hw dX6_isRule_14 hlk
    · have hg := it_neg hg c10
      refine lv_iload_n hx hb dX6_isRule_4 rfl (lv_at hl 0 rfl) ?_
      refine lv_iconst (v := (3 : Int32)) hx hb dX6_isRule_5 (by decide) ?_
      refine lv_icmp_gt (tgt := 13) hx hb dX6_isRule_6 (by decide) (fun c11 => ?_) (fun c11 => ?_)
      · have hg := it_pos hg c11
        refine lv_iconst (v := (0 : Int32)) hx hb dX6_isRule_13 (by decide) ?_
        cases hg
        exact wr_zret hx hb hr (by decide) hw dX6_isRule_14 hlk
      · have hg := it_neg hg c11
        refine lv_iconst (v := (1 : Int32)) hx hb dX6_isRule_9 (by decide) ?_
        refine lv_goto (tgt := 14) hx hb dX6_isRule_10 (by decide) ?_
        cases hg
        exact wr_zret hx hb hr (by decide) hw dX6_isRule_14 hlk
  exact B0 S0 _ _ _ hg hw hl
theorem hi_X6_cellBy_X4 : ∀ w ∈ wsX40, w ∈ wsX6_cellBy := fun _ h => List.mem_cons_of_mem _ (List.mem_append_left _ (List.mem_append_left _ (List.mem_append_right _ (h))))
theorem hi_X6_cellBy_X6 : ∀ w ∈ wsX60, w ∈ wsX6_cellBy := fun _ h => List.mem_cons_of_mem _ (List.mem_append_left _ (List.mem_append_left _ (List.mem_append_left _ (List.mem_append_right _ (h)))))
abbrev rm_X6_cellBy : Room := { frames := 30, cells := 0, slots := 0, locals := 1452 }
set_option maxHeartbeats 4000000 in
set_option maxRecDepth 100000 in
theorem c_X6_cellBy (l : Launch) (D : va_G) (C : C3) (N : Nat) (S0 : Hp) (z : Nat) (a0 : Nat) (x1 : Int32) (a2 : Nat) (r : Int32) (S9 : Hp) (hg : f_X6_cellBy N S0 a0 x1 a2 = some (r, S9)) : MetI l yX6_cellBy wsX6_cellBy rm_X6_cellBy D C S0 z [.ref a0, .int x1, .ref a2] r S9 z 0 0 := by
  refine mw_ofW (cc := cX6_cellBy) (maxL := 4) (ret := (some .int)) (lv := [(0, .ref a0), (1, .int x1), (2, .ref a2)]) (by decide) rfl (Nat.le_of_ble_eq_true rfl) rfl ?_
  intro p e s m below meth c ls hx hb hr hts hown hlk hml hnm hl hw
  have hown : s.vm.findClass RX6 = some m.cls := hown
  have B44 : ∀ (S : Hp) (H : Heap) (locs : List Loc) (ls : Array Slot), f_X6_cellBy_b44 N a0 x1 a2 S = some (r, S9) → Wd D C (va_A (wP C S0) z) s.heap S z H locs s → lv_has ls 4 [(2, .ref a2)] → W p l e rm_X6_cellBy s m ([.ref a0, .int x1, .ref a2] : List Value).toArray below meth c H locs 0 0 (MQ below (QiW D C S0 z r S9 z) ([.ref a0, .int x1, .ref a2] : List Value).toArray s 0 0 (va_A (wP C S0) z)) (F0 m 44 ls []) := by
    intro S H locs ls hg hw hl
    unfold f_X6_cellBy_b44 at hg
    refine lv_aload_n hx hb dX6_cellBy_44 rfl (lv_at hl 0 rfl) ?_
    obtain ⟨hok22, hg⟩ := gd_some hg
    obtain ⟨r23, S23, hc23, hg⟩ := cl_some hg
    refine wr_ci (va_runV (As := []) (rest := []) ⟨hx, hb, hml, hown, hts⟩ (c_X4_forcedReply l D C N S z a2 r23 S23 hc23) (cwV 0 hts gX6_cellBy_X4_forcedReply rfl rfl rfl (by decide +kernel) ⟨Nat.le_of_ble_eq_true rfl, Nat.le_of_ble_eq_true rfl⟩) (wd_preV hw hok22 (wF_4 (S := S) hok22.2) rfl) rfl rfl hl.1 rfl (lv_room (Nat.le_of_ble_eq_true rfl)) dX6_cellBy_45 ⟨Nat.zero_le _, Nat.zero_le _⟩) hw (fun H locs hw => ?_)
    refine lv_istore_n (lv' := [(3, .int r23), (2, .ref a2)]) hx hb dX6_cellBy_48 rfl hl (by decide) rfl (fun ls hl => ?_)
    refine lv_iload_n hx hb dX6_cellBy_49 rfl (lv_at hl 0 rfl) ?_
    refine lv_iconst (v := (-1 : Int32)) hx hb dX6_cellBy_50 (by decide) ?_
    refine lv_icmp_ne (tgt := 61) hx hb dX6_cellBy_51 (by decide) (fun c24 => ?_) (fun c24 => ?_)
    · have hg := it_neg hg c24
      refine lv_iload_n hx hb dX6_cellBy_61 rfl (lv_at hl 0 rfl) ?_
      cases hg
      exact wr_iret hx hb hr hw dX6_cellBy_62 hlk
    · have hg := it_pos hg c24
      refine lv_aload_n hx hb dX6_cellBy_54 rfl (lv_at hl 1 rfl) ?_
      obtain ⟨hok25, hg⟩ := gd_some hg
      obtain ⟨r26, S26, hc26, hg⟩ := cl_some hg
      refine wr_ci (va_runV (As := []) (rest := []) ⟨hx, hb, hml, hown, hts⟩ (c_X4_mostDangerous l D C N S23 z a2 r26 S26 hc26) (cwV 0 hts gX6_cellBy_X4_mostDangerous rfl rfl rfl (by decide +kernel) ⟨Nat.le_of_ble_eq_true rfl, Nat.le_of_ble_eq_true rfl⟩) (wd_preV hw hok25 (wF_4 (S := S23) hok25.2) rfl) rfl rfl hl.1 rfl (lv_room (Nat.le_of_ble_eq_true rfl)) dX6_cellBy_55 ⟨Nat.zero_le _, Nat.zero_le _⟩) hw (fun H locs hw => ?_)
      refine lv_goto (tgt := 62) hx hb dX6_cellBy_58 (by decide) ?_
      cases hg
      exact wr_iret hx hb hr hw dX6_cellBy_62 hlk
  have B0 : ∀ (S : Hp) (H : Heap) (locs : List Loc) (ls : Array Slot), f_X6_cellBy N S a0 x1 a2 = some (r, S9) → Wd D C (va_A (wP C S0) z) s.heap S z H locs s → lv_has ls 4 [(0, .ref a0), (1, .int x1), (2, .ref a2)] → W p l e rm_X6_cellBy s m ([.ref a0, .int x1, .ref a2] : List Value).toArray below meth c H locs 0 0 (MQ below (QiW D C S0 z r S9 z) ([.ref a0, .int x1, .ref a2] : List Value).toArray s 0 0 (va_A (wP C S0) z)) (F0 m 0 ls []) := by
    intro S H locs ls hg hw hl
    unfold f_X6_cellBy at hg
    refine lv_iload_n hx hb dX6_cellBy_0 rfl (lv_at hl 1 rfl) ?_
    refine lv_if_ne (tgt := 12) hx hb dX6_cellBy_1 (by decide) (fun c10 => ?_) (fun c10 => ?_)
    · have hg := it_neg hg c10
      refine lv_iload_n hx hb dX6_cellBy_12 rfl (lv_at hl 1 rfl) ?_
      refine lv_iconst (v := (3 : Int32)) hx hb dX6_cellBy_13 (by decide) ?_
      refine lv_icmp_ne (tgt := 26) hx hb dX6_cellBy_14 (by decide) (fun c11 => ?_) (fun c11 => ?_)
      · have hg := it_neg hg c11
        refine lv_iload_n hx hb dX6_cellBy_26 rfl (lv_at hl 1 rfl) ?_
        refine lv_iconst (v := (2 : Int32)) hx hb dX6_cellBy_27 (by decide) ?_
        refine lv_icmp_ne (tgt := 44) hx hb dX6_cellBy_28 (by decide) (fun c12 => ?_) (fun c12 => ?_)
        · have hg := it_neg hg c12
          exact B44 _ _ _ _ hg hw (lv_sub hl [2] rfl)
        · have hg := it_pos hg c12
          refine lv_aload_n hx hb dX6_cellBy_31 rfl (lv_at hl 2 rfl) ?_
          obtain ⟨hok13, hg⟩ := gd_some hg
          refine wr_get (K := RX4) (T := TX4) (N := 10) (index := 315) (ref := "MakerLines$State") (v := .int (hI S a2 6)) hx hb hts hi_X6_cellBy_X4 hown hw hok13 (wF_4 (S := S) hok13.2) rfl 6 (by decide) (hts _ (List.mem_of_getElem? (i := 2) rfl)) (fun _ h9 => h9) rfl dX6_cellBy_32 ?_
          refine lv_iconst (v := (-1 : Int32)) hx hb dX6_cellBy_35 (by decide) ?_
          refine lv_icmp_eq (tgt := 44) hx hb dX6_cellBy_36 (by decide) (fun c14 => ?_) (fun c14 => ?_)
          · have hg := it_pos hg c14
            exact B44 _ _ _ _ hg hw (lv_sub hl [2] rfl)
          · have hg := it_neg hg c14
            refine lv_aload_n hx hb dX6_cellBy_39 rfl (lv_at hl 2 rfl) ?_
            refine wr_get (K := RX4) (T := TX4) (N := 10) (index := 315) (ref := "MakerLines$State") (v := .int (hI S a2 6)) hx hb hts hi_X6_cellBy_X4 hown hw hok13 (wF_4 (S := S) hok13.2) rfl 6 (by decide) (hts _ (List.mem_of_getElem? (i := 2) rfl)) (fun _ h9 => h9) rfl dX6_cellBy_40 ?_
            cases hg
            exact wr_iret hx hb hr hw dX6_cellBy_43 hlk
      · have hg := it_pos hg c11
        refine lv_aload_n hx hb dX6_cellBy_17 rfl (lv_at hl 0 rfl) ?_
        obtain ⟨hok15, hg⟩ := gd_some hg
        obtain ⟨r16, hr16, hg⟩ := nn_some hg
        refine wr_get (K := RX6) (T := TX6) (N := 7) (index := 47) (ref := "MakerLines") (v := .ref r16) hx hb hts hi_X6_cellBy_X6 hown hw hok15 (wF_6 (S := S) hok15.2) rfl 6 (by decide) (hts _ (List.mem_of_getElem? (i := 1) rfl)) (fun _ h9 => h9) (congrArg (fun o => some (va_rf o)) hr16) dX6_cellBy_18 ?_
        refine lv_aload_n hx hb dX6_cellBy_21 rfl (lv_at hl 2 rfl) ?_
        obtain ⟨hok17, hg⟩ := gd_some hg
        obtain ⟨r18, S18, hc18, hg⟩ := cl_some hg
        refine wr_ci (va_runV (As := [.ref a2]) (rest := []) ⟨hx, hb, hml, hown, hts⟩ (c_X3_bestMove l D C N S z r16 a2 r18 S18 hc18) (cwV 1 hts gX6_cellBy_X3_bestMove rfl rfl rfl (by decide +kernel) ⟨Nat.le_of_ble_eq_true rfl, Nat.le_of_ble_eq_true rfl⟩) (wd_preV hw hok17 (wF_3 (S := S) hok17.2) rfl) rfl rfl hl.1 rfl (lv_room (Nat.le_of_ble_eq_true rfl)) dX6_cellBy_22 ⟨Nat.zero_le _, Nat.zero_le _⟩) hw (fun H locs hw => ?_)
        cases hg
        exact wr_iret hx hb hr hw dX6_cellBy_25 hlk
    · have hg := it_pos hg c10
      refine lv_aload_n hx hb dX6_cellBy_4 rfl (lv_at hl 2 rfl) ?_
      obtain ⟨hok19, hg⟩ := gd_some hg
      obtain ⟨r20, S20, hc20, hg⟩ := cl_some hg
      refine wr_ci (va_runV (As := []) (rest := []) ⟨hx, hb, hml, hown, hts⟩ (c_X4_freeCells l D C N S z a2 r20 S20 hc20) (cwV 0 hts gX6_cellBy_X4_freeCells rfl rfl rfl (by decide +kernel) ⟨Nat.le_of_ble_eq_true rfl, Nat.le_of_ble_eq_true rfl⟩) (wd_preV hw hok19 (wF_4 (S := S) hok19.2) rfl) rfl rfl hl.1 rfl (lv_room (Nat.le_of_ble_eq_true rfl)) dX6_cellBy_5 ⟨Nat.zero_le _, Nat.zero_le _⟩) hw (fun H locs hw => ?_)
      obtain ⟨r21, S21, hc21, hg⟩ := cl_some hg
      refine wr_ci (va_runS (As := [.int r20]) (rest := []) ⟨hx, hb, hml, hown, hts⟩ (c_X6_lowestOf l D C N S20 z r20 r21 S21 hc21) (va_cwS 1 hts gX6_cellBy_X6_lowestOf rfl rfl rfl (by decide +kernel) ⟨Nat.le_of_ble_eq_true rfl, Nat.le_of_ble_eq_true rfl⟩) (wd_preS hw) rfl rfl hl.1 rfl (lv_room (Nat.le_of_ble_eq_true rfl)) dX6_cellBy_8 ⟨Nat.zero_le _, Nat.zero_le _⟩) hw (fun H locs hw => ?_)
      cases hg
      exact wr_iret hx hb hr hw dX6_cellBy_11 hlk
  exact B0 S0 _ _ _ hg hw hl
theorem hi_X6_goOn_X4 : ∀ w ∈ wsX40, w ∈ wsX6_goOn := fun _ h => List.mem_cons_of_mem _ (List.mem_append_left _ (List.mem_append_left _ (List.mem_append_left _ (List.mem_append_left _ (List.mem_append_right _ (h))))))
theorem hi_X6_goOn_X6 : ∀ w ∈ wsX60, w ∈ wsX6_goOn := fun _ h => List.mem_cons_of_mem _ (List.mem_append_left _ (List.mem_append_left _ (List.mem_append_left _ (List.mem_append_right _ (h)))))
abbrev rm_X6_goOn : Room := { frames := 32, cells := 0, slots := 0, locals := 1544 }
set_option maxHeartbeats 4000000 in
set_option maxRecDepth 100000 in
theorem c_X6_goOn (l : Launch) (D : va_G) (C : C3) (N : Nat) (S0 : Hp) (z : Nat) (a0 : Nat) (a1 : Nat) (x2 : Int32) (x3 : Int32) (x4 : Int32) (r : Int32) (S9 : Hp) (hg : f_X6_goOn N S0 a0 a1 x2 x3 x4 = some (r, S9)) : MetI l yX6_goOn wsX6_goOn rm_X6_goOn D C S0 z [.ref a0, .ref a1, .int x2, .int x3, .int x4] r S9 z 0 0 := by
  refine mw_ofW (cc := cX6_goOn) (maxL := 7) (ret := (some .int)) (lv := [(0, .ref a0), (1, .ref a1), (2, .int x2), (3, .int x3), (4, .int x4)]) (by decide) rfl (Nat.le_of_ble_eq_true rfl) rfl ?_
  intro p e s m below meth c ls hx hb hr hts hown hlk hml hnm hl hw
  have hown : s.vm.findClass RX6 = some m.cls := hown
  have B30 : ∀ (K3 : Hp → Int32 → Option (Int32 × Hp)) (hK3 : ∀ (S : Hp) (v5 : Int32) (H : Heap) (locs : List Loc) (ls : Array Slot), K3 S v5 = some (r, S9) → Wd D C (va_A (wP C S0) z) s.heap S z H locs s → lv_has ls 7 [(0, .ref a0), (1, .ref a1), (2, .int x2), (3, .int x3), (4, .int x4), (5, .int v5)] → W p l e rm_X6_goOn s m ([.ref a0, .ref a1, .int x2, .int x3, .int x4] : List Value).toArray below meth c H locs 0 0 (MQ below (QiW D C S0 z r S9 z) ([.ref a0, .ref a1, .int x2, .int x3, .int x4] : List Value).toArray s 0 0 (va_A (wP C S0) z)) (F0 m 3 ls [])) (S : Hp) (v5 : Int32) (s0 : Int32) (s1 : Nat) (H : Heap) (locs : List Loc) (ls : Array Slot), f_X6_goOn_b30 N a0 a1 x2 x3 x4 K3 S v5 s0 s1 = some (r, S9) → Wd D C (va_A (wP C S0) z) s.heap S z H locs s → lv_has ls 7 [(0, .ref a0), (1, .ref a1), (2, .int x2), (3, .int x3), (4, .int x4), (5, .int v5)] → W p l e rm_X6_goOn s m ([.ref a0, .ref a1, .int x2, .int x3, .int x4] : List Value).toArray below meth c H locs 0 0 (MQ below (QiW D C S0 z r S9 z) ([.ref a0, .ref a1, .int x2, .int x3, .int x4] : List Value).toArray s 0 0 (va_A (wP C S0) z)) (F0 m 30 ls [.int s0, .ref s1]) := by
    intro K3 hK3 S v5 s0 s1 H locs ls hg hw hl
    unfold f_X6_goOn_b30 at hg
    refine lv_aload_n hx hb dX6_goOn_30 rfl (lv_at hl 1 rfl) ?_
    obtain ⟨hok16, hg⟩ := gd_some hg
    obtain ⟨r17, S17, hc17, hg⟩ := cl_some hg
    refine wr_ci (va_runV (As := [.int s0, .ref a1]) (rest := []) ⟨hx, hb, hml, hown, hts⟩ (c_X6_cellBy l D C N S z s1 s0 a1 r17 S17 hc17) (cwV 2 hts gX6_goOn_X6_cellBy rfl rfl rfl (by decide +kernel) ⟨Nat.le_of_ble_eq_true rfl, Nat.le_of_ble_eq_true rfl⟩) (wd_preV hw hok16 (wF_6 (S := S) hok16.2) rfl) rfl rfl hl.1 rfl (lv_room (Nat.le_of_ble_eq_true rfl)) dX6_goOn_31 ⟨Nat.zero_le _, Nat.zero_le _⟩) hw (fun H locs hw => ?_)
    refine lv_istore (lv' := [(6, .int r17), (0, .ref a0), (1, .ref a1), (2, .int x2), (3, .int x3), (4, .int x4), (5, .int v5)]) hx hb dX6_goOn_34 hl (by decide) rfl (fun ls hl => ?_)
    refine lv_aload_n hx hb dX6_goOn_36 rfl (lv_at hl 1 rfl) ?_
    obtain ⟨hok18, hg⟩ := gd_some hg
    obtain ⟨r19, hr19, hg⟩ := nn_some hg
    refine wr_get (K := RX6) (T := TX6) (N := 7) (index := 40) (ref := "MakerLines") (v := .ref r19) hx hb hts hi_X6_goOn_X6 hown hw hok18 (wF_6 (S := S17) hok18.2) rfl 5 (by decide) (hts _ (List.mem_of_getElem? (i := 2) rfl)) (fun _ h9 => h9) (congrArg (fun o => some (va_rf o)) hr19) dX6_goOn_37 ?_
    refine lv_aload_n hx hb dX6_goOn_40 rfl (lv_at hl 2 rfl) ?_
    obtain ⟨hok20, hg⟩ := gd_some hg
    obtain ⟨⟨⟩, S21, hc21, hg⟩ := cl_some hg
    refine wr_cv (va_runV (As := [.ref a1]) (rest := []) ⟨hx, hb, hml, hown, hts⟩ (c_X2_lookAt l D C N S17 z r19 a1 () S21 hc21) (cwV 1 hts gX6_goOn_X2_lookAt rfl rfl rfl (by decide +kernel) ⟨Nat.le_of_ble_eq_true rfl, Nat.le_of_ble_eq_true rfl⟩) (wd_preV hw hok20 (wF_2 (S := S17) hok20.2) rfl) rfl rfl hl.1 rfl (lv_room (Nat.le_of_ble_eq_true rfl)) dX6_goOn_41 ⟨Nat.zero_le _, Nat.zero_le _⟩) hw (fun H locs hw => ?_)
    refine lv_aload_n hx hb dX6_goOn_44 rfl (lv_at hl 2 rfl) ?_
    refine lv_iload hx hb dX6_goOn_45 (lv_at hl 0 rfl) ?_
    refine lv_aload_n hx hb dX6_goOn_47 rfl (lv_at hl 1 rfl) ?_
    obtain ⟨hok22, hg⟩ := gd_some hg
    obtain ⟨r23, hr23, hg⟩ := nn_some hg
    refine wr_get (K := RX6) (T := TX6) (N := 7) (index := 40) (ref := "MakerLines") (v := .ref r23) hx hb hts hi_X6_goOn_X6 hown hw hok22 (wF_6 (S := S21) hok22.2) rfl 5 (by decide) (hts _ (List.mem_of_getElem? (i := 2) rfl)) (fun _ h9 => h9) (congrArg (fun o => some (va_rf o)) hr23) dX6_goOn_48 ?_
    refine lv_iload hx hb dX6_goOn_51 (lv_at hl 0 rfl) ?_
    obtain ⟨hok24, hg⟩ := gd_some hg
    obtain ⟨r25, S25, hc25, hg⟩ := cl_some hg
    refine wr_ci (va_runV (As := [.int r17]) (rest := [.int r17, .ref a1]) ⟨hx, hb, hml, hown, hts⟩ (c_X2_otherOf l D C N S21 z r23 r17 r25 S25 hc25) (cwV 1 hts gX6_goOn_X2_otherOf rfl rfl rfl (by decide +kernel) ⟨Nat.le_of_ble_eq_true rfl, Nat.le_of_ble_eq_true rfl⟩) (wd_preV hw hok24 (wF_2 (S := S21) hok24.2) rfl) rfl rfl hl.1 rfl (lv_room (Nat.le_of_ble_eq_true rfl)) dX6_goOn_53 ⟨Nat.zero_le _, Nat.zero_le _⟩) hw (fun H locs hw => ?_)
    obtain ⟨hok26, hg⟩ := gd_some hg
    obtain ⟨⟨⟩, S27, hc27, hg⟩ := cl_some hg
    refine wr_cv (va_runV (As := [.int r17, .int r25]) (rest := []) ⟨hx, hb, hml, hown, hts⟩ (c_X4_occupy l D C N S25 z a1 r17 r25 () S27 hc27) (cwV 2 hts gX6_goOn_X4_occupy rfl rfl rfl (by decide +kernel) ⟨Nat.le_of_ble_eq_true rfl, Nat.le_of_ble_eq_true rfl⟩) (wd_preV hw hok26 (wF_4 (S := S25) hok26.2) rfl) rfl rfl hl.1 rfl (lv_room (Nat.le_of_ble_eq_true rfl)) dX6_goOn_56 ⟨Nat.zero_le _, Nat.zero_le _⟩) hw (fun H locs hw => ?_)
    refine lv_iinc (v := (v5 + (1 : Int32))) (lv' := [(5, .int (v5 + (1 : Int32))), (6, .int r17), (0, .ref a0), (1, .ref a1), (2, .int x2), (3, .int x3), (4, .int x4)]) hx hb dX6_goOn_59 hl (k := 6) rfl rfl (by decide) rfl (fun ls hl => ?_)
    refine lv_goto (tgt := 3) hx hb dX6_goOn_62 (by decide) ?_
    exact hK3 _ _ _ _ _ hg hw (lv_sub hl [2, 3, 4, 5, 6, 0] rfl)
  have B3 : ∀ (K3 : Hp → Int32 → Option (Int32 × Hp)) (hK3 : ∀ (S : Hp) (v5 : Int32) (H : Heap) (locs : List Loc) (ls : Array Slot), K3 S v5 = some (r, S9) → Wd D C (va_A (wP C S0) z) s.heap S z H locs s → lv_has ls 7 [(0, .ref a0), (1, .ref a1), (2, .int x2), (3, .int x3), (4, .int x4), (5, .int v5)] → W p l e rm_X6_goOn s m ([.ref a0, .ref a1, .int x2, .int x3, .int x4] : List Value).toArray below meth c H locs 0 0 (MQ below (QiW D C S0 z r S9 z) ([.ref a0, .ref a1, .int x2, .int x3, .int x4] : List Value).toArray s 0 0 (va_A (wP C S0) z)) (F0 m 3 ls [])) (S : Hp) (v5 : Int32) (H : Heap) (locs : List Loc) (ls : Array Slot), f_X6_goOn_b3 N a0 a1 x2 x3 x4 K3 S v5 = some (r, S9) → Wd D C (va_A (wP C S0) z) s.heap S z H locs s → lv_has ls 7 [(0, .ref a0), (1, .ref a1), (2, .int x2), (3, .int x3), (4, .int x4), (5, .int v5)] → W p l e rm_X6_goOn s m ([.ref a0, .ref a1, .int x2, .int x3, .int x4] : List Value).toArray below meth c H locs 0 0 (MQ below (QiW D C S0 z r S9 z) ([.ref a0, .ref a1, .int x2, .int x3, .int x4] : List Value).toArray s 0 0 (va_A (wP C S0) z)) (F0 m 3 ls []) := by
    intro K3 hK3 S v5 H locs ls hg hw hl
    unfold f_X6_goOn_b3 at hg
    refine lv_iload hx hb dX6_goOn_3 (lv_at hl 5 rfl) ?_
    refine lv_iload hx hb dX6_goOn_5 (lv_at hl 4 rfl) ?_
    refine lv_icmp_ge (tgt := 65) hx hb dX6_goOn_7 (by decide) (fun c10 => ?_) (fun c10 => ?_)
    · have hg := it_pos hg c10
      refine lv_iload hx hb dX6_goOn_65 (lv_at hl 5 rfl) ?_
      cases hg
      exact wr_iret hx hb hr hw dX6_goOn_67 hlk
    · have hg := it_neg hg c10
      refine lv_aload_n hx hb dX6_goOn_10 rfl (lv_at hl 1 rfl) ?_
      obtain ⟨hok11, hg⟩ := gd_some hg
      obtain ⟨r12, S12, hc12, hg⟩ := cl_some hg
      refine wr_ci (va_runV (As := []) (rest := []) ⟨hx, hb, hml, hown, hts⟩ (c_X4_winner l D C N S z a1 r12 S12 hc12) (cwV 0 hts gX6_goOn_X4_winner rfl rfl rfl (by decide +kernel) ⟨Nat.le_of_ble_eq_true rfl, Nat.le_of_ble_eq_true rfl⟩) (wd_preV hw hok11 (wF_4 (S := S) hok11.2) rfl) rfl rfl hl.1 rfl (lv_room (Nat.le_of_ble_eq_true rfl)) dX6_goOn_11 ⟨Nat.zero_le _, Nat.zero_le _⟩) hw (fun H locs hw => ?_)
      refine lv_if_ne (tgt := 65) hx hb dX6_goOn_14 (by decide) (fun c13 => ?_) (fun c13 => ?_)
      · have hg := it_neg hg c13
        refine lv_iload hx hb dX6_goOn_65 (lv_at hl 5 rfl) ?_
        cases hg
        exact wr_iret hx hb hr hw dX6_goOn_67 hlk
      · have hg := it_pos hg c13
        refine lv_aload_n hx hb dX6_goOn_17 rfl (lv_at hl 0 rfl) ?_
        refine lv_aload_n hx hb dX6_goOn_18 rfl (lv_at hl 1 rfl) ?_
        obtain ⟨hok14, hg⟩ := gd_some hg
        refine wr_get (K := RX4) (T := TX4) (N := 10) (index := 143) (ref := "MakerLines$State") (v := .int (hI S12 a1 4)) hx hb hts hi_X6_goOn_X4 hown hw hok14 (wF_4 (S := S12) hok14.2) rfl 4 (by decide) (hts _ (List.mem_of_getElem? (i := 1) rfl)) (fun _ h9 => h9) rfl dX6_goOn_19 ?_
        refine lv_if_eq (tgt := 29) hx hb dX6_goOn_22 (by decide) (fun c15 => ?_) (fun c15 => ?_)
        · have hg := it_pos hg c15
          refine lv_iload_n hx hb dX6_goOn_29 rfl (lv_at hl 3 rfl) ?_
          exact B30 K3 hK3 _ _ _ _ _ _ _ hg hw (lv_sub hl [0, 1, 2, 3, 4, 5] rfl)
        · have hg := it_neg hg c15
          refine lv_iload_n hx hb dX6_goOn_25 rfl (lv_at hl 2 rfl) ?_
          refine lv_goto (tgt := 30) hx hb dX6_goOn_26 (by decide) ?_
          exact B30 K3 hK3 _ _ _ _ _ _ _ hg hw (lv_sub hl [0, 1, 2, 3, 4, 5] rfl)
  have L3 : ∀ (k : Nat) (S : Hp) (v5 : Int32) (H : Heap) (locs : List Loc) (ls : Array Slot), f_X6_goOn_l3 N a0 a1 x2 x3 x4 k S v5 = some (r, S9) → Wd D C (va_A (wP C S0) z) s.heap S z H locs s → lv_has ls 7 [(0, .ref a0), (1, .ref a1), (2, .int x2), (3, .int x3), (4, .int x4), (5, .int v5)] → W p l e rm_X6_goOn s m ([.ref a0, .ref a1, .int x2, .int x3, .int x4] : List Value).toArray below meth c H locs 0 0 (MQ below (QiW D C S0 z r S9 z) ([.ref a0, .ref a1, .int x2, .int x3, .int x4] : List Value).toArray s 0 0 (va_A (wP C S0) z)) (F0 m 3 ls []) := by
    intro k
    induction k with
    | zero => intro S v5 H locs ls hg hw hl; exact absurd (show (none : Option (Int32 × Hp)) = some (r, S9) from hg) (by simp)
    | succ k ih => intro S v5 H locs ls hg hw hl; exact B3 (f_X6_goOn_l3 N a0 a1 x2 x3 x4 k) ih S v5 H locs ls hg hw hl
  have B0 : ∀ (S : Hp) (H : Heap) (locs : List Loc) (ls : Array Slot), f_X6_goOn N S a0 a1 x2 x3 x4 = some (r, S9) → Wd D C (va_A (wP C S0) z) s.heap S z H locs s → lv_has ls 7 [(0, .ref a0), (1, .ref a1), (2, .int x2), (3, .int x3), (4, .int x4)] → W p l e rm_X6_goOn s m ([.ref a0, .ref a1, .int x2, .int x3, .int x4] : List Value).toArray below meth c H locs 0 0 (MQ below (QiW D C S0 z r S9 z) ([.ref a0, .ref a1, .int x2, .int x3, .int x4] : List Value).toArray s 0 0 (va_A (wP C S0) z)) (F0 m 0 ls []) := by
    intro S H locs ls hg hw hl
    unfold f_X6_goOn at hg
    refine lv_iconst (v := (0 : Int32)) hx hb dX6_goOn_0 (by decide) ?_
    refine lv_istore (lv' := [(5, .int (0 : Int32)), (0, .ref a0), (1, .ref a1), (2, .int x2), (3, .int x3), (4, .int x4)]) hx hb dX6_goOn_1 hl (by decide) rfl (fun ls hl => ?_)
    exact L3 N _ _ _ _ _ hg hw (lv_sub hl [1, 2, 3, 4, 5, 0] rfl)
  exact B0 S0 _ _ _ hg hw hl
theorem hi_X6_play_X6 : ∀ w ∈ wsX60, w ∈ wsX6_play := fun _ h => List.mem_cons_of_mem _ (List.mem_append_left _ (List.mem_append_left _ (List.mem_append_left _ (List.mem_append_left _ (List.mem_append_left _ (List.mem_append_left _ (List.mem_append_left _ (List.mem_append_right _ (h)))))))))
abbrev rm_X6_play : Room := { frames := 33, cells := 3, slots := 28, locals := 1570 }
set_option maxHeartbeats 4000000 in
set_option maxRecDepth 100000 in
theorem c_X6_play (l : Launch) (D : va_G) (C : C3) (N : Nat) (S0 : Hp) (z0 : Nat) (a0 : Nat) (x1 : Int32) (x2 : Int32) (x3 : Int32) (r : Int32) (S9 : Hp) (z9 : Nat) (hg : f_X6_play N S0 z0 a0 x1 x2 x3 = some (r, S9, z9)) : MetI l yX6_play wsX6_play rm_X6_play D C S0 z0 [.ref a0, .int x1, .int x2, .int x3] r S9 z9 3 28 := by
  refine mw_ofW (cc := cX6_play) (maxL := 4) (ret := (some .int)) (lv := [(0, .ref a0), (1, .int x1), (2, .int x2), (3, .int x3)]) (by decide) rfl (Nat.le_of_ble_eq_true rfl) rfl ?_
  intro p e s m below meth c ls hx hb hr hts hown hlk hml hnm hl hw
  have hown : s.vm.findClass RX6 = some m.cls := hown
  have B25 : ∀ (S : Hp) (z : Nat) (H : Heap) (locs : List Loc) (ls : Array Slot), f_X6_play_b25 N a0 x1 x2 x3 S z = some (r, S9, z9) → Wd D C (va_A (wP C S0) z0) s.heap S z H locs s → lv_has ls 4 [] → W p l e rm_X6_play s m ([.ref a0, .int x1, .int x2, .int x3] : List Value).toArray below meth c H locs 0 0 (MQ below (QiW D C S0 z0 r S9 z9) ([.ref a0, .int x1, .int x2, .int x3] : List Value).toArray s 3 28 (va_A (wP C S0) z0)) (F0 m 25 ls []) := by
    intro S z H locs ls hg hw hl
    unfold f_X6_play_b25 at hg
    exact absurd hg (by simp)
  have B0 : ∀ (S : Hp) (z : Nat) (H : Heap) (locs : List Loc) (ls : Array Slot), f_X6_play N S z a0 x1 x2 x3 = some (r, S9, z9) → Wd D C (va_A (wP C S0) z0) s.heap S z H locs s → lv_has ls 4 [(0, .ref a0), (1, .int x1), (2, .int x2), (3, .int x3)] → W p l e rm_X6_play s m ([.ref a0, .int x1, .int x2, .int x3] : List Value).toArray below meth c H locs 0 0 (MQ below (QiW D C S0 z0 r S9 z9) ([.ref a0, .int x1, .int x2, .int x3] : List Value).toArray s 3 28 (va_A (wP C S0) z0)) (F0 m 0 ls []) := by
    intro S z H locs ls hg hw hl
    unfold f_X6_play at hg
    refine lv_iload_n hx hb dX6_play_0 rfl (lv_at hl 1 rfl) ?_
    obtain ⟨r10, S10, hc10, hg⟩ := cl_some hg
    refine wr_ci (va_runS (As := [.int x1]) (rest := []) ⟨hx, hb, hml, hown, hts⟩ (c_X6_isRule l D C N S z x1 r10 S10 hc10) (va_cwS 1 hts gX6_play_X6_isRule rfl rfl rfl (by decide +kernel) ⟨Nat.le_of_ble_eq_true rfl, Nat.le_of_ble_eq_true rfl⟩) (wd_preS hw) rfl rfl hl.1 rfl (lv_room (Nat.le_of_ble_eq_true rfl)) dX6_play_1 ⟨Nat.le_of_ble_eq_true rfl, Nat.le_of_ble_eq_true rfl⟩) hw (fun H locs hw => ?_)
    refine lv_if_eq (tgt := 25) hx hb dX6_play_4 (by decide) (fun c11 => ?_) (fun c11 => ?_)
    · have hg := it_pos hg c11
      exact B25 _ _ _ _ _ hg hw (lv_sub hl [] rfl)
    · have hg := it_neg hg c11
      refine lv_iload_n hx hb dX6_play_7 rfl (lv_at hl 2 rfl) ?_
      obtain ⟨r12, S12, hc12, hg⟩ := cl_some hg
      refine wr_ci (va_runS (As := [.int x2]) (rest := []) ⟨hx, hb, hml, hown, hts⟩ (c_X6_isRule l D C N S10 z x2 r12 S12 hc12) (va_cwS 1 hts gX6_play_X6_isRule rfl rfl rfl (by decide +kernel) ⟨Nat.le_of_ble_eq_true rfl, Nat.le_of_ble_eq_true rfl⟩) (wd_preS hw) rfl rfl hl.1 rfl (lv_room (Nat.le_of_ble_eq_true rfl)) dX6_play_8 ⟨Nat.le_of_ble_eq_true rfl, Nat.le_of_ble_eq_true rfl⟩) hw (fun H locs hw => ?_)
      refine lv_if_eq (tgt := 25) hx hb dX6_play_11 (by decide) (fun c13 => ?_) (fun c13 => ?_)
      · have hg := it_pos hg c13
        exact B25 _ _ _ _ _ hg hw (lv_sub hl [] rfl)
      · have hg := it_neg hg c13
        refine lv_iload_n hx hb dX6_play_14 rfl (lv_at hl 3 rfl) ?_
        refine lv_iconst (v := (1 : Int32)) hx hb dX6_play_15 (by decide) ?_
        refine lv_icmp_lt (tgt := 25) hx hb dX6_play_16 (by decide) (fun c14 => ?_) (fun c14 => ?_)
        · have hg := it_pos hg c14
          exact B25 _ _ _ _ _ hg hw (lv_sub hl [] rfl)
        · have hg := it_neg hg c14
          refine lv_iload_n hx hb dX6_play_19 rfl (lv_at hl 3 rfl) ?_
          refine lv_bipush (v := (10 : Int32)) hx hb dX6_play_20 (by decide) ?_
          refine lv_icmp_le (tgt := 35) hx hb dX6_play_22 (by decide) (fun c15 => ?_) (fun c15 => ?_)
          · have hg := it_pos hg c15
            refine lv_aload_n hx hb dX6_play_35 rfl (lv_at hl 0 rfl) ?_
            obtain ⟨hok16, hg⟩ := gd_some hg
            obtain ⟨r17, hr17, hg⟩ := nn_some hg
            refine wr_get (K := RX6) (T := TX6) (N := 7) (index := 12) (ref := "MakerLines") (v := .ref r17) hx hb hts hi_X6_play_X6 hown hw hok16 (wF_6 (S := S12) hok16.2) rfl 0 (by decide) (hts _ (List.mem_of_getElem? (i := 5) rfl)) (fun _ h9 => h9) (congrArg (fun o => some (va_rf o)) hr17) dX6_play_36 ?_
            obtain ⟨hok18, hg⟩ := gd_some hg
            obtain ⟨r19, S19, hc19, hg⟩ := cl_some hg
            refine wr_ci (va_runV (As := []) (rest := []) ⟨hx, hb, hml, hown, hts⟩ (c_X4_winner l D C N S12 z r17 r19 S19 hc19) (cwV 0 hts gX6_play_X4_winner rfl rfl rfl (by decide +kernel) ⟨Nat.le_of_ble_eq_true rfl, Nat.le_of_ble_eq_true rfl⟩) (wd_preV hw hok18 (wF_4 (S := S12) hok18.2) rfl) rfl rfl hl.1 rfl (lv_room (Nat.le_of_ble_eq_true rfl)) dX6_play_39 ⟨Nat.le_of_ble_eq_true rfl, Nat.le_of_ble_eq_true rfl⟩) hw (fun H locs hw => ?_)
            refine lv_if_eq (tgt := 55) hx hb dX6_play_42 (by decide) (fun c20 => ?_) (fun c20 => ?_)
            · have hg := it_pos hg c20
              refine lv_aload_n hx hb dX6_play_55 rfl (lv_at hl 0 rfl) ?_
              obtain ⟨hok21, hg⟩ := gd_some hg
              obtain ⟨r22, hr22, hg⟩ := nn_some hg
              refine wr_get (K := RX6) (T := TX6) (N := 7) (index := 22) (ref := "MakerLines") (v := .ref r22) hx hb hts hi_X6_play_X6 hown hw hok21 (wF_6 (S := S19) hok21.2) rfl 2 (by decide) (hts _ (List.mem_of_getElem? (i := 6) rfl)) (fun _ h9 => h9) (congrArg (fun o => some (va_rf o)) hr22) dX6_play_56 ?_
              refine lv_aload_n hx hb dX6_play_59 rfl (lv_at hl 0 rfl) ?_
              obtain ⟨r23, hr23, hg⟩ := nn_some hg
              refine wr_get (K := RX6) (T := TX6) (N := 7) (index := 12) (ref := "MakerLines") (v := .ref r23) hx hb hts hi_X6_play_X6 hown hw hok21 (wF_6 (S := S19) hok21.2) rfl 0 (by decide) (hts _ (List.mem_of_getElem? (i := 5) rfl)) (fun _ h9 => h9) (congrArg (fun o => some (va_rf o)) hr23) dX6_play_60 ?_
              obtain ⟨hok24, hg⟩ := gd_some hg
              obtain ⟨⟨⟩, S25, z25, hc25, hg⟩ := cz_some hg
              refine wr_cv (va_runV (As := [.ref r23]) (rest := []) ⟨hx, hb, hml, hown, hts⟩ (c_X0_save l D C N S19 z r22 r23 () S25 z25 hc25) (cwV 1 hts gX6_play_X0_save rfl rfl rfl (by decide +kernel) ⟨Nat.le_of_ble_eq_true rfl, Nat.le_of_ble_eq_true rfl⟩) (wd_preV hw hok24 (wF_0 (S := S19) hok24.2) rfl) rfl rfl hl.1 rfl (lv_room (Nat.le_of_ble_eq_true rfl)) dX6_play_63 ⟨Nat.le_of_ble_eq_true rfl, Nat.le_of_ble_eq_true rfl⟩) hw (fun H locs hw => ?_)
              refine lv_aload_n hx hb dX6_play_66 rfl (lv_at hl 0 rfl) ?_
              refine lv_aload_n hx hb dX6_play_67 rfl (lv_at hl 0 rfl) ?_
              obtain ⟨hok26, hg⟩ := gd_some hg
              obtain ⟨r27, hr27, hg⟩ := nn_some hg
              refine wr_get (K := RX6) (T := TX6) (N := 7) (index := 12) (ref := "MakerLines") (v := .ref r27) hx hb hts hi_X6_play_X6 hown hw hok26 (wF_6 (S := S25) hok26.2) rfl 0 (by decide) (hts _ (List.mem_of_getElem? (i := 5) rfl)) (fun _ h9 => h9) (congrArg (fun o => some (va_rf o)) hr27) dX6_play_68 ?_
              refine lv_iload_n hx hb dX6_play_71 rfl (lv_at hl 1 rfl) ?_
              refine lv_iload_n hx hb dX6_play_72 rfl (lv_at hl 2 rfl) ?_
              refine lv_iload_n hx hb dX6_play_73 rfl (lv_at hl 3 rfl) ?_
              obtain ⟨r28, S28, hc28, hg⟩ := cl_some hg
              refine wr_ci (va_runV (As := [.ref r27, .int x1, .int x2, .int x3]) (rest := []) ⟨hx, hb, hml, hown, hts⟩ (c_X6_goOn l D C N S25 z25 a0 r27 x1 x2 x3 r28 S28 hc28) (cwV 4 hts gX6_play_X6_goOn rfl rfl rfl (by decide +kernel) ⟨Nat.le_of_ble_eq_true rfl, Nat.le_of_ble_eq_true rfl⟩) (wd_preV hw hok26 (wF_6 (S := S25) hok26.2) rfl) rfl rfl hl.1 rfl (lv_room (Nat.le_of_ble_eq_true rfl)) dX6_play_74 ⟨Nat.le_of_ble_eq_true rfl, Nat.le_of_ble_eq_true rfl⟩) hw (fun H locs hw => ?_)
              cases hg
              refine W.widen (k := 3) (n := 28) (Nat.le_of_ble_eq_true rfl) (Nat.le_of_ble_eq_true rfl) ?_
              exact wr_iret hx hb hr hw dX6_play_77 hlk
            · have hg := it_neg hg c20
              exact absurd hg (by simp)
          · have hg := it_neg hg c15
            exact B25 _ _ _ _ _ hg hw (lv_sub hl [] rfl)
  exact B0 S0 z0 _ _ _ hg hw hl
theorem hi_X6_line_X4 : ∀ w ∈ wsX40, w ∈ wsX6_line := fun _ h => List.mem_cons_of_mem _ (List.mem_append_left _ (List.mem_append_left _ (List.mem_append_left _ (List.mem_append_right _ (h)))))
theorem hi_X6_line_X6 : ∀ w ∈ wsX60, w ∈ wsX6_line := fun _ h => List.mem_cons_of_mem _ (List.mem_append_left _ (List.mem_append_left _ (List.mem_append_left _ (List.mem_append_left _ (List.mem_append_right _ (h))))))
abbrev rm_X6_line : Room := { frames := 2, cells := 0, slots := 0, locals := 40 }
set_option maxHeartbeats 4000000 in
set_option maxRecDepth 100000 in
theorem c_X6_line (l : Launch) (D : va_G) (C : C3) (N : Nat) (S0 : Hp) (z : Nat) (a0 : Nat) (x1 : Int32) (x2 : Int32) (r : Int32) (S9 : Hp) (hg : f_X6_line N S0 a0 x1 x2 = some (r, S9)) : MetI l yX6_line wsX6_line rm_X6_line D C S0 z [.ref a0, .int x1, .int x2] r S9 z 0 0 := by
  refine mw_ofW (cc := cX6_line) (maxL := 6) (ret := (some .int)) (lv := [(0, .ref a0), (1, .int x1), (2, .int x2)]) (by decide) rfl (Nat.le_of_ble_eq_true rfl) rfl ?_
  intro p e s m below meth c ls hx hb hr hts hown hlk hml hnm hl hw
  have hown : s.vm.findClass RX6 = some m.cls := hown
  have B33 : ∀ (S : Hp) (H : Heap) (locs : List Loc) (ls : Array Slot), f_X6_line_b33 N a0 x1 x2 S = some (r, S9) → Wd D C (va_A (wP C S0) z) s.heap S z H locs s → lv_has ls 6 [] → W p l e rm_X6_line s m ([.ref a0, .int x1, .int x2] : List Value).toArray below meth c H locs 0 0 (MQ below (QiW D C S0 z r S9 z) ([.ref a0, .int x1, .int x2] : List Value).toArray s 0 0 (va_A (wP C S0) z)) (F0 m 33 ls []) := by
    intro S H locs ls hg hw hl
    unfold f_X6_line_b33 at hg
    exact absurd hg (by simp)
  have B72 : ∀ (S : Hp) (v3 : Int32) (s0 : Int32) (H : Heap) (locs : List Loc) (ls : Array Slot), f_X6_line_b72 N a0 x1 x2 S v3 s0 = some (r, S9) → Wd D C (va_A (wP C S0) z) s.heap S z H locs s → lv_has ls 6 [(0, .ref a0), (2, .int x2), (3, .int v3)] → W p l e rm_X6_line s m ([.ref a0, .int x1, .int x2] : List Value).toArray below meth c H locs 0 0 (MQ below (QiW D C S0 z r S9 z) ([.ref a0, .int x1, .int x2] : List Value).toArray s 0 0 (va_A (wP C S0) z)) (F0 m 72 ls [.int s0]) := by
    intro S v3 s0 H locs ls hg hw hl
    unfold f_X6_line_b72 at hg
    refine lv_istore (lv' := [(4, .int s0), (0, .ref a0), (2, .int x2), (3, .int v3)]) hx hb dX6_line_72 hl (by decide) rfl (fun ls hl => ?_)
    refine lv_iload_n hx hb dX6_line_74 rfl (lv_at hl 3 rfl) ?_
    refine lv_aload_n hx hb dX6_line_75 rfl (lv_at hl 1 rfl) ?_
    obtain ⟨hok29, hg⟩ := gd_some hg
    obtain ⟨r30, hr30, hg⟩ := nn_some hg
    refine wr_get (K := RX6) (T := TX6) (N := 7) (index := 12) (ref := "MakerLines") (v := .ref r30) hx hb hts hi_X6_line_X6 hown hw hok29 (wF_6 (S := S) hok29.2) rfl 0 (by decide) (hts _ (List.mem_of_getElem? (i := 5) rfl)) (fun _ h9 => h9) (congrArg (fun o => some (va_rf o)) hr30) dX6_line_76 ?_
    obtain ⟨hok31, hg⟩ := gd_some hg
    obtain ⟨r32, S32, hc32, hg⟩ := cl_some hg
    refine wr_ci (va_runV (As := []) (rest := [.int v3]) ⟨hx, hb, hml, hown, hts⟩ (c_X4_freeCells l D C N S z r30 r32 S32 hc32) (cwV 0 hts gX6_line_X4_freeCells rfl rfl rfl (by decide +kernel) ⟨Nat.le_of_ble_eq_true rfl, Nat.le_of_ble_eq_true rfl⟩) (wd_preV hw hok31 (wF_4 (S := S) hok31.2) rfl) rfl rfl hl.1 rfl (lv_room (Nat.le_of_ble_eq_true rfl)) dX6_line_79 ⟨Nat.zero_le _, Nat.zero_le _⟩) hw (fun H locs hw => ?_)
    refine lv_iand hx hb dX6_line_82 ?_
    refine wr_ci (va_runS (As := [.int (v3 &&& r32)]) (rest := []) ⟨hx, hb, hml, hown, hts⟩ (c_bitc l D C S32 z ((v3 &&& r32))) (va_cwS 1 hts gX6_line_J6_bitCount_0f7a4 rfl rfl rfl (by decide +kernel) ⟨Nat.le_of_ble_eq_true rfl, Nat.le_of_ble_eq_true rfl⟩) (wd_preS hw) rfl rfl hl.1 rfl (lv_room (Nat.le_of_ble_eq_true rfl)) dX6_line_83 ⟨Nat.zero_le _, Nat.zero_le _⟩) hw (fun H locs hw => ?_)
    refine lv_istore (lv' := [(5, .int (bitc ((v3 &&& r32)))), (4, .int s0), (0, .ref a0), (2, .int x2), (3, .int v3)]) hx hb dX6_line_86 hl (by decide) rfl (fun ls hl => ?_)
    refine lv_iload_n hx hb dX6_line_88 rfl (lv_at hl 3 rfl) ?_
    by_cases c33 : x2 = 0
    · have hg := it_pos hg c33
      refine lv_tableIn (tgt := 120) hx hb dX6_line_89 (by rw [c33]; decide) (by rw [c33]; decide) (off := 31) (by rw [c33]; rfl) (by decide) ?_
      refine lv_iload_n hx hb dX6_line_120 rfl (lv_at hl 4 rfl) ?_
      cases hg
      exact wr_iret hx hb hr hw dX6_line_121 hlk
    · have hg := it_neg hg c33
      by_cases c35 : x2 = 1
      · have hg := it_pos hg c35
        refine lv_tableIn (tgt := 122) hx hb dX6_line_89 (by rw [c35]; decide) (by rw [c35]; decide) (off := 33) (by rw [c35]; rfl) (by decide) ?_
        refine lv_iload hx hb dX6_line_122 (lv_at hl 1 rfl) ?_
        refine lv_if_eq (tgt := 131) hx hb dX6_line_124 (by decide) (fun c34 => ?_) (fun c34 => ?_)
        · have hg := it_pos hg c34
          refine lv_iconst (v := (0 : Int32)) hx hb dX6_line_131 (by decide) ?_
          cases hg
          exact wr_iret hx hb hr hw dX6_line_132 hlk
        · have hg := it_neg hg c34
          refine lv_iconst (v := (1 : Int32)) hx hb dX6_line_127 (by decide) ?_
          refine lv_goto (tgt := 132) hx hb dX6_line_128 (by decide) ?_
          cases hg
          exact wr_iret hx hb hr hw dX6_line_132 hlk
      · have hg := it_neg hg c35
        by_cases c36 : x2 = 2
        · have hg := it_pos hg c36
          refine lv_tableIn (tgt := 133) hx hb dX6_line_89 (by rw [c36]; decide) (by rw [c36]; decide) (off := 44) (by rw [c36]; rfl) (by decide) ?_
          refine lv_iload hx hb dX6_line_133 (lv_at hl 0 rfl) ?_
          cases hg
          exact wr_iret hx hb hr hw dX6_line_135 hlk
        · have hg := it_neg hg c36
          by_cases c38 : x2 = 3
          · have hg := it_pos hg c38
            refine lv_tableIn (tgt := 136) hx hb dX6_line_89 (by rw [c38]; decide) (by rw [c38]; decide) (off := 47) (by rw [c38]; rfl) (by decide) ?_
            refine lv_iload hx hb dX6_line_136 (lv_at hl 1 rfl) ?_
            refine lv_if_eq (tgt := 145) hx hb dX6_line_138 (by decide) (fun c37 => ?_) (fun c37 => ?_)
            · have hg := it_pos hg c37
              refine lv_sipush (v := (1024 : Int32)) hx hb dX6_line_145 (by decide) ?_
              refine lv_iload hx hb dX6_line_148 (lv_at hl 0 rfl) ?_
              refine lv_ishr hx hb dX6_line_150 ?_
              cases hg
              exact wr_iret hx hb hr hw dX6_line_151 hlk
            · have hg := it_neg hg c37
              refine lv_iconst (v := (0 : Int32)) hx hb dX6_line_141 (by decide) ?_
              refine lv_goto (tgt := 151) hx hb dX6_line_142 (by decide) ?_
              cases hg
              exact wr_iret hx hb hr hw dX6_line_151 hlk
          · have hg := it_neg hg c38
            refine lv_tableOut (tgt := 152) hx hb dX6_line_89 (sw_out 3 (by decide) (fun j hj => ?_)) (by decide) ?_
            · rcases (show j = 0 ∨ j = 1 ∨ j = 2 ∨ j = 3 by omega) with rfl | rfl | rfl | rfl
              · exact c33
              · exact c35
              · exact c36
              · exact c38
            refine lv_iload_n hx hb dX6_line_152 rfl (lv_at hl 4 rfl) ?_
            refine lv_aload_n hx hb dX6_line_153 rfl (lv_at hl 2 rfl) ?_
            obtain ⟨hok39, hg⟩ := gd_some hg
            obtain ⟨r40, hr40, hg⟩ := nn_some hg
            refine wr_get (K := RX6) (T := TX6) (N := 7) (index := 12) (ref := "MakerLines") (v := .ref r40) hx hb hts hi_X6_line_X6 hown hw hok39 (wF_6 (S := S32) hok39.2) rfl 0 (by decide) (hts _ (List.mem_of_getElem? (i := 5) rfl)) (fun _ h9 => h9) (congrArg (fun o => some (va_rf o)) hr40) dX6_line_154 ?_
            obtain ⟨hok41, hg⟩ := gd_some hg
            refine wr_get (K := RX4) (T := TX4) (N := 10) (index := 110) (ref := "MakerLines$State") (v := .int (hI S32 r40 2)) hx hb hts hi_X6_line_X4 hown hw hok41 (wF_4 (S := S32) hok41.2) rfl 2 (by decide) (hts _ (List.mem_of_getElem? (i := 8) rfl)) (fun _ h9 => h9) rfl dX6_line_157 ?_
            refine lv_iand hx hb dX6_line_160 ?_
            refine wr_ci (va_runS (As := [.int (v3 &&& (hI S32 r40 2))]) (rest := []) ⟨hx, hb, hml, hown, hts⟩ (c_bitc l D C S32 z ((v3 &&& (hI S32 r40 2)))) (va_cwS 1 hts gX6_line_J6_bitCount_0f7a4 rfl rfl rfl (by decide +kernel) ⟨Nat.le_of_ble_eq_true rfl, Nat.le_of_ble_eq_true rfl⟩) (wd_preS hw) rfl rfl hl.1 rfl (lv_room (Nat.le_of_ble_eq_true rfl)) dX6_line_161 ⟨Nat.zero_le _, Nat.zero_le _⟩) hw (fun H locs hw => ?_)
            cases hg
            exact wr_iret hx hb hr hw dX6_line_164 hlk
  have B0 : ∀ (S : Hp) (H : Heap) (locs : List Loc) (ls : Array Slot), f_X6_line N S a0 x1 x2 = some (r, S9) → Wd D C (va_A (wP C S0) z) s.heap S z H locs s → lv_has ls 6 [(0, .ref a0), (1, .int x1), (2, .int x2)] → W p l e rm_X6_line s m ([.ref a0, .int x1, .int x2] : List Value).toArray below meth c H locs 0 0 (MQ below (QiW D C S0 z r S9 z) ([.ref a0, .int x1, .int x2] : List Value).toArray s 0 0 (va_A (wP C S0) z)) (F0 m 0 ls []) := by
    intro S H locs ls hg hw hl
    unfold f_X6_line at hg
    refine lv_aload_n hx hb dX6_line_0 rfl (lv_at hl 0 rfl) ?_
    obtain ⟨hok10, hg⟩ := gd_some hg
    obtain ⟨r11, hr11, hg⟩ := nn_some hg
    refine wr_get (K := RX6) (T := TX6) (N := 7) (index := 12) (ref := "MakerLines") (v := .ref r11) hx hb hts hi_X6_line_X6 hown hw hok10 (wF_6 (S := S) hok10.2) rfl 0 (by decide) (hts _ (List.mem_of_getElem? (i := 5) rfl)) (fun _ h9 => h9) (congrArg (fun o => some (va_rf o)) hr11) dX6_line_1 ?_
    obtain ⟨hok12, hg⟩ := gd_some hg
    obtain ⟨r13, hr13, hg⟩ := nn_some hg
    refine wr_get (K := RX4) (T := TX4) (N := 10) (index := 66) (ref := "MakerLines$State") (v := .ref r13) hx hb hts hi_X6_line_X4 hown hw hok12 (wF_4 (S := S) hok12.2) rfl 0 (by decide) (hts _ (List.mem_of_getElem? (i := 6) rfl)) (fun _ h9 => h9) (congrArg (fun o => some (va_rf o)) hr13) dX6_line_4 ?_
    refine lv_iload_n hx hb dX6_line_7 rfl (lv_at hl 1 rfl) ?_
    obtain ⟨hok14, hg⟩ := gd_some hg
    obtain ⟨r15, S15, hc15, hg⟩ := cl_some hg
    refine wr_ci (va_runV (As := [.int x1]) (rest := []) ⟨hx, hb, hml, hown, hts⟩ (c_X1_has l D C N S z r13 x1 r15 S15 hc15) (cwV 1 hts gX6_line_X1_has rfl rfl rfl (by decide +kernel) ⟨Nat.le_of_ble_eq_true rfl, Nat.le_of_ble_eq_true rfl⟩) (wd_preV hw hok14 (wF_1 (S := S) hok14.2) rfl) rfl rfl hl.1 rfl (lv_room (Nat.le_of_ble_eq_true rfl)) dX6_line_8 ⟨Nat.zero_le _, Nat.zero_le _⟩) hw (fun H locs hw => ?_)
    refine lv_if_ne (tgt := 24) hx hb dX6_line_11 (by decide) (fun c16 => ?_) (fun c16 => ?_)
    · have hg := it_neg hg c16
      refine lv_iload_n hx hb dX6_line_24 rfl (lv_at hl 2 rfl) ?_
      refine lv_if_lt (tgt := 33) hx hb dX6_line_25 (by decide) (fun c17 => ?_) (fun c17 => ?_)
      · have hg := it_pos hg c17
        exact B33 _ _ _ _ hg hw (lv_sub hl [] rfl)
      · have hg := it_neg hg c17
        refine lv_iload_n hx hb dX6_line_28 rfl (lv_at hl 2 rfl) ?_
        refine lv_iconst (v := (5 : Int32)) hx hb dX6_line_29 (by decide) ?_
        refine lv_icmp_lt (tgt := 43) hx hb dX6_line_30 (by decide) (fun c18 => ?_) (fun c18 => ?_)
        · have hg := it_pos hg c18
          refine lv_aload_n hx hb dX6_line_43 rfl (lv_at hl 0 rfl) ?_
          obtain ⟨hok19, hg⟩ := gd_some hg
          obtain ⟨r20, hr20, hg⟩ := nn_some hg
          refine wr_get (K := RX6) (T := TX6) (N := 7) (index := 12) (ref := "MakerLines") (v := .ref r20) hx hb hts hi_X6_line_X6 hown hw hok19 (wF_6 (S := S15) hok19.2) rfl 0 (by decide) (hts _ (List.mem_of_getElem? (i := 5) rfl)) (fun _ h9 => h9) (congrArg (fun o => some (va_rf o)) hr20) dX6_line_44 ?_
          obtain ⟨hok21, hg⟩ := gd_some hg
          obtain ⟨r22, hr22, hg⟩ := nn_some hg
          refine wr_get (K := RX4) (T := TX4) (N := 10) (index := 66) (ref := "MakerLines$State") (v := .ref r22) hx hb hts hi_X6_line_X4 hown hw hok21 (wF_4 (S := S15) hok21.2) rfl 0 (by decide) (hts _ (List.mem_of_getElem? (i := 6) rfl)) (fun _ h9 => h9) (congrArg (fun o => some (va_rf o)) hr22) dX6_line_47 ?_
          refine lv_iload_n hx hb dX6_line_50 rfl (lv_at hl 1 rfl) ?_
          obtain ⟨hok23, hg⟩ := gd_some hg
          obtain ⟨r24, S24, hc24, hg⟩ := cl_some hg
          refine wr_ci (va_runV (As := [.int x1]) (rest := []) ⟨hx, hb, hml, hown, hts⟩ (c_X1_maskOf l D C N S15 z r22 x1 r24 S24 hc24) (cwV 1 hts gX6_line_X1_maskOf rfl rfl rfl (by decide +kernel) ⟨Nat.le_of_ble_eq_true rfl, Nat.le_of_ble_eq_true rfl⟩) (wd_preV hw hok23 (wF_1 (S := S15) hok23.2) rfl) rfl rfl hl.1 rfl (lv_room (Nat.le_of_ble_eq_true rfl)) dX6_line_51 ⟨Nat.zero_le _, Nat.zero_le _⟩) hw (fun H locs hw => ?_)
          refine lv_istore_n (lv' := [(3, .int r24), (0, .ref a0), (1, .int x1), (2, .int x2)]) hx hb dX6_line_54 rfl hl (by decide) rfl (fun ls hl => ?_)
          refine lv_iload_n hx hb dX6_line_55 rfl (lv_at hl 0 rfl) ?_
          refine lv_aload_n hx hb dX6_line_56 rfl (lv_at hl 1 rfl) ?_
          obtain ⟨hok25, hg⟩ := gd_some hg
          obtain ⟨r26, hr26, hg⟩ := nn_some hg
          refine wr_get (K := RX6) (T := TX6) (N := 7) (index := 12) (ref := "MakerLines") (v := .ref r26) hx hb hts hi_X6_line_X6 hown hw hok25 (wF_6 (S := S24) hok25.2) rfl 0 (by decide) (hts _ (List.mem_of_getElem? (i := 5) rfl)) (fun _ h9 => h9) (congrArg (fun o => some (va_rf o)) hr26) dX6_line_57 ?_
          obtain ⟨hok27, hg⟩ := gd_some hg
          refine wr_get (K := RX4) (T := TX4) (N := 10) (index := 113) (ref := "MakerLines$State") (v := .int (hI S24 r26 3)) hx hb hts hi_X6_line_X4 hown hw hok27 (wF_4 (S := S24) hok27.2) rfl 3 (by decide) (hts _ (List.mem_of_getElem? (i := 7) rfl)) (fun _ h9 => h9) rfl dX6_line_60 ?_
          refine lv_iand hx hb dX6_line_63 ?_
          refine lv_if_eq (tgt := 71) hx hb dX6_line_64 (by decide) (fun c28 => ?_) (fun c28 => ?_)
          · have hg := it_pos hg c28
            refine lv_iconst (v := (0 : Int32)) hx hb dX6_line_71 (by decide) ?_
            exact B72 _ _ _ _ _ _ hg hw (lv_sub hl [1, 3, 0] rfl)
          · have hg := it_neg hg c28
            refine lv_iconst (v := (1 : Int32)) hx hb dX6_line_67 (by decide) ?_
            refine lv_goto (tgt := 72) hx hb dX6_line_68 (by decide) ?_
            exact B72 _ _ _ _ _ _ hg hw (lv_sub hl [1, 3, 0] rfl)
        · have hg := it_neg hg c18
          exact B33 _ _ _ _ hg hw (lv_sub hl [] rfl)
    · have hg := it_pos hg c16
      exact absurd hg (by simp)
  exact B0 S0 _ _ _ hg hw hl
theorem hi_X6_cell_X4 : ∀ w ∈ wsX40, w ∈ wsX6_cell := fun _ h => List.mem_cons_of_mem _ (List.mem_append_left _ (List.mem_append_left _ (List.mem_append_left _ (List.mem_append_left _ (List.mem_append_right _ (h))))))
theorem hi_X6_cell_X6 : ∀ w ∈ wsX60, w ∈ wsX6_cell := fun _ h => List.mem_cons_of_mem _ (List.mem_append_left _ (List.mem_append_left _ (List.mem_append_left _ (List.mem_append_left _ (List.mem_append_left _ (List.mem_append_right _ (h)))))))
abbrev rm_X6_cell : Room := { frames := 33, cells := 0, slots := 0, locals := 1565 }
set_option maxHeartbeats 4000000 in
set_option maxRecDepth 100000 in
theorem c_X6_cell (l : Launch) (D : va_G) (C : C3) (N : Nat) (S0 : Hp) (z : Nat) (a0 : Nat) (x1 : Int32) (x2 : Int32) (r : Int32) (S9 : Hp) (hg : f_X6_cell N S0 a0 x1 x2 = some (r, S9)) : MetI l yX6_cell wsX6_cell rm_X6_cell D C S0 z [.ref a0, .int x1, .int x2] r S9 z 0 0 := by
  refine mw_ofW (cc := cX6_cell) (maxL := 3) (ret := (some .int)) (lv := [(0, .ref a0), (1, .int x1), (2, .int x2)]) (by decide) rfl (Nat.le_of_ble_eq_true rfl) rfl ?_
  intro p e s m below meth c ls hx hb hr hts hown hlk hml hnm hl hw
  have hown : s.vm.findClass RX6 = some m.cls := hown
  have B30 : ∀ (S : Hp) (H : Heap) (locs : List Loc) (ls : Array Slot), f_X6_cell_b30 N a0 x1 x2 S = some (r, S9) → Wd D C (va_A (wP C S0) z) s.heap S z H locs s → lv_has ls 3 [] → W p l e rm_X6_cell s m ([.ref a0, .int x1, .int x2] : List Value).toArray below meth c H locs 0 0 (MQ below (QiW D C S0 z r S9 z) ([.ref a0, .int x1, .int x2] : List Value).toArray s 0 0 (va_A (wP C S0) z)) (F0 m 30 ls []) := by
    intro S H locs ls hg hw hl
    unfold f_X6_cell_b30 at hg
    exact absurd hg (by simp)
  have B0 : ∀ (S : Hp) (H : Heap) (locs : List Loc) (ls : Array Slot), f_X6_cell N S a0 x1 x2 = some (r, S9) → Wd D C (va_A (wP C S0) z) s.heap S z H locs s → lv_has ls 3 [(0, .ref a0), (1, .int x1), (2, .int x2)] → W p l e rm_X6_cell s m ([.ref a0, .int x1, .int x2] : List Value).toArray below meth c H locs 0 0 (MQ below (QiW D C S0 z r S9 z) ([.ref a0, .int x1, .int x2] : List Value).toArray s 0 0 (va_A (wP C S0) z)) (F0 m 0 ls []) := by
    intro S H locs ls hg hw hl
    unfold f_X6_cell at hg
    refine lv_aload_n hx hb dX6_cell_0 rfl (lv_at hl 0 rfl) ?_
    obtain ⟨hok10, hg⟩ := gd_some hg
    obtain ⟨r11, hr11, hg⟩ := nn_some hg
    refine wr_get (K := RX6) (T := TX6) (N := 7) (index := 12) (ref := "MakerLines") (v := .ref r11) hx hb hts hi_X6_cell_X6 hown hw hok10 (wF_6 (S := S) hok10.2) rfl 0 (by decide) (hts _ (List.mem_of_getElem? (i := 5) rfl)) (fun _ h9 => h9) (congrArg (fun o => some (va_rf o)) hr11) dX6_cell_1 ?_
    refine lv_iload_n hx hb dX6_cell_4 rfl (lv_at hl 1 rfl) ?_
    obtain ⟨hok12, hg⟩ := gd_some hg
    obtain ⟨r13, S13, hc13, hg⟩ := cl_some hg
    refine wr_ci (va_runV (As := [.int x1]) (rest := []) ⟨hx, hb, hml, hown, hts⟩ (c_X4_hasCell l D C N S z r11 x1 r13 S13 hc13) (cwV 1 hts gX6_cell_X4_hasCell rfl rfl rfl (by decide +kernel) ⟨Nat.le_of_ble_eq_true rfl, Nat.le_of_ble_eq_true rfl⟩) (wd_preV hw hok12 (wF_4 (S := S) hok12.2) rfl) rfl rfl hl.1 rfl (lv_room (Nat.le_of_ble_eq_true rfl)) dX6_cell_5 ⟨Nat.zero_le _, Nat.zero_le _⟩) hw (fun H locs hw => ?_)
    refine lv_if_ne (tgt := 21) hx hb dX6_cell_8 (by decide) (fun c14 => ?_) (fun c14 => ?_)
    · have hg := it_neg hg c14
      refine lv_iload_n hx hb dX6_cell_21 rfl (lv_at hl 2 rfl) ?_
      refine lv_if_lt (tgt := 30) hx hb dX6_cell_22 (by decide) (fun c15 => ?_) (fun c15 => ?_)
      · have hg := it_pos hg c15
        exact B30 _ _ _ _ hg hw (lv_sub hl [] rfl)
      · have hg := it_neg hg c15
        refine lv_iload_n hx hb dX6_cell_25 rfl (lv_at hl 2 rfl) ?_
        refine lv_iconst (v := (4 : Int32)) hx hb dX6_cell_26 (by decide) ?_
        refine lv_icmp_lt (tgt := 40) hx hb dX6_cell_27 (by decide) (fun c16 => ?_) (fun c16 => ?_)
        · have hg := it_pos hg c16
          refine lv_iload_n hx hb dX6_cell_40 rfl (lv_at hl 2 rfl) ?_
          by_cases c21 : x2 = 0
          · have hg := it_pos hg c21
            refine lv_tableIn (tgt := 68) hx hb dX6_cell_41 (by rw [c21]; decide) (by rw [c21]; decide) (off := 27) (by rw [c21]; rfl) (by decide) ?_
            refine lv_aload_n hx hb dX6_cell_68 rfl (lv_at hl 0 rfl) ?_
            obtain ⟨hok17, hg⟩ := gd_some hg
            obtain ⟨r18, hr18, hg⟩ := nn_some hg
            refine wr_get (K := RX6) (T := TX6) (N := 7) (index := 12) (ref := "MakerLines") (v := .ref r18) hx hb hts hi_X6_cell_X6 hown hw hok17 (wF_6 (S := S13) hok17.2) rfl 0 (by decide) (hts _ (List.mem_of_getElem? (i := 5) rfl)) (fun _ h9 => h9) (congrArg (fun o => some (va_rf o)) hr18) dX6_cell_69 ?_
            refine lv_iload_n hx hb dX6_cell_72 rfl (lv_at hl 1 rfl) ?_
            obtain ⟨hok19, hg⟩ := gd_some hg
            obtain ⟨r20, S20, hc20, hg⟩ := cl_some hg
            refine wr_ci (va_runV (As := [.int x1]) (rest := []) ⟨hx, hb, hml, hown, hts⟩ (c_X4_ownerOf l D C N S13 z r18 x1 r20 S20 hc20) (cwV 1 hts gX6_cell_X4_ownerOf rfl rfl rfl (by decide +kernel) ⟨Nat.le_of_ble_eq_true rfl, Nat.le_of_ble_eq_true rfl⟩) (wd_preV hw hok19 (wF_4 (S := S13) hok19.2) rfl) rfl rfl hl.1 rfl (lv_room (Nat.le_of_ble_eq_true rfl)) dX6_cell_73 ⟨Nat.zero_le _, Nat.zero_le _⟩) hw (fun H locs hw => ?_)
            cases hg
            exact wr_iret hx hb hr hw dX6_cell_76 hlk
          · have hg := it_neg hg c21
            by_cases c26 : x2 = 1
            · have hg := it_pos hg c26
              refine lv_tableIn (tgt := 77) hx hb dX6_cell_41 (by rw [c26]; decide) (by rw [c26]; decide) (off := 36) (by rw [c26]; rfl) (by decide) ?_
              refine lv_aload_n hx hb dX6_cell_77 rfl (lv_at hl 0 rfl) ?_
              obtain ⟨hok22, hg⟩ := gd_some hg
              obtain ⟨r23, hr23, hg⟩ := nn_some hg
              refine wr_get (K := RX6) (T := TX6) (N := 7) (index := 12) (ref := "MakerLines") (v := .ref r23) hx hb hts hi_X6_cell_X6 hown hw hok22 (wF_6 (S := S13) hok22.2) rfl 0 (by decide) (hts _ (List.mem_of_getElem? (i := 5) rfl)) (fun _ h9 => h9) (congrArg (fun o => some (va_rf o)) hr23) dX6_cell_78 ?_
              refine lv_iload_n hx hb dX6_cell_81 rfl (lv_at hl 1 rfl) ?_
              obtain ⟨hok24, hg⟩ := gd_some hg
              obtain ⟨r25, S25, hc25, hg⟩ := cl_some hg
              refine wr_ci (va_runV (As := [.int x1]) (rest := []) ⟨hx, hb, hml, hown, hts⟩ (c_X4_dangerOf l D C N S13 z r23 x1 r25 S25 hc25) (cwV 1 hts gX6_cell_X4_dangerOf rfl rfl rfl (by decide +kernel) ⟨Nat.le_of_ble_eq_true rfl, Nat.le_of_ble_eq_true rfl⟩) (wd_preV hw hok24 (wF_4 (S := S13) hok24.2) rfl) rfl rfl hl.1 rfl (lv_room (Nat.le_of_ble_eq_true rfl)) dX6_cell_82 ⟨Nat.zero_le _, Nat.zero_le _⟩) hw (fun H locs hw => ?_)
              cases hg
              exact wr_iret hx hb hr hw dX6_cell_85 hlk
            · have hg := it_neg hg c26
              by_cases c29 : x2 = 2
              · have hg := it_pos hg c29
                refine lv_tableIn (tgt := 86) hx hb dX6_cell_41 (by rw [c29]; decide) (by rw [c29]; decide) (off := 45) (by rw [c29]; rfl) (by decide) ?_
                refine lv_aload_n hx hb dX6_cell_86 rfl (lv_at hl 0 rfl) ?_
                refine lv_iload_n hx hb dX6_cell_87 rfl (lv_at hl 1 rfl) ?_
                obtain ⟨hok27, hg⟩ := gd_some hg
                obtain ⟨r28, S28, hc28, hg⟩ := cl_some hg
                refine wr_ci (va_runV (As := [.int x1]) (rest := []) ⟨hx, hb, hml, hown, hts⟩ (c_X6_otherInPairing l D C N S13 z a0 x1 r28 S28 hc28) (cwV 1 hts gX6_cell_X6_otherInPairing rfl rfl rfl (by decide +kernel) ⟨Nat.le_of_ble_eq_true rfl, Nat.le_of_ble_eq_true rfl⟩) (wd_preV hw hok27 (wF_6 (S := S13) hok27.2) rfl) rfl rfl hl.1 rfl (lv_room (Nat.le_of_ble_eq_true rfl)) dX6_cell_88 ⟨Nat.zero_le _, Nat.zero_le _⟩) hw (fun H locs hw => ?_)
                cases hg
                exact wr_iret hx hb hr hw dX6_cell_91 hlk
              · have hg := it_neg hg c29
                refine lv_tableOut (tgt := 92) hx hb dX6_cell_41 (sw_out 2 (by decide) (fun j hj => ?_)) (by decide) ?_
                · rcases (show j = 0 ∨ j = 1 ∨ j = 2 by omega) with rfl | rfl | rfl
                  · exact c21
                  · exact c26
                  · exact c29
                refine lv_aload_n hx hb dX6_cell_92 rfl (lv_at hl 0 rfl) ?_
                obtain ⟨hok30, hg⟩ := gd_some hg
                obtain ⟨r31, hr31, hg⟩ := nn_some hg
                refine wr_get (K := RX6) (T := TX6) (N := 7) (index := 12) (ref := "MakerLines") (v := .ref r31) hx hb hts hi_X6_cell_X6 hown hw hok30 (wF_6 (S := S13) hok30.2) rfl 0 (by decide) (hts _ (List.mem_of_getElem? (i := 5) rfl)) (fun _ h9 => h9) (congrArg (fun o => some (va_rf o)) hr31) dX6_cell_93 ?_
                obtain ⟨hok32, hg⟩ := gd_some hg
                obtain ⟨r33, hr33, hg⟩ := nn_some hg
                refine wr_get (K := RX4) (T := TX4) (N := 10) (index := 66) (ref := "MakerLines$State") (v := .ref r33) hx hb hts hi_X6_cell_X4 hown hw hok32 (wF_4 (S := S13) hok32.2) rfl 0 (by decide) (hts _ (List.mem_of_getElem? (i := 6) rfl)) (fun _ h9 => h9) (congrArg (fun o => some (va_rf o)) hr33) dX6_cell_96 ?_
                refine lv_iload_n hx hb dX6_cell_99 rfl (lv_at hl 1 rfl) ?_
                refine lv_aload_n hx hb dX6_cell_100 rfl (lv_at hl 0 rfl) ?_
                refine wr_get (K := RX6) (T := TX6) (N := 7) (index := 12) (ref := "MakerLines") (v := .ref r31) hx hb hts hi_X6_cell_X6 hown hw hok30 (wF_6 (S := S13) hok30.2) rfl 0 (by decide) (hts _ (List.mem_of_getElem? (i := 5) rfl)) (fun _ h9 => h9) (congrArg (fun o => some (va_rf o)) hr31) dX6_cell_101 ?_
                refine wr_get (K := RX4) (T := TX4) (N := 10) (index := 113) (ref := "MakerLines$State") (v := .int (hI S13 r31 3)) hx hb hts hi_X6_cell_X4 hown hw hok32 (wF_4 (S := S13) hok32.2) rfl 3 (by decide) (hts _ (List.mem_of_getElem? (i := 7) rfl)) (fun _ h9 => h9) rfl dX6_cell_104 ?_
                obtain ⟨hok34, hg⟩ := gd_some hg
                obtain ⟨r35, S35, hc35, hg⟩ := cl_some hg
                refine wr_ci (va_runV (As := [.int x1, .int (hI S13 r31 3)]) (rest := []) ⟨hx, hb, hml, hown, hts⟩ (c_X1_aliveWith l D C N S13 z r33 x1 ((hI S13 r31 3)) r35 S35 hc35) (cwV 2 hts gX6_cell_X1_aliveWith rfl rfl rfl (by decide +kernel) ⟨Nat.le_of_ble_eq_true rfl, Nat.le_of_ble_eq_true rfl⟩) (wd_preV hw hok34 (wF_1 (S := S13) hok34.2) rfl) rfl rfl hl.1 rfl (lv_room (Nat.le_of_ble_eq_true rfl)) dX6_cell_107 ⟨Nat.zero_le _, Nat.zero_le _⟩) hw (fun H locs hw => ?_)
                cases hg
                exact wr_iret hx hb hr hw dX6_cell_110 hlk
        · have hg := it_neg hg c16
          exact B30 _ _ _ _ hg hw (lv_sub hl [] rfl)
    · have hg := it_pos hg c14
      exact absurd hg (by simp)
  exact B0 S0 _ _ _ hg hw hl
theorem hi_X6_reply_X6 : ∀ w ∈ wsX60, w ∈ wsX6_reply := fun _ h => List.mem_cons_of_mem _ (List.mem_append_left _ (List.mem_append_left _ (List.mem_append_left _ (List.mem_append_left _ (List.mem_append_right _ (h))))))
abbrev rm_X6_reply : Room := { frames := 31, cells := 0, slots := 0, locals := 1475 }
set_option maxHeartbeats 4000000 in
set_option maxRecDepth 100000 in
theorem c_X6_reply (l : Launch) (D : va_G) (C : C3) (N : Nat) (S0 : Hp) (z : Nat) (a0 : Nat) (x1 : Int32) (r : Int32) (S9 : Hp) (hg : f_X6_reply N S0 a0 x1 = some (r, S9)) : MetI l yX6_reply wsX6_reply rm_X6_reply D C S0 z [.ref a0, .int x1] r S9 z 0 0 := by
  refine mw_ofW (cc := cX6_reply) (maxL := 2) (ret := (some .int)) (lv := [(0, .ref a0), (1, .int x1)]) (by decide) rfl (Nat.le_of_ble_eq_true rfl) rfl ?_
  intro p e s m below meth c ls hx hb hr hts hown hlk hml hnm hl hw
  have hown : s.vm.findClass RX6 = some m.cls := hown
  have B0 : ∀ (S : Hp) (H : Heap) (locs : List Loc) (ls : Array Slot), f_X6_reply N S a0 x1 = some (r, S9) → Wd D C (va_A (wP C S0) z) s.heap S z H locs s → lv_has ls 2 [(0, .ref a0), (1, .int x1)] → W p l e rm_X6_reply s m ([.ref a0, .int x1] : List Value).toArray below meth c H locs 0 0 (MQ below (QiW D C S0 z r S9 z) ([.ref a0, .int x1] : List Value).toArray s 0 0 (va_A (wP C S0) z)) (F0 m 0 ls []) := by
    intro S H locs ls hg hw hl
    unfold f_X6_reply at hg
    refine lv_iload_n hx hb dX6_reply_0 rfl (lv_at hl 1 rfl) ?_
    obtain ⟨r10, S10, hc10, hg⟩ := cl_some hg
    refine wr_ci (va_runS (As := [.int x1]) (rest := []) ⟨hx, hb, hml, hown, hts⟩ (c_X6_isRule l D C N S z x1 r10 S10 hc10) (va_cwS 1 hts gX6_reply_X6_isRule rfl rfl rfl (by decide +kernel) ⟨Nat.le_of_ble_eq_true rfl, Nat.le_of_ble_eq_true rfl⟩) (wd_preS hw) rfl rfl hl.1 rfl (lv_room (Nat.le_of_ble_eq_true rfl)) dX6_reply_1 ⟨Nat.zero_le _, Nat.zero_le _⟩) hw (fun H locs hw => ?_)
    refine lv_if_ne (tgt := 17) hx hb dX6_reply_4 (by decide) (fun c11 => ?_) (fun c11 => ?_)
    · have hg := it_neg hg c11
      refine lv_aload_n hx hb dX6_reply_17 rfl (lv_at hl 0 rfl) ?_
      obtain ⟨hok12, hg⟩ := gd_some hg
      obtain ⟨r13, hr13, hg⟩ := nn_some hg
      refine wr_get (K := RX6) (T := TX6) (N := 7) (index := 12) (ref := "MakerLines") (v := .ref r13) hx hb hts hi_X6_reply_X6 hown hw hok12 (wF_6 (S := S10) hok12.2) rfl 0 (by decide) (hts _ (List.mem_of_getElem? (i := 3) rfl)) (fun _ h9 => h9) (congrArg (fun o => some (va_rf o)) hr13) dX6_reply_18 ?_
      obtain ⟨hok14, hg⟩ := gd_some hg
      obtain ⟨r15, S15, hc15, hg⟩ := cl_some hg
      refine wr_ci (va_runV (As := []) (rest := []) ⟨hx, hb, hml, hown, hts⟩ (c_X4_winner l D C N S10 z r13 r15 S15 hc15) (cwV 0 hts gX6_reply_X4_winner rfl rfl rfl (by decide +kernel) ⟨Nat.le_of_ble_eq_true rfl, Nat.le_of_ble_eq_true rfl⟩) (wd_preV hw hok14 (wF_4 (S := S10) hok14.2) rfl) rfl rfl hl.1 rfl (lv_room (Nat.le_of_ble_eq_true rfl)) dX6_reply_21 ⟨Nat.zero_le _, Nat.zero_le _⟩) hw (fun H locs hw => ?_)
      refine lv_if_ne (tgt := 39) hx hb dX6_reply_24 (by decide) (fun c16 => ?_) (fun c16 => ?_)
      · have hg := it_neg hg c16
        refine lv_iconst (v := (-1 : Int32)) hx hb dX6_reply_39 (by decide) ?_
        cases hg
        exact wr_iret hx hb hr hw dX6_reply_40 hlk
      · have hg := it_pos hg c16
        refine lv_aload_n hx hb dX6_reply_27 rfl (lv_at hl 0 rfl) ?_
        refine lv_iload_n hx hb dX6_reply_28 rfl (lv_at hl 1 rfl) ?_
        refine lv_aload_n hx hb dX6_reply_29 rfl (lv_at hl 0 rfl) ?_
        obtain ⟨hok17, hg⟩ := gd_some hg
        obtain ⟨r18, hr18, hg⟩ := nn_some hg
        refine wr_get (K := RX6) (T := TX6) (N := 7) (index := 12) (ref := "MakerLines") (v := .ref r18) hx hb hts hi_X6_reply_X6 hown hw hok17 (wF_6 (S := S15) hok17.2) rfl 0 (by decide) (hts _ (List.mem_of_getElem? (i := 3) rfl)) (fun _ h9 => h9) (congrArg (fun o => some (va_rf o)) hr18) dX6_reply_30 ?_
        obtain ⟨r19, S19, hc19, hg⟩ := cl_some hg
        refine wr_ci (va_runV (As := [.int x1, .ref r18]) (rest := []) ⟨hx, hb, hml, hown, hts⟩ (c_X6_cellBy l D C N S15 z a0 x1 r18 r19 S19 hc19) (cwV 2 hts gX6_reply_X6_cellBy rfl rfl rfl (by decide +kernel) ⟨Nat.le_of_ble_eq_true rfl, Nat.le_of_ble_eq_true rfl⟩) (wd_preV hw hok17 (wF_6 (S := S15) hok17.2) rfl) rfl rfl hl.1 rfl (lv_room (Nat.le_of_ble_eq_true rfl)) dX6_reply_33 ⟨Nat.zero_le _, Nat.zero_le _⟩) hw (fun H locs hw => ?_)
        refine lv_goto (tgt := 40) hx hb dX6_reply_36 (by decide) ?_
        cases hg
        exact wr_iret hx hb hr hw dX6_reply_40 hlk
    · have hg := it_pos hg c11
      exact absurd hg (by simp)
  exact B0 S0 _ _ _ hg hw hl
theorem hi_X6_ifMoved_X6 : ∀ w ∈ wsX60, w ∈ wsX6_ifMoved := fun _ h => List.mem_cons_of_mem _ (List.mem_append_left _ (List.mem_append_left _ (List.mem_append_left _ (List.mem_append_left _ (List.mem_append_right _ (h))))))
abbrev rm_X6_ifMoved : Room := { frames := 30, cells := 0, slots := 0, locals := 1443 }
set_option maxHeartbeats 4000000 in
set_option maxRecDepth 100000 in
theorem c_X6_ifMoved (l : Launch) (D : va_G) (C : C3) (N : Nat) (S0 : Hp) (z : Nat) (a0 : Nat) (x1 : Int32) (r : Int32) (S9 : Hp) (hg : f_X6_ifMoved N S0 a0 x1 = some (r, S9)) : MetI l yX6_ifMoved wsX6_ifMoved rm_X6_ifMoved D C S0 z [.ref a0, .int x1] r S9 z 0 0 := by
  refine mw_ofW (cc := cX6_ifMoved) (maxL := 2) (ret := (some .int)) (lv := [(0, .ref a0), (1, .int x1)]) (by decide) rfl (Nat.le_of_ble_eq_true rfl) rfl ?_
  intro p e s m below meth c ls hx hb hr hts hown hlk hml hnm hl hw
  have hown : s.vm.findClass RX6 = some m.cls := hown
  have B0 : ∀ (S : Hp) (H : Heap) (locs : List Loc) (ls : Array Slot), f_X6_ifMoved N S a0 x1 = some (r, S9) → Wd D C (va_A (wP C S0) z) s.heap S z H locs s → lv_has ls 2 [(0, .ref a0), (1, .int x1)] → W p l e rm_X6_ifMoved s m ([.ref a0, .int x1] : List Value).toArray below meth c H locs 0 0 (MQ below (QiW D C S0 z r S9 z) ([.ref a0, .int x1] : List Value).toArray s 0 0 (va_A (wP C S0) z)) (F0 m 0 ls []) := by
    intro S H locs ls hg hw hl
    unfold f_X6_ifMoved at hg
    refine lv_aload_n hx hb dX6_ifMoved_0 rfl (lv_at hl 0 rfl) ?_
    obtain ⟨hok10, hg⟩ := gd_some hg
    obtain ⟨r11, hr11, hg⟩ := nn_some hg
    refine wr_get (K := RX6) (T := TX6) (N := 7) (index := 12) (ref := "MakerLines") (v := .ref r11) hx hb hts hi_X6_ifMoved_X6 hown hw hok10 (wF_6 (S := S) hok10.2) rfl 0 (by decide) (hts _ (List.mem_of_getElem? (i := 3) rfl)) (fun _ h9 => h9) (congrArg (fun o => some (va_rf o)) hr11) dX6_ifMoved_1 ?_
    refine lv_iload_n hx hb dX6_ifMoved_4 rfl (lv_at hl 1 rfl) ?_
    obtain ⟨hok12, hg⟩ := gd_some hg
    obtain ⟨r13, S13, hc13, hg⟩ := cl_some hg
    refine wr_ci (va_runV (As := [.int x1]) (rest := []) ⟨hx, hb, hml, hown, hts⟩ (c_X4_hasCell l D C N S z r11 x1 r13 S13 hc13) (cwV 1 hts gX6_ifMoved_X4_hasCell rfl rfl rfl (by decide +kernel) ⟨Nat.le_of_ble_eq_true rfl, Nat.le_of_ble_eq_true rfl⟩) (wd_preV hw hok12 (wF_4 (S := S) hok12.2) rfl) rfl rfl hl.1 rfl (lv_room (Nat.le_of_ble_eq_true rfl)) dX6_ifMoved_5 ⟨Nat.zero_le _, Nat.zero_le _⟩) hw (fun H locs hw => ?_)
    refine lv_if_ne (tgt := 21) hx hb dX6_ifMoved_8 (by decide) (fun c14 => ?_) (fun c14 => ?_)
    · have hg := it_neg hg c14
      refine lv_aload_n hx hb dX6_ifMoved_21 rfl (lv_at hl 0 rfl) ?_
      obtain ⟨hok15, hg⟩ := gd_some hg
      obtain ⟨r16, hr16, hg⟩ := nn_some hg
      refine wr_get (K := RX6) (T := TX6) (N := 7) (index := 12) (ref := "MakerLines") (v := .ref r16) hx hb hts hi_X6_ifMoved_X6 hown hw hok15 (wF_6 (S := S13) hok15.2) rfl 0 (by decide) (hts _ (List.mem_of_getElem? (i := 3) rfl)) (fun _ h9 => h9) (congrArg (fun o => some (va_rf o)) hr16) dX6_ifMoved_22 ?_
      obtain ⟨hok17, hg⟩ := gd_some hg
      obtain ⟨r18, S18, hc18, hg⟩ := cl_some hg
      refine wr_ci (va_runV (As := []) (rest := []) ⟨hx, hb, hml, hown, hts⟩ (c_X4_winner l D C N S13 z r16 r18 S18 hc18) (cwV 0 hts gX6_ifMoved_X4_winner rfl rfl rfl (by decide +kernel) ⟨Nat.le_of_ble_eq_true rfl, Nat.le_of_ble_eq_true rfl⟩) (wd_preV hw hok17 (wF_4 (S := S13) hok17.2) rfl) rfl rfl hl.1 rfl (lv_room (Nat.le_of_ble_eq_true rfl)) dX6_ifMoved_25 ⟨Nat.zero_le _, Nat.zero_le _⟩) hw (fun H locs hw => ?_)
      refine lv_if_ne (tgt := 42) hx hb dX6_ifMoved_28 (by decide) (fun c19 => ?_) (fun c19 => ?_)
      · have hg := it_neg hg c19
        refine lv_iconst (v := (-1 : Int32)) hx hb dX6_ifMoved_42 (by decide) ?_
        cases hg
        exact wr_iret hx hb hr hw dX6_ifMoved_43 hlk
      · have hg := it_pos hg c19
        refine lv_aload_n hx hb dX6_ifMoved_31 rfl (lv_at hl 0 rfl) ?_
        obtain ⟨hok20, hg⟩ := gd_some hg
        obtain ⟨r21, hr21, hg⟩ := nn_some hg
        refine wr_get (K := RX6) (T := TX6) (N := 7) (index := 12) (ref := "MakerLines") (v := .ref r21) hx hb hts hi_X6_ifMoved_X6 hown hw hok20 (wF_6 (S := S18) hok20.2) rfl 0 (by decide) (hts _ (List.mem_of_getElem? (i := 3) rfl)) (fun _ h9 => h9) (congrArg (fun o => some (va_rf o)) hr21) dX6_ifMoved_32 ?_
        refine lv_iload_n hx hb dX6_ifMoved_35 rfl (lv_at hl 1 rfl) ?_
        obtain ⟨hok22, hg⟩ := gd_some hg
        obtain ⟨r23, S23, hc23, hg⟩ := cl_some hg
        refine wr_ci (va_runV (As := [.int x1]) (rest := []) ⟨hx, hb, hml, hown, hts⟩ (c_X4_isFree l D C N S18 z r21 x1 r23 S23 hc23) (cwV 1 hts gX6_ifMoved_X4_isFree rfl rfl rfl (by decide +kernel) ⟨Nat.le_of_ble_eq_true rfl, Nat.le_of_ble_eq_true rfl⟩) (wd_preV hw hok22 (wF_4 (S := S18) hok22.2) rfl) rfl rfl hl.1 rfl (lv_room (Nat.le_of_ble_eq_true rfl)) dX6_ifMoved_36 ⟨Nat.zero_le _, Nat.zero_le _⟩) hw (fun H locs hw => ?_)
        refine lv_if_ne (tgt := 44) hx hb dX6_ifMoved_39 (by decide) (fun c24 => ?_) (fun c24 => ?_)
        · have hg := it_neg hg c24
          refine lv_aload_n hx hb dX6_ifMoved_44 rfl (lv_at hl 0 rfl) ?_
          obtain ⟨hok25, hg⟩ := gd_some hg
          obtain ⟨r26, hr26, hg⟩ := nn_some hg
          refine wr_get (K := RX6) (T := TX6) (N := 7) (index := 16) (ref := "MakerLines") (v := .ref r26) hx hb hts hi_X6_ifMoved_X6 hown hw hok25 (wF_6 (S := S23) hok25.2) rfl 1 (by decide) (hts _ (List.mem_of_getElem? (i := 4) rfl)) (fun _ h9 => h9) (congrArg (fun o => some (va_rf o)) hr26) dX6_ifMoved_45 ?_
          refine lv_aload_n hx hb dX6_ifMoved_48 rfl (lv_at hl 0 rfl) ?_
          obtain ⟨r27, hr27, hg⟩ := nn_some hg
          refine wr_get (K := RX6) (T := TX6) (N := 7) (index := 12) (ref := "MakerLines") (v := .ref r27) hx hb hts hi_X6_ifMoved_X6 hown hw hok25 (wF_6 (S := S23) hok25.2) rfl 0 (by decide) (hts _ (List.mem_of_getElem? (i := 3) rfl)) (fun _ h9 => h9) (congrArg (fun o => some (va_rf o)) hr27) dX6_ifMoved_49 ?_
          obtain ⟨hok28, hg⟩ := gd_some hg
          obtain ⟨⟨⟩, S29, hc29, hg⟩ := cl_some hg
          refine wr_cv (va_runV (As := [.ref r27]) (rest := []) ⟨hx, hb, hml, hown, hts⟩ (c_X4_copyBoard l D C N S23 z r26 r27 () S29 hc29) (cwV 1 hts gX6_ifMoved_X4_copyBoard rfl rfl rfl (by decide +kernel) ⟨Nat.le_of_ble_eq_true rfl, Nat.le_of_ble_eq_true rfl⟩) (wd_preV hw hok28 (wF_4 (S := S23) hok28.2) rfl) rfl rfl hl.1 rfl (lv_room (Nat.le_of_ble_eq_true rfl)) dX6_ifMoved_52 ⟨Nat.zero_le _, Nat.zero_le _⟩) hw (fun H locs hw => ?_)
          refine lv_aload_n hx hb dX6_ifMoved_55 rfl (lv_at hl 0 rfl) ?_
          obtain ⟨hok30, hg⟩ := gd_some hg
          obtain ⟨r31, hr31, hg⟩ := nn_some hg
          refine wr_get (K := RX6) (T := TX6) (N := 7) (index := 16) (ref := "MakerLines") (v := .ref r31) hx hb hts hi_X6_ifMoved_X6 hown hw hok30 (wF_6 (S := S29) hok30.2) rfl 1 (by decide) (hts _ (List.mem_of_getElem? (i := 4) rfl)) (fun _ h9 => h9) (congrArg (fun o => some (va_rf o)) hr31) dX6_ifMoved_56 ?_
          refine lv_iload_n hx hb dX6_ifMoved_59 rfl (lv_at hl 1 rfl) ?_
          refine lv_iconst (v := (-1 : Int32)) hx hb dX6_ifMoved_60 (by decide) ?_
          obtain ⟨hok32, hg⟩ := gd_some hg
          obtain ⟨⟨⟩, S33, hc33, hg⟩ := cl_some hg
          refine wr_cv (va_runV (As := [.int x1, .int (-1 : Int32)]) (rest := []) ⟨hx, hb, hml, hown, hts⟩ (c_X4_occupy l D C N S29 z r31 x1 ((-1 : Int32)) () S33 hc33) (cwV 2 hts gX6_ifMoved_X4_occupy rfl rfl rfl (by decide +kernel) ⟨Nat.le_of_ble_eq_true rfl, Nat.le_of_ble_eq_true rfl⟩) (wd_preV hw hok32 (wF_4 (S := S29) hok32.2) rfl) rfl rfl hl.1 rfl (lv_room (Nat.le_of_ble_eq_true rfl)) dX6_ifMoved_61 ⟨Nat.zero_le _, Nat.zero_le _⟩) hw (fun H locs hw => ?_)
          refine lv_aload_n hx hb dX6_ifMoved_64 rfl (lv_at hl 0 rfl) ?_
          obtain ⟨hok34, hg⟩ := gd_some hg
          obtain ⟨r35, hr35, hg⟩ := nn_some hg
          refine wr_get (K := RX6) (T := TX6) (N := 7) (index := 47) (ref := "MakerLines") (v := .ref r35) hx hb hts hi_X6_ifMoved_X6 hown hw hok34 (wF_6 (S := S33) hok34.2) rfl 6 (by decide) (hts _ (List.mem_of_getElem? (i := 5) rfl)) (fun _ h9 => h9) (congrArg (fun o => some (va_rf o)) hr35) dX6_ifMoved_65 ?_
          refine lv_aload_n hx hb dX6_ifMoved_68 rfl (lv_at hl 0 rfl) ?_
          obtain ⟨r36, hr36, hg⟩ := nn_some hg
          refine wr_get (K := RX6) (T := TX6) (N := 7) (index := 16) (ref := "MakerLines") (v := .ref r36) hx hb hts hi_X6_ifMoved_X6 hown hw hok34 (wF_6 (S := S33) hok34.2) rfl 1 (by decide) (hts _ (List.mem_of_getElem? (i := 4) rfl)) (fun _ h9 => h9) (congrArg (fun o => some (va_rf o)) hr36) dX6_ifMoved_69 ?_
          obtain ⟨hok37, hg⟩ := gd_some hg
          obtain ⟨r38, S38, hc38, hg⟩ := cl_some hg
          refine wr_ci (va_runV (As := [.ref r36]) (rest := []) ⟨hx, hb, hml, hown, hts⟩ (c_X3_lengthOf l D C N S33 z r35 r36 r38 S38 hc38) (cwV 1 hts gX6_ifMoved_X3_lengthOf rfl rfl rfl (by decide +kernel) ⟨Nat.le_of_ble_eq_true rfl, Nat.le_of_ble_eq_true rfl⟩) (wd_preV hw hok37 (wF_3 (S := S33) hok37.2) rfl) rfl rfl hl.1 rfl (lv_room (Nat.le_of_ble_eq_true rfl)) dX6_ifMoved_72 ⟨Nat.zero_le _, Nat.zero_le _⟩) hw (fun H locs hw => ?_)
          refine lv_iconst (v := (-1 : Int32)) hx hb dX6_ifMoved_75 (by decide) ?_
          refine lv_icmp_ne (tgt := 83) hx hb dX6_ifMoved_76 (by decide) (fun c39 => ?_) (fun c39 => ?_)
          · have hg := it_neg hg c39
            refine lv_iconst (v := (1 : Int32)) hx hb dX6_ifMoved_83 (by decide) ?_
            cases hg
            exact wr_iret hx hb hr hw dX6_ifMoved_84 hlk
          · have hg := it_pos hg c39
            refine lv_iconst (v := (2 : Int32)) hx hb dX6_ifMoved_79 (by decide) ?_
            refine lv_goto (tgt := 84) hx hb dX6_ifMoved_80 (by decide) ?_
            cases hg
            exact wr_iret hx hb hr hw dX6_ifMoved_84 hlk
        · have hg := it_pos hg c24
          refine lv_iconst (v := (-1 : Int32)) hx hb dX6_ifMoved_42 (by decide) ?_
          cases hg
          exact wr_iret hx hb hr hw dX6_ifMoved_43 hlk
    · have hg := it_pos hg c14
      exact absurd hg (by simp)
  exact B0 S0 _ _ _ hg hw hl
theorem hi_X6_pairsInPairing_X2 : ∀ w ∈ wsX20, w ∈ wsX6_pairsInPairing := fun _ h => List.mem_cons_of_mem _ (List.mem_append_left _ (List.mem_append_left _ (List.mem_append_right _ (h))))
theorem hi_X6_pairsInPairing_X6 : ∀ w ∈ wsX60, w ∈ wsX6_pairsInPairing := fun _ h => List.mem_cons_of_mem _ (List.mem_append_left _ (List.mem_append_left _ (List.mem_append_left _ (List.mem_append_right _ (h)))))
abbrev rm_X6_pairsInPairing : Room := { frames := 32, cells := 0, slots := 0, locals := 1544 }
set_option maxHeartbeats 4000000 in
set_option maxRecDepth 100000 in
theorem c_X6_pairsInPairing (l : Launch) (D : va_G) (C : C3) (N : Nat) (S0 : Hp) (z : Nat) (a0 : Nat) (r : Int32) (S9 : Hp) (hg : f_X6_pairsInPairing N S0 a0 = some (r, S9)) : MetI l yX6_pairsInPairing wsX6_pairsInPairing rm_X6_pairsInPairing D C S0 z [.ref a0] r S9 z 0 0 := by
  refine mw_ofW (cc := cX6_pairsInPairing) (maxL := 1) (ret := (some .int)) (lv := [(0, .ref a0)]) (by decide) rfl (Nat.le_of_ble_eq_true rfl) rfl ?_
  intro p e s m below meth c ls hx hb hr hts hown hlk hml hnm hl hw
  have hown : s.vm.findClass RX6 = some m.cls := hown
  have B0 : ∀ (S : Hp) (H : Heap) (locs : List Loc) (ls : Array Slot), f_X6_pairsInPairing N S a0 = some (r, S9) → Wd D C (va_A (wP C S0) z) s.heap S z H locs s → lv_has ls 1 [(0, .ref a0)] → W p l e rm_X6_pairsInPairing s m ([.ref a0] : List Value).toArray below meth c H locs 0 0 (MQ below (QiW D C S0 z r S9 z) ([.ref a0] : List Value).toArray s 0 0 (va_A (wP C S0) z)) (F0 m 0 ls []) := by
    intro S H locs ls hg hw hl
    unfold f_X6_pairsInPairing at hg
    refine lv_aload_n hx hb dX6_pairsInPairing_0 rfl (lv_at hl 0 rfl) ?_
    obtain ⟨hok10, hg⟩ := gd_some hg
    obtain ⟨r11, hr11, hg⟩ := nn_some hg
    refine wr_get (K := RX6) (T := TX6) (N := 7) (index := 40) (ref := "MakerLines") (v := .ref r11) hx hb hts hi_X6_pairsInPairing_X6 hown hw hok10 (wF_6 (S := S) hok10.2) rfl 5 (by decide) (hts _ (List.mem_of_getElem? (i := 1) rfl)) (fun _ h9 => h9) (congrArg (fun o => some (va_rf o)) hr11) dX6_pairsInPairing_1 ?_
    refine lv_aload_n hx hb dX6_pairsInPairing_4 rfl (lv_at hl 0 rfl) ?_
    obtain ⟨r12, hr12, hg⟩ := nn_some hg
    refine wr_get (K := RX6) (T := TX6) (N := 7) (index := 12) (ref := "MakerLines") (v := .ref r12) hx hb hts hi_X6_pairsInPairing_X6 hown hw hok10 (wF_6 (S := S) hok10.2) rfl 0 (by decide) (hts _ (List.mem_of_getElem? (i := 2) rfl)) (fun _ h9 => h9) (congrArg (fun o => some (va_rf o)) hr12) dX6_pairsInPairing_5 ?_
    obtain ⟨hok13, hg⟩ := gd_some hg
    obtain ⟨⟨⟩, S14, hc14, hg⟩ := cl_some hg
    refine wr_cv (va_runV (As := [.ref r12]) (rest := []) ⟨hx, hb, hml, hown, hts⟩ (c_X2_lookAt l D C N S z r11 r12 () S14 hc14) (cwV 1 hts gX6_pairsInPairing_X2_lookAt rfl rfl rfl (by decide +kernel) ⟨Nat.le_of_ble_eq_true rfl, Nat.le_of_ble_eq_true rfl⟩) (wd_preV hw hok13 (wF_2 (S := S) hok13.2) rfl) rfl rfl hl.1 rfl (lv_room (Nat.le_of_ble_eq_true rfl)) dX6_pairsInPairing_8 ⟨Nat.zero_le _, Nat.zero_le _⟩) hw (fun H locs hw => ?_)
    refine lv_aload_n hx hb dX6_pairsInPairing_11 rfl (lv_at hl 0 rfl) ?_
    obtain ⟨hok15, hg⟩ := gd_some hg
    obtain ⟨r16, hr16, hg⟩ := nn_some hg
    refine wr_get (K := RX6) (T := TX6) (N := 7) (index := 40) (ref := "MakerLines") (v := .ref r16) hx hb hts hi_X6_pairsInPairing_X6 hown hw hok15 (wF_6 (S := S14) hok15.2) rfl 5 (by decide) (hts _ (List.mem_of_getElem? (i := 1) rfl)) (fun _ h9 => h9) (congrArg (fun o => some (va_rf o)) hr16) dX6_pairsInPairing_12 ?_
    obtain ⟨hok17, hg⟩ := gd_some hg
    refine wr_get (K := RX2) (T := TX2) (N := 6) (index := 302) (ref := "MakerLines$Pairing") (v := .int (hI S14 r16 5)) hx hb hts hi_X6_pairsInPairing_X2 hown hw hok17 (wF_2 (S := S14) hok17.2) rfl 5 (by decide) (hts _ (List.mem_of_getElem? (i := 3) rfl)) (fun _ h9 => h9) rfl dX6_pairsInPairing_15 ?_
    refine lv_if_eq (tgt := 31) hx hb dX6_pairsInPairing_18 (by decide) (fun c18 => ?_) (fun c18 => ?_)
    · have hg := it_pos hg c18
      refine lv_iconst (v := (-1 : Int32)) hx hb dX6_pairsInPairing_31 (by decide) ?_
      cases hg
      exact wr_iret hx hb hr hw dX6_pairsInPairing_32 hlk
    · have hg := it_neg hg c18
      refine lv_aload_n hx hb dX6_pairsInPairing_21 rfl (lv_at hl 0 rfl) ?_
      refine wr_get (K := RX6) (T := TX6) (N := 7) (index := 40) (ref := "MakerLines") (v := .ref r16) hx hb hts hi_X6_pairsInPairing_X6 hown hw hok15 (wF_6 (S := S14) hok15.2) rfl 5 (by decide) (hts _ (List.mem_of_getElem? (i := 1) rfl)) (fun _ h9 => h9) (congrArg (fun o => some (va_rf o)) hr16) dX6_pairsInPairing_22 ?_
      refine wr_get (K := RX2) (T := TX2) (N := 6) (index := 305) (ref := "MakerLines$Pairing") (v := .int (hI S14 r16 4)) hx hb hts hi_X6_pairsInPairing_X2 hown hw hok17 (wF_2 (S := S14) hok17.2) rfl 4 (by decide) (hts _ (List.mem_of_getElem? (i := 4) rfl)) (fun _ h9 => h9) rfl dX6_pairsInPairing_25 ?_
      refine lv_goto (tgt := 32) hx hb dX6_pairsInPairing_28 (by decide) ?_
      cases hg
      exact wr_iret hx hb hr hw dX6_pairsInPairing_32 hlk
  exact B0 S0 _ _ _ hg hw hl
theorem hi_X6_snapshotsTaken_X6 : ∀ w ∈ wsX60, w ∈ wsX6_snapshotsTaken := fun _ h => List.mem_cons_of_mem _ (List.mem_append_right _ (h))
abbrev rm_X6_snapshotsTaken : Room := { frames := 0, cells := 0, slots := 0, locals := 0 }
set_option maxHeartbeats 4000000 in
set_option maxRecDepth 100000 in
theorem c_X6_snapshotsTaken (l : Launch) (D : va_G) (C : C3) (N : Nat) (S0 : Hp) (z : Nat) (a0 : Nat) (r : Int32) (S9 : Hp) (hg : f_X6_snapshotsTaken N S0 a0 = some (r, S9)) : MetI l yX6_snapshotsTaken wsX6_snapshotsTaken rm_X6_snapshotsTaken D C S0 z [.ref a0] r S9 z 0 0 := by
  refine mw_ofW (cc := cX6_snapshotsTaken) (maxL := 3) (ret := (some .int)) (lv := [(0, .ref a0)]) (by decide) rfl (Nat.le_of_ble_eq_true rfl) rfl ?_
  intro p e s m below meth c ls hx hb hr hts hown hlk hml hnm hl hw
  have hown : s.vm.findClass RX6 = some m.cls := hown
  have B4 : ∀ (K4 : Hp → Int32 → Int32 → Option (Int32 × Hp)) (hK4 : ∀ (S : Hp) (v1 : Int32) (v2 : Int32) (H : Heap) (locs : List Loc) (ls : Array Slot), K4 S v1 v2 = some (r, S9) → Wd D C (va_A (wP C S0) z) s.heap S z H locs s → lv_has ls 3 [(0, .ref a0), (1, .int v1), (2, .int v2)] → W p l e rm_X6_snapshotsTaken s m ([.ref a0] : List Value).toArray below meth c H locs 0 0 (MQ below (QiW D C S0 z r S9 z) ([.ref a0] : List Value).toArray s 0 0 (va_A (wP C S0) z)) (F0 m 4 ls [])) (S : Hp) (v1 : Int32) (v2 : Int32) (H : Heap) (locs : List Loc) (ls : Array Slot), f_X6_snapshotsTaken_b4 N a0 K4 S v1 v2 = some (r, S9) → Wd D C (va_A (wP C S0) z) s.heap S z H locs s → lv_has ls 3 [(0, .ref a0), (1, .int v1), (2, .int v2)] → W p l e rm_X6_snapshotsTaken s m ([.ref a0] : List Value).toArray below meth c H locs 0 0 (MQ below (QiW D C S0 z r S9 z) ([.ref a0] : List Value).toArray s 0 0 (va_A (wP C S0) z)) (F0 m 4 ls []) := by
    intro K4 hK4 S v1 v2 H locs ls hg hw hl
    unfold f_X6_snapshotsTaken_b4 at hg
    refine lv_iload_n hx hb dX6_snapshotsTaken_4 rfl (lv_at hl 2 rfl) ?_
    refine lv_aload_n hx hb dX6_snapshotsTaken_5 rfl (lv_at hl 0 rfl) ?_
    obtain ⟨hok10, hg⟩ := gd_some hg
    obtain ⟨r11, hr11, hg⟩ := nn_some hg
    refine wr_get (K := RX6) (T := TX6) (N := 7) (index := 26) (ref := "MakerLines") (v := .ref r11) hx hb hts hi_X6_snapshotsTaken_X6 hown hw hok10 (wF_6 (S := S) hok10.2) rfl 3 (by decide) (hts _ (List.mem_of_getElem? (i := 1) rfl)) (fun _ h9 => h9) (congrArg (fun o => some (va_rf o)) hr11) dX6_snapshotsTaken_6 ?_
    obtain ⟨hok12, hg⟩ := gd_some hg
    refine wr_alen9 hx hb hw hok12 dX6_snapshotsTaken_9 ?_
    refine lv_icmp_ge (tgt := 31) hx hb dX6_snapshotsTaken_10 (by decide) (fun c13 => ?_) (fun c13 => ?_)
    · have hg := it_pos hg c13
      refine lv_iload_n hx hb dX6_snapshotsTaken_31 rfl (lv_at hl 1 rfl) ?_
      cases hg
      exact wr_iret hx hb hr hw dX6_snapshotsTaken_32 hlk
    · have hg := it_neg hg c13
      refine lv_aload_n hx hb dX6_snapshotsTaken_13 rfl (lv_at hl 0 rfl) ?_
      refine wr_get (K := RX6) (T := TX6) (N := 7) (index := 26) (ref := "MakerLines") (v := .ref r11) hx hb hts hi_X6_snapshotsTaken_X6 hown hw hok10 (wF_6 (S := S) hok10.2) rfl 3 (by decide) (hts _ (List.mem_of_getElem? (i := 1) rfl)) (fun _ h9 => h9) (congrArg (fun o => some (va_rf o)) hr11) dX6_snapshotsTaken_14 ?_
      refine lv_iload_n hx hb dX6_snapshotsTaken_17 rfl (lv_at hl 2 rfl) ?_
      obtain ⟨hin14, hg⟩ := gd_some hg
      rcases ho15 : (hR S r11 v2.toNatClampNeg) with _ | r15
      · rw [ho15] at hg; have hg := nz_none hg
        refine wr_aald (v := .null) hx hb hw hok12 (inb_vp hin14) (congrArg va_rf ho15) dX6_snapshotsTaken_18 ?_
        refine lv_ifnullN (tgt := 25) hx hb dX6_snapshotsTaken_19 (by decide) ?_
        refine lv_iinc (v := (v2 + (1 : Int32))) (lv' := [(2, .int (v2 + (1 : Int32))), (0, .ref a0), (1, .int v1)]) hx hb dX6_snapshotsTaken_25 hl (k := 2) rfl rfl (by decide) rfl (fun ls hl => ?_)
        refine lv_goto (tgt := 4) hx hb dX6_snapshotsTaken_28 (by decide) ?_
        exact hK4 _ _ _ _ _ _ hg hw (lv_sub hl [1, 2, 0] rfl)
      · rw [ho15] at hg; have hg := nz_one hg
        refine wr_aald (v := .ref r15) hx hb hw hok12 (inb_vp hin14) (congrArg va_rf ho15) dX6_snapshotsTaken_18 ?_
        refine lv_ifnull hx hb dX6_snapshotsTaken_19 ?_
        refine lv_iinc (v := (v1 + (1 : Int32))) (lv' := [(1, .int (v1 + (1 : Int32))), (0, .ref a0), (2, .int v2)]) hx hb dX6_snapshotsTaken_22 hl (k := 1) rfl rfl (by decide) rfl (fun ls hl => ?_)
        refine lv_iinc (v := (v2 + (1 : Int32))) (lv' := [(2, .int (v2 + (1 : Int32))), (1, .int (v1 + (1 : Int32))), (0, .ref a0)]) hx hb dX6_snapshotsTaken_25 hl (k := 2) rfl rfl (by decide) rfl (fun ls hl => ?_)
        refine lv_goto (tgt := 4) hx hb dX6_snapshotsTaken_28 (by decide) ?_
        exact hK4 _ _ _ _ _ _ hg hw (lv_sub hl [2, 1, 0] rfl)
  have L4 : ∀ (k : Nat) (S : Hp) (v1 : Int32) (v2 : Int32) (H : Heap) (locs : List Loc) (ls : Array Slot), f_X6_snapshotsTaken_l4 N a0 k S v1 v2 = some (r, S9) → Wd D C (va_A (wP C S0) z) s.heap S z H locs s → lv_has ls 3 [(0, .ref a0), (1, .int v1), (2, .int v2)] → W p l e rm_X6_snapshotsTaken s m ([.ref a0] : List Value).toArray below meth c H locs 0 0 (MQ below (QiW D C S0 z r S9 z) ([.ref a0] : List Value).toArray s 0 0 (va_A (wP C S0) z)) (F0 m 4 ls []) := by
    intro k
    induction k with
    | zero => intro S v1 v2 H locs ls hg hw hl; exact absurd (show (none : Option (Int32 × Hp)) = some (r, S9) from hg) (by simp)
    | succ k ih => intro S v1 v2 H locs ls hg hw hl; exact B4 (f_X6_snapshotsTaken_l4 N a0 k) ih S v1 v2 H locs ls hg hw hl
  have B0 : ∀ (S : Hp) (H : Heap) (locs : List Loc) (ls : Array Slot), f_X6_snapshotsTaken N S a0 = some (r, S9) → Wd D C (va_A (wP C S0) z) s.heap S z H locs s → lv_has ls 3 [(0, .ref a0)] → W p l e rm_X6_snapshotsTaken s m ([.ref a0] : List Value).toArray below meth c H locs 0 0 (MQ below (QiW D C S0 z r S9 z) ([.ref a0] : List Value).toArray s 0 0 (va_A (wP C S0) z)) (F0 m 0 ls []) := by
    intro S H locs ls hg hw hl
    unfold f_X6_snapshotsTaken at hg
    refine lv_iconst (v := (0 : Int32)) hx hb dX6_snapshotsTaken_0 (by decide) ?_
    refine lv_istore_n (lv' := [(1, .int (0 : Int32)), (0, .ref a0)]) hx hb dX6_snapshotsTaken_1 rfl hl (by decide) rfl (fun ls hl => ?_)
    refine lv_iconst (v := (0 : Int32)) hx hb dX6_snapshotsTaken_2 (by decide) ?_
    refine lv_istore_n (lv' := [(2, .int (0 : Int32)), (1, .int (0 : Int32)), (0, .ref a0)]) hx hb dX6_snapshotsTaken_3 rfl hl (by decide) rfl (fun ls hl => ?_)
    exact L4 N _ _ _ _ _ _ hg hw (lv_sub hl [2, 1, 0] rfl)
  exact B0 S0 _ _ _ hg hw hl
