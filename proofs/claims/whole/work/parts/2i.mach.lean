theorem hi_X7_addLine_X7 : ∀ w ∈ wsX70, w ∈ wsX7_addLine := fun _ h => List.mem_cons_of_mem _ (List.mem_append_right _ (h))
abbrev rm_X7_addLine : Room := { frames := 1, cells := 0, slots := 0, locals := 22 }
set_option maxHeartbeats 4000000 in
set_option maxRecDepth 100000 in
theorem c_X7_addLine (l : Launch) (D : va_G) (C : C3) (N : Nat) (S0 : Hp) (z : Nat) (a0 : Nat) (x1 : Int32) (r : Int32) (S9 : Hp) (hg : f_X7_addLine N S0 a0 x1 = some (r, S9)) : MetI l yX7_addLine wsX7_addLine rm_X7_addLine D C S0 z [.ref a0, .int x1] r S9 z 0 0 := by
  refine mw_ofW (cc := cX7_addLine) (maxL := 2) (ret := (some .int)) (lv := [(0, .ref a0), (1, .int x1)]) (by decide) rfl (Nat.le_of_ble_eq_true rfl) rfl ?_
  intro p e s m below meth c ls hx hb hr hts hown hlk hml hnm hl hw
  have hown : s.vm.findClass RX7 = some m.cls := hown
  have B39 : ∀ (S : Hp) (s0 : Int32) (s1 : Nat) (H : Heap) (locs : List Loc) (ls : Array Slot), f_X7_addLine_b39 N a0 x1 S s0 s1 = some (r, S9) → Wd D C (va_A (wP C S0) z) s.heap S z H locs s → lv_has ls 2 [(0, .ref a0), (1, .int x1)] → W p l e rm_X7_addLine s m ([.ref a0, .int x1] : List Value).toArray below meth c H locs 0 0 (MQ below (QiW D C S0 z r S9 z) ([.ref a0, .int x1] : List Value).toArray s 0 0 (va_A (wP C S0) z)) (F0 m 39 ls [.int s0, .ref s1]) := by
    intro S s0 s1 H locs ls hg hw hl
    unfold f_X7_addLine_b39 at hg
    obtain ⟨hok21, hg⟩ := gd_some hg
    refine wr_put (K := RX7) (T := TX7) (N := 20) (index := 50) (ref := "MakerLinesModel") (ty := (.int)) (S1 := (sI S s1 7 s0)) hx hb hts hi_X7_addLine_X7 tyX7 tyX7_ok nmX7 hown hw hok21 (wF_7 (S := S) hok21.2) rfl (fun b hb9 => wF_sI_ne hb9) 7 (wq_7_7 (S := S) hok21.2 _) rfl (by decide) (hts _ (List.mem_of_getElem? (i := 2) rfl)) (fun _ h9 => h9) rfl (by decide +kernel) rfl rfl (Nat.le_of_ble_eq_true rfl) dX7_addLine_39 (fun H locs hw => ?_)
    refine lv_aload_n hx hb dX7_addLine_42 rfl (lv_at hl 0 rfl) ?_
    obtain ⟨hok22, hg⟩ := gd_some hg
    refine wr_get (K := RX7) (T := TX7) (N := 20) (index := 50) (ref := "MakerLinesModel") (v := .int (hI ((sI S s1 7 s0)) a0 7)) hx hb hts hi_X7_addLine_X7 hown hw hok22 (wF_7 (S := (sI S s1 7 s0)) hok22.2) rfl 7 (by decide) (hts _ (List.mem_of_getElem? (i := 2) rfl)) (fun _ h9 => h9) rfl dX7_addLine_43 ?_
    refine lv_if_le (tgt := 51) hx hb dX7_addLine_46 (by decide) (fun c23 => ?_) (fun c23 => ?_)
    · have hg := it_pos hg c23
      refine lv_aload_n hx hb dX7_addLine_51 rfl (lv_at hl 0 rfl) ?_
      obtain ⟨⟨⟩, S24, hc24, hg⟩ := cl_some hg
      refine wr_cv (va_runV (As := []) (rest := []) ⟨hx, hb, hml, hown, hts⟩ (c_X7_save l D C N ((sI S s1 7 s0)) z a0 () S24 hc24) (cwV 0 hts gX7_addLine_X7_save rfl rfl rfl (by decide +kernel) ⟨Nat.le_of_ble_eq_true rfl, Nat.le_of_ble_eq_true rfl⟩) (wd_preV hw hok22 (wF_7 (S := (sI S s1 7 s0)) hok22.2) rfl) rfl rfl hl.1 rfl (lv_room (Nat.le_of_ble_eq_true rfl)) dX7_addLine_52 ⟨Nat.zero_le _, Nat.zero_le _⟩) hw (fun H locs hw => ?_)
      refine lv_aload_n hx hb dX7_addLine_55 rfl (lv_at hl 0 rfl) ?_
      obtain ⟨hok25, hg⟩ := gd_some hg
      obtain ⟨r26, hr26, hg⟩ := nn_some hg
      refine wr_get (K := RX7) (T := TX7) (N := 20) (index := 7) (ref := "MakerLinesModel") (v := .ref r26) hx hb hts hi_X7_addLine_X7 hown hw hok25 (wF_7 (S := S24) hok25.2) rfl 0 (by decide) (hts _ (List.mem_of_getElem? (i := 1) rfl)) (fun _ h9 => h9) (congrArg (fun o => some (va_rf o)) hr26) dX7_addLine_56 ?_
      refine lv_bipush (v := (10 : Int32)) hx hb dX7_addLine_59 (by decide) ?_
      refine lv_aload_n hx hb dX7_addLine_61 rfl (lv_at hl 0 rfl) ?_
      refine wr_get (K := RX7) (T := TX7) (N := 20) (index := 7) (ref := "MakerLinesModel") (v := .ref r26) hx hb hts hi_X7_addLine_X7 hown hw hok25 (wF_7 (S := S24) hok25.2) rfl 0 (by decide) (hts _ (List.mem_of_getElem? (i := 1) rfl)) (fun _ h9 => h9) (congrArg (fun o => some (va_rf o)) hr26) dX7_addLine_62 ?_
      refine lv_iconst (v := (2 : Int32)) hx hb dX7_addLine_65 (by decide) ?_
      obtain ⟨hok27, hg⟩ := gd_some hg
      obtain ⟨hin28, hg⟩ := gd_some hg
      refine wr_iald hx hb hw hok27 (inb_vp hin28) dX7_addLine_66 ?_
      refine lv_iadd hx hb dX7_addLine_67 ?_
      refine lv_iload_n hx hb dX7_addLine_68 rfl (lv_at hl 1 rfl) ?_
      obtain ⟨hin29, hg⟩ := gd_some hg
      refine wr_iast hx hb hw hok27 (inb_vp hin29) dX7_addLine_69 (fun H locs hw => ?_)
      obtain ⟨S30, hS30, hg⟩ := bd_some hg
      rw [← hS30] at hw
      have hok31 : ok S30 a0 7 := by rw [hS30]; exact hok25
      have hr32 : hR S30 a0 0 = some r26 := by rw [hS30]; exact hr26
      have hok33 : ok S30 r26 8 := by rw [hS30]; exact hok27
      have hin34 : inb (2 : Int32) (hN S30 r26) := by rw [hS30]; exact hin28
      have hin35 : inb ((10 : Int32) + (hI S24 r26 (2 : Int32).toNatClampNeg)) (hN S30 r26) := by rw [hS30]; exact hin29
      refine lv_aload_n hx hb dX7_addLine_70 rfl (lv_at hl 0 rfl) ?_
      refine wr_get (K := RX7) (T := TX7) (N := 20) (index := 7) (ref := "MakerLinesModel") (v := .ref r26) hx hb hts hi_X7_addLine_X7 hown hw hok31 (wF_7 (S := S30) hok31.2) rfl 0 (by decide) (hts _ (List.mem_of_getElem? (i := 1) rfl)) (fun _ h9 => h9) (congrArg (fun o => some (va_rf o)) hr32) dX7_addLine_71 ?_
      refine lv_iconst (v := (2 : Int32)) hx hb dX7_addLine_74 (by decide) ?_
      refine lv_dup2_11 hx hb dX7_addLine_75 rfl rfl ?_
      refine wr_iald hx hb hw hok33 (inb_vp hin34) dX7_addLine_76 ?_
      refine lv_iconst (v := (1 : Int32)) hx hb dX7_addLine_77 (by decide) ?_
      refine lv_iadd hx hb dX7_addLine_78 ?_
      refine wr_iast hx hb hw hok33 (inb_vp hin34) dX7_addLine_79 (fun H locs hw => ?_)
      obtain ⟨S36, hS36, hg⟩ := bd_some hg
      rw [← hS36] at hw
      have hok37 : ok S36 a0 7 := by rw [hS36]; exact hok31
      have hr38 : hR S36 a0 0 = some r26 := by rw [hS36]; exact hr32
      have hok39 : ok S36 r26 8 := by rw [hS36]; exact hok33
      have hin40 : inb (2 : Int32) (hN S36 r26) := by rw [hS36]; exact hin34
      have hin41 : inb ((10 : Int32) + (hI S24 r26 (2 : Int32).toNatClampNeg)) (hN S36 r26) := by rw [hS36]; exact hin35
      refine lv_aload_n hx hb dX7_addLine_80 rfl (lv_at hl 0 rfl) ?_
      refine wr_get (K := RX7) (T := TX7) (N := 20) (index := 7) (ref := "MakerLinesModel") (v := .ref r26) hx hb hts hi_X7_addLine_X7 hown hw hok37 (wF_7 (S := S36) hok37.2) rfl 0 (by decide) (hts _ (List.mem_of_getElem? (i := 1) rfl)) (fun _ h9 => h9) (congrArg (fun o => some (va_rf o)) hr38) dX7_addLine_81 ?_
      refine lv_iconst (v := (2 : Int32)) hx hb dX7_addLine_84 (by decide) ?_
      refine wr_iald hx hb hw hok39 (inb_vp hin40) dX7_addLine_85 ?_
      refine lv_iconst (v := (1 : Int32)) hx hb dX7_addLine_86 (by decide) ?_
      refine lv_isub hx hb dX7_addLine_87 ?_
      cases hg
      exact wr_iret hx hb hr hw dX7_addLine_88 hlk
    · have hg := it_neg hg c23
      refine lv_iconst (v := (0 : Int32)) hx hb dX7_addLine_49 (by decide) ?_
      cases hg
      exact wr_iret hx hb hr hw dX7_addLine_50 hlk
  have B0 : ∀ (S : Hp) (H : Heap) (locs : List Loc) (ls : Array Slot), f_X7_addLine N S a0 x1 = some (r, S9) → Wd D C (va_A (wP C S0) z) s.heap S z H locs s → lv_has ls 2 [(0, .ref a0), (1, .int x1)] → W p l e rm_X7_addLine s m ([.ref a0, .int x1] : List Value).toArray below meth c H locs 0 0 (MQ below (QiW D C S0 z r S9 z) ([.ref a0, .int x1] : List Value).toArray s 0 0 (va_A (wP C S0) z)) (F0 m 0 ls []) := by
    intro S H locs ls hg hw hl
    unfold f_X7_addLine at hg
    refine lv_aload_n hx hb dX7_addLine_0 rfl (lv_at hl 0 rfl) ?_
    refine lv_iload_n hx hb dX7_addLine_1 rfl (lv_at hl 1 rfl) ?_
    refine lv_iconst (v := (1 : Int32)) hx hb dX7_addLine_2 (by decide) ?_
    refine lv_iconst (v := (1 : Int32)) hx hb dX7_addLine_3 (by decide) ?_
    refine lv_aload_n hx hb dX7_addLine_4 rfl (lv_at hl 0 rfl) ?_
    obtain ⟨hok10, hg⟩ := gd_some hg
    obtain ⟨r11, hr11, hg⟩ := nn_some hg
    refine wr_get (K := RX7) (T := TX7) (N := 20) (index := 7) (ref := "MakerLinesModel") (v := .ref r11) hx hb hts hi_X7_addLine_X7 hown hw hok10 (wF_7 (S := S) hok10.2) rfl 0 (by decide) (hts _ (List.mem_of_getElem? (i := 1) rfl)) (fun _ h9 => h9) (congrArg (fun o => some (va_rf o)) hr11) dX7_addLine_5 ?_
    refine lv_iconst (v := (0 : Int32)) hx hb dX7_addLine_8 (by decide) ?_
    obtain ⟨hok12, hg⟩ := gd_some hg
    obtain ⟨hin13, hg⟩ := gd_some hg
    refine wr_iald hx hb hw hok12 (inb_vp hin13) dX7_addLine_9 ?_
    refine lv_ishl hx hb dX7_addLine_10 ?_
    refine lv_iconst (v := (1 : Int32)) hx hb dX7_addLine_11 (by decide) ?_
    refine lv_isub hx hb dX7_addLine_12 ?_
    obtain ⟨r14, S14, hc14, hg⟩ := cl_some hg
    refine wr_ci (va_runS (As := [.int x1, .int (1 : Int32), .int (((1 : Int32) <<< ((hI S r11 (0 : Int32).toNatClampNeg) &&& 31)) - (1 : Int32))]) (rest := [.ref a0]) ⟨hx, hb, hml, hown, hts⟩ (c_X7_within l D C N S z x1 ((1 : Int32)) ((((1 : Int32) <<< ((hI S r11 (0 : Int32).toNatClampNeg) &&& 31)) - (1 : Int32))) r14 S14 hc14) (va_cwS 3 hts gX7_addLine_X7_within rfl rfl rfl (by decide +kernel) ⟨Nat.le_of_ble_eq_true rfl, Nat.le_of_ble_eq_true rfl⟩) (wd_preS hw) rfl rfl hl.1 rfl (lv_room (Nat.le_of_ble_eq_true rfl)) dX7_addLine_13 ⟨Nat.zero_le _, Nat.zero_le _⟩) hw (fun H locs hw => ?_)
    refine lv_if_ne (tgt := 23) hx hb dX7_addLine_16 (by decide) (fun c15 => ?_) (fun c15 => ?_)
    · have hg := it_neg hg c15
      refine lv_aload_n hx hb dX7_addLine_23 rfl (lv_at hl 0 rfl) ?_
      obtain ⟨hok16, hg⟩ := gd_some hg
      obtain ⟨r17, hr17, hg⟩ := nn_some hg
      refine wr_get (K := RX7) (T := TX7) (N := 20) (index := 7) (ref := "MakerLinesModel") (v := .ref r17) hx hb hts hi_X7_addLine_X7 hown hw hok16 (wF_7 (S := S14) hok16.2) rfl 0 (by decide) (hts _ (List.mem_of_getElem? (i := 1) rfl)) (fun _ h9 => h9) (congrArg (fun o => some (va_rf o)) hr17) dX7_addLine_24 ?_
      refine lv_iconst (v := (2 : Int32)) hx hb dX7_addLine_27 (by decide) ?_
      obtain ⟨hok18, hg⟩ := gd_some hg
      obtain ⟨hin19, hg⟩ := gd_some hg
      refine wr_iald hx hb hw hok18 (inb_vp hin19) dX7_addLine_28 ?_
      refine lv_bipush (v := (12 : Int32)) hx hb dX7_addLine_29 (by decide) ?_
      refine lv_icmp_ne (tgt := 38) hx hb dX7_addLine_31 (by decide) (fun c20 => ?_) (fun c20 => ?_)
      · have hg := it_neg hg c20
        refine lv_iconst (v := (0 : Int32)) hx hb dX7_addLine_38 (by decide) ?_
        exact B39 _ _ _ _ _ _ hg hw (lv_sub hl [0, 1] rfl)
      · have hg := it_pos hg c20
        refine lv_iconst (v := (2 : Int32)) hx hb dX7_addLine_34 (by decide) ?_
        refine lv_goto (tgt := 39) hx hb dX7_addLine_35 (by decide) ?_
        exact B39 _ _ _ _ _ _ hg hw (lv_sub hl [0, 1] rfl)
    · have hg := it_pos hg c15
      refine lv_iconst (v := (1 : Int32)) hx hb dX7_addLine_19 (by decide) ?_
      refine lv_goto (tgt := 39) hx hb dX7_addLine_20 (by decide) ?_
      exact B39 _ _ _ _ _ _ hg hw (lv_sub hl [0, 1] rfl)
  exact B0 S0 _ _ _ hg hw hl
theorem hi_X7_removeLine_X7 : ∀ w ∈ wsX70, w ∈ wsX7_removeLine := fun _ h => List.mem_cons_of_mem _ (List.mem_append_right _ (h))
abbrev rm_X7_removeLine : Room := { frames := 2, cells := 0, slots := 0, locals := 43 }
set_option maxHeartbeats 4000000 in
set_option maxRecDepth 100000 in
theorem c_X7_removeLine (l : Launch) (D : va_G) (C : C3) (N : Nat) (S0 : Hp) (z : Nat) (a0 : Nat) (x1 : Int32) (r : Int32) (S9 : Hp) (hg : f_X7_removeLine N S0 a0 x1 = some (r, S9)) : MetI l yX7_removeLine wsX7_removeLine rm_X7_removeLine D C S0 z [.ref a0, .int x1] r S9 z 0 0 := by
  refine mw_ofW (cc := cX7_removeLine) (maxL := 4) (ret := (some .int)) (lv := [(0, .ref a0), (1, .int x1)]) (by decide) rfl (Nat.le_of_ble_eq_true rfl) rfl ?_
  intro p e s m below meth c ls hx hb hr hts hown hlk hml hnm hl hw
  have hown : s.vm.findClass RX7 = some m.cls := hown
  have B52 : ∀ (K52 : Hp → Int32 → Int32 → Option (Int32 × Hp)) (hK52 : ∀ (S : Hp) (v2 : Int32) (v3 : Int32) (H : Heap) (locs : List Loc) (ls : Array Slot), K52 S v2 v3 = some (r, S9) → Wd D C (va_A (wP C S0) z) s.heap S z H locs s → lv_has ls 4 [(0, .ref a0), (2, .int v2), (3, .int v3)] → W p l e rm_X7_removeLine s m ([.ref a0, .int x1] : List Value).toArray below meth c H locs 0 0 (MQ below (QiW D C S0 z r S9 z) ([.ref a0, .int x1] : List Value).toArray s 0 0 (va_A (wP C S0) z)) (F0 m 52 ls [])) (S : Hp) (v2 : Int32) (v3 : Int32) (H : Heap) (locs : List Loc) (ls : Array Slot), f_X7_removeLine_b52 N a0 x1 K52 S v2 v3 = some (r, S9) → Wd D C (va_A (wP C S0) z) s.heap S z H locs s → lv_has ls 4 [(0, .ref a0), (2, .int v2), (3, .int v3)] → W p l e rm_X7_removeLine s m ([.ref a0, .int x1] : List Value).toArray below meth c H locs 0 0 (MQ below (QiW D C S0 z r S9 z) ([.ref a0, .int x1] : List Value).toArray s 0 0 (va_A (wP C S0) z)) (F0 m 52 ls []) := by
    intro K52 hK52 S v2 v3 H locs ls hg hw hl
    unfold f_X7_removeLine_b52 at hg
    refine lv_iload_n hx hb dX7_removeLine_52 rfl (lv_at hl 2 rfl) ?_
    refine lv_aload_n hx hb dX7_removeLine_53 rfl (lv_at hl 0 rfl) ?_
    obtain ⟨hok29, hg⟩ := gd_some hg
    obtain ⟨r30, hr30, hg⟩ := nn_some hg
    refine wr_get (K := RX7) (T := TX7) (N := 20) (index := 7) (ref := "MakerLinesModel") (v := .ref r30) hx hb hts hi_X7_removeLine_X7 hown hw hok29 (wF_7 (S := S) hok29.2) rfl 0 (by decide) (hts _ (List.mem_of_getElem? (i := 2) rfl)) (fun _ h9 => h9) (congrArg (fun o => some (va_rf o)) hr30) dX7_removeLine_54 ?_
    refine lv_iconst (v := (2 : Int32)) hx hb dX7_removeLine_57 (by decide) ?_
    obtain ⟨hok31, hg⟩ := gd_some hg
    obtain ⟨hin32, hg⟩ := gd_some hg
    refine wr_iald hx hb hw hok31 (inb_vp hin32) dX7_removeLine_58 ?_
    refine lv_icmp_ge (tgt := 88) hx hb dX7_removeLine_59 (by decide) (fun c33 => ?_) (fun c33 => ?_)
    · have hg := it_pos hg c33
      refine lv_iload_n hx hb dX7_removeLine_88 rfl (lv_at hl 1 rfl) ?_
      cases hg
      exact wr_iret hx hb hr hw dX7_removeLine_89 hlk
    · have hg := it_neg hg c33
      refine lv_aload_n hx hb dX7_removeLine_62 rfl (lv_at hl 0 rfl) ?_
      refine wr_get (K := RX7) (T := TX7) (N := 20) (index := 7) (ref := "MakerLinesModel") (v := .ref r30) hx hb hts hi_X7_removeLine_X7 hown hw hok29 (wF_7 (S := S) hok29.2) rfl 0 (by decide) (hts _ (List.mem_of_getElem? (i := 2) rfl)) (fun _ h9 => h9) (congrArg (fun o => some (va_rf o)) hr30) dX7_removeLine_63 ?_
      refine lv_bipush (v := (10 : Int32)) hx hb dX7_removeLine_66 (by decide) ?_
      refine lv_iload_n hx hb dX7_removeLine_68 rfl (lv_at hl 2 rfl) ?_
      refine lv_iadd hx hb dX7_removeLine_69 ?_
      refine lv_aload_n hx hb dX7_removeLine_70 rfl (lv_at hl 0 rfl) ?_
      refine wr_get (K := RX7) (T := TX7) (N := 20) (index := 7) (ref := "MakerLinesModel") (v := .ref r30) hx hb hts hi_X7_removeLine_X7 hown hw hok29 (wF_7 (S := S) hok29.2) rfl 0 (by decide) (hts _ (List.mem_of_getElem? (i := 2) rfl)) (fun _ h9 => h9) (congrArg (fun o => some (va_rf o)) hr30) dX7_removeLine_71 ?_
      refine lv_bipush (v := (10 : Int32)) hx hb dX7_removeLine_74 (by decide) ?_
      refine lv_iload_n hx hb dX7_removeLine_76 rfl (lv_at hl 2 rfl) ?_
      refine lv_iadd hx hb dX7_removeLine_77 ?_
      refine lv_iconst (v := (1 : Int32)) hx hb dX7_removeLine_78 (by decide) ?_
      refine lv_iadd hx hb dX7_removeLine_79 ?_
      obtain ⟨hin34, hg⟩ := gd_some hg
      refine wr_iald hx hb hw hok31 (inb_vp hin34) dX7_removeLine_80 ?_
      obtain ⟨hin35, hg⟩ := gd_some hg
      refine wr_iast hx hb hw hok31 (inb_vp hin35) dX7_removeLine_81 (fun H locs hw => ?_)
      obtain ⟨S36, hS36, hg⟩ := bd_some hg
      rw [← hS36] at hw
      have hok37 : ok S36 a0 7 := by rw [hS36]; exact hok29
      have hr38 : hR S36 a0 0 = some r30 := by rw [hS36]; exact hr30
      have hok39 : ok S36 r30 8 := by rw [hS36]; exact hok31
      have hin40 : inb (2 : Int32) (hN S36 r30) := by rw [hS36]; exact hin32
      have hin41 : inb (((10 : Int32) + v3) + (1 : Int32)) (hN S36 r30) := by rw [hS36]; exact hin34
      have hin42 : inb ((10 : Int32) + v3) (hN S36 r30) := by rw [hS36]; exact hin35
      refine lv_iinc (v := (v3 + (1 : Int32))) (lv' := [(3, .int (v3 + (1 : Int32))), (0, .ref a0), (2, .int v2)]) hx hb dX7_removeLine_82 hl (k := 2) rfl rfl (by decide) rfl (fun ls hl => ?_)
      refine lv_goto (tgt := 52) hx hb dX7_removeLine_85 (by decide) ?_
      exact hK52 _ _ _ _ _ _ hg hw (lv_sub hl [1, 2, 0] rfl)
  have L52 : ∀ (k : Nat) (S : Hp) (v2 : Int32) (v3 : Int32) (H : Heap) (locs : List Loc) (ls : Array Slot), f_X7_removeLine_l52 N a0 x1 k S v2 v3 = some (r, S9) → Wd D C (va_A (wP C S0) z) s.heap S z H locs s → lv_has ls 4 [(0, .ref a0), (2, .int v2), (3, .int v3)] → W p l e rm_X7_removeLine s m ([.ref a0, .int x1] : List Value).toArray below meth c H locs 0 0 (MQ below (QiW D C S0 z r S9 z) ([.ref a0, .int x1] : List Value).toArray s 0 0 (va_A (wP C S0) z)) (F0 m 52 ls []) := by
    intro k
    induction k with
    | zero => intro S v2 v3 H locs ls hg hw hl; exact absurd (show (none : Option (Int32 × Hp)) = some (r, S9) from hg) (by simp)
    | succ k ih => intro S v2 v3 H locs ls hg hw hl; exact B52 (f_X7_removeLine_l52 N a0 x1 k) ih S v2 v3 H locs ls hg hw hl
  have B14 : ∀ (S : Hp) (s0 : Int32) (s1 : Nat) (H : Heap) (locs : List Loc) (ls : Array Slot), f_X7_removeLine_b14 N a0 x1 S s0 s1 = some (r, S9) → Wd D C (va_A (wP C S0) z) s.heap S z H locs s → lv_has ls 4 [(0, .ref a0), (1, .int x1)] → W p l e rm_X7_removeLine s m ([.ref a0, .int x1] : List Value).toArray below meth c H locs 0 0 (MQ below (QiW D C S0 z r S9 z) ([.ref a0, .int x1] : List Value).toArray s 0 0 (va_A (wP C S0) z)) (F0 m 14 ls [.int s0, .ref s1]) := by
    intro S s0 s1 H locs ls hg hw hl
    unfold f_X7_removeLine_b14 at hg
    obtain ⟨hok13, hg⟩ := gd_some hg
    refine wr_put (K := RX7) (T := TX7) (N := 20) (index := 50) (ref := "MakerLinesModel") (ty := (.int)) (S1 := (sI S s1 7 s0)) hx hb hts hi_X7_removeLine_X7 tyX7 tyX7_ok nmX7 hown hw hok13 (wF_7 (S := S) hok13.2) rfl (fun b hb9 => wF_sI_ne hb9) 7 (wq_7_7 (S := S) hok13.2 _) rfl (by decide) (hts _ (List.mem_of_getElem? (i := 1) rfl)) (fun _ h9 => h9) rfl (by decide +kernel) rfl rfl (Nat.le_of_ble_eq_true rfl) dX7_removeLine_14 (fun H locs hw => ?_)
    refine lv_aload_n hx hb dX7_removeLine_17 rfl (lv_at hl 0 rfl) ?_
    obtain ⟨hok14, hg⟩ := gd_some hg
    refine wr_get (K := RX7) (T := TX7) (N := 20) (index := 50) (ref := "MakerLinesModel") (v := .int (hI ((sI S s1 7 s0)) a0 7)) hx hb hts hi_X7_removeLine_X7 hown hw hok14 (wF_7 (S := (sI S s1 7 s0)) hok14.2) rfl 7 (by decide) (hts _ (List.mem_of_getElem? (i := 1) rfl)) (fun _ h9 => h9) rfl dX7_removeLine_18 ?_
    refine lv_if_le (tgt := 26) hx hb dX7_removeLine_21 (by decide) (fun c15 => ?_) (fun c15 => ?_)
    · have hg := it_pos hg c15
      refine lv_aload_n hx hb dX7_removeLine_26 rfl (lv_at hl 0 rfl) ?_
      obtain ⟨⟨⟩, S16, hc16, hg⟩ := cl_some hg
      refine wr_cv (va_runV (As := []) (rest := []) ⟨hx, hb, hml, hown, hts⟩ (c_X7_save l D C N ((sI S s1 7 s0)) z a0 () S16 hc16) (cwV 0 hts gX7_removeLine_X7_save rfl rfl rfl (by decide +kernel) ⟨Nat.le_of_ble_eq_true rfl, Nat.le_of_ble_eq_true rfl⟩) (wd_preV hw hok14 (wF_7 (S := (sI S s1 7 s0)) hok14.2) rfl) rfl rfl hl.1 rfl (lv_room (Nat.le_of_ble_eq_true rfl)) dX7_removeLine_27 ⟨Nat.zero_le _, Nat.zero_le _⟩) hw (fun H locs hw => ?_)
      refine lv_aload_n hx hb dX7_removeLine_30 rfl (lv_at hl 0 rfl) ?_
      obtain ⟨hok17, hg⟩ := gd_some hg
      obtain ⟨r18, hr18, hg⟩ := nn_some hg
      refine wr_get (K := RX7) (T := TX7) (N := 20) (index := 7) (ref := "MakerLinesModel") (v := .ref r18) hx hb hts hi_X7_removeLine_X7 hown hw hok17 (wF_7 (S := S16) hok17.2) rfl 0 (by decide) (hts _ (List.mem_of_getElem? (i := 2) rfl)) (fun _ h9 => h9) (congrArg (fun o => some (va_rf o)) hr18) dX7_removeLine_31 ?_
      refine lv_bipush (v := (10 : Int32)) hx hb dX7_removeLine_34 (by decide) ?_
      refine lv_iload_n hx hb dX7_removeLine_36 rfl (lv_at hl 1 rfl) ?_
      refine lv_iadd hx hb dX7_removeLine_37 ?_
      obtain ⟨hok19, hg⟩ := gd_some hg
      obtain ⟨hin20, hg⟩ := gd_some hg
      refine wr_iald hx hb hw hok19 (inb_vp hin20) dX7_removeLine_38 ?_
      obtain ⟨e21, he21, hg⟩ := bd_some hg
      refine lv_istore_n (lv' := [(2, .int e21), (0, .ref a0), (1, .int x1)]) hx hb dX7_removeLine_39 rfl hl (by decide) (by rw [he21]; rfl) (fun ls hl => ?_)
      refine lv_aload_n hx hb dX7_removeLine_40 rfl (lv_at hl 1 rfl) ?_
      refine wr_get (K := RX7) (T := TX7) (N := 20) (index := 7) (ref := "MakerLinesModel") (v := .ref r18) hx hb hts hi_X7_removeLine_X7 hown hw hok17 (wF_7 (S := S16) hok17.2) rfl 0 (by decide) (hts _ (List.mem_of_getElem? (i := 2) rfl)) (fun _ h9 => h9) (congrArg (fun o => some (va_rf o)) hr18) dX7_removeLine_41 ?_
      refine lv_iconst (v := (2 : Int32)) hx hb dX7_removeLine_44 (by decide) ?_
      refine lv_dup2_11 hx hb dX7_removeLine_45 rfl rfl ?_
      obtain ⟨hin22, hg⟩ := gd_some hg
      refine wr_iald hx hb hw hok19 (inb_vp hin22) dX7_removeLine_46 ?_
      refine lv_iconst (v := (1 : Int32)) hx hb dX7_removeLine_47 (by decide) ?_
      refine lv_isub hx hb dX7_removeLine_48 ?_
      refine wr_iast hx hb hw hok19 (inb_vp hin22) dX7_removeLine_49 (fun H locs hw => ?_)
      obtain ⟨S23, hS23, hg⟩ := bd_some hg
      rw [← hS23] at hw
      have hok24 : ok S23 a0 7 := by rw [hS23]; exact hok17
      have hr25 : hR S23 a0 0 = some r18 := by rw [hS23]; exact hr18
      have hok26 : ok S23 r18 8 := by rw [hS23]; exact hok19
      have hin27 : inb ((10 : Int32) + x1) (hN S23 r18) := by rw [hS23]; exact hin20
      have hin28 : inb (2 : Int32) (hN S23 r18) := by rw [hS23]; exact hin22
      refine lv_iload_n hx hb dX7_removeLine_50 rfl (lv_at hl 2 rfl) ?_
      refine lv_istore_n (lv' := [(3, .int x1), (2, .int e21), (0, .ref a0), (1, .int x1)]) hx hb dX7_removeLine_51 rfl hl (by decide) rfl (fun ls hl => ?_)
      exact L52 N _ _ _ _ _ _ hg hw (lv_sub hl [2, 1, 0] rfl)
    · have hg := it_neg hg c15
      refine lv_iconst (v := (0 : Int32)) hx hb dX7_removeLine_24 (by decide) ?_
      cases hg
      exact wr_iret hx hb hr hw dX7_removeLine_25 hlk
  have B0 : ∀ (S : Hp) (H : Heap) (locs : List Loc) (ls : Array Slot), f_X7_removeLine N S a0 x1 = some (r, S9) → Wd D C (va_A (wP C S0) z) s.heap S z H locs s → lv_has ls 4 [(0, .ref a0), (1, .int x1)] → W p l e rm_X7_removeLine s m ([.ref a0, .int x1] : List Value).toArray below meth c H locs 0 0 (MQ below (QiW D C S0 z r S9 z) ([.ref a0, .int x1] : List Value).toArray s 0 0 (va_A (wP C S0) z)) (F0 m 0 ls []) := by
    intro S H locs ls hg hw hl
    unfold f_X7_removeLine at hg
    refine lv_aload_n hx hb dX7_removeLine_0 rfl (lv_at hl 0 rfl) ?_
    refine lv_aload_n hx hb dX7_removeLine_1 rfl (lv_at hl 0 rfl) ?_
    refine lv_iload_n hx hb dX7_removeLine_2 rfl (lv_at hl 1 rfl) ?_
    obtain ⟨hok10, hg⟩ := gd_some hg
    obtain ⟨r11, S11, hc11, hg⟩ := cl_some hg
    refine wr_ci (va_runV (As := [.int x1]) (rest := [.ref a0]) ⟨hx, hb, hml, hown, hts⟩ (c_X7_isLine l D C N S z a0 x1 r11 S11 hc11) (cwV 1 hts gX7_removeLine_X7_isLine rfl rfl rfl (by decide +kernel) ⟨Nat.le_of_ble_eq_true rfl, Nat.le_of_ble_eq_true rfl⟩) (wd_preV hw hok10 (wF_7 (S := S) hok10.2) rfl) rfl rfl hl.1 rfl (lv_room (Nat.le_of_ble_eq_true rfl)) dX7_removeLine_3 ⟨Nat.zero_le _, Nat.zero_le _⟩) hw (fun H locs hw => ?_)
    refine lv_if_eq (tgt := 13) hx hb dX7_removeLine_6 (by decide) (fun c12 => ?_) (fun c12 => ?_)
    · have hg := it_pos hg c12
      refine lv_iconst (v := (1 : Int32)) hx hb dX7_removeLine_13 (by decide) ?_
      exact B14 _ _ _ _ _ _ hg hw (lv_sub hl [0, 1] rfl)
    · have hg := it_neg hg c12
      refine lv_iconst (v := (0 : Int32)) hx hb dX7_removeLine_9 (by decide) ?_
      refine lv_goto (tgt := 14) hx hb dX7_removeLine_10 (by decide) ?_
      exact B14 _ _ _ _ _ _ hg hw (lv_sub hl [0, 1] rfl)
  exact B0 S0 _ _ _ hg hw hl
theorem hi_X7_clear_X7 : ∀ w ∈ wsX70, w ∈ wsX7_clear := fun _ h => List.mem_cons_of_mem _ (List.mem_append_right _ (h))
abbrev rm_X7_clear : Room := { frames := 1, cells := 0, slots := 0, locals := 22 }
set_option maxHeartbeats 4000000 in
set_option maxRecDepth 100000 in
theorem c_X7_clear (l : Launch) (D : va_G) (C : C3) (N : Nat) (S0 : Hp) (z : Nat) (a0 : Nat) (x1 : Int32) (r : Int32) (S9 : Hp) (hg : f_X7_clear N S0 a0 x1 = some (r, S9)) : MetI l yX7_clear wsX7_clear rm_X7_clear D C S0 z [.ref a0, .int x1] r S9 z 0 0 := by
  refine mw_ofW (cc := cX7_clear) (maxL := 3) (ret := (some .int)) (lv := [(0, .ref a0), (1, .int x1)]) (by decide) rfl (Nat.le_of_ble_eq_true rfl) rfl ?_
  intro p e s m below meth c ls hx hb hr hts hown hlk hml hnm hl hw
  have hown : s.vm.findClass RX7 = some m.cls := hown
  have B32 : ∀ (S : Hp) (v2 : Int32) (s0 : Int32) (s1 : Nat) (H : Heap) (locs : List Loc) (ls : Array Slot), f_X7_clear_b32 N a0 x1 S v2 s0 s1 = some (r, S9) → Wd D C (va_A (wP C S0) z) s.heap S z H locs s → lv_has ls 3 [(2, .int v2)] → W p l e rm_X7_clear s m ([.ref a0, .int x1] : List Value).toArray below meth c H locs 0 0 (MQ below (QiW D C S0 z r S9 z) ([.ref a0, .int x1] : List Value).toArray s 0 0 (va_A (wP C S0) z)) (F0 m 32 ls [.int s0, .ref s1]) := by
    intro S v2 s0 s1 H locs ls hg hw hl
    unfold f_X7_clear_b32 at hg
    obtain ⟨hok18, hg⟩ := gd_some hg
    obtain ⟨⟨⟩, S19, hc19, hg⟩ := cl_some hg
    refine wr_cv (va_runV (As := [.int s0]) (rest := []) ⟨hx, hb, hml, hown, hts⟩ (c_X7_empties l D C N S z s1 s0 () S19 hc19) (cwV 1 hts gX7_clear_X7_empties rfl rfl rfl (by decide +kernel) ⟨Nat.le_of_ble_eq_true rfl, Nat.le_of_ble_eq_true rfl⟩) (wd_preV hw hok18 (wF_7 (S := S) hok18.2) rfl) rfl rfl hl.1 rfl (lv_room (Nat.le_of_ble_eq_true rfl)) dX7_clear_32 ⟨Nat.zero_le _, Nat.zero_le _⟩) hw (fun H locs hw => ?_)
    refine lv_iload_n hx hb dX7_clear_35 rfl (lv_at hl 0 rfl) ?_
    cases hg
    exact wr_iret hx hb hr hw dX7_clear_36 hlk
  have B0 : ∀ (S : Hp) (H : Heap) (locs : List Loc) (ls : Array Slot), f_X7_clear N S a0 x1 = some (r, S9) → Wd D C (va_A (wP C S0) z) s.heap S z H locs s → lv_has ls 3 [(0, .ref a0), (1, .int x1)] → W p l e rm_X7_clear s m ([.ref a0, .int x1] : List Value).toArray below meth c H locs 0 0 (MQ below (QiW D C S0 z r S9 z) ([.ref a0, .int x1] : List Value).toArray s 0 0 (va_A (wP C S0) z)) (F0 m 0 ls []) := by
    intro S H locs ls hg hw hl
    unfold f_X7_clear at hg
    refine lv_aload_n hx hb dX7_clear_0 rfl (lv_at hl 0 rfl) ?_
    refine lv_iconst (v := (0 : Int32)) hx hb dX7_clear_1 (by decide) ?_
    obtain ⟨hok10, hg⟩ := gd_some hg
    refine wr_put (K := RX7) (T := TX7) (N := 20) (index := 50) (ref := "MakerLinesModel") (ty := (.int)) (S1 := (sI S a0 7 (0 : Int32))) hx hb hts hi_X7_clear_X7 tyX7 tyX7_ok nmX7 hown hw hok10 (wF_7 (S := S) hok10.2) rfl (fun b hb9 => wF_sI_ne hb9) 7 (wq_7_7 (S := S) hok10.2 _) rfl (by decide) (hts _ (List.mem_of_getElem? (i := 1) rfl)) (fun _ h9 => h9) rfl (by decide +kernel) rfl rfl (Nat.le_of_ble_eq_true rfl) dX7_clear_2 (fun H locs hw => ?_)
    refine lv_aload_n hx hb dX7_clear_5 rfl (lv_at hl 0 rfl) ?_
    obtain ⟨⟨⟩, S11, hc11, hg⟩ := cl_some hg
    refine wr_cv (va_runV (As := []) (rest := []) ⟨hx, hb, hml, hown, hts⟩ (c_X7_save l D C N ((sI S a0 7 (0 : Int32))) z a0 () S11 hc11) (cwV 0 hts gX7_clear_X7_save rfl rfl rfl (by decide +kernel) ⟨Nat.le_of_ble_eq_true rfl, Nat.le_of_ble_eq_true rfl⟩) (wd_preV hw hok10 (wF_7 (S := (sI S a0 7 (0 : Int32))) hok10.2) rfl) rfl rfl hl.1 rfl (lv_room (Nat.le_of_ble_eq_true rfl)) dX7_clear_6 ⟨Nat.zero_le _, Nat.zero_le _⟩) hw (fun H locs hw => ?_)
    refine lv_aload_n hx hb dX7_clear_9 rfl (lv_at hl 0 rfl) ?_
    obtain ⟨hok12, hg⟩ := gd_some hg
    obtain ⟨r13, S13, hc13, hg⟩ := cl_some hg
    refine wr_ci (va_runV (As := []) (rest := []) ⟨hx, hb, hml, hown, hts⟩ (c_X7_maker l D C N S11 z a0 r13 S13 hc13) (cwV 0 hts gX7_clear_X7_maker rfl rfl rfl (by decide +kernel) ⟨Nat.le_of_ble_eq_true rfl, Nat.le_of_ble_eq_true rfl⟩) (wd_preV hw hok12 (wF_7 (S := S11) hok12.2) rfl) rfl rfl hl.1 rfl (lv_room (Nat.le_of_ble_eq_true rfl)) dX7_clear_10 ⟨Nat.zero_le _, Nat.zero_le _⟩) hw (fun H locs hw => ?_)
    refine lv_aload_n hx hb dX7_clear_13 rfl (lv_at hl 0 rfl) ?_
    obtain ⟨hok14, hg⟩ := gd_some hg
    obtain ⟨r15, S15, hc15, hg⟩ := cl_some hg
    refine wr_ci (va_runV (As := []) (rest := [.int r13]) ⟨hx, hb, hml, hown, hts⟩ (c_X7_breaker l D C N S13 z a0 r15 S15 hc15) (cwV 0 hts gX7_clear_X7_breaker rfl rfl rfl (by decide +kernel) ⟨Nat.le_of_ble_eq_true rfl, Nat.le_of_ble_eq_true rfl⟩) (wd_preV hw hok14 (wF_7 (S := S13) hok14.2) rfl) rfl rfl hl.1 rfl (lv_room (Nat.le_of_ble_eq_true rfl)) dX7_clear_14 ⟨Nat.zero_le _, Nat.zero_le _⟩) hw (fun H locs hw => ?_)
    refine lv_ior hx hb dX7_clear_17 ?_
    obtain ⟨r16, S16, hc16, hg⟩ := cl_some hg
    refine wr_ci (va_runS (As := [.int (r13 ||| r15)]) (rest := []) ⟨hx, hb, hml, hown, hts⟩ (c_X7_ones l D C N S15 z ((r13 ||| r15)) r16 S16 hc16) (va_cwS 1 hts gX7_clear_X7_ones rfl rfl rfl (by decide +kernel) ⟨Nat.le_of_ble_eq_true rfl, Nat.le_of_ble_eq_true rfl⟩) (wd_preS hw) rfl rfl hl.1 rfl (lv_room (Nat.le_of_ble_eq_true rfl)) dX7_clear_18 ⟨Nat.zero_le _, Nat.zero_le _⟩) hw (fun H locs hw => ?_)
    refine lv_istore_n (lv' := [(2, .int r16), (0, .ref a0), (1, .int x1)]) hx hb dX7_clear_21 rfl hl (by decide) rfl (fun ls hl => ?_)
    refine lv_aload_n hx hb dX7_clear_22 rfl (lv_at hl 1 rfl) ?_
    refine lv_iload_n hx hb dX7_clear_23 rfl (lv_at hl 2 rfl) ?_
    refine lv_if_eq (tgt := 31) hx hb dX7_clear_24 (by decide) (fun c17 => ?_) (fun c17 => ?_)
    · have hg := it_pos hg c17
      refine lv_iconst (v := (2 : Int32)) hx hb dX7_clear_31 (by decide) ?_
      exact B32 _ _ _ _ _ _ _ hg hw (lv_sub hl [0] rfl)
    · have hg := it_neg hg c17
      refine lv_iconst (v := (1 : Int32)) hx hb dX7_clear_27 (by decide) ?_
      refine lv_goto (tgt := 32) hx hb dX7_clear_28 (by decide) ?_
      exact B32 _ _ _ _ _ _ _ hg hw (lv_sub hl [0] rfl)
  exact B0 S0 _ _ _ hg hw hl
theorem hi_X7_moves_X7 : ∀ w ∈ wsX70, w ∈ wsX7_moves := fun _ h => List.mem_cons_of_mem _ (List.mem_append_right _ (h))
abbrev rm_X7_moves : Room := { frames := 7, cells := 0, slots := 0, locals := 149 }
set_option maxHeartbeats 4000000 in
set_option maxRecDepth 100000 in
theorem c_X7_moves (l : Launch) (D : va_G) (C : C3) (N : Nat) (S0 : Hp) (z : Nat) (a0 : Nat) (x1 : Int32) (r : Unit) (S9 : Hp) (hg : f_X7_moves N S0 a0 x1 = some (r, S9)) : MetV l yX7_moves wsX7_moves rm_X7_moves D C S0 z [.ref a0, .int x1] r S9 z 0 0 := by
  refine mw_ofW (cc := cX7_moves) (maxL := 3) (ret := none) (lv := [(0, .ref a0), (1, .int x1)]) (by decide) rfl (Nat.le_of_ble_eq_true rfl) rfl ?_
  intro p e s m below meth c ls hx hb hr hts hown hlk hml hnm hl hw
  have hown : s.vm.findClass RX7 = some m.cls := hown
  have B0 : ∀ (S : Hp) (H : Heap) (locs : List Loc) (ls : Array Slot), f_X7_moves N S a0 x1 = some (r, S9) → Wd D C (va_A (wP C S0) z) s.heap S z H locs s → lv_has ls 3 [(0, .ref a0), (1, .int x1)] → W p l e rm_X7_moves s m ([.ref a0, .int x1] : List Value).toArray below meth c H locs 0 0 (MQ below (QvW D C S0 z r S9 z) ([.ref a0, .int x1] : List Value).toArray s 0 0 (va_A (wP C S0) z)) (F0 m 0 ls []) := by
    intro S H locs ls hg hw hl
    unfold f_X7_moves at hg
    refine lv_aload_n hx hb dX7_moves_0 rfl (lv_at hl 0 rfl) ?_
    obtain ⟨hok10, hg⟩ := gd_some hg
    obtain ⟨r11, hr11, hg⟩ := nn_some hg
    refine wr_get (K := RX7) (T := TX7) (N := 20) (index := 7) (ref := "MakerLinesModel") (v := .ref r11) hx hb hts hi_X7_moves_X7 hown hw hok10 (wF_7 (S := S) hok10.2) rfl 0 (by decide) (hts _ (List.mem_of_getElem? (i := 1) rfl)) (fun _ h9 => h9) (congrArg (fun o => some (va_rf o)) hr11) dX7_moves_1 ?_
    refine lv_bipush (v := (6 : Int32)) hx hb dX7_moves_4 (by decide) ?_
    refine lv_aload_n hx hb dX7_moves_6 rfl (lv_at hl 0 rfl) ?_
    refine lv_iload_n hx hb dX7_moves_7 rfl (lv_at hl 1 rfl) ?_
    obtain ⟨r12, S12, hc12, hg⟩ := cl_some hg
    refine wr_ci (va_runV (As := [.int x1]) (rest := [.int (6 : Int32), .ref r11]) ⟨hx, hb, hml, hown, hts⟩ (c_X7_partnerOf l D C N S z a0 x1 r12 S12 hc12) (cwV 1 hts gX7_moves_X7_partnerOf rfl rfl rfl (by decide +kernel) ⟨Nat.le_of_ble_eq_true rfl, Nat.le_of_ble_eq_true rfl⟩) (wd_preV hw hok10 (wF_7 (S := S) hok10.2) rfl) rfl rfl hl.1 rfl (lv_room (Nat.le_of_ble_eq_true rfl)) dX7_moves_8 ⟨Nat.zero_le _, Nat.zero_le _⟩) hw (fun H locs hw => ?_)
    obtain ⟨hok13, hg⟩ := gd_some hg
    obtain ⟨hin14, hg⟩ := gd_some hg
    refine wr_iast hx hb hw hok13 (inb_vp hin14) dX7_moves_11 (fun H locs hw => ?_)
    refine lv_aload_n hx hb dX7_moves_12 rfl (lv_at hl 0 rfl) ?_
    obtain ⟨hok15, hg⟩ := gd_some hg
    obtain ⟨r16, hr16, hg⟩ := nn_some hg
    refine wr_get (K := RX7) (T := TX7) (N := 20) (index := 7) (ref := "MakerLinesModel") (v := .ref r16) hx hb hts hi_X7_moves_X7 hown hw hok15 (wF_7 (S := (sI S12 r11 (6 : Int32).toNatClampNeg r12)) hok15.2) rfl 0 (by decide) (hts _ (List.mem_of_getElem? (i := 1) rfl)) (fun _ h9 => h9) (congrArg (fun o => some (va_rf o)) hr16) dX7_moves_13 ?_
    refine lv_iconst (v := (2 : Int32)) hx hb dX7_moves_16 (by decide) ?_
    refine lv_aload_n hx hb dX7_moves_17 rfl (lv_at hl 0 rfl) ?_
    refine wr_get (K := RX7) (T := TX7) (N := 20) (index := 7) (ref := "MakerLinesModel") (v := .ref r16) hx hb hts hi_X7_moves_X7 hown hw hok15 (wF_7 (S := (sI S12 r11 (6 : Int32).toNatClampNeg r12)) hok15.2) rfl 0 (by decide) (hts _ (List.mem_of_getElem? (i := 1) rfl)) (fun _ h9 => h9) (congrArg (fun o => some (va_rf o)) hr16) dX7_moves_18 ?_
    refine lv_iconst (v := (1 : Int32)) hx hb dX7_moves_21 (by decide) ?_
    obtain ⟨hok17, hg⟩ := gd_some hg
    obtain ⟨hin18, hg⟩ := gd_some hg
    refine wr_iald hx hb hw hok17 (inb_vp hin18) dX7_moves_22 ?_
    refine lv_iadd hx hb dX7_moves_23 ?_
    refine lv_dup2_11 hx hb dX7_moves_24 rfl rfl ?_
    obtain ⟨hin19, hg⟩ := gd_some hg
    refine wr_iald hx hb hw hok17 (inb_vp hin19) dX7_moves_25 ?_
    refine lv_iconst (v := (1 : Int32)) hx hb dX7_moves_26 (by decide) ?_
    refine lv_iload_n hx hb dX7_moves_27 rfl (lv_at hl 1 rfl) ?_
    refine lv_ishl hx hb dX7_moves_28 ?_
    refine lv_ior hx hb dX7_moves_29 ?_
    refine wr_iast hx hb hw hok17 (inb_vp hin19) dX7_moves_30 (fun H locs hw => ?_)
    obtain ⟨S20, hS20, hg⟩ := bd_some hg
    rw [← hS20] at hw
    have hok21 : ok S20 r11 8 := by rw [hS20]; exact hok13
    have hin22 : inb (6 : Int32) (hN S20 r11) := by rw [hS20]; exact hin14
    have hok23 : ok S20 a0 7 := by rw [hS20]; exact hok15
    have hr24 : hR S20 a0 0 = some r16 := by rw [hS20]; exact hr16
    have hok25 : ok S20 r16 8 := by rw [hS20]; exact hok17
    have hin26 : inb (1 : Int32) (hN S20 r16) := by rw [hS20]; exact hin18
    have hin27 : inb ((2 : Int32) + (hI ((sI S12 r11 (6 : Int32).toNatClampNeg r12)) r16 (1 : Int32).toNatClampNeg)) (hN S20 r16) := by rw [hS20]; exact hin19
    refine lv_aload_n hx hb dX7_moves_31 rfl (lv_at hl 0 rfl) ?_
    refine wr_get (K := RX7) (T := TX7) (N := 20) (index := 7) (ref := "MakerLinesModel") (v := .ref r16) hx hb hts hi_X7_moves_X7 hown hw hok23 (wF_7 (S := S20) hok23.2) rfl 0 (by decide) (hts _ (List.mem_of_getElem? (i := 1) rfl)) (fun _ h9 => h9) (congrArg (fun o => some (va_rf o)) hr24) dX7_moves_32 ?_
    refine lv_iconst (v := (5 : Int32)) hx hb dX7_moves_35 (by decide) ?_
    refine lv_iload_n hx hb dX7_moves_36 rfl (lv_at hl 1 rfl) ?_
    obtain ⟨hin28, hg⟩ := gd_some hg
    refine wr_iast hx hb hw hok25 (inb_vp hin28) dX7_moves_37 (fun H locs hw => ?_)
    refine lv_aload_n hx hb dX7_moves_38 rfl (lv_at hl 0 rfl) ?_
    refine wr_get (K := RX7) (T := TX7) (N := 20) (index := 7) (ref := "MakerLinesModel") (v := .ref r16) hx hb hts hi_X7_moves_X7 hown hw hok23 (wF_7 (S := (sI S20 r16 (5 : Int32).toNatClampNeg x1)) hok23.2) rfl 0 (by decide) (hts _ (List.mem_of_getElem? (i := 1) rfl)) (fun _ h9 => h9) (congrArg (fun o => some (va_rf o)) hr24) dX7_moves_39 ?_
    refine lv_iconst (v := (1 : Int32)) hx hb dX7_moves_42 (by decide) ?_
    refine lv_iconst (v := (3 : Int32)) hx hb dX7_moves_43 (by decide) ?_
    refine lv_aload_n hx hb dX7_moves_44 rfl (lv_at hl 0 rfl) ?_
    refine wr_get (K := RX7) (T := TX7) (N := 20) (index := 7) (ref := "MakerLinesModel") (v := .ref r16) hx hb hts hi_X7_moves_X7 hown hw hok23 (wF_7 (S := (sI S20 r16 (5 : Int32).toNatClampNeg x1)) hok23.2) rfl 0 (by decide) (hts _ (List.mem_of_getElem? (i := 1) rfl)) (fun _ h9 => h9) (congrArg (fun o => some (va_rf o)) hr24) dX7_moves_45 ?_
    refine lv_iconst (v := (1 : Int32)) hx hb dX7_moves_48 (by decide) ?_
    refine wr_iald hx hb hw hok25 (inb_vp hin26) dX7_moves_49 ?_
    refine lv_isub hx hb dX7_moves_50 ?_
    refine wr_iast hx hb hw hok25 (inb_vp hin26) dX7_moves_51 (fun H locs hw => ?_)
    obtain ⟨S29, hS29, hg⟩ := bd_some hg
    rw [← hS29] at hw
    have hok30 : ok S29 r11 8 := by rw [hS29]; exact hok21
    have hin31 : inb (6 : Int32) (hN S29 r11) := by rw [hS29]; exact hin22
    have hok32 : ok S29 a0 7 := by rw [hS29]; exact hok23
    have hr33 : hR S29 a0 0 = some r16 := by rw [hS29]; exact hr24
    have hok34 : ok S29 r16 8 := by rw [hS29]; exact hok25
    have hin35 : inb (1 : Int32) (hN S29 r16) := by rw [hS29]; exact hin26
    have hin36 : inb ((2 : Int32) + (hI ((sI S12 r11 (6 : Int32).toNatClampNeg r12)) r16 (1 : Int32).toNatClampNeg)) (hN S29 r16) := by rw [hS29]; exact hin27
    have hin37 : inb (5 : Int32) (hN S29 r16) := by rw [hS29]; exact hin28
    refine lv_aload_n hx hb dX7_moves_52 rfl (lv_at hl 0 rfl) ?_
    refine wr_get (K := RX7) (T := TX7) (N := 20) (index := 7) (ref := "MakerLinesModel") (v := .ref r16) hx hb hts hi_X7_moves_X7 hown hw hok32 (wF_7 (S := S29) hok32.2) rfl 0 (by decide) (hts _ (List.mem_of_getElem? (i := 1) rfl)) (fun _ h9 => h9) (congrArg (fun o => some (va_rf o)) hr33) dX7_moves_53 ?_
    refine lv_bipush (v := (7 : Int32)) hx hb dX7_moves_56 (by decide) ?_
    refine lv_dup2_11 hx hb dX7_moves_58 rfl rfl ?_
    obtain ⟨hin38, hg⟩ := gd_some hg
    refine wr_iald hx hb hw hok34 (inb_vp hin38) dX7_moves_59 ?_
    refine lv_iconst (v := (1 : Int32)) hx hb dX7_moves_60 (by decide) ?_
    refine lv_iadd hx hb dX7_moves_61 ?_
    refine wr_iast hx hb hw hok34 (inb_vp hin38) dX7_moves_62 (fun H locs hw => ?_)
    obtain ⟨S39, hS39, hg⟩ := bd_some hg
    rw [← hS39] at hw
    have hok40 : ok S39 r11 8 := by rw [hS39]; exact hok30
    have hin41 : inb (6 : Int32) (hN S39 r11) := by rw [hS39]; exact hin31
    have hok42 : ok S39 a0 7 := by rw [hS39]; exact hok32
    have hr43 : hR S39 a0 0 = some r16 := by rw [hS39]; exact hr33
    have hok44 : ok S39 r16 8 := by rw [hS39]; exact hok34
    have hin45 : inb (1 : Int32) (hN S39 r16) := by rw [hS39]; exact hin35
    have hin46 : inb ((2 : Int32) + (hI ((sI S12 r11 (6 : Int32).toNatClampNeg r12)) r16 (1 : Int32).toNatClampNeg)) (hN S39 r16) := by rw [hS39]; exact hin36
    have hin47 : inb (5 : Int32) (hN S39 r16) := by rw [hS39]; exact hin37
    have hin48 : inb (7 : Int32) (hN S39 r16) := by rw [hS39]; exact hin38
    refine lv_aload_n hx hb dX7_moves_63 rfl (lv_at hl 0 rfl) ?_
    obtain ⟨r49, S49, hc49, hg⟩ := cl_some hg
    refine wr_ci (va_runV (As := []) (rest := []) ⟨hx, hb, hml, hown, hts⟩ (c_X7_winnerNow l D C N S39 z a0 r49 S49 hc49) (cwV 0 hts gX7_moves_X7_winnerNow rfl rfl rfl (by decide +kernel) ⟨Nat.le_of_ble_eq_true rfl, Nat.le_of_ble_eq_true rfl⟩) (wd_preV hw hok42 (wF_7 (S := S39) hok42.2) rfl) rfl rfl hl.1 rfl (lv_room (Nat.le_of_ble_eq_true rfl)) dX7_moves_64 ⟨Nat.zero_le _, Nat.zero_le _⟩) hw (fun H locs hw => ?_)
    refine lv_istore_n (lv' := [(2, .int r49), (0, .ref a0), (1, .int x1)]) hx hb dX7_moves_67 rfl hl (by decide) rfl (fun ls hl => ?_)
    refine lv_iload_n hx hb dX7_moves_68 rfl (lv_at hl 0 rfl) ?_
    refine lv_if_le (tgt := 85) hx hb dX7_moves_69 (by decide) (fun c50 => ?_) (fun c50 => ?_)
    · have hg := it_pos hg c50
      cases hg
      exact wr_vret hx hb hr hw dX7_moves_85 hlk
    · have hg := it_neg hg c50
      refine lv_aload_n hx hb dX7_moves_72 rfl (lv_at hl 1 rfl) ?_
      obtain ⟨hok51, hg⟩ := gd_some hg
      obtain ⟨r52, hr52, hg⟩ := nn_some hg
      refine wr_get (K := RX7) (T := TX7) (N := 20) (index := 7) (ref := "MakerLinesModel") (v := .ref r52) hx hb hts hi_X7_moves_X7 hown hw hok51 (wF_7 (S := S49) hok51.2) rfl 0 (by decide) (hts _ (List.mem_of_getElem? (i := 1) rfl)) (fun _ h9 => h9) (congrArg (fun o => some (va_rf o)) hr52) dX7_moves_73 ?_
      refine lv_bipush (v := (7 : Int32)) hx hb dX7_moves_76 (by decide) ?_
      refine lv_iload_n hx hb dX7_moves_78 rfl (lv_at hl 0 rfl) ?_
      refine lv_iadd hx hb dX7_moves_79 ?_
      refine lv_dup2_11 hx hb dX7_moves_80 rfl rfl ?_
      obtain ⟨hok53, hg⟩ := gd_some hg
      obtain ⟨hin54, hg⟩ := gd_some hg
      refine wr_iald hx hb hw hok53 (inb_vp hin54) dX7_moves_81 ?_
      refine lv_iconst (v := (1 : Int32)) hx hb dX7_moves_82 (by decide) ?_
      refine lv_iadd hx hb dX7_moves_83 ?_
      refine wr_iast hx hb hw hok53 (inb_vp hin54) dX7_moves_84 (fun H locs hw => ?_)
      obtain ⟨S55, hS55, hg⟩ := bd_some hg
      rw [← hS55] at hw
      have hok56 : ok S55 a0 7 := by rw [hS55]; exact hok51
      have hr57 : hR S55 a0 0 = some r52 := by rw [hS55]; exact hr52
      have hok58 : ok S55 r52 8 := by rw [hS55]; exact hok53
      have hin59 : inb ((7 : Int32) + r49) (hN S55 r52) := by rw [hS55]; exact hin54
      cases hg
      exact wr_vret hx hb hr hw dX7_moves_85 hlk
  exact B0 S0 _ _ _ hg hw hl
theorem hi_X7_move_X7 : ∀ w ∈ wsX70, w ∈ wsX7_move := fun _ h => List.mem_cons_of_mem _ (List.mem_append_right _ (h))
abbrev rm_X7_move : Room := { frames := 8, cells := 0, slots := 0, locals := 171 }
set_option maxHeartbeats 4000000 in
set_option maxRecDepth 100000 in
theorem c_X7_move (l : Launch) (D : va_G) (C : C3) (N : Nat) (S0 : Hp) (z : Nat) (a0 : Nat) (x1 : Int32) (r : Int32) (S9 : Hp) (hg : f_X7_move N S0 a0 x1 = some (r, S9)) : MetI l yX7_move wsX7_move rm_X7_move D C S0 z [.ref a0, .int x1] r S9 z 0 0 := by
  refine mw_ofW (cc := cX7_move) (maxL := 2) (ret := (some .int)) (lv := [(0, .ref a0), (1, .int x1)]) (by decide) rfl (Nat.le_of_ble_eq_true rfl) rfl ?_
  intro p e s m below meth c ls hx hb hr hts hown hlk hml hnm hl hw
  have hown : s.vm.findClass RX7 = some m.cls := hown
  have B36 : ∀ (S : Hp) (s0 : Int32) (s1 : Nat) (H : Heap) (locs : List Loc) (ls : Array Slot), f_X7_move_b36 N a0 x1 S s0 s1 = some (r, S9) → Wd D C (va_A (wP C S0) z) s.heap S z H locs s → lv_has ls 2 [(0, .ref a0), (1, .int x1)] → W p l e rm_X7_move s m ([.ref a0, .int x1] : List Value).toArray below meth c H locs 0 0 (MQ below (QiW D C S0 z r S9 z) ([.ref a0, .int x1] : List Value).toArray s 0 0 (va_A (wP C S0) z)) (F0 m 36 ls [.int s0, .ref s1]) := by
    intro S s0 s1 H locs ls hg hw hl
    unfold f_X7_move_b36 at hg
    obtain ⟨hok20, hg⟩ := gd_some hg
    refine wr_put (K := RX7) (T := TX7) (N := 20) (index := 50) (ref := "MakerLinesModel") (ty := (.int)) (S1 := (sI S s1 7 s0)) hx hb hts hi_X7_move_X7 tyX7 tyX7_ok nmX7 hown hw hok20 (wF_7 (S := S) hok20.2) rfl (fun b hb9 => wF_sI_ne hb9) 7 (wq_7_7 (S := S) hok20.2 _) rfl (by decide) (hts _ (List.mem_of_getElem? (i := 1) rfl)) (fun _ h9 => h9) rfl (by decide +kernel) rfl rfl (Nat.le_of_ble_eq_true rfl) dX7_move_36 (fun H locs hw => ?_)
    refine lv_aload_n hx hb dX7_move_39 rfl (lv_at hl 0 rfl) ?_
    obtain ⟨hok21, hg⟩ := gd_some hg
    refine wr_get (K := RX7) (T := TX7) (N := 20) (index := 50) (ref := "MakerLinesModel") (v := .int (hI ((sI S s1 7 s0)) a0 7)) hx hb hts hi_X7_move_X7 hown hw hok21 (wF_7 (S := (sI S s1 7 s0)) hok21.2) rfl 7 (by decide) (hts _ (List.mem_of_getElem? (i := 1) rfl)) (fun _ h9 => h9) rfl dX7_move_40 ?_
    refine lv_if_le (tgt := 48) hx hb dX7_move_43 (by decide) (fun c22 => ?_) (fun c22 => ?_)
    · have hg := it_pos hg c22
      refine lv_aload_n hx hb dX7_move_48 rfl (lv_at hl 0 rfl) ?_
      obtain ⟨⟨⟩, S23, hc23, hg⟩ := cl_some hg
      refine wr_cv (va_runV (As := []) (rest := []) ⟨hx, hb, hml, hown, hts⟩ (c_X7_save l D C N ((sI S s1 7 s0)) z a0 () S23 hc23) (cwV 0 hts gX7_move_X7_save rfl rfl rfl (by decide +kernel) ⟨Nat.le_of_ble_eq_true rfl, Nat.le_of_ble_eq_true rfl⟩) (wd_preV hw hok21 (wF_7 (S := (sI S s1 7 s0)) hok21.2) rfl) rfl rfl hl.1 rfl (lv_room (Nat.le_of_ble_eq_true rfl)) dX7_move_49 ⟨Nat.zero_le _, Nat.zero_le _⟩) hw (fun H locs hw => ?_)
      refine lv_aload_n hx hb dX7_move_52 rfl (lv_at hl 0 rfl) ?_
      refine lv_iload_n hx hb dX7_move_53 rfl (lv_at hl 1 rfl) ?_
      obtain ⟨hok24, hg⟩ := gd_some hg
      obtain ⟨⟨⟩, S25, hc25, hg⟩ := cl_some hg
      refine wr_cv (va_runV (As := [.int x1]) (rest := []) ⟨hx, hb, hml, hown, hts⟩ (c_X7_moves l D C N S23 z a0 x1 () S25 hc25) (cwV 1 hts gX7_move_X7_moves rfl rfl rfl (by decide +kernel) ⟨Nat.le_of_ble_eq_true rfl, Nat.le_of_ble_eq_true rfl⟩) (wd_preV hw hok24 (wF_7 (S := S23) hok24.2) rfl) rfl rfl hl.1 rfl (lv_room (Nat.le_of_ble_eq_true rfl)) dX7_move_54 ⟨Nat.zero_le _, Nat.zero_le _⟩) hw (fun H locs hw => ?_)
      refine lv_aload_n hx hb dX7_move_57 rfl (lv_at hl 0 rfl) ?_
      obtain ⟨hok26, hg⟩ := gd_some hg
      obtain ⟨r27, S27, hc27, hg⟩ := cl_some hg
      refine wr_ci (va_runV (As := []) (rest := []) ⟨hx, hb, hml, hown, hts⟩ (c_X7_winnerNow l D C N S25 z a0 r27 S27 hc27) (cwV 0 hts gX7_move_X7_winnerNow rfl rfl rfl (by decide +kernel) ⟨Nat.le_of_ble_eq_true rfl, Nat.le_of_ble_eq_true rfl⟩) (wd_preV hw hok26 (wF_7 (S := S25) hok26.2) rfl) rfl rfl hl.1 rfl (lv_room (Nat.le_of_ble_eq_true rfl)) dX7_move_58 ⟨Nat.zero_le _, Nat.zero_le _⟩) hw (fun H locs hw => ?_)
      cases hg
      exact wr_iret hx hb hr hw dX7_move_61 hlk
    · have hg := it_neg hg c22
      refine lv_iconst (v := (0 : Int32)) hx hb dX7_move_46 (by decide) ?_
      cases hg
      exact wr_iret hx hb hr hw dX7_move_47 hlk
  have B35 : ∀ (S : Hp) (s0 : Nat) (H : Heap) (locs : List Loc) (ls : Array Slot), f_X7_move_b35 N a0 x1 S s0 = some (r, S9) → Wd D C (va_A (wP C S0) z) s.heap S z H locs s → lv_has ls 2 [(0, .ref a0), (1, .int x1)] → W p l e rm_X7_move s m ([.ref a0, .int x1] : List Value).toArray below meth c H locs 0 0 (MQ below (QiW D C S0 z r S9 z) ([.ref a0, .int x1] : List Value).toArray s 0 0 (va_A (wP C S0) z)) (F0 m 35 ls [.ref s0]) := by
    intro S s0 H locs ls hg hw hl
    unfold f_X7_move_b35 at hg
    refine lv_iconst (v := (2 : Int32)) hx hb dX7_move_35 (by decide) ?_
    exact B36 _ _ _ _ _ _ hg hw (lv_sub hl [0, 1] rfl)
  have B0 : ∀ (S : Hp) (H : Heap) (locs : List Loc) (ls : Array Slot), f_X7_move N S a0 x1 = some (r, S9) → Wd D C (va_A (wP C S0) z) s.heap S z H locs s → lv_has ls 2 [(0, .ref a0), (1, .int x1)] → W p l e rm_X7_move s m ([.ref a0, .int x1] : List Value).toArray below meth c H locs 0 0 (MQ below (QiW D C S0 z r S9 z) ([.ref a0, .int x1] : List Value).toArray s 0 0 (va_A (wP C S0) z)) (F0 m 0 ls []) := by
    intro S H locs ls hg hw hl
    unfold f_X7_move at hg
    refine lv_aload_n hx hb dX7_move_0 rfl (lv_at hl 0 rfl) ?_
    refine lv_aload_n hx hb dX7_move_1 rfl (lv_at hl 0 rfl) ?_
    refine lv_iload_n hx hb dX7_move_2 rfl (lv_at hl 1 rfl) ?_
    obtain ⟨hok10, hg⟩ := gd_some hg
    obtain ⟨r11, S11, hc11, hg⟩ := cl_some hg
    refine wr_ci (va_runV (As := [.int x1]) (rest := [.ref a0]) ⟨hx, hb, hml, hown, hts⟩ (c_X7_isCell l D C N S z a0 x1 r11 S11 hc11) (cwV 1 hts gX7_move_X7_isCell rfl rfl rfl (by decide +kernel) ⟨Nat.le_of_ble_eq_true rfl, Nat.le_of_ble_eq_true rfl⟩) (wd_preV hw hok10 (wF_7 (S := S) hok10.2) rfl) rfl rfl hl.1 rfl (lv_room (Nat.le_of_ble_eq_true rfl)) dX7_move_3 ⟨Nat.zero_le _, Nat.zero_le _⟩) hw (fun H locs hw => ?_)
    refine lv_if_ne (tgt := 13) hx hb dX7_move_6 (by decide) (fun c12 => ?_) (fun c12 => ?_)
    · have hg := it_neg hg c12
      refine lv_aload_n hx hb dX7_move_13 rfl (lv_at hl 0 rfl) ?_
      obtain ⟨hok13, hg⟩ := gd_some hg
      obtain ⟨r14, S14, hc14, hg⟩ := cl_some hg
      refine wr_ci (va_runV (As := []) (rest := [.ref a0]) ⟨hx, hb, hml, hown, hts⟩ (c_X7_winnerNow l D C N S11 z a0 r14 S14 hc14) (cwV 0 hts gX7_move_X7_winnerNow rfl rfl rfl (by decide +kernel) ⟨Nat.le_of_ble_eq_true rfl, Nat.le_of_ble_eq_true rfl⟩) (wd_preV hw hok13 (wF_7 (S := S11) hok13.2) rfl) rfl rfl hl.1 rfl (lv_room (Nat.le_of_ble_eq_true rfl)) dX7_move_14 ⟨Nat.zero_le _, Nat.zero_le _⟩) hw (fun H locs hw => ?_)
      refine lv_if_ne (tgt := 35) hx hb dX7_move_17 (by decide) (fun c15 => ?_) (fun c15 => ?_)
      · have hg := it_neg hg c15
        exact B35 _ _ _ _ _ hg hw (lv_sub hl [0, 1] rfl)
      · have hg := it_pos hg c15
        refine lv_aload_n hx hb dX7_move_20 rfl (lv_at hl 0 rfl) ?_
        obtain ⟨hok16, hg⟩ := gd_some hg
        obtain ⟨r17, S17, hc17, hg⟩ := cl_some hg
        refine wr_ci (va_runV (As := []) (rest := [.ref a0]) ⟨hx, hb, hml, hown, hts⟩ (c_X7_free l D C N S14 z a0 r17 S17 hc17) (cwV 0 hts gX7_move_X7_free rfl rfl rfl (by decide +kernel) ⟨Nat.le_of_ble_eq_true rfl, Nat.le_of_ble_eq_true rfl⟩) (wd_preV hw hok16 (wF_7 (S := S14) hok16.2) rfl) rfl rfl hl.1 rfl (lv_room (Nat.le_of_ble_eq_true rfl)) dX7_move_21 ⟨Nat.zero_le _, Nat.zero_le _⟩) hw (fun H locs hw => ?_)
        refine lv_iload_n hx hb dX7_move_24 rfl (lv_at hl 1 rfl) ?_
        obtain ⟨r18, S18, hc18, hg⟩ := cl_some hg
        refine wr_ci (va_runS (As := [.int r17, .int x1]) (rest := [.ref a0]) ⟨hx, hb, hml, hown, hts⟩ (c_X7_has l D C N S17 z r17 x1 r18 S18 hc18) (va_cwS 2 hts gX7_move_X7_has rfl rfl rfl (by decide +kernel) ⟨Nat.le_of_ble_eq_true rfl, Nat.le_of_ble_eq_true rfl⟩) (wd_preS hw) rfl rfl hl.1 rfl (lv_room (Nat.le_of_ble_eq_true rfl)) dX7_move_25 ⟨Nat.zero_le _, Nat.zero_le _⟩) hw (fun H locs hw => ?_)
        refine lv_if_eq (tgt := 35) hx hb dX7_move_28 (by decide) (fun c19 => ?_) (fun c19 => ?_)
        · have hg := it_pos hg c19
          exact B35 _ _ _ _ _ hg hw (lv_sub hl [0, 1] rfl)
        · have hg := it_neg hg c19
          refine lv_iconst (v := (0 : Int32)) hx hb dX7_move_31 (by decide) ?_
          refine lv_goto (tgt := 36) hx hb dX7_move_32 (by decide) ?_
          exact B36 _ _ _ _ _ _ hg hw (lv_sub hl [0, 1] rfl)
    · have hg := it_pos hg c12
      refine lv_iconst (v := (1 : Int32)) hx hb dX7_move_9 (by decide) ?_
      refine lv_goto (tgt := 36) hx hb dX7_move_10 (by decide) ?_
      exact B36 _ _ _ _ _ _ hg hw (lv_sub hl [0, 1] rfl)
  exact B0 S0 _ _ _ hg hw hl
theorem hi_X7_skip_X7 : ∀ w ∈ wsX70, w ∈ wsX7_skip := fun _ h => List.mem_cons_of_mem _ (List.mem_append_right _ (h))
abbrev rm_X7_skip : Room := { frames := 2, cells := 0, slots := 0, locals := 45 }
set_option maxHeartbeats 4000000 in
set_option maxRecDepth 100000 in
theorem c_X7_skip (l : Launch) (D : va_G) (C : C3) (N : Nat) (S0 : Hp) (z : Nat) (a0 : Nat) (r : Int32) (S9 : Hp) (hg : f_X7_skip N S0 a0 = some (r, S9)) : MetI l yX7_skip wsX7_skip rm_X7_skip D C S0 z [.ref a0] r S9 z 0 0 := by
  refine mw_ofW (cc := cX7_skip) (maxL := 1) (ret := (some .int)) (lv := [(0, .ref a0)]) (by decide) rfl (Nat.le_of_ble_eq_true rfl) rfl ?_
  intro p e s m below meth c ls hx hb hr hts hown hlk hml hnm hl hw
  have hown : s.vm.findClass RX7 = some m.cls := hown
  have B13 : ∀ (S : Hp) (s0 : Int32) (s1 : Nat) (H : Heap) (locs : List Loc) (ls : Array Slot), f_X7_skip_b13 N a0 S s0 s1 = some (r, S9) → Wd D C (va_A (wP C S0) z) s.heap S z H locs s → lv_has ls 1 [(0, .ref a0)] → W p l e rm_X7_skip s m ([.ref a0] : List Value).toArray below meth c H locs 0 0 (MQ below (QiW D C S0 z r S9 z) ([.ref a0] : List Value).toArray s 0 0 (va_A (wP C S0) z)) (F0 m 13 ls [.int s0, .ref s1]) := by
    intro S s0 s1 H locs ls hg hw hl
    unfold f_X7_skip_b13 at hg
    obtain ⟨hok13, hg⟩ := gd_some hg
    refine wr_put (K := RX7) (T := TX7) (N := 20) (index := 50) (ref := "MakerLinesModel") (ty := (.int)) (S1 := (sI S s1 7 s0)) hx hb hts hi_X7_skip_X7 tyX7 tyX7_ok nmX7 hown hw hok13 (wF_7 (S := S) hok13.2) rfl (fun b hb9 => wF_sI_ne hb9) 7 (wq_7_7 (S := S) hok13.2 _) rfl (by decide) (hts _ (List.mem_of_getElem? (i := 1) rfl)) (fun _ h9 => h9) rfl (by decide +kernel) rfl rfl (Nat.le_of_ble_eq_true rfl) dX7_skip_13 (fun H locs hw => ?_)
    refine lv_aload_n hx hb dX7_skip_16 rfl (lv_at hl 0 rfl) ?_
    obtain ⟨hok14, hg⟩ := gd_some hg
    refine wr_get (K := RX7) (T := TX7) (N := 20) (index := 50) (ref := "MakerLinesModel") (v := .int (hI ((sI S s1 7 s0)) a0 7)) hx hb hts hi_X7_skip_X7 hown hw hok14 (wF_7 (S := (sI S s1 7 s0)) hok14.2) rfl 7 (by decide) (hts _ (List.mem_of_getElem? (i := 1) rfl)) (fun _ h9 => h9) rfl dX7_skip_17 ?_
    refine lv_if_le (tgt := 25) hx hb dX7_skip_20 (by decide) (fun c15 => ?_) (fun c15 => ?_)
    · have hg := it_pos hg c15
      refine lv_aload_n hx hb dX7_skip_25 rfl (lv_at hl 0 rfl) ?_
      obtain ⟨⟨⟩, S16, hc16, hg⟩ := cl_some hg
      refine wr_cv (va_runV (As := []) (rest := []) ⟨hx, hb, hml, hown, hts⟩ (c_X7_save l D C N ((sI S s1 7 s0)) z a0 () S16 hc16) (cwV 0 hts gX7_skip_X7_save rfl rfl rfl (by decide +kernel) ⟨Nat.le_of_ble_eq_true rfl, Nat.le_of_ble_eq_true rfl⟩) (wd_preV hw hok14 (wF_7 (S := (sI S s1 7 s0)) hok14.2) rfl) rfl rfl hl.1 rfl (lv_room (Nat.le_of_ble_eq_true rfl)) dX7_skip_26 ⟨Nat.zero_le _, Nat.zero_le _⟩) hw (fun H locs hw => ?_)
      refine lv_aload_n hx hb dX7_skip_29 rfl (lv_at hl 0 rfl) ?_
      obtain ⟨hok17, hg⟩ := gd_some hg
      obtain ⟨r18, hr18, hg⟩ := nn_some hg
      refine wr_get (K := RX7) (T := TX7) (N := 20) (index := 7) (ref := "MakerLinesModel") (v := .ref r18) hx hb hts hi_X7_skip_X7 hown hw hok17 (wF_7 (S := S16) hok17.2) rfl 0 (by decide) (hts _ (List.mem_of_getElem? (i := 2) rfl)) (fun _ h9 => h9) (congrArg (fun o => some (va_rf o)) hr18) dX7_skip_30 ?_
      refine lv_iconst (v := (1 : Int32)) hx hb dX7_skip_33 (by decide) ?_
      refine lv_iconst (v := (3 : Int32)) hx hb dX7_skip_34 (by decide) ?_
      refine lv_aload_n hx hb dX7_skip_35 rfl (lv_at hl 0 rfl) ?_
      refine wr_get (K := RX7) (T := TX7) (N := 20) (index := 7) (ref := "MakerLinesModel") (v := .ref r18) hx hb hts hi_X7_skip_X7 hown hw hok17 (wF_7 (S := S16) hok17.2) rfl 0 (by decide) (hts _ (List.mem_of_getElem? (i := 2) rfl)) (fun _ h9 => h9) (congrArg (fun o => some (va_rf o)) hr18) dX7_skip_36 ?_
      refine lv_iconst (v := (1 : Int32)) hx hb dX7_skip_39 (by decide) ?_
      obtain ⟨hok19, hg⟩ := gd_some hg
      obtain ⟨hin20, hg⟩ := gd_some hg
      refine wr_iald hx hb hw hok19 (inb_vp hin20) dX7_skip_40 ?_
      refine lv_isub hx hb dX7_skip_41 ?_
      refine wr_iast hx hb hw hok19 (inb_vp hin20) dX7_skip_42 (fun H locs hw => ?_)
      obtain ⟨S21, hS21, hg⟩ := bd_some hg
      rw [← hS21] at hw
      have hok22 : ok S21 a0 7 := by rw [hS21]; exact hok17
      have hr23 : hR S21 a0 0 = some r18 := by rw [hS21]; exact hr18
      have hok24 : ok S21 r18 8 := by rw [hS21]; exact hok19
      have hin25 : inb (1 : Int32) (hN S21 r18) := by rw [hS21]; exact hin20
      refine lv_aload_n hx hb dX7_skip_43 rfl (lv_at hl 0 rfl) ?_
      refine wr_get (K := RX7) (T := TX7) (N := 20) (index := 7) (ref := "MakerLinesModel") (v := .ref r18) hx hb hts hi_X7_skip_X7 hown hw hok22 (wF_7 (S := S21) hok22.2) rfl 0 (by decide) (hts _ (List.mem_of_getElem? (i := 2) rfl)) (fun _ h9 => h9) (congrArg (fun o => some (va_rf o)) hr23) dX7_skip_44 ?_
      refine lv_iconst (v := (5 : Int32)) hx hb dX7_skip_47 (by decide) ?_
      refine lv_iconst (v := (-1 : Int32)) hx hb dX7_skip_48 (by decide) ?_
      obtain ⟨hin26, hg⟩ := gd_some hg
      refine wr_iast hx hb hw hok24 (inb_vp hin26) dX7_skip_49 (fun H locs hw => ?_)
      obtain ⟨S27, hS27, hg⟩ := bd_some hg
      rw [← hS27] at hw
      have hok28 : ok S27 a0 7 := by rw [hS27]; exact hok22
      have hr29 : hR S27 a0 0 = some r18 := by rw [hS27]; exact hr23
      have hok30 : ok S27 r18 8 := by rw [hS27]; exact hok24
      have hin31 : inb (1 : Int32) (hN S27 r18) := by rw [hS27]; exact hin25
      have hin32 : inb (5 : Int32) (hN S27 r18) := by rw [hS27]; exact hin26
      refine lv_aload_n hx hb dX7_skip_50 rfl (lv_at hl 0 rfl) ?_
      refine wr_get (K := RX7) (T := TX7) (N := 20) (index := 7) (ref := "MakerLinesModel") (v := .ref r18) hx hb hts hi_X7_skip_X7 hown hw hok28 (wF_7 (S := S27) hok28.2) rfl 0 (by decide) (hts _ (List.mem_of_getElem? (i := 2) rfl)) (fun _ h9 => h9) (congrArg (fun o => some (va_rf o)) hr29) dX7_skip_51 ?_
      refine lv_bipush (v := (6 : Int32)) hx hb dX7_skip_54 (by decide) ?_
      refine lv_iconst (v := (-1 : Int32)) hx hb dX7_skip_56 (by decide) ?_
      obtain ⟨hin33, hg⟩ := gd_some hg
      refine wr_iast hx hb hw hok30 (inb_vp hin33) dX7_skip_57 (fun H locs hw => ?_)
      obtain ⟨S34, hS34, hg⟩ := bd_some hg
      rw [← hS34] at hw
      have hok35 : ok S34 a0 7 := by rw [hS34]; exact hok28
      have hr36 : hR S34 a0 0 = some r18 := by rw [hS34]; exact hr29
      have hok37 : ok S34 r18 8 := by rw [hS34]; exact hok30
      have hin38 : inb (1 : Int32) (hN S34 r18) := by rw [hS34]; exact hin31
      have hin39 : inb (5 : Int32) (hN S34 r18) := by rw [hS34]; exact hin32
      have hin40 : inb (6 : Int32) (hN S34 r18) := by rw [hS34]; exact hin33
      refine lv_aload_n hx hb dX7_skip_58 rfl (lv_at hl 0 rfl) ?_
      refine wr_get (K := RX7) (T := TX7) (N := 20) (index := 7) (ref := "MakerLinesModel") (v := .ref r18) hx hb hts hi_X7_skip_X7 hown hw hok35 (wF_7 (S := S34) hok35.2) rfl 0 (by decide) (hts _ (List.mem_of_getElem? (i := 2) rfl)) (fun _ h9 => h9) (congrArg (fun o => some (va_rf o)) hr36) dX7_skip_59 ?_
      refine lv_iconst (v := (1 : Int32)) hx hb dX7_skip_62 (by decide) ?_
      refine wr_iald hx hb hw hok37 (inb_vp hin38) dX7_skip_63 ?_
      cases hg
      exact wr_iret hx hb hr hw dX7_skip_64 hlk
    · have hg := it_neg hg c15
      refine lv_iconst (v := (0 : Int32)) hx hb dX7_skip_23 (by decide) ?_
      cases hg
      exact wr_iret hx hb hr hw dX7_skip_24 hlk
  have B0 : ∀ (S : Hp) (H : Heap) (locs : List Loc) (ls : Array Slot), f_X7_skip N S a0 = some (r, S9) → Wd D C (va_A (wP C S0) z) s.heap S z H locs s → lv_has ls 1 [(0, .ref a0)] → W p l e rm_X7_skip s m ([.ref a0] : List Value).toArray below meth c H locs 0 0 (MQ below (QiW D C S0 z r S9 z) ([.ref a0] : List Value).toArray s 0 0 (va_A (wP C S0) z)) (F0 m 0 ls []) := by
    intro S H locs ls hg hw hl
    unfold f_X7_skip at hg
    refine lv_aload_n hx hb dX7_skip_0 rfl (lv_at hl 0 rfl) ?_
    refine lv_aload_n hx hb dX7_skip_1 rfl (lv_at hl 0 rfl) ?_
    obtain ⟨hok10, hg⟩ := gd_some hg
    obtain ⟨r11, S11, hc11, hg⟩ := cl_some hg
    refine wr_ci (va_runV (As := []) (rest := [.ref a0]) ⟨hx, hb, hml, hown, hts⟩ (c_X7_winnerNow l D C N S z a0 r11 S11 hc11) (cwV 0 hts gX7_skip_X7_winnerNow rfl rfl rfl (by decide +kernel) ⟨Nat.le_of_ble_eq_true rfl, Nat.le_of_ble_eq_true rfl⟩) (wd_preV hw hok10 (wF_7 (S := S) hok10.2) rfl) rfl rfl hl.1 rfl (lv_room (Nat.le_of_ble_eq_true rfl)) dX7_skip_2 ⟨Nat.zero_le _, Nat.zero_le _⟩) hw (fun H locs hw => ?_)
    refine lv_if_ne (tgt := 12) hx hb dX7_skip_5 (by decide) (fun c12 => ?_) (fun c12 => ?_)
    · have hg := it_neg hg c12
      refine lv_iconst (v := (1 : Int32)) hx hb dX7_skip_12 (by decide) ?_
      exact B13 _ _ _ _ _ _ hg hw (lv_sub hl [0] rfl)
    · have hg := it_pos hg c12
      refine lv_iconst (v := (0 : Int32)) hx hb dX7_skip_8 (by decide) ?_
      refine lv_goto (tgt := 13) hx hb dX7_skip_9 (by decide) ?_
      exact B13 _ _ _ _ _ _ hg hw (lv_sub hl [0] rfl)
  exact B0 S0 _ _ _ hg hw hl
abbrev rm_X7_isRule : Room := { frames := 1, cells := 0, slots := 0, locals := 22 }
set_option maxHeartbeats 4000000 in
set_option maxRecDepth 100000 in
theorem c_X7_isRule (l : Launch) (D : va_G) (C : C3) (N : Nat) (S0 : Hp) (z : Nat) (x0 : Int32) (r : Int32) (S9 : Hp) (hg : f_X7_isRule N S0 x0 = some (r, S9)) : MetI l yX7_isRule wsX7_isRule rm_X7_isRule D C S0 z [.int x0] r S9 z 0 0 := by
  refine mw_ofW (cc := cX7_isRule) (maxL := 1) (ret := (some .boolean)) (lv := [(0, .int x0)]) (by decide) rfl (Nat.le_of_ble_eq_true rfl) rfl ?_
  intro p e s m below meth c ls hx hb hr hts hown hlk hml hnm hl hw
  have hown : s.vm.findClass RX7 = some m.cls := hown
  have B0 : ∀ (S : Hp) (H : Heap) (locs : List Loc) (ls : Array Slot), f_X7_isRule N S x0 = some (r, S9) → Wd D C (va_A (wP C S0) z) s.heap S z H locs s → lv_has ls 1 [(0, .int x0)] → W p l e rm_X7_isRule s m ([.int x0] : List Value).toArray below meth c H locs 0 0 (MQ below (QiW D C S0 z r S9 z) ([.int x0] : List Value).toArray s 0 0 (va_A (wP C S0) z)) (F0 m 0 ls []) := by
    intro S H locs ls hg hw hl
    unfold f_X7_isRule at hg
    refine lv_iload_n hx hb dX7_isRule_0 rfl (lv_at hl 0 rfl) ?_
    refine lv_iconst (v := (0 : Int32)) hx hb dX7_isRule_1 (by decide) ?_
    refine lv_iconst (v := (3 : Int32)) hx hb dX7_isRule_2 (by decide) ?_
    obtain ⟨r10, S10, hc10, hg⟩ := cl_some hg
    refine wr_ci (va_runS (As := [.int x0, .int (0 : Int32), .int (3 : Int32)]) (rest := []) ⟨hx, hb, hml, hown, hts⟩ (c_X7_within l D C N S z x0 ((0 : Int32)) ((3 : Int32)) r10 S10 hc10) (va_cwS 3 hts gX7_isRule_X7_within rfl rfl rfl (by decide +kernel) ⟨Nat.le_of_ble_eq_true rfl, Nat.le_of_ble_eq_true rfl⟩) (wd_preS hw) rfl rfl hl.1 rfl (lv_room (Nat.le_of_ble_eq_true rfl)) dX7_isRule_3 ⟨Nat.zero_le _, Nat.zero_le _⟩) hw (fun H locs hw => ?_)
    obtain ⟨hz11, hg⟩ := gd_some hg
    cases hg
    exact wr_zret hx hb hr hz11 hw dX7_isRule_6 hlk
  exact B0 S0 _ _ _ hg hw hl
theorem hi_X7_plays_X7 : ∀ w ∈ wsX70, w ∈ wsX7_plays := fun _ h => List.mem_cons_of_mem _ (List.mem_append_right _ (h))
abbrev rm_X7_plays : Room := { frames := 8, cells := 0, slots := 0, locals := 171 }
set_option maxHeartbeats 4000000 in
set_option maxRecDepth 100000 in
theorem c_X7_plays (l : Launch) (D : va_G) (C : C3) (N : Nat) (S0 : Hp) (z : Nat) (a0 : Nat) (x1 : Int32) (x2 : Int32) (x3 : Int32) (r : Int32) (S9 : Hp) (hg : f_X7_plays N S0 a0 x1 x2 x3 = some (r, S9)) : MetI l yX7_plays wsX7_plays rm_X7_plays D C S0 z [.ref a0, .int x1, .int x2, .int x3] r S9 z 0 0 := by
  refine mw_ofW (cc := cX7_plays) (maxL := 5) (ret := (some .int)) (lv := [(0, .ref a0), (1, .int x1), (2, .int x2), (3, .int x3)]) (by decide) rfl (Nat.le_of_ble_eq_true rfl) rfl ?_
  intro p e s m below meth c ls hx hb hr hts hown hlk hml hnm hl hw
  have hown : s.vm.findClass RX7 = some m.cls := hown
  have B33 : ∀ (K3 : Hp → Int32 → Option (Int32 × Hp)) (hK3 : ∀ (S : Hp) (v4 : Int32) (H : Heap) (locs : List Loc) (ls : Array Slot), K3 S v4 = some (r, S9) → Wd D C (va_A (wP C S0) z) s.heap S z H locs s → lv_has ls 5 [(0, .ref a0), (1, .int x1), (2, .int x2), (3, .int x3), (4, .int v4)] → W p l e rm_X7_plays s m ([.ref a0, .int x1, .int x2, .int x3] : List Value).toArray below meth c H locs 0 0 (MQ below (QiW D C S0 z r S9 z) ([.ref a0, .int x1, .int x2, .int x3] : List Value).toArray s 0 0 (va_A (wP C S0) z)) (F0 m 3 ls [])) (S : Hp) (v4 : Int32) (s0 : Int32) (s1 : Nat) (s2 : Nat) (H : Heap) (locs : List Loc) (ls : Array Slot), f_X7_plays_b33 N a0 x1 x2 x3 K3 S v4 s0 s1 s2 = some (r, S9) → Wd D C (va_A (wP C S0) z) s.heap S z H locs s → lv_has ls 5 [(0, .ref a0), (1, .int x1), (2, .int x2), (3, .int x3), (4, .int v4)] → W p l e rm_X7_plays s m ([.ref a0, .int x1, .int x2, .int x3] : List Value).toArray below meth c H locs 0 0 (MQ below (QiW D C S0 z r S9 z) ([.ref a0, .int x1, .int x2, .int x3] : List Value).toArray s 0 0 (va_A (wP C S0) z)) (F0 m 33 ls [.int s0, .ref s1, .ref s2]) := by
    intro K3 hK3 S v4 s0 s1 s2 H locs ls hg hw hl
    unfold f_X7_plays_b33 at hg
    obtain ⟨hok19, hg⟩ := gd_some hg
    obtain ⟨r20, S20, hc20, hg⟩ := cl_some hg
    refine wr_ci (va_runV (As := [.int s0]) (rest := [.ref s2]) ⟨hx, hb, hml, hown, hts⟩ (c_X7_replyBy l D C N S z s1 s0 r20 S20 hc20) (cwV 1 hts gX7_plays_X7_replyBy rfl rfl rfl (by decide +kernel) ⟨Nat.le_of_ble_eq_true rfl, Nat.le_of_ble_eq_true rfl⟩) (wd_preV hw hok19 (wF_7 (S := S) hok19.2) rfl) rfl rfl hl.1 rfl (lv_room (Nat.le_of_ble_eq_true rfl)) dX7_plays_33 ⟨Nat.zero_le _, Nat.zero_le _⟩) hw (fun H locs hw => ?_)
    obtain ⟨hok21, hg⟩ := gd_some hg
    obtain ⟨⟨⟩, S22, hc22, hg⟩ := cl_some hg
    refine wr_cv (va_runV (As := [.int r20]) (rest := []) ⟨hx, hb, hml, hown, hts⟩ (c_X7_moves l D C N S20 z s2 r20 () S22 hc22) (cwV 1 hts gX7_plays_X7_moves rfl rfl rfl (by decide +kernel) ⟨Nat.le_of_ble_eq_true rfl, Nat.le_of_ble_eq_true rfl⟩) (wd_preV hw hok21 (wF_7 (S := S20) hok21.2) rfl) rfl rfl hl.1 rfl (lv_room (Nat.le_of_ble_eq_true rfl)) dX7_plays_36 ⟨Nat.zero_le _, Nat.zero_le _⟩) hw (fun H locs hw => ?_)
    refine lv_iinc (v := (v4 + (1 : Int32))) (lv' := [(4, .int (v4 + (1 : Int32))), (0, .ref a0), (1, .int x1), (2, .int x2), (3, .int x3)]) hx hb dX7_plays_39 hl (k := 4) rfl rfl (by decide) rfl (fun ls hl => ?_)
    refine lv_goto (tgt := 3) hx hb dX7_plays_42 (by decide) ?_
    exact hK3 _ _ _ _ _ hg hw (lv_sub hl [1, 2, 3, 4, 0] rfl)
  have B3 : ∀ (K3 : Hp → Int32 → Option (Int32 × Hp)) (hK3 : ∀ (S : Hp) (v4 : Int32) (H : Heap) (locs : List Loc) (ls : Array Slot), K3 S v4 = some (r, S9) → Wd D C (va_A (wP C S0) z) s.heap S z H locs s → lv_has ls 5 [(0, .ref a0), (1, .int x1), (2, .int x2), (3, .int x3), (4, .int v4)] → W p l e rm_X7_plays s m ([.ref a0, .int x1, .int x2, .int x3] : List Value).toArray below meth c H locs 0 0 (MQ below (QiW D C S0 z r S9 z) ([.ref a0, .int x1, .int x2, .int x3] : List Value).toArray s 0 0 (va_A (wP C S0) z)) (F0 m 3 ls [])) (S : Hp) (v4 : Int32) (H : Heap) (locs : List Loc) (ls : Array Slot), f_X7_plays_b3 N a0 x1 x2 x3 K3 S v4 = some (r, S9) → Wd D C (va_A (wP C S0) z) s.heap S z H locs s → lv_has ls 5 [(0, .ref a0), (1, .int x1), (2, .int x2), (3, .int x3), (4, .int v4)] → W p l e rm_X7_plays s m ([.ref a0, .int x1, .int x2, .int x3] : List Value).toArray below meth c H locs 0 0 (MQ below (QiW D C S0 z r S9 z) ([.ref a0, .int x1, .int x2, .int x3] : List Value).toArray s 0 0 (va_A (wP C S0) z)) (F0 m 3 ls []) := by
    intro K3 hK3 S v4 H locs ls hg hw hl
    unfold f_X7_plays_b3 at hg
    refine lv_iload hx hb dX7_plays_3 (lv_at hl 4 rfl) ?_
    refine lv_iload_n hx hb dX7_plays_5 rfl (lv_at hl 3 rfl) ?_
    refine lv_icmp_ge (tgt := 45) hx hb dX7_plays_6 (by decide) (fun c10 => ?_) (fun c10 => ?_)
    · have hg := it_pos hg c10
      refine lv_iload hx hb dX7_plays_45 (lv_at hl 4 rfl) ?_
      cases hg
      exact wr_iret hx hb hr hw dX7_plays_47 hlk
    · have hg := it_neg hg c10
      refine lv_aload_n hx hb dX7_plays_9 rfl (lv_at hl 0 rfl) ?_
      obtain ⟨hok11, hg⟩ := gd_some hg
      obtain ⟨r12, S12, hc12, hg⟩ := cl_some hg
      refine wr_ci (va_runV (As := []) (rest := []) ⟨hx, hb, hml, hown, hts⟩ (c_X7_winnerNow l D C N S z a0 r12 S12 hc12) (cwV 0 hts gX7_plays_X7_winnerNow rfl rfl rfl (by decide +kernel) ⟨Nat.le_of_ble_eq_true rfl, Nat.le_of_ble_eq_true rfl⟩) (wd_preV hw hok11 (wF_7 (S := S) hok11.2) rfl) rfl rfl hl.1 rfl (lv_room (Nat.le_of_ble_eq_true rfl)) dX7_plays_10 ⟨Nat.zero_le _, Nat.zero_le _⟩) hw (fun H locs hw => ?_)
      refine lv_if_ne (tgt := 45) hx hb dX7_plays_13 (by decide) (fun c13 => ?_) (fun c13 => ?_)
      · have hg := it_neg hg c13
        refine lv_iload hx hb dX7_plays_45 (lv_at hl 4 rfl) ?_
        cases hg
        exact wr_iret hx hb hr hw dX7_plays_47 hlk
      · have hg := it_pos hg c13
        refine lv_aload_n hx hb dX7_plays_16 rfl (lv_at hl 0 rfl) ?_
        refine lv_aload_n hx hb dX7_plays_17 rfl (lv_at hl 0 rfl) ?_
        refine lv_aload_n hx hb dX7_plays_18 rfl (lv_at hl 0 rfl) ?_
        obtain ⟨hok14, hg⟩ := gd_some hg
        obtain ⟨r15, hr15, hg⟩ := nn_some hg
        refine wr_get (K := RX7) (T := TX7) (N := 20) (index := 7) (ref := "MakerLinesModel") (v := .ref r15) hx hb hts hi_X7_plays_X7 hown hw hok14 (wF_7 (S := S12) hok14.2) rfl 0 (by decide) (hts _ (List.mem_of_getElem? (i := 1) rfl)) (fun _ h9 => h9) (congrArg (fun o => some (va_rf o)) hr15) dX7_plays_19 ?_
        refine lv_iconst (v := (1 : Int32)) hx hb dX7_plays_22 (by decide) ?_
        obtain ⟨hok16, hg⟩ := gd_some hg
        obtain ⟨hin17, hg⟩ := gd_some hg
        refine wr_iald hx hb hw hok16 (inb_vp hin17) dX7_plays_23 ?_
        refine lv_iconst (v := (1 : Int32)) hx hb dX7_plays_24 (by decide) ?_
        refine lv_icmp_ne (tgt := 32) hx hb dX7_plays_25 (by decide) (fun c18 => ?_) (fun c18 => ?_)
        · have hg := it_neg hg c18
          refine lv_iload_n hx hb dX7_plays_32 rfl (lv_at hl 2 rfl) ?_
          exact B33 K3 hK3 _ _ _ _ _ _ _ _ hg hw (lv_sub hl [0, 1, 2, 3, 4] rfl)
        · have hg := it_pos hg c18
          refine lv_iload_n hx hb dX7_plays_28 rfl (lv_at hl 1 rfl) ?_
          refine lv_goto (tgt := 33) hx hb dX7_plays_29 (by decide) ?_
          exact B33 K3 hK3 _ _ _ _ _ _ _ _ hg hw (lv_sub hl [0, 1, 2, 3, 4] rfl)
  have L3 : ∀ (k : Nat) (S : Hp) (v4 : Int32) (H : Heap) (locs : List Loc) (ls : Array Slot), f_X7_plays_l3 N a0 x1 x2 x3 k S v4 = some (r, S9) → Wd D C (va_A (wP C S0) z) s.heap S z H locs s → lv_has ls 5 [(0, .ref a0), (1, .int x1), (2, .int x2), (3, .int x3), (4, .int v4)] → W p l e rm_X7_plays s m ([.ref a0, .int x1, .int x2, .int x3] : List Value).toArray below meth c H locs 0 0 (MQ below (QiW D C S0 z r S9 z) ([.ref a0, .int x1, .int x2, .int x3] : List Value).toArray s 0 0 (va_A (wP C S0) z)) (F0 m 3 ls []) := by
    intro k
    induction k with
    | zero => intro S v4 H locs ls hg hw hl; exact absurd (show (none : Option (Int32 × Hp)) = some (r, S9) from hg) (by simp)
    | succ k ih => intro S v4 H locs ls hg hw hl; exact B3 (f_X7_plays_l3 N a0 x1 x2 x3 k) ih S v4 H locs ls hg hw hl
  have B0 : ∀ (S : Hp) (H : Heap) (locs : List Loc) (ls : Array Slot), f_X7_plays N S a0 x1 x2 x3 = some (r, S9) → Wd D C (va_A (wP C S0) z) s.heap S z H locs s → lv_has ls 5 [(0, .ref a0), (1, .int x1), (2, .int x2), (3, .int x3)] → W p l e rm_X7_plays s m ([.ref a0, .int x1, .int x2, .int x3] : List Value).toArray below meth c H locs 0 0 (MQ below (QiW D C S0 z r S9 z) ([.ref a0, .int x1, .int x2, .int x3] : List Value).toArray s 0 0 (va_A (wP C S0) z)) (F0 m 0 ls []) := by
    intro S H locs ls hg hw hl
    unfold f_X7_plays at hg
    refine lv_iconst (v := (0 : Int32)) hx hb dX7_plays_0 (by decide) ?_
    refine lv_istore (lv' := [(4, .int (0 : Int32)), (0, .ref a0), (1, .int x1), (2, .int x2), (3, .int x3)]) hx hb dX7_plays_1 hl (by decide) rfl (fun ls hl => ?_)
    exact L3 N _ _ _ _ _ hg hw (lv_sub hl [1, 2, 3, 4, 0] rfl)
  exact B0 S0 _ _ _ hg hw hl
theorem hi_X7_play_X7 : ∀ w ∈ wsX70, w ∈ wsX7_play := fun _ h => List.mem_cons_of_mem _ (List.mem_append_right _ (h))
abbrev rm_X7_play : Room := { frames := 9, cells := 0, slots := 0, locals := 195 }
set_option maxHeartbeats 4000000 in
set_option maxRecDepth 100000 in
theorem c_X7_play (l : Launch) (D : va_G) (C : C3) (N : Nat) (S0 : Hp) (z : Nat) (a0 : Nat) (x1 : Int32) (x2 : Int32) (x3 : Int32) (r : Int32) (S9 : Hp) (hg : f_X7_play N S0 a0 x1 x2 x3 = some (r, S9)) : MetI l yX7_play wsX7_play rm_X7_play D C S0 z [.ref a0, .int x1, .int x2, .int x3] r S9 z 0 0 := by
  refine mw_ofW (cc := cX7_play) (maxL := 4) (ret := (some .int)) (lv := [(0, .ref a0), (1, .int x1), (2, .int x2), (3, .int x3)]) (by decide) rfl (Nat.le_of_ble_eq_true rfl) rfl ?_
  intro p e s m below meth c ls hx hb hr hts hown hlk hml hnm hl hw
  have hown : s.vm.findClass RX7 = some m.cls := hown
  have B41 : ∀ (S : Hp) (s0 : Int32) (s1 : Nat) (H : Heap) (locs : List Loc) (ls : Array Slot), f_X7_play_b41 N a0 x1 x2 x3 S s0 s1 = some (r, S9) → Wd D C (va_A (wP C S0) z) s.heap S z H locs s → lv_has ls 4 [(0, .ref a0), (1, .int x1), (2, .int x2), (3, .int x3)] → W p l e rm_X7_play s m ([.ref a0, .int x1, .int x2, .int x3] : List Value).toArray below meth c H locs 0 0 (MQ below (QiW D C S0 z r S9 z) ([.ref a0, .int x1, .int x2, .int x3] : List Value).toArray s 0 0 (va_A (wP C S0) z)) (F0 m 41 ls [.int s0, .ref s1]) := by
    intro S s0 s1 H locs ls hg hw hl
    unfold f_X7_play_b41 at hg
    obtain ⟨hok19, hg⟩ := gd_some hg
    refine wr_put (K := RX7) (T := TX7) (N := 20) (index := 50) (ref := "MakerLinesModel") (ty := (.int)) (S1 := (sI S s1 7 s0)) hx hb hts hi_X7_play_X7 tyX7 tyX7_ok nmX7 hown hw hok19 (wF_7 (S := S) hok19.2) rfl (fun b hb9 => wF_sI_ne hb9) 7 (wq_7_7 (S := S) hok19.2 _) rfl (by decide) (hts _ (List.mem_of_getElem? (i := 1) rfl)) (fun _ h9 => h9) rfl (by decide +kernel) rfl rfl (Nat.le_of_ble_eq_true rfl) dX7_play_41 (fun H locs hw => ?_)
    refine lv_aload_n hx hb dX7_play_44 rfl (lv_at hl 0 rfl) ?_
    obtain ⟨hok20, hg⟩ := gd_some hg
    refine wr_get (K := RX7) (T := TX7) (N := 20) (index := 50) (ref := "MakerLinesModel") (v := .int (hI ((sI S s1 7 s0)) a0 7)) hx hb hts hi_X7_play_X7 hown hw hok20 (wF_7 (S := (sI S s1 7 s0)) hok20.2) rfl 7 (by decide) (hts _ (List.mem_of_getElem? (i := 1) rfl)) (fun _ h9 => h9) rfl dX7_play_45 ?_
    refine lv_if_le (tgt := 53) hx hb dX7_play_48 (by decide) (fun c21 => ?_) (fun c21 => ?_)
    · have hg := it_pos hg c21
      refine lv_aload_n hx hb dX7_play_53 rfl (lv_at hl 0 rfl) ?_
      obtain ⟨⟨⟩, S22, hc22, hg⟩ := cl_some hg
      refine wr_cv (va_runV (As := []) (rest := []) ⟨hx, hb, hml, hown, hts⟩ (c_X7_save l D C N ((sI S s1 7 s0)) z a0 () S22 hc22) (cwV 0 hts gX7_play_X7_save rfl rfl rfl (by decide +kernel) ⟨Nat.le_of_ble_eq_true rfl, Nat.le_of_ble_eq_true rfl⟩) (wd_preV hw hok20 (wF_7 (S := (sI S s1 7 s0)) hok20.2) rfl) rfl rfl hl.1 rfl (lv_room (Nat.le_of_ble_eq_true rfl)) dX7_play_54 ⟨Nat.zero_le _, Nat.zero_le _⟩) hw (fun H locs hw => ?_)
      refine lv_aload_n hx hb dX7_play_57 rfl (lv_at hl 0 rfl) ?_
      refine lv_iload_n hx hb dX7_play_58 rfl (lv_at hl 1 rfl) ?_
      refine lv_iload_n hx hb dX7_play_59 rfl (lv_at hl 2 rfl) ?_
      refine lv_iload_n hx hb dX7_play_60 rfl (lv_at hl 3 rfl) ?_
      obtain ⟨hok23, hg⟩ := gd_some hg
      obtain ⟨r24, S24, hc24, hg⟩ := cl_some hg
      refine wr_ci (va_runV (As := [.int x1, .int x2, .int x3]) (rest := []) ⟨hx, hb, hml, hown, hts⟩ (c_X7_plays l D C N S22 z a0 x1 x2 x3 r24 S24 hc24) (cwV 3 hts gX7_play_X7_plays rfl rfl rfl (by decide +kernel) ⟨Nat.le_of_ble_eq_true rfl, Nat.le_of_ble_eq_true rfl⟩) (wd_preV hw hok23 (wF_7 (S := S22) hok23.2) rfl) rfl rfl hl.1 rfl (lv_room (Nat.le_of_ble_eq_true rfl)) dX7_play_61 ⟨Nat.zero_le _, Nat.zero_le _⟩) hw (fun H locs hw => ?_)
      cases hg
      exact wr_iret hx hb hr hw dX7_play_64 hlk
    · have hg := it_neg hg c21
      refine lv_iconst (v := (0 : Int32)) hx hb dX7_play_51 (by decide) ?_
      cases hg
      exact wr_iret hx hb hr hw dX7_play_52 hlk
  have B25 : ∀ (S : Hp) (s0 : Nat) (H : Heap) (locs : List Loc) (ls : Array Slot), f_X7_play_b25 N a0 x1 x2 x3 S s0 = some (r, S9) → Wd D C (va_A (wP C S0) z) s.heap S z H locs s → lv_has ls 4 [(0, .ref a0), (1, .int x1), (2, .int x2), (3, .int x3)] → W p l e rm_X7_play s m ([.ref a0, .int x1, .int x2, .int x3] : List Value).toArray below meth c H locs 0 0 (MQ below (QiW D C S0 z r S9 z) ([.ref a0, .int x1, .int x2, .int x3] : List Value).toArray s 0 0 (va_A (wP C S0) z)) (F0 m 25 ls [.ref s0]) := by
    intro S s0 H locs ls hg hw hl
    unfold f_X7_play_b25 at hg
    refine lv_iconst (v := (1 : Int32)) hx hb dX7_play_25 (by decide) ?_
    refine lv_goto (tgt := 41) hx hb dX7_play_26 (by decide) ?_
    exact B41 _ _ _ _ _ _ hg hw (lv_sub hl [0, 1, 2, 3] rfl)
  have B0 : ∀ (S : Hp) (H : Heap) (locs : List Loc) (ls : Array Slot), f_X7_play N S a0 x1 x2 x3 = some (r, S9) → Wd D C (va_A (wP C S0) z) s.heap S z H locs s → lv_has ls 4 [(0, .ref a0), (1, .int x1), (2, .int x2), (3, .int x3)] → W p l e rm_X7_play s m ([.ref a0, .int x1, .int x2, .int x3] : List Value).toArray below meth c H locs 0 0 (MQ below (QiW D C S0 z r S9 z) ([.ref a0, .int x1, .int x2, .int x3] : List Value).toArray s 0 0 (va_A (wP C S0) z)) (F0 m 0 ls []) := by
    intro S H locs ls hg hw hl
    unfold f_X7_play at hg
    refine lv_aload_n hx hb dX7_play_0 rfl (lv_at hl 0 rfl) ?_
    refine lv_iload_n hx hb dX7_play_1 rfl (lv_at hl 1 rfl) ?_
    obtain ⟨r10, S10, hc10, hg⟩ := cl_some hg
    refine wr_ci (va_runS (As := [.int x1]) (rest := [.ref a0]) ⟨hx, hb, hml, hown, hts⟩ (c_X7_isRule l D C N S z x1 r10 S10 hc10) (va_cwS 1 hts gX7_play_X7_isRule rfl rfl rfl (by decide +kernel) ⟨Nat.le_of_ble_eq_true rfl, Nat.le_of_ble_eq_true rfl⟩) (wd_preS hw) rfl rfl hl.1 rfl (lv_room (Nat.le_of_ble_eq_true rfl)) dX7_play_2 ⟨Nat.zero_le _, Nat.zero_le _⟩) hw (fun H locs hw => ?_)
    refine lv_if_eq (tgt := 25) hx hb dX7_play_5 (by decide) (fun c11 => ?_) (fun c11 => ?_)
    · have hg := it_pos hg c11
      exact B25 _ _ _ _ _ hg hw (lv_sub hl [0, 1, 2, 3] rfl)
    · have hg := it_neg hg c11
      refine lv_iload_n hx hb dX7_play_8 rfl (lv_at hl 2 rfl) ?_
      obtain ⟨r12, S12, hc12, hg⟩ := cl_some hg
      refine wr_ci (va_runS (As := [.int x2]) (rest := [.ref a0]) ⟨hx, hb, hml, hown, hts⟩ (c_X7_isRule l D C N S10 z x2 r12 S12 hc12) (va_cwS 1 hts gX7_play_X7_isRule rfl rfl rfl (by decide +kernel) ⟨Nat.le_of_ble_eq_true rfl, Nat.le_of_ble_eq_true rfl⟩) (wd_preS hw) rfl rfl hl.1 rfl (lv_room (Nat.le_of_ble_eq_true rfl)) dX7_play_9 ⟨Nat.zero_le _, Nat.zero_le _⟩) hw (fun H locs hw => ?_)
      refine lv_if_eq (tgt := 25) hx hb dX7_play_12 (by decide) (fun c13 => ?_) (fun c13 => ?_)
      · have hg := it_pos hg c13
        exact B25 _ _ _ _ _ hg hw (lv_sub hl [0, 1, 2, 3] rfl)
      · have hg := it_neg hg c13
        refine lv_iload_n hx hb dX7_play_15 rfl (lv_at hl 3 rfl) ?_
        refine lv_iconst (v := (1 : Int32)) hx hb dX7_play_16 (by decide) ?_
        refine lv_bipush (v := (10 : Int32)) hx hb dX7_play_17 (by decide) ?_
        obtain ⟨r14, S14, hc14, hg⟩ := cl_some hg
        refine wr_ci (va_runS (As := [.int x3, .int (1 : Int32), .int (10 : Int32)]) (rest := [.ref a0]) ⟨hx, hb, hml, hown, hts⟩ (c_X7_within l D C N S12 z x3 ((1 : Int32)) ((10 : Int32)) r14 S14 hc14) (va_cwS 3 hts gX7_play_X7_within rfl rfl rfl (by decide +kernel) ⟨Nat.le_of_ble_eq_true rfl, Nat.le_of_ble_eq_true rfl⟩) (wd_preS hw) rfl rfl hl.1 rfl (lv_room (Nat.le_of_ble_eq_true rfl)) dX7_play_19 ⟨Nat.zero_le _, Nat.zero_le _⟩) hw (fun H locs hw => ?_)
        refine lv_if_ne (tgt := 29) hx hb dX7_play_22 (by decide) (fun c15 => ?_) (fun c15 => ?_)
        · have hg := it_neg hg c15
          refine lv_aload_n hx hb dX7_play_29 rfl (lv_at hl 0 rfl) ?_
          obtain ⟨hok16, hg⟩ := gd_some hg
          obtain ⟨r17, S17, hc17, hg⟩ := cl_some hg
          refine wr_ci (va_runV (As := []) (rest := [.ref a0]) ⟨hx, hb, hml, hown, hts⟩ (c_X7_winnerNow l D C N S14 z a0 r17 S17 hc17) (cwV 0 hts gX7_play_X7_winnerNow rfl rfl rfl (by decide +kernel) ⟨Nat.le_of_ble_eq_true rfl, Nat.le_of_ble_eq_true rfl⟩) (wd_preV hw hok16 (wF_7 (S := S14) hok16.2) rfl) rfl rfl hl.1 rfl (lv_room (Nat.le_of_ble_eq_true rfl)) dX7_play_30 ⟨Nat.zero_le _, Nat.zero_le _⟩) hw (fun H locs hw => ?_)
          refine lv_if_ne (tgt := 40) hx hb dX7_play_33 (by decide) (fun c18 => ?_) (fun c18 => ?_)
          · have hg := it_neg hg c18
            refine lv_iconst (v := (2 : Int32)) hx hb dX7_play_40 (by decide) ?_
            exact B41 _ _ _ _ _ _ hg hw (lv_sub hl [0, 1, 2, 3] rfl)
          · have hg := it_pos hg c18
            refine lv_iconst (v := (0 : Int32)) hx hb dX7_play_36 (by decide) ?_
            refine lv_goto (tgt := 41) hx hb dX7_play_37 (by decide) ?_
            exact B41 _ _ _ _ _ _ hg hw (lv_sub hl [0, 1, 2, 3] rfl)
        · have hg := it_pos hg c15
          exact B25 _ _ _ _ _ hg hw (lv_sub hl [0, 1, 2, 3] rfl)
  exact B0 S0 _ _ _ hg hw hl
theorem hi_X7_append_X7 : ∀ w ∈ wsX70, w ∈ wsX7_append := fun _ h => List.mem_cons_of_mem _ (List.mem_append_right _ (h))
abbrev rm_X7_append : Room := { frames := 1, cells := 0, slots := 0, locals := 22 }
set_option maxHeartbeats 4000000 in
set_option maxRecDepth 100000 in
theorem c_X7_append (l : Launch) (D : va_G) (C : C3) (N : Nat) (S0 : Hp) (z : Nat) (a0 : Nat) (x1 : Int32) (r : Int32) (S9 : Hp) (hg : f_X7_append N S0 a0 x1 = some (r, S9)) : MetI l yX7_append wsX7_append rm_X7_append D C S0 z [.ref a0, .int x1] r S9 z 0 0 := by
  refine mw_ofW (cc := cX7_append) (maxL := 2) (ret := (some .int)) (lv := [(0, .ref a0), (1, .int x1)]) (by decide) rfl (Nat.le_of_ble_eq_true rfl) rfl ?_
  intro p e s m below meth c ls hx hb hr hts hown hlk hml hnm hl hw
  have hown : s.vm.findClass RX7 = some m.cls := hown
  have B30 : ∀ (S : Hp) (s0 : Int32) (s1 : Nat) (H : Heap) (locs : List Loc) (ls : Array Slot), f_X7_append_b30 N a0 x1 S s0 s1 = some (r, S9) → Wd D C (va_A (wP C S0) z) s.heap S z H locs s → lv_has ls 2 [(0, .ref a0), (1, .int x1)] → W p l e rm_X7_append s m ([.ref a0, .int x1] : List Value).toArray below meth c H locs 0 0 (MQ below (QiW D C S0 z r S9 z) ([.ref a0, .int x1] : List Value).toArray s 0 0 (va_A (wP C S0) z)) (F0 m 30 ls [.int s0, .ref s1]) := by
    intro S s0 s1 H locs ls hg hw hl
    unfold f_X7_append_b30 at hg
    obtain ⟨hok14, hg⟩ := gd_some hg
    refine wr_put (K := RX7) (T := TX7) (N := 20) (index := 50) (ref := "MakerLinesModel") (ty := (.int)) (S1 := (sI S s1 7 s0)) hx hb hts hi_X7_append_X7 tyX7 tyX7_ok nmX7 hown hw hok14 (wF_7 (S := S) hok14.2) rfl (fun b hb9 => wF_sI_ne hb9) 7 (wq_7_7 (S := S) hok14.2 _) rfl (by decide) (hts _ (List.mem_of_getElem? (i := 2) rfl)) (fun _ h9 => h9) rfl (by decide +kernel) rfl rfl (Nat.le_of_ble_eq_true rfl) dX7_append_30 (fun H locs hw => ?_)
    refine lv_aload_n hx hb dX7_append_33 rfl (lv_at hl 0 rfl) ?_
    obtain ⟨hok15, hg⟩ := gd_some hg
    refine wr_get (K := RX7) (T := TX7) (N := 20) (index := 50) (ref := "MakerLinesModel") (v := .int (hI ((sI S s1 7 s0)) a0 7)) hx hb hts hi_X7_append_X7 hown hw hok15 (wF_7 (S := (sI S s1 7 s0)) hok15.2) rfl 7 (by decide) (hts _ (List.mem_of_getElem? (i := 2) rfl)) (fun _ h9 => h9) rfl dX7_append_34 ?_
    refine lv_if_le (tgt := 42) hx hb dX7_append_37 (by decide) (fun c16 => ?_) (fun c16 => ?_)
    · have hg := it_pos hg c16
      refine lv_aload_n hx hb dX7_append_42 rfl (lv_at hl 0 rfl) ?_
      obtain ⟨r17, hr17, hg⟩ := nn_some hg
      refine wr_get (K := RX7) (T := TX7) (N := 20) (index := 22) (ref := "MakerLinesModel") (v := .ref r17) hx hb hts hi_X7_append_X7 hown hw hok15 (wF_7 (S := (sI S s1 7 s0)) hok15.2) rfl 6 (by decide) (hts _ (List.mem_of_getElem? (i := 3) rfl)) (fun _ h9 => h9) (congrArg (fun o => some (va_rf o)) hr17) dX7_append_43 ?_
      refine lv_aload_n hx hb dX7_append_46 rfl (lv_at hl 0 rfl) ?_
      refine wr_get (K := RX7) (T := TX7) (N := 20) (index := 191) (ref := "MakerLinesModel") (v := .int (hI ((sI S s1 7 s0)) a0 5)) hx hb hts hi_X7_append_X7 hown hw hok15 (wF_7 (S := (sI S s1 7 s0)) hok15.2) rfl 5 (by decide) (hts _ (List.mem_of_getElem? (i := 1) rfl)) (fun _ h9 => h9) rfl dX7_append_47 ?_
      refine lv_iload_n hx hb dX7_append_50 rfl (lv_at hl 1 rfl) ?_
      obtain ⟨hok18, hg⟩ := gd_some hg
      obtain ⟨hin19, hg⟩ := gd_some hg
      refine wr_iast hx hb hw hok18 (inb_vp hin19) dX7_append_51 (fun H locs hw => ?_)
      obtain ⟨S20, hS20, hg⟩ := bd_some hg
      rw [← hS20] at hw
      have hok21 : ok S20 s1 7 := by rw [hS20]; exact hok14
      have hok22 : ok S20 a0 7 := by rw [hS20]; exact hok15
      have hr23 : hR S20 a0 6 = some r17 := by rw [hS20]; exact hr17
      have hok24 : ok S20 r17 8 := by rw [hS20]; exact hok18
      have hin25 : inb (hI ((sI S s1 7 s0)) a0 5) (hN S20 r17) := by rw [hS20]; exact hin19
      refine lv_aload_n hx hb dX7_append_52 rfl (lv_at hl 0 rfl) ?_
      refine lv_dup hx hb dX7_append_53 rfl ?_
      refine wr_get (K := RX7) (T := TX7) (N := 20) (index := 191) (ref := "MakerLinesModel") (v := .int (hI S20 a0 5)) hx hb hts hi_X7_append_X7 hown hw hok22 (wF_7 (S := S20) hok22.2) rfl 5 (by decide) (hts _ (List.mem_of_getElem? (i := 1) rfl)) (fun _ h9 => h9) rfl dX7_append_54 ?_
      refine lv_iconst (v := (1 : Int32)) hx hb dX7_append_57 (by decide) ?_
      refine lv_iadd hx hb dX7_append_58 ?_
      refine wr_put (K := RX7) (T := TX7) (N := 20) (index := 191) (ref := "MakerLinesModel") (ty := (.int)) (S1 := (sI S20 a0 5 ((hI S20 a0 5) + (1 : Int32)))) hx hb hts hi_X7_append_X7 tyX7 tyX7_ok nmX7 hown hw hok22 (wF_7 (S := S20) hok22.2) rfl (fun b hb9 => wF_sI_ne hb9) 5 (wq_7_5 (S := S20) hok22.2 _) rfl (by decide) (hts _ (List.mem_of_getElem? (i := 1) rfl)) (fun _ h9 => h9) rfl (by decide +kernel) rfl rfl (Nat.le_of_ble_eq_true rfl) dX7_append_59 (fun H locs hw => ?_)
      refine lv_aload_n hx hb dX7_append_62 rfl (lv_at hl 0 rfl) ?_
      refine wr_get (K := RX7) (T := TX7) (N := 20) (index := 191) (ref := "MakerLinesModel") (v := .int (hI ((sI S20 a0 5 ((hI S20 a0 5) + (1 : Int32)))) a0 5)) hx hb hts hi_X7_append_X7 hown hw hok22 (wF_7 (S := (sI S20 a0 5 ((hI S20 a0 5) + (1 : Int32)))) hok22.2) rfl 5 (by decide) (hts _ (List.mem_of_getElem? (i := 1) rfl)) (fun _ h9 => h9) rfl dX7_append_63 ?_
      cases hg
      exact wr_iret hx hb hr hw dX7_append_66 hlk
    · have hg := it_neg hg c16
      refine lv_iconst (v := (0 : Int32)) hx hb dX7_append_40 (by decide) ?_
      cases hg
      exact wr_iret hx hb hr hw dX7_append_41 hlk
  have B0 : ∀ (S : Hp) (H : Heap) (locs : List Loc) (ls : Array Slot), f_X7_append N S a0 x1 = some (r, S9) → Wd D C (va_A (wP C S0) z) s.heap S z H locs s → lv_has ls 2 [(0, .ref a0), (1, .int x1)] → W p l e rm_X7_append s m ([.ref a0, .int x1] : List Value).toArray below meth c H locs 0 0 (MQ below (QiW D C S0 z r S9 z) ([.ref a0, .int x1] : List Value).toArray s 0 0 (va_A (wP C S0) z)) (F0 m 0 ls []) := by
    intro S H locs ls hg hw hl
    unfold f_X7_append at hg
    refine lv_aload_n hx hb dX7_append_0 rfl (lv_at hl 0 rfl) ?_
    refine lv_iload_n hx hb dX7_append_1 rfl (lv_at hl 1 rfl) ?_
    refine lv_bipush (v := (33 : Int32)) hx hb dX7_append_2 (by decide) ?_
    refine lv_bipush (v := (126 : Int32)) hx hb dX7_append_4 (by decide) ?_
    obtain ⟨r10, S10, hc10, hg⟩ := cl_some hg
    refine wr_ci (va_runS (As := [.int x1, .int (33 : Int32), .int (126 : Int32)]) (rest := [.ref a0]) ⟨hx, hb, hml, hown, hts⟩ (c_X7_within l D C N S z x1 ((33 : Int32)) ((126 : Int32)) r10 S10 hc10) (va_cwS 3 hts gX7_append_X7_within rfl rfl rfl (by decide +kernel) ⟨Nat.le_of_ble_eq_true rfl, Nat.le_of_ble_eq_true rfl⟩) (wd_preS hw) rfl rfl hl.1 rfl (lv_room (Nat.le_of_ble_eq_true rfl)) dX7_append_6 ⟨Nat.zero_le _, Nat.zero_le _⟩) hw (fun H locs hw => ?_)
    refine lv_if_ne (tgt := 16) hx hb dX7_append_9 (by decide) (fun c11 => ?_) (fun c11 => ?_)
    · have hg := it_neg hg c11
      refine lv_aload_n hx hb dX7_append_16 rfl (lv_at hl 0 rfl) ?_
      obtain ⟨hok12, hg⟩ := gd_some hg
      refine wr_get (K := RX7) (T := TX7) (N := 20) (index := 191) (ref := "MakerLinesModel") (v := .int (hI S10 a0 5)) hx hb hts hi_X7_append_X7 hown hw hok12 (wF_7 (S := S10) hok12.2) rfl 5 (by decide) (hts _ (List.mem_of_getElem? (i := 1) rfl)) (fun _ h9 => h9) rfl dX7_append_17 ?_
      refine lv_bipush (v := (60 : Int32)) hx hb dX7_append_20 (by decide) ?_
      refine lv_icmp_ne (tgt := 29) hx hb dX7_append_22 (by decide) (fun c13 => ?_) (fun c13 => ?_)
      · have hg := it_neg hg c13
        refine lv_iconst (v := (0 : Int32)) hx hb dX7_append_29 (by decide) ?_
        exact B30 _ _ _ _ _ _ hg hw (lv_sub hl [0, 1] rfl)
      · have hg := it_pos hg c13
        refine lv_iconst (v := (2 : Int32)) hx hb dX7_append_25 (by decide) ?_
        refine lv_goto (tgt := 30) hx hb dX7_append_26 (by decide) ?_
        exact B30 _ _ _ _ _ _ hg hw (lv_sub hl [0, 1] rfl)
    · have hg := it_pos hg c11
      refine lv_iconst (v := (1 : Int32)) hx hb dX7_append_12 (by decide) ?_
      refine lv_goto (tgt := 30) hx hb dX7_append_13 (by decide) ?_
      exact B30 _ _ _ _ _ _ hg hw (lv_sub hl [0, 1] rfl)
  exact B0 S0 _ _ _ hg hw hl
theorem hi_X7_clearBuffer_X7 : ∀ w ∈ wsX70, w ∈ wsX7_clearBuffer := fun _ h => List.mem_cons_of_mem _ (List.mem_append_right _ (h))
abbrev rm_X7_clearBuffer : Room := { frames := 0, cells := 0, slots := 0, locals := 0 }
set_option maxHeartbeats 4000000 in
set_option maxRecDepth 100000 in
theorem c_X7_clearBuffer (l : Launch) (D : va_G) (C : C3) (N : Nat) (S0 : Hp) (z : Nat) (a0 : Nat) (r : Int32) (S9 : Hp) (hg : f_X7_clearBuffer N S0 a0 = some (r, S9)) : MetI l yX7_clearBuffer wsX7_clearBuffer rm_X7_clearBuffer D C S0 z [.ref a0] r S9 z 0 0 := by
  refine mw_ofW (cc := cX7_clearBuffer) (maxL := 2) (ret := (some .int)) (lv := [(0, .ref a0)]) (by decide) rfl (Nat.le_of_ble_eq_true rfl) rfl ?_
  intro p e s m below meth c ls hx hb hr hts hown hlk hml hnm hl hw
  have hown : s.vm.findClass RX7 = some m.cls := hown
  have B0 : ∀ (S : Hp) (H : Heap) (locs : List Loc) (ls : Array Slot), f_X7_clearBuffer N S a0 = some (r, S9) → Wd D C (va_A (wP C S0) z) s.heap S z H locs s → lv_has ls 2 [(0, .ref a0)] → W p l e rm_X7_clearBuffer s m ([.ref a0] : List Value).toArray below meth c H locs 0 0 (MQ below (QiW D C S0 z r S9 z) ([.ref a0] : List Value).toArray s 0 0 (va_A (wP C S0) z)) (F0 m 0 ls []) := by
    intro S H locs ls hg hw hl
    unfold f_X7_clearBuffer at hg
    refine lv_aload_n hx hb dX7_clearBuffer_0 rfl (lv_at hl 0 rfl) ?_
    refine lv_iconst (v := (0 : Int32)) hx hb dX7_clearBuffer_1 (by decide) ?_
    obtain ⟨hok10, hg⟩ := gd_some hg
    refine wr_put (K := RX7) (T := TX7) (N := 20) (index := 50) (ref := "MakerLinesModel") (ty := (.int)) (S1 := (sI S a0 7 (0 : Int32))) hx hb hts hi_X7_clearBuffer_X7 tyX7 tyX7_ok nmX7 hown hw hok10 (wF_7 (S := S) hok10.2) rfl (fun b hb9 => wF_sI_ne hb9) 7 (wq_7_7 (S := S) hok10.2 _) rfl (by decide) (hts _ (List.mem_of_getElem? (i := 1) rfl)) (fun _ h9 => h9) rfl (by decide +kernel) rfl rfl (Nat.le_of_ble_eq_true rfl) dX7_clearBuffer_2 (fun H locs hw => ?_)
    refine lv_aload_n hx hb dX7_clearBuffer_5 rfl (lv_at hl 0 rfl) ?_
    refine wr_get (K := RX7) (T := TX7) (N := 20) (index := 191) (ref := "MakerLinesModel") (v := .int (hI ((sI S a0 7 (0 : Int32))) a0 5)) hx hb hts hi_X7_clearBuffer_X7 hown hw hok10 (wF_7 (S := (sI S a0 7 (0 : Int32))) hok10.2) rfl 5 (by decide) (hts _ (List.mem_of_getElem? (i := 2) rfl)) (fun _ h9 => h9) rfl dX7_clearBuffer_6 ?_
    obtain ⟨e11, he11, hg⟩ := bd_some hg
    refine lv_istore_n (lv' := [(1, .int e11), (0, .ref a0)]) hx hb dX7_clearBuffer_9 rfl hl (by decide) (by rw [he11]; rfl) (fun ls hl => ?_)
    refine lv_aload_n hx hb dX7_clearBuffer_10 rfl (lv_at hl 1 rfl) ?_
    refine lv_iconst (v := (0 : Int32)) hx hb dX7_clearBuffer_11 (by decide) ?_
    refine wr_put (K := RX7) (T := TX7) (N := 20) (index := 191) (ref := "MakerLinesModel") (ty := (.int)) (S1 := (sI (sI S a0 7 (0 : Int32)) a0 5 (0 : Int32))) hx hb hts hi_X7_clearBuffer_X7 tyX7 tyX7_ok nmX7 hown hw hok10 (wF_7 (S := (sI S a0 7 (0 : Int32))) hok10.2) rfl (fun b hb9 => wF_sI_ne hb9) 5 (wq_7_5 (S := (sI S a0 7 (0 : Int32))) hok10.2 _) rfl (by decide) (hts _ (List.mem_of_getElem? (i := 2) rfl)) (fun _ h9 => h9) rfl (by decide +kernel) rfl rfl (Nat.le_of_ble_eq_true rfl) dX7_clearBuffer_12 (fun H locs hw => ?_)
    refine lv_iload_n hx hb dX7_clearBuffer_15 rfl (lv_at hl 0 rfl) ?_
    cases hg
    exact wr_iret hx hb hr hw dX7_clearBuffer_16 hlk
  exact B0 S0 _ _ _ hg hw hl
theorem hi_X7_takes_X7 : ∀ w ∈ wsX70, w ∈ wsX7_takes := fun _ h => List.mem_cons_of_mem _ (List.mem_append_right _ (h))
abbrev rm_X7_takes : Room := { frames := 2, cells := 0, slots := 0, locals := 43 }
set_option maxHeartbeats 4000000 in
set_option maxRecDepth 100000 in
theorem c_X7_takes (l : Launch) (D : va_G) (C : C3) (N : Nat) (S0 : Hp) (z : Nat) (a0 : Nat) (x1 : Int32) (r : Int32) (S9 : Hp) (hg : f_X7_takes N S0 a0 x1 = some (r, S9)) : MetI l yX7_takes wsX7_takes rm_X7_takes D C S0 z [.ref a0, .int x1] r S9 z 0 0 := by
  refine mw_ofW (cc := cX7_takes) (maxL := 3) (ret := (some .boolean)) (lv := [(0, .ref a0), (1, .int x1)]) (by decide) rfl (Nat.le_of_ble_eq_true rfl) rfl ?_
  intro p e s m below meth c ls hx hb hr hts hown hlk hml hnm hl hw
  have hown : s.vm.findClass RX7 = some m.cls := hown
  have B99 : ∀ (S : Hp) (v2 : Int32) (s0 : Int32) (s1 : Int32) (s2 : Int32) (s3 : Nat) (H : Heap) (locs : List Loc) (ls : Array Slot), f_X7_takes_b99 N a0 x1 S v2 s0 s1 s2 s3 = some (r, S9) → Wd D C (va_A (wP C S0) z) s.heap S z H locs s → lv_has ls 3 [(2, .int v2)] → W p l e rm_X7_takes s m ([.ref a0, .int x1] : List Value).toArray below meth c H locs 0 0 (MQ below (QiW D C S0 z r S9 z) ([.ref a0, .int x1] : List Value).toArray s 0 0 (va_A (wP C S0) z)) (F0 m 99 ls [.int s0, .int s1, .int s2, .ref s3]) := by
    intro S v2 s0 s1 s2 s3 H locs ls hg hw hl
    unfold f_X7_takes_b99 at hg
    refine lv_ior hx hb dX7_takes_99 ?_
    obtain ⟨hok36, hg⟩ := gd_some hg
    obtain ⟨hin37, hg⟩ := gd_some hg
    refine wr_iast hx hb hw hok36 (inb_vp hin37) dX7_takes_100 (fun H locs hw => ?_)
    refine lv_iload_n hx hb dX7_takes_101 rfl (lv_at hl 0 rfl) ?_
    obtain ⟨hz38, hg⟩ := gd_some hg
    cases hg
    exact wr_zret hx hb hr hz38 hw dX7_takes_102 hlk
  have B74 : ∀ (S : Hp) (s0 : Int32) (H : Heap) (locs : List Loc) (ls : Array Slot), f_X7_takes_b74 N a0 x1 S s0 = some (r, S9) → Wd D C (va_A (wP C S0) z) s.heap S z H locs s → lv_has ls 3 [(0, .ref a0), (1, .int x1)] → W p l e rm_X7_takes s m ([.ref a0, .int x1] : List Value).toArray below meth c H locs 0 0 (MQ below (QiW D C S0 z r S9 z) ([.ref a0, .int x1] : List Value).toArray s 0 0 (va_A (wP C S0) z)) (F0 m 74 ls [.int s0]) := by
    intro S s0 H locs ls hg hw hl
    unfold f_X7_takes_b74 at hg
    refine lv_istore_n (lv' := [(2, .int s0), (0, .ref a0), (1, .int x1)]) hx hb dX7_takes_74 rfl hl (by decide) rfl (fun ls hl => ?_)
    refine lv_aload_n hx hb dX7_takes_75 rfl (lv_at hl 1 rfl) ?_
    obtain ⟨hok31, hg⟩ := gd_some hg
    obtain ⟨r32, hr32, hg⟩ := nn_some hg
    refine wr_get (K := RX7) (T := TX7) (N := 20) (index := 44) (ref := "MakerLinesModel") (v := .ref r32) hx hb hts hi_X7_takes_X7 hown hw hok31 (wF_7 (S := S) hok31.2) rfl 16 (by decide) (hts _ (List.mem_of_getElem? (i := 1) rfl)) (fun _ h9 => h9) (congrArg (fun o => some (va_rf o)) hr32) dX7_takes_76 ?_
    refine lv_aload_n hx hb dX7_takes_79 rfl (lv_at hl 1 rfl) ?_
    refine wr_get (K := RX7) (T := TX7) (N := 20) (index := 194) (ref := "MakerLinesModel") (v := .int (hI S a0 17)) hx hb hts hi_X7_takes_X7 hown hw hok31 (wF_7 (S := S) hok31.2) rfl 17 (by decide) (hts _ (List.mem_of_getElem? (i := 2) rfl)) (fun _ h9 => h9) rfl dX7_takes_80 ?_
    refine lv_dup2_11 hx hb dX7_takes_83 rfl rfl ?_
    obtain ⟨hok33, hg⟩ := gd_some hg
    obtain ⟨hin34, hg⟩ := gd_some hg
    refine wr_iald hx hb hw hok33 (inb_vp hin34) dX7_takes_84 ?_
    refine lv_iload_n hx hb dX7_takes_85 rfl (lv_at hl 0 rfl) ?_
    refine lv_if_eq (tgt := 98) hx hb dX7_takes_86 (by decide) (fun c35 => ?_) (fun c35 => ?_)
    · have hg := it_pos hg c35
      refine lv_iconst (v := (0 : Int32)) hx hb dX7_takes_98 (by decide) ?_
      exact B99 _ _ _ _ _ _ _ _ _ hg hw (lv_sub hl [0] rfl)
    · have hg := it_neg hg c35
      refine lv_iconst (v := (1 : Int32)) hx hb dX7_takes_89 (by decide) ?_
      refine lv_iload_n hx hb dX7_takes_90 rfl (lv_at hl 2 rfl) ?_
      refine lv_bipush (v := (48 : Int32)) hx hb dX7_takes_91 (by decide) ?_
      refine lv_isub hx hb dX7_takes_93 ?_
      refine lv_ishl hx hb dX7_takes_94 ?_
      refine lv_goto (tgt := 99) hx hb dX7_takes_95 (by decide) ?_
      exact B99 _ _ _ _ _ _ _ _ _ hg hw (lv_sub hl [0] rfl)
  have B73 : ∀ (S : Hp) (H : Heap) (locs : List Loc) (ls : Array Slot), f_X7_takes_b73 N a0 x1 S = some (r, S9) → Wd D C (va_A (wP C S0) z) s.heap S z H locs s → lv_has ls 3 [(0, .ref a0), (1, .int x1)] → W p l e rm_X7_takes s m ([.ref a0, .int x1] : List Value).toArray below meth c H locs 0 0 (MQ below (QiW D C S0 z r S9 z) ([.ref a0, .int x1] : List Value).toArray s 0 0 (va_A (wP C S0) z)) (F0 m 73 ls []) := by
    intro S H locs ls hg hw hl
    unfold f_X7_takes_b73 at hg
    refine lv_iconst (v := (0 : Int32)) hx hb dX7_takes_73 (by decide) ?_
    exact B74 _ _ _ _ _ hg hw (lv_sub hl [0, 1] rfl)
  have B40 : ∀ (S : Hp) (H : Heap) (locs : List Loc) (ls : Array Slot), f_X7_takes_b40 N a0 x1 S = some (r, S9) → Wd D C (va_A (wP C S0) z) s.heap S z H locs s → lv_has ls 3 [(0, .ref a0), (1, .int x1)] → W p l e rm_X7_takes s m ([.ref a0, .int x1] : List Value).toArray below meth c H locs 0 0 (MQ below (QiW D C S0 z r S9 z) ([.ref a0, .int x1] : List Value).toArray s 0 0 (va_A (wP C S0) z)) (F0 m 40 ls []) := by
    intro S H locs ls hg hw hl
    unfold f_X7_takes_b40 at hg
    refine lv_aload_n hx hb dX7_takes_40 rfl (lv_at hl 0 rfl) ?_
    refine lv_iload_n hx hb dX7_takes_41 rfl (lv_at hl 1 rfl) ?_
    refine lv_bipush (v := (48 : Int32)) hx hb dX7_takes_42 (by decide) ?_
    refine lv_isub hx hb dX7_takes_44 ?_
    obtain ⟨hok23, hg⟩ := gd_some hg
    obtain ⟨r24, S24, hc24, hg⟩ := cl_some hg
    refine wr_ci (va_runV (As := [.int (x1 - (48 : Int32))]) (rest := []) ⟨hx, hb, hml, hown, hts⟩ (c_X7_isCell l D C N S z a0 ((x1 - (48 : Int32))) r24 S24 hc24) (cwV 1 hts gX7_takes_X7_isCell rfl rfl rfl (by decide +kernel) ⟨Nat.le_of_ble_eq_true rfl, Nat.le_of_ble_eq_true rfl⟩) (wd_preV hw hok23 (wF_7 (S := S) hok23.2) rfl) rfl rfl hl.1 rfl (lv_room (Nat.le_of_ble_eq_true rfl)) dX7_takes_45 ⟨Nat.zero_le _, Nat.zero_le _⟩) hw (fun H locs hw => ?_)
    refine lv_if_eq (tgt := 73) hx hb dX7_takes_48 (by decide) (fun c25 => ?_) (fun c25 => ?_)
    · have hg := it_pos hg c25
      exact B73 _ _ _ _ hg hw (lv_sub hl [0, 1] rfl)
    · have hg := it_neg hg c25
      refine lv_aload_n hx hb dX7_takes_51 rfl (lv_at hl 0 rfl) ?_
      obtain ⟨hok26, hg⟩ := gd_some hg
      obtain ⟨r27, hr27, hg⟩ := nn_some hg
      refine wr_get (K := RX7) (T := TX7) (N := 20) (index := 44) (ref := "MakerLinesModel") (v := .ref r27) hx hb hts hi_X7_takes_X7 hown hw hok26 (wF_7 (S := S24) hok26.2) rfl 16 (by decide) (hts _ (List.mem_of_getElem? (i := 1) rfl)) (fun _ h9 => h9) (congrArg (fun o => some (va_rf o)) hr27) dX7_takes_52 ?_
      refine lv_aload_n hx hb dX7_takes_55 rfl (lv_at hl 0 rfl) ?_
      refine wr_get (K := RX7) (T := TX7) (N := 20) (index := 194) (ref := "MakerLinesModel") (v := .int (hI S24 a0 17)) hx hb hts hi_X7_takes_X7 hown hw hok26 (wF_7 (S := S24) hok26.2) rfl 17 (by decide) (hts _ (List.mem_of_getElem? (i := 2) rfl)) (fun _ h9 => h9) rfl dX7_takes_56 ?_
      obtain ⟨hok28, hg⟩ := gd_some hg
      obtain ⟨hin29, hg⟩ := gd_some hg
      refine wr_iald hx hb hw hok28 (inb_vp hin29) dX7_takes_59 ?_
      refine lv_iconst (v := (1 : Int32)) hx hb dX7_takes_60 (by decide) ?_
      refine lv_iload_n hx hb dX7_takes_61 rfl (lv_at hl 1 rfl) ?_
      refine lv_bipush (v := (48 : Int32)) hx hb dX7_takes_62 (by decide) ?_
      refine lv_isub hx hb dX7_takes_64 ?_
      refine lv_ishl hx hb dX7_takes_65 ?_
      refine lv_icmp_ge (tgt := 73) hx hb dX7_takes_66 (by decide) (fun c30 => ?_) (fun c30 => ?_)
      · have hg := it_pos hg c30
        exact B73 _ _ _ _ hg hw (lv_sub hl [0, 1] rfl)
      · have hg := it_neg hg c30
        refine lv_iconst (v := (1 : Int32)) hx hb dX7_takes_69 (by decide) ?_
        refine lv_goto (tgt := 74) hx hb dX7_takes_70 (by decide) ?_
        exact B74 _ _ _ _ _ hg hw (lv_sub hl [0, 1] rfl)
  have B0 : ∀ (S : Hp) (H : Heap) (locs : List Loc) (ls : Array Slot), f_X7_takes N S a0 x1 = some (r, S9) → Wd D C (va_A (wP C S0) z) s.heap S z H locs s → lv_has ls 3 [(0, .ref a0), (1, .int x1)] → W p l e rm_X7_takes s m ([.ref a0, .int x1] : List Value).toArray below meth c H locs 0 0 (MQ below (QiW D C S0 z r S9 z) ([.ref a0, .int x1] : List Value).toArray s 0 0 (va_A (wP C S0) z)) (F0 m 0 ls []) := by
    intro S H locs ls hg hw hl
    unfold f_X7_takes at hg
    refine lv_iload_n hx hb dX7_takes_0 rfl (lv_at hl 1 rfl) ?_
    refine lv_bipush (v := (59 : Int32)) hx hb dX7_takes_1 (by decide) ?_
    refine lv_icmp_ne (tgt := 40) hx hb dX7_takes_3 (by decide) (fun c10 => ?_) (fun c10 => ?_)
    · have hg := it_neg hg c10
      exact B40 _ _ _ _ hg hw (lv_sub hl [0, 1] rfl)
    · have hg := it_pos hg c10
      refine lv_aload_n hx hb dX7_takes_6 rfl (lv_at hl 0 rfl) ?_
      obtain ⟨hok11, hg⟩ := gd_some hg
      obtain ⟨r12, hr12, hg⟩ := nn_some hg
      refine wr_get (K := RX7) (T := TX7) (N := 20) (index := 44) (ref := "MakerLinesModel") (v := .ref r12) hx hb hts hi_X7_takes_X7 hown hw hok11 (wF_7 (S := S) hok11.2) rfl 16 (by decide) (hts _ (List.mem_of_getElem? (i := 1) rfl)) (fun _ h9 => h9) (congrArg (fun o => some (va_rf o)) hr12) dX7_takes_7 ?_
      refine lv_aload_n hx hb dX7_takes_10 rfl (lv_at hl 0 rfl) ?_
      refine wr_get (K := RX7) (T := TX7) (N := 20) (index := 194) (ref := "MakerLinesModel") (v := .int (hI S a0 17)) hx hb hts hi_X7_takes_X7 hown hw hok11 (wF_7 (S := S) hok11.2) rfl 17 (by decide) (hts _ (List.mem_of_getElem? (i := 2) rfl)) (fun _ h9 => h9) rfl dX7_takes_11 ?_
      obtain ⟨hok13, hg⟩ := gd_some hg
      obtain ⟨hin14, hg⟩ := gd_some hg
      refine wr_iald hx hb hw hok13 (inb_vp hin14) dX7_takes_14 ?_
      refine lv_if_le (tgt := 40) hx hb dX7_takes_15 (by decide) (fun c15 => ?_) (fun c15 => ?_)
      · have hg := it_pos hg c15
        exact B40 _ _ _ _ hg hw (lv_sub hl [0, 1] rfl)
      · have hg := it_neg hg c15
        refine lv_aload_n hx hb dX7_takes_18 rfl (lv_at hl 0 rfl) ?_
        refine lv_dup hx hb dX7_takes_19 rfl ?_
        refine wr_get (K := RX7) (T := TX7) (N := 20) (index := 194) (ref := "MakerLinesModel") (v := .int (hI S a0 17)) hx hb hts hi_X7_takes_X7 hown hw hok11 (wF_7 (S := S) hok11.2) rfl 17 (by decide) (hts _ (List.mem_of_getElem? (i := 2) rfl)) (fun _ h9 => h9) rfl dX7_takes_20 ?_
        refine lv_iconst (v := (1 : Int32)) hx hb dX7_takes_23 (by decide) ?_
        refine lv_iadd hx hb dX7_takes_24 ?_
        refine wr_put (K := RX7) (T := TX7) (N := 20) (index := 194) (ref := "MakerLinesModel") (ty := (.int)) (S1 := (sI S a0 17 ((hI S a0 17) + (1 : Int32)))) hx hb hts hi_X7_takes_X7 tyX7 tyX7_ok nmX7 hown hw hok11 (wF_7 (S := S) hok11.2) rfl (fun b hb9 => wF_sI_ne hb9) 17 (wq_7_17 (S := S) hok11.2 _) rfl (by decide) (hts _ (List.mem_of_getElem? (i := 2) rfl)) (fun _ h9 => h9) rfl (by decide +kernel) rfl rfl (Nat.le_of_ble_eq_true rfl) dX7_takes_25 (fun H locs hw => ?_)
        refine lv_aload_n hx hb dX7_takes_28 rfl (lv_at hl 0 rfl) ?_
        refine wr_get (K := RX7) (T := TX7) (N := 20) (index := 44) (ref := "MakerLinesModel") (v := .ref r12) hx hb hts hi_X7_takes_X7 hown hw hok11 (wF_7 (S := (sI S a0 17 ((hI S a0 17) + (1 : Int32)))) hok11.2) rfl 16 (by decide) (hts _ (List.mem_of_getElem? (i := 1) rfl)) (fun _ h9 => h9) (congrArg (fun o => some (va_rf o)) hr12) dX7_takes_29 ?_
        refine lv_aload_n hx hb dX7_takes_32 rfl (lv_at hl 0 rfl) ?_
        refine wr_get (K := RX7) (T := TX7) (N := 20) (index := 194) (ref := "MakerLinesModel") (v := .int (hI ((sI S a0 17 ((hI S a0 17) + (1 : Int32)))) a0 17)) hx hb hts hi_X7_takes_X7 hown hw hok11 (wF_7 (S := (sI S a0 17 ((hI S a0 17) + (1 : Int32)))) hok11.2) rfl 17 (by decide) (hts _ (List.mem_of_getElem? (i := 2) rfl)) (fun _ h9 => h9) rfl dX7_takes_33 ?_
        refine lv_iconst (v := (0 : Int32)) hx hb dX7_takes_36 (by decide) ?_
        obtain ⟨hin16, hg⟩ := gd_some hg
        refine wr_iast hx hb hw hok13 (inb_vp hin16) dX7_takes_37 (fun H locs hw => ?_)
        obtain ⟨S17, hS17, hg⟩ := bd_some hg
        rw [← hS17] at hw
        have hok18 : ok S17 a0 7 := by rw [hS17]; exact hok11
        have hr19 : hR S17 a0 16 = some r12 := by rw [hS17]; exact hr12
        have hok20 : ok S17 r12 8 := by rw [hS17]; exact hok13
        have hin21 : inb (hI S a0 17) (hN S17 r12) := by rw [hS17]; exact hin14
        have hin22 : inb (hI ((sI S a0 17 ((hI S a0 17) + (1 : Int32)))) a0 17) (hN S17 r12) := by rw [hS17]; exact hin16
        refine lv_iconst (v := (1 : Int32)) hx hb dX7_takes_38 (by decide) ?_
        cases hg
        exact wr_zret hx hb hr (by decide) hw dX7_takes_39 hlk
  exact B0 S0 _ _ _ hg hw hl
theorem hi_X7_rightUpTo_X7 : ∀ w ∈ wsX70, w ∈ wsX7_rightUpTo := fun _ h => List.mem_cons_of_mem _ (List.mem_append_right _ (h))
abbrev rm_X7_rightUpTo : Room := { frames := 3, cells := 0, slots := 0, locals := 65 }
set_option maxHeartbeats 4000000 in
set_option maxRecDepth 100000 in
theorem c_X7_rightUpTo (l : Launch) (D : va_G) (C : C3) (N : Nat) (S0 : Hp) (z : Nat) (a0 : Nat) (r : Int32) (S9 : Hp) (hg : f_X7_rightUpTo N S0 a0 = some (r, S9)) : MetI l yX7_rightUpTo wsX7_rightUpTo rm_X7_rightUpTo D C S0 z [.ref a0] r S9 z 0 0 := by
  refine mw_ofW (cc := cX7_rightUpTo) (maxL := 2) (ret := (some .int)) (lv := [(0, .ref a0)]) (by decide) rfl (Nat.le_of_ble_eq_true rfl) rfl ?_
  intro p e s m below meth c ls hx hb hr hts hown hlk hml hnm hl hw
  have hown : s.vm.findClass RX7 = some m.cls := hown
  have B14 : ∀ (K14 : Hp → Int32 → Option (Int32 × Hp)) (hK14 : ∀ (S : Hp) (v1 : Int32) (H : Heap) (locs : List Loc) (ls : Array Slot), K14 S v1 = some (r, S9) → Wd D C (va_A (wP C S0) z) s.heap S z H locs s → lv_has ls 2 [(0, .ref a0), (1, .int v1)] → W p l e rm_X7_rightUpTo s m ([.ref a0] : List Value).toArray below meth c H locs 0 0 (MQ below (QiW D C S0 z r S9 z) ([.ref a0] : List Value).toArray s 0 0 (va_A (wP C S0) z)) (F0 m 14 ls [])) (S : Hp) (v1 : Int32) (H : Heap) (locs : List Loc) (ls : Array Slot), f_X7_rightUpTo_b14 N a0 K14 S v1 = some (r, S9) → Wd D C (va_A (wP C S0) z) s.heap S z H locs s → lv_has ls 2 [(0, .ref a0), (1, .int v1)] → W p l e rm_X7_rightUpTo s m ([.ref a0] : List Value).toArray below meth c H locs 0 0 (MQ below (QiW D C S0 z r S9 z) ([.ref a0] : List Value).toArray s 0 0 (va_A (wP C S0) z)) (F0 m 14 ls []) := by
    intro K14 hK14 S v1 H locs ls hg hw hl
    unfold f_X7_rightUpTo_b14 at hg
    refine lv_iload_n hx hb dX7_rightUpTo_14 rfl (lv_at hl 1 rfl) ?_
    refine lv_aload_n hx hb dX7_rightUpTo_15 rfl (lv_at hl 0 rfl) ?_
    obtain ⟨hok19, hg⟩ := gd_some hg
    refine wr_get (K := RX7) (T := TX7) (N := 20) (index := 191) (ref := "MakerLinesModel") (v := .int (hI S a0 5)) hx hb hts hi_X7_rightUpTo_X7 hown hw hok19 (wF_7 (S := S) hok19.2) rfl 5 (by decide) (hts _ (List.mem_of_getElem? (i := 3) rfl)) (fun _ h9 => h9) rfl dX7_rightUpTo_16 ?_
    refine lv_icmp_ge (tgt := 41) hx hb dX7_rightUpTo_19 (by decide) (fun c20 => ?_) (fun c20 => ?_)
    · have hg := it_pos hg c20
      refine lv_iload_n hx hb dX7_rightUpTo_41 rfl (lv_at hl 1 rfl) ?_
      cases hg
      exact wr_iret hx hb hr hw dX7_rightUpTo_42 hlk
    · have hg := it_neg hg c20
      refine lv_aload_n hx hb dX7_rightUpTo_22 rfl (lv_at hl 0 rfl) ?_
      refine lv_aload_n hx hb dX7_rightUpTo_23 rfl (lv_at hl 0 rfl) ?_
      obtain ⟨r21, hr21, hg⟩ := nn_some hg
      refine wr_get (K := RX7) (T := TX7) (N := 20) (index := 22) (ref := "MakerLinesModel") (v := .ref r21) hx hb hts hi_X7_rightUpTo_X7 hown hw hok19 (wF_7 (S := S) hok19.2) rfl 6 (by decide) (hts _ (List.mem_of_getElem? (i := 4) rfl)) (fun _ h9 => h9) (congrArg (fun o => some (va_rf o)) hr21) dX7_rightUpTo_24 ?_
      refine lv_iload_n hx hb dX7_rightUpTo_27 rfl (lv_at hl 1 rfl) ?_
      obtain ⟨hok22, hg⟩ := gd_some hg
      obtain ⟨hin23, hg⟩ := gd_some hg
      refine wr_iald hx hb hw hok22 (inb_vp hin23) dX7_rightUpTo_28 ?_
      obtain ⟨r24, S24, hc24, hg⟩ := cl_some hg
      refine wr_ci (va_runV (As := [.int (hI S r21 v1.toNatClampNeg)]) (rest := []) ⟨hx, hb, hml, hown, hts⟩ (c_X7_takes l D C N S z a0 ((hI S r21 v1.toNatClampNeg)) r24 S24 hc24) (cwV 1 hts gX7_rightUpTo_X7_takes rfl rfl rfl (by decide +kernel) ⟨Nat.le_of_ble_eq_true rfl, Nat.le_of_ble_eq_true rfl⟩) (wd_preV hw hok19 (wF_7 (S := S) hok19.2) rfl) rfl rfl hl.1 rfl (lv_room (Nat.le_of_ble_eq_true rfl)) dX7_rightUpTo_29 ⟨Nat.zero_le _, Nat.zero_le _⟩) hw (fun H locs hw => ?_)
      refine lv_if_eq (tgt := 41) hx hb dX7_rightUpTo_32 (by decide) (fun c25 => ?_) (fun c25 => ?_)
      · have hg := it_pos hg c25
        refine lv_iload_n hx hb dX7_rightUpTo_41 rfl (lv_at hl 1 rfl) ?_
        cases hg
        exact wr_iret hx hb hr hw dX7_rightUpTo_42 hlk
      · have hg := it_neg hg c25
        refine lv_iinc (v := (v1 + (1 : Int32))) (lv' := [(1, .int (v1 + (1 : Int32))), (0, .ref a0)]) hx hb dX7_rightUpTo_35 hl (k := 1) rfl rfl (by decide) rfl (fun ls hl => ?_)
        refine lv_goto (tgt := 14) hx hb dX7_rightUpTo_38 (by decide) ?_
        exact hK14 _ _ _ _ _ hg hw (lv_sub hl [1, 0] rfl)
  have L14 : ∀ (k : Nat) (S : Hp) (v1 : Int32) (H : Heap) (locs : List Loc) (ls : Array Slot), f_X7_rightUpTo_l14 N a0 k S v1 = some (r, S9) → Wd D C (va_A (wP C S0) z) s.heap S z H locs s → lv_has ls 2 [(0, .ref a0), (1, .int v1)] → W p l e rm_X7_rightUpTo s m ([.ref a0] : List Value).toArray below meth c H locs 0 0 (MQ below (QiW D C S0 z r S9 z) ([.ref a0] : List Value).toArray s 0 0 (va_A (wP C S0) z)) (F0 m 14 ls []) := by
    intro k
    induction k with
    | zero => intro S v1 H locs ls hg hw hl; exact absurd (show (none : Option (Int32 × Hp)) = some (r, S9) from hg) (by simp)
    | succ k ih => intro S v1 H locs ls hg hw hl; exact B14 (f_X7_rightUpTo_l14 N a0 k) ih S v1 H locs ls hg hw hl
  have B0 : ∀ (S : Hp) (H : Heap) (locs : List Loc) (ls : Array Slot), f_X7_rightUpTo N S a0 = some (r, S9) → Wd D C (va_A (wP C S0) z) s.heap S z H locs s → lv_has ls 2 [(0, .ref a0)] → W p l e rm_X7_rightUpTo s m ([.ref a0] : List Value).toArray below meth c H locs 0 0 (MQ below (QiW D C S0 z r S9 z) ([.ref a0] : List Value).toArray s 0 0 (va_A (wP C S0) z)) (F0 m 0 ls []) := by
    intro S H locs ls hg hw hl
    unfold f_X7_rightUpTo at hg
    refine lv_aload_n hx hb dX7_rightUpTo_0 rfl (lv_at hl 0 rfl) ?_
    refine lv_iconst (v := (0 : Int32)) hx hb dX7_rightUpTo_1 (by decide) ?_
    obtain ⟨hok10, hg⟩ := gd_some hg
    refine wr_put (K := RX7) (T := TX7) (N := 20) (index := 194) (ref := "MakerLinesModel") (ty := (.int)) (S1 := (sI S a0 17 (0 : Int32))) hx hb hts hi_X7_rightUpTo_X7 tyX7 tyX7_ok nmX7 hown hw hok10 (wF_7 (S := S) hok10.2) rfl (fun b hb9 => wF_sI_ne hb9) 17 (wq_7_17 (S := S) hok10.2 _) rfl (by decide) (hts _ (List.mem_of_getElem? (i := 1) rfl)) (fun _ h9 => h9) rfl (by decide +kernel) rfl rfl (Nat.le_of_ble_eq_true rfl) dX7_rightUpTo_2 (fun H locs hw => ?_)
    refine lv_aload_n hx hb dX7_rightUpTo_5 rfl (lv_at hl 0 rfl) ?_
    obtain ⟨r11, hr11, hg⟩ := nn_some hg
    refine wr_get (K := RX7) (T := TX7) (N := 20) (index := 44) (ref := "MakerLinesModel") (v := .ref r11) hx hb hts hi_X7_rightUpTo_X7 hown hw hok10 (wF_7 (S := (sI S a0 17 (0 : Int32))) hok10.2) rfl 16 (by decide) (hts _ (List.mem_of_getElem? (i := 2) rfl)) (fun _ h9 => h9) (congrArg (fun o => some (va_rf o)) hr11) dX7_rightUpTo_6 ?_
    refine lv_iconst (v := (0 : Int32)) hx hb dX7_rightUpTo_9 (by decide) ?_
    refine lv_iconst (v := (0 : Int32)) hx hb dX7_rightUpTo_10 (by decide) ?_
    obtain ⟨hok12, hg⟩ := gd_some hg
    obtain ⟨hin13, hg⟩ := gd_some hg
    refine wr_iast hx hb hw hok12 (inb_vp hin13) dX7_rightUpTo_11 (fun H locs hw => ?_)
    obtain ⟨S14, hS14, hg⟩ := bd_some hg
    rw [← hS14] at hw
    have hok15 : ok S14 a0 7 := by rw [hS14]; exact hok10
    have hr16 : hR S14 a0 16 = some r11 := by rw [hS14]; exact hr11
    have hok17 : ok S14 r11 8 := by rw [hS14]; exact hok12
    have hin18 : inb (0 : Int32) (hN S14 r11) := by rw [hS14]; exact hin13
    refine lv_iconst (v := (0 : Int32)) hx hb dX7_rightUpTo_12 (by decide) ?_
    refine lv_istore_n (lv' := [(1, .int (0 : Int32)), (0, .ref a0)]) hx hb dX7_rightUpTo_13 rfl hl (by decide) rfl (fun ls hl => ?_)
    exact L14 N _ _ _ _ _ hg hw (lv_sub hl [1, 0] rfl)
  exact B0 S0 _ _ _ hg hw hl
theorem hi_X7_firstError_X7 : ∀ w ∈ wsX70, w ∈ wsX7_firstError := fun _ h => List.mem_cons_of_mem _ (List.mem_append_right _ (h))
abbrev rm_X7_firstError : Room := { frames := 4, cells := 0, slots := 0, locals := 86 }
set_option maxHeartbeats 4000000 in
set_option maxRecDepth 100000 in
theorem c_X7_firstError (l : Launch) (D : va_G) (C : C3) (N : Nat) (S0 : Hp) (z : Nat) (a0 : Nat) (r : Int32) (S9 : Hp) (hg : f_X7_firstError N S0 a0 = some (r, S9)) : MetI l yX7_firstError wsX7_firstError rm_X7_firstError D C S0 z [.ref a0] r S9 z 0 0 := by
  refine mw_ofW (cc := cX7_firstError) (maxL := 1) (ret := (some .int)) (lv := [(0, .ref a0)]) (by decide) rfl (Nat.le_of_ble_eq_true rfl) rfl ?_
  intro p e s m below meth c ls hx hb hr hts hown hlk hml hnm hl hw
  have hown : s.vm.findClass RX7 = some m.cls := hown
  have B0 : ∀ (S : Hp) (H : Heap) (locs : List Loc) (ls : Array Slot), f_X7_firstError N S a0 = some (r, S9) → Wd D C (va_A (wP C S0) z) s.heap S z H locs s → lv_has ls 1 [(0, .ref a0)] → W p l e rm_X7_firstError s m ([.ref a0] : List Value).toArray below meth c H locs 0 0 (MQ below (QiW D C S0 z r S9 z) ([.ref a0] : List Value).toArray s 0 0 (va_A (wP C S0) z)) (F0 m 0 ls []) := by
    intro S H locs ls hg hw hl
    unfold f_X7_firstError at hg
    refine lv_aload_n hx hb dX7_firstError_0 rfl (lv_at hl 0 rfl) ?_
    refine lv_iconst (v := (0 : Int32)) hx hb dX7_firstError_1 (by decide) ?_
    obtain ⟨hok10, hg⟩ := gd_some hg
    refine wr_put (K := RX7) (T := TX7) (N := 20) (index := 50) (ref := "MakerLinesModel") (ty := (.int)) (S1 := (sI S a0 7 (0 : Int32))) hx hb hts hi_X7_firstError_X7 tyX7 tyX7_ok nmX7 hown hw hok10 (wF_7 (S := S) hok10.2) rfl (fun b hb9 => wF_sI_ne hb9) 7 (wq_7_7 (S := S) hok10.2 _) rfl (by decide) (hts _ (List.mem_of_getElem? (i := 1) rfl)) (fun _ h9 => h9) rfl (by decide +kernel) rfl rfl (Nat.le_of_ble_eq_true rfl) dX7_firstError_2 (fun H locs hw => ?_)
    refine lv_aload_n hx hb dX7_firstError_5 rfl (lv_at hl 0 rfl) ?_
    obtain ⟨r11, S11, hc11, hg⟩ := cl_some hg
    refine wr_ci (va_runV (As := []) (rest := []) ⟨hx, hb, hml, hown, hts⟩ (c_X7_rightUpTo l D C N ((sI S a0 7 (0 : Int32))) z a0 r11 S11 hc11) (cwV 0 hts gX7_firstError_X7_rightUpTo rfl rfl rfl (by decide +kernel) ⟨Nat.le_of_ble_eq_true rfl, Nat.le_of_ble_eq_true rfl⟩) (wd_preV hw hok10 (wF_7 (S := (sI S a0 7 (0 : Int32))) hok10.2) rfl) rfl rfl hl.1 rfl (lv_room (Nat.le_of_ble_eq_true rfl)) dX7_firstError_6 ⟨Nat.zero_le _, Nat.zero_le _⟩) hw (fun H locs hw => ?_)
    cases hg
    exact wr_iret hx hb hr hw dX7_firstError_9 hlk
  exact B0 S0 _ _ _ hg hw hl
theorem hi_X7_read_X7 : ∀ w ∈ wsX70, w ∈ wsX7_read := fun _ h => List.mem_cons_of_mem _ (List.mem_append_right _ (h))
abbrev rm_X7_read : Room := { frames := 4, cells := 0, slots := 0, locals := 86 }
set_option maxHeartbeats 4000000 in
set_option maxRecDepth 100000 in
theorem c_X7_read (l : Launch) (D : va_G) (C : C3) (N : Nat) (S0 : Hp) (z : Nat) (a0 : Nat) (r : Int32) (S9 : Hp) (hg : f_X7_read N S0 a0 = some (r, S9)) : MetI l yX7_read wsX7_read rm_X7_read D C S0 z [.ref a0] r S9 z 0 0 := by
  refine mw_ofW (cc := cX7_read) (maxL := 3) (ret := (some .int)) (lv := [(0, .ref a0)]) (by decide) rfl (Nat.le_of_ble_eq_true rfl) rfl ?_
  intro p e s m below meth c ls hx hb hr hts hown hlk hml hnm hl hw
  have hown : s.vm.findClass RX7 = some m.cls := hown
  have B84 : ∀ (K84 : Hp → Int32 → Option (Int32 × Hp)) (hK84 : ∀ (S : Hp) (v2 : Int32) (H : Heap) (locs : List Loc) (ls : Array Slot), K84 S v2 = some (r, S9) → Wd D C (va_A (wP C S0) z) s.heap S z H locs s → lv_has ls 3 [(0, .ref a0), (2, .int v2)] → W p l e rm_X7_read s m ([.ref a0] : List Value).toArray below meth c H locs 0 0 (MQ below (QiW D C S0 z r S9 z) ([.ref a0] : List Value).toArray s 0 0 (va_A (wP C S0) z)) (F0 m 84 ls [])) (S : Hp) (v2 : Int32) (H : Heap) (locs : List Loc) (ls : Array Slot), f_X7_read_b84 N a0 K84 S v2 = some (r, S9) → Wd D C (va_A (wP C S0) z) s.heap S z H locs s → lv_has ls 3 [(0, .ref a0), (2, .int v2)] → W p l e rm_X7_read s m ([.ref a0] : List Value).toArray below meth c H locs 0 0 (MQ below (QiW D C S0 z r S9 z) ([.ref a0] : List Value).toArray s 0 0 (va_A (wP C S0) z)) (F0 m 84 ls []) := by
    intro K84 hK84 S v2 H locs ls hg hw hl
    unfold f_X7_read_b84 at hg
    refine lv_iload_n hx hb dX7_read_84 rfl (lv_at hl 1 rfl) ?_
    refine lv_aload_n hx hb dX7_read_85 rfl (lv_at hl 0 rfl) ?_
    obtain ⟨hok29, hg⟩ := gd_some hg
    refine wr_get (K := RX7) (T := TX7) (N := 20) (index := 194) (ref := "MakerLinesModel") (v := .int (hI S a0 17)) hx hb hts hi_X7_read_X7 hown hw hok29 (wF_7 (S := S) hok29.2) rfl 17 (by decide) (hts _ (List.mem_of_getElem? (i := 3) rfl)) (fun _ h9 => h9) rfl dX7_read_86 ?_
    refine lv_icmp_gt (tgt := 128) hx hb dX7_read_89 (by decide) (fun c30 => ?_) (fun c30 => ?_)
    · have hg := it_pos hg c30
      refine lv_aload_n hx hb dX7_read_128 rfl (lv_at hl 0 rfl) ?_
      obtain ⟨r31, hr31, hg⟩ := nn_some hg
      refine wr_get (K := RX7) (T := TX7) (N := 20) (index := 7) (ref := "MakerLinesModel") (v := .ref r31) hx hb hts hi_X7_read_X7 hown hw hok29 (wF_7 (S := S) hok29.2) rfl 0 (by decide) (hts _ (List.mem_of_getElem? (i := 4) rfl)) (fun _ h9 => h9) (congrArg (fun o => some (va_rf o)) hr31) dX7_read_129 ?_
      refine lv_iconst (v := (2 : Int32)) hx hb dX7_read_132 (by decide) ?_
      obtain ⟨hok32, hg⟩ := gd_some hg
      obtain ⟨hin33, hg⟩ := gd_some hg
      refine wr_iald hx hb hw hok32 (inb_vp hin33) dX7_read_133 ?_
      cases hg
      exact wr_iret hx hb hr hw dX7_read_134 hlk
    · have hg := it_neg hg c30
      refine lv_aload_n hx hb dX7_read_92 rfl (lv_at hl 0 rfl) ?_
      obtain ⟨r34, hr34, hg⟩ := nn_some hg
      refine wr_get (K := RX7) (T := TX7) (N := 20) (index := 7) (ref := "MakerLinesModel") (v := .ref r34) hx hb hts hi_X7_read_X7 hown hw hok29 (wF_7 (S := S) hok29.2) rfl 0 (by decide) (hts _ (List.mem_of_getElem? (i := 4) rfl)) (fun _ h9 => h9) (congrArg (fun o => some (va_rf o)) hr34) dX7_read_93 ?_
      refine lv_bipush (v := (10 : Int32)) hx hb dX7_read_96 (by decide) ?_
      refine lv_aload_n hx hb dX7_read_98 rfl (lv_at hl 0 rfl) ?_
      refine wr_get (K := RX7) (T := TX7) (N := 20) (index := 7) (ref := "MakerLinesModel") (v := .ref r34) hx hb hts hi_X7_read_X7 hown hw hok29 (wF_7 (S := S) hok29.2) rfl 0 (by decide) (hts _ (List.mem_of_getElem? (i := 4) rfl)) (fun _ h9 => h9) (congrArg (fun o => some (va_rf o)) hr34) dX7_read_99 ?_
      refine lv_iconst (v := (2 : Int32)) hx hb dX7_read_102 (by decide) ?_
      obtain ⟨hok35, hg⟩ := gd_some hg
      obtain ⟨hin36, hg⟩ := gd_some hg
      refine wr_iald hx hb hw hok35 (inb_vp hin36) dX7_read_103 ?_
      refine lv_iadd hx hb dX7_read_104 ?_
      refine lv_aload_n hx hb dX7_read_105 rfl (lv_at hl 0 rfl) ?_
      obtain ⟨r37, hr37, hg⟩ := nn_some hg
      refine wr_get (K := RX7) (T := TX7) (N := 20) (index := 44) (ref := "MakerLinesModel") (v := .ref r37) hx hb hts hi_X7_read_X7 hown hw hok29 (wF_7 (S := S) hok29.2) rfl 16 (by decide) (hts _ (List.mem_of_getElem? (i := 2) rfl)) (fun _ h9 => h9) (congrArg (fun o => some (va_rf o)) hr37) dX7_read_106 ?_
      refine lv_iload_n hx hb dX7_read_109 rfl (lv_at hl 1 rfl) ?_
      obtain ⟨hok38, hg⟩ := gd_some hg
      obtain ⟨hin39, hg⟩ := gd_some hg
      refine wr_iald hx hb hw hok38 (inb_vp hin39) dX7_read_110 ?_
      obtain ⟨hin40, hg⟩ := gd_some hg
      refine wr_iast hx hb hw hok35 (inb_vp hin40) dX7_read_111 (fun H locs hw => ?_)
      obtain ⟨S41, hS41, hg⟩ := bd_some hg
      rw [← hS41] at hw
      have hok42 : ok S41 a0 7 := by rw [hS41]; exact hok29
      have hr43 : hR S41 a0 0 = some r34 := by rw [hS41]; exact hr34
      have hok44 : ok S41 r34 8 := by rw [hS41]; exact hok35
      have hin45 : inb (2 : Int32) (hN S41 r34) := by rw [hS41]; exact hin36
      have hr46 : hR S41 a0 16 = some r37 := by rw [hS41]; exact hr37
      have hok47 : ok S41 r37 8 := by rw [hS41]; exact hok38
      have hin48 : inb v2 (hN S41 r37) := by rw [hS41]; exact hin39
      have hin49 : inb ((10 : Int32) + (hI S r34 (2 : Int32).toNatClampNeg)) (hN S41 r34) := by rw [hS41]; exact hin40
      refine lv_aload_n hx hb dX7_read_112 rfl (lv_at hl 0 rfl) ?_
      refine wr_get (K := RX7) (T := TX7) (N := 20) (index := 7) (ref := "MakerLinesModel") (v := .ref r34) hx hb hts hi_X7_read_X7 hown hw hok42 (wF_7 (S := S41) hok42.2) rfl 0 (by decide) (hts _ (List.mem_of_getElem? (i := 4) rfl)) (fun _ h9 => h9) (congrArg (fun o => some (va_rf o)) hr43) dX7_read_113 ?_
      refine lv_iconst (v := (2 : Int32)) hx hb dX7_read_116 (by decide) ?_
      refine lv_dup2_11 hx hb dX7_read_117 rfl rfl ?_
      refine wr_iald hx hb hw hok44 (inb_vp hin45) dX7_read_118 ?_
      refine lv_iconst (v := (1 : Int32)) hx hb dX7_read_119 (by decide) ?_
      refine lv_iadd hx hb dX7_read_120 ?_
      refine wr_iast hx hb hw hok44 (inb_vp hin45) dX7_read_121 (fun H locs hw => ?_)
      obtain ⟨S50, hS50, hg⟩ := bd_some hg
      rw [← hS50] at hw
      have hok51 : ok S50 a0 7 := by rw [hS50]; exact hok42
      have hr52 : hR S50 a0 0 = some r34 := by rw [hS50]; exact hr43
      have hok53 : ok S50 r34 8 := by rw [hS50]; exact hok44
      have hin54 : inb (2 : Int32) (hN S50 r34) := by rw [hS50]; exact hin45
      have hr55 : hR S50 a0 16 = some r37 := by rw [hS50]; exact hr46
      have hok56 : ok S50 r37 8 := by rw [hS50]; exact hok47
      have hin57 : inb v2 (hN S50 r37) := by rw [hS50]; exact hin48
      have hin58 : inb ((10 : Int32) + (hI S r34 (2 : Int32).toNatClampNeg)) (hN S50 r34) := by rw [hS50]; exact hin49
      refine lv_iinc (v := (v2 + (1 : Int32))) (lv' := [(2, .int (v2 + (1 : Int32))), (0, .ref a0)]) hx hb dX7_read_122 hl (k := 1) rfl rfl (by decide) rfl (fun ls hl => ?_)
      refine lv_goto (tgt := 84) hx hb dX7_read_125 (by decide) ?_
      exact hK84 _ _ _ _ _ hg hw (lv_sub hl [1, 0] rfl)
  have L84 : ∀ (k : Nat) (S : Hp) (v2 : Int32) (H : Heap) (locs : List Loc) (ls : Array Slot), f_X7_read_l84 N a0 k S v2 = some (r, S9) → Wd D C (va_A (wP C S0) z) s.heap S z H locs s → lv_has ls 3 [(0, .ref a0), (2, .int v2)] → W p l e rm_X7_read s m ([.ref a0] : List Value).toArray below meth c H locs 0 0 (MQ below (QiW D C S0 z r S9 z) ([.ref a0] : List Value).toArray s 0 0 (va_A (wP C S0) z)) (F0 m 84 ls []) := by
    intro k
    induction k with
    | zero => intro S v2 H locs ls hg hw hl; exact absurd (show (none : Option (Int32 × Hp)) = some (r, S9) from hg) (by simp)
    | succ k ih => intro S v2 H locs ls hg hw hl; exact B84 (f_X7_read_l84 N a0 k) ih S v2 H locs ls hg hw hl
  have B61 : ∀ (S : Hp) (s0 : Int32) (s1 : Nat) (H : Heap) (locs : List Loc) (ls : Array Slot), f_X7_read_b61 N a0 S s0 s1 = some (r, S9) → Wd D C (va_A (wP C S0) z) s.heap S z H locs s → lv_has ls 3 [(0, .ref a0)] → W p l e rm_X7_read s m ([.ref a0] : List Value).toArray below meth c H locs 0 0 (MQ below (QiW D C S0 z r S9 z) ([.ref a0] : List Value).toArray s 0 0 (va_A (wP C S0) z)) (F0 m 61 ls [.int s0, .ref s1]) := by
    intro S s0 s1 H locs ls hg hw hl
    unfold f_X7_read_b61 at hg
    obtain ⟨hok24, hg⟩ := gd_some hg
    refine wr_put (K := RX7) (T := TX7) (N := 20) (index := 50) (ref := "MakerLinesModel") (ty := (.int)) (S1 := (sI S s1 7 s0)) hx hb hts hi_X7_read_X7 tyX7 tyX7_ok nmX7 hown hw hok24 (wF_7 (S := S) hok24.2) rfl (fun b hb9 => wF_sI_ne hb9) 7 (wq_7_7 (S := S) hok24.2 _) rfl (by decide) (hts _ (List.mem_of_getElem? (i := 5) rfl)) (fun _ h9 => h9) rfl (by decide +kernel) rfl rfl (Nat.le_of_ble_eq_true rfl) dX7_read_61 (fun H locs hw => ?_)
    refine lv_aload_n hx hb dX7_read_64 rfl (lv_at hl 0 rfl) ?_
    obtain ⟨hok25, hg⟩ := gd_some hg
    refine wr_get (K := RX7) (T := TX7) (N := 20) (index := 50) (ref := "MakerLinesModel") (v := .int (hI ((sI S s1 7 s0)) a0 7)) hx hb hts hi_X7_read_X7 hown hw hok25 (wF_7 (S := (sI S s1 7 s0)) hok25.2) rfl 7 (by decide) (hts _ (List.mem_of_getElem? (i := 5) rfl)) (fun _ h9 => h9) rfl dX7_read_65 ?_
    refine lv_if_le (tgt := 73) hx hb dX7_read_68 (by decide) (fun c26 => ?_) (fun c26 => ?_)
    · have hg := it_pos hg c26
      refine lv_aload_n hx hb dX7_read_73 rfl (lv_at hl 0 rfl) ?_
      obtain ⟨⟨⟩, S27, hc27, hg⟩ := cl_some hg
      refine wr_cv (va_runV (As := []) (rest := []) ⟨hx, hb, hml, hown, hts⟩ (c_X7_save l D C N ((sI S s1 7 s0)) z a0 () S27 hc27) (cwV 0 hts gX7_read_X7_save rfl rfl rfl (by decide +kernel) ⟨Nat.le_of_ble_eq_true rfl, Nat.le_of_ble_eq_true rfl⟩) (wd_preV hw hok25 (wF_7 (S := (sI S s1 7 s0)) hok25.2) rfl) rfl rfl hl.1 rfl (lv_room (Nat.le_of_ble_eq_true rfl)) dX7_read_74 ⟨Nat.zero_le _, Nat.zero_le _⟩) hw (fun H locs hw => ?_)
      refine lv_aload_n hx hb dX7_read_77 rfl (lv_at hl 0 rfl) ?_
      refine lv_iconst (v := (0 : Int32)) hx hb dX7_read_78 (by decide) ?_
      obtain ⟨hok28, hg⟩ := gd_some hg
      refine wr_put (K := RX7) (T := TX7) (N := 20) (index := 191) (ref := "MakerLinesModel") (ty := (.int)) (S1 := (sI S27 a0 5 (0 : Int32))) hx hb hts hi_X7_read_X7 tyX7 tyX7_ok nmX7 hown hw hok28 (wF_7 (S := S27) hok28.2) rfl (fun b hb9 => wF_sI_ne hb9) 5 (wq_7_5 (S := S27) hok28.2 _) rfl (by decide) (hts _ (List.mem_of_getElem? (i := 1) rfl)) (fun _ h9 => h9) rfl (by decide +kernel) rfl rfl (Nat.le_of_ble_eq_true rfl) dX7_read_79 (fun H locs hw => ?_)
      refine lv_iconst (v := (0 : Int32)) hx hb dX7_read_82 (by decide) ?_
      refine lv_istore_n (lv' := [(2, .int (0 : Int32)), (0, .ref a0)]) hx hb dX7_read_83 rfl hl (by decide) rfl (fun ls hl => ?_)
      exact L84 N _ _ _ _ _ hg hw (lv_sub hl [1, 0] rfl)
    · have hg := it_neg hg c26
      refine lv_iconst (v := (0 : Int32)) hx hb dX7_read_71 (by decide) ?_
      cases hg
      exact wr_iret hx hb hr hw dX7_read_72 hlk
  have B28 : ∀ (S : Hp) (s0 : Int32) (H : Heap) (locs : List Loc) (ls : Array Slot), f_X7_read_b28 N a0 S s0 = some (r, S9) → Wd D C (va_A (wP C S0) z) s.heap S z H locs s → lv_has ls 3 [(0, .ref a0)] → W p l e rm_X7_read s m ([.ref a0] : List Value).toArray below meth c H locs 0 0 (MQ below (QiW D C S0 z r S9 z) ([.ref a0] : List Value).toArray s 0 0 (va_A (wP C S0) z)) (F0 m 28 ls [.int s0]) := by
    intro S s0 H locs ls hg hw hl
    unfold f_X7_read_b28 at hg
    refine lv_istore_n (lv' := [(1, .int s0), (0, .ref a0)]) hx hb dX7_read_28 rfl hl (by decide) rfl (fun ls hl => ?_)
    refine lv_aload_n hx hb dX7_read_29 rfl (lv_at hl 1 rfl) ?_
    refine lv_iload_n hx hb dX7_read_30 rfl (lv_at hl 0 rfl) ?_
    refine lv_if_ne (tgt := 38) hx hb dX7_read_31 (by decide) (fun c18 => ?_) (fun c18 => ?_)
    · have hg := it_neg hg c18
      refine lv_aload_n hx hb dX7_read_38 rfl (lv_at hl 1 rfl) ?_
      obtain ⟨hok19, hg⟩ := gd_some hg
      obtain ⟨r20, hr20, hg⟩ := nn_some hg
      refine wr_get (K := RX7) (T := TX7) (N := 20) (index := 7) (ref := "MakerLinesModel") (v := .ref r20) hx hb hts hi_X7_read_X7 hown hw hok19 (wF_7 (S := S) hok19.2) rfl 0 (by decide) (hts _ (List.mem_of_getElem? (i := 4) rfl)) (fun _ h9 => h9) (congrArg (fun o => some (va_rf o)) hr20) dX7_read_39 ?_
      refine lv_iconst (v := (2 : Int32)) hx hb dX7_read_42 (by decide) ?_
      obtain ⟨hok21, hg⟩ := gd_some hg
      obtain ⟨hin22, hg⟩ := gd_some hg
      refine wr_iald hx hb hw hok21 (inb_vp hin22) dX7_read_43 ?_
      refine lv_aload_n hx hb dX7_read_44 rfl (lv_at hl 1 rfl) ?_
      refine wr_get (K := RX7) (T := TX7) (N := 20) (index := 194) (ref := "MakerLinesModel") (v := .int (hI S a0 17)) hx hb hts hi_X7_read_X7 hown hw hok19 (wF_7 (S := S) hok19.2) rfl 17 (by decide) (hts _ (List.mem_of_getElem? (i := 3) rfl)) (fun _ h9 => h9) rfl dX7_read_45 ?_
      refine lv_iadd hx hb dX7_read_48 ?_
      refine lv_iconst (v := (1 : Int32)) hx hb dX7_read_49 (by decide) ?_
      refine lv_iadd hx hb dX7_read_50 ?_
      refine lv_bipush (v := (12 : Int32)) hx hb dX7_read_51 (by decide) ?_
      refine lv_icmp_le (tgt := 60) hx hb dX7_read_53 (by decide) (fun c23 => ?_) (fun c23 => ?_)
      · have hg := it_pos hg c23
        refine lv_iconst (v := (0 : Int32)) hx hb dX7_read_60 (by decide) ?_
        exact B61 _ _ _ _ _ _ hg hw (lv_sub hl [1] rfl)
      · have hg := it_neg hg c23
        refine lv_iconst (v := (2 : Int32)) hx hb dX7_read_56 (by decide) ?_
        refine lv_goto (tgt := 61) hx hb dX7_read_57 (by decide) ?_
        exact B61 _ _ _ _ _ _ hg hw (lv_sub hl [1] rfl)
    · have hg := it_pos hg c18
      refine lv_iconst (v := (1 : Int32)) hx hb dX7_read_34 (by decide) ?_
      refine lv_goto (tgt := 61) hx hb dX7_read_35 (by decide) ?_
      exact B61 _ _ _ _ _ _ hg hw (lv_sub hl [1] rfl)
  have B27 : ∀ (S : Hp) (H : Heap) (locs : List Loc) (ls : Array Slot), f_X7_read_b27 N a0 S = some (r, S9) → Wd D C (va_A (wP C S0) z) s.heap S z H locs s → lv_has ls 3 [(0, .ref a0)] → W p l e rm_X7_read s m ([.ref a0] : List Value).toArray below meth c H locs 0 0 (MQ below (QiW D C S0 z r S9 z) ([.ref a0] : List Value).toArray s 0 0 (va_A (wP C S0) z)) (F0 m 27 ls []) := by
    intro S H locs ls hg hw hl
    unfold f_X7_read_b27 at hg
    refine lv_iconst (v := (0 : Int32)) hx hb dX7_read_27 (by decide) ?_
    exact B28 _ _ _ _ _ hg hw (lv_sub hl [0] rfl)
  have B0 : ∀ (S : Hp) (H : Heap) (locs : List Loc) (ls : Array Slot), f_X7_read N S a0 = some (r, S9) → Wd D C (va_A (wP C S0) z) s.heap S z H locs s → lv_has ls 3 [(0, .ref a0)] → W p l e rm_X7_read s m ([.ref a0] : List Value).toArray below meth c H locs 0 0 (MQ below (QiW D C S0 z r S9 z) ([.ref a0] : List Value).toArray s 0 0 (va_A (wP C S0) z)) (F0 m 0 ls []) := by
    intro S H locs ls hg hw hl
    unfold f_X7_read at hg
    refine lv_aload_n hx hb dX7_read_0 rfl (lv_at hl 0 rfl) ?_
    obtain ⟨hok10, hg⟩ := gd_some hg
    obtain ⟨r11, S11, hc11, hg⟩ := cl_some hg
    refine wr_ci (va_runV (As := []) (rest := []) ⟨hx, hb, hml, hown, hts⟩ (c_X7_rightUpTo l D C N S z a0 r11 S11 hc11) (cwV 0 hts gX7_read_X7_rightUpTo rfl rfl rfl (by decide +kernel) ⟨Nat.le_of_ble_eq_true rfl, Nat.le_of_ble_eq_true rfl⟩) (wd_preV hw hok10 (wF_7 (S := S) hok10.2) rfl) rfl rfl hl.1 rfl (lv_room (Nat.le_of_ble_eq_true rfl)) dX7_read_1 ⟨Nat.zero_le _, Nat.zero_le _⟩) hw (fun H locs hw => ?_)
    refine lv_aload_n hx hb dX7_read_4 rfl (lv_at hl 0 rfl) ?_
    obtain ⟨hok12, hg⟩ := gd_some hg
    refine wr_get (K := RX7) (T := TX7) (N := 20) (index := 191) (ref := "MakerLinesModel") (v := .int (hI S11 a0 5)) hx hb hts hi_X7_read_X7 hown hw hok12 (wF_7 (S := S11) hok12.2) rfl 5 (by decide) (hts _ (List.mem_of_getElem? (i := 1) rfl)) (fun _ h9 => h9) rfl dX7_read_5 ?_
    refine lv_icmp_ne (tgt := 27) hx hb dX7_read_8 (by decide) (fun c13 => ?_) (fun c13 => ?_)
    · have hg := it_neg hg c13
      exact B27 _ _ _ _ hg hw (lv_sub hl [0] rfl)
    · have hg := it_pos hg c13
      refine lv_aload_n hx hb dX7_read_11 rfl (lv_at hl 0 rfl) ?_
      obtain ⟨r14, hr14, hg⟩ := nn_some hg
      refine wr_get (K := RX7) (T := TX7) (N := 20) (index := 44) (ref := "MakerLinesModel") (v := .ref r14) hx hb hts hi_X7_read_X7 hown hw hok12 (wF_7 (S := S11) hok12.2) rfl 16 (by decide) (hts _ (List.mem_of_getElem? (i := 2) rfl)) (fun _ h9 => h9) (congrArg (fun o => some (va_rf o)) hr14) dX7_read_12 ?_
      refine lv_aload_n hx hb dX7_read_15 rfl (lv_at hl 0 rfl) ?_
      refine wr_get (K := RX7) (T := TX7) (N := 20) (index := 194) (ref := "MakerLinesModel") (v := .int (hI S11 a0 17)) hx hb hts hi_X7_read_X7 hown hw hok12 (wF_7 (S := S11) hok12.2) rfl 17 (by decide) (hts _ (List.mem_of_getElem? (i := 3) rfl)) (fun _ h9 => h9) rfl dX7_read_16 ?_
      obtain ⟨hok15, hg⟩ := gd_some hg
      obtain ⟨hin16, hg⟩ := gd_some hg
      refine wr_iald hx hb hw hok15 (inb_vp hin16) dX7_read_19 ?_
      refine lv_if_le (tgt := 27) hx hb dX7_read_20 (by decide) (fun c17 => ?_) (fun c17 => ?_)
      · have hg := it_pos hg c17
        exact B27 _ _ _ _ hg hw (lv_sub hl [0] rfl)
      · have hg := it_neg hg c17
        refine lv_iconst (v := (1 : Int32)) hx hb dX7_read_23 (by decide) ?_
        refine lv_goto (tgt := 28) hx hb dX7_read_24 (by decide) ?_
        exact B28 _ _ _ _ _ hg hw (lv_sub hl [0] rfl)
  exact B0 S0 _ _ _ hg hw hl
abbrev rm_X7_isSnapshot : Room := { frames := 1, cells := 0, slots := 0, locals := 22 }
set_option maxHeartbeats 4000000 in
set_option maxRecDepth 100000 in
theorem c_X7_isSnapshot (l : Launch) (D : va_G) (C : C3) (N : Nat) (S0 : Hp) (z : Nat) (x0 : Int32) (r : Int32) (S9 : Hp) (hg : f_X7_isSnapshot N S0 x0 = some (r, S9)) : MetI l yX7_isSnapshot wsX7_isSnapshot rm_X7_isSnapshot D C S0 z [.int x0] r S9 z 0 0 := by
  refine mw_ofW (cc := cX7_isSnapshot) (maxL := 1) (ret := (some .boolean)) (lv := [(0, .int x0)]) (by decide) rfl (Nat.le_of_ble_eq_true rfl) rfl ?_
  intro p e s m below meth c ls hx hb hr hts hown hlk hml hnm hl hw
  have hown : s.vm.findClass RX7 = some m.cls := hown
  have B0 : ∀ (S : Hp) (H : Heap) (locs : List Loc) (ls : Array Slot), f_X7_isSnapshot N S x0 = some (r, S9) → Wd D C (va_A (wP C S0) z) s.heap S z H locs s → lv_has ls 1 [(0, .int x0)] → W p l e rm_X7_isSnapshot s m ([.int x0] : List Value).toArray below meth c H locs 0 0 (MQ below (QiW D C S0 z r S9 z) ([.int x0] : List Value).toArray s 0 0 (va_A (wP C S0) z)) (F0 m 0 ls []) := by
    intro S H locs ls hg hw hl
    unfold f_X7_isSnapshot at hg
    refine lv_iload_n hx hb dX7_isSnapshot_0 rfl (lv_at hl 0 rfl) ?_
    refine lv_iconst (v := (0 : Int32)) hx hb dX7_isSnapshot_1 (by decide) ?_
    refine lv_iconst (v := (1 : Int32)) hx hb dX7_isSnapshot_2 (by decide) ?_
    obtain ⟨r10, S10, hc10, hg⟩ := cl_some hg
    refine wr_ci (va_runS (As := [.int x0, .int (0 : Int32), .int (1 : Int32)]) (rest := []) ⟨hx, hb, hml, hown, hts⟩ (c_X7_within l D C N S z x0 ((0 : Int32)) ((1 : Int32)) r10 S10 hc10) (va_cwS 3 hts gX7_isSnapshot_X7_within rfl rfl rfl (by decide +kernel) ⟨Nat.le_of_ble_eq_true rfl, Nat.le_of_ble_eq_true rfl⟩) (wd_preS hw) rfl rfl hl.1 rfl (lv_room (Nat.le_of_ble_eq_true rfl)) dX7_isSnapshot_3 ⟨Nat.zero_le _, Nat.zero_le _⟩) hw (fun H locs hw => ?_)
    obtain ⟨hz11, hg⟩ := gd_some hg
    cases hg
    exact wr_zret hx hb hr hz11 hw dX7_isSnapshot_6 hlk
  exact B0 S0 _ _ _ hg hw hl
abbrev rm_X7_isKept : Room := { frames := 0, cells := 0, slots := 0, locals := 0 }
set_option maxHeartbeats 4000000 in
set_option maxRecDepth 100000 in
theorem c_X7_isKept (l : Launch) (D : va_G) (C : C3) (N : Nat) (S0 : Hp) (z : Nat) (x0 : Int32) (r : Int32) (S9 : Hp) (hg : f_X7_isKept N S0 x0 = some (r, S9)) : MetI l yX7_isKept wsX7_isKept rm_X7_isKept D C S0 z [.int x0] r S9 z 0 0 := by
  refine mw_ofW (cc := cX7_isKept) (maxL := 1) (ret := (some .boolean)) (lv := [(0, .int x0)]) (by decide) rfl (Nat.le_of_ble_eq_true rfl) rfl ?_
  intro p e s m below meth c ls hx hb hr hts hown hlk hml hnm hl hw
  have hown : s.vm.findClass RX7 = some m.cls := hown
  have B0 : ∀ (S : Hp) (H : Heap) (locs : List Loc) (ls : Array Slot), f_X7_isKept N S x0 = some (r, S9) → Wd D C (va_A (wP C S0) z) s.heap S z H locs s → lv_has ls 1 [(0, .int x0)] → W p l e rm_X7_isKept s m ([.int x0] : List Value).toArray below meth c H locs 0 0 (MQ below (QiW D C S0 z r S9 z) ([.int x0] : List Value).toArray s 0 0 (va_A (wP C S0) z)) (F0 m 0 ls []) := by
    intro S H locs ls hg hw hl
    unfold f_X7_isKept at hg
    refine lv_iload_n hx hb dX7_isKept_0 rfl (lv_at hl 0 rfl) ?_
    refine lv_bipush (v := (7 : Int32)) hx hb dX7_isKept_1 (by decide) ?_
    refine lv_icmp_lt (tgt := 12) hx hb dX7_isKept_3 (by decide) (fun c10 => ?_) (fun c10 => ?_)
    · have hg := it_pos hg c10
      refine lv_iconst (v := (1 : Int32)) hx hb dX7_isKept_12 (by decide) ?_
      refine lv_goto (tgt := 17) hx hb dX7_isKept_13 (by decide) ?_
      cases hg
      exact wr_zret hx hb hr (by decide) hw dX7_isKept_17 hlk
    · have hg := it_neg hg c10
      refine lv_iload_n hx hb dX7_isKept_6 rfl (lv_at hl 0 rfl) ?_
      refine lv_bipush (v := (10 : Int32)) hx hb dX7_isKept_7 (by decide) ?_
      refine lv_icmp_lt (tgt := 16) hx hb dX7_isKept_9 (by decide) (fun c11 => ?_) (fun c11 => ?_)
      · have hg := it_pos hg c11
        refine lv_iconst (v := (0 : Int32)) hx hb dX7_isKept_16 (by decide) ?_
        cases hg
        exact wr_zret hx hb hr (by decide) hw dX7_isKept_17 hlk
      · have hg := it_neg hg c11
        refine lv_iconst (v := (1 : Int32)) hx hb dX7_isKept_12 (by decide) ?_
        refine lv_goto (tgt := 17) hx hb dX7_isKept_13 (by decide) ?_
        cases hg
        exact wr_zret hx hb hr (by decide) hw dX7_isKept_17 hlk
  exact B0 S0 _ _ _ hg hw hl
theorem hi_X7_take_X7 : ∀ w ∈ wsX70, w ∈ wsX7_take := fun _ h => List.mem_cons_of_mem _ (List.mem_append_right _ (h))
abbrev rm_X7_take : Room := { frames := 2, cells := 0, slots := 0, locals := 42 }
set_option maxHeartbeats 4000000 in
set_option maxRecDepth 100000 in
theorem c_X7_take (l : Launch) (D : va_G) (C : C3) (N : Nat) (S0 : Hp) (z : Nat) (a0 : Nat) (x1 : Int32) (r : Int32) (S9 : Hp) (hg : f_X7_take N S0 a0 x1 = some (r, S9)) : MetI l yX7_take wsX7_take rm_X7_take D C S0 z [.ref a0, .int x1] r S9 z 0 0 := by
  refine mw_ofW (cc := cX7_take) (maxL := 3) (ret := (some .int)) (lv := [(0, .ref a0), (1, .int x1)]) (by decide) rfl (Nat.le_of_ble_eq_true rfl) rfl ?_
  intro p e s m below meth c ls hx hb hr hts hown hlk hml hnm hl hw
  have hown : s.vm.findClass RX7 = some m.cls := hown
  have B34 : ∀ (K34 : Hp → Int32 → Option (Int32 × Hp)) (hK34 : ∀ (S : Hp) (v2 : Int32) (H : Heap) (locs : List Loc) (ls : Array Slot), K34 S v2 = some (r, S9) → Wd D C (va_A (wP C S0) z) s.heap S z H locs s → lv_has ls 3 [(0, .ref a0), (1, .int x1), (2, .int v2)] → W p l e rm_X7_take s m ([.ref a0, .int x1] : List Value).toArray below meth c H locs 0 0 (MQ below (QiW D C S0 z r S9 z) ([.ref a0, .int x1] : List Value).toArray s 0 0 (va_A (wP C S0) z)) (F0 m 34 ls [])) (S : Hp) (v2 : Int32) (H : Heap) (locs : List Loc) (ls : Array Slot), f_X7_take_b34 N a0 x1 K34 S v2 = some (r, S9) → Wd D C (va_A (wP C S0) z) s.heap S z H locs s → lv_has ls 3 [(0, .ref a0), (1, .int x1), (2, .int v2)] → W p l e rm_X7_take s m ([.ref a0, .int x1] : List Value).toArray below meth c H locs 0 0 (MQ below (QiW D C S0 z r S9 z) ([.ref a0, .int x1] : List Value).toArray s 0 0 (va_A (wP C S0) z)) (F0 m 34 ls []) := by
    intro K34 hK34 S v2 H locs ls hg hw hl
    unfold f_X7_take_b34 at hg
    refine lv_iload_n hx hb dX7_take_34 rfl (lv_at hl 2 rfl) ?_
    refine lv_bipush (v := (22 : Int32)) hx hb dX7_take_35 (by decide) ?_
    refine lv_icmp_ge (tgt := 63) hx hb dX7_take_37 (by decide) (fun c24 => ?_) (fun c24 => ?_)
    · have hg := it_pos hg c24
      refine lv_aload_n hx hb dX7_take_63 rfl (lv_at hl 0 rfl) ?_
      obtain ⟨hok25, hg⟩ := gd_some hg
      obtain ⟨r26, hr26, hg⟩ := nn_some hg
      refine wr_get (K := RX7) (T := TX7) (N := 20) (index := 7) (ref := "MakerLinesModel") (v := .ref r26) hx hb hts hi_X7_take_X7 hown hw hok25 (wF_7 (S := S) hok25.2) rfl 0 (by decide) (hts _ (List.mem_of_getElem? (i := 4) rfl)) (fun _ h9 => h9) (congrArg (fun o => some (va_rf o)) hr26) dX7_take_64 ?_
      refine lv_iconst (v := (2 : Int32)) hx hb dX7_take_67 (by decide) ?_
      obtain ⟨hok27, hg⟩ := gd_some hg
      obtain ⟨hin28, hg⟩ := gd_some hg
      refine wr_iald hx hb hw hok27 (inb_vp hin28) dX7_take_68 ?_
      cases hg
      exact wr_iret hx hb hr hw dX7_take_69 hlk
    · have hg := it_neg hg c24
      refine lv_aload_n hx hb dX7_take_40 rfl (lv_at hl 0 rfl) ?_
      obtain ⟨hok29, hg⟩ := gd_some hg
      obtain ⟨r30, hr30, hg⟩ := nn_some hg
      refine wr_get (K := RX7) (T := TX7) (N := 20) (index := 16) (ref := "MakerLinesModel") (v := .ref r30) hx hb hts hi_X7_take_X7 hown hw hok29 (wF_7 (S := S) hok29.2) rfl 3 (by decide) (hts _ (List.mem_of_getElem? (i := 3) rfl)) (fun _ h9 => h9) (congrArg (fun o => some (va_rf o)) hr30) dX7_take_41 ?_
      refine lv_bipush (v := (22 : Int32)) hx hb dX7_take_44 (by decide) ?_
      refine lv_iload_n hx hb dX7_take_46 rfl (lv_at hl 1 rfl) ?_
      refine lv_imul hx hb dX7_take_47 ?_
      refine lv_iload_n hx hb dX7_take_48 rfl (lv_at hl 2 rfl) ?_
      refine lv_iadd hx hb dX7_take_49 ?_
      refine lv_aload_n hx hb dX7_take_50 rfl (lv_at hl 0 rfl) ?_
      obtain ⟨r31, hr31, hg⟩ := nn_some hg
      refine wr_get (K := RX7) (T := TX7) (N := 20) (index := 7) (ref := "MakerLinesModel") (v := .ref r31) hx hb hts hi_X7_take_X7 hown hw hok29 (wF_7 (S := S) hok29.2) rfl 0 (by decide) (hts _ (List.mem_of_getElem? (i := 4) rfl)) (fun _ h9 => h9) (congrArg (fun o => some (va_rf o)) hr31) dX7_take_51 ?_
      refine lv_iload_n hx hb dX7_take_54 rfl (lv_at hl 2 rfl) ?_
      obtain ⟨hok32, hg⟩ := gd_some hg
      obtain ⟨hin33, hg⟩ := gd_some hg
      refine wr_iald hx hb hw hok32 (inb_vp hin33) dX7_take_55 ?_
      obtain ⟨hok34, hg⟩ := gd_some hg
      obtain ⟨hin35, hg⟩ := gd_some hg
      refine wr_iast hx hb hw hok34 (inb_vp hin35) dX7_take_56 (fun H locs hw => ?_)
      obtain ⟨S36, hS36, hg⟩ := bd_some hg
      rw [← hS36] at hw
      have hok37 : ok S36 a0 7 := by rw [hS36]; exact hok29
      have hr38 : hR S36 a0 3 = some r30 := by rw [hS36]; exact hr30
      have hr39 : hR S36 a0 0 = some r31 := by rw [hS36]; exact hr31
      have hok40 : ok S36 r31 8 := by rw [hS36]; exact hok32
      have hin41 : inb v2 (hN S36 r31) := by rw [hS36]; exact hin33
      have hok42 : ok S36 r30 8 := by rw [hS36]; exact hok34
      have hin43 : inb (((22 : Int32) * x1) + v2) (hN S36 r30) := by rw [hS36]; exact hin35
      refine lv_iinc (v := (v2 + (1 : Int32))) (lv' := [(2, .int (v2 + (1 : Int32))), (0, .ref a0), (1, .int x1)]) hx hb dX7_take_57 hl (k := 2) rfl rfl (by decide) rfl (fun ls hl => ?_)
      refine lv_goto (tgt := 34) hx hb dX7_take_60 (by decide) ?_
      exact hK34 _ _ _ _ _ hg hw (lv_sub hl [1, 2, 0] rfl)
  have L34 : ∀ (k : Nat) (S : Hp) (v2 : Int32) (H : Heap) (locs : List Loc) (ls : Array Slot), f_X7_take_l34 N a0 x1 k S v2 = some (r, S9) → Wd D C (va_A (wP C S0) z) s.heap S z H locs s → lv_has ls 3 [(0, .ref a0), (1, .int x1), (2, .int v2)] → W p l e rm_X7_take s m ([.ref a0, .int x1] : List Value).toArray below meth c H locs 0 0 (MQ below (QiW D C S0 z r S9 z) ([.ref a0, .int x1] : List Value).toArray s 0 0 (va_A (wP C S0) z)) (F0 m 34 ls []) := by
    intro k
    induction k with
    | zero => intro S v2 H locs ls hg hw hl; exact absurd (show (none : Option (Int32 × Hp)) = some (r, S9) from hg) (by simp)
    | succ k ih => intro S v2 H locs ls hg hw hl; exact B34 (f_X7_take_l34 N a0 x1 k) ih S v2 H locs ls hg hw hl
  have B13 : ∀ (S : Hp) (s0 : Int32) (s1 : Nat) (H : Heap) (locs : List Loc) (ls : Array Slot), f_X7_take_b13 N a0 x1 S s0 s1 = some (r, S9) → Wd D C (va_A (wP C S0) z) s.heap S z H locs s → lv_has ls 3 [(0, .ref a0), (1, .int x1)] → W p l e rm_X7_take s m ([.ref a0, .int x1] : List Value).toArray below meth c H locs 0 0 (MQ below (QiW D C S0 z r S9 z) ([.ref a0, .int x1] : List Value).toArray s 0 0 (va_A (wP C S0) z)) (F0 m 13 ls [.int s0, .ref s1]) := by
    intro S s0 s1 H locs ls hg hw hl
    unfold f_X7_take_b13 at hg
    obtain ⟨hok12, hg⟩ := gd_some hg
    refine wr_put (K := RX7) (T := TX7) (N := 20) (index := 50) (ref := "MakerLinesModel") (ty := (.int)) (S1 := (sI S s1 7 s0)) hx hb hts hi_X7_take_X7 tyX7 tyX7_ok nmX7 hown hw hok12 (wF_7 (S := S) hok12.2) rfl (fun b hb9 => wF_sI_ne hb9) 7 (wq_7_7 (S := S) hok12.2 _) rfl (by decide) (hts _ (List.mem_of_getElem? (i := 1) rfl)) (fun _ h9 => h9) rfl (by decide +kernel) rfl rfl (Nat.le_of_ble_eq_true rfl) dX7_take_13 (fun H locs hw => ?_)
    refine lv_aload_n hx hb dX7_take_16 rfl (lv_at hl 0 rfl) ?_
    obtain ⟨hok13, hg⟩ := gd_some hg
    refine wr_get (K := RX7) (T := TX7) (N := 20) (index := 50) (ref := "MakerLinesModel") (v := .int (hI ((sI S s1 7 s0)) a0 7)) hx hb hts hi_X7_take_X7 hown hw hok13 (wF_7 (S := (sI S s1 7 s0)) hok13.2) rfl 7 (by decide) (hts _ (List.mem_of_getElem? (i := 1) rfl)) (fun _ h9 => h9) rfl dX7_take_17 ?_
    refine lv_if_le (tgt := 25) hx hb dX7_take_20 (by decide) (fun c14 => ?_) (fun c14 => ?_)
    · have hg := it_pos hg c14
      refine lv_aload_n hx hb dX7_take_25 rfl (lv_at hl 0 rfl) ?_
      obtain ⟨r15, hr15, hg⟩ := nn_some hg
      refine wr_get (K := RX7) (T := TX7) (N := 20) (index := 19) (ref := "MakerLinesModel") (v := .ref r15) hx hb hts hi_X7_take_X7 hown hw hok13 (wF_7 (S := (sI S s1 7 s0)) hok13.2) rfl 4 (by decide) (hts _ (List.mem_of_getElem? (i := 2) rfl)) (fun _ h9 => h9) (congrArg (fun o => some (va_rf o)) hr15) dX7_take_26 ?_
      refine lv_iload_n hx hb dX7_take_29 rfl (lv_at hl 1 rfl) ?_
      refine lv_iconst (v := (1 : Int32)) hx hb dX7_take_30 (by decide) ?_
      obtain ⟨hok16, hg⟩ := gd_some hg
      obtain ⟨hin17, hg⟩ := gd_some hg
      refine wr_iast hx hb hw hok16 (inb_vp hin17) dX7_take_31 (fun H locs hw => ?_)
      obtain ⟨S18, hS18, hg⟩ := bd_some hg
      rw [← hS18] at hw
      have hok19 : ok S18 s1 7 := by rw [hS18]; exact hok12
      have hok20 : ok S18 a0 7 := by rw [hS18]; exact hok13
      have hr21 : hR S18 a0 4 = some r15 := by rw [hS18]; exact hr15
      have hok22 : ok S18 r15 8 := by rw [hS18]; exact hok16
      have hin23 : inb x1 (hN S18 r15) := by rw [hS18]; exact hin17
      refine lv_iconst (v := (0 : Int32)) hx hb dX7_take_32 (by decide) ?_
      refine lv_istore_n (lv' := [(2, .int (0 : Int32)), (0, .ref a0), (1, .int x1)]) hx hb dX7_take_33 rfl hl (by decide) rfl (fun ls hl => ?_)
      exact L34 N _ _ _ _ _ hg hw (lv_sub hl [1, 2, 0] rfl)
    · have hg := it_neg hg c14
      refine lv_iconst (v := (0 : Int32)) hx hb dX7_take_23 (by decide) ?_
      cases hg
      exact wr_iret hx hb hr hw dX7_take_24 hlk
  have B0 : ∀ (S : Hp) (H : Heap) (locs : List Loc) (ls : Array Slot), f_X7_take N S a0 x1 = some (r, S9) → Wd D C (va_A (wP C S0) z) s.heap S z H locs s → lv_has ls 3 [(0, .ref a0), (1, .int x1)] → W p l e rm_X7_take s m ([.ref a0, .int x1] : List Value).toArray below meth c H locs 0 0 (MQ below (QiW D C S0 z r S9 z) ([.ref a0, .int x1] : List Value).toArray s 0 0 (va_A (wP C S0) z)) (F0 m 0 ls []) := by
    intro S H locs ls hg hw hl
    unfold f_X7_take at hg
    refine lv_aload_n hx hb dX7_take_0 rfl (lv_at hl 0 rfl) ?_
    refine lv_iload_n hx hb dX7_take_1 rfl (lv_at hl 1 rfl) ?_
    obtain ⟨r10, S10, hc10, hg⟩ := cl_some hg
    refine wr_ci (va_runS (As := [.int x1]) (rest := [.ref a0]) ⟨hx, hb, hml, hown, hts⟩ (c_X7_isSnapshot l D C N S z x1 r10 S10 hc10) (va_cwS 1 hts gX7_take_X7_isSnapshot rfl rfl rfl (by decide +kernel) ⟨Nat.le_of_ble_eq_true rfl, Nat.le_of_ble_eq_true rfl⟩) (wd_preS hw) rfl rfl hl.1 rfl (lv_room (Nat.le_of_ble_eq_true rfl)) dX7_take_2 ⟨Nat.zero_le _, Nat.zero_le _⟩) hw (fun H locs hw => ?_)
    refine lv_if_eq (tgt := 12) hx hb dX7_take_5 (by decide) (fun c11 => ?_) (fun c11 => ?_)
    · have hg := it_pos hg c11
      refine lv_iconst (v := (1 : Int32)) hx hb dX7_take_12 (by decide) ?_
      exact B13 _ _ _ _ _ _ hg hw (lv_sub hl [0, 1] rfl)
    · have hg := it_neg hg c11
      refine lv_iconst (v := (0 : Int32)) hx hb dX7_take_8 (by decide) ?_
      refine lv_goto (tgt := 13) hx hb dX7_take_9 (by decide) ?_
      exact B13 _ _ _ _ _ _ hg hw (lv_sub hl [0, 1] rfl)
  exact B0 S0 _ _ _ hg hw hl
