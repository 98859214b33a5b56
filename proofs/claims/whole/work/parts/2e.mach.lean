theorem hi_X6_append_X5 : ∀ w ∈ wsX50, w ∈ wsX6_append := fun _ h => List.mem_cons_of_mem _ (List.mem_append_left _ (List.mem_append_left _ (List.mem_append_right _ (h))))
theorem hi_X6_append_X6 : ∀ w ∈ wsX60, w ∈ wsX6_append := fun _ h => List.mem_cons_of_mem _ (List.mem_append_left _ (List.mem_append_left _ (List.mem_append_left _ (List.mem_append_right _ (h)))))
abbrev rm_X6_append : Room := { frames := 1, cells := 0, slots := 0, locals := 21 }
set_option maxHeartbeats 4000000 in
set_option maxRecDepth 100000 in
theorem c_X6_append (l : Launch) (D : va_G) (C : C3) (N : Nat) (S0 : Hp) (z : Nat) (a0 : Nat) (x1 : Int32) (r : Int32) (S9 : Hp) (hg : f_X6_append N S0 a0 x1 = some (r, S9)) : MetI l yX6_append wsX6_append rm_X6_append D C S0 z [.ref a0, .int x1] r S9 z 0 0 := by
  refine mw_ofW (cc := cX6_append) (maxL := 2) (ret := (some .int)) (lv := [(0, .ref a0), (1, .int x1)]) (by decide) rfl (Nat.le_of_ble_eq_true rfl) rfl ?_
  intro p e s m below meth c ls hx hb hr hts hown hlk hml hnm hl hw
  have hown : s.vm.findClass RX6 = some m.cls := hown
  have B12 : ∀ (S : Hp) (H : Heap) (locs : List Loc) (ls : Array Slot), f_X6_append_b12 N a0 x1 S = some (r, S9) → Wd D C (va_A (wP C S0) z) s.heap S z H locs s → lv_has ls 2 [] → W p l e rm_X6_append s m ([.ref a0, .int x1] : List Value).toArray below meth c H locs 0 0 (MQ below (QiW D C S0 z r S9 z) ([.ref a0, .int x1] : List Value).toArray s 0 0 (va_A (wP C S0) z)) (F0 m 12 ls []) := by
    intro S H locs ls hg hw hl
    unfold f_X6_append_b12 at hg
    exact absurd hg (by simp)
  have B0 : ∀ (S : Hp) (H : Heap) (locs : List Loc) (ls : Array Slot), f_X6_append N S a0 x1 = some (r, S9) → Wd D C (va_A (wP C S0) z) s.heap S z H locs s → lv_has ls 2 [(0, .ref a0), (1, .int x1)] → W p l e rm_X6_append s m ([.ref a0, .int x1] : List Value).toArray below meth c H locs 0 0 (MQ below (QiW D C S0 z r S9 z) ([.ref a0, .int x1] : List Value).toArray s 0 0 (va_A (wP C S0) z)) (F0 m 0 ls []) := by
    intro S H locs ls hg hw hl
    unfold f_X6_append at hg
    refine lv_iload_n hx hb dX6_append_0 rfl (lv_at hl 1 rfl) ?_
    refine lv_bipush (v := (33 : Int32)) hx hb dX6_append_1 (by decide) ?_
    refine lv_icmp_lt (tgt := 12) hx hb dX6_append_3 (by decide) (fun c10 => ?_) (fun c10 => ?_)
    · have hg := it_pos hg c10
      exact B12 _ _ _ _ hg hw (lv_sub hl [] rfl)
    · have hg := it_neg hg c10
      refine lv_iload_n hx hb dX6_append_6 rfl (lv_at hl 1 rfl) ?_
      refine lv_bipush (v := (126 : Int32)) hx hb dX6_append_7 (by decide) ?_
      refine lv_icmp_le (tgt := 22) hx hb dX6_append_9 (by decide) (fun c11 => ?_) (fun c11 => ?_)
      · have hg := it_pos hg c11
        refine lv_aload_n hx hb dX6_append_22 rfl (lv_at hl 0 rfl) ?_
        obtain ⟨hok12, hg⟩ := gd_some hg
        obtain ⟨r13, hr13, hg⟩ := nn_some hg
        refine wr_get (K := RX6) (T := TX6) (N := 7) (index := 33) (ref := "MakerLines") (v := .ref r13) hx hb hts hi_X6_append_X6 hown hw hok12 (wF_6 (S := S) hok12.2) rfl 4 (by decide) (hts _ (List.mem_of_getElem? (i := 5) rfl)) (fun _ h9 => h9) (congrArg (fun o => some (va_rf o)) hr13) dX6_append_23 ?_
        obtain ⟨hok14, hg⟩ := gd_some hg
        refine wr_get (K := RX5) (T := TX5) (N := 2) (index := 164) (ref := "MakerLines$Text") (v := .int (hI S r13 1)) hx hb hts hi_X6_append_X5 hown hw hok14 (wF_5 (S := S) hok14.2) rfl 1 (by decide) (hts _ (List.mem_of_getElem? (i := 6) rfl)) (fun _ h9 => h9) rfl dX6_append_26 ?_
        refine lv_bipush (v := (60 : Int32)) hx hb dX6_append_29 (by decide) ?_
        refine lv_icmp_lt (tgt := 44) hx hb dX6_append_31 (by decide) (fun c15 => ?_) (fun c15 => ?_)
        · have hg := it_pos hg c15
          refine lv_aload_n hx hb dX6_append_44 rfl (lv_at hl 0 rfl) ?_
          refine wr_get (K := RX6) (T := TX6) (N := 7) (index := 33) (ref := "MakerLines") (v := .ref r13) hx hb hts hi_X6_append_X6 hown hw hok12 (wF_6 (S := S) hok12.2) rfl 4 (by decide) (hts _ (List.mem_of_getElem? (i := 5) rfl)) (fun _ h9 => h9) (congrArg (fun o => some (va_rf o)) hr13) dX6_append_45 ?_
          refine lv_iload_n hx hb dX6_append_48 rfl (lv_at hl 1 rfl) ?_
          obtain ⟨⟨⟩, S16, hc16, hg⟩ := cl_some hg
          refine wr_cv (va_runV (As := [.int x1]) (rest := []) ⟨hx, hb, hml, hown, hts⟩ (c_X5_put l D C N S z r13 x1 () S16 hc16) (cwV 1 hts gX6_append_X5_put rfl rfl rfl (by decide +kernel) ⟨Nat.le_of_ble_eq_true rfl, Nat.le_of_ble_eq_true rfl⟩) (wd_preV hw hok14 (wF_5 (S := S) hok14.2) rfl) rfl rfl hl.1 rfl (lv_room (Nat.le_of_ble_eq_true rfl)) dX6_append_49 ⟨Nat.zero_le _, Nat.zero_le _⟩) hw (fun H locs hw => ?_)
          refine lv_aload_n hx hb dX6_append_52 rfl (lv_at hl 0 rfl) ?_
          obtain ⟨hok17, hg⟩ := gd_some hg
          obtain ⟨r18, hr18, hg⟩ := nn_some hg
          refine wr_get (K := RX6) (T := TX6) (N := 7) (index := 33) (ref := "MakerLines") (v := .ref r18) hx hb hts hi_X6_append_X6 hown hw hok17 (wF_6 (S := S16) hok17.2) rfl 4 (by decide) (hts _ (List.mem_of_getElem? (i := 5) rfl)) (fun _ h9 => h9) (congrArg (fun o => some (va_rf o)) hr18) dX6_append_53 ?_
          obtain ⟨hok19, hg⟩ := gd_some hg
          refine wr_get (K := RX5) (T := TX5) (N := 2) (index := 164) (ref := "MakerLines$Text") (v := .int (hI S16 r18 1)) hx hb hts hi_X6_append_X5 hown hw hok19 (wF_5 (S := S16) hok19.2) rfl 1 (by decide) (hts _ (List.mem_of_getElem? (i := 6) rfl)) (fun _ h9 => h9) rfl dX6_append_56 ?_
          cases hg
          exact wr_iret hx hb hr hw dX6_append_59 hlk
        · have hg := it_neg hg c15
          exact absurd hg (by simp)
      · have hg := it_neg hg c11
        exact B12 _ _ _ _ hg hw (lv_sub hl [] rfl)
  exact B0 S0 _ _ _ hg hw hl
theorem hi_X6_clearBuffer_X5 : ∀ w ∈ wsX50, w ∈ wsX6_clearBuffer := fun _ h => List.mem_cons_of_mem _ (List.mem_append_right _ (h))
theorem hi_X6_clearBuffer_X6 : ∀ w ∈ wsX60, w ∈ wsX6_clearBuffer := fun _ h => List.mem_cons_of_mem _ (List.mem_append_left _ (List.mem_append_right _ (h)))
abbrev rm_X6_clearBuffer : Room := { frames := 0, cells := 0, slots := 0, locals := 0 }
set_option maxHeartbeats 4000000 in
set_option maxRecDepth 100000 in
theorem c_X6_clearBuffer (l : Launch) (D : va_G) (C : C3) (N : Nat) (S0 : Hp) (z : Nat) (a0 : Nat) (r : Int32) (S9 : Hp) (hg : f_X6_clearBuffer N S0 a0 = some (r, S9)) : MetI l yX6_clearBuffer wsX6_clearBuffer rm_X6_clearBuffer D C S0 z [.ref a0] r S9 z 0 0 := by
  refine mw_ofW (cc := cX6_clearBuffer) (maxL := 2) (ret := (some .int)) (lv := [(0, .ref a0)]) (by decide) rfl (Nat.le_of_ble_eq_true rfl) rfl ?_
  intro p e s m below meth c ls hx hb hr hts hown hlk hml hnm hl hw
  have hown : s.vm.findClass RX6 = some m.cls := hown
  have B0 : ∀ (S : Hp) (H : Heap) (locs : List Loc) (ls : Array Slot), f_X6_clearBuffer N S a0 = some (r, S9) → Wd D C (va_A (wP C S0) z) s.heap S z H locs s → lv_has ls 2 [(0, .ref a0)] → W p l e rm_X6_clearBuffer s m ([.ref a0] : List Value).toArray below meth c H locs 0 0 (MQ below (QiW D C S0 z r S9 z) ([.ref a0] : List Value).toArray s 0 0 (va_A (wP C S0) z)) (F0 m 0 ls []) := by
    intro S H locs ls hg hw hl
    unfold f_X6_clearBuffer at hg
    refine lv_aload_n hx hb dX6_clearBuffer_0 rfl (lv_at hl 0 rfl) ?_
    obtain ⟨hok10, hg⟩ := gd_some hg
    obtain ⟨r11, hr11, hg⟩ := nn_some hg
    refine wr_get (K := RX6) (T := TX6) (N := 7) (index := 33) (ref := "MakerLines") (v := .ref r11) hx hb hts hi_X6_clearBuffer_X6 hown hw hok10 (wF_6 (S := S) hok10.2) rfl 4 (by decide) (hts _ (List.mem_of_getElem? (i := 1) rfl)) (fun _ h9 => h9) (congrArg (fun o => some (va_rf o)) hr11) dX6_clearBuffer_1 ?_
    obtain ⟨hok12, hg⟩ := gd_some hg
    refine wr_get (K := RX5) (T := TX5) (N := 2) (index := 164) (ref := "MakerLines$Text") (v := .int (hI S r11 1)) hx hb hts hi_X6_clearBuffer_X5 hown hw hok12 (wF_5 (S := S) hok12.2) rfl 1 (by decide) (hts _ (List.mem_of_getElem? (i := 2) rfl)) (fun _ h9 => h9) rfl dX6_clearBuffer_4 ?_
    refine lv_istore_n (lv' := [(1, .int (hI S r11 1)), (0, .ref a0)]) hx hb dX6_clearBuffer_7 rfl hl (by decide) rfl (fun ls hl => ?_)
    refine lv_aload_n hx hb dX6_clearBuffer_8 rfl (lv_at hl 1 rfl) ?_
    refine wr_get (K := RX6) (T := TX6) (N := 7) (index := 33) (ref := "MakerLines") (v := .ref r11) hx hb hts hi_X6_clearBuffer_X6 hown hw hok10 (wF_6 (S := S) hok10.2) rfl 4 (by decide) (hts _ (List.mem_of_getElem? (i := 1) rfl)) (fun _ h9 => h9) (congrArg (fun o => some (va_rf o)) hr11) dX6_clearBuffer_9 ?_
    refine lv_iconst (v := (0 : Int32)) hx hb dX6_clearBuffer_12 (by decide) ?_
    refine wr_put (K := RX5) (T := TX5) (N := 2) (index := 164) (ref := "MakerLines$Text") (ty := (.int)) (S1 := (sI S r11 1 (0 : Int32))) hx hb hts hi_X6_clearBuffer_X5 tyX5 tyX5_ok nmX5 hown hw hok12 (wF_5 (S := S) hok12.2) rfl (fun b hb9 => wF_sI_ne hb9) 1 (wq_5_1 (S := S) hok12.2 _) rfl (by decide) (hts _ (List.mem_of_getElem? (i := 2) rfl)) (fun _ h9 => h9) rfl (by decide +kernel) rfl rfl (Nat.le_of_ble_eq_true rfl) dX6_clearBuffer_13 (fun H locs hw => ?_)
    refine lv_iload_n hx hb dX6_clearBuffer_16 rfl (lv_at hl 0 rfl) ?_
    cases hg
    exact wr_iret hx hb hr hw dX6_clearBuffer_17 hlk
  exact B0 S0 _ _ _ hg hw hl
theorem hi_X6_firstError_X4 : ∀ w ∈ wsX40, w ∈ wsX6_firstError := fun _ h => List.mem_cons_of_mem _ (List.mem_append_left _ (List.mem_append_right _ (h)))
theorem hi_X6_firstError_X6 : ∀ w ∈ wsX60, w ∈ wsX6_firstError := fun _ h => List.mem_cons_of_mem _ (List.mem_append_left _ (List.mem_append_left _ (List.mem_append_right _ (h))))
abbrev rm_X6_firstError : Room := { frames := 1, cells := 0, slots := 0, locals := 24 }
set_option maxHeartbeats 4000000 in
set_option maxRecDepth 100000 in
theorem c_X6_firstError (l : Launch) (D : va_G) (C : C3) (N : Nat) (S0 : Hp) (z : Nat) (a0 : Nat) (r : Int32) (S9 : Hp) (hg : f_X6_firstError N S0 a0 = some (r, S9)) : MetI l yX6_firstError wsX6_firstError rm_X6_firstError D C S0 z [.ref a0] r S9 z 0 0 := by
  refine mw_ofW (cc := cX6_firstError) (maxL := 1) (ret := (some .int)) (lv := [(0, .ref a0)]) (by decide) rfl (Nat.le_of_ble_eq_true rfl) rfl ?_
  intro p e s m below meth c ls hx hb hr hts hown hlk hml hnm hl hw
  have hown : s.vm.findClass RX6 = some m.cls := hown
  have B0 : ∀ (S : Hp) (H : Heap) (locs : List Loc) (ls : Array Slot), f_X6_firstError N S a0 = some (r, S9) → Wd D C (va_A (wP C S0) z) s.heap S z H locs s → lv_has ls 1 [(0, .ref a0)] → W p l e rm_X6_firstError s m ([.ref a0] : List Value).toArray below meth c H locs 0 0 (MQ below (QiW D C S0 z r S9 z) ([.ref a0] : List Value).toArray s 0 0 (va_A (wP C S0) z)) (F0 m 0 ls []) := by
    intro S H locs ls hg hw hl
    unfold f_X6_firstError at hg
    refine lv_aload_n hx hb dX6_firstError_0 rfl (lv_at hl 0 rfl) ?_
    obtain ⟨hok10, hg⟩ := gd_some hg
    obtain ⟨r11, hr11, hg⟩ := nn_some hg
    refine wr_get (K := RX6) (T := TX6) (N := 7) (index := 33) (ref := "MakerLines") (v := .ref r11) hx hb hts hi_X6_firstError_X6 hown hw hok10 (wF_6 (S := S) hok10.2) rfl 4 (by decide) (hts _ (List.mem_of_getElem? (i := 1) rfl)) (fun _ h9 => h9) (congrArg (fun o => some (va_rf o)) hr11) dX6_firstError_1 ?_
    refine lv_aload_n hx hb dX6_firstError_4 rfl (lv_at hl 0 rfl) ?_
    obtain ⟨r12, hr12, hg⟩ := nn_some hg
    refine wr_get (K := RX6) (T := TX6) (N := 7) (index := 12) (ref := "MakerLines") (v := .ref r12) hx hb hts hi_X6_firstError_X6 hown hw hok10 (wF_6 (S := S) hok10.2) rfl 0 (by decide) (hts _ (List.mem_of_getElem? (i := 2) rfl)) (fun _ h9 => h9) (congrArg (fun o => some (va_rf o)) hr12) dX6_firstError_5 ?_
    obtain ⟨hok13, hg⟩ := gd_some hg
    refine wr_get (K := RX4) (T := TX4) (N := 10) (index := 62) (ref := "MakerLines$State") (v := .int (hI S r12 1)) hx hb hts hi_X6_firstError_X4 hown hw hok13 (wF_4 (S := S) hok13.2) rfl 1 (by decide) (hts _ (List.mem_of_getElem? (i := 3) rfl)) (fun _ h9 => h9) rfl dX6_firstError_8 ?_
    obtain ⟨hok14, hg⟩ := gd_some hg
    obtain ⟨r15, S15, hc15, hg⟩ := cl_some hg
    refine wr_ci (va_runV (As := [.int (hI S r12 1)]) (rest := []) ⟨hx, hb, hml, hown, hts⟩ (c_X5_errorAt l D C N S z r11 ((hI S r12 1)) r15 S15 hc15) (cwV 1 hts gX6_firstError_X5_errorAt rfl rfl rfl (by decide +kernel) ⟨Nat.le_of_ble_eq_true rfl, Nat.le_of_ble_eq_true rfl⟩) (wd_preV hw hok14 (wF_5 (S := S) hok14.2) rfl) rfl rfl hl.1 rfl (lv_room (Nat.le_of_ble_eq_true rfl)) dX6_firstError_11 ⟨Nat.zero_le _, Nat.zero_le _⟩) hw (fun H locs hw => ?_)
    cases hg
    exact wr_iret hx hb hr hw dX6_firstError_14 hlk
  exact B0 S0 _ _ _ hg hw hl
theorem hi_X6_read_X1 : ∀ w ∈ wsX10, w ∈ wsX6_read := fun _ h => List.mem_cons_of_mem _ (List.mem_append_left _ (List.mem_append_left _ (List.mem_append_left _ (List.mem_append_left _ (List.mem_append_right _ (h))))))
theorem hi_X6_read_X4 : ∀ w ∈ wsX40, w ∈ wsX6_read := fun _ h => List.mem_cons_of_mem _ (List.mem_append_left _ (List.mem_append_left _ (List.mem_append_left _ (List.mem_append_left _ (List.mem_append_left _ (List.mem_append_right _ (h)))))))
theorem hi_X6_read_X5 : ∀ w ∈ wsX50, w ∈ wsX6_read := fun _ h => List.mem_cons_of_mem _ (List.mem_append_left _ (List.mem_append_left _ (List.mem_append_left _ (List.mem_append_right _ (h)))))
theorem hi_X6_read_X6 : ∀ w ∈ wsX60, w ∈ wsX6_read := fun _ h => List.mem_cons_of_mem _ (List.mem_append_left _ (List.mem_append_left _ (List.mem_append_left _ (List.mem_append_left _ (List.mem_append_left _ (List.mem_append_left _ (List.mem_append_right _ (h))))))))
abbrev rm_X6_read : Room := { frames := 4, cells := 3, slots := 28, locals := 86 }
set_option maxHeartbeats 4000000 in
set_option maxRecDepth 100000 in
theorem c_X6_read (l : Launch) (D : va_G) (C : C3) (N : Nat) (S0 : Hp) (z0 : Nat) (a0 : Nat) (r : Int32) (S9 : Hp) (z9 : Nat) (hg : f_X6_read N S0 z0 a0 = some (r, S9, z9)) : MetI l yX6_read wsX6_read rm_X6_read D C S0 z0 [.ref a0] r S9 z9 3 28 := by
  refine mw_ofW (cc := cX6_read) (maxL := 1) (ret := (some .int)) (lv := [(0, .ref a0)]) (by decide) rfl (Nat.le_of_ble_eq_true rfl) rfl ?_
  intro p e s m below meth c ls hx hb hr hts hown hlk hml hnm hl hw
  have hown : s.vm.findClass RX6 = some m.cls := hown
  have B0 : ∀ (S : Hp) (z : Nat) (H : Heap) (locs : List Loc) (ls : Array Slot), f_X6_read N S z a0 = some (r, S9, z9) → Wd D C (va_A (wP C S0) z0) s.heap S z H locs s → lv_has ls 1 [(0, .ref a0)] → W p l e rm_X6_read s m ([.ref a0] : List Value).toArray below meth c H locs 0 0 (MQ below (QiW D C S0 z0 r S9 z9) ([.ref a0] : List Value).toArray s 3 28 (va_A (wP C S0) z0)) (F0 m 0 ls []) := by
    intro S z H locs ls hg hw hl
    unfold f_X6_read at hg
    refine lv_aload_n hx hb dX6_read_0 rfl (lv_at hl 0 rfl) ?_
    obtain ⟨hok10, hg⟩ := gd_some hg
    obtain ⟨r11, hr11, hg⟩ := nn_some hg
    refine wr_get (K := RX6) (T := TX6) (N := 7) (index := 33) (ref := "MakerLines") (v := .ref r11) hx hb hts hi_X6_read_X6 hown hw hok10 (wF_6 (S := S) hok10.2) rfl 4 (by decide) (hts _ (List.mem_of_getElem? (i := 5) rfl)) (fun _ h9 => h9) (congrArg (fun o => some (va_rf o)) hr11) dX6_read_1 ?_
    refine lv_aload_n hx hb dX6_read_4 rfl (lv_at hl 0 rfl) ?_
    obtain ⟨r12, hr12, hg⟩ := nn_some hg
    refine wr_get (K := RX6) (T := TX6) (N := 7) (index := 12) (ref := "MakerLines") (v := .ref r12) hx hb hts hi_X6_read_X6 hown hw hok10 (wF_6 (S := S) hok10.2) rfl 0 (by decide) (hts _ (List.mem_of_getElem? (i := 6) rfl)) (fun _ h9 => h9) (congrArg (fun o => some (va_rf o)) hr12) dX6_read_5 ?_
    obtain ⟨hok13, hg⟩ := gd_some hg
    refine wr_get (K := RX4) (T := TX4) (N := 10) (index := 62) (ref := "MakerLines$State") (v := .int (hI S r12 1)) hx hb hts hi_X6_read_X4 hown hw hok13 (wF_4 (S := S) hok13.2) rfl 1 (by decide) (hts _ (List.mem_of_getElem? (i := 7) rfl)) (fun _ h9 => h9) rfl dX6_read_8 ?_
    obtain ⟨hok14, hg⟩ := gd_some hg
    obtain ⟨r15, S15, hc15, hg⟩ := cl_some hg
    refine wr_ci (va_runV (As := [.int (hI S r12 1)]) (rest := []) ⟨hx, hb, hml, hown, hts⟩ (c_X5_isComplete l D C N S z r11 ((hI S r12 1)) r15 S15 hc15) (cwV 1 hts gX6_read_X5_isComplete rfl rfl rfl (by decide +kernel) ⟨Nat.le_of_ble_eq_true rfl, Nat.le_of_ble_eq_true rfl⟩) (wd_preV hw hok14 (wF_5 (S := S) hok14.2) rfl) rfl rfl hl.1 rfl (lv_room (Nat.le_of_ble_eq_true rfl)) dX6_read_11 ⟨Nat.le_of_ble_eq_true rfl, Nat.le_of_ble_eq_true rfl⟩) hw (fun H locs hw => ?_)
    refine lv_if_ne (tgt := 27) hx hb dX6_read_14 (by decide) (fun c16 => ?_) (fun c16 => ?_)
    · have hg := it_neg hg c16
      refine lv_aload_n hx hb dX6_read_27 rfl (lv_at hl 0 rfl) ?_
      obtain ⟨hok17, hg⟩ := gd_some hg
      obtain ⟨r18, hr18, hg⟩ := nn_some hg
      refine wr_get (K := RX6) (T := TX6) (N := 7) (index := 12) (ref := "MakerLines") (v := .ref r18) hx hb hts hi_X6_read_X6 hown hw hok17 (wF_6 (S := S15) hok17.2) rfl 0 (by decide) (hts _ (List.mem_of_getElem? (i := 6) rfl)) (fun _ h9 => h9) (congrArg (fun o => some (va_rf o)) hr18) dX6_read_28 ?_
      obtain ⟨hok19, hg⟩ := gd_some hg
      obtain ⟨r20, hr20, hg⟩ := nn_some hg
      refine wr_get (K := RX4) (T := TX4) (N := 10) (index := 66) (ref := "MakerLines$State") (v := .ref r20) hx hb hts hi_X6_read_X4 hown hw hok19 (wF_4 (S := S15) hok19.2) rfl 0 (by decide) (hts _ (List.mem_of_getElem? (i := 8) rfl)) (fun _ h9 => h9) (congrArg (fun o => some (va_rf o)) hr20) dX6_read_31 ?_
      obtain ⟨hok21, hg⟩ := gd_some hg
      refine wr_get (K := RX1) (T := TX1) (N := 6) (index := 70) (ref := "MakerLines$Lines") (v := .int (hI S15 r20 1)) hx hb hts hi_X6_read_X1 hown hw hok21 (wF_1 (S := S15) hok21.2) rfl 1 (by decide) (hts _ (List.mem_of_getElem? (i := 9) rfl)) (fun _ h9 => h9) rfl dX6_read_34 ?_
      refine lv_aload_n hx hb dX6_read_37 rfl (lv_at hl 0 rfl) ?_
      obtain ⟨r22, hr22, hg⟩ := nn_some hg
      refine wr_get (K := RX6) (T := TX6) (N := 7) (index := 33) (ref := "MakerLines") (v := .ref r22) hx hb hts hi_X6_read_X6 hown hw hok17 (wF_6 (S := S15) hok17.2) rfl 4 (by decide) (hts _ (List.mem_of_getElem? (i := 5) rfl)) (fun _ h9 => h9) (congrArg (fun o => some (va_rf o)) hr22) dX6_read_38 ?_
      obtain ⟨hok23, hg⟩ := gd_some hg
      obtain ⟨r24, S24, hc24, hg⟩ := cl_some hg
      refine wr_ci (va_runV (As := []) (rest := [.int (hI S15 r20 1)]) ⟨hx, hb, hml, hown, hts⟩ (c_X5_rows l D C N S15 z r22 r24 S24 hc24) (cwV 0 hts gX6_read_X5_rows rfl rfl rfl (by decide +kernel) ⟨Nat.le_of_ble_eq_true rfl, Nat.le_of_ble_eq_true rfl⟩) (wd_preV hw hok23 (wF_5 (S := S15) hok23.2) rfl) rfl rfl hl.1 rfl (lv_room (Nat.le_of_ble_eq_true rfl)) dX6_read_41 ⟨Nat.le_of_ble_eq_true rfl, Nat.le_of_ble_eq_true rfl⟩) hw (fun H locs hw => ?_)
      refine lv_iadd hx hb dX6_read_44 ?_
      refine lv_bipush (v := (12 : Int32)) hx hb dX6_read_45 (by decide) ?_
      refine lv_icmp_le (tgt := 60) hx hb dX6_read_47 (by decide) (fun c25 => ?_) (fun c25 => ?_)
      · have hg := it_pos hg c25
        refine lv_aload_n hx hb dX6_read_60 rfl (lv_at hl 0 rfl) ?_
        obtain ⟨hok26, hg⟩ := gd_some hg
        obtain ⟨r27, hr27, hg⟩ := nn_some hg
        refine wr_get (K := RX6) (T := TX6) (N := 7) (index := 22) (ref := "MakerLines") (v := .ref r27) hx hb hts hi_X6_read_X6 hown hw hok26 (wF_6 (S := S24) hok26.2) rfl 2 (by decide) (hts _ (List.mem_of_getElem? (i := 10) rfl)) (fun _ h9 => h9) (congrArg (fun o => some (va_rf o)) hr27) dX6_read_61 ?_
        refine lv_aload_n hx hb dX6_read_64 rfl (lv_at hl 0 rfl) ?_
        obtain ⟨r28, hr28, hg⟩ := nn_some hg
        refine wr_get (K := RX6) (T := TX6) (N := 7) (index := 12) (ref := "MakerLines") (v := .ref r28) hx hb hts hi_X6_read_X6 hown hw hok26 (wF_6 (S := S24) hok26.2) rfl 0 (by decide) (hts _ (List.mem_of_getElem? (i := 6) rfl)) (fun _ h9 => h9) (congrArg (fun o => some (va_rf o)) hr28) dX6_read_65 ?_
        obtain ⟨hok29, hg⟩ := gd_some hg
        obtain ⟨⟨⟩, S30, z30, hc30, hg⟩ := cz_some hg
        refine wr_cv (va_runV (As := [.ref r28]) (rest := []) ⟨hx, hb, hml, hown, hts⟩ (c_X0_save l D C N S24 z r27 r28 () S30 z30 hc30) (cwV 1 hts gX6_read_X0_save rfl rfl rfl (by decide +kernel) ⟨Nat.le_of_ble_eq_true rfl, Nat.le_of_ble_eq_true rfl⟩) (wd_preV hw hok29 (wF_0 (S := S24) hok29.2) rfl) rfl rfl hl.1 rfl (lv_room (Nat.le_of_ble_eq_true rfl)) dX6_read_68 ⟨Nat.le_of_ble_eq_true rfl, Nat.le_of_ble_eq_true rfl⟩) hw (fun H locs hw => ?_)
        refine lv_aload_n hx hb dX6_read_71 rfl (lv_at hl 0 rfl) ?_
        obtain ⟨hok31, hg⟩ := gd_some hg
        obtain ⟨r32, hr32, hg⟩ := nn_some hg
        refine wr_get (K := RX6) (T := TX6) (N := 7) (index := 33) (ref := "MakerLines") (v := .ref r32) hx hb hts hi_X6_read_X6 hown hw hok31 (wF_6 (S := S30) hok31.2) rfl 4 (by decide) (hts _ (List.mem_of_getElem? (i := 5) rfl)) (fun _ h9 => h9) (congrArg (fun o => some (va_rf o)) hr32) dX6_read_72 ?_
        refine lv_aload_n hx hb dX6_read_75 rfl (lv_at hl 0 rfl) ?_
        obtain ⟨r33, hr33, hg⟩ := nn_some hg
        refine wr_get (K := RX6) (T := TX6) (N := 7) (index := 12) (ref := "MakerLines") (v := .ref r33) hx hb hts hi_X6_read_X6 hown hw hok31 (wF_6 (S := S30) hok31.2) rfl 0 (by decide) (hts _ (List.mem_of_getElem? (i := 6) rfl)) (fun _ h9 => h9) (congrArg (fun o => some (va_rf o)) hr33) dX6_read_76 ?_
        obtain ⟨hok34, hg⟩ := gd_some hg
        obtain ⟨r35, hr35, hg⟩ := nn_some hg
        refine wr_get (K := RX4) (T := TX4) (N := 10) (index := 66) (ref := "MakerLines$State") (v := .ref r35) hx hb hts hi_X6_read_X4 hown hw hok34 (wF_4 (S := S30) hok34.2) rfl 0 (by decide) (hts _ (List.mem_of_getElem? (i := 8) rfl)) (fun _ h9 => h9) (congrArg (fun o => some (va_rf o)) hr35) dX6_read_79 ?_
        obtain ⟨hok36, hg⟩ := gd_some hg
        obtain ⟨⟨⟩, S37, hc37, hg⟩ := cl_some hg
        refine wr_cv (va_runV (As := [.ref r35]) (rest := []) ⟨hx, hb, hml, hown, hts⟩ (c_X5_addTo l D C N S30 z30 r32 r35 () S37 hc37) (cwV 1 hts gX6_read_X5_addTo rfl rfl rfl (by decide +kernel) ⟨Nat.le_of_ble_eq_true rfl, Nat.le_of_ble_eq_true rfl⟩) (wd_preV hw hok36 (wF_5 (S := S30) hok36.2) rfl) rfl rfl hl.1 rfl (lv_room (Nat.le_of_ble_eq_true rfl)) dX6_read_82 ⟨Nat.le_of_ble_eq_true rfl, Nat.le_of_ble_eq_true rfl⟩) hw (fun H locs hw => ?_)
        refine lv_aload_n hx hb dX6_read_85 rfl (lv_at hl 0 rfl) ?_
        obtain ⟨hok38, hg⟩ := gd_some hg
        obtain ⟨r39, hr39, hg⟩ := nn_some hg
        refine wr_get (K := RX6) (T := TX6) (N := 7) (index := 33) (ref := "MakerLines") (v := .ref r39) hx hb hts hi_X6_read_X6 hown hw hok38 (wF_6 (S := S37) hok38.2) rfl 4 (by decide) (hts _ (List.mem_of_getElem? (i := 5) rfl)) (fun _ h9 => h9) (congrArg (fun o => some (va_rf o)) hr39) dX6_read_86 ?_
        refine lv_iconst (v := (0 : Int32)) hx hb dX6_read_89 (by decide) ?_
        obtain ⟨hok40, hg⟩ := gd_some hg
        refine wr_put (K := RX5) (T := TX5) (N := 2) (index := 164) (ref := "MakerLines$Text") (ty := (.int)) (S1 := (sI S37 r39 1 (0 : Int32))) hx hb hts hi_X6_read_X5 tyX5 tyX5_ok nmX5 hown hw hok40 (wF_5 (S := S37) hok40.2) rfl (fun b hb9 => wF_sI_ne hb9) 1 (wq_5_1 (S := S37) hok40.2 _) rfl (by decide) (hts _ (List.mem_of_getElem? (i := 11) rfl)) (fun _ h9 => h9) rfl (by decide +kernel) rfl rfl (Nat.le_of_ble_eq_true rfl) dX6_read_90 (fun H locs hw => ?_)
        refine lv_aload_n hx hb dX6_read_93 rfl (lv_at hl 0 rfl) ?_
        obtain ⟨r41, hr41, hg⟩ := nn_some hg
        refine wr_get (K := RX6) (T := TX6) (N := 7) (index := 12) (ref := "MakerLines") (v := .ref r41) hx hb hts hi_X6_read_X6 hown hw hok38 (wF_6 (S := (sI S37 r39 1 (0 : Int32))) hok38.2) rfl 0 (by decide) (hts _ (List.mem_of_getElem? (i := 6) rfl)) (fun _ h9 => h9) (congrArg (fun o => some (va_rf o)) hr41) dX6_read_94 ?_
        obtain ⟨hok42, hg⟩ := gd_some hg
        obtain ⟨r43, hr43, hg⟩ := nn_some hg
        refine wr_get (K := RX4) (T := TX4) (N := 10) (index := 66) (ref := "MakerLines$State") (v := .ref r43) hx hb hts hi_X6_read_X4 hown hw hok42 (wF_4 (S := (sI S37 r39 1 (0 : Int32))) hok42.2) rfl 0 (by decide) (hts _ (List.mem_of_getElem? (i := 8) rfl)) (fun _ h9 => h9) (congrArg (fun o => some (va_rf o)) hr43) dX6_read_97 ?_
        obtain ⟨hok44, hg⟩ := gd_some hg
        refine wr_get (K := RX1) (T := TX1) (N := 6) (index := 70) (ref := "MakerLines$Lines") (v := .int (hI ((sI S37 r39 1 (0 : Int32))) r43 1)) hx hb hts hi_X6_read_X1 hown hw hok44 (wF_1 (S := (sI S37 r39 1 (0 : Int32))) hok44.2) rfl 1 (by decide) (hts _ (List.mem_of_getElem? (i := 9) rfl)) (fun _ h9 => h9) rfl dX6_read_100 ?_
        cases hg
        refine W.widen (k := 3) (n := 28) (Nat.le_of_ble_eq_true rfl) (Nat.le_of_ble_eq_true rfl) ?_
        exact wr_iret hx hb hr hw dX6_read_103 hlk
      · have hg := it_neg hg c25
        exact absurd hg (by simp)
    · have hg := it_pos hg c16
      exact absurd hg (by simp)
  exact B0 S0 z0 _ _ _ hg hw hl
theorem hi_X6_isSnapshot_X6 : ∀ w ∈ wsX60, w ∈ wsX6_isSnapshot := fun _ h => List.mem_cons_of_mem _ (List.mem_append_right _ (h))
abbrev rm_X6_isSnapshot : Room := { frames := 0, cells := 0, slots := 0, locals := 0 }
set_option maxHeartbeats 4000000 in
set_option maxRecDepth 100000 in
theorem c_X6_isSnapshot (l : Launch) (D : va_G) (C : C3) (N : Nat) (S0 : Hp) (z : Nat) (a0 : Nat) (x1 : Int32) (r : Int32) (S9 : Hp) (hg : f_X6_isSnapshot N S0 a0 x1 = some (r, S9)) : MetI l yX6_isSnapshot wsX6_isSnapshot rm_X6_isSnapshot D C S0 z [.ref a0, .int x1] r S9 z 0 0 := by
  refine mw_ofW (cc := cX6_isSnapshot) (maxL := 2) (ret := (some .boolean)) (lv := [(0, .ref a0), (1, .int x1)]) (by decide) rfl (Nat.le_of_ble_eq_true rfl) rfl ?_
  intro p e s m below meth c ls hx hb hr hts hown hlk hml hnm hl hw
  have hown : s.vm.findClass RX6 = some m.cls := hown
  have B0 : ∀ (S : Hp) (H : Heap) (locs : List Loc) (ls : Array Slot), f_X6_isSnapshot N S a0 x1 = some (r, S9) → Wd D C (va_A (wP C S0) z) s.heap S z H locs s → lv_has ls 2 [(0, .ref a0), (1, .int x1)] → W p l e rm_X6_isSnapshot s m ([.ref a0, .int x1] : List Value).toArray below meth c H locs 0 0 (MQ below (QiW D C S0 z r S9 z) ([.ref a0, .int x1] : List Value).toArray s 0 0 (va_A (wP C S0) z)) (F0 m 0 ls []) := by
    intro S H locs ls hg hw hl
    unfold f_X6_isSnapshot at hg
    refine lv_iload_n hx hb dX6_isSnapshot_0 rfl (lv_at hl 1 rfl) ?_
    refine lv_if_lt (tgt := 17) hx hb dX6_isSnapshot_1 (by decide) (fun c10 => ?_) (fun c10 => ?_)
    · have hg := it_pos hg c10
      refine lv_iconst (v := (0 : Int32)) hx hb dX6_isSnapshot_17 (by decide) ?_
      cases hg
      exact wr_zret hx hb hr (by decide) hw dX6_isSnapshot_18 hlk
    · have hg := it_neg hg c10
      refine lv_iload_n hx hb dX6_isSnapshot_4 rfl (lv_at hl 1 rfl) ?_
      refine lv_aload_n hx hb dX6_isSnapshot_5 rfl (lv_at hl 0 rfl) ?_
      obtain ⟨hok11, hg⟩ := gd_some hg
      obtain ⟨r12, hr12, hg⟩ := nn_some hg
      refine wr_get (K := RX6) (T := TX6) (N := 7) (index := 26) (ref := "MakerLines") (v := .ref r12) hx hb hts hi_X6_isSnapshot_X6 hown hw hok11 (wF_6 (S := S) hok11.2) rfl 3 (by decide) (hts _ (List.mem_of_getElem? (i := 1) rfl)) (fun _ h9 => h9) (congrArg (fun o => some (va_rf o)) hr12) dX6_isSnapshot_6 ?_
      obtain ⟨hok13, hg⟩ := gd_some hg
      refine wr_alen9 hx hb hw hok13 dX6_isSnapshot_9 ?_
      refine lv_icmp_ge (tgt := 17) hx hb dX6_isSnapshot_10 (by decide) (fun c14 => ?_) (fun c14 => ?_)
      · have hg := it_pos hg c14
        refine lv_iconst (v := (0 : Int32)) hx hb dX6_isSnapshot_17 (by decide) ?_
        cases hg
        exact wr_zret hx hb hr (by decide) hw dX6_isSnapshot_18 hlk
      · have hg := it_neg hg c14
        refine lv_iconst (v := (1 : Int32)) hx hb dX6_isSnapshot_13 (by decide) ?_
        refine lv_goto (tgt := 18) hx hb dX6_isSnapshot_14 (by decide) ?_
        cases hg
        exact wr_zret hx hb hr (by decide) hw dX6_isSnapshot_18 hlk
  exact B0 S0 _ _ _ hg hw hl
theorem hi_X6_take_X1 : ∀ w ∈ wsX10, w ∈ wsX6_take := fun _ h => List.mem_cons_of_mem _ (List.mem_append_left _ (List.mem_append_right _ (h)))
theorem hi_X6_take_X4 : ∀ w ∈ wsX40, w ∈ wsX6_take := fun _ h => List.mem_cons_of_mem _ (List.mem_append_left _ (List.mem_append_left _ (List.mem_append_right _ (h))))
theorem hi_X6_take_X6 : ∀ w ∈ wsX60, w ∈ wsX6_take := fun _ h => List.mem_cons_of_mem _ (List.mem_append_left _ (List.mem_append_left _ (List.mem_append_left _ (List.mem_append_right _ (h)))))
abbrev rm_X6_take : Room := { frames := 3, cells := 3, slots := 28, locals := 60 }
set_option maxHeartbeats 4000000 in
set_option maxRecDepth 100000 in
theorem c_X6_take (l : Launch) (D : va_G) (C : C3) (N : Nat) (S0 : Hp) (z0 : Nat) (a0 : Nat) (x1 : Int32) (r : Int32) (S9 : Hp) (z9 : Nat) (hg : f_X6_take N S0 z0 a0 x1 = some (r, S9, z9)) : MetI l yX6_take wsX6_take rm_X6_take D C S0 z0 [.ref a0, .int x1] r S9 z9 3 28 := by
  refine mw_ofW (cc := cX6_take) (maxL := 3) (ret := (some .int)) (lv := [(0, .ref a0), (1, .int x1)]) (by decide) rfl (Nat.le_of_ble_eq_true rfl) rfl ?_
  intro p e s m below meth c ls hx hb hr hts hown hlk hml hnm hl hw
  have hown : s.vm.findClass RX6 = some m.cls := hown
  have B44 : ∀ (S : Hp) (z : Nat) (p2 : Nat) (H : Heap) (locs : List Loc) (ls : Array Slot), f_X6_take_b44 N a0 x1 S z p2 = some (r, S9, z9) → Wd D C (va_A (wP C S0) z0) s.heap S z H locs s → lv_has ls 3 [(0, .ref a0), (2, .ref p2)] → W p l e rm_X6_take s m ([.ref a0, .int x1] : List Value).toArray below meth c H locs 3 28 (MQ below (QiW D C S0 z0 r S9 z9) ([.ref a0, .int x1] : List Value).toArray s 3 28 (va_A (wP C S0) z0)) (F0 m 44 ls []) := by
    intro S z p2 H locs ls hg hw hl
    unfold f_X6_take_b44 at hg
    refine lv_aload_n hx hb dX6_take_44 rfl (lv_at hl 1 rfl) ?_
    refine lv_aload_n hx hb dX6_take_45 rfl (lv_at hl 0 rfl) ?_
    obtain ⟨hok25, hg⟩ := gd_some hg
    obtain ⟨r26, hr26, hg⟩ := nn_some hg
    refine wr_get (K := RX6) (T := TX6) (N := 7) (index := 12) (ref := "MakerLines") (v := .ref r26) hx hb hts hi_X6_take_X6 hown hw hok25 (wF_6 (S := S) hok25.2) rfl 0 (by decide) (hts _ (List.mem_of_getElem? (i := 7) rfl)) (fun _ h9 => h9) (congrArg (fun o => some (va_rf o)) hr26) dX6_take_46 ?_
    obtain ⟨hok27, hg⟩ := gd_some hg
    obtain ⟨⟨⟩, S28, hc28, hg⟩ := cl_some hg
    refine wr_cv (va_runV (As := [.ref r26]) (rest := []) ⟨hx, hb, hml, hown, hts⟩ (c_X4_copyBoard l D C N S z p2 r26 () S28 hc28) (cwV 1 hts gX6_take_X4_copyBoard rfl rfl rfl (by decide +kernel) ⟨Nat.le_of_ble_eq_true rfl, Nat.le_of_ble_eq_true rfl⟩) (wd_preV hw hok27 (wF_4 (S := S) hok27.2) rfl) rfl rfl hl.1 rfl (lv_room (Nat.le_of_ble_eq_true rfl)) dX6_take_49 ⟨Nat.le_of_ble_eq_true rfl, Nat.le_of_ble_eq_true rfl⟩) hw (fun H locs hw => ?_)
    refine lv_aload_n hx hb dX6_take_52 rfl (lv_at hl 0 rfl) ?_
    obtain ⟨hok29, hg⟩ := gd_some hg
    obtain ⟨r30, hr30, hg⟩ := nn_some hg
    refine wr_get (K := RX6) (T := TX6) (N := 7) (index := 12) (ref := "MakerLines") (v := .ref r30) hx hb hts hi_X6_take_X6 hown hw hok29 (wF_6 (S := S28) hok29.2) rfl 0 (by decide) (hts _ (List.mem_of_getElem? (i := 7) rfl)) (fun _ h9 => h9) (congrArg (fun o => some (va_rf o)) hr30) dX6_take_53 ?_
    obtain ⟨hok31, hg⟩ := gd_some hg
    obtain ⟨r32, hr32, hg⟩ := nn_some hg
    refine wr_get (K := RX4) (T := TX4) (N := 10) (index := 66) (ref := "MakerLines$State") (v := .ref r32) hx hb hts hi_X6_take_X4 hown hw hok31 (wF_4 (S := S28) hok31.2) rfl 0 (by decide) (hts _ (List.mem_of_getElem? (i := 8) rfl)) (fun _ h9 => h9) (congrArg (fun o => some (va_rf o)) hr32) dX6_take_56 ?_
    obtain ⟨hok33, hg⟩ := gd_some hg
    refine wr_get (K := RX1) (T := TX1) (N := 6) (index := 70) (ref := "MakerLines$Lines") (v := .int (hI S28 r32 1)) hx hb hts hi_X6_take_X1 hown hw hok33 (wF_1 (S := S28) hok33.2) rfl 1 (by decide) (hts _ (List.mem_of_getElem? (i := 9) rfl)) (fun _ h9 => h9) rfl dX6_take_59 ?_
    cases hg
    refine W.widen (k := 3) (n := 28) (Nat.le_of_ble_eq_true rfl) (Nat.le_of_ble_eq_true rfl) ?_
    exact wr_iret hx hb hr hw dX6_take_62 hlk
  have B0 : ∀ (S : Hp) (z : Nat) (H : Heap) (locs : List Loc) (ls : Array Slot), f_X6_take N S z a0 x1 = some (r, S9, z9) → Wd D C (va_A (wP C S0) z0) s.heap S z H locs s → lv_has ls 3 [(0, .ref a0), (1, .int x1)] → W p l e rm_X6_take s m ([.ref a0, .int x1] : List Value).toArray below meth c H locs 0 0 (MQ below (QiW D C S0 z0 r S9 z9) ([.ref a0, .int x1] : List Value).toArray s 3 28 (va_A (wP C S0) z0)) (F0 m 0 ls []) := by
    intro S z H locs ls hg hw hl
    unfold f_X6_take at hg
    refine lv_aload_n hx hb dX6_take_0 rfl (lv_at hl 0 rfl) ?_
    refine lv_iload_n hx hb dX6_take_1 rfl (lv_at hl 1 rfl) ?_
    obtain ⟨hok10, hg⟩ := gd_some hg
    obtain ⟨r11, S11, hc11, hg⟩ := cl_some hg
    refine wr_ci (va_runV (As := [.int x1]) (rest := []) ⟨hx, hb, hml, hown, hts⟩ (c_X6_isSnapshot l D C N S z a0 x1 r11 S11 hc11) (cwV 1 hts gX6_take_X6_isSnapshot rfl rfl rfl (by decide +kernel) ⟨Nat.le_of_ble_eq_true rfl, Nat.le_of_ble_eq_true rfl⟩) (wd_preV hw hok10 (wF_6 (S := S) hok10.2) rfl) rfl rfl hl.1 rfl (lv_room (Nat.le_of_ble_eq_true rfl)) dX6_take_2 ⟨Nat.le_of_ble_eq_true rfl, Nat.le_of_ble_eq_true rfl⟩) hw (fun H locs hw => ?_)
    refine lv_if_ne (tgt := 18) hx hb dX6_take_5 (by decide) (fun c12 => ?_) (fun c12 => ?_)
    · have hg := it_neg hg c12
      refine lv_aload_n hx hb dX6_take_18 rfl (lv_at hl 0 rfl) ?_
      obtain ⟨hok13, hg⟩ := gd_some hg
      obtain ⟨r14, hr14, hg⟩ := nn_some hg
      refine wr_get (K := RX6) (T := TX6) (N := 7) (index := 26) (ref := "MakerLines") (v := .ref r14) hx hb hts hi_X6_take_X6 hown hw hok13 (wF_6 (S := S11) hok13.2) rfl 3 (by decide) (hts _ (List.mem_of_getElem? (i := 3) rfl)) (fun _ h9 => h9) (congrArg (fun o => some (va_rf o)) hr14) dX6_take_19 ?_
      refine lv_iload_n hx hb dX6_take_22 rfl (lv_at hl 1 rfl) ?_
      obtain ⟨hok15, hg⟩ := gd_some hg
      obtain ⟨hin16, hg⟩ := gd_some hg
      rcases ho17 : (hR S11 r14 x1.toNatClampNeg) with _ | r17
      · rw [ho17] at hg; have hg := nz_none hg
        refine wr_aald (v := .null) hx hb hw hok15 (inb_vp hin16) (congrArg va_rf ho17) dX6_take_23 ?_
        refine lv_astore_nN (lv' := [(2, .null), (0, .ref a0), (1, .int x1)]) hx hb dX6_take_24 rfl hl (by decide) rfl (fun ls hl => ?_)
        refine lv_aload_nN hx hb dX6_take_25 rfl (lv_at hl 0 rfl) ?_
        refine lv_ifnonnullN hx hb dX6_take_26 ?_
        refine wr_new (K := RX4) (T := TX4) (N := 10) (ci := 4) (index := 9) (fs := [.null, .int 0, .int 0, .int 0, .int 0, .int 0, .int 0, .int 0, .int 0, .int 0]) hx hb hts hi_X6_take_X4 tyX4 tyX4_ok hown (hts _ (List.mem_of_getElem? (i := 4) rfl)) (hts _ (List.mem_of_getElem? (i := 5) rfl)) (hts _ (List.mem_of_getElem? (i := 6) rfl)) hw rfl wn_4 (fun j hj => by rcases (show j = 0 ∨ j = 1 ∨ j = 2 ∨ j = 3 ∨ j = 4 ∨ j = 5 ∨ j = 6 ∨ j = 7 ∨ j = 8 ∨ j = 9 by omega) with rfl | rfl | rfl | rfl | rfl | rfl | rfl | rfl | rfl | rfl <;> rfl) (Nat.le_of_ble_eq_true rfl) (Nat.le_of_ble_eq_true rfl) dX6_take_29 (fun H hw => ?_)
        refine lv_dup hx hb dX6_take_32 rfl ?_
        obtain ⟨⟨⟩, S19, z19, hc19, hg⟩ := cz_some hg
        refine wr_cv (va_runIN (b := z) (As := []) (rest := [.ref z]) ⟨hx, hb, hml, hown, hts⟩ (c_X4_init l D C N ((sNew S11 z 4 0)) ((z + 1)) z () S19 z19 hc19) ⟨va_cnB (own := RX6) (index := 11) (host := RX6) 0 hts gX6_take_X4_init_n11 rfl rfl rfl (hw.2.2.2.2.2.2.1 _ (List.mem_of_getElem? (i := 5) rfl)) (hts _ (List.mem_of_getElem? (i := 6) rfl)) (by decide +kernel) ⟨Nat.le_of_ble_eq_true rfl, Nat.le_of_ble_eq_true rfl⟩, rfl, (hts _ (List.mem_of_getElem? (i := 15) rfl))⟩ (wd_preS hw) rfl rfl hl.1 rfl (lv_room (Nat.le_of_ble_eq_true rfl)) dX6_take_33 ⟨Nat.le_of_ble_eq_true rfl, Nat.le_of_ble_eq_true rfl⟩) hw (fun H locs hw => ?_)
        refine lv_astore_n (lv' := [(2, .ref z), (0, .ref a0), (1, .int x1)]) hx hb dX6_take_36 rfl hl (by decide) rfl (fun ls hl => ?_)
        refine lv_aload_n hx hb dX6_take_37 rfl (lv_at hl 1 rfl) ?_
        obtain ⟨hok20, hg⟩ := gd_some hg
        obtain ⟨r21, hr21, hg⟩ := nn_some hg
        refine wr_get (K := RX6) (T := TX6) (N := 7) (index := 26) (ref := "MakerLines") (v := .ref r21) hx hb hts hi_X6_take_X6 hown hw hok20 (wF_6 (S := S19) hok20.2) rfl 3 (by decide) (hts _ (List.mem_of_getElem? (i := 3) rfl)) (fun _ h9 => h9) (congrArg (fun o => some (va_rf o)) hr21) dX6_take_38 ?_
        refine lv_iload_n hx hb dX6_take_41 rfl (lv_at hl 2 rfl) ?_
        refine lv_aload_n hx hb dX6_take_42 rfl (lv_at hl 0 rfl) ?_
        obtain ⟨hok22, hg⟩ := gd_some hg
        obtain ⟨hin23, hg⟩ := gd_some hg
        obtain ⟨hok24, hg⟩ := gd_some hg
        refine wr_aast hx hb hw hok22 hok24 (inb_vp hin23) dX6_take_43 (fun H locs hw => ?_)
        exact B44 _ _ _ _ _ _ hg hw (lv_sub hl [1, 0] rfl)
      · rw [ho17] at hg; have hg := nz_one hg
        refine wr_aald (v := .ref r17) hx hb hw hok15 (inb_vp hin16) (congrArg va_rf ho17) dX6_take_23 ?_
        refine lv_astore_n (lv' := [(2, .ref r17), (0, .ref a0), (1, .int x1)]) hx hb dX6_take_24 rfl hl (by decide) rfl (fun ls hl => ?_)
        refine lv_aload_n hx hb dX6_take_25 rfl (lv_at hl 0 rfl) ?_
        refine lv_ifnonnull (tgt := 44) hx hb dX6_take_26 (by decide) ?_
        refine W.widen (k := 3) (n := 28) (Nat.le_of_ble_eq_true rfl) (Nat.le_of_ble_eq_true rfl) ?_
        exact B44 _ _ _ _ _ _ hg hw (lv_sub hl [1, 0] rfl)
    · have hg := it_pos hg c12
      exact absurd hg (by simp)
  exact B0 S0 z0 _ _ _ hg hw hl
theorem hi_X6_restore_X1 : ∀ w ∈ wsX10, w ∈ wsX6_restore := fun _ h => List.mem_cons_of_mem _ (List.mem_append_left _ (List.mem_append_left _ (List.mem_append_left _ (List.mem_append_right _ (h)))))
theorem hi_X6_restore_X4 : ∀ w ∈ wsX40, w ∈ wsX6_restore := fun _ h => List.mem_cons_of_mem _ (List.mem_append_left _ (List.mem_append_left _ (List.mem_append_left _ (List.mem_append_left _ (List.mem_append_right _ (h))))))
theorem hi_X6_restore_X6 : ∀ w ∈ wsX60, w ∈ wsX6_restore := fun _ h => List.mem_cons_of_mem _ (List.mem_append_left _ (List.mem_append_left _ (List.mem_append_left _ (List.mem_append_left _ (List.mem_append_left _ (List.mem_append_right _ (h)))))))
abbrev rm_X6_restore : Room := { frames := 4, cells := 3, slots := 28, locals := 86 }
set_option maxHeartbeats 4000000 in
set_option maxRecDepth 100000 in
theorem c_X6_restore (l : Launch) (D : va_G) (C : C3) (N : Nat) (S0 : Hp) (z0 : Nat) (a0 : Nat) (x1 : Int32) (r : Int32) (S9 : Hp) (z9 : Nat) (hg : f_X6_restore N S0 z0 a0 x1 = some (r, S9, z9)) : MetI l yX6_restore wsX6_restore rm_X6_restore D C S0 z0 [.ref a0, .int x1] r S9 z9 3 28 := by
  refine mw_ofW (cc := cX6_restore) (maxL := 3) (ret := (some .int)) (lv := [(0, .ref a0), (1, .int x1)]) (by decide) rfl (Nat.le_of_ble_eq_true rfl) rfl ?_
  intro p e s m below meth c ls hx hb hr hts hown hlk hml hnm hl hw
  have hown : s.vm.findClass RX6 = some m.cls := hown
  have B0 : ∀ (S : Hp) (z : Nat) (H : Heap) (locs : List Loc) (ls : Array Slot), f_X6_restore N S z a0 x1 = some (r, S9, z9) → Wd D C (va_A (wP C S0) z0) s.heap S z H locs s → lv_has ls 3 [(0, .ref a0), (1, .int x1)] → W p l e rm_X6_restore s m ([.ref a0, .int x1] : List Value).toArray below meth c H locs 0 0 (MQ below (QiW D C S0 z0 r S9 z9) ([.ref a0, .int x1] : List Value).toArray s 3 28 (va_A (wP C S0) z0)) (F0 m 0 ls []) := by
    intro S z H locs ls hg hw hl
    unfold f_X6_restore at hg
    refine lv_aload_n hx hb dX6_restore_0 rfl (lv_at hl 0 rfl) ?_
    refine lv_iload_n hx hb dX6_restore_1 rfl (lv_at hl 1 rfl) ?_
    obtain ⟨hok10, hg⟩ := gd_some hg
    obtain ⟨r11, S11, hc11, hg⟩ := cl_some hg
    refine wr_ci (va_runV (As := [.int x1]) (rest := []) ⟨hx, hb, hml, hown, hts⟩ (c_X6_isSnapshot l D C N S z a0 x1 r11 S11 hc11) (cwV 1 hts gX6_restore_X6_isSnapshot rfl rfl rfl (by decide +kernel) ⟨Nat.le_of_ble_eq_true rfl, Nat.le_of_ble_eq_true rfl⟩) (wd_preV hw hok10 (wF_6 (S := S) hok10.2) rfl) rfl rfl hl.1 rfl (lv_room (Nat.le_of_ble_eq_true rfl)) dX6_restore_2 ⟨Nat.le_of_ble_eq_true rfl, Nat.le_of_ble_eq_true rfl⟩) hw (fun H locs hw => ?_)
    refine lv_if_ne (tgt := 18) hx hb dX6_restore_5 (by decide) (fun c12 => ?_) (fun c12 => ?_)
    · have hg := it_neg hg c12
      refine lv_aload_n hx hb dX6_restore_18 rfl (lv_at hl 0 rfl) ?_
      obtain ⟨hok13, hg⟩ := gd_some hg
      obtain ⟨r14, hr14, hg⟩ := nn_some hg
      refine wr_get (K := RX6) (T := TX6) (N := 7) (index := 26) (ref := "MakerLines") (v := .ref r14) hx hb hts hi_X6_restore_X6 hown hw hok13 (wF_6 (S := S11) hok13.2) rfl 3 (by decide) (hts _ (List.mem_of_getElem? (i := 5) rfl)) (fun _ h9 => h9) (congrArg (fun o => some (va_rf o)) hr14) dX6_restore_19 ?_
      refine lv_iload_n hx hb dX6_restore_22 rfl (lv_at hl 1 rfl) ?_
      obtain ⟨hok15, hg⟩ := gd_some hg
      obtain ⟨hin16, hg⟩ := gd_some hg
      rcases ho17 : (hR S11 r14 x1.toNatClampNeg) with _ | r17
      · rw [ho17] at hg; have hg := nz_none hg
        refine wr_aald (v := .null) hx hb hw hok15 (inb_vp hin16) (congrArg va_rf ho17) dX6_restore_23 ?_
        refine lv_astore_nN (lv' := [(2, .null), (0, .ref a0), (1, .int x1)]) hx hb dX6_restore_24 rfl hl (by decide) rfl (fun ls hl => ?_)
        refine lv_aload_nN hx hb dX6_restore_25 rfl (lv_at hl 0 rfl) ?_
        refine lv_ifnonnullN hx hb dX6_restore_26 ?_
        exact absurd hg (by simp)
      · rw [ho17] at hg; have hg := nz_one hg
        refine wr_aald (v := .ref r17) hx hb hw hok15 (inb_vp hin16) (congrArg va_rf ho17) dX6_restore_23 ?_
        refine lv_astore_n (lv' := [(2, .ref r17), (0, .ref a0), (1, .int x1)]) hx hb dX6_restore_24 rfl hl (by decide) rfl (fun ls hl => ?_)
        refine lv_aload_n hx hb dX6_restore_25 rfl (lv_at hl 0 rfl) ?_
        refine lv_ifnonnull (tgt := 39) hx hb dX6_restore_26 (by decide) ?_
        refine lv_aload_n hx hb dX6_restore_39 rfl (lv_at hl 1 rfl) ?_
        obtain ⟨r18, hr18, hg⟩ := nn_some hg
        refine wr_get (K := RX6) (T := TX6) (N := 7) (index := 22) (ref := "MakerLines") (v := .ref r18) hx hb hts hi_X6_restore_X6 hown hw hok13 (wF_6 (S := S11) hok13.2) rfl 2 (by decide) (hts _ (List.mem_of_getElem? (i := 6) rfl)) (fun _ h9 => h9) (congrArg (fun o => some (va_rf o)) hr18) dX6_restore_40 ?_
        refine lv_aload_n hx hb dX6_restore_43 rfl (lv_at hl 1 rfl) ?_
        obtain ⟨r19, hr19, hg⟩ := nn_some hg
        refine wr_get (K := RX6) (T := TX6) (N := 7) (index := 12) (ref := "MakerLines") (v := .ref r19) hx hb hts hi_X6_restore_X6 hown hw hok13 (wF_6 (S := S11) hok13.2) rfl 0 (by decide) (hts _ (List.mem_of_getElem? (i := 7) rfl)) (fun _ h9 => h9) (congrArg (fun o => some (va_rf o)) hr19) dX6_restore_44 ?_
        obtain ⟨hok20, hg⟩ := gd_some hg
        obtain ⟨⟨⟩, S21, z21, hc21, hg⟩ := cz_some hg
        refine wr_cv (va_runV (As := [.ref r19]) (rest := []) ⟨hx, hb, hml, hown, hts⟩ (c_X0_save l D C N S11 z r18 r19 () S21 z21 hc21) (cwV 1 hts gX6_restore_X0_save rfl rfl rfl (by decide +kernel) ⟨Nat.le_of_ble_eq_true rfl, Nat.le_of_ble_eq_true rfl⟩) (wd_preV hw hok20 (wF_0 (S := S11) hok20.2) rfl) rfl rfl hl.1 rfl (lv_room (Nat.le_of_ble_eq_true rfl)) dX6_restore_47 ⟨Nat.le_of_ble_eq_true rfl, Nat.le_of_ble_eq_true rfl⟩) hw (fun H locs hw => ?_)
        refine lv_aload_n hx hb dX6_restore_50 rfl (lv_at hl 1 rfl) ?_
        obtain ⟨hok22, hg⟩ := gd_some hg
        obtain ⟨r23, hr23, hg⟩ := nn_some hg
        refine wr_get (K := RX6) (T := TX6) (N := 7) (index := 12) (ref := "MakerLines") (v := .ref r23) hx hb hts hi_X6_restore_X6 hown hw hok22 (wF_6 (S := S21) hok22.2) rfl 0 (by decide) (hts _ (List.mem_of_getElem? (i := 7) rfl)) (fun _ h9 => h9) (congrArg (fun o => some (va_rf o)) hr23) dX6_restore_51 ?_
        refine lv_aload_n hx hb dX6_restore_54 rfl (lv_at hl 0 rfl) ?_
        obtain ⟨hok24, hg⟩ := gd_some hg
        obtain ⟨⟨⟩, S25, hc25, hg⟩ := cl_some hg
        refine wr_cv (va_runV (As := [.ref r17]) (rest := []) ⟨hx, hb, hml, hown, hts⟩ (c_X4_copyBoard l D C N S21 z21 r23 r17 () S25 hc25) (cwV 1 hts gX6_restore_X4_copyBoard rfl rfl rfl (by decide +kernel) ⟨Nat.le_of_ble_eq_true rfl, Nat.le_of_ble_eq_true rfl⟩) (wd_preV hw hok24 (wF_4 (S := S21) hok24.2) rfl) rfl rfl hl.1 rfl (lv_room (Nat.le_of_ble_eq_true rfl)) dX6_restore_55 ⟨Nat.le_of_ble_eq_true rfl, Nat.le_of_ble_eq_true rfl⟩) hw (fun H locs hw => ?_)
        refine lv_aload_n hx hb dX6_restore_58 rfl (lv_at hl 1 rfl) ?_
        obtain ⟨hok26, hg⟩ := gd_some hg
        obtain ⟨r27, hr27, hg⟩ := nn_some hg
        refine wr_get (K := RX6) (T := TX6) (N := 7) (index := 12) (ref := "MakerLines") (v := .ref r27) hx hb hts hi_X6_restore_X6 hown hw hok26 (wF_6 (S := S25) hok26.2) rfl 0 (by decide) (hts _ (List.mem_of_getElem? (i := 7) rfl)) (fun _ h9 => h9) (congrArg (fun o => some (va_rf o)) hr27) dX6_restore_59 ?_
        obtain ⟨hok28, hg⟩ := gd_some hg
        obtain ⟨r29, hr29, hg⟩ := nn_some hg
        refine wr_get (K := RX4) (T := TX4) (N := 10) (index := 66) (ref := "MakerLines$State") (v := .ref r29) hx hb hts hi_X6_restore_X4 hown hw hok28 (wF_4 (S := S25) hok28.2) rfl 0 (by decide) (hts _ (List.mem_of_getElem? (i := 8) rfl)) (fun _ h9 => h9) (congrArg (fun o => some (va_rf o)) hr29) dX6_restore_62 ?_
        obtain ⟨hok30, hg⟩ := gd_some hg
        refine wr_get (K := RX1) (T := TX1) (N := 6) (index := 70) (ref := "MakerLines$Lines") (v := .int (hI S25 r29 1)) hx hb hts hi_X6_restore_X1 hown hw hok30 (wF_1 (S := S25) hok30.2) rfl 1 (by decide) (hts _ (List.mem_of_getElem? (i := 9) rfl)) (fun _ h9 => h9) rfl dX6_restore_65 ?_
        cases hg
        refine W.widen (k := 3) (n := 28) (Nat.le_of_ble_eq_true rfl) (Nat.le_of_ble_eq_true rfl) ?_
        exact wr_iret hx hb hr hw dX6_restore_68 hlk
    · have hg := it_pos hg c12
      exact absurd hg (by simp)
  exact B0 S0 z0 _ _ _ hg hw hl
theorem hi_X6_undo_X0 : ∀ w ∈ wsX00, w ∈ wsX6_undo := fun _ h => List.mem_cons_of_mem _ (List.mem_append_left _ (List.mem_append_left _ (List.mem_append_left _ (List.mem_append_right _ (h)))))
theorem hi_X6_undo_X6 : ∀ w ∈ wsX60, w ∈ wsX6_undo := fun _ h => List.mem_cons_of_mem _ (List.mem_append_left _ (List.mem_append_left _ (List.mem_append_left _ (List.mem_append_left _ (List.mem_append_right _ (h))))))
abbrev rm_X6_undo : Room := { frames := 4, cells := 0, slots := 0, locals := 86 }
set_option maxHeartbeats 4000000 in
set_option maxRecDepth 100000 in
theorem c_X6_undo (l : Launch) (D : va_G) (C : C3) (N : Nat) (S0 : Hp) (z : Nat) (a0 : Nat) (r : Int32) (S9 : Hp) (hg : f_X6_undo N S0 a0 = some (r, S9)) : MetI l yX6_undo wsX6_undo rm_X6_undo D C S0 z [.ref a0] r S9 z 0 0 := by
  refine mw_ofW (cc := cX6_undo) (maxL := 1) (ret := (some .int)) (lv := [(0, .ref a0)]) (by decide) rfl (Nat.le_of_ble_eq_true rfl) rfl ?_
  intro p e s m below meth c ls hx hb hr hts hown hlk hml hnm hl hw
  have hown : s.vm.findClass RX6 = some m.cls := hown
  have B0 : ∀ (S : Hp) (H : Heap) (locs : List Loc) (ls : Array Slot), f_X6_undo N S a0 = some (r, S9) → Wd D C (va_A (wP C S0) z) s.heap S z H locs s → lv_has ls 1 [(0, .ref a0)] → W p l e rm_X6_undo s m ([.ref a0] : List Value).toArray below meth c H locs 0 0 (MQ below (QiW D C S0 z r S9 z) ([.ref a0] : List Value).toArray s 0 0 (va_A (wP C S0) z)) (F0 m 0 ls []) := by
    intro S H locs ls hg hw hl
    unfold f_X6_undo at hg
    refine lv_aload_n hx hb dX6_undo_0 rfl (lv_at hl 0 rfl) ?_
    obtain ⟨hok10, hg⟩ := gd_some hg
    obtain ⟨r11, hr11, hg⟩ := nn_some hg
    refine wr_get (K := RX6) (T := TX6) (N := 7) (index := 22) (ref := "MakerLines") (v := .ref r11) hx hb hts hi_X6_undo_X6 hown hw hok10 (wF_6 (S := S) hok10.2) rfl 2 (by decide) (hts _ (List.mem_of_getElem? (i := 3) rfl)) (fun _ h9 => h9) (congrArg (fun o => some (va_rf o)) hr11) dX6_undo_1 ?_
    obtain ⟨hok12, hg⟩ := gd_some hg
    refine wr_get (K := RX0) (T := TX0) (N := 2) (index := 195) (ref := "MakerLines$History") (v := .int (hI S r11 1)) hx hb hts hi_X6_undo_X0 hown hw hok12 (wF_0 (S := S) hok12.2) rfl 1 (by decide) (hts _ (List.mem_of_getElem? (i := 4) rfl)) (fun _ h9 => h9) rfl dX6_undo_4 ?_
    refine lv_if_gt (tgt := 20) hx hb dX6_undo_7 (by decide) (fun c13 => ?_) (fun c13 => ?_)
    · have hg := it_pos hg c13
      refine lv_aload_n hx hb dX6_undo_20 rfl (lv_at hl 0 rfl) ?_
      refine wr_get (K := RX6) (T := TX6) (N := 7) (index := 22) (ref := "MakerLines") (v := .ref r11) hx hb hts hi_X6_undo_X6 hown hw hok10 (wF_6 (S := S) hok10.2) rfl 2 (by decide) (hts _ (List.mem_of_getElem? (i := 3) rfl)) (fun _ h9 => h9) (congrArg (fun o => some (va_rf o)) hr11) dX6_undo_21 ?_
      refine lv_aload_n hx hb dX6_undo_24 rfl (lv_at hl 0 rfl) ?_
      obtain ⟨r14, hr14, hg⟩ := nn_some hg
      refine wr_get (K := RX6) (T := TX6) (N := 7) (index := 12) (ref := "MakerLines") (v := .ref r14) hx hb hts hi_X6_undo_X6 hown hw hok10 (wF_6 (S := S) hok10.2) rfl 0 (by decide) (hts _ (List.mem_of_getElem? (i := 5) rfl)) (fun _ h9 => h9) (congrArg (fun o => some (va_rf o)) hr14) dX6_undo_25 ?_
      obtain ⟨⟨⟩, S15, hc15, hg⟩ := cl_some hg
      refine wr_cv (va_runV (As := [.ref r14]) (rest := []) ⟨hx, hb, hml, hown, hts⟩ (c_X0_goBack l D C N S z r11 r14 () S15 hc15) (cwV 1 hts gX6_undo_X0_goBack rfl rfl rfl (by decide +kernel) ⟨Nat.le_of_ble_eq_true rfl, Nat.le_of_ble_eq_true rfl⟩) (wd_preV hw hok12 (wF_0 (S := S) hok12.2) rfl) rfl rfl hl.1 rfl (lv_room (Nat.le_of_ble_eq_true rfl)) dX6_undo_28 ⟨Nat.zero_le _, Nat.zero_le _⟩) hw (fun H locs hw => ?_)
      refine lv_aload_n hx hb dX6_undo_31 rfl (lv_at hl 0 rfl) ?_
      obtain ⟨hok16, hg⟩ := gd_some hg
      obtain ⟨r17, hr17, hg⟩ := nn_some hg
      refine wr_get (K := RX6) (T := TX6) (N := 7) (index := 22) (ref := "MakerLines") (v := .ref r17) hx hb hts hi_X6_undo_X6 hown hw hok16 (wF_6 (S := S15) hok16.2) rfl 2 (by decide) (hts _ (List.mem_of_getElem? (i := 3) rfl)) (fun _ h9 => h9) (congrArg (fun o => some (va_rf o)) hr17) dX6_undo_32 ?_
      obtain ⟨hok18, hg⟩ := gd_some hg
      refine wr_get (K := RX0) (T := TX0) (N := 2) (index := 195) (ref := "MakerLines$History") (v := .int (hI S15 r17 1)) hx hb hts hi_X6_undo_X0 hown hw hok18 (wF_0 (S := S15) hok18.2) rfl 1 (by decide) (hts _ (List.mem_of_getElem? (i := 4) rfl)) (fun _ h9 => h9) rfl dX6_undo_35 ?_
      cases hg
      exact wr_iret hx hb hr hw dX6_undo_38 hlk
    · have hg := it_neg hg c13
      exact absurd hg (by simp)
  exact B0 S0 _ _ _ hg hw hl
theorem hi_X6_line_X4 : ∀ w ∈ wsX40, w ∈ wsX6_line := fun _ h => List.mem_cons_of_mem _ (List.mem_append_left _ (List.mem_append_left _ (List.mem_append_left _ (List.mem_append_right _ (h)))))
theorem hi_X6_line_X6 : ∀ w ∈ wsX60, w ∈ wsX6_line := fun _ h => List.mem_cons_of_mem _ (List.mem_append_left _ (List.mem_append_left _ (List.mem_append_left _ (List.mem_append_left _ (List.mem_append_right _ (h))))))
abbrev rm_X6_line : Room := { frames := 2, cells := 0, slots := 0, locals := 40 }
set_option maxHeartbeats 4000000 in
set_option maxRecDepth 100000 in
theorem c_X6_line (l : Launch) (D : va_G) (C : C3) (N : Nat) (S0 : Hp) (z : Nat) (a0 : Nat) (x1 : Int32) (x2 : Int32) (r : Int32) (S9 : Hp) (hg : f_X6_line N S0 a0 x1 x2 = some (r, S9)) : MetI l yX6_line wsX6_line rm_X6_line D C S0 z [.ref a0, .int x1, .int x2] r S9 z 0 0 := by
  refine mw_ofW (cc := cX6_line) (maxL := 6) (ret := (some .int)) (lv := [(0, .ref a0), (1, .int x1), (2, .int x2)]) (by decide) rfl (Nat.le_of_ble_eq_true rfl) rfl ?_
  intro p e s m below meth c ls hx hb hr hts hown hlk hml hnm hl hw
  have hown : s.vm.findClass RX6 = some m.cls := hown
  have B33 : ∀ (S : Hp) (H : Heap) (locs : List Loc) (ls : Array Slot), f_X6_line_b33 N a0 x1 x2 S = some (r, S9) → Wd D C (va_A (wP C S0) z) s.heap S z H locs s → lv_has ls 6 [] → W p l e rm_X6_line s m ([.ref a0, .int x1, .int x2] : List Value).toArray below meth c H locs 0 0 (MQ below (QiW D C S0 z r S9 z) ([.ref a0, .int x1, .int x2] : List Value).toArray s 0 0 (va_A (wP C S0) z)) (F0 m 33 ls []) := by
    intro S H locs ls hg hw hl
    unfold f_X6_line_b33 at hg
    exact absurd hg (by simp)
  have B72 : ∀ (S : Hp) (v3 : Int32) (s0 : Int32) (H : Heap) (locs : List Loc) (ls : Array Slot), f_X6_line_b72 N a0 x1 x2 S v3 s0 = some (r, S9) → Wd D C (va_A (wP C S0) z) s.heap S z H locs s → lv_has ls 6 [(0, .ref a0), (2, .int x2), (3, .int v3)] → W p l e rm_X6_line s m ([.ref a0, .int x1, .int x2] : List Value).toArray below meth c H locs 0 0 (MQ below (QiW D C S0 z r S9 z) ([.ref a0, .int x1, .int x2] : List Value).toArray s 0 0 (va_A (wP C S0) z)) (F0 m 72 ls [.int s0]) := by
    intro S v3 s0 H locs ls hg hw hl
    unfold f_X6_line_b72 at hg
    refine lv_istore (lv' := [(4, .int s0), (0, .ref a0), (2, .int x2), (3, .int v3)]) hx hb dX6_line_72 hl (by decide) rfl (fun ls hl => ?_)
    refine lv_iload_n hx hb dX6_line_74 rfl (lv_at hl 3 rfl) ?_
    refine lv_aload_n hx hb dX6_line_75 rfl (lv_at hl 1 rfl) ?_
    obtain ⟨hok29, hg⟩ := gd_some hg
    obtain ⟨r30, hr30, hg⟩ := nn_some hg
    refine wr_get (K := RX6) (T := TX6) (N := 7) (index := 12) (ref := "MakerLines") (v := .ref r30) hx hb hts hi_X6_line_X6 hown hw hok29 (wF_6 (S := S) hok29.2) rfl 0 (by decide) (hts _ (List.mem_of_getElem? (i := 5) rfl)) (fun _ h9 => h9) (congrArg (fun o => some (va_rf o)) hr30) dX6_line_76 ?_
    obtain ⟨hok31, hg⟩ := gd_some hg
    obtain ⟨r32, S32, hc32, hg⟩ := cl_some hg
    refine wr_ci (va_runV (As := []) (rest := [.int v3]) ⟨hx, hb, hml, hown, hts⟩ (c_X4_freeCells l D C N S z r30 r32 S32 hc32) (cwV 0 hts gX6_line_X4_freeCells rfl rfl rfl (by decide +kernel) ⟨Nat.le_of_ble_eq_true rfl, Nat.le_of_ble_eq_true rfl⟩) (wd_preV hw hok31 (wF_4 (S := S) hok31.2) rfl) rfl rfl hl.1 rfl (lv_room (Nat.le_of_ble_eq_true rfl)) dX6_line_79 ⟨Nat.zero_le _, Nat.zero_le _⟩) hw (fun H locs hw => ?_)
    refine lv_iand hx hb dX6_line_82 ?_
    refine wr_ci (va_runS (As := [.int (v3 &&& r32)]) (rest := []) ⟨hx, hb, hml, hown, hts⟩ (c_bitc l D C S32 z ((v3 &&& r32))) (va_cwS 1 hts gX6_line_J6_bitCount_0f7a4 rfl rfl rfl (by decide +kernel) ⟨Nat.le_of_ble_eq_true rfl, Nat.le_of_ble_eq_true rfl⟩) (wd_preS hw) rfl rfl hl.1 rfl (lv_room (Nat.le_of_ble_eq_true rfl)) dX6_line_83 ⟨Nat.zero_le _, Nat.zero_le _⟩) hw (fun H locs hw => ?_)
    refine lv_istore (lv' := [(5, .int (bitc ((v3 &&& r32)))), (4, .int s0), (0, .ref a0), (2, .int x2), (3, .int v3)]) hx hb dX6_line_86 hl (by decide) rfl (fun ls hl => ?_)
    refine lv_iload_n hx hb dX6_line_88 rfl (lv_at hl 3 rfl) ?_
    by_cases c33 : x2 = 0
    · have hg := it_pos hg c33
      refine lv_tableIn (tgt := 120) hx hb dX6_line_89 (by rw [c33]; decide) (by rw [c33]; decide) (off := 31) (by rw [c33]; rfl) (by decide) ?_
      refine lv_iload_n hx hb dX6_line_120 rfl (lv_at hl 4 rfl) ?_
      cases hg
      exact wr_iret hx hb hr hw dX6_line_121 hlk
    · have hg := it_neg hg c33
      by_cases c35 : x2 = 1
      · have hg := it_pos hg c35
        refine lv_tableIn (tgt := 122) hx hb dX6_line_89 (by rw [c35]; decide) (by rw [c35]; decide) (off := 33) (by rw [c35]; rfl) (by decide) ?_
        refine lv_iload hx hb dX6_line_122 (lv_at hl 1 rfl) ?_
        refine lv_if_eq (tgt := 131) hx hb dX6_line_124 (by decide) (fun c34 => ?_) (fun c34 => ?_)
        · have hg := it_pos hg c34
          refine lv_iconst (v := (0 : Int32)) hx hb dX6_line_131 (by decide) ?_
          cases hg
          exact wr_iret hx hb hr hw dX6_line_132 hlk
        · have hg := it_neg hg c34
          refine lv_iconst (v := (1 : Int32)) hx hb dX6_line_127 (by decide) ?_
          refine lv_goto (tgt := 132) hx hb dX6_line_128 (by decide) ?_
          cases hg
          exact wr_iret hx hb hr hw dX6_line_132 hlk
      · have hg := it_neg hg c35
        by_cases c36 : x2 = 2
        · have hg := it_pos hg c36
          refine lv_tableIn (tgt := 133) hx hb dX6_line_89 (by rw [c36]; decide) (by rw [c36]; decide) (off := 44) (by rw [c36]; rfl) (by decide) ?_
          refine lv_iload hx hb dX6_line_133 (lv_at hl 0 rfl) ?_
          cases hg
          exact wr_iret hx hb hr hw dX6_line_135 hlk
        · have hg := it_neg hg c36
          by_cases c38 : x2 = 3
          · have hg := it_pos hg c38
            refine lv_tableIn (tgt := 136) hx hb dX6_line_89 (by rw [c38]; decide) (by rw [c38]; decide) (off := 47) (by rw [c38]; rfl) (by decide) ?_
            refine lv_iload hx hb dX6_line_136 (lv_at hl 1 rfl) ?_
            refine lv_if_eq (tgt := 145) hx hb dX6_line_138 (by decide) (fun c37 => ?_) (fun c37 => ?_)
            · have hg := it_pos hg c37
              refine lv_sipush (v := (1024 : Int32)) hx hb dX6_line_145 (by decide) ?_
              refine lv_iload hx hb dX6_line_148 (lv_at hl 0 rfl) ?_
              refine lv_ishr hx hb dX6_line_150 ?_
              cases hg
              exact wr_iret hx hb hr hw dX6_line_151 hlk
            · have hg := it_neg hg c37
              refine lv_iconst (v := (0 : Int32)) hx hb dX6_line_141 (by decide) ?_
              refine lv_goto (tgt := 151) hx hb dX6_line_142 (by decide) ?_
              cases hg
              exact wr_iret hx hb hr hw dX6_line_151 hlk
          · have hg := it_neg hg c38
            refine lv_tableOut (tgt := 152) hx hb dX6_line_89 (sw_out 3 (by decide) (fun j hj => ?_)) (by decide) ?_
            · rcases (show j = 0 ∨ j = 1 ∨ j = 2 ∨ j = 3 by omega) with rfl | rfl | rfl | rfl
              · exact c33
              · exact c35
              · exact c36
              · exact c38
            refine lv_iload_n hx hb dX6_line_152 rfl (lv_at hl 4 rfl) ?_
            refine lv_aload_n hx hb dX6_line_153 rfl (lv_at hl 2 rfl) ?_
            obtain ⟨hok39, hg⟩ := gd_some hg
            obtain ⟨r40, hr40, hg⟩ := nn_some hg
            refine wr_get (K := RX6) (T := TX6) (N := 7) (index := 12) (ref := "MakerLines") (v := .ref r40) hx hb hts hi_X6_line_X6 hown hw hok39 (wF_6 (S := S32) hok39.2) rfl 0 (by decide) (hts _ (List.mem_of_getElem? (i := 5) rfl)) (fun _ h9 => h9) (congrArg (fun o => some (va_rf o)) hr40) dX6_line_154 ?_
            obtain ⟨hok41, hg⟩ := gd_some hg
            refine wr_get (K := RX4) (T := TX4) (N := 10) (index := 110) (ref := "MakerLines$State") (v := .int (hI S32 r40 2)) hx hb hts hi_X6_line_X4 hown hw hok41 (wF_4 (S := S32) hok41.2) rfl 2 (by decide) (hts _ (List.mem_of_getElem? (i := 8) rfl)) (fun _ h9 => h9) rfl dX6_line_157 ?_
            refine lv_iand hx hb dX6_line_160 ?_
            refine wr_ci (va_runS (As := [.int (v3 &&& (hI S32 r40 2))]) (rest := []) ⟨hx, hb, hml, hown, hts⟩ (c_bitc l D C S32 z ((v3 &&& (hI S32 r40 2)))) (va_cwS 1 hts gX6_line_J6_bitCount_0f7a4 rfl rfl rfl (by decide +kernel) ⟨Nat.le_of_ble_eq_true rfl, Nat.le_of_ble_eq_true rfl⟩) (wd_preS hw) rfl rfl hl.1 rfl (lv_room (Nat.le_of_ble_eq_true rfl)) dX6_line_161 ⟨Nat.zero_le _, Nat.zero_le _⟩) hw (fun H locs hw => ?_)
            cases hg
            exact wr_iret hx hb hr hw dX6_line_164 hlk
  have B0 : ∀ (S : Hp) (H : Heap) (locs : List Loc) (ls : Array Slot), f_X6_line N S a0 x1 x2 = some (r, S9) → Wd D C (va_A (wP C S0) z) s.heap S z H locs s → lv_has ls 6 [(0, .ref a0), (1, .int x1), (2, .int x2)] → W p l e rm_X6_line s m ([.ref a0, .int x1, .int x2] : List Value).toArray below meth c H locs 0 0 (MQ below (QiW D C S0 z r S9 z) ([.ref a0, .int x1, .int x2] : List Value).toArray s 0 0 (va_A (wP C S0) z)) (F0 m 0 ls []) := by
    intro S H locs ls hg hw hl
    unfold f_X6_line at hg
    refine lv_aload_n hx hb dX6_line_0 rfl (lv_at hl 0 rfl) ?_
    obtain ⟨hok10, hg⟩ := gd_some hg
    obtain ⟨r11, hr11, hg⟩ := nn_some hg
    refine wr_get (K := RX6) (T := TX6) (N := 7) (index := 12) (ref := "MakerLines") (v := .ref r11) hx hb hts hi_X6_line_X6 hown hw hok10 (wF_6 (S := S) hok10.2) rfl 0 (by decide) (hts _ (List.mem_of_getElem? (i := 5) rfl)) (fun _ h9 => h9) (congrArg (fun o => some (va_rf o)) hr11) dX6_line_1 ?_
    obtain ⟨hok12, hg⟩ := gd_some hg
    obtain ⟨r13, hr13, hg⟩ := nn_some hg
    refine wr_get (K := RX4) (T := TX4) (N := 10) (index := 66) (ref := "MakerLines$State") (v := .ref r13) hx hb hts hi_X6_line_X4 hown hw hok12 (wF_4 (S := S) hok12.2) rfl 0 (by decide) (hts _ (List.mem_of_getElem? (i := 6) rfl)) (fun _ h9 => h9) (congrArg (fun o => some (va_rf o)) hr13) dX6_line_4 ?_
    refine lv_iload_n hx hb dX6_line_7 rfl (lv_at hl 1 rfl) ?_
    obtain ⟨hok14, hg⟩ := gd_some hg
    obtain ⟨r15, S15, hc15, hg⟩ := cl_some hg
    refine wr_ci (va_runV (As := [.int x1]) (rest := []) ⟨hx, hb, hml, hown, hts⟩ (c_X1_has l D C N S z r13 x1 r15 S15 hc15) (cwV 1 hts gX6_line_X1_has rfl rfl rfl (by decide +kernel) ⟨Nat.le_of_ble_eq_true rfl, Nat.le_of_ble_eq_true rfl⟩) (wd_preV hw hok14 (wF_1 (S := S) hok14.2) rfl) rfl rfl hl.1 rfl (lv_room (Nat.le_of_ble_eq_true rfl)) dX6_line_8 ⟨Nat.zero_le _, Nat.zero_le _⟩) hw (fun H locs hw => ?_)
    refine lv_if_ne (tgt := 24) hx hb dX6_line_11 (by decide) (fun c16 => ?_) (fun c16 => ?_)
    · have hg := it_neg hg c16
      refine lv_iload_n hx hb dX6_line_24 rfl (lv_at hl 2 rfl) ?_
      refine lv_if_lt (tgt := 33) hx hb dX6_line_25 (by decide) (fun c17 => ?_) (fun c17 => ?_)
      · have hg := it_pos hg c17
        exact B33 _ _ _ _ hg hw (lv_sub hl [] rfl)
      · have hg := it_neg hg c17
        refine lv_iload_n hx hb dX6_line_28 rfl (lv_at hl 2 rfl) ?_
        refine lv_iconst (v := (5 : Int32)) hx hb dX6_line_29 (by decide) ?_
        refine lv_icmp_lt (tgt := 43) hx hb dX6_line_30 (by decide) (fun c18 => ?_) (fun c18 => ?_)
        · have hg := it_pos hg c18
          refine lv_aload_n hx hb dX6_line_43 rfl (lv_at hl 0 rfl) ?_
          obtain ⟨hok19, hg⟩ := gd_some hg
          obtain ⟨r20, hr20, hg⟩ := nn_some hg
          refine wr_get (K := RX6) (T := TX6) (N := 7) (index := 12) (ref := "MakerLines") (v := .ref r20) hx hb hts hi_X6_line_X6 hown hw hok19 (wF_6 (S := S15) hok19.2) rfl 0 (by decide) (hts _ (List.mem_of_getElem? (i := 5) rfl)) (fun _ h9 => h9) (congrArg (fun o => some (va_rf o)) hr20) dX6_line_44 ?_
          obtain ⟨hok21, hg⟩ := gd_some hg
          obtain ⟨r22, hr22, hg⟩ := nn_some hg
          refine wr_get (K := RX4) (T := TX4) (N := 10) (index := 66) (ref := "MakerLines$State") (v := .ref r22) hx hb hts hi_X6_line_X4 hown hw hok21 (wF_4 (S := S15) hok21.2) rfl 0 (by decide) (hts _ (List.mem_of_getElem? (i := 6) rfl)) (fun _ h9 => h9) (congrArg (fun o => some (va_rf o)) hr22) dX6_line_47 ?_
          refine lv_iload_n hx hb dX6_line_50 rfl (lv_at hl 1 rfl) ?_
          obtain ⟨hok23, hg⟩ := gd_some hg
          obtain ⟨r24, S24, hc24, hg⟩ := cl_some hg
          refine wr_ci (va_runV (As := [.int x1]) (rest := []) ⟨hx, hb, hml, hown, hts⟩ (c_X1_maskOf l D C N S15 z r22 x1 r24 S24 hc24) (cwV 1 hts gX6_line_X1_maskOf rfl rfl rfl (by decide +kernel) ⟨Nat.le_of_ble_eq_true rfl, Nat.le_of_ble_eq_true rfl⟩) (wd_preV hw hok23 (wF_1 (S := S15) hok23.2) rfl) rfl rfl hl.1 rfl (lv_room (Nat.le_of_ble_eq_true rfl)) dX6_line_51 ⟨Nat.zero_le _, Nat.zero_le _⟩) hw (fun H locs hw => ?_)
          refine lv_istore_n (lv' := [(3, .int r24), (0, .ref a0), (1, .int x1), (2, .int x2)]) hx hb dX6_line_54 rfl hl (by decide) rfl (fun ls hl => ?_)
          refine lv_iload_n hx hb dX6_line_55 rfl (lv_at hl 0 rfl) ?_
          refine lv_aload_n hx hb dX6_line_56 rfl (lv_at hl 1 rfl) ?_
          obtain ⟨hok25, hg⟩ := gd_some hg
          obtain ⟨r26, hr26, hg⟩ := nn_some hg
          refine wr_get (K := RX6) (T := TX6) (N := 7) (index := 12) (ref := "MakerLines") (v := .ref r26) hx hb hts hi_X6_line_X6 hown hw hok25 (wF_6 (S := S24) hok25.2) rfl 0 (by decide) (hts _ (List.mem_of_getElem? (i := 5) rfl)) (fun _ h9 => h9) (congrArg (fun o => some (va_rf o)) hr26) dX6_line_57 ?_
          obtain ⟨hok27, hg⟩ := gd_some hg
          refine wr_get (K := RX4) (T := TX4) (N := 10) (index := 113) (ref := "MakerLines$State") (v := .int (hI S24 r26 3)) hx hb hts hi_X6_line_X4 hown hw hok27 (wF_4 (S := S24) hok27.2) rfl 3 (by decide) (hts _ (List.mem_of_getElem? (i := 7) rfl)) (fun _ h9 => h9) rfl dX6_line_60 ?_
          refine lv_iand hx hb dX6_line_63 ?_
          refine lv_if_eq (tgt := 71) hx hb dX6_line_64 (by decide) (fun c28 => ?_) (fun c28 => ?_)
          · have hg := it_pos hg c28
            refine lv_iconst (v := (0 : Int32)) hx hb dX6_line_71 (by decide) ?_
            exact B72 _ _ _ _ _ _ hg hw (lv_sub hl [1, 3, 0] rfl)
          · have hg := it_neg hg c28
            refine lv_iconst (v := (1 : Int32)) hx hb dX6_line_67 (by decide) ?_
            refine lv_goto (tgt := 72) hx hb dX6_line_68 (by decide) ?_
            exact B72 _ _ _ _ _ _ hg hw (lv_sub hl [1, 3, 0] rfl)
        · have hg := it_neg hg c18
          exact B33 _ _ _ _ hg hw (lv_sub hl [] rfl)
    · have hg := it_pos hg c16
      exact absurd hg (by simp)
  exact B0 S0 _ _ _ hg hw hl
theorem hi_X6_cell_X4 : ∀ w ∈ wsX40, w ∈ wsX6_cell := fun _ h => List.mem_cons_of_mem _ (List.mem_append_left _ (List.mem_append_left _ (List.mem_append_left _ (List.mem_append_left _ (List.mem_append_right _ (h))))))
theorem hi_X6_cell_X6 : ∀ w ∈ wsX60, w ∈ wsX6_cell := fun _ h => List.mem_cons_of_mem _ (List.mem_append_left _ (List.mem_append_left _ (List.mem_append_left _ (List.mem_append_left _ (List.mem_append_left _ (List.mem_append_right _ (h)))))))
abbrev rm_X6_cell : Room := { frames := 33, cells := 0, slots := 0, locals := 1565 }
set_option maxHeartbeats 4000000 in
set_option maxRecDepth 100000 in
theorem c_X6_cell (l : Launch) (D : va_G) (C : C3) (N : Nat) (S0 : Hp) (z : Nat) (a0 : Nat) (x1 : Int32) (x2 : Int32) (r : Int32) (S9 : Hp) (hg : f_X6_cell N S0 a0 x1 x2 = some (r, S9)) : MetI l yX6_cell wsX6_cell rm_X6_cell D C S0 z [.ref a0, .int x1, .int x2] r S9 z 0 0 := by
  refine mw_ofW (cc := cX6_cell) (maxL := 3) (ret := (some .int)) (lv := [(0, .ref a0), (1, .int x1), (2, .int x2)]) (by decide) rfl (Nat.le_of_ble_eq_true rfl) rfl ?_
  intro p e s m below meth c ls hx hb hr hts hown hlk hml hnm hl hw
  have hown : s.vm.findClass RX6 = some m.cls := hown
  have B30 : ∀ (S : Hp) (H : Heap) (locs : List Loc) (ls : Array Slot), f_X6_cell_b30 N a0 x1 x2 S = some (r, S9) → Wd D C (va_A (wP C S0) z) s.heap S z H locs s → lv_has ls 3 [] → W p l e rm_X6_cell s m ([.ref a0, .int x1, .int x2] : List Value).toArray below meth c H locs 0 0 (MQ below (QiW D C S0 z r S9 z) ([.ref a0, .int x1, .int x2] : List Value).toArray s 0 0 (va_A (wP C S0) z)) (F0 m 30 ls []) := by
    intro S H locs ls hg hw hl
    unfold f_X6_cell_b30 at hg
    exact absurd hg (by simp)
  have B0 : ∀ (S : Hp) (H : Heap) (locs : List Loc) (ls : Array Slot), f_X6_cell N S a0 x1 x2 = some (r, S9) → Wd D C (va_A (wP C S0) z) s.heap S z H locs s → lv_has ls 3 [(0, .ref a0), (1, .int x1), (2, .int x2)] → W p l e rm_X6_cell s m ([.ref a0, .int x1, .int x2] : List Value).toArray below meth c H locs 0 0 (MQ below (QiW D C S0 z r S9 z) ([.ref a0, .int x1, .int x2] : List Value).toArray s 0 0 (va_A (wP C S0) z)) (F0 m 0 ls []) := by
    intro S H locs ls hg hw hl
    unfold f_X6_cell at hg
    refine lv_aload_n hx hb dX6_cell_0 rfl (lv_at hl 0 rfl) ?_
    obtain ⟨hok10, hg⟩ := gd_some hg
    obtain ⟨r11, hr11, hg⟩ := nn_some hg
    refine wr_get (K := RX6) (T := TX6) (N := 7) (index := 12) (ref := "MakerLines") (v := .ref r11) hx hb hts hi_X6_cell_X6 hown hw hok10 (wF_6 (S := S) hok10.2) rfl 0 (by decide) (hts _ (List.mem_of_getElem? (i := 5) rfl)) (fun _ h9 => h9) (congrArg (fun o => some (va_rf o)) hr11) dX6_cell_1 ?_
    refine lv_iload_n hx hb dX6_cell_4 rfl (lv_at hl 1 rfl) ?_
    obtain ⟨hok12, hg⟩ := gd_some hg
    obtain ⟨r13, S13, hc13, hg⟩ := cl_some hg
    refine wr_ci (va_runV (As := [.int x1]) (rest := []) ⟨hx, hb, hml, hown, hts⟩ (c_X4_hasCell l D C N S z r11 x1 r13 S13 hc13) (cwV 1 hts gX6_cell_X4_hasCell rfl rfl rfl (by decide +kernel) ⟨Nat.le_of_ble_eq_true rfl, Nat.le_of_ble_eq_true rfl⟩) (wd_preV hw hok12 (wF_4 (S := S) hok12.2) rfl) rfl rfl hl.1 rfl (lv_room (Nat.le_of_ble_eq_true rfl)) dX6_cell_5 ⟨Nat.zero_le _, Nat.zero_le _⟩) hw (fun H locs hw => ?_)
    refine lv_if_ne (tgt := 21) hx hb dX6_cell_8 (by decide) (fun c14 => ?_) (fun c14 => ?_)
    · have hg := it_neg hg c14
      refine lv_iload_n hx hb dX6_cell_21 rfl (lv_at hl 2 rfl) ?_
      refine lv_if_lt (tgt := 30) hx hb dX6_cell_22 (by decide) (fun c15 => ?_) (fun c15 => ?_)
      · have hg := it_pos hg c15
        exact B30 _ _ _ _ hg hw (lv_sub hl [] rfl)
      · have hg := it_neg hg c15
        refine lv_iload_n hx hb dX6_cell_25 rfl (lv_at hl 2 rfl) ?_
        refine lv_iconst (v := (4 : Int32)) hx hb dX6_cell_26 (by decide) ?_
        refine lv_icmp_lt (tgt := 40) hx hb dX6_cell_27 (by decide) (fun c16 => ?_) (fun c16 => ?_)
        · have hg := it_pos hg c16
          refine lv_iload_n hx hb dX6_cell_40 rfl (lv_at hl 2 rfl) ?_
          by_cases c21 : x2 = 0
          · have hg := it_pos hg c21
            refine lv_tableIn (tgt := 68) hx hb dX6_cell_41 (by rw [c21]; decide) (by rw [c21]; decide) (off := 27) (by rw [c21]; rfl) (by decide) ?_
            refine lv_aload_n hx hb dX6_cell_68 rfl (lv_at hl 0 rfl) ?_
            obtain ⟨hok17, hg⟩ := gd_some hg
            obtain ⟨r18, hr18, hg⟩ := nn_some hg
            refine wr_get (K := RX6) (T := TX6) (N := 7) (index := 12) (ref := "MakerLines") (v := .ref r18) hx hb hts hi_X6_cell_X6 hown hw hok17 (wF_6 (S := S13) hok17.2) rfl 0 (by decide) (hts _ (List.mem_of_getElem? (i := 5) rfl)) (fun _ h9 => h9) (congrArg (fun o => some (va_rf o)) hr18) dX6_cell_69 ?_
            refine lv_iload_n hx hb dX6_cell_72 rfl (lv_at hl 1 rfl) ?_
            obtain ⟨hok19, hg⟩ := gd_some hg
            obtain ⟨r20, S20, hc20, hg⟩ := cl_some hg
            refine wr_ci (va_runV (As := [.int x1]) (rest := []) ⟨hx, hb, hml, hown, hts⟩ (c_X4_ownerOf l D C N S13 z r18 x1 r20 S20 hc20) (cwV 1 hts gX6_cell_X4_ownerOf rfl rfl rfl (by decide +kernel) ⟨Nat.le_of_ble_eq_true rfl, Nat.le_of_ble_eq_true rfl⟩) (wd_preV hw hok19 (wF_4 (S := S13) hok19.2) rfl) rfl rfl hl.1 rfl (lv_room (Nat.le_of_ble_eq_true rfl)) dX6_cell_73 ⟨Nat.zero_le _, Nat.zero_le _⟩) hw (fun H locs hw => ?_)
            cases hg
            exact wr_iret hx hb hr hw dX6_cell_76 hlk
          · have hg := it_neg hg c21
            by_cases c26 : x2 = 1
            · have hg := it_pos hg c26
              refine lv_tableIn (tgt := 77) hx hb dX6_cell_41 (by rw [c26]; decide) (by rw [c26]; decide) (off := 36) (by rw [c26]; rfl) (by decide) ?_
              refine lv_aload_n hx hb dX6_cell_77 rfl (lv_at hl 0 rfl) ?_
              obtain ⟨hok22, hg⟩ := gd_some hg
              obtain ⟨r23, hr23, hg⟩ := nn_some hg
              refine wr_get (K := RX6) (T := TX6) (N := 7) (index := 12) (ref := "MakerLines") (v := .ref r23) hx hb hts hi_X6_cell_X6 hown hw hok22 (wF_6 (S := S13) hok22.2) rfl 0 (by decide) (hts _ (List.mem_of_getElem? (i := 5) rfl)) (fun _ h9 => h9) (congrArg (fun o => some (va_rf o)) hr23) dX6_cell_78 ?_
              refine lv_iload_n hx hb dX6_cell_81 rfl (lv_at hl 1 rfl) ?_
              obtain ⟨hok24, hg⟩ := gd_some hg
              obtain ⟨r25, S25, hc25, hg⟩ := cl_some hg
              refine wr_ci (va_runV (As := [.int x1]) (rest := []) ⟨hx, hb, hml, hown, hts⟩ (c_X4_dangerOf l D C N S13 z r23 x1 r25 S25 hc25) (cwV 1 hts gX6_cell_X4_dangerOf rfl rfl rfl (by decide +kernel) ⟨Nat.le_of_ble_eq_true rfl, Nat.le_of_ble_eq_true rfl⟩) (wd_preV hw hok24 (wF_4 (S := S13) hok24.2) rfl) rfl rfl hl.1 rfl (lv_room (Nat.le_of_ble_eq_true rfl)) dX6_cell_82 ⟨Nat.zero_le _, Nat.zero_le _⟩) hw (fun H locs hw => ?_)
              cases hg
              exact wr_iret hx hb hr hw dX6_cell_85 hlk
            · have hg := it_neg hg c26
              by_cases c29 : x2 = 2
              · have hg := it_pos hg c29
                refine lv_tableIn (tgt := 86) hx hb dX6_cell_41 (by rw [c29]; decide) (by rw [c29]; decide) (off := 45) (by rw [c29]; rfl) (by decide) ?_
                refine lv_aload_n hx hb dX6_cell_86 rfl (lv_at hl 0 rfl) ?_
                refine lv_iload_n hx hb dX6_cell_87 rfl (lv_at hl 1 rfl) ?_
                obtain ⟨hok27, hg⟩ := gd_some hg
                obtain ⟨r28, S28, hc28, hg⟩ := cl_some hg
                refine wr_ci (va_runV (As := [.int x1]) (rest := []) ⟨hx, hb, hml, hown, hts⟩ (c_X6_otherInPairing l D C N S13 z a0 x1 r28 S28 hc28) (cwV 1 hts gX6_cell_X6_otherInPairing rfl rfl rfl (by decide +kernel) ⟨Nat.le_of_ble_eq_true rfl, Nat.le_of_ble_eq_true rfl⟩) (wd_preV hw hok27 (wF_6 (S := S13) hok27.2) rfl) rfl rfl hl.1 rfl (lv_room (Nat.le_of_ble_eq_true rfl)) dX6_cell_88 ⟨Nat.zero_le _, Nat.zero_le _⟩) hw (fun H locs hw => ?_)
                cases hg
                exact wr_iret hx hb hr hw dX6_cell_91 hlk
              · have hg := it_neg hg c29
                refine lv_tableOut (tgt := 92) hx hb dX6_cell_41 (sw_out 2 (by decide) (fun j hj => ?_)) (by decide) ?_
                · rcases (show j = 0 ∨ j = 1 ∨ j = 2 by omega) with rfl | rfl | rfl
                  · exact c21
                  · exact c26
                  · exact c29
                refine lv_aload_n hx hb dX6_cell_92 rfl (lv_at hl 0 rfl) ?_
                obtain ⟨hok30, hg⟩ := gd_some hg
                obtain ⟨r31, hr31, hg⟩ := nn_some hg
                refine wr_get (K := RX6) (T := TX6) (N := 7) (index := 12) (ref := "MakerLines") (v := .ref r31) hx hb hts hi_X6_cell_X6 hown hw hok30 (wF_6 (S := S13) hok30.2) rfl 0 (by decide) (hts _ (List.mem_of_getElem? (i := 5) rfl)) (fun _ h9 => h9) (congrArg (fun o => some (va_rf o)) hr31) dX6_cell_93 ?_
                obtain ⟨hok32, hg⟩ := gd_some hg
                obtain ⟨r33, hr33, hg⟩ := nn_some hg
                refine wr_get (K := RX4) (T := TX4) (N := 10) (index := 66) (ref := "MakerLines$State") (v := .ref r33) hx hb hts hi_X6_cell_X4 hown hw hok32 (wF_4 (S := S13) hok32.2) rfl 0 (by decide) (hts _ (List.mem_of_getElem? (i := 6) rfl)) (fun _ h9 => h9) (congrArg (fun o => some (va_rf o)) hr33) dX6_cell_96 ?_
                refine lv_iload_n hx hb dX6_cell_99 rfl (lv_at hl 1 rfl) ?_
                refine lv_aload_n hx hb dX6_cell_100 rfl (lv_at hl 0 rfl) ?_
                refine wr_get (K := RX6) (T := TX6) (N := 7) (index := 12) (ref := "MakerLines") (v := .ref r31) hx hb hts hi_X6_cell_X6 hown hw hok30 (wF_6 (S := S13) hok30.2) rfl 0 (by decide) (hts _ (List.mem_of_getElem? (i := 5) rfl)) (fun _ h9 => h9) (congrArg (fun o => some (va_rf o)) hr31) dX6_cell_101 ?_
                refine wr_get (K := RX4) (T := TX4) (N := 10) (index := 113) (ref := "MakerLines$State") (v := .int (hI S13 r31 3)) hx hb hts hi_X6_cell_X4 hown hw hok32 (wF_4 (S := S13) hok32.2) rfl 3 (by decide) (hts _ (List.mem_of_getElem? (i := 7) rfl)) (fun _ h9 => h9) rfl dX6_cell_104 ?_
                obtain ⟨hok34, hg⟩ := gd_some hg
                obtain ⟨r35, S35, hc35, hg⟩ := cl_some hg
                refine wr_ci (va_runV (As := [.int x1, .int (hI S13 r31 3)]) (rest := []) ⟨hx, hb, hml, hown, hts⟩ (c_X1_aliveWith l D C N S13 z r33 x1 ((hI S13 r31 3)) r35 S35 hc35) (cwV 2 hts gX6_cell_X1_aliveWith rfl rfl rfl (by decide +kernel) ⟨Nat.le_of_ble_eq_true rfl, Nat.le_of_ble_eq_true rfl⟩) (wd_preV hw hok34 (wF_1 (S := S13) hok34.2) rfl) rfl rfl hl.1 rfl (lv_room (Nat.le_of_ble_eq_true rfl)) dX6_cell_107 ⟨Nat.zero_le _, Nat.zero_le _⟩) hw (fun H locs hw => ?_)
                cases hg
                exact wr_iret hx hb hr hw dX6_cell_110 hlk
        · have hg := it_neg hg c16
          exact B30 _ _ _ _ hg hw (lv_sub hl [] rfl)
    · have hg := it_pos hg c14
      exact absurd hg (by simp)
  exact B0 S0 _ _ _ hg hw hl
theorem hi_X6_reply_X6 : ∀ w ∈ wsX60, w ∈ wsX6_reply := fun _ h => List.mem_cons_of_mem _ (List.mem_append_left _ (List.mem_append_left _ (List.mem_append_left _ (List.mem_append_left _ (List.mem_append_right _ (h))))))
abbrev rm_X6_reply : Room := { frames := 31, cells := 0, slots := 0, locals := 1475 }
set_option maxHeartbeats 4000000 in
set_option maxRecDepth 100000 in
theorem c_X6_reply (l : Launch) (D : va_G) (C : C3) (N : Nat) (S0 : Hp) (z : Nat) (a0 : Nat) (x1 : Int32) (r : Int32) (S9 : Hp) (hg : f_X6_reply N S0 a0 x1 = some (r, S9)) : MetI l yX6_reply wsX6_reply rm_X6_reply D C S0 z [.ref a0, .int x1] r S9 z 0 0 := by
  refine mw_ofW (cc := cX6_reply) (maxL := 2) (ret := (some .int)) (lv := [(0, .ref a0), (1, .int x1)]) (by decide) rfl (Nat.le_of_ble_eq_true rfl) rfl ?_
  intro p e s m below meth c ls hx hb hr hts hown hlk hml hnm hl hw
  have hown : s.vm.findClass RX6 = some m.cls := hown
  have B0 : ∀ (S : Hp) (H : Heap) (locs : List Loc) (ls : Array Slot), f_X6_reply N S a0 x1 = some (r, S9) → Wd D C (va_A (wP C S0) z) s.heap S z H locs s → lv_has ls 2 [(0, .ref a0), (1, .int x1)] → W p l e rm_X6_reply s m ([.ref a0, .int x1] : List Value).toArray below meth c H locs 0 0 (MQ below (QiW D C S0 z r S9 z) ([.ref a0, .int x1] : List Value).toArray s 0 0 (va_A (wP C S0) z)) (F0 m 0 ls []) := by
    intro S H locs ls hg hw hl
    unfold f_X6_reply at hg
    refine lv_iload_n hx hb dX6_reply_0 rfl (lv_at hl 1 rfl) ?_
    obtain ⟨r10, S10, hc10, hg⟩ := cl_some hg
    refine wr_ci (va_runS (As := [.int x1]) (rest := []) ⟨hx, hb, hml, hown, hts⟩ (c_X6_isRule l D C N S z x1 r10 S10 hc10) (va_cwS 1 hts gX6_reply_X6_isRule rfl rfl rfl (by decide +kernel) ⟨Nat.le_of_ble_eq_true rfl, Nat.le_of_ble_eq_true rfl⟩) (wd_preS hw) rfl rfl hl.1 rfl (lv_room (Nat.le_of_ble_eq_true rfl)) dX6_reply_1 ⟨Nat.zero_le _, Nat.zero_le _⟩) hw (fun H locs hw => ?_)
    refine lv_if_ne (tgt := 17) hx hb dX6_reply_4 (by decide) (fun c11 => ?_) (fun c11 => ?_)
    · have hg := it_neg hg c11
      refine lv_aload_n hx hb dX6_reply_17 rfl (lv_at hl 0 rfl) ?_
      obtain ⟨hok12, hg⟩ := gd_some hg
      obtain ⟨r13, hr13, hg⟩ := nn_some hg
      refine wr_get (K := RX6) (T := TX6) (N := 7) (index := 12) (ref := "MakerLines") (v := .ref r13) hx hb hts hi_X6_reply_X6 hown hw hok12 (wF_6 (S := S10) hok12.2) rfl 0 (by decide) (hts _ (List.mem_of_getElem? (i := 3) rfl)) (fun _ h9 => h9) (congrArg (fun o => some (va_rf o)) hr13) dX6_reply_18 ?_
      obtain ⟨hok14, hg⟩ := gd_some hg
      obtain ⟨r15, S15, hc15, hg⟩ := cl_some hg
      refine wr_ci (va_runV (As := []) (rest := []) ⟨hx, hb, hml, hown, hts⟩ (c_X4_winner l D C N S10 z r13 r15 S15 hc15) (cwV 0 hts gX6_reply_X4_winner rfl rfl rfl (by decide +kernel) ⟨Nat.le_of_ble_eq_true rfl, Nat.le_of_ble_eq_true rfl⟩) (wd_preV hw hok14 (wF_4 (S := S10) hok14.2) rfl) rfl rfl hl.1 rfl (lv_room (Nat.le_of_ble_eq_true rfl)) dX6_reply_21 ⟨Nat.zero_le _, Nat.zero_le _⟩) hw (fun H locs hw => ?_)
      refine lv_if_ne (tgt := 39) hx hb dX6_reply_24 (by decide) (fun c16 => ?_) (fun c16 => ?_)
      · have hg := it_neg hg c16
        refine lv_iconst (v := (-1 : Int32)) hx hb dX6_reply_39 (by decide) ?_
        cases hg
        exact wr_iret hx hb hr hw dX6_reply_40 hlk
      · have hg := it_pos hg c16
        refine lv_aload_n hx hb dX6_reply_27 rfl (lv_at hl 0 rfl) ?_
        refine lv_iload_n hx hb dX6_reply_28 rfl (lv_at hl 1 rfl) ?_
        refine lv_aload_n hx hb dX6_reply_29 rfl (lv_at hl 0 rfl) ?_
        obtain ⟨hok17, hg⟩ := gd_some hg
        obtain ⟨r18, hr18, hg⟩ := nn_some hg
        refine wr_get (K := RX6) (T := TX6) (N := 7) (index := 12) (ref := "MakerLines") (v := .ref r18) hx hb hts hi_X6_reply_X6 hown hw hok17 (wF_6 (S := S15) hok17.2) rfl 0 (by decide) (hts _ (List.mem_of_getElem? (i := 3) rfl)) (fun _ h9 => h9) (congrArg (fun o => some (va_rf o)) hr18) dX6_reply_30 ?_
        obtain ⟨r19, S19, hc19, hg⟩ := cl_some hg
        refine wr_ci (va_runV (As := [.int x1, .ref r18]) (rest := []) ⟨hx, hb, hml, hown, hts⟩ (c_X6_cellBy l D C N S15 z a0 x1 r18 r19 S19 hc19) (cwV 2 hts gX6_reply_X6_cellBy rfl rfl rfl (by decide +kernel) ⟨Nat.le_of_ble_eq_true rfl, Nat.le_of_ble_eq_true rfl⟩) (wd_preV hw hok17 (wF_6 (S := S15) hok17.2) rfl) rfl rfl hl.1 rfl (lv_room (Nat.le_of_ble_eq_true rfl)) dX6_reply_33 ⟨Nat.zero_le _, Nat.zero_le _⟩) hw (fun H locs hw => ?_)
        refine lv_goto (tgt := 40) hx hb dX6_reply_36 (by decide) ?_
        cases hg
        exact wr_iret hx hb hr hw dX6_reply_40 hlk
    · have hg := it_pos hg c11
      exact absurd hg (by simp)
  exact B0 S0 _ _ _ hg hw hl
theorem hi_X6_solved_X6 : ∀ w ∈ wsX60, w ∈ wsX6_solved := fun _ h => List.mem_cons_of_mem _ (List.mem_append_left _ (List.mem_append_left _ (List.mem_append_left _ (List.mem_append_left _ (List.mem_append_right _ (h))))))
abbrev rm_X6_solved : Room := { frames := 30, cells := 0, slots := 0, locals := 1443 }
set_option maxHeartbeats 4000000 in
set_option maxRecDepth 100000 in
theorem c_X6_solved (l : Launch) (D : va_G) (C : C3) (N : Nat) (S0 : Hp) (z : Nat) (a0 : Nat) (x1 : Int32) (r : Int32) (S9 : Hp) (hg : f_X6_solved N S0 a0 x1 = some (r, S9)) : MetI l yX6_solved wsX6_solved rm_X6_solved D C S0 z [.ref a0, .int x1] r S9 z 0 0 := by
  refine mw_ofW (cc := cX6_solved) (maxL := 4) (ret := (some .int)) (lv := [(0, .ref a0), (1, .int x1)]) (by decide) rfl (Nat.le_of_ble_eq_true rfl) rfl ?_
  intro p e s m below meth c ls hx hb hr hts hown hlk hml hnm hl hw
  have hown : s.vm.findClass RX6 = some m.cls := hown
  have B9 : ∀ (S : Hp) (H : Heap) (locs : List Loc) (ls : Array Slot), f_X6_solved_b9 N a0 x1 S = some (r, S9) → Wd D C (va_A (wP C S0) z) s.heap S z H locs s → lv_has ls 4 [] → W p l e rm_X6_solved s m ([.ref a0, .int x1] : List Value).toArray below meth c H locs 0 0 (MQ below (QiW D C S0 z r S9 z) ([.ref a0, .int x1] : List Value).toArray s 0 0 (va_A (wP C S0) z)) (F0 m 9 ls []) := by
    intro S H locs ls hg hw hl
    unfold f_X6_solved_b9 at hg
    exact absurd hg (by simp)
  have B0 : ∀ (S : Hp) (H : Heap) (locs : List Loc) (ls : Array Slot), f_X6_solved N S a0 x1 = some (r, S9) → Wd D C (va_A (wP C S0) z) s.heap S z H locs s → lv_has ls 4 [(0, .ref a0), (1, .int x1)] → W p l e rm_X6_solved s m ([.ref a0, .int x1] : List Value).toArray below meth c H locs 0 0 (MQ below (QiW D C S0 z r S9 z) ([.ref a0, .int x1] : List Value).toArray s 0 0 (va_A (wP C S0) z)) (F0 m 0 ls []) := by
    intro S H locs ls hg hw hl
    unfold f_X6_solved at hg
    refine lv_iload_n hx hb dX6_solved_0 rfl (lv_at hl 1 rfl) ?_
    refine lv_if_lt (tgt := 9) hx hb dX6_solved_1 (by decide) (fun c10 => ?_) (fun c10 => ?_)
    · have hg := it_pos hg c10
      exact B9 _ _ _ _ hg hw (lv_sub hl [] rfl)
    · have hg := it_neg hg c10
      refine lv_iload_n hx hb dX6_solved_4 rfl (lv_at hl 1 rfl) ?_
      refine lv_iconst (v := (2 : Int32)) hx hb dX6_solved_5 (by decide) ?_
      refine lv_icmp_lt (tgt := 19) hx hb dX6_solved_6 (by decide) (fun c11 => ?_) (fun c11 => ?_)
      · have hg := it_pos hg c11
        refine lv_aload_n hx hb dX6_solved_19 rfl (lv_at hl 0 rfl) ?_
        obtain ⟨hok12, hg⟩ := gd_some hg
        obtain ⟨r13, hr13, hg⟩ := nn_some hg
        refine wr_get (K := RX6) (T := TX6) (N := 7) (index := 12) (ref := "MakerLines") (v := .ref r13) hx hb hts hi_X6_solved_X6 hown hw hok12 (wF_6 (S := S) hok12.2) rfl 0 (by decide) (hts _ (List.mem_of_getElem? (i := 3) rfl)) (fun _ h9 => h9) (congrArg (fun o => some (va_rf o)) hr13) dX6_solved_20 ?_
        obtain ⟨hok14, hg⟩ := gd_some hg
        obtain ⟨r15, S15, hc15, hg⟩ := cl_some hg
        refine wr_ci (va_runV (As := []) (rest := []) ⟨hx, hb, hml, hown, hts⟩ (c_X4_winner l D C N S z r13 r15 S15 hc15) (cwV 0 hts gX6_solved_X4_winner rfl rfl rfl (by decide +kernel) ⟨Nat.le_of_ble_eq_true rfl, Nat.le_of_ble_eq_true rfl⟩) (wd_preV hw hok14 (wF_4 (S := S) hok14.2) rfl) rfl rfl hl.1 rfl (lv_room (Nat.le_of_ble_eq_true rfl)) dX6_solved_23 ⟨Nat.zero_le _, Nat.zero_le _⟩) hw (fun H locs hw => ?_)
        refine lv_istore_n (lv' := [(2, .int r15), (0, .ref a0), (1, .int x1)]) hx hb dX6_solved_26 rfl hl (by decide) rfl (fun ls hl => ?_)
        refine lv_iload_n hx hb dX6_solved_27 rfl (lv_at hl 0 rfl) ?_
        refine lv_if_eq (tgt := 41) hx hb dX6_solved_28 (by decide) (fun c16 => ?_) (fun c16 => ?_)
        · have hg := it_pos hg c16
          refine lv_aload_n hx hb dX6_solved_41 rfl (lv_at hl 1 rfl) ?_
          obtain ⟨hok17, hg⟩ := gd_some hg
          obtain ⟨r18, hr18, hg⟩ := nn_some hg
          refine wr_get (K := RX6) (T := TX6) (N := 7) (index := 47) (ref := "MakerLines") (v := .ref r18) hx hb hts hi_X6_solved_X6 hown hw hok17 (wF_6 (S := S15) hok17.2) rfl 6 (by decide) (hts _ (List.mem_of_getElem? (i := 4) rfl)) (fun _ h9 => h9) (congrArg (fun o => some (va_rf o)) hr18) dX6_solved_42 ?_
          refine lv_aload_n hx hb dX6_solved_45 rfl (lv_at hl 1 rfl) ?_
          obtain ⟨r19, hr19, hg⟩ := nn_some hg
          refine wr_get (K := RX6) (T := TX6) (N := 7) (index := 12) (ref := "MakerLines") (v := .ref r19) hx hb hts hi_X6_solved_X6 hown hw hok17 (wF_6 (S := S15) hok17.2) rfl 0 (by decide) (hts _ (List.mem_of_getElem? (i := 3) rfl)) (fun _ h9 => h9) (congrArg (fun o => some (va_rf o)) hr19) dX6_solved_46 ?_
          obtain ⟨hok20, hg⟩ := gd_some hg
          obtain ⟨r21, S21, hc21, hg⟩ := cl_some hg
          refine wr_ci (va_runV (As := [.ref r19]) (rest := []) ⟨hx, hb, hml, hown, hts⟩ (c_X3_lengthOf l D C N S15 z r18 r19 r21 S21 hc21) (cwV 1 hts gX6_solved_X3_lengthOf rfl rfl rfl (by decide +kernel) ⟨Nat.le_of_ble_eq_true rfl, Nat.le_of_ble_eq_true rfl⟩) (wd_preV hw hok20 (wF_3 (S := S15) hok20.2) rfl) rfl rfl hl.1 rfl (lv_room (Nat.le_of_ble_eq_true rfl)) dX6_solved_49 ⟨Nat.zero_le _, Nat.zero_le _⟩) hw (fun H locs hw => ?_)
          refine lv_istore_n (lv' := [(3, .int r21), (2, .int r15), (0, .ref a0), (1, .int x1)]) hx hb dX6_solved_52 rfl hl (by decide) rfl (fun ls hl => ?_)
          refine lv_iload_n hx hb dX6_solved_53 rfl (lv_at hl 3 rfl) ?_
          refine lv_if_ne (tgt := 68) hx hb dX6_solved_54 (by decide) (fun c22 => ?_) (fun c22 => ?_)
          · have hg := it_neg hg c22
            refine lv_iload_n hx hb dX6_solved_68 rfl (lv_at hl 0 rfl) ?_
            refine lv_iconst (v := (-1 : Int32)) hx hb dX6_solved_69 (by decide) ?_
            refine lv_icmp_ne (tgt := 86) hx hb dX6_solved_70 (by decide) (fun c23 => ?_) (fun c23 => ?_)
            · have hg := it_neg hg c23
              refine lv_iload_n hx hb dX6_solved_86 rfl (lv_at hl 0 rfl) ?_
              cases hg
              exact wr_iret hx hb hr hw dX6_solved_87 hlk
            · have hg := it_pos hg c23
              refine lv_aload_n hx hb dX6_solved_73 rfl (lv_at hl 2 rfl) ?_
              obtain ⟨hok24, hg⟩ := gd_some hg
              obtain ⟨r25, hr25, hg⟩ := nn_some hg
              refine wr_get (K := RX6) (T := TX6) (N := 7) (index := 12) (ref := "MakerLines") (v := .ref r25) hx hb hts hi_X6_solved_X6 hown hw hok24 (wF_6 (S := S21) hok24.2) rfl 0 (by decide) (hts _ (List.mem_of_getElem? (i := 3) rfl)) (fun _ h9 => h9) (congrArg (fun o => some (va_rf o)) hr25) dX6_solved_74 ?_
              obtain ⟨hok26, hg⟩ := gd_some hg
              obtain ⟨r27, S27, hc27, hg⟩ := cl_some hg
              refine wr_ci (va_runV (As := []) (rest := []) ⟨hx, hb, hml, hown, hts⟩ (c_X4_freeCells l D C N S21 z r25 r27 S27 hc27) (cwV 0 hts gX6_solved_X4_freeCells rfl rfl rfl (by decide +kernel) ⟨Nat.le_of_ble_eq_true rfl, Nat.le_of_ble_eq_true rfl⟩) (wd_preV hw hok26 (wF_4 (S := S21) hok26.2) rfl) rfl rfl hl.1 rfl (lv_room (Nat.le_of_ble_eq_true rfl)) dX6_solved_77 ⟨Nat.zero_le _, Nat.zero_le _⟩) hw (fun H locs hw => ?_)
              refine wr_ci (va_runS (As := [.int r27]) (rest := []) ⟨hx, hb, hml, hown, hts⟩ (c_bitc l D C S27 z r27) (va_cwS 1 hts gX6_solved_J6_bitCount_0f7a4 rfl rfl rfl (by decide +kernel) ⟨Nat.le_of_ble_eq_true rfl, Nat.le_of_ble_eq_true rfl⟩) (wd_preS hw) rfl rfl hl.1 rfl (lv_room (Nat.le_of_ble_eq_true rfl)) dX6_solved_80 ⟨Nat.zero_le _, Nat.zero_le _⟩) hw (fun H locs hw => ?_)
              refine lv_goto (tgt := 87) hx hb dX6_solved_83 (by decide) ?_
              cases hg
              exact wr_iret hx hb hr hw dX6_solved_87 hlk
          · have hg := it_pos hg c22
            refine lv_iload_n hx hb dX6_solved_57 rfl (lv_at hl 0 rfl) ?_
            refine lv_iconst (v := (-1 : Int32)) hx hb dX6_solved_58 (by decide) ?_
            refine lv_icmp_ne (tgt := 66) hx hb dX6_solved_59 (by decide) (fun c28 => ?_) (fun c28 => ?_)
            · have hg := it_neg hg c28
              refine lv_iconst (v := (1 : Int32)) hx hb dX6_solved_66 (by decide) ?_
              cases hg
              exact wr_iret hx hb hr hw dX6_solved_67 hlk
            · have hg := it_pos hg c28
              refine lv_iconst (v := (2 : Int32)) hx hb dX6_solved_62 (by decide) ?_
              refine lv_goto (tgt := 67) hx hb dX6_solved_63 (by decide) ?_
              cases hg
              exact wr_iret hx hb hr hw dX6_solved_67 hlk
        · have hg := it_neg hg c16
          refine lv_iload_n hx hb dX6_solved_31 rfl (lv_at hl 2 rfl) ?_
          refine lv_if_ne (tgt := 39) hx hb dX6_solved_32 (by decide) (fun c29 => ?_) (fun c29 => ?_)
          · have hg := it_neg hg c29
            refine lv_iconst (v := (0 : Int32)) hx hb dX6_solved_39 (by decide) ?_
            cases hg
            exact wr_iret hx hb hr hw dX6_solved_40 hlk
          · have hg := it_pos hg c29
            refine lv_iload_n hx hb dX6_solved_35 rfl (lv_at hl 0 rfl) ?_
            refine lv_goto (tgt := 40) hx hb dX6_solved_36 (by decide) ?_
            cases hg
            exact wr_iret hx hb hr hw dX6_solved_40 hlk
      · have hg := it_neg hg c11
        exact B9 _ _ _ _ hg hw (lv_sub hl [] rfl)
  exact B0 S0 _ _ _ hg hw hl
theorem hi_X6_ifMoved_X6 : ∀ w ∈ wsX60, w ∈ wsX6_ifMoved := fun _ h => List.mem_cons_of_mem _ (List.mem_append_left _ (List.mem_append_left _ (List.mem_append_left _ (List.mem_append_left _ (List.mem_append_right _ (h))))))
abbrev rm_X6_ifMoved : Room := { frames := 30, cells := 0, slots := 0, locals := 1443 }
set_option maxHeartbeats 4000000 in
set_option maxRecDepth 100000 in
theorem c_X6_ifMoved (l : Launch) (D : va_G) (C : C3) (N : Nat) (S0 : Hp) (z : Nat) (a0 : Nat) (x1 : Int32) (r : Int32) (S9 : Hp) (hg : f_X6_ifMoved N S0 a0 x1 = some (r, S9)) : MetI l yX6_ifMoved wsX6_ifMoved rm_X6_ifMoved D C S0 z [.ref a0, .int x1] r S9 z 0 0 := by
  refine mw_ofW (cc := cX6_ifMoved) (maxL := 2) (ret := (some .int)) (lv := [(0, .ref a0), (1, .int x1)]) (by decide) rfl (Nat.le_of_ble_eq_true rfl) rfl ?_
  intro p e s m below meth c ls hx hb hr hts hown hlk hml hnm hl hw
  have hown : s.vm.findClass RX6 = some m.cls := hown
  have B0 : ∀ (S : Hp) (H : Heap) (locs : List Loc) (ls : Array Slot), f_X6_ifMoved N S a0 x1 = some (r, S9) → Wd D C (va_A (wP C S0) z) s.heap S z H locs s → lv_has ls 2 [(0, .ref a0), (1, .int x1)] → W p l e rm_X6_ifMoved s m ([.ref a0, .int x1] : List Value).toArray below meth c H locs 0 0 (MQ below (QiW D C S0 z r S9 z) ([.ref a0, .int x1] : List Value).toArray s 0 0 (va_A (wP C S0) z)) (F0 m 0 ls []) := by
    intro S H locs ls hg hw hl
    unfold f_X6_ifMoved at hg
    refine lv_aload_n hx hb dX6_ifMoved_0 rfl (lv_at hl 0 rfl) ?_
    obtain ⟨hok10, hg⟩ := gd_some hg
    obtain ⟨r11, hr11, hg⟩ := nn_some hg
    refine wr_get (K := RX6) (T := TX6) (N := 7) (index := 12) (ref := "MakerLines") (v := .ref r11) hx hb hts hi_X6_ifMoved_X6 hown hw hok10 (wF_6 (S := S) hok10.2) rfl 0 (by decide) (hts _ (List.mem_of_getElem? (i := 3) rfl)) (fun _ h9 => h9) (congrArg (fun o => some (va_rf o)) hr11) dX6_ifMoved_1 ?_
    refine lv_iload_n hx hb dX6_ifMoved_4 rfl (lv_at hl 1 rfl) ?_
    obtain ⟨hok12, hg⟩ := gd_some hg
    obtain ⟨r13, S13, hc13, hg⟩ := cl_some hg
    refine wr_ci (va_runV (As := [.int x1]) (rest := []) ⟨hx, hb, hml, hown, hts⟩ (c_X4_hasCell l D C N S z r11 x1 r13 S13 hc13) (cwV 1 hts gX6_ifMoved_X4_hasCell rfl rfl rfl (by decide +kernel) ⟨Nat.le_of_ble_eq_true rfl, Nat.le_of_ble_eq_true rfl⟩) (wd_preV hw hok12 (wF_4 (S := S) hok12.2) rfl) rfl rfl hl.1 rfl (lv_room (Nat.le_of_ble_eq_true rfl)) dX6_ifMoved_5 ⟨Nat.zero_le _, Nat.zero_le _⟩) hw (fun H locs hw => ?_)
    refine lv_if_ne (tgt := 21) hx hb dX6_ifMoved_8 (by decide) (fun c14 => ?_) (fun c14 => ?_)
    · have hg := it_neg hg c14
      refine lv_aload_n hx hb dX6_ifMoved_21 rfl (lv_at hl 0 rfl) ?_
      obtain ⟨hok15, hg⟩ := gd_some hg
      obtain ⟨r16, hr16, hg⟩ := nn_some hg
      refine wr_get (K := RX6) (T := TX6) (N := 7) (index := 12) (ref := "MakerLines") (v := .ref r16) hx hb hts hi_X6_ifMoved_X6 hown hw hok15 (wF_6 (S := S13) hok15.2) rfl 0 (by decide) (hts _ (List.mem_of_getElem? (i := 3) rfl)) (fun _ h9 => h9) (congrArg (fun o => some (va_rf o)) hr16) dX6_ifMoved_22 ?_
      obtain ⟨hok17, hg⟩ := gd_some hg
      obtain ⟨r18, S18, hc18, hg⟩ := cl_some hg
      refine wr_ci (va_runV (As := []) (rest := []) ⟨hx, hb, hml, hown, hts⟩ (c_X4_winner l D C N S13 z r16 r18 S18 hc18) (cwV 0 hts gX6_ifMoved_X4_winner rfl rfl rfl (by decide +kernel) ⟨Nat.le_of_ble_eq_true rfl, Nat.le_of_ble_eq_true rfl⟩) (wd_preV hw hok17 (wF_4 (S := S13) hok17.2) rfl) rfl rfl hl.1 rfl (lv_room (Nat.le_of_ble_eq_true rfl)) dX6_ifMoved_25 ⟨Nat.zero_le _, Nat.zero_le _⟩) hw (fun H locs hw => ?_)
      refine lv_if_ne (tgt := 42) hx hb dX6_ifMoved_28 (by decide) (fun c19 => ?_) (fun c19 => ?_)
      · have hg := it_neg hg c19
        refine lv_iconst (v := (-1 : Int32)) hx hb dX6_ifMoved_42 (by decide) ?_
        cases hg
        exact wr_iret hx hb hr hw dX6_ifMoved_43 hlk
      · have hg := it_pos hg c19
        refine lv_aload_n hx hb dX6_ifMoved_31 rfl (lv_at hl 0 rfl) ?_
        obtain ⟨hok20, hg⟩ := gd_some hg
        obtain ⟨r21, hr21, hg⟩ := nn_some hg
        refine wr_get (K := RX6) (T := TX6) (N := 7) (index := 12) (ref := "MakerLines") (v := .ref r21) hx hb hts hi_X6_ifMoved_X6 hown hw hok20 (wF_6 (S := S18) hok20.2) rfl 0 (by decide) (hts _ (List.mem_of_getElem? (i := 3) rfl)) (fun _ h9 => h9) (congrArg (fun o => some (va_rf o)) hr21) dX6_ifMoved_32 ?_
        refine lv_iload_n hx hb dX6_ifMoved_35 rfl (lv_at hl 1 rfl) ?_
        obtain ⟨hok22, hg⟩ := gd_some hg
        obtain ⟨r23, S23, hc23, hg⟩ := cl_some hg
        refine wr_ci (va_runV (As := [.int x1]) (rest := []) ⟨hx, hb, hml, hown, hts⟩ (c_X4_isFree l D C N S18 z r21 x1 r23 S23 hc23) (cwV 1 hts gX6_ifMoved_X4_isFree rfl rfl rfl (by decide +kernel) ⟨Nat.le_of_ble_eq_true rfl, Nat.le_of_ble_eq_true rfl⟩) (wd_preV hw hok22 (wF_4 (S := S18) hok22.2) rfl) rfl rfl hl.1 rfl (lv_room (Nat.le_of_ble_eq_true rfl)) dX6_ifMoved_36 ⟨Nat.zero_le _, Nat.zero_le _⟩) hw (fun H locs hw => ?_)
        refine lv_if_ne (tgt := 44) hx hb dX6_ifMoved_39 (by decide) (fun c24 => ?_) (fun c24 => ?_)
        · have hg := it_neg hg c24
          refine lv_aload_n hx hb dX6_ifMoved_44 rfl (lv_at hl 0 rfl) ?_
          obtain ⟨hok25, hg⟩ := gd_some hg
          obtain ⟨r26, hr26, hg⟩ := nn_some hg
          refine wr_get (K := RX6) (T := TX6) (N := 7) (index := 16) (ref := "MakerLines") (v := .ref r26) hx hb hts hi_X6_ifMoved_X6 hown hw hok25 (wF_6 (S := S23) hok25.2) rfl 1 (by decide) (hts _ (List.mem_of_getElem? (i := 4) rfl)) (fun _ h9 => h9) (congrArg (fun o => some (va_rf o)) hr26) dX6_ifMoved_45 ?_
          refine lv_aload_n hx hb dX6_ifMoved_48 rfl (lv_at hl 0 rfl) ?_
          obtain ⟨r27, hr27, hg⟩ := nn_some hg
          refine wr_get (K := RX6) (T := TX6) (N := 7) (index := 12) (ref := "MakerLines") (v := .ref r27) hx hb hts hi_X6_ifMoved_X6 hown hw hok25 (wF_6 (S := S23) hok25.2) rfl 0 (by decide) (hts _ (List.mem_of_getElem? (i := 3) rfl)) (fun _ h9 => h9) (congrArg (fun o => some (va_rf o)) hr27) dX6_ifMoved_49 ?_
          obtain ⟨hok28, hg⟩ := gd_some hg
          obtain ⟨⟨⟩, S29, hc29, hg⟩ := cl_some hg
          refine wr_cv (va_runV (As := [.ref r27]) (rest := []) ⟨hx, hb, hml, hown, hts⟩ (c_X4_copyBoard l D C N S23 z r26 r27 () S29 hc29) (cwV 1 hts gX6_ifMoved_X4_copyBoard rfl rfl rfl (by decide +kernel) ⟨Nat.le_of_ble_eq_true rfl, Nat.le_of_ble_eq_true rfl⟩) (wd_preV hw hok28 (wF_4 (S := S23) hok28.2) rfl) rfl rfl hl.1 rfl (lv_room (Nat.le_of_ble_eq_true rfl)) dX6_ifMoved_52 ⟨Nat.zero_le _, Nat.zero_le _⟩) hw (fun H locs hw => ?_)
          refine lv_aload_n hx hb dX6_ifMoved_55 rfl (lv_at hl 0 rfl) ?_
          obtain ⟨hok30, hg⟩ := gd_some hg
          obtain ⟨r31, hr31, hg⟩ := nn_some hg
          refine wr_get (K := RX6) (T := TX6) (N := 7) (index := 16) (ref := "MakerLines") (v := .ref r31) hx hb hts hi_X6_ifMoved_X6 hown hw hok30 (wF_6 (S := S29) hok30.2) rfl 1 (by decide) (hts _ (List.mem_of_getElem? (i := 4) rfl)) (fun _ h9 => h9) (congrArg (fun o => some (va_rf o)) hr31) dX6_ifMoved_56 ?_
          refine lv_iload_n hx hb dX6_ifMoved_59 rfl (lv_at hl 1 rfl) ?_
          refine lv_iconst (v := (-1 : Int32)) hx hb dX6_ifMoved_60 (by decide) ?_
          obtain ⟨hok32, hg⟩ := gd_some hg
          obtain ⟨⟨⟩, S33, hc33, hg⟩ := cl_some hg
          refine wr_cv (va_runV (As := [.int x1, .int (-1 : Int32)]) (rest := []) ⟨hx, hb, hml, hown, hts⟩ (c_X4_occupy l D C N S29 z r31 x1 ((-1 : Int32)) () S33 hc33) (cwV 2 hts gX6_ifMoved_X4_occupy rfl rfl rfl (by decide +kernel) ⟨Nat.le_of_ble_eq_true rfl, Nat.le_of_ble_eq_true rfl⟩) (wd_preV hw hok32 (wF_4 (S := S29) hok32.2) rfl) rfl rfl hl.1 rfl (lv_room (Nat.le_of_ble_eq_true rfl)) dX6_ifMoved_61 ⟨Nat.zero_le _, Nat.zero_le _⟩) hw (fun H locs hw => ?_)
          refine lv_aload_n hx hb dX6_ifMoved_64 rfl (lv_at hl 0 rfl) ?_
          obtain ⟨hok34, hg⟩ := gd_some hg
          obtain ⟨r35, hr35, hg⟩ := nn_some hg
          refine wr_get (K := RX6) (T := TX6) (N := 7) (index := 47) (ref := "MakerLines") (v := .ref r35) hx hb hts hi_X6_ifMoved_X6 hown hw hok34 (wF_6 (S := S33) hok34.2) rfl 6 (by decide) (hts _ (List.mem_of_getElem? (i := 5) rfl)) (fun _ h9 => h9) (congrArg (fun o => some (va_rf o)) hr35) dX6_ifMoved_65 ?_
          refine lv_aload_n hx hb dX6_ifMoved_68 rfl (lv_at hl 0 rfl) ?_
          obtain ⟨r36, hr36, hg⟩ := nn_some hg
          refine wr_get (K := RX6) (T := TX6) (N := 7) (index := 16) (ref := "MakerLines") (v := .ref r36) hx hb hts hi_X6_ifMoved_X6 hown hw hok34 (wF_6 (S := S33) hok34.2) rfl 1 (by decide) (hts _ (List.mem_of_getElem? (i := 4) rfl)) (fun _ h9 => h9) (congrArg (fun o => some (va_rf o)) hr36) dX6_ifMoved_69 ?_
          obtain ⟨hok37, hg⟩ := gd_some hg
          obtain ⟨r38, S38, hc38, hg⟩ := cl_some hg
          refine wr_ci (va_runV (As := [.ref r36]) (rest := []) ⟨hx, hb, hml, hown, hts⟩ (c_X3_lengthOf l D C N S33 z r35 r36 r38 S38 hc38) (cwV 1 hts gX6_ifMoved_X3_lengthOf rfl rfl rfl (by decide +kernel) ⟨Nat.le_of_ble_eq_true rfl, Nat.le_of_ble_eq_true rfl⟩) (wd_preV hw hok37 (wF_3 (S := S33) hok37.2) rfl) rfl rfl hl.1 rfl (lv_room (Nat.le_of_ble_eq_true rfl)) dX6_ifMoved_72 ⟨Nat.zero_le _, Nat.zero_le _⟩) hw (fun H locs hw => ?_)
          refine lv_iconst (v := (-1 : Int32)) hx hb dX6_ifMoved_75 (by decide) ?_
          refine lv_icmp_ne (tgt := 83) hx hb dX6_ifMoved_76 (by decide) (fun c39 => ?_) (fun c39 => ?_)
          · have hg := it_neg hg c39
            refine lv_iconst (v := (1 : Int32)) hx hb dX6_ifMoved_83 (by decide) ?_
            cases hg
            exact wr_iret hx hb hr hw dX6_ifMoved_84 hlk
          · have hg := it_pos hg c39
            refine lv_iconst (v := (2 : Int32)) hx hb dX6_ifMoved_79 (by decide) ?_
            refine lv_goto (tgt := 84) hx hb dX6_ifMoved_80 (by decide) ?_
            cases hg
            exact wr_iret hx hb hr hw dX6_ifMoved_84 hlk
        · have hg := it_pos hg c24
          refine lv_iconst (v := (-1 : Int32)) hx hb dX6_ifMoved_42 (by decide) ?_
          cases hg
          exact wr_iret hx hb hr hw dX6_ifMoved_43 hlk
    · have hg := it_pos hg c14
      exact absurd hg (by simp)
  exact B0 S0 _ _ _ hg hw hl
theorem hi_X6_ifPlayed_X6 : ∀ w ∈ wsX60, w ∈ wsX6_ifPlayed := fun _ h => List.mem_cons_of_mem _ (List.mem_append_left _ (List.mem_append_left _ (List.mem_append_left _ (List.mem_append_left _ (List.mem_append_left _ (List.mem_append_right _ (h)))))))
abbrev rm_X6_ifPlayed : Room := { frames := 33, cells := 0, slots := 0, locals := 1570 }
set_option maxHeartbeats 4000000 in
set_option maxRecDepth 100000 in
theorem c_X6_ifPlayed (l : Launch) (D : va_G) (C : C3) (N : Nat) (S0 : Hp) (z : Nat) (a0 : Nat) (x1 : Int32) (x2 : Int32) (r : Int32) (S9 : Hp) (hg : f_X6_ifPlayed N S0 a0 x1 x2 = some (r, S9)) : MetI l yX6_ifPlayed wsX6_ifPlayed rm_X6_ifPlayed D C S0 z [.ref a0, .int x1, .int x2] r S9 z 0 0 := by
  refine mw_ofW (cc := cX6_ifPlayed) (maxL := 3) (ret := (some .int)) (lv := [(0, .ref a0), (1, .int x1), (2, .int x2)]) (by decide) rfl (Nat.le_of_ble_eq_true rfl) rfl ?_
  intro p e s m below meth c ls hx hb hr hts hown hlk hml hnm hl hw
  have hown : s.vm.findClass RX6 = some m.cls := hown
  have B14 : ∀ (S : Hp) (H : Heap) (locs : List Loc) (ls : Array Slot), f_X6_ifPlayed_b14 N a0 x1 x2 S = some (r, S9) → Wd D C (va_A (wP C S0) z) s.heap S z H locs s → lv_has ls 3 [] → W p l e rm_X6_ifPlayed s m ([.ref a0, .int x1, .int x2] : List Value).toArray below meth c H locs 0 0 (MQ below (QiW D C S0 z r S9 z) ([.ref a0, .int x1, .int x2] : List Value).toArray s 0 0 (va_A (wP C S0) z)) (F0 m 14 ls []) := by
    intro S H locs ls hg hw hl
    unfold f_X6_ifPlayed_b14 at hg
    exact absurd hg (by simp)
  have B0 : ∀ (S : Hp) (H : Heap) (locs : List Loc) (ls : Array Slot), f_X6_ifPlayed N S a0 x1 x2 = some (r, S9) → Wd D C (va_A (wP C S0) z) s.heap S z H locs s → lv_has ls 3 [(0, .ref a0), (1, .int x1), (2, .int x2)] → W p l e rm_X6_ifPlayed s m ([.ref a0, .int x1, .int x2] : List Value).toArray below meth c H locs 0 0 (MQ below (QiW D C S0 z r S9 z) ([.ref a0, .int x1, .int x2] : List Value).toArray s 0 0 (va_A (wP C S0) z)) (F0 m 0 ls []) := by
    intro S H locs ls hg hw hl
    unfold f_X6_ifPlayed at hg
    refine lv_iload_n hx hb dX6_ifPlayed_0 rfl (lv_at hl 1 rfl) ?_
    obtain ⟨r10, S10, hc10, hg⟩ := cl_some hg
    refine wr_ci (va_runS (As := [.int x1]) (rest := []) ⟨hx, hb, hml, hown, hts⟩ (c_X6_isRule l D C N S z x1 r10 S10 hc10) (va_cwS 1 hts gX6_ifPlayed_X6_isRule rfl rfl rfl (by decide +kernel) ⟨Nat.le_of_ble_eq_true rfl, Nat.le_of_ble_eq_true rfl⟩) (wd_preS hw) rfl rfl hl.1 rfl (lv_room (Nat.le_of_ble_eq_true rfl)) dX6_ifPlayed_1 ⟨Nat.zero_le _, Nat.zero_le _⟩) hw (fun H locs hw => ?_)
    refine lv_if_eq (tgt := 14) hx hb dX6_ifPlayed_4 (by decide) (fun c11 => ?_) (fun c11 => ?_)
    · have hg := it_pos hg c11
      exact B14 _ _ _ _ hg hw (lv_sub hl [] rfl)
    · have hg := it_neg hg c11
      refine lv_iload_n hx hb dX6_ifPlayed_7 rfl (lv_at hl 2 rfl) ?_
      obtain ⟨r12, S12, hc12, hg⟩ := cl_some hg
      refine wr_ci (va_runS (As := [.int x2]) (rest := []) ⟨hx, hb, hml, hown, hts⟩ (c_X6_isRule l D C N S10 z x2 r12 S12 hc12) (va_cwS 1 hts gX6_ifPlayed_X6_isRule rfl rfl rfl (by decide +kernel) ⟨Nat.le_of_ble_eq_true rfl, Nat.le_of_ble_eq_true rfl⟩) (wd_preS hw) rfl rfl hl.1 rfl (lv_room (Nat.le_of_ble_eq_true rfl)) dX6_ifPlayed_8 ⟨Nat.zero_le _, Nat.zero_le _⟩) hw (fun H locs hw => ?_)
      refine lv_if_ne (tgt := 24) hx hb dX6_ifPlayed_11 (by decide) (fun c13 => ?_) (fun c13 => ?_)
      · have hg := it_neg hg c13
        refine lv_aload_n hx hb dX6_ifPlayed_24 rfl (lv_at hl 0 rfl) ?_
        obtain ⟨hok14, hg⟩ := gd_some hg
        obtain ⟨r15, hr15, hg⟩ := nn_some hg
        refine wr_get (K := RX6) (T := TX6) (N := 7) (index := 16) (ref := "MakerLines") (v := .ref r15) hx hb hts hi_X6_ifPlayed_X6 hown hw hok14 (wF_6 (S := S12) hok14.2) rfl 1 (by decide) (hts _ (List.mem_of_getElem? (i := 3) rfl)) (fun _ h9 => h9) (congrArg (fun o => some (va_rf o)) hr15) dX6_ifPlayed_25 ?_
        refine lv_aload_n hx hb dX6_ifPlayed_28 rfl (lv_at hl 0 rfl) ?_
        obtain ⟨r16, hr16, hg⟩ := nn_some hg
        refine wr_get (K := RX6) (T := TX6) (N := 7) (index := 12) (ref := "MakerLines") (v := .ref r16) hx hb hts hi_X6_ifPlayed_X6 hown hw hok14 (wF_6 (S := S12) hok14.2) rfl 0 (by decide) (hts _ (List.mem_of_getElem? (i := 4) rfl)) (fun _ h9 => h9) (congrArg (fun o => some (va_rf o)) hr16) dX6_ifPlayed_29 ?_
        obtain ⟨hok17, hg⟩ := gd_some hg
        obtain ⟨⟨⟩, S18, hc18, hg⟩ := cl_some hg
        refine wr_cv (va_runV (As := [.ref r16]) (rest := []) ⟨hx, hb, hml, hown, hts⟩ (c_X4_copyBoard l D C N S12 z r15 r16 () S18 hc18) (cwV 1 hts gX6_ifPlayed_X4_copyBoard rfl rfl rfl (by decide +kernel) ⟨Nat.le_of_ble_eq_true rfl, Nat.le_of_ble_eq_true rfl⟩) (wd_preV hw hok17 (wF_4 (S := S12) hok17.2) rfl) rfl rfl hl.1 rfl (lv_room (Nat.le_of_ble_eq_true rfl)) dX6_ifPlayed_32 ⟨Nat.zero_le _, Nat.zero_le _⟩) hw (fun H locs hw => ?_)
        refine lv_aload_n hx hb dX6_ifPlayed_35 rfl (lv_at hl 0 rfl) ?_
        refine lv_aload_n hx hb dX6_ifPlayed_36 rfl (lv_at hl 0 rfl) ?_
        obtain ⟨hok19, hg⟩ := gd_some hg
        obtain ⟨r20, hr20, hg⟩ := nn_some hg
        refine wr_get (K := RX6) (T := TX6) (N := 7) (index := 16) (ref := "MakerLines") (v := .ref r20) hx hb hts hi_X6_ifPlayed_X6 hown hw hok19 (wF_6 (S := S18) hok19.2) rfl 1 (by decide) (hts _ (List.mem_of_getElem? (i := 3) rfl)) (fun _ h9 => h9) (congrArg (fun o => some (va_rf o)) hr20) dX6_ifPlayed_37 ?_
        refine lv_iload_n hx hb dX6_ifPlayed_40 rfl (lv_at hl 1 rfl) ?_
        refine lv_iload_n hx hb dX6_ifPlayed_41 rfl (lv_at hl 2 rfl) ?_
        refine lv_bipush (v := (10 : Int32)) hx hb dX6_ifPlayed_42 (by decide) ?_
        obtain ⟨r21, S21, hc21, hg⟩ := cl_some hg
        refine wr_ci (va_runV (As := [.ref r20, .int x1, .int x2, .int (10 : Int32)]) (rest := []) ⟨hx, hb, hml, hown, hts⟩ (c_X6_goOn l D C N S18 z a0 r20 x1 x2 ((10 : Int32)) r21 S21 hc21) (cwV 4 hts gX6_ifPlayed_X6_goOn rfl rfl rfl (by decide +kernel) ⟨Nat.le_of_ble_eq_true rfl, Nat.le_of_ble_eq_true rfl⟩) (wd_preV hw hok19 (wF_6 (S := S18) hok19.2) rfl) rfl rfl hl.1 rfl (lv_room (Nat.le_of_ble_eq_true rfl)) dX6_ifPlayed_44 ⟨Nat.zero_le _, Nat.zero_le _⟩) hw (fun H locs hw => ?_)
        refine lv_pop hx hb dX6_ifPlayed_47 rfl ?_
        refine lv_aload_n hx hb dX6_ifPlayed_48 rfl (lv_at hl 0 rfl) ?_
        obtain ⟨hok22, hg⟩ := gd_some hg
        obtain ⟨r23, hr23, hg⟩ := nn_some hg
        refine wr_get (K := RX6) (T := TX6) (N := 7) (index := 16) (ref := "MakerLines") (v := .ref r23) hx hb hts hi_X6_ifPlayed_X6 hown hw hok22 (wF_6 (S := S21) hok22.2) rfl 1 (by decide) (hts _ (List.mem_of_getElem? (i := 3) rfl)) (fun _ h9 => h9) (congrArg (fun o => some (va_rf o)) hr23) dX6_ifPlayed_49 ?_
        obtain ⟨hok24, hg⟩ := gd_some hg
        obtain ⟨r25, S25, hc25, hg⟩ := cl_some hg
        refine wr_ci (va_runV (As := []) (rest := []) ⟨hx, hb, hml, hown, hts⟩ (c_X4_winner l D C N S21 z r23 r25 S25 hc25) (cwV 0 hts gX6_ifPlayed_X4_winner rfl rfl rfl (by decide +kernel) ⟨Nat.le_of_ble_eq_true rfl, Nat.le_of_ble_eq_true rfl⟩) (wd_preV hw hok24 (wF_4 (S := S21) hok24.2) rfl) rfl rfl hl.1 rfl (lv_room (Nat.le_of_ble_eq_true rfl)) dX6_ifPlayed_52 ⟨Nat.zero_le _, Nat.zero_le _⟩) hw (fun H locs hw => ?_)
        cases hg
        exact wr_iret hx hb hr hw dX6_ifPlayed_55 hlk
      · have hg := it_pos hg c13
        exact B14 _ _ _ _ hg hw (lv_sub hl [] rfl)
  exact B0 S0 _ _ _ hg hw hl
theorem hi_X6_pairsInPairing_X2 : ∀ w ∈ wsX20, w ∈ wsX6_pairsInPairing := fun _ h => List.mem_cons_of_mem _ (List.mem_append_left _ (List.mem_append_left _ (List.mem_append_right _ (h))))
theorem hi_X6_pairsInPairing_X6 : ∀ w ∈ wsX60, w ∈ wsX6_pairsInPairing := fun _ h => List.mem_cons_of_mem _ (List.mem_append_left _ (List.mem_append_left _ (List.mem_append_left _ (List.mem_append_right _ (h)))))
abbrev rm_X6_pairsInPairing : Room := { frames := 32, cells := 0, slots := 0, locals := 1544 }
set_option maxHeartbeats 4000000 in
set_option maxRecDepth 100000 in
theorem c_X6_pairsInPairing (l : Launch) (D : va_G) (C : C3) (N : Nat) (S0 : Hp) (z : Nat) (a0 : Nat) (r : Int32) (S9 : Hp) (hg : f_X6_pairsInPairing N S0 a0 = some (r, S9)) : MetI l yX6_pairsInPairing wsX6_pairsInPairing rm_X6_pairsInPairing D C S0 z [.ref a0] r S9 z 0 0 := by
  refine mw_ofW (cc := cX6_pairsInPairing) (maxL := 1) (ret := (some .int)) (lv := [(0, .ref a0)]) (by decide) rfl (Nat.le_of_ble_eq_true rfl) rfl ?_
  intro p e s m below meth c ls hx hb hr hts hown hlk hml hnm hl hw
  have hown : s.vm.findClass RX6 = some m.cls := hown
  have B0 : ∀ (S : Hp) (H : Heap) (locs : List Loc) (ls : Array Slot), f_X6_pairsInPairing N S a0 = some (r, S9) → Wd D C (va_A (wP C S0) z) s.heap S z H locs s → lv_has ls 1 [(0, .ref a0)] → W p l e rm_X6_pairsInPairing s m ([.ref a0] : List Value).toArray below meth c H locs 0 0 (MQ below (QiW D C S0 z r S9 z) ([.ref a0] : List Value).toArray s 0 0 (va_A (wP C S0) z)) (F0 m 0 ls []) := by
    intro S H locs ls hg hw hl
    unfold f_X6_pairsInPairing at hg
    refine lv_aload_n hx hb dX6_pairsInPairing_0 rfl (lv_at hl 0 rfl) ?_
    obtain ⟨hok10, hg⟩ := gd_some hg
    obtain ⟨r11, hr11, hg⟩ := nn_some hg
    refine wr_get (K := RX6) (T := TX6) (N := 7) (index := 40) (ref := "MakerLines") (v := .ref r11) hx hb hts hi_X6_pairsInPairing_X6 hown hw hok10 (wF_6 (S := S) hok10.2) rfl 5 (by decide) (hts _ (List.mem_of_getElem? (i := 1) rfl)) (fun _ h9 => h9) (congrArg (fun o => some (va_rf o)) hr11) dX6_pairsInPairing_1 ?_
    refine lv_aload_n hx hb dX6_pairsInPairing_4 rfl (lv_at hl 0 rfl) ?_
    obtain ⟨r12, hr12, hg⟩ := nn_some hg
    refine wr_get (K := RX6) (T := TX6) (N := 7) (index := 12) (ref := "MakerLines") (v := .ref r12) hx hb hts hi_X6_pairsInPairing_X6 hown hw hok10 (wF_6 (S := S) hok10.2) rfl 0 (by decide) (hts _ (List.mem_of_getElem? (i := 2) rfl)) (fun _ h9 => h9) (congrArg (fun o => some (va_rf o)) hr12) dX6_pairsInPairing_5 ?_
    obtain ⟨hok13, hg⟩ := gd_some hg
    obtain ⟨⟨⟩, S14, hc14, hg⟩ := cl_some hg
    refine wr_cv (va_runV (As := [.ref r12]) (rest := []) ⟨hx, hb, hml, hown, hts⟩ (c_X2_lookAt l D C N S z r11 r12 () S14 hc14) (cwV 1 hts gX6_pairsInPairing_X2_lookAt rfl rfl rfl (by decide +kernel) ⟨Nat.le_of_ble_eq_true rfl, Nat.le_of_ble_eq_true rfl⟩) (wd_preV hw hok13 (wF_2 (S := S) hok13.2) rfl) rfl rfl hl.1 rfl (lv_room (Nat.le_of_ble_eq_true rfl)) dX6_pairsInPairing_8 ⟨Nat.zero_le _, Nat.zero_le _⟩) hw (fun H locs hw => ?_)
    refine lv_aload_n hx hb dX6_pairsInPairing_11 rfl (lv_at hl 0 rfl) ?_
    obtain ⟨hok15, hg⟩ := gd_some hg
    obtain ⟨r16, hr16, hg⟩ := nn_some hg
    refine wr_get (K := RX6) (T := TX6) (N := 7) (index := 40) (ref := "MakerLines") (v := .ref r16) hx hb hts hi_X6_pairsInPairing_X6 hown hw hok15 (wF_6 (S := S14) hok15.2) rfl 5 (by decide) (hts _ (List.mem_of_getElem? (i := 1) rfl)) (fun _ h9 => h9) (congrArg (fun o => some (va_rf o)) hr16) dX6_pairsInPairing_12 ?_
    obtain ⟨hok17, hg⟩ := gd_some hg
    refine wr_get (K := RX2) (T := TX2) (N := 6) (index := 302) (ref := "MakerLines$Pairing") (v := .int (hI S14 r16 5)) hx hb hts hi_X6_pairsInPairing_X2 hown hw hok17 (wF_2 (S := S14) hok17.2) rfl 5 (by decide) (hts _ (List.mem_of_getElem? (i := 3) rfl)) (fun _ h9 => h9) rfl dX6_pairsInPairing_15 ?_
    refine lv_if_eq (tgt := 31) hx hb dX6_pairsInPairing_18 (by decide) (fun c18 => ?_) (fun c18 => ?_)
    · have hg := it_pos hg c18
      refine lv_iconst (v := (-1 : Int32)) hx hb dX6_pairsInPairing_31 (by decide) ?_
      cases hg
      exact wr_iret hx hb hr hw dX6_pairsInPairing_32 hlk
    · have hg := it_neg hg c18
      refine lv_aload_n hx hb dX6_pairsInPairing_21 rfl (lv_at hl 0 rfl) ?_
      refine wr_get (K := RX6) (T := TX6) (N := 7) (index := 40) (ref := "MakerLines") (v := .ref r16) hx hb hts hi_X6_pairsInPairing_X6 hown hw hok15 (wF_6 (S := S14) hok15.2) rfl 5 (by decide) (hts _ (List.mem_of_getElem? (i := 1) rfl)) (fun _ h9 => h9) (congrArg (fun o => some (va_rf o)) hr16) dX6_pairsInPairing_22 ?_
      refine wr_get (K := RX2) (T := TX2) (N := 6) (index := 305) (ref := "MakerLines$Pairing") (v := .int (hI S14 r16 4)) hx hb hts hi_X6_pairsInPairing_X2 hown hw hok17 (wF_2 (S := S14) hok17.2) rfl 4 (by decide) (hts _ (List.mem_of_getElem? (i := 4) rfl)) (fun _ h9 => h9) rfl dX6_pairsInPairing_25 ?_
      refine lv_goto (tgt := 32) hx hb dX6_pairsInPairing_28 (by decide) ?_
      cases hg
      exact wr_iret hx hb hr hw dX6_pairsInPairing_32 hlk
  exact B0 S0 _ _ _ hg hw hl
theorem hi_X6_snapshotsTaken_X6 : ∀ w ∈ wsX60, w ∈ wsX6_snapshotsTaken := fun _ h => List.mem_cons_of_mem _ (List.mem_append_right _ (h))
abbrev rm_X6_snapshotsTaken : Room := { frames := 0, cells := 0, slots := 0, locals := 0 }
set_option maxHeartbeats 4000000 in
set_option maxRecDepth 100000 in
theorem c_X6_snapshotsTaken (l : Launch) (D : va_G) (C : C3) (N : Nat) (S0 : Hp) (z : Nat) (a0 : Nat) (r : Int32) (S9 : Hp) (hg : f_X6_snapshotsTaken N S0 a0 = some (r, S9)) : MetI l yX6_snapshotsTaken wsX6_snapshotsTaken rm_X6_snapshotsTaken D C S0 z [.ref a0] r S9 z 0 0 := by
  refine mw_ofW (cc := cX6_snapshotsTaken) (maxL := 3) (ret := (some .int)) (lv := [(0, .ref a0)]) (by decide) rfl (Nat.le_of_ble_eq_true rfl) rfl ?_
  intro p e s m below meth c ls hx hb hr hts hown hlk hml hnm hl hw
  have hown : s.vm.findClass RX6 = some m.cls := hown
  have B4 : ∀ (K4 : Hp → Int32 → Int32 → Option (Int32 × Hp)) (hK4 : ∀ (S : Hp) (v1 : Int32) (v2 : Int32) (H : Heap) (locs : List Loc) (ls : Array Slot), K4 S v1 v2 = some (r, S9) → Wd D C (va_A (wP C S0) z) s.heap S z H locs s → lv_has ls 3 [(0, .ref a0), (1, .int v1), (2, .int v2)] → W p l e rm_X6_snapshotsTaken s m ([.ref a0] : List Value).toArray below meth c H locs 0 0 (MQ below (QiW D C S0 z r S9 z) ([.ref a0] : List Value).toArray s 0 0 (va_A (wP C S0) z)) (F0 m 4 ls [])) (S : Hp) (v1 : Int32) (v2 : Int32) (H : Heap) (locs : List Loc) (ls : Array Slot), f_X6_snapshotsTaken_b4 N a0 K4 S v1 v2 = some (r, S9) → Wd D C (va_A (wP C S0) z) s.heap S z H locs s → lv_has ls 3 [(0, .ref a0), (1, .int v1), (2, .int v2)] → W p l e rm_X6_snapshotsTaken s m ([.ref a0] : List Value).toArray below meth c H locs 0 0 (MQ below (QiW D C S0 z r S9 z) ([.ref a0] : List Value).toArray s 0 0 (va_A (wP C S0) z)) (F0 m 4 ls []) := by
    intro K4 hK4 S v1 v2 H locs ls hg hw hl
    unfold f_X6_snapshotsTaken_b4 at hg
    refine lv_iload_n hx hb dX6_snapshotsTaken_4 rfl (lv_at hl 2 rfl) ?_
    refine lv_aload_n hx hb dX6_snapshotsTaken_5 rfl (lv_at hl 0 rfl) ?_
    obtain ⟨hok10, hg⟩ := gd_some hg
    obtain ⟨r11, hr11, hg⟩ := nn_some hg
    refine wr_get (K := RX6) (T := TX6) (N := 7) (index := 26) (ref := "MakerLines") (v := .ref r11) hx hb hts hi_X6_snapshotsTaken_X6 hown hw hok10 (wF_6 (S := S) hok10.2) rfl 3 (by decide) (hts _ (List.mem_of_getElem? (i := 1) rfl)) (fun _ h9 => h9) (congrArg (fun o => some (va_rf o)) hr11) dX6_snapshotsTaken_6 ?_
    obtain ⟨hok12, hg⟩ := gd_some hg
    refine wr_alen9 hx hb hw hok12 dX6_snapshotsTaken_9 ?_
    refine lv_icmp_ge (tgt := 31) hx hb dX6_snapshotsTaken_10 (by decide) (fun c13 => ?_) (fun c13 => ?_)
    · have hg := it_pos hg c13
      refine lv_iload_n hx hb dX6_snapshotsTaken_31 rfl (lv_at hl 1 rfl) ?_
      cases hg
      exact wr_iret hx hb hr hw dX6_snapshotsTaken_32 hlk
    · have hg := it_neg hg c13
      refine lv_aload_n hx hb dX6_snapshotsTaken_13 rfl (lv_at hl 0 rfl) ?_
      refine wr_get (K := RX6) (T := TX6) (N := 7) (index := 26) (ref := "MakerLines") (v := .ref r11) hx hb hts hi_X6_snapshotsTaken_X6 hown hw hok10 (wF_6 (S := S) hok10.2) rfl 3 (by decide) (hts _ (List.mem_of_getElem? (i := 1) rfl)) (fun _ h9 => h9) (congrArg (fun o => some (va_rf o)) hr11) dX6_snapshotsTaken_14 ?_
      refine lv_iload_n hx hb dX6_snapshotsTaken_17 rfl (lv_at hl 2 rfl) ?_
      obtain ⟨hin14, hg⟩ := gd_some hg
      rcases ho15 : (hR S r11 v2.toNatClampNeg) with _ | r15
      · rw [ho15] at hg; have hg := nz_none hg
        refine wr_aald (v := .null) hx hb hw hok12 (inb_vp hin14) (congrArg va_rf ho15) dX6_snapshotsTaken_18 ?_
        refine lv_ifnullN (tgt := 25) hx hb dX6_snapshotsTaken_19 (by decide) ?_
        refine lv_iinc (v := (v2 + (1 : Int32))) (lv' := [(2, .int (v2 + (1 : Int32))), (0, .ref a0), (1, .int v1)]) hx hb dX6_snapshotsTaken_25 hl (k := 2) rfl rfl (by decide) rfl (fun ls hl => ?_)
        refine lv_goto (tgt := 4) hx hb dX6_snapshotsTaken_28 (by decide) ?_
        exact hK4 _ _ _ _ _ _ hg hw (lv_sub hl [1, 2, 0] rfl)
      · rw [ho15] at hg; have hg := nz_one hg
        refine wr_aald (v := .ref r15) hx hb hw hok12 (inb_vp hin14) (congrArg va_rf ho15) dX6_snapshotsTaken_18 ?_
        refine lv_ifnull hx hb dX6_snapshotsTaken_19 ?_
        refine lv_iinc (v := (v1 + (1 : Int32))) (lv' := [(1, .int (v1 + (1 : Int32))), (0, .ref a0), (2, .int v2)]) hx hb dX6_snapshotsTaken_22 hl (k := 1) rfl rfl (by decide) rfl (fun ls hl => ?_)
        refine lv_iinc (v := (v2 + (1 : Int32))) (lv' := [(2, .int (v2 + (1 : Int32))), (1, .int (v1 + (1 : Int32))), (0, .ref a0)]) hx hb dX6_snapshotsTaken_25 hl (k := 2) rfl rfl (by decide) rfl (fun ls hl => ?_)
        refine lv_goto (tgt := 4) hx hb dX6_snapshotsTaken_28 (by decide) ?_
        exact hK4 _ _ _ _ _ _ hg hw (lv_sub hl [2, 1, 0] rfl)
  have L4 : ∀ (k : Nat) (S : Hp) (v1 : Int32) (v2 : Int32) (H : Heap) (locs : List Loc) (ls : Array Slot), f_X6_snapshotsTaken_l4 N a0 k S v1 v2 = some (r, S9) → Wd D C (va_A (wP C S0) z) s.heap S z H locs s → lv_has ls 3 [(0, .ref a0), (1, .int v1), (2, .int v2)] → W p l e rm_X6_snapshotsTaken s m ([.ref a0] : List Value).toArray below meth c H locs 0 0 (MQ below (QiW D C S0 z r S9 z) ([.ref a0] : List Value).toArray s 0 0 (va_A (wP C S0) z)) (F0 m 4 ls []) := by
    intro k
    induction k with
    | zero => intro S v1 v2 H locs ls hg hw hl; exact absurd (show (none : Option (Int32 × Hp)) = some (r, S9) from hg) (by simp)
    | succ k ih => intro S v1 v2 H locs ls hg hw hl; exact B4 (f_X6_snapshotsTaken_l4 N a0 k) ih S v1 v2 H locs ls hg hw hl
  have B0 : ∀ (S : Hp) (H : Heap) (locs : List Loc) (ls : Array Slot), f_X6_snapshotsTaken N S a0 = some (r, S9) → Wd D C (va_A (wP C S0) z) s.heap S z H locs s → lv_has ls 3 [(0, .ref a0)] → W p l e rm_X6_snapshotsTaken s m ([.ref a0] : List Value).toArray below meth c H locs 0 0 (MQ below (QiW D C S0 z r S9 z) ([.ref a0] : List Value).toArray s 0 0 (va_A (wP C S0) z)) (F0 m 0 ls []) := by
    intro S H locs ls hg hw hl
    unfold f_X6_snapshotsTaken at hg
    refine lv_iconst (v := (0 : Int32)) hx hb dX6_snapshotsTaken_0 (by decide) ?_
    refine lv_istore_n (lv' := [(1, .int (0 : Int32)), (0, .ref a0)]) hx hb dX6_snapshotsTaken_1 rfl hl (by decide) rfl (fun ls hl => ?_)
    refine lv_iconst (v := (0 : Int32)) hx hb dX6_snapshotsTaken_2 (by decide) ?_
    refine lv_istore_n (lv' := [(2, .int (0 : Int32)), (1, .int (0 : Int32)), (0, .ref a0)]) hx hb dX6_snapshotsTaken_3 rfl hl (by decide) rfl (fun ls hl => ?_)
    exact L4 N _ _ _ _ _ _ hg hw (lv_sub hl [2, 1, 0] rfl)
  exact B0 S0 _ _ _ hg hw hl
theorem hi_X6_count_X0 : ∀ w ∈ wsX00, w ∈ wsX6_count := fun _ h => List.mem_cons_of_mem _ (List.mem_append_left _ (List.mem_append_left _ (List.mem_append_right _ (h))))
theorem hi_X6_count_X1 : ∀ w ∈ wsX10, w ∈ wsX6_count := fun _ h => List.mem_cons_of_mem _ (List.mem_append_left _ (List.mem_append_left _ (List.mem_append_left _ (List.mem_append_right _ (h)))))
theorem hi_X6_count_X4 : ∀ w ∈ wsX40, w ∈ wsX6_count := fun _ h => List.mem_cons_of_mem _ (List.mem_append_left _ (List.mem_append_left _ (List.mem_append_left _ (List.mem_append_left _ (List.mem_append_right _ (h))))))
theorem hi_X6_count_X6 : ∀ w ∈ wsX60, w ∈ wsX6_count := fun _ h => List.mem_cons_of_mem _ (List.mem_append_left _ (List.mem_append_left _ (List.mem_append_left _ (List.mem_append_left _ (List.mem_append_left _ (List.mem_append_right _ (h)))))))
abbrev rm_X6_count : Room := { frames := 33, cells := 0, slots := 0, locals := 1564 }
set_option maxHeartbeats 4000000 in
set_option maxRecDepth 100000 in
theorem c_X6_count (l : Launch) (D : va_G) (C : C3) (N : Nat) (S0 : Hp) (z : Nat) (a0 : Nat) (x1 : Int32) (r : Int32) (S9 : Hp) (hg : f_X6_count N S0 a0 x1 = some (r, S9)) : MetI l yX6_count wsX6_count rm_X6_count D C S0 z [.ref a0, .int x1] r S9 z 0 0 := by
  refine mw_ofW (cc := cX6_count) (maxL := 3) (ret := (some .int)) (lv := [(0, .ref a0), (1, .int x1)]) (by decide) rfl (Nat.le_of_ble_eq_true rfl) rfl ?_
  intro p e s m below meth c ls hx hb hr hts hown hlk hml hnm hl hw
  have hown : s.vm.findClass RX6 = some m.cls := hown
  have B10 : ∀ (S : Hp) (H : Heap) (locs : List Loc) (ls : Array Slot), f_X6_count_b10 N a0 x1 S = some (r, S9) → Wd D C (va_A (wP C S0) z) s.heap S z H locs s → lv_has ls 3 [] → W p l e rm_X6_count s m ([.ref a0, .int x1] : List Value).toArray below meth c H locs 0 0 (MQ below (QiW D C S0 z r S9 z) ([.ref a0, .int x1] : List Value).toArray s 0 0 (va_A (wP C S0) z)) (F0 m 10 ls []) := by
    intro S H locs ls hg hw hl
    unfold f_X6_count_b10 at hg
    exact absurd hg (by simp)
  have B0 : ∀ (S : Hp) (H : Heap) (locs : List Loc) (ls : Array Slot), f_X6_count N S a0 x1 = some (r, S9) → Wd D C (va_A (wP C S0) z) s.heap S z H locs s → lv_has ls 3 [(0, .ref a0), (1, .int x1)] → W p l e rm_X6_count s m ([.ref a0, .int x1] : List Value).toArray below meth c H locs 0 0 (MQ below (QiW D C S0 z r S9 z) ([.ref a0, .int x1] : List Value).toArray s 0 0 (va_A (wP C S0) z)) (F0 m 0 ls []) := by
    intro S H locs ls hg hw hl
    unfold f_X6_count at hg
    refine lv_iload_n hx hb dX6_count_0 rfl (lv_at hl 1 rfl) ?_
    refine lv_if_lt (tgt := 10) hx hb dX6_count_1 (by decide) (fun c10 => ?_) (fun c10 => ?_)
    · have hg := it_pos hg c10
      exact B10 _ _ _ _ hg hw (lv_sub hl [] rfl)
    · have hg := it_neg hg c10
      refine lv_iload_n hx hb dX6_count_4 rfl (lv_at hl 1 rfl) ?_
      refine lv_bipush (v := (16 : Int32)) hx hb dX6_count_5 (by decide) ?_
      refine lv_icmp_lt (tgt := 20) hx hb dX6_count_7 (by decide) (fun c11 => ?_) (fun c11 => ?_)
      · have hg := it_pos hg c11
        refine lv_aload_n hx hb dX6_count_20 rfl (lv_at hl 0 rfl) ?_
        obtain ⟨hok12, hg⟩ := gd_some hg
        obtain ⟨r13, hr13, hg⟩ := nn_some hg
        refine wr_get (K := RX6) (T := TX6) (N := 7) (index := 12) (ref := "MakerLines") (v := .ref r13) hx hb hts hi_X6_count_X6 hown hw hok12 (wF_6 (S := S) hok12.2) rfl 0 (by decide) (hts _ (List.mem_of_getElem? (i := 3) rfl)) (fun _ h9 => h9) (congrArg (fun o => some (va_rf o)) hr13) dX6_count_21 ?_
        obtain ⟨hok14, hg⟩ := gd_some hg
        obtain ⟨r15, S15, hc15, hg⟩ := cl_some hg
        refine wr_ci (va_runV (As := []) (rest := []) ⟨hx, hb, hml, hown, hts⟩ (c_X4_winner l D C N S z r13 r15 S15 hc15) (cwV 0 hts gX6_count_X4_winner rfl rfl rfl (by decide +kernel) ⟨Nat.le_of_ble_eq_true rfl, Nat.le_of_ble_eq_true rfl⟩) (wd_preV hw hok14 (wF_4 (S := S) hok14.2) rfl) rfl rfl hl.1 rfl (lv_room (Nat.le_of_ble_eq_true rfl)) dX6_count_24 ⟨Nat.zero_le _, Nat.zero_le _⟩) hw (fun H locs hw => ?_)
        refine lv_istore_n (lv' := [(2, .int r15), (0, .ref a0), (1, .int x1)]) hx hb dX6_count_27 rfl hl (by decide) rfl (fun ls hl => ?_)
        refine lv_iload_n hx hb dX6_count_28 rfl (lv_at hl 2 rfl) ?_
        by_cases c19 : x1 = 0
        · have hg := it_pos hg c19
          refine lv_tableIn (tgt := 104) hx hb dX6_count_29 (by rw [c19]; decide) (by rw [c19]; decide) (off := 75) (by rw [c19]; rfl) (by decide) ?_
          refine lv_aload_n hx hb dX6_count_104 rfl (lv_at hl 1 rfl) ?_
          obtain ⟨hok16, hg⟩ := gd_some hg
          obtain ⟨r17, hr17, hg⟩ := nn_some hg
          refine wr_get (K := RX6) (T := TX6) (N := 7) (index := 12) (ref := "MakerLines") (v := .ref r17) hx hb hts hi_X6_count_X6 hown hw hok16 (wF_6 (S := S15) hok16.2) rfl 0 (by decide) (hts _ (List.mem_of_getElem? (i := 3) rfl)) (fun _ h9 => h9) (congrArg (fun o => some (va_rf o)) hr17) dX6_count_105 ?_
          obtain ⟨hok18, hg⟩ := gd_some hg
          refine wr_get (K := RX4) (T := TX4) (N := 10) (index := 62) (ref := "MakerLines$State") (v := .int (hI S15 r17 1)) hx hb hts hi_X6_count_X4 hown hw hok18 (wF_4 (S := S15) hok18.2) rfl 1 (by decide) (hts _ (List.mem_of_getElem? (i := 4) rfl)) (fun _ h9 => h9) rfl dX6_count_108 ?_
          cases hg
          exact wr_iret hx hb hr hw dX6_count_111 hlk
        · have hg := it_neg hg c19
          by_cases c25 : x1 = 1
          · have hg := it_pos hg c25
            refine lv_tableIn (tgt := 112) hx hb dX6_count_29 (by rw [c25]; decide) (by rw [c25]; decide) (off := 83) (by rw [c25]; rfl) (by decide) ?_
            refine lv_aload_n hx hb dX6_count_112 rfl (lv_at hl 1 rfl) ?_
            obtain ⟨hok20, hg⟩ := gd_some hg
            obtain ⟨r21, hr21, hg⟩ := nn_some hg
            refine wr_get (K := RX6) (T := TX6) (N := 7) (index := 12) (ref := "MakerLines") (v := .ref r21) hx hb hts hi_X6_count_X6 hown hw hok20 (wF_6 (S := S15) hok20.2) rfl 0 (by decide) (hts _ (List.mem_of_getElem? (i := 3) rfl)) (fun _ h9 => h9) (congrArg (fun o => some (va_rf o)) hr21) dX6_count_113 ?_
            obtain ⟨hok22, hg⟩ := gd_some hg
            obtain ⟨r23, hr23, hg⟩ := nn_some hg
            refine wr_get (K := RX4) (T := TX4) (N := 10) (index := 66) (ref := "MakerLines$State") (v := .ref r23) hx hb hts hi_X6_count_X4 hown hw hok22 (wF_4 (S := S15) hok22.2) rfl 0 (by decide) (hts _ (List.mem_of_getElem? (i := 5) rfl)) (fun _ h9 => h9) (congrArg (fun o => some (va_rf o)) hr23) dX6_count_116 ?_
            obtain ⟨hok24, hg⟩ := gd_some hg
            refine wr_get (K := RX1) (T := TX1) (N := 6) (index := 70) (ref := "MakerLines$Lines") (v := .int (hI S15 r23 1)) hx hb hts hi_X6_count_X1 hown hw hok24 (wF_1 (S := S15) hok24.2) rfl 1 (by decide) (hts _ (List.mem_of_getElem? (i := 6) rfl)) (fun _ h9 => h9) rfl dX6_count_119 ?_
            cases hg
            exact wr_iret hx hb hr hw dX6_count_122 hlk
          · have hg := it_neg hg c25
            by_cases c31 : x1 = 2
            · have hg := it_pos hg c31
              refine lv_tableIn (tgt := 123) hx hb dX6_count_29 (by rw [c31]; decide) (by rw [c31]; decide) (off := 94) (by rw [c31]; rfl) (by decide) ?_
              refine lv_aload_n hx hb dX6_count_123 rfl (lv_at hl 1 rfl) ?_
              obtain ⟨hok26, hg⟩ := gd_some hg
              obtain ⟨r27, hr27, hg⟩ := nn_some hg
              refine wr_get (K := RX6) (T := TX6) (N := 7) (index := 12) (ref := "MakerLines") (v := .ref r27) hx hb hts hi_X6_count_X6 hown hw hok26 (wF_6 (S := S15) hok26.2) rfl 0 (by decide) (hts _ (List.mem_of_getElem? (i := 3) rfl)) (fun _ h9 => h9) (congrArg (fun o => some (va_rf o)) hr27) dX6_count_124 ?_
              obtain ⟨hok28, hg⟩ := gd_some hg
              obtain ⟨r29, hr29, hg⟩ := nn_some hg
              refine wr_get (K := RX4) (T := TX4) (N := 10) (index := 66) (ref := "MakerLines$State") (v := .ref r29) hx hb hts hi_X6_count_X4 hown hw hok28 (wF_4 (S := S15) hok28.2) rfl 0 (by decide) (hts _ (List.mem_of_getElem? (i := 5) rfl)) (fun _ h9 => h9) (congrArg (fun o => some (va_rf o)) hr29) dX6_count_127 ?_
              obtain ⟨hok30, hg⟩ := gd_some hg
              refine wr_get (K := RX1) (T := TX1) (N := 6) (index := 232) (ref := "MakerLines$Lines") (v := .int (hI S15 r29 3)) hx hb hts hi_X6_count_X1 hown hw hok30 (wF_1 (S := S15) hok30.2) rfl 3 (by decide) (hts _ (List.mem_of_getElem? (i := 7) rfl)) (fun _ h9 => h9) rfl dX6_count_130 ?_
              cases hg
              exact wr_iret hx hb hr hw dX6_count_133 hlk
            · have hg := it_neg hg c31
              by_cases c37 : x1 = 3
              · have hg := it_pos hg c37
                refine lv_tableIn (tgt := 134) hx hb dX6_count_29 (by rw [c37]; decide) (by rw [c37]; decide) (off := 105) (by rw [c37]; rfl) (by decide) ?_
                refine lv_aload_n hx hb dX6_count_134 rfl (lv_at hl 1 rfl) ?_
                obtain ⟨hok32, hg⟩ := gd_some hg
                obtain ⟨r33, hr33, hg⟩ := nn_some hg
                refine wr_get (K := RX6) (T := TX6) (N := 7) (index := 12) (ref := "MakerLines") (v := .ref r33) hx hb hts hi_X6_count_X6 hown hw hok32 (wF_6 (S := S15) hok32.2) rfl 0 (by decide) (hts _ (List.mem_of_getElem? (i := 3) rfl)) (fun _ h9 => h9) (congrArg (fun o => some (va_rf o)) hr33) dX6_count_135 ?_
                obtain ⟨hok34, hg⟩ := gd_some hg
                obtain ⟨r35, hr35, hg⟩ := nn_some hg
                refine wr_get (K := RX4) (T := TX4) (N := 10) (index := 66) (ref := "MakerLines$State") (v := .ref r35) hx hb hts hi_X6_count_X4 hown hw hok34 (wF_4 (S := S15) hok34.2) rfl 0 (by decide) (hts _ (List.mem_of_getElem? (i := 5) rfl)) (fun _ h9 => h9) (congrArg (fun o => some (va_rf o)) hr35) dX6_count_138 ?_
                obtain ⟨hok36, hg⟩ := gd_some hg
                refine wr_get (K := RX1) (T := TX1) (N := 6) (index := 235) (ref := "MakerLines$Lines") (v := .int (hI S15 r35 4)) hx hb hts hi_X6_count_X1 hown hw hok36 (wF_1 (S := S15) hok36.2) rfl 4 (by decide) (hts _ (List.mem_of_getElem? (i := 8) rfl)) (fun _ h9 => h9) rfl dX6_count_141 ?_
                cases hg
                exact wr_iret hx hb hr hw dX6_count_144 hlk
              · have hg := it_neg hg c37
                by_cases c43 : x1 = 4
                · have hg := it_pos hg c43
                  refine lv_tableIn (tgt := 145) hx hb dX6_count_29 (by rw [c43]; decide) (by rw [c43]; decide) (off := 116) (by rw [c43]; rfl) (by decide) ?_
                  refine lv_iload_n hx hb dX6_count_145 rfl (lv_at hl 0 rfl) ?_
                  refine lv_if_ne (tgt := 159) hx hb dX6_count_146 (by decide) (fun c38 => ?_) (fun c38 => ?_)
                  · have hg := it_neg hg c38
                    refine lv_iconst (v := (0 : Int32)) hx hb dX6_count_159 (by decide) ?_
                    cases hg
                    exact wr_iret hx hb hr hw dX6_count_160 hlk
                  · have hg := it_pos hg c38
                    refine lv_aload_n hx hb dX6_count_149 rfl (lv_at hl 1 rfl) ?_
                    obtain ⟨hok39, hg⟩ := gd_some hg
                    obtain ⟨r40, hr40, hg⟩ := nn_some hg
                    refine wr_get (K := RX6) (T := TX6) (N := 7) (index := 12) (ref := "MakerLines") (v := .ref r40) hx hb hts hi_X6_count_X6 hown hw hok39 (wF_6 (S := S15) hok39.2) rfl 0 (by decide) (hts _ (List.mem_of_getElem? (i := 3) rfl)) (fun _ h9 => h9) (congrArg (fun o => some (va_rf o)) hr40) dX6_count_150 ?_
                    obtain ⟨hok41, hg⟩ := gd_some hg
                    obtain ⟨r42, S42, hc42, hg⟩ := cl_some hg
                    refine wr_ci (va_runV (As := []) (rest := []) ⟨hx, hb, hml, hown, hts⟩ (c_X4_mover l D C N S15 z r40 r42 S42 hc42) (cwV 0 hts gX6_count_X4_mover rfl rfl rfl (by decide +kernel) ⟨Nat.le_of_ble_eq_true rfl, Nat.le_of_ble_eq_true rfl⟩) (wd_preV hw hok41 (wF_4 (S := S15) hok41.2) rfl) rfl rfl hl.1 rfl (lv_room (Nat.le_of_ble_eq_true rfl)) dX6_count_153 ⟨Nat.zero_le _, Nat.zero_le _⟩) hw (fun H locs hw => ?_)
                    refine lv_goto (tgt := 160) hx hb dX6_count_156 (by decide) ?_
                    cases hg
                    exact wr_iret hx hb hr hw dX6_count_160 hlk
                · have hg := it_neg hg c43
                  by_cases c44 : x1 = 5
                  · have hg := it_pos hg c44
                    refine lv_tableIn (tgt := 161) hx hb dX6_count_29 (by rw [c44]; decide) (by rw [c44]; decide) (off := 132) (by rw [c44]; rfl) (by decide) ?_
                    refine lv_iload_n hx hb dX6_count_161 rfl (lv_at hl 0 rfl) ?_
                    cases hg
                    exact wr_iret hx hb hr hw dX6_count_162 hlk
                  · have hg := it_neg hg c44
                    by_cases c50 : x1 = 6
                    · have hg := it_pos hg c50
                      refine lv_tableIn (tgt := 163) hx hb dX6_count_29 (by rw [c50]; decide) (by rw [c50]; decide) (off := 134) (by rw [c50]; rfl) (by decide) ?_
                      refine lv_aload_n hx hb dX6_count_163 rfl (lv_at hl 1 rfl) ?_
                      obtain ⟨hok45, hg⟩ := gd_some hg
                      obtain ⟨r46, hr46, hg⟩ := nn_some hg
                      refine wr_get (K := RX6) (T := TX6) (N := 7) (index := 12) (ref := "MakerLines") (v := .ref r46) hx hb hts hi_X6_count_X6 hown hw hok45 (wF_6 (S := S15) hok45.2) rfl 0 (by decide) (hts _ (List.mem_of_getElem? (i := 3) rfl)) (fun _ h9 => h9) (congrArg (fun o => some (va_rf o)) hr46) dX6_count_164 ?_
                      obtain ⟨hok47, hg⟩ := gd_some hg
                      obtain ⟨r48, hr48, hg⟩ := nn_some hg
                      refine wr_get (K := RX4) (T := TX4) (N := 10) (index := 66) (ref := "MakerLines$State") (v := .ref r48) hx hb hts hi_X6_count_X4 hown hw hok47 (wF_4 (S := S15) hok47.2) rfl 0 (by decide) (hts _ (List.mem_of_getElem? (i := 5) rfl)) (fun _ h9 => h9) (congrArg (fun o => some (va_rf o)) hr48) dX6_count_167 ?_
                      obtain ⟨hok49, hg⟩ := gd_some hg
                      refine wr_get (K := RX1) (T := TX1) (N := 6) (index := 238) (ref := "MakerLines$Lines") (v := .int (hI S15 r48 5)) hx hb hts hi_X6_count_X1 hown hw hok49 (wF_1 (S := S15) hok49.2) rfl 5 (by decide) (hts _ (List.mem_of_getElem? (i := 9) rfl)) (fun _ h9 => h9) rfl dX6_count_170 ?_
                      cases hg
                      exact wr_iret hx hb hr hw dX6_count_173 hlk
                    · have hg := it_neg hg c50
                      by_cases c56 : x1 = 7
                      · have hg := it_pos hg c56
                        refine lv_tableIn (tgt := 174) hx hb dX6_count_29 (by rw [c56]; decide) (by rw [c56]; decide) (off := 145) (by rw [c56]; rfl) (by decide) ?_
                        refine lv_iload_n hx hb dX6_count_174 rfl (lv_at hl 0 rfl) ?_
                        refine lv_if_ne (tgt := 188) hx hb dX6_count_175 (by decide) (fun c51 => ?_) (fun c51 => ?_)
                        · have hg := it_neg hg c51
                          refine lv_iconst (v := (-1 : Int32)) hx hb dX6_count_188 (by decide) ?_
                          cases hg
                          exact wr_iret hx hb hr hw dX6_count_189 hlk
                        · have hg := it_pos hg c51
                          refine lv_aload_n hx hb dX6_count_178 rfl (lv_at hl 1 rfl) ?_
                          obtain ⟨hok52, hg⟩ := gd_some hg
                          obtain ⟨r53, hr53, hg⟩ := nn_some hg
                          refine wr_get (K := RX6) (T := TX6) (N := 7) (index := 12) (ref := "MakerLines") (v := .ref r53) hx hb hts hi_X6_count_X6 hown hw hok52 (wF_6 (S := S15) hok52.2) rfl 0 (by decide) (hts _ (List.mem_of_getElem? (i := 3) rfl)) (fun _ h9 => h9) (congrArg (fun o => some (va_rf o)) hr53) dX6_count_179 ?_
                          obtain ⟨hok54, hg⟩ := gd_some hg
                          obtain ⟨r55, S55, hc55, hg⟩ := cl_some hg
                          refine wr_ci (va_runV (As := []) (rest := []) ⟨hx, hb, hml, hown, hts⟩ (c_X4_forcedReply l D C N S15 z r53 r55 S55 hc55) (cwV 0 hts gX6_count_X4_forcedReply rfl rfl rfl (by decide +kernel) ⟨Nat.le_of_ble_eq_true rfl, Nat.le_of_ble_eq_true rfl⟩) (wd_preV hw hok54 (wF_4 (S := S15) hok54.2) rfl) rfl rfl hl.1 rfl (lv_room (Nat.le_of_ble_eq_true rfl)) dX6_count_182 ⟨Nat.zero_le _, Nat.zero_le _⟩) hw (fun H locs hw => ?_)
                          refine lv_goto (tgt := 189) hx hb dX6_count_185 (by decide) ?_
                          cases hg
                          exact wr_iret hx hb hr hw dX6_count_189 hlk
                      · have hg := it_neg hg c56
                        by_cases c59 : x1 = 8
                        · have hg := it_pos hg c59
                          refine lv_tableIn (tgt := 190) hx hb dX6_count_29 (by rw [c59]; decide) (by rw [c59]; decide) (off := 161) (by rw [c59]; rfl) (by decide) ?_
                          refine lv_aload_n hx hb dX6_count_190 rfl (lv_at hl 1 rfl) ?_
                          obtain ⟨hok57, hg⟩ := gd_some hg
                          obtain ⟨r58, S58, hc58, hg⟩ := cl_some hg
                          refine wr_ci (va_runV (As := []) (rest := []) ⟨hx, hb, hml, hown, hts⟩ (c_X6_pairsInPairing l D C N S15 z a0 r58 S58 hc58) (cwV 0 hts gX6_count_X6_pairsInPairing rfl rfl rfl (by decide +kernel) ⟨Nat.le_of_ble_eq_true rfl, Nat.le_of_ble_eq_true rfl⟩) (wd_preV hw hok57 (wF_6 (S := S15) hok57.2) rfl) rfl rfl hl.1 rfl (lv_room (Nat.le_of_ble_eq_true rfl)) dX6_count_191 ⟨Nat.zero_le _, Nat.zero_le _⟩) hw (fun H locs hw => ?_)
                          cases hg
                          exact wr_iret hx hb hr hw dX6_count_194 hlk
                        · have hg := it_neg hg c59
                          by_cases c64 : x1 = 9
                          · have hg := it_pos hg c64
                            refine lv_tableIn (tgt := 195) hx hb dX6_count_29 (by rw [c64]; decide) (by rw [c64]; decide) (off := 166) (by rw [c64]; rfl) (by decide) ?_
                            refine lv_aload_n hx hb dX6_count_195 rfl (lv_at hl 1 rfl) ?_
                            obtain ⟨hok60, hg⟩ := gd_some hg
                            obtain ⟨r61, hr61, hg⟩ := nn_some hg
                            refine wr_get (K := RX6) (T := TX6) (N := 7) (index := 12) (ref := "MakerLines") (v := .ref r61) hx hb hts hi_X6_count_X6 hown hw hok60 (wF_6 (S := S15) hok60.2) rfl 0 (by decide) (hts _ (List.mem_of_getElem? (i := 3) rfl)) (fun _ h9 => h9) (congrArg (fun o => some (va_rf o)) hr61) dX6_count_196 ?_
                            obtain ⟨hok62, hg⟩ := gd_some hg
                            obtain ⟨r63, S63, hc63, hg⟩ := cl_some hg
                            refine wr_ci (va_runV (As := []) (rest := []) ⟨hx, hb, hml, hown, hts⟩ (c_X4_freeCells l D C N S15 z r61 r63 S63 hc63) (cwV 0 hts gX6_count_X4_freeCells rfl rfl rfl (by decide +kernel) ⟨Nat.le_of_ble_eq_true rfl, Nat.le_of_ble_eq_true rfl⟩) (wd_preV hw hok62 (wF_4 (S := S15) hok62.2) rfl) rfl rfl hl.1 rfl (lv_room (Nat.le_of_ble_eq_true rfl)) dX6_count_199 ⟨Nat.zero_le _, Nat.zero_le _⟩) hw (fun H locs hw => ?_)
                            cases hg
                            exact wr_iret hx hb hr hw dX6_count_202 hlk
                          · have hg := it_neg hg c64
                            by_cases c68 : x1 = 10
                            · have hg := it_pos hg c68
                              refine lv_tableIn (tgt := 203) hx hb dX6_count_29 (by rw [c68]; decide) (by rw [c68]; decide) (off := 174) (by rw [c68]; rfl) (by decide) ?_
                              refine lv_aload_n hx hb dX6_count_203 rfl (lv_at hl 1 rfl) ?_
                              obtain ⟨hok65, hg⟩ := gd_some hg
                              obtain ⟨r66, hr66, hg⟩ := nn_some hg
                              refine wr_get (K := RX6) (T := TX6) (N := 7) (index := 12) (ref := "MakerLines") (v := .ref r66) hx hb hts hi_X6_count_X6 hown hw hok65 (wF_6 (S := S15) hok65.2) rfl 0 (by decide) (hts _ (List.mem_of_getElem? (i := 3) rfl)) (fun _ h9 => h9) (congrArg (fun o => some (va_rf o)) hr66) dX6_count_204 ?_
                              obtain ⟨hok67, hg⟩ := gd_some hg
                              refine wr_get (K := RX4) (T := TX4) (N := 10) (index := 247) (ref := "MakerLines$State") (v := .int (hI S15 r66 7)) hx hb hts hi_X6_count_X4 hown hw hok67 (wF_4 (S := S15) hok67.2) rfl 7 (by decide) (hts _ (List.mem_of_getElem? (i := 10) rfl)) (fun _ h9 => h9) rfl dX6_count_207 ?_
                              cases hg
                              exact wr_iret hx hb hr hw dX6_count_210 hlk
                            · have hg := it_neg hg c68
                              by_cases c72 : x1 = 11
                              · have hg := it_pos hg c72
                                refine lv_tableIn (tgt := 211) hx hb dX6_count_29 (by rw [c72]; decide) (by rw [c72]; decide) (off := 182) (by rw [c72]; rfl) (by decide) ?_
                                refine lv_aload_n hx hb dX6_count_211 rfl (lv_at hl 1 rfl) ?_
                                obtain ⟨hok69, hg⟩ := gd_some hg
                                obtain ⟨r70, hr70, hg⟩ := nn_some hg
                                refine wr_get (K := RX6) (T := TX6) (N := 7) (index := 12) (ref := "MakerLines") (v := .ref r70) hx hb hts hi_X6_count_X6 hown hw hok69 (wF_6 (S := S15) hok69.2) rfl 0 (by decide) (hts _ (List.mem_of_getElem? (i := 3) rfl)) (fun _ h9 => h9) (congrArg (fun o => some (va_rf o)) hr70) dX6_count_212 ?_
                                obtain ⟨hok71, hg⟩ := gd_some hg
                                refine wr_get (K := RX4) (T := TX4) (N := 10) (index := 250) (ref := "MakerLines$State") (v := .int (hI S15 r70 8)) hx hb hts hi_X6_count_X4 hown hw hok71 (wF_4 (S := S15) hok71.2) rfl 8 (by decide) (hts _ (List.mem_of_getElem? (i := 11) rfl)) (fun _ h9 => h9) rfl dX6_count_215 ?_
                                cases hg
                                exact wr_iret hx hb hr hw dX6_count_218 hlk
                              · have hg := it_neg hg c72
                                by_cases c76 : x1 = 12
                                · have hg := it_pos hg c76
                                  refine lv_tableIn (tgt := 219) hx hb dX6_count_29 (by rw [c76]; decide) (by rw [c76]; decide) (off := 190) (by rw [c76]; rfl) (by decide) ?_
                                  refine lv_aload_n hx hb dX6_count_219 rfl (lv_at hl 1 rfl) ?_
                                  obtain ⟨hok73, hg⟩ := gd_some hg
                                  obtain ⟨r74, hr74, hg⟩ := nn_some hg
                                  refine wr_get (K := RX6) (T := TX6) (N := 7) (index := 12) (ref := "MakerLines") (v := .ref r74) hx hb hts hi_X6_count_X6 hown hw hok73 (wF_6 (S := S15) hok73.2) rfl 0 (by decide) (hts _ (List.mem_of_getElem? (i := 3) rfl)) (fun _ h9 => h9) (congrArg (fun o => some (va_rf o)) hr74) dX6_count_220 ?_
                                  obtain ⟨hok75, hg⟩ := gd_some hg
                                  refine wr_get (K := RX4) (T := TX4) (N := 10) (index := 253) (ref := "MakerLines$State") (v := .int (hI S15 r74 9)) hx hb hts hi_X6_count_X4 hown hw hok75 (wF_4 (S := S15) hok75.2) rfl 9 (by decide) (hts _ (List.mem_of_getElem? (i := 12) rfl)) (fun _ h9 => h9) rfl dX6_count_223 ?_
                                  cases hg
                                  exact wr_iret hx hb hr hw dX6_count_226 hlk
                                · have hg := it_neg hg c76
                                  by_cases c80 : x1 = 13
                                  · have hg := it_pos hg c80
                                    refine lv_tableIn (tgt := 227) hx hb dX6_count_29 (by rw [c80]; decide) (by rw [c80]; decide) (off := 198) (by rw [c80]; rfl) (by decide) ?_
                                    refine lv_aload_n hx hb dX6_count_227 rfl (lv_at hl 1 rfl) ?_
                                    obtain ⟨hok77, hg⟩ := gd_some hg
                                    obtain ⟨r78, hr78, hg⟩ := nn_some hg
                                    refine wr_get (K := RX6) (T := TX6) (N := 7) (index := 12) (ref := "MakerLines") (v := .ref r78) hx hb hts hi_X6_count_X6 hown hw hok77 (wF_6 (S := S15) hok77.2) rfl 0 (by decide) (hts _ (List.mem_of_getElem? (i := 3) rfl)) (fun _ h9 => h9) (congrArg (fun o => some (va_rf o)) hr78) dX6_count_228 ?_
                                    obtain ⟨hok79, hg⟩ := gd_some hg
                                    refine wr_get (K := RX4) (T := TX4) (N := 10) (index := 256) (ref := "MakerLines$State") (v := .int (hI S15 r78 5)) hx hb hts hi_X6_count_X4 hown hw hok79 (wF_4 (S := S15) hok79.2) rfl 5 (by decide) (hts _ (List.mem_of_getElem? (i := 13) rfl)) (fun _ h9 => h9) rfl dX6_count_231 ?_
                                    cases hg
                                    exact wr_iret hx hb hr hw dX6_count_234 hlk
                                  · have hg := it_neg hg c80
                                    by_cases c83 : x1 = 14
                                    · have hg := it_pos hg c83
                                      refine lv_tableIn (tgt := 235) hx hb dX6_count_29 (by rw [c83]; decide) (by rw [c83]; decide) (off := 206) (by rw [c83]; rfl) (by decide) ?_
                                      refine lv_aload_n hx hb dX6_count_235 rfl (lv_at hl 1 rfl) ?_
                                      obtain ⟨hok81, hg⟩ := gd_some hg
                                      obtain ⟨r82, S82, hc82, hg⟩ := cl_some hg
                                      refine wr_ci (va_runV (As := []) (rest := []) ⟨hx, hb, hml, hown, hts⟩ (c_X6_snapshotsTaken l D C N S15 z a0 r82 S82 hc82) (cwV 0 hts gX6_count_X6_snapshotsTaken rfl rfl rfl (by decide +kernel) ⟨Nat.le_of_ble_eq_true rfl, Nat.le_of_ble_eq_true rfl⟩) (wd_preV hw hok81 (wF_6 (S := S15) hok81.2) rfl) rfl rfl hl.1 rfl (lv_room (Nat.le_of_ble_eq_true rfl)) dX6_count_236 ⟨Nat.zero_le _, Nat.zero_le _⟩) hw (fun H locs hw => ?_)
                                      cases hg
                                      exact wr_iret hx hb hr hw dX6_count_239 hlk
                                    · have hg := it_neg hg c83
                                      refine lv_tableOut (tgt := 240) hx hb dX6_count_29 (sw_out 14 (by decide) (fun j hj => ?_)) (by decide) ?_
                                      · rcases (show j = 0 ∨ j = 1 ∨ j = 2 ∨ j = 3 ∨ j = 4 ∨ j = 5 ∨ j = 6 ∨ j = 7 ∨ j = 8 ∨ j = 9 ∨ j = 10 ∨ j = 11 ∨ j = 12 ∨ j = 13 ∨ j = 14 by omega) with rfl | rfl | rfl | rfl | rfl | rfl | rfl | rfl | rfl | rfl | rfl | rfl | rfl | rfl | rfl
                                        · exact c19
                                        · exact c25
                                        · exact c31
                                        · exact c37
                                        · exact c43
                                        · exact c44
                                        · exact c50
                                        · exact c56
                                        · exact c59
                                        · exact c64
                                        · exact c68
                                        · exact c72
                                        · exact c76
                                        · exact c80
                                        · exact c83
                                      refine lv_aload_n hx hb dX6_count_240 rfl (lv_at hl 1 rfl) ?_
                                      obtain ⟨hok84, hg⟩ := gd_some hg
                                      obtain ⟨r85, hr85, hg⟩ := nn_some hg
                                      refine wr_get (K := RX6) (T := TX6) (N := 7) (index := 22) (ref := "MakerLines") (v := .ref r85) hx hb hts hi_X6_count_X6 hown hw hok84 (wF_6 (S := S15) hok84.2) rfl 2 (by decide) (hts _ (List.mem_of_getElem? (i := 14) rfl)) (fun _ h9 => h9) (congrArg (fun o => some (va_rf o)) hr85) dX6_count_241 ?_
                                      obtain ⟨hok86, hg⟩ := gd_some hg
                                      refine wr_get (K := RX0) (T := TX0) (N := 2) (index := 195) (ref := "MakerLines$History") (v := .int (hI S15 r85 1)) hx hb hts hi_X6_count_X0 hown hw hok86 (wF_0 (S := S15) hok86.2) rfl 1 (by decide) (hts _ (List.mem_of_getElem? (i := 15) rfl)) (fun _ h9 => h9) rfl dX6_count_244 ?_
                                      cases hg
                                      exact wr_iret hx hb hr hw dX6_count_247 hlk
      · have hg := it_neg hg c11
        exact B10 _ _ _ _ hg hw (lv_sub hl [] rfl)
  exact B0 S0 _ _ _ hg hw hl
theorem hi_X6_weightShare_X6 : ∀ w ∈ wsX60, w ∈ wsX6_weightShare := fun _ h => List.mem_cons_of_mem _ (List.mem_append_left _ (List.mem_append_left _ (List.mem_append_right _ (h))))
abbrev rm_X6_weightShare : Room := { frames := 3, cells := 0, slots := 0, locals := 66 }
set_option maxHeartbeats 4000000 in
set_option maxRecDepth 100000 in
theorem c_X6_weightShare (l : Launch) (D : va_G) (C : C3) (N : Nat) (S0 : Hp) (z : Nat) (a0 : Nat) (r : UInt64) (S9 : Hp) (hg : f_X6_weightShare N S0 a0 = some (r, S9)) : MetF l yX6_weightShare wsX6_weightShare rm_X6_weightShare D C S0 z [.ref a0] r S9 z 0 0 := by
  refine mw_ofW (cc := cX6_weightShare) (maxL := 1) (ret := (some .double)) (lv := [(0, .ref a0)]) (by decide) rfl (Nat.le_of_ble_eq_true rfl) rfl ?_
  intro p e s m below meth c ls hx hb hr hts hown hlk hml hnm hl hw
  have hown : s.vm.findClass RX6 = some m.cls := hown
  have B0 : ∀ (S : Hp) (H : Heap) (locs : List Loc) (ls : Array Slot), f_X6_weightShare N S a0 = some (r, S9) → Wd D C (va_A (wP C S0) z) s.heap S z H locs s → lv_has ls 1 [(0, .ref a0)] → W p l e rm_X6_weightShare s m ([.ref a0] : List Value).toArray below meth c H locs 0 0 (MQ below (QdW D C S0 z r S9 z) ([.ref a0] : List Value).toArray s 0 0 (va_A (wP C S0) z)) (F0 m 0 ls []) := by
    intro S H locs ls hg hw hl
    unfold f_X6_weightShare at hg
    refine lv_aload_n hx hb dX6_weightShare_0 rfl (lv_at hl 0 rfl) ?_
    obtain ⟨hok10, hg⟩ := gd_some hg
    obtain ⟨r11, hr11, hg⟩ := nn_some hg
    refine wr_get (K := RX6) (T := TX6) (N := 7) (index := 12) (ref := "MakerLines") (v := .ref r11) hx hb hts hi_X6_weightShare_X6 hown hw hok10 (wF_6 (S := S) hok10.2) rfl 0 (by decide) (hts _ (List.mem_of_getElem? (i := 1) rfl)) (fun _ h9 => h9) (congrArg (fun o => some (va_rf o)) hr11) dX6_weightShare_1 ?_
    obtain ⟨hok12, hg⟩ := gd_some hg
    obtain ⟨r13, S13, hc13, hg⟩ := cl_some hg
    refine wr_ci (va_runV (As := []) (rest := []) ⟨hx, hb, hml, hown, hts⟩ (c_X4_weight l D C N S z r11 r13 S13 hc13) (cwV 0 hts gX6_weightShare_X4_weight rfl rfl rfl (by decide +kernel) ⟨Nat.le_of_ble_eq_true rfl, Nat.le_of_ble_eq_true rfl⟩) (wd_preV hw hok12 (wF_4 (S := S) hok12.2) rfl) rfl rfl hl.1 rfl (lv_room (Nat.le_of_ble_eq_true rfl)) dX6_weightShare_4 ⟨Nat.zero_le _, Nat.zero_le _⟩) hw (fun H locs hw => ?_)
    refine lv_i2d hx hb dX6_weightShare_7 ?_
    refine lv_ldc2d (own := RX6) (index := 264) (v := (4652218415073722368 : UInt64)) hx hb hown (hts _ (List.mem_of_getElem? (i := 2) rfl)) dX6_weightShare_8 ?_
    obtain ⟨hn14, hg⟩ := gd_some hg
    refine lv_ddiv hx hb dX6_weightShare_11 hn14 ?_
    cases hg
    exact wr_dret hx hb hr hw dX6_weightShare_12 hlk
  exact B0 S0 _ _ _ hg hw hl
