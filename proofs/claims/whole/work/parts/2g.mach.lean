theorem hi_X7_threats_X7 : ∀ w ∈ wsX70, w ∈ wsX7_threats := fun _ h => List.mem_cons_of_mem _ (List.mem_append_right _ (h))
abbrev rm_X7_threats : Room := { frames := 3, cells := 0, slots := 0, locals := 61 }
set_option maxHeartbeats 4000000 in
set_option maxRecDepth 100000 in
theorem c_X7_threats (l : Launch) (D : va_G) (C : C3) (N : Nat) (S0 : Hp) (z : Nat) (a0 : Nat) (r : Int32) (S9 : Hp) (hg : f_X7_threats N S0 a0 = some (r, S9)) : MetI l yX7_threats wsX7_threats rm_X7_threats D C S0 z [.ref a0] r S9 z 0 0 := by
  refine mw_ofW (cc := cX7_threats) (maxL := 3) (ret := (some .int)) (lv := [(0, .ref a0)]) (by decide) rfl (Nat.le_of_ble_eq_true rfl) rfl ?_
  intro p e s m below meth c ls hx hb hr hts hown hlk hml hnm hl hw
  have hown : s.vm.findClass RX7 = some m.cls := hown
  have B4 : ∀ (K4 : Hp → Int32 → Int32 → Option (Int32 × Hp)) (hK4 : ∀ (S : Hp) (v1 : Int32) (v2 : Int32) (H : Heap) (locs : List Loc) (ls : Array Slot), K4 S v1 v2 = some (r, S9) → Wd D C (va_A (wP C S0) z) s.heap S z H locs s → lv_has ls 3 [(0, .ref a0), (1, .int v1), (2, .int v2)] → W p l e rm_X7_threats s m ([.ref a0] : List Value).toArray below meth c H locs 0 0 (MQ below (QiW D C S0 z r S9 z) ([.ref a0] : List Value).toArray s 0 0 (va_A (wP C S0) z)) (F0 m 4 ls [])) (S : Hp) (v1 : Int32) (v2 : Int32) (H : Heap) (locs : List Loc) (ls : Array Slot), f_X7_threats_b4 N a0 K4 S v1 v2 = some (r, S9) → Wd D C (va_A (wP C S0) z) s.heap S z H locs s → lv_has ls 3 [(0, .ref a0), (1, .int v1), (2, .int v2)] → W p l e rm_X7_threats s m ([.ref a0] : List Value).toArray below meth c H locs 0 0 (MQ below (QiW D C S0 z r S9 z) ([.ref a0] : List Value).toArray s 0 0 (va_A (wP C S0) z)) (F0 m 4 ls []) := by
    intro K4 hK4 S v1 v2 H locs ls hg hw hl
    unfold f_X7_threats_b4 at hg
    refine lv_iload_n hx hb dX7_threats_4 rfl (lv_at hl 2 rfl) ?_
    refine lv_aload_n hx hb dX7_threats_5 rfl (lv_at hl 0 rfl) ?_
    obtain ⟨hok10, hg⟩ := gd_some hg
    obtain ⟨r11, hr11, hg⟩ := nn_some hg
    refine wr_get (K := RX7) (T := TX7) (N := 20) (index := 7) (ref := "MakerLinesModel") (v := .ref r11) hx hb hts hi_X7_threats_X7 hown hw hok10 (wF_7 (S := S) hok10.2) rfl 0 (by decide) (hts _ (List.mem_of_getElem? (i := 1) rfl)) (fun _ h9 => h9) (congrArg (fun o => some (va_rf o)) hr11) dX7_threats_6 ?_
    refine lv_iconst (v := (2 : Int32)) hx hb dX7_threats_9 (by decide) ?_
    obtain ⟨hok12, hg⟩ := gd_some hg
    obtain ⟨hin13, hg⟩ := gd_some hg
    refine wr_iald hx hb hw hok12 (inb_vp hin13) dX7_threats_10 ?_
    refine lv_icmp_ge (tgt := 52) hx hb dX7_threats_11 (by decide) (fun c14 => ?_) (fun c14 => ?_)
    · have hg := it_pos hg c14
      refine lv_iload_n hx hb dX7_threats_52 rfl (lv_at hl 1 rfl) ?_
      cases hg
      exact wr_iret hx hb hr hw dX7_threats_53 hlk
    · have hg := it_neg hg c14
      refine lv_iload_n hx hb dX7_threats_14 rfl (lv_at hl 1 rfl) ?_
      refine lv_aload_n hx hb dX7_threats_15 rfl (lv_at hl 0 rfl) ?_
      refine lv_iload_n hx hb dX7_threats_16 rfl (lv_at hl 2 rfl) ?_
      obtain ⟨r15, S15, hc15, hg⟩ := cl_some hg
      refine wr_ci (va_runV (As := [.int v2]) (rest := [.int v1]) ⟨hx, hb, hml, hown, hts⟩ (c_X7_isDead l D C N S z a0 v2 r15 S15 hc15) (cwV 1 hts gX7_threats_X7_isDead rfl rfl rfl (by decide +kernel) ⟨Nat.le_of_ble_eq_true rfl, Nat.le_of_ble_eq_true rfl⟩) (wd_preV hw hok10 (wF_7 (S := S) hok10.2) rfl) rfl rfl hl.1 rfl (lv_room (Nat.le_of_ble_eq_true rfl)) dX7_threats_17 ⟨Nat.zero_le _, Nat.zero_le _⟩) hw (fun H locs hw => ?_)
      refine lv_if_ne (tgt := 43) hx hb dX7_threats_20 (by decide) (fun c16 => ?_) (fun c16 => ?_)
      · have hg := it_neg hg c16
        refine lv_iconst (v := (0 : Int32)) hx hb dX7_threats_43 (by decide) ?_
        refine lv_ior hx hb dX7_threats_44 ?_
        refine lv_istore_n (lv' := [(1, .int (v1 ||| (0 : Int32))), (0, .ref a0), (2, .int v2)]) hx hb dX7_threats_45 rfl hl (by decide) rfl (fun ls hl => ?_)
        refine lv_iinc (v := (v2 + (1 : Int32))) (lv' := [(2, .int (v2 + (1 : Int32))), (1, .int (v1 ||| (0 : Int32))), (0, .ref a0)]) hx hb dX7_threats_46 hl (k := 2) rfl rfl (by decide) rfl (fun ls hl => ?_)
        refine lv_goto (tgt := 4) hx hb dX7_threats_49 (by decide) ?_
        exact hK4 _ _ _ _ _ _ hg hw (lv_sub hl [2, 1, 0] rfl)
      · have hg := it_pos hg c16
        refine lv_aload_n hx hb dX7_threats_23 rfl (lv_at hl 0 rfl) ?_
        refine lv_iload_n hx hb dX7_threats_24 rfl (lv_at hl 2 rfl) ?_
        obtain ⟨hok17, hg⟩ := gd_some hg
        obtain ⟨r18, S18, hc18, hg⟩ := cl_some hg
        refine wr_ci (va_runV (As := [.int v2]) (rest := [.int v1]) ⟨hx, hb, hml, hown, hts⟩ (c_X7_freeOf l D C N S15 z a0 v2 r18 S18 hc18) (cwV 1 hts gX7_threats_X7_freeOf rfl rfl rfl (by decide +kernel) ⟨Nat.le_of_ble_eq_true rfl, Nat.le_of_ble_eq_true rfl⟩) (wd_preV hw hok17 (wF_7 (S := S15) hok17.2) rfl) rfl rfl hl.1 rfl (lv_room (Nat.le_of_ble_eq_true rfl)) dX7_threats_25 ⟨Nat.zero_le _, Nat.zero_le _⟩) hw (fun H locs hw => ?_)
        obtain ⟨r19, S19, hc19, hg⟩ := cl_some hg
        refine wr_ci (va_runS (As := [.int r18]) (rest := [.int v1]) ⟨hx, hb, hml, hown, hts⟩ (c_X7_ones l D C N S18 z r18 r19 S19 hc19) (va_cwS 1 hts gX7_threats_X7_ones rfl rfl rfl (by decide +kernel) ⟨Nat.le_of_ble_eq_true rfl, Nat.le_of_ble_eq_true rfl⟩) (wd_preS hw) rfl rfl hl.1 rfl (lv_room (Nat.le_of_ble_eq_true rfl)) dX7_threats_28 ⟨Nat.zero_le _, Nat.zero_le _⟩) hw (fun H locs hw => ?_)
        refine lv_iconst (v := (1 : Int32)) hx hb dX7_threats_31 (by decide) ?_
        refine lv_icmp_ne (tgt := 43) hx hb dX7_threats_32 (by decide) (fun c20 => ?_) (fun c20 => ?_)
        · have hg := it_neg hg c20
          refine lv_iconst (v := (0 : Int32)) hx hb dX7_threats_43 (by decide) ?_
          refine lv_ior hx hb dX7_threats_44 ?_
          refine lv_istore_n (lv' := [(1, .int (v1 ||| (0 : Int32))), (0, .ref a0), (2, .int v2)]) hx hb dX7_threats_45 rfl hl (by decide) rfl (fun ls hl => ?_)
          refine lv_iinc (v := (v2 + (1 : Int32))) (lv' := [(2, .int (v2 + (1 : Int32))), (1, .int (v1 ||| (0 : Int32))), (0, .ref a0)]) hx hb dX7_threats_46 hl (k := 2) rfl rfl (by decide) rfl (fun ls hl => ?_)
          refine lv_goto (tgt := 4) hx hb dX7_threats_49 (by decide) ?_
          exact hK4 _ _ _ _ _ _ hg hw (lv_sub hl [2, 1, 0] rfl)
        · have hg := it_pos hg c20
          refine lv_aload_n hx hb dX7_threats_35 rfl (lv_at hl 0 rfl) ?_
          refine lv_iload_n hx hb dX7_threats_36 rfl (lv_at hl 2 rfl) ?_
          obtain ⟨hok21, hg⟩ := gd_some hg
          obtain ⟨r22, S22, hc22, hg⟩ := cl_some hg
          refine wr_ci (va_runV (As := [.int v2]) (rest := [.int v1]) ⟨hx, hb, hml, hown, hts⟩ (c_X7_freeOf l D C N S19 z a0 v2 r22 S22 hc22) (cwV 1 hts gX7_threats_X7_freeOf rfl rfl rfl (by decide +kernel) ⟨Nat.le_of_ble_eq_true rfl, Nat.le_of_ble_eq_true rfl⟩) (wd_preV hw hok21 (wF_7 (S := S19) hok21.2) rfl) rfl rfl hl.1 rfl (lv_room (Nat.le_of_ble_eq_true rfl)) dX7_threats_37 ⟨Nat.zero_le _, Nat.zero_le _⟩) hw (fun H locs hw => ?_)
          refine lv_goto (tgt := 44) hx hb dX7_threats_40 (by decide) ?_
          refine lv_ior hx hb dX7_threats_44 ?_
          refine lv_istore_n (lv' := [(1, .int (v1 ||| r22)), (0, .ref a0), (2, .int v2)]) hx hb dX7_threats_45 rfl hl (by decide) rfl (fun ls hl => ?_)
          refine lv_iinc (v := (v2 + (1 : Int32))) (lv' := [(2, .int (v2 + (1 : Int32))), (1, .int (v1 ||| r22)), (0, .ref a0)]) hx hb dX7_threats_46 hl (k := 2) rfl rfl (by decide) rfl (fun ls hl => ?_)
          refine lv_goto (tgt := 4) hx hb dX7_threats_49 (by decide) ?_
          exact hK4 _ _ _ _ _ _ hg hw (lv_sub hl [2, 1, 0] rfl)
  have L4 : ∀ (k : Nat) (S : Hp) (v1 : Int32) (v2 : Int32) (H : Heap) (locs : List Loc) (ls : Array Slot), f_X7_threats_l4 N a0 k S v1 v2 = some (r, S9) → Wd D C (va_A (wP C S0) z) s.heap S z H locs s → lv_has ls 3 [(0, .ref a0), (1, .int v1), (2, .int v2)] → W p l e rm_X7_threats s m ([.ref a0] : List Value).toArray below meth c H locs 0 0 (MQ below (QiW D C S0 z r S9 z) ([.ref a0] : List Value).toArray s 0 0 (va_A (wP C S0) z)) (F0 m 4 ls []) := by
    intro k
    induction k with
    | zero => intro S v1 v2 H locs ls hg hw hl; exact absurd (show (none : Option (Int32 × Hp)) = some (r, S9) from hg) (by simp)
    | succ k ih => intro S v1 v2 H locs ls hg hw hl; exact B4 (f_X7_threats_l4 N a0 k) ih S v1 v2 H locs ls hg hw hl
  have B0 : ∀ (S : Hp) (H : Heap) (locs : List Loc) (ls : Array Slot), f_X7_threats N S a0 = some (r, S9) → Wd D C (va_A (wP C S0) z) s.heap S z H locs s → lv_has ls 3 [(0, .ref a0)] → W p l e rm_X7_threats s m ([.ref a0] : List Value).toArray below meth c H locs 0 0 (MQ below (QiW D C S0 z r S9 z) ([.ref a0] : List Value).toArray s 0 0 (va_A (wP C S0) z)) (F0 m 0 ls []) := by
    intro S H locs ls hg hw hl
    unfold f_X7_threats at hg
    refine lv_iconst (v := (0 : Int32)) hx hb dX7_threats_0 (by decide) ?_
    refine lv_istore_n (lv' := [(1, .int (0 : Int32)), (0, .ref a0)]) hx hb dX7_threats_1 rfl hl (by decide) rfl (fun ls hl => ?_)
    refine lv_iconst (v := (0 : Int32)) hx hb dX7_threats_2 (by decide) ?_
    refine lv_istore_n (lv' := [(2, .int (0 : Int32)), (1, .int (0 : Int32)), (0, .ref a0)]) hx hb dX7_threats_3 rfl hl (by decide) rfl (fun ls hl => ?_)
    exact L4 N _ _ _ _ _ _ hg hw (lv_sub hl [2, 1, 0] rfl)
  exact B0 S0 _ _ _ hg hw hl
abbrev rm_X7_lowest : Room := { frames := 1, cells := 0, slots := 0, locals := 21 }
set_option maxHeartbeats 4000000 in
set_option maxRecDepth 100000 in
theorem c_X7_lowest (l : Launch) (D : va_G) (C : C3) (N : Nat) (S0 : Hp) (z : Nat) (a0 : Nat) (x1 : Int32) (r : Int32) (S9 : Hp) (hg : f_X7_lowest N S0 a0 x1 = some (r, S9)) : MetI l yX7_lowest wsX7_lowest rm_X7_lowest D C S0 z [.ref a0, .int x1] r S9 z 0 0 := by
  refine mw_ofW (cc := cX7_lowest) (maxL := 3) (ret := (some .int)) (lv := [(0, .ref a0), (1, .int x1)]) (by decide) rfl (Nat.le_of_ble_eq_true rfl) rfl ?_
  intro p e s m below meth c ls hx hb hr hts hown hlk hml hnm hl hw
  have hown : s.vm.findClass RX7 = some m.cls := hown
  have B22 : ∀ (S : Hp) (v2 : Int32) (H : Heap) (locs : List Loc) (ls : Array Slot), f_X7_lowest_b22 N a0 x1 S v2 = some (r, S9) → Wd D C (va_A (wP C S0) z) s.heap S z H locs s → lv_has ls 3 [(2, .int v2)] → W p l e rm_X7_lowest s m ([.ref a0, .int x1] : List Value).toArray below meth c H locs 0 0 (MQ below (QiW D C S0 z r S9 z) ([.ref a0, .int x1] : List Value).toArray s 0 0 (va_A (wP C S0) z)) (F0 m 22 ls []) := by
    intro S v2 H locs ls hg hw hl
    unfold f_X7_lowest_b22 at hg
    refine lv_iload_n hx hb dX7_lowest_22 rfl (lv_at hl 0 rfl) ?_
    refine lv_bipush (v := (10 : Int32)) hx hb dX7_lowest_23 (by decide) ?_
    refine lv_icmp_ne (tgt := 32) hx hb dX7_lowest_25 (by decide) (fun c13 => ?_) (fun c13 => ?_)
    · have hg := it_neg hg c13
      refine lv_iload_n hx hb dX7_lowest_32 rfl (lv_at hl 0 rfl) ?_
      cases hg
      exact wr_iret hx hb hr hw dX7_lowest_33 hlk
    · have hg := it_pos hg c13
      refine lv_iconst (v := (-1 : Int32)) hx hb dX7_lowest_28 (by decide) ?_
      refine lv_goto (tgt := 33) hx hb dX7_lowest_29 (by decide) ?_
      cases hg
      exact wr_iret hx hb hr hw dX7_lowest_33 hlk
  have B2 : ∀ (K2 : Hp → Int32 → Option (Int32 × Hp)) (hK2 : ∀ (S : Hp) (v2 : Int32) (H : Heap) (locs : List Loc) (ls : Array Slot), K2 S v2 = some (r, S9) → Wd D C (va_A (wP C S0) z) s.heap S z H locs s → lv_has ls 3 [(1, .int x1), (2, .int v2)] → W p l e rm_X7_lowest s m ([.ref a0, .int x1] : List Value).toArray below meth c H locs 0 0 (MQ below (QiW D C S0 z r S9 z) ([.ref a0, .int x1] : List Value).toArray s 0 0 (va_A (wP C S0) z)) (F0 m 2 ls [])) (S : Hp) (v2 : Int32) (H : Heap) (locs : List Loc) (ls : Array Slot), f_X7_lowest_b2 N a0 x1 K2 S v2 = some (r, S9) → Wd D C (va_A (wP C S0) z) s.heap S z H locs s → lv_has ls 3 [(1, .int x1), (2, .int v2)] → W p l e rm_X7_lowest s m ([.ref a0, .int x1] : List Value).toArray below meth c H locs 0 0 (MQ below (QiW D C S0 z r S9 z) ([.ref a0, .int x1] : List Value).toArray s 0 0 (va_A (wP C S0) z)) (F0 m 2 ls []) := by
    intro K2 hK2 S v2 H locs ls hg hw hl
    unfold f_X7_lowest_b2 at hg
    refine lv_iload_n hx hb dX7_lowest_2 rfl (lv_at hl 1 rfl) ?_
    refine lv_bipush (v := (10 : Int32)) hx hb dX7_lowest_3 (by decide) ?_
    refine lv_icmp_ge (tgt := 22) hx hb dX7_lowest_5 (by decide) (fun c10 => ?_) (fun c10 => ?_)
    · have hg := it_pos hg c10
      exact B22 _ _ _ _ _ hg hw (lv_sub hl [1] rfl)
    · have hg := it_neg hg c10
      refine lv_iload_n hx hb dX7_lowest_8 rfl (lv_at hl 0 rfl) ?_
      refine lv_iload_n hx hb dX7_lowest_9 rfl (lv_at hl 1 rfl) ?_
      obtain ⟨r11, S11, hc11, hg⟩ := cl_some hg
      refine wr_ci (va_runS (As := [.int x1, .int v2]) (rest := []) ⟨hx, hb, hml, hown, hts⟩ (c_X7_has l D C N S z x1 v2 r11 S11 hc11) (va_cwS 2 hts gX7_lowest_X7_has rfl rfl rfl (by decide +kernel) ⟨Nat.le_of_ble_eq_true rfl, Nat.le_of_ble_eq_true rfl⟩) (wd_preS hw) rfl rfl hl.1 rfl (lv_room (Nat.le_of_ble_eq_true rfl)) dX7_lowest_10 ⟨Nat.zero_le _, Nat.zero_le _⟩) hw (fun H locs hw => ?_)
      refine lv_if_ne (tgt := 22) hx hb dX7_lowest_13 (by decide) (fun c12 => ?_) (fun c12 => ?_)
      · have hg := it_neg hg c12
        exact B22 _ _ _ _ _ hg hw (lv_sub hl [1] rfl)
      · have hg := it_pos hg c12
        refine lv_iinc (v := (v2 + (1 : Int32))) (lv' := [(2, .int (v2 + (1 : Int32))), (1, .int x1)]) hx hb dX7_lowest_16 hl (k := 1) rfl rfl (by decide) rfl (fun ls hl => ?_)
        refine lv_goto (tgt := 2) hx hb dX7_lowest_19 (by decide) ?_
        exact hK2 _ _ _ _ _ hg hw (lv_sub hl [1, 0] rfl)
  have L2 : ∀ (k : Nat) (S : Hp) (v2 : Int32) (H : Heap) (locs : List Loc) (ls : Array Slot), f_X7_lowest_l2 N a0 x1 k S v2 = some (r, S9) → Wd D C (va_A (wP C S0) z) s.heap S z H locs s → lv_has ls 3 [(1, .int x1), (2, .int v2)] → W p l e rm_X7_lowest s m ([.ref a0, .int x1] : List Value).toArray below meth c H locs 0 0 (MQ below (QiW D C S0 z r S9 z) ([.ref a0, .int x1] : List Value).toArray s 0 0 (va_A (wP C S0) z)) (F0 m 2 ls []) := by
    intro k
    induction k with
    | zero => intro S v2 H locs ls hg hw hl; exact absurd (show (none : Option (Int32 × Hp)) = some (r, S9) from hg) (by simp)
    | succ k ih => intro S v2 H locs ls hg hw hl; exact B2 (f_X7_lowest_l2 N a0 x1 k) ih S v2 H locs ls hg hw hl
  have B0 : ∀ (S : Hp) (H : Heap) (locs : List Loc) (ls : Array Slot), f_X7_lowest N S a0 x1 = some (r, S9) → Wd D C (va_A (wP C S0) z) s.heap S z H locs s → lv_has ls 3 [(0, .ref a0), (1, .int x1)] → W p l e rm_X7_lowest s m ([.ref a0, .int x1] : List Value).toArray below meth c H locs 0 0 (MQ below (QiW D C S0 z r S9 z) ([.ref a0, .int x1] : List Value).toArray s 0 0 (va_A (wP C S0) z)) (F0 m 0 ls []) := by
    intro S H locs ls hg hw hl
    unfold f_X7_lowest at hg
    refine lv_iconst (v := (0 : Int32)) hx hb dX7_lowest_0 (by decide) ?_
    refine lv_istore_n (lv' := [(2, .int (0 : Int32)), (0, .ref a0), (1, .int x1)]) hx hb dX7_lowest_1 rfl hl (by decide) rfl (fun ls hl => ?_)
    exact L2 N _ _ _ _ _ hg hw (lv_sub hl [2, 0] rfl)
  exact B0 S0 _ _ _ hg hw hl
abbrev rm_X7_forced : Room := { frames := 4, cells := 0, slots := 0, locals := 83 }
set_option maxHeartbeats 4000000 in
set_option maxRecDepth 100000 in
theorem c_X7_forced (l : Launch) (D : va_G) (C : C3) (N : Nat) (S0 : Hp) (z : Nat) (a0 : Nat) (r : Int32) (S9 : Hp) (hg : f_X7_forced N S0 a0 = some (r, S9)) : MetI l yX7_forced wsX7_forced rm_X7_forced D C S0 z [.ref a0] r S9 z 0 0 := by
  refine mw_ofW (cc := cX7_forced) (maxL := 1) (ret := (some .int)) (lv := [(0, .ref a0)]) (by decide) rfl (Nat.le_of_ble_eq_true rfl) rfl ?_
  intro p e s m below meth c ls hx hb hr hts hown hlk hml hnm hl hw
  have hown : s.vm.findClass RX7 = some m.cls := hown
  have B0 : ∀ (S : Hp) (H : Heap) (locs : List Loc) (ls : Array Slot), f_X7_forced N S a0 = some (r, S9) → Wd D C (va_A (wP C S0) z) s.heap S z H locs s → lv_has ls 1 [(0, .ref a0)] → W p l e rm_X7_forced s m ([.ref a0] : List Value).toArray below meth c H locs 0 0 (MQ below (QiW D C S0 z r S9 z) ([.ref a0] : List Value).toArray s 0 0 (va_A (wP C S0) z)) (F0 m 0 ls []) := by
    intro S H locs ls hg hw hl
    unfold f_X7_forced at hg
    refine lv_aload_n hx hb dX7_forced_0 rfl (lv_at hl 0 rfl) ?_
    obtain ⟨hok10, hg⟩ := gd_some hg
    obtain ⟨r11, S11, hc11, hg⟩ := cl_some hg
    refine wr_ci (va_runV (As := []) (rest := []) ⟨hx, hb, hml, hown, hts⟩ (c_X7_winnerNow l D C N S z a0 r11 S11 hc11) (cwV 0 hts gX7_forced_X7_winnerNow rfl rfl rfl (by decide +kernel) ⟨Nat.le_of_ble_eq_true rfl, Nat.le_of_ble_eq_true rfl⟩) (wd_preV hw hok10 (wF_7 (S := S) hok10.2) rfl) rfl rfl hl.1 rfl (lv_room (Nat.le_of_ble_eq_true rfl)) dX7_forced_1 ⟨Nat.zero_le _, Nat.zero_le _⟩) hw (fun H locs hw => ?_)
    refine lv_if_ne (tgt := 18) hx hb dX7_forced_4 (by decide) (fun c12 => ?_) (fun c12 => ?_)
    · have hg := it_neg hg c12
      refine lv_iconst (v := (-1 : Int32)) hx hb dX7_forced_18 (by decide) ?_
      cases hg
      exact wr_iret hx hb hr hw dX7_forced_19 hlk
    · have hg := it_pos hg c12
      refine lv_aload_n hx hb dX7_forced_7 rfl (lv_at hl 0 rfl) ?_
      refine lv_aload_n hx hb dX7_forced_8 rfl (lv_at hl 0 rfl) ?_
      obtain ⟨hok13, hg⟩ := gd_some hg
      obtain ⟨r14, S14, hc14, hg⟩ := cl_some hg
      refine wr_ci (va_runV (As := []) (rest := [.ref a0]) ⟨hx, hb, hml, hown, hts⟩ (c_X7_threats l D C N S11 z a0 r14 S14 hc14) (cwV 0 hts gX7_forced_X7_threats rfl rfl rfl (by decide +kernel) ⟨Nat.le_of_ble_eq_true rfl, Nat.le_of_ble_eq_true rfl⟩) (wd_preV hw hok13 (wF_7 (S := S11) hok13.2) rfl) rfl rfl hl.1 rfl (lv_room (Nat.le_of_ble_eq_true rfl)) dX7_forced_9 ⟨Nat.zero_le _, Nat.zero_le _⟩) hw (fun H locs hw => ?_)
      obtain ⟨hok15, hg⟩ := gd_some hg
      obtain ⟨r16, S16, hc16, hg⟩ := cl_some hg
      refine wr_ci (va_runV (As := [.int r14]) (rest := []) ⟨hx, hb, hml, hown, hts⟩ (c_X7_lowest l D C N S14 z a0 r14 r16 S16 hc16) (cwV 1 hts gX7_forced_X7_lowest rfl rfl rfl (by decide +kernel) ⟨Nat.le_of_ble_eq_true rfl, Nat.le_of_ble_eq_true rfl⟩) (wd_preV hw hok15 (wF_7 (S := S14) hok15.2) rfl) rfl rfl hl.1 rfl (lv_room (Nat.le_of_ble_eq_true rfl)) dX7_forced_12 ⟨Nat.zero_le _, Nat.zero_le _⟩) hw (fun H locs hw => ?_)
      refine lv_goto (tgt := 19) hx hb dX7_forced_15 (by decide) ?_
      cases hg
      exact wr_iret hx hb hr hw dX7_forced_19 hlk
  exact B0 S0 _ _ _ hg hw hl
theorem hi_X7_hasPair_X7 : ∀ w ∈ wsX70, w ∈ wsX7_hasPair := fun _ h => List.mem_cons_of_mem _ (List.mem_append_right _ (h))
abbrev rm_X7_hasPair : Room := { frames := 1, cells := 0, slots := 0, locals := 21 }
set_option maxHeartbeats 4000000 in
set_option maxRecDepth 100000 in
theorem c_X7_hasPair (l : Launch) (D : va_G) (C : C3) (N : Nat) (S0 : Hp) (z : Nat) (a0 : Nat) (x1 : Int32) (r : Int32) (S9 : Hp) (hg : f_X7_hasPair N S0 a0 x1 = some (r, S9)) : MetI l yX7_hasPair wsX7_hasPair rm_X7_hasPair D C S0 z [.ref a0, .int x1] r S9 z 0 0 := by
  refine mw_ofW (cc := cX7_hasPair) (maxL := 4) (ret := (some .boolean)) (lv := [(0, .ref a0), (1, .int x1)]) (by decide) rfl (Nat.le_of_ble_eq_true rfl) rfl ?_
  intro p e s m below meth c ls hx hb hr hts hown hlk hml hnm hl hw
  have hown : s.vm.findClass RX7 = some m.cls := hown
  have B4 : ∀ (K4 : Hp → Int32 → Int32 → Option (Int32 × Hp)) (hK4 : ∀ (S : Hp) (v2 : Int32) (v3 : Int32) (H : Heap) (locs : List Loc) (ls : Array Slot), K4 S v2 v3 = some (r, S9) → Wd D C (va_A (wP C S0) z) s.heap S z H locs s → lv_has ls 4 [(0, .ref a0), (1, .int x1), (2, .int v2), (3, .int v3)] → W p l e rm_X7_hasPair s m ([.ref a0, .int x1] : List Value).toArray below meth c H locs 0 0 (MQ below (QiW D C S0 z r S9 z) ([.ref a0, .int x1] : List Value).toArray s 0 0 (va_A (wP C S0) z)) (F0 m 4 ls [])) (S : Hp) (v2 : Int32) (v3 : Int32) (H : Heap) (locs : List Loc) (ls : Array Slot), f_X7_hasPair_b4 N a0 x1 K4 S v2 v3 = some (r, S9) → Wd D C (va_A (wP C S0) z) s.heap S z H locs s → lv_has ls 4 [(0, .ref a0), (1, .int x1), (2, .int v2), (3, .int v3)] → W p l e rm_X7_hasPair s m ([.ref a0, .int x1] : List Value).toArray below meth c H locs 0 0 (MQ below (QiW D C S0 z r S9 z) ([.ref a0, .int x1] : List Value).toArray s 0 0 (va_A (wP C S0) z)) (F0 m 4 ls []) := by
    intro K4 hK4 S v2 v3 H locs ls hg hw hl
    unfold f_X7_hasPair_b4 at hg
    refine lv_iload_n hx hb dX7_hasPair_4 rfl (lv_at hl 3 rfl) ?_
    refine lv_aload_n hx hb dX7_hasPair_5 rfl (lv_at hl 0 rfl) ?_
    obtain ⟨hok10, hg⟩ := gd_some hg
    obtain ⟨r11, hr11, hg⟩ := nn_some hg
    refine wr_get (K := RX7) (T := TX7) (N := 20) (index := 7) (ref := "MakerLinesModel") (v := .ref r11) hx hb hts hi_X7_hasPair_X7 hown hw hok10 (wF_7 (S := S) hok10.2) rfl 0 (by decide) (hts _ (List.mem_of_getElem? (i := 1) rfl)) (fun _ h9 => h9) (congrArg (fun o => some (va_rf o)) hr11) dX7_hasPair_6 ?_
    refine lv_iconst (v := (0 : Int32)) hx hb dX7_hasPair_9 (by decide) ?_
    obtain ⟨hok12, hg⟩ := gd_some hg
    obtain ⟨hin13, hg⟩ := gd_some hg
    refine wr_iald hx hb hw hok12 (inb_vp hin13) dX7_hasPair_10 ?_
    refine lv_icmp_ge (tgt := 77) hx hb dX7_hasPair_11 (by decide) (fun c14 => ?_) (fun c14 => ?_)
    · have hg := it_pos hg c14
      refine lv_iload_n hx hb dX7_hasPair_77 rfl (lv_at hl 2 rfl) ?_
      obtain ⟨hz15, hg⟩ := gd_some hg
      cases hg
      exact wr_zret hx hb hr hz15 hw dX7_hasPair_78 hlk
    · have hg := it_neg hg c14
      refine lv_iload_n hx hb dX7_hasPair_14 rfl (lv_at hl 2 rfl) ?_
      refine lv_if_ne (tgt := 65) hx hb dX7_hasPair_15 (by decide) (fun c16 => ?_) (fun c16 => ?_)
      · have hg := it_neg hg c16
        refine lv_iconst (v := (1 : Int32)) hx hb dX7_hasPair_65 (by decide) ?_
        refine lv_goto (tgt := 70) hx hb dX7_hasPair_66 (by decide) ?_
        refine lv_istore_n (lv' := [(2, .int (1 : Int32)), (0, .ref a0), (1, .int x1), (3, .int v3)]) hx hb dX7_hasPair_70 rfl hl (by decide) rfl (fun ls hl => ?_)
        refine lv_iinc (v := (v3 + (1 : Int32))) (lv' := [(3, .int (v3 + (1 : Int32))), (2, .int (1 : Int32)), (0, .ref a0), (1, .int x1)]) hx hb dX7_hasPair_71 hl (k := 3) rfl rfl (by decide) rfl (fun ls hl => ?_)
        refine lv_goto (tgt := 4) hx hb dX7_hasPair_74 (by decide) ?_
        exact hK4 _ _ _ _ _ _ hg hw (lv_sub hl [2, 3, 1, 0] rfl)
      · have hg := it_pos hg c16
        refine lv_aload_n hx hb dX7_hasPair_18 rfl (lv_at hl 0 rfl) ?_
        refine wr_get (K := RX7) (T := TX7) (N := 20) (index := 7) (ref := "MakerLinesModel") (v := .ref r11) hx hb hts hi_X7_hasPair_X7 hown hw hok10 (wF_7 (S := S) hok10.2) rfl 0 (by decide) (hts _ (List.mem_of_getElem? (i := 1) rfl)) (fun _ h9 => h9) (congrArg (fun o => some (va_rf o)) hr11) dX7_hasPair_19 ?_
        refine lv_bipush (v := (10 : Int32)) hx hb dX7_hasPair_22 (by decide) ?_
        refine lv_iload_n hx hb dX7_hasPair_24 rfl (lv_at hl 1 rfl) ?_
        refine lv_iadd hx hb dX7_hasPair_25 ?_
        obtain ⟨hin17, hg⟩ := gd_some hg
        refine wr_iald hx hb hw hok12 (inb_vp hin17) dX7_hasPair_26 ?_
        refine lv_iload_n hx hb dX7_hasPair_27 rfl (lv_at hl 3 rfl) ?_
        obtain ⟨r18, S18, hc18, hg⟩ := cl_some hg
        refine wr_ci (va_runS (As := [.int (hI S r11 ((10 : Int32) + x1).toNatClampNeg), .int v3]) (rest := []) ⟨hx, hb, hml, hown, hts⟩ (c_X7_has l D C N S z ((hI S r11 ((10 : Int32) + x1).toNatClampNeg)) v3 r18 S18 hc18) (va_cwS 2 hts gX7_hasPair_X7_has rfl rfl rfl (by decide +kernel) ⟨Nat.le_of_ble_eq_true rfl, Nat.le_of_ble_eq_true rfl⟩) (wd_preS hw) rfl rfl hl.1 rfl (lv_room (Nat.le_of_ble_eq_true rfl)) dX7_hasPair_28 ⟨Nat.zero_le _, Nat.zero_le _⟩) hw (fun H locs hw => ?_)
        refine lv_if_eq (tgt := 69) hx hb dX7_hasPair_31 (by decide) (fun c19 => ?_) (fun c19 => ?_)
        · have hg := it_pos hg c19
          refine lv_iconst (v := (0 : Int32)) hx hb dX7_hasPair_69 (by decide) ?_
          refine lv_istore_n (lv' := [(2, .int (0 : Int32)), (0, .ref a0), (1, .int x1), (3, .int v3)]) hx hb dX7_hasPair_70 rfl hl (by decide) rfl (fun ls hl => ?_)
          refine lv_iinc (v := (v3 + (1 : Int32))) (lv' := [(3, .int (v3 + (1 : Int32))), (2, .int (0 : Int32)), (0, .ref a0), (1, .int x1)]) hx hb dX7_hasPair_71 hl (k := 3) rfl rfl (by decide) rfl (fun ls hl => ?_)
          refine lv_goto (tgt := 4) hx hb dX7_hasPair_74 (by decide) ?_
          exact hK4 _ _ _ _ _ _ hg hw (lv_sub hl [2, 3, 1, 0] rfl)
        · have hg := it_neg hg c19
          refine lv_aload_n hx hb dX7_hasPair_34 rfl (lv_at hl 0 rfl) ?_
          obtain ⟨hok20, hg⟩ := gd_some hg
          obtain ⟨r21, hr21, hg⟩ := nn_some hg
          refine wr_get (K := RX7) (T := TX7) (N := 20) (index := 25) (ref := "MakerLinesModel") (v := .ref r21) hx hb hts hi_X7_hasPair_X7 hown hw hok20 (wF_7 (S := S18) hok20.2) rfl 8 (by decide) (hts _ (List.mem_of_getElem? (i := 2) rfl)) (fun _ h9 => h9) (congrArg (fun o => some (va_rf o)) hr21) dX7_hasPair_35 ?_
          refine lv_iload_n hx hb dX7_hasPair_38 rfl (lv_at hl 3 rfl) ?_
          obtain ⟨hok22, hg⟩ := gd_some hg
          obtain ⟨hin23, hg⟩ := gd_some hg
          refine wr_iald hx hb hw hok22 (inb_vp hin23) dX7_hasPair_39 ?_
          refine lv_iconst (v := (-1 : Int32)) hx hb dX7_hasPair_40 (by decide) ?_
          refine lv_icmp_eq (tgt := 69) hx hb dX7_hasPair_41 (by decide) (fun c24 => ?_) (fun c24 => ?_)
          · have hg := it_pos hg c24
            refine lv_iconst (v := (0 : Int32)) hx hb dX7_hasPair_69 (by decide) ?_
            refine lv_istore_n (lv' := [(2, .int (0 : Int32)), (0, .ref a0), (1, .int x1), (3, .int v3)]) hx hb dX7_hasPair_70 rfl hl (by decide) rfl (fun ls hl => ?_)
            refine lv_iinc (v := (v3 + (1 : Int32))) (lv' := [(3, .int (v3 + (1 : Int32))), (2, .int (0 : Int32)), (0, .ref a0), (1, .int x1)]) hx hb dX7_hasPair_71 hl (k := 3) rfl rfl (by decide) rfl (fun ls hl => ?_)
            refine lv_goto (tgt := 4) hx hb dX7_hasPair_74 (by decide) ?_
            exact hK4 _ _ _ _ _ _ hg hw (lv_sub hl [2, 3, 1, 0] rfl)
          · have hg := it_neg hg c24
            refine lv_aload_n hx hb dX7_hasPair_44 rfl (lv_at hl 0 rfl) ?_
            obtain ⟨r25, hr25, hg⟩ := nn_some hg
            refine wr_get (K := RX7) (T := TX7) (N := 20) (index := 7) (ref := "MakerLinesModel") (v := .ref r25) hx hb hts hi_X7_hasPair_X7 hown hw hok20 (wF_7 (S := S18) hok20.2) rfl 0 (by decide) (hts _ (List.mem_of_getElem? (i := 1) rfl)) (fun _ h9 => h9) (congrArg (fun o => some (va_rf o)) hr25) dX7_hasPair_45 ?_
            refine lv_bipush (v := (10 : Int32)) hx hb dX7_hasPair_48 (by decide) ?_
            refine lv_iload_n hx hb dX7_hasPair_50 rfl (lv_at hl 1 rfl) ?_
            refine lv_iadd hx hb dX7_hasPair_51 ?_
            obtain ⟨hok26, hg⟩ := gd_some hg
            obtain ⟨hin27, hg⟩ := gd_some hg
            refine wr_iald hx hb hw hok26 (inb_vp hin27) dX7_hasPair_52 ?_
            refine lv_aload_n hx hb dX7_hasPair_53 rfl (lv_at hl 0 rfl) ?_
            refine wr_get (K := RX7) (T := TX7) (N := 20) (index := 25) (ref := "MakerLinesModel") (v := .ref r21) hx hb hts hi_X7_hasPair_X7 hown hw hok20 (wF_7 (S := S18) hok20.2) rfl 8 (by decide) (hts _ (List.mem_of_getElem? (i := 2) rfl)) (fun _ h9 => h9) (congrArg (fun o => some (va_rf o)) hr21) dX7_hasPair_54 ?_
            refine lv_iload_n hx hb dX7_hasPair_57 rfl (lv_at hl 3 rfl) ?_
            refine wr_iald hx hb hw hok22 (inb_vp hin23) dX7_hasPair_58 ?_
            obtain ⟨r28, S28, hc28, hg⟩ := cl_some hg
            refine wr_ci (va_runS (As := [.int (hI S18 r25 ((10 : Int32) + x1).toNatClampNeg), .int (hI S18 r21 v3.toNatClampNeg)]) (rest := []) ⟨hx, hb, hml, hown, hts⟩ (c_X7_has l D C N S18 z ((hI S18 r25 ((10 : Int32) + x1).toNatClampNeg)) ((hI S18 r21 v3.toNatClampNeg)) r28 S28 hc28) (va_cwS 2 hts gX7_hasPair_X7_has rfl rfl rfl (by decide +kernel) ⟨Nat.le_of_ble_eq_true rfl, Nat.le_of_ble_eq_true rfl⟩) (wd_preS hw) rfl rfl hl.1 rfl (lv_room (Nat.le_of_ble_eq_true rfl)) dX7_hasPair_59 ⟨Nat.zero_le _, Nat.zero_le _⟩) hw (fun H locs hw => ?_)
            refine lv_if_eq (tgt := 69) hx hb dX7_hasPair_62 (by decide) (fun c29 => ?_) (fun c29 => ?_)
            · have hg := it_pos hg c29
              refine lv_iconst (v := (0 : Int32)) hx hb dX7_hasPair_69 (by decide) ?_
              refine lv_istore_n (lv' := [(2, .int (0 : Int32)), (0, .ref a0), (1, .int x1), (3, .int v3)]) hx hb dX7_hasPair_70 rfl hl (by decide) rfl (fun ls hl => ?_)
              refine lv_iinc (v := (v3 + (1 : Int32))) (lv' := [(3, .int (v3 + (1 : Int32))), (2, .int (0 : Int32)), (0, .ref a0), (1, .int x1)]) hx hb dX7_hasPair_71 hl (k := 3) rfl rfl (by decide) rfl (fun ls hl => ?_)
              refine lv_goto (tgt := 4) hx hb dX7_hasPair_74 (by decide) ?_
              exact hK4 _ _ _ _ _ _ hg hw (lv_sub hl [2, 3, 1, 0] rfl)
            · have hg := it_neg hg c29
              refine lv_iconst (v := (1 : Int32)) hx hb dX7_hasPair_65 (by decide) ?_
              refine lv_goto (tgt := 70) hx hb dX7_hasPair_66 (by decide) ?_
              refine lv_istore_n (lv' := [(2, .int (1 : Int32)), (0, .ref a0), (1, .int x1), (3, .int v3)]) hx hb dX7_hasPair_70 rfl hl (by decide) rfl (fun ls hl => ?_)
              refine lv_iinc (v := (v3 + (1 : Int32))) (lv' := [(3, .int (v3 + (1 : Int32))), (2, .int (1 : Int32)), (0, .ref a0), (1, .int x1)]) hx hb dX7_hasPair_71 hl (k := 3) rfl rfl (by decide) rfl (fun ls hl => ?_)
              refine lv_goto (tgt := 4) hx hb dX7_hasPair_74 (by decide) ?_
              exact hK4 _ _ _ _ _ _ hg hw (lv_sub hl [2, 3, 1, 0] rfl)
  have L4 : ∀ (k : Nat) (S : Hp) (v2 : Int32) (v3 : Int32) (H : Heap) (locs : List Loc) (ls : Array Slot), f_X7_hasPair_l4 N a0 x1 k S v2 v3 = some (r, S9) → Wd D C (va_A (wP C S0) z) s.heap S z H locs s → lv_has ls 4 [(0, .ref a0), (1, .int x1), (2, .int v2), (3, .int v3)] → W p l e rm_X7_hasPair s m ([.ref a0, .int x1] : List Value).toArray below meth c H locs 0 0 (MQ below (QiW D C S0 z r S9 z) ([.ref a0, .int x1] : List Value).toArray s 0 0 (va_A (wP C S0) z)) (F0 m 4 ls []) := by
    intro k
    induction k with
    | zero => intro S v2 v3 H locs ls hg hw hl; exact absurd (show (none : Option (Int32 × Hp)) = some (r, S9) from hg) (by simp)
    | succ k ih => intro S v2 v3 H locs ls hg hw hl; exact B4 (f_X7_hasPair_l4 N a0 x1 k) ih S v2 v3 H locs ls hg hw hl
  have B0 : ∀ (S : Hp) (H : Heap) (locs : List Loc) (ls : Array Slot), f_X7_hasPair N S a0 x1 = some (r, S9) → Wd D C (va_A (wP C S0) z) s.heap S z H locs s → lv_has ls 4 [(0, .ref a0), (1, .int x1)] → W p l e rm_X7_hasPair s m ([.ref a0, .int x1] : List Value).toArray below meth c H locs 0 0 (MQ below (QiW D C S0 z r S9 z) ([.ref a0, .int x1] : List Value).toArray s 0 0 (va_A (wP C S0) z)) (F0 m 0 ls []) := by
    intro S H locs ls hg hw hl
    unfold f_X7_hasPair at hg
    refine lv_iconst (v := (0 : Int32)) hx hb dX7_hasPair_0 (by decide) ?_
    refine lv_istore_n (lv' := [(2, .int (0 : Int32)), (0, .ref a0), (1, .int x1)]) hx hb dX7_hasPair_1 rfl hl (by decide) rfl (fun ls hl => ?_)
    refine lv_iconst (v := (0 : Int32)) hx hb dX7_hasPair_2 (by decide) ?_
    refine lv_istore_n (lv' := [(3, .int (0 : Int32)), (2, .int (0 : Int32)), (0, .ref a0), (1, .int x1)]) hx hb dX7_hasPair_3 rfl hl (by decide) rfl (fun ls hl => ?_)
    exact L4 N _ _ _ _ _ _ hg hw (lv_sub hl [2, 3, 1, 0] rfl)
  exact B0 S0 _ _ _ hg hw hl
theorem hi_X7_isLoose_X7 : ∀ w ∈ wsX70, w ∈ wsX7_isLoose := fun _ h => List.mem_cons_of_mem _ (List.mem_append_right _ (h))
abbrev rm_X7_isLoose : Room := { frames := 3, cells := 0, slots := 0, locals := 61 }
set_option maxHeartbeats 4000000 in
set_option maxRecDepth 100000 in
theorem c_X7_isLoose (l : Launch) (D : va_G) (C : C3) (N : Nat) (S0 : Hp) (z : Nat) (a0 : Nat) (x1 : Int32) (x2 : Int32) (r : Int32) (S9 : Hp) (hg : f_X7_isLoose N S0 a0 x1 x2 = some (r, S9)) : MetI l yX7_isLoose wsX7_isLoose rm_X7_isLoose D C S0 z [.ref a0, .int x1, .int x2] r S9 z 0 0 := by
  refine mw_ofW (cc := cX7_isLoose) (maxL := 3) (ret := (some .boolean)) (lv := [(0, .ref a0), (1, .int x1), (2, .int x2)]) (by decide) rfl (Nat.le_of_ble_eq_true rfl) rfl ?_
  intro p e s m below meth c ls hx hb hr hts hown hlk hml hnm hl hw
  have hown : s.vm.findClass RX7 = some m.cls := hown
  have B0 : ∀ (S : Hp) (H : Heap) (locs : List Loc) (ls : Array Slot), f_X7_isLoose N S a0 x1 x2 = some (r, S9) → Wd D C (va_A (wP C S0) z) s.heap S z H locs s → lv_has ls 3 [(0, .ref a0), (1, .int x1), (2, .int x2)] → W p l e rm_X7_isLoose s m ([.ref a0, .int x1, .int x2] : List Value).toArray below meth c H locs 0 0 (MQ below (QiW D C S0 z r S9 z) ([.ref a0, .int x1, .int x2] : List Value).toArray s 0 0 (va_A (wP C S0) z)) (F0 m 0 ls []) := by
    intro S H locs ls hg hw hl
    unfold f_X7_isLoose at hg
    refine lv_iload_n hx hb dX7_isLoose_0 rfl (lv_at hl 2 rfl) ?_
    refine lv_aload_n hx hb dX7_isLoose_1 rfl (lv_at hl 0 rfl) ?_
    obtain ⟨hok10, hg⟩ := gd_some hg
    obtain ⟨r11, hr11, hg⟩ := nn_some hg
    refine wr_get (K := RX7) (T := TX7) (N := 20) (index := 7) (ref := "MakerLinesModel") (v := .ref r11) hx hb hts hi_X7_isLoose_X7 hown hw hok10 (wF_7 (S := S) hok10.2) rfl 0 (by decide) (hts _ (List.mem_of_getElem? (i := 1) rfl)) (fun _ h9 => h9) (congrArg (fun o => some (va_rf o)) hr11) dX7_isLoose_2 ?_
    refine lv_iconst (v := (0 : Int32)) hx hb dX7_isLoose_5 (by decide) ?_
    obtain ⟨hok12, hg⟩ := gd_some hg
    obtain ⟨hin13, hg⟩ := gd_some hg
    refine wr_iald hx hb hw hok12 (inb_vp hin13) dX7_isLoose_6 ?_
    refine lv_icmp_ge (tgt := 36) hx hb dX7_isLoose_7 (by decide) (fun c14 => ?_) (fun c14 => ?_)
    · have hg := it_pos hg c14
      refine lv_iconst (v := (0 : Int32)) hx hb dX7_isLoose_36 (by decide) ?_
      cases hg
      exact wr_zret hx hb hr (by decide) hw dX7_isLoose_37 hlk
    · have hg := it_neg hg c14
      refine lv_aload_n hx hb dX7_isLoose_10 rfl (lv_at hl 0 rfl) ?_
      refine lv_iload_n hx hb dX7_isLoose_11 rfl (lv_at hl 1 rfl) ?_
      obtain ⟨r15, S15, hc15, hg⟩ := cl_some hg
      refine wr_ci (va_runV (As := [.int x1]) (rest := []) ⟨hx, hb, hml, hown, hts⟩ (c_X7_freeOf l D C N S z a0 x1 r15 S15 hc15) (cwV 1 hts gX7_isLoose_X7_freeOf rfl rfl rfl (by decide +kernel) ⟨Nat.le_of_ble_eq_true rfl, Nat.le_of_ble_eq_true rfl⟩) (wd_preV hw hok10 (wF_7 (S := S) hok10.2) rfl) rfl rfl hl.1 rfl (lv_room (Nat.le_of_ble_eq_true rfl)) dX7_isLoose_12 ⟨Nat.zero_le _, Nat.zero_le _⟩) hw (fun H locs hw => ?_)
      refine lv_iload_n hx hb dX7_isLoose_15 rfl (lv_at hl 2 rfl) ?_
      obtain ⟨r16, S16, hc16, hg⟩ := cl_some hg
      refine wr_ci (va_runS (As := [.int r15, .int x2]) (rest := []) ⟨hx, hb, hml, hown, hts⟩ (c_X7_has l D C N S15 z r15 x2 r16 S16 hc16) (va_cwS 2 hts gX7_isLoose_X7_has rfl rfl rfl (by decide +kernel) ⟨Nat.le_of_ble_eq_true rfl, Nat.le_of_ble_eq_true rfl⟩) (wd_preS hw) rfl rfl hl.1 rfl (lv_room (Nat.le_of_ble_eq_true rfl)) dX7_isLoose_16 ⟨Nat.zero_le _, Nat.zero_le _⟩) hw (fun H locs hw => ?_)
      refine lv_if_eq (tgt := 36) hx hb dX7_isLoose_19 (by decide) (fun c17 => ?_) (fun c17 => ?_)
      · have hg := it_pos hg c17
        refine lv_iconst (v := (0 : Int32)) hx hb dX7_isLoose_36 (by decide) ?_
        cases hg
        exact wr_zret hx hb hr (by decide) hw dX7_isLoose_37 hlk
      · have hg := it_neg hg c17
        refine lv_aload_n hx hb dX7_isLoose_22 rfl (lv_at hl 0 rfl) ?_
        obtain ⟨hok18, hg⟩ := gd_some hg
        obtain ⟨r19, hr19, hg⟩ := nn_some hg
        refine wr_get (K := RX7) (T := TX7) (N := 20) (index := 25) (ref := "MakerLinesModel") (v := .ref r19) hx hb hts hi_X7_isLoose_X7 hown hw hok18 (wF_7 (S := S16) hok18.2) rfl 8 (by decide) (hts _ (List.mem_of_getElem? (i := 2) rfl)) (fun _ h9 => h9) (congrArg (fun o => some (va_rf o)) hr19) dX7_isLoose_23 ?_
        refine lv_iload_n hx hb dX7_isLoose_26 rfl (lv_at hl 2 rfl) ?_
        obtain ⟨hok20, hg⟩ := gd_some hg
        obtain ⟨hin21, hg⟩ := gd_some hg
        refine wr_iald hx hb hw hok20 (inb_vp hin21) dX7_isLoose_27 ?_
        refine lv_iconst (v := (-1 : Int32)) hx hb dX7_isLoose_28 (by decide) ?_
        refine lv_icmp_ne (tgt := 36) hx hb dX7_isLoose_29 (by decide) (fun c22 => ?_) (fun c22 => ?_)
        · have hg := it_neg hg c22
          refine lv_iconst (v := (0 : Int32)) hx hb dX7_isLoose_36 (by decide) ?_
          cases hg
          exact wr_zret hx hb hr (by decide) hw dX7_isLoose_37 hlk
        · have hg := it_pos hg c22
          refine lv_iconst (v := (1 : Int32)) hx hb dX7_isLoose_32 (by decide) ?_
          refine lv_goto (tgt := 37) hx hb dX7_isLoose_33 (by decide) ?_
          cases hg
          exact wr_zret hx hb hr (by decide) hw dX7_isLoose_37 hlk
  exact B0 S0 _ _ _ hg hw hl
theorem hi_X7_unpair_X7 : ∀ w ∈ wsX70, w ∈ wsX7_unpair := fun _ h => List.mem_cons_of_mem _ (List.mem_append_right _ (h))
abbrev rm_X7_unpair : Room := { frames := 0, cells := 0, slots := 0, locals := 0 }
set_option maxHeartbeats 4000000 in
set_option maxRecDepth 100000 in
theorem c_X7_unpair (l : Launch) (D : va_G) (C : C3) (N : Nat) (S0 : Hp) (z : Nat) (a0 : Nat) (x1 : Int32) (r : Unit) (S9 : Hp) (hg : f_X7_unpair N S0 a0 x1 = some (r, S9)) : MetV l yX7_unpair wsX7_unpair rm_X7_unpair D C S0 z [.ref a0, .int x1] r S9 z 0 0 := by
  refine mw_ofW (cc := cX7_unpair) (maxL := 2) (ret := none) (lv := [(0, .ref a0), (1, .int x1)]) (by decide) rfl (Nat.le_of_ble_eq_true rfl) rfl ?_
  intro p e s m below meth c ls hx hb hr hts hown hlk hml hnm hl hw
  have hown : s.vm.findClass RX7 = some m.cls := hown
  have B0 : ∀ (S : Hp) (H : Heap) (locs : List Loc) (ls : Array Slot), f_X7_unpair N S a0 x1 = some (r, S9) → Wd D C (va_A (wP C S0) z) s.heap S z H locs s → lv_has ls 2 [(0, .ref a0), (1, .int x1)] → W p l e rm_X7_unpair s m ([.ref a0, .int x1] : List Value).toArray below meth c H locs 0 0 (MQ below (QvW D C S0 z r S9 z) ([.ref a0, .int x1] : List Value).toArray s 0 0 (va_A (wP C S0) z)) (F0 m 0 ls []) := by
    intro S H locs ls hg hw hl
    unfold f_X7_unpair at hg
    refine lv_aload_n hx hb dX7_unpair_0 rfl (lv_at hl 0 rfl) ?_
    obtain ⟨hok10, hg⟩ := gd_some hg
    obtain ⟨r11, hr11, hg⟩ := nn_some hg
    refine wr_get (K := RX7) (T := TX7) (N := 20) (index := 28) (ref := "MakerLinesModel") (v := .ref r11) hx hb hts hi_X7_unpair_X7 hown hw hok10 (wF_7 (S := S) hok10.2) rfl 9 (by decide) (hts _ (List.mem_of_getElem? (i := 1) rfl)) (fun _ h9 => h9) (congrArg (fun o => some (va_rf o)) hr11) dX7_unpair_1 ?_
    refine lv_iload_n hx hb dX7_unpair_4 rfl (lv_at hl 1 rfl) ?_
    obtain ⟨hok12, hg⟩ := gd_some hg
    obtain ⟨hin13, hg⟩ := gd_some hg
    refine wr_iald hx hb hw hok12 (inb_vp hin13) dX7_unpair_5 ?_
    refine lv_iconst (v := (-1 : Int32)) hx hb dX7_unpair_6 (by decide) ?_
    refine lv_icmp_eq (tgt := 34) hx hb dX7_unpair_7 (by decide) (fun c14 => ?_) (fun c14 => ?_)
    · have hg := it_pos hg c14
      cases hg
      exact wr_vret hx hb hr hw dX7_unpair_34 hlk
    · have hg := it_neg hg c14
      refine lv_aload_n hx hb dX7_unpair_10 rfl (lv_at hl 0 rfl) ?_
      obtain ⟨r15, hr15, hg⟩ := nn_some hg
      refine wr_get (K := RX7) (T := TX7) (N := 20) (index := 25) (ref := "MakerLinesModel") (v := .ref r15) hx hb hts hi_X7_unpair_X7 hown hw hok10 (wF_7 (S := S) hok10.2) rfl 8 (by decide) (hts _ (List.mem_of_getElem? (i := 2) rfl)) (fun _ h9 => h9) (congrArg (fun o => some (va_rf o)) hr15) dX7_unpair_11 ?_
      refine lv_aload_n hx hb dX7_unpair_14 rfl (lv_at hl 0 rfl) ?_
      refine wr_get (K := RX7) (T := TX7) (N := 20) (index := 28) (ref := "MakerLinesModel") (v := .ref r11) hx hb hts hi_X7_unpair_X7 hown hw hok10 (wF_7 (S := S) hok10.2) rfl 9 (by decide) (hts _ (List.mem_of_getElem? (i := 1) rfl)) (fun _ h9 => h9) (congrArg (fun o => some (va_rf o)) hr11) dX7_unpair_15 ?_
      refine lv_iload_n hx hb dX7_unpair_18 rfl (lv_at hl 1 rfl) ?_
      refine wr_iald hx hb hw hok12 (inb_vp hin13) dX7_unpair_19 ?_
      refine lv_iconst (v := (-1 : Int32)) hx hb dX7_unpair_20 (by decide) ?_
      obtain ⟨hok16, hg⟩ := gd_some hg
      obtain ⟨hin17, hg⟩ := gd_some hg
      refine wr_iast hx hb hw hok16 (inb_vp hin17) dX7_unpair_21 (fun H locs hw => ?_)
      obtain ⟨S18, hS18, hg⟩ := bd_some hg
      rw [← hS18] at hw
      have hok19 : ok S18 a0 7 := by rw [hS18]; exact hok10
      have hr20 : hR S18 a0 9 = some r11 := by rw [hS18]; exact hr11
      have hok21 : ok S18 r11 8 := by rw [hS18]; exact hok12
      have hin22 : inb x1 (hN S18 r11) := by rw [hS18]; exact hin13
      have hr23 : hR S18 a0 8 = some r15 := by rw [hS18]; exact hr15
      have hok24 : ok S18 r15 8 := by rw [hS18]; exact hok16
      have hin25 : inb (hI S r11 x1.toNatClampNeg) (hN S18 r15) := by rw [hS18]; exact hin17
      refine lv_aload_n hx hb dX7_unpair_22 rfl (lv_at hl 0 rfl) ?_
      refine wr_get (K := RX7) (T := TX7) (N := 20) (index := 25) (ref := "MakerLinesModel") (v := .ref r15) hx hb hts hi_X7_unpair_X7 hown hw hok19 (wF_7 (S := S18) hok19.2) rfl 8 (by decide) (hts _ (List.mem_of_getElem? (i := 2) rfl)) (fun _ h9 => h9) (congrArg (fun o => some (va_rf o)) hr23) dX7_unpair_23 ?_
      refine lv_aload_n hx hb dX7_unpair_26 rfl (lv_at hl 0 rfl) ?_
      obtain ⟨r26, hr26, hg⟩ := nn_some hg
      refine wr_get (K := RX7) (T := TX7) (N := 20) (index := 31) (ref := "MakerLinesModel") (v := .ref r26) hx hb hts hi_X7_unpair_X7 hown hw hok19 (wF_7 (S := S18) hok19.2) rfl 10 (by decide) (hts _ (List.mem_of_getElem? (i := 3) rfl)) (fun _ h9 => h9) (congrArg (fun o => some (va_rf o)) hr26) dX7_unpair_27 ?_
      refine lv_iload_n hx hb dX7_unpair_30 rfl (lv_at hl 1 rfl) ?_
      obtain ⟨hok27, hg⟩ := gd_some hg
      obtain ⟨hin28, hg⟩ := gd_some hg
      refine wr_iald hx hb hw hok27 (inb_vp hin28) dX7_unpair_31 ?_
      refine lv_iconst (v := (-1 : Int32)) hx hb dX7_unpair_32 (by decide) ?_
      obtain ⟨hin29, hg⟩ := gd_some hg
      refine wr_iast hx hb hw hok24 (inb_vp hin29) dX7_unpair_33 (fun H locs hw => ?_)
      obtain ⟨S30, hS30, hg⟩ := bd_some hg
      rw [← hS30] at hw
      have hok31 : ok S30 a0 7 := by rw [hS30]; exact hok19
      have hr32 : hR S30 a0 9 = some r11 := by rw [hS30]; exact hr20
      have hok33 : ok S30 r11 8 := by rw [hS30]; exact hok21
      have hin34 : inb x1 (hN S30 r11) := by rw [hS30]; exact hin22
      have hr35 : hR S30 a0 8 = some r15 := by rw [hS30]; exact hr23
      have hok36 : ok S30 r15 8 := by rw [hS30]; exact hok24
      have hin37 : inb (hI S r11 x1.toNatClampNeg) (hN S30 r15) := by rw [hS30]; exact hin25
      have hr38 : hR S30 a0 10 = some r26 := by rw [hS30]; exact hr26
      have hok39 : ok S30 r26 8 := by rw [hS30]; exact hok27
      have hin40 : inb x1 (hN S30 r26) := by rw [hS30]; exact hin28
      have hin41 : inb (hI S18 r26 x1.toNatClampNeg) (hN S30 r15) := by rw [hS30]; exact hin29
      cases hg
      exact wr_vret hx hb hr hw dX7_unpair_34 hlk
  exact B0 S0 _ _ _ hg hw hl
theorem hi_X7_pairNext_X7 : ∀ w ∈ wsX70, w ∈ wsX7_pairNext := fun _ h => List.mem_cons_of_mem _ (List.mem_append_right _ (h))
abbrev rm_X7_pairNext : Room := { frames := 4, cells := 0, slots := 0, locals := 83 }
set_option maxHeartbeats 4000000 in
set_option maxRecDepth 100000 in
theorem c_X7_pairNext (l : Launch) (D : va_G) (C : C3) (N : Nat) (S0 : Hp) (z : Nat) (a0 : Nat) (x1 : Int32) (r : Int32) (S9 : Hp) (hg : f_X7_pairNext N S0 a0 x1 = some (r, S9)) : MetI l yX7_pairNext wsX7_pairNext rm_X7_pairNext D C S0 z [.ref a0, .int x1] r S9 z 0 0 := by
  refine mw_ofW (cc := cX7_pairNext) (maxL := 4) (ret := (some .boolean)) (lv := [(0, .ref a0), (1, .int x1)]) (by decide) rfl (Nat.le_of_ble_eq_true rfl) rfl ?_
  intro p e s m below meth c ls hx hb hr hts hown hlk hml hnm hl hw
  have hown : s.vm.findClass RX7 = some m.cls := hown
  have B47 : ∀ (K47 : Hp → Int32 → Int32 → Option (Int32 × Hp)) (hK47 : ∀ (S : Hp) (v2 : Int32) (v3 : Int32) (H : Heap) (locs : List Loc) (ls : Array Slot), K47 S v2 v3 = some (r, S9) → Wd D C (va_A (wP C S0) z) s.heap S z H locs s → lv_has ls 4 [(0, .ref a0), (1, .int x1), (2, .int v2), (3, .int v3)] → W p l e rm_X7_pairNext s m ([.ref a0, .int x1] : List Value).toArray below meth c H locs 0 0 (MQ below (QiW D C S0 z r S9 z) ([.ref a0, .int x1] : List Value).toArray s 0 0 (va_A (wP C S0) z)) (F0 m 47 ls [])) (S : Hp) (v2 : Int32) (v3 : Int32) (H : Heap) (locs : List Loc) (ls : Array Slot), f_X7_pairNext_b47 N a0 x1 K47 S v2 v3 = some (r, S9) → Wd D C (va_A (wP C S0) z) s.heap S z H locs s → lv_has ls 4 [(0, .ref a0), (1, .int x1), (2, .int v2), (3, .int v3)] → W p l e rm_X7_pairNext s m ([.ref a0, .int x1] : List Value).toArray below meth c H locs 0 0 (MQ below (QiW D C S0 z r S9 z) ([.ref a0, .int x1] : List Value).toArray s 0 0 (va_A (wP C S0) z)) (F0 m 47 ls []) := by
    intro K47 hK47 S v2 v3 H locs ls hg hw hl
    unfold f_X7_pairNext_b47 at hg
    refine lv_iload_n hx hb dX7_pairNext_47 rfl (lv_at hl 2 rfl) ?_
    refine lv_aload_n hx hb dX7_pairNext_48 rfl (lv_at hl 0 rfl) ?_
    obtain ⟨hok25, hg⟩ := gd_some hg
    obtain ⟨r26, hr26, hg⟩ := nn_some hg
    refine wr_get (K := RX7) (T := TX7) (N := 20) (index := 7) (ref := "MakerLinesModel") (v := .ref r26) hx hb hts hi_X7_pairNext_X7 hown hw hok25 (wF_7 (S := S) hok25.2) rfl 0 (by decide) (hts _ (List.mem_of_getElem? (i := 3) rfl)) (fun _ h9 => h9) (congrArg (fun o => some (va_rf o)) hr26) dX7_pairNext_49 ?_
    refine lv_iconst (v := (0 : Int32)) hx hb dX7_pairNext_52 (by decide) ?_
    obtain ⟨hok27, hg⟩ := gd_some hg
    obtain ⟨hin28, hg⟩ := gd_some hg
    refine wr_iald hx hb hw hok27 (inb_vp hin28) dX7_pairNext_53 ?_
    refine lv_icmp_ge (tgt := 131) hx hb dX7_pairNext_54 (by decide) (fun c29 => ?_) (fun c29 => ?_)
    · have hg := it_pos hg c29
      refine lv_aload_n hx hb dX7_pairNext_131 rfl (lv_at hl 0 rfl) ?_
      obtain ⟨r30, hr30, hg⟩ := nn_some hg
      refine wr_get (K := RX7) (T := TX7) (N := 20) (index := 28) (ref := "MakerLinesModel") (v := .ref r30) hx hb hts hi_X7_pairNext_X7 hown hw hok25 (wF_7 (S := S) hok25.2) rfl 9 (by decide) (hts _ (List.mem_of_getElem? (i := 1) rfl)) (fun _ h9 => h9) (congrArg (fun o => some (va_rf o)) hr30) dX7_pairNext_132 ?_
      refine lv_iload_n hx hb dX7_pairNext_135 rfl (lv_at hl 1 rfl) ?_
      refine lv_iconst (v := (-1 : Int32)) hx hb dX7_pairNext_136 (by decide) ?_
      obtain ⟨hok31, hg⟩ := gd_some hg
      obtain ⟨hin32, hg⟩ := gd_some hg
      refine wr_iast hx hb hw hok31 (inb_vp hin32) dX7_pairNext_137 (fun H locs hw => ?_)
      refine lv_iconst (v := (0 : Int32)) hx hb dX7_pairNext_138 (by decide) ?_
      cases hg
      exact wr_zret hx hb hr (by decide) hw dX7_pairNext_139 hlk
    · have hg := it_neg hg c29
      refine lv_iinc (v := (v3 + (1 : Int32))) (lv' := [(3, .int (v3 + (1 : Int32))), (0, .ref a0), (1, .int x1), (2, .int v2)]) hx hb dX7_pairNext_57 hl (k := 3) rfl rfl (by decide) rfl (fun ls hl => ?_)
      refine lv_iload_n hx hb dX7_pairNext_60 rfl (lv_at hl 0 rfl) ?_
      refine lv_aload_n hx hb dX7_pairNext_61 rfl (lv_at hl 1 rfl) ?_
      refine wr_get (K := RX7) (T := TX7) (N := 20) (index := 7) (ref := "MakerLinesModel") (v := .ref r26) hx hb hts hi_X7_pairNext_X7 hown hw hok25 (wF_7 (S := S) hok25.2) rfl 0 (by decide) (hts _ (List.mem_of_getElem? (i := 3) rfl)) (fun _ h9 => h9) (congrArg (fun o => some (va_rf o)) hr26) dX7_pairNext_62 ?_
      refine lv_iconst (v := (0 : Int32)) hx hb dX7_pairNext_65 (by decide) ?_
      refine wr_iald hx hb hw hok27 (inb_vp hin28) dX7_pairNext_66 ?_
      refine lv_icmp_lt (tgt := 78) hx hb dX7_pairNext_67 (by decide) (fun c33 => ?_) (fun c33 => ?_)
      · have hg := it_pos hg c33
        refine lv_iload_n hx hb dX7_pairNext_78 rfl (lv_at hl 0 rfl) ?_
        refine lv_iload_n hx hb dX7_pairNext_79 rfl (lv_at hl 3 rfl) ?_
        refine lv_icmp_le (tgt := 47) hx hb dX7_pairNext_80 (by decide) (fun c34 => ?_) (fun c34 => ?_)
        · have hg := it_pos hg c34
          exact hK47 _ _ _ _ _ _ hg hw (lv_sub hl [1, 2, 3, 0] rfl)
        · have hg := it_neg hg c34
          refine lv_aload_n hx hb dX7_pairNext_83 rfl (lv_at hl 1 rfl) ?_
          refine lv_iload_n hx hb dX7_pairNext_84 rfl (lv_at hl 2 rfl) ?_
          refine lv_iload_n hx hb dX7_pairNext_85 rfl (lv_at hl 3 rfl) ?_
          obtain ⟨r35, S35, hc35, hg⟩ := cl_some hg
          refine wr_ci (va_runV (As := [.int x1, .int v2]) (rest := []) ⟨hx, hb, hml, hown, hts⟩ (c_X7_isLoose l D C N S z a0 x1 v2 r35 S35 hc35) (cwV 2 hts gX7_pairNext_X7_isLoose rfl rfl rfl (by decide +kernel) ⟨Nat.le_of_ble_eq_true rfl, Nat.le_of_ble_eq_true rfl⟩) (wd_preV hw hok25 (wF_7 (S := S) hok25.2) rfl) rfl rfl hl.1 rfl (lv_room (Nat.le_of_ble_eq_true rfl)) dX7_pairNext_86 ⟨Nat.zero_le _, Nat.zero_le _⟩) hw (fun H locs hw => ?_)
          refine lv_if_eq (tgt := 47) hx hb dX7_pairNext_89 (by decide) (fun c36 => ?_) (fun c36 => ?_)
          · have hg := it_pos hg c36
            exact hK47 _ _ _ _ _ _ hg hw (lv_sub hl [1, 2, 3, 0] rfl)
          · have hg := it_neg hg c36
            refine lv_aload_n hx hb dX7_pairNext_92 rfl (lv_at hl 1 rfl) ?_
            refine lv_iload_n hx hb dX7_pairNext_93 rfl (lv_at hl 2 rfl) ?_
            refine lv_iload_n hx hb dX7_pairNext_94 rfl (lv_at hl 0 rfl) ?_
            obtain ⟨hok37, hg⟩ := gd_some hg
            obtain ⟨r38, S38, hc38, hg⟩ := cl_some hg
            refine wr_ci (va_runV (As := [.int x1, .int (v3 + (1 : Int32))]) (rest := []) ⟨hx, hb, hml, hown, hts⟩ (c_X7_isLoose l D C N S35 z a0 x1 ((v3 + (1 : Int32))) r38 S38 hc38) (cwV 2 hts gX7_pairNext_X7_isLoose rfl rfl rfl (by decide +kernel) ⟨Nat.le_of_ble_eq_true rfl, Nat.le_of_ble_eq_true rfl⟩) (wd_preV hw hok37 (wF_7 (S := S35) hok37.2) rfl) rfl rfl hl.1 rfl (lv_room (Nat.le_of_ble_eq_true rfl)) dX7_pairNext_95 ⟨Nat.zero_le _, Nat.zero_le _⟩) hw (fun H locs hw => ?_)
            refine lv_if_eq (tgt := 47) hx hb dX7_pairNext_98 (by decide) (fun c39 => ?_) (fun c39 => ?_)
            · have hg := it_pos hg c39
              exact hK47 _ _ _ _ _ _ hg hw (lv_sub hl [1, 2, 3, 0] rfl)
            · have hg := it_neg hg c39
              refine lv_aload_n hx hb dX7_pairNext_101 rfl (lv_at hl 1 rfl) ?_
              obtain ⟨hok40, hg⟩ := gd_some hg
              obtain ⟨r41, hr41, hg⟩ := nn_some hg
              refine wr_get (K := RX7) (T := TX7) (N := 20) (index := 28) (ref := "MakerLinesModel") (v := .ref r41) hx hb hts hi_X7_pairNext_X7 hown hw hok40 (wF_7 (S := S38) hok40.2) rfl 9 (by decide) (hts _ (List.mem_of_getElem? (i := 1) rfl)) (fun _ h9 => h9) (congrArg (fun o => some (va_rf o)) hr41) dX7_pairNext_102 ?_
              refine lv_iload_n hx hb dX7_pairNext_105 rfl (lv_at hl 2 rfl) ?_
              refine lv_iload_n hx hb dX7_pairNext_106 rfl (lv_at hl 3 rfl) ?_
              obtain ⟨hok42, hg⟩ := gd_some hg
              obtain ⟨hin43, hg⟩ := gd_some hg
              refine wr_iast hx hb hw hok42 (inb_vp hin43) dX7_pairNext_107 (fun H locs hw => ?_)
              refine lv_aload_n hx hb dX7_pairNext_108 rfl (lv_at hl 1 rfl) ?_
              obtain ⟨r44, hr44, hg⟩ := nn_some hg
              refine wr_get (K := RX7) (T := TX7) (N := 20) (index := 31) (ref := "MakerLinesModel") (v := .ref r44) hx hb hts hi_X7_pairNext_X7 hown hw hok40 (wF_7 (S := (sI S38 r41 x1.toNatClampNeg v2)) hok40.2) rfl 10 (by decide) (hts _ (List.mem_of_getElem? (i := 2) rfl)) (fun _ h9 => h9) (congrArg (fun o => some (va_rf o)) hr44) dX7_pairNext_109 ?_
              refine lv_iload_n hx hb dX7_pairNext_112 rfl (lv_at hl 2 rfl) ?_
              refine lv_iload_n hx hb dX7_pairNext_113 rfl (lv_at hl 0 rfl) ?_
              obtain ⟨hok45, hg⟩ := gd_some hg
              obtain ⟨hin46, hg⟩ := gd_some hg
              refine wr_iast hx hb hw hok45 (inb_vp hin46) dX7_pairNext_114 (fun H locs hw => ?_)
              obtain ⟨S47, hS47, hg⟩ := bd_some hg
              rw [← hS47] at hw
              have hok48 : ok S47 a0 7 := by rw [hS47]; exact hok40
              have hr49 : hR S47 a0 9 = some r41 := by rw [hS47]; exact hr41
              have hok50 : ok S47 r41 8 := by rw [hS47]; exact hok42
              have hin51 : inb x1 (hN S47 r41) := by rw [hS47]; exact hin43
              have hr52 : hR S47 a0 10 = some r44 := by rw [hS47]; exact hr44
              have hok53 : ok S47 r44 8 := by rw [hS47]; exact hok45
              have hin54 : inb x1 (hN S47 r44) := by rw [hS47]; exact hin46
              refine lv_aload_n hx hb dX7_pairNext_115 rfl (lv_at hl 1 rfl) ?_
              obtain ⟨r55, hr55, hg⟩ := nn_some hg
              refine wr_get (K := RX7) (T := TX7) (N := 20) (index := 25) (ref := "MakerLinesModel") (v := .ref r55) hx hb hts hi_X7_pairNext_X7 hown hw hok48 (wF_7 (S := S47) hok48.2) rfl 8 (by decide) (hts _ (List.mem_of_getElem? (i := 4) rfl)) (fun _ h9 => h9) (congrArg (fun o => some (va_rf o)) hr55) dX7_pairNext_116 ?_
              refine lv_iload_n hx hb dX7_pairNext_119 rfl (lv_at hl 3 rfl) ?_
              refine lv_iload_n hx hb dX7_pairNext_120 rfl (lv_at hl 0 rfl) ?_
              obtain ⟨hok56, hg⟩ := gd_some hg
              obtain ⟨hin57, hg⟩ := gd_some hg
              refine wr_iast hx hb hw hok56 (inb_vp hin57) dX7_pairNext_121 (fun H locs hw => ?_)
              obtain ⟨S58, hS58, hg⟩ := bd_some hg
              rw [← hS58] at hw
              have hok59 : ok S58 a0 7 := by rw [hS58]; exact hok48
              have hr60 : hR S58 a0 9 = some r41 := by rw [hS58]; exact hr49
              have hok61 : ok S58 r41 8 := by rw [hS58]; exact hok50
              have hin62 : inb x1 (hN S58 r41) := by rw [hS58]; exact hin51
              have hr63 : hR S58 a0 10 = some r44 := by rw [hS58]; exact hr52
              have hok64 : ok S58 r44 8 := by rw [hS58]; exact hok53
              have hin65 : inb x1 (hN S58 r44) := by rw [hS58]; exact hin54
              have hr66 : hR S58 a0 8 = some r55 := by rw [hS58]; exact hr55
              have hok67 : ok S58 r55 8 := by rw [hS58]; exact hok56
              have hin68 : inb v2 (hN S58 r55) := by rw [hS58]; exact hin57
              refine lv_aload_n hx hb dX7_pairNext_122 rfl (lv_at hl 1 rfl) ?_
              refine wr_get (K := RX7) (T := TX7) (N := 20) (index := 25) (ref := "MakerLinesModel") (v := .ref r55) hx hb hts hi_X7_pairNext_X7 hown hw hok59 (wF_7 (S := S58) hok59.2) rfl 8 (by decide) (hts _ (List.mem_of_getElem? (i := 4) rfl)) (fun _ h9 => h9) (congrArg (fun o => some (va_rf o)) hr66) dX7_pairNext_123 ?_
              refine lv_iload_n hx hb dX7_pairNext_126 rfl (lv_at hl 0 rfl) ?_
              refine lv_iload_n hx hb dX7_pairNext_127 rfl (lv_at hl 3 rfl) ?_
              obtain ⟨hin69, hg⟩ := gd_some hg
              refine wr_iast hx hb hw hok67 (inb_vp hin69) dX7_pairNext_128 (fun H locs hw => ?_)
              obtain ⟨S70, hS70, hg⟩ := bd_some hg
              rw [← hS70] at hw
              have hok71 : ok S70 a0 7 := by rw [hS70]; exact hok59
              have hr72 : hR S70 a0 9 = some r41 := by rw [hS70]; exact hr60
              have hok73 : ok S70 r41 8 := by rw [hS70]; exact hok61
              have hin74 : inb x1 (hN S70 r41) := by rw [hS70]; exact hin62
              have hr75 : hR S70 a0 10 = some r44 := by rw [hS70]; exact hr63
              have hok76 : ok S70 r44 8 := by rw [hS70]; exact hok64
              have hin77 : inb x1 (hN S70 r44) := by rw [hS70]; exact hin65
              have hr78 : hR S70 a0 8 = some r55 := by rw [hS70]; exact hr66
              have hok79 : ok S70 r55 8 := by rw [hS70]; exact hok67
              have hin80 : inb v2 (hN S70 r55) := by rw [hS70]; exact hin68
              have hin81 : inb (v3 + (1 : Int32)) (hN S70 r55) := by rw [hS70]; exact hin69
              refine lv_iconst (v := (1 : Int32)) hx hb dX7_pairNext_129 (by decide) ?_
              cases hg
              exact wr_zret hx hb hr (by decide) hw dX7_pairNext_130 hlk
      · have hg := it_neg hg c33
        refine lv_iinc (v := (v2 + (1 : Int32))) (lv' := [(2, .int (v2 + (1 : Int32))), (3, .int (v3 + (1 : Int32))), (0, .ref a0), (1, .int x1)]) hx hb dX7_pairNext_70 hl (k := 3) rfl rfl (by decide) rfl (fun ls hl => ?_)
        refine lv_iload_n hx hb dX7_pairNext_73 rfl (lv_at hl 0 rfl) ?_
        refine lv_istore_n (lv' := [(3, .int (v2 + (1 : Int32))), (2, .int (v2 + (1 : Int32))), (0, .ref a0), (1, .int x1)]) hx hb dX7_pairNext_74 rfl hl (by decide) rfl (fun ls hl => ?_)
        refine lv_goto (tgt := 47) hx hb dX7_pairNext_75 (by decide) ?_
        exact hK47 _ _ _ _ _ _ hg hw (lv_sub hl [2, 3, 1, 0] rfl)
  have L47 : ∀ (k : Nat) (S : Hp) (v2 : Int32) (v3 : Int32) (H : Heap) (locs : List Loc) (ls : Array Slot), f_X7_pairNext_l47 N a0 x1 k S v2 v3 = some (r, S9) → Wd D C (va_A (wP C S0) z) s.heap S z H locs s → lv_has ls 4 [(0, .ref a0), (1, .int x1), (2, .int v2), (3, .int v3)] → W p l e rm_X7_pairNext s m ([.ref a0, .int x1] : List Value).toArray below meth c H locs 0 0 (MQ below (QiW D C S0 z r S9 z) ([.ref a0, .int x1] : List Value).toArray s 0 0 (va_A (wP C S0) z)) (F0 m 47 ls []) := by
    intro k
    induction k with
    | zero => intro S v2 v3 H locs ls hg hw hl; exact absurd (show (none : Option (Int32 × Hp)) = some (r, S9) from hg) (by simp)
    | succ k ih => intro S v2 v3 H locs ls hg hw hl; exact B47 (f_X7_pairNext_l47 N a0 x1 k) ih S v2 v3 H locs ls hg hw hl
  have B41 : ∀ (S : Hp) (v2 : Int32) (s0 : Int32) (H : Heap) (locs : List Loc) (ls : Array Slot), f_X7_pairNext_b41 N a0 x1 S v2 s0 = some (r, S9) → Wd D C (va_A (wP C S0) z) s.heap S z H locs s → lv_has ls 4 [(0, .ref a0), (1, .int x1), (2, .int v2)] → W p l e rm_X7_pairNext s m ([.ref a0, .int x1] : List Value).toArray below meth c H locs 0 0 (MQ below (QiW D C S0 z r S9 z) ([.ref a0, .int x1] : List Value).toArray s 0 0 (va_A (wP C S0) z)) (F0 m 41 ls [.int s0]) := by
    intro S v2 s0 H locs ls hg hw hl
    unfold f_X7_pairNext_b41 at hg
    refine lv_istore_n (lv' := [(3, .int s0), (0, .ref a0), (1, .int x1), (2, .int v2)]) hx hb dX7_pairNext_41 rfl hl (by decide) rfl (fun ls hl => ?_)
    refine lv_aload_n hx hb dX7_pairNext_42 rfl (lv_at hl 1 rfl) ?_
    refine lv_iload_n hx hb dX7_pairNext_43 rfl (lv_at hl 2 rfl) ?_
    obtain ⟨hok23, hg⟩ := gd_some hg
    obtain ⟨⟨⟩, S24, hc24, hg⟩ := cl_some hg
    refine wr_cv (va_runV (As := [.int x1]) (rest := []) ⟨hx, hb, hml, hown, hts⟩ (c_X7_unpair l D C N S z a0 x1 () S24 hc24) (cwV 1 hts gX7_pairNext_X7_unpair rfl rfl rfl (by decide +kernel) ⟨Nat.le_of_ble_eq_true rfl, Nat.le_of_ble_eq_true rfl⟩) (wd_preV hw hok23 (wF_7 (S := S) hok23.2) rfl) rfl rfl hl.1 rfl (lv_room (Nat.le_of_ble_eq_true rfl)) dX7_pairNext_44 ⟨Nat.zero_le _, Nat.zero_le _⟩) hw (fun H locs hw => ?_)
    exact L47 N _ _ _ _ _ _ hg hw (lv_sub hl [1, 2, 3, 0] rfl)
  have B20 : ∀ (S : Hp) (s0 : Int32) (H : Heap) (locs : List Loc) (ls : Array Slot), f_X7_pairNext_b20 N a0 x1 S s0 = some (r, S9) → Wd D C (va_A (wP C S0) z) s.heap S z H locs s → lv_has ls 4 [(0, .ref a0), (1, .int x1)] → W p l e rm_X7_pairNext s m ([.ref a0, .int x1] : List Value).toArray below meth c H locs 0 0 (MQ below (QiW D C S0 z r S9 z) ([.ref a0, .int x1] : List Value).toArray s 0 0 (va_A (wP C S0) z)) (F0 m 20 ls [.int s0]) := by
    intro S s0 H locs ls hg hw hl
    unfold f_X7_pairNext_b20 at hg
    refine lv_istore_n (lv' := [(2, .int s0), (0, .ref a0), (1, .int x1)]) hx hb dX7_pairNext_20 rfl hl (by decide) rfl (fun ls hl => ?_)
    refine lv_aload_n hx hb dX7_pairNext_21 rfl (lv_at hl 1 rfl) ?_
    obtain ⟨hok15, hg⟩ := gd_some hg
    obtain ⟨r16, hr16, hg⟩ := nn_some hg
    refine wr_get (K := RX7) (T := TX7) (N := 20) (index := 28) (ref := "MakerLinesModel") (v := .ref r16) hx hb hts hi_X7_pairNext_X7 hown hw hok15 (wF_7 (S := S) hok15.2) rfl 9 (by decide) (hts _ (List.mem_of_getElem? (i := 1) rfl)) (fun _ h9 => h9) (congrArg (fun o => some (va_rf o)) hr16) dX7_pairNext_22 ?_
    refine lv_iload_n hx hb dX7_pairNext_25 rfl (lv_at hl 2 rfl) ?_
    obtain ⟨hok17, hg⟩ := gd_some hg
    obtain ⟨hin18, hg⟩ := gd_some hg
    refine wr_iald hx hb hw hok17 (inb_vp hin18) dX7_pairNext_26 ?_
    refine lv_iconst (v := (-1 : Int32)) hx hb dX7_pairNext_27 (by decide) ?_
    refine lv_icmp_ne (tgt := 35) hx hb dX7_pairNext_28 (by decide) (fun c19 => ?_) (fun c19 => ?_)
    · have hg := it_neg hg c19
      refine lv_aload_n hx hb dX7_pairNext_35 rfl (lv_at hl 1 rfl) ?_
      obtain ⟨r20, hr20, hg⟩ := nn_some hg
      refine wr_get (K := RX7) (T := TX7) (N := 20) (index := 31) (ref := "MakerLinesModel") (v := .ref r20) hx hb hts hi_X7_pairNext_X7 hown hw hok15 (wF_7 (S := S) hok15.2) rfl 10 (by decide) (hts _ (List.mem_of_getElem? (i := 2) rfl)) (fun _ h9 => h9) (congrArg (fun o => some (va_rf o)) hr20) dX7_pairNext_36 ?_
      refine lv_iload_n hx hb dX7_pairNext_39 rfl (lv_at hl 2 rfl) ?_
      obtain ⟨hok21, hg⟩ := gd_some hg
      obtain ⟨hin22, hg⟩ := gd_some hg
      refine wr_iald hx hb hw hok21 (inb_vp hin22) dX7_pairNext_40 ?_
      exact B41 _ _ _ _ _ _ hg hw (lv_sub hl [1, 2, 0] rfl)
    · have hg := it_pos hg c19
      refine lv_iconst (v := (0 : Int32)) hx hb dX7_pairNext_31 (by decide) ?_
      refine lv_goto (tgt := 41) hx hb dX7_pairNext_32 (by decide) ?_
      exact B41 _ _ _ _ _ _ hg hw (lv_sub hl [1, 2, 0] rfl)
  have B0 : ∀ (S : Hp) (H : Heap) (locs : List Loc) (ls : Array Slot), f_X7_pairNext N S a0 x1 = some (r, S9) → Wd D C (va_A (wP C S0) z) s.heap S z H locs s → lv_has ls 4 [(0, .ref a0), (1, .int x1)] → W p l e rm_X7_pairNext s m ([.ref a0, .int x1] : List Value).toArray below meth c H locs 0 0 (MQ below (QiW D C S0 z r S9 z) ([.ref a0, .int x1] : List Value).toArray s 0 0 (va_A (wP C S0) z)) (F0 m 0 ls []) := by
    intro S H locs ls hg hw hl
    unfold f_X7_pairNext at hg
    refine lv_aload_n hx hb dX7_pairNext_0 rfl (lv_at hl 0 rfl) ?_
    obtain ⟨hok10, hg⟩ := gd_some hg
    obtain ⟨r11, hr11, hg⟩ := nn_some hg
    refine wr_get (K := RX7) (T := TX7) (N := 20) (index := 28) (ref := "MakerLinesModel") (v := .ref r11) hx hb hts hi_X7_pairNext_X7 hown hw hok10 (wF_7 (S := S) hok10.2) rfl 9 (by decide) (hts _ (List.mem_of_getElem? (i := 1) rfl)) (fun _ h9 => h9) (congrArg (fun o => some (va_rf o)) hr11) dX7_pairNext_1 ?_
    refine lv_iload_n hx hb dX7_pairNext_4 rfl (lv_at hl 1 rfl) ?_
    obtain ⟨hok12, hg⟩ := gd_some hg
    obtain ⟨hin13, hg⟩ := gd_some hg
    refine wr_iald hx hb hw hok12 (inb_vp hin13) dX7_pairNext_5 ?_
    refine lv_iconst (v := (-1 : Int32)) hx hb dX7_pairNext_6 (by decide) ?_
    refine lv_icmp_ne (tgt := 14) hx hb dX7_pairNext_7 (by decide) (fun c14 => ?_) (fun c14 => ?_)
    · have hg := it_neg hg c14
      refine lv_aload_n hx hb dX7_pairNext_14 rfl (lv_at hl 0 rfl) ?_
      refine wr_get (K := RX7) (T := TX7) (N := 20) (index := 28) (ref := "MakerLinesModel") (v := .ref r11) hx hb hts hi_X7_pairNext_X7 hown hw hok10 (wF_7 (S := S) hok10.2) rfl 9 (by decide) (hts _ (List.mem_of_getElem? (i := 1) rfl)) (fun _ h9 => h9) (congrArg (fun o => some (va_rf o)) hr11) dX7_pairNext_15 ?_
      refine lv_iload_n hx hb dX7_pairNext_18 rfl (lv_at hl 1 rfl) ?_
      refine wr_iald hx hb hw hok12 (inb_vp hin13) dX7_pairNext_19 ?_
      exact B20 _ _ _ _ _ hg hw (lv_sub hl [0, 1] rfl)
    · have hg := it_pos hg c14
      refine lv_iconst (v := (0 : Int32)) hx hb dX7_pairNext_10 (by decide) ?_
      refine lv_goto (tgt := 20) hx hb dX7_pairNext_11 (by decide) ?_
      exact B20 _ _ _ _ _ hg hw (lv_sub hl [0, 1] rfl)
  exact B0 S0 _ _ _ hg hw hl
theorem hi_X7_triedAhead_X7 : ∀ w ∈ wsX70, w ∈ wsX7_triedAhead := fun _ h => List.mem_cons_of_mem _ (List.mem_append_right _ (h))
abbrev rm_X7_triedAhead : Room := { frames := 0, cells := 0, slots := 0, locals := 0 }
set_option maxHeartbeats 4000000 in
set_option maxRecDepth 100000 in
theorem c_X7_triedAhead (l : Launch) (D : va_G) (C : C3) (N : Nat) (S0 : Hp) (z : Nat) (a0 : Nat) (x1 : Int32) (r : Int32) (S9 : Hp) (hg : f_X7_triedAhead N S0 a0 x1 = some (r, S9)) : MetI l yX7_triedAhead wsX7_triedAhead rm_X7_triedAhead D C S0 z [.ref a0, .int x1] r S9 z 0 0 := by
  refine mw_ofW (cc := cX7_triedAhead) (maxL := 3) (ret := (some .int)) (lv := [(0, .ref a0), (1, .int x1)]) (by decide) rfl (Nat.le_of_ble_eq_true rfl) rfl ?_
  intro p e s m below meth c ls hx hb hr hts hown hlk hml hnm hl hw
  have hown : s.vm.findClass RX7 = some m.cls := hown
  have B4 : ∀ (K4 : Hp → Int32 → Option (Int32 × Hp)) (hK4 : ∀ (S : Hp) (v2 : Int32) (H : Heap) (locs : List Loc) (ls : Array Slot), K4 S v2 = some (r, S9) → Wd D C (va_A (wP C S0) z) s.heap S z H locs s → lv_has ls 3 [(0, .ref a0), (2, .int v2)] → W p l e rm_X7_triedAhead s m ([.ref a0, .int x1] : List Value).toArray below meth c H locs 0 0 (MQ below (QiW D C S0 z r S9 z) ([.ref a0, .int x1] : List Value).toArray s 0 0 (va_A (wP C S0) z)) (F0 m 4 ls [])) (S : Hp) (v2 : Int32) (H : Heap) (locs : List Loc) (ls : Array Slot), f_X7_triedAhead_b4 N a0 x1 K4 S v2 = some (r, S9) → Wd D C (va_A (wP C S0) z) s.heap S z H locs s → lv_has ls 3 [(0, .ref a0), (2, .int v2)] → W p l e rm_X7_triedAhead s m ([.ref a0, .int x1] : List Value).toArray below meth c H locs 0 0 (MQ below (QiW D C S0 z r S9 z) ([.ref a0, .int x1] : List Value).toArray s 0 0 (va_A (wP C S0) z)) (F0 m 4 ls []) := by
    intro K4 hK4 S v2 H locs ls hg hw hl
    unfold f_X7_triedAhead_b4 at hg
    refine lv_iload_n hx hb dX7_triedAhead_4 rfl (lv_at hl 1 rfl) ?_
    refine lv_if_lt (tgt := 24) hx hb dX7_triedAhead_5 (by decide) (fun c10 => ?_) (fun c10 => ?_)
    · have hg := it_pos hg c10
      refine lv_iload_n hx hb dX7_triedAhead_24 rfl (lv_at hl 1 rfl) ?_
      cases hg
      exact wr_iret hx hb hr hw dX7_triedAhead_25 hlk
    · have hg := it_neg hg c10
      refine lv_aload_n hx hb dX7_triedAhead_8 rfl (lv_at hl 0 rfl) ?_
      obtain ⟨hok11, hg⟩ := gd_some hg
      obtain ⟨r12, hr12, hg⟩ := nn_some hg
      refine wr_get (K := RX7) (T := TX7) (N := 20) (index := 28) (ref := "MakerLinesModel") (v := .ref r12) hx hb hts hi_X7_triedAhead_X7 hown hw hok11 (wF_7 (S := S) hok11.2) rfl 9 (by decide) (hts _ (List.mem_of_getElem? (i := 1) rfl)) (fun _ h9 => h9) (congrArg (fun o => some (va_rf o)) hr12) dX7_triedAhead_9 ?_
      refine lv_iload_n hx hb dX7_triedAhead_12 rfl (lv_at hl 1 rfl) ?_
      obtain ⟨hok13, hg⟩ := gd_some hg
      obtain ⟨hin14, hg⟩ := gd_some hg
      refine wr_iald hx hb hw hok13 (inb_vp hin14) dX7_triedAhead_13 ?_
      refine lv_iconst (v := (-1 : Int32)) hx hb dX7_triedAhead_14 (by decide) ?_
      refine lv_icmp_ne (tgt := 24) hx hb dX7_triedAhead_15 (by decide) (fun c15 => ?_) (fun c15 => ?_)
      · have hg := it_neg hg c15
        refine lv_iload_n hx hb dX7_triedAhead_24 rfl (lv_at hl 1 rfl) ?_
        cases hg
        exact wr_iret hx hb hr hw dX7_triedAhead_25 hlk
      · have hg := it_pos hg c15
        refine lv_iinc (v := (v2 + (-1 : Int32))) (lv' := [(2, .int (v2 + (-1 : Int32))), (0, .ref a0)]) hx hb dX7_triedAhead_18 hl (k := 1) rfl rfl (by decide) rfl (fun ls hl => ?_)
        refine lv_goto (tgt := 4) hx hb dX7_triedAhead_21 (by decide) ?_
        exact hK4 _ _ _ _ _ hg hw (lv_sub hl [1, 0] rfl)
  have L4 : ∀ (k : Nat) (S : Hp) (v2 : Int32) (H : Heap) (locs : List Loc) (ls : Array Slot), f_X7_triedAhead_l4 N a0 x1 k S v2 = some (r, S9) → Wd D C (va_A (wP C S0) z) s.heap S z H locs s → lv_has ls 3 [(0, .ref a0), (2, .int v2)] → W p l e rm_X7_triedAhead s m ([.ref a0, .int x1] : List Value).toArray below meth c H locs 0 0 (MQ below (QiW D C S0 z r S9 z) ([.ref a0, .int x1] : List Value).toArray s 0 0 (va_A (wP C S0) z)) (F0 m 4 ls []) := by
    intro k
    induction k with
    | zero => intro S v2 H locs ls hg hw hl; exact absurd (show (none : Option (Int32 × Hp)) = some (r, S9) from hg) (by simp)
    | succ k ih => intro S v2 H locs ls hg hw hl; exact B4 (f_X7_triedAhead_l4 N a0 x1 k) ih S v2 H locs ls hg hw hl
  have B0 : ∀ (S : Hp) (H : Heap) (locs : List Loc) (ls : Array Slot), f_X7_triedAhead N S a0 x1 = some (r, S9) → Wd D C (va_A (wP C S0) z) s.heap S z H locs s → lv_has ls 3 [(0, .ref a0), (1, .int x1)] → W p l e rm_X7_triedAhead s m ([.ref a0, .int x1] : List Value).toArray below meth c H locs 0 0 (MQ below (QiW D C S0 z r S9 z) ([.ref a0, .int x1] : List Value).toArray s 0 0 (va_A (wP C S0) z)) (F0 m 0 ls []) := by
    intro S H locs ls hg hw hl
    unfold f_X7_triedAhead at hg
    refine lv_iload_n hx hb dX7_triedAhead_0 rfl (lv_at hl 1 rfl) ?_
    refine lv_iconst (v := (1 : Int32)) hx hb dX7_triedAhead_1 (by decide) ?_
    refine lv_isub hx hb dX7_triedAhead_2 ?_
    refine lv_istore_n (lv' := [(2, .int (x1 - (1 : Int32))), (0, .ref a0), (1, .int x1)]) hx hb dX7_triedAhead_3 rfl hl (by decide) rfl (fun ls hl => ?_)
    exact L4 N _ _ _ _ _ hg hw (lv_sub hl [1, 0] rfl)
  exact B0 S0 _ _ _ hg hw hl
theorem hi_X7_layPairing_X7 : ∀ w ∈ wsX70, w ∈ wsX7_layPairing := fun _ h => List.mem_cons_of_mem _ (List.mem_append_right _ (h))
abbrev rm_X7_layPairing : Room := { frames := 5, cells := 0, slots := 0, locals := 106 }
set_option maxHeartbeats 4000000 in
set_option maxRecDepth 100000 in
theorem c_X7_layPairing (l : Launch) (D : va_G) (C : C3) (N : Nat) (S0 : Hp) (z : Nat) (a0 : Nat) (r : Int32) (S9 : Hp) (hg : f_X7_layPairing N S0 a0 = some (r, S9)) : MetI l yX7_layPairing wsX7_layPairing rm_X7_layPairing D C S0 z [.ref a0] r S9 z 0 0 := by
  refine mw_ofW (cc := cX7_layPairing) (maxL := 3) (ret := (some .boolean)) (lv := [(0, .ref a0)]) (by decide) rfl (Nat.le_of_ble_eq_true rfl) rfl ?_
  intro p e s m below meth c ls hx hb hr hts hown hlk hml hnm hl hw
  have hown : s.vm.findClass RX7 = some m.cls := hown
  have B70 : ∀ (K23 : Hp → Int32 → Option (Int32 × Hp)) (hK23 : ∀ (S : Hp) (v1 : Int32) (H : Heap) (locs : List Loc) (ls : Array Slot), K23 S v1 = some (r, S9) → Wd D C (va_A (wP C S0) z) s.heap S z H locs s → lv_has ls 3 [(0, .ref a0), (1, .int v1)] → W p l e rm_X7_layPairing s m ([.ref a0] : List Value).toArray below meth c H locs 0 0 (MQ below (QiW D C S0 z r S9 z) ([.ref a0] : List Value).toArray s 0 0 (va_A (wP C S0) z)) (F0 m 23 ls [])) (K70 : Hp → Int32 → Int32 → Option (Int32 × Hp)) (hK70 : ∀ (S : Hp) (v1 : Int32) (v2 : Int32) (H : Heap) (locs : List Loc) (ls : Array Slot), K70 S v1 v2 = some (r, S9) → Wd D C (va_A (wP C S0) z) s.heap S z H locs s → lv_has ls 3 [(0, .ref a0), (1, .int v1), (2, .int v2)] → W p l e rm_X7_layPairing s m ([.ref a0] : List Value).toArray below meth c H locs 0 0 (MQ below (QiW D C S0 z r S9 z) ([.ref a0] : List Value).toArray s 0 0 (va_A (wP C S0) z)) (F0 m 70 ls [])) (S : Hp) (v1 : Int32) (v2 : Int32) (H : Heap) (locs : List Loc) (ls : Array Slot), f_X7_layPairing_b70 N a0 K23 K70 S v1 v2 = some (r, S9) → Wd D C (va_A (wP C S0) z) s.heap S z H locs s → lv_has ls 3 [(0, .ref a0), (1, .int v1), (2, .int v2)] → W p l e rm_X7_layPairing s m ([.ref a0] : List Value).toArray below meth c H locs 0 0 (MQ below (QiW D C S0 z r S9 z) ([.ref a0] : List Value).toArray s 0 0 (va_A (wP C S0) z)) (F0 m 70 ls []) := by
    intro K23 hK23 K70 hK70 S v1 v2 H locs ls hg hw hl
    unfold f_X7_layPairing_b70 at hg
    refine lv_iload_n hx hb dX7_layPairing_70 rfl (lv_at hl 2 rfl) ?_
    refine lv_if_ne (tgt := 95) hx hb dX7_layPairing_71 (by decide) (fun c31 => ?_) (fun c31 => ?_)
    · have hg := it_neg hg c31
      refine lv_iinc (v := (v1 + (1 : Int32))) (lv' := [(1, .int (v1 + (1 : Int32))), (0, .ref a0), (2, .int v2)]) hx hb dX7_layPairing_95 hl (k := 1) rfl rfl (by decide) rfl (fun ls hl => ?_)
      refine lv_goto (tgt := 23) hx hb dX7_layPairing_98 (by decide) ?_
      exact hK23 _ _ _ _ _ hg hw (lv_sub hl [1, 0] rfl)
    · have hg := it_pos hg c31
      refine lv_aload_n hx hb dX7_layPairing_74 rfl (lv_at hl 0 rfl) ?_
      refine lv_iload_n hx hb dX7_layPairing_75 rfl (lv_at hl 1 rfl) ?_
      obtain ⟨hok32, hg⟩ := gd_some hg
      obtain ⟨r33, S33, hc33, hg⟩ := cl_some hg
      refine wr_ci (va_runV (As := [.int v1]) (rest := []) ⟨hx, hb, hml, hown, hts⟩ (c_X7_triedAhead l D C N S z a0 v1 r33 S33 hc33) (cwV 1 hts gX7_layPairing_X7_triedAhead rfl rfl rfl (by decide +kernel) ⟨Nat.le_of_ble_eq_true rfl, Nat.le_of_ble_eq_true rfl⟩) (wd_preV hw hok32 (wF_7 (S := S) hok32.2) rfl) rfl rfl hl.1 rfl (lv_room (Nat.le_of_ble_eq_true rfl)) dX7_layPairing_76 ⟨Nat.zero_le _, Nat.zero_le _⟩) hw (fun H locs hw => ?_)
      refine lv_istore_n (lv' := [(1, .int r33), (0, .ref a0), (2, .int v2)]) hx hb dX7_layPairing_79 rfl hl (by decide) rfl (fun ls hl => ?_)
      refine lv_iload_n hx hb dX7_layPairing_80 rfl (lv_at hl 0 rfl) ?_
      refine lv_if_ge (tgt := 86) hx hb dX7_layPairing_81 (by decide) (fun c34 => ?_) (fun c34 => ?_)
      · have hg := it_pos hg c34
        refine lv_aload_n hx hb dX7_layPairing_86 rfl (lv_at hl 1 rfl) ?_
        refine lv_iload_n hx hb dX7_layPairing_87 rfl (lv_at hl 0 rfl) ?_
        obtain ⟨hok35, hg⟩ := gd_some hg
        obtain ⟨r36, S36, hc36, hg⟩ := cl_some hg
        refine wr_ci (va_runV (As := [.int r33]) (rest := []) ⟨hx, hb, hml, hown, hts⟩ (c_X7_pairNext l D C N S33 z a0 r33 r36 S36 hc36) (cwV 1 hts gX7_layPairing_X7_pairNext rfl rfl rfl (by decide +kernel) ⟨Nat.le_of_ble_eq_true rfl, Nat.le_of_ble_eq_true rfl⟩) (wd_preV hw hok35 (wF_7 (S := S33) hok35.2) rfl) rfl rfl hl.1 rfl (lv_room (Nat.le_of_ble_eq_true rfl)) dX7_layPairing_88 ⟨Nat.zero_le _, Nat.zero_le _⟩) hw (fun H locs hw => ?_)
        refine lv_istore_n (lv' := [(2, .int r36), (1, .int r33), (0, .ref a0)]) hx hb dX7_layPairing_91 rfl hl (by decide) rfl (fun ls hl => ?_)
        refine lv_goto (tgt := 70) hx hb dX7_layPairing_92 (by decide) ?_
        exact hK70 _ _ _ _ _ _ hg hw (lv_sub hl [2, 1, 0] rfl)
      · have hg := it_neg hg c34
        refine lv_iconst (v := (0 : Int32)) hx hb dX7_layPairing_84 (by decide) ?_
        cases hg
        exact wr_zret hx hb hr (by decide) hw dX7_layPairing_85 hlk
  have L70 : ∀ (K23 : Hp → Int32 → Option (Int32 × Hp)) (hK23 : ∀ (S : Hp) (v1 : Int32) (H : Heap) (locs : List Loc) (ls : Array Slot), K23 S v1 = some (r, S9) → Wd D C (va_A (wP C S0) z) s.heap S z H locs s → lv_has ls 3 [(0, .ref a0), (1, .int v1)] → W p l e rm_X7_layPairing s m ([.ref a0] : List Value).toArray below meth c H locs 0 0 (MQ below (QiW D C S0 z r S9 z) ([.ref a0] : List Value).toArray s 0 0 (va_A (wP C S0) z)) (F0 m 23 ls [])) (k : Nat) (S : Hp) (v1 : Int32) (v2 : Int32) (H : Heap) (locs : List Loc) (ls : Array Slot), f_X7_layPairing_l70 N a0 K23 k S v1 v2 = some (r, S9) → Wd D C (va_A (wP C S0) z) s.heap S z H locs s → lv_has ls 3 [(0, .ref a0), (1, .int v1), (2, .int v2)] → W p l e rm_X7_layPairing s m ([.ref a0] : List Value).toArray below meth c H locs 0 0 (MQ below (QiW D C S0 z r S9 z) ([.ref a0] : List Value).toArray s 0 0 (va_A (wP C S0) z)) (F0 m 70 ls []) := by
    intro K23 hK23 k
    induction k with
    | zero => intro S v1 v2 H locs ls hg hw hl; exact absurd (show (none : Option (Int32 × Hp)) = some (r, S9) from hg) (by simp)
    | succ k ih => intro S v1 v2 H locs ls hg hw hl; exact B70 K23 hK23 (f_X7_layPairing_l70 N a0 K23 k) ih S v1 v2 H locs ls hg hw hl
  have B23 : ∀ (K23 : Hp → Int32 → Option (Int32 × Hp)) (hK23 : ∀ (S : Hp) (v1 : Int32) (H : Heap) (locs : List Loc) (ls : Array Slot), K23 S v1 = some (r, S9) → Wd D C (va_A (wP C S0) z) s.heap S z H locs s → lv_has ls 3 [(0, .ref a0), (1, .int v1)] → W p l e rm_X7_layPairing s m ([.ref a0] : List Value).toArray below meth c H locs 0 0 (MQ below (QiW D C S0 z r S9 z) ([.ref a0] : List Value).toArray s 0 0 (va_A (wP C S0) z)) (F0 m 23 ls [])) (S : Hp) (v1 : Int32) (H : Heap) (locs : List Loc) (ls : Array Slot), f_X7_layPairing_b23 N a0 K23 S v1 = some (r, S9) → Wd D C (va_A (wP C S0) z) s.heap S z H locs s → lv_has ls 3 [(0, .ref a0), (1, .int v1)] → W p l e rm_X7_layPairing s m ([.ref a0] : List Value).toArray below meth c H locs 0 0 (MQ below (QiW D C S0 z r S9 z) ([.ref a0] : List Value).toArray s 0 0 (va_A (wP C S0) z)) (F0 m 23 ls []) := by
    intro K23 hK23 S v1 H locs ls hg hw hl
    unfold f_X7_layPairing_b23 at hg
    refine lv_iload_n hx hb dX7_layPairing_23 rfl (lv_at hl 1 rfl) ?_
    refine lv_aload_n hx hb dX7_layPairing_24 rfl (lv_at hl 0 rfl) ?_
    obtain ⟨hok15, hg⟩ := gd_some hg
    obtain ⟨r16, hr16, hg⟩ := nn_some hg
    refine wr_get (K := RX7) (T := TX7) (N := 20) (index := 7) (ref := "MakerLinesModel") (v := .ref r16) hx hb hts hi_X7_layPairing_X7 hown hw hok15 (wF_7 (S := S) hok15.2) rfl 0 (by decide) (hts _ (List.mem_of_getElem? (i := 2) rfl)) (fun _ h9 => h9) (congrArg (fun o => some (va_rf o)) hr16) dX7_layPairing_25 ?_
    refine lv_iconst (v := (2 : Int32)) hx hb dX7_layPairing_28 (by decide) ?_
    obtain ⟨hok17, hg⟩ := gd_some hg
    obtain ⟨hin18, hg⟩ := gd_some hg
    refine wr_iald hx hb hw hok17 (inb_vp hin18) dX7_layPairing_29 ?_
    refine lv_icmp_ge (tgt := 101) hx hb dX7_layPairing_30 (by decide) (fun c19 => ?_) (fun c19 => ?_)
    · have hg := it_pos hg c19
      refine lv_iconst (v := (1 : Int32)) hx hb dX7_layPairing_101 (by decide) ?_
      cases hg
      exact wr_zret hx hb hr (by decide) hw dX7_layPairing_102 hlk
    · have hg := it_neg hg c19
      refine lv_aload_n hx hb dX7_layPairing_33 rfl (lv_at hl 0 rfl) ?_
      obtain ⟨r20, hr20, hg⟩ := nn_some hg
      refine wr_get (K := RX7) (T := TX7) (N := 20) (index := 28) (ref := "MakerLinesModel") (v := .ref r20) hx hb hts hi_X7_layPairing_X7 hown hw hok15 (wF_7 (S := S) hok15.2) rfl 9 (by decide) (hts _ (List.mem_of_getElem? (i := 3) rfl)) (fun _ h9 => h9) (congrArg (fun o => some (va_rf o)) hr20) dX7_layPairing_34 ?_
      refine lv_iload_n hx hb dX7_layPairing_37 rfl (lv_at hl 1 rfl) ?_
      refine lv_iconst (v := (-1 : Int32)) hx hb dX7_layPairing_38 (by decide) ?_
      obtain ⟨hok21, hg⟩ := gd_some hg
      obtain ⟨hin22, hg⟩ := gd_some hg
      refine wr_iast hx hb hw hok21 (inb_vp hin22) dX7_layPairing_39 (fun H locs hw => ?_)
      refine lv_aload_n hx hb dX7_layPairing_40 rfl (lv_at hl 0 rfl) ?_
      refine lv_iload_n hx hb dX7_layPairing_41 rfl (lv_at hl 1 rfl) ?_
      obtain ⟨r23, S23, hc23, hg⟩ := cl_some hg
      refine wr_ci (va_runV (As := [.int v1]) (rest := []) ⟨hx, hb, hml, hown, hts⟩ (c_X7_isDead l D C N ((sI S r20 v1.toNatClampNeg (-1 : Int32))) z a0 v1 r23 S23 hc23) (cwV 1 hts gX7_layPairing_X7_isDead rfl rfl rfl (by decide +kernel) ⟨Nat.le_of_ble_eq_true rfl, Nat.le_of_ble_eq_true rfl⟩) (wd_preV hw hok15 (wF_7 (S := (sI S r20 v1.toNatClampNeg (-1 : Int32))) hok15.2) rfl) rfl rfl hl.1 rfl (lv_room (Nat.le_of_ble_eq_true rfl)) dX7_layPairing_42 ⟨Nat.zero_le _, Nat.zero_le _⟩) hw (fun H locs hw => ?_)
      refine lv_if_ne (tgt := 64) hx hb dX7_layPairing_45 (by decide) (fun c24 => ?_) (fun c24 => ?_)
      · have hg := it_neg hg c24
        refine lv_iconst (v := (1 : Int32)) hx hb dX7_layPairing_64 (by decide) ?_
        refine lv_goto (tgt := 69) hx hb dX7_layPairing_65 (by decide) ?_
        refine lv_istore_n (lv' := [(2, .int (1 : Int32)), (0, .ref a0), (1, .int v1)]) hx hb dX7_layPairing_69 rfl hl (by decide) rfl (fun ls hl => ?_)
        exact L70 K23 hK23 N _ _ _ _ _ _ hg hw (lv_sub hl [1, 2, 0] rfl)
      · have hg := it_pos hg c24
        refine lv_aload_n hx hb dX7_layPairing_48 rfl (lv_at hl 0 rfl) ?_
        refine lv_iload_n hx hb dX7_layPairing_49 rfl (lv_at hl 1 rfl) ?_
        obtain ⟨hok25, hg⟩ := gd_some hg
        obtain ⟨r26, S26, hc26, hg⟩ := cl_some hg
        refine wr_ci (va_runV (As := [.int v1]) (rest := []) ⟨hx, hb, hml, hown, hts⟩ (c_X7_hasPair l D C N S23 z a0 v1 r26 S26 hc26) (cwV 1 hts gX7_layPairing_X7_hasPair rfl rfl rfl (by decide +kernel) ⟨Nat.le_of_ble_eq_true rfl, Nat.le_of_ble_eq_true rfl⟩) (wd_preV hw hok25 (wF_7 (S := S23) hok25.2) rfl) rfl rfl hl.1 rfl (lv_room (Nat.le_of_ble_eq_true rfl)) dX7_layPairing_50 ⟨Nat.zero_le _, Nat.zero_le _⟩) hw (fun H locs hw => ?_)
        refine lv_if_ne (tgt := 64) hx hb dX7_layPairing_53 (by decide) (fun c27 => ?_) (fun c27 => ?_)
        · have hg := it_neg hg c27
          refine lv_iconst (v := (1 : Int32)) hx hb dX7_layPairing_64 (by decide) ?_
          refine lv_goto (tgt := 69) hx hb dX7_layPairing_65 (by decide) ?_
          refine lv_istore_n (lv' := [(2, .int (1 : Int32)), (0, .ref a0), (1, .int v1)]) hx hb dX7_layPairing_69 rfl hl (by decide) rfl (fun ls hl => ?_)
          exact L70 K23 hK23 N _ _ _ _ _ _ hg hw (lv_sub hl [1, 2, 0] rfl)
        · have hg := it_pos hg c27
          refine lv_aload_n hx hb dX7_layPairing_56 rfl (lv_at hl 0 rfl) ?_
          refine lv_iload_n hx hb dX7_layPairing_57 rfl (lv_at hl 1 rfl) ?_
          obtain ⟨hok28, hg⟩ := gd_some hg
          obtain ⟨r29, S29, hc29, hg⟩ := cl_some hg
          refine wr_ci (va_runV (As := [.int v1]) (rest := []) ⟨hx, hb, hml, hown, hts⟩ (c_X7_pairNext l D C N S26 z a0 v1 r29 S29 hc29) (cwV 1 hts gX7_layPairing_X7_pairNext rfl rfl rfl (by decide +kernel) ⟨Nat.le_of_ble_eq_true rfl, Nat.le_of_ble_eq_true rfl⟩) (wd_preV hw hok28 (wF_7 (S := S26) hok28.2) rfl) rfl rfl hl.1 rfl (lv_room (Nat.le_of_ble_eq_true rfl)) dX7_layPairing_58 ⟨Nat.zero_le _, Nat.zero_le _⟩) hw (fun H locs hw => ?_)
          refine lv_if_eq (tgt := 68) hx hb dX7_layPairing_61 (by decide) (fun c30 => ?_) (fun c30 => ?_)
          · have hg := it_pos hg c30
            refine lv_iconst (v := (0 : Int32)) hx hb dX7_layPairing_68 (by decide) ?_
            refine lv_istore_n (lv' := [(2, .int (0 : Int32)), (0, .ref a0), (1, .int v1)]) hx hb dX7_layPairing_69 rfl hl (by decide) rfl (fun ls hl => ?_)
            exact L70 K23 hK23 N _ _ _ _ _ _ hg hw (lv_sub hl [1, 2, 0] rfl)
          · have hg := it_neg hg c30
            refine lv_iconst (v := (1 : Int32)) hx hb dX7_layPairing_64 (by decide) ?_
            refine lv_goto (tgt := 69) hx hb dX7_layPairing_65 (by decide) ?_
            refine lv_istore_n (lv' := [(2, .int (1 : Int32)), (0, .ref a0), (1, .int v1)]) hx hb dX7_layPairing_69 rfl hl (by decide) rfl (fun ls hl => ?_)
            exact L70 K23 hK23 N _ _ _ _ _ _ hg hw (lv_sub hl [1, 2, 0] rfl)
  have L23 : ∀ (k : Nat) (S : Hp) (v1 : Int32) (H : Heap) (locs : List Loc) (ls : Array Slot), f_X7_layPairing_l23 N a0 k S v1 = some (r, S9) → Wd D C (va_A (wP C S0) z) s.heap S z H locs s → lv_has ls 3 [(0, .ref a0), (1, .int v1)] → W p l e rm_X7_layPairing s m ([.ref a0] : List Value).toArray below meth c H locs 0 0 (MQ below (QiW D C S0 z r S9 z) ([.ref a0] : List Value).toArray s 0 0 (va_A (wP C S0) z)) (F0 m 23 ls []) := by
    intro k
    induction k with
    | zero => intro S v1 H locs ls hg hw hl; exact absurd (show (none : Option (Int32 × Hp)) = some (r, S9) from hg) (by simp)
    | succ k ih => intro S v1 H locs ls hg hw hl; exact B23 (f_X7_layPairing_l23 N a0 k) ih S v1 H locs ls hg hw hl
  have B2 : ∀ (K2 : Hp → Int32 → Option (Int32 × Hp)) (hK2 : ∀ (S : Hp) (v1 : Int32) (H : Heap) (locs : List Loc) (ls : Array Slot), K2 S v1 = some (r, S9) → Wd D C (va_A (wP C S0) z) s.heap S z H locs s → lv_has ls 3 [(0, .ref a0), (1, .int v1)] → W p l e rm_X7_layPairing s m ([.ref a0] : List Value).toArray below meth c H locs 0 0 (MQ below (QiW D C S0 z r S9 z) ([.ref a0] : List Value).toArray s 0 0 (va_A (wP C S0) z)) (F0 m 2 ls [])) (S : Hp) (v1 : Int32) (H : Heap) (locs : List Loc) (ls : Array Slot), f_X7_layPairing_b2 N a0 K2 S v1 = some (r, S9) → Wd D C (va_A (wP C S0) z) s.heap S z H locs s → lv_has ls 3 [(0, .ref a0), (1, .int v1)] → W p l e rm_X7_layPairing s m ([.ref a0] : List Value).toArray below meth c H locs 0 0 (MQ below (QiW D C S0 z r S9 z) ([.ref a0] : List Value).toArray s 0 0 (va_A (wP C S0) z)) (F0 m 2 ls []) := by
    intro K2 hK2 S v1 H locs ls hg hw hl
    unfold f_X7_layPairing_b2 at hg
    refine lv_iload_n hx hb dX7_layPairing_2 rfl (lv_at hl 1 rfl) ?_
    refine lv_bipush (v := (10 : Int32)) hx hb dX7_layPairing_3 (by decide) ?_
    refine lv_icmp_ge (tgt := 21) hx hb dX7_layPairing_5 (by decide) (fun c10 => ?_) (fun c10 => ?_)
    · have hg := it_pos hg c10
      refine lv_iconst (v := (0 : Int32)) hx hb dX7_layPairing_21 (by decide) ?_
      refine lv_istore_n (lv' := [(1, .int (0 : Int32)), (0, .ref a0)]) hx hb dX7_layPairing_22 rfl hl (by decide) rfl (fun ls hl => ?_)
      exact L23 N _ _ _ _ _ hg hw (lv_sub hl [1, 0] rfl)
    · have hg := it_neg hg c10
      refine lv_aload_n hx hb dX7_layPairing_8 rfl (lv_at hl 0 rfl) ?_
      obtain ⟨hok11, hg⟩ := gd_some hg
      obtain ⟨r12, hr12, hg⟩ := nn_some hg
      refine wr_get (K := RX7) (T := TX7) (N := 20) (index := 25) (ref := "MakerLinesModel") (v := .ref r12) hx hb hts hi_X7_layPairing_X7 hown hw hok11 (wF_7 (S := S) hok11.2) rfl 8 (by decide) (hts _ (List.mem_of_getElem? (i := 1) rfl)) (fun _ h9 => h9) (congrArg (fun o => some (va_rf o)) hr12) dX7_layPairing_9 ?_
      refine lv_iload_n hx hb dX7_layPairing_12 rfl (lv_at hl 1 rfl) ?_
      refine lv_iconst (v := (-1 : Int32)) hx hb dX7_layPairing_13 (by decide) ?_
      obtain ⟨hok13, hg⟩ := gd_some hg
      obtain ⟨hin14, hg⟩ := gd_some hg
      refine wr_iast hx hb hw hok13 (inb_vp hin14) dX7_layPairing_14 (fun H locs hw => ?_)
      refine lv_iinc (v := (v1 + (1 : Int32))) (lv' := [(1, .int (v1 + (1 : Int32))), (0, .ref a0)]) hx hb dX7_layPairing_15 hl (k := 1) rfl rfl (by decide) rfl (fun ls hl => ?_)
      refine lv_goto (tgt := 2) hx hb dX7_layPairing_18 (by decide) ?_
      exact hK2 _ _ _ _ _ hg hw (lv_sub hl [1, 0] rfl)
  have L2 : ∀ (k : Nat) (S : Hp) (v1 : Int32) (H : Heap) (locs : List Loc) (ls : Array Slot), f_X7_layPairing_l2 N a0 k S v1 = some (r, S9) → Wd D C (va_A (wP C S0) z) s.heap S z H locs s → lv_has ls 3 [(0, .ref a0), (1, .int v1)] → W p l e rm_X7_layPairing s m ([.ref a0] : List Value).toArray below meth c H locs 0 0 (MQ below (QiW D C S0 z r S9 z) ([.ref a0] : List Value).toArray s 0 0 (va_A (wP C S0) z)) (F0 m 2 ls []) := by
    intro k
    induction k with
    | zero => intro S v1 H locs ls hg hw hl; exact absurd (show (none : Option (Int32 × Hp)) = some (r, S9) from hg) (by simp)
    | succ k ih => intro S v1 H locs ls hg hw hl; exact B2 (f_X7_layPairing_l2 N a0 k) ih S v1 H locs ls hg hw hl
  have B0 : ∀ (S : Hp) (H : Heap) (locs : List Loc) (ls : Array Slot), f_X7_layPairing N S a0 = some (r, S9) → Wd D C (va_A (wP C S0) z) s.heap S z H locs s → lv_has ls 3 [(0, .ref a0)] → W p l e rm_X7_layPairing s m ([.ref a0] : List Value).toArray below meth c H locs 0 0 (MQ below (QiW D C S0 z r S9 z) ([.ref a0] : List Value).toArray s 0 0 (va_A (wP C S0) z)) (F0 m 0 ls []) := by
    intro S H locs ls hg hw hl
    unfold f_X7_layPairing at hg
    refine lv_iconst (v := (0 : Int32)) hx hb dX7_layPairing_0 (by decide) ?_
    refine lv_istore_n (lv' := [(1, .int (0 : Int32)), (0, .ref a0)]) hx hb dX7_layPairing_1 rfl hl (by decide) rfl (fun ls hl => ?_)
    exact L2 N _ _ _ _ _ hg hw (lv_sub hl [1, 0] rfl)
  exact B0 S0 _ _ _ hg hw hl
theorem hi_X7_partnerOf_X7 : ∀ w ∈ wsX70, w ∈ wsX7_partnerOf := fun _ h => List.mem_cons_of_mem _ (List.mem_append_right _ (h))
abbrev rm_X7_partnerOf : Room := { frames := 6, cells := 0, slots := 0, locals := 128 }
set_option maxHeartbeats 4000000 in
set_option maxRecDepth 100000 in
theorem c_X7_partnerOf (l : Launch) (D : va_G) (C : C3) (N : Nat) (S0 : Hp) (z : Nat) (a0 : Nat) (x1 : Int32) (r : Int32) (S9 : Hp) (hg : f_X7_partnerOf N S0 a0 x1 = some (r, S9)) : MetI l yX7_partnerOf wsX7_partnerOf rm_X7_partnerOf D C S0 z [.ref a0, .int x1] r S9 z 0 0 := by
  refine mw_ofW (cc := cX7_partnerOf) (maxL := 2) (ret := (some .int)) (lv := [(0, .ref a0), (1, .int x1)]) (by decide) rfl (Nat.le_of_ble_eq_true rfl) rfl ?_
  intro p e s m below meth c ls hx hb hr hts hown hlk hml hnm hl hw
  have hown : s.vm.findClass RX7 = some m.cls := hown
  have B0 : ∀ (S : Hp) (H : Heap) (locs : List Loc) (ls : Array Slot), f_X7_partnerOf N S a0 x1 = some (r, S9) → Wd D C (va_A (wP C S0) z) s.heap S z H locs s → lv_has ls 2 [(0, .ref a0), (1, .int x1)] → W p l e rm_X7_partnerOf s m ([.ref a0, .int x1] : List Value).toArray below meth c H locs 0 0 (MQ below (QiW D C S0 z r S9 z) ([.ref a0, .int x1] : List Value).toArray s 0 0 (va_A (wP C S0) z)) (F0 m 0 ls []) := by
    intro S H locs ls hg hw hl
    unfold f_X7_partnerOf at hg
    refine lv_aload_n hx hb dX7_partnerOf_0 rfl (lv_at hl 0 rfl) ?_
    obtain ⟨hok10, hg⟩ := gd_some hg
    obtain ⟨r11, S11, hc11, hg⟩ := cl_some hg
    refine wr_ci (va_runV (As := []) (rest := []) ⟨hx, hb, hml, hown, hts⟩ (c_X7_layPairing l D C N S z a0 r11 S11 hc11) (cwV 0 hts gX7_partnerOf_X7_layPairing rfl rfl rfl (by decide +kernel) ⟨Nat.le_of_ble_eq_true rfl, Nat.le_of_ble_eq_true rfl⟩) (wd_preV hw hok10 (wF_7 (S := S) hok10.2) rfl) rfl rfl hl.1 rfl (lv_room (Nat.le_of_ble_eq_true rfl)) dX7_partnerOf_1 ⟨Nat.zero_le _, Nat.zero_le _⟩) hw (fun H locs hw => ?_)
    refine lv_if_eq (tgt := 16) hx hb dX7_partnerOf_4 (by decide) (fun c12 => ?_) (fun c12 => ?_)
    · have hg := it_pos hg c12
      refine lv_iconst (v := (-1 : Int32)) hx hb dX7_partnerOf_16 (by decide) ?_
      cases hg
      exact wr_iret hx hb hr hw dX7_partnerOf_17 hlk
    · have hg := it_neg hg c12
      refine lv_aload_n hx hb dX7_partnerOf_7 rfl (lv_at hl 0 rfl) ?_
      obtain ⟨hok13, hg⟩ := gd_some hg
      obtain ⟨r14, hr14, hg⟩ := nn_some hg
      refine wr_get (K := RX7) (T := TX7) (N := 20) (index := 25) (ref := "MakerLinesModel") (v := .ref r14) hx hb hts hi_X7_partnerOf_X7 hown hw hok13 (wF_7 (S := S11) hok13.2) rfl 8 (by decide) (hts _ (List.mem_of_getElem? (i := 1) rfl)) (fun _ h9 => h9) (congrArg (fun o => some (va_rf o)) hr14) dX7_partnerOf_8 ?_
      refine lv_iload_n hx hb dX7_partnerOf_11 rfl (lv_at hl 1 rfl) ?_
      obtain ⟨hok15, hg⟩ := gd_some hg
      obtain ⟨hin16, hg⟩ := gd_some hg
      refine wr_iald hx hb hw hok15 (inb_vp hin16) dX7_partnerOf_12 ?_
      refine lv_goto (tgt := 17) hx hb dX7_partnerOf_13 (by decide) ?_
      cases hg
      exact wr_iret hx hb hr hw dX7_partnerOf_17 hlk
  exact B0 S0 _ _ _ hg hw hl
theorem hi_X7_pairs_X7 : ∀ w ∈ wsX70, w ∈ wsX7_pairs := fun _ h => List.mem_cons_of_mem _ (List.mem_append_right _ (h))
abbrev rm_X7_pairs : Room := { frames := 6, cells := 0, slots := 0, locals := 128 }
set_option maxHeartbeats 4000000 in
set_option maxRecDepth 100000 in
theorem c_X7_pairs (l : Launch) (D : va_G) (C : C3) (N : Nat) (S0 : Hp) (z : Nat) (a0 : Nat) (r : Int32) (S9 : Hp) (hg : f_X7_pairs N S0 a0 = some (r, S9)) : MetI l yX7_pairs wsX7_pairs rm_X7_pairs D C S0 z [.ref a0] r S9 z 0 0 := by
  refine mw_ofW (cc := cX7_pairs) (maxL := 3) (ret := (some .int)) (lv := [(0, .ref a0)]) (by decide) rfl (Nat.le_of_ble_eq_true rfl) rfl ?_
  intro p e s m below meth c ls hx hb hr hts hown hlk hml hnm hl hw
  have hown : s.vm.findClass RX7 = some m.cls := hown
  have B13 : ∀ (K13 : Hp → Int32 → Int32 → Option (Int32 × Hp)) (hK13 : ∀ (S : Hp) (v1 : Int32) (v2 : Int32) (H : Heap) (locs : List Loc) (ls : Array Slot), K13 S v1 v2 = some (r, S9) → Wd D C (va_A (wP C S0) z) s.heap S z H locs s → lv_has ls 3 [(0, .ref a0), (1, .int v1), (2, .int v2)] → W p l e rm_X7_pairs s m ([.ref a0] : List Value).toArray below meth c H locs 0 0 (MQ below (QiW D C S0 z r S9 z) ([.ref a0] : List Value).toArray s 0 0 (va_A (wP C S0) z)) (F0 m 13 ls [])) (S : Hp) (v1 : Int32) (v2 : Int32) (H : Heap) (locs : List Loc) (ls : Array Slot), f_X7_pairs_b13 N a0 K13 S v1 v2 = some (r, S9) → Wd D C (va_A (wP C S0) z) s.heap S z H locs s → lv_has ls 3 [(0, .ref a0), (1, .int v1), (2, .int v2)] → W p l e rm_X7_pairs s m ([.ref a0] : List Value).toArray below meth c H locs 0 0 (MQ below (QiW D C S0 z r S9 z) ([.ref a0] : List Value).toArray s 0 0 (va_A (wP C S0) z)) (F0 m 13 ls []) := by
    intro K13 hK13 S v1 v2 H locs ls hg hw hl
    unfold f_X7_pairs_b13 at hg
    refine lv_iload_n hx hb dX7_pairs_13 rfl (lv_at hl 2 rfl) ?_
    refine lv_bipush (v := (10 : Int32)) hx hb dX7_pairs_14 (by decide) ?_
    refine lv_icmp_ge (tgt := 43) hx hb dX7_pairs_16 (by decide) (fun c13 => ?_) (fun c13 => ?_)
    · have hg := it_pos hg c13
      refine lv_iload_n hx hb dX7_pairs_43 rfl (lv_at hl 1 rfl) ?_
      cases hg
      exact wr_iret hx hb hr hw dX7_pairs_44 hlk
    · have hg := it_neg hg c13
      refine lv_iload_n hx hb dX7_pairs_19 rfl (lv_at hl 1 rfl) ?_
      refine lv_aload_n hx hb dX7_pairs_20 rfl (lv_at hl 0 rfl) ?_
      obtain ⟨hok14, hg⟩ := gd_some hg
      obtain ⟨r15, hr15, hg⟩ := nn_some hg
      refine wr_get (K := RX7) (T := TX7) (N := 20) (index := 25) (ref := "MakerLinesModel") (v := .ref r15) hx hb hts hi_X7_pairs_X7 hown hw hok14 (wF_7 (S := S) hok14.2) rfl 8 (by decide) (hts _ (List.mem_of_getElem? (i := 1) rfl)) (fun _ h9 => h9) (congrArg (fun o => some (va_rf o)) hr15) dX7_pairs_21 ?_
      refine lv_iload_n hx hb dX7_pairs_24 rfl (lv_at hl 2 rfl) ?_
      obtain ⟨hok16, hg⟩ := gd_some hg
      obtain ⟨hin17, hg⟩ := gd_some hg
      refine wr_iald hx hb hw hok16 (inb_vp hin17) dX7_pairs_25 ?_
      refine lv_iload_n hx hb dX7_pairs_26 rfl (lv_at hl 2 rfl) ?_
      refine lv_icmp_le (tgt := 34) hx hb dX7_pairs_27 (by decide) (fun c18 => ?_) (fun c18 => ?_)
      · have hg := it_pos hg c18
        refine lv_iconst (v := (0 : Int32)) hx hb dX7_pairs_34 (by decide) ?_
        refine lv_iadd hx hb dX7_pairs_35 ?_
        refine lv_istore_n (lv' := [(1, .int (v1 + (0 : Int32))), (0, .ref a0), (2, .int v2)]) hx hb dX7_pairs_36 rfl hl (by decide) rfl (fun ls hl => ?_)
        refine lv_iinc (v := (v2 + (1 : Int32))) (lv' := [(2, .int (v2 + (1 : Int32))), (1, .int (v1 + (0 : Int32))), (0, .ref a0)]) hx hb dX7_pairs_37 hl (k := 2) rfl rfl (by decide) rfl (fun ls hl => ?_)
        refine lv_goto (tgt := 13) hx hb dX7_pairs_40 (by decide) ?_
        exact hK13 _ _ _ _ _ _ hg hw (lv_sub hl [2, 1, 0] rfl)
      · have hg := it_neg hg c18
        refine lv_iconst (v := (1 : Int32)) hx hb dX7_pairs_30 (by decide) ?_
        refine lv_goto (tgt := 35) hx hb dX7_pairs_31 (by decide) ?_
        refine lv_iadd hx hb dX7_pairs_35 ?_
        refine lv_istore_n (lv' := [(1, .int (v1 + (1 : Int32))), (0, .ref a0), (2, .int v2)]) hx hb dX7_pairs_36 rfl hl (by decide) rfl (fun ls hl => ?_)
        refine lv_iinc (v := (v2 + (1 : Int32))) (lv' := [(2, .int (v2 + (1 : Int32))), (1, .int (v1 + (1 : Int32))), (0, .ref a0)]) hx hb dX7_pairs_37 hl (k := 2) rfl rfl (by decide) rfl (fun ls hl => ?_)
        refine lv_goto (tgt := 13) hx hb dX7_pairs_40 (by decide) ?_
        exact hK13 _ _ _ _ _ _ hg hw (lv_sub hl [2, 1, 0] rfl)
  have L13 : ∀ (k : Nat) (S : Hp) (v1 : Int32) (v2 : Int32) (H : Heap) (locs : List Loc) (ls : Array Slot), f_X7_pairs_l13 N a0 k S v1 v2 = some (r, S9) → Wd D C (va_A (wP C S0) z) s.heap S z H locs s → lv_has ls 3 [(0, .ref a0), (1, .int v1), (2, .int v2)] → W p l e rm_X7_pairs s m ([.ref a0] : List Value).toArray below meth c H locs 0 0 (MQ below (QiW D C S0 z r S9 z) ([.ref a0] : List Value).toArray s 0 0 (va_A (wP C S0) z)) (F0 m 13 ls []) := by
    intro k
    induction k with
    | zero => intro S v1 v2 H locs ls hg hw hl; exact absurd (show (none : Option (Int32 × Hp)) = some (r, S9) from hg) (by simp)
    | succ k ih => intro S v1 v2 H locs ls hg hw hl; exact B13 (f_X7_pairs_l13 N a0 k) ih S v1 v2 H locs ls hg hw hl
  have B0 : ∀ (S : Hp) (H : Heap) (locs : List Loc) (ls : Array Slot), f_X7_pairs N S a0 = some (r, S9) → Wd D C (va_A (wP C S0) z) s.heap S z H locs s → lv_has ls 3 [(0, .ref a0)] → W p l e rm_X7_pairs s m ([.ref a0] : List Value).toArray below meth c H locs 0 0 (MQ below (QiW D C S0 z r S9 z) ([.ref a0] : List Value).toArray s 0 0 (va_A (wP C S0) z)) (F0 m 0 ls []) := by
    intro S H locs ls hg hw hl
    unfold f_X7_pairs at hg
    refine lv_aload_n hx hb dX7_pairs_0 rfl (lv_at hl 0 rfl) ?_
    obtain ⟨hok10, hg⟩ := gd_some hg
    obtain ⟨r11, S11, hc11, hg⟩ := cl_some hg
    refine wr_ci (va_runV (As := []) (rest := []) ⟨hx, hb, hml, hown, hts⟩ (c_X7_layPairing l D C N S z a0 r11 S11 hc11) (cwV 0 hts gX7_pairs_X7_layPairing rfl rfl rfl (by decide +kernel) ⟨Nat.le_of_ble_eq_true rfl, Nat.le_of_ble_eq_true rfl⟩) (wd_preV hw hok10 (wF_7 (S := S) hok10.2) rfl) rfl rfl hl.1 rfl (lv_room (Nat.le_of_ble_eq_true rfl)) dX7_pairs_1 ⟨Nat.zero_le _, Nat.zero_le _⟩) hw (fun H locs hw => ?_)
    refine lv_if_ne (tgt := 9) hx hb dX7_pairs_4 (by decide) (fun c12 => ?_) (fun c12 => ?_)
    · have hg := it_neg hg c12
      refine lv_iconst (v := (0 : Int32)) hx hb dX7_pairs_9 (by decide) ?_
      refine lv_istore_n (lv' := [(1, .int (0 : Int32)), (0, .ref a0)]) hx hb dX7_pairs_10 rfl hl (by decide) rfl (fun ls hl => ?_)
      refine lv_iconst (v := (0 : Int32)) hx hb dX7_pairs_11 (by decide) ?_
      refine lv_istore_n (lv' := [(2, .int (0 : Int32)), (1, .int (0 : Int32)), (0, .ref a0)]) hx hb dX7_pairs_12 rfl hl (by decide) rfl (fun ls hl => ?_)
      exact L13 N _ _ _ _ _ _ hg hw (lv_sub hl [2, 1, 0] rfl)
    · have hg := it_pos hg c12
      refine lv_iconst (v := (-1 : Int32)) hx hb dX7_pairs_7 (by decide) ?_
      cases hg
      exact wr_iret hx hb hr hw dX7_pairs_8 hlk
  exact B0 S0 _ _ _ hg hw hl
theorem hi_X7_isSolved_X7 : ∀ w ∈ wsX70, w ∈ wsX7_isSolved := fun _ h => List.mem_cons_of_mem _ (List.mem_append_right _ (h))
abbrev rm_X7_isSolved : Room := { frames := 0, cells := 0, slots := 0, locals := 0 }
set_option maxHeartbeats 4000000 in
set_option maxRecDepth 100000 in
theorem c_X7_isSolved (l : Launch) (D : va_G) (C : C3) (N : Nat) (S0 : Hp) (z : Nat) (a0 : Nat) (r : Int32) (S9 : Hp) (hg : f_X7_isSolved N S0 a0 = some (r, S9)) : MetI l yX7_isSolved wsX7_isSolved rm_X7_isSolved D C S0 z [.ref a0] r S9 z 0 0 := by
  refine mw_ofW (cc := cX7_isSolved) (maxL := 3) (ret := (some .boolean)) (lv := [(0, .ref a0)]) (by decide) rfl (Nat.le_of_ble_eq_true rfl) rfl ?_
  intro p e s m below meth c ls hx hb hr hts hown hlk hml hnm hl hw
  have hown : s.vm.findClass RX7 = some m.cls := hown
  have B34 : ∀ (K34 : Hp → Int32 → Int32 → Option (Int32 × Hp)) (hK34 : ∀ (S : Hp) (v1 : Int32) (v2 : Int32) (H : Heap) (locs : List Loc) (ls : Array Slot), K34 S v1 v2 = some (r, S9) → Wd D C (va_A (wP C S0) z) s.heap S z H locs s → lv_has ls 3 [(0, .ref a0), (1, .int v1), (2, .int v2)] → W p l e rm_X7_isSolved s m ([.ref a0] : List Value).toArray below meth c H locs 0 0 (MQ below (QiW D C S0 z r S9 z) ([.ref a0] : List Value).toArray s 0 0 (va_A (wP C S0) z)) (F0 m 34 ls [])) (S : Hp) (v1 : Int32) (v2 : Int32) (H : Heap) (locs : List Loc) (ls : Array Slot), f_X7_isSolved_b34 N a0 K34 S v1 v2 = some (r, S9) → Wd D C (va_A (wP C S0) z) s.heap S z H locs s → lv_has ls 3 [(0, .ref a0), (1, .int v1), (2, .int v2)] → W p l e rm_X7_isSolved s m ([.ref a0] : List Value).toArray below meth c H locs 0 0 (MQ below (QiW D C S0 z r S9 z) ([.ref a0] : List Value).toArray s 0 0 (va_A (wP C S0) z)) (F0 m 34 ls []) := by
    intro K34 hK34 S v1 v2 H locs ls hg hw hl
    unfold f_X7_isSolved_b34 at hg
    refine lv_iload_n hx hb dX7_isSolved_34 rfl (lv_at hl 2 rfl) ?_
    refine lv_aload_n hx hb dX7_isSolved_35 rfl (lv_at hl 0 rfl) ?_
    obtain ⟨hok17, hg⟩ := gd_some hg
    obtain ⟨r18, hr18, hg⟩ := nn_some hg
    refine wr_get (K := RX7) (T := TX7) (N := 20) (index := 7) (ref := "MakerLinesModel") (v := .ref r18) hx hb hts hi_X7_isSolved_X7 hown hw hok17 (wF_7 (S := S) hok17.2) rfl 0 (by decide) (hts _ (List.mem_of_getElem? (i := 2) rfl)) (fun _ h9 => h9) (congrArg (fun o => some (va_rf o)) hr18) dX7_isSolved_36 ?_
    refine lv_iconst (v := (2 : Int32)) hx hb dX7_isSolved_39 (by decide) ?_
    obtain ⟨hok19, hg⟩ := gd_some hg
    obtain ⟨hin20, hg⟩ := gd_some hg
    refine wr_iald hx hb hw hok19 (inb_vp hin20) dX7_isSolved_40 ?_
    refine lv_icmp_ge (tgt := 78) hx hb dX7_isSolved_41 (by decide) (fun c21 => ?_) (fun c21 => ?_)
    · have hg := it_pos hg c21
      refine lv_iload_n hx hb dX7_isSolved_78 rfl (lv_at hl 1 rfl) ?_
      obtain ⟨hz22, hg⟩ := gd_some hg
      cases hg
      exact wr_zret hx hb hr hz22 hw dX7_isSolved_79 hlk
    · have hg := it_neg hg c21
      refine lv_iload_n hx hb dX7_isSolved_44 rfl (lv_at hl 1 rfl) ?_
      refine lv_if_eq (tgt := 70) hx hb dX7_isSolved_45 (by decide) (fun c23 => ?_) (fun c23 => ?_)
      · have hg := it_pos hg c23
        refine lv_iconst (v := (0 : Int32)) hx hb dX7_isSolved_70 (by decide) ?_
        refine lv_istore_n (lv' := [(1, .int (0 : Int32)), (0, .ref a0), (2, .int v2)]) hx hb dX7_isSolved_71 rfl hl (by decide) rfl (fun ls hl => ?_)
        refine lv_iinc (v := (v2 + (1 : Int32))) (lv' := [(2, .int (v2 + (1 : Int32))), (1, .int (0 : Int32)), (0, .ref a0)]) hx hb dX7_isSolved_72 hl (k := 2) rfl rfl (by decide) rfl (fun ls hl => ?_)
        refine lv_goto (tgt := 34) hx hb dX7_isSolved_75 (by decide) ?_
        exact hK34 _ _ _ _ _ _ hg hw (lv_sub hl [2, 1, 0] rfl)
      · have hg := it_neg hg c23
        refine lv_aload_n hx hb dX7_isSolved_48 rfl (lv_at hl 0 rfl) ?_
        obtain ⟨r24, hr24, hg⟩ := nn_some hg
        refine wr_get (K := RX7) (T := TX7) (N := 20) (index := 34) (ref := "MakerLinesModel") (v := .ref r24) hx hb hts hi_X7_isSolved_X7 hown hw hok17 (wF_7 (S := S) hok17.2) rfl 13 (by decide) (hts _ (List.mem_of_getElem? (i := 4) rfl)) (fun _ h9 => h9) (congrArg (fun o => some (va_rf o)) hr24) dX7_isSolved_49 ?_
        refine lv_iload_n hx hb dX7_isSolved_52 rfl (lv_at hl 2 rfl) ?_
        obtain ⟨hok25, hg⟩ := gd_some hg
        obtain ⟨hin26, hg⟩ := gd_some hg
        refine wr_iald hx hb hw hok25 (inb_vp hin26) dX7_isSolved_53 ?_
        refine lv_aload_n hx hb dX7_isSolved_54 rfl (lv_at hl 0 rfl) ?_
        refine wr_get (K := RX7) (T := TX7) (N := 20) (index := 7) (ref := "MakerLinesModel") (v := .ref r18) hx hb hts hi_X7_isSolved_X7 hown hw hok17 (wF_7 (S := S) hok17.2) rfl 0 (by decide) (hts _ (List.mem_of_getElem? (i := 2) rfl)) (fun _ h9 => h9) (congrArg (fun o => some (va_rf o)) hr18) dX7_isSolved_55 ?_
        refine lv_bipush (v := (10 : Int32)) hx hb dX7_isSolved_58 (by decide) ?_
        refine lv_iload_n hx hb dX7_isSolved_60 rfl (lv_at hl 2 rfl) ?_
        refine lv_iadd hx hb dX7_isSolved_61 ?_
        obtain ⟨hin27, hg⟩ := gd_some hg
        refine wr_iald hx hb hw hok19 (inb_vp hin27) dX7_isSolved_62 ?_
        refine lv_icmp_ne (tgt := 70) hx hb dX7_isSolved_63 (by decide) (fun c28 => ?_) (fun c28 => ?_)
        · have hg := it_neg hg c28
          refine lv_iconst (v := (0 : Int32)) hx hb dX7_isSolved_70 (by decide) ?_
          refine lv_istore_n (lv' := [(1, .int (0 : Int32)), (0, .ref a0), (2, .int v2)]) hx hb dX7_isSolved_71 rfl hl (by decide) rfl (fun ls hl => ?_)
          refine lv_iinc (v := (v2 + (1 : Int32))) (lv' := [(2, .int (v2 + (1 : Int32))), (1, .int (0 : Int32)), (0, .ref a0)]) hx hb dX7_isSolved_72 hl (k := 2) rfl rfl (by decide) rfl (fun ls hl => ?_)
          refine lv_goto (tgt := 34) hx hb dX7_isSolved_75 (by decide) ?_
          exact hK34 _ _ _ _ _ _ hg hw (lv_sub hl [2, 1, 0] rfl)
        · have hg := it_pos hg c28
          refine lv_iconst (v := (1 : Int32)) hx hb dX7_isSolved_66 (by decide) ?_
          refine lv_goto (tgt := 71) hx hb dX7_isSolved_67 (by decide) ?_
          refine lv_istore_n (lv' := [(1, .int (1 : Int32)), (0, .ref a0), (2, .int v2)]) hx hb dX7_isSolved_71 rfl hl (by decide) rfl (fun ls hl => ?_)
          refine lv_iinc (v := (v2 + (1 : Int32))) (lv' := [(2, .int (v2 + (1 : Int32))), (1, .int (1 : Int32)), (0, .ref a0)]) hx hb dX7_isSolved_72 hl (k := 2) rfl rfl (by decide) rfl (fun ls hl => ?_)
          refine lv_goto (tgt := 34) hx hb dX7_isSolved_75 (by decide) ?_
          exact hK34 _ _ _ _ _ _ hg hw (lv_sub hl [2, 1, 0] rfl)
  have L34 : ∀ (k : Nat) (S : Hp) (v1 : Int32) (v2 : Int32) (H : Heap) (locs : List Loc) (ls : Array Slot), f_X7_isSolved_l34 N a0 k S v1 v2 = some (r, S9) → Wd D C (va_A (wP C S0) z) s.heap S z H locs s → lv_has ls 3 [(0, .ref a0), (1, .int v1), (2, .int v2)] → W p l e rm_X7_isSolved s m ([.ref a0] : List Value).toArray below meth c H locs 0 0 (MQ below (QiW D C S0 z r S9 z) ([.ref a0] : List Value).toArray s 0 0 (va_A (wP C S0) z)) (F0 m 34 ls []) := by
    intro k
    induction k with
    | zero => intro S v1 v2 H locs ls hg hw hl; exact absurd (show (none : Option (Int32 × Hp)) = some (r, S9) from hg) (by simp)
    | succ k ih => intro S v1 v2 H locs ls hg hw hl; exact B34 (f_X7_isSolved_l34 N a0 k) ih S v1 v2 H locs ls hg hw hl
  have B0 : ∀ (S : Hp) (H : Heap) (locs : List Loc) (ls : Array Slot), f_X7_isSolved N S a0 = some (r, S9) → Wd D C (va_A (wP C S0) z) s.heap S z H locs s → lv_has ls 3 [(0, .ref a0)] → W p l e rm_X7_isSolved s m ([.ref a0] : List Value).toArray below meth c H locs 0 0 (MQ below (QiW D C S0 z r S9 z) ([.ref a0] : List Value).toArray s 0 0 (va_A (wP C S0) z)) (F0 m 0 ls []) := by
    intro S H locs ls hg hw hl
    unfold f_X7_isSolved at hg
    refine lv_aload_n hx hb dX7_isSolved_0 rfl (lv_at hl 0 rfl) ?_
    obtain ⟨hok10, hg⟩ := gd_some hg
    refine wr_get (K := RX7) (T := TX7) (N := 20) (index := 122) (ref := "MakerLinesModel") (v := .int (hI S a0 11)) hx hb hts hi_X7_isSolved_X7 hown hw hok10 (wF_7 (S := S) hok10.2) rfl 11 (by decide) (hts _ (List.mem_of_getElem? (i := 1) rfl)) (fun _ h9 => h9) rfl dX7_isSolved_1 ?_
    refine lv_aload_n hx hb dX7_isSolved_4 rfl (lv_at hl 0 rfl) ?_
    obtain ⟨r11, hr11, hg⟩ := nn_some hg
    refine wr_get (K := RX7) (T := TX7) (N := 20) (index := 7) (ref := "MakerLinesModel") (v := .ref r11) hx hb hts hi_X7_isSolved_X7 hown hw hok10 (wF_7 (S := S) hok10.2) rfl 0 (by decide) (hts _ (List.mem_of_getElem? (i := 2) rfl)) (fun _ h9 => h9) (congrArg (fun o => some (va_rf o)) hr11) dX7_isSolved_5 ?_
    refine lv_iconst (v := (0 : Int32)) hx hb dX7_isSolved_8 (by decide) ?_
    obtain ⟨hok12, hg⟩ := gd_some hg
    obtain ⟨hin13, hg⟩ := gd_some hg
    refine wr_iald hx hb hw hok12 (inb_vp hin13) dX7_isSolved_9 ?_
    refine lv_icmp_ne (tgt := 30) hx hb dX7_isSolved_10 (by decide) (fun c14 => ?_) (fun c14 => ?_)
    · have hg := it_neg hg c14
      refine lv_iconst (v := (0 : Int32)) hx hb dX7_isSolved_30 (by decide) ?_
      refine lv_istore_n (lv' := [(1, .int (0 : Int32)), (0, .ref a0)]) hx hb dX7_isSolved_31 rfl hl (by decide) rfl (fun ls hl => ?_)
      refine lv_iconst (v := (0 : Int32)) hx hb dX7_isSolved_32 (by decide) ?_
      refine lv_istore_n (lv' := [(2, .int (0 : Int32)), (1, .int (0 : Int32)), (0, .ref a0)]) hx hb dX7_isSolved_33 rfl hl (by decide) rfl (fun ls hl => ?_)
      exact L34 N _ _ _ _ _ _ hg hw (lv_sub hl [2, 1, 0] rfl)
    · have hg := it_pos hg c14
      refine lv_aload_n hx hb dX7_isSolved_13 rfl (lv_at hl 0 rfl) ?_
      refine wr_get (K := RX7) (T := TX7) (N := 20) (index := 125) (ref := "MakerLinesModel") (v := .int (hI S a0 12)) hx hb hts hi_X7_isSolved_X7 hown hw hok10 (wF_7 (S := S) hok10.2) rfl 12 (by decide) (hts _ (List.mem_of_getElem? (i := 3) rfl)) (fun _ h9 => h9) rfl dX7_isSolved_14 ?_
      refine lv_aload_n hx hb dX7_isSolved_17 rfl (lv_at hl 0 rfl) ?_
      refine wr_get (K := RX7) (T := TX7) (N := 20) (index := 7) (ref := "MakerLinesModel") (v := .ref r11) hx hb hts hi_X7_isSolved_X7 hown hw hok10 (wF_7 (S := S) hok10.2) rfl 0 (by decide) (hts _ (List.mem_of_getElem? (i := 2) rfl)) (fun _ h9 => h9) (congrArg (fun o => some (va_rf o)) hr11) dX7_isSolved_18 ?_
      refine lv_iconst (v := (2 : Int32)) hx hb dX7_isSolved_21 (by decide) ?_
      obtain ⟨hin15, hg⟩ := gd_some hg
      refine wr_iald hx hb hw hok12 (inb_vp hin15) dX7_isSolved_22 ?_
      refine lv_icmp_ne (tgt := 30) hx hb dX7_isSolved_23 (by decide) (fun c16 => ?_) (fun c16 => ?_)
      · have hg := it_neg hg c16
        refine lv_iconst (v := (0 : Int32)) hx hb dX7_isSolved_30 (by decide) ?_
        refine lv_istore_n (lv' := [(1, .int (0 : Int32)), (0, .ref a0)]) hx hb dX7_isSolved_31 rfl hl (by decide) rfl (fun ls hl => ?_)
        refine lv_iconst (v := (0 : Int32)) hx hb dX7_isSolved_32 (by decide) ?_
        refine lv_istore_n (lv' := [(2, .int (0 : Int32)), (1, .int (0 : Int32)), (0, .ref a0)]) hx hb dX7_isSolved_33 rfl hl (by decide) rfl (fun ls hl => ?_)
        exact L34 N _ _ _ _ _ _ hg hw (lv_sub hl [2, 1, 0] rfl)
      · have hg := it_pos hg c16
        refine lv_iconst (v := (1 : Int32)) hx hb dX7_isSolved_26 (by decide) ?_
        refine lv_goto (tgt := 31) hx hb dX7_isSolved_27 (by decide) ?_
        refine lv_istore_n (lv' := [(1, .int (1 : Int32)), (0, .ref a0)]) hx hb dX7_isSolved_31 rfl hl (by decide) rfl (fun ls hl => ?_)
        refine lv_iconst (v := (0 : Int32)) hx hb dX7_isSolved_32 (by decide) ?_
        refine lv_istore_n (lv' := [(2, .int (0 : Int32)), (1, .int (1 : Int32)), (0, .ref a0)]) hx hb dX7_isSolved_33 rfl hl (by decide) rfl (fun ls hl => ?_)
        exact L34 N _ _ _ _ _ _ hg hw (lv_sub hl [2, 1, 0] rfl)
  exact B0 S0 _ _ _ hg hw hl
abbrev rm_X7_power : Room := { frames := 0, cells := 0, slots := 0, locals := 0 }
set_option maxHeartbeats 4000000 in
set_option maxRecDepth 100000 in
theorem c_X7_power (l : Launch) (D : va_G) (C : C3) (N : Nat) (S0 : Hp) (z : Nat) (x0 : Int32) (r : Int32) (S9 : Hp) (hg : f_X7_power N S0 x0 = some (r, S9)) : MetI l yX7_power wsX7_power rm_X7_power D C S0 z [.int x0] r S9 z 0 0 := by
  refine mw_ofW (cc := cX7_power) (maxL := 3) (ret := (some .int)) (lv := [(0, .int x0)]) (by decide) rfl (Nat.le_of_ble_eq_true rfl) rfl ?_
  intro p e s m below meth c ls hx hb hr hts hown hlk hml hnm hl hw
  have hown : s.vm.findClass RX7 = some m.cls := hown
  have B4 : ∀ (K4 : Hp → Int32 → Int32 → Option (Int32 × Hp)) (hK4 : ∀ (S : Hp) (v1 : Int32) (v2 : Int32) (H : Heap) (locs : List Loc) (ls : Array Slot), K4 S v1 v2 = some (r, S9) → Wd D C (va_A (wP C S0) z) s.heap S z H locs s → lv_has ls 3 [(0, .int x0), (1, .int v1), (2, .int v2)] → W p l e rm_X7_power s m ([.int x0] : List Value).toArray below meth c H locs 0 0 (MQ below (QiW D C S0 z r S9 z) ([.int x0] : List Value).toArray s 0 0 (va_A (wP C S0) z)) (F0 m 4 ls [])) (S : Hp) (v1 : Int32) (v2 : Int32) (H : Heap) (locs : List Loc) (ls : Array Slot), f_X7_power_b4 N x0 K4 S v1 v2 = some (r, S9) → Wd D C (va_A (wP C S0) z) s.heap S z H locs s → lv_has ls 3 [(0, .int x0), (1, .int v1), (2, .int v2)] → W p l e rm_X7_power s m ([.int x0] : List Value).toArray below meth c H locs 0 0 (MQ below (QiW D C S0 z r S9 z) ([.int x0] : List Value).toArray s 0 0 (va_A (wP C S0) z)) (F0 m 4 ls []) := by
    intro K4 hK4 S v1 v2 H locs ls hg hw hl
    unfold f_X7_power_b4 at hg
    refine lv_iload_n hx hb dX7_power_4 rfl (lv_at hl 2 rfl) ?_
    refine lv_iload_n hx hb dX7_power_5 rfl (lv_at hl 0 rfl) ?_
    refine lv_icmp_ge (tgt := 19) hx hb dX7_power_6 (by decide) (fun c10 => ?_) (fun c10 => ?_)
    · have hg := it_pos hg c10
      refine lv_iload_n hx hb dX7_power_19 rfl (lv_at hl 1 rfl) ?_
      cases hg
      exact wr_iret hx hb hr hw dX7_power_20 hlk
    · have hg := it_neg hg c10
      refine lv_iload_n hx hb dX7_power_9 rfl (lv_at hl 1 rfl) ?_
      refine lv_iconst (v := (3 : Int32)) hx hb dX7_power_10 (by decide) ?_
      refine lv_imul hx hb dX7_power_11 ?_
      refine lv_istore_n (lv' := [(1, .int (v1 * (3 : Int32))), (0, .int x0), (2, .int v2)]) hx hb dX7_power_12 rfl hl (by decide) rfl (fun ls hl => ?_)
      refine lv_iinc (v := (v2 + (1 : Int32))) (lv' := [(2, .int (v2 + (1 : Int32))), (1, .int (v1 * (3 : Int32))), (0, .int x0)]) hx hb dX7_power_13 hl (k := 2) rfl rfl (by decide) rfl (fun ls hl => ?_)
      refine lv_goto (tgt := 4) hx hb dX7_power_16 (by decide) ?_
      exact hK4 _ _ _ _ _ _ hg hw (lv_sub hl [2, 1, 0] rfl)
  have L4 : ∀ (k : Nat) (S : Hp) (v1 : Int32) (v2 : Int32) (H : Heap) (locs : List Loc) (ls : Array Slot), f_X7_power_l4 N x0 k S v1 v2 = some (r, S9) → Wd D C (va_A (wP C S0) z) s.heap S z H locs s → lv_has ls 3 [(0, .int x0), (1, .int v1), (2, .int v2)] → W p l e rm_X7_power s m ([.int x0] : List Value).toArray below meth c H locs 0 0 (MQ below (QiW D C S0 z r S9 z) ([.int x0] : List Value).toArray s 0 0 (va_A (wP C S0) z)) (F0 m 4 ls []) := by
    intro k
    induction k with
    | zero => intro S v1 v2 H locs ls hg hw hl; exact absurd (show (none : Option (Int32 × Hp)) = some (r, S9) from hg) (by simp)
    | succ k ih => intro S v1 v2 H locs ls hg hw hl; exact B4 (f_X7_power_l4 N x0 k) ih S v1 v2 H locs ls hg hw hl
  have B0 : ∀ (S : Hp) (H : Heap) (locs : List Loc) (ls : Array Slot), f_X7_power N S x0 = some (r, S9) → Wd D C (va_A (wP C S0) z) s.heap S z H locs s → lv_has ls 3 [(0, .int x0)] → W p l e rm_X7_power s m ([.int x0] : List Value).toArray below meth c H locs 0 0 (MQ below (QiW D C S0 z r S9 z) ([.int x0] : List Value).toArray s 0 0 (va_A (wP C S0) z)) (F0 m 0 ls []) := by
    intro S H locs ls hg hw hl
    unfold f_X7_power at hg
    refine lv_iconst (v := (1 : Int32)) hx hb dX7_power_0 (by decide) ?_
    refine lv_istore_n (lv' := [(1, .int (1 : Int32)), (0, .int x0)]) hx hb dX7_power_1 rfl hl (by decide) rfl (fun ls hl => ?_)
    refine lv_iconst (v := (0 : Int32)) hx hb dX7_power_2 (by decide) ?_
    refine lv_istore_n (lv' := [(2, .int (0 : Int32)), (1, .int (1 : Int32)), (0, .int x0)]) hx hb dX7_power_3 rfl hl (by decide) rfl (fun ls hl => ?_)
    exact L4 N _ _ _ _ _ _ hg hw (lv_sub hl [2, 1, 0] rfl)
  exact B0 S0 _ _ _ hg hw hl
theorem hi_X7_placeOf_X7 : ∀ w ∈ wsX70, w ∈ wsX7_placeOf := fun _ h => List.mem_cons_of_mem _ (List.mem_append_right _ (h))
abbrev rm_X7_placeOf : Room := { frames := 1, cells := 0, slots := 0, locals := 21 }
set_option maxHeartbeats 4000000 in
set_option maxRecDepth 100000 in
theorem c_X7_placeOf (l : Launch) (D : va_G) (C : C3) (N : Nat) (S0 : Hp) (z : Nat) (a0 : Nat) (x1 : Int32) (x2 : Int32) (x3 : Int32) (r : Int32) (S9 : Hp) (hg : f_X7_placeOf N S0 a0 x1 x2 x3 = some (r, S9)) : MetI l yX7_placeOf wsX7_placeOf rm_X7_placeOf D C S0 z [.ref a0, .int x1, .int x2, .int x3] r S9 z 0 0 := by
  refine mw_ofW (cc := cX7_placeOf) (maxL := 6) (ret := (some .int)) (lv := [(0, .ref a0), (1, .int x1), (2, .int x2), (3, .int x3)]) (by decide) rfl (Nat.le_of_ble_eq_true rfl) rfl ?_
  intro p e s m below meth c ls hx hb hr hts hown hlk hml hnm hl hw
  have hown : s.vm.findClass RX7 = some m.cls := hown
  have B13 : ∀ (K13 : Hp → Int32 → Int32 → Option (Int32 × Hp)) (hK13 : ∀ (S : Hp) (v4 : Int32) (v5 : Int32) (H : Heap) (locs : List Loc) (ls : Array Slot), K13 S v4 v5 = some (r, S9) → Wd D C (va_A (wP C S0) z) s.heap S z H locs s → lv_has ls 6 [(1, .int x1), (2, .int x2), (3, .int x3), (4, .int v4), (5, .int v5)] → W p l e rm_X7_placeOf s m ([.ref a0, .int x1, .int x2, .int x3] : List Value).toArray below meth c H locs 0 0 (MQ below (QiW D C S0 z r S9 z) ([.ref a0, .int x1, .int x2, .int x3] : List Value).toArray s 0 0 (va_A (wP C S0) z)) (F0 m 13 ls [])) (S : Hp) (v4 : Int32) (v5 : Int32) (H : Heap) (locs : List Loc) (ls : Array Slot), f_X7_placeOf_b13 N a0 x1 x2 x3 K13 S v4 v5 = some (r, S9) → Wd D C (va_A (wP C S0) z) s.heap S z H locs s → lv_has ls 6 [(1, .int x1), (2, .int x2), (3, .int x3), (4, .int v4), (5, .int v5)] → W p l e rm_X7_placeOf s m ([.ref a0, .int x1, .int x2, .int x3] : List Value).toArray below meth c H locs 0 0 (MQ below (QiW D C S0 z r S9 z) ([.ref a0, .int x1, .int x2, .int x3] : List Value).toArray s 0 0 (va_A (wP C S0) z)) (F0 m 13 ls []) := by
    intro K13 hK13 S v4 v5 H locs ls hg hw hl
    unfold f_X7_placeOf_b13 at hg
    refine lv_iload hx hb dX7_placeOf_13 (lv_at hl 4 rfl) ?_
    refine lv_if_lt (tgt := 58) hx hb dX7_placeOf_15 (by decide) (fun c15 => ?_) (fun c15 => ?_)
    · have hg := it_pos hg c15
      refine lv_iload hx hb dX7_placeOf_58 (lv_at hl 3 rfl) ?_
      refine lv_ldc (own := RX7) (index := 128) (v := (59049 : Int32)) hx hb hown (hts _ (List.mem_of_getElem? (i := 2) rfl)) dX7_placeOf_60 ?_
      refine lv_iload_n hx hb dX7_placeOf_62 rfl (lv_at hl 2 rfl) ?_
      refine lv_iconst (v := (1 : Int32)) hx hb dX7_placeOf_63 (by decide) ?_
      refine lv_isub hx hb dX7_placeOf_64 ?_
      refine lv_imul hx hb dX7_placeOf_65 ?_
      refine lv_iadd hx hb dX7_placeOf_66 ?_
      cases hg
      exact wr_iret hx hb hr hw dX7_placeOf_67 hlk
    · have hg := it_neg hg c15
      refine lv_iconst (v := (3 : Int32)) hx hb dX7_placeOf_18 (by decide) ?_
      refine lv_iload hx hb dX7_placeOf_19 (lv_at hl 3 rfl) ?_
      refine lv_imul hx hb dX7_placeOf_21 ?_
      refine lv_iload_n hx hb dX7_placeOf_22 rfl (lv_at hl 0 rfl) ?_
      refine lv_iload hx hb dX7_placeOf_23 (lv_at hl 4 rfl) ?_
      obtain ⟨r16, S16, hc16, hg⟩ := cl_some hg
      refine wr_ci (va_runS (As := [.int x1, .int v5]) (rest := [.int ((3 : Int32) * v4)]) ⟨hx, hb, hml, hown, hts⟩ (c_X7_has l D C N S z x1 v5 r16 S16 hc16) (va_cwS 2 hts gX7_placeOf_X7_has rfl rfl rfl (by decide +kernel) ⟨Nat.le_of_ble_eq_true rfl, Nat.le_of_ble_eq_true rfl⟩) (wd_preS hw) rfl rfl hl.1 rfl (lv_room (Nat.le_of_ble_eq_true rfl)) dX7_placeOf_25 ⟨Nat.zero_le _, Nat.zero_le _⟩) hw (fun H locs hw => ?_)
      refine lv_if_eq (tgt := 35) hx hb dX7_placeOf_28 (by decide) (fun c17 => ?_) (fun c17 => ?_)
      · have hg := it_pos hg c17
        refine lv_iload_n hx hb dX7_placeOf_35 rfl (lv_at hl 1 rfl) ?_
        refine lv_iload hx hb dX7_placeOf_36 (lv_at hl 4 rfl) ?_
        obtain ⟨r18, S18, hc18, hg⟩ := cl_some hg
        refine wr_ci (va_runS (As := [.int x2, .int v5]) (rest := [.int ((3 : Int32) * v4)]) ⟨hx, hb, hml, hown, hts⟩ (c_X7_has l D C N S16 z x2 v5 r18 S18 hc18) (va_cwS 2 hts gX7_placeOf_X7_has rfl rfl rfl (by decide +kernel) ⟨Nat.le_of_ble_eq_true rfl, Nat.le_of_ble_eq_true rfl⟩) (wd_preS hw) rfl rfl hl.1 rfl (lv_room (Nat.le_of_ble_eq_true rfl)) dX7_placeOf_38 ⟨Nat.zero_le _, Nat.zero_le _⟩) hw (fun H locs hw => ?_)
        refine lv_if_eq (tgt := 48) hx hb dX7_placeOf_41 (by decide) (fun c19 => ?_) (fun c19 => ?_)
        · have hg := it_pos hg c19
          refine lv_iconst (v := (0 : Int32)) hx hb dX7_placeOf_48 (by decide) ?_
          refine lv_iadd hx hb dX7_placeOf_49 ?_
          obtain ⟨e20, he20, hg⟩ := bd_some hg
          refine lv_istore (lv' := [(4, .int e20), (1, .int x1), (2, .int x2), (3, .int x3), (5, .int v5)]) hx hb dX7_placeOf_50 hl (by decide) (by rw [he20]; rfl) (fun ls hl => ?_)
          refine lv_iinc (v := (v5 + (-1 : Int32))) (lv' := [(5, .int (v5 + (-1 : Int32))), (4, .int e20), (1, .int x1), (2, .int x2), (3, .int x3)]) hx hb dX7_placeOf_52 hl (k := 4) rfl rfl (by decide) rfl (fun ls hl => ?_)
          refine lv_goto (tgt := 13) hx hb dX7_placeOf_55 (by decide) ?_
          exact hK13 _ _ _ _ _ _ hg hw (lv_sub hl [2, 3, 4, 1, 0] rfl)
        · have hg := it_neg hg c19
          refine lv_iconst (v := (2 : Int32)) hx hb dX7_placeOf_44 (by decide) ?_
          refine lv_goto (tgt := 49) hx hb dX7_placeOf_45 (by decide) ?_
          refine lv_iadd hx hb dX7_placeOf_49 ?_
          obtain ⟨e21, he21, hg⟩ := bd_some hg
          refine lv_istore (lv' := [(4, .int e21), (1, .int x1), (2, .int x2), (3, .int x3), (5, .int v5)]) hx hb dX7_placeOf_50 hl (by decide) (by rw [he21]; rfl) (fun ls hl => ?_)
          refine lv_iinc (v := (v5 + (-1 : Int32))) (lv' := [(5, .int (v5 + (-1 : Int32))), (4, .int e21), (1, .int x1), (2, .int x2), (3, .int x3)]) hx hb dX7_placeOf_52 hl (k := 4) rfl rfl (by decide) rfl (fun ls hl => ?_)
          refine lv_goto (tgt := 13) hx hb dX7_placeOf_55 (by decide) ?_
          exact hK13 _ _ _ _ _ _ hg hw (lv_sub hl [2, 3, 4, 1, 0] rfl)
      · have hg := it_neg hg c17
        refine lv_iconst (v := (1 : Int32)) hx hb dX7_placeOf_31 (by decide) ?_
        refine lv_goto (tgt := 49) hx hb dX7_placeOf_32 (by decide) ?_
        refine lv_iadd hx hb dX7_placeOf_49 ?_
        obtain ⟨e22, he22, hg⟩ := bd_some hg
        refine lv_istore (lv' := [(4, .int e22), (1, .int x1), (2, .int x2), (3, .int x3), (5, .int v5)]) hx hb dX7_placeOf_50 hl (by decide) (by rw [he22]; rfl) (fun ls hl => ?_)
        refine lv_iinc (v := (v5 + (-1 : Int32))) (lv' := [(5, .int (v5 + (-1 : Int32))), (4, .int e22), (1, .int x1), (2, .int x2), (3, .int x3)]) hx hb dX7_placeOf_52 hl (k := 4) rfl rfl (by decide) rfl (fun ls hl => ?_)
        refine lv_goto (tgt := 13) hx hb dX7_placeOf_55 (by decide) ?_
        exact hK13 _ _ _ _ _ _ hg hw (lv_sub hl [2, 3, 4, 1, 0] rfl)
  have L13 : ∀ (k : Nat) (S : Hp) (v4 : Int32) (v5 : Int32) (H : Heap) (locs : List Loc) (ls : Array Slot), f_X7_placeOf_l13 N a0 x1 x2 x3 k S v4 v5 = some (r, S9) → Wd D C (va_A (wP C S0) z) s.heap S z H locs s → lv_has ls 6 [(1, .int x1), (2, .int x2), (3, .int x3), (4, .int v4), (5, .int v5)] → W p l e rm_X7_placeOf s m ([.ref a0, .int x1, .int x2, .int x3] : List Value).toArray below meth c H locs 0 0 (MQ below (QiW D C S0 z r S9 z) ([.ref a0, .int x1, .int x2, .int x3] : List Value).toArray s 0 0 (va_A (wP C S0) z)) (F0 m 13 ls []) := by
    intro k
    induction k with
    | zero => intro S v4 v5 H locs ls hg hw hl; exact absurd (show (none : Option (Int32 × Hp)) = some (r, S9) from hg) (by simp)
    | succ k ih => intro S v4 v5 H locs ls hg hw hl; exact B13 (f_X7_placeOf_l13 N a0 x1 x2 x3 k) ih S v4 v5 H locs ls hg hw hl
  have B0 : ∀ (S : Hp) (H : Heap) (locs : List Loc) (ls : Array Slot), f_X7_placeOf N S a0 x1 x2 x3 = some (r, S9) → Wd D C (va_A (wP C S0) z) s.heap S z H locs s → lv_has ls 6 [(0, .ref a0), (1, .int x1), (2, .int x2), (3, .int x3)] → W p l e rm_X7_placeOf s m ([.ref a0, .int x1, .int x2, .int x3] : List Value).toArray below meth c H locs 0 0 (MQ below (QiW D C S0 z r S9 z) ([.ref a0, .int x1, .int x2, .int x3] : List Value).toArray s 0 0 (va_A (wP C S0) z)) (F0 m 0 ls []) := by
    intro S H locs ls hg hw hl
    unfold f_X7_placeOf at hg
    refine lv_iconst (v := (0 : Int32)) hx hb dX7_placeOf_0 (by decide) ?_
    refine lv_istore (lv' := [(4, .int (0 : Int32)), (0, .ref a0), (1, .int x1), (2, .int x2), (3, .int x3)]) hx hb dX7_placeOf_1 hl (by decide) rfl (fun ls hl => ?_)
    refine lv_aload_n hx hb dX7_placeOf_3 rfl (lv_at hl 1 rfl) ?_
    obtain ⟨hok10, hg⟩ := gd_some hg
    obtain ⟨r11, hr11, hg⟩ := nn_some hg
    refine wr_get (K := RX7) (T := TX7) (N := 20) (index := 7) (ref := "MakerLinesModel") (v := .ref r11) hx hb hts hi_X7_placeOf_X7 hown hw hok10 (wF_7 (S := S) hok10.2) rfl 0 (by decide) (hts _ (List.mem_of_getElem? (i := 1) rfl)) (fun _ h9 => h9) (congrArg (fun o => some (va_rf o)) hr11) dX7_placeOf_4 ?_
    refine lv_iconst (v := (0 : Int32)) hx hb dX7_placeOf_7 (by decide) ?_
    obtain ⟨hok12, hg⟩ := gd_some hg
    obtain ⟨hin13, hg⟩ := gd_some hg
    refine wr_iald hx hb hw hok12 (inb_vp hin13) dX7_placeOf_8 ?_
    refine lv_iconst (v := (1 : Int32)) hx hb dX7_placeOf_9 (by decide) ?_
    refine lv_isub hx hb dX7_placeOf_10 ?_
    obtain ⟨e14, he14, hg⟩ := bd_some hg
    refine lv_istore (lv' := [(5, .int e14), (4, .int (0 : Int32)), (0, .ref a0), (1, .int x1), (2, .int x2), (3, .int x3)]) hx hb dX7_placeOf_11 hl (by decide) (by rw [he14]; rfl) (fun ls hl => ?_)
    exact L13 N _ _ _ _ _ _ hg hw (lv_sub hl [3, 4, 5, 1, 0] rfl)
  exact B0 S0 _ _ _ hg hw hl
