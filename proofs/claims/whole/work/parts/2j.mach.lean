theorem hi_X7_restore_X7 : ∀ w ∈ wsX70, w ∈ wsX7_restore := fun _ h => List.mem_cons_of_mem _ (List.mem_append_right _ (h))
abbrev rm_X7_restore : Room := { frames := 2, cells := 0, slots := 0, locals := 42 }
set_option maxHeartbeats 4000000 in
set_option maxRecDepth 100000 in
theorem c_X7_restore (l : Launch) (D : va_G) (C : C3) (N : Nat) (S0 : Hp) (z : Nat) (a0 : Nat) (x1 : Int32) (r : Int32) (S9 : Hp) (hg : f_X7_restore N S0 a0 x1 = some (r, S9)) : MetI l yX7_restore wsX7_restore rm_X7_restore D C S0 z [.ref a0, .int x1] r S9 z 0 0 := by
  refine mw_ofW (cc := cX7_restore) (maxL := 3) (ret := (some .int)) (lv := [(0, .ref a0), (1, .int x1)]) (by decide) rfl (Nat.le_of_ble_eq_true rfl) rfl ?_
  intro p e s m below meth c ls hx hb hr hts hown hlk hml hnm hl hw
  have hown : s.vm.findClass RX7 = some m.cls := hown
  have B95 : ∀ (K57 : Hp → Int32 → Option (Int32 × Hp)) (hK57 : ∀ (S : Hp) (v2 : Int32) (H : Heap) (locs : List Loc) (ls : Array Slot), K57 S v2 = some (r, S9) → Wd D C (va_A (wP C S0) z) s.heap S z H locs s → lv_has ls 3 [(0, .ref a0), (1, .int x1), (2, .int v2)] → W p l e rm_X7_restore s m ([.ref a0, .int x1] : List Value).toArray below meth c H locs 0 0 (MQ below (QiW D C S0 z r S9 z) ([.ref a0, .int x1] : List Value).toArray s 0 0 (va_A (wP C S0) z)) (F0 m 57 ls [])) (S : Hp) (v2 : Int32) (s0 : Int32) (s1 : Int32) (s2 : Nat) (H : Heap) (locs : List Loc) (ls : Array Slot), f_X7_restore_b95 N a0 x1 K57 S v2 s0 s1 s2 = some (r, S9) → Wd D C (va_A (wP C S0) z) s.heap S z H locs s → lv_has ls 3 [(0, .ref a0), (1, .int x1), (2, .int v2)] → W p l e rm_X7_restore s m ([.ref a0, .int x1] : List Value).toArray below meth c H locs 0 0 (MQ below (QiW D C S0 z r S9 z) ([.ref a0, .int x1] : List Value).toArray s 0 0 (va_A (wP C S0) z)) (F0 m 95 ls [.int s0, .int s1, .ref s2]) := by
    intro K57 hK57 S v2 s0 s1 s2 H locs ls hg hw hl
    unfold f_X7_restore_b95 at hg
    obtain ⟨hok40, hg⟩ := gd_some hg
    obtain ⟨hin41, hg⟩ := gd_some hg
    refine wr_iast hx hb hw hok40 (inb_vp hin41) dX7_restore_95 (fun H locs hw => ?_)
    refine lv_iinc (v := (v2 + (1 : Int32))) (lv' := [(2, .int (v2 + (1 : Int32))), (0, .ref a0), (1, .int x1)]) hx hb dX7_restore_96 hl (k := 2) rfl rfl (by decide) rfl (fun ls hl => ?_)
    refine lv_goto (tgt := 57) hx hb dX7_restore_99 (by decide) ?_
    exact hK57 _ _ _ _ _ hg hw (lv_sub hl [1, 2, 0] rfl)
  have B57 : ∀ (K57 : Hp → Int32 → Option (Int32 × Hp)) (hK57 : ∀ (S : Hp) (v2 : Int32) (H : Heap) (locs : List Loc) (ls : Array Slot), K57 S v2 = some (r, S9) → Wd D C (va_A (wP C S0) z) s.heap S z H locs s → lv_has ls 3 [(0, .ref a0), (1, .int x1), (2, .int v2)] → W p l e rm_X7_restore s m ([.ref a0, .int x1] : List Value).toArray below meth c H locs 0 0 (MQ below (QiW D C S0 z r S9 z) ([.ref a0, .int x1] : List Value).toArray s 0 0 (va_A (wP C S0) z)) (F0 m 57 ls [])) (S : Hp) (v2 : Int32) (H : Heap) (locs : List Loc) (ls : Array Slot), f_X7_restore_b57 N a0 x1 K57 S v2 = some (r, S9) → Wd D C (va_A (wP C S0) z) s.heap S z H locs s → lv_has ls 3 [(0, .ref a0), (1, .int x1), (2, .int v2)] → W p l e rm_X7_restore s m ([.ref a0, .int x1] : List Value).toArray below meth c H locs 0 0 (MQ below (QiW D C S0 z r S9 z) ([.ref a0, .int x1] : List Value).toArray s 0 0 (va_A (wP C S0) z)) (F0 m 57 ls []) := by
    intro K57 hK57 S v2 H locs ls hg hw hl
    unfold f_X7_restore_b57 at hg
    refine lv_iload_n hx hb dX7_restore_57 rfl (lv_at hl 2 rfl) ?_
    refine lv_bipush (v := (22 : Int32)) hx hb dX7_restore_58 (by decide) ?_
    refine lv_icmp_ge (tgt := 102) hx hb dX7_restore_60 (by decide) (fun c23 => ?_) (fun c23 => ?_)
    · have hg := it_pos hg c23
      refine lv_aload_n hx hb dX7_restore_102 rfl (lv_at hl 0 rfl) ?_
      obtain ⟨hok24, hg⟩ := gd_some hg
      obtain ⟨r25, hr25, hg⟩ := nn_some hg
      refine wr_get (K := RX7) (T := TX7) (N := 20) (index := 7) (ref := "MakerLinesModel") (v := .ref r25) hx hb hts hi_X7_restore_X7 hown hw hok24 (wF_7 (S := S) hok24.2) rfl 0 (by decide) (hts _ (List.mem_of_getElem? (i := 3) rfl)) (fun _ h9 => h9) (congrArg (fun o => some (va_rf o)) hr25) dX7_restore_103 ?_
      refine lv_iconst (v := (2 : Int32)) hx hb dX7_restore_106 (by decide) ?_
      obtain ⟨hok26, hg⟩ := gd_some hg
      obtain ⟨hin27, hg⟩ := gd_some hg
      refine wr_iald hx hb hw hok26 (inb_vp hin27) dX7_restore_107 ?_
      cases hg
      exact wr_iret hx hb hr hw dX7_restore_108 hlk
    · have hg := it_neg hg c23
      refine lv_aload_n hx hb dX7_restore_63 rfl (lv_at hl 0 rfl) ?_
      obtain ⟨hok28, hg⟩ := gd_some hg
      obtain ⟨r29, hr29, hg⟩ := nn_some hg
      refine wr_get (K := RX7) (T := TX7) (N := 20) (index := 7) (ref := "MakerLinesModel") (v := .ref r29) hx hb hts hi_X7_restore_X7 hown hw hok28 (wF_7 (S := S) hok28.2) rfl 0 (by decide) (hts _ (List.mem_of_getElem? (i := 3) rfl)) (fun _ h9 => h9) (congrArg (fun o => some (va_rf o)) hr29) dX7_restore_64 ?_
      refine lv_iload_n hx hb dX7_restore_67 rfl (lv_at hl 2 rfl) ?_
      refine lv_iload_n hx hb dX7_restore_68 rfl (lv_at hl 2 rfl) ?_
      obtain ⟨r30, S30, hc30, hg⟩ := cl_some hg
      refine wr_ci (va_runS (As := [.int v2]) (rest := [.int v2, .ref r29]) ⟨hx, hb, hml, hown, hts⟩ (c_X7_isKept l D C N S z v2 r30 S30 hc30) (va_cwS 1 hts gX7_restore_X7_isKept rfl rfl rfl (by decide +kernel) ⟨Nat.le_of_ble_eq_true rfl, Nat.le_of_ble_eq_true rfl⟩) (wd_preS hw) rfl rfl hl.1 rfl (lv_room (Nat.le_of_ble_eq_true rfl)) dX7_restore_69 ⟨Nat.zero_le _, Nat.zero_le _⟩) hw (fun H locs hw => ?_)
      refine lv_if_eq (tgt := 89) hx hb dX7_restore_72 (by decide) (fun c31 => ?_) (fun c31 => ?_)
      · have hg := it_pos hg c31
        refine lv_aload_n hx hb dX7_restore_89 rfl (lv_at hl 0 rfl) ?_
        obtain ⟨hok32, hg⟩ := gd_some hg
        obtain ⟨r33, hr33, hg⟩ := nn_some hg
        refine wr_get (K := RX7) (T := TX7) (N := 20) (index := 7) (ref := "MakerLinesModel") (v := .ref r33) hx hb hts hi_X7_restore_X7 hown hw hok32 (wF_7 (S := S30) hok32.2) rfl 0 (by decide) (hts _ (List.mem_of_getElem? (i := 3) rfl)) (fun _ h9 => h9) (congrArg (fun o => some (va_rf o)) hr33) dX7_restore_90 ?_
        refine lv_iload_n hx hb dX7_restore_93 rfl (lv_at hl 2 rfl) ?_
        obtain ⟨hok34, hg⟩ := gd_some hg
        obtain ⟨hin35, hg⟩ := gd_some hg
        refine wr_iald hx hb hw hok34 (inb_vp hin35) dX7_restore_94 ?_
        exact B95 K57 hK57 _ _ _ _ _ _ _ _ hg hw (lv_sub hl [0, 1, 2] rfl)
      · have hg := it_neg hg c31
        refine lv_aload_n hx hb dX7_restore_75 rfl (lv_at hl 0 rfl) ?_
        obtain ⟨hok36, hg⟩ := gd_some hg
        obtain ⟨r37, hr37, hg⟩ := nn_some hg
        refine wr_get (K := RX7) (T := TX7) (N := 20) (index := 16) (ref := "MakerLinesModel") (v := .ref r37) hx hb hts hi_X7_restore_X7 hown hw hok36 (wF_7 (S := S30) hok36.2) rfl 3 (by decide) (hts _ (List.mem_of_getElem? (i := 4) rfl)) (fun _ h9 => h9) (congrArg (fun o => some (va_rf o)) hr37) dX7_restore_76 ?_
        refine lv_bipush (v := (22 : Int32)) hx hb dX7_restore_79 (by decide) ?_
        refine lv_iload_n hx hb dX7_restore_81 rfl (lv_at hl 1 rfl) ?_
        refine lv_imul hx hb dX7_restore_82 ?_
        refine lv_iload_n hx hb dX7_restore_83 rfl (lv_at hl 2 rfl) ?_
        refine lv_iadd hx hb dX7_restore_84 ?_
        obtain ⟨hok38, hg⟩ := gd_some hg
        obtain ⟨hin39, hg⟩ := gd_some hg
        refine wr_iald hx hb hw hok38 (inb_vp hin39) dX7_restore_85 ?_
        refine lv_goto (tgt := 95) hx hb dX7_restore_86 (by decide) ?_
        exact B95 K57 hK57 _ _ _ _ _ _ _ _ hg hw (lv_sub hl [0, 1, 2] rfl)
  have L57 : ∀ (k : Nat) (S : Hp) (v2 : Int32) (H : Heap) (locs : List Loc) (ls : Array Slot), f_X7_restore_l57 N a0 x1 k S v2 = some (r, S9) → Wd D C (va_A (wP C S0) z) s.heap S z H locs s → lv_has ls 3 [(0, .ref a0), (1, .int x1), (2, .int v2)] → W p l e rm_X7_restore s m ([.ref a0, .int x1] : List Value).toArray below meth c H locs 0 0 (MQ below (QiW D C S0 z r S9 z) ([.ref a0, .int x1] : List Value).toArray s 0 0 (va_A (wP C S0) z)) (F0 m 57 ls []) := by
    intro k
    induction k with
    | zero => intro S v2 H locs ls hg hw hl; exact absurd (show (none : Option (Int32 × Hp)) = some (r, S9) from hg) (by simp)
    | succ k ih => intro S v2 H locs ls hg hw hl; exact B57 (f_X7_restore_l57 N a0 x1 k) ih S v2 H locs ls hg hw hl
  have B42 : ∀ (S : Hp) (H : Heap) (locs : List Loc) (ls : Array Slot), f_X7_restore_b42 N a0 x1 S = some (r, S9) → Wd D C (va_A (wP C S0) z) s.heap S z H locs s → lv_has ls 3 [(0, .ref a0), (1, .int x1)] → W p l e rm_X7_restore s m ([.ref a0, .int x1] : List Value).toArray below meth c H locs 0 0 (MQ below (QiW D C S0 z r S9 z) ([.ref a0, .int x1] : List Value).toArray s 0 0 (va_A (wP C S0) z)) (F0 m 42 ls []) := by
    intro S H locs ls hg hw hl
    unfold f_X7_restore_b42 at hg
    refine lv_aload_n hx hb dX7_restore_42 rfl (lv_at hl 0 rfl) ?_
    obtain ⟨hok19, hg⟩ := gd_some hg
    refine wr_get (K := RX7) (T := TX7) (N := 20) (index := 50) (ref := "MakerLinesModel") (v := .int (hI S a0 7)) hx hb hts hi_X7_restore_X7 hown hw hok19 (wF_7 (S := S) hok19.2) rfl 7 (by decide) (hts _ (List.mem_of_getElem? (i := 1) rfl)) (fun _ h9 => h9) rfl dX7_restore_43 ?_
    refine lv_if_le (tgt := 51) hx hb dX7_restore_46 (by decide) (fun c20 => ?_) (fun c20 => ?_)
    · have hg := it_pos hg c20
      refine lv_aload_n hx hb dX7_restore_51 rfl (lv_at hl 0 rfl) ?_
      obtain ⟨⟨⟩, S21, hc21, hg⟩ := cl_some hg
      refine wr_cv (va_runV (As := []) (rest := []) ⟨hx, hb, hml, hown, hts⟩ (c_X7_save l D C N S z a0 () S21 hc21) (cwV 0 hts gX7_restore_X7_save rfl rfl rfl (by decide +kernel) ⟨Nat.le_of_ble_eq_true rfl, Nat.le_of_ble_eq_true rfl⟩) (wd_preV hw hok19 (wF_7 (S := S) hok19.2) rfl) rfl rfl hl.1 rfl (lv_room (Nat.le_of_ble_eq_true rfl)) dX7_restore_52 ⟨Nat.zero_le _, Nat.zero_le _⟩) hw (fun H locs hw => ?_)
      refine lv_iconst (v := (0 : Int32)) hx hb dX7_restore_55 (by decide) ?_
      refine lv_istore_n (lv' := [(2, .int (0 : Int32)), (0, .ref a0), (1, .int x1)]) hx hb dX7_restore_56 rfl hl (by decide) rfl (fun ls hl => ?_)
      exact L57 N _ _ _ _ _ hg hw (lv_sub hl [1, 2, 0] rfl)
    · have hg := it_neg hg c20
      refine lv_iconst (v := (0 : Int32)) hx hb dX7_restore_49 (by decide) ?_
      cases hg
      exact wr_iret hx hb hr hw dX7_restore_50 hlk
  have B39 : ∀ (S : Hp) (s0 : Int32) (s1 : Nat) (H : Heap) (locs : List Loc) (ls : Array Slot), f_X7_restore_b39 N a0 x1 S s0 s1 = some (r, S9) → Wd D C (va_A (wP C S0) z) s.heap S z H locs s → lv_has ls 3 [(0, .ref a0), (1, .int x1)] → W p l e rm_X7_restore s m ([.ref a0, .int x1] : List Value).toArray below meth c H locs 0 0 (MQ below (QiW D C S0 z r S9 z) ([.ref a0, .int x1] : List Value).toArray s 0 0 (va_A (wP C S0) z)) (F0 m 39 ls [.int s0, .ref s1]) := by
    intro S s0 s1 H locs ls hg hw hl
    unfold f_X7_restore_b39 at hg
    obtain ⟨hok22, hg⟩ := gd_some hg
    refine wr_put (K := RX7) (T := TX7) (N := 20) (index := 50) (ref := "MakerLinesModel") (ty := (.int)) (S1 := (sI S s1 7 s0)) hx hb hts hi_X7_restore_X7 tyX7 tyX7_ok nmX7 hown hw hok22 (wF_7 (S := S) hok22.2) rfl (fun b hb9 => wF_sI_ne hb9) 7 (wq_7_7 (S := S) hok22.2 _) rfl (by decide) (hts _ (List.mem_of_getElem? (i := 1) rfl)) (fun _ h9 => h9) rfl (by decide +kernel) rfl rfl (Nat.le_of_ble_eq_true rfl) dX7_restore_39 (fun H locs hw => ?_)
    exact B42 _ _ _ _ hg hw (lv_sub hl [0, 1] rfl)
  have B13 : ∀ (S : Hp) (s0 : Int32) (s1 : Nat) (H : Heap) (locs : List Loc) (ls : Array Slot), f_X7_restore_b13 N a0 x1 S s0 s1 = some (r, S9) → Wd D C (va_A (wP C S0) z) s.heap S z H locs s → lv_has ls 3 [(0, .ref a0), (1, .int x1)] → W p l e rm_X7_restore s m ([.ref a0, .int x1] : List Value).toArray below meth c H locs 0 0 (MQ below (QiW D C S0 z r S9 z) ([.ref a0, .int x1] : List Value).toArray s 0 0 (va_A (wP C S0) z)) (F0 m 13 ls [.int s0, .ref s1]) := by
    intro S s0 s1 H locs ls hg hw hl
    unfold f_X7_restore_b13 at hg
    obtain ⟨hok12, hg⟩ := gd_some hg
    refine wr_put (K := RX7) (T := TX7) (N := 20) (index := 50) (ref := "MakerLinesModel") (ty := (.int)) (S1 := (sI S s1 7 s0)) hx hb hts hi_X7_restore_X7 tyX7 tyX7_ok nmX7 hown hw hok12 (wF_7 (S := S) hok12.2) rfl (fun b hb9 => wF_sI_ne hb9) 7 (wq_7_7 (S := S) hok12.2 _) rfl (by decide) (hts _ (List.mem_of_getElem? (i := 1) rfl)) (fun _ h9 => h9) rfl (by decide +kernel) rfl rfl (Nat.le_of_ble_eq_true rfl) dX7_restore_13 (fun H locs hw => ?_)
    refine lv_aload_n hx hb dX7_restore_16 rfl (lv_at hl 0 rfl) ?_
    obtain ⟨hok13, hg⟩ := gd_some hg
    refine wr_get (K := RX7) (T := TX7) (N := 20) (index := 50) (ref := "MakerLinesModel") (v := .int (hI ((sI S s1 7 s0)) a0 7)) hx hb hts hi_X7_restore_X7 hown hw hok13 (wF_7 (S := (sI S s1 7 s0)) hok13.2) rfl 7 (by decide) (hts _ (List.mem_of_getElem? (i := 1) rfl)) (fun _ h9 => h9) rfl dX7_restore_17 ?_
    refine lv_if_ne (tgt := 42) hx hb dX7_restore_20 (by decide) (fun c14 => ?_) (fun c14 => ?_)
    · have hg := it_neg hg c14
      exact B42 _ _ _ _ hg hw (lv_sub hl [0, 1] rfl)
    · have hg := it_pos hg c14
      refine lv_aload_n hx hb dX7_restore_23 rfl (lv_at hl 0 rfl) ?_
      refine lv_aload_n hx hb dX7_restore_24 rfl (lv_at hl 0 rfl) ?_
      obtain ⟨r15, hr15, hg⟩ := nn_some hg
      refine wr_get (K := RX7) (T := TX7) (N := 20) (index := 19) (ref := "MakerLinesModel") (v := .ref r15) hx hb hts hi_X7_restore_X7 hown hw hok13 (wF_7 (S := (sI S s1 7 s0)) hok13.2) rfl 4 (by decide) (hts _ (List.mem_of_getElem? (i := 2) rfl)) (fun _ h9 => h9) (congrArg (fun o => some (va_rf o)) hr15) dX7_restore_25 ?_
      refine lv_iload_n hx hb dX7_restore_28 rfl (lv_at hl 1 rfl) ?_
      obtain ⟨hok16, hg⟩ := gd_some hg
      obtain ⟨hin17, hg⟩ := gd_some hg
      refine wr_iald hx hb hw hok16 (inb_vp hin17) dX7_restore_29 ?_
      refine lv_iconst (v := (1 : Int32)) hx hb dX7_restore_30 (by decide) ?_
      refine lv_icmp_ne (tgt := 38) hx hb dX7_restore_31 (by decide) (fun c18 => ?_) (fun c18 => ?_)
      · have hg := it_neg hg c18
        refine lv_iconst (v := (2 : Int32)) hx hb dX7_restore_38 (by decide) ?_
        exact B39 _ _ _ _ _ _ hg hw (lv_sub hl [0, 1] rfl)
      · have hg := it_pos hg c18
        refine lv_iconst (v := (0 : Int32)) hx hb dX7_restore_34 (by decide) ?_
        refine lv_goto (tgt := 39) hx hb dX7_restore_35 (by decide) ?_
        exact B39 _ _ _ _ _ _ hg hw (lv_sub hl [0, 1] rfl)
  have B0 : ∀ (S : Hp) (H : Heap) (locs : List Loc) (ls : Array Slot), f_X7_restore N S a0 x1 = some (r, S9) → Wd D C (va_A (wP C S0) z) s.heap S z H locs s → lv_has ls 3 [(0, .ref a0), (1, .int x1)] → W p l e rm_X7_restore s m ([.ref a0, .int x1] : List Value).toArray below meth c H locs 0 0 (MQ below (QiW D C S0 z r S9 z) ([.ref a0, .int x1] : List Value).toArray s 0 0 (va_A (wP C S0) z)) (F0 m 0 ls []) := by
    intro S H locs ls hg hw hl
    unfold f_X7_restore at hg
    refine lv_aload_n hx hb dX7_restore_0 rfl (lv_at hl 0 rfl) ?_
    refine lv_iload_n hx hb dX7_restore_1 rfl (lv_at hl 1 rfl) ?_
    obtain ⟨r10, S10, hc10, hg⟩ := cl_some hg
    refine wr_ci (va_runS (As := [.int x1]) (rest := [.ref a0]) ⟨hx, hb, hml, hown, hts⟩ (c_X7_isSnapshot l D C N S z x1 r10 S10 hc10) (va_cwS 1 hts gX7_restore_X7_isSnapshot rfl rfl rfl (by decide +kernel) ⟨Nat.le_of_ble_eq_true rfl, Nat.le_of_ble_eq_true rfl⟩) (wd_preS hw) rfl rfl hl.1 rfl (lv_room (Nat.le_of_ble_eq_true rfl)) dX7_restore_2 ⟨Nat.zero_le _, Nat.zero_le _⟩) hw (fun H locs hw => ?_)
    refine lv_if_eq (tgt := 12) hx hb dX7_restore_5 (by decide) (fun c11 => ?_) (fun c11 => ?_)
    · have hg := it_pos hg c11
      refine lv_iconst (v := (1 : Int32)) hx hb dX7_restore_12 (by decide) ?_
      exact B13 _ _ _ _ _ _ hg hw (lv_sub hl [0, 1] rfl)
    · have hg := it_neg hg c11
      refine lv_iconst (v := (0 : Int32)) hx hb dX7_restore_8 (by decide) ?_
      refine lv_goto (tgt := 13) hx hb dX7_restore_9 (by decide) ?_
      exact B13 _ _ _ _ _ _ hg hw (lv_sub hl [0, 1] rfl)
  exact B0 S0 _ _ _ hg hw hl
theorem hi_X7_undo_X7 : ∀ w ∈ wsX70, w ∈ wsX7_undo := fun _ h => List.mem_cons_of_mem _ (List.mem_append_right _ (h))
abbrev rm_X7_undo : Room := { frames := 0, cells := 0, slots := 0, locals := 0 }
set_option maxHeartbeats 4000000 in
set_option maxRecDepth 100000 in
theorem c_X7_undo (l : Launch) (D : va_G) (C : C3) (N : Nat) (S0 : Hp) (z : Nat) (a0 : Nat) (r : Int32) (S9 : Hp) (hg : f_X7_undo N S0 a0 = some (r, S9)) : MetI l yX7_undo wsX7_undo rm_X7_undo D C S0 z [.ref a0] r S9 z 0 0 := by
  refine mw_ofW (cc := cX7_undo) (maxL := 2) (ret := (some .int)) (lv := [(0, .ref a0)]) (by decide) rfl (Nat.le_of_ble_eq_true rfl) rfl ?_
  intro p e s m below meth c ls hx hb hr hts hown hlk hml hnm hl hw
  have hown : s.vm.findClass RX7 = some m.cls := hown
  have B37 : ∀ (K37 : Hp → Int32 → Option (Int32 × Hp)) (hK37 : ∀ (S : Hp) (v1 : Int32) (H : Heap) (locs : List Loc) (ls : Array Slot), K37 S v1 = some (r, S9) → Wd D C (va_A (wP C S0) z) s.heap S z H locs s → lv_has ls 2 [(0, .ref a0), (1, .int v1)] → W p l e rm_X7_undo s m ([.ref a0] : List Value).toArray below meth c H locs 0 0 (MQ below (QiW D C S0 z r S9 z) ([.ref a0] : List Value).toArray s 0 0 (va_A (wP C S0) z)) (F0 m 37 ls [])) (S : Hp) (v1 : Int32) (H : Heap) (locs : List Loc) (ls : Array Slot), f_X7_undo_b37 N a0 K37 S v1 = some (r, S9) → Wd D C (va_A (wP C S0) z) s.heap S z H locs s → lv_has ls 2 [(0, .ref a0), (1, .int v1)] → W p l e rm_X7_undo s m ([.ref a0] : List Value).toArray below meth c H locs 0 0 (MQ below (QiW D C S0 z r S9 z) ([.ref a0] : List Value).toArray s 0 0 (va_A (wP C S0) z)) (F0 m 37 ls []) := by
    intro K37 hK37 S v1 H locs ls hg hw hl
    unfold f_X7_undo_b37 at hg
    refine lv_iload_n hx hb dX7_undo_37 rfl (lv_at hl 1 rfl) ?_
    refine lv_bipush (v := (22 : Int32)) hx hb dX7_undo_38 (by decide) ?_
    refine lv_icmp_ge (tgt := 69) hx hb dX7_undo_40 (by decide) (fun c18 => ?_) (fun c18 => ?_)
    · have hg := it_pos hg c18
      refine lv_aload_n hx hb dX7_undo_69 rfl (lv_at hl 0 rfl) ?_
      obtain ⟨hok19, hg⟩ := gd_some hg
      refine wr_get (K := RX7) (T := TX7) (N := 20) (index := 54) (ref := "MakerLinesModel") (v := .int (hI S a0 1)) hx hb hts hi_X7_undo_X7 hown hw hok19 (wF_7 (S := S) hok19.2) rfl 1 (by decide) (hts _ (List.mem_of_getElem? (i := 1) rfl)) (fun _ h9 => h9) rfl dX7_undo_70 ?_
      cases hg
      exact wr_iret hx hb hr hw dX7_undo_73 hlk
    · have hg := it_neg hg c18
      refine lv_aload_n hx hb dX7_undo_43 rfl (lv_at hl 0 rfl) ?_
      obtain ⟨hok20, hg⟩ := gd_some hg
      obtain ⟨r21, hr21, hg⟩ := nn_some hg
      refine wr_get (K := RX7) (T := TX7) (N := 20) (index := 7) (ref := "MakerLinesModel") (v := .ref r21) hx hb hts hi_X7_undo_X7 hown hw hok20 (wF_7 (S := S) hok20.2) rfl 0 (by decide) (hts _ (List.mem_of_getElem? (i := 3) rfl)) (fun _ h9 => h9) (congrArg (fun o => some (va_rf o)) hr21) dX7_undo_44 ?_
      refine lv_iload_n hx hb dX7_undo_47 rfl (lv_at hl 1 rfl) ?_
      refine lv_aload_n hx hb dX7_undo_48 rfl (lv_at hl 0 rfl) ?_
      obtain ⟨r22, hr22, hg⟩ := nn_some hg
      refine wr_get (K := RX7) (T := TX7) (N := 20) (index := 13) (ref := "MakerLinesModel") (v := .ref r22) hx hb hts hi_X7_undo_X7 hown hw hok20 (wF_7 (S := S) hok20.2) rfl 2 (by decide) (hts _ (List.mem_of_getElem? (i := 4) rfl)) (fun _ h9 => h9) (congrArg (fun o => some (va_rf o)) hr22) dX7_undo_49 ?_
      refine lv_bipush (v := (22 : Int32)) hx hb dX7_undo_52 (by decide) ?_
      refine lv_aload_n hx hb dX7_undo_54 rfl (lv_at hl 0 rfl) ?_
      refine wr_get (K := RX7) (T := TX7) (N := 20) (index := 54) (ref := "MakerLinesModel") (v := .int (hI S a0 1)) hx hb hts hi_X7_undo_X7 hown hw hok20 (wF_7 (S := S) hok20.2) rfl 1 (by decide) (hts _ (List.mem_of_getElem? (i := 1) rfl)) (fun _ h9 => h9) rfl dX7_undo_55 ?_
      refine lv_imul hx hb dX7_undo_58 ?_
      refine lv_iload_n hx hb dX7_undo_59 rfl (lv_at hl 1 rfl) ?_
      refine lv_iadd hx hb dX7_undo_60 ?_
      obtain ⟨hok23, hg⟩ := gd_some hg
      obtain ⟨hin24, hg⟩ := gd_some hg
      refine wr_iald hx hb hw hok23 (inb_vp hin24) dX7_undo_61 ?_
      obtain ⟨hok25, hg⟩ := gd_some hg
      obtain ⟨hin26, hg⟩ := gd_some hg
      refine wr_iast hx hb hw hok25 (inb_vp hin26) dX7_undo_62 (fun H locs hw => ?_)
      obtain ⟨S27, hS27, hg⟩ := bd_some hg
      rw [← hS27] at hw
      have hok28 : ok S27 a0 7 := by rw [hS27]; exact hok20
      have hr29 : hR S27 a0 0 = some r21 := by rw [hS27]; exact hr21
      have hr30 : hR S27 a0 2 = some r22 := by rw [hS27]; exact hr22
      have hok31 : ok S27 r22 8 := by rw [hS27]; exact hok23
      have hin32 : inb (((22 : Int32) * (hI S a0 1)) + v1) (hN S27 r22) := by rw [hS27]; exact hin24
      have hok33 : ok S27 r21 8 := by rw [hS27]; exact hok25
      have hin34 : inb v1 (hN S27 r21) := by rw [hS27]; exact hin26
      refine lv_iinc (v := (v1 + (1 : Int32))) (lv' := [(1, .int (v1 + (1 : Int32))), (0, .ref a0)]) hx hb dX7_undo_63 hl (k := 1) rfl rfl (by decide) rfl (fun ls hl => ?_)
      refine lv_goto (tgt := 37) hx hb dX7_undo_66 (by decide) ?_
      exact hK37 _ _ _ _ _ hg hw (lv_sub hl [1, 0] rfl)
  have L37 : ∀ (k : Nat) (S : Hp) (v1 : Int32) (H : Heap) (locs : List Loc) (ls : Array Slot), f_X7_undo_l37 N a0 k S v1 = some (r, S9) → Wd D C (va_A (wP C S0) z) s.heap S z H locs s → lv_has ls 2 [(0, .ref a0), (1, .int v1)] → W p l e rm_X7_undo s m ([.ref a0] : List Value).toArray below meth c H locs 0 0 (MQ below (QiW D C S0 z r S9 z) ([.ref a0] : List Value).toArray s 0 0 (va_A (wP C S0) z)) (F0 m 37 ls []) := by
    intro k
    induction k with
    | zero => intro S v1 H locs ls hg hw hl; exact absurd (show (none : Option (Int32 × Hp)) = some (r, S9) from hg) (by simp)
    | succ k ih => intro S v1 H locs ls hg hw hl; exact B37 (f_X7_undo_l37 N a0 k) ih S v1 H locs ls hg hw hl
  have B13 : ∀ (S : Hp) (s0 : Int32) (s1 : Nat) (H : Heap) (locs : List Loc) (ls : Array Slot), f_X7_undo_b13 N a0 S s0 s1 = some (r, S9) → Wd D C (va_A (wP C S0) z) s.heap S z H locs s → lv_has ls 2 [(0, .ref a0)] → W p l e rm_X7_undo s m ([.ref a0] : List Value).toArray below meth c H locs 0 0 (MQ below (QiW D C S0 z r S9 z) ([.ref a0] : List Value).toArray s 0 0 (va_A (wP C S0) z)) (F0 m 13 ls [.int s0, .ref s1]) := by
    intro S s0 s1 H locs ls hg hw hl
    unfold f_X7_undo_b13 at hg
    obtain ⟨hok12, hg⟩ := gd_some hg
    refine wr_put (K := RX7) (T := TX7) (N := 20) (index := 50) (ref := "MakerLinesModel") (ty := (.int)) (S1 := (sI S s1 7 s0)) hx hb hts hi_X7_undo_X7 tyX7 tyX7_ok nmX7 hown hw hok12 (wF_7 (S := S) hok12.2) rfl (fun b hb9 => wF_sI_ne hb9) 7 (wq_7_7 (S := S) hok12.2 _) rfl (by decide) (hts _ (List.mem_of_getElem? (i := 2) rfl)) (fun _ h9 => h9) rfl (by decide +kernel) rfl rfl (Nat.le_of_ble_eq_true rfl) dX7_undo_13 (fun H locs hw => ?_)
    refine lv_aload_n hx hb dX7_undo_16 rfl (lv_at hl 0 rfl) ?_
    obtain ⟨hok13, hg⟩ := gd_some hg
    refine wr_get (K := RX7) (T := TX7) (N := 20) (index := 50) (ref := "MakerLinesModel") (v := .int (hI ((sI S s1 7 s0)) a0 7)) hx hb hts hi_X7_undo_X7 hown hw hok13 (wF_7 (S := (sI S s1 7 s0)) hok13.2) rfl 7 (by decide) (hts _ (List.mem_of_getElem? (i := 2) rfl)) (fun _ h9 => h9) rfl dX7_undo_17 ?_
    refine lv_if_le (tgt := 25) hx hb dX7_undo_20 (by decide) (fun c14 => ?_) (fun c14 => ?_)
    · have hg := it_pos hg c14
      refine lv_aload_n hx hb dX7_undo_25 rfl (lv_at hl 0 rfl) ?_
      refine lv_dup hx hb dX7_undo_26 rfl ?_
      refine wr_get (K := RX7) (T := TX7) (N := 20) (index := 54) (ref := "MakerLinesModel") (v := .int (hI ((sI S s1 7 s0)) a0 1)) hx hb hts hi_X7_undo_X7 hown hw hok13 (wF_7 (S := (sI S s1 7 s0)) hok13.2) rfl 1 (by decide) (hts _ (List.mem_of_getElem? (i := 1) rfl)) (fun _ h9 => h9) rfl dX7_undo_27 ?_
      refine lv_iconst (v := (1 : Int32)) hx hb dX7_undo_30 (by decide) ?_
      refine lv_isub hx hb dX7_undo_31 ?_
      refine wr_put (K := RX7) (T := TX7) (N := 20) (index := 54) (ref := "MakerLinesModel") (ty := (.int)) (S1 := (sI (sI S s1 7 s0) a0 1 ((hI ((sI S s1 7 s0)) a0 1) - (1 : Int32)))) hx hb hts hi_X7_undo_X7 tyX7 tyX7_ok nmX7 hown hw hok13 (wF_7 (S := (sI S s1 7 s0)) hok13.2) rfl (fun b hb9 => wF_sI_ne hb9) 1 (wq_7_1 (S := (sI S s1 7 s0)) hok13.2 _) rfl (by decide) (hts _ (List.mem_of_getElem? (i := 1) rfl)) (fun _ h9 => h9) rfl (by decide +kernel) rfl rfl (Nat.le_of_ble_eq_true rfl) dX7_undo_32 (fun H locs hw => ?_)
      obtain ⟨S15, hS15, hg⟩ := bd_some hg
      rw [← hS15] at hw
      have hok16 : ok S15 s1 7 := by rw [hS15]; exact hok12
      have hok17 : ok S15 a0 7 := by rw [hS15]; exact hok13
      refine lv_iconst (v := (0 : Int32)) hx hb dX7_undo_35 (by decide) ?_
      refine lv_istore_n (lv' := [(1, .int (0 : Int32)), (0, .ref a0)]) hx hb dX7_undo_36 rfl hl (by decide) rfl (fun ls hl => ?_)
      exact L37 N _ _ _ _ _ hg hw (lv_sub hl [1, 0] rfl)
    · have hg := it_neg hg c14
      refine lv_iconst (v := (0 : Int32)) hx hb dX7_undo_23 (by decide) ?_
      cases hg
      exact wr_iret hx hb hr hw dX7_undo_24 hlk
  have B0 : ∀ (S : Hp) (H : Heap) (locs : List Loc) (ls : Array Slot), f_X7_undo N S a0 = some (r, S9) → Wd D C (va_A (wP C S0) z) s.heap S z H locs s → lv_has ls 2 [(0, .ref a0)] → W p l e rm_X7_undo s m ([.ref a0] : List Value).toArray below meth c H locs 0 0 (MQ below (QiW D C S0 z r S9 z) ([.ref a0] : List Value).toArray s 0 0 (va_A (wP C S0) z)) (F0 m 0 ls []) := by
    intro S H locs ls hg hw hl
    unfold f_X7_undo at hg
    refine lv_aload_n hx hb dX7_undo_0 rfl (lv_at hl 0 rfl) ?_
    refine lv_aload_n hx hb dX7_undo_1 rfl (lv_at hl 0 rfl) ?_
    obtain ⟨hok10, hg⟩ := gd_some hg
    refine wr_get (K := RX7) (T := TX7) (N := 20) (index := 54) (ref := "MakerLinesModel") (v := .int (hI S a0 1)) hx hb hts hi_X7_undo_X7 hown hw hok10 (wF_7 (S := S) hok10.2) rfl 1 (by decide) (hts _ (List.mem_of_getElem? (i := 1) rfl)) (fun _ h9 => h9) rfl dX7_undo_2 ?_
    refine lv_if_le (tgt := 12) hx hb dX7_undo_5 (by decide) (fun c11 => ?_) (fun c11 => ?_)
    · have hg := it_pos hg c11
      refine lv_iconst (v := (1 : Int32)) hx hb dX7_undo_12 (by decide) ?_
      exact B13 _ _ _ _ _ _ hg hw (lv_sub hl [0] rfl)
    · have hg := it_neg hg c11
      refine lv_iconst (v := (0 : Int32)) hx hb dX7_undo_8 (by decide) ?_
      refine lv_goto (tgt := 13) hx hb dX7_undo_9 (by decide) ?_
      exact B13 _ _ _ _ _ _ hg hw (lv_sub hl [0] rfl)
  exact B0 S0 _ _ _ hg hw hl
theorem hi_X7_lineNow_X7 : ∀ w ∈ wsX70, w ∈ wsX7_lineNow := fun _ h => List.mem_cons_of_mem _ (List.mem_append_right _ (h))
abbrev rm_X7_lineNow : Room := { frames := 4, cells := 0, slots := 0, locals := 82 }
set_option maxHeartbeats 4000000 in
set_option maxRecDepth 100000 in
theorem c_X7_lineNow (l : Launch) (D : va_G) (C : C3) (N : Nat) (S0 : Hp) (z : Nat) (a0 : Nat) (x1 : Int32) (x2 : Int32) (r : Int32) (S9 : Hp) (hg : f_X7_lineNow N S0 a0 x1 x2 = some (r, S9)) : MetI l yX7_lineNow wsX7_lineNow rm_X7_lineNow D C S0 z [.ref a0, .int x1, .int x2] r S9 z 0 0 := by
  refine mw_ofW (cc := cX7_lineNow) (maxL := 3) (ret := (some .int)) (lv := [(0, .ref a0), (1, .int x1), (2, .int x2)]) (by decide) rfl (Nat.le_of_ble_eq_true rfl) rfl ?_
  intro p e s m below meth c ls hx hb hr hts hown hlk hml hnm hl hw
  have hown : s.vm.findClass RX7 = some m.cls := hown
  have B0 : ∀ (S : Hp) (H : Heap) (locs : List Loc) (ls : Array Slot), f_X7_lineNow N S a0 x1 x2 = some (r, S9) → Wd D C (va_A (wP C S0) z) s.heap S z H locs s → lv_has ls 3 [(0, .ref a0), (1, .int x1), (2, .int x2)] → W p l e rm_X7_lineNow s m ([.ref a0, .int x1, .int x2] : List Value).toArray below meth c H locs 0 0 (MQ below (QiW D C S0 z r S9 z) ([.ref a0, .int x1, .int x2] : List Value).toArray s 0 0 (va_A (wP C S0) z)) (F0 m 0 ls []) := by
    intro S H locs ls hg hw hl
    unfold f_X7_lineNow at hg
    refine lv_iload_n hx hb dX7_lineNow_0 rfl (lv_at hl 2 rfl) ?_
    by_cases c14 : x2 = 0
    · have hg := it_pos hg c14
      refine lv_tableIn (tgt := 32) hx hb dX7_lineNow_1 (by rw [c14]; decide) (by rw [c14]; decide) (off := 31) (by rw [c14]; rfl) (by decide) ?_
      refine lv_aload_n hx hb dX7_lineNow_32 rfl (lv_at hl 0 rfl) ?_
      obtain ⟨hok10, hg⟩ := gd_some hg
      obtain ⟨r11, hr11, hg⟩ := nn_some hg
      refine wr_get (K := RX7) (T := TX7) (N := 20) (index := 7) (ref := "MakerLinesModel") (v := .ref r11) hx hb hts hi_X7_lineNow_X7 hown hw hok10 (wF_7 (S := S) hok10.2) rfl 0 (by decide) (hts _ (List.mem_of_getElem? (i := 1) rfl)) (fun _ h9 => h9) (congrArg (fun o => some (va_rf o)) hr11) dX7_lineNow_33 ?_
      refine lv_bipush (v := (10 : Int32)) hx hb dX7_lineNow_36 (by decide) ?_
      refine lv_iload_n hx hb dX7_lineNow_38 rfl (lv_at hl 1 rfl) ?_
      refine lv_iadd hx hb dX7_lineNow_39 ?_
      obtain ⟨hok12, hg⟩ := gd_some hg
      obtain ⟨hin13, hg⟩ := gd_some hg
      refine wr_iald hx hb hw hok12 (inb_vp hin13) dX7_lineNow_40 ?_
      cases hg
      exact wr_iret hx hb hr hw dX7_lineNow_41 hlk
    · have hg := it_neg hg c14
      by_cases c18 : x2 = 1
      · have hg := it_pos hg c18
        refine lv_tableIn (tgt := 42) hx hb dX7_lineNow_1 (by rw [c18]; decide) (by rw [c18]; decide) (off := 41) (by rw [c18]; rfl) (by decide) ?_
        refine lv_aload_n hx hb dX7_lineNow_42 rfl (lv_at hl 0 rfl) ?_
        refine lv_iload_n hx hb dX7_lineNow_43 rfl (lv_at hl 1 rfl) ?_
        obtain ⟨hok15, hg⟩ := gd_some hg
        obtain ⟨r16, S16, hc16, hg⟩ := cl_some hg
        refine wr_ci (va_runV (As := [.int x1]) (rest := []) ⟨hx, hb, hml, hown, hts⟩ (c_X7_isDead l D C N S z a0 x1 r16 S16 hc16) (cwV 1 hts gX7_lineNow_X7_isDead rfl rfl rfl (by decide +kernel) ⟨Nat.le_of_ble_eq_true rfl, Nat.le_of_ble_eq_true rfl⟩) (wd_preV hw hok15 (wF_7 (S := S) hok15.2) rfl) rfl rfl hl.1 rfl (lv_room (Nat.le_of_ble_eq_true rfl)) dX7_lineNow_44 ⟨Nat.zero_le _, Nat.zero_le _⟩) hw (fun H locs hw => ?_)
        refine lv_if_eq (tgt := 54) hx hb dX7_lineNow_47 (by decide) (fun c17 => ?_) (fun c17 => ?_)
        · have hg := it_pos hg c17
          refine lv_iconst (v := (0 : Int32)) hx hb dX7_lineNow_54 (by decide) ?_
          cases hg
          exact wr_iret hx hb hr hw dX7_lineNow_55 hlk
        · have hg := it_neg hg c17
          refine lv_iconst (v := (1 : Int32)) hx hb dX7_lineNow_50 (by decide) ?_
          refine lv_goto (tgt := 55) hx hb dX7_lineNow_51 (by decide) ?_
          cases hg
          exact wr_iret hx hb hr hw dX7_lineNow_55 hlk
      · have hg := it_neg hg c18
        by_cases c22 : x2 = 2
        · have hg := it_pos hg c22
          refine lv_tableIn (tgt := 56) hx hb dX7_lineNow_1 (by rw [c22]; decide) (by rw [c22]; decide) (off := 55) (by rw [c22]; rfl) (by decide) ?_
          refine lv_aload_n hx hb dX7_lineNow_56 rfl (lv_at hl 0 rfl) ?_
          refine lv_iload_n hx hb dX7_lineNow_57 rfl (lv_at hl 1 rfl) ?_
          obtain ⟨hok19, hg⟩ := gd_some hg
          obtain ⟨r20, S20, hc20, hg⟩ := cl_some hg
          refine wr_ci (va_runV (As := [.int x1]) (rest := []) ⟨hx, hb, hml, hown, hts⟩ (c_X7_freeOf l D C N S z a0 x1 r20 S20 hc20) (cwV 1 hts gX7_lineNow_X7_freeOf rfl rfl rfl (by decide +kernel) ⟨Nat.le_of_ble_eq_true rfl, Nat.le_of_ble_eq_true rfl⟩) (wd_preV hw hok19 (wF_7 (S := S) hok19.2) rfl) rfl rfl hl.1 rfl (lv_room (Nat.le_of_ble_eq_true rfl)) dX7_lineNow_58 ⟨Nat.zero_le _, Nat.zero_le _⟩) hw (fun H locs hw => ?_)
          obtain ⟨r21, S21, hc21, hg⟩ := cl_some hg
          refine wr_ci (va_runS (As := [.int r20]) (rest := []) ⟨hx, hb, hml, hown, hts⟩ (c_X7_ones l D C N S20 z r20 r21 S21 hc21) (va_cwS 1 hts gX7_lineNow_X7_ones rfl rfl rfl (by decide +kernel) ⟨Nat.le_of_ble_eq_true rfl, Nat.le_of_ble_eq_true rfl⟩) (wd_preS hw) rfl rfl hl.1 rfl (lv_room (Nat.le_of_ble_eq_true rfl)) dX7_lineNow_61 ⟨Nat.zero_le _, Nat.zero_le _⟩) hw (fun H locs hw => ?_)
          cases hg
          exact wr_iret hx hb hr hw dX7_lineNow_64 hlk
        · have hg := it_neg hg c22
          by_cases c25 : x2 = 3
          · have hg := it_pos hg c25
            refine lv_tableIn (tgt := 65) hx hb dX7_lineNow_1 (by rw [c25]; decide) (by rw [c25]; decide) (off := 64) (by rw [c25]; rfl) (by decide) ?_
            refine lv_aload_n hx hb dX7_lineNow_65 rfl (lv_at hl 0 rfl) ?_
            refine lv_iload_n hx hb dX7_lineNow_66 rfl (lv_at hl 1 rfl) ?_
            obtain ⟨hok23, hg⟩ := gd_some hg
            obtain ⟨r24, S24, hc24, hg⟩ := cl_some hg
            refine wr_ci (va_runV (As := [.int x1]) (rest := []) ⟨hx, hb, hml, hown, hts⟩ (c_X7_weightOf l D C N S z a0 x1 r24 S24 hc24) (cwV 1 hts gX7_lineNow_X7_weightOf rfl rfl rfl (by decide +kernel) ⟨Nat.le_of_ble_eq_true rfl, Nat.le_of_ble_eq_true rfl⟩) (wd_preV hw hok23 (wF_7 (S := S) hok23.2) rfl) rfl rfl hl.1 rfl (lv_room (Nat.le_of_ble_eq_true rfl)) dX7_lineNow_67 ⟨Nat.zero_le _, Nat.zero_le _⟩) hw (fun H locs hw => ?_)
            cases hg
            exact wr_iret hx hb hr hw dX7_lineNow_70 hlk
          · have hg := it_neg hg c25
            refine lv_tableOut (tgt := 71) hx hb dX7_lineNow_1 (sw_out 3 (by decide) (fun j hj => ?_)) (by decide) ?_
            · rcases (show j = 0 ∨ j = 1 ∨ j = 2 ∨ j = 3 by omega) with rfl | rfl | rfl | rfl
              · exact c14
              · exact c18
              · exact c22
              · exact c25
            refine lv_aload_n hx hb dX7_lineNow_71 rfl (lv_at hl 0 rfl) ?_
            obtain ⟨hok26, hg⟩ := gd_some hg
            obtain ⟨r27, hr27, hg⟩ := nn_some hg
            refine wr_get (K := RX7) (T := TX7) (N := 20) (index := 7) (ref := "MakerLinesModel") (v := .ref r27) hx hb hts hi_X7_lineNow_X7 hown hw hok26 (wF_7 (S := S) hok26.2) rfl 0 (by decide) (hts _ (List.mem_of_getElem? (i := 1) rfl)) (fun _ h9 => h9) (congrArg (fun o => some (va_rf o)) hr27) dX7_lineNow_72 ?_
            refine lv_bipush (v := (10 : Int32)) hx hb dX7_lineNow_75 (by decide) ?_
            refine lv_iload_n hx hb dX7_lineNow_77 rfl (lv_at hl 1 rfl) ?_
            refine lv_iadd hx hb dX7_lineNow_78 ?_
            obtain ⟨hok28, hg⟩ := gd_some hg
            obtain ⟨hin29, hg⟩ := gd_some hg
            refine wr_iald hx hb hw hok28 (inb_vp hin29) dX7_lineNow_79 ?_
            refine lv_aload_n hx hb dX7_lineNow_80 rfl (lv_at hl 0 rfl) ?_
            obtain ⟨r30, S30, hc30, hg⟩ := cl_some hg
            refine wr_ci (va_runV (As := []) (rest := [.int (hI S r27 ((10 : Int32) + x1).toNatClampNeg)]) ⟨hx, hb, hml, hown, hts⟩ (c_X7_maker l D C N S z a0 r30 S30 hc30) (cwV 0 hts gX7_lineNow_X7_maker rfl rfl rfl (by decide +kernel) ⟨Nat.le_of_ble_eq_true rfl, Nat.le_of_ble_eq_true rfl⟩) (wd_preV hw hok26 (wF_7 (S := S) hok26.2) rfl) rfl rfl hl.1 rfl (lv_room (Nat.le_of_ble_eq_true rfl)) dX7_lineNow_81 ⟨Nat.zero_le _, Nat.zero_le _⟩) hw (fun H locs hw => ?_)
            refine lv_iand hx hb dX7_lineNow_84 ?_
            obtain ⟨r31, S31, hc31, hg⟩ := cl_some hg
            refine wr_ci (va_runS (As := [.int ((hI S r27 ((10 : Int32) + x1).toNatClampNeg) &&& r30)]) (rest := []) ⟨hx, hb, hml, hown, hts⟩ (c_X7_ones l D C N S30 z (((hI S r27 ((10 : Int32) + x1).toNatClampNeg) &&& r30)) r31 S31 hc31) (va_cwS 1 hts gX7_lineNow_X7_ones rfl rfl rfl (by decide +kernel) ⟨Nat.le_of_ble_eq_true rfl, Nat.le_of_ble_eq_true rfl⟩) (wd_preS hw) rfl rfl hl.1 rfl (lv_room (Nat.le_of_ble_eq_true rfl)) dX7_lineNow_85 ⟨Nat.zero_le _, Nat.zero_le _⟩) hw (fun H locs hw => ?_)
            cases hg
            exact wr_iret hx hb hr hw dX7_lineNow_88 hlk
  exact B0 S0 _ _ _ hg hw hl
theorem hi_X7_line_X7 : ∀ w ∈ wsX70, w ∈ wsX7_line := fun _ h => List.mem_cons_of_mem _ (List.mem_append_right _ (h))
abbrev rm_X7_line : Room := { frames := 5, cells := 0, slots := 0, locals := 104 }
set_option maxHeartbeats 4000000 in
set_option maxRecDepth 100000 in
theorem c_X7_line (l : Launch) (D : va_G) (C : C3) (N : Nat) (S0 : Hp) (z : Nat) (a0 : Nat) (x1 : Int32) (x2 : Int32) (r : Int32) (S9 : Hp) (hg : f_X7_line N S0 a0 x1 x2 = some (r, S9)) : MetI l yX7_line wsX7_line rm_X7_line D C S0 z [.ref a0, .int x1, .int x2] r S9 z 0 0 := by
  refine mw_ofW (cc := cX7_line) (maxL := 3) (ret := (some .int)) (lv := [(0, .ref a0), (1, .int x1), (2, .int x2)]) (by decide) rfl (Nat.le_of_ble_eq_true rfl) rfl ?_
  intro p e s m below meth c ls hx hb hr hts hown hlk hml hnm hl hw
  have hown : s.vm.findClass RX7 = some m.cls := hown
  have B27 : ∀ (S : Hp) (s0 : Int32) (s1 : Nat) (H : Heap) (locs : List Loc) (ls : Array Slot), f_X7_line_b27 N a0 x1 x2 S s0 s1 = some (r, S9) → Wd D C (va_A (wP C S0) z) s.heap S z H locs s → lv_has ls 3 [(0, .ref a0), (1, .int x1), (2, .int x2)] → W p l e rm_X7_line s m ([.ref a0, .int x1, .int x2] : List Value).toArray below meth c H locs 0 0 (MQ below (QiW D C S0 z r S9 z) ([.ref a0, .int x1, .int x2] : List Value).toArray s 0 0 (va_A (wP C S0) z)) (F0 m 27 ls [.int s0, .ref s1]) := by
    intro S s0 s1 H locs ls hg hw hl
    unfold f_X7_line_b27 at hg
    obtain ⟨hok15, hg⟩ := gd_some hg
    refine wr_put (K := RX7) (T := TX7) (N := 20) (index := 50) (ref := "MakerLinesModel") (ty := (.int)) (S1 := (sI S s1 7 s0)) hx hb hts hi_X7_line_X7 tyX7 tyX7_ok nmX7 hown hw hok15 (wF_7 (S := S) hok15.2) rfl (fun b hb9 => wF_sI_ne hb9) 7 (wq_7_7 (S := S) hok15.2 _) rfl (by decide) (hts _ (List.mem_of_getElem? (i := 1) rfl)) (fun _ h9 => h9) rfl (by decide +kernel) rfl rfl (Nat.le_of_ble_eq_true rfl) dX7_line_27 (fun H locs hw => ?_)
    refine lv_aload_n hx hb dX7_line_30 rfl (lv_at hl 0 rfl) ?_
    obtain ⟨hok16, hg⟩ := gd_some hg
    refine wr_get (K := RX7) (T := TX7) (N := 20) (index := 50) (ref := "MakerLinesModel") (v := .int (hI ((sI S s1 7 s0)) a0 7)) hx hb hts hi_X7_line_X7 hown hw hok16 (wF_7 (S := (sI S s1 7 s0)) hok16.2) rfl 7 (by decide) (hts _ (List.mem_of_getElem? (i := 1) rfl)) (fun _ h9 => h9) rfl dX7_line_31 ?_
    refine lv_if_le (tgt := 41) hx hb dX7_line_34 (by decide) (fun c17 => ?_) (fun c17 => ?_)
    · have hg := it_pos hg c17
      refine lv_aload_n hx hb dX7_line_41 rfl (lv_at hl 0 rfl) ?_
      refine lv_iload_n hx hb dX7_line_42 rfl (lv_at hl 1 rfl) ?_
      refine lv_iload_n hx hb dX7_line_43 rfl (lv_at hl 2 rfl) ?_
      obtain ⟨r18, S18, hc18, hg⟩ := cl_some hg
      refine wr_ci (va_runV (As := [.int x1, .int x2]) (rest := []) ⟨hx, hb, hml, hown, hts⟩ (c_X7_lineNow l D C N ((sI S s1 7 s0)) z a0 x1 x2 r18 S18 hc18) (cwV 2 hts gX7_line_X7_lineNow rfl rfl rfl (by decide +kernel) ⟨Nat.le_of_ble_eq_true rfl, Nat.le_of_ble_eq_true rfl⟩) (wd_preV hw hok16 (wF_7 (S := (sI S s1 7 s0)) hok16.2) rfl) rfl rfl hl.1 rfl (lv_room (Nat.le_of_ble_eq_true rfl)) dX7_line_44 ⟨Nat.zero_le _, Nat.zero_le _⟩) hw (fun H locs hw => ?_)
      cases hg
      exact wr_iret hx hb hr hw dX7_line_47 hlk
    · have hg := it_neg hg c17
      refine lv_iconst (v := (0 : Int32)) hx hb dX7_line_37 (by decide) ?_
      refine lv_goto (tgt := 47) hx hb dX7_line_38 (by decide) ?_
      cases hg
      exact wr_iret hx hb hr hw dX7_line_47 hlk
  have B0 : ∀ (S : Hp) (H : Heap) (locs : List Loc) (ls : Array Slot), f_X7_line N S a0 x1 x2 = some (r, S9) → Wd D C (va_A (wP C S0) z) s.heap S z H locs s → lv_has ls 3 [(0, .ref a0), (1, .int x1), (2, .int x2)] → W p l e rm_X7_line s m ([.ref a0, .int x1, .int x2] : List Value).toArray below meth c H locs 0 0 (MQ below (QiW D C S0 z r S9 z) ([.ref a0, .int x1, .int x2] : List Value).toArray s 0 0 (va_A (wP C S0) z)) (F0 m 0 ls []) := by
    intro S H locs ls hg hw hl
    unfold f_X7_line at hg
    refine lv_aload_n hx hb dX7_line_0 rfl (lv_at hl 0 rfl) ?_
    refine lv_aload_n hx hb dX7_line_1 rfl (lv_at hl 0 rfl) ?_
    refine lv_iload_n hx hb dX7_line_2 rfl (lv_at hl 1 rfl) ?_
    obtain ⟨hok10, hg⟩ := gd_some hg
    obtain ⟨r11, S11, hc11, hg⟩ := cl_some hg
    refine wr_ci (va_runV (As := [.int x1]) (rest := [.ref a0]) ⟨hx, hb, hml, hown, hts⟩ (c_X7_isLine l D C N S z a0 x1 r11 S11 hc11) (cwV 1 hts gX7_line_X7_isLine rfl rfl rfl (by decide +kernel) ⟨Nat.le_of_ble_eq_true rfl, Nat.le_of_ble_eq_true rfl⟩) (wd_preV hw hok10 (wF_7 (S := S) hok10.2) rfl) rfl rfl hl.1 rfl (lv_room (Nat.le_of_ble_eq_true rfl)) dX7_line_3 ⟨Nat.zero_le _, Nat.zero_le _⟩) hw (fun H locs hw => ?_)
    refine lv_if_ne (tgt := 13) hx hb dX7_line_6 (by decide) (fun c12 => ?_) (fun c12 => ?_)
    · have hg := it_neg hg c12
      refine lv_iload_n hx hb dX7_line_13 rfl (lv_at hl 2 rfl) ?_
      refine lv_iconst (v := (0 : Int32)) hx hb dX7_line_14 (by decide) ?_
      refine lv_iconst (v := (4 : Int32)) hx hb dX7_line_15 (by decide) ?_
      obtain ⟨r13, S13, hc13, hg⟩ := cl_some hg
      refine wr_ci (va_runS (As := [.int x2, .int (0 : Int32), .int (4 : Int32)]) (rest := [.ref a0]) ⟨hx, hb, hml, hown, hts⟩ (c_X7_within l D C N S11 z x2 ((0 : Int32)) ((4 : Int32)) r13 S13 hc13) (va_cwS 3 hts gX7_line_X7_within rfl rfl rfl (by decide +kernel) ⟨Nat.le_of_ble_eq_true rfl, Nat.le_of_ble_eq_true rfl⟩) (wd_preS hw) rfl rfl hl.1 rfl (lv_room (Nat.le_of_ble_eq_true rfl)) dX7_line_16 ⟨Nat.zero_le _, Nat.zero_le _⟩) hw (fun H locs hw => ?_)
      refine lv_if_eq (tgt := 26) hx hb dX7_line_19 (by decide) (fun c14 => ?_) (fun c14 => ?_)
      · have hg := it_pos hg c14
        refine lv_iconst (v := (2 : Int32)) hx hb dX7_line_26 (by decide) ?_
        exact B27 _ _ _ _ _ _ hg hw (lv_sub hl [0, 1, 2] rfl)
      · have hg := it_neg hg c14
        refine lv_iconst (v := (0 : Int32)) hx hb dX7_line_22 (by decide) ?_
        refine lv_goto (tgt := 27) hx hb dX7_line_23 (by decide) ?_
        exact B27 _ _ _ _ _ _ hg hw (lv_sub hl [0, 1, 2] rfl)
    · have hg := it_pos hg c12
      refine lv_iconst (v := (1 : Int32)) hx hb dX7_line_9 (by decide) ?_
      refine lv_goto (tgt := 27) hx hb dX7_line_10 (by decide) ?_
      exact B27 _ _ _ _ _ _ hg hw (lv_sub hl [0, 1, 2] rfl)
  exact B0 S0 _ _ _ hg hw hl
theorem hi_X7_livelyWith_X7 : ∀ w ∈ wsX70, w ∈ wsX7_livelyWith := fun _ h => List.mem_cons_of_mem _ (List.mem_append_right _ (h))
abbrev rm_X7_livelyWith : Room := { frames := 2, cells := 0, slots := 0, locals := 41 }
set_option maxHeartbeats 4000000 in
set_option maxRecDepth 100000 in
theorem c_X7_livelyWith (l : Launch) (D : va_G) (C : C3) (N : Nat) (S0 : Hp) (z : Nat) (a0 : Nat) (x1 : Int32) (r : Int32) (S9 : Hp) (hg : f_X7_livelyWith N S0 a0 x1 = some (r, S9)) : MetI l yX7_livelyWith wsX7_livelyWith rm_X7_livelyWith D C S0 z [.ref a0, .int x1] r S9 z 0 0 := by
  refine mw_ofW (cc := cX7_livelyWith) (maxL := 4) (ret := (some .int)) (lv := [(0, .ref a0), (1, .int x1)]) (by decide) rfl (Nat.le_of_ble_eq_true rfl) rfl ?_
  intro p e s m below meth c ls hx hb hr hts hown hlk hml hnm hl hw
  have hown : s.vm.findClass RX7 = some m.cls := hown
  have B4 : ∀ (K4 : Hp → Int32 → Int32 → Option (Int32 × Hp)) (hK4 : ∀ (S : Hp) (v2 : Int32) (v3 : Int32) (H : Heap) (locs : List Loc) (ls : Array Slot), K4 S v2 v3 = some (r, S9) → Wd D C (va_A (wP C S0) z) s.heap S z H locs s → lv_has ls 4 [(0, .ref a0), (1, .int x1), (2, .int v2), (3, .int v3)] → W p l e rm_X7_livelyWith s m ([.ref a0, .int x1] : List Value).toArray below meth c H locs 0 0 (MQ below (QiW D C S0 z r S9 z) ([.ref a0, .int x1] : List Value).toArray s 0 0 (va_A (wP C S0) z)) (F0 m 4 ls [])) (S : Hp) (v2 : Int32) (v3 : Int32) (H : Heap) (locs : List Loc) (ls : Array Slot), f_X7_livelyWith_b4 N a0 x1 K4 S v2 v3 = some (r, S9) → Wd D C (va_A (wP C S0) z) s.heap S z H locs s → lv_has ls 4 [(0, .ref a0), (1, .int x1), (2, .int v2), (3, .int v3)] → W p l e rm_X7_livelyWith s m ([.ref a0, .int x1] : List Value).toArray below meth c H locs 0 0 (MQ below (QiW D C S0 z r S9 z) ([.ref a0, .int x1] : List Value).toArray s 0 0 (va_A (wP C S0) z)) (F0 m 4 ls []) := by
    intro K4 hK4 S v2 v3 H locs ls hg hw hl
    unfold f_X7_livelyWith_b4 at hg
    refine lv_iload_n hx hb dX7_livelyWith_4 rfl (lv_at hl 3 rfl) ?_
    refine lv_aload_n hx hb dX7_livelyWith_5 rfl (lv_at hl 0 rfl) ?_
    obtain ⟨hok10, hg⟩ := gd_some hg
    obtain ⟨r11, hr11, hg⟩ := nn_some hg
    refine wr_get (K := RX7) (T := TX7) (N := 20) (index := 7) (ref := "MakerLinesModel") (v := .ref r11) hx hb hts hi_X7_livelyWith_X7 hown hw hok10 (wF_7 (S := S) hok10.2) rfl 0 (by decide) (hts _ (List.mem_of_getElem? (i := 1) rfl)) (fun _ h9 => h9) (congrArg (fun o => some (va_rf o)) hr11) dX7_livelyWith_6 ?_
    refine lv_iconst (v := (2 : Int32)) hx hb dX7_livelyWith_9 (by decide) ?_
    obtain ⟨hok12, hg⟩ := gd_some hg
    obtain ⟨hin13, hg⟩ := gd_some hg
    refine wr_iald hx hb hw hok12 (inb_vp hin13) dX7_livelyWith_10 ?_
    refine lv_icmp_ge (tgt := 52) hx hb dX7_livelyWith_11 (by decide) (fun c14 => ?_) (fun c14 => ?_)
    · have hg := it_pos hg c14
      refine lv_iload_n hx hb dX7_livelyWith_52 rfl (lv_at hl 2 rfl) ?_
      cases hg
      exact wr_iret hx hb hr hw dX7_livelyWith_53 hlk
    · have hg := it_neg hg c14
      refine lv_iload_n hx hb dX7_livelyWith_14 rfl (lv_at hl 2 rfl) ?_
      refine lv_aload_n hx hb dX7_livelyWith_15 rfl (lv_at hl 0 rfl) ?_
      refine lv_iload_n hx hb dX7_livelyWith_16 rfl (lv_at hl 3 rfl) ?_
      obtain ⟨r15, S15, hc15, hg⟩ := cl_some hg
      refine wr_ci (va_runV (As := [.int v3]) (rest := [.int v2]) ⟨hx, hb, hml, hown, hts⟩ (c_X7_isDead l D C N S z a0 v3 r15 S15 hc15) (cwV 1 hts gX7_livelyWith_X7_isDead rfl rfl rfl (by decide +kernel) ⟨Nat.le_of_ble_eq_true rfl, Nat.le_of_ble_eq_true rfl⟩) (wd_preV hw hok10 (wF_7 (S := S) hok10.2) rfl) rfl rfl hl.1 rfl (lv_room (Nat.le_of_ble_eq_true rfl)) dX7_livelyWith_17 ⟨Nat.zero_le _, Nat.zero_le _⟩) hw (fun H locs hw => ?_)
      refine lv_if_ne (tgt := 43) hx hb dX7_livelyWith_20 (by decide) (fun c16 => ?_) (fun c16 => ?_)
      · have hg := it_neg hg c16
        refine lv_iconst (v := (0 : Int32)) hx hb dX7_livelyWith_43 (by decide) ?_
        refine lv_iadd hx hb dX7_livelyWith_44 ?_
        refine lv_istore_n (lv' := [(2, .int (v2 + (0 : Int32))), (0, .ref a0), (1, .int x1), (3, .int v3)]) hx hb dX7_livelyWith_45 rfl hl (by decide) rfl (fun ls hl => ?_)
        refine lv_iinc (v := (v3 + (1 : Int32))) (lv' := [(3, .int (v3 + (1 : Int32))), (2, .int (v2 + (0 : Int32))), (0, .ref a0), (1, .int x1)]) hx hb dX7_livelyWith_46 hl (k := 3) rfl rfl (by decide) rfl (fun ls hl => ?_)
        refine lv_goto (tgt := 4) hx hb dX7_livelyWith_49 (by decide) ?_
        exact hK4 _ _ _ _ _ _ hg hw (lv_sub hl [2, 3, 1, 0] rfl)
      · have hg := it_pos hg c16
        refine lv_aload_n hx hb dX7_livelyWith_23 rfl (lv_at hl 0 rfl) ?_
        obtain ⟨hok17, hg⟩ := gd_some hg
        obtain ⟨r18, hr18, hg⟩ := nn_some hg
        refine wr_get (K := RX7) (T := TX7) (N := 20) (index := 7) (ref := "MakerLinesModel") (v := .ref r18) hx hb hts hi_X7_livelyWith_X7 hown hw hok17 (wF_7 (S := S15) hok17.2) rfl 0 (by decide) (hts _ (List.mem_of_getElem? (i := 1) rfl)) (fun _ h9 => h9) (congrArg (fun o => some (va_rf o)) hr18) dX7_livelyWith_24 ?_
        refine lv_bipush (v := (10 : Int32)) hx hb dX7_livelyWith_27 (by decide) ?_
        refine lv_iload_n hx hb dX7_livelyWith_29 rfl (lv_at hl 3 rfl) ?_
        refine lv_iadd hx hb dX7_livelyWith_30 ?_
        obtain ⟨hok19, hg⟩ := gd_some hg
        obtain ⟨hin20, hg⟩ := gd_some hg
        refine wr_iald hx hb hw hok19 (inb_vp hin20) dX7_livelyWith_31 ?_
        refine lv_iload_n hx hb dX7_livelyWith_32 rfl (lv_at hl 1 rfl) ?_
        obtain ⟨r21, S21, hc21, hg⟩ := cl_some hg
        refine wr_ci (va_runS (As := [.int (hI S15 r18 ((10 : Int32) + v3).toNatClampNeg), .int x1]) (rest := [.int v2]) ⟨hx, hb, hml, hown, hts⟩ (c_X7_has l D C N S15 z ((hI S15 r18 ((10 : Int32) + v3).toNatClampNeg)) x1 r21 S21 hc21) (va_cwS 2 hts gX7_livelyWith_X7_has rfl rfl rfl (by decide +kernel) ⟨Nat.le_of_ble_eq_true rfl, Nat.le_of_ble_eq_true rfl⟩) (wd_preS hw) rfl rfl hl.1 rfl (lv_room (Nat.le_of_ble_eq_true rfl)) dX7_livelyWith_33 ⟨Nat.zero_le _, Nat.zero_le _⟩) hw (fun H locs hw => ?_)
        refine lv_if_eq (tgt := 43) hx hb dX7_livelyWith_36 (by decide) (fun c22 => ?_) (fun c22 => ?_)
        · have hg := it_pos hg c22
          refine lv_iconst (v := (0 : Int32)) hx hb dX7_livelyWith_43 (by decide) ?_
          refine lv_iadd hx hb dX7_livelyWith_44 ?_
          refine lv_istore_n (lv' := [(2, .int (v2 + (0 : Int32))), (0, .ref a0), (1, .int x1), (3, .int v3)]) hx hb dX7_livelyWith_45 rfl hl (by decide) rfl (fun ls hl => ?_)
          refine lv_iinc (v := (v3 + (1 : Int32))) (lv' := [(3, .int (v3 + (1 : Int32))), (2, .int (v2 + (0 : Int32))), (0, .ref a0), (1, .int x1)]) hx hb dX7_livelyWith_46 hl (k := 3) rfl rfl (by decide) rfl (fun ls hl => ?_)
          refine lv_goto (tgt := 4) hx hb dX7_livelyWith_49 (by decide) ?_
          exact hK4 _ _ _ _ _ _ hg hw (lv_sub hl [2, 3, 1, 0] rfl)
        · have hg := it_neg hg c22
          refine lv_iconst (v := (1 : Int32)) hx hb dX7_livelyWith_39 (by decide) ?_
          refine lv_goto (tgt := 44) hx hb dX7_livelyWith_40 (by decide) ?_
          refine lv_iadd hx hb dX7_livelyWith_44 ?_
          refine lv_istore_n (lv' := [(2, .int (v2 + (1 : Int32))), (0, .ref a0), (1, .int x1), (3, .int v3)]) hx hb dX7_livelyWith_45 rfl hl (by decide) rfl (fun ls hl => ?_)
          refine lv_iinc (v := (v3 + (1 : Int32))) (lv' := [(3, .int (v3 + (1 : Int32))), (2, .int (v2 + (1 : Int32))), (0, .ref a0), (1, .int x1)]) hx hb dX7_livelyWith_46 hl (k := 3) rfl rfl (by decide) rfl (fun ls hl => ?_)
          refine lv_goto (tgt := 4) hx hb dX7_livelyWith_49 (by decide) ?_
          exact hK4 _ _ _ _ _ _ hg hw (lv_sub hl [2, 3, 1, 0] rfl)
  have L4 : ∀ (k : Nat) (S : Hp) (v2 : Int32) (v3 : Int32) (H : Heap) (locs : List Loc) (ls : Array Slot), f_X7_livelyWith_l4 N a0 x1 k S v2 v3 = some (r, S9) → Wd D C (va_A (wP C S0) z) s.heap S z H locs s → lv_has ls 4 [(0, .ref a0), (1, .int x1), (2, .int v2), (3, .int v3)] → W p l e rm_X7_livelyWith s m ([.ref a0, .int x1] : List Value).toArray below meth c H locs 0 0 (MQ below (QiW D C S0 z r S9 z) ([.ref a0, .int x1] : List Value).toArray s 0 0 (va_A (wP C S0) z)) (F0 m 4 ls []) := by
    intro k
    induction k with
    | zero => intro S v2 v3 H locs ls hg hw hl; exact absurd (show (none : Option (Int32 × Hp)) = some (r, S9) from hg) (by simp)
    | succ k ih => intro S v2 v3 H locs ls hg hw hl; exact B4 (f_X7_livelyWith_l4 N a0 x1 k) ih S v2 v3 H locs ls hg hw hl
  have B0 : ∀ (S : Hp) (H : Heap) (locs : List Loc) (ls : Array Slot), f_X7_livelyWith N S a0 x1 = some (r, S9) → Wd D C (va_A (wP C S0) z) s.heap S z H locs s → lv_has ls 4 [(0, .ref a0), (1, .int x1)] → W p l e rm_X7_livelyWith s m ([.ref a0, .int x1] : List Value).toArray below meth c H locs 0 0 (MQ below (QiW D C S0 z r S9 z) ([.ref a0, .int x1] : List Value).toArray s 0 0 (va_A (wP C S0) z)) (F0 m 0 ls []) := by
    intro S H locs ls hg hw hl
    unfold f_X7_livelyWith at hg
    refine lv_iconst (v := (0 : Int32)) hx hb dX7_livelyWith_0 (by decide) ?_
    refine lv_istore_n (lv' := [(2, .int (0 : Int32)), (0, .ref a0), (1, .int x1)]) hx hb dX7_livelyWith_1 rfl hl (by decide) rfl (fun ls hl => ?_)
    refine lv_iconst (v := (0 : Int32)) hx hb dX7_livelyWith_2 (by decide) ?_
    refine lv_istore_n (lv' := [(3, .int (0 : Int32)), (2, .int (0 : Int32)), (0, .ref a0), (1, .int x1)]) hx hb dX7_livelyWith_3 rfl hl (by decide) rfl (fun ls hl => ?_)
    exact L4 N _ _ _ _ _ _ hg hw (lv_sub hl [2, 3, 1, 0] rfl)
  exact B0 S0 _ _ _ hg hw hl
abbrev rm_X7_cellNow : Room := { frames := 7, cells := 0, slots := 0, locals := 149 }
set_option maxHeartbeats 4000000 in
set_option maxRecDepth 100000 in
theorem c_X7_cellNow (l : Launch) (D : va_G) (C : C3) (N : Nat) (S0 : Hp) (z : Nat) (a0 : Nat) (x1 : Int32) (x2 : Int32) (r : Int32) (S9 : Hp) (hg : f_X7_cellNow N S0 a0 x1 x2 = some (r, S9)) : MetI l yX7_cellNow wsX7_cellNow rm_X7_cellNow D C S0 z [.ref a0, .int x1, .int x2] r S9 z 0 0 := by
  refine mw_ofW (cc := cX7_cellNow) (maxL := 3) (ret := (some .int)) (lv := [(0, .ref a0), (1, .int x1), (2, .int x2)]) (by decide) rfl (Nat.le_of_ble_eq_true rfl) rfl ?_
  intro p e s m below meth c ls hx hb hr hts hown hlk hml hnm hl hw
  have hown : s.vm.findClass RX7 = some m.cls := hown
  have B0 : ∀ (S : Hp) (H : Heap) (locs : List Loc) (ls : Array Slot), f_X7_cellNow N S a0 x1 x2 = some (r, S9) → Wd D C (va_A (wP C S0) z) s.heap S z H locs s → lv_has ls 3 [(0, .ref a0), (1, .int x1), (2, .int x2)] → W p l e rm_X7_cellNow s m ([.ref a0, .int x1, .int x2] : List Value).toArray below meth c H locs 0 0 (MQ below (QiW D C S0 z r S9 z) ([.ref a0, .int x1, .int x2] : List Value).toArray s 0 0 (va_A (wP C S0) z)) (F0 m 0 ls []) := by
    intro S H locs ls hg hw hl
    unfold f_X7_cellNow at hg
    refine lv_iload_n hx hb dX7_cellNow_0 rfl (lv_at hl 2 rfl) ?_
    by_cases c18 : x2 = 0
    · have hg := it_pos hg c18
      refine lv_tableIn (tgt := 28) hx hb dX7_cellNow_1 (by rw [c18]; decide) (by rw [c18]; decide) (off := 27) (by rw [c18]; rfl) (by decide) ?_
      refine lv_aload_n hx hb dX7_cellNow_28 rfl (lv_at hl 0 rfl) ?_
      obtain ⟨hok10, hg⟩ := gd_some hg
      obtain ⟨r11, S11, hc11, hg⟩ := cl_some hg
      refine wr_ci (va_runV (As := []) (rest := []) ⟨hx, hb, hml, hown, hts⟩ (c_X7_maker l D C N S z a0 r11 S11 hc11) (cwV 0 hts gX7_cellNow_X7_maker rfl rfl rfl (by decide +kernel) ⟨Nat.le_of_ble_eq_true rfl, Nat.le_of_ble_eq_true rfl⟩) (wd_preV hw hok10 (wF_7 (S := S) hok10.2) rfl) rfl rfl hl.1 rfl (lv_room (Nat.le_of_ble_eq_true rfl)) dX7_cellNow_29 ⟨Nat.zero_le _, Nat.zero_le _⟩) hw (fun H locs hw => ?_)
      refine lv_iload_n hx hb dX7_cellNow_32 rfl (lv_at hl 1 rfl) ?_
      obtain ⟨r12, S12, hc12, hg⟩ := cl_some hg
      refine wr_ci (va_runS (As := [.int r11, .int x1]) (rest := []) ⟨hx, hb, hml, hown, hts⟩ (c_X7_has l D C N S11 z r11 x1 r12 S12 hc12) (va_cwS 2 hts gX7_cellNow_X7_has rfl rfl rfl (by decide +kernel) ⟨Nat.le_of_ble_eq_true rfl, Nat.le_of_ble_eq_true rfl⟩) (wd_preS hw) rfl rfl hl.1 rfl (lv_room (Nat.le_of_ble_eq_true rfl)) dX7_cellNow_33 ⟨Nat.zero_le _, Nat.zero_le _⟩) hw (fun H locs hw => ?_)
      refine lv_if_eq (tgt := 43) hx hb dX7_cellNow_36 (by decide) (fun c13 => ?_) (fun c13 => ?_)
      · have hg := it_pos hg c13
        refine lv_aload_n hx hb dX7_cellNow_43 rfl (lv_at hl 0 rfl) ?_
        obtain ⟨hok14, hg⟩ := gd_some hg
        obtain ⟨r15, S15, hc15, hg⟩ := cl_some hg
        refine wr_ci (va_runV (As := []) (rest := []) ⟨hx, hb, hml, hown, hts⟩ (c_X7_breaker l D C N S12 z a0 r15 S15 hc15) (cwV 0 hts gX7_cellNow_X7_breaker rfl rfl rfl (by decide +kernel) ⟨Nat.le_of_ble_eq_true rfl, Nat.le_of_ble_eq_true rfl⟩) (wd_preV hw hok14 (wF_7 (S := S12) hok14.2) rfl) rfl rfl hl.1 rfl (lv_room (Nat.le_of_ble_eq_true rfl)) dX7_cellNow_44 ⟨Nat.zero_le _, Nat.zero_le _⟩) hw (fun H locs hw => ?_)
        refine lv_iload_n hx hb dX7_cellNow_47 rfl (lv_at hl 1 rfl) ?_
        obtain ⟨r16, S16, hc16, hg⟩ := cl_some hg
        refine wr_ci (va_runS (As := [.int r15, .int x1]) (rest := []) ⟨hx, hb, hml, hown, hts⟩ (c_X7_has l D C N S15 z r15 x1 r16 S16 hc16) (va_cwS 2 hts gX7_cellNow_X7_has rfl rfl rfl (by decide +kernel) ⟨Nat.le_of_ble_eq_true rfl, Nat.le_of_ble_eq_true rfl⟩) (wd_preS hw) rfl rfl hl.1 rfl (lv_room (Nat.le_of_ble_eq_true rfl)) dX7_cellNow_48 ⟨Nat.zero_le _, Nat.zero_le _⟩) hw (fun H locs hw => ?_)
        refine lv_if_eq (tgt := 58) hx hb dX7_cellNow_51 (by decide) (fun c17 => ?_) (fun c17 => ?_)
        · have hg := it_pos hg c17
          refine lv_iconst (v := (0 : Int32)) hx hb dX7_cellNow_58 (by decide) ?_
          cases hg
          exact wr_iret hx hb hr hw dX7_cellNow_59 hlk
        · have hg := it_neg hg c17
          refine lv_iconst (v := (2 : Int32)) hx hb dX7_cellNow_54 (by decide) ?_
          refine lv_goto (tgt := 59) hx hb dX7_cellNow_55 (by decide) ?_
          cases hg
          exact wr_iret hx hb hr hw dX7_cellNow_59 hlk
      · have hg := it_neg hg c13
        refine lv_iconst (v := (1 : Int32)) hx hb dX7_cellNow_39 (by decide) ?_
        refine lv_goto (tgt := 59) hx hb dX7_cellNow_40 (by decide) ?_
        cases hg
        exact wr_iret hx hb hr hw dX7_cellNow_59 hlk
    · have hg := it_neg hg c18
      by_cases c21 : x2 = 1
      · have hg := it_pos hg c21
        refine lv_tableIn (tgt := 60) hx hb dX7_cellNow_1 (by rw [c21]; decide) (by rw [c21]; decide) (off := 59) (by rw [c21]; rfl) (by decide) ?_
        refine lv_aload_n hx hb dX7_cellNow_60 rfl (lv_at hl 0 rfl) ?_
        refine lv_iload_n hx hb dX7_cellNow_61 rfl (lv_at hl 1 rfl) ?_
        obtain ⟨hok19, hg⟩ := gd_some hg
        obtain ⟨r20, S20, hc20, hg⟩ := cl_some hg
        refine wr_ci (va_runV (As := [.int x1]) (rest := []) ⟨hx, hb, hml, hown, hts⟩ (c_X7_danger l D C N S z a0 x1 r20 S20 hc20) (cwV 1 hts gX7_cellNow_X7_danger rfl rfl rfl (by decide +kernel) ⟨Nat.le_of_ble_eq_true rfl, Nat.le_of_ble_eq_true rfl⟩) (wd_preV hw hok19 (wF_7 (S := S) hok19.2) rfl) rfl rfl hl.1 rfl (lv_room (Nat.le_of_ble_eq_true rfl)) dX7_cellNow_62 ⟨Nat.zero_le _, Nat.zero_le _⟩) hw (fun H locs hw => ?_)
        cases hg
        exact wr_iret hx hb hr hw dX7_cellNow_65 hlk
      · have hg := it_neg hg c21
        by_cases c24 : x2 = 2
        · have hg := it_pos hg c24
          refine lv_tableIn (tgt := 66) hx hb dX7_cellNow_1 (by rw [c24]; decide) (by rw [c24]; decide) (off := 65) (by rw [c24]; rfl) (by decide) ?_
          refine lv_aload_n hx hb dX7_cellNow_66 rfl (lv_at hl 0 rfl) ?_
          refine lv_iload_n hx hb dX7_cellNow_67 rfl (lv_at hl 1 rfl) ?_
          obtain ⟨hok22, hg⟩ := gd_some hg
          obtain ⟨r23, S23, hc23, hg⟩ := cl_some hg
          refine wr_ci (va_runV (As := [.int x1]) (rest := []) ⟨hx, hb, hml, hown, hts⟩ (c_X7_partnerOf l D C N S z a0 x1 r23 S23 hc23) (cwV 1 hts gX7_cellNow_X7_partnerOf rfl rfl rfl (by decide +kernel) ⟨Nat.le_of_ble_eq_true rfl, Nat.le_of_ble_eq_true rfl⟩) (wd_preV hw hok22 (wF_7 (S := S) hok22.2) rfl) rfl rfl hl.1 rfl (lv_room (Nat.le_of_ble_eq_true rfl)) dX7_cellNow_68 ⟨Nat.zero_le _, Nat.zero_le _⟩) hw (fun H locs hw => ?_)
          cases hg
          exact wr_iret hx hb hr hw dX7_cellNow_71 hlk
        · have hg := it_neg hg c24
          refine lv_tableOut (tgt := 72) hx hb dX7_cellNow_1 (sw_out 2 (by decide) (fun j hj => ?_)) (by decide) ?_
          · rcases (show j = 0 ∨ j = 1 ∨ j = 2 by omega) with rfl | rfl | rfl
            · exact c18
            · exact c21
            · exact c24
          refine lv_aload_n hx hb dX7_cellNow_72 rfl (lv_at hl 0 rfl) ?_
          refine lv_iload_n hx hb dX7_cellNow_73 rfl (lv_at hl 1 rfl) ?_
          obtain ⟨hok25, hg⟩ := gd_some hg
          obtain ⟨r26, S26, hc26, hg⟩ := cl_some hg
          refine wr_ci (va_runV (As := [.int x1]) (rest := []) ⟨hx, hb, hml, hown, hts⟩ (c_X7_livelyWith l D C N S z a0 x1 r26 S26 hc26) (cwV 1 hts gX7_cellNow_X7_livelyWith rfl rfl rfl (by decide +kernel) ⟨Nat.le_of_ble_eq_true rfl, Nat.le_of_ble_eq_true rfl⟩) (wd_preV hw hok25 (wF_7 (S := S) hok25.2) rfl) rfl rfl hl.1 rfl (lv_room (Nat.le_of_ble_eq_true rfl)) dX7_cellNow_74 ⟨Nat.zero_le _, Nat.zero_le _⟩) hw (fun H locs hw => ?_)
          cases hg
          exact wr_iret hx hb hr hw dX7_cellNow_77 hlk
  exact B0 S0 _ _ _ hg hw hl
theorem hi_X7_cell_X7 : ∀ w ∈ wsX70, w ∈ wsX7_cell := fun _ h => List.mem_cons_of_mem _ (List.mem_append_right _ (h))
abbrev rm_X7_cell : Room := { frames := 8, cells := 0, slots := 0, locals := 171 }
set_option maxHeartbeats 4000000 in
set_option maxRecDepth 100000 in
theorem c_X7_cell (l : Launch) (D : va_G) (C : C3) (N : Nat) (S0 : Hp) (z : Nat) (a0 : Nat) (x1 : Int32) (x2 : Int32) (r : Int32) (S9 : Hp) (hg : f_X7_cell N S0 a0 x1 x2 = some (r, S9)) : MetI l yX7_cell wsX7_cell rm_X7_cell D C S0 z [.ref a0, .int x1, .int x2] r S9 z 0 0 := by
  refine mw_ofW (cc := cX7_cell) (maxL := 3) (ret := (some .int)) (lv := [(0, .ref a0), (1, .int x1), (2, .int x2)]) (by decide) rfl (Nat.le_of_ble_eq_true rfl) rfl ?_
  intro p e s m below meth c ls hx hb hr hts hown hlk hml hnm hl hw
  have hown : s.vm.findClass RX7 = some m.cls := hown
  have B27 : ∀ (S : Hp) (s0 : Int32) (s1 : Nat) (H : Heap) (locs : List Loc) (ls : Array Slot), f_X7_cell_b27 N a0 x1 x2 S s0 s1 = some (r, S9) → Wd D C (va_A (wP C S0) z) s.heap S z H locs s → lv_has ls 3 [(0, .ref a0), (1, .int x1), (2, .int x2)] → W p l e rm_X7_cell s m ([.ref a0, .int x1, .int x2] : List Value).toArray below meth c H locs 0 0 (MQ below (QiW D C S0 z r S9 z) ([.ref a0, .int x1, .int x2] : List Value).toArray s 0 0 (va_A (wP C S0) z)) (F0 m 27 ls [.int s0, .ref s1]) := by
    intro S s0 s1 H locs ls hg hw hl
    unfold f_X7_cell_b27 at hg
    obtain ⟨hok15, hg⟩ := gd_some hg
    refine wr_put (K := RX7) (T := TX7) (N := 20) (index := 50) (ref := "MakerLinesModel") (ty := (.int)) (S1 := (sI S s1 7 s0)) hx hb hts hi_X7_cell_X7 tyX7 tyX7_ok nmX7 hown hw hok15 (wF_7 (S := S) hok15.2) rfl (fun b hb9 => wF_sI_ne hb9) 7 (wq_7_7 (S := S) hok15.2 _) rfl (by decide) (hts _ (List.mem_of_getElem? (i := 1) rfl)) (fun _ h9 => h9) rfl (by decide +kernel) rfl rfl (Nat.le_of_ble_eq_true rfl) dX7_cell_27 (fun H locs hw => ?_)
    refine lv_aload_n hx hb dX7_cell_30 rfl (lv_at hl 0 rfl) ?_
    obtain ⟨hok16, hg⟩ := gd_some hg
    refine wr_get (K := RX7) (T := TX7) (N := 20) (index := 50) (ref := "MakerLinesModel") (v := .int (hI ((sI S s1 7 s0)) a0 7)) hx hb hts hi_X7_cell_X7 hown hw hok16 (wF_7 (S := (sI S s1 7 s0)) hok16.2) rfl 7 (by decide) (hts _ (List.mem_of_getElem? (i := 1) rfl)) (fun _ h9 => h9) rfl dX7_cell_31 ?_
    refine lv_if_le (tgt := 41) hx hb dX7_cell_34 (by decide) (fun c17 => ?_) (fun c17 => ?_)
    · have hg := it_pos hg c17
      refine lv_aload_n hx hb dX7_cell_41 rfl (lv_at hl 0 rfl) ?_
      refine lv_iload_n hx hb dX7_cell_42 rfl (lv_at hl 1 rfl) ?_
      refine lv_iload_n hx hb dX7_cell_43 rfl (lv_at hl 2 rfl) ?_
      obtain ⟨r18, S18, hc18, hg⟩ := cl_some hg
      refine wr_ci (va_runV (As := [.int x1, .int x2]) (rest := []) ⟨hx, hb, hml, hown, hts⟩ (c_X7_cellNow l D C N ((sI S s1 7 s0)) z a0 x1 x2 r18 S18 hc18) (cwV 2 hts gX7_cell_X7_cellNow rfl rfl rfl (by decide +kernel) ⟨Nat.le_of_ble_eq_true rfl, Nat.le_of_ble_eq_true rfl⟩) (wd_preV hw hok16 (wF_7 (S := (sI S s1 7 s0)) hok16.2) rfl) rfl rfl hl.1 rfl (lv_room (Nat.le_of_ble_eq_true rfl)) dX7_cell_44 ⟨Nat.zero_le _, Nat.zero_le _⟩) hw (fun H locs hw => ?_)
      cases hg
      exact wr_iret hx hb hr hw dX7_cell_47 hlk
    · have hg := it_neg hg c17
      refine lv_iconst (v := (0 : Int32)) hx hb dX7_cell_37 (by decide) ?_
      refine lv_goto (tgt := 47) hx hb dX7_cell_38 (by decide) ?_
      cases hg
      exact wr_iret hx hb hr hw dX7_cell_47 hlk
  have B0 : ∀ (S : Hp) (H : Heap) (locs : List Loc) (ls : Array Slot), f_X7_cell N S a0 x1 x2 = some (r, S9) → Wd D C (va_A (wP C S0) z) s.heap S z H locs s → lv_has ls 3 [(0, .ref a0), (1, .int x1), (2, .int x2)] → W p l e rm_X7_cell s m ([.ref a0, .int x1, .int x2] : List Value).toArray below meth c H locs 0 0 (MQ below (QiW D C S0 z r S9 z) ([.ref a0, .int x1, .int x2] : List Value).toArray s 0 0 (va_A (wP C S0) z)) (F0 m 0 ls []) := by
    intro S H locs ls hg hw hl
    unfold f_X7_cell at hg
    refine lv_aload_n hx hb dX7_cell_0 rfl (lv_at hl 0 rfl) ?_
    refine lv_aload_n hx hb dX7_cell_1 rfl (lv_at hl 0 rfl) ?_
    refine lv_iload_n hx hb dX7_cell_2 rfl (lv_at hl 1 rfl) ?_
    obtain ⟨hok10, hg⟩ := gd_some hg
    obtain ⟨r11, S11, hc11, hg⟩ := cl_some hg
    refine wr_ci (va_runV (As := [.int x1]) (rest := [.ref a0]) ⟨hx, hb, hml, hown, hts⟩ (c_X7_isCell l D C N S z a0 x1 r11 S11 hc11) (cwV 1 hts gX7_cell_X7_isCell rfl rfl rfl (by decide +kernel) ⟨Nat.le_of_ble_eq_true rfl, Nat.le_of_ble_eq_true rfl⟩) (wd_preV hw hok10 (wF_7 (S := S) hok10.2) rfl) rfl rfl hl.1 rfl (lv_room (Nat.le_of_ble_eq_true rfl)) dX7_cell_3 ⟨Nat.zero_le _, Nat.zero_le _⟩) hw (fun H locs hw => ?_)
    refine lv_if_ne (tgt := 13) hx hb dX7_cell_6 (by decide) (fun c12 => ?_) (fun c12 => ?_)
    · have hg := it_neg hg c12
      refine lv_iload_n hx hb dX7_cell_13 rfl (lv_at hl 2 rfl) ?_
      refine lv_iconst (v := (0 : Int32)) hx hb dX7_cell_14 (by decide) ?_
      refine lv_iconst (v := (3 : Int32)) hx hb dX7_cell_15 (by decide) ?_
      obtain ⟨r13, S13, hc13, hg⟩ := cl_some hg
      refine wr_ci (va_runS (As := [.int x2, .int (0 : Int32), .int (3 : Int32)]) (rest := [.ref a0]) ⟨hx, hb, hml, hown, hts⟩ (c_X7_within l D C N S11 z x2 ((0 : Int32)) ((3 : Int32)) r13 S13 hc13) (va_cwS 3 hts gX7_cell_X7_within rfl rfl rfl (by decide +kernel) ⟨Nat.le_of_ble_eq_true rfl, Nat.le_of_ble_eq_true rfl⟩) (wd_preS hw) rfl rfl hl.1 rfl (lv_room (Nat.le_of_ble_eq_true rfl)) dX7_cell_16 ⟨Nat.zero_le _, Nat.zero_le _⟩) hw (fun H locs hw => ?_)
      refine lv_if_eq (tgt := 26) hx hb dX7_cell_19 (by decide) (fun c14 => ?_) (fun c14 => ?_)
      · have hg := it_pos hg c14
        refine lv_iconst (v := (2 : Int32)) hx hb dX7_cell_26 (by decide) ?_
        exact B27 _ _ _ _ _ _ hg hw (lv_sub hl [0, 1, 2] rfl)
      · have hg := it_neg hg c14
        refine lv_iconst (v := (0 : Int32)) hx hb dX7_cell_22 (by decide) ?_
        refine lv_goto (tgt := 27) hx hb dX7_cell_23 (by decide) ?_
        exact B27 _ _ _ _ _ _ hg hw (lv_sub hl [0, 1, 2] rfl)
    · have hg := it_pos hg c12
      refine lv_iconst (v := (1 : Int32)) hx hb dX7_cell_9 (by decide) ?_
      refine lv_goto (tgt := 27) hx hb dX7_cell_10 (by decide) ?_
      exact B27 _ _ _ _ _ _ hg hw (lv_sub hl [0, 1, 2] rfl)
  exact B0 S0 _ _ _ hg hw hl
theorem hi_X7_reply_X7 : ∀ w ∈ wsX70, w ∈ wsX7_reply := fun _ h => List.mem_cons_of_mem _ (List.mem_append_right _ (h))
abbrev rm_X7_reply : Room := { frames := 7, cells := 0, slots := 0, locals := 148 }
set_option maxHeartbeats 4000000 in
set_option maxRecDepth 100000 in
theorem c_X7_reply (l : Launch) (D : va_G) (C : C3) (N : Nat) (S0 : Hp) (z : Nat) (a0 : Nat) (x1 : Int32) (r : Int32) (S9 : Hp) (hg : f_X7_reply N S0 a0 x1 = some (r, S9)) : MetI l yX7_reply wsX7_reply rm_X7_reply D C S0 z [.ref a0, .int x1] r S9 z 0 0 := by
  refine mw_ofW (cc := cX7_reply) (maxL := 2) (ret := (some .int)) (lv := [(0, .ref a0), (1, .int x1)]) (by decide) rfl (Nat.le_of_ble_eq_true rfl) rfl ?_
  intro p e s m below meth c ls hx hb hr hts hown hlk hml hnm hl hw
  have hown : s.vm.findClass RX7 = some m.cls := hown
  have B13 : ∀ (S : Hp) (s0 : Int32) (s1 : Nat) (H : Heap) (locs : List Loc) (ls : Array Slot), f_X7_reply_b13 N a0 x1 S s0 s1 = some (r, S9) → Wd D C (va_A (wP C S0) z) s.heap S z H locs s → lv_has ls 2 [(0, .ref a0), (1, .int x1)] → W p l e rm_X7_reply s m ([.ref a0, .int x1] : List Value).toArray below meth c H locs 0 0 (MQ below (QiW D C S0 z r S9 z) ([.ref a0, .int x1] : List Value).toArray s 0 0 (va_A (wP C S0) z)) (F0 m 13 ls [.int s0, .ref s1]) := by
    intro S s0 s1 H locs ls hg hw hl
    unfold f_X7_reply_b13 at hg
    obtain ⟨hok12, hg⟩ := gd_some hg
    refine wr_put (K := RX7) (T := TX7) (N := 20) (index := 50) (ref := "MakerLinesModel") (ty := (.int)) (S1 := (sI S s1 7 s0)) hx hb hts hi_X7_reply_X7 tyX7 tyX7_ok nmX7 hown hw hok12 (wF_7 (S := S) hok12.2) rfl (fun b hb9 => wF_sI_ne hb9) 7 (wq_7_7 (S := S) hok12.2 _) rfl (by decide) (hts _ (List.mem_of_getElem? (i := 1) rfl)) (fun _ h9 => h9) rfl (by decide +kernel) rfl rfl (Nat.le_of_ble_eq_true rfl) dX7_reply_13 (fun H locs hw => ?_)
    refine lv_aload_n hx hb dX7_reply_16 rfl (lv_at hl 0 rfl) ?_
    obtain ⟨hok13, hg⟩ := gd_some hg
    refine wr_get (K := RX7) (T := TX7) (N := 20) (index := 50) (ref := "MakerLinesModel") (v := .int (hI ((sI S s1 7 s0)) a0 7)) hx hb hts hi_X7_reply_X7 hown hw hok13 (wF_7 (S := (sI S s1 7 s0)) hok13.2) rfl 7 (by decide) (hts _ (List.mem_of_getElem? (i := 1) rfl)) (fun _ h9 => h9) rfl dX7_reply_17 ?_
    refine lv_if_le (tgt := 27) hx hb dX7_reply_20 (by decide) (fun c14 => ?_) (fun c14 => ?_)
    · have hg := it_pos hg c14
      refine lv_aload_n hx hb dX7_reply_27 rfl (lv_at hl 0 rfl) ?_
      refine lv_iload_n hx hb dX7_reply_28 rfl (lv_at hl 1 rfl) ?_
      obtain ⟨r15, S15, hc15, hg⟩ := cl_some hg
      refine wr_ci (va_runV (As := [.int x1]) (rest := []) ⟨hx, hb, hml, hown, hts⟩ (c_X7_replyBy l D C N ((sI S s1 7 s0)) z a0 x1 r15 S15 hc15) (cwV 1 hts gX7_reply_X7_replyBy rfl rfl rfl (by decide +kernel) ⟨Nat.le_of_ble_eq_true rfl, Nat.le_of_ble_eq_true rfl⟩) (wd_preV hw hok13 (wF_7 (S := (sI S s1 7 s0)) hok13.2) rfl) rfl rfl hl.1 rfl (lv_room (Nat.le_of_ble_eq_true rfl)) dX7_reply_29 ⟨Nat.zero_le _, Nat.zero_le _⟩) hw (fun H locs hw => ?_)
      cases hg
      exact wr_iret hx hb hr hw dX7_reply_32 hlk
    · have hg := it_neg hg c14
      refine lv_iconst (v := (0 : Int32)) hx hb dX7_reply_23 (by decide) ?_
      refine lv_goto (tgt := 32) hx hb dX7_reply_24 (by decide) ?_
      cases hg
      exact wr_iret hx hb hr hw dX7_reply_32 hlk
  have B0 : ∀ (S : Hp) (H : Heap) (locs : List Loc) (ls : Array Slot), f_X7_reply N S a0 x1 = some (r, S9) → Wd D C (va_A (wP C S0) z) s.heap S z H locs s → lv_has ls 2 [(0, .ref a0), (1, .int x1)] → W p l e rm_X7_reply s m ([.ref a0, .int x1] : List Value).toArray below meth c H locs 0 0 (MQ below (QiW D C S0 z r S9 z) ([.ref a0, .int x1] : List Value).toArray s 0 0 (va_A (wP C S0) z)) (F0 m 0 ls []) := by
    intro S H locs ls hg hw hl
    unfold f_X7_reply at hg
    refine lv_aload_n hx hb dX7_reply_0 rfl (lv_at hl 0 rfl) ?_
    refine lv_iload_n hx hb dX7_reply_1 rfl (lv_at hl 1 rfl) ?_
    obtain ⟨r10, S10, hc10, hg⟩ := cl_some hg
    refine wr_ci (va_runS (As := [.int x1]) (rest := [.ref a0]) ⟨hx, hb, hml, hown, hts⟩ (c_X7_isRule l D C N S z x1 r10 S10 hc10) (va_cwS 1 hts gX7_reply_X7_isRule rfl rfl rfl (by decide +kernel) ⟨Nat.le_of_ble_eq_true rfl, Nat.le_of_ble_eq_true rfl⟩) (wd_preS hw) rfl rfl hl.1 rfl (lv_room (Nat.le_of_ble_eq_true rfl)) dX7_reply_2 ⟨Nat.zero_le _, Nat.zero_le _⟩) hw (fun H locs hw => ?_)
    refine lv_if_eq (tgt := 12) hx hb dX7_reply_5 (by decide) (fun c11 => ?_) (fun c11 => ?_)
    · have hg := it_pos hg c11
      refine lv_iconst (v := (1 : Int32)) hx hb dX7_reply_12 (by decide) ?_
      exact B13 _ _ _ _ _ _ hg hw (lv_sub hl [0, 1] rfl)
    · have hg := it_neg hg c11
      refine lv_iconst (v := (0 : Int32)) hx hb dX7_reply_8 (by decide) ?_
      refine lv_goto (tgt := 13) hx hb dX7_reply_9 (by decide) ?_
      exact B13 _ _ _ _ _ _ hg hw (lv_sub hl [0, 1] rfl)
  exact B0 S0 _ _ _ hg hw hl
theorem hi_X7_solvedNow_X7 : ∀ w ∈ wsX70, w ∈ wsX7_solvedNow := fun _ h => List.mem_cons_of_mem _ (List.mem_append_right _ (h))
abbrev rm_X7_solvedNow : Room := { frames := 3, cells := 0, slots := 0, locals := 79 }
set_option maxHeartbeats 4000000 in
set_option maxRecDepth 100000 in
theorem c_X7_solvedNow (l : Launch) (D : va_G) (C : C3) (N : Nat) (S0 : Hp) (z : Nat) (a0 : Nat) (x1 : Int32) (r : Int32) (S9 : Hp) (hg : f_X7_solvedNow N S0 a0 x1 = some (r, S9)) : MetI l yX7_solvedNow wsX7_solvedNow rm_X7_solvedNow D C S0 z [.ref a0, .int x1] r S9 z 0 0 := by
  refine mw_ofW (cc := cX7_solvedNow) (maxL := 3) (ret := (some .int)) (lv := [(0, .ref a0), (1, .int x1)]) (by decide) rfl (Nat.le_of_ble_eq_true rfl) rfl ?_
  intro p e s m below meth c ls hx hb hr hts hown hlk hml hnm hl hw
  have hown : s.vm.findClass RX7 = some m.cls := hown
  have B0 : ∀ (S : Hp) (H : Heap) (locs : List Loc) (ls : Array Slot), f_X7_solvedNow N S a0 x1 = some (r, S9) → Wd D C (va_A (wP C S0) z) s.heap S z H locs s → lv_has ls 3 [(0, .ref a0), (1, .int x1)] → W p l e rm_X7_solvedNow s m ([.ref a0, .int x1] : List Value).toArray below meth c H locs 0 0 (MQ below (QiW D C S0 z r S9 z) ([.ref a0, .int x1] : List Value).toArray s 0 0 (va_A (wP C S0) z)) (F0 m 0 ls []) := by
    intro S H locs ls hg hw hl
    unfold f_X7_solvedNow at hg
    refine lv_aload_n hx hb dX7_solvedNow_0 rfl (lv_at hl 0 rfl) ?_
    obtain ⟨hok10, hg⟩ := gd_some hg
    obtain ⟨r11, S11, hc11, hg⟩ := cl_some hg
    refine wr_ci (va_runV (As := []) (rest := []) ⟨hx, hb, hml, hown, hts⟩ (c_X7_winnerNow l D C N S z a0 r11 S11 hc11) (cwV 0 hts gX7_solvedNow_X7_winnerNow rfl rfl rfl (by decide +kernel) ⟨Nat.le_of_ble_eq_true rfl, Nat.le_of_ble_eq_true rfl⟩) (wd_preV hw hok10 (wF_7 (S := S) hok10.2) rfl) rfl rfl hl.1 rfl (lv_room (Nat.le_of_ble_eq_true rfl)) dX7_solvedNow_1 ⟨Nat.zero_le _, Nat.zero_le _⟩) hw (fun H locs hw => ?_)
    refine lv_if_le (tgt := 20) hx hb dX7_solvedNow_4 (by decide) (fun c12 => ?_) (fun c12 => ?_)
    · have hg := it_pos hg c12
      refine lv_aload_n hx hb dX7_solvedNow_20 rfl (lv_at hl 0 rfl) ?_
      obtain ⟨hok13, hg⟩ := gd_some hg
      obtain ⟨⟨⟩, S14, hc14, hg⟩ := cl_some hg
      refine wr_cv (va_runV (As := []) (rest := []) ⟨hx, hb, hml, hown, hts⟩ (c_X7_solveAll l D C N S11 z a0 () S14 hc14) (cwV 0 hts gX7_solvedNow_X7_solveAll rfl rfl rfl (by decide +kernel) ⟨Nat.le_of_ble_eq_true rfl, Nat.le_of_ble_eq_true rfl⟩) (wd_preV hw hok13 (wF_7 (S := S11) hok13.2) rfl) rfl rfl hl.1 rfl (lv_room (Nat.le_of_ble_eq_true rfl)) dX7_solvedNow_21 ⟨Nat.zero_le _, Nat.zero_le _⟩) hw (fun H locs hw => ?_)
      refine lv_aload_n hx hb dX7_solvedNow_24 rfl (lv_at hl 0 rfl) ?_
      refine lv_aload_n hx hb dX7_solvedNow_25 rfl (lv_at hl 0 rfl) ?_
      obtain ⟨hok15, hg⟩ := gd_some hg
      obtain ⟨r16, S16, hc16, hg⟩ := cl_some hg
      refine wr_ci (va_runV (As := []) (rest := [.ref a0]) ⟨hx, hb, hml, hown, hts⟩ (c_X7_maker l D C N S14 z a0 r16 S16 hc16) (cwV 0 hts gX7_solvedNow_X7_maker rfl rfl rfl (by decide +kernel) ⟨Nat.le_of_ble_eq_true rfl, Nat.le_of_ble_eq_true rfl⟩) (wd_preV hw hok15 (wF_7 (S := S14) hok15.2) rfl) rfl rfl hl.1 rfl (lv_room (Nat.le_of_ble_eq_true rfl)) dX7_solvedNow_26 ⟨Nat.zero_le _, Nat.zero_le _⟩) hw (fun H locs hw => ?_)
      refine lv_aload_n hx hb dX7_solvedNow_29 rfl (lv_at hl 0 rfl) ?_
      obtain ⟨hok17, hg⟩ := gd_some hg
      obtain ⟨r18, S18, hc18, hg⟩ := cl_some hg
      refine wr_ci (va_runV (As := []) (rest := [.int r16, .ref a0]) ⟨hx, hb, hml, hown, hts⟩ (c_X7_breaker l D C N S16 z a0 r18 S18 hc18) (cwV 0 hts gX7_solvedNow_X7_breaker rfl rfl rfl (by decide +kernel) ⟨Nat.le_of_ble_eq_true rfl, Nat.le_of_ble_eq_true rfl⟩) (wd_preV hw hok17 (wF_7 (S := S16) hok17.2) rfl) rfl rfl hl.1 rfl (lv_room (Nat.le_of_ble_eq_true rfl)) dX7_solvedNow_30 ⟨Nat.zero_le _, Nat.zero_le _⟩) hw (fun H locs hw => ?_)
      refine lv_aload_n hx hb dX7_solvedNow_33 rfl (lv_at hl 0 rfl) ?_
      obtain ⟨hok19, hg⟩ := gd_some hg
      obtain ⟨r20, hr20, hg⟩ := nn_some hg
      refine wr_get (K := RX7) (T := TX7) (N := 20) (index := 7) (ref := "MakerLinesModel") (v := .ref r20) hx hb hts hi_X7_solvedNow_X7 hown hw hok19 (wF_7 (S := S18) hok19.2) rfl 0 (by decide) (hts _ (List.mem_of_getElem? (i := 1) rfl)) (fun _ h9 => h9) (congrArg (fun o => some (va_rf o)) hr20) dX7_solvedNow_34 ?_
      refine lv_iconst (v := (1 : Int32)) hx hb dX7_solvedNow_37 (by decide) ?_
      obtain ⟨hok21, hg⟩ := gd_some hg
      obtain ⟨hin22, hg⟩ := gd_some hg
      refine wr_iald hx hb hw hok21 (inb_vp hin22) dX7_solvedNow_38 ?_
      obtain ⟨r23, S23, hc23, hg⟩ := cl_some hg
      refine wr_ci (va_runV (As := [.int r16, .int r18, .int (hI S18 r20 (1 : Int32).toNatClampNeg)]) (rest := []) ⟨hx, hb, hml, hown, hts⟩ (c_X7_placeOf l D C N S18 z a0 r16 r18 ((hI S18 r20 (1 : Int32).toNatClampNeg)) r23 S23 hc23) (cwV 3 hts gX7_solvedNow_X7_placeOf rfl rfl rfl (by decide +kernel) ⟨Nat.le_of_ble_eq_true rfl, Nat.le_of_ble_eq_true rfl⟩) (wd_preV hw hok19 (wF_7 (S := S18) hok19.2) rfl) rfl rfl hl.1 rfl (lv_room (Nat.le_of_ble_eq_true rfl)) dX7_solvedNow_39 ⟨Nat.zero_le _, Nat.zero_le _⟩) hw (fun H locs hw => ?_)
      refine lv_istore_n (lv' := [(2, .int r23), (0, .ref a0), (1, .int x1)]) hx hb dX7_solvedNow_42 rfl hl (by decide) rfl (fun ls hl => ?_)
      refine lv_iload_n hx hb dX7_solvedNow_43 rfl (lv_at hl 2 rfl) ?_
      refine lv_if_ne (tgt := 56) hx hb dX7_solvedNow_44 (by decide) (fun c24 => ?_) (fun c24 => ?_)
      · have hg := it_neg hg c24
        refine lv_aload_n hx hb dX7_solvedNow_56 rfl (lv_at hl 1 rfl) ?_
        obtain ⟨hok25, hg⟩ := gd_some hg
        obtain ⟨r26, hr26, hg⟩ := nn_some hg
        refine wr_get (K := RX7) (T := TX7) (N := 20) (index := 41) (ref := "MakerLinesModel") (v := .ref r26) hx hb hts hi_X7_solvedNow_X7 hown hw hok25 (wF_7 (S := S23) hok25.2) rfl 15 (by decide) (hts _ (List.mem_of_getElem? (i := 3) rfl)) (fun _ h9 => h9) (congrArg (fun o => some (va_rf o)) hr26) dX7_solvedNow_57 ?_
        refine lv_iload_n hx hb dX7_solvedNow_60 rfl (lv_at hl 0 rfl) ?_
        obtain ⟨hok27, hg⟩ := gd_some hg
        obtain ⟨hin28, hg⟩ := gd_some hg
        refine wr_iald hx hb hw hok27 (inb_vp hin28) dX7_solvedNow_61 ?_
        cases hg
        exact wr_iret hx hb hr hw dX7_solvedNow_62 hlk
      · have hg := it_pos hg c24
        refine lv_aload_n hx hb dX7_solvedNow_47 rfl (lv_at hl 1 rfl) ?_
        obtain ⟨hok29, hg⟩ := gd_some hg
        obtain ⟨r30, hr30, hg⟩ := nn_some hg
        refine wr_get (K := RX7) (T := TX7) (N := 20) (index := 38) (ref := "MakerLinesModel") (v := .ref r30) hx hb hts hi_X7_solvedNow_X7 hown hw hok29 (wF_7 (S := S23) hok29.2) rfl 14 (by decide) (hts _ (List.mem_of_getElem? (i := 2) rfl)) (fun _ h9 => h9) (congrArg (fun o => some (va_rf o)) hr30) dX7_solvedNow_48 ?_
        refine lv_iload_n hx hb dX7_solvedNow_51 rfl (lv_at hl 0 rfl) ?_
        obtain ⟨hok31, hg⟩ := gd_some hg
        obtain ⟨hin32, hg⟩ := gd_some hg
        refine wr_iald hx hb hw hok31 (inb_vp hin32) dX7_solvedNow_52 ?_
        refine lv_goto (tgt := 62) hx hb dX7_solvedNow_53 (by decide) ?_
        cases hg
        exact wr_iret hx hb hr hw dX7_solvedNow_62 hlk
    · have hg := it_neg hg c12
      refine lv_iload_n hx hb dX7_solvedNow_7 rfl (lv_at hl 1 rfl) ?_
      refine lv_if_ne (tgt := 18) hx hb dX7_solvedNow_8 (by decide) (fun c33 => ?_) (fun c33 => ?_)
      · have hg := it_neg hg c33
        refine lv_iconst (v := (0 : Int32)) hx hb dX7_solvedNow_18 (by decide) ?_
        cases hg
        exact wr_iret hx hb hr hw dX7_solvedNow_19 hlk
      · have hg := it_pos hg c33
        refine lv_aload_n hx hb dX7_solvedNow_11 rfl (lv_at hl 0 rfl) ?_
        obtain ⟨hok34, hg⟩ := gd_some hg
        obtain ⟨r35, S35, hc35, hg⟩ := cl_some hg
        refine wr_ci (va_runV (As := []) (rest := []) ⟨hx, hb, hml, hown, hts⟩ (c_X7_winnerNow l D C N S11 z a0 r35 S35 hc35) (cwV 0 hts gX7_solvedNow_X7_winnerNow rfl rfl rfl (by decide +kernel) ⟨Nat.le_of_ble_eq_true rfl, Nat.le_of_ble_eq_true rfl⟩) (wd_preV hw hok34 (wF_7 (S := S11) hok34.2) rfl) rfl rfl hl.1 rfl (lv_room (Nat.le_of_ble_eq_true rfl)) dX7_solvedNow_12 ⟨Nat.zero_le _, Nat.zero_le _⟩) hw (fun H locs hw => ?_)
        refine lv_goto (tgt := 19) hx hb dX7_solvedNow_15 (by decide) ?_
        cases hg
        exact wr_iret hx hb hr hw dX7_solvedNow_19 hlk
  exact B0 S0 _ _ _ hg hw hl
theorem hi_X7_solved_X7 : ∀ w ∈ wsX70, w ∈ wsX7_solved := fun _ h => List.mem_cons_of_mem _ (List.mem_append_right _ (h))
abbrev rm_X7_solved : Room := { frames := 4, cells := 0, slots := 0, locals := 101 }
set_option maxHeartbeats 4000000 in
set_option maxRecDepth 100000 in
theorem c_X7_solved (l : Launch) (D : va_G) (C : C3) (N : Nat) (S0 : Hp) (z : Nat) (a0 : Nat) (x1 : Int32) (r : Int32) (S9 : Hp) (hg : f_X7_solved N S0 a0 x1 = some (r, S9)) : MetI l yX7_solved wsX7_solved rm_X7_solved D C S0 z [.ref a0, .int x1] r S9 z 0 0 := by
  refine mw_ofW (cc := cX7_solved) (maxL := 2) (ret := (some .int)) (lv := [(0, .ref a0), (1, .int x1)]) (by decide) rfl (Nat.le_of_ble_eq_true rfl) rfl ?_
  intro p e s m below meth c ls hx hb hr hts hown hlk hml hnm hl hw
  have hown : s.vm.findClass RX7 = some m.cls := hown
  have B15 : ∀ (S : Hp) (s0 : Int32) (s1 : Nat) (H : Heap) (locs : List Loc) (ls : Array Slot), f_X7_solved_b15 N a0 x1 S s0 s1 = some (r, S9) → Wd D C (va_A (wP C S0) z) s.heap S z H locs s → lv_has ls 2 [(0, .ref a0), (1, .int x1)] → W p l e rm_X7_solved s m ([.ref a0, .int x1] : List Value).toArray below meth c H locs 0 0 (MQ below (QiW D C S0 z r S9 z) ([.ref a0, .int x1] : List Value).toArray s 0 0 (va_A (wP C S0) z)) (F0 m 15 ls [.int s0, .ref s1]) := by
    intro S s0 s1 H locs ls hg hw hl
    unfold f_X7_solved_b15 at hg
    obtain ⟨hok12, hg⟩ := gd_some hg
    refine wr_put (K := RX7) (T := TX7) (N := 20) (index := 50) (ref := "MakerLinesModel") (ty := (.int)) (S1 := (sI S s1 7 s0)) hx hb hts hi_X7_solved_X7 tyX7 tyX7_ok nmX7 hown hw hok12 (wF_7 (S := S) hok12.2) rfl (fun b hb9 => wF_sI_ne hb9) 7 (wq_7_7 (S := S) hok12.2 _) rfl (by decide) (hts _ (List.mem_of_getElem? (i := 1) rfl)) (fun _ h9 => h9) rfl (by decide +kernel) rfl rfl (Nat.le_of_ble_eq_true rfl) dX7_solved_15 (fun H locs hw => ?_)
    refine lv_aload_n hx hb dX7_solved_18 rfl (lv_at hl 0 rfl) ?_
    obtain ⟨hok13, hg⟩ := gd_some hg
    refine wr_get (K := RX7) (T := TX7) (N := 20) (index := 50) (ref := "MakerLinesModel") (v := .int (hI ((sI S s1 7 s0)) a0 7)) hx hb hts hi_X7_solved_X7 hown hw hok13 (wF_7 (S := (sI S s1 7 s0)) hok13.2) rfl 7 (by decide) (hts _ (List.mem_of_getElem? (i := 1) rfl)) (fun _ h9 => h9) rfl dX7_solved_19 ?_
    refine lv_if_le (tgt := 29) hx hb dX7_solved_22 (by decide) (fun c14 => ?_) (fun c14 => ?_)
    · have hg := it_pos hg c14
      refine lv_aload_n hx hb dX7_solved_29 rfl (lv_at hl 0 rfl) ?_
      refine lv_iload_n hx hb dX7_solved_30 rfl (lv_at hl 1 rfl) ?_
      obtain ⟨r15, S15, hc15, hg⟩ := cl_some hg
      refine wr_ci (va_runV (As := [.int x1]) (rest := []) ⟨hx, hb, hml, hown, hts⟩ (c_X7_solvedNow l D C N ((sI S s1 7 s0)) z a0 x1 r15 S15 hc15) (cwV 1 hts gX7_solved_X7_solvedNow rfl rfl rfl (by decide +kernel) ⟨Nat.le_of_ble_eq_true rfl, Nat.le_of_ble_eq_true rfl⟩) (wd_preV hw hok13 (wF_7 (S := (sI S s1 7 s0)) hok13.2) rfl) rfl rfl hl.1 rfl (lv_room (Nat.le_of_ble_eq_true rfl)) dX7_solved_31 ⟨Nat.zero_le _, Nat.zero_le _⟩) hw (fun H locs hw => ?_)
      cases hg
      exact wr_iret hx hb hr hw dX7_solved_34 hlk
    · have hg := it_neg hg c14
      refine lv_iconst (v := (0 : Int32)) hx hb dX7_solved_25 (by decide) ?_
      refine lv_goto (tgt := 34) hx hb dX7_solved_26 (by decide) ?_
      cases hg
      exact wr_iret hx hb hr hw dX7_solved_34 hlk
  have B0 : ∀ (S : Hp) (H : Heap) (locs : List Loc) (ls : Array Slot), f_X7_solved N S a0 x1 = some (r, S9) → Wd D C (va_A (wP C S0) z) s.heap S z H locs s → lv_has ls 2 [(0, .ref a0), (1, .int x1)] → W p l e rm_X7_solved s m ([.ref a0, .int x1] : List Value).toArray below meth c H locs 0 0 (MQ below (QiW D C S0 z r S9 z) ([.ref a0, .int x1] : List Value).toArray s 0 0 (va_A (wP C S0) z)) (F0 m 0 ls []) := by
    intro S H locs ls hg hw hl
    unfold f_X7_solved at hg
    refine lv_aload_n hx hb dX7_solved_0 rfl (lv_at hl 0 rfl) ?_
    refine lv_iload_n hx hb dX7_solved_1 rfl (lv_at hl 1 rfl) ?_
    refine lv_iconst (v := (0 : Int32)) hx hb dX7_solved_2 (by decide) ?_
    refine lv_iconst (v := (1 : Int32)) hx hb dX7_solved_3 (by decide) ?_
    obtain ⟨r10, S10, hc10, hg⟩ := cl_some hg
    refine wr_ci (va_runS (As := [.int x1, .int (0 : Int32), .int (1 : Int32)]) (rest := [.ref a0]) ⟨hx, hb, hml, hown, hts⟩ (c_X7_within l D C N S z x1 ((0 : Int32)) ((1 : Int32)) r10 S10 hc10) (va_cwS 3 hts gX7_solved_X7_within rfl rfl rfl (by decide +kernel) ⟨Nat.le_of_ble_eq_true rfl, Nat.le_of_ble_eq_true rfl⟩) (wd_preS hw) rfl rfl hl.1 rfl (lv_room (Nat.le_of_ble_eq_true rfl)) dX7_solved_4 ⟨Nat.zero_le _, Nat.zero_le _⟩) hw (fun H locs hw => ?_)
    refine lv_if_eq (tgt := 14) hx hb dX7_solved_7 (by decide) (fun c11 => ?_) (fun c11 => ?_)
    · have hg := it_pos hg c11
      refine lv_iconst (v := (1 : Int32)) hx hb dX7_solved_14 (by decide) ?_
      exact B15 _ _ _ _ _ _ hg hw (lv_sub hl [0, 1] rfl)
    · have hg := it_neg hg c11
      refine lv_iconst (v := (0 : Int32)) hx hb dX7_solved_10 (by decide) ?_
      refine lv_goto (tgt := 15) hx hb dX7_solved_11 (by decide) ?_
      exact B15 _ _ _ _ _ _ hg hw (lv_sub hl [0, 1] rfl)
  exact B0 S0 _ _ _ hg hw hl
theorem hi_X7_movedThen_X7 : ∀ w ∈ wsX70, w ∈ wsX7_movedThen := fun _ h => List.mem_cons_of_mem _ (List.mem_append_right _ (h))
abbrev rm_X7_movedThen : Room := { frames := 3, cells := 0, slots := 0, locals := 79 }
set_option maxHeartbeats 4000000 in
set_option maxRecDepth 100000 in
theorem c_X7_movedThen (l : Launch) (D : va_G) (C : C3) (N : Nat) (S0 : Hp) (z : Nat) (a0 : Nat) (x1 : Int32) (r : Int32) (S9 : Hp) (hg : f_X7_movedThen N S0 a0 x1 = some (r, S9)) : MetI l yX7_movedThen wsX7_movedThen rm_X7_movedThen D C S0 z [.ref a0, .int x1] r S9 z 0 0 := by
  refine mw_ofW (cc := cX7_movedThen) (maxL := 2) (ret := (some .int)) (lv := [(0, .ref a0), (1, .int x1)]) (by decide) rfl (Nat.le_of_ble_eq_true rfl) rfl ?_
  intro p e s m below meth c ls hx hb hr hts hown hlk hml hnm hl hw
  have hown : s.vm.findClass RX7 = some m.cls := hown
  have B0 : ∀ (S : Hp) (H : Heap) (locs : List Loc) (ls : Array Slot), f_X7_movedThen N S a0 x1 = some (r, S9) → Wd D C (va_A (wP C S0) z) s.heap S z H locs s → lv_has ls 2 [(0, .ref a0), (1, .int x1)] → W p l e rm_X7_movedThen s m ([.ref a0, .int x1] : List Value).toArray below meth c H locs 0 0 (MQ below (QiW D C S0 z r S9 z) ([.ref a0, .int x1] : List Value).toArray s 0 0 (va_A (wP C S0) z)) (F0 m 0 ls []) := by
    intro S H locs ls hg hw hl
    unfold f_X7_movedThen at hg
    refine lv_aload_n hx hb dX7_movedThen_0 rfl (lv_at hl 0 rfl) ?_
    obtain ⟨hok10, hg⟩ := gd_some hg
    obtain ⟨r11, S11, hc11, hg⟩ := cl_some hg
    refine wr_ci (va_runV (As := []) (rest := []) ⟨hx, hb, hml, hown, hts⟩ (c_X7_winnerNow l D C N S z a0 r11 S11 hc11) (cwV 0 hts gX7_movedThen_X7_winnerNow rfl rfl rfl (by decide +kernel) ⟨Nat.le_of_ble_eq_true rfl, Nat.le_of_ble_eq_true rfl⟩) (wd_preV hw hok10 (wF_7 (S := S) hok10.2) rfl) rfl rfl hl.1 rfl (lv_room (Nat.le_of_ble_eq_true rfl)) dX7_movedThen_1 ⟨Nat.zero_le _, Nat.zero_le _⟩) hw (fun H locs hw => ?_)
    refine lv_if_gt (tgt := 18) hx hb dX7_movedThen_4 (by decide) (fun c12 => ?_) (fun c12 => ?_)
    · have hg := it_pos hg c12
      refine lv_iconst (v := (-1 : Int32)) hx hb dX7_movedThen_18 (by decide) ?_
      cases hg
      exact wr_iret hx hb hr hw dX7_movedThen_19 hlk
    · have hg := it_neg hg c12
      refine lv_aload_n hx hb dX7_movedThen_7 rfl (lv_at hl 0 rfl) ?_
      obtain ⟨hok13, hg⟩ := gd_some hg
      obtain ⟨r14, S14, hc14, hg⟩ := cl_some hg
      refine wr_ci (va_runV (As := []) (rest := []) ⟨hx, hb, hml, hown, hts⟩ (c_X7_free l D C N S11 z a0 r14 S14 hc14) (cwV 0 hts gX7_movedThen_X7_free rfl rfl rfl (by decide +kernel) ⟨Nat.le_of_ble_eq_true rfl, Nat.le_of_ble_eq_true rfl⟩) (wd_preV hw hok13 (wF_7 (S := S11) hok13.2) rfl) rfl rfl hl.1 rfl (lv_room (Nat.le_of_ble_eq_true rfl)) dX7_movedThen_8 ⟨Nat.zero_le _, Nat.zero_le _⟩) hw (fun H locs hw => ?_)
      refine lv_iload_n hx hb dX7_movedThen_11 rfl (lv_at hl 1 rfl) ?_
      obtain ⟨r15, S15, hc15, hg⟩ := cl_some hg
      refine wr_ci (va_runS (As := [.int r14, .int x1]) (rest := []) ⟨hx, hb, hml, hown, hts⟩ (c_X7_has l D C N S14 z r14 x1 r15 S15 hc15) (va_cwS 2 hts gX7_movedThen_X7_has rfl rfl rfl (by decide +kernel) ⟨Nat.le_of_ble_eq_true rfl, Nat.le_of_ble_eq_true rfl⟩) (wd_preS hw) rfl rfl hl.1 rfl (lv_room (Nat.le_of_ble_eq_true rfl)) dX7_movedThen_12 ⟨Nat.zero_le _, Nat.zero_le _⟩) hw (fun H locs hw => ?_)
      refine lv_if_ne (tgt := 20) hx hb dX7_movedThen_15 (by decide) (fun c16 => ?_) (fun c16 => ?_)
      · have hg := it_neg hg c16
        refine lv_aload_n hx hb dX7_movedThen_20 rfl (lv_at hl 0 rfl) ?_
        obtain ⟨hok17, hg⟩ := gd_some hg
        obtain ⟨⟨⟩, S18, hc18, hg⟩ := cl_some hg
        refine wr_cv (va_runV (As := []) (rest := []) ⟨hx, hb, hml, hown, hts⟩ (c_X7_solveAll l D C N S15 z a0 () S18 hc18) (cwV 0 hts gX7_movedThen_X7_solveAll rfl rfl rfl (by decide +kernel) ⟨Nat.le_of_ble_eq_true rfl, Nat.le_of_ble_eq_true rfl⟩) (wd_preV hw hok17 (wF_7 (S := S15) hok17.2) rfl) rfl rfl hl.1 rfl (lv_room (Nat.le_of_ble_eq_true rfl)) dX7_movedThen_21 ⟨Nat.zero_le _, Nat.zero_le _⟩) hw (fun H locs hw => ?_)
        refine lv_aload_n hx hb dX7_movedThen_24 rfl (lv_at hl 0 rfl) ?_
        obtain ⟨hok19, hg⟩ := gd_some hg
        obtain ⟨r20, hr20, hg⟩ := nn_some hg
        refine wr_get (K := RX7) (T := TX7) (N := 20) (index := 38) (ref := "MakerLinesModel") (v := .ref r20) hx hb hts hi_X7_movedThen_X7 hown hw hok19 (wF_7 (S := S18) hok19.2) rfl 14 (by decide) (hts _ (List.mem_of_getElem? (i := 1) rfl)) (fun _ h9 => h9) (congrArg (fun o => some (va_rf o)) hr20) dX7_movedThen_25 ?_
        refine lv_aload_n hx hb dX7_movedThen_28 rfl (lv_at hl 0 rfl) ?_
        refine lv_iload_n hx hb dX7_movedThen_29 rfl (lv_at hl 1 rfl) ?_
        obtain ⟨r21, S21, hc21, hg⟩ := cl_some hg
        refine wr_ci (va_runV (As := [.int x1]) (rest := [.ref r20]) ⟨hx, hb, hml, hown, hts⟩ (c_X7_placeBehind l D C N S18 z a0 x1 r21 S21 hc21) (cwV 1 hts gX7_movedThen_X7_placeBehind rfl rfl rfl (by decide +kernel) ⟨Nat.le_of_ble_eq_true rfl, Nat.le_of_ble_eq_true rfl⟩) (wd_preV hw hok19 (wF_7 (S := S18) hok19.2) rfl) rfl rfl hl.1 rfl (lv_room (Nat.le_of_ble_eq_true rfl)) dX7_movedThen_30 ⟨Nat.zero_le _, Nat.zero_le _⟩) hw (fun H locs hw => ?_)
        obtain ⟨hok22, hg⟩ := gd_some hg
        obtain ⟨hin23, hg⟩ := gd_some hg
        refine wr_iald hx hb hw hok22 (inb_vp hin23) dX7_movedThen_33 ?_
        cases hg
        exact wr_iret hx hb hr hw dX7_movedThen_34 hlk
      · have hg := it_pos hg c16
        refine lv_iconst (v := (-1 : Int32)) hx hb dX7_movedThen_18 (by decide) ?_
        cases hg
        exact wr_iret hx hb hr hw dX7_movedThen_19 hlk
  exact B0 S0 _ _ _ hg hw hl
theorem hi_X7_ifMoved_X7 : ∀ w ∈ wsX70, w ∈ wsX7_ifMoved := fun _ h => List.mem_cons_of_mem _ (List.mem_append_right _ (h))
abbrev rm_X7_ifMoved : Room := { frames := 4, cells := 0, slots := 0, locals := 100 }
set_option maxHeartbeats 4000000 in
set_option maxRecDepth 100000 in
theorem c_X7_ifMoved (l : Launch) (D : va_G) (C : C3) (N : Nat) (S0 : Hp) (z : Nat) (a0 : Nat) (x1 : Int32) (r : Int32) (S9 : Hp) (hg : f_X7_ifMoved N S0 a0 x1 = some (r, S9)) : MetI l yX7_ifMoved wsX7_ifMoved rm_X7_ifMoved D C S0 z [.ref a0, .int x1] r S9 z 0 0 := by
  refine mw_ofW (cc := cX7_ifMoved) (maxL := 2) (ret := (some .int)) (lv := [(0, .ref a0), (1, .int x1)]) (by decide) rfl (Nat.le_of_ble_eq_true rfl) rfl ?_
  intro p e s m below meth c ls hx hb hr hts hown hlk hml hnm hl hw
  have hown : s.vm.findClass RX7 = some m.cls := hown
  have B14 : ∀ (S : Hp) (s0 : Int32) (s1 : Nat) (H : Heap) (locs : List Loc) (ls : Array Slot), f_X7_ifMoved_b14 N a0 x1 S s0 s1 = some (r, S9) → Wd D C (va_A (wP C S0) z) s.heap S z H locs s → lv_has ls 2 [(0, .ref a0), (1, .int x1)] → W p l e rm_X7_ifMoved s m ([.ref a0, .int x1] : List Value).toArray below meth c H locs 0 0 (MQ below (QiW D C S0 z r S9 z) ([.ref a0, .int x1] : List Value).toArray s 0 0 (va_A (wP C S0) z)) (F0 m 14 ls [.int s0, .ref s1]) := by
    intro S s0 s1 H locs ls hg hw hl
    unfold f_X7_ifMoved_b14 at hg
    obtain ⟨hok13, hg⟩ := gd_some hg
    refine wr_put (K := RX7) (T := TX7) (N := 20) (index := 50) (ref := "MakerLinesModel") (ty := (.int)) (S1 := (sI S s1 7 s0)) hx hb hts hi_X7_ifMoved_X7 tyX7 tyX7_ok nmX7 hown hw hok13 (wF_7 (S := S) hok13.2) rfl (fun b hb9 => wF_sI_ne hb9) 7 (wq_7_7 (S := S) hok13.2 _) rfl (by decide) (hts _ (List.mem_of_getElem? (i := 1) rfl)) (fun _ h9 => h9) rfl (by decide +kernel) rfl rfl (Nat.le_of_ble_eq_true rfl) dX7_ifMoved_14 (fun H locs hw => ?_)
    refine lv_aload_n hx hb dX7_ifMoved_17 rfl (lv_at hl 0 rfl) ?_
    obtain ⟨hok14, hg⟩ := gd_some hg
    refine wr_get (K := RX7) (T := TX7) (N := 20) (index := 50) (ref := "MakerLinesModel") (v := .int (hI ((sI S s1 7 s0)) a0 7)) hx hb hts hi_X7_ifMoved_X7 hown hw hok14 (wF_7 (S := (sI S s1 7 s0)) hok14.2) rfl 7 (by decide) (hts _ (List.mem_of_getElem? (i := 1) rfl)) (fun _ h9 => h9) rfl dX7_ifMoved_18 ?_
    refine lv_if_le (tgt := 28) hx hb dX7_ifMoved_21 (by decide) (fun c15 => ?_) (fun c15 => ?_)
    · have hg := it_pos hg c15
      refine lv_aload_n hx hb dX7_ifMoved_28 rfl (lv_at hl 0 rfl) ?_
      refine lv_iload_n hx hb dX7_ifMoved_29 rfl (lv_at hl 1 rfl) ?_
      obtain ⟨r16, S16, hc16, hg⟩ := cl_some hg
      refine wr_ci (va_runV (As := [.int x1]) (rest := []) ⟨hx, hb, hml, hown, hts⟩ (c_X7_movedThen l D C N ((sI S s1 7 s0)) z a0 x1 r16 S16 hc16) (cwV 1 hts gX7_ifMoved_X7_movedThen rfl rfl rfl (by decide +kernel) ⟨Nat.le_of_ble_eq_true rfl, Nat.le_of_ble_eq_true rfl⟩) (wd_preV hw hok14 (wF_7 (S := (sI S s1 7 s0)) hok14.2) rfl) rfl rfl hl.1 rfl (lv_room (Nat.le_of_ble_eq_true rfl)) dX7_ifMoved_30 ⟨Nat.zero_le _, Nat.zero_le _⟩) hw (fun H locs hw => ?_)
      cases hg
      exact wr_iret hx hb hr hw dX7_ifMoved_33 hlk
    · have hg := it_neg hg c15
      refine lv_iconst (v := (0 : Int32)) hx hb dX7_ifMoved_24 (by decide) ?_
      refine lv_goto (tgt := 33) hx hb dX7_ifMoved_25 (by decide) ?_
      cases hg
      exact wr_iret hx hb hr hw dX7_ifMoved_33 hlk
  have B0 : ∀ (S : Hp) (H : Heap) (locs : List Loc) (ls : Array Slot), f_X7_ifMoved N S a0 x1 = some (r, S9) → Wd D C (va_A (wP C S0) z) s.heap S z H locs s → lv_has ls 2 [(0, .ref a0), (1, .int x1)] → W p l e rm_X7_ifMoved s m ([.ref a0, .int x1] : List Value).toArray below meth c H locs 0 0 (MQ below (QiW D C S0 z r S9 z) ([.ref a0, .int x1] : List Value).toArray s 0 0 (va_A (wP C S0) z)) (F0 m 0 ls []) := by
    intro S H locs ls hg hw hl
    unfold f_X7_ifMoved at hg
    refine lv_aload_n hx hb dX7_ifMoved_0 rfl (lv_at hl 0 rfl) ?_
    refine lv_aload_n hx hb dX7_ifMoved_1 rfl (lv_at hl 0 rfl) ?_
    refine lv_iload_n hx hb dX7_ifMoved_2 rfl (lv_at hl 1 rfl) ?_
    obtain ⟨hok10, hg⟩ := gd_some hg
    obtain ⟨r11, S11, hc11, hg⟩ := cl_some hg
    refine wr_ci (va_runV (As := [.int x1]) (rest := [.ref a0]) ⟨hx, hb, hml, hown, hts⟩ (c_X7_isCell l D C N S z a0 x1 r11 S11 hc11) (cwV 1 hts gX7_ifMoved_X7_isCell rfl rfl rfl (by decide +kernel) ⟨Nat.le_of_ble_eq_true rfl, Nat.le_of_ble_eq_true rfl⟩) (wd_preV hw hok10 (wF_7 (S := S) hok10.2) rfl) rfl rfl hl.1 rfl (lv_room (Nat.le_of_ble_eq_true rfl)) dX7_ifMoved_3 ⟨Nat.zero_le _, Nat.zero_le _⟩) hw (fun H locs hw => ?_)
    refine lv_if_eq (tgt := 13) hx hb dX7_ifMoved_6 (by decide) (fun c12 => ?_) (fun c12 => ?_)
    · have hg := it_pos hg c12
      refine lv_iconst (v := (1 : Int32)) hx hb dX7_ifMoved_13 (by decide) ?_
      exact B14 _ _ _ _ _ _ hg hw (lv_sub hl [0, 1] rfl)
    · have hg := it_neg hg c12
      refine lv_iconst (v := (0 : Int32)) hx hb dX7_ifMoved_9 (by decide) ?_
      refine lv_goto (tgt := 14) hx hb dX7_ifMoved_10 (by decide) ?_
      exact B14 _ _ _ _ _ _ hg hw (lv_sub hl [0, 1] rfl)
  exact B0 S0 _ _ _ hg hw hl
theorem hi_X7_playedThen_X7 : ∀ w ∈ wsX70, w ∈ wsX7_playedThen := fun _ h => List.mem_cons_of_mem _ (List.mem_append_right _ (h))
abbrev rm_X7_playedThen : Room := { frames := 9, cells := 0, slots := 0, locals := 195 }
set_option maxHeartbeats 4000000 in
set_option maxRecDepth 100000 in
theorem c_X7_playedThen (l : Launch) (D : va_G) (C : C3) (N : Nat) (S0 : Hp) (z : Nat) (a0 : Nat) (x1 : Int32) (x2 : Int32) (r : Int32) (S9 : Hp) (hg : f_X7_playedThen N S0 a0 x1 x2 = some (r, S9)) : MetI l yX7_playedThen wsX7_playedThen rm_X7_playedThen D C S0 z [.ref a0, .int x1, .int x2] r S9 z 0 0 := by
  refine mw_ofW (cc := cX7_playedThen) (maxL := 6) (ret := (some .int)) (lv := [(0, .ref a0), (1, .int x1), (2, .int x2)]) (by decide) rfl (Nat.le_of_ble_eq_true rfl) rfl ?_
  intro p e s m below meth c ls hx hb hr hts hown hlk hml hnm hl hw
  have hown : s.vm.findClass RX7 = some m.cls := hown
  have B44 : ∀ (K44 : Hp → Int32 → Int32 → Option (Int32 × Hp)) (hK44 : ∀ (S : Hp) (v4 : Int32) (v5 : Int32) (H : Heap) (locs : List Loc) (ls : Array Slot), K44 S v4 v5 = some (r, S9) → Wd D C (va_A (wP C S0) z) s.heap S z H locs s → lv_has ls 6 [(0, .ref a0), (4, .int v4), (5, .int v5)] → W p l e rm_X7_playedThen s m ([.ref a0, .int x1, .int x2] : List Value).toArray below meth c H locs 0 0 (MQ below (QiW D C S0 z r S9 z) ([.ref a0, .int x1, .int x2] : List Value).toArray s 0 0 (va_A (wP C S0) z)) (F0 m 44 ls [])) (S : Hp) (v4 : Int32) (v5 : Int32) (H : Heap) (locs : List Loc) (ls : Array Slot), f_X7_playedThen_b44 N a0 x1 x2 K44 S v4 v5 = some (r, S9) → Wd D C (va_A (wP C S0) z) s.heap S z H locs s → lv_has ls 6 [(0, .ref a0), (4, .int v4), (5, .int v5)] → W p l e rm_X7_playedThen s m ([.ref a0, .int x1, .int x2] : List Value).toArray below meth c H locs 0 0 (MQ below (QiW D C S0 z r S9 z) ([.ref a0, .int x1, .int x2] : List Value).toArray s 0 0 (va_A (wP C S0) z)) (F0 m 44 ls []) := by
    intro K44 hK44 S v4 v5 H locs ls hg hw hl
    unfold f_X7_playedThen_b44 at hg
    refine lv_iload hx hb dX7_playedThen_44 (lv_at hl 2 rfl) ?_
    refine lv_bipush (v := (22 : Int32)) hx hb dX7_playedThen_46 (by decide) ?_
    refine lv_icmp_ge (tgt := 71) hx hb dX7_playedThen_48 (by decide) (fun c30 => ?_) (fun c30 => ?_)
    · have hg := it_pos hg c30
      refine lv_iload hx hb dX7_playedThen_71 (lv_at hl 1 rfl) ?_
      cases hg
      exact wr_iret hx hb hr hw dX7_playedThen_73 hlk
    · have hg := it_neg hg c30
      refine lv_aload_n hx hb dX7_playedThen_51 rfl (lv_at hl 0 rfl) ?_
      obtain ⟨hok31, hg⟩ := gd_some hg
      obtain ⟨r32, hr32, hg⟩ := nn_some hg
      refine wr_get (K := RX7) (T := TX7) (N := 20) (index := 7) (ref := "MakerLinesModel") (v := .ref r32) hx hb hts hi_X7_playedThen_X7 hown hw hok31 (wF_7 (S := S) hok31.2) rfl 0 (by decide) (hts _ (List.mem_of_getElem? (i := 2) rfl)) (fun _ h9 => h9) (congrArg (fun o => some (va_rf o)) hr32) dX7_playedThen_52 ?_
      refine lv_iload hx hb dX7_playedThen_55 (lv_at hl 2 rfl) ?_
      refine lv_aload_n hx hb dX7_playedThen_57 rfl (lv_at hl 0 rfl) ?_
      obtain ⟨r33, hr33, hg⟩ := nn_some hg
      refine wr_get (K := RX7) (T := TX7) (N := 20) (index := 47) (ref := "MakerLinesModel") (v := .ref r33) hx hb hts hi_X7_playedThen_X7 hown hw hok31 (wF_7 (S := S) hok31.2) rfl 18 (by decide) (hts _ (List.mem_of_getElem? (i := 1) rfl)) (fun _ h9 => h9) (congrArg (fun o => some (va_rf o)) hr33) dX7_playedThen_58 ?_
      refine lv_iload hx hb dX7_playedThen_61 (lv_at hl 2 rfl) ?_
      obtain ⟨hok34, hg⟩ := gd_some hg
      obtain ⟨hin35, hg⟩ := gd_some hg
      refine wr_iald hx hb hw hok34 (inb_vp hin35) dX7_playedThen_63 ?_
      obtain ⟨hok36, hg⟩ := gd_some hg
      obtain ⟨hin37, hg⟩ := gd_some hg
      refine wr_iast hx hb hw hok36 (inb_vp hin37) dX7_playedThen_64 (fun H locs hw => ?_)
      obtain ⟨S38, hS38, hg⟩ := bd_some hg
      rw [← hS38] at hw
      have hok39 : ok S38 a0 7 := by rw [hS38]; exact hok31
      have hr40 : hR S38 a0 0 = some r32 := by rw [hS38]; exact hr32
      have hr41 : hR S38 a0 18 = some r33 := by rw [hS38]; exact hr33
      have hok42 : ok S38 r33 8 := by rw [hS38]; exact hok34
      have hin43 : inb v5 (hN S38 r33) := by rw [hS38]; exact hin35
      have hok44 : ok S38 r32 8 := by rw [hS38]; exact hok36
      have hin45 : inb v5 (hN S38 r32) := by rw [hS38]; exact hin37
      refine lv_iinc (v := (v5 + (1 : Int32))) (lv' := [(5, .int (v5 + (1 : Int32))), (0, .ref a0), (4, .int v4)]) hx hb dX7_playedThen_65 hl (k := 2) rfl rfl (by decide) rfl (fun ls hl => ?_)
      refine lv_goto (tgt := 44) hx hb dX7_playedThen_68 (by decide) ?_
      exact hK44 _ _ _ _ _ _ hg hw (lv_sub hl [1, 2, 0] rfl)
  have L44 : ∀ (k : Nat) (S : Hp) (v4 : Int32) (v5 : Int32) (H : Heap) (locs : List Loc) (ls : Array Slot), f_X7_playedThen_l44 N a0 x1 x2 k S v4 v5 = some (r, S9) → Wd D C (va_A (wP C S0) z) s.heap S z H locs s → lv_has ls 6 [(0, .ref a0), (4, .int v4), (5, .int v5)] → W p l e rm_X7_playedThen s m ([.ref a0, .int x1, .int x2] : List Value).toArray below meth c H locs 0 0 (MQ below (QiW D C S0 z r S9 z) ([.ref a0, .int x1, .int x2] : List Value).toArray s 0 0 (va_A (wP C S0) z)) (F0 m 44 ls []) := by
    intro k
    induction k with
    | zero => intro S v4 v5 H locs ls hg hw hl; exact absurd (show (none : Option (Int32 × Hp)) = some (r, S9) from hg) (by simp)
    | succ k ih => intro S v4 v5 H locs ls hg hw hl; exact B44 (f_X7_playedThen_l44 N a0 x1 x2 k) ih S v4 v5 H locs ls hg hw hl
  have B2 : ∀ (K2 : Hp → Int32 → Option (Int32 × Hp)) (hK2 : ∀ (S : Hp) (v3 : Int32) (H : Heap) (locs : List Loc) (ls : Array Slot), K2 S v3 = some (r, S9) → Wd D C (va_A (wP C S0) z) s.heap S z H locs s → lv_has ls 6 [(0, .ref a0), (1, .int x1), (2, .int x2), (3, .int v3)] → W p l e rm_X7_playedThen s m ([.ref a0, .int x1, .int x2] : List Value).toArray below meth c H locs 0 0 (MQ below (QiW D C S0 z r S9 z) ([.ref a0, .int x1, .int x2] : List Value).toArray s 0 0 (va_A (wP C S0) z)) (F0 m 2 ls [])) (S : Hp) (v3 : Int32) (H : Heap) (locs : List Loc) (ls : Array Slot), f_X7_playedThen_b2 N a0 x1 x2 K2 S v3 = some (r, S9) → Wd D C (va_A (wP C S0) z) s.heap S z H locs s → lv_has ls 6 [(0, .ref a0), (1, .int x1), (2, .int x2), (3, .int v3)] → W p l e rm_X7_playedThen s m ([.ref a0, .int x1, .int x2] : List Value).toArray below meth c H locs 0 0 (MQ below (QiW D C S0 z r S9 z) ([.ref a0, .int x1, .int x2] : List Value).toArray s 0 0 (va_A (wP C S0) z)) (F0 m 2 ls []) := by
    intro K2 hK2 S v3 H locs ls hg hw hl
    unfold f_X7_playedThen_b2 at hg
    refine lv_iload_n hx hb dX7_playedThen_2 rfl (lv_at hl 3 rfl) ?_
    refine lv_bipush (v := (22 : Int32)) hx hb dX7_playedThen_3 (by decide) ?_
    refine lv_icmp_ge (tgt := 26) hx hb dX7_playedThen_5 (by decide) (fun c10 => ?_) (fun c10 => ?_)
    · have hg := it_pos hg c10
      refine lv_aload_n hx hb dX7_playedThen_26 rfl (lv_at hl 0 rfl) ?_
      refine lv_iload_n hx hb dX7_playedThen_27 rfl (lv_at hl 1 rfl) ?_
      refine lv_iload_n hx hb dX7_playedThen_28 rfl (lv_at hl 2 rfl) ?_
      refine lv_bipush (v := (10 : Int32)) hx hb dX7_playedThen_29 (by decide) ?_
      obtain ⟨hok11, hg⟩ := gd_some hg
      obtain ⟨r12, S12, hc12, hg⟩ := cl_some hg
      refine wr_ci (va_runV (As := [.int x1, .int x2, .int (10 : Int32)]) (rest := []) ⟨hx, hb, hml, hown, hts⟩ (c_X7_plays l D C N S z a0 x1 x2 ((10 : Int32)) r12 S12 hc12) (cwV 3 hts gX7_playedThen_X7_plays rfl rfl rfl (by decide +kernel) ⟨Nat.le_of_ble_eq_true rfl, Nat.le_of_ble_eq_true rfl⟩) (wd_preV hw hok11 (wF_7 (S := S) hok11.2) rfl) rfl rfl hl.1 rfl (lv_room (Nat.le_of_ble_eq_true rfl)) dX7_playedThen_31 ⟨Nat.zero_le _, Nat.zero_le _⟩) hw (fun H locs hw => ?_)
      refine lv_istore_n (lv' := [(3, .int r12), (0, .ref a0), (1, .int x1), (2, .int x2)]) hx hb dX7_playedThen_34 rfl hl (by decide) rfl (fun ls hl => ?_)
      refine lv_aload_n hx hb dX7_playedThen_35 rfl (lv_at hl 1 rfl) ?_
      obtain ⟨hok13, hg⟩ := gd_some hg
      obtain ⟨r14, S14, hc14, hg⟩ := cl_some hg
      refine wr_ci (va_runV (As := []) (rest := []) ⟨hx, hb, hml, hown, hts⟩ (c_X7_winnerNow l D C N S12 z a0 r14 S14 hc14) (cwV 0 hts gX7_playedThen_X7_winnerNow rfl rfl rfl (by decide +kernel) ⟨Nat.le_of_ble_eq_true rfl, Nat.le_of_ble_eq_true rfl⟩) (wd_preV hw hok13 (wF_7 (S := S12) hok13.2) rfl) rfl rfl hl.1 rfl (lv_room (Nat.le_of_ble_eq_true rfl)) dX7_playedThen_36 ⟨Nat.zero_le _, Nat.zero_le _⟩) hw (fun H locs hw => ?_)
      refine lv_istore (lv' := [(4, .int r14), (3, .int r12), (0, .ref a0), (1, .int x1), (2, .int x2)]) hx hb dX7_playedThen_39 hl (by decide) rfl (fun ls hl => ?_)
      refine lv_iconst (v := (0 : Int32)) hx hb dX7_playedThen_41 (by decide) ?_
      refine lv_istore (lv' := [(5, .int (0 : Int32)), (4, .int r14), (3, .int r12), (0, .ref a0), (1, .int x1), (2, .int x2)]) hx hb dX7_playedThen_42 hl (by decide) rfl (fun ls hl => ?_)
      exact L44 N _ _ _ _ _ _ hg hw (lv_sub hl [3, 1, 0] rfl)
    · have hg := it_neg hg c10
      refine lv_aload_n hx hb dX7_playedThen_8 rfl (lv_at hl 0 rfl) ?_
      obtain ⟨hok15, hg⟩ := gd_some hg
      obtain ⟨r16, hr16, hg⟩ := nn_some hg
      refine wr_get (K := RX7) (T := TX7) (N := 20) (index := 47) (ref := "MakerLinesModel") (v := .ref r16) hx hb hts hi_X7_playedThen_X7 hown hw hok15 (wF_7 (S := S) hok15.2) rfl 18 (by decide) (hts _ (List.mem_of_getElem? (i := 1) rfl)) (fun _ h9 => h9) (congrArg (fun o => some (va_rf o)) hr16) dX7_playedThen_9 ?_
      refine lv_iload_n hx hb dX7_playedThen_12 rfl (lv_at hl 3 rfl) ?_
      refine lv_aload_n hx hb dX7_playedThen_13 rfl (lv_at hl 0 rfl) ?_
      obtain ⟨r17, hr17, hg⟩ := nn_some hg
      refine wr_get (K := RX7) (T := TX7) (N := 20) (index := 7) (ref := "MakerLinesModel") (v := .ref r17) hx hb hts hi_X7_playedThen_X7 hown hw hok15 (wF_7 (S := S) hok15.2) rfl 0 (by decide) (hts _ (List.mem_of_getElem? (i := 2) rfl)) (fun _ h9 => h9) (congrArg (fun o => some (va_rf o)) hr17) dX7_playedThen_14 ?_
      refine lv_iload_n hx hb dX7_playedThen_17 rfl (lv_at hl 3 rfl) ?_
      obtain ⟨hok18, hg⟩ := gd_some hg
      obtain ⟨hin19, hg⟩ := gd_some hg
      refine wr_iald hx hb hw hok18 (inb_vp hin19) dX7_playedThen_18 ?_
      obtain ⟨hok20, hg⟩ := gd_some hg
      obtain ⟨hin21, hg⟩ := gd_some hg
      refine wr_iast hx hb hw hok20 (inb_vp hin21) dX7_playedThen_19 (fun H locs hw => ?_)
      obtain ⟨S22, hS22, hg⟩ := bd_some hg
      rw [← hS22] at hw
      have hok23 : ok S22 a0 7 := by rw [hS22]; exact hok15
      have hr24 : hR S22 a0 18 = some r16 := by rw [hS22]; exact hr16
      have hr25 : hR S22 a0 0 = some r17 := by rw [hS22]; exact hr17
      have hok26 : ok S22 r17 8 := by rw [hS22]; exact hok18
      have hin27 : inb v3 (hN S22 r17) := by rw [hS22]; exact hin19
      have hok28 : ok S22 r16 8 := by rw [hS22]; exact hok20
      have hin29 : inb v3 (hN S22 r16) := by rw [hS22]; exact hin21
      refine lv_iinc (v := (v3 + (1 : Int32))) (lv' := [(3, .int (v3 + (1 : Int32))), (0, .ref a0), (1, .int x1), (2, .int x2)]) hx hb dX7_playedThen_20 hl (k := 3) rfl rfl (by decide) rfl (fun ls hl => ?_)
      refine lv_goto (tgt := 2) hx hb dX7_playedThen_23 (by decide) ?_
      exact hK2 _ _ _ _ _ hg hw (lv_sub hl [1, 2, 3, 0] rfl)
  have L2 : ∀ (k : Nat) (S : Hp) (v3 : Int32) (H : Heap) (locs : List Loc) (ls : Array Slot), f_X7_playedThen_l2 N a0 x1 x2 k S v3 = some (r, S9) → Wd D C (va_A (wP C S0) z) s.heap S z H locs s → lv_has ls 6 [(0, .ref a0), (1, .int x1), (2, .int x2), (3, .int v3)] → W p l e rm_X7_playedThen s m ([.ref a0, .int x1, .int x2] : List Value).toArray below meth c H locs 0 0 (MQ below (QiW D C S0 z r S9 z) ([.ref a0, .int x1, .int x2] : List Value).toArray s 0 0 (va_A (wP C S0) z)) (F0 m 2 ls []) := by
    intro k
    induction k with
    | zero => intro S v3 H locs ls hg hw hl; exact absurd (show (none : Option (Int32 × Hp)) = some (r, S9) from hg) (by simp)
    | succ k ih => intro S v3 H locs ls hg hw hl; exact B2 (f_X7_playedThen_l2 N a0 x1 x2 k) ih S v3 H locs ls hg hw hl
  have B0 : ∀ (S : Hp) (H : Heap) (locs : List Loc) (ls : Array Slot), f_X7_playedThen N S a0 x1 x2 = some (r, S9) → Wd D C (va_A (wP C S0) z) s.heap S z H locs s → lv_has ls 6 [(0, .ref a0), (1, .int x1), (2, .int x2)] → W p l e rm_X7_playedThen s m ([.ref a0, .int x1, .int x2] : List Value).toArray below meth c H locs 0 0 (MQ below (QiW D C S0 z r S9 z) ([.ref a0, .int x1, .int x2] : List Value).toArray s 0 0 (va_A (wP C S0) z)) (F0 m 0 ls []) := by
    intro S H locs ls hg hw hl
    unfold f_X7_playedThen at hg
    refine lv_iconst (v := (0 : Int32)) hx hb dX7_playedThen_0 (by decide) ?_
    refine lv_istore_n (lv' := [(3, .int (0 : Int32)), (0, .ref a0), (1, .int x1), (2, .int x2)]) hx hb dX7_playedThen_1 rfl hl (by decide) rfl (fun ls hl => ?_)
    exact L2 N _ _ _ _ _ hg hw (lv_sub hl [1, 2, 3, 0] rfl)
  exact B0 S0 _ _ _ hg hw hl
theorem hi_X7_ifPlayed_X7 : ∀ w ∈ wsX70, w ∈ wsX7_ifPlayed := fun _ h => List.mem_cons_of_mem _ (List.mem_append_right _ (h))
abbrev rm_X7_ifPlayed : Room := { frames := 10, cells := 0, slots := 0, locals := 220 }
set_option maxHeartbeats 4000000 in
set_option maxRecDepth 100000 in
theorem c_X7_ifPlayed (l : Launch) (D : va_G) (C : C3) (N : Nat) (S0 : Hp) (z : Nat) (a0 : Nat) (x1 : Int32) (x2 : Int32) (r : Int32) (S9 : Hp) (hg : f_X7_ifPlayed N S0 a0 x1 x2 = some (r, S9)) : MetI l yX7_ifPlayed wsX7_ifPlayed rm_X7_ifPlayed D C S0 z [.ref a0, .int x1, .int x2] r S9 z 0 0 := by
  refine mw_ofW (cc := cX7_ifPlayed) (maxL := 3) (ret := (some .int)) (lv := [(0, .ref a0), (1, .int x1), (2, .int x2)]) (by decide) rfl (Nat.le_of_ble_eq_true rfl) rfl ?_
  intro p e s m below meth c ls hx hb hr hts hown hlk hml hnm hl hw
  have hown : s.vm.findClass RX7 = some m.cls := hown
  have B20 : ∀ (S : Hp) (s0 : Int32) (s1 : Nat) (H : Heap) (locs : List Loc) (ls : Array Slot), f_X7_ifPlayed_b20 N a0 x1 x2 S s0 s1 = some (r, S9) → Wd D C (va_A (wP C S0) z) s.heap S z H locs s → lv_has ls 3 [(0, .ref a0), (1, .int x1), (2, .int x2)] → W p l e rm_X7_ifPlayed s m ([.ref a0, .int x1, .int x2] : List Value).toArray below meth c H locs 0 0 (MQ below (QiW D C S0 z r S9 z) ([.ref a0, .int x1, .int x2] : List Value).toArray s 0 0 (va_A (wP C S0) z)) (F0 m 20 ls [.int s0, .ref s1]) := by
    intro S s0 s1 H locs ls hg hw hl
    unfold f_X7_ifPlayed_b20 at hg
    obtain ⟨hok14, hg⟩ := gd_some hg
    refine wr_put (K := RX7) (T := TX7) (N := 20) (index := 50) (ref := "MakerLinesModel") (ty := (.int)) (S1 := (sI S s1 7 s0)) hx hb hts hi_X7_ifPlayed_X7 tyX7 tyX7_ok nmX7 hown hw hok14 (wF_7 (S := S) hok14.2) rfl (fun b hb9 => wF_sI_ne hb9) 7 (wq_7_7 (S := S) hok14.2 _) rfl (by decide) (hts _ (List.mem_of_getElem? (i := 1) rfl)) (fun _ h9 => h9) rfl (by decide +kernel) rfl rfl (Nat.le_of_ble_eq_true rfl) dX7_ifPlayed_20 (fun H locs hw => ?_)
    refine lv_aload_n hx hb dX7_ifPlayed_23 rfl (lv_at hl 0 rfl) ?_
    obtain ⟨hok15, hg⟩ := gd_some hg
    refine wr_get (K := RX7) (T := TX7) (N := 20) (index := 50) (ref := "MakerLinesModel") (v := .int (hI ((sI S s1 7 s0)) a0 7)) hx hb hts hi_X7_ifPlayed_X7 hown hw hok15 (wF_7 (S := (sI S s1 7 s0)) hok15.2) rfl 7 (by decide) (hts _ (List.mem_of_getElem? (i := 1) rfl)) (fun _ h9 => h9) rfl dX7_ifPlayed_24 ?_
    refine lv_if_le (tgt := 34) hx hb dX7_ifPlayed_27 (by decide) (fun c16 => ?_) (fun c16 => ?_)
    · have hg := it_pos hg c16
      refine lv_aload_n hx hb dX7_ifPlayed_34 rfl (lv_at hl 0 rfl) ?_
      refine lv_iload_n hx hb dX7_ifPlayed_35 rfl (lv_at hl 1 rfl) ?_
      refine lv_iload_n hx hb dX7_ifPlayed_36 rfl (lv_at hl 2 rfl) ?_
      obtain ⟨r17, S17, hc17, hg⟩ := cl_some hg
      refine wr_ci (va_runV (As := [.int x1, .int x2]) (rest := []) ⟨hx, hb, hml, hown, hts⟩ (c_X7_playedThen l D C N ((sI S s1 7 s0)) z a0 x1 x2 r17 S17 hc17) (cwV 2 hts gX7_ifPlayed_X7_playedThen rfl rfl rfl (by decide +kernel) ⟨Nat.le_of_ble_eq_true rfl, Nat.le_of_ble_eq_true rfl⟩) (wd_preV hw hok15 (wF_7 (S := (sI S s1 7 s0)) hok15.2) rfl) rfl rfl hl.1 rfl (lv_room (Nat.le_of_ble_eq_true rfl)) dX7_ifPlayed_37 ⟨Nat.zero_le _, Nat.zero_le _⟩) hw (fun H locs hw => ?_)
      cases hg
      exact wr_iret hx hb hr hw dX7_ifPlayed_40 hlk
    · have hg := it_neg hg c16
      refine lv_iconst (v := (0 : Int32)) hx hb dX7_ifPlayed_30 (by decide) ?_
      refine lv_goto (tgt := 40) hx hb dX7_ifPlayed_31 (by decide) ?_
      cases hg
      exact wr_iret hx hb hr hw dX7_ifPlayed_40 hlk
  have B19 : ∀ (S : Hp) (s0 : Nat) (H : Heap) (locs : List Loc) (ls : Array Slot), f_X7_ifPlayed_b19 N a0 x1 x2 S s0 = some (r, S9) → Wd D C (va_A (wP C S0) z) s.heap S z H locs s → lv_has ls 3 [(0, .ref a0), (1, .int x1), (2, .int x2)] → W p l e rm_X7_ifPlayed s m ([.ref a0, .int x1, .int x2] : List Value).toArray below meth c H locs 0 0 (MQ below (QiW D C S0 z r S9 z) ([.ref a0, .int x1, .int x2] : List Value).toArray s 0 0 (va_A (wP C S0) z)) (F0 m 19 ls [.ref s0]) := by
    intro S s0 H locs ls hg hw hl
    unfold f_X7_ifPlayed_b19 at hg
    refine lv_iconst (v := (1 : Int32)) hx hb dX7_ifPlayed_19 (by decide) ?_
    exact B20 _ _ _ _ _ _ hg hw (lv_sub hl [0, 1, 2] rfl)
  have B0 : ∀ (S : Hp) (H : Heap) (locs : List Loc) (ls : Array Slot), f_X7_ifPlayed N S a0 x1 x2 = some (r, S9) → Wd D C (va_A (wP C S0) z) s.heap S z H locs s → lv_has ls 3 [(0, .ref a0), (1, .int x1), (2, .int x2)] → W p l e rm_X7_ifPlayed s m ([.ref a0, .int x1, .int x2] : List Value).toArray below meth c H locs 0 0 (MQ below (QiW D C S0 z r S9 z) ([.ref a0, .int x1, .int x2] : List Value).toArray s 0 0 (va_A (wP C S0) z)) (F0 m 0 ls []) := by
    intro S H locs ls hg hw hl
    unfold f_X7_ifPlayed at hg
    refine lv_aload_n hx hb dX7_ifPlayed_0 rfl (lv_at hl 0 rfl) ?_
    refine lv_iload_n hx hb dX7_ifPlayed_1 rfl (lv_at hl 1 rfl) ?_
    obtain ⟨r10, S10, hc10, hg⟩ := cl_some hg
    refine wr_ci (va_runS (As := [.int x1]) (rest := [.ref a0]) ⟨hx, hb, hml, hown, hts⟩ (c_X7_isRule l D C N S z x1 r10 S10 hc10) (va_cwS 1 hts gX7_ifPlayed_X7_isRule rfl rfl rfl (by decide +kernel) ⟨Nat.le_of_ble_eq_true rfl, Nat.le_of_ble_eq_true rfl⟩) (wd_preS hw) rfl rfl hl.1 rfl (lv_room (Nat.le_of_ble_eq_true rfl)) dX7_ifPlayed_2 ⟨Nat.zero_le _, Nat.zero_le _⟩) hw (fun H locs hw => ?_)
    refine lv_if_eq (tgt := 19) hx hb dX7_ifPlayed_5 (by decide) (fun c11 => ?_) (fun c11 => ?_)
    · have hg := it_pos hg c11
      exact B19 _ _ _ _ _ hg hw (lv_sub hl [0, 1, 2] rfl)
    · have hg := it_neg hg c11
      refine lv_iload_n hx hb dX7_ifPlayed_8 rfl (lv_at hl 2 rfl) ?_
      obtain ⟨r12, S12, hc12, hg⟩ := cl_some hg
      refine wr_ci (va_runS (As := [.int x2]) (rest := [.ref a0]) ⟨hx, hb, hml, hown, hts⟩ (c_X7_isRule l D C N S10 z x2 r12 S12 hc12) (va_cwS 1 hts gX7_ifPlayed_X7_isRule rfl rfl rfl (by decide +kernel) ⟨Nat.le_of_ble_eq_true rfl, Nat.le_of_ble_eq_true rfl⟩) (wd_preS hw) rfl rfl hl.1 rfl (lv_room (Nat.le_of_ble_eq_true rfl)) dX7_ifPlayed_9 ⟨Nat.zero_le _, Nat.zero_le _⟩) hw (fun H locs hw => ?_)
      refine lv_if_eq (tgt := 19) hx hb dX7_ifPlayed_12 (by decide) (fun c13 => ?_) (fun c13 => ?_)
      · have hg := it_pos hg c13
        exact B19 _ _ _ _ _ hg hw (lv_sub hl [0, 1, 2] rfl)
      · have hg := it_neg hg c13
        refine lv_iconst (v := (0 : Int32)) hx hb dX7_ifPlayed_15 (by decide) ?_
        refine lv_goto (tgt := 20) hx hb dX7_ifPlayed_16 (by decide) ?_
        exact B20 _ _ _ _ _ _ hg hw (lv_sub hl [0, 1, 2] rfl)
  exact B0 S0 _ _ _ hg hw hl
theorem hi_X7_lively_X7 : ∀ w ∈ wsX70, w ∈ wsX7_lively := fun _ h => List.mem_cons_of_mem _ (List.mem_append_right _ (h))
abbrev rm_X7_lively : Room := { frames := 2, cells := 0, slots := 0, locals := 41 }
set_option maxHeartbeats 4000000 in
set_option maxRecDepth 100000 in
theorem c_X7_lively (l : Launch) (D : va_G) (C : C3) (N : Nat) (S0 : Hp) (z : Nat) (a0 : Nat) (r : Int32) (S9 : Hp) (hg : f_X7_lively N S0 a0 = some (r, S9)) : MetI l yX7_lively wsX7_lively rm_X7_lively D C S0 z [.ref a0] r S9 z 0 0 := by
  refine mw_ofW (cc := cX7_lively) (maxL := 3) (ret := (some .int)) (lv := [(0, .ref a0)]) (by decide) rfl (Nat.le_of_ble_eq_true rfl) rfl ?_
  intro p e s m below meth c ls hx hb hr hts hown hlk hml hnm hl hw
  have hown : s.vm.findClass RX7 = some m.cls := hown
  have B4 : ∀ (K4 : Hp → Int32 → Int32 → Option (Int32 × Hp)) (hK4 : ∀ (S : Hp) (v1 : Int32) (v2 : Int32) (H : Heap) (locs : List Loc) (ls : Array Slot), K4 S v1 v2 = some (r, S9) → Wd D C (va_A (wP C S0) z) s.heap S z H locs s → lv_has ls 3 [(0, .ref a0), (1, .int v1), (2, .int v2)] → W p l e rm_X7_lively s m ([.ref a0] : List Value).toArray below meth c H locs 0 0 (MQ below (QiW D C S0 z r S9 z) ([.ref a0] : List Value).toArray s 0 0 (va_A (wP C S0) z)) (F0 m 4 ls [])) (S : Hp) (v1 : Int32) (v2 : Int32) (H : Heap) (locs : List Loc) (ls : Array Slot), f_X7_lively_b4 N a0 K4 S v1 v2 = some (r, S9) → Wd D C (va_A (wP C S0) z) s.heap S z H locs s → lv_has ls 3 [(0, .ref a0), (1, .int v1), (2, .int v2)] → W p l e rm_X7_lively s m ([.ref a0] : List Value).toArray below meth c H locs 0 0 (MQ below (QiW D C S0 z r S9 z) ([.ref a0] : List Value).toArray s 0 0 (va_A (wP C S0) z)) (F0 m 4 ls []) := by
    intro K4 hK4 S v1 v2 H locs ls hg hw hl
    unfold f_X7_lively_b4 at hg
    refine lv_iload_n hx hb dX7_lively_4 rfl (lv_at hl 2 rfl) ?_
    refine lv_aload_n hx hb dX7_lively_5 rfl (lv_at hl 0 rfl) ?_
    obtain ⟨hok10, hg⟩ := gd_some hg
    obtain ⟨r11, hr11, hg⟩ := nn_some hg
    refine wr_get (K := RX7) (T := TX7) (N := 20) (index := 7) (ref := "MakerLinesModel") (v := .ref r11) hx hb hts hi_X7_lively_X7 hown hw hok10 (wF_7 (S := S) hok10.2) rfl 0 (by decide) (hts _ (List.mem_of_getElem? (i := 1) rfl)) (fun _ h9 => h9) (congrArg (fun o => some (va_rf o)) hr11) dX7_lively_6 ?_
    refine lv_iconst (v := (2 : Int32)) hx hb dX7_lively_9 (by decide) ?_
    obtain ⟨hok12, hg⟩ := gd_some hg
    obtain ⟨hin13, hg⟩ := gd_some hg
    refine wr_iald hx hb hw hok12 (inb_vp hin13) dX7_lively_10 ?_
    refine lv_icmp_ge (tgt := 36) hx hb dX7_lively_11 (by decide) (fun c14 => ?_) (fun c14 => ?_)
    · have hg := it_pos hg c14
      refine lv_iload_n hx hb dX7_lively_36 rfl (lv_at hl 1 rfl) ?_
      cases hg
      exact wr_iret hx hb hr hw dX7_lively_37 hlk
    · have hg := it_neg hg c14
      refine lv_iload_n hx hb dX7_lively_14 rfl (lv_at hl 1 rfl) ?_
      refine lv_aload_n hx hb dX7_lively_15 rfl (lv_at hl 0 rfl) ?_
      refine lv_iload_n hx hb dX7_lively_16 rfl (lv_at hl 2 rfl) ?_
      obtain ⟨r15, S15, hc15, hg⟩ := cl_some hg
      refine wr_ci (va_runV (As := [.int v2]) (rest := [.int v1]) ⟨hx, hb, hml, hown, hts⟩ (c_X7_isDead l D C N S z a0 v2 r15 S15 hc15) (cwV 1 hts gX7_lively_X7_isDead rfl rfl rfl (by decide +kernel) ⟨Nat.le_of_ble_eq_true rfl, Nat.le_of_ble_eq_true rfl⟩) (wd_preV hw hok10 (wF_7 (S := S) hok10.2) rfl) rfl rfl hl.1 rfl (lv_room (Nat.le_of_ble_eq_true rfl)) dX7_lively_17 ⟨Nat.zero_le _, Nat.zero_le _⟩) hw (fun H locs hw => ?_)
      refine lv_if_eq (tgt := 27) hx hb dX7_lively_20 (by decide) (fun c16 => ?_) (fun c16 => ?_)
      · have hg := it_pos hg c16
        refine lv_iconst (v := (1 : Int32)) hx hb dX7_lively_27 (by decide) ?_
        refine lv_iadd hx hb dX7_lively_28 ?_
        refine lv_istore_n (lv' := [(1, .int (v1 + (1 : Int32))), (0, .ref a0), (2, .int v2)]) hx hb dX7_lively_29 rfl hl (by decide) rfl (fun ls hl => ?_)
        refine lv_iinc (v := (v2 + (1 : Int32))) (lv' := [(2, .int (v2 + (1 : Int32))), (1, .int (v1 + (1 : Int32))), (0, .ref a0)]) hx hb dX7_lively_30 hl (k := 2) rfl rfl (by decide) rfl (fun ls hl => ?_)
        refine lv_goto (tgt := 4) hx hb dX7_lively_33 (by decide) ?_
        exact hK4 _ _ _ _ _ _ hg hw (lv_sub hl [2, 1, 0] rfl)
      · have hg := it_neg hg c16
        refine lv_iconst (v := (0 : Int32)) hx hb dX7_lively_23 (by decide) ?_
        refine lv_goto (tgt := 28) hx hb dX7_lively_24 (by decide) ?_
        refine lv_iadd hx hb dX7_lively_28 ?_
        refine lv_istore_n (lv' := [(1, .int (v1 + (0 : Int32))), (0, .ref a0), (2, .int v2)]) hx hb dX7_lively_29 rfl hl (by decide) rfl (fun ls hl => ?_)
        refine lv_iinc (v := (v2 + (1 : Int32))) (lv' := [(2, .int (v2 + (1 : Int32))), (1, .int (v1 + (0 : Int32))), (0, .ref a0)]) hx hb dX7_lively_30 hl (k := 2) rfl rfl (by decide) rfl (fun ls hl => ?_)
        refine lv_goto (tgt := 4) hx hb dX7_lively_33 (by decide) ?_
        exact hK4 _ _ _ _ _ _ hg hw (lv_sub hl [2, 1, 0] rfl)
  have L4 : ∀ (k : Nat) (S : Hp) (v1 : Int32) (v2 : Int32) (H : Heap) (locs : List Loc) (ls : Array Slot), f_X7_lively_l4 N a0 k S v1 v2 = some (r, S9) → Wd D C (va_A (wP C S0) z) s.heap S z H locs s → lv_has ls 3 [(0, .ref a0), (1, .int v1), (2, .int v2)] → W p l e rm_X7_lively s m ([.ref a0] : List Value).toArray below meth c H locs 0 0 (MQ below (QiW D C S0 z r S9 z) ([.ref a0] : List Value).toArray s 0 0 (va_A (wP C S0) z)) (F0 m 4 ls []) := by
    intro k
    induction k with
    | zero => intro S v1 v2 H locs ls hg hw hl; exact absurd (show (none : Option (Int32 × Hp)) = some (r, S9) from hg) (by simp)
    | succ k ih => intro S v1 v2 H locs ls hg hw hl; exact B4 (f_X7_lively_l4 N a0 k) ih S v1 v2 H locs ls hg hw hl
  have B0 : ∀ (S : Hp) (H : Heap) (locs : List Loc) (ls : Array Slot), f_X7_lively N S a0 = some (r, S9) → Wd D C (va_A (wP C S0) z) s.heap S z H locs s → lv_has ls 3 [(0, .ref a0)] → W p l e rm_X7_lively s m ([.ref a0] : List Value).toArray below meth c H locs 0 0 (MQ below (QiW D C S0 z r S9 z) ([.ref a0] : List Value).toArray s 0 0 (va_A (wP C S0) z)) (F0 m 0 ls []) := by
    intro S H locs ls hg hw hl
    unfold f_X7_lively at hg
    refine lv_iconst (v := (0 : Int32)) hx hb dX7_lively_0 (by decide) ?_
    refine lv_istore_n (lv' := [(1, .int (0 : Int32)), (0, .ref a0)]) hx hb dX7_lively_1 rfl hl (by decide) rfl (fun ls hl => ?_)
    refine lv_iconst (v := (0 : Int32)) hx hb dX7_lively_2 (by decide) ?_
    refine lv_istore_n (lv' := [(2, .int (0 : Int32)), (1, .int (0 : Int32)), (0, .ref a0)]) hx hb dX7_lively_3 rfl hl (by decide) rfl (fun ls hl => ?_)
    exact L4 N _ _ _ _ _ _ hg hw (lv_sub hl [2, 1, 0] rfl)
  exact B0 S0 _ _ _ hg hw hl
theorem hi_X7_counted_X7 : ∀ w ∈ wsX70, w ∈ wsX7_counted := fun _ h => List.mem_cons_of_mem _ (List.mem_append_right _ (h))
abbrev rm_X7_counted : Room := { frames := 7, cells := 0, slots := 0, locals := 150 }
set_option maxHeartbeats 4000000 in
set_option maxRecDepth 100000 in
theorem c_X7_counted (l : Launch) (D : va_G) (C : C3) (N : Nat) (S0 : Hp) (z : Nat) (a0 : Nat) (x1 : Int32) (r : Int32) (S9 : Hp) (hg : f_X7_counted N S0 a0 x1 = some (r, S9)) : MetI l yX7_counted wsX7_counted rm_X7_counted D C S0 z [.ref a0, .int x1] r S9 z 0 0 := by
  refine mw_ofW (cc := cX7_counted) (maxL := 2) (ret := (some .int)) (lv := [(0, .ref a0), (1, .int x1)]) (by decide) rfl (Nat.le_of_ble_eq_true rfl) rfl ?_
  intro p e s m below meth c ls hx hb hr hts hown hlk hml hnm hl hw
  have hown : s.vm.findClass RX7 = some m.cls := hown
  have B143 : ∀ (S : Hp) (H : Heap) (locs : List Loc) (ls : Array Slot), f_X7_counted_b143 N a0 x1 S = some (r, S9) → Wd D C (va_A (wP C S0) z) s.heap S z H locs s → lv_has ls 2 [(0, .ref a0), (1, .int x1)] → W p l e rm_X7_counted s m ([.ref a0, .int x1] : List Value).toArray below meth c H locs 0 0 (MQ below (QiW D C S0 z r S9 z) ([.ref a0, .int x1] : List Value).toArray s 0 0 (va_A (wP C S0) z)) (F0 m 143 ls []) := by
    intro S H locs ls hg hw hl
    unfold f_X7_counted_b143 at hg
    refine lv_aload_n hx hb dX7_counted_143 rfl (lv_at hl 0 rfl) ?_
    obtain ⟨hok64, hg⟩ := gd_some hg
    obtain ⟨r65, hr65, hg⟩ := nn_some hg
    refine wr_get (K := RX7) (T := TX7) (N := 20) (index := 7) (ref := "MakerLinesModel") (v := .ref r65) hx hb hts hi_X7_counted_X7 hown hw hok64 (wF_7 (S := S) hok64.2) rfl 0 (by decide) (hts _ (List.mem_of_getElem? (i := 1) rfl)) (fun _ h9 => h9) (congrArg (fun o => some (va_rf o)) hr65) dX7_counted_144 ?_
    refine lv_bipush (v := (7 : Int32)) hx hb dX7_counted_147 (by decide) ?_
    refine lv_iload_n hx hb dX7_counted_149 rfl (lv_at hl 1 rfl) ?_
    refine lv_iadd hx hb dX7_counted_150 ?_
    refine lv_bipush (v := (10 : Int32)) hx hb dX7_counted_151 (by decide) ?_
    refine lv_isub hx hb dX7_counted_153 ?_
    obtain ⟨hok66, hg⟩ := gd_some hg
    obtain ⟨hin67, hg⟩ := gd_some hg
    refine wr_iald hx hb hw hok66 (inb_vp hin67) dX7_counted_154 ?_
    cases hg
    exact wr_iret hx hb hr hw dX7_counted_155 hlk
  have B0 : ∀ (S : Hp) (H : Heap) (locs : List Loc) (ls : Array Slot), f_X7_counted N S a0 x1 = some (r, S9) → Wd D C (va_A (wP C S0) z) s.heap S z H locs s → lv_has ls 2 [(0, .ref a0), (1, .int x1)] → W p l e rm_X7_counted s m ([.ref a0, .int x1] : List Value).toArray below meth c H locs 0 0 (MQ below (QiW D C S0 z r S9 z) ([.ref a0, .int x1] : List Value).toArray s 0 0 (va_A (wP C S0) z)) (F0 m 0 ls []) := by
    intro S H locs ls hg hw hl
    unfold f_X7_counted at hg
    refine lv_iload_n hx hb dX7_counted_0 rfl (lv_at hl 1 rfl) ?_
    by_cases c14 : x1 = 0
    · have hg := it_pos hg c14
      refine lv_tableIn (tgt := 76) hx hb dX7_counted_1 (by rw [c14]; decide) (by rw [c14]; decide) (off := 75) (by rw [c14]; rfl) (by decide) ?_
      refine lv_aload_n hx hb dX7_counted_76 rfl (lv_at hl 0 rfl) ?_
      obtain ⟨hok10, hg⟩ := gd_some hg
      obtain ⟨r11, hr11, hg⟩ := nn_some hg
      refine wr_get (K := RX7) (T := TX7) (N := 20) (index := 7) (ref := "MakerLinesModel") (v := .ref r11) hx hb hts hi_X7_counted_X7 hown hw hok10 (wF_7 (S := S) hok10.2) rfl 0 (by decide) (hts _ (List.mem_of_getElem? (i := 1) rfl)) (fun _ h9 => h9) (congrArg (fun o => some (va_rf o)) hr11) dX7_counted_77 ?_
      refine lv_iconst (v := (0 : Int32)) hx hb dX7_counted_80 (by decide) ?_
      obtain ⟨hok12, hg⟩ := gd_some hg
      obtain ⟨hin13, hg⟩ := gd_some hg
      refine wr_iald hx hb hw hok12 (inb_vp hin13) dX7_counted_81 ?_
      cases hg
      exact wr_iret hx hb hr hw dX7_counted_82 hlk
    · have hg := it_neg hg c14
      by_cases c19 : x1 = 1
      · have hg := it_pos hg c19
        refine lv_tableIn (tgt := 83) hx hb dX7_counted_1 (by rw [c19]; decide) (by rw [c19]; decide) (off := 82) (by rw [c19]; rfl) (by decide) ?_
        refine lv_aload_n hx hb dX7_counted_83 rfl (lv_at hl 0 rfl) ?_
        obtain ⟨hok15, hg⟩ := gd_some hg
        obtain ⟨r16, hr16, hg⟩ := nn_some hg
        refine wr_get (K := RX7) (T := TX7) (N := 20) (index := 7) (ref := "MakerLinesModel") (v := .ref r16) hx hb hts hi_X7_counted_X7 hown hw hok15 (wF_7 (S := S) hok15.2) rfl 0 (by decide) (hts _ (List.mem_of_getElem? (i := 1) rfl)) (fun _ h9 => h9) (congrArg (fun o => some (va_rf o)) hr16) dX7_counted_84 ?_
        refine lv_iconst (v := (2 : Int32)) hx hb dX7_counted_87 (by decide) ?_
        obtain ⟨hok17, hg⟩ := gd_some hg
        obtain ⟨hin18, hg⟩ := gd_some hg
        refine wr_iald hx hb hw hok17 (inb_vp hin18) dX7_counted_88 ?_
        cases hg
        exact wr_iret hx hb hr hw dX7_counted_89 hlk
      · have hg := it_neg hg c19
        by_cases c22 : x1 = 2
        · have hg := it_pos hg c22
          refine lv_tableIn (tgt := 90) hx hb dX7_counted_1 (by rw [c22]; decide) (by rw [c22]; decide) (off := 89) (by rw [c22]; rfl) (by decide) ?_
          refine lv_aload_n hx hb dX7_counted_90 rfl (lv_at hl 0 rfl) ?_
          obtain ⟨hok20, hg⟩ := gd_some hg
          obtain ⟨r21, S21, hc21, hg⟩ := cl_some hg
          refine wr_ci (va_runV (As := []) (rest := []) ⟨hx, hb, hml, hown, hts⟩ (c_X7_lively l D C N S z a0 r21 S21 hc21) (cwV 0 hts gX7_counted_X7_lively rfl rfl rfl (by decide +kernel) ⟨Nat.le_of_ble_eq_true rfl, Nat.le_of_ble_eq_true rfl⟩) (wd_preV hw hok20 (wF_7 (S := S) hok20.2) rfl) rfl rfl hl.1 rfl (lv_room (Nat.le_of_ble_eq_true rfl)) dX7_counted_91 ⟨Nat.zero_le _, Nat.zero_le _⟩) hw (fun H locs hw => ?_)
          cases hg
          exact wr_iret hx hb hr hw dX7_counted_94 hlk
        · have hg := it_neg hg c22
          by_cases c25 : x1 = 3
          · have hg := it_pos hg c25
            refine lv_tableIn (tgt := 95) hx hb dX7_counted_1 (by rw [c25]; decide) (by rw [c25]; decide) (off := 94) (by rw [c25]; rfl) (by decide) ?_
            refine lv_aload_n hx hb dX7_counted_95 rfl (lv_at hl 0 rfl) ?_
            obtain ⟨hok23, hg⟩ := gd_some hg
            obtain ⟨r24, S24, hc24, hg⟩ := cl_some hg
            refine wr_ci (va_runV (As := []) (rest := []) ⟨hx, hb, hml, hown, hts⟩ (c_X7_weight l D C N S z a0 r24 S24 hc24) (cwV 0 hts gX7_counted_X7_weight rfl rfl rfl (by decide +kernel) ⟨Nat.le_of_ble_eq_true rfl, Nat.le_of_ble_eq_true rfl⟩) (wd_preV hw hok23 (wF_7 (S := S) hok23.2) rfl) rfl rfl hl.1 rfl (lv_room (Nat.le_of_ble_eq_true rfl)) dX7_counted_96 ⟨Nat.zero_le _, Nat.zero_le _⟩) hw (fun H locs hw => ?_)
            cases hg
            exact wr_iret hx hb hr hw dX7_counted_99 hlk
          · have hg := it_neg hg c25
            by_cases c33 : x1 = 4
            · have hg := it_pos hg c33
              refine lv_tableIn (tgt := 100) hx hb dX7_counted_1 (by rw [c33]; decide) (by rw [c33]; decide) (off := 99) (by rw [c33]; rfl) (by decide) ?_
              refine lv_aload_n hx hb dX7_counted_100 rfl (lv_at hl 0 rfl) ?_
              obtain ⟨hok26, hg⟩ := gd_some hg
              obtain ⟨r27, S27, hc27, hg⟩ := cl_some hg
              refine wr_ci (va_runV (As := []) (rest := []) ⟨hx, hb, hml, hown, hts⟩ (c_X7_winnerNow l D C N S z a0 r27 S27 hc27) (cwV 0 hts gX7_counted_X7_winnerNow rfl rfl rfl (by decide +kernel) ⟨Nat.le_of_ble_eq_true rfl, Nat.le_of_ble_eq_true rfl⟩) (wd_preV hw hok26 (wF_7 (S := S) hok26.2) rfl) rfl rfl hl.1 rfl (lv_room (Nat.le_of_ble_eq_true rfl)) dX7_counted_101 ⟨Nat.zero_le _, Nat.zero_le _⟩) hw (fun H locs hw => ?_)
              refine lv_if_ne (tgt := 116) hx hb dX7_counted_104 (by decide) (fun c28 => ?_) (fun c28 => ?_)
              · have hg := it_neg hg c28
                refine lv_iconst (v := (0 : Int32)) hx hb dX7_counted_116 (by decide) ?_
                cases hg
                exact wr_iret hx hb hr hw dX7_counted_117 hlk
              · have hg := it_pos hg c28
                refine lv_aload_n hx hb dX7_counted_107 rfl (lv_at hl 0 rfl) ?_
                obtain ⟨hok29, hg⟩ := gd_some hg
                obtain ⟨r30, hr30, hg⟩ := nn_some hg
                refine wr_get (K := RX7) (T := TX7) (N := 20) (index := 7) (ref := "MakerLinesModel") (v := .ref r30) hx hb hts hi_X7_counted_X7 hown hw hok29 (wF_7 (S := S27) hok29.2) rfl 0 (by decide) (hts _ (List.mem_of_getElem? (i := 1) rfl)) (fun _ h9 => h9) (congrArg (fun o => some (va_rf o)) hr30) dX7_counted_108 ?_
                refine lv_iconst (v := (1 : Int32)) hx hb dX7_counted_111 (by decide) ?_
                obtain ⟨hok31, hg⟩ := gd_some hg
                obtain ⟨hin32, hg⟩ := gd_some hg
                refine wr_iald hx hb hw hok31 (inb_vp hin32) dX7_counted_112 ?_
                refine lv_goto (tgt := 117) hx hb dX7_counted_113 (by decide) ?_
                cases hg
                exact wr_iret hx hb hr hw dX7_counted_117 hlk
            · have hg := it_neg hg c33
              by_cases c36 : x1 = 5
              · have hg := it_pos hg c36
                refine lv_tableIn (tgt := 118) hx hb dX7_counted_1 (by rw [c36]; decide) (by rw [c36]; decide) (off := 117) (by rw [c36]; rfl) (by decide) ?_
                refine lv_aload_n hx hb dX7_counted_118 rfl (lv_at hl 0 rfl) ?_
                obtain ⟨hok34, hg⟩ := gd_some hg
                obtain ⟨r35, S35, hc35, hg⟩ := cl_some hg
                refine wr_ci (va_runV (As := []) (rest := []) ⟨hx, hb, hml, hown, hts⟩ (c_X7_winnerNow l D C N S z a0 r35 S35 hc35) (cwV 0 hts gX7_counted_X7_winnerNow rfl rfl rfl (by decide +kernel) ⟨Nat.le_of_ble_eq_true rfl, Nat.le_of_ble_eq_true rfl⟩) (wd_preV hw hok34 (wF_7 (S := S) hok34.2) rfl) rfl rfl hl.1 rfl (lv_room (Nat.le_of_ble_eq_true rfl)) dX7_counted_119 ⟨Nat.zero_le _, Nat.zero_le _⟩) hw (fun H locs hw => ?_)
                cases hg
                exact wr_iret hx hb hr hw dX7_counted_122 hlk
              · have hg := it_neg hg c36
                by_cases c39 : x1 = 6
                · have hg := it_pos hg c39
                  refine lv_tableIn (tgt := 123) hx hb dX7_counted_1 (by rw [c39]; decide) (by rw [c39]; decide) (off := 122) (by rw [c39]; rfl) (by decide) ?_
                  refine lv_aload_n hx hb dX7_counted_123 rfl (lv_at hl 0 rfl) ?_
                  obtain ⟨hok37, hg⟩ := gd_some hg
                  obtain ⟨r38, S38, hc38, hg⟩ := cl_some hg
                  refine wr_ci (va_runV (As := []) (rest := []) ⟨hx, hb, hml, hown, hts⟩ (c_X7_threats l D C N S z a0 r38 S38 hc38) (cwV 0 hts gX7_counted_X7_threats rfl rfl rfl (by decide +kernel) ⟨Nat.le_of_ble_eq_true rfl, Nat.le_of_ble_eq_true rfl⟩) (wd_preV hw hok37 (wF_7 (S := S) hok37.2) rfl) rfl rfl hl.1 rfl (lv_room (Nat.le_of_ble_eq_true rfl)) dX7_counted_124 ⟨Nat.zero_le _, Nat.zero_le _⟩) hw (fun H locs hw => ?_)
                  cases hg
                  exact wr_iret hx hb hr hw dX7_counted_127 hlk
                · have hg := it_neg hg c39
                  by_cases c42 : x1 = 7
                  · have hg := it_pos hg c42
                    refine lv_tableIn (tgt := 128) hx hb dX7_counted_1 (by rw [c42]; decide) (by rw [c42]; decide) (off := 127) (by rw [c42]; rfl) (by decide) ?_
                    refine lv_aload_n hx hb dX7_counted_128 rfl (lv_at hl 0 rfl) ?_
                    obtain ⟨hok40, hg⟩ := gd_some hg
                    obtain ⟨r41, S41, hc41, hg⟩ := cl_some hg
                    refine wr_ci (va_runV (As := []) (rest := []) ⟨hx, hb, hml, hown, hts⟩ (c_X7_forced l D C N S z a0 r41 S41 hc41) (cwV 0 hts gX7_counted_X7_forced rfl rfl rfl (by decide +kernel) ⟨Nat.le_of_ble_eq_true rfl, Nat.le_of_ble_eq_true rfl⟩) (wd_preV hw hok40 (wF_7 (S := S) hok40.2) rfl) rfl rfl hl.1 rfl (lv_room (Nat.le_of_ble_eq_true rfl)) dX7_counted_129 ⟨Nat.zero_le _, Nat.zero_le _⟩) hw (fun H locs hw => ?_)
                    cases hg
                    exact wr_iret hx hb hr hw dX7_counted_132 hlk
                  · have hg := it_neg hg c42
                    by_cases c45 : x1 = 8
                    · have hg := it_pos hg c45
                      refine lv_tableIn (tgt := 133) hx hb dX7_counted_1 (by rw [c45]; decide) (by rw [c45]; decide) (off := 132) (by rw [c45]; rfl) (by decide) ?_
                      refine lv_aload_n hx hb dX7_counted_133 rfl (lv_at hl 0 rfl) ?_
                      obtain ⟨hok43, hg⟩ := gd_some hg
                      obtain ⟨r44, S44, hc44, hg⟩ := cl_some hg
                      refine wr_ci (va_runV (As := []) (rest := []) ⟨hx, hb, hml, hown, hts⟩ (c_X7_pairs l D C N S z a0 r44 S44 hc44) (cwV 0 hts gX7_counted_X7_pairs rfl rfl rfl (by decide +kernel) ⟨Nat.le_of_ble_eq_true rfl, Nat.le_of_ble_eq_true rfl⟩) (wd_preV hw hok43 (wF_7 (S := S) hok43.2) rfl) rfl rfl hl.1 rfl (lv_room (Nat.le_of_ble_eq_true rfl)) dX7_counted_134 ⟨Nat.zero_le _, Nat.zero_le _⟩) hw (fun H locs hw => ?_)
                      cases hg
                      exact wr_iret hx hb hr hw dX7_counted_137 hlk
                    · have hg := it_neg hg c45
                      by_cases c48 : x1 = 9
                      · have hg := it_pos hg c48
                        refine lv_tableIn (tgt := 138) hx hb dX7_counted_1 (by rw [c48]; decide) (by rw [c48]; decide) (off := 137) (by rw [c48]; rfl) (by decide) ?_
                        refine lv_aload_n hx hb dX7_counted_138 rfl (lv_at hl 0 rfl) ?_
                        obtain ⟨hok46, hg⟩ := gd_some hg
                        obtain ⟨r47, S47, hc47, hg⟩ := cl_some hg
                        refine wr_ci (va_runV (As := []) (rest := []) ⟨hx, hb, hml, hown, hts⟩ (c_X7_free l D C N S z a0 r47 S47 hc47) (cwV 0 hts gX7_counted_X7_free rfl rfl rfl (by decide +kernel) ⟨Nat.le_of_ble_eq_true rfl, Nat.le_of_ble_eq_true rfl⟩) (wd_preV hw hok46 (wF_7 (S := S) hok46.2) rfl) rfl rfl hl.1 rfl (lv_room (Nat.le_of_ble_eq_true rfl)) dX7_counted_139 ⟨Nat.zero_le _, Nat.zero_le _⟩) hw (fun H locs hw => ?_)
                        cases hg
                        exact wr_iret hx hb hr hw dX7_counted_142 hlk
                      · have hg := it_neg hg c48
                        by_cases c49 : x1 = 10
                        · have hg := it_pos hg c49
                          refine lv_tableIn (tgt := 143) hx hb dX7_counted_1 (by rw [c49]; decide) (by rw [c49]; decide) (off := 142) (by rw [c49]; rfl) (by decide) ?_
                          exact B143 _ _ _ _ hg hw (lv_sub hl [0, 1] rfl)
                        · have hg := it_neg hg c49
                          by_cases c50 : x1 = 11
                          · have hg := it_pos hg c50
                            refine lv_tableIn (tgt := 143) hx hb dX7_counted_1 (by rw [c50]; decide) (by rw [c50]; decide) (off := 142) (by rw [c50]; rfl) (by decide) ?_
                            exact B143 _ _ _ _ hg hw (lv_sub hl [0, 1] rfl)
                          · have hg := it_neg hg c50
                            by_cases c51 : x1 = 12
                            · have hg := it_pos hg c51
                              refine lv_tableIn (tgt := 143) hx hb dX7_counted_1 (by rw [c51]; decide) (by rw [c51]; decide) (off := 142) (by rw [c51]; rfl) (by decide) ?_
                              exact B143 _ _ _ _ hg hw (lv_sub hl [0, 1] rfl)
                            · have hg := it_neg hg c51
                              by_cases c56 : x1 = 13
                              · have hg := it_pos hg c56
                                refine lv_tableIn (tgt := 156) hx hb dX7_counted_1 (by rw [c56]; decide) (by rw [c56]; decide) (off := 155) (by rw [c56]; rfl) (by decide) ?_
                                refine lv_aload_n hx hb dX7_counted_156 rfl (lv_at hl 0 rfl) ?_
                                obtain ⟨hok52, hg⟩ := gd_some hg
                                obtain ⟨r53, hr53, hg⟩ := nn_some hg
                                refine wr_get (K := RX7) (T := TX7) (N := 20) (index := 7) (ref := "MakerLinesModel") (v := .ref r53) hx hb hts hi_X7_counted_X7 hown hw hok52 (wF_7 (S := S) hok52.2) rfl 0 (by decide) (hts _ (List.mem_of_getElem? (i := 1) rfl)) (fun _ h9 => h9) (congrArg (fun o => some (va_rf o)) hr53) dX7_counted_157 ?_
                                refine lv_iconst (v := (5 : Int32)) hx hb dX7_counted_160 (by decide) ?_
                                obtain ⟨hok54, hg⟩ := gd_some hg
                                obtain ⟨hin55, hg⟩ := gd_some hg
                                refine wr_iald hx hb hw hok54 (inb_vp hin55) dX7_counted_161 ?_
                                cases hg
                                exact wr_iret hx hb hr hw dX7_counted_162 hlk
                              · have hg := it_neg hg c56
                                by_cases c62 : x1 = 14
                                · have hg := it_pos hg c62
                                  refine lv_tableIn (tgt := 163) hx hb dX7_counted_1 (by rw [c62]; decide) (by rw [c62]; decide) (off := 162) (by rw [c62]; rfl) (by decide) ?_
                                  refine lv_aload_n hx hb dX7_counted_163 rfl (lv_at hl 0 rfl) ?_
                                  obtain ⟨hok57, hg⟩ := gd_some hg
                                  obtain ⟨r58, hr58, hg⟩ := nn_some hg
                                  refine wr_get (K := RX7) (T := TX7) (N := 20) (index := 19) (ref := "MakerLinesModel") (v := .ref r58) hx hb hts hi_X7_counted_X7 hown hw hok57 (wF_7 (S := S) hok57.2) rfl 4 (by decide) (hts _ (List.mem_of_getElem? (i := 2) rfl)) (fun _ h9 => h9) (congrArg (fun o => some (va_rf o)) hr58) dX7_counted_164 ?_
                                  refine lv_iconst (v := (0 : Int32)) hx hb dX7_counted_167 (by decide) ?_
                                  obtain ⟨hok59, hg⟩ := gd_some hg
                                  obtain ⟨hin60, hg⟩ := gd_some hg
                                  refine wr_iald hx hb hw hok59 (inb_vp hin60) dX7_counted_168 ?_
                                  refine lv_aload_n hx hb dX7_counted_169 rfl (lv_at hl 0 rfl) ?_
                                  refine wr_get (K := RX7) (T := TX7) (N := 20) (index := 19) (ref := "MakerLinesModel") (v := .ref r58) hx hb hts hi_X7_counted_X7 hown hw hok57 (wF_7 (S := S) hok57.2) rfl 4 (by decide) (hts _ (List.mem_of_getElem? (i := 2) rfl)) (fun _ h9 => h9) (congrArg (fun o => some (va_rf o)) hr58) dX7_counted_170 ?_
                                  refine lv_iconst (v := (1 : Int32)) hx hb dX7_counted_173 (by decide) ?_
                                  obtain ⟨hin61, hg⟩ := gd_some hg
                                  refine wr_iald hx hb hw hok59 (inb_vp hin61) dX7_counted_174 ?_
                                  refine lv_iadd hx hb dX7_counted_175 ?_
                                  cases hg
                                  exact wr_iret hx hb hr hw dX7_counted_176 hlk
                                · have hg := it_neg hg c62
                                  refine lv_tableOut (tgt := 177) hx hb dX7_counted_1 (sw_out 14 (by decide) (fun j hj => ?_)) (by decide) ?_
                                  · rcases (show j = 0 ∨ j = 1 ∨ j = 2 ∨ j = 3 ∨ j = 4 ∨ j = 5 ∨ j = 6 ∨ j = 7 ∨ j = 8 ∨ j = 9 ∨ j = 10 ∨ j = 11 ∨ j = 12 ∨ j = 13 ∨ j = 14 by omega) with rfl | rfl | rfl | rfl | rfl | rfl | rfl | rfl | rfl | rfl | rfl | rfl | rfl | rfl | rfl
                                    · exact c14
                                    · exact c19
                                    · exact c22
                                    · exact c25
                                    · exact c33
                                    · exact c36
                                    · exact c39
                                    · exact c42
                                    · exact c45
                                    · exact c48
                                    · exact c49
                                    · exact c50
                                    · exact c51
                                    · exact c56
                                    · exact c62
                                  refine lv_aload_n hx hb dX7_counted_177 rfl (lv_at hl 0 rfl) ?_
                                  obtain ⟨hok63, hg⟩ := gd_some hg
                                  refine wr_get (K := RX7) (T := TX7) (N := 20) (index := 54) (ref := "MakerLinesModel") (v := .int (hI S a0 1)) hx hb hts hi_X7_counted_X7 hown hw hok63 (wF_7 (S := S) hok63.2) rfl 1 (by decide) (hts _ (List.mem_of_getElem? (i := 3) rfl)) (fun _ h9 => h9) rfl dX7_counted_178 ?_
                                  cases hg
                                  exact wr_iret hx hb hr hw dX7_counted_181 hlk
  exact B0 S0 _ _ _ hg hw hl
theorem hi_X7_count_X7 : ∀ w ∈ wsX70, w ∈ wsX7_count := fun _ h => List.mem_cons_of_mem _ (List.mem_append_right _ (h))
abbrev rm_X7_count : Room := { frames := 8, cells := 0, slots := 0, locals := 171 }
set_option maxHeartbeats 4000000 in
set_option maxRecDepth 100000 in
theorem c_X7_count (l : Launch) (D : va_G) (C : C3) (N : Nat) (S0 : Hp) (z : Nat) (a0 : Nat) (x1 : Int32) (r : Int32) (S9 : Hp) (hg : f_X7_count N S0 a0 x1 = some (r, S9)) : MetI l yX7_count wsX7_count rm_X7_count D C S0 z [.ref a0, .int x1] r S9 z 0 0 := by
  refine mw_ofW (cc := cX7_count) (maxL := 2) (ret := (some .int)) (lv := [(0, .ref a0), (1, .int x1)]) (by decide) rfl (Nat.le_of_ble_eq_true rfl) rfl ?_
  intro p e s m below meth c ls hx hb hr hts hown hlk hml hnm hl hw
  have hown : s.vm.findClass RX7 = some m.cls := hown
  have B16 : ∀ (S : Hp) (s0 : Int32) (s1 : Nat) (H : Heap) (locs : List Loc) (ls : Array Slot), f_X7_count_b16 N a0 x1 S s0 s1 = some (r, S9) → Wd D C (va_A (wP C S0) z) s.heap S z H locs s → lv_has ls 2 [(0, .ref a0), (1, .int x1)] → W p l e rm_X7_count s m ([.ref a0, .int x1] : List Value).toArray below meth c H locs 0 0 (MQ below (QiW D C S0 z r S9 z) ([.ref a0, .int x1] : List Value).toArray s 0 0 (va_A (wP C S0) z)) (F0 m 16 ls [.int s0, .ref s1]) := by
    intro S s0 s1 H locs ls hg hw hl
    unfold f_X7_count_b16 at hg
    obtain ⟨hok12, hg⟩ := gd_some hg
    refine wr_put (K := RX7) (T := TX7) (N := 20) (index := 50) (ref := "MakerLinesModel") (ty := (.int)) (S1 := (sI S s1 7 s0)) hx hb hts hi_X7_count_X7 tyX7 tyX7_ok nmX7 hown hw hok12 (wF_7 (S := S) hok12.2) rfl (fun b hb9 => wF_sI_ne hb9) 7 (wq_7_7 (S := S) hok12.2 _) rfl (by decide) (hts _ (List.mem_of_getElem? (i := 1) rfl)) (fun _ h9 => h9) rfl (by decide +kernel) rfl rfl (Nat.le_of_ble_eq_true rfl) dX7_count_16 (fun H locs hw => ?_)
    refine lv_aload_n hx hb dX7_count_19 rfl (lv_at hl 0 rfl) ?_
    obtain ⟨hok13, hg⟩ := gd_some hg
    refine wr_get (K := RX7) (T := TX7) (N := 20) (index := 50) (ref := "MakerLinesModel") (v := .int (hI ((sI S s1 7 s0)) a0 7)) hx hb hts hi_X7_count_X7 hown hw hok13 (wF_7 (S := (sI S s1 7 s0)) hok13.2) rfl 7 (by decide) (hts _ (List.mem_of_getElem? (i := 1) rfl)) (fun _ h9 => h9) rfl dX7_count_20 ?_
    refine lv_if_le (tgt := 30) hx hb dX7_count_23 (by decide) (fun c14 => ?_) (fun c14 => ?_)
    · have hg := it_pos hg c14
      refine lv_aload_n hx hb dX7_count_30 rfl (lv_at hl 0 rfl) ?_
      refine lv_iload_n hx hb dX7_count_31 rfl (lv_at hl 1 rfl) ?_
      obtain ⟨r15, S15, hc15, hg⟩ := cl_some hg
      refine wr_ci (va_runV (As := [.int x1]) (rest := []) ⟨hx, hb, hml, hown, hts⟩ (c_X7_counted l D C N ((sI S s1 7 s0)) z a0 x1 r15 S15 hc15) (cwV 1 hts gX7_count_X7_counted rfl rfl rfl (by decide +kernel) ⟨Nat.le_of_ble_eq_true rfl, Nat.le_of_ble_eq_true rfl⟩) (wd_preV hw hok13 (wF_7 (S := (sI S s1 7 s0)) hok13.2) rfl) rfl rfl hl.1 rfl (lv_room (Nat.le_of_ble_eq_true rfl)) dX7_count_32 ⟨Nat.zero_le _, Nat.zero_le _⟩) hw (fun H locs hw => ?_)
      cases hg
      exact wr_iret hx hb hr hw dX7_count_35 hlk
    · have hg := it_neg hg c14
      refine lv_iconst (v := (0 : Int32)) hx hb dX7_count_26 (by decide) ?_
      refine lv_goto (tgt := 35) hx hb dX7_count_27 (by decide) ?_
      cases hg
      exact wr_iret hx hb hr hw dX7_count_35 hlk
  have B0 : ∀ (S : Hp) (H : Heap) (locs : List Loc) (ls : Array Slot), f_X7_count N S a0 x1 = some (r, S9) → Wd D C (va_A (wP C S0) z) s.heap S z H locs s → lv_has ls 2 [(0, .ref a0), (1, .int x1)] → W p l e rm_X7_count s m ([.ref a0, .int x1] : List Value).toArray below meth c H locs 0 0 (MQ below (QiW D C S0 z r S9 z) ([.ref a0, .int x1] : List Value).toArray s 0 0 (va_A (wP C S0) z)) (F0 m 0 ls []) := by
    intro S H locs ls hg hw hl
    unfold f_X7_count at hg
    refine lv_aload_n hx hb dX7_count_0 rfl (lv_at hl 0 rfl) ?_
    refine lv_iload_n hx hb dX7_count_1 rfl (lv_at hl 1 rfl) ?_
    refine lv_iconst (v := (0 : Int32)) hx hb dX7_count_2 (by decide) ?_
    refine lv_bipush (v := (15 : Int32)) hx hb dX7_count_3 (by decide) ?_
    obtain ⟨r10, S10, hc10, hg⟩ := cl_some hg
    refine wr_ci (va_runS (As := [.int x1, .int (0 : Int32), .int (15 : Int32)]) (rest := [.ref a0]) ⟨hx, hb, hml, hown, hts⟩ (c_X7_within l D C N S z x1 ((0 : Int32)) ((15 : Int32)) r10 S10 hc10) (va_cwS 3 hts gX7_count_X7_within rfl rfl rfl (by decide +kernel) ⟨Nat.le_of_ble_eq_true rfl, Nat.le_of_ble_eq_true rfl⟩) (wd_preS hw) rfl rfl hl.1 rfl (lv_room (Nat.le_of_ble_eq_true rfl)) dX7_count_5 ⟨Nat.zero_le _, Nat.zero_le _⟩) hw (fun H locs hw => ?_)
    refine lv_if_eq (tgt := 15) hx hb dX7_count_8 (by decide) (fun c11 => ?_) (fun c11 => ?_)
    · have hg := it_pos hg c11
      refine lv_iconst (v := (1 : Int32)) hx hb dX7_count_15 (by decide) ?_
      exact B16 _ _ _ _ _ _ hg hw (lv_sub hl [0, 1] rfl)
    · have hg := it_neg hg c11
      refine lv_iconst (v := (0 : Int32)) hx hb dX7_count_11 (by decide) ?_
      refine lv_goto (tgt := 16) hx hb dX7_count_12 (by decide) ?_
      exact B16 _ _ _ _ _ _ hg hw (lv_sub hl [0, 1] rfl)
  exact B0 S0 _ _ _ hg hw hl
abbrev rm_X7_share : Room := { frames := 5, cells := 0, slots := 0, locals := 104 }
set_option maxHeartbeats 4000000 in
set_option maxRecDepth 100000 in
theorem c_X7_share (l : Launch) (D : va_G) (C : C3) (N : Nat) (S0 : Hp) (z : Nat) (a0 : Nat) (r : UInt64) (S9 : Hp) (hg : f_X7_share N S0 a0 = some (r, S9)) : MetF l yX7_share wsX7_share rm_X7_share D C S0 z [.ref a0] r S9 z 0 0 := by
  refine mw_ofW (cc := cX7_share) (maxL := 1) (ret := (some .double)) (lv := [(0, .ref a0)]) (by decide) rfl (Nat.le_of_ble_eq_true rfl) rfl ?_
  intro p e s m below meth c ls hx hb hr hts hown hlk hml hnm hl hw
  have hown : s.vm.findClass RX7 = some m.cls := hown
  have B0 : ∀ (S : Hp) (H : Heap) (locs : List Loc) (ls : Array Slot), f_X7_share N S a0 = some (r, S9) → Wd D C (va_A (wP C S0) z) s.heap S z H locs s → lv_has ls 1 [(0, .ref a0)] → W p l e rm_X7_share s m ([.ref a0] : List Value).toArray below meth c H locs 0 0 (MQ below (QdW D C S0 z r S9 z) ([.ref a0] : List Value).toArray s 0 0 (va_A (wP C S0) z)) (F0 m 0 ls []) := by
    intro S H locs ls hg hw hl
    unfold f_X7_share at hg
    refine lv_aload_n hx hb dX7_share_0 rfl (lv_at hl 0 rfl) ?_
    obtain ⟨hok10, hg⟩ := gd_some hg
    obtain ⟨r11, S11, hc11, hg⟩ := cl_some hg
    refine wr_ci (va_runV (As := []) (rest := []) ⟨hx, hb, hml, hown, hts⟩ (c_X7_weight l D C N S z a0 r11 S11 hc11) (cwV 0 hts gX7_share_X7_weight rfl rfl rfl (by decide +kernel) ⟨Nat.le_of_ble_eq_true rfl, Nat.le_of_ble_eq_true rfl⟩) (wd_preV hw hok10 (wF_7 (S := S) hok10.2) rfl) rfl rfl hl.1 rfl (lv_room (Nat.le_of_ble_eq_true rfl)) dX7_share_1 ⟨Nat.zero_le _, Nat.zero_le _⟩) hw (fun H locs hw => ?_)
    refine lv_i2d hx hb dX7_share_4 ?_
    refine lv_ldc2d (own := RX7) (index := 239) (v := (4652218415073722368 : UInt64)) hx hb hown (hts _ (List.mem_of_getElem? (i := 1) rfl)) dX7_share_5 ?_
    obtain ⟨hn12, hg⟩ := gd_some hg
    refine lv_ddiv hx hb dX7_share_8 hn12 ?_
    cases hg
    exact wr_dret hx hb hr hw dX7_share_9 hlk
  exact B0 S0 _ _ _ hg hw hl
theorem hi_X7_weightShare_X7 : ∀ w ∈ wsX70, w ∈ wsX7_weightShare := fun _ h => List.mem_cons_of_mem _ (List.mem_append_right _ (h))
abbrev rm_X7_weightShare : Room := { frames := 6, cells := 0, slots := 0, locals := 124 }
set_option maxHeartbeats 4000000 in
set_option maxRecDepth 100000 in
theorem c_X7_weightShare (l : Launch) (D : va_G) (C : C3) (N : Nat) (S0 : Hp) (z : Nat) (a0 : Nat) (r : UInt64) (S9 : Hp) (hg : f_X7_weightShare N S0 a0 = some (r, S9)) : MetF l yX7_weightShare wsX7_weightShare rm_X7_weightShare D C S0 z [.ref a0] r S9 z 0 0 := by
  refine mw_ofW (cc := cX7_weightShare) (maxL := 1) (ret := (some .double)) (lv := [(0, .ref a0)]) (by decide) rfl (Nat.le_of_ble_eq_true rfl) rfl ?_
  intro p e s m below meth c ls hx hb hr hts hown hlk hml hnm hl hw
  have hown : s.vm.findClass RX7 = some m.cls := hown
  have B0 : ∀ (S : Hp) (H : Heap) (locs : List Loc) (ls : Array Slot), f_X7_weightShare N S a0 = some (r, S9) → Wd D C (va_A (wP C S0) z) s.heap S z H locs s → lv_has ls 1 [(0, .ref a0)] → W p l e rm_X7_weightShare s m ([.ref a0] : List Value).toArray below meth c H locs 0 0 (MQ below (QdW D C S0 z r S9 z) ([.ref a0] : List Value).toArray s 0 0 (va_A (wP C S0) z)) (F0 m 0 ls []) := by
    intro S H locs ls hg hw hl
    unfold f_X7_weightShare at hg
    refine lv_aload_n hx hb dX7_weightShare_0 rfl (lv_at hl 0 rfl) ?_
    refine lv_iconst (v := (0 : Int32)) hx hb dX7_weightShare_1 (by decide) ?_
    obtain ⟨hok10, hg⟩ := gd_some hg
    refine wr_put (K := RX7) (T := TX7) (N := 20) (index := 50) (ref := "MakerLinesModel") (ty := (.int)) (S1 := (sI S a0 7 (0 : Int32))) hx hb hts hi_X7_weightShare_X7 tyX7 tyX7_ok nmX7 hown hw hok10 (wF_7 (S := S) hok10.2) rfl (fun b hb9 => wF_sI_ne hb9) 7 (wq_7_7 (S := S) hok10.2 _) rfl (by decide) (hts _ (List.mem_of_getElem? (i := 1) rfl)) (fun _ h9 => h9) rfl (by decide +kernel) rfl rfl (Nat.le_of_ble_eq_true rfl) dX7_weightShare_2 (fun H locs hw => ?_)
    refine lv_aload_n hx hb dX7_weightShare_5 rfl (lv_at hl 0 rfl) ?_
    obtain ⟨r11, S11, hc11, hg⟩ := cl_some hg
    refine wr_cd (va_runV (As := []) (rest := []) ⟨hx, hb, hml, hown, hts⟩ (c_X7_share l D C N ((sI S a0 7 (0 : Int32))) z a0 r11 S11 hc11) (cwV 0 hts gX7_weightShare_X7_share rfl rfl rfl (by decide +kernel) ⟨Nat.le_of_ble_eq_true rfl, Nat.le_of_ble_eq_true rfl⟩) (wd_preV hw hok10 (wF_7 (S := (sI S a0 7 (0 : Int32))) hok10.2) rfl) rfl rfl hl.1 rfl (lv_room (Nat.le_of_ble_eq_true rfl)) dX7_weightShare_6 ⟨Nat.zero_le _, Nat.zero_le _⟩) hw (fun H locs hw => ?_)
    cases hg
    exact wr_dret hx hb hr hw dX7_weightShare_9 hlk
  exact B0 S0 _ _ _ hg hw hl
