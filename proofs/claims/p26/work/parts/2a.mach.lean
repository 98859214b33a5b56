theorem hi_X0_init_X0 : ∀ w ∈ wsX00, w ∈ wsX0_init := fun _ h => List.mem_cons_of_mem _ (List.mem_append_right _ (h))
abbrev rm_X0_init : Room := { frames := 1, cells := 1, slots := 6, locals := 20 }
set_option maxHeartbeats 4000000 in
set_option maxRecDepth 100000 in
theorem c_X0_init (l : Launch) (D : va_G) (C : C3) (N : Nat) (S0 : Hp) (z0 : Nat) (a0 : Nat) (r : Unit) (S9 : Hp) (z9 : Nat) (hg : f_X0_init N S0 z0 a0 = some (r, S9, z9)) : MetV l yX0_init wsX0_init rm_X0_init D C S0 z0 [.ref a0] r S9 z9 1 6 := by
  refine mw_ofW (cc := cX0_init) (maxL := 1) (ret := none) (lv := [(0, .ref a0)]) (by decide) rfl (Nat.le_of_ble_eq_true rfl) rfl ?_
  intro p e s m below meth c ls hx hb hr hts hown hlk hml hnm hl hw
  have hown : s.vm.findClass RX0 = some m.cls := hown
  have B0 : ∀ (S : Hp) (z : Nat) (H : Heap) (locs : List Loc) (ls : Array Slot), f_X0_init N S z a0 = some (r, S9, z9) → Wd D C (va_A (wP C S0) z0) s.heap S z H locs s → lv_has ls 1 [(0, .ref a0)] → W p l e rm_X0_init s m ([.ref a0] : List Value).toArray below meth c H locs 0 0 (MQ below (QvW D C S0 z0 r S9 z9) ([.ref a0] : List Value).toArray s 1 6 (va_A (wP C S0) z0)) (F0 m 0 ls []) := by
    intro S z H locs ls hg hw hl
    unfold f_X0_init at hg
    refine lv_aload_n hx hb dX0_init_0 rfl (lv_at hl 0 rfl) ?_
    refine W.objInit hx hb hown (hts _ (List.mem_of_getElem? (i := 1) rfl)) (hts _ (List.mem_of_getElem? (i := 2) rfl)) (hts _ (List.mem_of_getElem? (i := 3) rfl)) rfl (by rw [hml]; exact hl.1) rfl dX0_init_1 (Nat.le_of_ble_eq_true rfl) (Nat.le_of_ble_eq_true rfl) ?_
    refine W.eq (g2 := F0 m 4 ls []) rfl ?_
    refine lv_aload_n hx hb dX0_init_4 rfl (lv_at hl 0 rfl) ?_
    refine lv_bipush (v := (6 : Int32)) hx hb dX0_init_5 (by decide) ?_
    refine wr_newQ (own := RX0) (index := 9) (N' := 6) hx hb hown (hts _ (List.mem_of_getElem? (i := 4) rfl)) hw (by decide) (by decide) (Nat.le_of_ble_eq_true rfl) (Nat.le_of_ble_eq_true rfl) (Nat.le_of_ble_eq_true rfl) dX0_init_7 (fun H hw => ?_)
    obtain ⟨hok11, hg⟩ := gd_some hg
    refine wr_putF (K := RX0) (T := TX0) (N := 2) (index := 11) (ref := "MakerLines$History") (ty := (.array (.object "MakerLines$State"))) (S1 := (sR (sNew S z 9 6) a0 0 (some z))) hx hb hts hi_X0_init_X0 tyX0 tyX0_ok nmX0 hown hw hok11 (wF_0 (S := (sNew S z 9 6)) hok11.2) rfl (fun b hb9 => wF_sR_ne hb9) 0 (wq_0_0 (S := (sNew S z 9 6)) hok11.2 _) rfl (by decide) (hts _ (List.mem_of_getElem? (i := 5) rfl)) (fun _ h9 => h9) rfl hnm rfl (by decide +kernel) rfl rfl (Nat.le_of_ble_eq_true rfl) dX0_init_10 (fun H locs hw => ?_)
    refine lv_aload_n hx hb dX0_init_13 rfl (lv_at hl 0 rfl) ?_
    refine lv_iconst (v := (0 : Int32)) hx hb dX0_init_14 (by decide) ?_
    refine wr_put (K := RX0) (T := TX0) (N := 2) (index := 17) (ref := "MakerLines$History") (ty := (.int)) (S1 := (sI (sR (sNew S z 9 6) a0 0 (some z)) a0 1 (0 : Int32))) hx hb hts hi_X0_init_X0 tyX0 tyX0_ok nmX0 hown hw hok11 (wF_0 (S := (sR (sNew S z 9 6) a0 0 (some z))) hok11.2) rfl (fun b hb9 => wF_sI_ne hb9) 1 (wq_0_1 (S := (sR (sNew S z 9 6) a0 0 (some z))) hok11.2 _) rfl (by decide) (hts _ (List.mem_of_getElem? (i := 6) rfl)) (fun _ h9 => h9) rfl (by decide +kernel) rfl rfl (Nat.le_of_ble_eq_true rfl) dX0_init_15 (fun H locs hw => ?_)
    obtain ⟨S12, hS12, hg⟩ := bd_some hg
    rw [← hS12] at hw
    have hok13 : ok S12 a0 0 := by rw [hS12]; exact hok11
    cases hg
    refine W.widen (k := 1) (n := 6) (Nat.le_of_ble_eq_true rfl) (Nat.le_of_ble_eq_true rfl) ?_
    exact wr_vret hx hb hr hw dX0_init_18 hlk
  exact B0 S0 z0 _ _ _ hg hw hl
theorem hi_X0_dropOldest_X0 : ∀ w ∈ wsX00, w ∈ wsX0_dropOldest := fun _ h => List.mem_cons_of_mem _ (List.mem_append_right _ (h))
abbrev rm_X0_dropOldest : Room := { frames := 0, cells := 0, slots := 0, locals := 0 }
set_option maxHeartbeats 4000000 in
set_option maxRecDepth 100000 in
theorem c_X0_dropOldest (l : Launch) (D : va_G) (C : C3) (N : Nat) (S0 : Hp) (z : Nat) (a0 : Nat) (r : Unit) (S9 : Hp) (hg : f_X0_dropOldest N S0 a0 = some (r, S9)) : MetV l yX0_dropOldest wsX0_dropOldest rm_X0_dropOldest D C S0 z [.ref a0] r S9 z 0 0 := by
  refine mw_ofW (cc := cX0_dropOldest) (maxL := 3) (ret := none) (lv := [(0, .ref a0)]) (by decide) rfl (Nat.le_of_ble_eq_true rfl) rfl ?_
  intro p e s m below meth c ls hx hb hr hts hown hlk hml hnm hl hw
  have hown : s.vm.findClass RX0 = some m.cls := hown
  have B17 : ∀ (K17 : Hp → Nat → Int32 → Option (Unit × Hp)) (hK17 : ∀ (S : Hp) (p1 : Nat) (v2 : Int32) (H : Heap) (locs : List Loc) (ls : Array Slot), K17 S p1 v2 = some (r, S9) → Wd D C (va_A (wP C S0) z) s.heap S z H locs s → lv_has ls 3 [(0, .ref a0), (1, .ref p1), (2, .int v2)] → W p l e rm_X0_dropOldest s m ([.ref a0] : List Value).toArray below meth c H locs 0 0 (MQ below (QvW D C S0 z r S9 z) ([.ref a0] : List Value).toArray s 0 0 (va_A (wP C S0) z)) (F0 m 17 ls [])) (S : Hp) (p1 : Nat) (v2 : Int32) (H : Heap) (locs : List Loc) (ls : Array Slot), f_X0_dropOldest_b17 N a0 K17 S p1 v2 = some (r, S9) → Wd D C (va_A (wP C S0) z) s.heap S z H locs s → lv_has ls 3 [(0, .ref a0), (1, .ref p1), (2, .int v2)] → W p l e rm_X0_dropOldest s m ([.ref a0] : List Value).toArray below meth c H locs 0 0 (MQ below (QvW D C S0 z r S9 z) ([.ref a0] : List Value).toArray s 0 0 (va_A (wP C S0) z)) (F0 m 17 ls []) := by
    intro K17 hK17 S p1 v2 H locs ls hg hw hl
    unfold f_X0_dropOldest_b17 at hg
    refine lv_iload_n hx hb dX0_dropOldest_17 rfl (lv_at hl 2 rfl) ?_
    refine lv_aload_n hx hb dX0_dropOldest_18 rfl (lv_at hl 0 rfl) ?_
    obtain ⟨hok16, hg⟩ := gd_some hg
    obtain ⟨r17, hr17, hg⟩ := nn_some hg
    refine wr_get (K := RX0) (T := TX0) (N := 2) (index := 11) (ref := "MakerLines$History") (v := .ref r17) hx hb hts hi_X0_dropOldest_X0 hown hw hok16 (wF_0 (S := S) hok16.2) rfl 0 (by decide) (hts _ (List.mem_of_getElem? (i := 1) rfl)) (fun _ h9 => h9) (congrArg (fun o => some (va_rf o)) hr17) dX0_dropOldest_19 ?_
    obtain ⟨hok18, hg⟩ := gd_some hg
    refine wr_alen9 hx hb hw hok18 dX0_dropOldest_22 ?_
    refine lv_icmp_ge (tgt := 46) hx hb dX0_dropOldest_23 (by decide) (fun c19 => ?_) (fun c19 => ?_)
    · have hg := it_pos hg c19
      refine lv_aload_n hx hb dX0_dropOldest_46 rfl (lv_at hl 0 rfl) ?_
      refine wr_get (K := RX0) (T := TX0) (N := 2) (index := 11) (ref := "MakerLines$History") (v := .ref r17) hx hb hts hi_X0_dropOldest_X0 hown hw hok16 (wF_0 (S := S) hok16.2) rfl 0 (by decide) (hts _ (List.mem_of_getElem? (i := 1) rfl)) (fun _ h9 => h9) (congrArg (fun o => some (va_rf o)) hr17) dX0_dropOldest_47 ?_
      refine lv_aload_n hx hb dX0_dropOldest_50 rfl (lv_at hl 0 rfl) ?_
      refine wr_get (K := RX0) (T := TX0) (N := 2) (index := 11) (ref := "MakerLines$History") (v := .ref r17) hx hb hts hi_X0_dropOldest_X0 hown hw hok16 (wF_0 (S := S) hok16.2) rfl 0 (by decide) (hts _ (List.mem_of_getElem? (i := 1) rfl)) (fun _ h9 => h9) (congrArg (fun o => some (va_rf o)) hr17) dX0_dropOldest_51 ?_
      refine wr_alen9 hx hb hw hok18 dX0_dropOldest_54 ?_
      refine lv_iconst (v := (1 : Int32)) hx hb dX0_dropOldest_55 (by decide) ?_
      refine lv_isub hx hb dX0_dropOldest_56 ?_
      refine lv_aload_n hx hb dX0_dropOldest_57 rfl (lv_at hl 1 rfl) ?_
      obtain ⟨hin20, hg⟩ := gd_some hg
      obtain ⟨hok21, hg⟩ := gd_some hg
      refine wr_aast hx hb hw hok18 hok21 (inb_vp hin20) dX0_dropOldest_58 (fun H locs hw => ?_)
      obtain ⟨S22, hS22, hg⟩ := bd_some hg
      rw [← hS22] at hw
      have hok23 : ok S22 a0 0 := by rw [hS22]; exact hok16
      have hok24 : ok S22 r17 9 := by rw [hS22]; exact hok18
      have hin25 : inb ((nI (hN S r17)) - (1 : Int32)) (hN S22 r17) := by rw [hS22]; exact hin20
      have hok26 : ok S22 p1 4 := by rw [hS22]; exact hok21
      refine lv_aload_n hx hb dX0_dropOldest_59 rfl (lv_at hl 0 rfl) ?_
      refine lv_aload_n hx hb dX0_dropOldest_60 rfl (lv_at hl 0 rfl) ?_
      obtain ⟨r27, hr27, hg⟩ := nn_some hg
      refine wr_get (K := RX0) (T := TX0) (N := 2) (index := 11) (ref := "MakerLines$History") (v := .ref r27) hx hb hts hi_X0_dropOldest_X0 hown hw hok23 (wF_0 (S := S22) hok23.2) rfl 0 (by decide) (hts _ (List.mem_of_getElem? (i := 1) rfl)) (fun _ h9 => h9) (congrArg (fun o => some (va_rf o)) hr27) dX0_dropOldest_61 ?_
      obtain ⟨hok28, hg⟩ := gd_some hg
      refine wr_alen9 hx hb hw hok28 dX0_dropOldest_64 ?_
      refine lv_iconst (v := (1 : Int32)) hx hb dX0_dropOldest_65 (by decide) ?_
      refine lv_isub hx hb dX0_dropOldest_66 ?_
      refine wr_put (K := RX0) (T := TX0) (N := 2) (index := 17) (ref := "MakerLines$History") (ty := (.int)) (S1 := (sI S22 a0 1 ((nI (hN S22 r27)) - (1 : Int32)))) hx hb hts hi_X0_dropOldest_X0 tyX0 tyX0_ok nmX0 hown hw hok23 (wF_0 (S := S22) hok23.2) rfl (fun b hb9 => wF_sI_ne hb9) 1 (wq_0_1 (S := S22) hok23.2 _) rfl (by decide) (hts _ (List.mem_of_getElem? (i := 2) rfl)) (fun _ h9 => h9) rfl (by decide +kernel) rfl rfl (Nat.le_of_ble_eq_true rfl) dX0_dropOldest_67 (fun H locs hw => ?_)
      obtain ⟨S29, hS29, hg⟩ := bd_some hg
      rw [← hS29] at hw
      have hok30 : ok S29 a0 0 := by rw [hS29]; exact hok23
      have hok31 : ok S29 r17 9 := by rw [hS29]; exact hok24
      have hin32 : inb ((nI (hN S r17)) - (1 : Int32)) (hN S29 r17) := by rw [hS29]; exact hin25
      have hok33 : ok S29 p1 4 := by rw [hS29]; exact hok26
      have hr34 : hR S29 a0 0 = some r27 := by rw [hS29]; exact hr27
      have hok35 : ok S29 r27 9 := by rw [hS29]; exact hok28
      cases hg
      exact wr_vret hx hb hr hw dX0_dropOldest_70 hlk
    · have hg := it_neg hg c19
      refine lv_aload_n hx hb dX0_dropOldest_26 rfl (lv_at hl 0 rfl) ?_
      refine wr_get (K := RX0) (T := TX0) (N := 2) (index := 11) (ref := "MakerLines$History") (v := .ref r17) hx hb hts hi_X0_dropOldest_X0 hown hw hok16 (wF_0 (S := S) hok16.2) rfl 0 (by decide) (hts _ (List.mem_of_getElem? (i := 1) rfl)) (fun _ h9 => h9) (congrArg (fun o => some (va_rf o)) hr17) dX0_dropOldest_27 ?_
      refine lv_iload_n hx hb dX0_dropOldest_30 rfl (lv_at hl 2 rfl) ?_
      refine lv_iconst (v := (1 : Int32)) hx hb dX0_dropOldest_31 (by decide) ?_
      refine lv_isub hx hb dX0_dropOldest_32 ?_
      refine lv_aload_n hx hb dX0_dropOldest_33 rfl (lv_at hl 0 rfl) ?_
      refine wr_get (K := RX0) (T := TX0) (N := 2) (index := 11) (ref := "MakerLines$History") (v := .ref r17) hx hb hts hi_X0_dropOldest_X0 hown hw hok16 (wF_0 (S := S) hok16.2) rfl 0 (by decide) (hts _ (List.mem_of_getElem? (i := 1) rfl)) (fun _ h9 => h9) (congrArg (fun o => some (va_rf o)) hr17) dX0_dropOldest_34 ?_
      refine lv_iload_n hx hb dX0_dropOldest_37 rfl (lv_at hl 2 rfl) ?_
      obtain ⟨hin36, hg⟩ := gd_some hg
      obtain ⟨r37, hr37, hg⟩ := nn_some hg
      refine wr_aald (v := .ref r37) hx hb hw hok18 (inb_vp hin36) (congrArg va_rf hr37) dX0_dropOldest_38 ?_
      obtain ⟨hin38, hg⟩ := gd_some hg
      obtain ⟨hok39, hg⟩ := gd_some hg
      refine wr_aast hx hb hw hok18 hok39 (inb_vp hin38) dX0_dropOldest_39 (fun H locs hw => ?_)
      obtain ⟨S40, hS40, hg⟩ := bd_some hg
      rw [← hS40] at hw
      have hok41 : ok S40 a0 0 := by rw [hS40]; exact hok16
      have hok42 : ok S40 r17 9 := by rw [hS40]; exact hok18
      have hin43 : inb v2 (hN S40 r17) := by rw [hS40]; exact hin36
      have hin44 : inb (v2 - (1 : Int32)) (hN S40 r17) := by rw [hS40]; exact hin38
      have hok45 : ok S40 r37 4 := by rw [hS40]; exact hok39
      refine lv_iinc (v := (v2 + (1 : Int32))) (lv' := [(2, .int (v2 + (1 : Int32))), (0, .ref a0), (1, .ref p1)]) hx hb dX0_dropOldest_40 hl (k := 2) rfl rfl (by decide) rfl (fun ls hl => ?_)
      refine lv_goto (tgt := 17) hx hb dX0_dropOldest_43 (by decide) ?_
      exact hK17 _ _ _ _ _ _ hg hw (lv_sub hl [1, 2, 0] rfl)
  have L17 : ∀ (k : Nat) (S : Hp) (p1 : Nat) (v2 : Int32) (H : Heap) (locs : List Loc) (ls : Array Slot), f_X0_dropOldest_l17 N a0 k S p1 v2 = some (r, S9) → Wd D C (va_A (wP C S0) z) s.heap S z H locs s → lv_has ls 3 [(0, .ref a0), (1, .ref p1), (2, .int v2)] → W p l e rm_X0_dropOldest s m ([.ref a0] : List Value).toArray below meth c H locs 0 0 (MQ below (QvW D C S0 z r S9 z) ([.ref a0] : List Value).toArray s 0 0 (va_A (wP C S0) z)) (F0 m 17 ls []) := by
    intro k
    induction k with
    | zero => intro S p1 v2 H locs ls hg hw hl; exact absurd (show (none : Option (Unit × Hp)) = some (r, S9) from hg) (by simp)
    | succ k ih => intro S p1 v2 H locs ls hg hw hl; exact B17 (f_X0_dropOldest_l17 N a0 k) ih S p1 v2 H locs ls hg hw hl
  have B0 : ∀ (S : Hp) (H : Heap) (locs : List Loc) (ls : Array Slot), f_X0_dropOldest N S a0 = some (r, S9) → Wd D C (va_A (wP C S0) z) s.heap S z H locs s → lv_has ls 3 [(0, .ref a0)] → W p l e rm_X0_dropOldest s m ([.ref a0] : List Value).toArray below meth c H locs 0 0 (MQ below (QvW D C S0 z r S9 z) ([.ref a0] : List Value).toArray s 0 0 (va_A (wP C S0) z)) (F0 m 0 ls []) := by
    intro S H locs ls hg hw hl
    unfold f_X0_dropOldest at hg
    refine lv_aload_n hx hb dX0_dropOldest_0 rfl (lv_at hl 0 rfl) ?_
    obtain ⟨hok10, hg⟩ := gd_some hg
    obtain ⟨r11, hr11, hg⟩ := nn_some hg
    refine wr_get (K := RX0) (T := TX0) (N := 2) (index := 11) (ref := "MakerLines$History") (v := .ref r11) hx hb hts hi_X0_dropOldest_X0 hown hw hok10 (wF_0 (S := S) hok10.2) rfl 0 (by decide) (hts _ (List.mem_of_getElem? (i := 1) rfl)) (fun _ h9 => h9) (congrArg (fun o => some (va_rf o)) hr11) dX0_dropOldest_1 ?_
    obtain ⟨hok12, hg⟩ := gd_some hg
    refine wr_alen9 hx hb hw hok12 dX0_dropOldest_4 ?_
    refine lv_if_le (tgt := 70) hx hb dX0_dropOldest_5 (by decide) (fun c13 => ?_) (fun c13 => ?_)
    · have hg := it_pos hg c13
      cases hg
      exact wr_vret hx hb hr hw dX0_dropOldest_70 hlk
    · have hg := it_neg hg c13
      refine lv_aload_n hx hb dX0_dropOldest_8 rfl (lv_at hl 0 rfl) ?_
      refine wr_get (K := RX0) (T := TX0) (N := 2) (index := 11) (ref := "MakerLines$History") (v := .ref r11) hx hb hts hi_X0_dropOldest_X0 hown hw hok10 (wF_0 (S := S) hok10.2) rfl 0 (by decide) (hts _ (List.mem_of_getElem? (i := 1) rfl)) (fun _ h9 => h9) (congrArg (fun o => some (va_rf o)) hr11) dX0_dropOldest_9 ?_
      refine lv_iconst (v := (0 : Int32)) hx hb dX0_dropOldest_12 (by decide) ?_
      obtain ⟨hin14, hg⟩ := gd_some hg
      obtain ⟨r15, hr15, hg⟩ := nn_some hg
      refine wr_aald (v := .ref r15) hx hb hw hok12 (inb_vp hin14) (congrArg va_rf hr15) dX0_dropOldest_13 ?_
      refine lv_astore_n (lv' := [(1, .ref r15), (0, .ref a0)]) hx hb dX0_dropOldest_14 rfl hl (by decide) rfl (fun ls hl => ?_)
      refine lv_iconst (v := (1 : Int32)) hx hb dX0_dropOldest_15 (by decide) ?_
      refine lv_istore_n (lv' := [(2, .int (1 : Int32)), (1, .ref r15), (0, .ref a0)]) hx hb dX0_dropOldest_16 rfl hl (by decide) rfl (fun ls hl => ?_)
      exact L17 N _ _ _ _ _ _ hg hw (lv_sub hl [2, 1, 0] rfl)
  exact B0 S0 _ _ _ hg hw hl
theorem hi_X1_init_X1 : ∀ w ∈ wsX10, w ∈ wsX1_init := fun _ h => List.mem_cons_of_mem _ (List.mem_append_right _ (h))
abbrev rm_X1_init : Room := { frames := 1, cells := 1, slots := 12, locals := 20 }
set_option maxHeartbeats 4000000 in
set_option maxRecDepth 100000 in
theorem c_X1_init (l : Launch) (D : va_G) (C : C3) (N : Nat) (S0 : Hp) (z0 : Nat) (a0 : Nat) (r : Unit) (S9 : Hp) (z9 : Nat) (hg : f_X1_init N S0 z0 a0 = some (r, S9, z9)) : MetV l yX1_init wsX1_init rm_X1_init D C S0 z0 [.ref a0] r S9 z9 1 12 := by
  refine mw_ofW (cc := cX1_init) (maxL := 1) (ret := none) (lv := [(0, .ref a0)]) (by decide) rfl (Nat.le_of_ble_eq_true rfl) rfl ?_
  intro p e s m below meth c ls hx hb hr hts hown hlk hml hnm hl hw
  have hown : s.vm.findClass RX1 = some m.cls := hown
  have B0 : ∀ (S : Hp) (z : Nat) (H : Heap) (locs : List Loc) (ls : Array Slot), f_X1_init N S z a0 = some (r, S9, z9) → Wd D C (va_A (wP C S0) z0) s.heap S z H locs s → lv_has ls 1 [(0, .ref a0)] → W p l e rm_X1_init s m ([.ref a0] : List Value).toArray below meth c H locs 0 0 (MQ below (QvW D C S0 z0 r S9 z9) ([.ref a0] : List Value).toArray s 1 12 (va_A (wP C S0) z0)) (F0 m 0 ls []) := by
    intro S z H locs ls hg hw hl
    unfold f_X1_init at hg
    refine lv_aload_n hx hb dX1_init_0 rfl (lv_at hl 0 rfl) ?_
    refine W.objInit hx hb hown (hts _ (List.mem_of_getElem? (i := 1) rfl)) (hts _ (List.mem_of_getElem? (i := 2) rfl)) (hts _ (List.mem_of_getElem? (i := 3) rfl)) rfl (by rw [hml]; exact hl.1) rfl dX1_init_1 (Nat.le_of_ble_eq_true rfl) (Nat.le_of_ble_eq_true rfl) ?_
    refine W.eq (g2 := F0 m 4 ls []) rfl ?_
    refine lv_aload_n hx hb dX1_init_4 rfl (lv_at hl 0 rfl) ?_
    refine lv_bipush (v := (12 : Int32)) hx hb dX1_init_5 (by decide) ?_
    refine wr_newI (N' := 12) hx hb (hts _ (List.mem_of_getElem? (i := 4) rfl)) hw (by decide) (by decide) (Nat.le_of_ble_eq_true rfl) (Nat.le_of_ble_eq_true rfl) (Nat.le_of_ble_eq_true rfl) dX1_init_7 (fun H hw => ?_)
    obtain ⟨hok11, hg⟩ := gd_some hg
    refine wr_putF (K := RX1) (T := TX1) (N := 6) (index := 9) (ref := "MakerLines$Lines") (ty := (.array .int)) (S1 := (sR (sNew S z 8 12) a0 0 (some z))) hx hb hts hi_X1_init_X1 tyX1 tyX1_ok nmX1 hown hw hok11 (wF_1 (S := (sNew S z 8 12)) hok11.2) rfl (fun b hb9 => wF_sR_ne hb9) 0 (wq_1_0 (S := (sNew S z 8 12)) hok11.2 _) rfl (by decide) (hts _ (List.mem_of_getElem? (i := 5) rfl)) (fun _ h9 => h9) rfl hnm rfl (by decide +kernel) rfl rfl (Nat.le_of_ble_eq_true rfl) dX1_init_9 (fun H locs hw => ?_)
    refine lv_aload_n hx hb dX1_init_12 rfl (lv_at hl 0 rfl) ?_
    refine lv_iconst (v := (0 : Int32)) hx hb dX1_init_13 (by decide) ?_
    refine wr_put (K := RX1) (T := TX1) (N := 6) (index := 15) (ref := "MakerLines$Lines") (ty := (.int)) (S1 := (sI (sR (sNew S z 8 12) a0 0 (some z)) a0 1 (0 : Int32))) hx hb hts hi_X1_init_X1 tyX1 tyX1_ok nmX1 hown hw hok11 (wF_1 (S := (sR (sNew S z 8 12) a0 0 (some z))) hok11.2) rfl (fun b hb9 => wF_sI_ne hb9) 1 (wq_1_1 (S := (sR (sNew S z 8 12) a0 0 (some z))) hok11.2 _) rfl (by decide) (hts _ (List.mem_of_getElem? (i := 6) rfl)) (fun _ h9 => h9) rfl (by decide +kernel) rfl rfl (Nat.le_of_ble_eq_true rfl) dX1_init_14 (fun H locs hw => ?_)
    obtain ⟨S12, hS12, hg⟩ := bd_some hg
    rw [← hS12] at hw
    have hok13 : ok S12 a0 1 := by rw [hS12]; exact hok11
    refine lv_aload_n hx hb dX1_init_17 rfl (lv_at hl 0 rfl) ?_
    refine lv_iconst (v := (2 : Int32)) hx hb dX1_init_18 (by decide) ?_
    refine wr_put (K := RX1) (T := TX1) (N := 6) (index := 19) (ref := "MakerLines$Lines") (ty := (.int)) (S1 := (sI S12 a0 2 (2 : Int32))) hx hb hts hi_X1_init_X1 tyX1 tyX1_ok nmX1 hown hw hok13 (wF_1 (S := S12) hok13.2) rfl (fun b hb9 => wF_sI_ne hb9) 2 (wq_1_2 (S := S12) hok13.2 _) rfl (by decide) (hts _ (List.mem_of_getElem? (i := 7) rfl)) (fun _ h9 => h9) rfl (by decide +kernel) rfl rfl (Nat.le_of_ble_eq_true rfl) dX1_init_19 (fun H locs hw => ?_)
    refine lv_aload_n hx hb dX1_init_22 rfl (lv_at hl 0 rfl) ?_
    refine lv_iconst (v := (0 : Int32)) hx hb dX1_init_23 (by decide) ?_
    refine wr_put (K := RX1) (T := TX1) (N := 6) (index := 22) (ref := "MakerLines$Lines") (ty := (.int)) (S1 := (sI (sI S12 a0 2 (2 : Int32)) a0 3 (0 : Int32))) hx hb hts hi_X1_init_X1 tyX1 tyX1_ok nmX1 hown hw hok13 (wF_1 (S := (sI S12 a0 2 (2 : Int32))) hok13.2) rfl (fun b hb9 => wF_sI_ne hb9) 3 (wq_1_3 (S := (sI S12 a0 2 (2 : Int32))) hok13.2 _) rfl (by decide) (hts _ (List.mem_of_getElem? (i := 8) rfl)) (fun _ h9 => h9) rfl (by decide +kernel) rfl rfl (Nat.le_of_ble_eq_true rfl) dX1_init_24 (fun H locs hw => ?_)
    obtain ⟨S14, hS14, hg⟩ := bd_some hg
    rw [← hS14] at hw
    have hok15 : ok S14 a0 1 := by rw [hS14]; exact hok13
    refine lv_aload_n hx hb dX1_init_27 rfl (lv_at hl 0 rfl) ?_
    refine lv_iconst (v := (0 : Int32)) hx hb dX1_init_28 (by decide) ?_
    refine wr_put (K := RX1) (T := TX1) (N := 6) (index := 25) (ref := "MakerLines$Lines") (ty := (.int)) (S1 := (sI S14 a0 4 (0 : Int32))) hx hb hts hi_X1_init_X1 tyX1 tyX1_ok nmX1 hown hw hok15 (wF_1 (S := S14) hok15.2) rfl (fun b hb9 => wF_sI_ne hb9) 4 (wq_1_4 (S := S14) hok15.2 _) rfl (by decide) (hts _ (List.mem_of_getElem? (i := 9) rfl)) (fun _ h9 => h9) rfl (by decide +kernel) rfl rfl (Nat.le_of_ble_eq_true rfl) dX1_init_29 (fun H locs hw => ?_)
    refine lv_aload_n hx hb dX1_init_32 rfl (lv_at hl 0 rfl) ?_
    refine lv_iconst (v := (0 : Int32)) hx hb dX1_init_33 (by decide) ?_
    refine wr_put (K := RX1) (T := TX1) (N := 6) (index := 28) (ref := "MakerLines$Lines") (ty := (.int)) (S1 := (sI (sI S14 a0 4 (0 : Int32)) a0 5 (0 : Int32))) hx hb hts hi_X1_init_X1 tyX1 tyX1_ok nmX1 hown hw hok15 (wF_1 (S := (sI S14 a0 4 (0 : Int32))) hok15.2) rfl (fun b hb9 => wF_sI_ne hb9) 5 (wq_1_5 (S := (sI S14 a0 4 (0 : Int32))) hok15.2 _) rfl (by decide) (hts _ (List.mem_of_getElem? (i := 10) rfl)) (fun _ h9 => h9) rfl (by decide +kernel) rfl rfl (Nat.le_of_ble_eq_true rfl) dX1_init_34 (fun H locs hw => ?_)
    obtain ⟨S16, hS16, hg⟩ := bd_some hg
    rw [← hS16] at hw
    have hok17 : ok S16 a0 1 := by rw [hS16]; exact hok15
    cases hg
    refine W.widen (k := 1) (n := 12) (Nat.le_of_ble_eq_true rfl) (Nat.le_of_ble_eq_true rfl) ?_
    exact wr_vret hx hb hr hw dX1_init_37 hlk
  exact B0 S0 z0 _ _ _ hg hw hl
theorem hi_X4_init_X1 : ∀ w ∈ wsX10, w ∈ wsX4_init := fun _ h => List.mem_cons_of_mem _ (List.mem_append_left _ (List.mem_append_right _ (h)))
theorem hi_X4_init_X4 : ∀ w ∈ wsX40, w ∈ wsX4_init := fun _ h => List.mem_cons_of_mem _ (List.mem_append_right _ (h))
abbrev rm_X4_init : Room := { frames := 2, cells := 2, slots := 18, locals := 40 }
set_option maxHeartbeats 4000000 in
set_option maxRecDepth 100000 in
theorem c_X4_init (l : Launch) (D : va_G) (C : C3) (N : Nat) (S0 : Hp) (z0 : Nat) (a0 : Nat) (r : Unit) (S9 : Hp) (z9 : Nat) (hg : f_X4_init N S0 z0 a0 = some (r, S9, z9)) : MetV l yX4_init wsX4_init rm_X4_init D C S0 z0 [.ref a0] r S9 z9 2 18 := by
  refine mw_ofW (cc := cX4_init) (maxL := 1) (ret := none) (lv := [(0, .ref a0)]) (by decide) rfl (Nat.le_of_ble_eq_true rfl) rfl ?_
  intro p e s m below meth c ls hx hb hr hts hown hlk hml hnm hl hw
  have hown : s.vm.findClass RX4 = some m.cls := hown
  have B0 : ∀ (S : Hp) (z : Nat) (H : Heap) (locs : List Loc) (ls : Array Slot), f_X4_init N S z a0 = some (r, S9, z9) → Wd D C (va_A (wP C S0) z0) s.heap S z H locs s → lv_has ls 1 [(0, .ref a0)] → W p l e rm_X4_init s m ([.ref a0] : List Value).toArray below meth c H locs 0 0 (MQ below (QvW D C S0 z0 r S9 z9) ([.ref a0] : List Value).toArray s 2 18 (va_A (wP C S0) z0)) (F0 m 0 ls []) := by
    intro S z H locs ls hg hw hl
    unfold f_X4_init at hg
    refine lv_aload_n hx hb dX4_init_0 rfl (lv_at hl 0 rfl) ?_
    refine W.objInit hx hb hown (hts _ (List.mem_of_getElem? (i := 1) rfl)) (hts _ (List.mem_of_getElem? (i := 2) rfl)) (hts _ (List.mem_of_getElem? (i := 3) rfl)) rfl (by rw [hml]; exact hl.1) rfl dX4_init_1 (Nat.le_of_ble_eq_true rfl) (Nat.le_of_ble_eq_true rfl) ?_
    refine W.eq (g2 := F0 m 4 ls []) rfl ?_
    refine lv_aload_n hx hb dX4_init_4 rfl (lv_at hl 0 rfl) ?_
    refine wr_new (K := RX1) (T := TX1) (N := 6) (ci := 1) (index := 9) (fs := [.null, .int 0, .int 0, .int 0, .int 0, .int 0]) hx hb hts hi_X4_init_X1 tyX1 tyX1_ok hown (hts _ (List.mem_of_getElem? (i := 4) rfl)) (hts _ (List.mem_of_getElem? (i := 5) rfl)) (hts _ (List.mem_of_getElem? (i := 6) rfl)) hw rfl wn_1 (fun j hj => by rcases (show j = 0 ∨ j = 1 ∨ j = 2 ∨ j = 3 ∨ j = 4 ∨ j = 5 by omega) with rfl | rfl | rfl | rfl | rfl | rfl <;> rfl) (Nat.le_of_ble_eq_true rfl) (Nat.le_of_ble_eq_true rfl) dX4_init_5 (fun H hw => ?_)
    refine lv_dup hx hb dX4_init_8 rfl ?_
    obtain ⟨⟨⟩, S11, z11, hc11, hg⟩ := cz_some hg
    refine wr_cv (va_runIN (b := z) (As := []) (rest := [.ref z, .ref a0]) ⟨hx, hb, hml, hown, hts⟩ (c_X1_init l D C N ((sNew S z 1 0)) ((z + 1)) z () S11 z11 hc11) ⟨va_cnB (own := RX4) (index := 11) (host := RX6) 0 hts gX4_init_X1_init_n11 rfl rfl rfl (hw.2.2.2.2.2.2.1 _ (List.mem_of_getElem? (i := 4) rfl)) (hts _ (List.mem_of_getElem? (i := 6) rfl)) (by decide +kernel) ⟨Nat.le_of_ble_eq_true rfl, Nat.le_of_ble_eq_true rfl⟩, rfl, (hts _ (List.mem_of_getElem? (i := 17) rfl))⟩ (wd_preS hw) rfl rfl hl.1 rfl (lv_room (Nat.le_of_ble_eq_true rfl)) dX4_init_9 ⟨Nat.le_of_ble_eq_true rfl, Nat.le_of_ble_eq_true rfl⟩) hw (fun H locs hw => ?_)
    obtain ⟨hok12, hg⟩ := gd_some hg
    refine wr_putF (K := RX4) (T := TX4) (N := 10) (index := 12) (ref := "MakerLines$State") (ty := (.object "MakerLines$Lines")) (S1 := (sR S11 a0 0 (some z))) hx hb hts hi_X4_init_X4 tyX4 tyX4_ok nmX4 hown hw hok12 (wF_4 (S := S11) hok12.2) rfl (fun b hb9 => wF_sR_ne hb9) 0 (wq_4_0 (S := S11) hok12.2 _) rfl (by decide) (hts _ (List.mem_of_getElem? (i := 7) rfl)) (fun _ h9 => h9) rfl hnm rfl (by decide +kernel) rfl rfl (Nat.le_of_ble_eq_true rfl) dX4_init_12 (fun H locs hw => ?_)
    refine lv_aload_n hx hb dX4_init_15 rfl (lv_at hl 0 rfl) ?_
    refine lv_bipush (v := (9 : Int32)) hx hb dX4_init_16 (by decide) ?_
    refine wr_put (K := RX4) (T := TX4) (N := 10) (index := 18) (ref := "MakerLines$State") (ty := (.int)) (S1 := (sI (sR S11 a0 0 (some z)) a0 1 (9 : Int32))) hx hb hts hi_X4_init_X4 tyX4 tyX4_ok nmX4 hown hw hok12 (wF_4 (S := (sR S11 a0 0 (some z))) hok12.2) rfl (fun b hb9 => wF_sI_ne hb9) 1 (wq_4_1 (S := (sR S11 a0 0 (some z))) hok12.2 _) rfl (by decide) (hts _ (List.mem_of_getElem? (i := 8) rfl)) (fun _ h9 => h9) rfl (by decide +kernel) rfl rfl (Nat.le_of_ble_eq_true rfl) dX4_init_18 (fun H locs hw => ?_)
    refine lv_aload_n hx hb dX4_init_21 rfl (lv_at hl 0 rfl) ?_
    refine lv_iconst (v := (0 : Int32)) hx hb dX4_init_22 (by decide) ?_
    refine wr_put (K := RX4) (T := TX4) (N := 10) (index := 22) (ref := "MakerLines$State") (ty := (.int)) (S1 := (sI (sI (sR S11 a0 0 (some z)) a0 1 (9 : Int32)) a0 2 (0 : Int32))) hx hb hts hi_X4_init_X4 tyX4 tyX4_ok nmX4 hown hw hok12 (wF_4 (S := (sI (sR S11 a0 0 (some z)) a0 1 (9 : Int32))) hok12.2) rfl (fun b hb9 => wF_sI_ne hb9) 2 (wq_4_2 (S := (sI (sR S11 a0 0 (some z)) a0 1 (9 : Int32))) hok12.2 _) rfl (by decide) (hts _ (List.mem_of_getElem? (i := 9) rfl)) (fun _ h9 => h9) rfl (by decide +kernel) rfl rfl (Nat.le_of_ble_eq_true rfl) dX4_init_23 (fun H locs hw => ?_)
    obtain ⟨S13, hS13, hg⟩ := bd_some hg
    rw [← hS13] at hw
    have hok14 : ok S13 a0 4 := by rw [hS13]; exact hok12
    refine lv_aload_n hx hb dX4_init_26 rfl (lv_at hl 0 rfl) ?_
    refine lv_iconst (v := (0 : Int32)) hx hb dX4_init_27 (by decide) ?_
    refine wr_put (K := RX4) (T := TX4) (N := 10) (index := 25) (ref := "MakerLines$State") (ty := (.int)) (S1 := (sI S13 a0 3 (0 : Int32))) hx hb hts hi_X4_init_X4 tyX4 tyX4_ok nmX4 hown hw hok14 (wF_4 (S := S13) hok14.2) rfl (fun b hb9 => wF_sI_ne hb9) 3 (wq_4_3 (S := S13) hok14.2 _) rfl (by decide) (hts _ (List.mem_of_getElem? (i := 10) rfl)) (fun _ h9 => h9) rfl (by decide +kernel) rfl rfl (Nat.le_of_ble_eq_true rfl) dX4_init_28 (fun H locs hw => ?_)
    refine lv_aload_n hx hb dX4_init_31 rfl (lv_at hl 0 rfl) ?_
    refine lv_iconst (v := (1 : Int32)) hx hb dX4_init_32 (by decide) ?_
    refine wr_put (K := RX4) (T := TX4) (N := 10) (index := 28) (ref := "MakerLines$State") (ty := (.boolean)) (S1 := (sI (sI S13 a0 3 (0 : Int32)) a0 4 (1 : Int32))) hx hb hts hi_X4_init_X4 tyX4 tyX4_ok nmX4 hown hw hok14 (wF_4 (S := (sI S13 a0 3 (0 : Int32))) hok14.2) rfl (fun b hb9 => wF_sI_ne hb9) 4 (wq_4_4 (S := (sI S13 a0 3 (0 : Int32))) hok14.2 _) rfl (by decide) (hts _ (List.mem_of_getElem? (i := 11) rfl)) (fun _ h9 => h9) rfl (by decide +kernel) (by decide) (by decide) (Nat.le_of_ble_eq_true rfl) dX4_init_33 (fun H locs hw => ?_)
    obtain ⟨S15, hS15, hg⟩ := bd_some hg
    rw [← hS15] at hw
    have hok16 : ok S15 a0 4 := by rw [hS15]; exact hok14
    refine lv_aload_n hx hb dX4_init_36 rfl (lv_at hl 0 rfl) ?_
    refine lv_iconst (v := (-1 : Int32)) hx hb dX4_init_37 (by decide) ?_
    refine wr_put (K := RX4) (T := TX4) (N := 10) (index := 32) (ref := "MakerLines$State") (ty := (.int)) (S1 := (sI S15 a0 5 (-1 : Int32))) hx hb hts hi_X4_init_X4 tyX4 tyX4_ok nmX4 hown hw hok16 (wF_4 (S := S15) hok16.2) rfl (fun b hb9 => wF_sI_ne hb9) 5 (wq_4_5 (S := S15) hok16.2 _) rfl (by decide) (hts _ (List.mem_of_getElem? (i := 12) rfl)) (fun _ h9 => h9) rfl (by decide +kernel) rfl rfl (Nat.le_of_ble_eq_true rfl) dX4_init_38 (fun H locs hw => ?_)
    refine lv_aload_n hx hb dX4_init_41 rfl (lv_at hl 0 rfl) ?_
    refine lv_iconst (v := (-1 : Int32)) hx hb dX4_init_42 (by decide) ?_
    refine wr_put (K := RX4) (T := TX4) (N := 10) (index := 35) (ref := "MakerLines$State") (ty := (.int)) (S1 := (sI (sI S15 a0 5 (-1 : Int32)) a0 6 (-1 : Int32))) hx hb hts hi_X4_init_X4 tyX4 tyX4_ok nmX4 hown hw hok16 (wF_4 (S := (sI S15 a0 5 (-1 : Int32))) hok16.2) rfl (fun b hb9 => wF_sI_ne hb9) 6 (wq_4_6 (S := (sI S15 a0 5 (-1 : Int32))) hok16.2 _) rfl (by decide) (hts _ (List.mem_of_getElem? (i := 13) rfl)) (fun _ h9 => h9) rfl (by decide +kernel) rfl rfl (Nat.le_of_ble_eq_true rfl) dX4_init_43 (fun H locs hw => ?_)
    obtain ⟨S17, hS17, hg⟩ := bd_some hg
    rw [← hS17] at hw
    have hok18 : ok S17 a0 4 := by rw [hS17]; exact hok16
    refine lv_aload_n hx hb dX4_init_46 rfl (lv_at hl 0 rfl) ?_
    refine lv_iconst (v := (0 : Int32)) hx hb dX4_init_47 (by decide) ?_
    refine wr_put (K := RX4) (T := TX4) (N := 10) (index := 38) (ref := "MakerLines$State") (ty := (.int)) (S1 := (sI S17 a0 7 (0 : Int32))) hx hb hts hi_X4_init_X4 tyX4 tyX4_ok nmX4 hown hw hok18 (wF_4 (S := S17) hok18.2) rfl (fun b hb9 => wF_sI_ne hb9) 7 (wq_4_7 (S := S17) hok18.2 _) rfl (by decide) (hts _ (List.mem_of_getElem? (i := 14) rfl)) (fun _ h9 => h9) rfl (by decide +kernel) rfl rfl (Nat.le_of_ble_eq_true rfl) dX4_init_48 (fun H locs hw => ?_)
    refine lv_aload_n hx hb dX4_init_51 rfl (lv_at hl 0 rfl) ?_
    refine lv_iconst (v := (0 : Int32)) hx hb dX4_init_52 (by decide) ?_
    refine wr_put (K := RX4) (T := TX4) (N := 10) (index := 41) (ref := "MakerLines$State") (ty := (.int)) (S1 := (sI (sI S17 a0 7 (0 : Int32)) a0 8 (0 : Int32))) hx hb hts hi_X4_init_X4 tyX4 tyX4_ok nmX4 hown hw hok18 (wF_4 (S := (sI S17 a0 7 (0 : Int32))) hok18.2) rfl (fun b hb9 => wF_sI_ne hb9) 8 (wq_4_8 (S := (sI S17 a0 7 (0 : Int32))) hok18.2 _) rfl (by decide) (hts _ (List.mem_of_getElem? (i := 15) rfl)) (fun _ h9 => h9) rfl (by decide +kernel) rfl rfl (Nat.le_of_ble_eq_true rfl) dX4_init_53 (fun H locs hw => ?_)
    obtain ⟨S19, hS19, hg⟩ := bd_some hg
    rw [← hS19] at hw
    have hok20 : ok S19 a0 4 := by rw [hS19]; exact hok18
    refine lv_aload_n hx hb dX4_init_56 rfl (lv_at hl 0 rfl) ?_
    refine lv_iconst (v := (0 : Int32)) hx hb dX4_init_57 (by decide) ?_
    refine wr_put (K := RX4) (T := TX4) (N := 10) (index := 44) (ref := "MakerLines$State") (ty := (.int)) (S1 := (sI S19 a0 9 (0 : Int32))) hx hb hts hi_X4_init_X4 tyX4 tyX4_ok nmX4 hown hw hok20 (wF_4 (S := S19) hok20.2) rfl (fun b hb9 => wF_sI_ne hb9) 9 (wq_4_9 (S := S19) hok20.2 _) rfl (by decide) (hts _ (List.mem_of_getElem? (i := 16) rfl)) (fun _ h9 => h9) rfl (by decide +kernel) rfl rfl (Nat.le_of_ble_eq_true rfl) dX4_init_58 (fun H locs hw => ?_)
    cases hg
    refine W.widen (k := 2) (n := 18) (Nat.le_of_ble_eq_true rfl) (Nat.le_of_ble_eq_true rfl) ?_
    exact wr_vret hx hb hr hw dX4_init_61 hlk
  exact B0 S0 z0 _ _ _ hg hw hl
theorem hi_X1_copy_X1 : ∀ w ∈ wsX10, w ∈ wsX1_copy := fun _ h => List.mem_cons_of_mem _ (List.mem_append_right _ (h))
abbrev rm_X1_copy : Room := { frames := 0, cells := 0, slots := 0, locals := 0 }
set_option maxHeartbeats 4000000 in
set_option maxRecDepth 100000 in
theorem c_X1_copy (l : Launch) (D : va_G) (C : C3) (N : Nat) (S0 : Hp) (z : Nat) (a0 : Nat) (a1 : Nat) (r : Unit) (S9 : Hp) (hg : f_X1_copy N S0 a0 a1 = some (r, S9)) : MetV l yX1_copy wsX1_copy rm_X1_copy D C S0 z [.ref a0, .ref a1] r S9 z 0 0 := by
  refine mw_ofW (cc := cX1_copy) (maxL := 3) (ret := none) (lv := [(0, .ref a0), (1, .ref a1)]) (by decide) rfl (Nat.le_of_ble_eq_true rfl) rfl ?_
  intro p e s m below meth c ls hx hb hr hts hown hlk hml hnm hl hw
  have hown : s.vm.findClass RX1 = some m.cls := hown
  have B46 : ∀ (S : Hp) (H : Heap) (locs : List Loc) (ls : Array Slot), f_X1_copy_b46 N a0 a1 S = some (r, S9) → Wd D C (va_A (wP C S0) z) s.heap S z H locs s → lv_has ls 3 [(0, .ref a0), (1, .ref a1)] → W p l e rm_X1_copy s m ([.ref a0, .ref a1] : List Value).toArray below meth c H locs 0 0 (MQ below (QvW D C S0 z r S9 z) ([.ref a0, .ref a1] : List Value).toArray s 0 0 (va_A (wP C S0) z)) (F0 m 46 ls []) := by
    intro S H locs ls hg hw hl
    unfold f_X1_copy_b46 at hg
    refine lv_aload_n hx hb dX1_copy_46 rfl (lv_at hl 0 rfl) ?_
    refine lv_aload_n hx hb dX1_copy_47 rfl (lv_at hl 1 rfl) ?_
    obtain ⟨hok30, hg⟩ := gd_some hg
    refine wr_get (K := RX1) (T := TX1) (N := 6) (index := 15) (ref := "MakerLines$Lines") (v := .int (hI S a1 1)) hx hb hts hi_X1_copy_X1 hown hw hok30 (wF_1 (S := S) hok30.2) rfl 1 (by decide) (hts _ (List.mem_of_getElem? (i := 1) rfl)) (fun _ h9 => h9) rfl dX1_copy_48 ?_
    obtain ⟨hok31, hg⟩ := gd_some hg
    refine wr_put (K := RX1) (T := TX1) (N := 6) (index := 15) (ref := "MakerLines$Lines") (ty := (.int)) (S1 := (sI S a0 1 (hI S a1 1))) hx hb hts hi_X1_copy_X1 tyX1 tyX1_ok nmX1 hown hw hok31 (wF_1 (S := S) hok31.2) rfl (fun b hb9 => wF_sI_ne hb9) 1 (wq_1_1 (S := S) hok31.2 _) rfl (by decide) (hts _ (List.mem_of_getElem? (i := 1) rfl)) (fun _ h9 => h9) rfl (by decide +kernel) rfl rfl (Nat.le_of_ble_eq_true rfl) dX1_copy_51 (fun H locs hw => ?_)
    cases hg
    exact wr_vret hx hb hr hw dX1_copy_54 hlk
  have B2 : ∀ (K2 : Hp → Int32 → Option (Unit × Hp)) (hK2 : ∀ (S : Hp) (v2 : Int32) (H : Heap) (locs : List Loc) (ls : Array Slot), K2 S v2 = some (r, S9) → Wd D C (va_A (wP C S0) z) s.heap S z H locs s → lv_has ls 3 [(0, .ref a0), (1, .ref a1), (2, .int v2)] → W p l e rm_X1_copy s m ([.ref a0, .ref a1] : List Value).toArray below meth c H locs 0 0 (MQ below (QvW D C S0 z r S9 z) ([.ref a0, .ref a1] : List Value).toArray s 0 0 (va_A (wP C S0) z)) (F0 m 2 ls [])) (S : Hp) (v2 : Int32) (H : Heap) (locs : List Loc) (ls : Array Slot), f_X1_copy_b2 N a0 a1 K2 S v2 = some (r, S9) → Wd D C (va_A (wP C S0) z) s.heap S z H locs s → lv_has ls 3 [(0, .ref a0), (1, .ref a1), (2, .int v2)] → W p l e rm_X1_copy s m ([.ref a0, .ref a1] : List Value).toArray below meth c H locs 0 0 (MQ below (QvW D C S0 z r S9 z) ([.ref a0, .ref a1] : List Value).toArray s 0 0 (va_A (wP C S0) z)) (F0 m 2 ls []) := by
    intro K2 hK2 S v2 H locs ls hg hw hl
    unfold f_X1_copy_b2 at hg
    refine lv_iload_n hx hb dX1_copy_2 rfl (lv_at hl 2 rfl) ?_
    refine lv_aload_n hx hb dX1_copy_3 rfl (lv_at hl 1 rfl) ?_
    obtain ⟨hok10, hg⟩ := gd_some hg
    refine wr_get (K := RX1) (T := TX1) (N := 6) (index := 15) (ref := "MakerLines$Lines") (v := .int (hI S a1 1)) hx hb hts hi_X1_copy_X1 hown hw hok10 (wF_1 (S := S) hok10.2) rfl 1 (by decide) (hts _ (List.mem_of_getElem? (i := 1) rfl)) (fun _ h9 => h9) rfl dX1_copy_4 ?_
    refine lv_icmp_ge (tgt := 46) hx hb dX1_copy_7 (by decide) (fun c11 => ?_) (fun c11 => ?_)
    · have hg := it_pos hg c11
      exact B46 _ _ _ _ hg hw (lv_sub hl [0, 1] rfl)
    · have hg := it_neg hg c11
      refine lv_iload_n hx hb dX1_copy_10 rfl (lv_at hl 2 rfl) ?_
      refine lv_aload_n hx hb dX1_copy_11 rfl (lv_at hl 1 rfl) ?_
      obtain ⟨r12, hr12, hg⟩ := nn_some hg
      refine wr_get (K := RX1) (T := TX1) (N := 6) (index := 9) (ref := "MakerLines$Lines") (v := .ref r12) hx hb hts hi_X1_copy_X1 hown hw hok10 (wF_1 (S := S) hok10.2) rfl 0 (by decide) (hts _ (List.mem_of_getElem? (i := 2) rfl)) (fun _ h9 => h9) (congrArg (fun o => some (va_rf o)) hr12) dX1_copy_12 ?_
      obtain ⟨hok13, hg⟩ := gd_some hg
      refine wr_alen8 hx hb hw hok13 dX1_copy_15 ?_
      refine lv_icmp_ge (tgt := 46) hx hb dX1_copy_16 (by decide) (fun c14 => ?_) (fun c14 => ?_)
      · have hg := it_pos hg c14
        exact B46 _ _ _ _ hg hw (lv_sub hl [0, 1] rfl)
      · have hg := it_neg hg c14
        refine lv_iload_n hx hb dX1_copy_19 rfl (lv_at hl 2 rfl) ?_
        refine lv_aload_n hx hb dX1_copy_20 rfl (lv_at hl 0 rfl) ?_
        obtain ⟨hok15, hg⟩ := gd_some hg
        obtain ⟨r16, hr16, hg⟩ := nn_some hg
        refine wr_get (K := RX1) (T := TX1) (N := 6) (index := 9) (ref := "MakerLines$Lines") (v := .ref r16) hx hb hts hi_X1_copy_X1 hown hw hok15 (wF_1 (S := S) hok15.2) rfl 0 (by decide) (hts _ (List.mem_of_getElem? (i := 2) rfl)) (fun _ h9 => h9) (congrArg (fun o => some (va_rf o)) hr16) dX1_copy_21 ?_
        obtain ⟨hok17, hg⟩ := gd_some hg
        refine wr_alen8 hx hb hw hok17 dX1_copy_24 ?_
        refine lv_icmp_ge (tgt := 46) hx hb dX1_copy_25 (by decide) (fun c18 => ?_) (fun c18 => ?_)
        · have hg := it_pos hg c18
          exact B46 _ _ _ _ hg hw (lv_sub hl [0, 1] rfl)
        · have hg := it_neg hg c18
          refine lv_aload_n hx hb dX1_copy_28 rfl (lv_at hl 0 rfl) ?_
          refine wr_get (K := RX1) (T := TX1) (N := 6) (index := 9) (ref := "MakerLines$Lines") (v := .ref r16) hx hb hts hi_X1_copy_X1 hown hw hok15 (wF_1 (S := S) hok15.2) rfl 0 (by decide) (hts _ (List.mem_of_getElem? (i := 2) rfl)) (fun _ h9 => h9) (congrArg (fun o => some (va_rf o)) hr16) dX1_copy_29 ?_
          refine lv_iload_n hx hb dX1_copy_32 rfl (lv_at hl 2 rfl) ?_
          refine lv_aload_n hx hb dX1_copy_33 rfl (lv_at hl 1 rfl) ?_
          refine wr_get (K := RX1) (T := TX1) (N := 6) (index := 9) (ref := "MakerLines$Lines") (v := .ref r12) hx hb hts hi_X1_copy_X1 hown hw hok10 (wF_1 (S := S) hok10.2) rfl 0 (by decide) (hts _ (List.mem_of_getElem? (i := 2) rfl)) (fun _ h9 => h9) (congrArg (fun o => some (va_rf o)) hr12) dX1_copy_34 ?_
          refine lv_iload_n hx hb dX1_copy_37 rfl (lv_at hl 2 rfl) ?_
          obtain ⟨hin19, hg⟩ := gd_some hg
          refine wr_iald hx hb hw hok13 (inb_vp hin19) dX1_copy_38 ?_
          obtain ⟨hin20, hg⟩ := gd_some hg
          refine wr_iast hx hb hw hok17 (inb_vp hin20) dX1_copy_39 (fun H locs hw => ?_)
          obtain ⟨S21, hS21, hg⟩ := bd_some hg
          rw [← hS21] at hw
          have hok22 : ok S21 a1 1 := by rw [hS21]; exact hok10
          have hr23 : hR S21 a1 0 = some r12 := by rw [hS21]; exact hr12
          have hok24 : ok S21 r12 8 := by rw [hS21]; exact hok13
          have hok25 : ok S21 a0 1 := by rw [hS21]; exact hok15
          have hr26 : hR S21 a0 0 = some r16 := by rw [hS21]; exact hr16
          have hok27 : ok S21 r16 8 := by rw [hS21]; exact hok17
          have hin28 : inb v2 (hN S21 r12) := by rw [hS21]; exact hin19
          have hin29 : inb v2 (hN S21 r16) := by rw [hS21]; exact hin20
          refine lv_iinc (v := (v2 + (1 : Int32))) (lv' := [(2, .int (v2 + (1 : Int32))), (0, .ref a0), (1, .ref a1)]) hx hb dX1_copy_40 hl (k := 2) rfl rfl (by decide) rfl (fun ls hl => ?_)
          refine lv_goto (tgt := 2) hx hb dX1_copy_43 (by decide) ?_
          exact hK2 _ _ _ _ _ hg hw (lv_sub hl [1, 2, 0] rfl)
  have L2 : ∀ (k : Nat) (S : Hp) (v2 : Int32) (H : Heap) (locs : List Loc) (ls : Array Slot), f_X1_copy_l2 N a0 a1 k S v2 = some (r, S9) → Wd D C (va_A (wP C S0) z) s.heap S z H locs s → lv_has ls 3 [(0, .ref a0), (1, .ref a1), (2, .int v2)] → W p l e rm_X1_copy s m ([.ref a0, .ref a1] : List Value).toArray below meth c H locs 0 0 (MQ below (QvW D C S0 z r S9 z) ([.ref a0, .ref a1] : List Value).toArray s 0 0 (va_A (wP C S0) z)) (F0 m 2 ls []) := by
    intro k
    induction k with
    | zero => intro S v2 H locs ls hg hw hl; exact absurd (show (none : Option (Unit × Hp)) = some (r, S9) from hg) (by simp)
    | succ k ih => intro S v2 H locs ls hg hw hl; exact B2 (f_X1_copy_l2 N a0 a1 k) ih S v2 H locs ls hg hw hl
  have B0 : ∀ (S : Hp) (H : Heap) (locs : List Loc) (ls : Array Slot), f_X1_copy N S a0 a1 = some (r, S9) → Wd D C (va_A (wP C S0) z) s.heap S z H locs s → lv_has ls 3 [(0, .ref a0), (1, .ref a1)] → W p l e rm_X1_copy s m ([.ref a0, .ref a1] : List Value).toArray below meth c H locs 0 0 (MQ below (QvW D C S0 z r S9 z) ([.ref a0, .ref a1] : List Value).toArray s 0 0 (va_A (wP C S0) z)) (F0 m 0 ls []) := by
    intro S H locs ls hg hw hl
    unfold f_X1_copy at hg
    refine lv_iconst (v := (0 : Int32)) hx hb dX1_copy_0 (by decide) ?_
    refine lv_istore_n (lv' := [(2, .int (0 : Int32)), (0, .ref a0), (1, .ref a1)]) hx hb dX1_copy_1 rfl hl (by decide) rfl (fun ls hl => ?_)
    exact L2 N _ _ _ _ _ hg hw (lv_sub hl [1, 2, 0] rfl)
  exact B0 S0 _ _ _ hg hw hl
theorem hi_X4_copyBoard_X4 : ∀ w ∈ wsX40, w ∈ wsX4_copyBoard := fun _ h => List.mem_cons_of_mem _ (List.mem_append_left _ (List.mem_append_right _ (h)))
abbrev rm_X4_copyBoard : Room := { frames := 1, cells := 0, slots := 0, locals := 22 }
set_option maxHeartbeats 4000000 in
set_option maxRecDepth 100000 in
theorem c_X4_copyBoard (l : Launch) (D : va_G) (C : C3) (N : Nat) (S0 : Hp) (z : Nat) (a0 : Nat) (a1 : Nat) (r : Unit) (S9 : Hp) (hg : f_X4_copyBoard N S0 a0 a1 = some (r, S9)) : MetV l yX4_copyBoard wsX4_copyBoard rm_X4_copyBoard D C S0 z [.ref a0, .ref a1] r S9 z 0 0 := by
  refine mw_ofW (cc := cX4_copyBoard) (maxL := 2) (ret := none) (lv := [(0, .ref a0), (1, .ref a1)]) (by decide) rfl (Nat.le_of_ble_eq_true rfl) rfl ?_
  intro p e s m below meth c ls hx hb hr hts hown hlk hml hnm hl hw
  have hown : s.vm.findClass RX4 = some m.cls := hown
  have B0 : ∀ (S : Hp) (H : Heap) (locs : List Loc) (ls : Array Slot), f_X4_copyBoard N S a0 a1 = some (r, S9) → Wd D C (va_A (wP C S0) z) s.heap S z H locs s → lv_has ls 2 [(0, .ref a0), (1, .ref a1)] → W p l e rm_X4_copyBoard s m ([.ref a0, .ref a1] : List Value).toArray below meth c H locs 0 0 (MQ below (QvW D C S0 z r S9 z) ([.ref a0, .ref a1] : List Value).toArray s 0 0 (va_A (wP C S0) z)) (F0 m 0 ls []) := by
    intro S H locs ls hg hw hl
    unfold f_X4_copyBoard at hg
    refine lv_aload_n hx hb dX4_copyBoard_0 rfl (lv_at hl 0 rfl) ?_
    obtain ⟨hok10, hg⟩ := gd_some hg
    obtain ⟨r11, hr11, hg⟩ := nn_some hg
    refine wr_get (K := RX4) (T := TX4) (N := 10) (index := 12) (ref := "MakerLines$State") (v := .ref r11) hx hb hts hi_X4_copyBoard_X4 hown hw hok10 (wF_4 (S := S) hok10.2) rfl 0 (by decide) (hts _ (List.mem_of_getElem? (i := 1) rfl)) (fun _ h9 => h9) (congrArg (fun o => some (va_rf o)) hr11) dX4_copyBoard_1 ?_
    refine lv_aload_n hx hb dX4_copyBoard_4 rfl (lv_at hl 1 rfl) ?_
    obtain ⟨hok12, hg⟩ := gd_some hg
    obtain ⟨r13, hr13, hg⟩ := nn_some hg
    refine wr_get (K := RX4) (T := TX4) (N := 10) (index := 12) (ref := "MakerLines$State") (v := .ref r13) hx hb hts hi_X4_copyBoard_X4 hown hw hok12 (wF_4 (S := S) hok12.2) rfl 0 (by decide) (hts _ (List.mem_of_getElem? (i := 1) rfl)) (fun _ h9 => h9) (congrArg (fun o => some (va_rf o)) hr13) dX4_copyBoard_5 ?_
    obtain ⟨hok14, hg⟩ := gd_some hg
    obtain ⟨⟨⟩, S15, hc15, hg⟩ := cl_some hg
    refine wr_cv (va_runV (As := [.ref r13]) (rest := []) ⟨hx, hb, hml, hown, hts⟩ (c_X1_copy l D C N S z r11 r13 () S15 hc15) (cwV 1 hts gX4_copyBoard_X1_copy rfl rfl rfl (by decide +kernel) ⟨Nat.le_of_ble_eq_true rfl, Nat.le_of_ble_eq_true rfl⟩) (wd_preV hw hok14 (wF_1 (S := S) hok14.2) rfl) rfl rfl hl.1 rfl (lv_room (Nat.le_of_ble_eq_true rfl)) dX4_copyBoard_8 ⟨Nat.zero_le _, Nat.zero_le _⟩) hw (fun H locs hw => ?_)
    refine lv_aload_n hx hb dX4_copyBoard_11 rfl (lv_at hl 0 rfl) ?_
    refine lv_aload_n hx hb dX4_copyBoard_12 rfl (lv_at hl 1 rfl) ?_
    obtain ⟨hok16, hg⟩ := gd_some hg
    refine wr_get (K := RX4) (T := TX4) (N := 10) (index := 18) (ref := "MakerLines$State") (v := .int (hI S15 a1 1)) hx hb hts hi_X4_copyBoard_X4 hown hw hok16 (wF_4 (S := S15) hok16.2) rfl 1 (by decide) (hts _ (List.mem_of_getElem? (i := 2) rfl)) (fun _ h9 => h9) rfl dX4_copyBoard_13 ?_
    obtain ⟨hok17, hg⟩ := gd_some hg
    refine wr_put (K := RX4) (T := TX4) (N := 10) (index := 18) (ref := "MakerLines$State") (ty := (.int)) (S1 := (sI S15 a0 1 (hI S15 a1 1))) hx hb hts hi_X4_copyBoard_X4 tyX4 tyX4_ok nmX4 hown hw hok17 (wF_4 (S := S15) hok17.2) rfl (fun b hb9 => wF_sI_ne hb9) 1 (wq_4_1 (S := S15) hok17.2 _) rfl (by decide) (hts _ (List.mem_of_getElem? (i := 2) rfl)) (fun _ h9 => h9) rfl (by decide +kernel) rfl rfl (Nat.le_of_ble_eq_true rfl) dX4_copyBoard_16 (fun H locs hw => ?_)
    refine lv_aload_n hx hb dX4_copyBoard_19 rfl (lv_at hl 0 rfl) ?_
    refine lv_aload_n hx hb dX4_copyBoard_20 rfl (lv_at hl 1 rfl) ?_
    refine wr_get (K := RX4) (T := TX4) (N := 10) (index := 22) (ref := "MakerLines$State") (v := .int (hI ((sI S15 a0 1 (hI S15 a1 1))) a1 2)) hx hb hts hi_X4_copyBoard_X4 hown hw hok16 (wF_4 (S := (sI S15 a0 1 (hI S15 a1 1))) hok16.2) rfl 2 (by decide) (hts _ (List.mem_of_getElem? (i := 3) rfl)) (fun _ h9 => h9) rfl dX4_copyBoard_21 ?_
    refine wr_put (K := RX4) (T := TX4) (N := 10) (index := 22) (ref := "MakerLines$State") (ty := (.int)) (S1 := (sI (sI S15 a0 1 (hI S15 a1 1)) a0 2 (hI ((sI S15 a0 1 (hI S15 a1 1))) a1 2))) hx hb hts hi_X4_copyBoard_X4 tyX4 tyX4_ok nmX4 hown hw hok17 (wF_4 (S := (sI S15 a0 1 (hI S15 a1 1))) hok17.2) rfl (fun b hb9 => wF_sI_ne hb9) 2 (wq_4_2 (S := (sI S15 a0 1 (hI S15 a1 1))) hok17.2 _) rfl (by decide) (hts _ (List.mem_of_getElem? (i := 3) rfl)) (fun _ h9 => h9) rfl (by decide +kernel) rfl rfl (Nat.le_of_ble_eq_true rfl) dX4_copyBoard_24 (fun H locs hw => ?_)
    obtain ⟨S18, hS18, hg⟩ := bd_some hg
    rw [← hS18] at hw
    have hok19 : ok S18 a1 4 := by rw [hS18]; exact hok16
    have hok20 : ok S18 a0 4 := by rw [hS18]; exact hok17
    refine lv_aload_n hx hb dX4_copyBoard_27 rfl (lv_at hl 0 rfl) ?_
    refine lv_aload_n hx hb dX4_copyBoard_28 rfl (lv_at hl 1 rfl) ?_
    refine wr_get (K := RX4) (T := TX4) (N := 10) (index := 25) (ref := "MakerLines$State") (v := .int (hI S18 a1 3)) hx hb hts hi_X4_copyBoard_X4 hown hw hok19 (wF_4 (S := S18) hok19.2) rfl 3 (by decide) (hts _ (List.mem_of_getElem? (i := 4) rfl)) (fun _ h9 => h9) rfl dX4_copyBoard_29 ?_
    refine wr_put (K := RX4) (T := TX4) (N := 10) (index := 25) (ref := "MakerLines$State") (ty := (.int)) (S1 := (sI S18 a0 3 (hI S18 a1 3))) hx hb hts hi_X4_copyBoard_X4 tyX4 tyX4_ok nmX4 hown hw hok20 (wF_4 (S := S18) hok20.2) rfl (fun b hb9 => wF_sI_ne hb9) 3 (wq_4_3 (S := S18) hok20.2 _) rfl (by decide) (hts _ (List.mem_of_getElem? (i := 4) rfl)) (fun _ h9 => h9) rfl (by decide +kernel) rfl rfl (Nat.le_of_ble_eq_true rfl) dX4_copyBoard_32 (fun H locs hw => ?_)
    refine lv_aload_n hx hb dX4_copyBoard_35 rfl (lv_at hl 0 rfl) ?_
    refine lv_aload_n hx hb dX4_copyBoard_36 rfl (lv_at hl 1 rfl) ?_
    refine wr_get (K := RX4) (T := TX4) (N := 10) (index := 28) (ref := "MakerLines$State") (v := .int (hI ((sI S18 a0 3 (hI S18 a1 3))) a1 4)) hx hb hts hi_X4_copyBoard_X4 hown hw hok19 (wF_4 (S := (sI S18 a0 3 (hI S18 a1 3))) hok19.2) rfl 4 (by decide) (hts _ (List.mem_of_getElem? (i := 5) rfl)) (fun _ h9 => h9) rfl dX4_copyBoard_37 ?_
    obtain ⟨hz21, hg⟩ := gd_some hg
    refine wr_put (K := RX4) (T := TX4) (N := 10) (index := 28) (ref := "MakerLines$State") (ty := (.boolean)) (S1 := (sI (sI S18 a0 3 (hI S18 a1 3)) a0 4 (hI ((sI S18 a0 3 (hI S18 a1 3))) a1 4))) hx hb hts hi_X4_copyBoard_X4 tyX4 tyX4_ok nmX4 hown hw hok20 (wF_4 (S := (sI S18 a0 3 (hI S18 a1 3))) hok20.2) rfl (fun b hb9 => wF_sI_ne hb9) 4 (wq_4_4 (S := (sI S18 a0 3 (hI S18 a1 3))) hok20.2 _) rfl (by decide) (hts _ (List.mem_of_getElem? (i := 5) rfl)) (fun _ h9 => h9) rfl (by decide +kernel) (isB_nar hz21) (isB_fit hz21) (Nat.le_of_ble_eq_true rfl) dX4_copyBoard_40 (fun H locs hw => ?_)
    obtain ⟨S22, hS22, hg⟩ := bd_some hg
    rw [← hS22] at hw
    have hok23 : ok S22 a1 4 := by rw [hS22]; exact hok19
    have hok24 : ok S22 a0 4 := by rw [hS22]; exact hok20
    refine lv_aload_n hx hb dX4_copyBoard_43 rfl (lv_at hl 0 rfl) ?_
    refine lv_aload_n hx hb dX4_copyBoard_44 rfl (lv_at hl 1 rfl) ?_
    refine wr_get (K := RX4) (T := TX4) (N := 10) (index := 32) (ref := "MakerLines$State") (v := .int (hI S22 a1 5)) hx hb hts hi_X4_copyBoard_X4 hown hw hok23 (wF_4 (S := S22) hok23.2) rfl 5 (by decide) (hts _ (List.mem_of_getElem? (i := 6) rfl)) (fun _ h9 => h9) rfl dX4_copyBoard_45 ?_
    refine wr_put (K := RX4) (T := TX4) (N := 10) (index := 32) (ref := "MakerLines$State") (ty := (.int)) (S1 := (sI S22 a0 5 (hI S22 a1 5))) hx hb hts hi_X4_copyBoard_X4 tyX4 tyX4_ok nmX4 hown hw hok24 (wF_4 (S := S22) hok24.2) rfl (fun b hb9 => wF_sI_ne hb9) 5 (wq_4_5 (S := S22) hok24.2 _) rfl (by decide) (hts _ (List.mem_of_getElem? (i := 6) rfl)) (fun _ h9 => h9) rfl (by decide +kernel) rfl rfl (Nat.le_of_ble_eq_true rfl) dX4_copyBoard_48 (fun H locs hw => ?_)
    refine lv_aload_n hx hb dX4_copyBoard_51 rfl (lv_at hl 0 rfl) ?_
    refine lv_aload_n hx hb dX4_copyBoard_52 rfl (lv_at hl 1 rfl) ?_
    refine wr_get (K := RX4) (T := TX4) (N := 10) (index := 35) (ref := "MakerLines$State") (v := .int (hI ((sI S22 a0 5 (hI S22 a1 5))) a1 6)) hx hb hts hi_X4_copyBoard_X4 hown hw hok23 (wF_4 (S := (sI S22 a0 5 (hI S22 a1 5))) hok23.2) rfl 6 (by decide) (hts _ (List.mem_of_getElem? (i := 7) rfl)) (fun _ h9 => h9) rfl dX4_copyBoard_53 ?_
    refine wr_put (K := RX4) (T := TX4) (N := 10) (index := 35) (ref := "MakerLines$State") (ty := (.int)) (S1 := (sI (sI S22 a0 5 (hI S22 a1 5)) a0 6 (hI ((sI S22 a0 5 (hI S22 a1 5))) a1 6))) hx hb hts hi_X4_copyBoard_X4 tyX4 tyX4_ok nmX4 hown hw hok24 (wF_4 (S := (sI S22 a0 5 (hI S22 a1 5))) hok24.2) rfl (fun b hb9 => wF_sI_ne hb9) 6 (wq_4_6 (S := (sI S22 a0 5 (hI S22 a1 5))) hok24.2 _) rfl (by decide) (hts _ (List.mem_of_getElem? (i := 7) rfl)) (fun _ h9 => h9) rfl (by decide +kernel) rfl rfl (Nat.le_of_ble_eq_true rfl) dX4_copyBoard_56 (fun H locs hw => ?_)
    obtain ⟨S25, hS25, hg⟩ := bd_some hg
    rw [← hS25] at hw
    have hok26 : ok S25 a1 4 := by rw [hS25]; exact hok23
    have hok27 : ok S25 a0 4 := by rw [hS25]; exact hok24
    cases hg
    exact wr_vret hx hb hr hw dX4_copyBoard_59 hlk
  exact B0 S0 _ _ _ hg hw hl
theorem hi_X4_copyAll_X4 : ∀ w ∈ wsX40, w ∈ wsX4_copyAll := fun _ h => List.mem_cons_of_mem _ (List.mem_append_left _ (List.mem_append_right _ (h)))
abbrev rm_X4_copyAll : Room := { frames := 2, cells := 0, slots := 0, locals := 43 }
set_option maxHeartbeats 4000000 in
set_option maxRecDepth 100000 in
theorem c_X4_copyAll (l : Launch) (D : va_G) (C : C3) (N : Nat) (S0 : Hp) (z : Nat) (a0 : Nat) (a1 : Nat) (r : Unit) (S9 : Hp) (hg : f_X4_copyAll N S0 a0 a1 = some (r, S9)) : MetV l yX4_copyAll wsX4_copyAll rm_X4_copyAll D C S0 z [.ref a0, .ref a1] r S9 z 0 0 := by
  refine mw_ofW (cc := cX4_copyAll) (maxL := 2) (ret := none) (lv := [(0, .ref a0), (1, .ref a1)]) (by decide) rfl (Nat.le_of_ble_eq_true rfl) rfl ?_
  intro p e s m below meth c ls hx hb hr hts hown hlk hml hnm hl hw
  have hown : s.vm.findClass RX4 = some m.cls := hown
  have B0 : ∀ (S : Hp) (H : Heap) (locs : List Loc) (ls : Array Slot), f_X4_copyAll N S a0 a1 = some (r, S9) → Wd D C (va_A (wP C S0) z) s.heap S z H locs s → lv_has ls 2 [(0, .ref a0), (1, .ref a1)] → W p l e rm_X4_copyAll s m ([.ref a0, .ref a1] : List Value).toArray below meth c H locs 0 0 (MQ below (QvW D C S0 z r S9 z) ([.ref a0, .ref a1] : List Value).toArray s 0 0 (va_A (wP C S0) z)) (F0 m 0 ls []) := by
    intro S H locs ls hg hw hl
    unfold f_X4_copyAll at hg
    refine lv_aload_n hx hb dX4_copyAll_0 rfl (lv_at hl 0 rfl) ?_
    refine lv_aload_n hx hb dX4_copyAll_1 rfl (lv_at hl 1 rfl) ?_
    obtain ⟨hok10, hg⟩ := gd_some hg
    obtain ⟨⟨⟩, S11, hc11, hg⟩ := cl_some hg
    refine wr_cv (va_runV (As := [.ref a1]) (rest := []) ⟨hx, hb, hml, hown, hts⟩ (c_X4_copyBoard l D C N S z a0 a1 () S11 hc11) (cwV 1 hts gX4_copyAll_X4_copyBoard rfl rfl rfl (by decide +kernel) ⟨Nat.le_of_ble_eq_true rfl, Nat.le_of_ble_eq_true rfl⟩) (wd_preV hw hok10 (wF_4 (S := S) hok10.2) rfl) rfl rfl hl.1 rfl (lv_room (Nat.le_of_ble_eq_true rfl)) dX4_copyAll_2 ⟨Nat.zero_le _, Nat.zero_le _⟩) hw (fun H locs hw => ?_)
    refine lv_aload_n hx hb dX4_copyAll_5 rfl (lv_at hl 0 rfl) ?_
    refine lv_aload_n hx hb dX4_copyAll_6 rfl (lv_at hl 1 rfl) ?_
    obtain ⟨hok12, hg⟩ := gd_some hg
    refine wr_get (K := RX4) (T := TX4) (N := 10) (index := 38) (ref := "MakerLines$State") (v := .int (hI S11 a1 7)) hx hb hts hi_X4_copyAll_X4 hown hw hok12 (wF_4 (S := S11) hok12.2) rfl 7 (by decide) (hts _ (List.mem_of_getElem? (i := 1) rfl)) (fun _ h9 => h9) rfl dX4_copyAll_7 ?_
    obtain ⟨hok13, hg⟩ := gd_some hg
    refine wr_put (K := RX4) (T := TX4) (N := 10) (index := 38) (ref := "MakerLines$State") (ty := (.int)) (S1 := (sI S11 a0 7 (hI S11 a1 7))) hx hb hts hi_X4_copyAll_X4 tyX4 tyX4_ok nmX4 hown hw hok13 (wF_4 (S := S11) hok13.2) rfl (fun b hb9 => wF_sI_ne hb9) 7 (wq_4_7 (S := S11) hok13.2 _) rfl (by decide) (hts _ (List.mem_of_getElem? (i := 1) rfl)) (fun _ h9 => h9) rfl (by decide +kernel) rfl rfl (Nat.le_of_ble_eq_true rfl) dX4_copyAll_10 (fun H locs hw => ?_)
    refine lv_aload_n hx hb dX4_copyAll_13 rfl (lv_at hl 0 rfl) ?_
    refine lv_aload_n hx hb dX4_copyAll_14 rfl (lv_at hl 1 rfl) ?_
    refine wr_get (K := RX4) (T := TX4) (N := 10) (index := 41) (ref := "MakerLines$State") (v := .int (hI ((sI S11 a0 7 (hI S11 a1 7))) a1 8)) hx hb hts hi_X4_copyAll_X4 hown hw hok12 (wF_4 (S := (sI S11 a0 7 (hI S11 a1 7))) hok12.2) rfl 8 (by decide) (hts _ (List.mem_of_getElem? (i := 2) rfl)) (fun _ h9 => h9) rfl dX4_copyAll_15 ?_
    refine wr_put (K := RX4) (T := TX4) (N := 10) (index := 41) (ref := "MakerLines$State") (ty := (.int)) (S1 := (sI (sI S11 a0 7 (hI S11 a1 7)) a0 8 (hI ((sI S11 a0 7 (hI S11 a1 7))) a1 8))) hx hb hts hi_X4_copyAll_X4 tyX4 tyX4_ok nmX4 hown hw hok13 (wF_4 (S := (sI S11 a0 7 (hI S11 a1 7))) hok13.2) rfl (fun b hb9 => wF_sI_ne hb9) 8 (wq_4_8 (S := (sI S11 a0 7 (hI S11 a1 7))) hok13.2 _) rfl (by decide) (hts _ (List.mem_of_getElem? (i := 2) rfl)) (fun _ h9 => h9) rfl (by decide +kernel) rfl rfl (Nat.le_of_ble_eq_true rfl) dX4_copyAll_18 (fun H locs hw => ?_)
    obtain ⟨S14, hS14, hg⟩ := bd_some hg
    rw [← hS14] at hw
    have hok15 : ok S14 a1 4 := by rw [hS14]; exact hok12
    have hok16 : ok S14 a0 4 := by rw [hS14]; exact hok13
    refine lv_aload_n hx hb dX4_copyAll_21 rfl (lv_at hl 0 rfl) ?_
    refine lv_aload_n hx hb dX4_copyAll_22 rfl (lv_at hl 1 rfl) ?_
    refine wr_get (K := RX4) (T := TX4) (N := 10) (index := 44) (ref := "MakerLines$State") (v := .int (hI S14 a1 9)) hx hb hts hi_X4_copyAll_X4 hown hw hok15 (wF_4 (S := S14) hok15.2) rfl 9 (by decide) (hts _ (List.mem_of_getElem? (i := 3) rfl)) (fun _ h9 => h9) rfl dX4_copyAll_23 ?_
    refine wr_put (K := RX4) (T := TX4) (N := 10) (index := 44) (ref := "MakerLines$State") (ty := (.int)) (S1 := (sI S14 a0 9 (hI S14 a1 9))) hx hb hts hi_X4_copyAll_X4 tyX4 tyX4_ok nmX4 hown hw hok16 (wF_4 (S := S14) hok16.2) rfl (fun b hb9 => wF_sI_ne hb9) 9 (wq_4_9 (S := S14) hok16.2 _) rfl (by decide) (hts _ (List.mem_of_getElem? (i := 3) rfl)) (fun _ h9 => h9) rfl (by decide +kernel) rfl rfl (Nat.le_of_ble_eq_true rfl) dX4_copyAll_26 (fun H locs hw => ?_)
    cases hg
    exact wr_vret hx hb hr hw dX4_copyAll_29 hlk
  exact B0 S0 _ _ _ hg hw hl
theorem hi_X0_save_X0 : ∀ w ∈ wsX00, w ∈ wsX0_save := fun _ h => List.mem_cons_of_mem _ (List.mem_append_left _ (List.mem_append_left _ (List.mem_append_right _ (h))))
theorem hi_X0_save_X4 : ∀ w ∈ wsX40, w ∈ wsX0_save := fun _ h => List.mem_cons_of_mem _ (List.mem_append_left _ (List.mem_append_right _ (h)))
abbrev rm_X0_save : Room := { frames := 3, cells := 3, slots := 28, locals := 64 }
set_option maxHeartbeats 4000000 in
set_option maxRecDepth 100000 in
theorem c_X0_save (l : Launch) (D : va_G) (C : C3) (N : Nat) (S0 : Hp) (z0 : Nat) (a0 : Nat) (a1 : Nat) (r : Unit) (S9 : Hp) (z9 : Nat) (hg : f_X0_save N S0 z0 a0 a1 = some (r, S9, z9)) : MetV l yX0_save wsX0_save rm_X0_save D C S0 z0 [.ref a0, .ref a1] r S9 z9 3 28 := by
  refine mw_ofW (cc := cX0_save) (maxL := 3) (ret := none) (lv := [(0, .ref a0), (1, .ref a1)]) (by decide) rfl (Nat.le_of_ble_eq_true rfl) rfl ?_
  intro p e s m below meth c ls hx hb hr hts hown hlk hml hnm hl hw
  have hown : s.vm.findClass RX0 = some m.cls := hown
  have B67 : ∀ (S : Hp) (z : Nat) (p2 : Nat) (H : Heap) (locs : List Loc) (ls : Array Slot), f_X0_save_b67 N a0 a1 S z p2 = some (r, S9, z9) → Wd D C (va_A (wP C S0) z0) s.heap S z H locs s → lv_has ls 3 [(0, .ref a0), (1, .ref a1), (2, .ref p2)] → W p l e rm_X0_save s m ([.ref a0, .ref a1] : List Value).toArray below meth c H locs 3 28 (MQ below (QvW D C S0 z0 r S9 z9) ([.ref a0, .ref a1] : List Value).toArray s 3 28 (va_A (wP C S0) z0)) (F0 m 67 ls []) := by
    intro S z p2 H locs ls hg hw hl
    unfold f_X0_save_b67 at hg
    refine lv_aload_n hx hb dX0_save_67 rfl (lv_at hl 2 rfl) ?_
    refine lv_aload_n hx hb dX0_save_68 rfl (lv_at hl 1 rfl) ?_
    obtain ⟨hok34, hg⟩ := gd_some hg
    obtain ⟨⟨⟩, S35, hc35, hg⟩ := cl_some hg
    refine wr_cv (va_runV (As := [.ref a1]) (rest := []) ⟨hx, hb, hml, hown, hts⟩ (c_X4_copyAll l D C N S z p2 a1 () S35 hc35) (cwV 1 hts gX0_save_X4_copyAll rfl rfl rfl (by decide +kernel) ⟨Nat.le_of_ble_eq_true rfl, Nat.le_of_ble_eq_true rfl⟩) (wd_preV hw hok34 (wF_4 (S := S) hok34.2) rfl) rfl rfl hl.1 rfl (lv_room (Nat.le_of_ble_eq_true rfl)) dX0_save_69 ⟨Nat.le_of_ble_eq_true rfl, Nat.le_of_ble_eq_true rfl⟩) hw (fun H locs hw => ?_)
    refine lv_aload_n hx hb dX0_save_72 rfl (lv_at hl 0 rfl) ?_
    refine lv_dup hx hb dX0_save_73 rfl ?_
    obtain ⟨hok36, hg⟩ := gd_some hg
    refine wr_get (K := RX0) (T := TX0) (N := 2) (index := 17) (ref := "MakerLines$History") (v := .int (hI S35 a0 1)) hx hb hts hi_X0_save_X0 hown hw hok36 (wF_0 (S := S35) hok36.2) rfl 1 (by decide) (hts _ (List.mem_of_getElem? (i := 1) rfl)) (fun _ h9 => h9) rfl dX0_save_74 ?_
    refine lv_iconst (v := (1 : Int32)) hx hb dX0_save_77 (by decide) ?_
    refine lv_iadd hx hb dX0_save_78 ?_
    refine wr_put (K := RX0) (T := TX0) (N := 2) (index := 17) (ref := "MakerLines$History") (ty := (.int)) (S1 := (sI S35 a0 1 ((hI S35 a0 1) + (1 : Int32)))) hx hb hts hi_X0_save_X0 tyX0 tyX0_ok nmX0 hown hw hok36 (wF_0 (S := S35) hok36.2) rfl (fun b hb9 => wF_sI_ne hb9) 1 (wq_0_1 (S := S35) hok36.2 _) rfl (by decide) (hts _ (List.mem_of_getElem? (i := 1) rfl)) (fun _ h9 => h9) rfl (by decide +kernel) rfl rfl (Nat.le_of_ble_eq_true rfl) dX0_save_79 (fun H locs hw => ?_)
    cases hg
    refine W.widen (k := 3) (n := 28) (Nat.le_of_ble_eq_true rfl) (Nat.le_of_ble_eq_true rfl) ?_
    exact wr_vret hx hb hr hw dX0_save_82 hlk
  have B16 : ∀ (S : Hp) (z : Nat) (H : Heap) (locs : List Loc) (ls : Array Slot), f_X0_save_b16 N a0 a1 S z = some (r, S9, z9) → Wd D C (va_A (wP C S0) z0) s.heap S z H locs s → lv_has ls 3 [(0, .ref a0), (1, .ref a1)] → W p l e rm_X0_save s m ([.ref a0, .ref a1] : List Value).toArray below meth c H locs 0 0 (MQ below (QvW D C S0 z0 r S9 z9) ([.ref a0, .ref a1] : List Value).toArray s 3 28 (va_A (wP C S0) z0)) (F0 m 16 ls []) := by
    intro S z H locs ls hg hw hl
    unfold f_X0_save_b16 at hg
    refine lv_aload_n hx hb dX0_save_16 rfl (lv_at hl 0 rfl) ?_
    obtain ⟨hok15, hg⟩ := gd_some hg
    refine wr_get (K := RX0) (T := TX0) (N := 2) (index := 17) (ref := "MakerLines$History") (v := .int (hI S a0 1)) hx hb hts hi_X0_save_X0 hown hw hok15 (wF_0 (S := S) hok15.2) rfl 1 (by decide) (hts _ (List.mem_of_getElem? (i := 1) rfl)) (fun _ h9 => h9) rfl dX0_save_17 ?_
    refine lv_if_lt (tgt := 82) hx hb dX0_save_20 (by decide) (fun c16 => ?_) (fun c16 => ?_)
    · have hg := it_pos hg c16
      cases hg
      refine W.widen (k := 3) (n := 28) (Nat.le_of_ble_eq_true rfl) (Nat.le_of_ble_eq_true rfl) ?_
      exact wr_vret hx hb hr hw dX0_save_82 hlk
    · have hg := it_neg hg c16
      refine lv_aload_n hx hb dX0_save_23 rfl (lv_at hl 0 rfl) ?_
      refine wr_get (K := RX0) (T := TX0) (N := 2) (index := 17) (ref := "MakerLines$History") (v := .int (hI S a0 1)) hx hb hts hi_X0_save_X0 hown hw hok15 (wF_0 (S := S) hok15.2) rfl 1 (by decide) (hts _ (List.mem_of_getElem? (i := 1) rfl)) (fun _ h9 => h9) rfl dX0_save_24 ?_
      refine lv_aload_n hx hb dX0_save_27 rfl (lv_at hl 0 rfl) ?_
      obtain ⟨r17, hr17, hg⟩ := nn_some hg
      refine wr_get (K := RX0) (T := TX0) (N := 2) (index := 11) (ref := "MakerLines$History") (v := .ref r17) hx hb hts hi_X0_save_X0 hown hw hok15 (wF_0 (S := S) hok15.2) rfl 0 (by decide) (hts _ (List.mem_of_getElem? (i := 2) rfl)) (fun _ h9 => h9) (congrArg (fun o => some (va_rf o)) hr17) dX0_save_28 ?_
      obtain ⟨hok18, hg⟩ := gd_some hg
      refine wr_alen9 hx hb hw hok18 dX0_save_31 ?_
      refine lv_icmp_ge (tgt := 82) hx hb dX0_save_32 (by decide) (fun c19 => ?_) (fun c19 => ?_)
      · have hg := it_pos hg c19
        cases hg
        refine W.widen (k := 3) (n := 28) (Nat.le_of_ble_eq_true rfl) (Nat.le_of_ble_eq_true rfl) ?_
        exact wr_vret hx hb hr hw dX0_save_82 hlk
      · have hg := it_neg hg c19
        refine lv_aload_n hx hb dX0_save_35 rfl (lv_at hl 0 rfl) ?_
        refine wr_get (K := RX0) (T := TX0) (N := 2) (index := 11) (ref := "MakerLines$History") (v := .ref r17) hx hb hts hi_X0_save_X0 hown hw hok15 (wF_0 (S := S) hok15.2) rfl 0 (by decide) (hts _ (List.mem_of_getElem? (i := 2) rfl)) (fun _ h9 => h9) (congrArg (fun o => some (va_rf o)) hr17) dX0_save_36 ?_
        refine lv_aload_n hx hb dX0_save_39 rfl (lv_at hl 0 rfl) ?_
        refine wr_get (K := RX0) (T := TX0) (N := 2) (index := 17) (ref := "MakerLines$History") (v := .int (hI S a0 1)) hx hb hts hi_X0_save_X0 hown hw hok15 (wF_0 (S := S) hok15.2) rfl 1 (by decide) (hts _ (List.mem_of_getElem? (i := 1) rfl)) (fun _ h9 => h9) rfl dX0_save_40 ?_
        obtain ⟨hin20, hg⟩ := gd_some hg
        rcases ho21 : (hR S r17 (hI S a0 1).toNatClampNeg) with _ | r21
        · rw [ho21] at hg; have hg := nz_none hg
          refine wr_aald (v := .null) hx hb hw hok18 (inb_vp hin20) (congrArg va_rf ho21) dX0_save_43 ?_
          refine lv_astore_nN (lv' := [(2, .null), (0, .ref a0), (1, .ref a1)]) hx hb dX0_save_44 rfl hl (by decide) rfl (fun ls hl => ?_)
          refine lv_aload_nN hx hb dX0_save_45 rfl (lv_at hl 0 rfl) ?_
          refine lv_ifnonnullN hx hb dX0_save_46 ?_
          refine wr_new (K := RX4) (T := TX4) (N := 10) (ci := 4) (index := 9) (fs := [.null, .int 0, .int 0, .int 0, .int 0, .int 0, .int 0, .int 0, .int 0, .int 0]) hx hb hts hi_X0_save_X4 tyX4 tyX4_ok hown (hts _ (List.mem_of_getElem? (i := 3) rfl)) (hts _ (List.mem_of_getElem? (i := 4) rfl)) (hts _ (List.mem_of_getElem? (i := 5) rfl)) hw rfl wn_4 (fun j hj => by rcases (show j = 0 ∨ j = 1 ∨ j = 2 ∨ j = 3 ∨ j = 4 ∨ j = 5 ∨ j = 6 ∨ j = 7 ∨ j = 8 ∨ j = 9 by omega) with rfl | rfl | rfl | rfl | rfl | rfl | rfl | rfl | rfl | rfl <;> rfl) (Nat.le_of_ble_eq_true rfl) (Nat.le_of_ble_eq_true rfl) dX0_save_49 (fun H hw => ?_)
          refine lv_dup hx hb dX0_save_52 rfl ?_
          obtain ⟨⟨⟩, S23, z23, hc23, hg⟩ := cz_some hg
          refine wr_cv (va_runIN (b := z) (As := []) (rest := [.ref z]) ⟨hx, hb, hml, hown, hts⟩ (c_X4_init l D C N ((sNew S z 4 0)) ((z + 1)) z () S23 z23 hc23) ⟨va_cnB (own := RX0) (index := 24) (host := RX6) 0 hts gX0_save_X4_init_n24 rfl rfl rfl (hw.2.2.2.2.2.2.1 _ (List.mem_of_getElem? (i := 7) rfl)) (hts _ (List.mem_of_getElem? (i := 5) rfl)) (by decide +kernel) ⟨Nat.le_of_ble_eq_true rfl, Nat.le_of_ble_eq_true rfl⟩, rfl, (hts _ (List.mem_of_getElem? (i := 11) rfl))⟩ (wd_preS hw) rfl rfl hl.1 rfl (lv_room (Nat.le_of_ble_eq_true rfl)) dX0_save_53 ⟨Nat.le_of_ble_eq_true rfl, Nat.le_of_ble_eq_true rfl⟩) hw (fun H locs hw => ?_)
          refine lv_astore_n (lv' := [(2, .ref z), (0, .ref a0), (1, .ref a1)]) hx hb dX0_save_56 rfl hl (by decide) rfl (fun ls hl => ?_)
          refine lv_aload_n hx hb dX0_save_57 rfl (lv_at hl 1 rfl) ?_
          obtain ⟨hok24, hg⟩ := gd_some hg
          obtain ⟨r25, hr25, hg⟩ := nn_some hg
          refine wr_get (K := RX0) (T := TX0) (N := 2) (index := 11) (ref := "MakerLines$History") (v := .ref r25) hx hb hts hi_X0_save_X0 hown hw hok24 (wF_0 (S := S23) hok24.2) rfl 0 (by decide) (hts _ (List.mem_of_getElem? (i := 2) rfl)) (fun _ h9 => h9) (congrArg (fun o => some (va_rf o)) hr25) dX0_save_58 ?_
          refine lv_aload_n hx hb dX0_save_61 rfl (lv_at hl 1 rfl) ?_
          refine wr_get (K := RX0) (T := TX0) (N := 2) (index := 17) (ref := "MakerLines$History") (v := .int (hI S23 a0 1)) hx hb hts hi_X0_save_X0 hown hw hok24 (wF_0 (S := S23) hok24.2) rfl 1 (by decide) (hts _ (List.mem_of_getElem? (i := 1) rfl)) (fun _ h9 => h9) rfl dX0_save_62 ?_
          refine lv_aload_n hx hb dX0_save_65 rfl (lv_at hl 0 rfl) ?_
          obtain ⟨hok26, hg⟩ := gd_some hg
          obtain ⟨hin27, hg⟩ := gd_some hg
          obtain ⟨hok28, hg⟩ := gd_some hg
          refine wr_aast hx hb hw hok26 hok28 (inb_vp hin27) dX0_save_66 (fun H locs hw => ?_)
          obtain ⟨S29, hS29, hg⟩ := bd_some hg
          rw [← hS29] at hw
          have hok30 : ok S29 a0 0 := by rw [hS29]; exact hok24
          have hok31 : ok S29 r25 9 := by rw [hS29]; exact hok26
          have hin32 : inb (hI S23 a0 1) (hN S29 r25) := by rw [hS29]; exact hin27
          have hok33 : ok S29 z 4 := by rw [hS29]; exact hok28
          exact B67 _ _ _ _ _ _ hg hw (lv_sub hl [1, 2, 0] rfl)
        · rw [ho21] at hg; have hg := nz_one hg
          refine wr_aald (v := .ref r21) hx hb hw hok18 (inb_vp hin20) (congrArg va_rf ho21) dX0_save_43 ?_
          refine lv_astore_n (lv' := [(2, .ref r21), (0, .ref a0), (1, .ref a1)]) hx hb dX0_save_44 rfl hl (by decide) rfl (fun ls hl => ?_)
          refine lv_aload_n hx hb dX0_save_45 rfl (lv_at hl 0 rfl) ?_
          refine lv_ifnonnull (tgt := 67) hx hb dX0_save_46 (by decide) ?_
          refine W.widen (k := 3) (n := 28) (Nat.le_of_ble_eq_true rfl) (Nat.le_of_ble_eq_true rfl) ?_
          exact B67 _ _ _ _ _ _ hg hw (lv_sub hl [1, 2, 0] rfl)
  have B0 : ∀ (S : Hp) (z : Nat) (H : Heap) (locs : List Loc) (ls : Array Slot), f_X0_save N S z a0 a1 = some (r, S9, z9) → Wd D C (va_A (wP C S0) z0) s.heap S z H locs s → lv_has ls 3 [(0, .ref a0), (1, .ref a1)] → W p l e rm_X0_save s m ([.ref a0, .ref a1] : List Value).toArray below meth c H locs 0 0 (MQ below (QvW D C S0 z0 r S9 z9) ([.ref a0, .ref a1] : List Value).toArray s 3 28 (va_A (wP C S0) z0)) (F0 m 0 ls []) := by
    intro S z H locs ls hg hw hl
    unfold f_X0_save at hg
    refine lv_aload_n hx hb dX0_save_0 rfl (lv_at hl 0 rfl) ?_
    obtain ⟨hok10, hg⟩ := gd_some hg
    refine wr_get (K := RX0) (T := TX0) (N := 2) (index := 17) (ref := "MakerLines$History") (v := .int (hI S a0 1)) hx hb hts hi_X0_save_X0 hown hw hok10 (wF_0 (S := S) hok10.2) rfl 1 (by decide) (hts _ (List.mem_of_getElem? (i := 1) rfl)) (fun _ h9 => h9) rfl dX0_save_1 ?_
    refine lv_aload_n hx hb dX0_save_4 rfl (lv_at hl 0 rfl) ?_
    obtain ⟨r11, hr11, hg⟩ := nn_some hg
    refine wr_get (K := RX0) (T := TX0) (N := 2) (index := 11) (ref := "MakerLines$History") (v := .ref r11) hx hb hts hi_X0_save_X0 hown hw hok10 (wF_0 (S := S) hok10.2) rfl 0 (by decide) (hts _ (List.mem_of_getElem? (i := 2) rfl)) (fun _ h9 => h9) (congrArg (fun o => some (va_rf o)) hr11) dX0_save_5 ?_
    obtain ⟨hok12, hg⟩ := gd_some hg
    refine wr_alen9 hx hb hw hok12 dX0_save_8 ?_
    refine lv_icmp_lt (tgt := 16) hx hb dX0_save_9 (by decide) (fun c13 => ?_) (fun c13 => ?_)
    · have hg := it_pos hg c13
      exact B16 _ _ _ _ _ hg hw (lv_sub hl [0, 1] rfl)
    · have hg := it_neg hg c13
      refine lv_aload_n hx hb dX0_save_12 rfl (lv_at hl 0 rfl) ?_
      obtain ⟨⟨⟩, S14, hc14, hg⟩ := cl_some hg
      refine wr_cv (va_runV (As := []) (rest := []) ⟨hx, hb, hml, hown, hts⟩ (c_X0_dropOldest l D C N S z a0 () S14 hc14) (cwV 0 hts gX0_save_X0_dropOldest rfl rfl rfl (by decide +kernel) ⟨Nat.le_of_ble_eq_true rfl, Nat.le_of_ble_eq_true rfl⟩) (wd_preV hw hok10 (wF_0 (S := S) hok10.2) rfl) rfl rfl hl.1 rfl (lv_room (Nat.le_of_ble_eq_true rfl)) dX0_save_13 ⟨Nat.le_of_ble_eq_true rfl, Nat.le_of_ble_eq_true rfl⟩) hw (fun H locs hw => ?_)
      exact B16 _ _ _ _ _ hg hw (lv_sub hl [0, 1] rfl)
  exact B0 S0 z0 _ _ _ hg hw hl
theorem hi_X1_has_X1 : ∀ w ∈ wsX10, w ∈ wsX1_has := fun _ h => List.mem_cons_of_mem _ (List.mem_append_right _ (h))
abbrev rm_X1_has : Room := { frames := 0, cells := 0, slots := 0, locals := 0 }
set_option maxHeartbeats 4000000 in
set_option maxRecDepth 100000 in
theorem c_X1_has (l : Launch) (D : va_G) (C : C3) (N : Nat) (S0 : Hp) (z : Nat) (a0 : Nat) (x1 : Int32) (r : Int32) (S9 : Hp) (hg : f_X1_has N S0 a0 x1 = some (r, S9)) : MetI l yX1_has wsX1_has rm_X1_has D C S0 z [.ref a0, .int x1] r S9 z 0 0 := by
  refine mw_ofW (cc := cX1_has) (maxL := 2) (ret := (some .boolean)) (lv := [(0, .ref a0), (1, .int x1)]) (by decide) rfl (Nat.le_of_ble_eq_true rfl) rfl ?_
  intro p e s m below meth c ls hx hb hr hts hown hlk hml hnm hl hw
  have hown : s.vm.findClass RX1 = some m.cls := hown
  have B0 : ∀ (S : Hp) (H : Heap) (locs : List Loc) (ls : Array Slot), f_X1_has N S a0 x1 = some (r, S9) → Wd D C (va_A (wP C S0) z) s.heap S z H locs s → lv_has ls 2 [(0, .ref a0), (1, .int x1)] → W p l e rm_X1_has s m ([.ref a0, .int x1] : List Value).toArray below meth c H locs 0 0 (MQ below (QiW D C S0 z r S9 z) ([.ref a0, .int x1] : List Value).toArray s 0 0 (va_A (wP C S0) z)) (F0 m 0 ls []) := by
    intro S H locs ls hg hw hl
    unfold f_X1_has at hg
    refine lv_iload_n hx hb dX1_has_0 rfl (lv_at hl 1 rfl) ?_
    refine lv_if_lt (tgt := 25) hx hb dX1_has_1 (by decide) (fun c10 => ?_) (fun c10 => ?_)
    · have hg := it_pos hg c10
      refine lv_iconst (v := (0 : Int32)) hx hb dX1_has_25 (by decide) ?_
      cases hg
      exact wr_zret hx hb hr (by decide) hw dX1_has_26 hlk
    · have hg := it_neg hg c10
      refine lv_iload_n hx hb dX1_has_4 rfl (lv_at hl 1 rfl) ?_
      refine lv_aload_n hx hb dX1_has_5 rfl (lv_at hl 0 rfl) ?_
      obtain ⟨hok11, hg⟩ := gd_some hg
      refine wr_get (K := RX1) (T := TX1) (N := 6) (index := 15) (ref := "MakerLines$Lines") (v := .int (hI S a0 1)) hx hb hts hi_X1_has_X1 hown hw hok11 (wF_1 (S := S) hok11.2) rfl 1 (by decide) (hts _ (List.mem_of_getElem? (i := 1) rfl)) (fun _ h9 => h9) rfl dX1_has_6 ?_
      refine lv_icmp_ge (tgt := 25) hx hb dX1_has_9 (by decide) (fun c12 => ?_) (fun c12 => ?_)
      · have hg := it_pos hg c12
        refine lv_iconst (v := (0 : Int32)) hx hb dX1_has_25 (by decide) ?_
        cases hg
        exact wr_zret hx hb hr (by decide) hw dX1_has_26 hlk
      · have hg := it_neg hg c12
        refine lv_iload_n hx hb dX1_has_12 rfl (lv_at hl 1 rfl) ?_
        refine lv_aload_n hx hb dX1_has_13 rfl (lv_at hl 0 rfl) ?_
        obtain ⟨r13, hr13, hg⟩ := nn_some hg
        refine wr_get (K := RX1) (T := TX1) (N := 6) (index := 9) (ref := "MakerLines$Lines") (v := .ref r13) hx hb hts hi_X1_has_X1 hown hw hok11 (wF_1 (S := S) hok11.2) rfl 0 (by decide) (hts _ (List.mem_of_getElem? (i := 2) rfl)) (fun _ h9 => h9) (congrArg (fun o => some (va_rf o)) hr13) dX1_has_14 ?_
        obtain ⟨hok14, hg⟩ := gd_some hg
        refine wr_alen8 hx hb hw hok14 dX1_has_17 ?_
        refine lv_icmp_ge (tgt := 25) hx hb dX1_has_18 (by decide) (fun c15 => ?_) (fun c15 => ?_)
        · have hg := it_pos hg c15
          refine lv_iconst (v := (0 : Int32)) hx hb dX1_has_25 (by decide) ?_
          cases hg
          exact wr_zret hx hb hr (by decide) hw dX1_has_26 hlk
        · have hg := it_neg hg c15
          refine lv_iconst (v := (1 : Int32)) hx hb dX1_has_21 (by decide) ?_
          refine lv_goto (tgt := 26) hx hb dX1_has_22 (by decide) ?_
          cases hg
          exact wr_zret hx hb hr (by decide) hw dX1_has_26 hlk
  exact B0 S0 _ _ _ hg hw hl
theorem hi_X1_maskOf_X1 : ∀ w ∈ wsX10, w ∈ wsX1_maskOf := fun _ h => List.mem_cons_of_mem _ (List.mem_append_right _ (h))
abbrev rm_X1_maskOf : Room := { frames := 0, cells := 0, slots := 0, locals := 0 }
set_option maxHeartbeats 4000000 in
set_option maxRecDepth 100000 in
theorem c_X1_maskOf (l : Launch) (D : va_G) (C : C3) (N : Nat) (S0 : Hp) (z : Nat) (a0 : Nat) (x1 : Int32) (r : Int32) (S9 : Hp) (hg : f_X1_maskOf N S0 a0 x1 = some (r, S9)) : MetI l yX1_maskOf wsX1_maskOf rm_X1_maskOf D C S0 z [.ref a0, .int x1] r S9 z 0 0 := by
  refine mw_ofW (cc := cX1_maskOf) (maxL := 2) (ret := (some .int)) (lv := [(0, .ref a0), (1, .int x1)]) (by decide) rfl (Nat.le_of_ble_eq_true rfl) rfl ?_
  intro p e s m below meth c ls hx hb hr hts hown hlk hml hnm hl hw
  have hown : s.vm.findClass RX1 = some m.cls := hown
  have B0 : ∀ (S : Hp) (H : Heap) (locs : List Loc) (ls : Array Slot), f_X1_maskOf N S a0 x1 = some (r, S9) → Wd D C (va_A (wP C S0) z) s.heap S z H locs s → lv_has ls 2 [(0, .ref a0), (1, .int x1)] → W p l e rm_X1_maskOf s m ([.ref a0, .int x1] : List Value).toArray below meth c H locs 0 0 (MQ below (QiW D C S0 z r S9 z) ([.ref a0, .int x1] : List Value).toArray s 0 0 (va_A (wP C S0) z)) (F0 m 0 ls []) := by
    intro S H locs ls hg hw hl
    unfold f_X1_maskOf at hg
    refine lv_iload_n hx hb dX1_maskOf_0 rfl (lv_at hl 1 rfl) ?_
    refine lv_if_lt (tgt := 30) hx hb dX1_maskOf_1 (by decide) (fun c10 => ?_) (fun c10 => ?_)
    · have hg := it_pos hg c10
      refine lv_iconst (v := (0 : Int32)) hx hb dX1_maskOf_30 (by decide) ?_
      cases hg
      exact wr_iret hx hb hr hw dX1_maskOf_31 hlk
    · have hg := it_neg hg c10
      refine lv_iload_n hx hb dX1_maskOf_4 rfl (lv_at hl 1 rfl) ?_
      refine lv_aload_n hx hb dX1_maskOf_5 rfl (lv_at hl 0 rfl) ?_
      obtain ⟨hok11, hg⟩ := gd_some hg
      refine wr_get (K := RX1) (T := TX1) (N := 6) (index := 15) (ref := "MakerLines$Lines") (v := .int (hI S a0 1)) hx hb hts hi_X1_maskOf_X1 hown hw hok11 (wF_1 (S := S) hok11.2) rfl 1 (by decide) (hts _ (List.mem_of_getElem? (i := 1) rfl)) (fun _ h9 => h9) rfl dX1_maskOf_6 ?_
      refine lv_icmp_ge (tgt := 30) hx hb dX1_maskOf_9 (by decide) (fun c12 => ?_) (fun c12 => ?_)
      · have hg := it_pos hg c12
        refine lv_iconst (v := (0 : Int32)) hx hb dX1_maskOf_30 (by decide) ?_
        cases hg
        exact wr_iret hx hb hr hw dX1_maskOf_31 hlk
      · have hg := it_neg hg c12
        refine lv_iload_n hx hb dX1_maskOf_12 rfl (lv_at hl 1 rfl) ?_
        refine lv_aload_n hx hb dX1_maskOf_13 rfl (lv_at hl 0 rfl) ?_
        obtain ⟨r13, hr13, hg⟩ := nn_some hg
        refine wr_get (K := RX1) (T := TX1) (N := 6) (index := 9) (ref := "MakerLines$Lines") (v := .ref r13) hx hb hts hi_X1_maskOf_X1 hown hw hok11 (wF_1 (S := S) hok11.2) rfl 0 (by decide) (hts _ (List.mem_of_getElem? (i := 2) rfl)) (fun _ h9 => h9) (congrArg (fun o => some (va_rf o)) hr13) dX1_maskOf_14 ?_
        obtain ⟨hok14, hg⟩ := gd_some hg
        refine wr_alen8 hx hb hw hok14 dX1_maskOf_17 ?_
        refine lv_icmp_ge (tgt := 30) hx hb dX1_maskOf_18 (by decide) (fun c15 => ?_) (fun c15 => ?_)
        · have hg := it_pos hg c15
          refine lv_iconst (v := (0 : Int32)) hx hb dX1_maskOf_30 (by decide) ?_
          cases hg
          exact wr_iret hx hb hr hw dX1_maskOf_31 hlk
        · have hg := it_neg hg c15
          refine lv_aload_n hx hb dX1_maskOf_21 rfl (lv_at hl 0 rfl) ?_
          refine wr_get (K := RX1) (T := TX1) (N := 6) (index := 9) (ref := "MakerLines$Lines") (v := .ref r13) hx hb hts hi_X1_maskOf_X1 hown hw hok11 (wF_1 (S := S) hok11.2) rfl 0 (by decide) (hts _ (List.mem_of_getElem? (i := 2) rfl)) (fun _ h9 => h9) (congrArg (fun o => some (va_rf o)) hr13) dX1_maskOf_22 ?_
          refine lv_iload_n hx hb dX1_maskOf_25 rfl (lv_at hl 1 rfl) ?_
          obtain ⟨hin16, hg⟩ := gd_some hg
          refine wr_iald hx hb hw hok14 (inb_vp hin16) dX1_maskOf_26 ?_
          refine lv_goto (tgt := 31) hx hb dX1_maskOf_27 (by decide) ?_
          cases hg
          exact wr_iret hx hb hr hw dX1_maskOf_31 hlk
  exact B0 S0 _ _ _ hg hw hl
theorem hi_X1_put_X1 : ∀ w ∈ wsX10, w ∈ wsX1_put := fun _ h => List.mem_cons_of_mem _ (List.mem_append_right _ (h))
abbrev rm_X1_put : Room := { frames := 0, cells := 0, slots := 0, locals := 0 }
set_option maxHeartbeats 4000000 in
set_option maxRecDepth 100000 in
theorem c_X1_put (l : Launch) (D : va_G) (C : C3) (N : Nat) (S0 : Hp) (z : Nat) (a0 : Nat) (x1 : Int32) (r : Unit) (S9 : Hp) (hg : f_X1_put N S0 a0 x1 = some (r, S9)) : MetV l yX1_put wsX1_put rm_X1_put D C S0 z [.ref a0, .int x1] r S9 z 0 0 := by
  refine mw_ofW (cc := cX1_put) (maxL := 2) (ret := none) (lv := [(0, .ref a0), (1, .int x1)]) (by decide) rfl (Nat.le_of_ble_eq_true rfl) rfl ?_
  intro p e s m below meth c ls hx hb hr hts hown hlk hml hnm hl hw
  have hown : s.vm.findClass RX1 = some m.cls := hown
  have B0 : ∀ (S : Hp) (H : Heap) (locs : List Loc) (ls : Array Slot), f_X1_put N S a0 x1 = some (r, S9) → Wd D C (va_A (wP C S0) z) s.heap S z H locs s → lv_has ls 2 [(0, .ref a0), (1, .int x1)] → W p l e rm_X1_put s m ([.ref a0, .int x1] : List Value).toArray below meth c H locs 0 0 (MQ below (QvW D C S0 z r S9 z) ([.ref a0, .int x1] : List Value).toArray s 0 0 (va_A (wP C S0) z)) (F0 m 0 ls []) := by
    intro S H locs ls hg hw hl
    unfold f_X1_put at hg
    refine lv_aload_n hx hb dX1_put_0 rfl (lv_at hl 0 rfl) ?_
    obtain ⟨hok10, hg⟩ := gd_some hg
    refine wr_get (K := RX1) (T := TX1) (N := 6) (index := 15) (ref := "MakerLines$Lines") (v := .int (hI S a0 1)) hx hb hts hi_X1_put_X1 hown hw hok10 (wF_1 (S := S) hok10.2) rfl 1 (by decide) (hts _ (List.mem_of_getElem? (i := 1) rfl)) (fun _ h9 => h9) rfl dX1_put_1 ?_
    refine lv_if_lt (tgt := 39) hx hb dX1_put_4 (by decide) (fun c11 => ?_) (fun c11 => ?_)
    · have hg := it_pos hg c11
      cases hg
      exact wr_vret hx hb hr hw dX1_put_39 hlk
    · have hg := it_neg hg c11
      refine lv_aload_n hx hb dX1_put_7 rfl (lv_at hl 0 rfl) ?_
      refine wr_get (K := RX1) (T := TX1) (N := 6) (index := 15) (ref := "MakerLines$Lines") (v := .int (hI S a0 1)) hx hb hts hi_X1_put_X1 hown hw hok10 (wF_1 (S := S) hok10.2) rfl 1 (by decide) (hts _ (List.mem_of_getElem? (i := 1) rfl)) (fun _ h9 => h9) rfl dX1_put_8 ?_
      refine lv_aload_n hx hb dX1_put_11 rfl (lv_at hl 0 rfl) ?_
      obtain ⟨r12, hr12, hg⟩ := nn_some hg
      refine wr_get (K := RX1) (T := TX1) (N := 6) (index := 9) (ref := "MakerLines$Lines") (v := .ref r12) hx hb hts hi_X1_put_X1 hown hw hok10 (wF_1 (S := S) hok10.2) rfl 0 (by decide) (hts _ (List.mem_of_getElem? (i := 2) rfl)) (fun _ h9 => h9) (congrArg (fun o => some (va_rf o)) hr12) dX1_put_12 ?_
      obtain ⟨hok13, hg⟩ := gd_some hg
      refine wr_alen8 hx hb hw hok13 dX1_put_15 ?_
      refine lv_icmp_ge (tgt := 39) hx hb dX1_put_16 (by decide) (fun c14 => ?_) (fun c14 => ?_)
      · have hg := it_pos hg c14
        cases hg
        exact wr_vret hx hb hr hw dX1_put_39 hlk
      · have hg := it_neg hg c14
        refine lv_aload_n hx hb dX1_put_19 rfl (lv_at hl 0 rfl) ?_
        refine wr_get (K := RX1) (T := TX1) (N := 6) (index := 9) (ref := "MakerLines$Lines") (v := .ref r12) hx hb hts hi_X1_put_X1 hown hw hok10 (wF_1 (S := S) hok10.2) rfl 0 (by decide) (hts _ (List.mem_of_getElem? (i := 2) rfl)) (fun _ h9 => h9) (congrArg (fun o => some (va_rf o)) hr12) dX1_put_20 ?_
        refine lv_aload_n hx hb dX1_put_23 rfl (lv_at hl 0 rfl) ?_
        refine wr_get (K := RX1) (T := TX1) (N := 6) (index := 15) (ref := "MakerLines$Lines") (v := .int (hI S a0 1)) hx hb hts hi_X1_put_X1 hown hw hok10 (wF_1 (S := S) hok10.2) rfl 1 (by decide) (hts _ (List.mem_of_getElem? (i := 1) rfl)) (fun _ h9 => h9) rfl dX1_put_24 ?_
        refine lv_iload_n hx hb dX1_put_27 rfl (lv_at hl 1 rfl) ?_
        obtain ⟨hin15, hg⟩ := gd_some hg
        refine wr_iast hx hb hw hok13 (inb_vp hin15) dX1_put_28 (fun H locs hw => ?_)
        refine lv_aload_n hx hb dX1_put_29 rfl (lv_at hl 0 rfl) ?_
        refine lv_dup hx hb dX1_put_30 rfl ?_
        refine wr_get (K := RX1) (T := TX1) (N := 6) (index := 15) (ref := "MakerLines$Lines") (v := .int (hI ((sI S r12 (hI S a0 1).toNatClampNeg x1)) a0 1)) hx hb hts hi_X1_put_X1 hown hw hok10 (wF_1 (S := (sI S r12 (hI S a0 1).toNatClampNeg x1)) hok10.2) rfl 1 (by decide) (hts _ (List.mem_of_getElem? (i := 1) rfl)) (fun _ h9 => h9) rfl dX1_put_31 ?_
        refine lv_iconst (v := (1 : Int32)) hx hb dX1_put_34 (by decide) ?_
        refine lv_iadd hx hb dX1_put_35 ?_
        refine wr_put (K := RX1) (T := TX1) (N := 6) (index := 15) (ref := "MakerLines$Lines") (ty := (.int)) (S1 := (sI (sI S r12 (hI S a0 1).toNatClampNeg x1) a0 1 ((hI ((sI S r12 (hI S a0 1).toNatClampNeg x1)) a0 1) + (1 : Int32)))) hx hb hts hi_X1_put_X1 tyX1 tyX1_ok nmX1 hown hw hok10 (wF_1 (S := (sI S r12 (hI S a0 1).toNatClampNeg x1)) hok10.2) rfl (fun b hb9 => wF_sI_ne hb9) 1 (wq_1_1 (S := (sI S r12 (hI S a0 1).toNatClampNeg x1)) hok10.2 _) rfl (by decide) (hts _ (List.mem_of_getElem? (i := 1) rfl)) (fun _ h9 => h9) rfl (by decide +kernel) rfl rfl (Nat.le_of_ble_eq_true rfl) dX1_put_36 (fun H locs hw => ?_)
        obtain ⟨S16, hS16, hg⟩ := bd_some hg
        rw [← hS16] at hw
        have hok17 : ok S16 a0 1 := by rw [hS16]; exact hok10
        have hr18 : hR S16 a0 0 = some r12 := by rw [hS16]; exact hr12
        have hok19 : ok S16 r12 8 := by rw [hS16]; exact hok13
        have hin20 : inb (hI S a0 1) (hN S16 r12) := by rw [hS16]; exact hin15
        cases hg
        exact wr_vret hx hb hr hw dX1_put_39 hlk
  exact B0 S0 _ _ _ hg hw hl
theorem hi_X1_drop_X1 : ∀ w ∈ wsX10, w ∈ wsX1_drop := fun _ h => List.mem_cons_of_mem _ (List.mem_append_right _ (h))
abbrev rm_X1_drop : Room := { frames := 1, cells := 0, slots := 0, locals := 21 }
set_option maxHeartbeats 4000000 in
set_option maxRecDepth 100000 in
theorem c_X1_drop (l : Launch) (D : va_G) (C : C3) (N : Nat) (S0 : Hp) (z : Nat) (a0 : Nat) (x1 : Int32) (r : Unit) (S9 : Hp) (hg : f_X1_drop N S0 a0 x1 = some (r, S9)) : MetV l yX1_drop wsX1_drop rm_X1_drop D C S0 z [.ref a0, .int x1] r S9 z 0 0 := by
  refine mw_ofW (cc := cX1_drop) (maxL := 3) (ret := none) (lv := [(0, .ref a0), (1, .int x1)]) (by decide) rfl (Nat.le_of_ble_eq_true rfl) rfl ?_
  intro p e s m below meth c ls hx hb hr hts hown hlk hml hnm hl hw
  have hown : s.vm.findClass RX1 = some m.cls := hown
  have B49 : ∀ (S : Hp) (H : Heap) (locs : List Loc) (ls : Array Slot), f_X1_drop_b49 N a0 x1 S = some (r, S9) → Wd D C (va_A (wP C S0) z) s.heap S z H locs s → lv_has ls 3 [(0, .ref a0)] → W p l e rm_X1_drop s m ([.ref a0, .int x1] : List Value).toArray below meth c H locs 0 0 (MQ below (QvW D C S0 z r S9 z) ([.ref a0, .int x1] : List Value).toArray s 0 0 (va_A (wP C S0) z)) (F0 m 49 ls []) := by
    intro S H locs ls hg hw hl
    unfold f_X1_drop_b49 at hg
    refine lv_aload_n hx hb dX1_drop_49 rfl (lv_at hl 0 rfl) ?_
    refine lv_dup hx hb dX1_drop_50 rfl ?_
    obtain ⟨hok26, hg⟩ := gd_some hg
    refine wr_get (K := RX1) (T := TX1) (N := 6) (index := 15) (ref := "MakerLines$Lines") (v := .int (hI S a0 1)) hx hb hts hi_X1_drop_X1 hown hw hok26 (wF_1 (S := S) hok26.2) rfl 1 (by decide) (hts _ (List.mem_of_getElem? (i := 1) rfl)) (fun _ h9 => h9) rfl dX1_drop_51 ?_
    refine lv_iconst (v := (1 : Int32)) hx hb dX1_drop_54 (by decide) ?_
    refine lv_isub hx hb dX1_drop_55 ?_
    refine wr_put (K := RX1) (T := TX1) (N := 6) (index := 15) (ref := "MakerLines$Lines") (ty := (.int)) (S1 := (sI S a0 1 ((hI S a0 1) - (1 : Int32)))) hx hb hts hi_X1_drop_X1 tyX1 tyX1_ok nmX1 hown hw hok26 (wF_1 (S := S) hok26.2) rfl (fun b hb9 => wF_sI_ne hb9) 1 (wq_1_1 (S := S) hok26.2 _) rfl (by decide) (hts _ (List.mem_of_getElem? (i := 1) rfl)) (fun _ h9 => h9) rfl (by decide +kernel) rfl rfl (Nat.le_of_ble_eq_true rfl) dX1_drop_56 (fun H locs hw => ?_)
    cases hg
    exact wr_vret hx hb hr hw dX1_drop_59 hlk
  have B12 : ∀ (K12 : Hp → Int32 → Option (Unit × Hp)) (hK12 : ∀ (S : Hp) (v2 : Int32) (H : Heap) (locs : List Loc) (ls : Array Slot), K12 S v2 = some (r, S9) → Wd D C (va_A (wP C S0) z) s.heap S z H locs s → lv_has ls 3 [(0, .ref a0), (2, .int v2)] → W p l e rm_X1_drop s m ([.ref a0, .int x1] : List Value).toArray below meth c H locs 0 0 (MQ below (QvW D C S0 z r S9 z) ([.ref a0, .int x1] : List Value).toArray s 0 0 (va_A (wP C S0) z)) (F0 m 12 ls [])) (S : Hp) (v2 : Int32) (H : Heap) (locs : List Loc) (ls : Array Slot), f_X1_drop_b12 N a0 x1 K12 S v2 = some (r, S9) → Wd D C (va_A (wP C S0) z) s.heap S z H locs s → lv_has ls 3 [(0, .ref a0), (2, .int v2)] → W p l e rm_X1_drop s m ([.ref a0, .int x1] : List Value).toArray below meth c H locs 0 0 (MQ below (QvW D C S0 z r S9 z) ([.ref a0, .int x1] : List Value).toArray s 0 0 (va_A (wP C S0) z)) (F0 m 12 ls []) := by
    intro K12 hK12 S v2 H locs ls hg hw hl
    unfold f_X1_drop_b12 at hg
    refine lv_iload_n hx hb dX1_drop_12 rfl (lv_at hl 1 rfl) ?_
    refine lv_aload_n hx hb dX1_drop_13 rfl (lv_at hl 0 rfl) ?_
    obtain ⟨hok13, hg⟩ := gd_some hg
    refine wr_get (K := RX1) (T := TX1) (N := 6) (index := 15) (ref := "MakerLines$Lines") (v := .int (hI S a0 1)) hx hb hts hi_X1_drop_X1 hown hw hok13 (wF_1 (S := S) hok13.2) rfl 1 (by decide) (hts _ (List.mem_of_getElem? (i := 1) rfl)) (fun _ h9 => h9) rfl dX1_drop_14 ?_
    refine lv_icmp_ge (tgt := 49) hx hb dX1_drop_17 (by decide) (fun c14 => ?_) (fun c14 => ?_)
    · have hg := it_pos hg c14
      exact B49 _ _ _ _ hg hw (lv_sub hl [0] rfl)
    · have hg := it_neg hg c14
      refine lv_iload_n hx hb dX1_drop_20 rfl (lv_at hl 1 rfl) ?_
      refine lv_aload_n hx hb dX1_drop_21 rfl (lv_at hl 0 rfl) ?_
      obtain ⟨r15, hr15, hg⟩ := nn_some hg
      refine wr_get (K := RX1) (T := TX1) (N := 6) (index := 9) (ref := "MakerLines$Lines") (v := .ref r15) hx hb hts hi_X1_drop_X1 hown hw hok13 (wF_1 (S := S) hok13.2) rfl 0 (by decide) (hts _ (List.mem_of_getElem? (i := 2) rfl)) (fun _ h9 => h9) (congrArg (fun o => some (va_rf o)) hr15) dX1_drop_22 ?_
      obtain ⟨hok16, hg⟩ := gd_some hg
      refine wr_alen8 hx hb hw hok16 dX1_drop_25 ?_
      refine lv_icmp_ge (tgt := 49) hx hb dX1_drop_26 (by decide) (fun c17 => ?_) (fun c17 => ?_)
      · have hg := it_pos hg c17
        exact B49 _ _ _ _ hg hw (lv_sub hl [0] rfl)
      · have hg := it_neg hg c17
        refine lv_aload_n hx hb dX1_drop_29 rfl (lv_at hl 0 rfl) ?_
        refine wr_get (K := RX1) (T := TX1) (N := 6) (index := 9) (ref := "MakerLines$Lines") (v := .ref r15) hx hb hts hi_X1_drop_X1 hown hw hok13 (wF_1 (S := S) hok13.2) rfl 0 (by decide) (hts _ (List.mem_of_getElem? (i := 2) rfl)) (fun _ h9 => h9) (congrArg (fun o => some (va_rf o)) hr15) dX1_drop_30 ?_
        refine lv_iload_n hx hb dX1_drop_33 rfl (lv_at hl 1 rfl) ?_
        refine lv_iconst (v := (1 : Int32)) hx hb dX1_drop_34 (by decide) ?_
        refine lv_isub hx hb dX1_drop_35 ?_
        refine lv_aload_n hx hb dX1_drop_36 rfl (lv_at hl 0 rfl) ?_
        refine wr_get (K := RX1) (T := TX1) (N := 6) (index := 9) (ref := "MakerLines$Lines") (v := .ref r15) hx hb hts hi_X1_drop_X1 hown hw hok13 (wF_1 (S := S) hok13.2) rfl 0 (by decide) (hts _ (List.mem_of_getElem? (i := 2) rfl)) (fun _ h9 => h9) (congrArg (fun o => some (va_rf o)) hr15) dX1_drop_37 ?_
        refine lv_iload_n hx hb dX1_drop_40 rfl (lv_at hl 1 rfl) ?_
        obtain ⟨hin18, hg⟩ := gd_some hg
        refine wr_iald hx hb hw hok16 (inb_vp hin18) dX1_drop_41 ?_
        obtain ⟨hin19, hg⟩ := gd_some hg
        refine wr_iast hx hb hw hok16 (inb_vp hin19) dX1_drop_42 (fun H locs hw => ?_)
        obtain ⟨S20, hS20, hg⟩ := bd_some hg
        rw [← hS20] at hw
        have hok21 : ok S20 a0 1 := by rw [hS20]; exact hok13
        have hr22 : hR S20 a0 0 = some r15 := by rw [hS20]; exact hr15
        have hok23 : ok S20 r15 8 := by rw [hS20]; exact hok16
        have hin24 : inb v2 (hN S20 r15) := by rw [hS20]; exact hin18
        have hin25 : inb (v2 - (1 : Int32)) (hN S20 r15) := by rw [hS20]; exact hin19
        refine lv_iinc (v := (v2 + (1 : Int32))) (lv' := [(2, .int (v2 + (1 : Int32))), (0, .ref a0)]) hx hb dX1_drop_43 hl (k := 1) rfl rfl (by decide) rfl (fun ls hl => ?_)
        refine lv_goto (tgt := 12) hx hb dX1_drop_46 (by decide) ?_
        exact hK12 _ _ _ _ _ hg hw (lv_sub hl [1, 0] rfl)
  have L12 : ∀ (k : Nat) (S : Hp) (v2 : Int32) (H : Heap) (locs : List Loc) (ls : Array Slot), f_X1_drop_l12 N a0 x1 k S v2 = some (r, S9) → Wd D C (va_A (wP C S0) z) s.heap S z H locs s → lv_has ls 3 [(0, .ref a0), (2, .int v2)] → W p l e rm_X1_drop s m ([.ref a0, .int x1] : List Value).toArray below meth c H locs 0 0 (MQ below (QvW D C S0 z r S9 z) ([.ref a0, .int x1] : List Value).toArray s 0 0 (va_A (wP C S0) z)) (F0 m 12 ls []) := by
    intro k
    induction k with
    | zero => intro S v2 H locs ls hg hw hl; exact absurd (show (none : Option (Unit × Hp)) = some (r, S9) from hg) (by simp)
    | succ k ih => intro S v2 H locs ls hg hw hl; exact B12 (f_X1_drop_l12 N a0 x1 k) ih S v2 H locs ls hg hw hl
  have B0 : ∀ (S : Hp) (H : Heap) (locs : List Loc) (ls : Array Slot), f_X1_drop N S a0 x1 = some (r, S9) → Wd D C (va_A (wP C S0) z) s.heap S z H locs s → lv_has ls 3 [(0, .ref a0), (1, .int x1)] → W p l e rm_X1_drop s m ([.ref a0, .int x1] : List Value).toArray below meth c H locs 0 0 (MQ below (QvW D C S0 z r S9 z) ([.ref a0, .int x1] : List Value).toArray s 0 0 (va_A (wP C S0) z)) (F0 m 0 ls []) := by
    intro S H locs ls hg hw hl
    unfold f_X1_drop at hg
    refine lv_aload_n hx hb dX1_drop_0 rfl (lv_at hl 0 rfl) ?_
    refine lv_iload_n hx hb dX1_drop_1 rfl (lv_at hl 1 rfl) ?_
    obtain ⟨hok10, hg⟩ := gd_some hg
    obtain ⟨r11, S11, hc11, hg⟩ := cl_some hg
    refine wr_ci (va_runV (As := [.int x1]) (rest := []) ⟨hx, hb, hml, hown, hts⟩ (c_X1_has l D C N S z a0 x1 r11 S11 hc11) (cwV 1 hts gX1_drop_X1_has rfl rfl rfl (by decide +kernel) ⟨Nat.le_of_ble_eq_true rfl, Nat.le_of_ble_eq_true rfl⟩) (wd_preV hw hok10 (wF_1 (S := S) hok10.2) rfl) rfl rfl hl.1 rfl (lv_room (Nat.le_of_ble_eq_true rfl)) dX1_drop_2 ⟨Nat.zero_le _, Nat.zero_le _⟩) hw (fun H locs hw => ?_)
    refine lv_if_eq (tgt := 59) hx hb dX1_drop_5 (by decide) (fun c12 => ?_) (fun c12 => ?_)
    · have hg := it_pos hg c12
      cases hg
      exact wr_vret hx hb hr hw dX1_drop_59 hlk
    · have hg := it_neg hg c12
      refine lv_iload_n hx hb dX1_drop_8 rfl (lv_at hl 1 rfl) ?_
      refine lv_iconst (v := (1 : Int32)) hx hb dX1_drop_9 (by decide) ?_
      refine lv_iadd hx hb dX1_drop_10 ?_
      refine lv_istore_n (lv' := [(2, .int (x1 + (1 : Int32))), (0, .ref a0), (1, .int x1)]) hx hb dX1_drop_11 rfl hl (by decide) rfl (fun ls hl => ?_)
      exact L12 N _ _ _ _ _ hg hw (lv_sub hl [1, 0] rfl)
  exact B0 S0 _ _ _ hg hw hl
theorem hi_X1_areSame_X1 : ∀ w ∈ wsX10, w ∈ wsX1_areSame := fun _ h => List.mem_cons_of_mem _ (List.mem_append_right _ (h))
abbrev rm_X1_areSame : Room := { frames := 0, cells := 0, slots := 0, locals := 0 }
set_option maxHeartbeats 4000000 in
set_option maxRecDepth 100000 in
theorem c_X1_areSame (l : Launch) (D : va_G) (C : C3) (N : Nat) (S0 : Hp) (z : Nat) (a0 : Nat) (a1 : Nat) (r : Int32) (S9 : Hp) (hg : f_X1_areSame N S0 a0 a1 = some (r, S9)) : MetI l yX1_areSame wsX1_areSame rm_X1_areSame D C S0 z [.ref a0, .ref a1] r S9 z 0 0 := by
  refine mw_ofW (cc := cX1_areSame) (maxL := 3) (ret := (some .boolean)) (lv := [(0, .ref a0), (1, .ref a1)]) (by decide) rfl (Nat.le_of_ble_eq_true rfl) rfl ?_
  intro p e s m below meth c ls hx hb hr hts hown hlk hml hnm hl hw
  have hown : s.vm.findClass RX1 = some m.cls := hown
  have B15 : ∀ (K15 : Hp → Int32 → Option (Int32 × Hp)) (hK15 : ∀ (S : Hp) (v2 : Int32) (H : Heap) (locs : List Loc) (ls : Array Slot), K15 S v2 = some (r, S9) → Wd D C (va_A (wP C S0) z) s.heap S z H locs s → lv_has ls 3 [(0, .ref a0), (1, .ref a1), (2, .int v2)] → W p l e rm_X1_areSame s m ([.ref a0, .ref a1] : List Value).toArray below meth c H locs 0 0 (MQ below (QiW D C S0 z r S9 z) ([.ref a0, .ref a1] : List Value).toArray s 0 0 (va_A (wP C S0) z)) (F0 m 15 ls [])) (S : Hp) (v2 : Int32) (H : Heap) (locs : List Loc) (ls : Array Slot), f_X1_areSame_b15 N a0 a1 K15 S v2 = some (r, S9) → Wd D C (va_A (wP C S0) z) s.heap S z H locs s → lv_has ls 3 [(0, .ref a0), (1, .ref a1), (2, .int v2)] → W p l e rm_X1_areSame s m ([.ref a0, .ref a1] : List Value).toArray below meth c H locs 0 0 (MQ below (QiW D C S0 z r S9 z) ([.ref a0, .ref a1] : List Value).toArray s 0 0 (va_A (wP C S0) z)) (F0 m 15 ls []) := by
    intro K15 hK15 S v2 H locs ls hg hw hl
    unfold f_X1_areSame_b15 at hg
    refine lv_iload_n hx hb dX1_areSame_15 rfl (lv_at hl 2 rfl) ?_
    refine lv_aload_n hx hb dX1_areSame_16 rfl (lv_at hl 0 rfl) ?_
    obtain ⟨hok13, hg⟩ := gd_some hg
    refine wr_get (K := RX1) (T := TX1) (N := 6) (index := 15) (ref := "MakerLines$Lines") (v := .int (hI S a0 1)) hx hb hts hi_X1_areSame_X1 hown hw hok13 (wF_1 (S := S) hok13.2) rfl 1 (by decide) (hts _ (List.mem_of_getElem? (i := 1) rfl)) (fun _ h9 => h9) rfl dX1_areSame_17 ?_
    refine lv_icmp_ge (tgt := 64) hx hb dX1_areSame_20 (by decide) (fun c14 => ?_) (fun c14 => ?_)
    · have hg := it_pos hg c14
      refine lv_iconst (v := (1 : Int32)) hx hb dX1_areSame_64 (by decide) ?_
      cases hg
      exact wr_zret hx hb hr (by decide) hw dX1_areSame_65 hlk
    · have hg := it_neg hg c14
      refine lv_iload_n hx hb dX1_areSame_23 rfl (lv_at hl 2 rfl) ?_
      refine lv_aload_n hx hb dX1_areSame_24 rfl (lv_at hl 0 rfl) ?_
      obtain ⟨r15, hr15, hg⟩ := nn_some hg
      refine wr_get (K := RX1) (T := TX1) (N := 6) (index := 9) (ref := "MakerLines$Lines") (v := .ref r15) hx hb hts hi_X1_areSame_X1 hown hw hok13 (wF_1 (S := S) hok13.2) rfl 0 (by decide) (hts _ (List.mem_of_getElem? (i := 2) rfl)) (fun _ h9 => h9) (congrArg (fun o => some (va_rf o)) hr15) dX1_areSame_25 ?_
      obtain ⟨hok16, hg⟩ := gd_some hg
      refine wr_alen8 hx hb hw hok16 dX1_areSame_28 ?_
      refine lv_icmp_ge (tgt := 64) hx hb dX1_areSame_29 (by decide) (fun c17 => ?_) (fun c17 => ?_)
      · have hg := it_pos hg c17
        refine lv_iconst (v := (1 : Int32)) hx hb dX1_areSame_64 (by decide) ?_
        cases hg
        exact wr_zret hx hb hr (by decide) hw dX1_areSame_65 hlk
      · have hg := it_neg hg c17
        refine lv_iload_n hx hb dX1_areSame_32 rfl (lv_at hl 2 rfl) ?_
        refine lv_aload_n hx hb dX1_areSame_33 rfl (lv_at hl 1 rfl) ?_
        obtain ⟨hok18, hg⟩ := gd_some hg
        obtain ⟨r19, hr19, hg⟩ := nn_some hg
        refine wr_get (K := RX1) (T := TX1) (N := 6) (index := 9) (ref := "MakerLines$Lines") (v := .ref r19) hx hb hts hi_X1_areSame_X1 hown hw hok18 (wF_1 (S := S) hok18.2) rfl 0 (by decide) (hts _ (List.mem_of_getElem? (i := 2) rfl)) (fun _ h9 => h9) (congrArg (fun o => some (va_rf o)) hr19) dX1_areSame_34 ?_
        obtain ⟨hok20, hg⟩ := gd_some hg
        refine wr_alen8 hx hb hw hok20 dX1_areSame_37 ?_
        refine lv_icmp_ge (tgt := 64) hx hb dX1_areSame_38 (by decide) (fun c21 => ?_) (fun c21 => ?_)
        · have hg := it_pos hg c21
          refine lv_iconst (v := (1 : Int32)) hx hb dX1_areSame_64 (by decide) ?_
          cases hg
          exact wr_zret hx hb hr (by decide) hw dX1_areSame_65 hlk
        · have hg := it_neg hg c21
          refine lv_aload_n hx hb dX1_areSame_41 rfl (lv_at hl 0 rfl) ?_
          refine wr_get (K := RX1) (T := TX1) (N := 6) (index := 9) (ref := "MakerLines$Lines") (v := .ref r15) hx hb hts hi_X1_areSame_X1 hown hw hok13 (wF_1 (S := S) hok13.2) rfl 0 (by decide) (hts _ (List.mem_of_getElem? (i := 2) rfl)) (fun _ h9 => h9) (congrArg (fun o => some (va_rf o)) hr15) dX1_areSame_42 ?_
          refine lv_iload_n hx hb dX1_areSame_45 rfl (lv_at hl 2 rfl) ?_
          obtain ⟨hin22, hg⟩ := gd_some hg
          refine wr_iald hx hb hw hok16 (inb_vp hin22) dX1_areSame_46 ?_
          refine lv_aload_n hx hb dX1_areSame_47 rfl (lv_at hl 1 rfl) ?_
          refine wr_get (K := RX1) (T := TX1) (N := 6) (index := 9) (ref := "MakerLines$Lines") (v := .ref r19) hx hb hts hi_X1_areSame_X1 hown hw hok18 (wF_1 (S := S) hok18.2) rfl 0 (by decide) (hts _ (List.mem_of_getElem? (i := 2) rfl)) (fun _ h9 => h9) (congrArg (fun o => some (va_rf o)) hr19) dX1_areSame_48 ?_
          refine lv_iload_n hx hb dX1_areSame_51 rfl (lv_at hl 2 rfl) ?_
          obtain ⟨hin23, hg⟩ := gd_some hg
          refine wr_iald hx hb hw hok20 (inb_vp hin23) dX1_areSame_52 ?_
          refine lv_icmp_eq (tgt := 58) hx hb dX1_areSame_53 (by decide) (fun c24 => ?_) (fun c24 => ?_)
          · have hg := it_pos hg c24
            refine lv_iinc (v := (v2 + (1 : Int32))) (lv' := [(2, .int (v2 + (1 : Int32))), (0, .ref a0), (1, .ref a1)]) hx hb dX1_areSame_58 hl (k := 2) rfl rfl (by decide) rfl (fun ls hl => ?_)
            refine lv_goto (tgt := 15) hx hb dX1_areSame_61 (by decide) ?_
            exact hK15 _ _ _ _ _ hg hw (lv_sub hl [1, 2, 0] rfl)
          · have hg := it_neg hg c24
            refine lv_iconst (v := (0 : Int32)) hx hb dX1_areSame_56 (by decide) ?_
            cases hg
            exact wr_zret hx hb hr (by decide) hw dX1_areSame_57 hlk
  have L15 : ∀ (k : Nat) (S : Hp) (v2 : Int32) (H : Heap) (locs : List Loc) (ls : Array Slot), f_X1_areSame_l15 N a0 a1 k S v2 = some (r, S9) → Wd D C (va_A (wP C S0) z) s.heap S z H locs s → lv_has ls 3 [(0, .ref a0), (1, .ref a1), (2, .int v2)] → W p l e rm_X1_areSame s m ([.ref a0, .ref a1] : List Value).toArray below meth c H locs 0 0 (MQ below (QiW D C S0 z r S9 z) ([.ref a0, .ref a1] : List Value).toArray s 0 0 (va_A (wP C S0) z)) (F0 m 15 ls []) := by
    intro k
    induction k with
    | zero => intro S v2 H locs ls hg hw hl; exact absurd (show (none : Option (Int32 × Hp)) = some (r, S9) from hg) (by simp)
    | succ k ih => intro S v2 H locs ls hg hw hl; exact B15 (f_X1_areSame_l15 N a0 a1 k) ih S v2 H locs ls hg hw hl
  have B0 : ∀ (S : Hp) (H : Heap) (locs : List Loc) (ls : Array Slot), f_X1_areSame N S a0 a1 = some (r, S9) → Wd D C (va_A (wP C S0) z) s.heap S z H locs s → lv_has ls 3 [(0, .ref a0), (1, .ref a1)] → W p l e rm_X1_areSame s m ([.ref a0, .ref a1] : List Value).toArray below meth c H locs 0 0 (MQ below (QiW D C S0 z r S9 z) ([.ref a0, .ref a1] : List Value).toArray s 0 0 (va_A (wP C S0) z)) (F0 m 0 ls []) := by
    intro S H locs ls hg hw hl
    unfold f_X1_areSame at hg
    refine lv_aload_n hx hb dX1_areSame_0 rfl (lv_at hl 0 rfl) ?_
    obtain ⟨hok10, hg⟩ := gd_some hg
    refine wr_get (K := RX1) (T := TX1) (N := 6) (index := 15) (ref := "MakerLines$Lines") (v := .int (hI S a0 1)) hx hb hts hi_X1_areSame_X1 hown hw hok10 (wF_1 (S := S) hok10.2) rfl 1 (by decide) (hts _ (List.mem_of_getElem? (i := 1) rfl)) (fun _ h9 => h9) rfl dX1_areSame_1 ?_
    refine lv_aload_n hx hb dX1_areSame_4 rfl (lv_at hl 1 rfl) ?_
    obtain ⟨hok11, hg⟩ := gd_some hg
    refine wr_get (K := RX1) (T := TX1) (N := 6) (index := 15) (ref := "MakerLines$Lines") (v := .int (hI S a1 1)) hx hb hts hi_X1_areSame_X1 hown hw hok11 (wF_1 (S := S) hok11.2) rfl 1 (by decide) (hts _ (List.mem_of_getElem? (i := 1) rfl)) (fun _ h9 => h9) rfl dX1_areSame_5 ?_
    refine lv_icmp_eq (tgt := 13) hx hb dX1_areSame_8 (by decide) (fun c12 => ?_) (fun c12 => ?_)
    · have hg := it_pos hg c12
      refine lv_iconst (v := (0 : Int32)) hx hb dX1_areSame_13 (by decide) ?_
      refine lv_istore_n (lv' := [(2, .int (0 : Int32)), (0, .ref a0), (1, .ref a1)]) hx hb dX1_areSame_14 rfl hl (by decide) rfl (fun ls hl => ?_)
      exact L15 N _ _ _ _ _ hg hw (lv_sub hl [1, 2, 0] rfl)
    · have hg := it_neg hg c12
      refine lv_iconst (v := (0 : Int32)) hx hb dX1_areSame_11 (by decide) ?_
      cases hg
      exact wr_zret hx hb hr (by decide) hw dX1_areSame_12 hlk
  exact B0 S0 _ _ _ hg hw hl
theorem hi_X1_survey_X1 : ∀ w ∈ wsX10, w ∈ wsX1_survey := fun _ h => List.mem_cons_of_mem _ (List.mem_append_right _ (h))
abbrev rm_X1_survey : Room := { frames := 1, cells := 0, slots := 0, locals := 20 }
set_option maxHeartbeats 4000000 in
set_option maxRecDepth 100000 in
theorem c_X1_survey (l : Launch) (D : va_G) (C : C3) (N : Nat) (S0 : Hp) (z : Nat) (a0 : Nat) (x1 : Int32) (x2 : Int32) (r : Unit) (S9 : Hp) (hg : f_X1_survey N S0 a0 x1 x2 = some (r, S9)) : MetV l yX1_survey wsX1_survey rm_X1_survey D C S0 z [.ref a0, .int x1, .int x2] r S9 z 0 0 := by
  refine mw_ofW (cc := cX1_survey) (maxL := 7) (ret := none) (lv := [(0, .ref a0), (1, .int x1), (2, .int x2)]) (by decide) rfl (Nat.le_of_ble_eq_true rfl) rfl ?_
  intro p e s m below meth c ls hx hb hr hts hown hlk hml hnm hl hw
  have hown : s.vm.findClass RX1 = some m.cls := hown
  have B167 : ∀ (S : Hp) (s0 : Int32) (s1 : Nat) (H : Heap) (locs : List Loc) (ls : Array Slot), f_X1_survey_b167 N a0 x1 x2 S s0 s1 = some (r, S9) → Wd D C (va_A (wP C S0) z) s.heap S z H locs s → lv_has ls 7 [] → W p l e rm_X1_survey s m ([.ref a0, .int x1, .int x2] : List Value).toArray below meth c H locs 0 0 (MQ below (QvW D C S0 z r S9 z) ([.ref a0, .int x1, .int x2] : List Value).toArray s 0 0 (va_A (wP C S0) z)) (F0 m 167 ls [.int s0, .ref s1]) := by
    intro S s0 s1 H locs ls hg hw hl
    unfold f_X1_survey_b167 at hg
    obtain ⟨hok36, hg⟩ := gd_some hg
    refine wr_put (K := RX1) (T := TX1) (N := 6) (index := 19) (ref := "MakerLines$Lines") (ty := (.int)) (S1 := (sI S s1 2 s0)) hx hb hts hi_X1_survey_X1 tyX1 tyX1_ok nmX1 hown hw hok36 (wF_1 (S := S) hok36.2) rfl (fun b hb9 => wF_sI_ne hb9) 2 (wq_1_2 (S := S) hok36.2 _) rfl (by decide) (hts _ (List.mem_of_getElem? (i := 6) rfl)) (fun _ h9 => h9) rfl (by decide +kernel) rfl rfl (Nat.le_of_ble_eq_true rfl) dX1_survey_167 (fun H locs hw => ?_)
    cases hg
    exact wr_vret hx hb hr hw dX1_survey_170 hlk
  have B151 : ∀ (S : Hp) (v3 : Int32) (s0 : Int32) (s1 : Nat) (H : Heap) (locs : List Loc) (ls : Array Slot), f_X1_survey_b151 N a0 x1 x2 S v3 s0 s1 = some (r, S9) → Wd D C (va_A (wP C S0) z) s.heap S z H locs s → lv_has ls 7 [(0, .ref a0), (3, .int v3)] → W p l e rm_X1_survey s m ([.ref a0, .int x1, .int x2] : List Value).toArray below meth c H locs 0 0 (MQ below (QvW D C S0 z r S9 z) ([.ref a0, .int x1, .int x2] : List Value).toArray s 0 0 (va_A (wP C S0) z)) (F0 m 151 ls [.int s0, .ref s1]) := by
    intro S v3 s0 s1 H locs ls hg hw hl
    unfold f_X1_survey_b151 at hg
    obtain ⟨hok32, hg⟩ := gd_some hg
    refine wr_put (K := RX1) (T := TX1) (N := 6) (index := 19) (ref := "MakerLines$Lines") (ty := (.int)) (S1 := (sI S s1 2 s0)) hx hb hts hi_X1_survey_X1 tyX1 tyX1_ok nmX1 hown hw hok32 (wF_1 (S := S) hok32.2) rfl (fun b hb9 => wF_sI_ne hb9) 2 (wq_1_2 (S := S) hok32.2 _) rfl (by decide) (hts _ (List.mem_of_getElem? (i := 6) rfl)) (fun _ h9 => h9) rfl (by decide +kernel) rfl rfl (Nat.le_of_ble_eq_true rfl) dX1_survey_151 (fun H locs hw => ?_)
    refine lv_aload_n hx hb dX1_survey_154 rfl (lv_at hl 0 rfl) ?_
    refine lv_iload_n hx hb dX1_survey_155 rfl (lv_at hl 1 rfl) ?_
    refine lv_if_eq (tgt := 163) hx hb dX1_survey_156 (by decide) (fun c33 => ?_) (fun c33 => ?_)
    · have hg := it_pos hg c33
      refine lv_aload_n hx hb dX1_survey_163 rfl (lv_at hl 0 rfl) ?_
      obtain ⟨hok34, hg⟩ := gd_some hg
      refine wr_get (K := RX1) (T := TX1) (N := 6) (index := 19) (ref := "MakerLines$Lines") (v := .int (hI ((sI S s1 2 s0)) a0 2)) hx hb hts hi_X1_survey_X1 hown hw hok34 (wF_1 (S := (sI S s1 2 s0)) hok34.2) rfl 2 (by decide) (hts _ (List.mem_of_getElem? (i := 6) rfl)) (fun _ h9 => h9) rfl dX1_survey_164 ?_
      exact B167 _ _ _ _ _ _ hg hw (lv_sub hl [] rfl)
    · have hg := it_neg hg c33
      refine lv_iconst (v := (1 : Int32)) hx hb dX1_survey_159 (by decide) ?_
      refine lv_goto (tgt := 167) hx hb dX1_survey_160 (by decide) ?_
      exact B167 _ _ _ _ _ _ hg hw (lv_sub hl [] rfl)
  have B138 : ∀ (S : Hp) (v3 : Int32) (H : Heap) (locs : List Loc) (ls : Array Slot), f_X1_survey_b138 N a0 x1 x2 S v3 = some (r, S9) → Wd D C (va_A (wP C S0) z) s.heap S z H locs s → lv_has ls 7 [(0, .ref a0), (3, .int v3)] → W p l e rm_X1_survey s m ([.ref a0, .int x1, .int x2] : List Value).toArray below meth c H locs 0 0 (MQ below (QvW D C S0 z r S9 z) ([.ref a0, .int x1, .int x2] : List Value).toArray s 0 0 (va_A (wP C S0) z)) (F0 m 138 ls []) := by
    intro S v3 H locs ls hg hw hl
    unfold f_X1_survey_b138 at hg
    refine lv_aload_n hx hb dX1_survey_138 rfl (lv_at hl 0 rfl) ?_
    refine lv_aload_n hx hb dX1_survey_139 rfl (lv_at hl 0 rfl) ?_
    obtain ⟨hok28, hg⟩ := gd_some hg
    refine wr_get (K := RX1) (T := TX1) (N := 6) (index := 22) (ref := "MakerLines$Lines") (v := .int (hI S a0 3)) hx hb hts hi_X1_survey_X1 hown hw hok28 (wF_1 (S := S) hok28.2) rfl 3 (by decide) (hts _ (List.mem_of_getElem? (i := 1) rfl)) (fun _ h9 => h9) rfl dX1_survey_140 ?_
    refine lv_if_ne (tgt := 150) hx hb dX1_survey_143 (by decide) (fun c29 => ?_) (fun c29 => ?_)
    · have hg := it_neg hg c29
      refine lv_iconst (v := (0 : Int32)) hx hb dX1_survey_150 (by decide) ?_
      exact B151 _ _ _ _ _ _ _ hg hw (lv_sub hl [0, 1] rfl)
    · have hg := it_pos hg c29
      refine lv_iconst (v := (2 : Int32)) hx hb dX1_survey_146 (by decide) ?_
      refine lv_goto (tgt := 151) hx hb dX1_survey_147 (by decide) ?_
      exact B151 _ _ _ _ _ _ _ hg hw (lv_sub hl [0, 1] rfl)
  have B128 : ∀ (K20 : Hp → Int32 → Int32 → Option (Unit × Hp)) (hK20 : ∀ (S : Hp) (v3 : Int32) (v4 : Int32) (H : Heap) (locs : List Loc) (ls : Array Slot), K20 S v3 v4 = some (r, S9) → Wd D C (va_A (wP C S0) z) s.heap S z H locs s → lv_has ls 7 [(0, .ref a0), (1, .int x1), (2, .int x2), (3, .int v3), (4, .int v4)] → W p l e rm_X1_survey s m ([.ref a0, .int x1, .int x2] : List Value).toArray below meth c H locs 0 0 (MQ below (QvW D C S0 z r S9 z) ([.ref a0, .int x1, .int x2] : List Value).toArray s 0 0 (va_A (wP C S0) z)) (F0 m 20 ls [])) (S : Hp) (v3 : Int32) (v4 : Int32) (s0 : Int32) (s1 : Int32) (s2 : Nat) (H : Heap) (locs : List Loc) (ls : Array Slot), f_X1_survey_b128 N a0 x1 x2 K20 S v3 v4 s0 s1 s2 = some (r, S9) → Wd D C (va_A (wP C S0) z) s.heap S z H locs s → lv_has ls 7 [(0, .ref a0), (1, .int x1), (2, .int x2), (3, .int v3), (4, .int v4)] → W p l e rm_X1_survey s m ([.ref a0, .int x1, .int x2] : List Value).toArray below meth c H locs 0 0 (MQ below (QvW D C S0 z r S9 z) ([.ref a0, .int x1, .int x2] : List Value).toArray s 0 0 (va_A (wP C S0) z)) (F0 m 128 ls [.int s0, .int s1, .ref s2]) := by
    intro K20 hK20 S v3 v4 s0 s1 s2 H locs ls hg hw hl
    unfold f_X1_survey_b128 at hg
    refine lv_ior hx hb dX1_survey_128 ?_
    obtain ⟨hok35, hg⟩ := gd_some hg
    refine wr_put (K := RX1) (T := TX1) (N := 6) (index := 28) (ref := "MakerLines$Lines") (ty := (.int)) (S1 := (sI S s2 5 (s1 ||| s0))) hx hb hts hi_X1_survey_X1 tyX1 tyX1_ok nmX1 hown hw hok35 (wF_1 (S := S) hok35.2) rfl (fun b hb9 => wF_sI_ne hb9) 5 (wq_1_5 (S := S) hok35.2 _) rfl (by decide) (hts _ (List.mem_of_getElem? (i := 3) rfl)) (fun _ h9 => h9) rfl (by decide +kernel) rfl rfl (Nat.le_of_ble_eq_true rfl) dX1_survey_129 (fun H locs hw => ?_)
    refine lv_iinc (v := (v4 + (1 : Int32))) (lv' := [(4, .int (v4 + (1 : Int32))), (0, .ref a0), (1, .int x1), (2, .int x2), (3, .int v3)]) hx hb dX1_survey_132 hl (k := 4) rfl rfl (by decide) rfl (fun ls hl => ?_)
    refine lv_goto (tgt := 20) hx hb dX1_survey_135 (by decide) ?_
    exact hK20 _ _ _ _ _ _ hg hw (lv_sub hl [1, 2, 3, 4, 0] rfl)
  have B110 : ∀ (K20 : Hp → Int32 → Int32 → Option (Unit × Hp)) (hK20 : ∀ (S : Hp) (v3 : Int32) (v4 : Int32) (H : Heap) (locs : List Loc) (ls : Array Slot), K20 S v3 v4 = some (r, S9) → Wd D C (va_A (wP C S0) z) s.heap S z H locs s → lv_has ls 7 [(0, .ref a0), (1, .int x1), (2, .int x2), (3, .int v3), (4, .int v4)] → W p l e rm_X1_survey s m ([.ref a0, .int x1, .int x2] : List Value).toArray below meth c H locs 0 0 (MQ below (QvW D C S0 z r S9 z) ([.ref a0, .int x1, .int x2] : List Value).toArray s 0 0 (va_A (wP C S0) z)) (F0 m 20 ls [])) (S : Hp) (v4 : Int32) (v5 : Int32) (v6 : Int32) (s0 : Int32) (H : Heap) (locs : List Loc) (ls : Array Slot), f_X1_survey_b110 N a0 x1 x2 K20 S v4 v5 v6 s0 = some (r, S9) → Wd D C (va_A (wP C S0) z) s.heap S z H locs s → lv_has ls 7 [(0, .ref a0), (1, .int x1), (2, .int x2), (4, .int v4), (5, .int v5), (6, .int v6)] → W p l e rm_X1_survey s m ([.ref a0, .int x1, .int x2] : List Value).toArray below meth c H locs 0 0 (MQ below (QvW D C S0 z r S9 z) ([.ref a0, .int x1, .int x2] : List Value).toArray s 0 0 (va_A (wP C S0) z)) (F0 m 110 ls [.int s0]) := by
    intro K20 hK20 S v4 v5 v6 s0 H locs ls hg hw hl
    unfold f_X1_survey_b110 at hg
    refine lv_istore_n (lv' := [(3, .int s0), (0, .ref a0), (1, .int x1), (2, .int x2), (4, .int v4), (5, .int v5), (6, .int v6)]) hx hb dX1_survey_110 rfl hl (by decide) rfl (fun ls hl => ?_)
    refine lv_aload_n hx hb dX1_survey_111 rfl (lv_at hl 1 rfl) ?_
    refine lv_dup hx hb dX1_survey_112 rfl ?_
    obtain ⟨hok30, hg⟩ := gd_some hg
    refine wr_get (K := RX1) (T := TX1) (N := 6) (index := 28) (ref := "MakerLines$Lines") (v := .int (hI S a0 5)) hx hb hts hi_X1_survey_X1 hown hw hok30 (wF_1 (S := S) hok30.2) rfl 5 (by decide) (hts _ (List.mem_of_getElem? (i := 3) rfl)) (fun _ h9 => h9) rfl dX1_survey_113 ?_
    refine lv_iload hx hb dX1_survey_116 (lv_at hl 6 rfl) ?_
    refine lv_iconst (v := (1 : Int32)) hx hb dX1_survey_118 (by decide) ?_
    refine lv_icmp_ne (tgt := 127) hx hb dX1_survey_119 (by decide) (fun c31 => ?_) (fun c31 => ?_)
    · have hg := it_neg hg c31
      refine lv_iconst (v := (0 : Int32)) hx hb dX1_survey_127 (by decide) ?_
      exact B128 K20 hK20 _ _ _ _ _ _ _ _ _ hg hw (lv_sub hl [1, 2, 3, 0, 4] rfl)
    · have hg := it_pos hg c31
      refine lv_iload hx hb dX1_survey_122 (lv_at hl 5 rfl) ?_
      refine lv_goto (tgt := 128) hx hb dX1_survey_124 (by decide) ?_
      exact B128 K20 hK20 _ _ _ _ _ _ _ _ _ hg hw (lv_sub hl [1, 2, 3, 0, 4] rfl)
  have B105 : ∀ (K20 : Hp → Int32 → Int32 → Option (Unit × Hp)) (hK20 : ∀ (S : Hp) (v3 : Int32) (v4 : Int32) (H : Heap) (locs : List Loc) (ls : Array Slot), K20 S v3 v4 = some (r, S9) → Wd D C (va_A (wP C S0) z) s.heap S z H locs s → lv_has ls 7 [(0, .ref a0), (1, .int x1), (2, .int x2), (3, .int v3), (4, .int v4)] → W p l e rm_X1_survey s m ([.ref a0, .int x1, .int x2] : List Value).toArray below meth c H locs 0 0 (MQ below (QvW D C S0 z r S9 z) ([.ref a0, .int x1, .int x2] : List Value).toArray s 0 0 (va_A (wP C S0) z)) (F0 m 20 ls [])) (S : Hp) (v4 : Int32) (v5 : Int32) (v6 : Int32) (H : Heap) (locs : List Loc) (ls : Array Slot), f_X1_survey_b105 N a0 x1 x2 K20 S v4 v5 v6 = some (r, S9) → Wd D C (va_A (wP C S0) z) s.heap S z H locs s → lv_has ls 7 [(0, .ref a0), (1, .int x1), (2, .int x2), (4, .int v4), (5, .int v5), (6, .int v6)] → W p l e rm_X1_survey s m ([.ref a0, .int x1, .int x2] : List Value).toArray below meth c H locs 0 0 (MQ below (QvW D C S0 z r S9 z) ([.ref a0, .int x1, .int x2] : List Value).toArray s 0 0 (va_A (wP C S0) z)) (F0 m 105 ls []) := by
    intro K20 hK20 S v4 v5 v6 H locs ls hg hw hl
    unfold f_X1_survey_b105 at hg
    refine lv_iconst (v := (1 : Int32)) hx hb dX1_survey_105 (by decide) ?_
    refine lv_goto (tgt := 110) hx hb dX1_survey_106 (by decide) ?_
    exact B110 K20 hK20 _ _ _ _ _ _ _ _ hg hw (lv_sub hl [0, 1, 2, 3, 4, 5] rfl)
  have B20 : ∀ (K20 : Hp → Int32 → Int32 → Option (Unit × Hp)) (hK20 : ∀ (S : Hp) (v3 : Int32) (v4 : Int32) (H : Heap) (locs : List Loc) (ls : Array Slot), K20 S v3 v4 = some (r, S9) → Wd D C (va_A (wP C S0) z) s.heap S z H locs s → lv_has ls 7 [(0, .ref a0), (1, .int x1), (2, .int x2), (3, .int v3), (4, .int v4)] → W p l e rm_X1_survey s m ([.ref a0, .int x1, .int x2] : List Value).toArray below meth c H locs 0 0 (MQ below (QvW D C S0 z r S9 z) ([.ref a0, .int x1, .int x2] : List Value).toArray s 0 0 (va_A (wP C S0) z)) (F0 m 20 ls [])) (S : Hp) (v3 : Int32) (v4 : Int32) (H : Heap) (locs : List Loc) (ls : Array Slot), f_X1_survey_b20 N a0 x1 x2 K20 S v3 v4 = some (r, S9) → Wd D C (va_A (wP C S0) z) s.heap S z H locs s → lv_has ls 7 [(0, .ref a0), (1, .int x1), (2, .int x2), (3, .int v3), (4, .int v4)] → W p l e rm_X1_survey s m ([.ref a0, .int x1, .int x2] : List Value).toArray below meth c H locs 0 0 (MQ below (QvW D C S0 z r S9 z) ([.ref a0, .int x1, .int x2] : List Value).toArray s 0 0 (va_A (wP C S0) z)) (F0 m 20 ls []) := by
    intro K20 hK20 S v3 v4 H locs ls hg hw hl
    unfold f_X1_survey_b20 at hg
    refine lv_iload hx hb dX1_survey_20 (lv_at hl 4 rfl) ?_
    refine lv_aload_n hx hb dX1_survey_22 rfl (lv_at hl 0 rfl) ?_
    obtain ⟨hok13, hg⟩ := gd_some hg
    refine wr_get (K := RX1) (T := TX1) (N := 6) (index := 15) (ref := "MakerLines$Lines") (v := .int (hI S a0 1)) hx hb hts hi_X1_survey_X1 hown hw hok13 (wF_1 (S := S) hok13.2) rfl 1 (by decide) (hts _ (List.mem_of_getElem? (i := 4) rfl)) (fun _ h9 => h9) rfl dX1_survey_23 ?_
    refine lv_icmp_ge (tgt := 138) hx hb dX1_survey_26 (by decide) (fun c14 => ?_) (fun c14 => ?_)
    · have hg := it_pos hg c14
      exact B138 _ _ _ _ _ hg hw (lv_sub hl [0, 3] rfl)
    · have hg := it_neg hg c14
      refine lv_iload hx hb dX1_survey_29 (lv_at hl 4 rfl) ?_
      refine lv_aload_n hx hb dX1_survey_31 rfl (lv_at hl 0 rfl) ?_
      obtain ⟨r15, hr15, hg⟩ := nn_some hg
      refine wr_get (K := RX1) (T := TX1) (N := 6) (index := 9) (ref := "MakerLines$Lines") (v := .ref r15) hx hb hts hi_X1_survey_X1 hown hw hok13 (wF_1 (S := S) hok13.2) rfl 0 (by decide) (hts _ (List.mem_of_getElem? (i := 5) rfl)) (fun _ h9 => h9) (congrArg (fun o => some (va_rf o)) hr15) dX1_survey_32 ?_
      obtain ⟨hok16, hg⟩ := gd_some hg
      refine wr_alen8 hx hb hw hok16 dX1_survey_35 ?_
      refine lv_icmp_ge (tgt := 138) hx hb dX1_survey_36 (by decide) (fun c17 => ?_) (fun c17 => ?_)
      · have hg := it_pos hg c17
        exact B138 _ _ _ _ _ hg hw (lv_sub hl [0, 3] rfl)
      · have hg := it_neg hg c17
        refine lv_aload_n hx hb dX1_survey_39 rfl (lv_at hl 0 rfl) ?_
        refine wr_get (K := RX1) (T := TX1) (N := 6) (index := 9) (ref := "MakerLines$Lines") (v := .ref r15) hx hb hts hi_X1_survey_X1 hown hw hok13 (wF_1 (S := S) hok13.2) rfl 0 (by decide) (hts _ (List.mem_of_getElem? (i := 5) rfl)) (fun _ h9 => h9) (congrArg (fun o => some (va_rf o)) hr15) dX1_survey_40 ?_
        refine lv_iload hx hb dX1_survey_43 (lv_at hl 4 rfl) ?_
        obtain ⟨hin18, hg⟩ := gd_some hg
        refine wr_iald hx hb hw hok16 (inb_vp hin18) dX1_survey_45 ?_
        refine lv_iload_n hx hb dX1_survey_46 rfl (lv_at hl 2 rfl) ?_
        refine lv_iand hx hb dX1_survey_47 ?_
        refine lv_if_ne (tgt := 132) hx hb dX1_survey_48 (by decide) (fun c19 => ?_) (fun c19 => ?_)
        · have hg := it_neg hg c19
          refine lv_iinc (v := (v4 + (1 : Int32))) (lv' := [(4, .int (v4 + (1 : Int32))), (0, .ref a0), (1, .int x1), (2, .int x2), (3, .int v3)]) hx hb dX1_survey_132 hl (k := 4) rfl rfl (by decide) rfl (fun ls hl => ?_)
          refine lv_goto (tgt := 20) hx hb dX1_survey_135 (by decide) ?_
          exact hK20 _ _ _ _ _ _ hg hw (lv_sub hl [1, 2, 3, 4, 0] rfl)
        · have hg := it_pos hg c19
          refine lv_aload_n hx hb dX1_survey_51 rfl (lv_at hl 0 rfl) ?_
          refine wr_get (K := RX1) (T := TX1) (N := 6) (index := 9) (ref := "MakerLines$Lines") (v := .ref r15) hx hb hts hi_X1_survey_X1 hown hw hok13 (wF_1 (S := S) hok13.2) rfl 0 (by decide) (hts _ (List.mem_of_getElem? (i := 5) rfl)) (fun _ h9 => h9) (congrArg (fun o => some (va_rf o)) hr15) dX1_survey_52 ?_
          refine lv_iload hx hb dX1_survey_55 (lv_at hl 4 rfl) ?_
          refine wr_iald hx hb hw hok16 (inb_vp hin18) dX1_survey_57 ?_
          refine lv_iload_n hx hb dX1_survey_58 rfl (lv_at hl 1 rfl) ?_
          refine lv_iconst (v := (-1 : Int32)) hx hb dX1_survey_59 (by decide) ?_
          refine lv_ixor hx hb dX1_survey_60 ?_
          refine lv_iand hx hb dX1_survey_61 ?_
          obtain ⟨e20, he20, hg⟩ := bd_some hg
          refine lv_istore (lv' := [(5, .int e20), (0, .ref a0), (1, .int x1), (2, .int x2), (3, .int v3), (4, .int v4)]) hx hb dX1_survey_62 hl (by decide) (by rw [he20]; rfl) (fun ls hl => ?_)
          refine lv_iload hx hb dX1_survey_64 (lv_at hl 0 rfl) ?_
          refine wr_ci (va_runS (As := [.int e20]) (rest := []) ⟨hx, hb, hml, hown, hts⟩ (c_bitc l D C S z e20) (va_cwS 1 hts gX1_survey_J6_bitCount_0f7a4 rfl rfl rfl (by decide +kernel) ⟨Nat.le_of_ble_eq_true rfl, Nat.le_of_ble_eq_true rfl⟩) (wd_preS hw) rfl rfl hl.1 rfl (lv_room (Nat.le_of_ble_eq_true rfl)) dX1_survey_66 ⟨Nat.zero_le _, Nat.zero_le _⟩) hw (fun H locs hw => ?_)
          refine lv_istore (lv' := [(6, .int (bitc e20)), (5, .int e20), (0, .ref a0), (1, .int x1), (2, .int x2), (3, .int v3), (4, .int v4)]) hx hb dX1_survey_69 hl (by decide) rfl (fun ls hl => ?_)
          refine lv_aload_n hx hb dX1_survey_71 rfl (lv_at hl 2 rfl) ?_
          refine lv_dup hx hb dX1_survey_72 rfl ?_
          refine wr_get (K := RX1) (T := TX1) (N := 6) (index := 22) (ref := "MakerLines$Lines") (v := .int (hI S a0 3)) hx hb hts hi_X1_survey_X1 hown hw hok13 (wF_1 (S := S) hok13.2) rfl 3 (by decide) (hts _ (List.mem_of_getElem? (i := 1) rfl)) (fun _ h9 => h9) rfl dX1_survey_73 ?_
          refine lv_iconst (v := (1 : Int32)) hx hb dX1_survey_76 (by decide) ?_
          refine lv_iadd hx hb dX1_survey_77 ?_
          refine wr_put (K := RX1) (T := TX1) (N := 6) (index := 22) (ref := "MakerLines$Lines") (ty := (.int)) (S1 := (sI S a0 3 ((hI S a0 3) + (1 : Int32)))) hx hb hts hi_X1_survey_X1 tyX1 tyX1_ok nmX1 hown hw hok13 (wF_1 (S := S) hok13.2) rfl (fun b hb9 => wF_sI_ne hb9) 3 (wq_1_3 (S := S) hok13.2 _) rfl (by decide) (hts _ (List.mem_of_getElem? (i := 1) rfl)) (fun _ h9 => h9) rfl (by decide +kernel) rfl rfl (Nat.le_of_ble_eq_true rfl) dX1_survey_78 (fun H locs hw => ?_)
          refine lv_aload_n hx hb dX1_survey_81 rfl (lv_at hl 2 rfl) ?_
          refine lv_dup hx hb dX1_survey_82 rfl ?_
          refine wr_get (K := RX1) (T := TX1) (N := 6) (index := 25) (ref := "MakerLines$Lines") (v := .int (hI ((sI S a0 3 ((hI S a0 3) + (1 : Int32)))) a0 4)) hx hb hts hi_X1_survey_X1 hown hw hok13 (wF_1 (S := (sI S a0 3 ((hI S a0 3) + (1 : Int32)))) hok13.2) rfl 4 (by decide) (hts _ (List.mem_of_getElem? (i := 2) rfl)) (fun _ h9 => h9) rfl dX1_survey_83 ?_
          refine lv_sipush (v := (1024 : Int32)) hx hb dX1_survey_86 (by decide) ?_
          refine lv_iload hx hb dX1_survey_89 (lv_at hl 0 rfl) ?_
          refine lv_ishr hx hb dX1_survey_91 ?_
          refine lv_iadd hx hb dX1_survey_92 ?_
          refine wr_put (K := RX1) (T := TX1) (N := 6) (index := 25) (ref := "MakerLines$Lines") (ty := (.int)) (S1 := (sI (sI S a0 3 ((hI S a0 3) + (1 : Int32))) a0 4 ((hI ((sI S a0 3 ((hI S a0 3) + (1 : Int32)))) a0 4) + ((1024 : Int32) >>> ((bitc e20) &&& 31))))) hx hb hts hi_X1_survey_X1 tyX1 tyX1_ok nmX1 hown hw hok13 (wF_1 (S := (sI S a0 3 ((hI S a0 3) + (1 : Int32)))) hok13.2) rfl (fun b hb9 => wF_sI_ne hb9) 4 (wq_1_4 (S := (sI S a0 3 ((hI S a0 3) + (1 : Int32)))) hok13.2 _) rfl (by decide) (hts _ (List.mem_of_getElem? (i := 2) rfl)) (fun _ h9 => h9) rfl (by decide +kernel) rfl rfl (Nat.le_of_ble_eq_true rfl) dX1_survey_93 (fun H locs hw => ?_)
          obtain ⟨S21, hS21, hg⟩ := bd_some hg
          rw [← hS21] at hw
          have hok22 : ok S21 a0 1 := by rw [hS21]; exact hok13
          have hr23 : hR S21 a0 0 = some r15 := by rw [hS21]; exact hr15
          have hok24 : ok S21 r15 8 := by rw [hS21]; exact hok16
          have hin25 : inb v4 (hN S21 r15) := by rw [hS21]; exact hin18
          refine lv_iload_n hx hb dX1_survey_96 rfl (lv_at hl 5 rfl) ?_
          refine lv_if_ne (tgt := 105) hx hb dX1_survey_97 (by decide) (fun c26 => ?_) (fun c26 => ?_)
          · have hg := it_neg hg c26
            exact B105 K20 hK20 _ _ _ _ _ _ _ hg hw (lv_sub hl [2, 3, 4, 6, 1, 0] rfl)
          · have hg := it_pos hg c26
            refine lv_iload hx hb dX1_survey_100 (lv_at hl 0 rfl) ?_
            refine lv_if_ne (tgt := 109) hx hb dX1_survey_102 (by decide) (fun c27 => ?_) (fun c27 => ?_)
            · have hg := it_neg hg c27
              refine lv_iconst (v := (0 : Int32)) hx hb dX1_survey_109 (by decide) ?_
              exact B110 K20 hK20 _ _ _ _ _ _ _ _ hg hw (lv_sub hl [2, 3, 4, 6, 1, 0] rfl)
            · have hg := it_pos hg c27
              exact B105 K20 hK20 _ _ _ _ _ _ _ hg hw (lv_sub hl [2, 3, 4, 6, 1, 0] rfl)
  have L20 : ∀ (k : Nat) (S : Hp) (v3 : Int32) (v4 : Int32) (H : Heap) (locs : List Loc) (ls : Array Slot), f_X1_survey_l20 N a0 x1 x2 k S v3 v4 = some (r, S9) → Wd D C (va_A (wP C S0) z) s.heap S z H locs s → lv_has ls 7 [(0, .ref a0), (1, .int x1), (2, .int x2), (3, .int v3), (4, .int v4)] → W p l e rm_X1_survey s m ([.ref a0, .int x1, .int x2] : List Value).toArray below meth c H locs 0 0 (MQ below (QvW D C S0 z r S9 z) ([.ref a0, .int x1, .int x2] : List Value).toArray s 0 0 (va_A (wP C S0) z)) (F0 m 20 ls []) := by
    intro k
    induction k with
    | zero => intro S v3 v4 H locs ls hg hw hl; exact absurd (show (none : Option (Unit × Hp)) = some (r, S9) from hg) (by simp)
    | succ k ih => intro S v3 v4 H locs ls hg hw hl; exact B20 (f_X1_survey_l20 N a0 x1 x2 k) ih S v3 v4 H locs ls hg hw hl
  have B0 : ∀ (S : Hp) (H : Heap) (locs : List Loc) (ls : Array Slot), f_X1_survey N S a0 x1 x2 = some (r, S9) → Wd D C (va_A (wP C S0) z) s.heap S z H locs s → lv_has ls 7 [(0, .ref a0), (1, .int x1), (2, .int x2)] → W p l e rm_X1_survey s m ([.ref a0, .int x1, .int x2] : List Value).toArray below meth c H locs 0 0 (MQ below (QvW D C S0 z r S9 z) ([.ref a0, .int x1, .int x2] : List Value).toArray s 0 0 (va_A (wP C S0) z)) (F0 m 0 ls []) := by
    intro S H locs ls hg hw hl
    unfold f_X1_survey at hg
    refine lv_iconst (v := (0 : Int32)) hx hb dX1_survey_0 (by decide) ?_
    refine lv_istore_n (lv' := [(3, .int (0 : Int32)), (0, .ref a0), (1, .int x1), (2, .int x2)]) hx hb dX1_survey_1 rfl hl (by decide) rfl (fun ls hl => ?_)
    refine lv_aload_n hx hb dX1_survey_2 rfl (lv_at hl 1 rfl) ?_
    refine lv_iconst (v := (0 : Int32)) hx hb dX1_survey_3 (by decide) ?_
    obtain ⟨hok10, hg⟩ := gd_some hg
    refine wr_put (K := RX1) (T := TX1) (N := 6) (index := 22) (ref := "MakerLines$Lines") (ty := (.int)) (S1 := (sI S a0 3 (0 : Int32))) hx hb hts hi_X1_survey_X1 tyX1 tyX1_ok nmX1 hown hw hok10 (wF_1 (S := S) hok10.2) rfl (fun b hb9 => wF_sI_ne hb9) 3 (wq_1_3 (S := S) hok10.2 _) rfl (by decide) (hts _ (List.mem_of_getElem? (i := 1) rfl)) (fun _ h9 => h9) rfl (by decide +kernel) rfl rfl (Nat.le_of_ble_eq_true rfl) dX1_survey_4 (fun H locs hw => ?_)
    refine lv_aload_n hx hb dX1_survey_7 rfl (lv_at hl 1 rfl) ?_
    refine lv_iconst (v := (0 : Int32)) hx hb dX1_survey_8 (by decide) ?_
    refine wr_put (K := RX1) (T := TX1) (N := 6) (index := 25) (ref := "MakerLines$Lines") (ty := (.int)) (S1 := (sI (sI S a0 3 (0 : Int32)) a0 4 (0 : Int32))) hx hb hts hi_X1_survey_X1 tyX1 tyX1_ok nmX1 hown hw hok10 (wF_1 (S := (sI S a0 3 (0 : Int32))) hok10.2) rfl (fun b hb9 => wF_sI_ne hb9) 4 (wq_1_4 (S := (sI S a0 3 (0 : Int32))) hok10.2 _) rfl (by decide) (hts _ (List.mem_of_getElem? (i := 2) rfl)) (fun _ h9 => h9) rfl (by decide +kernel) rfl rfl (Nat.le_of_ble_eq_true rfl) dX1_survey_9 (fun H locs hw => ?_)
    refine lv_aload_n hx hb dX1_survey_12 rfl (lv_at hl 1 rfl) ?_
    refine lv_iconst (v := (0 : Int32)) hx hb dX1_survey_13 (by decide) ?_
    refine wr_put (K := RX1) (T := TX1) (N := 6) (index := 28) (ref := "MakerLines$Lines") (ty := (.int)) (S1 := (sI (sI (sI S a0 3 (0 : Int32)) a0 4 (0 : Int32)) a0 5 (0 : Int32))) hx hb hts hi_X1_survey_X1 tyX1 tyX1_ok nmX1 hown hw hok10 (wF_1 (S := (sI (sI S a0 3 (0 : Int32)) a0 4 (0 : Int32))) hok10.2) rfl (fun b hb9 => wF_sI_ne hb9) 5 (wq_1_5 (S := (sI (sI S a0 3 (0 : Int32)) a0 4 (0 : Int32))) hok10.2 _) rfl (by decide) (hts _ (List.mem_of_getElem? (i := 3) rfl)) (fun _ h9 => h9) rfl (by decide +kernel) rfl rfl (Nat.le_of_ble_eq_true rfl) dX1_survey_14 (fun H locs hw => ?_)
    obtain ⟨S11, hS11, hg⟩ := bd_some hg
    rw [← hS11] at hw
    have hok12 : ok S11 a0 1 := by rw [hS11]; exact hok10
    refine lv_iconst (v := (0 : Int32)) hx hb dX1_survey_17 (by decide) ?_
    refine lv_istore (lv' := [(4, .int (0 : Int32)), (3, .int (0 : Int32)), (0, .ref a0), (1, .int x1), (2, .int x2)]) hx hb dX1_survey_18 hl (by decide) rfl (fun ls hl => ?_)
    exact L20 N _ _ _ _ _ _ hg hw (lv_sub hl [2, 3, 4, 1, 0] rfl)
  exact B0 S0 _ _ _ hg hw hl
theorem hi_X1_weightWith_X1 : ∀ w ∈ wsX10, w ∈ wsX1_weightWith := fun _ h => List.mem_cons_of_mem _ (List.mem_append_right _ (h))
abbrev rm_X1_weightWith : Room := { frames := 1, cells := 0, slots := 0, locals := 20 }
set_option maxHeartbeats 4000000 in
set_option maxRecDepth 100000 in
theorem c_X1_weightWith (l : Launch) (D : va_G) (C : C3) (N : Nat) (S0 : Hp) (z : Nat) (a0 : Nat) (x1 : Int32) (x2 : Int32) (x3 : Int32) (r : Int32) (S9 : Hp) (hg : f_X1_weightWith N S0 a0 x1 x2 x3 = some (r, S9)) : MetI l yX1_weightWith wsX1_weightWith rm_X1_weightWith D C S0 z [.ref a0, .int x1, .int x2, .int x3] r S9 z 0 0 := by
  refine mw_ofW (cc := cX1_weightWith) (maxL := 6) (ret := (some .int)) (lv := [(0, .ref a0), (1, .int x1), (2, .int x2), (3, .int x3)]) (by decide) rfl (Nat.le_of_ble_eq_true rfl) rfl ?_
  intro p e s m below meth c ls hx hb hr hts hown hlk hml hnm hl hw
  have hown : s.vm.findClass RX1 = some m.cls := hown
  have B6 : ∀ (K6 : Hp → Int32 → Int32 → Option (Int32 × Hp)) (hK6 : ∀ (S : Hp) (v4 : Int32) (v5 : Int32) (H : Heap) (locs : List Loc) (ls : Array Slot), K6 S v4 v5 = some (r, S9) → Wd D C (va_A (wP C S0) z) s.heap S z H locs s → lv_has ls 6 [(0, .ref a0), (1, .int x1), (2, .int x2), (3, .int x3), (4, .int v4), (5, .int v5)] → W p l e rm_X1_weightWith s m ([.ref a0, .int x1, .int x2, .int x3] : List Value).toArray below meth c H locs 0 0 (MQ below (QiW D C S0 z r S9 z) ([.ref a0, .int x1, .int x2, .int x3] : List Value).toArray s 0 0 (va_A (wP C S0) z)) (F0 m 6 ls [])) (S : Hp) (v4 : Int32) (v5 : Int32) (H : Heap) (locs : List Loc) (ls : Array Slot), f_X1_weightWith_b6 N a0 x1 x2 x3 K6 S v4 v5 = some (r, S9) → Wd D C (va_A (wP C S0) z) s.heap S z H locs s → lv_has ls 6 [(0, .ref a0), (1, .int x1), (2, .int x2), (3, .int x3), (4, .int v4), (5, .int v5)] → W p l e rm_X1_weightWith s m ([.ref a0, .int x1, .int x2, .int x3] : List Value).toArray below meth c H locs 0 0 (MQ below (QiW D C S0 z r S9 z) ([.ref a0, .int x1, .int x2, .int x3] : List Value).toArray s 0 0 (va_A (wP C S0) z)) (F0 m 6 ls []) := by
    intro K6 hK6 S v4 v5 H locs ls hg hw hl
    unfold f_X1_weightWith_b6 at hg
    refine lv_iload hx hb dX1_weightWith_6 (lv_at hl 5 rfl) ?_
    refine lv_aload_n hx hb dX1_weightWith_8 rfl (lv_at hl 0 rfl) ?_
    obtain ⟨hok10, hg⟩ := gd_some hg
    refine wr_get (K := RX1) (T := TX1) (N := 6) (index := 15) (ref := "MakerLines$Lines") (v := .int (hI S a0 1)) hx hb hts hi_X1_weightWith_X1 hown hw hok10 (wF_1 (S := S) hok10.2) rfl 1 (by decide) (hts _ (List.mem_of_getElem? (i := 1) rfl)) (fun _ h9 => h9) rfl dX1_weightWith_9 ?_
    refine lv_icmp_ge (tgt := 80) hx hb dX1_weightWith_12 (by decide) (fun c11 => ?_) (fun c11 => ?_)
    · have hg := it_pos hg c11
      refine lv_iload hx hb dX1_weightWith_80 (lv_at hl 4 rfl) ?_
      cases hg
      exact wr_iret hx hb hr hw dX1_weightWith_82 hlk
    · have hg := it_neg hg c11
      refine lv_iload hx hb dX1_weightWith_15 (lv_at hl 5 rfl) ?_
      refine lv_aload_n hx hb dX1_weightWith_17 rfl (lv_at hl 0 rfl) ?_
      obtain ⟨r12, hr12, hg⟩ := nn_some hg
      refine wr_get (K := RX1) (T := TX1) (N := 6) (index := 9) (ref := "MakerLines$Lines") (v := .ref r12) hx hb hts hi_X1_weightWith_X1 hown hw hok10 (wF_1 (S := S) hok10.2) rfl 0 (by decide) (hts _ (List.mem_of_getElem? (i := 2) rfl)) (fun _ h9 => h9) (congrArg (fun o => some (va_rf o)) hr12) dX1_weightWith_18 ?_
      obtain ⟨hok13, hg⟩ := gd_some hg
      refine wr_alen8 hx hb hw hok13 dX1_weightWith_21 ?_
      refine lv_icmp_ge (tgt := 80) hx hb dX1_weightWith_22 (by decide) (fun c14 => ?_) (fun c14 => ?_)
      · have hg := it_pos hg c14
        refine lv_iload hx hb dX1_weightWith_80 (lv_at hl 4 rfl) ?_
        cases hg
        exact wr_iret hx hb hr hw dX1_weightWith_82 hlk
      · have hg := it_neg hg c14
        refine lv_aload_n hx hb dX1_weightWith_25 rfl (lv_at hl 0 rfl) ?_
        refine wr_get (K := RX1) (T := TX1) (N := 6) (index := 9) (ref := "MakerLines$Lines") (v := .ref r12) hx hb hts hi_X1_weightWith_X1 hown hw hok10 (wF_1 (S := S) hok10.2) rfl 0 (by decide) (hts _ (List.mem_of_getElem? (i := 2) rfl)) (fun _ h9 => h9) (congrArg (fun o => some (va_rf o)) hr12) dX1_weightWith_26 ?_
        refine lv_iload hx hb dX1_weightWith_29 (lv_at hl 5 rfl) ?_
        obtain ⟨hin15, hg⟩ := gd_some hg
        refine wr_iald hx hb hw hok13 (inb_vp hin15) dX1_weightWith_31 ?_
        refine lv_iconst (v := (1 : Int32)) hx hb dX1_weightWith_32 (by decide) ?_
        refine lv_iload_n hx hb dX1_weightWith_33 rfl (lv_at hl 1 rfl) ?_
        refine lv_ishl hx hb dX1_weightWith_34 ?_
        refine lv_iand hx hb dX1_weightWith_35 ?_
        refine lv_if_eq (tgt := 74) hx hb dX1_weightWith_36 (by decide) (fun c16 => ?_) (fun c16 => ?_)
        · have hg := it_pos hg c16
          refine lv_iinc (v := (v5 + (1 : Int32))) (lv' := [(5, .int (v5 + (1 : Int32))), (0, .ref a0), (1, .int x1), (2, .int x2), (3, .int x3), (4, .int v4)]) hx hb dX1_weightWith_74 hl (k := 5) rfl rfl (by decide) rfl (fun ls hl => ?_)
          refine lv_goto (tgt := 6) hx hb dX1_weightWith_77 (by decide) ?_
          exact hK6 _ _ _ _ _ _ hg hw (lv_sub hl [1, 2, 3, 4, 5, 0] rfl)
        · have hg := it_neg hg c16
          refine lv_aload_n hx hb dX1_weightWith_39 rfl (lv_at hl 0 rfl) ?_
          refine wr_get (K := RX1) (T := TX1) (N := 6) (index := 9) (ref := "MakerLines$Lines") (v := .ref r12) hx hb hts hi_X1_weightWith_X1 hown hw hok10 (wF_1 (S := S) hok10.2) rfl 0 (by decide) (hts _ (List.mem_of_getElem? (i := 2) rfl)) (fun _ h9 => h9) (congrArg (fun o => some (va_rf o)) hr12) dX1_weightWith_40 ?_
          refine lv_iload hx hb dX1_weightWith_43 (lv_at hl 5 rfl) ?_
          refine wr_iald hx hb hw hok13 (inb_vp hin15) dX1_weightWith_45 ?_
          refine lv_iload_n hx hb dX1_weightWith_46 rfl (lv_at hl 3 rfl) ?_
          refine lv_iand hx hb dX1_weightWith_47 ?_
          refine lv_if_ne (tgt := 74) hx hb dX1_weightWith_48 (by decide) (fun c17 => ?_) (fun c17 => ?_)
          · have hg := it_neg hg c17
            refine lv_iinc (v := (v5 + (1 : Int32))) (lv' := [(5, .int (v5 + (1 : Int32))), (0, .ref a0), (1, .int x1), (2, .int x2), (3, .int x3), (4, .int v4)]) hx hb dX1_weightWith_74 hl (k := 5) rfl rfl (by decide) rfl (fun ls hl => ?_)
            refine lv_goto (tgt := 6) hx hb dX1_weightWith_77 (by decide) ?_
            exact hK6 _ _ _ _ _ _ hg hw (lv_sub hl [1, 2, 3, 4, 5, 0] rfl)
          · have hg := it_pos hg c17
            refine lv_iload hx hb dX1_weightWith_51 (lv_at hl 4 rfl) ?_
            refine lv_sipush (v := (1024 : Int32)) hx hb dX1_weightWith_53 (by decide) ?_
            refine lv_aload_n hx hb dX1_weightWith_56 rfl (lv_at hl 0 rfl) ?_
            refine wr_get (K := RX1) (T := TX1) (N := 6) (index := 9) (ref := "MakerLines$Lines") (v := .ref r12) hx hb hts hi_X1_weightWith_X1 hown hw hok10 (wF_1 (S := S) hok10.2) rfl 0 (by decide) (hts _ (List.mem_of_getElem? (i := 2) rfl)) (fun _ h9 => h9) (congrArg (fun o => some (va_rf o)) hr12) dX1_weightWith_57 ?_
            refine lv_iload hx hb dX1_weightWith_60 (lv_at hl 5 rfl) ?_
            refine wr_iald hx hb hw hok13 (inb_vp hin15) dX1_weightWith_62 ?_
            refine lv_iload_n hx hb dX1_weightWith_63 rfl (lv_at hl 2 rfl) ?_
            refine lv_iconst (v := (-1 : Int32)) hx hb dX1_weightWith_64 (by decide) ?_
            refine lv_ixor hx hb dX1_weightWith_65 ?_
            refine lv_iand hx hb dX1_weightWith_66 ?_
            refine wr_ci (va_runS (As := [.int ((hI S r12 v5.toNatClampNeg) &&& (x2 ^^^ (-1 : Int32)))]) (rest := [.int (1024 : Int32), .int v4]) ⟨hx, hb, hml, hown, hts⟩ (c_bitc l D C S z (((hI S r12 v5.toNatClampNeg) &&& (x2 ^^^ (-1 : Int32))))) (va_cwS 1 hts gX1_weightWith_J6_bitCount_0f7a4 rfl rfl rfl (by decide +kernel) ⟨Nat.le_of_ble_eq_true rfl, Nat.le_of_ble_eq_true rfl⟩) (wd_preS hw) rfl rfl hl.1 rfl (lv_room (Nat.le_of_ble_eq_true rfl)) dX1_weightWith_67 ⟨Nat.zero_le _, Nat.zero_le _⟩) hw (fun H locs hw => ?_)
            refine lv_ishr hx hb dX1_weightWith_70 ?_
            refine lv_iadd hx hb dX1_weightWith_71 ?_
            obtain ⟨e18, he18, hg⟩ := bd_some hg
            refine lv_istore (lv' := [(4, .int e18), (0, .ref a0), (1, .int x1), (2, .int x2), (3, .int x3), (5, .int v5)]) hx hb dX1_weightWith_72 hl (by decide) (by rw [he18]; rfl) (fun ls hl => ?_)
            refine lv_iinc (v := (v5 + (1 : Int32))) (lv' := [(5, .int (v5 + (1 : Int32))), (4, .int e18), (0, .ref a0), (1, .int x1), (2, .int x2), (3, .int x3)]) hx hb dX1_weightWith_74 hl (k := 5) rfl rfl (by decide) rfl (fun ls hl => ?_)
            refine lv_goto (tgt := 6) hx hb dX1_weightWith_77 (by decide) ?_
            exact hK6 _ _ _ _ _ _ hg hw (lv_sub hl [2, 3, 4, 5, 1, 0] rfl)
  have L6 : ∀ (k : Nat) (S : Hp) (v4 : Int32) (v5 : Int32) (H : Heap) (locs : List Loc) (ls : Array Slot), f_X1_weightWith_l6 N a0 x1 x2 x3 k S v4 v5 = some (r, S9) → Wd D C (va_A (wP C S0) z) s.heap S z H locs s → lv_has ls 6 [(0, .ref a0), (1, .int x1), (2, .int x2), (3, .int x3), (4, .int v4), (5, .int v5)] → W p l e rm_X1_weightWith s m ([.ref a0, .int x1, .int x2, .int x3] : List Value).toArray below meth c H locs 0 0 (MQ below (QiW D C S0 z r S9 z) ([.ref a0, .int x1, .int x2, .int x3] : List Value).toArray s 0 0 (va_A (wP C S0) z)) (F0 m 6 ls []) := by
    intro k
    induction k with
    | zero => intro S v4 v5 H locs ls hg hw hl; exact absurd (show (none : Option (Int32 × Hp)) = some (r, S9) from hg) (by simp)
    | succ k ih => intro S v4 v5 H locs ls hg hw hl; exact B6 (f_X1_weightWith_l6 N a0 x1 x2 x3 k) ih S v4 v5 H locs ls hg hw hl
  have B0 : ∀ (S : Hp) (H : Heap) (locs : List Loc) (ls : Array Slot), f_X1_weightWith N S a0 x1 x2 x3 = some (r, S9) → Wd D C (va_A (wP C S0) z) s.heap S z H locs s → lv_has ls 6 [(0, .ref a0), (1, .int x1), (2, .int x2), (3, .int x3)] → W p l e rm_X1_weightWith s m ([.ref a0, .int x1, .int x2, .int x3] : List Value).toArray below meth c H locs 0 0 (MQ below (QiW D C S0 z r S9 z) ([.ref a0, .int x1, .int x2, .int x3] : List Value).toArray s 0 0 (va_A (wP C S0) z)) (F0 m 0 ls []) := by
    intro S H locs ls hg hw hl
    unfold f_X1_weightWith at hg
    refine lv_iconst (v := (0 : Int32)) hx hb dX1_weightWith_0 (by decide) ?_
    refine lv_istore (lv' := [(4, .int (0 : Int32)), (0, .ref a0), (1, .int x1), (2, .int x2), (3, .int x3)]) hx hb dX1_weightWith_1 hl (by decide) rfl (fun ls hl => ?_)
    refine lv_iconst (v := (0 : Int32)) hx hb dX1_weightWith_3 (by decide) ?_
    refine lv_istore (lv' := [(5, .int (0 : Int32)), (4, .int (0 : Int32)), (0, .ref a0), (1, .int x1), (2, .int x2), (3, .int x3)]) hx hb dX1_weightWith_4 hl (by decide) rfl (fun ls hl => ?_)
    exact L6 N _ _ _ _ _ _ hg hw (lv_sub hl [2, 3, 4, 5, 1, 0] rfl)
  exact B0 S0 _ _ _ hg hw hl
theorem hi_X1_aliveWith_X1 : ∀ w ∈ wsX10, w ∈ wsX1_aliveWith := fun _ h => List.mem_cons_of_mem _ (List.mem_append_right _ (h))
abbrev rm_X1_aliveWith : Room := { frames := 0, cells := 0, slots := 0, locals := 0 }
set_option maxHeartbeats 4000000 in
set_option maxRecDepth 100000 in
theorem c_X1_aliveWith (l : Launch) (D : va_G) (C : C3) (N : Nat) (S0 : Hp) (z : Nat) (a0 : Nat) (x1 : Int32) (x2 : Int32) (r : Int32) (S9 : Hp) (hg : f_X1_aliveWith N S0 a0 x1 x2 = some (r, S9)) : MetI l yX1_aliveWith wsX1_aliveWith rm_X1_aliveWith D C S0 z [.ref a0, .int x1, .int x2] r S9 z 0 0 := by
  refine mw_ofW (cc := cX1_aliveWith) (maxL := 5) (ret := (some .int)) (lv := [(0, .ref a0), (1, .int x1), (2, .int x2)]) (by decide) rfl (Nat.le_of_ble_eq_true rfl) rfl ?_
  intro p e s m below meth c ls hx hb hr hts hown hlk hml hnm hl hw
  have hown : s.vm.findClass RX1 = some m.cls := hown
  have B5 : ∀ (K5 : Hp → Int32 → Int32 → Option (Int32 × Hp)) (hK5 : ∀ (S : Hp) (v3 : Int32) (v4 : Int32) (H : Heap) (locs : List Loc) (ls : Array Slot), K5 S v3 v4 = some (r, S9) → Wd D C (va_A (wP C S0) z) s.heap S z H locs s → lv_has ls 5 [(0, .ref a0), (1, .int x1), (2, .int x2), (3, .int v3), (4, .int v4)] → W p l e rm_X1_aliveWith s m ([.ref a0, .int x1, .int x2] : List Value).toArray below meth c H locs 0 0 (MQ below (QiW D C S0 z r S9 z) ([.ref a0, .int x1, .int x2] : List Value).toArray s 0 0 (va_A (wP C S0) z)) (F0 m 5 ls [])) (S : Hp) (v3 : Int32) (v4 : Int32) (H : Heap) (locs : List Loc) (ls : Array Slot), f_X1_aliveWith_b5 N a0 x1 x2 K5 S v3 v4 = some (r, S9) → Wd D C (va_A (wP C S0) z) s.heap S z H locs s → lv_has ls 5 [(0, .ref a0), (1, .int x1), (2, .int x2), (3, .int v3), (4, .int v4)] → W p l e rm_X1_aliveWith s m ([.ref a0, .int x1, .int x2] : List Value).toArray below meth c H locs 0 0 (MQ below (QiW D C S0 z r S9 z) ([.ref a0, .int x1, .int x2] : List Value).toArray s 0 0 (va_A (wP C S0) z)) (F0 m 5 ls []) := by
    intro K5 hK5 S v3 v4 H locs ls hg hw hl
    unfold f_X1_aliveWith_b5 at hg
    refine lv_iload hx hb dX1_aliveWith_5 (lv_at hl 4 rfl) ?_
    refine lv_aload_n hx hb dX1_aliveWith_7 rfl (lv_at hl 0 rfl) ?_
    obtain ⟨hok10, hg⟩ := gd_some hg
    refine wr_get (K := RX1) (T := TX1) (N := 6) (index := 15) (ref := "MakerLines$Lines") (v := .int (hI S a0 1)) hx hb hts hi_X1_aliveWith_X1 hown hw hok10 (wF_1 (S := S) hok10.2) rfl 1 (by decide) (hts _ (List.mem_of_getElem? (i := 1) rfl)) (fun _ h9 => h9) rfl dX1_aliveWith_8 ?_
    refine lv_icmp_ge (tgt := 59) hx hb dX1_aliveWith_11 (by decide) (fun c11 => ?_) (fun c11 => ?_)
    · have hg := it_pos hg c11
      refine lv_iload_n hx hb dX1_aliveWith_59 rfl (lv_at hl 3 rfl) ?_
      cases hg
      exact wr_iret hx hb hr hw dX1_aliveWith_60 hlk
    · have hg := it_neg hg c11
      refine lv_iload hx hb dX1_aliveWith_14 (lv_at hl 4 rfl) ?_
      refine lv_aload_n hx hb dX1_aliveWith_16 rfl (lv_at hl 0 rfl) ?_
      obtain ⟨r12, hr12, hg⟩ := nn_some hg
      refine wr_get (K := RX1) (T := TX1) (N := 6) (index := 9) (ref := "MakerLines$Lines") (v := .ref r12) hx hb hts hi_X1_aliveWith_X1 hown hw hok10 (wF_1 (S := S) hok10.2) rfl 0 (by decide) (hts _ (List.mem_of_getElem? (i := 2) rfl)) (fun _ h9 => h9) (congrArg (fun o => some (va_rf o)) hr12) dX1_aliveWith_17 ?_
      obtain ⟨hok13, hg⟩ := gd_some hg
      refine wr_alen8 hx hb hw hok13 dX1_aliveWith_20 ?_
      refine lv_icmp_ge (tgt := 59) hx hb dX1_aliveWith_21 (by decide) (fun c14 => ?_) (fun c14 => ?_)
      · have hg := it_pos hg c14
        refine lv_iload_n hx hb dX1_aliveWith_59 rfl (lv_at hl 3 rfl) ?_
        cases hg
        exact wr_iret hx hb hr hw dX1_aliveWith_60 hlk
      · have hg := it_neg hg c14
        refine lv_aload_n hx hb dX1_aliveWith_24 rfl (lv_at hl 0 rfl) ?_
        refine wr_get (K := RX1) (T := TX1) (N := 6) (index := 9) (ref := "MakerLines$Lines") (v := .ref r12) hx hb hts hi_X1_aliveWith_X1 hown hw hok10 (wF_1 (S := S) hok10.2) rfl 0 (by decide) (hts _ (List.mem_of_getElem? (i := 2) rfl)) (fun _ h9 => h9) (congrArg (fun o => some (va_rf o)) hr12) dX1_aliveWith_25 ?_
        refine lv_iload hx hb dX1_aliveWith_28 (lv_at hl 4 rfl) ?_
        obtain ⟨hin15, hg⟩ := gd_some hg
        refine wr_iald hx hb hw hok13 (inb_vp hin15) dX1_aliveWith_30 ?_
        refine lv_iconst (v := (1 : Int32)) hx hb dX1_aliveWith_31 (by decide) ?_
        refine lv_iload_n hx hb dX1_aliveWith_32 rfl (lv_at hl 1 rfl) ?_
        refine lv_ishl hx hb dX1_aliveWith_33 ?_
        refine lv_iand hx hb dX1_aliveWith_34 ?_
        refine lv_if_eq (tgt := 53) hx hb dX1_aliveWith_35 (by decide) (fun c16 => ?_) (fun c16 => ?_)
        · have hg := it_pos hg c16
          refine lv_iinc (v := (v4 + (1 : Int32))) (lv' := [(4, .int (v4 + (1 : Int32))), (0, .ref a0), (1, .int x1), (2, .int x2), (3, .int v3)]) hx hb dX1_aliveWith_53 hl (k := 4) rfl rfl (by decide) rfl (fun ls hl => ?_)
          refine lv_goto (tgt := 5) hx hb dX1_aliveWith_56 (by decide) ?_
          exact hK5 _ _ _ _ _ _ hg hw (lv_sub hl [1, 2, 3, 4, 0] rfl)
        · have hg := it_neg hg c16
          refine lv_aload_n hx hb dX1_aliveWith_38 rfl (lv_at hl 0 rfl) ?_
          refine wr_get (K := RX1) (T := TX1) (N := 6) (index := 9) (ref := "MakerLines$Lines") (v := .ref r12) hx hb hts hi_X1_aliveWith_X1 hown hw hok10 (wF_1 (S := S) hok10.2) rfl 0 (by decide) (hts _ (List.mem_of_getElem? (i := 2) rfl)) (fun _ h9 => h9) (congrArg (fun o => some (va_rf o)) hr12) dX1_aliveWith_39 ?_
          refine lv_iload hx hb dX1_aliveWith_42 (lv_at hl 4 rfl) ?_
          refine wr_iald hx hb hw hok13 (inb_vp hin15) dX1_aliveWith_44 ?_
          refine lv_iload_n hx hb dX1_aliveWith_45 rfl (lv_at hl 2 rfl) ?_
          refine lv_iand hx hb dX1_aliveWith_46 ?_
          refine lv_if_ne (tgt := 53) hx hb dX1_aliveWith_47 (by decide) (fun c17 => ?_) (fun c17 => ?_)
          · have hg := it_neg hg c17
            refine lv_iinc (v := (v4 + (1 : Int32))) (lv' := [(4, .int (v4 + (1 : Int32))), (0, .ref a0), (1, .int x1), (2, .int x2), (3, .int v3)]) hx hb dX1_aliveWith_53 hl (k := 4) rfl rfl (by decide) rfl (fun ls hl => ?_)
            refine lv_goto (tgt := 5) hx hb dX1_aliveWith_56 (by decide) ?_
            exact hK5 _ _ _ _ _ _ hg hw (lv_sub hl [1, 2, 3, 4, 0] rfl)
          · have hg := it_pos hg c17
            refine lv_iinc (v := (v3 + (1 : Int32))) (lv' := [(3, .int (v3 + (1 : Int32))), (0, .ref a0), (1, .int x1), (2, .int x2), (4, .int v4)]) hx hb dX1_aliveWith_50 hl (k := 3) rfl rfl (by decide) rfl (fun ls hl => ?_)
            refine lv_iinc (v := (v4 + (1 : Int32))) (lv' := [(4, .int (v4 + (1 : Int32))), (3, .int (v3 + (1 : Int32))), (0, .ref a0), (1, .int x1), (2, .int x2)]) hx hb dX1_aliveWith_53 hl (k := 4) rfl rfl (by decide) rfl (fun ls hl => ?_)
            refine lv_goto (tgt := 5) hx hb dX1_aliveWith_56 (by decide) ?_
            exact hK5 _ _ _ _ _ _ hg hw (lv_sub hl [2, 3, 4, 1, 0] rfl)
  have L5 : ∀ (k : Nat) (S : Hp) (v3 : Int32) (v4 : Int32) (H : Heap) (locs : List Loc) (ls : Array Slot), f_X1_aliveWith_l5 N a0 x1 x2 k S v3 v4 = some (r, S9) → Wd D C (va_A (wP C S0) z) s.heap S z H locs s → lv_has ls 5 [(0, .ref a0), (1, .int x1), (2, .int x2), (3, .int v3), (4, .int v4)] → W p l e rm_X1_aliveWith s m ([.ref a0, .int x1, .int x2] : List Value).toArray below meth c H locs 0 0 (MQ below (QiW D C S0 z r S9 z) ([.ref a0, .int x1, .int x2] : List Value).toArray s 0 0 (va_A (wP C S0) z)) (F0 m 5 ls []) := by
    intro k
    induction k with
    | zero => intro S v3 v4 H locs ls hg hw hl; exact absurd (show (none : Option (Int32 × Hp)) = some (r, S9) from hg) (by simp)
    | succ k ih => intro S v3 v4 H locs ls hg hw hl; exact B5 (f_X1_aliveWith_l5 N a0 x1 x2 k) ih S v3 v4 H locs ls hg hw hl
  have B0 : ∀ (S : Hp) (H : Heap) (locs : List Loc) (ls : Array Slot), f_X1_aliveWith N S a0 x1 x2 = some (r, S9) → Wd D C (va_A (wP C S0) z) s.heap S z H locs s → lv_has ls 5 [(0, .ref a0), (1, .int x1), (2, .int x2)] → W p l e rm_X1_aliveWith s m ([.ref a0, .int x1, .int x2] : List Value).toArray below meth c H locs 0 0 (MQ below (QiW D C S0 z r S9 z) ([.ref a0, .int x1, .int x2] : List Value).toArray s 0 0 (va_A (wP C S0) z)) (F0 m 0 ls []) := by
    intro S H locs ls hg hw hl
    unfold f_X1_aliveWith at hg
    refine lv_iconst (v := (0 : Int32)) hx hb dX1_aliveWith_0 (by decide) ?_
    refine lv_istore_n (lv' := [(3, .int (0 : Int32)), (0, .ref a0), (1, .int x1), (2, .int x2)]) hx hb dX1_aliveWith_1 rfl hl (by decide) rfl (fun ls hl => ?_)
    refine lv_iconst (v := (0 : Int32)) hx hb dX1_aliveWith_2 (by decide) ?_
    refine lv_istore (lv' := [(4, .int (0 : Int32)), (3, .int (0 : Int32)), (0, .ref a0), (1, .int x1), (2, .int x2)]) hx hb dX1_aliveWith_3 hl (by decide) rfl (fun ls hl => ?_)
    exact L5 N _ _ _ _ _ _ hg hw (lv_sub hl [2, 3, 4, 1, 0] rfl)
  exact B0 S0 _ _ _ hg hw hl
