theorem hi_X5_errorAt_X5 : ∀ w ∈ wsX50, w ∈ wsX5_errorAt := fun _ h => List.mem_cons_of_mem _ (List.mem_append_right _ (h))
abbrev rm_X5_errorAt : Room := { frames := 0, cells := 0, slots := 0, locals := 0 }
set_option maxHeartbeats 4000000 in
set_option maxRecDepth 100000 in
theorem c_X5_errorAt (l : Launch) (D : va_G) (C : C3) (N : Nat) (S0 : Hp) (z : Nat) (a0 : Nat) (x1 : Int32) (r : Int32) (S9 : Hp) (hg : f_X5_errorAt N S0 a0 x1 = some (r, S9)) : MetI l yX5_errorAt wsX5_errorAt rm_X5_errorAt D C S0 z [.ref a0, .int x1] r S9 z 0 0 := by
  refine mw_ofW (cc := cX5_errorAt) (maxL := 5) (ret := (some .int)) (lv := [(0, .ref a0), (1, .int x1)]) (by decide) rfl (Nat.le_of_ble_eq_true rfl) rfl ?_
  intro p e s m below meth c ls hx hb hr hts hown hlk hml hnm hl hw
  have hown : s.vm.findClass RX5 = some m.cls := hown
  have B52 : ∀ (K4 : Hp → Int32 → Int32 → Option (Int32 × Hp)) (hK4 : ∀ (S : Hp) (v2 : Int32) (v3 : Int32) (H : Heap) (locs : List Loc) (ls : Array Slot), K4 S v2 v3 = some (r, S9) → Wd D C (va_A (wP C S0) z) s.heap S z H locs s → lv_has ls 5 [(0, .ref a0), (1, .int x1), (2, .int v2), (3, .int v3)] → W p l e rm_X5_errorAt s m ([.ref a0, .int x1] : List Value).toArray below meth c H locs 0 0 (MQ below (QiW D C S0 z r S9 z) ([.ref a0, .int x1] : List Value).toArray s 0 0 (va_A (wP C S0) z)) (F0 m 4 ls [])) (S : Hp) (v2 : Int32) (v3 : Int32) (v4 : Int32) (H : Heap) (locs : List Loc) (ls : Array Slot), f_X5_errorAt_b52 N a0 x1 K4 S v2 v3 v4 = some (r, S9) → Wd D C (va_A (wP C S0) z) s.heap S z H locs s → lv_has ls 5 [(0, .ref a0), (1, .int x1), (2, .int v2), (3, .int v3), (4, .int v4)] → W p l e rm_X5_errorAt s m ([.ref a0, .int x1] : List Value).toArray below meth c H locs 0 0 (MQ below (QiW D C S0 z r S9 z) ([.ref a0, .int x1] : List Value).toArray s 0 0 (va_A (wP C S0) z)) (F0 m 52 ls []) := by
    intro K4 hK4 S v2 v3 v4 H locs ls hg hw hl
    unfold f_X5_errorAt_b52 at hg
    refine lv_iload hx hb dX5_errorAt_52 (lv_at hl 4 rfl) ?_
    refine lv_iload_n hx hb dX5_errorAt_54 rfl (lv_at hl 2 rfl) ?_
    refine lv_icmp_lt (tgt := 72) hx hb dX5_errorAt_55 (by decide) (fun c19 => ?_) (fun c19 => ?_)
    · have hg := it_pos hg c19
      refine lv_iload_n hx hb dX5_errorAt_72 rfl (lv_at hl 3 rfl) ?_
      cases hg
      exact wr_iret hx hb hr hw dX5_errorAt_73 hlk
    · have hg := it_neg hg c19
      refine lv_iload hx hb dX5_errorAt_58 (lv_at hl 4 rfl) ?_
      refine lv_iload_n hx hb dX5_errorAt_60 rfl (lv_at hl 1 rfl) ?_
      refine lv_icmp_ge (tgt := 72) hx hb dX5_errorAt_61 (by decide) (fun c20 => ?_) (fun c20 => ?_)
      · have hg := it_pos hg c20
        refine lv_iload_n hx hb dX5_errorAt_72 rfl (lv_at hl 3 rfl) ?_
        cases hg
        exact wr_iret hx hb hr hw dX5_errorAt_73 hlk
      · have hg := it_neg hg c20
        refine lv_iload hx hb dX5_errorAt_64 (lv_at hl 4 rfl) ?_
        refine lv_iconst (v := (1 : Int32)) hx hb dX5_errorAt_66 (by decide) ?_
        refine lv_iadd hx hb dX5_errorAt_67 ?_
        refine lv_istore_n (lv' := [(2, .int (v4 + (1 : Int32))), (0, .ref a0), (1, .int x1), (3, .int v3), (4, .int v4)]) hx hb dX5_errorAt_68 rfl hl (by decide) rfl (fun ls hl => ?_)
        refine lv_goto (tgt := 74) hx hb dX5_errorAt_69 (by decide) ?_
        refine lv_iinc (v := (v3 + (1 : Int32))) (lv' := [(3, .int (v3 + (1 : Int32))), (2, .int (v4 + (1 : Int32))), (0, .ref a0), (1, .int x1), (4, .int v4)]) hx hb dX5_errorAt_74 hl (k := 3) rfl rfl (by decide) rfl (fun ls hl => ?_)
        refine lv_goto (tgt := 4) hx hb dX5_errorAt_77 (by decide) ?_
        exact hK4 _ _ _ _ _ _ hg hw (lv_sub hl [2, 3, 1, 0] rfl)
  have B4 : ∀ (K4 : Hp → Int32 → Int32 → Option (Int32 × Hp)) (hK4 : ∀ (S : Hp) (v2 : Int32) (v3 : Int32) (H : Heap) (locs : List Loc) (ls : Array Slot), K4 S v2 v3 = some (r, S9) → Wd D C (va_A (wP C S0) z) s.heap S z H locs s → lv_has ls 5 [(0, .ref a0), (1, .int x1), (2, .int v2), (3, .int v3)] → W p l e rm_X5_errorAt s m ([.ref a0, .int x1] : List Value).toArray below meth c H locs 0 0 (MQ below (QiW D C S0 z r S9 z) ([.ref a0, .int x1] : List Value).toArray s 0 0 (va_A (wP C S0) z)) (F0 m 4 ls [])) (S : Hp) (v2 : Int32) (v3 : Int32) (H : Heap) (locs : List Loc) (ls : Array Slot), f_X5_errorAt_b4 N a0 x1 K4 S v2 v3 = some (r, S9) → Wd D C (va_A (wP C S0) z) s.heap S z H locs s → lv_has ls 5 [(0, .ref a0), (1, .int x1), (2, .int v2), (3, .int v3)] → W p l e rm_X5_errorAt s m ([.ref a0, .int x1] : List Value).toArray below meth c H locs 0 0 (MQ below (QiW D C S0 z r S9 z) ([.ref a0, .int x1] : List Value).toArray s 0 0 (va_A (wP C S0) z)) (F0 m 4 ls []) := by
    intro K4 hK4 S v2 v3 H locs ls hg hw hl
    unfold f_X5_errorAt_b4 at hg
    refine lv_iload_n hx hb dX5_errorAt_4 rfl (lv_at hl 3 rfl) ?_
    refine lv_aload_n hx hb dX5_errorAt_5 rfl (lv_at hl 0 rfl) ?_
    obtain ⟨hok10, hg⟩ := gd_some hg
    refine wr_get (K := RX5) (T := TX5) (N := 2) (index := 15) (ref := "MakerLines$Text") (v := .int (hI S a0 1)) hx hb hts hi_X5_errorAt_X5 hown hw hok10 (wF_5 (S := S) hok10.2) rfl 1 (by decide) (hts _ (List.mem_of_getElem? (i := 1) rfl)) (fun _ h9 => h9) rfl dX5_errorAt_6 ?_
    refine lv_icmp_ge (tgt := 80) hx hb dX5_errorAt_9 (by decide) (fun c11 => ?_) (fun c11 => ?_)
    · have hg := it_pos hg c11
      refine lv_aload_n hx hb dX5_errorAt_80 rfl (lv_at hl 0 rfl) ?_
      refine wr_get (K := RX5) (T := TX5) (N := 2) (index := 15) (ref := "MakerLines$Text") (v := .int (hI S a0 1)) hx hb hts hi_X5_errorAt_X5 hown hw hok10 (wF_5 (S := S) hok10.2) rfl 1 (by decide) (hts _ (List.mem_of_getElem? (i := 1) rfl)) (fun _ h9 => h9) rfl dX5_errorAt_81 ?_
      cases hg
      exact wr_iret hx hb hr hw dX5_errorAt_84 hlk
    · have hg := it_neg hg c11
      refine lv_iload_n hx hb dX5_errorAt_12 rfl (lv_at hl 3 rfl) ?_
      refine lv_aload_n hx hb dX5_errorAt_13 rfl (lv_at hl 0 rfl) ?_
      obtain ⟨r12, hr12, hg⟩ := nn_some hg
      refine wr_get (K := RX5) (T := TX5) (N := 2) (index := 9) (ref := "MakerLines$Text") (v := .ref r12) hx hb hts hi_X5_errorAt_X5 hown hw hok10 (wF_5 (S := S) hok10.2) rfl 0 (by decide) (hts _ (List.mem_of_getElem? (i := 2) rfl)) (fun _ h9 => h9) (congrArg (fun o => some (va_rf o)) hr12) dX5_errorAt_14 ?_
      obtain ⟨hok13, hg⟩ := gd_some hg
      refine wr_alen8 hx hb hw hok13 dX5_errorAt_17 ?_
      refine lv_icmp_ge (tgt := 80) hx hb dX5_errorAt_18 (by decide) (fun c14 => ?_) (fun c14 => ?_)
      · have hg := it_pos hg c14
        refine lv_aload_n hx hb dX5_errorAt_80 rfl (lv_at hl 0 rfl) ?_
        refine wr_get (K := RX5) (T := TX5) (N := 2) (index := 15) (ref := "MakerLines$Text") (v := .int (hI S a0 1)) hx hb hts hi_X5_errorAt_X5 hown hw hok10 (wF_5 (S := S) hok10.2) rfl 1 (by decide) (hts _ (List.mem_of_getElem? (i := 1) rfl)) (fun _ h9 => h9) rfl dX5_errorAt_81 ?_
        cases hg
        exact wr_iret hx hb hr hw dX5_errorAt_84 hlk
      · have hg := it_neg hg c14
        refine lv_aload_n hx hb dX5_errorAt_21 rfl (lv_at hl 0 rfl) ?_
        refine wr_get (K := RX5) (T := TX5) (N := 2) (index := 9) (ref := "MakerLines$Text") (v := .ref r12) hx hb hts hi_X5_errorAt_X5 hown hw hok10 (wF_5 (S := S) hok10.2) rfl 0 (by decide) (hts _ (List.mem_of_getElem? (i := 2) rfl)) (fun _ h9 => h9) (congrArg (fun o => some (va_rf o)) hr12) dX5_errorAt_22 ?_
        refine lv_iload_n hx hb dX5_errorAt_25 rfl (lv_at hl 3 rfl) ?_
        obtain ⟨hin15, hg⟩ := gd_some hg
        refine wr_iald hx hb hw hok13 (inb_vp hin15) dX5_errorAt_26 ?_
        refine lv_bipush (v := (48 : Int32)) hx hb dX5_errorAt_27 (by decide) ?_
        refine lv_isub hx hb dX5_errorAt_29 ?_
        obtain ⟨e16, he16, hg⟩ := bd_some hg
        refine lv_istore (lv' := [(4, .int e16), (0, .ref a0), (1, .int x1), (2, .int v2), (3, .int v3)]) hx hb dX5_errorAt_30 hl (by decide) (by rw [he16]; rfl) (fun ls hl => ?_)
        refine lv_aload_n hx hb dX5_errorAt_32 rfl (lv_at hl 1 rfl) ?_
        refine wr_get (K := RX5) (T := TX5) (N := 2) (index := 9) (ref := "MakerLines$Text") (v := .ref r12) hx hb hts hi_X5_errorAt_X5 hown hw hok10 (wF_5 (S := S) hok10.2) rfl 0 (by decide) (hts _ (List.mem_of_getElem? (i := 2) rfl)) (fun _ h9 => h9) (congrArg (fun o => some (va_rf o)) hr12) dX5_errorAt_33 ?_
        refine lv_iload_n hx hb dX5_errorAt_36 rfl (lv_at hl 4 rfl) ?_
        refine wr_iald hx hb hw hok13 (inb_vp hin15) dX5_errorAt_37 ?_
        refine lv_bipush (v := (59 : Int32)) hx hb dX5_errorAt_38 (by decide) ?_
        refine lv_icmp_ne (tgt := 52) hx hb dX5_errorAt_40 (by decide) (fun c17 => ?_) (fun c17 => ?_)
        · have hg := it_neg hg c17
          exact B52 K4 hK4 _ _ _ _ _ _ _ hg hw (lv_sub hl [1, 2, 3, 4, 0] rfl)
        · have hg := it_pos hg c17
          refine lv_iload_n hx hb dX5_errorAt_43 rfl (lv_at hl 3 rfl) ?_
          refine lv_if_le (tgt := 52) hx hb dX5_errorAt_44 (by decide) (fun c18 => ?_) (fun c18 => ?_)
          · have hg := it_pos hg c18
            exact B52 K4 hK4 _ _ _ _ _ _ _ hg hw (lv_sub hl [1, 2, 3, 4, 0] rfl)
          · have hg := it_neg hg c18
            refine lv_iconst (v := (0 : Int32)) hx hb dX5_errorAt_47 (by decide) ?_
            refine lv_istore_n (lv' := [(2, .int (0 : Int32)), (4, .int e16), (0, .ref a0), (1, .int x1), (3, .int v3)]) hx hb dX5_errorAt_48 rfl hl (by decide) rfl (fun ls hl => ?_)
            refine lv_goto (tgt := 74) hx hb dX5_errorAt_49 (by decide) ?_
            refine lv_iinc (v := (v3 + (1 : Int32))) (lv' := [(3, .int (v3 + (1 : Int32))), (2, .int (0 : Int32)), (4, .int e16), (0, .ref a0), (1, .int x1)]) hx hb dX5_errorAt_74 hl (k := 4) rfl rfl (by decide) rfl (fun ls hl => ?_)
            refine lv_goto (tgt := 4) hx hb dX5_errorAt_77 (by decide) ?_
            exact hK4 _ _ _ _ _ _ hg hw (lv_sub hl [3, 4, 1, 0] rfl)
  have L4 : ∀ (k : Nat) (S : Hp) (v2 : Int32) (v3 : Int32) (H : Heap) (locs : List Loc) (ls : Array Slot), f_X5_errorAt_l4 N a0 x1 k S v2 v3 = some (r, S9) → Wd D C (va_A (wP C S0) z) s.heap S z H locs s → lv_has ls 5 [(0, .ref a0), (1, .int x1), (2, .int v2), (3, .int v3)] → W p l e rm_X5_errorAt s m ([.ref a0, .int x1] : List Value).toArray below meth c H locs 0 0 (MQ below (QiW D C S0 z r S9 z) ([.ref a0, .int x1] : List Value).toArray s 0 0 (va_A (wP C S0) z)) (F0 m 4 ls []) := by
    intro k
    induction k with
    | zero => intro S v2 v3 H locs ls hg hw hl; exact absurd (show (none : Option (Int32 × Hp)) = some (r, S9) from hg) (by simp)
    | succ k ih => intro S v2 v3 H locs ls hg hw hl; exact B4 (f_X5_errorAt_l4 N a0 x1 k) ih S v2 v3 H locs ls hg hw hl
  have B0 : ∀ (S : Hp) (H : Heap) (locs : List Loc) (ls : Array Slot), f_X5_errorAt N S a0 x1 = some (r, S9) → Wd D C (va_A (wP C S0) z) s.heap S z H locs s → lv_has ls 5 [(0, .ref a0), (1, .int x1)] → W p l e rm_X5_errorAt s m ([.ref a0, .int x1] : List Value).toArray below meth c H locs 0 0 (MQ below (QiW D C S0 z r S9 z) ([.ref a0, .int x1] : List Value).toArray s 0 0 (va_A (wP C S0) z)) (F0 m 0 ls []) := by
    intro S H locs ls hg hw hl
    unfold f_X5_errorAt at hg
    refine lv_iconst (v := (0 : Int32)) hx hb dX5_errorAt_0 (by decide) ?_
    refine lv_istore_n (lv' := [(2, .int (0 : Int32)), (0, .ref a0), (1, .int x1)]) hx hb dX5_errorAt_1 rfl hl (by decide) rfl (fun ls hl => ?_)
    refine lv_iconst (v := (0 : Int32)) hx hb dX5_errorAt_2 (by decide) ?_
    refine lv_istore_n (lv' := [(3, .int (0 : Int32)), (2, .int (0 : Int32)), (0, .ref a0), (1, .int x1)]) hx hb dX5_errorAt_3 rfl hl (by decide) rfl (fun ls hl => ?_)
    exact L4 N _ _ _ _ _ _ hg hw (lv_sub hl [2, 3, 1, 0] rfl)
  exact B0 S0 _ _ _ hg hw hl
theorem hi_X5_isComplete_X5 : ∀ w ∈ wsX50, w ∈ wsX5_isComplete := fun _ h => List.mem_cons_of_mem _ (List.mem_append_right _ (h))
abbrev rm_X5_isComplete : Room := { frames := 1, cells := 0, slots := 0, locals := 24 }
set_option maxHeartbeats 4000000 in
set_option maxRecDepth 100000 in
theorem c_X5_isComplete (l : Launch) (D : va_G) (C : C3) (N : Nat) (S0 : Hp) (z : Nat) (a0 : Nat) (x1 : Int32) (r : Int32) (S9 : Hp) (hg : f_X5_isComplete N S0 a0 x1 = some (r, S9)) : MetI l yX5_isComplete wsX5_isComplete rm_X5_isComplete D C S0 z [.ref a0, .int x1] r S9 z 0 0 := by
  refine mw_ofW (cc := cX5_isComplete) (maxL := 2) (ret := (some .boolean)) (lv := [(0, .ref a0), (1, .int x1)]) (by decide) rfl (Nat.le_of_ble_eq_true rfl) rfl ?_
  intro p e s m below meth c ls hx hb hr hts hown hlk hml hnm hl hw
  have hown : s.vm.findClass RX5 = some m.cls := hown
  have B0 : ∀ (S : Hp) (H : Heap) (locs : List Loc) (ls : Array Slot), f_X5_isComplete N S a0 x1 = some (r, S9) → Wd D C (va_A (wP C S0) z) s.heap S z H locs s → lv_has ls 2 [(0, .ref a0), (1, .int x1)] → W p l e rm_X5_isComplete s m ([.ref a0, .int x1] : List Value).toArray below meth c H locs 0 0 (MQ below (QiW D C S0 z r S9 z) ([.ref a0, .int x1] : List Value).toArray s 0 0 (va_A (wP C S0) z)) (F0 m 0 ls []) := by
    intro S H locs ls hg hw hl
    unfold f_X5_isComplete at hg
    refine lv_aload_n hx hb dX5_isComplete_0 rfl (lv_at hl 0 rfl) ?_
    obtain ⟨hok10, hg⟩ := gd_some hg
    refine wr_get (K := RX5) (T := TX5) (N := 2) (index := 15) (ref := "MakerLines$Text") (v := .int (hI S a0 1)) hx hb hts hi_X5_isComplete_X5 hown hw hok10 (wF_5 (S := S) hok10.2) rfl 1 (by decide) (hts _ (List.mem_of_getElem? (i := 1) rfl)) (fun _ h9 => h9) rfl dX5_isComplete_1 ?_
    refine lv_if_le (tgt := 19) hx hb dX5_isComplete_4 (by decide) (fun c11 => ?_) (fun c11 => ?_)
    · have hg := it_pos hg c11
      refine lv_iconst (v := (0 : Int32)) hx hb dX5_isComplete_19 (by decide) ?_
      cases hg
      exact wr_zret hx hb hr (by decide) hw dX5_isComplete_20 hlk
    · have hg := it_neg hg c11
      refine lv_aload_n hx hb dX5_isComplete_7 rfl (lv_at hl 0 rfl) ?_
      refine wr_get (K := RX5) (T := TX5) (N := 2) (index := 15) (ref := "MakerLines$Text") (v := .int (hI S a0 1)) hx hb hts hi_X5_isComplete_X5 hown hw hok10 (wF_5 (S := S) hok10.2) rfl 1 (by decide) (hts _ (List.mem_of_getElem? (i := 1) rfl)) (fun _ h9 => h9) rfl dX5_isComplete_8 ?_
      refine lv_aload_n hx hb dX5_isComplete_11 rfl (lv_at hl 0 rfl) ?_
      obtain ⟨r12, hr12, hg⟩ := nn_some hg
      refine wr_get (K := RX5) (T := TX5) (N := 2) (index := 9) (ref := "MakerLines$Text") (v := .ref r12) hx hb hts hi_X5_isComplete_X5 hown hw hok10 (wF_5 (S := S) hok10.2) rfl 0 (by decide) (hts _ (List.mem_of_getElem? (i := 2) rfl)) (fun _ h9 => h9) (congrArg (fun o => some (va_rf o)) hr12) dX5_isComplete_12 ?_
      obtain ⟨hok13, hg⟩ := gd_some hg
      refine wr_alen8 hx hb hw hok13 dX5_isComplete_15 ?_
      refine lv_icmp_le (tgt := 21) hx hb dX5_isComplete_16 (by decide) (fun c14 => ?_) (fun c14 => ?_)
      · have hg := it_pos hg c14
        refine lv_aload_n hx hb dX5_isComplete_21 rfl (lv_at hl 0 rfl) ?_
        refine wr_get (K := RX5) (T := TX5) (N := 2) (index := 9) (ref := "MakerLines$Text") (v := .ref r12) hx hb hts hi_X5_isComplete_X5 hown hw hok10 (wF_5 (S := S) hok10.2) rfl 0 (by decide) (hts _ (List.mem_of_getElem? (i := 2) rfl)) (fun _ h9 => h9) (congrArg (fun o => some (va_rf o)) hr12) dX5_isComplete_22 ?_
        refine lv_aload_n hx hb dX5_isComplete_25 rfl (lv_at hl 0 rfl) ?_
        refine wr_get (K := RX5) (T := TX5) (N := 2) (index := 15) (ref := "MakerLines$Text") (v := .int (hI S a0 1)) hx hb hts hi_X5_isComplete_X5 hown hw hok10 (wF_5 (S := S) hok10.2) rfl 1 (by decide) (hts _ (List.mem_of_getElem? (i := 1) rfl)) (fun _ h9 => h9) rfl dX5_isComplete_26 ?_
        refine lv_iconst (v := (1 : Int32)) hx hb dX5_isComplete_29 (by decide) ?_
        refine lv_isub hx hb dX5_isComplete_30 ?_
        obtain ⟨hin15, hg⟩ := gd_some hg
        refine wr_iald hx hb hw hok13 (inb_vp hin15) dX5_isComplete_31 ?_
        refine lv_bipush (v := (59 : Int32)) hx hb dX5_isComplete_32 (by decide) ?_
        refine lv_icmp_eq (tgt := 53) hx hb dX5_isComplete_34 (by decide) (fun c16 => ?_) (fun c16 => ?_)
        · have hg := it_pos hg c16
          refine lv_iconst (v := (0 : Int32)) hx hb dX5_isComplete_53 (by decide) ?_
          cases hg
          exact wr_zret hx hb hr (by decide) hw dX5_isComplete_54 hlk
        · have hg := it_neg hg c16
          refine lv_aload_n hx hb dX5_isComplete_37 rfl (lv_at hl 0 rfl) ?_
          refine lv_iload_n hx hb dX5_isComplete_38 rfl (lv_at hl 1 rfl) ?_
          obtain ⟨r17, S17, hc17, hg⟩ := cl_some hg
          refine wr_ci (va_runV (As := [.int x1]) (rest := []) ⟨hx, hb, hml, hown, hts⟩ (c_X5_errorAt l D C N S z a0 x1 r17 S17 hc17) (cwV 1 hts gX5_isComplete_X5_errorAt rfl rfl rfl (by decide +kernel) ⟨Nat.le_of_ble_eq_true rfl, Nat.le_of_ble_eq_true rfl⟩) (wd_preV hw hok10 (wF_5 (S := S) hok10.2) rfl) rfl rfl hl.1 rfl (lv_room (Nat.le_of_ble_eq_true rfl)) dX5_isComplete_39 ⟨Nat.zero_le _, Nat.zero_le _⟩) hw (fun H locs hw => ?_)
          refine lv_aload_n hx hb dX5_isComplete_42 rfl (lv_at hl 0 rfl) ?_
          obtain ⟨hok18, hg⟩ := gd_some hg
          refine wr_get (K := RX5) (T := TX5) (N := 2) (index := 15) (ref := "MakerLines$Text") (v := .int (hI S17 a0 1)) hx hb hts hi_X5_isComplete_X5 hown hw hok18 (wF_5 (S := S17) hok18.2) rfl 1 (by decide) (hts _ (List.mem_of_getElem? (i := 1) rfl)) (fun _ h9 => h9) rfl dX5_isComplete_43 ?_
          refine lv_icmp_ne (tgt := 53) hx hb dX5_isComplete_46 (by decide) (fun c19 => ?_) (fun c19 => ?_)
          · have hg := it_neg hg c19
            refine lv_iconst (v := (0 : Int32)) hx hb dX5_isComplete_53 (by decide) ?_
            cases hg
            exact wr_zret hx hb hr (by decide) hw dX5_isComplete_54 hlk
          · have hg := it_pos hg c19
            refine lv_iconst (v := (1 : Int32)) hx hb dX5_isComplete_49 (by decide) ?_
            refine lv_goto (tgt := 54) hx hb dX5_isComplete_50 (by decide) ?_
            cases hg
            exact wr_zret hx hb hr (by decide) hw dX5_isComplete_54 hlk
      · have hg := it_neg hg c14
        refine lv_iconst (v := (0 : Int32)) hx hb dX5_isComplete_19 (by decide) ?_
        cases hg
        exact wr_zret hx hb hr (by decide) hw dX5_isComplete_20 hlk
  exact B0 S0 _ _ _ hg hw hl
theorem hi_X5_rows_X5 : ∀ w ∈ wsX50, w ∈ wsX5_rows := fun _ h => List.mem_cons_of_mem _ (List.mem_append_right _ (h))
abbrev rm_X5_rows : Room := { frames := 0, cells := 0, slots := 0, locals := 0 }
set_option maxHeartbeats 4000000 in
set_option maxRecDepth 100000 in
theorem c_X5_rows (l : Launch) (D : va_G) (C : C3) (N : Nat) (S0 : Hp) (z : Nat) (a0 : Nat) (r : Int32) (S9 : Hp) (hg : f_X5_rows N S0 a0 = some (r, S9)) : MetI l yX5_rows wsX5_rows rm_X5_rows D C S0 z [.ref a0] r S9 z 0 0 := by
  refine mw_ofW (cc := cX5_rows) (maxL := 3) (ret := (some .int)) (lv := [(0, .ref a0)]) (by decide) rfl (Nat.le_of_ble_eq_true rfl) rfl ?_
  intro p e s m below meth c ls hx hb hr hts hown hlk hml hnm hl hw
  have hown : s.vm.findClass RX5 = some m.cls := hown
  have B4 : ∀ (K4 : Hp → Int32 → Int32 → Option (Int32 × Hp)) (hK4 : ∀ (S : Hp) (v1 : Int32) (v2 : Int32) (H : Heap) (locs : List Loc) (ls : Array Slot), K4 S v1 v2 = some (r, S9) → Wd D C (va_A (wP C S0) z) s.heap S z H locs s → lv_has ls 3 [(0, .ref a0), (1, .int v1), (2, .int v2)] → W p l e rm_X5_rows s m ([.ref a0] : List Value).toArray below meth c H locs 0 0 (MQ below (QiW D C S0 z r S9 z) ([.ref a0] : List Value).toArray s 0 0 (va_A (wP C S0) z)) (F0 m 4 ls [])) (S : Hp) (v1 : Int32) (v2 : Int32) (H : Heap) (locs : List Loc) (ls : Array Slot), f_X5_rows_b4 N a0 K4 S v1 v2 = some (r, S9) → Wd D C (va_A (wP C S0) z) s.heap S z H locs s → lv_has ls 3 [(0, .ref a0), (1, .int v1), (2, .int v2)] → W p l e rm_X5_rows s m ([.ref a0] : List Value).toArray below meth c H locs 0 0 (MQ below (QiW D C S0 z r S9 z) ([.ref a0] : List Value).toArray s 0 0 (va_A (wP C S0) z)) (F0 m 4 ls []) := by
    intro K4 hK4 S v1 v2 H locs ls hg hw hl
    unfold f_X5_rows_b4 at hg
    refine lv_iload_n hx hb dX5_rows_4 rfl (lv_at hl 2 rfl) ?_
    refine lv_aload_n hx hb dX5_rows_5 rfl (lv_at hl 0 rfl) ?_
    obtain ⟨hok10, hg⟩ := gd_some hg
    refine wr_get (K := RX5) (T := TX5) (N := 2) (index := 15) (ref := "MakerLines$Text") (v := .int (hI S a0 1)) hx hb hts hi_X5_rows_X5 hown hw hok10 (wF_5 (S := S) hok10.2) rfl 1 (by decide) (hts _ (List.mem_of_getElem? (i := 1) rfl)) (fun _ h9 => h9) rfl dX5_rows_6 ?_
    refine lv_icmp_ge (tgt := 41) hx hb dX5_rows_9 (by decide) (fun c11 => ?_) (fun c11 => ?_)
    · have hg := it_pos hg c11
      refine lv_iload_n hx hb dX5_rows_41 rfl (lv_at hl 1 rfl) ?_
      cases hg
      exact wr_iret hx hb hr hw dX5_rows_42 hlk
    · have hg := it_neg hg c11
      refine lv_iload_n hx hb dX5_rows_12 rfl (lv_at hl 2 rfl) ?_
      refine lv_aload_n hx hb dX5_rows_13 rfl (lv_at hl 0 rfl) ?_
      obtain ⟨r12, hr12, hg⟩ := nn_some hg
      refine wr_get (K := RX5) (T := TX5) (N := 2) (index := 9) (ref := "MakerLines$Text") (v := .ref r12) hx hb hts hi_X5_rows_X5 hown hw hok10 (wF_5 (S := S) hok10.2) rfl 0 (by decide) (hts _ (List.mem_of_getElem? (i := 2) rfl)) (fun _ h9 => h9) (congrArg (fun o => some (va_rf o)) hr12) dX5_rows_14 ?_
      obtain ⟨hok13, hg⟩ := gd_some hg
      refine wr_alen8 hx hb hw hok13 dX5_rows_17 ?_
      refine lv_icmp_ge (tgt := 41) hx hb dX5_rows_18 (by decide) (fun c14 => ?_) (fun c14 => ?_)
      · have hg := it_pos hg c14
        refine lv_iload_n hx hb dX5_rows_41 rfl (lv_at hl 1 rfl) ?_
        cases hg
        exact wr_iret hx hb hr hw dX5_rows_42 hlk
      · have hg := it_neg hg c14
        refine lv_aload_n hx hb dX5_rows_21 rfl (lv_at hl 0 rfl) ?_
        refine wr_get (K := RX5) (T := TX5) (N := 2) (index := 9) (ref := "MakerLines$Text") (v := .ref r12) hx hb hts hi_X5_rows_X5 hown hw hok10 (wF_5 (S := S) hok10.2) rfl 0 (by decide) (hts _ (List.mem_of_getElem? (i := 2) rfl)) (fun _ h9 => h9) (congrArg (fun o => some (va_rf o)) hr12) dX5_rows_22 ?_
        refine lv_iload_n hx hb dX5_rows_25 rfl (lv_at hl 2 rfl) ?_
        obtain ⟨hin15, hg⟩ := gd_some hg
        refine wr_iald hx hb hw hok13 (inb_vp hin15) dX5_rows_26 ?_
        refine lv_bipush (v := (59 : Int32)) hx hb dX5_rows_27 (by decide) ?_
        refine lv_icmp_ne (tgt := 35) hx hb dX5_rows_29 (by decide) (fun c16 => ?_) (fun c16 => ?_)
        · have hg := it_neg hg c16
          refine lv_iinc (v := (v2 + (1 : Int32))) (lv' := [(2, .int (v2 + (1 : Int32))), (0, .ref a0), (1, .int v1)]) hx hb dX5_rows_35 hl (k := 2) rfl rfl (by decide) rfl (fun ls hl => ?_)
          refine lv_goto (tgt := 4) hx hb dX5_rows_38 (by decide) ?_
          exact hK4 _ _ _ _ _ _ hg hw (lv_sub hl [1, 2, 0] rfl)
        · have hg := it_pos hg c16
          refine lv_iinc (v := (v1 + (1 : Int32))) (lv' := [(1, .int (v1 + (1 : Int32))), (0, .ref a0), (2, .int v2)]) hx hb dX5_rows_32 hl (k := 1) rfl rfl (by decide) rfl (fun ls hl => ?_)
          refine lv_iinc (v := (v2 + (1 : Int32))) (lv' := [(2, .int (v2 + (1 : Int32))), (1, .int (v1 + (1 : Int32))), (0, .ref a0)]) hx hb dX5_rows_35 hl (k := 2) rfl rfl (by decide) rfl (fun ls hl => ?_)
          refine lv_goto (tgt := 4) hx hb dX5_rows_38 (by decide) ?_
          exact hK4 _ _ _ _ _ _ hg hw (lv_sub hl [2, 1, 0] rfl)
  have L4 : ∀ (k : Nat) (S : Hp) (v1 : Int32) (v2 : Int32) (H : Heap) (locs : List Loc) (ls : Array Slot), f_X5_rows_l4 N a0 k S v1 v2 = some (r, S9) → Wd D C (va_A (wP C S0) z) s.heap S z H locs s → lv_has ls 3 [(0, .ref a0), (1, .int v1), (2, .int v2)] → W p l e rm_X5_rows s m ([.ref a0] : List Value).toArray below meth c H locs 0 0 (MQ below (QiW D C S0 z r S9 z) ([.ref a0] : List Value).toArray s 0 0 (va_A (wP C S0) z)) (F0 m 4 ls []) := by
    intro k
    induction k with
    | zero => intro S v1 v2 H locs ls hg hw hl; exact absurd (show (none : Option (Int32 × Hp)) = some (r, S9) from hg) (by simp)
    | succ k ih => intro S v1 v2 H locs ls hg hw hl; exact B4 (f_X5_rows_l4 N a0 k) ih S v1 v2 H locs ls hg hw hl
  have B0 : ∀ (S : Hp) (H : Heap) (locs : List Loc) (ls : Array Slot), f_X5_rows N S a0 = some (r, S9) → Wd D C (va_A (wP C S0) z) s.heap S z H locs s → lv_has ls 3 [(0, .ref a0)] → W p l e rm_X5_rows s m ([.ref a0] : List Value).toArray below meth c H locs 0 0 (MQ below (QiW D C S0 z r S9 z) ([.ref a0] : List Value).toArray s 0 0 (va_A (wP C S0) z)) (F0 m 0 ls []) := by
    intro S H locs ls hg hw hl
    unfold f_X5_rows at hg
    refine lv_iconst (v := (1 : Int32)) hx hb dX5_rows_0 (by decide) ?_
    refine lv_istore_n (lv' := [(1, .int (1 : Int32)), (0, .ref a0)]) hx hb dX5_rows_1 rfl hl (by decide) rfl (fun ls hl => ?_)
    refine lv_iconst (v := (0 : Int32)) hx hb dX5_rows_2 (by decide) ?_
    refine lv_istore_n (lv' := [(2, .int (0 : Int32)), (1, .int (1 : Int32)), (0, .ref a0)]) hx hb dX5_rows_3 rfl hl (by decide) rfl (fun ls hl => ?_)
    exact L4 N _ _ _ _ _ _ hg hw (lv_sub hl [2, 1, 0] rfl)
  exact B0 S0 _ _ _ hg hw hl
theorem hi_X5_addTo_X5 : ∀ w ∈ wsX50, w ∈ wsX5_addTo := fun _ h => List.mem_cons_of_mem _ (List.mem_append_left _ (List.mem_append_right _ (h)))
abbrev rm_X5_addTo : Room := { frames := 1, cells := 0, slots := 0, locals := 21 }
set_option maxHeartbeats 4000000 in
set_option maxRecDepth 100000 in
theorem c_X5_addTo (l : Launch) (D : va_G) (C : C3) (N : Nat) (S0 : Hp) (z : Nat) (a0 : Nat) (a1 : Nat) (r : Unit) (S9 : Hp) (hg : f_X5_addTo N S0 a0 a1 = some (r, S9)) : MetV l yX5_addTo wsX5_addTo rm_X5_addTo D C S0 z [.ref a0, .ref a1] r S9 z 0 0 := by
  refine mw_ofW (cc := cX5_addTo) (maxL := 4) (ret := none) (lv := [(0, .ref a0), (1, .ref a1)]) (by decide) rfl (Nat.le_of_ble_eq_true rfl) rfl ?_
  intro p e s m below meth c ls hx hb hr hts hown hlk hml hnm hl hw
  have hown : s.vm.findClass RX5 = some m.cls := hown
  have B62 : ∀ (S : Hp) (v2 : Int32) (H : Heap) (locs : List Loc) (ls : Array Slot), f_X5_addTo_b62 N a0 a1 S v2 = some (r, S9) → Wd D C (va_A (wP C S0) z) s.heap S z H locs s → lv_has ls 4 [(1, .ref a1), (2, .int v2)] → W p l e rm_X5_addTo s m ([.ref a0, .ref a1] : List Value).toArray below meth c H locs 0 0 (MQ below (QvW D C S0 z r S9 z) ([.ref a0, .ref a1] : List Value).toArray s 0 0 (va_A (wP C S0) z)) (F0 m 62 ls []) := by
    intro S v2 H locs ls hg hw hl
    unfold f_X5_addTo_b62 at hg
    refine lv_aload_n hx hb dX5_addTo_62 rfl (lv_at hl 0 rfl) ?_
    refine lv_iload_n hx hb dX5_addTo_63 rfl (lv_at hl 1 rfl) ?_
    obtain ⟨hok20, hg⟩ := gd_some hg
    obtain ⟨⟨⟩, S21, hc21, hg⟩ := cl_some hg
    refine wr_cv (va_runV (As := [.int v2]) (rest := []) ⟨hx, hb, hml, hown, hts⟩ (c_X1_put l D C N S z a1 v2 () S21 hc21) (cwV 1 hts gX5_addTo_X1_put rfl rfl rfl (by decide +kernel) ⟨Nat.le_of_ble_eq_true rfl, Nat.le_of_ble_eq_true rfl⟩) (wd_preV hw hok20 (wF_1 (S := S) hok20.2) rfl) rfl rfl hl.1 rfl (lv_room (Nat.le_of_ble_eq_true rfl)) dX5_addTo_64 ⟨Nat.zero_le _, Nat.zero_le _⟩) hw (fun H locs hw => ?_)
    cases hg
    exact wr_vret hx hb hr hw dX5_addTo_67 hlk
  have B4 : ∀ (K4 : Hp → Int32 → Int32 → Option (Unit × Hp)) (hK4 : ∀ (S : Hp) (v2 : Int32) (v3 : Int32) (H : Heap) (locs : List Loc) (ls : Array Slot), K4 S v2 v3 = some (r, S9) → Wd D C (va_A (wP C S0) z) s.heap S z H locs s → lv_has ls 4 [(0, .ref a0), (1, .ref a1), (2, .int v2), (3, .int v3)] → W p l e rm_X5_addTo s m ([.ref a0, .ref a1] : List Value).toArray below meth c H locs 0 0 (MQ below (QvW D C S0 z r S9 z) ([.ref a0, .ref a1] : List Value).toArray s 0 0 (va_A (wP C S0) z)) (F0 m 4 ls [])) (S : Hp) (v2 : Int32) (v3 : Int32) (H : Heap) (locs : List Loc) (ls : Array Slot), f_X5_addTo_b4 N a0 a1 K4 S v2 v3 = some (r, S9) → Wd D C (va_A (wP C S0) z) s.heap S z H locs s → lv_has ls 4 [(0, .ref a0), (1, .ref a1), (2, .int v2), (3, .int v3)] → W p l e rm_X5_addTo s m ([.ref a0, .ref a1] : List Value).toArray below meth c H locs 0 0 (MQ below (QvW D C S0 z r S9 z) ([.ref a0, .ref a1] : List Value).toArray s 0 0 (va_A (wP C S0) z)) (F0 m 4 ls []) := by
    intro K4 hK4 S v2 v3 H locs ls hg hw hl
    unfold f_X5_addTo_b4 at hg
    refine lv_iload_n hx hb dX5_addTo_4 rfl (lv_at hl 3 rfl) ?_
    refine lv_aload_n hx hb dX5_addTo_5 rfl (lv_at hl 0 rfl) ?_
    obtain ⟨hok10, hg⟩ := gd_some hg
    refine wr_get (K := RX5) (T := TX5) (N := 2) (index := 15) (ref := "MakerLines$Text") (v := .int (hI S a0 1)) hx hb hts hi_X5_addTo_X5 hown hw hok10 (wF_5 (S := S) hok10.2) rfl 1 (by decide) (hts _ (List.mem_of_getElem? (i := 1) rfl)) (fun _ h9 => h9) rfl dX5_addTo_6 ?_
    refine lv_icmp_ge (tgt := 62) hx hb dX5_addTo_9 (by decide) (fun c11 => ?_) (fun c11 => ?_)
    · have hg := it_pos hg c11
      exact B62 _ _ _ _ _ hg hw (lv_sub hl [1, 2] rfl)
    · have hg := it_neg hg c11
      refine lv_iload_n hx hb dX5_addTo_12 rfl (lv_at hl 3 rfl) ?_
      refine lv_aload_n hx hb dX5_addTo_13 rfl (lv_at hl 0 rfl) ?_
      obtain ⟨r12, hr12, hg⟩ := nn_some hg
      refine wr_get (K := RX5) (T := TX5) (N := 2) (index := 9) (ref := "MakerLines$Text") (v := .ref r12) hx hb hts hi_X5_addTo_X5 hown hw hok10 (wF_5 (S := S) hok10.2) rfl 0 (by decide) (hts _ (List.mem_of_getElem? (i := 2) rfl)) (fun _ h9 => h9) (congrArg (fun o => some (va_rf o)) hr12) dX5_addTo_14 ?_
      obtain ⟨hok13, hg⟩ := gd_some hg
      refine wr_alen8 hx hb hw hok13 dX5_addTo_17 ?_
      refine lv_icmp_ge (tgt := 62) hx hb dX5_addTo_18 (by decide) (fun c14 => ?_) (fun c14 => ?_)
      · have hg := it_pos hg c14
        exact B62 _ _ _ _ _ hg hw (lv_sub hl [1, 2] rfl)
      · have hg := it_neg hg c14
        refine lv_aload_n hx hb dX5_addTo_21 rfl (lv_at hl 0 rfl) ?_
        refine wr_get (K := RX5) (T := TX5) (N := 2) (index := 9) (ref := "MakerLines$Text") (v := .ref r12) hx hb hts hi_X5_addTo_X5 hown hw hok10 (wF_5 (S := S) hok10.2) rfl 0 (by decide) (hts _ (List.mem_of_getElem? (i := 2) rfl)) (fun _ h9 => h9) (congrArg (fun o => some (va_rf o)) hr12) dX5_addTo_22 ?_
        refine lv_iload_n hx hb dX5_addTo_25 rfl (lv_at hl 3 rfl) ?_
        obtain ⟨hin15, hg⟩ := gd_some hg
        refine wr_iald hx hb hw hok13 (inb_vp hin15) dX5_addTo_26 ?_
        refine lv_bipush (v := (59 : Int32)) hx hb dX5_addTo_27 (by decide) ?_
        refine lv_icmp_ne (tgt := 42) hx hb dX5_addTo_29 (by decide) (fun c16 => ?_) (fun c16 => ?_)
        · have hg := it_neg hg c16
          refine lv_iload_n hx hb dX5_addTo_42 rfl (lv_at hl 2 rfl) ?_
          refine lv_iconst (v := (1 : Int32)) hx hb dX5_addTo_43 (by decide) ?_
          refine lv_aload_n hx hb dX5_addTo_44 rfl (lv_at hl 0 rfl) ?_
          refine wr_get (K := RX5) (T := TX5) (N := 2) (index := 9) (ref := "MakerLines$Text") (v := .ref r12) hx hb hts hi_X5_addTo_X5 hown hw hok10 (wF_5 (S := S) hok10.2) rfl 0 (by decide) (hts _ (List.mem_of_getElem? (i := 2) rfl)) (fun _ h9 => h9) (congrArg (fun o => some (va_rf o)) hr12) dX5_addTo_45 ?_
          refine lv_iload_n hx hb dX5_addTo_48 rfl (lv_at hl 3 rfl) ?_
          refine wr_iald hx hb hw hok13 (inb_vp hin15) dX5_addTo_49 ?_
          refine lv_bipush (v := (48 : Int32)) hx hb dX5_addTo_50 (by decide) ?_
          refine lv_isub hx hb dX5_addTo_52 ?_
          refine lv_ishl hx hb dX5_addTo_53 ?_
          refine lv_ior hx hb dX5_addTo_54 ?_
          obtain ⟨e17, he17, hg⟩ := bd_some hg
          refine lv_istore_n (lv' := [(2, .int e17), (0, .ref a0), (1, .ref a1), (3, .int v3)]) hx hb dX5_addTo_55 rfl hl (by decide) (by rw [he17]; rfl) (fun ls hl => ?_)
          refine lv_iinc (v := (v3 + (1 : Int32))) (lv' := [(3, .int (v3 + (1 : Int32))), (2, .int e17), (0, .ref a0), (1, .ref a1)]) hx hb dX5_addTo_56 hl (k := 3) rfl rfl (by decide) rfl (fun ls hl => ?_)
          refine lv_goto (tgt := 4) hx hb dX5_addTo_59 (by decide) ?_
          exact hK4 _ _ _ _ _ _ hg hw (lv_sub hl [2, 3, 1, 0] rfl)
        · have hg := it_pos hg c16
          refine lv_aload_n hx hb dX5_addTo_32 rfl (lv_at hl 1 rfl) ?_
          refine lv_iload_n hx hb dX5_addTo_33 rfl (lv_at hl 2 rfl) ?_
          obtain ⟨hok18, hg⟩ := gd_some hg
          obtain ⟨⟨⟩, S19, hc19, hg⟩ := cl_some hg
          refine wr_cv (va_runV (As := [.int v2]) (rest := []) ⟨hx, hb, hml, hown, hts⟩ (c_X1_put l D C N S z a1 v2 () S19 hc19) (cwV 1 hts gX5_addTo_X1_put rfl rfl rfl (by decide +kernel) ⟨Nat.le_of_ble_eq_true rfl, Nat.le_of_ble_eq_true rfl⟩) (wd_preV hw hok18 (wF_1 (S := S) hok18.2) rfl) rfl rfl hl.1 rfl (lv_room (Nat.le_of_ble_eq_true rfl)) dX5_addTo_34 ⟨Nat.zero_le _, Nat.zero_le _⟩) hw (fun H locs hw => ?_)
          refine lv_iconst (v := (0 : Int32)) hx hb dX5_addTo_37 (by decide) ?_
          refine lv_istore_n (lv' := [(2, .int (0 : Int32)), (0, .ref a0), (1, .ref a1), (3, .int v3)]) hx hb dX5_addTo_38 rfl hl (by decide) rfl (fun ls hl => ?_)
          refine lv_goto (tgt := 56) hx hb dX5_addTo_39 (by decide) ?_
          refine lv_iinc (v := (v3 + (1 : Int32))) (lv' := [(3, .int (v3 + (1 : Int32))), (2, .int (0 : Int32)), (0, .ref a0), (1, .ref a1)]) hx hb dX5_addTo_56 hl (k := 3) rfl rfl (by decide) rfl (fun ls hl => ?_)
          refine lv_goto (tgt := 4) hx hb dX5_addTo_59 (by decide) ?_
          exact hK4 _ _ _ _ _ _ hg hw (lv_sub hl [2, 3, 1, 0] rfl)
  have L4 : ∀ (k : Nat) (S : Hp) (v2 : Int32) (v3 : Int32) (H : Heap) (locs : List Loc) (ls : Array Slot), f_X5_addTo_l4 N a0 a1 k S v2 v3 = some (r, S9) → Wd D C (va_A (wP C S0) z) s.heap S z H locs s → lv_has ls 4 [(0, .ref a0), (1, .ref a1), (2, .int v2), (3, .int v3)] → W p l e rm_X5_addTo s m ([.ref a0, .ref a1] : List Value).toArray below meth c H locs 0 0 (MQ below (QvW D C S0 z r S9 z) ([.ref a0, .ref a1] : List Value).toArray s 0 0 (va_A (wP C S0) z)) (F0 m 4 ls []) := by
    intro k
    induction k with
    | zero => intro S v2 v3 H locs ls hg hw hl; exact absurd (show (none : Option (Unit × Hp)) = some (r, S9) from hg) (by simp)
    | succ k ih => intro S v2 v3 H locs ls hg hw hl; exact B4 (f_X5_addTo_l4 N a0 a1 k) ih S v2 v3 H locs ls hg hw hl
  have B0 : ∀ (S : Hp) (H : Heap) (locs : List Loc) (ls : Array Slot), f_X5_addTo N S a0 a1 = some (r, S9) → Wd D C (va_A (wP C S0) z) s.heap S z H locs s → lv_has ls 4 [(0, .ref a0), (1, .ref a1)] → W p l e rm_X5_addTo s m ([.ref a0, .ref a1] : List Value).toArray below meth c H locs 0 0 (MQ below (QvW D C S0 z r S9 z) ([.ref a0, .ref a1] : List Value).toArray s 0 0 (va_A (wP C S0) z)) (F0 m 0 ls []) := by
    intro S H locs ls hg hw hl
    unfold f_X5_addTo at hg
    refine lv_iconst (v := (0 : Int32)) hx hb dX5_addTo_0 (by decide) ?_
    refine lv_istore_n (lv' := [(2, .int (0 : Int32)), (0, .ref a0), (1, .ref a1)]) hx hb dX5_addTo_1 rfl hl (by decide) rfl (fun ls hl => ?_)
    refine lv_iconst (v := (0 : Int32)) hx hb dX5_addTo_2 (by decide) ?_
    refine lv_istore_n (lv' := [(3, .int (0 : Int32)), (2, .int (0 : Int32)), (0, .ref a0), (1, .ref a1)]) hx hb dX5_addTo_3 rfl hl (by decide) rfl (fun ls hl => ?_)
    exact L4 N _ _ _ _ _ _ hg hw (lv_sub hl [2, 3, 1, 0] rfl)
  exact B0 S0 _ _ _ hg hw hl
theorem hi_X5_hashOnto_X5 : ∀ w ∈ wsX50, w ∈ wsX5_hashOnto := fun _ h => List.mem_cons_of_mem _ (List.mem_append_right _ (h))
abbrev rm_X5_hashOnto : Room := { frames := 0, cells := 0, slots := 0, locals := 0 }
set_option maxHeartbeats 4000000 in
set_option maxRecDepth 100000 in
theorem c_X5_hashOnto (l : Launch) (D : va_G) (C : C3) (N : Nat) (S0 : Hp) (z : Nat) (a0 : Nat) (y1 : Int64) (r : Int64) (S9 : Hp) (hg : f_X5_hashOnto N S0 a0 y1 = some (r, S9)) : MetL l yX5_hashOnto wsX5_hashOnto rm_X5_hashOnto D C S0 z [.ref a0, .long y1] r S9 z 0 0 := by
  refine mw_ofW (cc := cX5_hashOnto) (maxL := 6) (ret := (some .long)) (lv := [(0, .ref a0), (1, .long y1)]) (by decide) rfl (Nat.le_of_ble_eq_true rfl) rfl ?_
  intro p e s m below meth c ls hx hb hr hts hown hlk hml hnm hl hw
  have hown : s.vm.findClass RX5 = some m.cls := hown
  have B15 : ∀ (K15 : Hp → Int64 → Int32 → Option (Int64 × Hp)) (hK15 : ∀ (S : Hp) (l3 : Int64) (v5 : Int32) (H : Heap) (locs : List Loc) (ls : Array Slot), K15 S l3 v5 = some (r, S9) → Wd D C (va_A (wP C S0) z) s.heap S z H locs s → lv_has ls 6 [(0, .ref a0), (3, .long l3), (5, .int v5)] → W p l e rm_X5_hashOnto s m ([.ref a0, .long y1] : List Value).toArray below meth c H locs 0 0 (MQ below (QlW D C S0 z r S9 z) ([.ref a0, .long y1] : List Value).toArray s 0 0 (va_A (wP C S0) z)) (F0 m 15 ls [])) (S : Hp) (l3 : Int64) (v5 : Int32) (H : Heap) (locs : List Loc) (ls : Array Slot), f_X5_hashOnto_b15 N a0 y1 K15 S l3 v5 = some (r, S9) → Wd D C (va_A (wP C S0) z) s.heap S z H locs s → lv_has ls 6 [(0, .ref a0), (3, .long l3), (5, .int v5)] → W p l e rm_X5_hashOnto s m ([.ref a0, .long y1] : List Value).toArray below meth c H locs 0 0 (MQ below (QlW D C S0 z r S9 z) ([.ref a0, .long y1] : List Value).toArray s 0 0 (va_A (wP C S0) z)) (F0 m 15 ls []) := by
    intro K15 hK15 S l3 v5 H locs ls hg hw hl
    unfold f_X5_hashOnto_b15 at hg
    refine lv_iload hx hb dX5_hashOnto_15 (lv_at hl 2 rfl) ?_
    refine lv_aload_n hx hb dX5_hashOnto_17 rfl (lv_at hl 0 rfl) ?_
    obtain ⟨hok12, hg⟩ := gd_some hg
    refine wr_get (K := RX5) (T := TX5) (N := 2) (index := 15) (ref := "MakerLines$Text") (v := .int (hI S a0 1)) hx hb hts hi_X5_hashOnto_X5 hown hw hok12 (wF_5 (S := S) hok12.2) rfl 1 (by decide) (hts _ (List.mem_of_getElem? (i := 2) rfl)) (fun _ h9 => h9) rfl dX5_hashOnto_18 ?_
    refine lv_icmp_ge (tgt := 55) hx hb dX5_hashOnto_21 (by decide) (fun c13 => ?_) (fun c13 => ?_)
    · have hg := it_pos hg c13
      refine lv_lload_n hx hb dX5_hashOnto_55 rfl (lv_at hl 1 rfl) ?_
      cases hg
      exact wr_lret hx hb hr hw dX5_hashOnto_56 hlk
    · have hg := it_neg hg c13
      refine lv_iload hx hb dX5_hashOnto_24 (lv_at hl 2 rfl) ?_
      refine lv_aload_n hx hb dX5_hashOnto_26 rfl (lv_at hl 0 rfl) ?_
      obtain ⟨r14, hr14, hg⟩ := nn_some hg
      refine wr_get (K := RX5) (T := TX5) (N := 2) (index := 9) (ref := "MakerLines$Text") (v := .ref r14) hx hb hts hi_X5_hashOnto_X5 hown hw hok12 (wF_5 (S := S) hok12.2) rfl 0 (by decide) (hts _ (List.mem_of_getElem? (i := 3) rfl)) (fun _ h9 => h9) (congrArg (fun o => some (va_rf o)) hr14) dX5_hashOnto_27 ?_
      obtain ⟨hok15, hg⟩ := gd_some hg
      refine wr_alen8 hx hb hw hok15 dX5_hashOnto_30 ?_
      refine lv_icmp_ge (tgt := 55) hx hb dX5_hashOnto_31 (by decide) (fun c16 => ?_) (fun c16 => ?_)
      · have hg := it_pos hg c16
        refine lv_lload_n hx hb dX5_hashOnto_55 rfl (lv_at hl 1 rfl) ?_
        cases hg
        exact wr_lret hx hb hr hw dX5_hashOnto_56 hlk
      · have hg := it_neg hg c16
        refine lv_ldc2 (own := RX5) (index := 29) (v := (31 : Int64)) hx hb hown (hts _ (List.mem_of_getElem? (i := 1) rfl)) dX5_hashOnto_34 ?_
        refine lv_lload_n hx hb dX5_hashOnto_37 rfl (lv_at hl 1 rfl) ?_
        refine lv_lmul hx hb dX5_hashOnto_38 ?_
        refine lv_aload_n hx hb dX5_hashOnto_39 rfl (lv_at hl 0 rfl) ?_
        refine wr_get (K := RX5) (T := TX5) (N := 2) (index := 9) (ref := "MakerLines$Text") (v := .ref r14) hx hb hts hi_X5_hashOnto_X5 hown hw hok12 (wF_5 (S := S) hok12.2) rfl 0 (by decide) (hts _ (List.mem_of_getElem? (i := 3) rfl)) (fun _ h9 => h9) (congrArg (fun o => some (va_rf o)) hr14) dX5_hashOnto_40 ?_
        refine lv_iload hx hb dX5_hashOnto_43 (lv_at hl 2 rfl) ?_
        obtain ⟨hin17, hg⟩ := gd_some hg
        refine wr_iald hx hb hw hok15 (inb_vp hin17) dX5_hashOnto_45 ?_
        refine lv_i2l (v := (Int32.toInt64 (hI S r14 v5.toNatClampNeg))) hx hb dX5_hashOnto_46 rfl ?_
        refine lv_ladd hx hb dX5_hashOnto_47 ?_
        obtain ⟨e18, he18, hg⟩ := bd_some hg
        refine lv_lstore_n (lv' := [(3, .long e18), (0, .ref a0), (5, .int v5)]) hx hb dX5_hashOnto_48 rfl hl (by decide) (by rw [he18]; rfl) (fun ls hl => ?_)
        refine lv_iinc (v := (v5 + (1 : Int32))) (lv' := [(5, .int (v5 + (1 : Int32))), (3, .long e18), (0, .ref a0)]) hx hb dX5_hashOnto_49 hl (k := 2) rfl rfl (by decide) rfl (fun ls hl => ?_)
        refine lv_goto (tgt := 15) hx hb dX5_hashOnto_52 (by decide) ?_
        exact hK15 _ _ _ _ _ _ hg hw (lv_sub hl [2, 1, 0] rfl)
  have L15 : ∀ (k : Nat) (S : Hp) (l3 : Int64) (v5 : Int32) (H : Heap) (locs : List Loc) (ls : Array Slot), f_X5_hashOnto_l15 N a0 y1 k S l3 v5 = some (r, S9) → Wd D C (va_A (wP C S0) z) s.heap S z H locs s → lv_has ls 6 [(0, .ref a0), (3, .long l3), (5, .int v5)] → W p l e rm_X5_hashOnto s m ([.ref a0, .long y1] : List Value).toArray below meth c H locs 0 0 (MQ below (QlW D C S0 z r S9 z) ([.ref a0, .long y1] : List Value).toArray s 0 0 (va_A (wP C S0) z)) (F0 m 15 ls []) := by
    intro k
    induction k with
    | zero => intro S l3 v5 H locs ls hg hw hl; exact absurd (show (none : Option (Int64 × Hp)) = some (r, S9) from hg) (by simp)
    | succ k ih => intro S l3 v5 H locs ls hg hw hl; exact B15 (f_X5_hashOnto_l15 N a0 y1 k) ih S l3 v5 H locs ls hg hw hl
  have B0 : ∀ (S : Hp) (H : Heap) (locs : List Loc) (ls : Array Slot), f_X5_hashOnto N S a0 y1 = some (r, S9) → Wd D C (va_A (wP C S0) z) s.heap S z H locs s → lv_has ls 6 [(0, .ref a0), (1, .long y1)] → W p l e rm_X5_hashOnto s m ([.ref a0, .long y1] : List Value).toArray below meth c H locs 0 0 (MQ below (QlW D C S0 z r S9 z) ([.ref a0, .long y1] : List Value).toArray s 0 0 (va_A (wP C S0) z)) (F0 m 0 ls []) := by
    intro S H locs ls hg hw hl
    unfold f_X5_hashOnto at hg
    refine lv_ldc2 (own := RX5) (index := 29) (v := (31 : Int64)) hx hb hown (hts _ (List.mem_of_getElem? (i := 1) rfl)) dX5_hashOnto_0 ?_
    refine lv_lload_n hx hb dX5_hashOnto_3 rfl (lv_at hl 1 rfl) ?_
    refine lv_lmul hx hb dX5_hashOnto_4 ?_
    refine lv_aload_n hx hb dX5_hashOnto_5 rfl (lv_at hl 0 rfl) ?_
    obtain ⟨hok10, hg⟩ := gd_some hg
    refine wr_get (K := RX5) (T := TX5) (N := 2) (index := 15) (ref := "MakerLines$Text") (v := .int (hI S a0 1)) hx hb hts hi_X5_hashOnto_X5 hown hw hok10 (wF_5 (S := S) hok10.2) rfl 1 (by decide) (hts _ (List.mem_of_getElem? (i := 2) rfl)) (fun _ h9 => h9) rfl dX5_hashOnto_6 ?_
    refine lv_i2l (v := (Int32.toInt64 (hI S a0 1))) hx hb dX5_hashOnto_9 rfl ?_
    refine lv_ladd hx hb dX5_hashOnto_10 ?_
    obtain ⟨e11, he11, hg⟩ := bd_some hg
    refine lv_lstore_n (lv' := [(3, .long e11), (0, .ref a0), (1, .long y1)]) hx hb dX5_hashOnto_11 rfl hl (by decide) (by rw [he11]; rfl) (fun ls hl => ?_)
    refine lv_iconst (v := (0 : Int32)) hx hb dX5_hashOnto_12 (by decide) ?_
    refine lv_istore (lv' := [(5, .int (0 : Int32)), (3, .long e11), (0, .ref a0), (1, .long y1)]) hx hb dX5_hashOnto_13 hl (by decide) rfl (fun ls hl => ?_)
    exact L15 N _ _ _ _ _ _ hg hw (lv_sub hl [2, 1, 0] rfl)
  exact B0 S0 _ _ _ hg hw hl
theorem hi_X6_init_X0 : ∀ w ∈ wsX00, w ∈ wsX6_init := fun _ h => List.mem_cons_of_mem _ (List.mem_append_left _ (List.mem_append_left _ (List.mem_append_left _ (List.mem_append_left _ (List.mem_append_right _ (h))))))
theorem hi_X6_init_X2 : ∀ w ∈ wsX20, w ∈ wsX6_init := fun _ h => List.mem_cons_of_mem _ (List.mem_append_left _ (List.mem_append_left _ (List.mem_append_right _ (h))))
theorem hi_X6_init_X3 : ∀ w ∈ wsX30, w ∈ wsX6_init := fun _ h => List.mem_cons_of_mem _ (List.mem_append_left _ (List.mem_append_right _ (h)))
theorem hi_X6_init_X4 : ∀ w ∈ wsX40, w ∈ wsX6_init := fun _ h => List.mem_cons_of_mem _ (List.mem_append_left _ (List.mem_append_left _ (List.mem_append_left _ (List.mem_append_left _ (List.mem_append_left _ (List.mem_append_left _ (List.mem_append_right _ (h))))))))
theorem hi_X6_init_X5 : ∀ w ∈ wsX50, w ∈ wsX6_init := fun _ h => List.mem_cons_of_mem _ (List.mem_append_left _ (List.mem_append_left _ (List.mem_append_left _ (List.mem_append_right _ (h)))))
theorem hi_X6_init_X6 : ∀ w ∈ wsX60, w ∈ wsX6_init := fun _ h => List.mem_cons_of_mem _ (List.mem_append_left _ (List.mem_append_left _ (List.mem_append_left _ (List.mem_append_left _ (List.mem_append_left _ (List.mem_append_right _ (h)))))))
abbrev rm_X6_init : Room := { frames := 3, cells := 20, slots := 60254, locals := 63 }
set_option maxHeartbeats 4000000 in
set_option maxRecDepth 100000 in
theorem c_X6_init (l : Launch) (D : va_G) (C : C3) (N : Nat) (S0 : Hp) (z0 : Nat) (a0 : Nat) (r : Unit) (S9 : Hp) (z9 : Nat) (hg : f_X6_init N S0 z0 a0 = some (r, S9, z9)) : MetV l yX6_init wsX6_init rm_X6_init D C S0 z0 [.ref a0] r S9 z9 20 60254 := by
  refine mw_ofW (cc := cX6_init) (maxL := 1) (ret := none) (lv := [(0, .ref a0)]) (by decide) rfl (Nat.le_of_ble_eq_true rfl) rfl ?_
  intro p e s m below meth c ls hx hb hr hts hown hlk hml hnm hl hw
  have hown : s.vm.findClass RX6 = some m.cls := hown
  have B0 : ∀ (S : Hp) (z : Nat) (H : Heap) (locs : List Loc) (ls : Array Slot), f_X6_init N S z a0 = some (r, S9, z9) → Wd D C (va_A (wP C S0) z0) s.heap S z H locs s → lv_has ls 1 [(0, .ref a0)] → W p l e rm_X6_init s m ([.ref a0] : List Value).toArray below meth c H locs 0 0 (MQ below (QvW D C S0 z0 r S9 z9) ([.ref a0] : List Value).toArray s 20 60254 (va_A (wP C S0) z0)) (F0 m 0 ls []) := by
    intro S z H locs ls hg hw hl
    unfold f_X6_init at hg
    refine lv_aload_n hx hb dX6_init_0 rfl (lv_at hl 0 rfl) ?_
    refine W.objInit hx hb hown (hts _ (List.mem_of_getElem? (i := 1) rfl)) (hts _ (List.mem_of_getElem? (i := 2) rfl)) (hts _ (List.mem_of_getElem? (i := 3) rfl)) rfl (by rw [hml]; exact hl.1) rfl dX6_init_1 (Nat.le_of_ble_eq_true rfl) (Nat.le_of_ble_eq_true rfl) ?_
    refine W.eq (g2 := F0 m 4 ls []) rfl ?_
    refine lv_aload_n hx hb dX6_init_4 rfl (lv_at hl 0 rfl) ?_
    refine wr_new (K := RX4) (T := TX4) (N := 10) (ci := 4) (index := 9) (fs := [.null, .int 0, .int 0, .int 0, .int 0, .int 0, .int 0, .int 0, .int 0, .int 0]) hx hb hts hi_X6_init_X4 tyX4 tyX4_ok hown (hts _ (List.mem_of_getElem? (i := 4) rfl)) (hts _ (List.mem_of_getElem? (i := 5) rfl)) (hts _ (List.mem_of_getElem? (i := 6) rfl)) hw rfl wn_4 (fun j hj => by rcases (show j = 0 ∨ j = 1 ∨ j = 2 ∨ j = 3 ∨ j = 4 ∨ j = 5 ∨ j = 6 ∨ j = 7 ∨ j = 8 ∨ j = 9 by omega) with rfl | rfl | rfl | rfl | rfl | rfl | rfl | rfl | rfl | rfl <;> rfl) (Nat.le_of_ble_eq_true rfl) (Nat.le_of_ble_eq_true rfl) dX6_init_5 (fun H hw => ?_)
    refine lv_dup hx hb dX6_init_8 rfl ?_
    obtain ⟨⟨⟩, S11, z11, hc11, hg⟩ := cz_some hg
    refine wr_cv (va_runIN (b := z) (As := []) (rest := [.ref z, .ref a0]) ⟨hx, hb, hml, hown, hts⟩ (c_X4_init l D C N ((sNew S z 4 0)) ((z + 1)) z () S11 z11 hc11) ⟨va_cnB (own := RX6) (index := 11) (host := RX6) 0 hts gX6_init_X4_init_n11 rfl rfl rfl (hw.2.2.2.2.2.2.1 _ (List.mem_of_getElem? (i := 5) rfl)) (hts _ (List.mem_of_getElem? (i := 6) rfl)) (by decide +kernel) ⟨Nat.le_of_ble_eq_true rfl, Nat.le_of_ble_eq_true rfl⟩, rfl, (hts _ (List.mem_of_getElem? (i := 26) rfl))⟩ (wd_preS hw) rfl rfl hl.1 rfl (lv_room (Nat.le_of_ble_eq_true rfl)) dX6_init_9 ⟨Nat.le_of_ble_eq_true rfl, Nat.le_of_ble_eq_true rfl⟩) hw (fun H locs hw => ?_)
    obtain ⟨hok12, hg⟩ := gd_some hg
    refine wr_putF (K := RX6) (T := TX6) (N := 7) (index := 12) (ref := "MakerLines") (ty := (.object "MakerLines$State")) (S1 := (sR S11 a0 0 (some z))) hx hb hts hi_X6_init_X6 tyX6 tyX6_ok nmX6 hown hw hok12 (wF_6 (S := S11) hok12.2) rfl (fun b hb9 => wF_sR_ne hb9) 0 (wq_6_0 (S := S11) hok12.2 _) rfl (by decide) (hts _ (List.mem_of_getElem? (i := 7) rfl)) (fun _ h9 => h9) rfl hnm rfl (by decide +kernel) rfl rfl (Nat.le_of_ble_eq_true rfl) dX6_init_12 (fun H locs hw => ?_)
    refine lv_aload_n hx hb dX6_init_15 rfl (lv_at hl 0 rfl) ?_
    refine wr_new (K := RX4) (T := TX4) (N := 10) (ci := 4) (index := 9) (fs := [.null, .int 0, .int 0, .int 0, .int 0, .int 0, .int 0, .int 0, .int 0, .int 0]) hx hb hts hi_X6_init_X4 tyX4 tyX4_ok hown (hts _ (List.mem_of_getElem? (i := 4) rfl)) (hts _ (List.mem_of_getElem? (i := 5) rfl)) (hts _ (List.mem_of_getElem? (i := 6) rfl)) hw rfl wn_4 (fun j hj => by rcases (show j = 0 ∨ j = 1 ∨ j = 2 ∨ j = 3 ∨ j = 4 ∨ j = 5 ∨ j = 6 ∨ j = 7 ∨ j = 8 ∨ j = 9 by omega) with rfl | rfl | rfl | rfl | rfl | rfl | rfl | rfl | rfl | rfl <;> rfl) (Nat.le_of_ble_eq_true rfl) (Nat.le_of_ble_eq_true rfl) dX6_init_16 (fun H hw => ?_)
    refine lv_dup hx hb dX6_init_19 rfl ?_
    obtain ⟨⟨⟩, S14, z14, hc14, hg⟩ := cz_some hg
    refine wr_cv (va_runIN (b := z11) (As := []) (rest := [.ref z11, .ref a0]) ⟨hx, hb, hml, hown, hts⟩ (c_X4_init l D C N ((sNew (sR S11 a0 0 (some z)) z11 4 0)) ((z11 + 1)) z11 () S14 z14 hc14) ⟨va_cnB (own := RX6) (index := 11) (host := RX6) 0 hts gX6_init_X4_init_n11 rfl rfl rfl (hw.2.2.2.2.2.2.1 _ (List.mem_of_getElem? (i := 5) rfl)) (hts _ (List.mem_of_getElem? (i := 6) rfl)) (by decide +kernel) ⟨Nat.le_of_ble_eq_true rfl, Nat.le_of_ble_eq_true rfl⟩, rfl, (hts _ (List.mem_of_getElem? (i := 26) rfl))⟩ (wd_preS hw) rfl rfl hl.1 rfl (lv_room (Nat.le_of_ble_eq_true rfl)) dX6_init_20 ⟨Nat.le_of_ble_eq_true rfl, Nat.le_of_ble_eq_true rfl⟩) hw (fun H locs hw => ?_)
    obtain ⟨hok15, hg⟩ := gd_some hg
    refine wr_putF (K := RX6) (T := TX6) (N := 7) (index := 16) (ref := "MakerLines") (ty := (.object "MakerLines$State")) (S1 := (sR S14 a0 1 (some z11))) hx hb hts hi_X6_init_X6 tyX6 tyX6_ok nmX6 hown hw hok15 (wF_6 (S := S14) hok15.2) rfl (fun b hb9 => wF_sR_ne hb9) 1 (wq_6_1 (S := S14) hok15.2 _) rfl (by decide) (hts _ (List.mem_of_getElem? (i := 8) rfl)) (fun _ h9 => h9) rfl hnm rfl (by decide +kernel) rfl rfl (Nat.le_of_ble_eq_true rfl) dX6_init_23 (fun H locs hw => ?_)
    refine lv_aload_n hx hb dX6_init_26 rfl (lv_at hl 0 rfl) ?_
    refine wr_new (K := RX0) (T := TX0) (N := 2) (ci := 0) (index := 19) (fs := [.null, .int 0]) hx hb hts hi_X6_init_X0 tyX0 tyX0_ok hown (hts _ (List.mem_of_getElem? (i := 9) rfl)) (hts _ (List.mem_of_getElem? (i := 10) rfl)) (hts _ (List.mem_of_getElem? (i := 11) rfl)) hw rfl wn_0 (fun j hj => by rcases (show j = 0 ∨ j = 1 by omega) with rfl | rfl <;> rfl) (Nat.le_of_ble_eq_true rfl) (Nat.le_of_ble_eq_true rfl) dX6_init_27 (fun H hw => ?_)
    refine lv_dup hx hb dX6_init_30 rfl ?_
    obtain ⟨⟨⟩, S17, z17, hc17, hg⟩ := cz_some hg
    refine wr_cv (va_runIN (b := z14) (As := []) (rest := [.ref z14, .ref a0]) ⟨hx, hb, hml, hown, hts⟩ (c_X0_init l D C N ((sNew (sR S14 a0 1 (some z11)) z14 0 0)) ((z14 + 1)) z14 () S17 z17 hc17) ⟨va_cnB (own := RX6) (index := 21) (host := RX6) 0 hts gX6_init_X0_init_n21 rfl rfl rfl (hw.2.2.2.2.2.2.1 _ (List.mem_of_getElem? (i := 6) rfl)) (hts _ (List.mem_of_getElem? (i := 11) rfl)) (by decide +kernel) ⟨Nat.le_of_ble_eq_true rfl, Nat.le_of_ble_eq_true rfl⟩, rfl, (hts _ (List.mem_of_getElem? (i := 52) rfl))⟩ (wd_preS hw) rfl rfl hl.1 rfl (lv_room (Nat.le_of_ble_eq_true rfl)) dX6_init_31 ⟨Nat.le_of_ble_eq_true rfl, Nat.le_of_ble_eq_true rfl⟩) hw (fun H locs hw => ?_)
    obtain ⟨hok18, hg⟩ := gd_some hg
    refine wr_putF (K := RX6) (T := TX6) (N := 7) (index := 22) (ref := "MakerLines") (ty := (.object "MakerLines$History")) (S1 := (sR S17 a0 2 (some z14))) hx hb hts hi_X6_init_X6 tyX6 tyX6_ok nmX6 hown hw hok18 (wF_6 (S := S17) hok18.2) rfl (fun b hb9 => wF_sR_ne hb9) 2 (wq_6_2 (S := S17) hok18.2 _) rfl (by decide) (hts _ (List.mem_of_getElem? (i := 12) rfl)) (fun _ h9 => h9) rfl hnm rfl (by decide +kernel) rfl rfl (Nat.le_of_ble_eq_true rfl) dX6_init_34 (fun H locs hw => ?_)
    refine lv_aload_n hx hb dX6_init_37 rfl (lv_at hl 0 rfl) ?_
    refine lv_iconst (v := (2 : Int32)) hx hb dX6_init_38 (by decide) ?_
    refine wr_newQ (own := RX6) (index := 9) (N' := 2) hx hb hown (hts _ (List.mem_of_getElem? (i := 4) rfl)) hw (by decide) (by decide) (Nat.le_of_ble_eq_true rfl) (Nat.le_of_ble_eq_true rfl) (Nat.le_of_ble_eq_true rfl) dX6_init_39 (fun H hw => ?_)
    obtain ⟨hok20, hg⟩ := gd_some hg
    refine wr_putF (K := RX6) (T := TX6) (N := 7) (index := 26) (ref := "MakerLines") (ty := (.array (.object "MakerLines$State"))) (S1 := (sR (sNew (sR S17 a0 2 (some z14)) z17 9 2) a0 3 (some z17))) hx hb hts hi_X6_init_X6 tyX6 tyX6_ok nmX6 hown hw hok20 (wF_6 (S := (sNew (sR S17 a0 2 (some z14)) z17 9 2)) hok20.2) rfl (fun b hb9 => wF_sR_ne hb9) 3 (wq_6_3 (S := (sNew (sR S17 a0 2 (some z14)) z17 9 2)) hok20.2 _) rfl (by decide) (hts _ (List.mem_of_getElem? (i := 13) rfl)) (fun _ h9 => h9) rfl hnm rfl (by decide +kernel) rfl rfl (Nat.le_of_ble_eq_true rfl) dX6_init_42 (fun H locs hw => ?_)
    obtain ⟨S21, hS21, hg⟩ := bd_some hg
    rw [← hS21] at hw
    have hok22 : ok S21 a0 6 := by rw [hS21]; exact hok20
    refine lv_aload_n hx hb dX6_init_45 rfl (lv_at hl 0 rfl) ?_
    refine wr_new (K := RX5) (T := TX5) (N := 2) (ci := 5) (index := 30) (fs := [.null, .int 0]) hx hb hts hi_X6_init_X5 tyX5 tyX5_ok hown (hts _ (List.mem_of_getElem? (i := 14) rfl)) (hts _ (List.mem_of_getElem? (i := 15) rfl)) (hts _ (List.mem_of_getElem? (i := 16) rfl)) hw rfl wn_5 (fun j hj => by rcases (show j = 0 ∨ j = 1 by omega) with rfl | rfl <;> rfl) (Nat.le_of_ble_eq_true rfl) (Nat.le_of_ble_eq_true rfl) dX6_init_46 (fun H hw => ?_)
    refine lv_dup hx hb dX6_init_49 rfl ?_
    obtain ⟨⟨⟩, S24, z24, hc24, hg⟩ := cz_some hg
    refine wr_cv (va_runIN (b := ((z17 + 1))) (As := []) (rest := [.ref (z17 + 1), .ref a0]) ⟨hx, hb, hml, hown, hts⟩ (c_X5_init l D C N ((sNew S21 ((z17 + 1)) 5 0)) (((z17 + 1) + 1)) ((z17 + 1)) () S24 z24 hc24) ⟨va_cnB (own := RX6) (index := 32) (host := RX6) 0 hts gX6_init_X5_init_n32 rfl rfl rfl (hw.2.2.2.2.2.2.1 _ (List.mem_of_getElem? (i := 8) rfl)) (hts _ (List.mem_of_getElem? (i := 16) rfl)) (by decide +kernel) ⟨Nat.le_of_ble_eq_true rfl, Nat.le_of_ble_eq_true rfl⟩, rfl, (hts _ (List.mem_of_getElem? (i := 58) rfl))⟩ (wd_preS hw) rfl rfl hl.1 rfl (lv_room (Nat.le_of_ble_eq_true rfl)) dX6_init_50 ⟨Nat.le_of_ble_eq_true rfl, Nat.le_of_ble_eq_true rfl⟩) hw (fun H locs hw => ?_)
    obtain ⟨hok25, hg⟩ := gd_some hg
    refine wr_putF (K := RX6) (T := TX6) (N := 7) (index := 33) (ref := "MakerLines") (ty := (.object "MakerLines$Text")) (S1 := (sR S24 a0 4 (some (z17 + 1)))) hx hb hts hi_X6_init_X6 tyX6 tyX6_ok nmX6 hown hw hok25 (wF_6 (S := S24) hok25.2) rfl (fun b hb9 => wF_sR_ne hb9) 4 (wq_6_4 (S := S24) hok25.2 _) rfl (by decide) (hts _ (List.mem_of_getElem? (i := 17) rfl)) (fun _ h9 => h9) rfl hnm rfl (by decide +kernel) rfl rfl (Nat.le_of_ble_eq_true rfl) dX6_init_53 (fun H locs hw => ?_)
    refine lv_aload_n hx hb dX6_init_56 rfl (lv_at hl 0 rfl) ?_
    refine wr_new (K := RX2) (T := TX2) (N := 6) (ci := 2) (index := 37) (fs := [.null, .int 0, .int 0, .null, .int 0, .int 0]) hx hb hts hi_X6_init_X2 tyX2 tyX2_ok hown (hts _ (List.mem_of_getElem? (i := 18) rfl)) (hts _ (List.mem_of_getElem? (i := 19) rfl)) (hts _ (List.mem_of_getElem? (i := 20) rfl)) hw rfl wn_2 (fun j hj => by rcases (show j = 0 ∨ j = 1 ∨ j = 2 ∨ j = 3 ∨ j = 4 ∨ j = 5 by omega) with rfl | rfl | rfl | rfl | rfl | rfl <;> rfl) (Nat.le_of_ble_eq_true rfl) (Nat.le_of_ble_eq_true rfl) dX6_init_57 (fun H hw => ?_)
    refine lv_dup hx hb dX6_init_60 rfl ?_
    obtain ⟨⟨⟩, S27, z27, hc27, hg⟩ := cz_some hg
    refine wr_cv (va_runIN (b := z24) (As := []) (rest := [.ref z24, .ref a0]) ⟨hx, hb, hml, hown, hts⟩ (c_X2_init l D C N ((sNew (sR S24 a0 4 (some (z17 + 1))) z24 2 0)) ((z24 + 1)) z24 () S27 z27 hc27) ⟨va_cnB (own := RX6) (index := 39) (host := RX6) 0 hts gX6_init_X2_init_n39 rfl rfl rfl (hw.2.2.2.2.2.2.1 _ (List.mem_of_getElem? (i := 9) rfl)) (hts _ (List.mem_of_getElem? (i := 20) rfl)) (by decide +kernel) ⟨Nat.le_of_ble_eq_true rfl, Nat.le_of_ble_eq_true rfl⟩, rfl, (hts _ (List.mem_of_getElem? (i := 63) rfl))⟩ (wd_preS hw) rfl rfl hl.1 rfl (lv_room (Nat.le_of_ble_eq_true rfl)) dX6_init_61 ⟨Nat.le_of_ble_eq_true rfl, Nat.le_of_ble_eq_true rfl⟩) hw (fun H locs hw => ?_)
    obtain ⟨hok28, hg⟩ := gd_some hg
    refine wr_putF (K := RX6) (T := TX6) (N := 7) (index := 40) (ref := "MakerLines") (ty := (.object "MakerLines$Pairing")) (S1 := (sR S27 a0 5 (some z24))) hx hb hts hi_X6_init_X6 tyX6 tyX6_ok nmX6 hown hw hok28 (wF_6 (S := S27) hok28.2) rfl (fun b hb9 => wF_sR_ne hb9) 5 (wq_6_5 (S := S27) hok28.2 _) rfl (by decide) (hts _ (List.mem_of_getElem? (i := 21) rfl)) (fun _ h9 => h9) rfl hnm rfl (by decide +kernel) rfl rfl (Nat.le_of_ble_eq_true rfl) dX6_init_64 (fun H locs hw => ?_)
    refine lv_aload_n hx hb dX6_init_67 rfl (lv_at hl 0 rfl) ?_
    refine wr_new (K := RX3) (T := TX3) (N := 6) (ci := 3) (index := 44) (fs := [.null, .int 0, .int 0, .null, .int 0, .null]) hx hb hts hi_X6_init_X3 tyX3 tyX3_ok hown (hts _ (List.mem_of_getElem? (i := 22) rfl)) (hts _ (List.mem_of_getElem? (i := 23) rfl)) (hts _ (List.mem_of_getElem? (i := 24) rfl)) hw rfl wn_3 (fun j hj => by rcases (show j = 0 ∨ j = 1 ∨ j = 2 ∨ j = 3 ∨ j = 4 ∨ j = 5 by omega) with rfl | rfl | rfl | rfl | rfl | rfl <;> rfl) (Nat.le_of_ble_eq_true rfl) (Nat.le_of_ble_eq_true rfl) dX6_init_68 (fun H hw => ?_)
    refine lv_dup hx hb dX6_init_71 rfl ?_
    obtain ⟨⟨⟩, S30, z30, hc30, hg⟩ := cz_some hg
    refine wr_cv (va_runI (b := z27) (As := []) (rest := [.ref z27, .ref a0]) ⟨hx, hb, hml, hown, hts⟩ (c_X3_init l D C N ((sNew (sR S27 a0 5 (some z24)) z27 3 0)) ((z27 + 1)) z27 () S30 z30 hc30) (cwI 0 hts gX6_init_X3_init rfl rfl rfl (hts _ (List.mem_of_getElem? (i := 24) rfl)) (hts _ (List.mem_of_getElem? (i := 73) rfl)) (hts _ (List.mem_of_getElem? (i := 74) rfl)) rfl (by decide +kernel) ⟨Nat.le_of_ble_eq_true rfl, Nat.le_of_ble_eq_true rfl⟩) (wd_preS hw) rfl rfl hl.1 rfl (lv_room (Nat.le_of_ble_eq_true rfl)) dX6_init_72 ⟨Nat.le_of_ble_eq_true rfl, Nat.le_of_ble_eq_true rfl⟩) hw (fun H locs hw => ?_)
    obtain ⟨hok31, hg⟩ := gd_some hg
    refine wr_putF (K := RX6) (T := TX6) (N := 7) (index := 47) (ref := "MakerLines") (ty := (.object "MakerLines$Solver")) (S1 := (sR S30 a0 6 (some z27))) hx hb hts hi_X6_init_X6 tyX6 tyX6_ok nmX6 hown hw hok31 (wF_6 (S := S30) hok31.2) rfl (fun b hb9 => wF_sR_ne hb9) 6 (wq_6_6 (S := S30) hok31.2 _) rfl (by decide) (hts _ (List.mem_of_getElem? (i := 25) rfl)) (fun _ h9 => h9) rfl hnm rfl (by decide +kernel) rfl rfl (Nat.le_of_ble_eq_true rfl) dX6_init_75 (fun H locs hw => ?_)
    cases hg
    refine W.widen (k := 20) (n := 60254) (Nat.le_of_ble_eq_true rfl) (Nat.le_of_ble_eq_true rfl) ?_
    exact wr_vret hx hb hr hw dX6_init_78 hlk
  exact B0 S0 z0 _ _ _ hg hw hl
theorem hi_X6_begin_X1 : ∀ w ∈ wsX10, w ∈ wsX6_begin := fun _ h => List.mem_cons_of_mem _ (List.mem_append_left _ (List.mem_append_left _ (List.mem_append_right _ (h))))
theorem hi_X6_begin_X4 : ∀ w ∈ wsX40, w ∈ wsX6_begin := fun _ h => List.mem_cons_of_mem _ (List.mem_append_left _ (List.mem_append_left _ (List.mem_append_left _ (List.mem_append_right _ (h)))))
theorem hi_X6_begin_X6 : ∀ w ∈ wsX60, w ∈ wsX6_begin := fun _ h => List.mem_cons_of_mem _ (List.mem_append_left _ (List.mem_append_left _ (List.mem_append_left _ (List.mem_append_left _ (List.mem_append_right _ (h))))))
abbrev rm_X6_begin : Room := { frames := 4, cells := 3, slots := 28, locals := 86 }
set_option maxHeartbeats 4000000 in
set_option maxRecDepth 100000 in
theorem c_X6_begin (l : Launch) (D : va_G) (C : C3) (N : Nat) (S0 : Hp) (z0 : Nat) (a0 : Nat) (x1 : Int32) (r : Int32) (S9 : Hp) (z9 : Nat) (hg : f_X6_begin N S0 z0 a0 x1 = some (r, S9, z9)) : MetI l yX6_begin wsX6_begin rm_X6_begin D C S0 z0 [.ref a0, .int x1] r S9 z9 3 28 := by
  refine mw_ofW (cc := cX6_begin) (maxL := 3) (ret := (some .int)) (lv := [(0, .ref a0), (1, .int x1)]) (by decide) rfl (Nat.le_of_ble_eq_true rfl) rfl ?_
  intro p e s m below meth c ls hx hb hr hts hown hlk hml hnm hl hw
  have hown : s.vm.findClass RX6 = some m.cls := hown
  have B11 : ∀ (S : Hp) (z : Nat) (H : Heap) (locs : List Loc) (ls : Array Slot), f_X6_begin_b11 N a0 x1 S z = some (r, S9, z9) → Wd D C (va_A (wP C S0) z0) s.heap S z H locs s → lv_has ls 3 [] → W p l e rm_X6_begin s m ([.ref a0, .int x1] : List Value).toArray below meth c H locs 0 0 (MQ below (QiW D C S0 z0 r S9 z9) ([.ref a0, .int x1] : List Value).toArray s 3 28 (va_A (wP C S0) z0)) (F0 m 11 ls []) := by
    intro S z H locs ls hg hw hl
    unfold f_X6_begin_b11 at hg
    exact absurd hg (by simp)
  have B0 : ∀ (S : Hp) (z : Nat) (H : Heap) (locs : List Loc) (ls : Array Slot), f_X6_begin N S z a0 x1 = some (r, S9, z9) → Wd D C (va_A (wP C S0) z0) s.heap S z H locs s → lv_has ls 3 [(0, .ref a0), (1, .int x1)] → W p l e rm_X6_begin s m ([.ref a0, .int x1] : List Value).toArray below meth c H locs 0 0 (MQ below (QiW D C S0 z0 r S9 z9) ([.ref a0, .int x1] : List Value).toArray s 3 28 (va_A (wP C S0) z0)) (F0 m 0 ls []) := by
    intro S z H locs ls hg hw hl
    unfold f_X6_begin at hg
    refine lv_iload_n hx hb dX6_begin_0 rfl (lv_at hl 1 rfl) ?_
    refine lv_iconst (v := (2 : Int32)) hx hb dX6_begin_1 (by decide) ?_
    refine lv_icmp_lt (tgt := 11) hx hb dX6_begin_2 (by decide) (fun c10 => ?_) (fun c10 => ?_)
    · have hg := it_pos hg c10
      exact B11 _ _ _ _ _ hg hw (lv_sub hl [] rfl)
    · have hg := it_neg hg c10
      refine lv_iload_n hx hb dX6_begin_5 rfl (lv_at hl 1 rfl) ?_
      refine lv_bipush (v := (10 : Int32)) hx hb dX6_begin_6 (by decide) ?_
      refine lv_icmp_le (tgt := 21) hx hb dX6_begin_8 (by decide) (fun c11 => ?_) (fun c11 => ?_)
      · have hg := it_pos hg c11
        refine lv_aload_n hx hb dX6_begin_21 rfl (lv_at hl 0 rfl) ?_
        obtain ⟨hok12, hg⟩ := gd_some hg
        obtain ⟨r13, hr13, hg⟩ := nn_some hg
        refine wr_get (K := RX6) (T := TX6) (N := 7) (index := 22) (ref := "MakerLines") (v := .ref r13) hx hb hts hi_X6_begin_X6 hown hw hok12 (wF_6 (S := S) hok12.2) rfl 2 (by decide) (hts _ (List.mem_of_getElem? (i := 3) rfl)) (fun _ h9 => h9) (congrArg (fun o => some (va_rf o)) hr13) dX6_begin_22 ?_
        refine lv_aload_n hx hb dX6_begin_25 rfl (lv_at hl 0 rfl) ?_
        obtain ⟨r14, hr14, hg⟩ := nn_some hg
        refine wr_get (K := RX6) (T := TX6) (N := 7) (index := 12) (ref := "MakerLines") (v := .ref r14) hx hb hts hi_X6_begin_X6 hown hw hok12 (wF_6 (S := S) hok12.2) rfl 0 (by decide) (hts _ (List.mem_of_getElem? (i := 4) rfl)) (fun _ h9 => h9) (congrArg (fun o => some (va_rf o)) hr14) dX6_begin_26 ?_
        obtain ⟨hok15, hg⟩ := gd_some hg
        obtain ⟨⟨⟩, S16, z16, hc16, hg⟩ := cz_some hg
        refine wr_cv (va_runV (As := [.ref r14]) (rest := []) ⟨hx, hb, hml, hown, hts⟩ (c_X0_save l D C N S z r13 r14 () S16 z16 hc16) (cwV 1 hts gX6_begin_X0_save rfl rfl rfl (by decide +kernel) ⟨Nat.le_of_ble_eq_true rfl, Nat.le_of_ble_eq_true rfl⟩) (wd_preV hw hok15 (wF_0 (S := S) hok15.2) rfl) rfl rfl hl.1 rfl (lv_room (Nat.le_of_ble_eq_true rfl)) dX6_begin_29 ⟨Nat.le_of_ble_eq_true rfl, Nat.le_of_ble_eq_true rfl⟩) hw (fun H locs hw => ?_)
        refine lv_aload_n hx hb dX6_begin_32 rfl (lv_at hl 0 rfl) ?_
        obtain ⟨hok17, hg⟩ := gd_some hg
        obtain ⟨r18, hr18, hg⟩ := nn_some hg
        refine wr_get (K := RX6) (T := TX6) (N := 7) (index := 12) (ref := "MakerLines") (v := .ref r18) hx hb hts hi_X6_begin_X6 hown hw hok17 (wF_6 (S := S16) hok17.2) rfl 0 (by decide) (hts _ (List.mem_of_getElem? (i := 4) rfl)) (fun _ h9 => h9) (congrArg (fun o => some (va_rf o)) hr18) dX6_begin_33 ?_
        obtain ⟨hok19, hg⟩ := gd_some hg
        refine wr_get (K := RX4) (T := TX4) (N := 10) (index := 62) (ref := "MakerLines$State") (v := .int (hI S16 r18 1)) hx hb hts hi_X6_begin_X4 hown hw hok19 (wF_4 (S := S16) hok19.2) rfl 1 (by decide) (hts _ (List.mem_of_getElem? (i := 5) rfl)) (fun _ h9 => h9) rfl dX6_begin_36 ?_
        refine lv_istore_n (lv' := [(2, .int (hI S16 r18 1)), (0, .ref a0), (1, .int x1)]) hx hb dX6_begin_39 rfl hl (by decide) rfl (fun ls hl => ?_)
        refine lv_aload_n hx hb dX6_begin_40 rfl (lv_at hl 1 rfl) ?_
        refine wr_get (K := RX6) (T := TX6) (N := 7) (index := 12) (ref := "MakerLines") (v := .ref r18) hx hb hts hi_X6_begin_X6 hown hw hok17 (wF_6 (S := S16) hok17.2) rfl 0 (by decide) (hts _ (List.mem_of_getElem? (i := 4) rfl)) (fun _ h9 => h9) (congrArg (fun o => some (va_rf o)) hr18) dX6_begin_41 ?_
        refine lv_iload_n hx hb dX6_begin_44 rfl (lv_at hl 2 rfl) ?_
        refine wr_put (K := RX4) (T := TX4) (N := 10) (index := 62) (ref := "MakerLines$State") (ty := (.int)) (S1 := (sI S16 r18 1 x1)) hx hb hts hi_X6_begin_X4 tyX4 tyX4_ok nmX4 hown hw hok19 (wF_4 (S := S16) hok19.2) rfl (fun b hb9 => wF_sI_ne hb9) 1 (wq_4_1 (S := S16) hok19.2 _) rfl (by decide) (hts _ (List.mem_of_getElem? (i := 5) rfl)) (fun _ h9 => h9) rfl (by decide +kernel) rfl rfl (Nat.le_of_ble_eq_true rfl) dX6_begin_45 (fun H locs hw => ?_)
        refine lv_aload_n hx hb dX6_begin_48 rfl (lv_at hl 1 rfl) ?_
        refine wr_get (K := RX6) (T := TX6) (N := 7) (index := 12) (ref := "MakerLines") (v := .ref r18) hx hb hts hi_X6_begin_X6 hown hw hok17 (wF_6 (S := (sI S16 r18 1 x1)) hok17.2) rfl 0 (by decide) (hts _ (List.mem_of_getElem? (i := 4) rfl)) (fun _ h9 => h9) (congrArg (fun o => some (va_rf o)) hr18) dX6_begin_49 ?_
        obtain ⟨r20, hr20, hg⟩ := nn_some hg
        refine wr_get (K := RX4) (T := TX4) (N := 10) (index := 66) (ref := "MakerLines$State") (v := .ref r20) hx hb hts hi_X6_begin_X4 hown hw hok19 (wF_4 (S := (sI S16 r18 1 x1)) hok19.2) rfl 0 (by decide) (hts _ (List.mem_of_getElem? (i := 6) rfl)) (fun _ h9 => h9) (congrArg (fun o => some (va_rf o)) hr20) dX6_begin_52 ?_
        refine lv_iconst (v := (0 : Int32)) hx hb dX6_begin_55 (by decide) ?_
        obtain ⟨hok21, hg⟩ := gd_some hg
        refine wr_put (K := RX1) (T := TX1) (N := 6) (index := 70) (ref := "MakerLines$Lines") (ty := (.int)) (S1 := (sI (sI S16 r18 1 x1) r20 1 (0 : Int32))) hx hb hts hi_X6_begin_X1 tyX1 tyX1_ok nmX1 hown hw hok21 (wF_1 (S := (sI S16 r18 1 x1)) hok21.2) rfl (fun b hb9 => wF_sI_ne hb9) 1 (wq_1_1 (S := (sI S16 r18 1 x1)) hok21.2 _) rfl (by decide) (hts _ (List.mem_of_getElem? (i := 7) rfl)) (fun _ h9 => h9) rfl (by decide +kernel) rfl rfl (Nat.le_of_ble_eq_true rfl) dX6_begin_56 (fun H locs hw => ?_)
        refine lv_aload_n hx hb dX6_begin_59 rfl (lv_at hl 1 rfl) ?_
        refine wr_get (K := RX6) (T := TX6) (N := 7) (index := 12) (ref := "MakerLines") (v := .ref r18) hx hb hts hi_X6_begin_X6 hown hw hok17 (wF_6 (S := (sI (sI S16 r18 1 x1) r20 1 (0 : Int32))) hok17.2) rfl 0 (by decide) (hts _ (List.mem_of_getElem? (i := 4) rfl)) (fun _ h9 => h9) (congrArg (fun o => some (va_rf o)) hr18) dX6_begin_60 ?_
        refine lv_iconst (v := (1 : Int32)) hx hb dX6_begin_63 (by decide) ?_
        obtain ⟨⟨⟩, S22, hc22, hg⟩ := cl_some hg
        refine wr_cv (va_runV (As := [.int (1 : Int32)]) (rest := []) ⟨hx, hb, hml, hown, hts⟩ (c_X4_freeAll l D C N ((sI (sI S16 r18 1 x1) r20 1 (0 : Int32))) z16 r18 ((1 : Int32)) () S22 hc22) (cwV 1 hts gX6_begin_X4_freeAll rfl rfl rfl (by decide +kernel) ⟨Nat.le_of_ble_eq_true rfl, Nat.le_of_ble_eq_true rfl⟩) (wd_preV hw hok19 (wF_4 (S := (sI (sI S16 r18 1 x1) r20 1 (0 : Int32))) hok19.2) rfl) rfl rfl hl.1 rfl (lv_room (Nat.le_of_ble_eq_true rfl)) dX6_begin_64 ⟨Nat.le_of_ble_eq_true rfl, Nat.le_of_ble_eq_true rfl⟩) hw (fun H locs hw => ?_)
        refine lv_iload_n hx hb dX6_begin_67 rfl (lv_at hl 0 rfl) ?_
        cases hg
        refine W.widen (k := 3) (n := 28) (Nat.le_of_ble_eq_true rfl) (Nat.le_of_ble_eq_true rfl) ?_
        exact wr_iret hx hb hr hw dX6_begin_68 hlk
      · have hg := it_neg hg c11
        exact B11 _ _ _ _ _ hg hw (lv_sub hl [] rfl)
  exact B0 S0 z0 _ _ _ hg hw hl
theorem hi_X6_addLine_X1 : ∀ w ∈ wsX10, w ∈ wsX6_addLine := fun _ h => List.mem_cons_of_mem _ (List.mem_append_left _ (List.mem_append_left _ (List.mem_append_left _ (List.mem_append_right _ (h)))))
theorem hi_X6_addLine_X4 : ∀ w ∈ wsX40, w ∈ wsX6_addLine := fun _ h => List.mem_cons_of_mem _ (List.mem_append_left _ (List.mem_append_left _ (List.mem_append_left _ (List.mem_append_left _ (List.mem_append_right _ (h))))))
theorem hi_X6_addLine_X6 : ∀ w ∈ wsX60, w ∈ wsX6_addLine := fun _ h => List.mem_cons_of_mem _ (List.mem_append_left _ (List.mem_append_left _ (List.mem_append_left _ (List.mem_append_left _ (List.mem_append_left _ (List.mem_append_right _ (h)))))))
abbrev rm_X6_addLine : Room := { frames := 4, cells := 3, slots := 28, locals := 86 }
set_option maxHeartbeats 4000000 in
set_option maxRecDepth 100000 in
theorem c_X6_addLine (l : Launch) (D : va_G) (C : C3) (N : Nat) (S0 : Hp) (z0 : Nat) (a0 : Nat) (x1 : Int32) (r : Int32) (S9 : Hp) (z9 : Nat) (hg : f_X6_addLine N S0 z0 a0 x1 = some (r, S9, z9)) : MetI l yX6_addLine wsX6_addLine rm_X6_addLine D C S0 z0 [.ref a0, .int x1] r S9 z9 3 28 := by
  refine mw_ofW (cc := cX6_addLine) (maxL := 2) (ret := (some .int)) (lv := [(0, .ref a0), (1, .int x1)]) (by decide) rfl (Nat.le_of_ble_eq_true rfl) rfl ?_
  intro p e s m below meth c ls hx hb hr hts hown hlk hml hnm hl hw
  have hown : s.vm.findClass RX6 = some m.cls := hown
  have B18 : ∀ (S : Hp) (z : Nat) (H : Heap) (locs : List Loc) (ls : Array Slot), f_X6_addLine_b18 N a0 x1 S z = some (r, S9, z9) → Wd D C (va_A (wP C S0) z0) s.heap S z H locs s → lv_has ls 2 [] → W p l e rm_X6_addLine s m ([.ref a0, .int x1] : List Value).toArray below meth c H locs 0 0 (MQ below (QiW D C S0 z0 r S9 z9) ([.ref a0, .int x1] : List Value).toArray s 3 28 (va_A (wP C S0) z0)) (F0 m 18 ls []) := by
    intro S z H locs ls hg hw hl
    unfold f_X6_addLine_b18 at hg
    exact absurd hg (by simp)
  have B0 : ∀ (S : Hp) (z : Nat) (H : Heap) (locs : List Loc) (ls : Array Slot), f_X6_addLine N S z a0 x1 = some (r, S9, z9) → Wd D C (va_A (wP C S0) z0) s.heap S z H locs s → lv_has ls 2 [(0, .ref a0), (1, .int x1)] → W p l e rm_X6_addLine s m ([.ref a0, .int x1] : List Value).toArray below meth c H locs 0 0 (MQ below (QiW D C S0 z0 r S9 z9) ([.ref a0, .int x1] : List Value).toArray s 3 28 (va_A (wP C S0) z0)) (F0 m 0 ls []) := by
    intro S z H locs ls hg hw hl
    unfold f_X6_addLine at hg
    refine lv_iload_n hx hb dX6_addLine_0 rfl (lv_at hl 1 rfl) ?_
    refine lv_if_eq (tgt := 18) hx hb dX6_addLine_1 (by decide) (fun c10 => ?_) (fun c10 => ?_)
    · have hg := it_pos hg c10
      exact B18 _ _ _ _ _ hg hw (lv_sub hl [] rfl)
    · have hg := it_neg hg c10
      refine lv_iload_n hx hb dX6_addLine_4 rfl (lv_at hl 1 rfl) ?_
      refine lv_aload_n hx hb dX6_addLine_5 rfl (lv_at hl 0 rfl) ?_
      obtain ⟨hok11, hg⟩ := gd_some hg
      obtain ⟨r12, hr12, hg⟩ := nn_some hg
      refine wr_get (K := RX6) (T := TX6) (N := 7) (index := 12) (ref := "MakerLines") (v := .ref r12) hx hb hts hi_X6_addLine_X6 hown hw hok11 (wF_6 (S := S) hok11.2) rfl 0 (by decide) (hts _ (List.mem_of_getElem? (i := 5) rfl)) (fun _ h9 => h9) (congrArg (fun o => some (va_rf o)) hr12) dX6_addLine_6 ?_
      obtain ⟨hok13, hg⟩ := gd_some hg
      obtain ⟨r14, S14, hc14, hg⟩ := cl_some hg
      refine wr_ci (va_runV (As := []) (rest := [.int x1]) ⟨hx, hb, hml, hown, hts⟩ (c_X4_allCells l D C N S z r12 r14 S14 hc14) (cwV 0 hts gX6_addLine_X4_allCells rfl rfl rfl (by decide +kernel) ⟨Nat.le_of_ble_eq_true rfl, Nat.le_of_ble_eq_true rfl⟩) (wd_preV hw hok13 (wF_4 (S := S) hok13.2) rfl) rfl rfl hl.1 rfl (lv_room (Nat.le_of_ble_eq_true rfl)) dX6_addLine_9 ⟨Nat.le_of_ble_eq_true rfl, Nat.le_of_ble_eq_true rfl⟩) hw (fun H locs hw => ?_)
      refine lv_iconst (v := (-1 : Int32)) hx hb dX6_addLine_12 (by decide) ?_
      refine lv_ixor hx hb dX6_addLine_13 ?_
      refine lv_iand hx hb dX6_addLine_14 ?_
      refine lv_if_eq (tgt := 28) hx hb dX6_addLine_15 (by decide) (fun c15 => ?_) (fun c15 => ?_)
      · have hg := it_pos hg c15
        refine lv_aload_n hx hb dX6_addLine_28 rfl (lv_at hl 0 rfl) ?_
        obtain ⟨hok16, hg⟩ := gd_some hg
        obtain ⟨r17, hr17, hg⟩ := nn_some hg
        refine wr_get (K := RX6) (T := TX6) (N := 7) (index := 12) (ref := "MakerLines") (v := .ref r17) hx hb hts hi_X6_addLine_X6 hown hw hok16 (wF_6 (S := S14) hok16.2) rfl 0 (by decide) (hts _ (List.mem_of_getElem? (i := 5) rfl)) (fun _ h9 => h9) (congrArg (fun o => some (va_rf o)) hr17) dX6_addLine_29 ?_
        obtain ⟨hok18, hg⟩ := gd_some hg
        obtain ⟨r19, hr19, hg⟩ := nn_some hg
        refine wr_get (K := RX4) (T := TX4) (N := 10) (index := 66) (ref := "MakerLines$State") (v := .ref r19) hx hb hts hi_X6_addLine_X4 hown hw hok18 (wF_4 (S := S14) hok18.2) rfl 0 (by decide) (hts _ (List.mem_of_getElem? (i := 6) rfl)) (fun _ h9 => h9) (congrArg (fun o => some (va_rf o)) hr19) dX6_addLine_32 ?_
        obtain ⟨hok20, hg⟩ := gd_some hg
        refine wr_get (K := RX1) (T := TX1) (N := 6) (index := 70) (ref := "MakerLines$Lines") (v := .int (hI S14 r19 1)) hx hb hts hi_X6_addLine_X1 hown hw hok20 (wF_1 (S := S14) hok20.2) rfl 1 (by decide) (hts _ (List.mem_of_getElem? (i := 7) rfl)) (fun _ h9 => h9) rfl dX6_addLine_35 ?_
        refine lv_bipush (v := (12 : Int32)) hx hb dX6_addLine_38 (by decide) ?_
        refine lv_icmp_lt (tgt := 53) hx hb dX6_addLine_40 (by decide) (fun c21 => ?_) (fun c21 => ?_)
        · have hg := it_pos hg c21
          refine lv_aload_n hx hb dX6_addLine_53 rfl (lv_at hl 0 rfl) ?_
          obtain ⟨r22, hr22, hg⟩ := nn_some hg
          refine wr_get (K := RX6) (T := TX6) (N := 7) (index := 22) (ref := "MakerLines") (v := .ref r22) hx hb hts hi_X6_addLine_X6 hown hw hok16 (wF_6 (S := S14) hok16.2) rfl 2 (by decide) (hts _ (List.mem_of_getElem? (i := 8) rfl)) (fun _ h9 => h9) (congrArg (fun o => some (va_rf o)) hr22) dX6_addLine_54 ?_
          refine lv_aload_n hx hb dX6_addLine_57 rfl (lv_at hl 0 rfl) ?_
          refine wr_get (K := RX6) (T := TX6) (N := 7) (index := 12) (ref := "MakerLines") (v := .ref r17) hx hb hts hi_X6_addLine_X6 hown hw hok16 (wF_6 (S := S14) hok16.2) rfl 0 (by decide) (hts _ (List.mem_of_getElem? (i := 5) rfl)) (fun _ h9 => h9) (congrArg (fun o => some (va_rf o)) hr17) dX6_addLine_58 ?_
          obtain ⟨hok23, hg⟩ := gd_some hg
          obtain ⟨⟨⟩, S24, z24, hc24, hg⟩ := cz_some hg
          refine wr_cv (va_runV (As := [.ref r17]) (rest := []) ⟨hx, hb, hml, hown, hts⟩ (c_X0_save l D C N S14 z r22 r17 () S24 z24 hc24) (cwV 1 hts gX6_addLine_X0_save rfl rfl rfl (by decide +kernel) ⟨Nat.le_of_ble_eq_true rfl, Nat.le_of_ble_eq_true rfl⟩) (wd_preV hw hok23 (wF_0 (S := S14) hok23.2) rfl) rfl rfl hl.1 rfl (lv_room (Nat.le_of_ble_eq_true rfl)) dX6_addLine_61 ⟨Nat.le_of_ble_eq_true rfl, Nat.le_of_ble_eq_true rfl⟩) hw (fun H locs hw => ?_)
          refine lv_aload_n hx hb dX6_addLine_64 rfl (lv_at hl 0 rfl) ?_
          obtain ⟨hok25, hg⟩ := gd_some hg
          obtain ⟨r26, hr26, hg⟩ := nn_some hg
          refine wr_get (K := RX6) (T := TX6) (N := 7) (index := 12) (ref := "MakerLines") (v := .ref r26) hx hb hts hi_X6_addLine_X6 hown hw hok25 (wF_6 (S := S24) hok25.2) rfl 0 (by decide) (hts _ (List.mem_of_getElem? (i := 5) rfl)) (fun _ h9 => h9) (congrArg (fun o => some (va_rf o)) hr26) dX6_addLine_65 ?_
          obtain ⟨hok27, hg⟩ := gd_some hg
          obtain ⟨r28, hr28, hg⟩ := nn_some hg
          refine wr_get (K := RX4) (T := TX4) (N := 10) (index := 66) (ref := "MakerLines$State") (v := .ref r28) hx hb hts hi_X6_addLine_X4 hown hw hok27 (wF_4 (S := S24) hok27.2) rfl 0 (by decide) (hts _ (List.mem_of_getElem? (i := 6) rfl)) (fun _ h9 => h9) (congrArg (fun o => some (va_rf o)) hr28) dX6_addLine_68 ?_
          refine lv_iload_n hx hb dX6_addLine_71 rfl (lv_at hl 1 rfl) ?_
          obtain ⟨hok29, hg⟩ := gd_some hg
          obtain ⟨⟨⟩, S30, hc30, hg⟩ := cl_some hg
          refine wr_cv (va_runV (As := [.int x1]) (rest := []) ⟨hx, hb, hml, hown, hts⟩ (c_X1_put l D C N S24 z24 r28 x1 () S30 hc30) (cwV 1 hts gX6_addLine_X1_put rfl rfl rfl (by decide +kernel) ⟨Nat.le_of_ble_eq_true rfl, Nat.le_of_ble_eq_true rfl⟩) (wd_preV hw hok29 (wF_1 (S := S24) hok29.2) rfl) rfl rfl hl.1 rfl (lv_room (Nat.le_of_ble_eq_true rfl)) dX6_addLine_72 ⟨Nat.le_of_ble_eq_true rfl, Nat.le_of_ble_eq_true rfl⟩) hw (fun H locs hw => ?_)
          refine lv_aload_n hx hb dX6_addLine_75 rfl (lv_at hl 0 rfl) ?_
          obtain ⟨hok31, hg⟩ := gd_some hg
          obtain ⟨r32, hr32, hg⟩ := nn_some hg
          refine wr_get (K := RX6) (T := TX6) (N := 7) (index := 12) (ref := "MakerLines") (v := .ref r32) hx hb hts hi_X6_addLine_X6 hown hw hok31 (wF_6 (S := S30) hok31.2) rfl 0 (by decide) (hts _ (List.mem_of_getElem? (i := 5) rfl)) (fun _ h9 => h9) (congrArg (fun o => some (va_rf o)) hr32) dX6_addLine_76 ?_
          obtain ⟨hok33, hg⟩ := gd_some hg
          obtain ⟨r34, hr34, hg⟩ := nn_some hg
          refine wr_get (K := RX4) (T := TX4) (N := 10) (index := 66) (ref := "MakerLines$State") (v := .ref r34) hx hb hts hi_X6_addLine_X4 hown hw hok33 (wF_4 (S := S30) hok33.2) rfl 0 (by decide) (hts _ (List.mem_of_getElem? (i := 6) rfl)) (fun _ h9 => h9) (congrArg (fun o => some (va_rf o)) hr34) dX6_addLine_79 ?_
          obtain ⟨hok35, hg⟩ := gd_some hg
          refine wr_get (K := RX1) (T := TX1) (N := 6) (index := 70) (ref := "MakerLines$Lines") (v := .int (hI S30 r34 1)) hx hb hts hi_X6_addLine_X1 hown hw hok35 (wF_1 (S := S30) hok35.2) rfl 1 (by decide) (hts _ (List.mem_of_getElem? (i := 7) rfl)) (fun _ h9 => h9) rfl dX6_addLine_82 ?_
          refine lv_iconst (v := (1 : Int32)) hx hb dX6_addLine_85 (by decide) ?_
          refine lv_isub hx hb dX6_addLine_86 ?_
          cases hg
          refine W.widen (k := 3) (n := 28) (Nat.le_of_ble_eq_true rfl) (Nat.le_of_ble_eq_true rfl) ?_
          exact wr_iret hx hb hr hw dX6_addLine_87 hlk
        · have hg := it_neg hg c21
          exact absurd hg (by simp)
      · have hg := it_neg hg c15
        exact B18 _ _ _ _ _ hg hw (lv_sub hl [] rfl)
  exact B0 S0 z0 _ _ _ hg hw hl
theorem hi_X6_removeLine_X4 : ∀ w ∈ wsX40, w ∈ wsX6_removeLine := fun _ h => List.mem_cons_of_mem _ (List.mem_append_left _ (List.mem_append_left _ (List.mem_append_left _ (List.mem_append_right _ (h)))))
theorem hi_X6_removeLine_X6 : ∀ w ∈ wsX60, w ∈ wsX6_removeLine := fun _ h => List.mem_cons_of_mem _ (List.mem_append_left _ (List.mem_append_left _ (List.mem_append_left _ (List.mem_append_left _ (List.mem_append_right _ (h))))))
abbrev rm_X6_removeLine : Room := { frames := 4, cells := 3, slots := 28, locals := 86 }
set_option maxHeartbeats 4000000 in
set_option maxRecDepth 100000 in
theorem c_X6_removeLine (l : Launch) (D : va_G) (C : C3) (N : Nat) (S0 : Hp) (z0 : Nat) (a0 : Nat) (x1 : Int32) (r : Int32) (S9 : Hp) (z9 : Nat) (hg : f_X6_removeLine N S0 z0 a0 x1 = some (r, S9, z9)) : MetI l yX6_removeLine wsX6_removeLine rm_X6_removeLine D C S0 z0 [.ref a0, .int x1] r S9 z9 3 28 := by
  refine mw_ofW (cc := cX6_removeLine) (maxL := 3) (ret := (some .int)) (lv := [(0, .ref a0), (1, .int x1)]) (by decide) rfl (Nat.le_of_ble_eq_true rfl) rfl ?_
  intro p e s m below meth c ls hx hb hr hts hown hlk hml hnm hl hw
  have hown : s.vm.findClass RX6 = some m.cls := hown
  have B0 : ∀ (S : Hp) (z : Nat) (H : Heap) (locs : List Loc) (ls : Array Slot), f_X6_removeLine N S z a0 x1 = some (r, S9, z9) → Wd D C (va_A (wP C S0) z0) s.heap S z H locs s → lv_has ls 3 [(0, .ref a0), (1, .int x1)] → W p l e rm_X6_removeLine s m ([.ref a0, .int x1] : List Value).toArray below meth c H locs 0 0 (MQ below (QiW D C S0 z0 r S9 z9) ([.ref a0, .int x1] : List Value).toArray s 3 28 (va_A (wP C S0) z0)) (F0 m 0 ls []) := by
    intro S z H locs ls hg hw hl
    unfold f_X6_removeLine at hg
    refine lv_aload_n hx hb dX6_removeLine_0 rfl (lv_at hl 0 rfl) ?_
    obtain ⟨hok10, hg⟩ := gd_some hg
    obtain ⟨r11, hr11, hg⟩ := nn_some hg
    refine wr_get (K := RX6) (T := TX6) (N := 7) (index := 12) (ref := "MakerLines") (v := .ref r11) hx hb hts hi_X6_removeLine_X6 hown hw hok10 (wF_6 (S := S) hok10.2) rfl 0 (by decide) (hts _ (List.mem_of_getElem? (i := 3) rfl)) (fun _ h9 => h9) (congrArg (fun o => some (va_rf o)) hr11) dX6_removeLine_1 ?_
    obtain ⟨hok12, hg⟩ := gd_some hg
    obtain ⟨r13, hr13, hg⟩ := nn_some hg
    refine wr_get (K := RX4) (T := TX4) (N := 10) (index := 66) (ref := "MakerLines$State") (v := .ref r13) hx hb hts hi_X6_removeLine_X4 hown hw hok12 (wF_4 (S := S) hok12.2) rfl 0 (by decide) (hts _ (List.mem_of_getElem? (i := 4) rfl)) (fun _ h9 => h9) (congrArg (fun o => some (va_rf o)) hr13) dX6_removeLine_4 ?_
    refine lv_iload_n hx hb dX6_removeLine_7 rfl (lv_at hl 1 rfl) ?_
    obtain ⟨hok14, hg⟩ := gd_some hg
    obtain ⟨r15, S15, hc15, hg⟩ := cl_some hg
    refine wr_ci (va_runV (As := [.int x1]) (rest := []) ⟨hx, hb, hml, hown, hts⟩ (c_X1_has l D C N S z r13 x1 r15 S15 hc15) (cwV 1 hts gX6_removeLine_X1_has rfl rfl rfl (by decide +kernel) ⟨Nat.le_of_ble_eq_true rfl, Nat.le_of_ble_eq_true rfl⟩) (wd_preV hw hok14 (wF_1 (S := S) hok14.2) rfl) rfl rfl hl.1 rfl (lv_room (Nat.le_of_ble_eq_true rfl)) dX6_removeLine_8 ⟨Nat.le_of_ble_eq_true rfl, Nat.le_of_ble_eq_true rfl⟩) hw (fun H locs hw => ?_)
    refine lv_if_ne (tgt := 24) hx hb dX6_removeLine_11 (by decide) (fun c16 => ?_) (fun c16 => ?_)
    · have hg := it_neg hg c16
      refine lv_aload_n hx hb dX6_removeLine_24 rfl (lv_at hl 0 rfl) ?_
      obtain ⟨hok17, hg⟩ := gd_some hg
      obtain ⟨r18, hr18, hg⟩ := nn_some hg
      refine wr_get (K := RX6) (T := TX6) (N := 7) (index := 22) (ref := "MakerLines") (v := .ref r18) hx hb hts hi_X6_removeLine_X6 hown hw hok17 (wF_6 (S := S15) hok17.2) rfl 2 (by decide) (hts _ (List.mem_of_getElem? (i := 5) rfl)) (fun _ h9 => h9) (congrArg (fun o => some (va_rf o)) hr18) dX6_removeLine_25 ?_
      refine lv_aload_n hx hb dX6_removeLine_28 rfl (lv_at hl 0 rfl) ?_
      obtain ⟨r19, hr19, hg⟩ := nn_some hg
      refine wr_get (K := RX6) (T := TX6) (N := 7) (index := 12) (ref := "MakerLines") (v := .ref r19) hx hb hts hi_X6_removeLine_X6 hown hw hok17 (wF_6 (S := S15) hok17.2) rfl 0 (by decide) (hts _ (List.mem_of_getElem? (i := 3) rfl)) (fun _ h9 => h9) (congrArg (fun o => some (va_rf o)) hr19) dX6_removeLine_29 ?_
      obtain ⟨hok20, hg⟩ := gd_some hg
      obtain ⟨⟨⟩, S21, z21, hc21, hg⟩ := cz_some hg
      refine wr_cv (va_runV (As := [.ref r19]) (rest := []) ⟨hx, hb, hml, hown, hts⟩ (c_X0_save l D C N S15 z r18 r19 () S21 z21 hc21) (cwV 1 hts gX6_removeLine_X0_save rfl rfl rfl (by decide +kernel) ⟨Nat.le_of_ble_eq_true rfl, Nat.le_of_ble_eq_true rfl⟩) (wd_preV hw hok20 (wF_0 (S := S15) hok20.2) rfl) rfl rfl hl.1 rfl (lv_room (Nat.le_of_ble_eq_true rfl)) dX6_removeLine_32 ⟨Nat.le_of_ble_eq_true rfl, Nat.le_of_ble_eq_true rfl⟩) hw (fun H locs hw => ?_)
      refine lv_aload_n hx hb dX6_removeLine_35 rfl (lv_at hl 0 rfl) ?_
      obtain ⟨hok22, hg⟩ := gd_some hg
      obtain ⟨r23, hr23, hg⟩ := nn_some hg
      refine wr_get (K := RX6) (T := TX6) (N := 7) (index := 12) (ref := "MakerLines") (v := .ref r23) hx hb hts hi_X6_removeLine_X6 hown hw hok22 (wF_6 (S := S21) hok22.2) rfl 0 (by decide) (hts _ (List.mem_of_getElem? (i := 3) rfl)) (fun _ h9 => h9) (congrArg (fun o => some (va_rf o)) hr23) dX6_removeLine_36 ?_
      obtain ⟨hok24, hg⟩ := gd_some hg
      obtain ⟨r25, hr25, hg⟩ := nn_some hg
      refine wr_get (K := RX4) (T := TX4) (N := 10) (index := 66) (ref := "MakerLines$State") (v := .ref r25) hx hb hts hi_X6_removeLine_X4 hown hw hok24 (wF_4 (S := S21) hok24.2) rfl 0 (by decide) (hts _ (List.mem_of_getElem? (i := 4) rfl)) (fun _ h9 => h9) (congrArg (fun o => some (va_rf o)) hr25) dX6_removeLine_39 ?_
      refine lv_iload_n hx hb dX6_removeLine_42 rfl (lv_at hl 1 rfl) ?_
      obtain ⟨hok26, hg⟩ := gd_some hg
      obtain ⟨r27, S27, hc27, hg⟩ := cl_some hg
      refine wr_ci (va_runV (As := [.int x1]) (rest := []) ⟨hx, hb, hml, hown, hts⟩ (c_X1_maskOf l D C N S21 z21 r25 x1 r27 S27 hc27) (cwV 1 hts gX6_removeLine_X1_maskOf rfl rfl rfl (by decide +kernel) ⟨Nat.le_of_ble_eq_true rfl, Nat.le_of_ble_eq_true rfl⟩) (wd_preV hw hok26 (wF_1 (S := S21) hok26.2) rfl) rfl rfl hl.1 rfl (lv_room (Nat.le_of_ble_eq_true rfl)) dX6_removeLine_43 ⟨Nat.le_of_ble_eq_true rfl, Nat.le_of_ble_eq_true rfl⟩) hw (fun H locs hw => ?_)
      refine lv_istore_n (lv' := [(2, .int r27), (0, .ref a0), (1, .int x1)]) hx hb dX6_removeLine_46 rfl hl (by decide) rfl (fun ls hl => ?_)
      refine lv_aload_n hx hb dX6_removeLine_47 rfl (lv_at hl 1 rfl) ?_
      obtain ⟨hok28, hg⟩ := gd_some hg
      obtain ⟨r29, hr29, hg⟩ := nn_some hg
      refine wr_get (K := RX6) (T := TX6) (N := 7) (index := 12) (ref := "MakerLines") (v := .ref r29) hx hb hts hi_X6_removeLine_X6 hown hw hok28 (wF_6 (S := S27) hok28.2) rfl 0 (by decide) (hts _ (List.mem_of_getElem? (i := 3) rfl)) (fun _ h9 => h9) (congrArg (fun o => some (va_rf o)) hr29) dX6_removeLine_48 ?_
      obtain ⟨hok30, hg⟩ := gd_some hg
      obtain ⟨r31, hr31, hg⟩ := nn_some hg
      refine wr_get (K := RX4) (T := TX4) (N := 10) (index := 66) (ref := "MakerLines$State") (v := .ref r31) hx hb hts hi_X6_removeLine_X4 hown hw hok30 (wF_4 (S := S27) hok30.2) rfl 0 (by decide) (hts _ (List.mem_of_getElem? (i := 4) rfl)) (fun _ h9 => h9) (congrArg (fun o => some (va_rf o)) hr31) dX6_removeLine_51 ?_
      refine lv_iload_n hx hb dX6_removeLine_54 rfl (lv_at hl 2 rfl) ?_
      obtain ⟨hok32, hg⟩ := gd_some hg
      obtain ⟨⟨⟩, S33, hc33, hg⟩ := cl_some hg
      refine wr_cv (va_runV (As := [.int x1]) (rest := []) ⟨hx, hb, hml, hown, hts⟩ (c_X1_drop l D C N S27 z21 r31 x1 () S33 hc33) (cwV 1 hts gX6_removeLine_X1_drop rfl rfl rfl (by decide +kernel) ⟨Nat.le_of_ble_eq_true rfl, Nat.le_of_ble_eq_true rfl⟩) (wd_preV hw hok32 (wF_1 (S := S27) hok32.2) rfl) rfl rfl hl.1 rfl (lv_room (Nat.le_of_ble_eq_true rfl)) dX6_removeLine_55 ⟨Nat.le_of_ble_eq_true rfl, Nat.le_of_ble_eq_true rfl⟩) hw (fun H locs hw => ?_)
      refine lv_iload_n hx hb dX6_removeLine_58 rfl (lv_at hl 0 rfl) ?_
      cases hg
      refine W.widen (k := 3) (n := 28) (Nat.le_of_ble_eq_true rfl) (Nat.le_of_ble_eq_true rfl) ?_
      exact wr_iret hx hb hr hw dX6_removeLine_59 hlk
    · have hg := it_pos hg c16
      exact absurd hg (by simp)
  exact B0 S0 z0 _ _ _ hg hw hl
theorem hi_X6_clear_X4 : ∀ w ∈ wsX40, w ∈ wsX6_clear := fun _ h => List.mem_cons_of_mem _ (List.mem_append_left _ (List.mem_append_left _ (List.mem_append_right _ (h))))
theorem hi_X6_clear_X6 : ∀ w ∈ wsX60, w ∈ wsX6_clear := fun _ h => List.mem_cons_of_mem _ (List.mem_append_left _ (List.mem_append_left _ (List.mem_append_left _ (List.mem_append_right _ (h)))))
abbrev rm_X6_clear : Room := { frames := 4, cells := 3, slots := 28, locals := 86 }
set_option maxHeartbeats 4000000 in
set_option maxRecDepth 100000 in
theorem c_X6_clear (l : Launch) (D : va_G) (C : C3) (N : Nat) (S0 : Hp) (z0 : Nat) (a0 : Nat) (x1 : Int32) (r : Int32) (S9 : Hp) (z9 : Nat) (hg : f_X6_clear N S0 z0 a0 x1 = some (r, S9, z9)) : MetI l yX6_clear wsX6_clear rm_X6_clear D C S0 z0 [.ref a0, .int x1] r S9 z9 3 28 := by
  refine mw_ofW (cc := cX6_clear) (maxL := 3) (ret := (some .int)) (lv := [(0, .ref a0), (1, .int x1)]) (by decide) rfl (Nat.le_of_ble_eq_true rfl) rfl ?_
  intro p e s m below meth c ls hx hb hr hts hown hlk hml hnm hl hw
  have hown : s.vm.findClass RX6 = some m.cls := hown
  have B0 : ∀ (S : Hp) (z : Nat) (H : Heap) (locs : List Loc) (ls : Array Slot), f_X6_clear N S z a0 x1 = some (r, S9, z9) → Wd D C (va_A (wP C S0) z0) s.heap S z H locs s → lv_has ls 3 [(0, .ref a0), (1, .int x1)] → W p l e rm_X6_clear s m ([.ref a0, .int x1] : List Value).toArray below meth c H locs 0 0 (MQ below (QiW D C S0 z0 r S9 z9) ([.ref a0, .int x1] : List Value).toArray s 3 28 (va_A (wP C S0) z0)) (F0 m 0 ls []) := by
    intro S z H locs ls hg hw hl
    unfold f_X6_clear at hg
    refine lv_aload_n hx hb dX6_clear_0 rfl (lv_at hl 0 rfl) ?_
    obtain ⟨hok10, hg⟩ := gd_some hg
    obtain ⟨r11, hr11, hg⟩ := nn_some hg
    refine wr_get (K := RX6) (T := TX6) (N := 7) (index := 22) (ref := "MakerLines") (v := .ref r11) hx hb hts hi_X6_clear_X6 hown hw hok10 (wF_6 (S := S) hok10.2) rfl 2 (by decide) (hts _ (List.mem_of_getElem? (i := 1) rfl)) (fun _ h9 => h9) (congrArg (fun o => some (va_rf o)) hr11) dX6_clear_1 ?_
    refine lv_aload_n hx hb dX6_clear_4 rfl (lv_at hl 0 rfl) ?_
    obtain ⟨r12, hr12, hg⟩ := nn_some hg
    refine wr_get (K := RX6) (T := TX6) (N := 7) (index := 12) (ref := "MakerLines") (v := .ref r12) hx hb hts hi_X6_clear_X6 hown hw hok10 (wF_6 (S := S) hok10.2) rfl 0 (by decide) (hts _ (List.mem_of_getElem? (i := 2) rfl)) (fun _ h9 => h9) (congrArg (fun o => some (va_rf o)) hr12) dX6_clear_5 ?_
    obtain ⟨hok13, hg⟩ := gd_some hg
    obtain ⟨⟨⟩, S14, z14, hc14, hg⟩ := cz_some hg
    refine wr_cv (va_runV (As := [.ref r12]) (rest := []) ⟨hx, hb, hml, hown, hts⟩ (c_X0_save l D C N S z r11 r12 () S14 z14 hc14) (cwV 1 hts gX6_clear_X0_save rfl rfl rfl (by decide +kernel) ⟨Nat.le_of_ble_eq_true rfl, Nat.le_of_ble_eq_true rfl⟩) (wd_preV hw hok13 (wF_0 (S := S) hok13.2) rfl) rfl rfl hl.1 rfl (lv_room (Nat.le_of_ble_eq_true rfl)) dX6_clear_8 ⟨Nat.le_of_ble_eq_true rfl, Nat.le_of_ble_eq_true rfl⟩) hw (fun H locs hw => ?_)
    refine lv_aload_n hx hb dX6_clear_11 rfl (lv_at hl 0 rfl) ?_
    obtain ⟨hok15, hg⟩ := gd_some hg
    obtain ⟨r16, hr16, hg⟩ := nn_some hg
    refine wr_get (K := RX6) (T := TX6) (N := 7) (index := 12) (ref := "MakerLines") (v := .ref r16) hx hb hts hi_X6_clear_X6 hown hw hok15 (wF_6 (S := S14) hok15.2) rfl 0 (by decide) (hts _ (List.mem_of_getElem? (i := 2) rfl)) (fun _ h9 => h9) (congrArg (fun o => some (va_rf o)) hr16) dX6_clear_12 ?_
    obtain ⟨hok17, hg⟩ := gd_some hg
    refine wr_get (K := RX4) (T := TX4) (N := 10) (index := 110) (ref := "MakerLines$State") (v := .int (hI S14 r16 2)) hx hb hts hi_X6_clear_X4 hown hw hok17 (wF_4 (S := S14) hok17.2) rfl 2 (by decide) (hts _ (List.mem_of_getElem? (i := 3) rfl)) (fun _ h9 => h9) rfl dX6_clear_15 ?_
    refine lv_aload_n hx hb dX6_clear_18 rfl (lv_at hl 0 rfl) ?_
    refine wr_get (K := RX6) (T := TX6) (N := 7) (index := 12) (ref := "MakerLines") (v := .ref r16) hx hb hts hi_X6_clear_X6 hown hw hok15 (wF_6 (S := S14) hok15.2) rfl 0 (by decide) (hts _ (List.mem_of_getElem? (i := 2) rfl)) (fun _ h9 => h9) (congrArg (fun o => some (va_rf o)) hr16) dX6_clear_19 ?_
    refine wr_get (K := RX4) (T := TX4) (N := 10) (index := 113) (ref := "MakerLines$State") (v := .int (hI S14 r16 3)) hx hb hts hi_X6_clear_X4 hown hw hok17 (wF_4 (S := S14) hok17.2) rfl 3 (by decide) (hts _ (List.mem_of_getElem? (i := 4) rfl)) (fun _ h9 => h9) rfl dX6_clear_22 ?_
    refine lv_ior hx hb dX6_clear_25 ?_
    refine wr_ci (va_runS (As := [.int ((hI S14 r16 2) ||| (hI S14 r16 3))]) (rest := []) ⟨hx, hb, hml, hown, hts⟩ (c_bitc l D C S14 z14 (((hI S14 r16 2) ||| (hI S14 r16 3)))) (va_cwS 1 hts gX6_clear_J6_bitCount_0f7a4 rfl rfl rfl (by decide +kernel) ⟨Nat.le_of_ble_eq_true rfl, Nat.le_of_ble_eq_true rfl⟩) (wd_preS hw) rfl rfl hl.1 rfl (lv_room (Nat.le_of_ble_eq_true rfl)) dX6_clear_26 ⟨Nat.le_of_ble_eq_true rfl, Nat.le_of_ble_eq_true rfl⟩) hw (fun H locs hw => ?_)
    obtain ⟨e18, he18, hg⟩ := bd_some hg
    refine lv_istore_n (lv' := [(2, .int e18), (0, .ref a0), (1, .int x1)]) hx hb dX6_clear_29 rfl hl (by decide) (by rw [he18]; rfl) (fun ls hl => ?_)
    refine lv_aload_n hx hb dX6_clear_30 rfl (lv_at hl 1 rfl) ?_
    refine wr_get (K := RX6) (T := TX6) (N := 7) (index := 12) (ref := "MakerLines") (v := .ref r16) hx hb hts hi_X6_clear_X6 hown hw hok15 (wF_6 (S := S14) hok15.2) rfl 0 (by decide) (hts _ (List.mem_of_getElem? (i := 2) rfl)) (fun _ h9 => h9) (congrArg (fun o => some (va_rf o)) hr16) dX6_clear_31 ?_
    refine lv_iload_n hx hb dX6_clear_34 rfl (lv_at hl 2 rfl) ?_
    obtain ⟨⟨⟩, S19, hc19, hg⟩ := cl_some hg
    refine wr_cv (va_runV (As := [.int x1]) (rest := []) ⟨hx, hb, hml, hown, hts⟩ (c_X4_freeAll l D C N S14 z14 r16 x1 () S19 hc19) (cwV 1 hts gX6_clear_X4_freeAll rfl rfl rfl (by decide +kernel) ⟨Nat.le_of_ble_eq_true rfl, Nat.le_of_ble_eq_true rfl⟩) (wd_preV hw hok17 (wF_4 (S := S14) hok17.2) rfl) rfl rfl hl.1 rfl (lv_room (Nat.le_of_ble_eq_true rfl)) dX6_clear_35 ⟨Nat.le_of_ble_eq_true rfl, Nat.le_of_ble_eq_true rfl⟩) hw (fun H locs hw => ?_)
    refine lv_iload_n hx hb dX6_clear_38 rfl (lv_at hl 0 rfl) ?_
    cases hg
    refine W.widen (k := 3) (n := 28) (Nat.le_of_ble_eq_true rfl) (Nat.le_of_ble_eq_true rfl) ?_
    exact wr_iret hx hb hr hw dX6_clear_39 hlk
  exact B0 S0 z0 _ _ _ hg hw hl
theorem hi_X6_otherInPairing_X6 : ∀ w ∈ wsX60, w ∈ wsX6_otherInPairing := fun _ h => List.mem_cons_of_mem _ (List.mem_append_left _ (List.mem_append_left _ (List.mem_append_left _ (List.mem_append_right _ (h)))))
abbrev rm_X6_otherInPairing : Room := { frames := 32, cells := 0, slots := 0, locals := 1544 }
set_option maxHeartbeats 4000000 in
set_option maxRecDepth 100000 in
theorem c_X6_otherInPairing (l : Launch) (D : va_G) (C : C3) (N : Nat) (S0 : Hp) (z : Nat) (a0 : Nat) (x1 : Int32) (r : Int32) (S9 : Hp) (hg : f_X6_otherInPairing N S0 a0 x1 = some (r, S9)) : MetI l yX6_otherInPairing wsX6_otherInPairing rm_X6_otherInPairing D C S0 z [.ref a0, .int x1] r S9 z 0 0 := by
  refine mw_ofW (cc := cX6_otherInPairing) (maxL := 2) (ret := (some .int)) (lv := [(0, .ref a0), (1, .int x1)]) (by decide) rfl (Nat.le_of_ble_eq_true rfl) rfl ?_
  intro p e s m below meth c ls hx hb hr hts hown hlk hml hnm hl hw
  have hown : s.vm.findClass RX6 = some m.cls := hown
  have B0 : ∀ (S : Hp) (H : Heap) (locs : List Loc) (ls : Array Slot), f_X6_otherInPairing N S a0 x1 = some (r, S9) → Wd D C (va_A (wP C S0) z) s.heap S z H locs s → lv_has ls 2 [(0, .ref a0), (1, .int x1)] → W p l e rm_X6_otherInPairing s m ([.ref a0, .int x1] : List Value).toArray below meth c H locs 0 0 (MQ below (QiW D C S0 z r S9 z) ([.ref a0, .int x1] : List Value).toArray s 0 0 (va_A (wP C S0) z)) (F0 m 0 ls []) := by
    intro S H locs ls hg hw hl
    unfold f_X6_otherInPairing at hg
    refine lv_aload_n hx hb dX6_otherInPairing_0 rfl (lv_at hl 0 rfl) ?_
    obtain ⟨hok10, hg⟩ := gd_some hg
    obtain ⟨r11, hr11, hg⟩ := nn_some hg
    refine wr_get (K := RX6) (T := TX6) (N := 7) (index := 40) (ref := "MakerLines") (v := .ref r11) hx hb hts hi_X6_otherInPairing_X6 hown hw hok10 (wF_6 (S := S) hok10.2) rfl 5 (by decide) (hts _ (List.mem_of_getElem? (i := 1) rfl)) (fun _ h9 => h9) (congrArg (fun o => some (va_rf o)) hr11) dX6_otherInPairing_1 ?_
    refine lv_aload_n hx hb dX6_otherInPairing_4 rfl (lv_at hl 0 rfl) ?_
    obtain ⟨r12, hr12, hg⟩ := nn_some hg
    refine wr_get (K := RX6) (T := TX6) (N := 7) (index := 12) (ref := "MakerLines") (v := .ref r12) hx hb hts hi_X6_otherInPairing_X6 hown hw hok10 (wF_6 (S := S) hok10.2) rfl 0 (by decide) (hts _ (List.mem_of_getElem? (i := 2) rfl)) (fun _ h9 => h9) (congrArg (fun o => some (va_rf o)) hr12) dX6_otherInPairing_5 ?_
    obtain ⟨hok13, hg⟩ := gd_some hg
    obtain ⟨⟨⟩, S14, hc14, hg⟩ := cl_some hg
    refine wr_cv (va_runV (As := [.ref r12]) (rest := []) ⟨hx, hb, hml, hown, hts⟩ (c_X2_lookAt l D C N S z r11 r12 () S14 hc14) (cwV 1 hts gX6_otherInPairing_X2_lookAt rfl rfl rfl (by decide +kernel) ⟨Nat.le_of_ble_eq_true rfl, Nat.le_of_ble_eq_true rfl⟩) (wd_preV hw hok13 (wF_2 (S := S) hok13.2) rfl) rfl rfl hl.1 rfl (lv_room (Nat.le_of_ble_eq_true rfl)) dX6_otherInPairing_8 ⟨Nat.zero_le _, Nat.zero_le _⟩) hw (fun H locs hw => ?_)
    refine lv_aload_n hx hb dX6_otherInPairing_11 rfl (lv_at hl 0 rfl) ?_
    obtain ⟨hok15, hg⟩ := gd_some hg
    obtain ⟨r16, hr16, hg⟩ := nn_some hg
    refine wr_get (K := RX6) (T := TX6) (N := 7) (index := 40) (ref := "MakerLines") (v := .ref r16) hx hb hts hi_X6_otherInPairing_X6 hown hw hok15 (wF_6 (S := S14) hok15.2) rfl 5 (by decide) (hts _ (List.mem_of_getElem? (i := 1) rfl)) (fun _ h9 => h9) (congrArg (fun o => some (va_rf o)) hr16) dX6_otherInPairing_12 ?_
    refine lv_iload_n hx hb dX6_otherInPairing_15 rfl (lv_at hl 1 rfl) ?_
    obtain ⟨hok17, hg⟩ := gd_some hg
    obtain ⟨r18, S18, hc18, hg⟩ := cl_some hg
    refine wr_ci (va_runV (As := [.int x1]) (rest := []) ⟨hx, hb, hml, hown, hts⟩ (c_X2_otherOf l D C N S14 z r16 x1 r18 S18 hc18) (cwV 1 hts gX6_otherInPairing_X2_otherOf rfl rfl rfl (by decide +kernel) ⟨Nat.le_of_ble_eq_true rfl, Nat.le_of_ble_eq_true rfl⟩) (wd_preV hw hok17 (wF_2 (S := S14) hok17.2) rfl) rfl rfl hl.1 rfl (lv_room (Nat.le_of_ble_eq_true rfl)) dX6_otherInPairing_16 ⟨Nat.zero_le _, Nat.zero_le _⟩) hw (fun H locs hw => ?_)
    cases hg
    exact wr_iret hx hb hr hw dX6_otherInPairing_19 hlk
  exact B0 S0 _ _ _ hg hw hl
theorem hi_X6_move_X6 : ∀ w ∈ wsX60, w ∈ wsX6_move := fun _ h => List.mem_cons_of_mem _ (List.mem_append_left _ (List.mem_append_left _ (List.mem_append_left _ (List.mem_append_left _ (List.mem_append_left _ (List.mem_append_left _ (List.mem_append_right _ (h))))))))
abbrev rm_X6_move : Room := { frames := 33, cells := 3, slots := 28, locals := 1565 }
set_option maxHeartbeats 4000000 in
set_option maxRecDepth 100000 in
theorem c_X6_move (l : Launch) (D : va_G) (C : C3) (N : Nat) (S0 : Hp) (z0 : Nat) (a0 : Nat) (x1 : Int32) (r : Int32) (S9 : Hp) (z9 : Nat) (hg : f_X6_move N S0 z0 a0 x1 = some (r, S9, z9)) : MetI l yX6_move wsX6_move rm_X6_move D C S0 z0 [.ref a0, .int x1] r S9 z9 3 28 := by
  refine mw_ofW (cc := cX6_move) (maxL := 2) (ret := (some .int)) (lv := [(0, .ref a0), (1, .int x1)]) (by decide) rfl (Nat.le_of_ble_eq_true rfl) rfl ?_
  intro p e s m below meth c ls hx hb hr hts hown hlk hml hnm hl hw
  have hown : s.vm.findClass RX6 = some m.cls := hown
  have B42 : ∀ (S : Hp) (z : Nat) (H : Heap) (locs : List Loc) (ls : Array Slot), f_X6_move_b42 N a0 x1 S z = some (r, S9, z9) → Wd D C (va_A (wP C S0) z0) s.heap S z H locs s → lv_has ls 2 [] → W p l e rm_X6_move s m ([.ref a0, .int x1] : List Value).toArray below meth c H locs 0 0 (MQ below (QiW D C S0 z0 r S9 z9) ([.ref a0, .int x1] : List Value).toArray s 3 28 (va_A (wP C S0) z0)) (F0 m 42 ls []) := by
    intro S z H locs ls hg hw hl
    unfold f_X6_move_b42 at hg
    exact absurd hg (by simp)
  have B0 : ∀ (S : Hp) (z : Nat) (H : Heap) (locs : List Loc) (ls : Array Slot), f_X6_move N S z a0 x1 = some (r, S9, z9) → Wd D C (va_A (wP C S0) z0) s.heap S z H locs s → lv_has ls 2 [(0, .ref a0), (1, .int x1)] → W p l e rm_X6_move s m ([.ref a0, .int x1] : List Value).toArray below meth c H locs 0 0 (MQ below (QiW D C S0 z0 r S9 z9) ([.ref a0, .int x1] : List Value).toArray s 3 28 (va_A (wP C S0) z0)) (F0 m 0 ls []) := by
    intro S z H locs ls hg hw hl
    unfold f_X6_move at hg
    refine lv_aload_n hx hb dX6_move_0 rfl (lv_at hl 0 rfl) ?_
    obtain ⟨hok10, hg⟩ := gd_some hg
    obtain ⟨r11, hr11, hg⟩ := nn_some hg
    refine wr_get (K := RX6) (T := TX6) (N := 7) (index := 12) (ref := "MakerLines") (v := .ref r11) hx hb hts hi_X6_move_X6 hown hw hok10 (wF_6 (S := S) hok10.2) rfl 0 (by decide) (hts _ (List.mem_of_getElem? (i := 5) rfl)) (fun _ h9 => h9) (congrArg (fun o => some (va_rf o)) hr11) dX6_move_1 ?_
    refine lv_iload_n hx hb dX6_move_4 rfl (lv_at hl 1 rfl) ?_
    obtain ⟨hok12, hg⟩ := gd_some hg
    obtain ⟨r13, S13, hc13, hg⟩ := cl_some hg
    refine wr_ci (va_runV (As := [.int x1]) (rest := []) ⟨hx, hb, hml, hown, hts⟩ (c_X4_hasCell l D C N S z r11 x1 r13 S13 hc13) (cwV 1 hts gX6_move_X4_hasCell rfl rfl rfl (by decide +kernel) ⟨Nat.le_of_ble_eq_true rfl, Nat.le_of_ble_eq_true rfl⟩) (wd_preV hw hok12 (wF_4 (S := S) hok12.2) rfl) rfl rfl hl.1 rfl (lv_room (Nat.le_of_ble_eq_true rfl)) dX6_move_5 ⟨Nat.le_of_ble_eq_true rfl, Nat.le_of_ble_eq_true rfl⟩) hw (fun H locs hw => ?_)
    refine lv_if_ne (tgt := 21) hx hb dX6_move_8 (by decide) (fun c14 => ?_) (fun c14 => ?_)
    · have hg := it_neg hg c14
      refine lv_aload_n hx hb dX6_move_21 rfl (lv_at hl 0 rfl) ?_
      obtain ⟨hok15, hg⟩ := gd_some hg
      obtain ⟨r16, hr16, hg⟩ := nn_some hg
      refine wr_get (K := RX6) (T := TX6) (N := 7) (index := 12) (ref := "MakerLines") (v := .ref r16) hx hb hts hi_X6_move_X6 hown hw hok15 (wF_6 (S := S13) hok15.2) rfl 0 (by decide) (hts _ (List.mem_of_getElem? (i := 5) rfl)) (fun _ h9 => h9) (congrArg (fun o => some (va_rf o)) hr16) dX6_move_22 ?_
      obtain ⟨hok17, hg⟩ := gd_some hg
      obtain ⟨r18, S18, hc18, hg⟩ := cl_some hg
      refine wr_ci (va_runV (As := []) (rest := []) ⟨hx, hb, hml, hown, hts⟩ (c_X4_winner l D C N S13 z r16 r18 S18 hc18) (cwV 0 hts gX6_move_X4_winner rfl rfl rfl (by decide +kernel) ⟨Nat.le_of_ble_eq_true rfl, Nat.le_of_ble_eq_true rfl⟩) (wd_preV hw hok17 (wF_4 (S := S13) hok17.2) rfl) rfl rfl hl.1 rfl (lv_room (Nat.le_of_ble_eq_true rfl)) dX6_move_25 ⟨Nat.le_of_ble_eq_true rfl, Nat.le_of_ble_eq_true rfl⟩) hw (fun H locs hw => ?_)
      refine lv_if_ne (tgt := 42) hx hb dX6_move_28 (by decide) (fun c19 => ?_) (fun c19 => ?_)
      · have hg := it_neg hg c19
        exact B42 _ _ _ _ _ hg hw (lv_sub hl [] rfl)
      · have hg := it_pos hg c19
        refine lv_aload_n hx hb dX6_move_31 rfl (lv_at hl 0 rfl) ?_
        obtain ⟨hok20, hg⟩ := gd_some hg
        obtain ⟨r21, hr21, hg⟩ := nn_some hg
        refine wr_get (K := RX6) (T := TX6) (N := 7) (index := 12) (ref := "MakerLines") (v := .ref r21) hx hb hts hi_X6_move_X6 hown hw hok20 (wF_6 (S := S18) hok20.2) rfl 0 (by decide) (hts _ (List.mem_of_getElem? (i := 5) rfl)) (fun _ h9 => h9) (congrArg (fun o => some (va_rf o)) hr21) dX6_move_32 ?_
        refine lv_iload_n hx hb dX6_move_35 rfl (lv_at hl 1 rfl) ?_
        obtain ⟨hok22, hg⟩ := gd_some hg
        obtain ⟨r23, S23, hc23, hg⟩ := cl_some hg
        refine wr_ci (va_runV (As := [.int x1]) (rest := []) ⟨hx, hb, hml, hown, hts⟩ (c_X4_isFree l D C N S18 z r21 x1 r23 S23 hc23) (cwV 1 hts gX6_move_X4_isFree rfl rfl rfl (by decide +kernel) ⟨Nat.le_of_ble_eq_true rfl, Nat.le_of_ble_eq_true rfl⟩) (wd_preV hw hok22 (wF_4 (S := S18) hok22.2) rfl) rfl rfl hl.1 rfl (lv_room (Nat.le_of_ble_eq_true rfl)) dX6_move_36 ⟨Nat.le_of_ble_eq_true rfl, Nat.le_of_ble_eq_true rfl⟩) hw (fun H locs hw => ?_)
        refine lv_if_ne (tgt := 52) hx hb dX6_move_39 (by decide) (fun c24 => ?_) (fun c24 => ?_)
        · have hg := it_neg hg c24
          refine lv_aload_n hx hb dX6_move_52 rfl (lv_at hl 0 rfl) ?_
          obtain ⟨hok25, hg⟩ := gd_some hg
          obtain ⟨r26, hr26, hg⟩ := nn_some hg
          refine wr_get (K := RX6) (T := TX6) (N := 7) (index := 22) (ref := "MakerLines") (v := .ref r26) hx hb hts hi_X6_move_X6 hown hw hok25 (wF_6 (S := S23) hok25.2) rfl 2 (by decide) (hts _ (List.mem_of_getElem? (i := 6) rfl)) (fun _ h9 => h9) (congrArg (fun o => some (va_rf o)) hr26) dX6_move_53 ?_
          refine lv_aload_n hx hb dX6_move_56 rfl (lv_at hl 0 rfl) ?_
          obtain ⟨r27, hr27, hg⟩ := nn_some hg
          refine wr_get (K := RX6) (T := TX6) (N := 7) (index := 12) (ref := "MakerLines") (v := .ref r27) hx hb hts hi_X6_move_X6 hown hw hok25 (wF_6 (S := S23) hok25.2) rfl 0 (by decide) (hts _ (List.mem_of_getElem? (i := 5) rfl)) (fun _ h9 => h9) (congrArg (fun o => some (va_rf o)) hr27) dX6_move_57 ?_
          obtain ⟨hok28, hg⟩ := gd_some hg
          obtain ⟨⟨⟩, S29, z29, hc29, hg⟩ := cz_some hg
          refine wr_cv (va_runV (As := [.ref r27]) (rest := []) ⟨hx, hb, hml, hown, hts⟩ (c_X0_save l D C N S23 z r26 r27 () S29 z29 hc29) (cwV 1 hts gX6_move_X0_save rfl rfl rfl (by decide +kernel) ⟨Nat.le_of_ble_eq_true rfl, Nat.le_of_ble_eq_true rfl⟩) (wd_preV hw hok28 (wF_0 (S := S23) hok28.2) rfl) rfl rfl hl.1 rfl (lv_room (Nat.le_of_ble_eq_true rfl)) dX6_move_60 ⟨Nat.le_of_ble_eq_true rfl, Nat.le_of_ble_eq_true rfl⟩) hw (fun H locs hw => ?_)
          refine lv_aload_n hx hb dX6_move_63 rfl (lv_at hl 0 rfl) ?_
          obtain ⟨hok30, hg⟩ := gd_some hg
          obtain ⟨r31, hr31, hg⟩ := nn_some hg
          refine wr_get (K := RX6) (T := TX6) (N := 7) (index := 12) (ref := "MakerLines") (v := .ref r31) hx hb hts hi_X6_move_X6 hown hw hok30 (wF_6 (S := S29) hok30.2) rfl 0 (by decide) (hts _ (List.mem_of_getElem? (i := 5) rfl)) (fun _ h9 => h9) (congrArg (fun o => some (va_rf o)) hr31) dX6_move_64 ?_
          refine lv_iload_n hx hb dX6_move_67 rfl (lv_at hl 1 rfl) ?_
          refine lv_aload_n hx hb dX6_move_68 rfl (lv_at hl 0 rfl) ?_
          refine lv_iload_n hx hb dX6_move_69 rfl (lv_at hl 1 rfl) ?_
          obtain ⟨r32, S32, hc32, hg⟩ := cl_some hg
          refine wr_ci (va_runV (As := [.int x1]) (rest := [.int x1, .ref r31]) ⟨hx, hb, hml, hown, hts⟩ (c_X6_otherInPairing l D C N S29 z29 a0 x1 r32 S32 hc32) (cwV 1 hts gX6_move_X6_otherInPairing rfl rfl rfl (by decide +kernel) ⟨Nat.le_of_ble_eq_true rfl, Nat.le_of_ble_eq_true rfl⟩) (wd_preV hw hok30 (wF_6 (S := S29) hok30.2) rfl) rfl rfl hl.1 rfl (lv_room (Nat.le_of_ble_eq_true rfl)) dX6_move_70 ⟨Nat.le_of_ble_eq_true rfl, Nat.le_of_ble_eq_true rfl⟩) hw (fun H locs hw => ?_)
          obtain ⟨hok33, hg⟩ := gd_some hg
          obtain ⟨⟨⟩, S34, hc34, hg⟩ := cl_some hg
          refine wr_cv (va_runV (As := [.int x1, .int r32]) (rest := []) ⟨hx, hb, hml, hown, hts⟩ (c_X4_occupy l D C N S32 z29 r31 x1 r32 () S34 hc34) (cwV 2 hts gX6_move_X4_occupy rfl rfl rfl (by decide +kernel) ⟨Nat.le_of_ble_eq_true rfl, Nat.le_of_ble_eq_true rfl⟩) (wd_preV hw hok33 (wF_4 (S := S32) hok33.2) rfl) rfl rfl hl.1 rfl (lv_room (Nat.le_of_ble_eq_true rfl)) dX6_move_73 ⟨Nat.le_of_ble_eq_true rfl, Nat.le_of_ble_eq_true rfl⟩) hw (fun H locs hw => ?_)
          refine lv_aload_n hx hb dX6_move_76 rfl (lv_at hl 0 rfl) ?_
          obtain ⟨hok35, hg⟩ := gd_some hg
          obtain ⟨r36, hr36, hg⟩ := nn_some hg
          refine wr_get (K := RX6) (T := TX6) (N := 7) (index := 12) (ref := "MakerLines") (v := .ref r36) hx hb hts hi_X6_move_X6 hown hw hok35 (wF_6 (S := S34) hok35.2) rfl 0 (by decide) (hts _ (List.mem_of_getElem? (i := 5) rfl)) (fun _ h9 => h9) (congrArg (fun o => some (va_rf o)) hr36) dX6_move_77 ?_
          obtain ⟨hok37, hg⟩ := gd_some hg
          obtain ⟨r38, S38, hc38, hg⟩ := cl_some hg
          refine wr_ci (va_runV (As := []) (rest := []) ⟨hx, hb, hml, hown, hts⟩ (c_X4_winner l D C N S34 z29 r36 r38 S38 hc38) (cwV 0 hts gX6_move_X4_winner rfl rfl rfl (by decide +kernel) ⟨Nat.le_of_ble_eq_true rfl, Nat.le_of_ble_eq_true rfl⟩) (wd_preV hw hok37 (wF_4 (S := S34) hok37.2) rfl) rfl rfl hl.1 rfl (lv_room (Nat.le_of_ble_eq_true rfl)) dX6_move_80 ⟨Nat.le_of_ble_eq_true rfl, Nat.le_of_ble_eq_true rfl⟩) hw (fun H locs hw => ?_)
          cases hg
          refine W.widen (k := 3) (n := 28) (Nat.le_of_ble_eq_true rfl) (Nat.le_of_ble_eq_true rfl) ?_
          exact wr_iret hx hb hr hw dX6_move_83 hlk
        · have hg := it_pos hg c24
          exact B42 _ _ _ _ _ hg hw (lv_sub hl [] rfl)
    · have hg := it_pos hg c14
      exact absurd hg (by simp)
  exact B0 S0 z0 _ _ _ hg hw hl
theorem hi_X6_skip_X4 : ∀ w ∈ wsX40, w ∈ wsX6_skip := fun _ h => List.mem_cons_of_mem _ (List.mem_append_left _ (List.mem_append_left _ (List.mem_append_left _ (List.mem_append_right _ (h)))))
theorem hi_X6_skip_X6 : ∀ w ∈ wsX60, w ∈ wsX6_skip := fun _ h => List.mem_cons_of_mem _ (List.mem_append_left _ (List.mem_append_left _ (List.mem_append_left _ (List.mem_append_left _ (List.mem_append_right _ (h))))))
abbrev rm_X6_skip : Room := { frames := 4, cells := 3, slots := 28, locals := 86 }
set_option maxHeartbeats 4000000 in
set_option maxRecDepth 100000 in
theorem c_X6_skip (l : Launch) (D : va_G) (C : C3) (N : Nat) (S0 : Hp) (z0 : Nat) (a0 : Nat) (r : Int32) (S9 : Hp) (z9 : Nat) (hg : f_X6_skip N S0 z0 a0 = some (r, S9, z9)) : MetI l yX6_skip wsX6_skip rm_X6_skip D C S0 z0 [.ref a0] r S9 z9 3 28 := by
  refine mw_ofW (cc := cX6_skip) (maxL := 1) (ret := (some .int)) (lv := [(0, .ref a0)]) (by decide) rfl (Nat.le_of_ble_eq_true rfl) rfl ?_
  intro p e s m below meth c ls hx hb hr hts hown hlk hml hnm hl hw
  have hown : s.vm.findClass RX6 = some m.cls := hown
  have B50 : ∀ (S : Hp) (z : Nat) (s0 : Int32) (s1 : Nat) (H : Heap) (locs : List Loc) (ls : Array Slot), f_X6_skip_b50 N a0 S z s0 s1 = some (r, S9, z9) → Wd D C (va_A (wP C S0) z0) s.heap S z H locs s → lv_has ls 1 [(0, .ref a0)] → W p l e rm_X6_skip s m ([.ref a0] : List Value).toArray below meth c H locs 3 28 (MQ below (QiW D C S0 z0 r S9 z9) ([.ref a0] : List Value).toArray s 3 28 (va_A (wP C S0) z0)) (F0 m 50 ls [.int s0, .ref s1]) := by
    intro S z s0 s1 H locs ls hg hw hl
    unfold f_X6_skip_b50 at hg
    obtain ⟨hok24, hg⟩ := gd_some hg
    obtain ⟨hz25, hg⟩ := gd_some hg
    refine wr_put (K := RX4) (T := TX4) (N := 10) (index := 143) (ref := "MakerLines$State") (ty := (.boolean)) (S1 := (sI S s1 4 s0)) hx hb hts hi_X6_skip_X4 tyX4 tyX4_ok nmX4 hown hw hok24 (wF_4 (S := S) hok24.2) rfl (fun b hb9 => wF_sI_ne hb9) 4 (wq_4_4 (S := S) hok24.2 _) rfl (by decide) (hts _ (List.mem_of_getElem? (i := 5) rfl)) (fun _ h9 => h9) rfl (by decide +kernel) (isB_nar hz25) (isB_fit hz25) (Nat.le_of_ble_eq_true rfl) dX6_skip_50 (fun H locs hw => ?_)
    refine lv_aload_n hx hb dX6_skip_53 rfl (lv_at hl 0 rfl) ?_
    obtain ⟨hok26, hg⟩ := gd_some hg
    obtain ⟨r27, hr27, hg⟩ := nn_some hg
    refine wr_get (K := RX6) (T := TX6) (N := 7) (index := 12) (ref := "MakerLines") (v := .ref r27) hx hb hts hi_X6_skip_X6 hown hw hok26 (wF_6 (S := (sI S s1 4 s0)) hok26.2) rfl 0 (by decide) (hts _ (List.mem_of_getElem? (i := 3) rfl)) (fun _ h9 => h9) (congrArg (fun o => some (va_rf o)) hr27) dX6_skip_54 ?_
    obtain ⟨hok28, hg⟩ := gd_some hg
    obtain ⟨⟨⟩, S29, hc29, hg⟩ := cl_some hg
    refine wr_cv (va_runV (As := []) (rest := []) ⟨hx, hb, hml, hown, hts⟩ (c_X4_forgetLatest l D C N ((sI S s1 4 s0)) z r27 () S29 hc29) (cwV 0 hts gX6_skip_X4_forgetLatest rfl rfl rfl (by decide +kernel) ⟨Nat.le_of_ble_eq_true rfl, Nat.le_of_ble_eq_true rfl⟩) (wd_preV hw hok28 (wF_4 (S := (sI S s1 4 s0)) hok28.2) rfl) rfl rfl hl.1 rfl (lv_room (Nat.le_of_ble_eq_true rfl)) dX6_skip_57 ⟨Nat.le_of_ble_eq_true rfl, Nat.le_of_ble_eq_true rfl⟩) hw (fun H locs hw => ?_)
    refine lv_aload_n hx hb dX6_skip_60 rfl (lv_at hl 0 rfl) ?_
    obtain ⟨hok30, hg⟩ := gd_some hg
    obtain ⟨r31, hr31, hg⟩ := nn_some hg
    refine wr_get (K := RX6) (T := TX6) (N := 7) (index := 12) (ref := "MakerLines") (v := .ref r31) hx hb hts hi_X6_skip_X6 hown hw hok30 (wF_6 (S := S29) hok30.2) rfl 0 (by decide) (hts _ (List.mem_of_getElem? (i := 3) rfl)) (fun _ h9 => h9) (congrArg (fun o => some (va_rf o)) hr31) dX6_skip_61 ?_
    obtain ⟨hok32, hg⟩ := gd_some hg
    obtain ⟨r33, S33, hc33, hg⟩ := cl_some hg
    refine wr_ci (va_runV (As := []) (rest := []) ⟨hx, hb, hml, hown, hts⟩ (c_X4_mover l D C N S29 z r31 r33 S33 hc33) (cwV 0 hts gX6_skip_X4_mover rfl rfl rfl (by decide +kernel) ⟨Nat.le_of_ble_eq_true rfl, Nat.le_of_ble_eq_true rfl⟩) (wd_preV hw hok32 (wF_4 (S := S29) hok32.2) rfl) rfl rfl hl.1 rfl (lv_room (Nat.le_of_ble_eq_true rfl)) dX6_skip_64 ⟨Nat.le_of_ble_eq_true rfl, Nat.le_of_ble_eq_true rfl⟩) hw (fun H locs hw => ?_)
    cases hg
    refine W.widen (k := 3) (n := 28) (Nat.le_of_ble_eq_true rfl) (Nat.le_of_ble_eq_true rfl) ?_
    exact wr_iret hx hb hr hw dX6_skip_67 hlk
  have B0 : ∀ (S : Hp) (z : Nat) (H : Heap) (locs : List Loc) (ls : Array Slot), f_X6_skip N S z a0 = some (r, S9, z9) → Wd D C (va_A (wP C S0) z0) s.heap S z H locs s → lv_has ls 1 [(0, .ref a0)] → W p l e rm_X6_skip s m ([.ref a0] : List Value).toArray below meth c H locs 0 0 (MQ below (QiW D C S0 z0 r S9 z9) ([.ref a0] : List Value).toArray s 3 28 (va_A (wP C S0) z0)) (F0 m 0 ls []) := by
    intro S z H locs ls hg hw hl
    unfold f_X6_skip at hg
    refine lv_aload_n hx hb dX6_skip_0 rfl (lv_at hl 0 rfl) ?_
    obtain ⟨hok10, hg⟩ := gd_some hg
    obtain ⟨r11, hr11, hg⟩ := nn_some hg
    refine wr_get (K := RX6) (T := TX6) (N := 7) (index := 12) (ref := "MakerLines") (v := .ref r11) hx hb hts hi_X6_skip_X6 hown hw hok10 (wF_6 (S := S) hok10.2) rfl 0 (by decide) (hts _ (List.mem_of_getElem? (i := 3) rfl)) (fun _ h9 => h9) (congrArg (fun o => some (va_rf o)) hr11) dX6_skip_1 ?_
    obtain ⟨hok12, hg⟩ := gd_some hg
    obtain ⟨r13, S13, hc13, hg⟩ := cl_some hg
    refine wr_ci (va_runV (As := []) (rest := []) ⟨hx, hb, hml, hown, hts⟩ (c_X4_winner l D C N S z r11 r13 S13 hc13) (cwV 0 hts gX6_skip_X4_winner rfl rfl rfl (by decide +kernel) ⟨Nat.le_of_ble_eq_true rfl, Nat.le_of_ble_eq_true rfl⟩) (wd_preV hw hok12 (wF_4 (S := S) hok12.2) rfl) rfl rfl hl.1 rfl (lv_room (Nat.le_of_ble_eq_true rfl)) dX6_skip_4 ⟨Nat.le_of_ble_eq_true rfl, Nat.le_of_ble_eq_true rfl⟩) hw (fun H locs hw => ?_)
    refine lv_if_eq (tgt := 20) hx hb dX6_skip_7 (by decide) (fun c14 => ?_) (fun c14 => ?_)
    · have hg := it_pos hg c14
      refine lv_aload_n hx hb dX6_skip_20 rfl (lv_at hl 0 rfl) ?_
      obtain ⟨hok15, hg⟩ := gd_some hg
      obtain ⟨r16, hr16, hg⟩ := nn_some hg
      refine wr_get (K := RX6) (T := TX6) (N := 7) (index := 22) (ref := "MakerLines") (v := .ref r16) hx hb hts hi_X6_skip_X6 hown hw hok15 (wF_6 (S := S13) hok15.2) rfl 2 (by decide) (hts _ (List.mem_of_getElem? (i := 4) rfl)) (fun _ h9 => h9) (congrArg (fun o => some (va_rf o)) hr16) dX6_skip_21 ?_
      refine lv_aload_n hx hb dX6_skip_24 rfl (lv_at hl 0 rfl) ?_
      obtain ⟨r17, hr17, hg⟩ := nn_some hg
      refine wr_get (K := RX6) (T := TX6) (N := 7) (index := 12) (ref := "MakerLines") (v := .ref r17) hx hb hts hi_X6_skip_X6 hown hw hok15 (wF_6 (S := S13) hok15.2) rfl 0 (by decide) (hts _ (List.mem_of_getElem? (i := 3) rfl)) (fun _ h9 => h9) (congrArg (fun o => some (va_rf o)) hr17) dX6_skip_25 ?_
      obtain ⟨hok18, hg⟩ := gd_some hg
      obtain ⟨⟨⟩, S19, z19, hc19, hg⟩ := cz_some hg
      refine wr_cv (va_runV (As := [.ref r17]) (rest := []) ⟨hx, hb, hml, hown, hts⟩ (c_X0_save l D C N S13 z r16 r17 () S19 z19 hc19) (cwV 1 hts gX6_skip_X0_save rfl rfl rfl (by decide +kernel) ⟨Nat.le_of_ble_eq_true rfl, Nat.le_of_ble_eq_true rfl⟩) (wd_preV hw hok18 (wF_0 (S := S13) hok18.2) rfl) rfl rfl hl.1 rfl (lv_room (Nat.le_of_ble_eq_true rfl)) dX6_skip_28 ⟨Nat.le_of_ble_eq_true rfl, Nat.le_of_ble_eq_true rfl⟩) hw (fun H locs hw => ?_)
      refine lv_aload_n hx hb dX6_skip_31 rfl (lv_at hl 0 rfl) ?_
      obtain ⟨hok20, hg⟩ := gd_some hg
      obtain ⟨r21, hr21, hg⟩ := nn_some hg
      refine wr_get (K := RX6) (T := TX6) (N := 7) (index := 12) (ref := "MakerLines") (v := .ref r21) hx hb hts hi_X6_skip_X6 hown hw hok20 (wF_6 (S := S19) hok20.2) rfl 0 (by decide) (hts _ (List.mem_of_getElem? (i := 3) rfl)) (fun _ h9 => h9) (congrArg (fun o => some (va_rf o)) hr21) dX6_skip_32 ?_
      refine lv_aload_n hx hb dX6_skip_35 rfl (lv_at hl 0 rfl) ?_
      refine wr_get (K := RX6) (T := TX6) (N := 7) (index := 12) (ref := "MakerLines") (v := .ref r21) hx hb hts hi_X6_skip_X6 hown hw hok20 (wF_6 (S := S19) hok20.2) rfl 0 (by decide) (hts _ (List.mem_of_getElem? (i := 3) rfl)) (fun _ h9 => h9) (congrArg (fun o => some (va_rf o)) hr21) dX6_skip_36 ?_
      obtain ⟨hok22, hg⟩ := gd_some hg
      refine wr_get (K := RX4) (T := TX4) (N := 10) (index := 143) (ref := "MakerLines$State") (v := .int (hI S19 r21 4)) hx hb hts hi_X6_skip_X4 hown hw hok22 (wF_4 (S := S19) hok22.2) rfl 4 (by decide) (hts _ (List.mem_of_getElem? (i := 5) rfl)) (fun _ h9 => h9) rfl dX6_skip_39 ?_
      refine lv_if_ne (tgt := 49) hx hb dX6_skip_42 (by decide) (fun c23 => ?_) (fun c23 => ?_)
      · have hg := it_neg hg c23
        refine lv_iconst (v := (0 : Int32)) hx hb dX6_skip_49 (by decide) ?_
        exact B50 _ _ _ _ _ _ _ hg hw (lv_sub hl [0] rfl)
      · have hg := it_pos hg c23
        refine lv_iconst (v := (1 : Int32)) hx hb dX6_skip_45 (by decide) ?_
        refine lv_goto (tgt := 50) hx hb dX6_skip_46 (by decide) ?_
        exact B50 _ _ _ _ _ _ _ hg hw (lv_sub hl [0] rfl)
    · have hg := it_neg hg c14
      exact absurd hg (by simp)
  exact B0 S0 z0 _ _ _ hg hw hl
abbrev rm_X6_isRule : Room := { frames := 0, cells := 0, slots := 0, locals := 0 }
set_option maxHeartbeats 4000000 in
set_option maxRecDepth 100000 in
theorem c_X6_isRule (l : Launch) (D : va_G) (C : C3) (N : Nat) (S0 : Hp) (z : Nat) (x0 : Int32) (r : Int32) (S9 : Hp) (hg : f_X6_isRule N S0 x0 = some (r, S9)) : MetI l yX6_isRule wsX6_isRule rm_X6_isRule D C S0 z [.int x0] r S9 z 0 0 := by
  refine mw_ofW (cc := cX6_isRule) (maxL := 1) (ret := (some .boolean)) (lv := [(0, .int x0)]) (by decide) rfl (Nat.le_of_ble_eq_true rfl) rfl ?_
  intro p e s m below meth c ls hx hb hr hts hown hlk hml hnm hl hw
  have hown : s.vm.findClass RX6 = some m.cls := hown
  have B0 : ∀ (S : Hp) (H : Heap) (locs : List Loc) (ls : Array Slot), f_X6_isRule N S x0 = some (r, S9) → Wd D C (va_A (wP C S0) z) s.heap S z H locs s → lv_has ls 1 [(0, .int x0)] → W p l e rm_X6_isRule s m ([.int x0] : List Value).toArray below meth c H locs 0 0 (MQ below (QiW D C S0 z r S9 z) ([.int x0] : List Value).toArray s 0 0 (va_A (wP C S0) z)) (F0 m 0 ls []) := by
    intro S H locs ls hg hw hl
    unfold f_X6_isRule at hg
    refine lv_iload_n hx hb dX6_isRule_0 rfl (lv_at hl 0 rfl) ?_
    refine lv_if_lt (tgt := 13) hx hb dX6_isRule_1 (by decide) (fun c10 => ?_) (fun c10 => ?_)
    · have hg := it_pos hg c10
      refine lv_iconst (v := (0 : Int32)) hx hb dX6_isRule_13 (by decide) ?_
      cases hg
      exact wr_zret hx hb hr (by decide) hw dX6_isRule_14 hlk
    · have hg := it_neg hg c10
      refine lv_iload_n hx hb dX6_isRule_4 rfl (lv_at hl 0 rfl) ?_
      refine lv_iconst (v := (3 : Int32)) hx hb dX6_isRule_5 (by decide) ?_
      refine lv_icmp_gt (tgt := 13) hx hb dX6_isRule_6 (by decide) (fun c11 => ?_) (fun c11 => ?_)
      · have hg := it_pos hg c11
        refine lv_iconst (v := (0 : Int32)) hx hb dX6_isRule_13 (by decide) ?_
        cases hg
        exact wr_zret hx hb hr (by decide) hw dX6_isRule_14 hlk
      · have hg := it_neg hg c11
        refine lv_iconst (v := (1 : Int32)) hx hb dX6_isRule_9 (by decide) ?_
        refine lv_goto (tgt := 14) hx hb dX6_isRule_10 (by decide) ?_
        cases hg
        exact wr_zret hx hb hr (by decide) hw dX6_isRule_14 hlk
  exact B0 S0 _ _ _ hg hw hl
theorem hi_X6_cellBy_X4 : ∀ w ∈ wsX40, w ∈ wsX6_cellBy := fun _ h => List.mem_cons_of_mem _ (List.mem_append_left _ (List.mem_append_left _ (List.mem_append_right _ (h))))
theorem hi_X6_cellBy_X6 : ∀ w ∈ wsX60, w ∈ wsX6_cellBy := fun _ h => List.mem_cons_of_mem _ (List.mem_append_left _ (List.mem_append_left _ (List.mem_append_left _ (List.mem_append_right _ (h)))))
abbrev rm_X6_cellBy : Room := { frames := 30, cells := 0, slots := 0, locals := 1452 }
set_option maxHeartbeats 4000000 in
set_option maxRecDepth 100000 in
theorem c_X6_cellBy (l : Launch) (D : va_G) (C : C3) (N : Nat) (S0 : Hp) (z : Nat) (a0 : Nat) (x1 : Int32) (a2 : Nat) (r : Int32) (S9 : Hp) (hg : f_X6_cellBy N S0 a0 x1 a2 = some (r, S9)) : MetI l yX6_cellBy wsX6_cellBy rm_X6_cellBy D C S0 z [.ref a0, .int x1, .ref a2] r S9 z 0 0 := by
  refine mw_ofW (cc := cX6_cellBy) (maxL := 4) (ret := (some .int)) (lv := [(0, .ref a0), (1, .int x1), (2, .ref a2)]) (by decide) rfl (Nat.le_of_ble_eq_true rfl) rfl ?_
  intro p e s m below meth c ls hx hb hr hts hown hlk hml hnm hl hw
  have hown : s.vm.findClass RX6 = some m.cls := hown
  have B44 : ∀ (S : Hp) (H : Heap) (locs : List Loc) (ls : Array Slot), f_X6_cellBy_b44 N a0 x1 a2 S = some (r, S9) → Wd D C (va_A (wP C S0) z) s.heap S z H locs s → lv_has ls 4 [(2, .ref a2)] → W p l e rm_X6_cellBy s m ([.ref a0, .int x1, .ref a2] : List Value).toArray below meth c H locs 0 0 (MQ below (QiW D C S0 z r S9 z) ([.ref a0, .int x1, .ref a2] : List Value).toArray s 0 0 (va_A (wP C S0) z)) (F0 m 44 ls []) := by
    intro S H locs ls hg hw hl
    unfold f_X6_cellBy_b44 at hg
    refine lv_aload_n hx hb dX6_cellBy_44 rfl (lv_at hl 0 rfl) ?_
    obtain ⟨hok22, hg⟩ := gd_some hg
    obtain ⟨r23, S23, hc23, hg⟩ := cl_some hg
    refine wr_ci (va_runV (As := []) (rest := []) ⟨hx, hb, hml, hown, hts⟩ (c_X4_forcedReply l D C N S z a2 r23 S23 hc23) (cwV 0 hts gX6_cellBy_X4_forcedReply rfl rfl rfl (by decide +kernel) ⟨Nat.le_of_ble_eq_true rfl, Nat.le_of_ble_eq_true rfl⟩) (wd_preV hw hok22 (wF_4 (S := S) hok22.2) rfl) rfl rfl hl.1 rfl (lv_room (Nat.le_of_ble_eq_true rfl)) dX6_cellBy_45 ⟨Nat.zero_le _, Nat.zero_le _⟩) hw (fun H locs hw => ?_)
    refine lv_istore_n (lv' := [(3, .int r23), (2, .ref a2)]) hx hb dX6_cellBy_48 rfl hl (by decide) rfl (fun ls hl => ?_)
    refine lv_iload_n hx hb dX6_cellBy_49 rfl (lv_at hl 0 rfl) ?_
    refine lv_iconst (v := (-1 : Int32)) hx hb dX6_cellBy_50 (by decide) ?_
    refine lv_icmp_ne (tgt := 61) hx hb dX6_cellBy_51 (by decide) (fun c24 => ?_) (fun c24 => ?_)
    · have hg := it_neg hg c24
      refine lv_iload_n hx hb dX6_cellBy_61 rfl (lv_at hl 0 rfl) ?_
      cases hg
      exact wr_iret hx hb hr hw dX6_cellBy_62 hlk
    · have hg := it_pos hg c24
      refine lv_aload_n hx hb dX6_cellBy_54 rfl (lv_at hl 1 rfl) ?_
      obtain ⟨hok25, hg⟩ := gd_some hg
      obtain ⟨r26, S26, hc26, hg⟩ := cl_some hg
      refine wr_ci (va_runV (As := []) (rest := []) ⟨hx, hb, hml, hown, hts⟩ (c_X4_mostDangerous l D C N S23 z a2 r26 S26 hc26) (cwV 0 hts gX6_cellBy_X4_mostDangerous rfl rfl rfl (by decide +kernel) ⟨Nat.le_of_ble_eq_true rfl, Nat.le_of_ble_eq_true rfl⟩) (wd_preV hw hok25 (wF_4 (S := S23) hok25.2) rfl) rfl rfl hl.1 rfl (lv_room (Nat.le_of_ble_eq_true rfl)) dX6_cellBy_55 ⟨Nat.zero_le _, Nat.zero_le _⟩) hw (fun H locs hw => ?_)
      refine lv_goto (tgt := 62) hx hb dX6_cellBy_58 (by decide) ?_
      cases hg
      exact wr_iret hx hb hr hw dX6_cellBy_62 hlk
  have B0 : ∀ (S : Hp) (H : Heap) (locs : List Loc) (ls : Array Slot), f_X6_cellBy N S a0 x1 a2 = some (r, S9) → Wd D C (va_A (wP C S0) z) s.heap S z H locs s → lv_has ls 4 [(0, .ref a0), (1, .int x1), (2, .ref a2)] → W p l e rm_X6_cellBy s m ([.ref a0, .int x1, .ref a2] : List Value).toArray below meth c H locs 0 0 (MQ below (QiW D C S0 z r S9 z) ([.ref a0, .int x1, .ref a2] : List Value).toArray s 0 0 (va_A (wP C S0) z)) (F0 m 0 ls []) := by
    intro S H locs ls hg hw hl
    unfold f_X6_cellBy at hg
    refine lv_iload_n hx hb dX6_cellBy_0 rfl (lv_at hl 1 rfl) ?_
    refine lv_if_ne (tgt := 12) hx hb dX6_cellBy_1 (by decide) (fun c10 => ?_) (fun c10 => ?_)
    · have hg := it_neg hg c10
      refine lv_iload_n hx hb dX6_cellBy_12 rfl (lv_at hl 1 rfl) ?_
      refine lv_iconst (v := (3 : Int32)) hx hb dX6_cellBy_13 (by decide) ?_
      refine lv_icmp_ne (tgt := 26) hx hb dX6_cellBy_14 (by decide) (fun c11 => ?_) (fun c11 => ?_)
      · have hg := it_neg hg c11
        refine lv_iload_n hx hb dX6_cellBy_26 rfl (lv_at hl 1 rfl) ?_
        refine lv_iconst (v := (2 : Int32)) hx hb dX6_cellBy_27 (by decide) ?_
        refine lv_icmp_ne (tgt := 44) hx hb dX6_cellBy_28 (by decide) (fun c12 => ?_) (fun c12 => ?_)
        · have hg := it_neg hg c12
          exact B44 _ _ _ _ hg hw (lv_sub hl [2] rfl)
        · have hg := it_pos hg c12
          refine lv_aload_n hx hb dX6_cellBy_31 rfl (lv_at hl 2 rfl) ?_
          obtain ⟨hok13, hg⟩ := gd_some hg
          refine wr_get (K := RX4) (T := TX4) (N := 10) (index := 315) (ref := "MakerLines$State") (v := .int (hI S a2 6)) hx hb hts hi_X6_cellBy_X4 hown hw hok13 (wF_4 (S := S) hok13.2) rfl 6 (by decide) (hts _ (List.mem_of_getElem? (i := 2) rfl)) (fun _ h9 => h9) rfl dX6_cellBy_32 ?_
          refine lv_iconst (v := (-1 : Int32)) hx hb dX6_cellBy_35 (by decide) ?_
          refine lv_icmp_eq (tgt := 44) hx hb dX6_cellBy_36 (by decide) (fun c14 => ?_) (fun c14 => ?_)
          · have hg := it_pos hg c14
            exact B44 _ _ _ _ hg hw (lv_sub hl [2] rfl)
          · have hg := it_neg hg c14
            refine lv_aload_n hx hb dX6_cellBy_39 rfl (lv_at hl 2 rfl) ?_
            refine wr_get (K := RX4) (T := TX4) (N := 10) (index := 315) (ref := "MakerLines$State") (v := .int (hI S a2 6)) hx hb hts hi_X6_cellBy_X4 hown hw hok13 (wF_4 (S := S) hok13.2) rfl 6 (by decide) (hts _ (List.mem_of_getElem? (i := 2) rfl)) (fun _ h9 => h9) rfl dX6_cellBy_40 ?_
            cases hg
            exact wr_iret hx hb hr hw dX6_cellBy_43 hlk
      · have hg := it_pos hg c11
        refine lv_aload_n hx hb dX6_cellBy_17 rfl (lv_at hl 0 rfl) ?_
        obtain ⟨hok15, hg⟩ := gd_some hg
        obtain ⟨r16, hr16, hg⟩ := nn_some hg
        refine wr_get (K := RX6) (T := TX6) (N := 7) (index := 47) (ref := "MakerLines") (v := .ref r16) hx hb hts hi_X6_cellBy_X6 hown hw hok15 (wF_6 (S := S) hok15.2) rfl 6 (by decide) (hts _ (List.mem_of_getElem? (i := 1) rfl)) (fun _ h9 => h9) (congrArg (fun o => some (va_rf o)) hr16) dX6_cellBy_18 ?_
        refine lv_aload_n hx hb dX6_cellBy_21 rfl (lv_at hl 2 rfl) ?_
        obtain ⟨hok17, hg⟩ := gd_some hg
        obtain ⟨r18, S18, hc18, hg⟩ := cl_some hg
        refine wr_ci (va_runV (As := [.ref a2]) (rest := []) ⟨hx, hb, hml, hown, hts⟩ (c_X3_bestMove l D C N S z r16 a2 r18 S18 hc18) (cwV 1 hts gX6_cellBy_X3_bestMove rfl rfl rfl (by decide +kernel) ⟨Nat.le_of_ble_eq_true rfl, Nat.le_of_ble_eq_true rfl⟩) (wd_preV hw hok17 (wF_3 (S := S) hok17.2) rfl) rfl rfl hl.1 rfl (lv_room (Nat.le_of_ble_eq_true rfl)) dX6_cellBy_22 ⟨Nat.zero_le _, Nat.zero_le _⟩) hw (fun H locs hw => ?_)
        cases hg
        exact wr_iret hx hb hr hw dX6_cellBy_25 hlk
    · have hg := it_pos hg c10
      refine lv_aload_n hx hb dX6_cellBy_4 rfl (lv_at hl 2 rfl) ?_
      obtain ⟨hok19, hg⟩ := gd_some hg
      obtain ⟨r20, S20, hc20, hg⟩ := cl_some hg
      refine wr_ci (va_runV (As := []) (rest := []) ⟨hx, hb, hml, hown, hts⟩ (c_X4_freeCells l D C N S z a2 r20 S20 hc20) (cwV 0 hts gX6_cellBy_X4_freeCells rfl rfl rfl (by decide +kernel) ⟨Nat.le_of_ble_eq_true rfl, Nat.le_of_ble_eq_true rfl⟩) (wd_preV hw hok19 (wF_4 (S := S) hok19.2) rfl) rfl rfl hl.1 rfl (lv_room (Nat.le_of_ble_eq_true rfl)) dX6_cellBy_5 ⟨Nat.zero_le _, Nat.zero_le _⟩) hw (fun H locs hw => ?_)
      obtain ⟨r21, S21, hc21, hg⟩ := cl_some hg
      refine wr_ci (va_runS (As := [.int r20]) (rest := []) ⟨hx, hb, hml, hown, hts⟩ (c_X6_lowestOf l D C N S20 z r20 r21 S21 hc21) (va_cwS 1 hts gX6_cellBy_X6_lowestOf rfl rfl rfl (by decide +kernel) ⟨Nat.le_of_ble_eq_true rfl, Nat.le_of_ble_eq_true rfl⟩) (wd_preS hw) rfl rfl hl.1 rfl (lv_room (Nat.le_of_ble_eq_true rfl)) dX6_cellBy_8 ⟨Nat.zero_le _, Nat.zero_le _⟩) hw (fun H locs hw => ?_)
      cases hg
      exact wr_iret hx hb hr hw dX6_cellBy_11 hlk
  exact B0 S0 _ _ _ hg hw hl
theorem hi_X6_goOn_X4 : ∀ w ∈ wsX40, w ∈ wsX6_goOn := fun _ h => List.mem_cons_of_mem _ (List.mem_append_left _ (List.mem_append_left _ (List.mem_append_left _ (List.mem_append_left _ (List.mem_append_right _ (h))))))
theorem hi_X6_goOn_X6 : ∀ w ∈ wsX60, w ∈ wsX6_goOn := fun _ h => List.mem_cons_of_mem _ (List.mem_append_left _ (List.mem_append_left _ (List.mem_append_left _ (List.mem_append_right _ (h)))))
abbrev rm_X6_goOn : Room := { frames := 32, cells := 0, slots := 0, locals := 1544 }
set_option maxHeartbeats 4000000 in
set_option maxRecDepth 100000 in
theorem c_X6_goOn (l : Launch) (D : va_G) (C : C3) (N : Nat) (S0 : Hp) (z : Nat) (a0 : Nat) (a1 : Nat) (x2 : Int32) (x3 : Int32) (x4 : Int32) (r : Int32) (S9 : Hp) (hg : f_X6_goOn N S0 a0 a1 x2 x3 x4 = some (r, S9)) : MetI l yX6_goOn wsX6_goOn rm_X6_goOn D C S0 z [.ref a0, .ref a1, .int x2, .int x3, .int x4] r S9 z 0 0 := by
  refine mw_ofW (cc := cX6_goOn) (maxL := 7) (ret := (some .int)) (lv := [(0, .ref a0), (1, .ref a1), (2, .int x2), (3, .int x3), (4, .int x4)]) (by decide) rfl (Nat.le_of_ble_eq_true rfl) rfl ?_
  intro p e s m below meth c ls hx hb hr hts hown hlk hml hnm hl hw
  have hown : s.vm.findClass RX6 = some m.cls := hown
  have B30 : ∀ (K3 : Hp → Int32 → Option (Int32 × Hp)) (hK3 : ∀ (S : Hp) (v5 : Int32) (H : Heap) (locs : List Loc) (ls : Array Slot), K3 S v5 = some (r, S9) → Wd D C (va_A (wP C S0) z) s.heap S z H locs s → lv_has ls 7 [(0, .ref a0), (1, .ref a1), (2, .int x2), (3, .int x3), (4, .int x4), (5, .int v5)] → W p l e rm_X6_goOn s m ([.ref a0, .ref a1, .int x2, .int x3, .int x4] : List Value).toArray below meth c H locs 0 0 (MQ below (QiW D C S0 z r S9 z) ([.ref a0, .ref a1, .int x2, .int x3, .int x4] : List Value).toArray s 0 0 (va_A (wP C S0) z)) (F0 m 3 ls [])) (S : Hp) (v5 : Int32) (s0 : Int32) (s1 : Nat) (H : Heap) (locs : List Loc) (ls : Array Slot), f_X6_goOn_b30 N a0 a1 x2 x3 x4 K3 S v5 s0 s1 = some (r, S9) → Wd D C (va_A (wP C S0) z) s.heap S z H locs s → lv_has ls 7 [(0, .ref a0), (1, .ref a1), (2, .int x2), (3, .int x3), (4, .int x4), (5, .int v5)] → W p l e rm_X6_goOn s m ([.ref a0, .ref a1, .int x2, .int x3, .int x4] : List Value).toArray below meth c H locs 0 0 (MQ below (QiW D C S0 z r S9 z) ([.ref a0, .ref a1, .int x2, .int x3, .int x4] : List Value).toArray s 0 0 (va_A (wP C S0) z)) (F0 m 30 ls [.int s0, .ref s1]) := by
    intro K3 hK3 S v5 s0 s1 H locs ls hg hw hl
    unfold f_X6_goOn_b30 at hg
    refine lv_aload_n hx hb dX6_goOn_30 rfl (lv_at hl 1 rfl) ?_
    obtain ⟨hok16, hg⟩ := gd_some hg
    obtain ⟨r17, S17, hc17, hg⟩ := cl_some hg
    refine wr_ci (va_runV (As := [.int s0, .ref a1]) (rest := []) ⟨hx, hb, hml, hown, hts⟩ (c_X6_cellBy l D C N S z s1 s0 a1 r17 S17 hc17) (cwV 2 hts gX6_goOn_X6_cellBy rfl rfl rfl (by decide +kernel) ⟨Nat.le_of_ble_eq_true rfl, Nat.le_of_ble_eq_true rfl⟩) (wd_preV hw hok16 (wF_6 (S := S) hok16.2) rfl) rfl rfl hl.1 rfl (lv_room (Nat.le_of_ble_eq_true rfl)) dX6_goOn_31 ⟨Nat.zero_le _, Nat.zero_le _⟩) hw (fun H locs hw => ?_)
    refine lv_istore (lv' := [(6, .int r17), (0, .ref a0), (1, .ref a1), (2, .int x2), (3, .int x3), (4, .int x4), (5, .int v5)]) hx hb dX6_goOn_34 hl (by decide) rfl (fun ls hl => ?_)
    refine lv_aload_n hx hb dX6_goOn_36 rfl (lv_at hl 1 rfl) ?_
    obtain ⟨hok18, hg⟩ := gd_some hg
    obtain ⟨r19, hr19, hg⟩ := nn_some hg
    refine wr_get (K := RX6) (T := TX6) (N := 7) (index := 40) (ref := "MakerLines") (v := .ref r19) hx hb hts hi_X6_goOn_X6 hown hw hok18 (wF_6 (S := S17) hok18.2) rfl 5 (by decide) (hts _ (List.mem_of_getElem? (i := 2) rfl)) (fun _ h9 => h9) (congrArg (fun o => some (va_rf o)) hr19) dX6_goOn_37 ?_
    refine lv_aload_n hx hb dX6_goOn_40 rfl (lv_at hl 2 rfl) ?_
    obtain ⟨hok20, hg⟩ := gd_some hg
    obtain ⟨⟨⟩, S21, hc21, hg⟩ := cl_some hg
    refine wr_cv (va_runV (As := [.ref a1]) (rest := []) ⟨hx, hb, hml, hown, hts⟩ (c_X2_lookAt l D C N S17 z r19 a1 () S21 hc21) (cwV 1 hts gX6_goOn_X2_lookAt rfl rfl rfl (by decide +kernel) ⟨Nat.le_of_ble_eq_true rfl, Nat.le_of_ble_eq_true rfl⟩) (wd_preV hw hok20 (wF_2 (S := S17) hok20.2) rfl) rfl rfl hl.1 rfl (lv_room (Nat.le_of_ble_eq_true rfl)) dX6_goOn_41 ⟨Nat.zero_le _, Nat.zero_le _⟩) hw (fun H locs hw => ?_)
    refine lv_aload_n hx hb dX6_goOn_44 rfl (lv_at hl 2 rfl) ?_
    refine lv_iload hx hb dX6_goOn_45 (lv_at hl 0 rfl) ?_
    refine lv_aload_n hx hb dX6_goOn_47 rfl (lv_at hl 1 rfl) ?_
    obtain ⟨hok22, hg⟩ := gd_some hg
    obtain ⟨r23, hr23, hg⟩ := nn_some hg
    refine wr_get (K := RX6) (T := TX6) (N := 7) (index := 40) (ref := "MakerLines") (v := .ref r23) hx hb hts hi_X6_goOn_X6 hown hw hok22 (wF_6 (S := S21) hok22.2) rfl 5 (by decide) (hts _ (List.mem_of_getElem? (i := 2) rfl)) (fun _ h9 => h9) (congrArg (fun o => some (va_rf o)) hr23) dX6_goOn_48 ?_
    refine lv_iload hx hb dX6_goOn_51 (lv_at hl 0 rfl) ?_
    obtain ⟨hok24, hg⟩ := gd_some hg
    obtain ⟨r25, S25, hc25, hg⟩ := cl_some hg
    refine wr_ci (va_runV (As := [.int r17]) (rest := [.int r17, .ref a1]) ⟨hx, hb, hml, hown, hts⟩ (c_X2_otherOf l D C N S21 z r23 r17 r25 S25 hc25) (cwV 1 hts gX6_goOn_X2_otherOf rfl rfl rfl (by decide +kernel) ⟨Nat.le_of_ble_eq_true rfl, Nat.le_of_ble_eq_true rfl⟩) (wd_preV hw hok24 (wF_2 (S := S21) hok24.2) rfl) rfl rfl hl.1 rfl (lv_room (Nat.le_of_ble_eq_true rfl)) dX6_goOn_53 ⟨Nat.zero_le _, Nat.zero_le _⟩) hw (fun H locs hw => ?_)
    obtain ⟨hok26, hg⟩ := gd_some hg
    obtain ⟨⟨⟩, S27, hc27, hg⟩ := cl_some hg
    refine wr_cv (va_runV (As := [.int r17, .int r25]) (rest := []) ⟨hx, hb, hml, hown, hts⟩ (c_X4_occupy l D C N S25 z a1 r17 r25 () S27 hc27) (cwV 2 hts gX6_goOn_X4_occupy rfl rfl rfl (by decide +kernel) ⟨Nat.le_of_ble_eq_true rfl, Nat.le_of_ble_eq_true rfl⟩) (wd_preV hw hok26 (wF_4 (S := S25) hok26.2) rfl) rfl rfl hl.1 rfl (lv_room (Nat.le_of_ble_eq_true rfl)) dX6_goOn_56 ⟨Nat.zero_le _, Nat.zero_le _⟩) hw (fun H locs hw => ?_)
    refine lv_iinc (v := (v5 + (1 : Int32))) (lv' := [(5, .int (v5 + (1 : Int32))), (6, .int r17), (0, .ref a0), (1, .ref a1), (2, .int x2), (3, .int x3), (4, .int x4)]) hx hb dX6_goOn_59 hl (k := 6) rfl rfl (by decide) rfl (fun ls hl => ?_)
    refine lv_goto (tgt := 3) hx hb dX6_goOn_62 (by decide) ?_
    exact hK3 _ _ _ _ _ hg hw (lv_sub hl [2, 3, 4, 5, 6, 0] rfl)
  have B3 : ∀ (K3 : Hp → Int32 → Option (Int32 × Hp)) (hK3 : ∀ (S : Hp) (v5 : Int32) (H : Heap) (locs : List Loc) (ls : Array Slot), K3 S v5 = some (r, S9) → Wd D C (va_A (wP C S0) z) s.heap S z H locs s → lv_has ls 7 [(0, .ref a0), (1, .ref a1), (2, .int x2), (3, .int x3), (4, .int x4), (5, .int v5)] → W p l e rm_X6_goOn s m ([.ref a0, .ref a1, .int x2, .int x3, .int x4] : List Value).toArray below meth c H locs 0 0 (MQ below (QiW D C S0 z r S9 z) ([.ref a0, .ref a1, .int x2, .int x3, .int x4] : List Value).toArray s 0 0 (va_A (wP C S0) z)) (F0 m 3 ls [])) (S : Hp) (v5 : Int32) (H : Heap) (locs : List Loc) (ls : Array Slot), f_X6_goOn_b3 N a0 a1 x2 x3 x4 K3 S v5 = some (r, S9) → Wd D C (va_A (wP C S0) z) s.heap S z H locs s → lv_has ls 7 [(0, .ref a0), (1, .ref a1), (2, .int x2), (3, .int x3), (4, .int x4), (5, .int v5)] → W p l e rm_X6_goOn s m ([.ref a0, .ref a1, .int x2, .int x3, .int x4] : List Value).toArray below meth c H locs 0 0 (MQ below (QiW D C S0 z r S9 z) ([.ref a0, .ref a1, .int x2, .int x3, .int x4] : List Value).toArray s 0 0 (va_A (wP C S0) z)) (F0 m 3 ls []) := by
    intro K3 hK3 S v5 H locs ls hg hw hl
    unfold f_X6_goOn_b3 at hg
    refine lv_iload hx hb dX6_goOn_3 (lv_at hl 5 rfl) ?_
    refine lv_iload hx hb dX6_goOn_5 (lv_at hl 4 rfl) ?_
    refine lv_icmp_ge (tgt := 65) hx hb dX6_goOn_7 (by decide) (fun c10 => ?_) (fun c10 => ?_)
    · have hg := it_pos hg c10
      refine lv_iload hx hb dX6_goOn_65 (lv_at hl 5 rfl) ?_
      cases hg
      exact wr_iret hx hb hr hw dX6_goOn_67 hlk
    · have hg := it_neg hg c10
      refine lv_aload_n hx hb dX6_goOn_10 rfl (lv_at hl 1 rfl) ?_
      obtain ⟨hok11, hg⟩ := gd_some hg
      obtain ⟨r12, S12, hc12, hg⟩ := cl_some hg
      refine wr_ci (va_runV (As := []) (rest := []) ⟨hx, hb, hml, hown, hts⟩ (c_X4_winner l D C N S z a1 r12 S12 hc12) (cwV 0 hts gX6_goOn_X4_winner rfl rfl rfl (by decide +kernel) ⟨Nat.le_of_ble_eq_true rfl, Nat.le_of_ble_eq_true rfl⟩) (wd_preV hw hok11 (wF_4 (S := S) hok11.2) rfl) rfl rfl hl.1 rfl (lv_room (Nat.le_of_ble_eq_true rfl)) dX6_goOn_11 ⟨Nat.zero_le _, Nat.zero_le _⟩) hw (fun H locs hw => ?_)
      refine lv_if_ne (tgt := 65) hx hb dX6_goOn_14 (by decide) (fun c13 => ?_) (fun c13 => ?_)
      · have hg := it_neg hg c13
        refine lv_iload hx hb dX6_goOn_65 (lv_at hl 5 rfl) ?_
        cases hg
        exact wr_iret hx hb hr hw dX6_goOn_67 hlk
      · have hg := it_pos hg c13
        refine lv_aload_n hx hb dX6_goOn_17 rfl (lv_at hl 0 rfl) ?_
        refine lv_aload_n hx hb dX6_goOn_18 rfl (lv_at hl 1 rfl) ?_
        obtain ⟨hok14, hg⟩ := gd_some hg
        refine wr_get (K := RX4) (T := TX4) (N := 10) (index := 143) (ref := "MakerLines$State") (v := .int (hI S12 a1 4)) hx hb hts hi_X6_goOn_X4 hown hw hok14 (wF_4 (S := S12) hok14.2) rfl 4 (by decide) (hts _ (List.mem_of_getElem? (i := 1) rfl)) (fun _ h9 => h9) rfl dX6_goOn_19 ?_
        refine lv_if_eq (tgt := 29) hx hb dX6_goOn_22 (by decide) (fun c15 => ?_) (fun c15 => ?_)
        · have hg := it_pos hg c15
          refine lv_iload_n hx hb dX6_goOn_29 rfl (lv_at hl 3 rfl) ?_
          exact B30 K3 hK3 _ _ _ _ _ _ _ hg hw (lv_sub hl [0, 1, 2, 3, 4, 5] rfl)
        · have hg := it_neg hg c15
          refine lv_iload_n hx hb dX6_goOn_25 rfl (lv_at hl 2 rfl) ?_
          refine lv_goto (tgt := 30) hx hb dX6_goOn_26 (by decide) ?_
          exact B30 K3 hK3 _ _ _ _ _ _ _ hg hw (lv_sub hl [0, 1, 2, 3, 4, 5] rfl)
  have L3 : ∀ (k : Nat) (S : Hp) (v5 : Int32) (H : Heap) (locs : List Loc) (ls : Array Slot), f_X6_goOn_l3 N a0 a1 x2 x3 x4 k S v5 = some (r, S9) → Wd D C (va_A (wP C S0) z) s.heap S z H locs s → lv_has ls 7 [(0, .ref a0), (1, .ref a1), (2, .int x2), (3, .int x3), (4, .int x4), (5, .int v5)] → W p l e rm_X6_goOn s m ([.ref a0, .ref a1, .int x2, .int x3, .int x4] : List Value).toArray below meth c H locs 0 0 (MQ below (QiW D C S0 z r S9 z) ([.ref a0, .ref a1, .int x2, .int x3, .int x4] : List Value).toArray s 0 0 (va_A (wP C S0) z)) (F0 m 3 ls []) := by
    intro k
    induction k with
    | zero => intro S v5 H locs ls hg hw hl; exact absurd (show (none : Option (Int32 × Hp)) = some (r, S9) from hg) (by simp)
    | succ k ih => intro S v5 H locs ls hg hw hl; exact B3 (f_X6_goOn_l3 N a0 a1 x2 x3 x4 k) ih S v5 H locs ls hg hw hl
  have B0 : ∀ (S : Hp) (H : Heap) (locs : List Loc) (ls : Array Slot), f_X6_goOn N S a0 a1 x2 x3 x4 = some (r, S9) → Wd D C (va_A (wP C S0) z) s.heap S z H locs s → lv_has ls 7 [(0, .ref a0), (1, .ref a1), (2, .int x2), (3, .int x3), (4, .int x4)] → W p l e rm_X6_goOn s m ([.ref a0, .ref a1, .int x2, .int x3, .int x4] : List Value).toArray below meth c H locs 0 0 (MQ below (QiW D C S0 z r S9 z) ([.ref a0, .ref a1, .int x2, .int x3, .int x4] : List Value).toArray s 0 0 (va_A (wP C S0) z)) (F0 m 0 ls []) := by
    intro S H locs ls hg hw hl
    unfold f_X6_goOn at hg
    refine lv_iconst (v := (0 : Int32)) hx hb dX6_goOn_0 (by decide) ?_
    refine lv_istore (lv' := [(5, .int (0 : Int32)), (0, .ref a0), (1, .ref a1), (2, .int x2), (3, .int x3), (4, .int x4)]) hx hb dX6_goOn_1 hl (by decide) rfl (fun ls hl => ?_)
    exact L3 N _ _ _ _ _ hg hw (lv_sub hl [1, 2, 3, 4, 5, 0] rfl)
  exact B0 S0 _ _ _ hg hw hl
theorem hi_X6_play_X6 : ∀ w ∈ wsX60, w ∈ wsX6_play := fun _ h => List.mem_cons_of_mem _ (List.mem_append_left _ (List.mem_append_left _ (List.mem_append_left _ (List.mem_append_left _ (List.mem_append_left _ (List.mem_append_left _ (List.mem_append_left _ (List.mem_append_right _ (h)))))))))
abbrev rm_X6_play : Room := { frames := 33, cells := 3, slots := 28, locals := 1570 }
set_option maxHeartbeats 4000000 in
set_option maxRecDepth 100000 in
theorem c_X6_play (l : Launch) (D : va_G) (C : C3) (N : Nat) (S0 : Hp) (z0 : Nat) (a0 : Nat) (x1 : Int32) (x2 : Int32) (x3 : Int32) (r : Int32) (S9 : Hp) (z9 : Nat) (hg : f_X6_play N S0 z0 a0 x1 x2 x3 = some (r, S9, z9)) : MetI l yX6_play wsX6_play rm_X6_play D C S0 z0 [.ref a0, .int x1, .int x2, .int x3] r S9 z9 3 28 := by
  refine mw_ofW (cc := cX6_play) (maxL := 4) (ret := (some .int)) (lv := [(0, .ref a0), (1, .int x1), (2, .int x2), (3, .int x3)]) (by decide) rfl (Nat.le_of_ble_eq_true rfl) rfl ?_
  intro p e s m below meth c ls hx hb hr hts hown hlk hml hnm hl hw
  have hown : s.vm.findClass RX6 = some m.cls := hown
  have B25 : ∀ (S : Hp) (z : Nat) (H : Heap) (locs : List Loc) (ls : Array Slot), f_X6_play_b25 N a0 x1 x2 x3 S z = some (r, S9, z9) → Wd D C (va_A (wP C S0) z0) s.heap S z H locs s → lv_has ls 4 [] → W p l e rm_X6_play s m ([.ref a0, .int x1, .int x2, .int x3] : List Value).toArray below meth c H locs 0 0 (MQ below (QiW D C S0 z0 r S9 z9) ([.ref a0, .int x1, .int x2, .int x3] : List Value).toArray s 3 28 (va_A (wP C S0) z0)) (F0 m 25 ls []) := by
    intro S z H locs ls hg hw hl
    unfold f_X6_play_b25 at hg
    exact absurd hg (by simp)
  have B0 : ∀ (S : Hp) (z : Nat) (H : Heap) (locs : List Loc) (ls : Array Slot), f_X6_play N S z a0 x1 x2 x3 = some (r, S9, z9) → Wd D C (va_A (wP C S0) z0) s.heap S z H locs s → lv_has ls 4 [(0, .ref a0), (1, .int x1), (2, .int x2), (3, .int x3)] → W p l e rm_X6_play s m ([.ref a0, .int x1, .int x2, .int x3] : List Value).toArray below meth c H locs 0 0 (MQ below (QiW D C S0 z0 r S9 z9) ([.ref a0, .int x1, .int x2, .int x3] : List Value).toArray s 3 28 (va_A (wP C S0) z0)) (F0 m 0 ls []) := by
    intro S z H locs ls hg hw hl
    unfold f_X6_play at hg
    refine lv_iload_n hx hb dX6_play_0 rfl (lv_at hl 1 rfl) ?_
    obtain ⟨r10, S10, hc10, hg⟩ := cl_some hg
    refine wr_ci (va_runS (As := [.int x1]) (rest := []) ⟨hx, hb, hml, hown, hts⟩ (c_X6_isRule l D C N S z x1 r10 S10 hc10) (va_cwS 1 hts gX6_play_X6_isRule rfl rfl rfl (by decide +kernel) ⟨Nat.le_of_ble_eq_true rfl, Nat.le_of_ble_eq_true rfl⟩) (wd_preS hw) rfl rfl hl.1 rfl (lv_room (Nat.le_of_ble_eq_true rfl)) dX6_play_1 ⟨Nat.le_of_ble_eq_true rfl, Nat.le_of_ble_eq_true rfl⟩) hw (fun H locs hw => ?_)
    refine lv_if_eq (tgt := 25) hx hb dX6_play_4 (by decide) (fun c11 => ?_) (fun c11 => ?_)
    · have hg := it_pos hg c11
      exact B25 _ _ _ _ _ hg hw (lv_sub hl [] rfl)
    · have hg := it_neg hg c11
      refine lv_iload_n hx hb dX6_play_7 rfl (lv_at hl 2 rfl) ?_
      obtain ⟨r12, S12, hc12, hg⟩ := cl_some hg
      refine wr_ci (va_runS (As := [.int x2]) (rest := []) ⟨hx, hb, hml, hown, hts⟩ (c_X6_isRule l D C N S10 z x2 r12 S12 hc12) (va_cwS 1 hts gX6_play_X6_isRule rfl rfl rfl (by decide +kernel) ⟨Nat.le_of_ble_eq_true rfl, Nat.le_of_ble_eq_true rfl⟩) (wd_preS hw) rfl rfl hl.1 rfl (lv_room (Nat.le_of_ble_eq_true rfl)) dX6_play_8 ⟨Nat.le_of_ble_eq_true rfl, Nat.le_of_ble_eq_true rfl⟩) hw (fun H locs hw => ?_)
      refine lv_if_eq (tgt := 25) hx hb dX6_play_11 (by decide) (fun c13 => ?_) (fun c13 => ?_)
      · have hg := it_pos hg c13
        exact B25 _ _ _ _ _ hg hw (lv_sub hl [] rfl)
      · have hg := it_neg hg c13
        refine lv_iload_n hx hb dX6_play_14 rfl (lv_at hl 3 rfl) ?_
        refine lv_iconst (v := (1 : Int32)) hx hb dX6_play_15 (by decide) ?_
        refine lv_icmp_lt (tgt := 25) hx hb dX6_play_16 (by decide) (fun c14 => ?_) (fun c14 => ?_)
        · have hg := it_pos hg c14
          exact B25 _ _ _ _ _ hg hw (lv_sub hl [] rfl)
        · have hg := it_neg hg c14
          refine lv_iload_n hx hb dX6_play_19 rfl (lv_at hl 3 rfl) ?_
          refine lv_bipush (v := (10 : Int32)) hx hb dX6_play_20 (by decide) ?_
          refine lv_icmp_le (tgt := 35) hx hb dX6_play_22 (by decide) (fun c15 => ?_) (fun c15 => ?_)
          · have hg := it_pos hg c15
            refine lv_aload_n hx hb dX6_play_35 rfl (lv_at hl 0 rfl) ?_
            obtain ⟨hok16, hg⟩ := gd_some hg
            obtain ⟨r17, hr17, hg⟩ := nn_some hg
            refine wr_get (K := RX6) (T := TX6) (N := 7) (index := 12) (ref := "MakerLines") (v := .ref r17) hx hb hts hi_X6_play_X6 hown hw hok16 (wF_6 (S := S12) hok16.2) rfl 0 (by decide) (hts _ (List.mem_of_getElem? (i := 5) rfl)) (fun _ h9 => h9) (congrArg (fun o => some (va_rf o)) hr17) dX6_play_36 ?_
            obtain ⟨hok18, hg⟩ := gd_some hg
            obtain ⟨r19, S19, hc19, hg⟩ := cl_some hg
            refine wr_ci (va_runV (As := []) (rest := []) ⟨hx, hb, hml, hown, hts⟩ (c_X4_winner l D C N S12 z r17 r19 S19 hc19) (cwV 0 hts gX6_play_X4_winner rfl rfl rfl (by decide +kernel) ⟨Nat.le_of_ble_eq_true rfl, Nat.le_of_ble_eq_true rfl⟩) (wd_preV hw hok18 (wF_4 (S := S12) hok18.2) rfl) rfl rfl hl.1 rfl (lv_room (Nat.le_of_ble_eq_true rfl)) dX6_play_39 ⟨Nat.le_of_ble_eq_true rfl, Nat.le_of_ble_eq_true rfl⟩) hw (fun H locs hw => ?_)
            refine lv_if_eq (tgt := 55) hx hb dX6_play_42 (by decide) (fun c20 => ?_) (fun c20 => ?_)
            · have hg := it_pos hg c20
              refine lv_aload_n hx hb dX6_play_55 rfl (lv_at hl 0 rfl) ?_
              obtain ⟨hok21, hg⟩ := gd_some hg
              obtain ⟨r22, hr22, hg⟩ := nn_some hg
              refine wr_get (K := RX6) (T := TX6) (N := 7) (index := 22) (ref := "MakerLines") (v := .ref r22) hx hb hts hi_X6_play_X6 hown hw hok21 (wF_6 (S := S19) hok21.2) rfl 2 (by decide) (hts _ (List.mem_of_getElem? (i := 6) rfl)) (fun _ h9 => h9) (congrArg (fun o => some (va_rf o)) hr22) dX6_play_56 ?_
              refine lv_aload_n hx hb dX6_play_59 rfl (lv_at hl 0 rfl) ?_
              obtain ⟨r23, hr23, hg⟩ := nn_some hg
              refine wr_get (K := RX6) (T := TX6) (N := 7) (index := 12) (ref := "MakerLines") (v := .ref r23) hx hb hts hi_X6_play_X6 hown hw hok21 (wF_6 (S := S19) hok21.2) rfl 0 (by decide) (hts _ (List.mem_of_getElem? (i := 5) rfl)) (fun _ h9 => h9) (congrArg (fun o => some (va_rf o)) hr23) dX6_play_60 ?_
              obtain ⟨hok24, hg⟩ := gd_some hg
              obtain ⟨⟨⟩, S25, z25, hc25, hg⟩ := cz_some hg
              refine wr_cv (va_runV (As := [.ref r23]) (rest := []) ⟨hx, hb, hml, hown, hts⟩ (c_X0_save l D C N S19 z r22 r23 () S25 z25 hc25) (cwV 1 hts gX6_play_X0_save rfl rfl rfl (by decide +kernel) ⟨Nat.le_of_ble_eq_true rfl, Nat.le_of_ble_eq_true rfl⟩) (wd_preV hw hok24 (wF_0 (S := S19) hok24.2) rfl) rfl rfl hl.1 rfl (lv_room (Nat.le_of_ble_eq_true rfl)) dX6_play_63 ⟨Nat.le_of_ble_eq_true rfl, Nat.le_of_ble_eq_true rfl⟩) hw (fun H locs hw => ?_)
              refine lv_aload_n hx hb dX6_play_66 rfl (lv_at hl 0 rfl) ?_
              refine lv_aload_n hx hb dX6_play_67 rfl (lv_at hl 0 rfl) ?_
              obtain ⟨hok26, hg⟩ := gd_some hg
              obtain ⟨r27, hr27, hg⟩ := nn_some hg
              refine wr_get (K := RX6) (T := TX6) (N := 7) (index := 12) (ref := "MakerLines") (v := .ref r27) hx hb hts hi_X6_play_X6 hown hw hok26 (wF_6 (S := S25) hok26.2) rfl 0 (by decide) (hts _ (List.mem_of_getElem? (i := 5) rfl)) (fun _ h9 => h9) (congrArg (fun o => some (va_rf o)) hr27) dX6_play_68 ?_
              refine lv_iload_n hx hb dX6_play_71 rfl (lv_at hl 1 rfl) ?_
              refine lv_iload_n hx hb dX6_play_72 rfl (lv_at hl 2 rfl) ?_
              refine lv_iload_n hx hb dX6_play_73 rfl (lv_at hl 3 rfl) ?_
              obtain ⟨r28, S28, hc28, hg⟩ := cl_some hg
              refine wr_ci (va_runV (As := [.ref r27, .int x1, .int x2, .int x3]) (rest := []) ⟨hx, hb, hml, hown, hts⟩ (c_X6_goOn l D C N S25 z25 a0 r27 x1 x2 x3 r28 S28 hc28) (cwV 4 hts gX6_play_X6_goOn rfl rfl rfl (by decide +kernel) ⟨Nat.le_of_ble_eq_true rfl, Nat.le_of_ble_eq_true rfl⟩) (wd_preV hw hok26 (wF_6 (S := S25) hok26.2) rfl) rfl rfl hl.1 rfl (lv_room (Nat.le_of_ble_eq_true rfl)) dX6_play_74 ⟨Nat.le_of_ble_eq_true rfl, Nat.le_of_ble_eq_true rfl⟩) hw (fun H locs hw => ?_)
              cases hg
              refine W.widen (k := 3) (n := 28) (Nat.le_of_ble_eq_true rfl) (Nat.le_of_ble_eq_true rfl) ?_
              exact wr_iret hx hb hr hw dX6_play_77 hlk
            · have hg := it_neg hg c20
              exact absurd hg (by simp)
          · have hg := it_neg hg c15
            exact B25 _ _ _ _ _ hg hw (lv_sub hl [] rfl)
  exact B0 S0 z0 _ _ _ hg hw hl
