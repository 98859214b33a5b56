theorem hi_X3_shortest_X1 : ∀ w ∈ wsX10, w ∈ wsX3_shortest := fun _ h => List.mem_cons_of_mem _ (List.mem_append_right _ (h))
theorem hi_X3_shortest_X3 : ∀ w ∈ wsX30, w ∈ wsX3_shortest := fun _ h => List.mem_cons_of_mem _ (List.mem_append_left _ (List.mem_append_right _ (h)))
set_option maxHeartbeats 4000000 in
set_option maxRecDepth 100000 in
theorem c_X3_shortest (l : Launch) (D : va_G) (C : C3) (se : Hp → Nat → Int32 → Int32 → Int32 → Int32 → Option (Int32 × Hp)) (rmR : Room) (N : Nat) (S0 : Hp) (z : Nat) (a0 : Nat) (x1 : Int32) (x2 : Int32) (x3 : Int32) (r : Int32) (S9 : Hp) (rmS : Room) (hse : ∀ (S : Hp) (z : Nat) (a0 : Nat) (x1 : Int32) (x2 : Int32) (x3 : Int32) (x4 : Int32) (r : Int32) (S9 : Hp), se S a0 x1 x2 x3 x4 = some (r, S9) → MetI l yX3_search wsX3_search rmS D C S z [.ref a0, .int x1, .int x2, .int x3, .int x4] r S9 z 0 0) (hRS : rmS.cells = 0 ∧ rmS.slots = 0 ∧ rmS.frames + 1 ≤ rmR.frames ∧ 8 + (7 + 11) + rmS.locals ≤ rmR.locals) (hR0 : 0 ≤ rmR.frames ∧ 0 ≤ rmR.locals) (hg : f_X3_shortest se N S0 a0 x1 x2 x3 = some (r, S9)) : MetI l yX3_shortest wsX3_shortest rmR D C S0 z [.ref a0, .int x1, .int x2, .int x3] r S9 z 0 0 := by
  refine mw_ofW (cc := cX3_shortest) (maxL := 8) (ret := (some .int)) (lv := [(0, .ref a0), (1, .int x1), (2, .int x2), (3, .int x3)]) (by decide) rfl (Nat.le_of_ble_eq_true rfl) rfl ?_
  intro p e s m below meth c ls hx hb hr hts hown hlk hml hnm hl hw
  have hown : s.vm.findClass RX3 = some m.cls := hown
  have B30 : ∀ (K30 : Hp → Int32 → Int32 → Int32 → Option (Int32 × Hp)) (hK30 : ∀ (S : Hp) (v4 : Int32) (v5 : Int32) (v6 : Int32) (H : Heap) (locs : List Loc) (ls : Array Slot), K30 S v4 v5 v6 = some (r, S9) → Wd D C (va_A (wP C S0) z) s.heap S z H locs s → lv_has ls 8 [(0, .ref a0), (1, .int x1), (2, .int x2), (3, .int x3), (4, .int v4), (5, .int v5), (6, .int v6)] → W p l e rmR s m ([.ref a0, .int x1, .int x2, .int x3] : List Value).toArray below meth c H locs 0 0 (MQ below (QiW D C S0 z r S9 z) ([.ref a0, .int x1, .int x2, .int x3] : List Value).toArray s 0 0 (va_A (wP C S0) z)) (F0 m 30 ls [])) (S : Hp) (v4 : Int32) (v5 : Int32) (v6 : Int32) (H : Heap) (locs : List Loc) (ls : Array Slot), f_X3_shortest_b30 se N a0 x1 x2 x3 K30 S v4 v5 v6 = some (r, S9) → Wd D C (va_A (wP C S0) z) s.heap S z H locs s → lv_has ls 8 [(0, .ref a0), (1, .int x1), (2, .int x2), (3, .int x3), (4, .int v4), (5, .int v5), (6, .int v6)] → W p l e rmR s m ([.ref a0, .int x1, .int x2, .int x3] : List Value).toArray below meth c H locs 0 0 (MQ below (QiW D C S0 z r S9 z) ([.ref a0, .int x1, .int x2, .int x3] : List Value).toArray s 0 0 (va_A (wP C S0) z)) (F0 m 30 ls []) := by
    intro K30 hK30 S v4 v5 v6 H locs ls hg hw hl
    unfold f_X3_shortest_b30 at hg
    refine lv_iload hx hb dX3_shortest_30 (lv_at hl 6 rfl) ?_
    refine lv_bipush (v := (10 : Int32)) hx hb dX3_shortest_32 (by decide) ?_
    refine lv_icmp_ge (tgt := 97) hx hb dX3_shortest_34 (by decide) (fun c15 => ?_) (fun c15 => ?_)
    · have hg := it_pos hg c15
      refine lv_iload hx hb dX3_shortest_97 (lv_at hl 5 rfl) ?_
      cases hg
      exact wr_iret hx hb hr hw dX3_shortest_99 hlk
    · have hg := it_neg hg c15
      refine lv_iload hx hb dX3_shortest_37 (lv_at hl 4 rfl) ?_
      refine lv_iconst (v := (1 : Int32)) hx hb dX3_shortest_39 (by decide) ?_
      refine lv_iload hx hb dX3_shortest_40 (lv_at hl 6 rfl) ?_
      refine lv_ishl hx hb dX3_shortest_42 ?_
      refine lv_iand hx hb dX3_shortest_43 ?_
      refine lv_if_eq (tgt := 91) hx hb dX3_shortest_44 (by decide) (fun c16 => ?_) (fun c16 => ?_)
      · have hg := it_pos hg c16
        refine lv_iinc (v := (v6 + (1 : Int32))) (lv' := [(6, .int (v6 + (1 : Int32))), (0, .ref a0), (1, .int x1), (2, .int x2), (3, .int x3), (4, .int v4), (5, .int v5)]) hx hb dX3_shortest_91 hl (k := 6) rfl rfl (by decide) rfl (fun ls hl => ?_)
        refine lv_goto (tgt := 30) hx hb dX3_shortest_94 (by decide) ?_
        exact hK30 _ _ _ _ _ _ _ hg hw (lv_sub hl [1, 2, 3, 4, 5, 6, 0] rfl)
      · have hg := it_neg hg c16
        refine lv_aload_n hx hb dX3_shortest_47 rfl (lv_at hl 0 rfl) ?_
        refine lv_iload_n hx hb dX3_shortest_48 rfl (lv_at hl 1 rfl) ?_
        refine lv_iconst (v := (1 : Int32)) hx hb dX3_shortest_49 (by decide) ?_
        refine lv_iload hx hb dX3_shortest_50 (lv_at hl 6 rfl) ?_
        refine lv_ishl hx hb dX3_shortest_52 ?_
        refine lv_ior hx hb dX3_shortest_53 ?_
        refine lv_iload_n hx hb dX3_shortest_54 rfl (lv_at hl 2 rfl) ?_
        refine lv_iconst (v := (0 : Int32)) hx hb dX3_shortest_55 (by decide) ?_
        refine lv_iload_n hx hb dX3_shortest_56 rfl (lv_at hl 3 rfl) ?_
        refine lv_iconst (v := (1 : Int32)) hx hb dX3_shortest_57 (by decide) ?_
        refine lv_iadd hx hb dX3_shortest_58 ?_
        obtain ⟨hok17, hg⟩ := gd_some hg
        obtain ⟨r18, S18, hc18, hg⟩ := cl_some hg
        refine wr_ci (va_runV (As := [.int (x1 ||| ((1 : Int32) <<< (v6 &&& 31))), .int x2, .int (0 : Int32), .int (x3 + (1 : Int32))]) (rest := []) ⟨hx, hb, hml, hown, hts⟩ (hse S z a0 ((x1 ||| ((1 : Int32) <<< (v6 &&& 31)))) x2 ((0 : Int32)) ((x3 + (1 : Int32))) r18 S18 hc18) (cwV 4 hts gX3_shortest_X3_search rfl hRS.1 hRS.2.1 (by decide +kernel) hRS.2.2) (wd_preV hw hok17 (wF_3 (S := S) hok17.2) rfl) rfl rfl hl.1 rfl (lv_room (Nat.le_of_ble_eq_true rfl)) dX3_shortest_59 ⟨Nat.zero_le _, Nat.zero_le _⟩) hw (fun H locs hw => ?_)
        refine lv_istore (lv' := [(7, .int r18), (0, .ref a0), (1, .int x1), (2, .int x2), (3, .int x3), (4, .int v4), (5, .int v5), (6, .int v6)]) hx hb dX3_shortest_62 hl (by decide) rfl (fun ls hl => ?_)
        refine lv_iload hx hb dX3_shortest_64 (lv_at hl 0 rfl) ?_
        refine lv_iconst (v := (-1 : Int32)) hx hb dX3_shortest_66 (by decide) ?_
        refine lv_icmp_eq (tgt := 91) hx hb dX3_shortest_67 (by decide) (fun c19 => ?_) (fun c19 => ?_)
        · have hg := it_pos hg c19
          refine lv_iinc (v := (v6 + (1 : Int32))) (lv' := [(6, .int (v6 + (1 : Int32))), (7, .int r18), (0, .ref a0), (1, .int x1), (2, .int x2), (3, .int x3), (4, .int v4), (5, .int v5)]) hx hb dX3_shortest_91 hl (k := 7) rfl rfl (by decide) rfl (fun ls hl => ?_)
          refine lv_goto (tgt := 30) hx hb dX3_shortest_94 (by decide) ?_
          exact hK30 _ _ _ _ _ _ _ hg hw (lv_sub hl [2, 3, 4, 5, 6, 7, 0] rfl)
        · have hg := it_neg hg c19
          refine lv_iload hx hb dX3_shortest_70 (lv_at hl 6 rfl) ?_
          refine lv_iconst (v := (-1 : Int32)) hx hb dX3_shortest_72 (by decide) ?_
          refine lv_icmp_eq (tgt := 85) hx hb dX3_shortest_73 (by decide) (fun c20 => ?_) (fun c20 => ?_)
          · have hg := it_pos hg c20
            refine lv_iload hx hb dX3_shortest_85 (lv_at hl 0 rfl) ?_
            refine lv_iconst (v := (1 : Int32)) hx hb dX3_shortest_87 (by decide) ?_
            refine lv_iadd hx hb dX3_shortest_88 ?_
            refine lv_istore (lv' := [(5, .int (r18 + (1 : Int32))), (7, .int r18), (0, .ref a0), (1, .int x1), (2, .int x2), (3, .int x3), (4, .int v4), (6, .int v6)]) hx hb dX3_shortest_89 hl (by decide) rfl (fun ls hl => ?_)
            refine lv_iinc (v := (v6 + (1 : Int32))) (lv' := [(6, .int (v6 + (1 : Int32))), (5, .int (r18 + (1 : Int32))), (7, .int r18), (0, .ref a0), (1, .int x1), (2, .int x2), (3, .int x3), (4, .int v4)]) hx hb dX3_shortest_91 hl (k := 7) rfl rfl (by decide) rfl (fun ls hl => ?_)
            refine lv_goto (tgt := 30) hx hb dX3_shortest_94 (by decide) ?_
            exact hK30 _ _ _ _ _ _ _ hg hw (lv_sub hl [3, 4, 5, 6, 7, 1, 0] rfl)
          · have hg := it_neg hg c20
            refine lv_iload hx hb dX3_shortest_76 (lv_at hl 0 rfl) ?_
            refine lv_iconst (v := (1 : Int32)) hx hb dX3_shortest_78 (by decide) ?_
            refine lv_iadd hx hb dX3_shortest_79 ?_
            refine lv_iload hx hb dX3_shortest_80 (lv_at hl 6 rfl) ?_
            refine lv_icmp_ge (tgt := 91) hx hb dX3_shortest_82 (by decide) (fun c21 => ?_) (fun c21 => ?_)
            · have hg := it_pos hg c21
              refine lv_iinc (v := (v6 + (1 : Int32))) (lv' := [(6, .int (v6 + (1 : Int32))), (7, .int r18), (0, .ref a0), (1, .int x1), (2, .int x2), (3, .int x3), (4, .int v4), (5, .int v5)]) hx hb dX3_shortest_91 hl (k := 7) rfl rfl (by decide) rfl (fun ls hl => ?_)
              refine lv_goto (tgt := 30) hx hb dX3_shortest_94 (by decide) ?_
              exact hK30 _ _ _ _ _ _ _ hg hw (lv_sub hl [2, 3, 4, 5, 6, 7, 0] rfl)
            · have hg := it_neg hg c21
              refine lv_iload hx hb dX3_shortest_85 (lv_at hl 0 rfl) ?_
              refine lv_iconst (v := (1 : Int32)) hx hb dX3_shortest_87 (by decide) ?_
              refine lv_iadd hx hb dX3_shortest_88 ?_
              refine lv_istore (lv' := [(5, .int (r18 + (1 : Int32))), (7, .int r18), (0, .ref a0), (1, .int x1), (2, .int x2), (3, .int x3), (4, .int v4), (6, .int v6)]) hx hb dX3_shortest_89 hl (by decide) rfl (fun ls hl => ?_)
              refine lv_iinc (v := (v6 + (1 : Int32))) (lv' := [(6, .int (v6 + (1 : Int32))), (5, .int (r18 + (1 : Int32))), (7, .int r18), (0, .ref a0), (1, .int x1), (2, .int x2), (3, .int x3), (4, .int v4)]) hx hb dX3_shortest_91 hl (k := 7) rfl rfl (by decide) rfl (fun ls hl => ?_)
              refine lv_goto (tgt := 30) hx hb dX3_shortest_94 (by decide) ?_
              exact hK30 _ _ _ _ _ _ _ hg hw (lv_sub hl [3, 4, 5, 6, 7, 1, 0] rfl)
  have L30 : ∀ (k : Nat) (S : Hp) (v4 : Int32) (v5 : Int32) (v6 : Int32) (H : Heap) (locs : List Loc) (ls : Array Slot), f_X3_shortest_l30 se N a0 x1 x2 x3 k S v4 v5 v6 = some (r, S9) → Wd D C (va_A (wP C S0) z) s.heap S z H locs s → lv_has ls 8 [(0, .ref a0), (1, .int x1), (2, .int x2), (3, .int x3), (4, .int v4), (5, .int v5), (6, .int v6)] → W p l e rmR s m ([.ref a0, .int x1, .int x2, .int x3] : List Value).toArray below meth c H locs 0 0 (MQ below (QiW D C S0 z r S9 z) ([.ref a0, .int x1, .int x2, .int x3] : List Value).toArray s 0 0 (va_A (wP C S0) z)) (F0 m 30 ls []) := by
    intro k
    induction k with
    | zero => intro S v4 v5 v6 H locs ls hg hw hl; exact absurd (show (none : Option (Int32 × Hp)) = some (r, S9) from hg) (by simp)
    | succ k ih => intro S v4 v5 v6 H locs ls hg hw hl; exact B30 (f_X3_shortest_l30 se N a0 x1 x2 x3 k) ih S v4 v5 v6 H locs ls hg hw hl
  have B0 : ∀ (S : Hp) (H : Heap) (locs : List Loc) (ls : Array Slot), f_X3_shortest se N S a0 x1 x2 x3 = some (r, S9) → Wd D C (va_A (wP C S0) z) s.heap S z H locs s → lv_has ls 8 [(0, .ref a0), (1, .int x1), (2, .int x2), (3, .int x3)] → W p l e rmR s m ([.ref a0, .int x1, .int x2, .int x3] : List Value).toArray below meth c H locs 0 0 (MQ below (QiW D C S0 z r S9 z) ([.ref a0, .int x1, .int x2, .int x3] : List Value).toArray s 0 0 (va_A (wP C S0) z)) (F0 m 0 ls []) := by
    intro S H locs ls hg hw hl
    unfold f_X3_shortest at hg
    refine lv_aload_n hx hb dX3_shortest_0 rfl (lv_at hl 0 rfl) ?_
    obtain ⟨hok10, hg⟩ := gd_some hg
    obtain ⟨r11, hr11, hg⟩ := nn_some hg
    refine wr_get (K := RX3) (T := TX3) (N := 6) (index := 12) (ref := "MakerLines$Solver") (v := .ref r11) hx hb hts hi_X3_shortest_X3 hown hw hok10 (wF_3 (S := S) hok10.2) rfl 0 (by decide) (hts _ (List.mem_of_getElem? (i := 1) rfl)) (fun _ h9 => h9) (congrArg (fun o => some (va_rf o)) hr11) dX3_shortest_1 ?_
    obtain ⟨hok12, hg⟩ := gd_some hg
    refine wr_get (K := RX1) (T := TX1) (N := 6) (index := 105) (ref := "MakerLines$Lines") (v := .int (hI S r11 5)) hx hb hts hi_X3_shortest_X1 hown hw hok12 (wF_1 (S := S) hok12.2) rfl 5 (by decide) (hts _ (List.mem_of_getElem? (i := 2) rfl)) (fun _ h9 => h9) rfl dX3_shortest_4 ?_
    refine lv_if_eq (tgt := 12) hx hb dX3_shortest_7 (by decide) (fun c13 => ?_) (fun c13 => ?_)
    · have hg := it_pos hg c13
      refine lv_aload_n hx hb dX3_shortest_12 rfl (lv_at hl 0 rfl) ?_
      refine wr_get (K := RX3) (T := TX3) (N := 6) (index := 18) (ref := "MakerLines$Solver") (v := .int (hI S a0 1)) hx hb hts hi_X3_shortest_X3 hown hw hok10 (wF_3 (S := S) hok10.2) rfl 1 (by decide) (hts _ (List.mem_of_getElem? (i := 3) rfl)) (fun _ h9 => h9) rfl dX3_shortest_13 ?_
      refine lv_iload_n hx hb dX3_shortest_16 rfl (lv_at hl 1 rfl) ?_
      refine lv_iload_n hx hb dX3_shortest_17 rfl (lv_at hl 2 rfl) ?_
      refine lv_ior hx hb dX3_shortest_18 ?_
      refine lv_iconst (v := (-1 : Int32)) hx hb dX3_shortest_19 (by decide) ?_
      refine lv_ixor hx hb dX3_shortest_20 ?_
      refine lv_iand hx hb dX3_shortest_21 ?_
      obtain ⟨e14, he14, hg⟩ := bd_some hg
      refine lv_istore (lv' := [(4, .int e14), (0, .ref a0), (1, .int x1), (2, .int x2), (3, .int x3)]) hx hb dX3_shortest_22 hl (by decide) (by rw [he14]; rfl) (fun ls hl => ?_)
      refine lv_iconst (v := (-1 : Int32)) hx hb dX3_shortest_24 (by decide) ?_
      refine lv_istore (lv' := [(5, .int (-1 : Int32)), (4, .int e14), (0, .ref a0), (1, .int x1), (2, .int x2), (3, .int x3)]) hx hb dX3_shortest_25 hl (by decide) rfl (fun ls hl => ?_)
      refine lv_iconst (v := (0 : Int32)) hx hb dX3_shortest_27 (by decide) ?_
      refine lv_istore (lv' := [(6, .int (0 : Int32)), (5, .int (-1 : Int32)), (4, .int e14), (0, .ref a0), (1, .int x1), (2, .int x2), (3, .int x3)]) hx hb dX3_shortest_28 hl (by decide) rfl (fun ls hl => ?_)
      exact L30 N _ _ _ _ _ _ _ hg hw (lv_sub hl [3, 4, 5, 6, 2, 1, 0] rfl)
    · have hg := it_neg hg c13
      refine lv_iconst (v := (1 : Int32)) hx hb dX3_shortest_10 (by decide) ?_
      cases hg
      exact wr_iret hx hb hr hw dX3_shortest_11 hlk
  exact B0 S0 _ _ _ hg hw hl
theorem hi_X3_longest_X1 : ∀ w ∈ wsX10, w ∈ wsX3_longest := fun _ h => List.mem_cons_of_mem _ (List.mem_append_right _ (h))
theorem hi_X3_longest_X3 : ∀ w ∈ wsX30, w ∈ wsX3_longest := fun _ h => List.mem_cons_of_mem _ (List.mem_append_left _ (List.mem_append_right _ (h)))
set_option maxHeartbeats 4000000 in
set_option maxRecDepth 100000 in
theorem c_X3_longest (l : Launch) (D : va_G) (C : C3) (se : Hp → Nat → Int32 → Int32 → Int32 → Int32 → Option (Int32 × Hp)) (rmR : Room) (N : Nat) (S0 : Hp) (z : Nat) (a0 : Nat) (x1 : Int32) (x2 : Int32) (x3 : Int32) (r : Int32) (S9 : Hp) (rmS : Room) (hse : ∀ (S : Hp) (z : Nat) (a0 : Nat) (x1 : Int32) (x2 : Int32) (x3 : Int32) (x4 : Int32) (r : Int32) (S9 : Hp), se S a0 x1 x2 x3 x4 = some (r, S9) → MetI l yX3_search wsX3_search rmS D C S z [.ref a0, .int x1, .int x2, .int x3, .int x4] r S9 z 0 0) (hRS : rmS.cells = 0 ∧ rmS.slots = 0 ∧ rmS.frames + 1 ≤ rmR.frames ∧ 8 + (7 + 11) + rmS.locals ≤ rmR.locals) (hR0 : 1 ≤ rmR.frames ∧ 21 ≤ rmR.locals) (hg : f_X3_longest se N S0 a0 x1 x2 x3 = some (r, S9)) : MetI l yX3_longest wsX3_longest rmR D C S0 z [.ref a0, .int x1, .int x2, .int x3] r S9 z 0 0 := by
  refine mw_ofW (cc := cX3_longest) (maxL := 9) (ret := (some .int)) (lv := [(0, .ref a0), (1, .int x1), (2, .int x2), (3, .int x3)]) (by decide) rfl (Nat.le_of_ble_eq_true rfl) rfl ?_
  intro p e s m below meth c ls hx hb hr hts hown hlk hml hnm hl hw
  have hown : s.vm.findClass RX3 = some m.cls := hown
  have B63 : ∀ (K63 : Hp → Int32 → Int32 → Int32 → Option (Int32 × Hp)) (hK63 : ∀ (S : Hp) (v5 : Int32) (v6 : Int32) (v7 : Int32) (H : Heap) (locs : List Loc) (ls : Array Slot), K63 S v5 v6 v7 = some (r, S9) → Wd D C (va_A (wP C S0) z) s.heap S z H locs s → lv_has ls 9 [(0, .ref a0), (1, .int x1), (2, .int x2), (3, .int x3), (5, .int v5), (6, .int v6), (7, .int v7)] → W p l e rmR s m ([.ref a0, .int x1, .int x2, .int x3] : List Value).toArray below meth c H locs 0 0 (MQ below (QiW D C S0 z r S9 z) ([.ref a0, .int x1, .int x2, .int x3] : List Value).toArray s 0 0 (va_A (wP C S0) z)) (F0 m 63 ls [])) (S : Hp) (v5 : Int32) (v6 : Int32) (v7 : Int32) (H : Heap) (locs : List Loc) (ls : Array Slot), f_X3_longest_b63 se N a0 x1 x2 x3 K63 S v5 v6 v7 = some (r, S9) → Wd D C (va_A (wP C S0) z) s.heap S z H locs s → lv_has ls 9 [(0, .ref a0), (1, .int x1), (2, .int x2), (3, .int x3), (5, .int v5), (6, .int v6), (7, .int v7)] → W p l e rmR s m ([.ref a0, .int x1, .int x2, .int x3] : List Value).toArray below meth c H locs 0 0 (MQ below (QiW D C S0 z r S9 z) ([.ref a0, .int x1, .int x2, .int x3] : List Value).toArray s 0 0 (va_A (wP C S0) z)) (F0 m 63 ls []) := by
    intro K63 hK63 S v5 v6 v7 H locs ls hg hw hl
    unfold f_X3_longest_b63 at hg
    refine lv_iload hx hb dX3_longest_63 (lv_at hl 6 rfl) ?_
    refine lv_bipush (v := (10 : Int32)) hx hb dX3_longest_65 (by decide) ?_
    refine lv_icmp_ge (tgt := 122) hx hb dX3_longest_67 (by decide) (fun c17 => ?_) (fun c17 => ?_)
    · have hg := it_pos hg c17
      refine lv_iload hx hb dX3_longest_122 (lv_at hl 5 rfl) ?_
      cases hg
      exact wr_iret hx hb hr hw dX3_longest_124 hlk
    · have hg := it_neg hg c17
      refine lv_iload hx hb dX3_longest_70 (lv_at hl 4 rfl) ?_
      refine lv_iconst (v := (1 : Int32)) hx hb dX3_longest_72 (by decide) ?_
      refine lv_iload hx hb dX3_longest_73 (lv_at hl 6 rfl) ?_
      refine lv_ishl hx hb dX3_longest_75 ?_
      refine lv_iand hx hb dX3_longest_76 ?_
      refine lv_if_eq (tgt := 116) hx hb dX3_longest_77 (by decide) (fun c18 => ?_) (fun c18 => ?_)
      · have hg := it_pos hg c18
        refine lv_iinc (v := (v7 + (1 : Int32))) (lv' := [(7, .int (v7 + (1 : Int32))), (0, .ref a0), (1, .int x1), (2, .int x2), (3, .int x3), (5, .int v5), (6, .int v6)]) hx hb dX3_longest_116 hl (k := 6) rfl rfl (by decide) rfl (fun ls hl => ?_)
        refine lv_goto (tgt := 63) hx hb dX3_longest_119 (by decide) ?_
        exact hK63 _ _ _ _ _ _ _ hg hw (lv_sub hl [1, 2, 3, 4, 5, 6, 0] rfl)
      · have hg := it_neg hg c18
        refine lv_aload_n hx hb dX3_longest_80 rfl (lv_at hl 0 rfl) ?_
        refine lv_iload_n hx hb dX3_longest_81 rfl (lv_at hl 1 rfl) ?_
        refine lv_iload_n hx hb dX3_longest_82 rfl (lv_at hl 2 rfl) ?_
        refine lv_iconst (v := (1 : Int32)) hx hb dX3_longest_83 (by decide) ?_
        refine lv_iload hx hb dX3_longest_84 (lv_at hl 6 rfl) ?_
        refine lv_ishl hx hb dX3_longest_86 ?_
        refine lv_ior hx hb dX3_longest_87 ?_
        refine lv_iconst (v := (1 : Int32)) hx hb dX3_longest_88 (by decide) ?_
        refine lv_iload_n hx hb dX3_longest_89 rfl (lv_at hl 3 rfl) ?_
        refine lv_iconst (v := (1 : Int32)) hx hb dX3_longest_90 (by decide) ?_
        refine lv_iadd hx hb dX3_longest_91 ?_
        obtain ⟨hok19, hg⟩ := gd_some hg
        obtain ⟨r20, S20, hc20, hg⟩ := cl_some hg
        refine wr_ci (va_runV (As := [.int x1, .int (x2 ||| ((1 : Int32) <<< (v7 &&& 31))), .int (1 : Int32), .int (x3 + (1 : Int32))]) (rest := []) ⟨hx, hb, hml, hown, hts⟩ (hse S z a0 x1 ((x2 ||| ((1 : Int32) <<< (v7 &&& 31)))) ((1 : Int32)) ((x3 + (1 : Int32))) r20 S20 hc20) (cwV 4 hts gX3_longest_X3_search rfl hRS.1 hRS.2.1 (by decide +kernel) hRS.2.2) (wd_preV hw hok19 (wF_3 (S := S) hok19.2) rfl) rfl rfl hl.1 rfl (lv_room (Nat.le_of_ble_eq_true rfl)) dX3_longest_92 ⟨Nat.zero_le _, Nat.zero_le _⟩) hw (fun H locs hw => ?_)
        refine lv_istore (lv' := [(8, .int r20), (0, .ref a0), (1, .int x1), (2, .int x2), (3, .int x3), (5, .int v5), (6, .int v6), (7, .int v7)]) hx hb dX3_longest_95 hl (by decide) rfl (fun ls hl => ?_)
        refine lv_iload hx hb dX3_longest_97 (lv_at hl 0 rfl) ?_
        refine lv_iconst (v := (-1 : Int32)) hx hb dX3_longest_99 (by decide) ?_
        refine lv_icmp_ne (tgt := 105) hx hb dX3_longest_100 (by decide) (fun c21 => ?_) (fun c21 => ?_)
        · have hg := it_neg hg c21
          refine lv_iload hx hb dX3_longest_105 (lv_at hl 6 rfl) ?_
          refine lv_iload hx hb dX3_longest_107 (lv_at hl 0 rfl) ?_
          refine lv_iconst (v := (1 : Int32)) hx hb dX3_longest_109 (by decide) ?_
          refine lv_iadd hx hb dX3_longest_110 ?_
          refine va_mmax (ls := ls) (own := RX3) (index := 111) hx hb (hml.trans hl.1.symm) hown (hts _ (List.mem_of_getElem? (i := 5) rfl)) (hts _ (List.mem_of_getElem? (i := 6) rfl)) (hts _ (List.mem_of_getElem? (i := 7) rfl)) (hts _ (List.mem_of_getElem? (i := 8) rfl)) (Nat.le_trans (Nat.le_of_ble_eq_true rfl) hR0.1) (Nat.le_trans (Nat.le_of_ble_eq_true rfl) hR0.2) (Nat.zero_le _) (Nat.zero_le _) dX3_longest_111 ?_
          obtain ⟨e22, he22, hg⟩ := bd_some hg
          refine lv_istore (lv' := [(6, .int e22), (8, .int r20), (0, .ref a0), (1, .int x1), (2, .int x2), (3, .int x3), (5, .int v5), (7, .int v7)]) hx hb dX3_longest_114 hl (by decide) (by rw [he22]; rfl) (fun ls hl => ?_)
          refine lv_iinc (v := (v7 + (1 : Int32))) (lv' := [(7, .int (v7 + (1 : Int32))), (6, .int e22), (8, .int r20), (0, .ref a0), (1, .int x1), (2, .int x2), (3, .int x3), (5, .int v5)]) hx hb dX3_longest_116 hl (k := 7) rfl rfl (by decide) rfl (fun ls hl => ?_)
          refine lv_goto (tgt := 63) hx hb dX3_longest_119 (by decide) ?_
          exact hK63 _ _ _ _ _ _ _ hg hw (lv_sub hl [3, 4, 5, 6, 7, 1, 0] rfl)
        · have hg := it_pos hg c21
          refine lv_iconst (v := (-1 : Int32)) hx hb dX3_longest_103 (by decide) ?_
          cases hg
          exact wr_iret hx hb hr hw dX3_longest_104 hlk
  have L63 : ∀ (k : Nat) (S : Hp) (v5 : Int32) (v6 : Int32) (v7 : Int32) (H : Heap) (locs : List Loc) (ls : Array Slot), f_X3_longest_l63 se N a0 x1 x2 x3 k S v5 v6 v7 = some (r, S9) → Wd D C (va_A (wP C S0) z) s.heap S z H locs s → lv_has ls 9 [(0, .ref a0), (1, .int x1), (2, .int x2), (3, .int x3), (5, .int v5), (6, .int v6), (7, .int v7)] → W p l e rmR s m ([.ref a0, .int x1, .int x2, .int x3] : List Value).toArray below meth c H locs 0 0 (MQ below (QiW D C S0 z r S9 z) ([.ref a0, .int x1, .int x2, .int x3] : List Value).toArray s 0 0 (va_A (wP C S0) z)) (F0 m 63 ls []) := by
    intro k
    induction k with
    | zero => intro S v5 v6 v7 H locs ls hg hw hl; exact absurd (show (none : Option (Int32 × Hp)) = some (r, S9) from hg) (by simp)
    | succ k ih => intro S v5 v6 v7 H locs ls hg hw hl; exact B63 (f_X3_longest_l63 se N a0 x1 x2 x3 k) ih S v5 v6 v7 H locs ls hg hw hl
  have B0 : ∀ (S : Hp) (H : Heap) (locs : List Loc) (ls : Array Slot), f_X3_longest se N S a0 x1 x2 x3 = some (r, S9) → Wd D C (va_A (wP C S0) z) s.heap S z H locs s → lv_has ls 9 [(0, .ref a0), (1, .int x1), (2, .int x2), (3, .int x3)] → W p l e rmR s m ([.ref a0, .int x1, .int x2, .int x3] : List Value).toArray below meth c H locs 0 0 (MQ below (QiW D C S0 z r S9 z) ([.ref a0, .int x1, .int x2, .int x3] : List Value).toArray s 0 0 (va_A (wP C S0) z)) (F0 m 0 ls []) := by
    intro S H locs ls hg hw hl
    unfold f_X3_longest at hg
    refine lv_aload_n hx hb dX3_longest_0 rfl (lv_at hl 0 rfl) ?_
    obtain ⟨hok10, hg⟩ := gd_some hg
    obtain ⟨r11, hr11, hg⟩ := nn_some hg
    refine wr_get (K := RX3) (T := TX3) (N := 6) (index := 12) (ref := "MakerLines$Solver") (v := .ref r11) hx hb hts hi_X3_longest_X3 hown hw hok10 (wF_3 (S := S) hok10.2) rfl 0 (by decide) (hts _ (List.mem_of_getElem? (i := 1) rfl)) (fun _ h9 => h9) (congrArg (fun o => some (va_rf o)) hr11) dX3_longest_1 ?_
    obtain ⟨hok12, hg⟩ := gd_some hg
    refine wr_get (K := RX1) (T := TX1) (N := 6) (index := 108) (ref := "MakerLines$Lines") (v := .int (hI S r11 4)) hx hb hts hi_X3_longest_X1 hown hw hok12 (wF_1 (S := S) hok12.2) rfl 4 (by decide) (hts _ (List.mem_of_getElem? (i := 2) rfl)) (fun _ h9 => h9) rfl dX3_longest_4 ?_
    refine lv_sipush (v := (1024 : Int32)) hx hb dX3_longest_7 (by decide) ?_
    refine lv_icmp_ge (tgt := 15) hx hb dX3_longest_10 (by decide) (fun c13 => ?_) (fun c13 => ?_)
    · have hg := it_pos hg c13
      refine lv_aload_n hx hb dX3_longest_15 rfl (lv_at hl 0 rfl) ?_
      refine wr_get (K := RX3) (T := TX3) (N := 6) (index := 12) (ref := "MakerLines$Solver") (v := .ref r11) hx hb hts hi_X3_longest_X3 hown hw hok10 (wF_3 (S := S) hok10.2) rfl 0 (by decide) (hts _ (List.mem_of_getElem? (i := 1) rfl)) (fun _ h9 => h9) (congrArg (fun o => some (va_rf o)) hr11) dX3_longest_16 ?_
      refine wr_get (K := RX1) (T := TX1) (N := 6) (index := 105) (ref := "MakerLines$Lines") (v := .int (hI S r11 5)) hx hb hts hi_X3_longest_X1 hown hw hok12 (wF_1 (S := S) hok12.2) rfl 5 (by decide) (hts _ (List.mem_of_getElem? (i := 3) rfl)) (fun _ h9 => h9) rfl dX3_longest_19 ?_
      refine lv_istore (lv' := [(4, .int (hI S r11 5)), (0, .ref a0), (1, .int x1), (2, .int x2), (3, .int x3)]) hx hb dX3_longest_22 hl (by decide) rfl (fun ls hl => ?_)
      refine lv_iload hx hb dX3_longest_24 (lv_at hl 0 rfl) ?_
      refine wr_ci (va_runS (As := [.int (hI S r11 5)]) (rest := []) ⟨hx, hb, hml, hown, hts⟩ (c_bitc l D C S z ((hI S r11 5))) (va_cwS 1 hts gX3_longest_J6_bitCount_0f7a4 rfl rfl rfl (by decide +kernel) ⟨Nat.le_trans (Nat.le_of_ble_eq_true rfl) hR0.1, Nat.le_trans (Nat.le_of_ble_eq_true rfl) hR0.2⟩) (wd_preS hw) rfl rfl hl.1 rfl (lv_room (Nat.le_of_ble_eq_true rfl)) dX3_longest_26 ⟨Nat.zero_le _, Nat.zero_le _⟩) hw (fun H locs hw => ?_)
      refine lv_iconst (v := (1 : Int32)) hx hb dX3_longest_29 (by decide) ?_
      refine lv_icmp_le (tgt := 35) hx hb dX3_longest_30 (by decide) (fun c14 => ?_) (fun c14 => ?_)
      · have hg := it_pos hg c14
        refine lv_iload hx hb dX3_longest_35 (lv_at hl 0 rfl) ?_
        refine lv_if_eq (tgt := 45) hx hb dX3_longest_37 (by decide) (fun c15 => ?_) (fun c15 => ?_)
        · have hg := it_pos hg c15
          refine lv_aload_n hx hb dX3_longest_45 rfl (lv_at hl 1 rfl) ?_
          refine wr_get (K := RX3) (T := TX3) (N := 6) (index := 18) (ref := "MakerLines$Solver") (v := .int (hI S a0 1)) hx hb hts hi_X3_longest_X3 hown hw hok10 (wF_3 (S := S) hok10.2) rfl 1 (by decide) (hts _ (List.mem_of_getElem? (i := 4) rfl)) (fun _ h9 => h9) rfl dX3_longest_46 ?_
          refine lv_iload_n hx hb dX3_longest_49 rfl (lv_at hl 2 rfl) ?_
          refine lv_iload_n hx hb dX3_longest_50 rfl (lv_at hl 3 rfl) ?_
          refine lv_ior hx hb dX3_longest_51 ?_
          refine lv_iconst (v := (-1 : Int32)) hx hb dX3_longest_52 (by decide) ?_
          refine lv_ixor hx hb dX3_longest_53 ?_
          refine lv_iand hx hb dX3_longest_54 ?_
          obtain ⟨e16, he16, hg⟩ := bd_some hg
          refine lv_istore (lv' := [(5, .int e16), (4, .int (hI S r11 5)), (0, .ref a0), (1, .int x1), (2, .int x2), (3, .int x3)]) hx hb dX3_longest_55 hl (by decide) (by rw [he16]; rfl) (fun ls hl => ?_)
          refine lv_iconst (v := (0 : Int32)) hx hb dX3_longest_57 (by decide) ?_
          refine lv_istore (lv' := [(6, .int (0 : Int32)), (5, .int e16), (4, .int (hI S r11 5)), (0, .ref a0), (1, .int x1), (2, .int x2), (3, .int x3)]) hx hb dX3_longest_58 hl (by decide) rfl (fun ls hl => ?_)
          refine lv_iconst (v := (0 : Int32)) hx hb dX3_longest_60 (by decide) ?_
          refine lv_istore (lv' := [(7, .int (0 : Int32)), (6, .int (0 : Int32)), (5, .int e16), (4, .int (hI S r11 5)), (0, .ref a0), (1, .int x1), (2, .int x2), (3, .int x3)]) hx hb dX3_longest_61 hl (by decide) rfl (fun ls hl => ?_)
          exact L63 N _ _ _ _ _ _ _ hg hw (lv_sub hl [4, 5, 6, 7, 2, 1, 0] rfl)
        · have hg := it_neg hg c15
          refine lv_iload hx hb dX3_longest_40 (lv_at hl 0 rfl) ?_
          refine lv_goto (tgt := 55) hx hb dX3_longest_42 (by decide) ?_
          refine lv_istore (lv' := [(5, .int (hI S r11 5)), (4, .int (hI S r11 5)), (0, .ref a0), (1, .int x1), (2, .int x2), (3, .int x3)]) hx hb dX3_longest_55 hl (by decide) rfl (fun ls hl => ?_)
          refine lv_iconst (v := (0 : Int32)) hx hb dX3_longest_57 (by decide) ?_
          refine lv_istore (lv' := [(6, .int (0 : Int32)), (5, .int (hI S r11 5)), (4, .int (hI S r11 5)), (0, .ref a0), (1, .int x1), (2, .int x2), (3, .int x3)]) hx hb dX3_longest_58 hl (by decide) rfl (fun ls hl => ?_)
          refine lv_iconst (v := (0 : Int32)) hx hb dX3_longest_60 (by decide) ?_
          refine lv_istore (lv' := [(7, .int (0 : Int32)), (6, .int (0 : Int32)), (5, .int (hI S r11 5)), (4, .int (hI S r11 5)), (0, .ref a0), (1, .int x1), (2, .int x2), (3, .int x3)]) hx hb dX3_longest_61 hl (by decide) rfl (fun ls hl => ?_)
          exact L63 N _ _ _ _ _ _ _ hg hw (lv_sub hl [4, 5, 6, 7, 2, 1, 0] rfl)
      · have hg := it_neg hg c14
        refine lv_iconst (v := (2 : Int32)) hx hb dX3_longest_33 (by decide) ?_
        cases hg
        exact wr_iret hx hb hr hw dX3_longest_34 hlk
    · have hg := it_neg hg c13
      refine lv_iconst (v := (-1 : Int32)) hx hb dX3_longest_13 (by decide) ?_
      cases hg
      exact wr_iret hx hb hr hw dX3_longest_14 hlk
  exact B0 S0 _ _ _ hg hw hl
theorem hi_X3_search_X1 : ∀ w ∈ wsX10, w ∈ wsX3_search := fun _ h => List.mem_cons_of_mem _ (List.mem_append_right _ (h))
theorem hi_X3_search_X3 : ∀ w ∈ wsX30, w ∈ wsX3_search := fun _ h => List.mem_cons_of_mem _ (List.mem_append_left _ (List.mem_append_right _ (h)))
set_option maxHeartbeats 4000000 in
set_option maxRecDepth 100000 in
theorem c_X3_searchB (l : Launch) (D : va_G) (C : C3) (se : Hp → Nat → Int32 → Int32 → Int32 → Int32 → Option (Int32 × Hp)) (rmR : Room) (N : Nat) (S0 : Hp) (z : Nat) (a0 : Nat) (x1 : Int32) (x2 : Int32) (x3 : Int32) (x4 : Int32) (r : Int32) (S9 : Hp) (rmH : Room) (rmL : Room) (hsh : ∀ (S : Hp) (z : Nat) (a0 : Nat) (x1 : Int32) (x2 : Int32) (x3 : Int32) (r : Int32) (S9 : Hp), f_X3_shortest se N S a0 x1 x2 x3 = some (r, S9) → MetI l yX3_shortest wsX3_shortest rmH D C S z [.ref a0, .int x1, .int x2, .int x3] r S9 z 0 0) (hlo : ∀ (S : Hp) (z : Nat) (a0 : Nat) (x1 : Int32) (x2 : Int32) (x3 : Int32) (r : Int32) (S9 : Hp), f_X3_longest se N S a0 x1 x2 x3 = some (r, S9) → MetI l yX3_longest wsX3_longest rmL D C S z [.ref a0, .int x1, .int x2, .int x3] r S9 z 0 0) (hRH : rmH.cells = 0 ∧ rmH.slots = 0 ∧ rmH.frames + 1 ≤ rmR.frames ∧ 8 + (8 + 11) + rmH.locals ≤ rmR.locals) (hRL : rmL.cells = 0 ∧ rmL.slots = 0 ∧ rmL.frames + 1 ≤ rmR.frames ∧ 8 + (9 + 11) + rmL.locals ≤ rmR.locals) (hR0 : 2 ≤ rmR.frames ∧ 46 ≤ rmR.locals) (hg : f_X3_searchB se N S0 a0 x1 x2 x3 x4 = some (r, S9)) : MetI l yX3_search wsX3_search rmR D C S0 z [.ref a0, .int x1, .int x2, .int x3, .int x4] r S9 z 0 0 := by
  refine mw_ofW (cc := cX3_search) (maxL := 7) (ret := (some .int)) (lv := [(0, .ref a0), (1, .int x1), (2, .int x2), (3, .int x3), (4, .int x4)]) (by decide) rfl (Nat.le_of_ble_eq_true rfl) rfl ?_
  intro p e s m below meth c ls hx hb hr hts hown hlk hml hnm hl hw
  have hown : s.vm.findClass RX3 = some m.cls := hown
  have B99 : ∀ (S : Hp) (v5 : Int32) (v6 : Int32) (H : Heap) (locs : List Loc) (ls : Array Slot), f_X3_searchB_b99 se N a0 x1 x2 x3 x4 S v5 v6 = some (r, S9) → Wd D C (va_A (wP C S0) z) s.heap S z H locs s → lv_has ls 7 [(0, .ref a0), (5, .int v5), (6, .int v6)] → W p l e rmR s m ([.ref a0, .int x1, .int x2, .int x3, .int x4] : List Value).toArray below meth c H locs 0 0 (MQ below (QiW D C S0 z r S9 z) ([.ref a0, .int x1, .int x2, .int x3, .int x4] : List Value).toArray s 0 0 (va_A (wP C S0) z)) (F0 m 99 ls []) := by
    intro S v5 v6 H locs ls hg hw hl
    unfold f_X3_searchB_b99 at hg
    refine lv_aload_n hx hb dX3_search_99 rfl (lv_at hl 0 rfl) ?_
    refine lv_iload hx hb dX3_search_100 (lv_at hl 1 rfl) ?_
    refine lv_iload hx hb dX3_search_102 (lv_at hl 2 rfl) ?_
    obtain ⟨hok28, hg⟩ := gd_some hg
    obtain ⟨⟨⟩, S29, hc29, hg⟩ := cl_some hg
    refine wr_cv (va_runV (As := [.int v5, .int v6]) (rest := []) ⟨hx, hb, hml, hown, hts⟩ (c_X3_keep l D C N S z a0 v5 v6 () S29 hc29) (cwV 2 hts gX3_search_X3_keep rfl rfl rfl (by decide +kernel) ⟨Nat.le_trans (Nat.le_of_ble_eq_true rfl) hR0.1, Nat.le_trans (Nat.le_of_ble_eq_true rfl) hR0.2⟩) (wd_preV hw hok28 (wF_3 (S := S) hok28.2) rfl) rfl rfl hl.1 rfl (lv_room (Nat.le_of_ble_eq_true rfl)) dX3_search_104 ⟨Nat.zero_le _, Nat.zero_le _⟩) hw (fun H locs hw => ?_)
    refine lv_iload hx hb dX3_search_107 (lv_at hl 2 rfl) ?_
    cases hg
    exact wr_iret hx hb hr hw dX3_search_109 hlk
  have B67 : ∀ (S : Hp) (v5 : Int32) (s0 : Int32) (H : Heap) (locs : List Loc) (ls : Array Slot), f_X3_searchB_b67 se N a0 x1 x2 x3 x4 S v5 s0 = some (r, S9) → Wd D C (va_A (wP C S0) z) s.heap S z H locs s → lv_has ls 7 [(0, .ref a0), (5, .int v5)] → W p l e rmR s m ([.ref a0, .int x1, .int x2, .int x3, .int x4] : List Value).toArray below meth c H locs 0 0 (MQ below (QiW D C S0 z r S9 z) ([.ref a0, .int x1, .int x2, .int x3, .int x4] : List Value).toArray s 0 0 (va_A (wP C S0) z)) (F0 m 67 ls [.int s0]) := by
    intro S v5 s0 H locs ls hg hw hl
    unfold f_X3_searchB_b67 at hg
    refine lv_istore (lv' := [(6, .int s0), (0, .ref a0), (5, .int v5)]) hx hb dX3_search_67 hl (by decide) rfl (fun ls hl => ?_)
    refine lv_goto (tgt := 99) hx hb dX3_search_69 (by decide) ?_
    exact B99 _ _ _ _ _ _ hg hw (lv_sub hl [1, 2, 0] rfl)
  have B0 : ∀ (S : Hp) (H : Heap) (locs : List Loc) (ls : Array Slot), f_X3_searchB se N S a0 x1 x2 x3 x4 = some (r, S9) → Wd D C (va_A (wP C S0) z) s.heap S z H locs s → lv_has ls 7 [(0, .ref a0), (1, .int x1), (2, .int x2), (3, .int x3), (4, .int x4)] → W p l e rmR s m ([.ref a0, .int x1, .int x2, .int x3, .int x4] : List Value).toArray below meth c H locs 0 0 (MQ below (QiW D C S0 z r S9 z) ([.ref a0, .int x1, .int x2, .int x3, .int x4] : List Value).toArray s 0 0 (va_A (wP C S0) z)) (F0 m 0 ls []) := by
    intro S H locs ls hg hw hl
    unfold f_X3_searchB at hg
    refine lv_iload hx hb dX3_search_0 (lv_at hl 4 rfl) ?_
    refine lv_bipush (v := (10 : Int32)) hx hb dX3_search_2 (by decide) ?_
    refine lv_icmp_le (tgt := 9) hx hb dX3_search_4 (by decide) (fun c10 => ?_) (fun c10 => ?_)
    · have hg := it_pos hg c10
      refine lv_aload_n hx hb dX3_search_9 rfl (lv_at hl 0 rfl) ?_
      refine lv_iload_n hx hb dX3_search_10 rfl (lv_at hl 1 rfl) ?_
      refine lv_iload_n hx hb dX3_search_11 rfl (lv_at hl 2 rfl) ?_
      obtain ⟨hok11, hg⟩ := gd_some hg
      obtain ⟨r12, S12, hc12, hg⟩ := cl_some hg
      refine wr_ci (va_runV (As := [.int x1, .int x2]) (rest := []) ⟨hx, hb, hml, hown, hts⟩ (c_X3_placeOf l D C N S z a0 x1 x2 r12 S12 hc12) (cwV 2 hts gX3_search_X3_placeOf rfl rfl rfl (by decide +kernel) ⟨Nat.le_trans (Nat.le_of_ble_eq_true rfl) hR0.1, Nat.le_trans (Nat.le_of_ble_eq_true rfl) hR0.2⟩) (wd_preV hw hok11 (wF_3 (S := S) hok11.2) rfl) rfl rfl hl.1 rfl (lv_room (Nat.le_of_ble_eq_true rfl)) dX3_search_12 ⟨Nat.zero_le _, Nat.zero_le _⟩) hw (fun H locs hw => ?_)
      refine lv_istore (lv' := [(5, .int r12), (0, .ref a0), (1, .int x1), (2, .int x2), (3, .int x3), (4, .int x4)]) hx hb dX3_search_15 hl (by decide) rfl (fun ls hl => ?_)
      refine lv_aload_n hx hb dX3_search_17 rfl (lv_at hl 1 rfl) ?_
      refine lv_iload hx hb dX3_search_18 (lv_at hl 0 rfl) ?_
      obtain ⟨hok13, hg⟩ := gd_some hg
      obtain ⟨r14, S14, hc14, hg⟩ := cl_some hg
      refine wr_ci (va_runV (As := [.int r12]) (rest := []) ⟨hx, hb, hml, hown, hts⟩ (c_X3_recall l D C N S12 z a0 r12 r14 S14 hc14) (cwV 1 hts gX3_search_X3_recall rfl rfl rfl (by decide +kernel) ⟨Nat.le_trans (Nat.le_of_ble_eq_true rfl) hR0.1, Nat.le_trans (Nat.le_of_ble_eq_true rfl) hR0.2⟩) (wd_preV hw hok13 (wF_3 (S := S12) hok13.2) rfl) rfl rfl hl.1 rfl (lv_room (Nat.le_of_ble_eq_true rfl)) dX3_search_20 ⟨Nat.zero_le _, Nat.zero_le _⟩) hw (fun H locs hw => ?_)
      refine lv_istore (lv' := [(6, .int r14), (5, .int r12), (0, .ref a0), (1, .int x1), (2, .int x2), (3, .int x3), (4, .int x4)]) hx hb dX3_search_23 hl (by decide) rfl (fun ls hl => ?_)
      refine lv_iload hx hb dX3_search_25 (lv_at hl 0 rfl) ?_
      refine lv_bipush (v := (-2 : Int32)) hx hb dX3_search_27 (by decide) ?_
      refine lv_icmp_ne (tgt := 107) hx hb dX3_search_29 (by decide) (fun c15 => ?_) (fun c15 => ?_)
      · have hg := it_neg hg c15
        refine lv_iload hx hb dX3_search_107 (lv_at hl 0 rfl) ?_
        cases hg
        exact wr_iret hx hb hr hw dX3_search_109 hlk
      · have hg := it_pos hg c15
        refine lv_aload_n hx hb dX3_search_32 rfl (lv_at hl 2 rfl) ?_
        obtain ⟨hok16, hg⟩ := gd_some hg
        obtain ⟨r17, hr17, hg⟩ := nn_some hg
        refine wr_get (K := RX3) (T := TX3) (N := 6) (index := 12) (ref := "MakerLines$Solver") (v := .ref r17) hx hb hts hi_X3_search_X3 hown hw hok16 (wF_3 (S := S14) hok16.2) rfl 0 (by decide) (hts _ (List.mem_of_getElem? (i := 1) rfl)) (fun _ h9 => h9) (congrArg (fun o => some (va_rf o)) hr17) dX3_search_33 ?_
        refine lv_iload_n hx hb dX3_search_36 rfl (lv_at hl 3 rfl) ?_
        refine lv_iload_n hx hb dX3_search_37 rfl (lv_at hl 4 rfl) ?_
        obtain ⟨hok18, hg⟩ := gd_some hg
        obtain ⟨⟨⟩, S19, hc19, hg⟩ := cl_some hg
        refine wr_cv (va_runV (As := [.int x1, .int x2]) (rest := []) ⟨hx, hb, hml, hown, hts⟩ (c_X1_survey l D C N S14 z r17 x1 x2 () S19 hc19) (cwV 2 hts gX3_search_X1_survey rfl rfl rfl (by decide +kernel) ⟨Nat.le_trans (Nat.le_of_ble_eq_true rfl) hR0.1, Nat.le_trans (Nat.le_of_ble_eq_true rfl) hR0.2⟩) (wd_preV hw hok18 (wF_1 (S := S14) hok18.2) rfl) rfl rfl hl.1 rfl (lv_room (Nat.le_of_ble_eq_true rfl)) dX3_search_38 ⟨Nat.zero_le _, Nat.zero_le _⟩) hw (fun H locs hw => ?_)
        refine lv_aload_n hx hb dX3_search_41 rfl (lv_at hl 2 rfl) ?_
        obtain ⟨hok20, hg⟩ := gd_some hg
        obtain ⟨r21, hr21, hg⟩ := nn_some hg
        refine wr_get (K := RX3) (T := TX3) (N := 6) (index := 12) (ref := "MakerLines$Solver") (v := .ref r21) hx hb hts hi_X3_search_X3 hown hw hok20 (wF_3 (S := S19) hok20.2) rfl 0 (by decide) (hts _ (List.mem_of_getElem? (i := 1) rfl)) (fun _ h9 => h9) (congrArg (fun o => some (va_rf o)) hr21) dX3_search_42 ?_
        obtain ⟨hok22, hg⟩ := gd_some hg
        refine wr_get (K := RX1) (T := TX1) (N := 6) (index := 92) (ref := "MakerLines$Lines") (v := .int (hI S19 r21 2)) hx hb hts hi_X3_search_X1 hown hw hok22 (wF_1 (S := S19) hok22.2) rfl 2 (by decide) (hts _ (List.mem_of_getElem? (i := 2) rfl)) (fun _ h9 => h9) rfl dX3_search_45 ?_
        refine lv_if_eq (tgt := 72) hx hb dX3_search_48 (by decide) (fun c23 => ?_) (fun c23 => ?_)
        · have hg := it_pos hg c23
          refine lv_iload_n hx hb dX3_search_72 rfl (lv_at hl 5 rfl) ?_
          refine lv_if_eq (tgt := 89) hx hb dX3_search_73 (by decide) (fun c24 => ?_) (fun c24 => ?_)
          · have hg := it_pos hg c24
            refine lv_aload_n hx hb dX3_search_89 rfl (lv_at hl 2 rfl) ?_
            refine lv_iload_n hx hb dX3_search_90 rfl (lv_at hl 3 rfl) ?_
            refine lv_iload_n hx hb dX3_search_91 rfl (lv_at hl 4 rfl) ?_
            refine lv_iload hx hb dX3_search_92 (lv_at hl 6 rfl) ?_
            obtain ⟨r25, S25, hc25, hg⟩ := cl_some hg
            refine wr_ci (va_runV (As := [.int x1, .int x2, .int x4]) (rest := []) ⟨hx, hb, hml, hown, hts⟩ (hlo S19 z a0 x1 x2 x4 r25 S25 hc25) (cwV 3 hts gX3_search_X3_longest rfl hRL.1 hRL.2.1 (by decide +kernel) hRL.2.2) (wd_preV hw hok20 (wF_3 (S := S19) hok20.2) rfl) rfl rfl hl.1 rfl (lv_room (Nat.le_of_ble_eq_true rfl)) dX3_search_94 ⟨Nat.zero_le _, Nat.zero_le _⟩) hw (fun H locs hw => ?_)
            refine lv_istore (lv' := [(6, .int r25), (5, .int r12), (0, .ref a0), (1, .int x1), (2, .int x2), (3, .int x3), (4, .int x4)]) hx hb dX3_search_97 hl (by decide) rfl (fun ls hl => ?_)
            exact B99 _ _ _ _ _ _ hg hw (lv_sub hl [2, 1, 0] rfl)
          · have hg := it_neg hg c24
            refine lv_aload_n hx hb dX3_search_76 rfl (lv_at hl 2 rfl) ?_
            refine lv_iload_n hx hb dX3_search_77 rfl (lv_at hl 3 rfl) ?_
            refine lv_iload_n hx hb dX3_search_78 rfl (lv_at hl 4 rfl) ?_
            refine lv_iload hx hb dX3_search_79 (lv_at hl 6 rfl) ?_
            obtain ⟨r26, S26, hc26, hg⟩ := cl_some hg
            refine wr_ci (va_runV (As := [.int x1, .int x2, .int x4]) (rest := []) ⟨hx, hb, hml, hown, hts⟩ (hsh S19 z a0 x1 x2 x4 r26 S26 hc26) (cwV 3 hts gX3_search_X3_shortest rfl hRH.1 hRH.2.1 (by decide +kernel) hRH.2.2) (wd_preV hw hok20 (wF_3 (S := S19) hok20.2) rfl) rfl rfl hl.1 rfl (lv_room (Nat.le_of_ble_eq_true rfl)) dX3_search_81 ⟨Nat.zero_le _, Nat.zero_le _⟩) hw (fun H locs hw => ?_)
            refine lv_istore (lv' := [(6, .int r26), (5, .int r12), (0, .ref a0), (1, .int x1), (2, .int x2), (3, .int x3), (4, .int x4)]) hx hb dX3_search_84 hl (by decide) rfl (fun ls hl => ?_)
            refine lv_goto (tgt := 99) hx hb dX3_search_86 (by decide) ?_
            exact B99 _ _ _ _ _ _ hg hw (lv_sub hl [2, 1, 0] rfl)
        · have hg := it_neg hg c23
          refine lv_aload_n hx hb dX3_search_51 rfl (lv_at hl 2 rfl) ?_
          refine wr_get (K := RX3) (T := TX3) (N := 6) (index := 12) (ref := "MakerLines$Solver") (v := .ref r21) hx hb hts hi_X3_search_X3 hown hw hok20 (wF_3 (S := S19) hok20.2) rfl 0 (by decide) (hts _ (List.mem_of_getElem? (i := 1) rfl)) (fun _ h9 => h9) (congrArg (fun o => some (va_rf o)) hr21) dX3_search_52 ?_
          refine wr_get (K := RX1) (T := TX1) (N := 6) (index := 92) (ref := "MakerLines$Lines") (v := .int (hI S19 r21 2)) hx hb hts hi_X3_search_X1 hown hw hok22 (wF_1 (S := S19) hok22.2) rfl 2 (by decide) (hts _ (List.mem_of_getElem? (i := 2) rfl)) (fun _ h9 => h9) rfl dX3_search_55 ?_
          refine lv_iconst (v := (1 : Int32)) hx hb dX3_search_58 (by decide) ?_
          refine lv_icmp_ne (tgt := 66) hx hb dX3_search_59 (by decide) (fun c27 => ?_) (fun c27 => ?_)
          · have hg := it_neg hg c27
            refine lv_iconst (v := (-1 : Int32)) hx hb dX3_search_66 (by decide) ?_
            exact B67 _ _ _ _ _ _ hg hw (lv_sub hl [2, 1] rfl)
          · have hg := it_pos hg c27
            refine lv_iconst (v := (0 : Int32)) hx hb dX3_search_62 (by decide) ?_
            refine lv_goto (tgt := 67) hx hb dX3_search_63 (by decide) ?_
            exact B67 _ _ _ _ _ _ hg hw (lv_sub hl [2, 1] rfl)
    · have hg := it_neg hg c10
      refine lv_iconst (v := (-1 : Int32)) hx hb dX3_search_7 (by decide) ?_
      cases hg
      exact wr_iret hx hb hr hw dX3_search_8 hlk
  exact B0 S0 _ _ _ hg hw hl
abbrev rmSE (d : Nat) : Room := { frames := 2 * d + 2, cells := 0, slots := 0, locals := 100 * d + 96 }
abbrev rmSH (d : Nat) : Room := { frames := 2 * d + 3, cells := 0, slots := 0, locals := 100 * d + 146 }
theorem c_X3_searchD (l : Launch) (D : va_G) (C : C3) (N : Nat) : ∀ (d : Nat) (S0 : Hp) (z : Nat) (a0 : Nat) (x1 x2 x3 x4 : Int32) (r : Int32) (S9 : Hp), f_X3_searchD N d S0 a0 x1 x2 x3 x4 = some (r, S9) → MetI l yX3_search wsX3_search (rmSE d) D C S0 z [.ref a0, .int x1, .int x2, .int x3, .int x4] r S9 z 0 0 := by
  intro d
  induction d with
  | zero => intro S0 z a0 x1 x2 x3 x4 r S9 hg; exact absurd (show (none : Option (Int32 × Hp)) = some (r, S9) from hg) (by simp)
  | succ d ih =>
    intro S0 z a0 x1 x2 x3 x4 r S9 hg
    refine c_X3_searchB l D C (f_X3_searchD N d) (rmSE (d + 1)) N S0 z a0 x1 x2 x3 x4 r S9 (rmSH d) (rmSH d) (fun S z a0 x1 x2 x3 r S9 h => c_X3_shortest l D C (f_X3_searchD N d) (rmSH d) N S z a0 x1 x2 x3 r S9 (rmSE d) ih ⟨rfl, rfl, ?_, ?_⟩ ⟨?_, ?_⟩ h) (fun S z a0 x1 x2 x3 r S9 h => c_X3_longest l D C (f_X3_searchD N d) (rmSH d) N S z a0 x1 x2 x3 r S9 (rmSE d) ih ⟨rfl, rfl, ?_, ?_⟩ ⟨?_, ?_⟩ h) ⟨rfl, rfl, ?_, ?_⟩ ⟨rfl, rfl, ?_, ?_⟩ ⟨?_, ?_⟩ hg <;> (simp only []; omega)
abbrev rm_X3_search : Room := rmSE 13
theorem c_X3_search (l : Launch) (D : va_G) (C : C3) (N : Nat) (S0 : Hp) (z : Nat) (a0 : Nat) (x1 x2 x3 x4 : Int32) (r : Int32) (S9 : Hp) (hg : f_X3_search N S0 a0 x1 x2 x3 x4 = some (r, S9)) : MetI l yX3_search wsX3_search rm_X3_search D C S0 z [.ref a0, .int x1, .int x2, .int x3, .int x4] r S9 z 0 0 := c_X3_searchD l D C N 13 S0 z a0 x1 x2 x3 x4 r S9 hg
theorem hi_X3_lengthOf_X4 : ∀ w ∈ wsX40, w ∈ wsX3_lengthOf := fun _ h => List.mem_cons_of_mem _ (List.mem_append_left _ (List.mem_append_left _ (List.mem_append_right _ (h))))
abbrev rm_X3_lengthOf : Room := { frames := 29, cells := 0, slots := 0, locals := 1422 }
set_option maxHeartbeats 4000000 in
set_option maxRecDepth 100000 in
theorem c_X3_lengthOf (l : Launch) (D : va_G) (C : C3) (N : Nat) (S0 : Hp) (z : Nat) (a0 : Nat) (a1 : Nat) (r : Int32) (S9 : Hp) (hg : f_X3_lengthOf N S0 a0 a1 = some (r, S9)) : MetI l yX3_lengthOf wsX3_lengthOf rm_X3_lengthOf D C S0 z [.ref a0, .ref a1] r S9 z 0 0 := by
  refine mw_ofW (cc := cX3_lengthOf) (maxL := 2) (ret := (some .int)) (lv := [(0, .ref a0), (1, .ref a1)]) (by decide) rfl (Nat.le_of_ble_eq_true rfl) rfl ?_
  intro p e s m below meth c ls hx hb hr hts hown hlk hml hnm hl hw
  have hown : s.vm.findClass RX3 = some m.cls := hown
  have B0 : ∀ (S : Hp) (H : Heap) (locs : List Loc) (ls : Array Slot), f_X3_lengthOf N S a0 a1 = some (r, S9) → Wd D C (va_A (wP C S0) z) s.heap S z H locs s → lv_has ls 2 [(0, .ref a0), (1, .ref a1)] → W p l e rm_X3_lengthOf s m ([.ref a0, .ref a1] : List Value).toArray below meth c H locs 0 0 (MQ below (QiW D C S0 z r S9 z) ([.ref a0, .ref a1] : List Value).toArray s 0 0 (va_A (wP C S0) z)) (F0 m 0 ls []) := by
    intro S H locs ls hg hw hl
    unfold f_X3_lengthOf at hg
    refine lv_aload_n hx hb dX3_lengthOf_0 rfl (lv_at hl 0 rfl) ?_
    refine lv_aload_n hx hb dX3_lengthOf_1 rfl (lv_at hl 1 rfl) ?_
    obtain ⟨hok10, hg⟩ := gd_some hg
    obtain ⟨⟨⟩, S11, hc11, hg⟩ := cl_some hg
    refine wr_cv (va_runV (As := [.ref a1]) (rest := []) ⟨hx, hb, hml, hown, hts⟩ (c_X3_prepare l D C N S z a0 a1 () S11 hc11) (cwV 1 hts gX3_lengthOf_X3_prepare rfl rfl rfl (by decide +kernel) ⟨Nat.le_of_ble_eq_true rfl, Nat.le_of_ble_eq_true rfl⟩) (wd_preV hw hok10 (wF_3 (S := S) hok10.2) rfl) rfl rfl hl.1 rfl (lv_room (Nat.le_of_ble_eq_true rfl)) dX3_lengthOf_2 ⟨Nat.zero_le _, Nat.zero_le _⟩) hw (fun H locs hw => ?_)
    refine lv_aload_n hx hb dX3_lengthOf_5 rfl (lv_at hl 0 rfl) ?_
    refine lv_aload_n hx hb dX3_lengthOf_6 rfl (lv_at hl 1 rfl) ?_
    obtain ⟨hok12, hg⟩ := gd_some hg
    refine wr_get (K := RX4) (T := TX4) (N := 10) (index := 41) (ref := "MakerLines$State") (v := .int (hI S11 a1 2)) hx hb hts hi_X3_lengthOf_X4 hown hw hok12 (wF_4 (S := S11) hok12.2) rfl 2 (by decide) (hts _ (List.mem_of_getElem? (i := 1) rfl)) (fun _ h9 => h9) rfl dX3_lengthOf_7 ?_
    refine lv_aload_n hx hb dX3_lengthOf_10 rfl (lv_at hl 1 rfl) ?_
    refine wr_get (K := RX4) (T := TX4) (N := 10) (index := 46) (ref := "MakerLines$State") (v := .int (hI S11 a1 3)) hx hb hts hi_X3_lengthOf_X4 hown hw hok12 (wF_4 (S := S11) hok12.2) rfl 3 (by decide) (hts _ (List.mem_of_getElem? (i := 2) rfl)) (fun _ h9 => h9) rfl dX3_lengthOf_11 ?_
    refine lv_aload_n hx hb dX3_lengthOf_14 rfl (lv_at hl 1 rfl) ?_
    refine wr_get (K := RX4) (T := TX4) (N := 10) (index := 49) (ref := "MakerLines$State") (v := .int (hI S11 a1 4)) hx hb hts hi_X3_lengthOf_X4 hown hw hok12 (wF_4 (S := S11) hok12.2) rfl 4 (by decide) (hts _ (List.mem_of_getElem? (i := 3) rfl)) (fun _ h9 => h9) rfl dX3_lengthOf_15 ?_
    refine lv_iconst (v := (0 : Int32)) hx hb dX3_lengthOf_18 (by decide) ?_
    obtain ⟨hok13, hg⟩ := gd_some hg
    obtain ⟨r14, S14, hc14, hg⟩ := cl_some hg
    refine wr_ci (va_runV (As := [.int (hI S11 a1 2), .int (hI S11 a1 3), .int (hI S11 a1 4), .int (0 : Int32)]) (rest := []) ⟨hx, hb, hml, hown, hts⟩ (c_X3_search l D C N S11 z a0 ((hI S11 a1 2)) ((hI S11 a1 3)) ((hI S11 a1 4)) ((0 : Int32)) r14 S14 hc14) (cwV 4 hts gX3_lengthOf_X3_search rfl rfl rfl (by decide +kernel) ⟨Nat.le_of_ble_eq_true rfl, Nat.le_of_ble_eq_true rfl⟩) (wd_preV hw hok13 (wF_3 (S := S11) hok13.2) rfl) rfl rfl hl.1 rfl (lv_room (Nat.le_of_ble_eq_true rfl)) dX3_lengthOf_19 ⟨Nat.zero_le _, Nat.zero_le _⟩) hw (fun H locs hw => ?_)
    cases hg
    exact wr_iret hx hb hr hw dX3_lengthOf_22 hlk
  exact B0 S0 _ _ _ hg hw hl
theorem hi_X4_freeCells_X4 : ∀ w ∈ wsX40, w ∈ wsX4_freeCells := fun _ h => List.mem_cons_of_mem _ (List.mem_append_right _ (h))
abbrev rm_X4_freeCells : Room := { frames := 1, cells := 0, slots := 0, locals := 20 }
set_option maxHeartbeats 4000000 in
set_option maxRecDepth 100000 in
theorem c_X4_freeCells (l : Launch) (D : va_G) (C : C3) (N : Nat) (S0 : Hp) (z : Nat) (a0 : Nat) (r : Int32) (S9 : Hp) (hg : f_X4_freeCells N S0 a0 = some (r, S9)) : MetI l yX4_freeCells wsX4_freeCells rm_X4_freeCells D C S0 z [.ref a0] r S9 z 0 0 := by
  refine mw_ofW (cc := cX4_freeCells) (maxL := 1) (ret := (some .int)) (lv := [(0, .ref a0)]) (by decide) rfl (Nat.le_of_ble_eq_true rfl) rfl ?_
  intro p e s m below meth c ls hx hb hr hts hown hlk hml hnm hl hw
  have hown : s.vm.findClass RX4 = some m.cls := hown
  have B0 : ∀ (S : Hp) (H : Heap) (locs : List Loc) (ls : Array Slot), f_X4_freeCells N S a0 = some (r, S9) → Wd D C (va_A (wP C S0) z) s.heap S z H locs s → lv_has ls 1 [(0, .ref a0)] → W p l e rm_X4_freeCells s m ([.ref a0] : List Value).toArray below meth c H locs 0 0 (MQ below (QiW D C S0 z r S9 z) ([.ref a0] : List Value).toArray s 0 0 (va_A (wP C S0) z)) (F0 m 0 ls []) := by
    intro S H locs ls hg hw hl
    unfold f_X4_freeCells at hg
    refine lv_aload_n hx hb dX4_freeCells_0 rfl (lv_at hl 0 rfl) ?_
    obtain ⟨hok10, hg⟩ := gd_some hg
    obtain ⟨r11, S11, hc11, hg⟩ := cl_some hg
    refine wr_ci (va_runV (As := []) (rest := []) ⟨hx, hb, hml, hown, hts⟩ (c_X4_allCells l D C N S z a0 r11 S11 hc11) (cwV 0 hts gX4_freeCells_X4_allCells rfl rfl rfl (by decide +kernel) ⟨Nat.le_of_ble_eq_true rfl, Nat.le_of_ble_eq_true rfl⟩) (wd_preV hw hok10 (wF_4 (S := S) hok10.2) rfl) rfl rfl hl.1 rfl (lv_room (Nat.le_of_ble_eq_true rfl)) dX4_freeCells_1 ⟨Nat.zero_le _, Nat.zero_le _⟩) hw (fun H locs hw => ?_)
    refine lv_aload_n hx hb dX4_freeCells_4 rfl (lv_at hl 0 rfl) ?_
    obtain ⟨hok12, hg⟩ := gd_some hg
    refine wr_get (K := RX4) (T := TX4) (N := 10) (index := 22) (ref := "MakerLines$State") (v := .int (hI S11 a0 2)) hx hb hts hi_X4_freeCells_X4 hown hw hok12 (wF_4 (S := S11) hok12.2) rfl 2 (by decide) (hts _ (List.mem_of_getElem? (i := 1) rfl)) (fun _ h9 => h9) rfl dX4_freeCells_5 ?_
    refine lv_aload_n hx hb dX4_freeCells_8 rfl (lv_at hl 0 rfl) ?_
    refine wr_get (K := RX4) (T := TX4) (N := 10) (index := 25) (ref := "MakerLines$State") (v := .int (hI S11 a0 3)) hx hb hts hi_X4_freeCells_X4 hown hw hok12 (wF_4 (S := S11) hok12.2) rfl 3 (by decide) (hts _ (List.mem_of_getElem? (i := 2) rfl)) (fun _ h9 => h9) rfl dX4_freeCells_9 ?_
    refine lv_ior hx hb dX4_freeCells_12 ?_
    refine lv_iconst (v := (-1 : Int32)) hx hb dX4_freeCells_13 (by decide) ?_
    refine lv_ixor hx hb dX4_freeCells_14 ?_
    refine lv_iand hx hb dX4_freeCells_15 ?_
    cases hg
    exact wr_iret hx hb hr hw dX4_freeCells_16 hlk
  exact B0 S0 _ _ _ hg hw hl
abbrev rm_X3_rankOf : Room := { frames := 0, cells := 0, slots := 0, locals := 0 }
set_option maxHeartbeats 4000000 in
set_option maxRecDepth 100000 in
theorem c_X3_rankOf (l : Launch) (D : va_G) (C : C3) (N : Nat) (S0 : Hp) (z : Nat) (x0 : Int32) (x1 : Int32) (r : Int32) (S9 : Hp) (hg : f_X3_rankOf N S0 x0 x1 = some (r, S9)) : MetI l yX3_rankOf wsX3_rankOf rm_X3_rankOf D C S0 z [.int x0, .int x1] r S9 z 0 0 := by
  refine mw_ofW (cc := cX3_rankOf) (maxL := 2) (ret := (some .int)) (lv := [(0, .int x0), (1, .int x1)]) (by decide) rfl (Nat.le_of_ble_eq_true rfl) rfl ?_
  intro p e s m below meth c ls hx hb hr hts hown hlk hml hnm hl hw
  have hown : s.vm.findClass RX3 = some m.cls := hown
  have B0 : ∀ (S : Hp) (H : Heap) (locs : List Loc) (ls : Array Slot), f_X3_rankOf N S x0 x1 = some (r, S9) → Wd D C (va_A (wP C S0) z) s.heap S z H locs s → lv_has ls 2 [(0, .int x0), (1, .int x1)] → W p l e rm_X3_rankOf s m ([.int x0, .int x1] : List Value).toArray below meth c H locs 0 0 (MQ below (QiW D C S0 z r S9 z) ([.int x0, .int x1] : List Value).toArray s 0 0 (va_A (wP C S0) z)) (F0 m 0 ls []) := by
    intro S H locs ls hg hw hl
    unfold f_X3_rankOf at hg
    refine lv_iload_n hx hb dX3_rankOf_0 rfl (lv_at hl 1 rfl) ?_
    refine lv_if_eq (tgt := 18) hx hb dX3_rankOf_1 (by decide) (fun c10 => ?_) (fun c10 => ?_)
    · have hg := it_pos hg c10
      refine lv_iload_n hx hb dX3_rankOf_18 rfl (lv_at hl 0 rfl) ?_
      refine lv_iconst (v := (-1 : Int32)) hx hb dX3_rankOf_19 (by decide) ?_
      refine lv_icmp_ne (tgt := 28) hx hb dX3_rankOf_20 (by decide) (fun c11 => ?_) (fun c11 => ?_)
      · have hg := it_neg hg c11
        refine lv_iload_n hx hb dX3_rankOf_28 rfl (lv_at hl 0 rfl) ?_
        cases hg
        exact wr_iret hx hb hr hw dX3_rankOf_29 hlk
      · have hg := it_pos hg c11
        refine lv_bipush (v := (100 : Int32)) hx hb dX3_rankOf_23 (by decide) ?_
        refine lv_goto (tgt := 29) hx hb dX3_rankOf_25 (by decide) ?_
        cases hg
        exact wr_iret hx hb hr hw dX3_rankOf_29 hlk
    · have hg := it_neg hg c10
      refine lv_iload_n hx hb dX3_rankOf_4 rfl (lv_at hl 0 rfl) ?_
      refine lv_iconst (v := (-1 : Int32)) hx hb dX3_rankOf_5 (by decide) ?_
      refine lv_icmp_ne (tgt := 13) hx hb dX3_rankOf_6 (by decide) (fun c12 => ?_) (fun c12 => ?_)
      · have hg := it_neg hg c12
        refine lv_bipush (v := (100 : Int32)) hx hb dX3_rankOf_13 (by decide) ?_
        refine lv_iload_n hx hb dX3_rankOf_15 rfl (lv_at hl 0 rfl) ?_
        refine lv_isub hx hb dX3_rankOf_16 ?_
        cases hg
        exact wr_iret hx hb hr hw dX3_rankOf_17 hlk
      · have hg := it_pos hg c12
        refine lv_iconst (v := (0 : Int32)) hx hb dX3_rankOf_9 (by decide) ?_
        refine lv_goto (tgt := 17) hx hb dX3_rankOf_10 (by decide) ?_
        cases hg
        exact wr_iret hx hb hr hw dX3_rankOf_17 hlk
  exact B0 S0 _ _ _ hg hw hl
theorem hi_X3_bestMove_X4 : ∀ w ∈ wsX40, w ∈ wsX3_bestMove := fun _ h => List.mem_cons_of_mem _ (List.mem_append_left _ (List.mem_append_left _ (List.mem_append_right _ (h))))
abbrev rm_X3_bestMove : Room := { frames := 29, cells := 0, slots := 0, locals := 1422 }
set_option maxHeartbeats 4000000 in
set_option maxRecDepth 100000 in
theorem c_X3_bestMove (l : Launch) (D : va_G) (C : C3) (N : Nat) (S0 : Hp) (z : Nat) (a0 : Nat) (a1 : Nat) (r : Int32) (S9 : Hp) (hg : f_X3_bestMove N S0 a0 a1 = some (r, S9)) : MetI l yX3_bestMove wsX3_bestMove rm_X3_bestMove D C S0 z [.ref a0, .ref a1] r S9 z 0 0 := by
  refine mw_ofW (cc := cX3_bestMove) (maxL := 11) (ret := (some .int)) (lv := [(0, .ref a0), (1, .ref a1)]) (by decide) rfl (Nat.le_of_ble_eq_true rfl) rfl ?_
  intro p e s m below meth c ls hx hb hr hts hown hlk hml hnm hl hw
  have hown : s.vm.findClass RX3 = some m.cls := hown
  have B98 : ∀ (K24 : Hp → Int32 → Int32 → Int32 → Int32 → Int32 → Option (Int32 × Hp)) (hK24 : ∀ (S : Hp) (v2 : Int32) (v3 : Int32) (v4 : Int32) (v5 : Int32) (v6 : Int32) (H : Heap) (locs : List Loc) (ls : Array Slot), K24 S v2 v3 v4 v5 v6 = some (r, S9) → Wd D C (va_A (wP C S0) z) s.heap S z H locs s → lv_has ls 11 [(0, .ref a0), (1, .ref a1), (2, .int v2), (3, .int v3), (4, .int v4), (5, .int v5), (6, .int v6)] → W p l e rm_X3_bestMove s m ([.ref a0, .ref a1] : List Value).toArray below meth c H locs 0 0 (MQ below (QiW D C S0 z r S9 z) ([.ref a0, .ref a1] : List Value).toArray s 0 0 (va_A (wP C S0) z)) (F0 m 24 ls [])) (S : Hp) (v2 : Int32) (v3 : Int32) (v4 : Int32) (v5 : Int32) (v6 : Int32) (s0 : Int32) (s1 : Int32) (s2 : Int32) (s3 : Nat) (H : Heap) (locs : List Loc) (ls : Array Slot), f_X3_bestMove_b98 N a0 a1 K24 S v2 v3 v4 v5 v6 s0 s1 s2 s3 = some (r, S9) → Wd D C (va_A (wP C S0) z) s.heap S z H locs s → lv_has ls 11 [(0, .ref a0), (1, .ref a1), (2, .int v2), (3, .int v3), (4, .int v4), (5, .int v5), (6, .int v6)] → W p l e rm_X3_bestMove s m ([.ref a0, .ref a1] : List Value).toArray below meth c H locs 0 0 (MQ below (QiW D C S0 z r S9 z) ([.ref a0, .ref a1] : List Value).toArray s 0 0 (va_A (wP C S0) z)) (F0 m 98 ls [.int s0, .int s1, .int s2, .ref s3]) := by
    intro K24 hK24 S v2 v3 v4 v5 v6 s0 s1 s2 s3 H locs ls hg hw hl
    unfold f_X3_bestMove_b98 at hg
    refine lv_iconst (v := (1 : Int32)) hx hb dX3_bestMove_98 (by decide) ?_
    obtain ⟨hok24, hg⟩ := gd_some hg
    obtain ⟨r25, S25, hc25, hg⟩ := cl_some hg
    refine wr_ci (va_runV (As := [.int s2, .int s1, .int s0, .int (1 : Int32)]) (rest := []) ⟨hx, hb, hml, hown, hts⟩ (c_X3_search l D C N S z s3 s2 s1 s0 ((1 : Int32)) r25 S25 hc25) (cwV 4 hts gX3_bestMove_X3_search rfl rfl rfl (by decide +kernel) ⟨Nat.le_of_ble_eq_true rfl, Nat.le_of_ble_eq_true rfl⟩) (wd_preV hw hok24 (wF_3 (S := S) hok24.2) rfl) rfl rfl hl.1 rfl (lv_room (Nat.le_of_ble_eq_true rfl)) dX3_bestMove_99 ⟨Nat.zero_le _, Nat.zero_le _⟩) hw (fun H locs hw => ?_)
    refine lv_iload_n hx hb dX3_bestMove_102 rfl (lv_at hl 2 rfl) ?_
    obtain ⟨r26, S26, hc26, hg⟩ := cl_some hg
    refine wr_ci (va_runS (As := [.int r25, .int v2]) (rest := []) ⟨hx, hb, hml, hown, hts⟩ (c_X3_rankOf l D C N S25 z r25 v2 r26 S26 hc26) (va_cwS 2 hts gX3_bestMove_X3_rankOf rfl rfl rfl (by decide +kernel) ⟨Nat.le_of_ble_eq_true rfl, Nat.le_of_ble_eq_true rfl⟩) (wd_preS hw) rfl rfl hl.1 rfl (lv_room (Nat.le_of_ble_eq_true rfl)) dX3_bestMove_103 ⟨Nat.zero_le _, Nat.zero_le _⟩) hw (fun H locs hw => ?_)
    refine lv_istore (lv' := [(10, .int r26), (0, .ref a0), (1, .ref a1), (2, .int v2), (3, .int v3), (4, .int v4), (5, .int v5), (6, .int v6)]) hx hb dX3_bestMove_106 hl (by decide) rfl (fun ls hl => ?_)
    refine lv_iload hx hb dX3_bestMove_108 (lv_at hl 0 rfl) ?_
    refine lv_iload hx hb dX3_bestMove_110 (lv_at hl 6 rfl) ?_
    refine lv_icmp_le (tgt := 123) hx hb dX3_bestMove_112 (by decide) (fun c27 => ?_) (fun c27 => ?_)
    · have hg := it_pos hg c27
      refine lv_iinc (v := (v6 + (1 : Int32))) (lv' := [(6, .int (v6 + (1 : Int32))), (10, .int r26), (0, .ref a0), (1, .ref a1), (2, .int v2), (3, .int v3), (4, .int v4), (5, .int v5)]) hx hb dX3_bestMove_123 hl (k := 7) rfl rfl (by decide) rfl (fun ls hl => ?_)
      refine lv_goto (tgt := 24) hx hb dX3_bestMove_126 (by decide) ?_
      exact hK24 _ _ _ _ _ _ _ _ _ hg hw (lv_sub hl [2, 3, 4, 5, 6, 7, 0] rfl)
    · have hg := it_neg hg c27
      refine lv_iload hx hb dX3_bestMove_115 (lv_at hl 0 rfl) ?_
      refine lv_istore (lv' := [(5, .int r26), (10, .int r26), (0, .ref a0), (1, .ref a1), (2, .int v2), (3, .int v3), (4, .int v4), (6, .int v6)]) hx hb dX3_bestMove_117 hl (by decide) rfl (fun ls hl => ?_)
      refine lv_iload hx hb dX3_bestMove_119 (lv_at hl 7 rfl) ?_
      refine lv_istore (lv' := [(4, .int v6), (5, .int r26), (10, .int r26), (0, .ref a0), (1, .ref a1), (2, .int v2), (3, .int v3), (6, .int v6)]) hx hb dX3_bestMove_121 hl (by decide) rfl (fun ls hl => ?_)
      refine lv_iinc (v := (v6 + (1 : Int32))) (lv' := [(6, .int (v6 + (1 : Int32))), (4, .int v6), (5, .int r26), (10, .int r26), (0, .ref a0), (1, .ref a1), (2, .int v2), (3, .int v3)]) hx hb dX3_bestMove_123 hl (k := 7) rfl rfl (by decide) rfl (fun ls hl => ?_)
      refine lv_goto (tgt := 24) hx hb dX3_bestMove_126 (by decide) ?_
      exact hK24 _ _ _ _ _ _ _ _ _ hg hw (lv_sub hl [4, 5, 6, 7, 1, 2, 0] rfl)
  have B82 : ∀ (K24 : Hp → Int32 → Int32 → Int32 → Int32 → Int32 → Option (Int32 × Hp)) (hK24 : ∀ (S : Hp) (v2 : Int32) (v3 : Int32) (v4 : Int32) (v5 : Int32) (v6 : Int32) (H : Heap) (locs : List Loc) (ls : Array Slot), K24 S v2 v3 v4 v5 v6 = some (r, S9) → Wd D C (va_A (wP C S0) z) s.heap S z H locs s → lv_has ls 11 [(0, .ref a0), (1, .ref a1), (2, .int v2), (3, .int v3), (4, .int v4), (5, .int v5), (6, .int v6)] → W p l e rm_X3_bestMove s m ([.ref a0, .ref a1] : List Value).toArray below meth c H locs 0 0 (MQ below (QiW D C S0 z r S9 z) ([.ref a0, .ref a1] : List Value).toArray s 0 0 (va_A (wP C S0) z)) (F0 m 24 ls [])) (S : Hp) (v2 : Int32) (v3 : Int32) (v4 : Int32) (v5 : Int32) (v6 : Int32) (v8 : Int32) (s0 : Int32) (H : Heap) (locs : List Loc) (ls : Array Slot), f_X3_bestMove_b82 N a0 a1 K24 S v2 v3 v4 v5 v6 v8 s0 = some (r, S9) → Wd D C (va_A (wP C S0) z) s.heap S z H locs s → lv_has ls 11 [(0, .ref a0), (1, .ref a1), (2, .int v2), (3, .int v3), (4, .int v4), (5, .int v5), (6, .int v6), (8, .int v8)] → W p l e rm_X3_bestMove s m ([.ref a0, .ref a1] : List Value).toArray below meth c H locs 0 0 (MQ below (QiW D C S0 z r S9 z) ([.ref a0, .ref a1] : List Value).toArray s 0 0 (va_A (wP C S0) z)) (F0 m 82 ls [.int s0]) := by
    intro K24 hK24 S v2 v3 v4 v5 v6 v8 s0 H locs ls hg hw hl
    unfold f_X3_bestMove_b82 at hg
    refine lv_istore (lv' := [(9, .int s0), (0, .ref a0), (1, .ref a1), (2, .int v2), (3, .int v3), (4, .int v4), (5, .int v5), (6, .int v6), (8, .int v8)]) hx hb dX3_bestMove_82 hl (by decide) rfl (fun ls hl => ?_)
    refine lv_aload_n hx hb dX3_bestMove_84 rfl (lv_at hl 1 rfl) ?_
    refine lv_iload hx hb dX3_bestMove_85 (lv_at hl 8 rfl) ?_
    refine lv_iload hx hb dX3_bestMove_87 (lv_at hl 0 rfl) ?_
    refine lv_iload_n hx hb dX3_bestMove_89 rfl (lv_at hl 3 rfl) ?_
    refine lv_if_ne (tgt := 97) hx hb dX3_bestMove_90 (by decide) (fun c23 => ?_) (fun c23 => ?_)
    · have hg := it_neg hg c23
      refine lv_iconst (v := (0 : Int32)) hx hb dX3_bestMove_97 (by decide) ?_
      exact B98 K24 hK24 _ _ _ _ _ _ _ _ _ _ _ _ _ hg hw (lv_sub hl [1, 2, 3, 4, 5, 6, 7] rfl)
    · have hg := it_pos hg c23
      refine lv_iconst (v := (1 : Int32)) hx hb dX3_bestMove_93 (by decide) ?_
      refine lv_goto (tgt := 98) hx hb dX3_bestMove_94 (by decide) ?_
      exact B98 K24 hK24 _ _ _ _ _ _ _ _ _ _ _ _ _ hg hw (lv_sub hl [1, 2, 3, 4, 5, 6, 7] rfl)
  have B62 : ∀ (K24 : Hp → Int32 → Int32 → Int32 → Int32 → Int32 → Option (Int32 × Hp)) (hK24 : ∀ (S : Hp) (v2 : Int32) (v3 : Int32) (v4 : Int32) (v5 : Int32) (v6 : Int32) (H : Heap) (locs : List Loc) (ls : Array Slot), K24 S v2 v3 v4 v5 v6 = some (r, S9) → Wd D C (va_A (wP C S0) z) s.heap S z H locs s → lv_has ls 11 [(0, .ref a0), (1, .ref a1), (2, .int v2), (3, .int v3), (4, .int v4), (5, .int v5), (6, .int v6)] → W p l e rm_X3_bestMove s m ([.ref a0, .ref a1] : List Value).toArray below meth c H locs 0 0 (MQ below (QiW D C S0 z r S9 z) ([.ref a0, .ref a1] : List Value).toArray s 0 0 (va_A (wP C S0) z)) (F0 m 24 ls [])) (S : Hp) (v2 : Int32) (v3 : Int32) (v4 : Int32) (v5 : Int32) (v6 : Int32) (v7 : Int32) (s0 : Int32) (H : Heap) (locs : List Loc) (ls : Array Slot), f_X3_bestMove_b62 N a0 a1 K24 S v2 v3 v4 v5 v6 v7 s0 = some (r, S9) → Wd D C (va_A (wP C S0) z) s.heap S z H locs s → lv_has ls 11 [(0, .ref a0), (1, .ref a1), (2, .int v2), (3, .int v3), (4, .int v4), (5, .int v5), (6, .int v6), (7, .int v7)] → W p l e rm_X3_bestMove s m ([.ref a0, .ref a1] : List Value).toArray below meth c H locs 0 0 (MQ below (QiW D C S0 z r S9 z) ([.ref a0, .ref a1] : List Value).toArray s 0 0 (va_A (wP C S0) z)) (F0 m 62 ls [.int s0]) := by
    intro K24 hK24 S v2 v3 v4 v5 v6 v7 s0 H locs ls hg hw hl
    unfold f_X3_bestMove_b62 at hg
    refine lv_istore (lv' := [(8, .int s0), (0, .ref a0), (1, .ref a1), (2, .int v2), (3, .int v3), (4, .int v4), (5, .int v5), (6, .int v6), (7, .int v7)]) hx hb dX3_bestMove_62 hl (by decide) rfl (fun ls hl => ?_)
    refine lv_iload_n hx hb dX3_bestMove_64 rfl (lv_at hl 3 rfl) ?_
    refine lv_if_eq (tgt := 75) hx hb dX3_bestMove_65 (by decide) (fun c20 => ?_) (fun c20 => ?_)
    · have hg := it_pos hg c20
      refine lv_aload_n hx hb dX3_bestMove_75 rfl (lv_at hl 2 rfl) ?_
      obtain ⟨hok21, hg⟩ := gd_some hg
      refine wr_get (K := RX4) (T := TX4) (N := 10) (index := 46) (ref := "MakerLines$State") (v := .int (hI S a1 3)) hx hb hts hi_X3_bestMove_X4 hown hw hok21 (wF_4 (S := S) hok21.2) rfl 3 (by decide) (hts _ (List.mem_of_getElem? (i := 3) rfl)) (fun _ h9 => h9) rfl dX3_bestMove_76 ?_
      refine lv_iload hx hb dX3_bestMove_79 (lv_at hl 8 rfl) ?_
      refine lv_ior hx hb dX3_bestMove_81 ?_
      exact B82 K24 hK24 _ _ _ _ _ _ _ _ _ _ _ hg hw (lv_sub hl [1, 2, 3, 4, 5, 6, 7, 0] rfl)
    · have hg := it_neg hg c20
      refine lv_aload_n hx hb dX3_bestMove_68 rfl (lv_at hl 2 rfl) ?_
      obtain ⟨hok22, hg⟩ := gd_some hg
      refine wr_get (K := RX4) (T := TX4) (N := 10) (index := 46) (ref := "MakerLines$State") (v := .int (hI S a1 3)) hx hb hts hi_X3_bestMove_X4 hown hw hok22 (wF_4 (S := S) hok22.2) rfl 3 (by decide) (hts _ (List.mem_of_getElem? (i := 3) rfl)) (fun _ h9 => h9) rfl dX3_bestMove_69 ?_
      refine lv_goto (tgt := 82) hx hb dX3_bestMove_72 (by decide) ?_
      exact B82 K24 hK24 _ _ _ _ _ _ _ _ _ _ _ hg hw (lv_sub hl [1, 2, 3, 4, 5, 6, 7, 0] rfl)
  have B24 : ∀ (K24 : Hp → Int32 → Int32 → Int32 → Int32 → Int32 → Option (Int32 × Hp)) (hK24 : ∀ (S : Hp) (v2 : Int32) (v3 : Int32) (v4 : Int32) (v5 : Int32) (v6 : Int32) (H : Heap) (locs : List Loc) (ls : Array Slot), K24 S v2 v3 v4 v5 v6 = some (r, S9) → Wd D C (va_A (wP C S0) z) s.heap S z H locs s → lv_has ls 11 [(0, .ref a0), (1, .ref a1), (2, .int v2), (3, .int v3), (4, .int v4), (5, .int v5), (6, .int v6)] → W p l e rm_X3_bestMove s m ([.ref a0, .ref a1] : List Value).toArray below meth c H locs 0 0 (MQ below (QiW D C S0 z r S9 z) ([.ref a0, .ref a1] : List Value).toArray s 0 0 (va_A (wP C S0) z)) (F0 m 24 ls [])) (S : Hp) (v2 : Int32) (v3 : Int32) (v4 : Int32) (v5 : Int32) (v6 : Int32) (H : Heap) (locs : List Loc) (ls : Array Slot), f_X3_bestMove_b24 N a0 a1 K24 S v2 v3 v4 v5 v6 = some (r, S9) → Wd D C (va_A (wP C S0) z) s.heap S z H locs s → lv_has ls 11 [(0, .ref a0), (1, .ref a1), (2, .int v2), (3, .int v3), (4, .int v4), (5, .int v5), (6, .int v6)] → W p l e rm_X3_bestMove s m ([.ref a0, .ref a1] : List Value).toArray below meth c H locs 0 0 (MQ below (QiW D C S0 z r S9 z) ([.ref a0, .ref a1] : List Value).toArray s 0 0 (va_A (wP C S0) z)) (F0 m 24 ls []) := by
    intro K24 hK24 S v2 v3 v4 v5 v6 H locs ls hg hw hl
    unfold f_X3_bestMove_b24 at hg
    refine lv_iload hx hb dX3_bestMove_24 (lv_at hl 6 rfl) ?_
    refine lv_bipush (v := (10 : Int32)) hx hb dX3_bestMove_26 (by decide) ?_
    refine lv_icmp_ge (tgt := 129) hx hb dX3_bestMove_28 (by decide) (fun c14 => ?_) (fun c14 => ?_)
    · have hg := it_pos hg c14
      refine lv_iload hx hb dX3_bestMove_129 (lv_at hl 4 rfl) ?_
      cases hg
      exact wr_iret hx hb hr hw dX3_bestMove_131 hlk
    · have hg := it_neg hg c14
      refine lv_iload_n hx hb dX3_bestMove_31 rfl (lv_at hl 3 rfl) ?_
      refine lv_iconst (v := (1 : Int32)) hx hb dX3_bestMove_32 (by decide) ?_
      refine lv_iload hx hb dX3_bestMove_33 (lv_at hl 6 rfl) ?_
      refine lv_ishl hx hb dX3_bestMove_35 ?_
      refine lv_iand hx hb dX3_bestMove_36 ?_
      obtain ⟨e15, he15, hg⟩ := bd_some hg
      refine lv_istore (lv' := [(7, .int e15), (0, .ref a0), (1, .ref a1), (2, .int v2), (3, .int v3), (4, .int v4), (5, .int v5), (6, .int v6)]) hx hb dX3_bestMove_37 hl (by decide) (by rw [he15]; rfl) (fun ls hl => ?_)
      refine lv_iload hx hb dX3_bestMove_39 (lv_at hl 0 rfl) ?_
      refine lv_if_eq (tgt := 123) hx hb dX3_bestMove_41 (by decide) (fun c16 => ?_) (fun c16 => ?_)
      · have hg := it_pos hg c16
        refine lv_iinc (v := (v6 + (1 : Int32))) (lv' := [(6, .int (v6 + (1 : Int32))), (7, .int e15), (0, .ref a0), (1, .ref a1), (2, .int v2), (3, .int v3), (4, .int v4), (5, .int v5)]) hx hb dX3_bestMove_123 hl (k := 7) rfl rfl (by decide) rfl (fun ls hl => ?_)
        refine lv_goto (tgt := 24) hx hb dX3_bestMove_126 (by decide) ?_
        exact hK24 _ _ _ _ _ _ _ _ _ hg hw (lv_sub hl [2, 3, 4, 5, 6, 7, 0] rfl)
      · have hg := it_neg hg c16
        refine lv_iload_n hx hb dX3_bestMove_44 rfl (lv_at hl 3 rfl) ?_
        refine lv_if_eq (tgt := 58) hx hb dX3_bestMove_45 (by decide) (fun c17 => ?_) (fun c17 => ?_)
        · have hg := it_pos hg c17
          refine lv_aload_n hx hb dX3_bestMove_58 rfl (lv_at hl 2 rfl) ?_
          obtain ⟨hok18, hg⟩ := gd_some hg
          refine wr_get (K := RX4) (T := TX4) (N := 10) (index := 41) (ref := "MakerLines$State") (v := .int (hI S a1 2)) hx hb hts hi_X3_bestMove_X4 hown hw hok18 (wF_4 (S := S) hok18.2) rfl 2 (by decide) (hts _ (List.mem_of_getElem? (i := 2) rfl)) (fun _ h9 => h9) rfl dX3_bestMove_59 ?_
          exact B62 K24 hK24 _ _ _ _ _ _ _ _ _ _ _ hg hw (lv_sub hl [1, 2, 3, 4, 5, 6, 7, 0] rfl)
        · have hg := it_neg hg c17
          refine lv_aload_n hx hb dX3_bestMove_48 rfl (lv_at hl 2 rfl) ?_
          obtain ⟨hok19, hg⟩ := gd_some hg
          refine wr_get (K := RX4) (T := TX4) (N := 10) (index := 41) (ref := "MakerLines$State") (v := .int (hI S a1 2)) hx hb hts hi_X3_bestMove_X4 hown hw hok19 (wF_4 (S := S) hok19.2) rfl 2 (by decide) (hts _ (List.mem_of_getElem? (i := 2) rfl)) (fun _ h9 => h9) rfl dX3_bestMove_49 ?_
          refine lv_iload hx hb dX3_bestMove_52 (lv_at hl 0 rfl) ?_
          refine lv_ior hx hb dX3_bestMove_54 ?_
          refine lv_goto (tgt := 62) hx hb dX3_bestMove_55 (by decide) ?_
          exact B62 K24 hK24 _ _ _ _ _ _ _ _ _ _ _ hg hw (lv_sub hl [1, 2, 3, 4, 5, 6, 7, 0] rfl)
  have L24 : ∀ (k : Nat) (S : Hp) (v2 : Int32) (v3 : Int32) (v4 : Int32) (v5 : Int32) (v6 : Int32) (H : Heap) (locs : List Loc) (ls : Array Slot), f_X3_bestMove_l24 N a0 a1 k S v2 v3 v4 v5 v6 = some (r, S9) → Wd D C (va_A (wP C S0) z) s.heap S z H locs s → lv_has ls 11 [(0, .ref a0), (1, .ref a1), (2, .int v2), (3, .int v3), (4, .int v4), (5, .int v5), (6, .int v6)] → W p l e rm_X3_bestMove s m ([.ref a0, .ref a1] : List Value).toArray below meth c H locs 0 0 (MQ below (QiW D C S0 z r S9 z) ([.ref a0, .ref a1] : List Value).toArray s 0 0 (va_A (wP C S0) z)) (F0 m 24 ls []) := by
    intro k
    induction k with
    | zero => intro S v2 v3 v4 v5 v6 H locs ls hg hw hl; exact absurd (show (none : Option (Int32 × Hp)) = some (r, S9) from hg) (by simp)
    | succ k ih => intro S v2 v3 v4 v5 v6 H locs ls hg hw hl; exact B24 (f_X3_bestMove_l24 N a0 a1 k) ih S v2 v3 v4 v5 v6 H locs ls hg hw hl
  have B0 : ∀ (S : Hp) (H : Heap) (locs : List Loc) (ls : Array Slot), f_X3_bestMove N S a0 a1 = some (r, S9) → Wd D C (va_A (wP C S0) z) s.heap S z H locs s → lv_has ls 11 [(0, .ref a0), (1, .ref a1)] → W p l e rm_X3_bestMove s m ([.ref a0, .ref a1] : List Value).toArray below meth c H locs 0 0 (MQ below (QiW D C S0 z r S9 z) ([.ref a0, .ref a1] : List Value).toArray s 0 0 (va_A (wP C S0) z)) (F0 m 0 ls []) := by
    intro S H locs ls hg hw hl
    unfold f_X3_bestMove at hg
    refine lv_aload_n hx hb dX3_bestMove_0 rfl (lv_at hl 0 rfl) ?_
    refine lv_aload_n hx hb dX3_bestMove_1 rfl (lv_at hl 1 rfl) ?_
    obtain ⟨hok10, hg⟩ := gd_some hg
    obtain ⟨⟨⟩, S11, hc11, hg⟩ := cl_some hg
    refine wr_cv (va_runV (As := [.ref a1]) (rest := []) ⟨hx, hb, hml, hown, hts⟩ (c_X3_prepare l D C N S z a0 a1 () S11 hc11) (cwV 1 hts gX3_bestMove_X3_prepare rfl rfl rfl (by decide +kernel) ⟨Nat.le_of_ble_eq_true rfl, Nat.le_of_ble_eq_true rfl⟩) (wd_preV hw hok10 (wF_3 (S := S) hok10.2) rfl) rfl rfl hl.1 rfl (lv_room (Nat.le_of_ble_eq_true rfl)) dX3_bestMove_2 ⟨Nat.zero_le _, Nat.zero_le _⟩) hw (fun H locs hw => ?_)
    refine lv_aload_n hx hb dX3_bestMove_5 rfl (lv_at hl 1 rfl) ?_
    obtain ⟨hok12, hg⟩ := gd_some hg
    refine wr_get (K := RX4) (T := TX4) (N := 10) (index := 49) (ref := "MakerLines$State") (v := .int (hI S11 a1 4)) hx hb hts hi_X3_bestMove_X4 hown hw hok12 (wF_4 (S := S11) hok12.2) rfl 4 (by decide) (hts _ (List.mem_of_getElem? (i := 1) rfl)) (fun _ h9 => h9) rfl dX3_bestMove_6 ?_
    refine lv_istore_n (lv' := [(2, .int (hI S11 a1 4)), (0, .ref a0), (1, .ref a1)]) hx hb dX3_bestMove_9 rfl hl (by decide) rfl (fun ls hl => ?_)
    refine lv_aload_n hx hb dX3_bestMove_10 rfl (lv_at hl 2 rfl) ?_
    obtain ⟨r13, S13, hc13, hg⟩ := cl_some hg
    refine wr_ci (va_runV (As := []) (rest := []) ⟨hx, hb, hml, hown, hts⟩ (c_X4_freeCells l D C N S11 z a1 r13 S13 hc13) (cwV 0 hts gX3_bestMove_X4_freeCells rfl rfl rfl (by decide +kernel) ⟨Nat.le_of_ble_eq_true rfl, Nat.le_of_ble_eq_true rfl⟩) (wd_preV hw hok12 (wF_4 (S := S11) hok12.2) rfl) rfl rfl hl.1 rfl (lv_room (Nat.le_of_ble_eq_true rfl)) dX3_bestMove_11 ⟨Nat.zero_le _, Nat.zero_le _⟩) hw (fun H locs hw => ?_)
    refine lv_istore_n (lv' := [(3, .int r13), (2, .int (hI S11 a1 4)), (0, .ref a0), (1, .ref a1)]) hx hb dX3_bestMove_14 rfl hl (by decide) rfl (fun ls hl => ?_)
    refine lv_iconst (v := (-1 : Int32)) hx hb dX3_bestMove_15 (by decide) ?_
    refine lv_istore (lv' := [(4, .int (-1 : Int32)), (3, .int r13), (2, .int (hI S11 a1 4)), (0, .ref a0), (1, .ref a1)]) hx hb dX3_bestMove_16 hl (by decide) rfl (fun ls hl => ?_)
    refine lv_iconst (v := (-1 : Int32)) hx hb dX3_bestMove_18 (by decide) ?_
    refine lv_istore (lv' := [(5, .int (-1 : Int32)), (4, .int (-1 : Int32)), (3, .int r13), (2, .int (hI S11 a1 4)), (0, .ref a0), (1, .ref a1)]) hx hb dX3_bestMove_19 hl (by decide) rfl (fun ls hl => ?_)
    refine lv_iconst (v := (0 : Int32)) hx hb dX3_bestMove_21 (by decide) ?_
    refine lv_istore (lv' := [(6, .int (0 : Int32)), (5, .int (-1 : Int32)), (4, .int (-1 : Int32)), (3, .int r13), (2, .int (hI S11 a1 4)), (0, .ref a0), (1, .ref a1)]) hx hb dX3_bestMove_22 hl (by decide) rfl (fun ls hl => ?_)
    exact L24 N _ _ _ _ _ _ _ _ _ hg hw (lv_sub hl [5, 6, 4, 3, 2, 1, 0] rfl)
  exact B0 S0 _ _ _ hg hw hl
theorem hi_X4_forgetLatest_X4 : ∀ w ∈ wsX40, w ∈ wsX4_forgetLatest := fun _ h => List.mem_cons_of_mem _ (List.mem_append_right _ (h))
abbrev rm_X4_forgetLatest : Room := { frames := 0, cells := 0, slots := 0, locals := 0 }
set_option maxHeartbeats 4000000 in
set_option maxRecDepth 100000 in
theorem c_X4_forgetLatest (l : Launch) (D : va_G) (C : C3) (N : Nat) (S0 : Hp) (z : Nat) (a0 : Nat) (r : Unit) (S9 : Hp) (hg : f_X4_forgetLatest N S0 a0 = some (r, S9)) : MetV l yX4_forgetLatest wsX4_forgetLatest rm_X4_forgetLatest D C S0 z [.ref a0] r S9 z 0 0 := by
  refine mw_ofW (cc := cX4_forgetLatest) (maxL := 1) (ret := none) (lv := [(0, .ref a0)]) (by decide) rfl (Nat.le_of_ble_eq_true rfl) rfl ?_
  intro p e s m below meth c ls hx hb hr hts hown hlk hml hnm hl hw
  have hown : s.vm.findClass RX4 = some m.cls := hown
  have B0 : ∀ (S : Hp) (H : Heap) (locs : List Loc) (ls : Array Slot), f_X4_forgetLatest N S a0 = some (r, S9) → Wd D C (va_A (wP C S0) z) s.heap S z H locs s → lv_has ls 1 [(0, .ref a0)] → W p l e rm_X4_forgetLatest s m ([.ref a0] : List Value).toArray below meth c H locs 0 0 (MQ below (QvW D C S0 z r S9 z) ([.ref a0] : List Value).toArray s 0 0 (va_A (wP C S0) z)) (F0 m 0 ls []) := by
    intro S H locs ls hg hw hl
    unfold f_X4_forgetLatest at hg
    refine lv_aload_n hx hb dX4_forgetLatest_0 rfl (lv_at hl 0 rfl) ?_
    refine lv_iconst (v := (-1 : Int32)) hx hb dX4_forgetLatest_1 (by decide) ?_
    obtain ⟨hok10, hg⟩ := gd_some hg
    refine wr_put (K := RX4) (T := TX4) (N := 10) (index := 32) (ref := "MakerLines$State") (ty := (.int)) (S1 := (sI S a0 5 (-1 : Int32))) hx hb hts hi_X4_forgetLatest_X4 tyX4 tyX4_ok nmX4 hown hw hok10 (wF_4 (S := S) hok10.2) rfl (fun b hb9 => wF_sI_ne hb9) 5 (wq_4_5 (S := S) hok10.2 _) rfl (by decide) (hts _ (List.mem_of_getElem? (i := 1) rfl)) (fun _ h9 => h9) rfl (by decide +kernel) rfl rfl (Nat.le_of_ble_eq_true rfl) dX4_forgetLatest_2 (fun H locs hw => ?_)
    refine lv_aload_n hx hb dX4_forgetLatest_5 rfl (lv_at hl 0 rfl) ?_
    refine lv_iconst (v := (-1 : Int32)) hx hb dX4_forgetLatest_6 (by decide) ?_
    refine wr_put (K := RX4) (T := TX4) (N := 10) (index := 35) (ref := "MakerLines$State") (ty := (.int)) (S1 := (sI (sI S a0 5 (-1 : Int32)) a0 6 (-1 : Int32))) hx hb hts hi_X4_forgetLatest_X4 tyX4 tyX4_ok nmX4 hown hw hok10 (wF_4 (S := (sI S a0 5 (-1 : Int32))) hok10.2) rfl (fun b hb9 => wF_sI_ne hb9) 6 (wq_4_6 (S := (sI S a0 5 (-1 : Int32))) hok10.2 _) rfl (by decide) (hts _ (List.mem_of_getElem? (i := 2) rfl)) (fun _ h9 => h9) rfl (by decide +kernel) rfl rfl (Nat.le_of_ble_eq_true rfl) dX4_forgetLatest_7 (fun H locs hw => ?_)
    obtain ⟨S11, hS11, hg⟩ := bd_some hg
    rw [← hS11] at hw
    have hok12 : ok S11 a0 4 := by rw [hS11]; exact hok10
    cases hg
    exact wr_vret hx hb hr hw dX4_forgetLatest_10 hlk
  exact B0 S0 _ _ _ hg hw hl
theorem hi_X4_freeAll_X4 : ∀ w ∈ wsX40, w ∈ wsX4_freeAll := fun _ h => List.mem_cons_of_mem _ (List.mem_append_right _ (h))
abbrev rm_X4_freeAll : Room := { frames := 1, cells := 0, slots := 0, locals := 20 }
set_option maxHeartbeats 4000000 in
set_option maxRecDepth 100000 in
theorem c_X4_freeAll (l : Launch) (D : va_G) (C : C3) (N : Nat) (S0 : Hp) (z : Nat) (a0 : Nat) (x1 : Int32) (r : Unit) (S9 : Hp) (hg : f_X4_freeAll N S0 a0 x1 = some (r, S9)) : MetV l yX4_freeAll wsX4_freeAll rm_X4_freeAll D C S0 z [.ref a0, .int x1] r S9 z 0 0 := by
  refine mw_ofW (cc := cX4_freeAll) (maxL := 2) (ret := none) (lv := [(0, .ref a0), (1, .int x1)]) (by decide) rfl (Nat.le_of_ble_eq_true rfl) rfl ?_
  intro p e s m below meth c ls hx hb hr hts hown hlk hml hnm hl hw
  have hown : s.vm.findClass RX4 = some m.cls := hown
  have B0 : ∀ (S : Hp) (H : Heap) (locs : List Loc) (ls : Array Slot), f_X4_freeAll N S a0 x1 = some (r, S9) → Wd D C (va_A (wP C S0) z) s.heap S z H locs s → lv_has ls 2 [(0, .ref a0), (1, .int x1)] → W p l e rm_X4_freeAll s m ([.ref a0, .int x1] : List Value).toArray below meth c H locs 0 0 (MQ below (QvW D C S0 z r S9 z) ([.ref a0, .int x1] : List Value).toArray s 0 0 (va_A (wP C S0) z)) (F0 m 0 ls []) := by
    intro S H locs ls hg hw hl
    unfold f_X4_freeAll at hg
    refine lv_aload_n hx hb dX4_freeAll_0 rfl (lv_at hl 0 rfl) ?_
    refine lv_iconst (v := (0 : Int32)) hx hb dX4_freeAll_1 (by decide) ?_
    obtain ⟨hok10, hg⟩ := gd_some hg
    refine wr_put (K := RX4) (T := TX4) (N := 10) (index := 22) (ref := "MakerLines$State") (ty := (.int)) (S1 := (sI S a0 2 (0 : Int32))) hx hb hts hi_X4_freeAll_X4 tyX4 tyX4_ok nmX4 hown hw hok10 (wF_4 (S := S) hok10.2) rfl (fun b hb9 => wF_sI_ne hb9) 2 (wq_4_2 (S := S) hok10.2 _) rfl (by decide) (hts _ (List.mem_of_getElem? (i := 1) rfl)) (fun _ h9 => h9) rfl (by decide +kernel) rfl rfl (Nat.le_of_ble_eq_true rfl) dX4_freeAll_2 (fun H locs hw => ?_)
    refine lv_aload_n hx hb dX4_freeAll_5 rfl (lv_at hl 0 rfl) ?_
    refine lv_iconst (v := (0 : Int32)) hx hb dX4_freeAll_6 (by decide) ?_
    refine wr_put (K := RX4) (T := TX4) (N := 10) (index := 25) (ref := "MakerLines$State") (ty := (.int)) (S1 := (sI (sI S a0 2 (0 : Int32)) a0 3 (0 : Int32))) hx hb hts hi_X4_freeAll_X4 tyX4 tyX4_ok nmX4 hown hw hok10 (wF_4 (S := (sI S a0 2 (0 : Int32))) hok10.2) rfl (fun b hb9 => wF_sI_ne hb9) 3 (wq_4_3 (S := (sI S a0 2 (0 : Int32))) hok10.2 _) rfl (by decide) (hts _ (List.mem_of_getElem? (i := 2) rfl)) (fun _ h9 => h9) rfl (by decide +kernel) rfl rfl (Nat.le_of_ble_eq_true rfl) dX4_freeAll_7 (fun H locs hw => ?_)
    refine lv_aload_n hx hb dX4_freeAll_10 rfl (lv_at hl 0 rfl) ?_
    refine lv_iload_n hx hb dX4_freeAll_11 rfl (lv_at hl 1 rfl) ?_
    obtain ⟨hz11, hg⟩ := gd_some hg
    refine wr_put (K := RX4) (T := TX4) (N := 10) (index := 28) (ref := "MakerLines$State") (ty := (.boolean)) (S1 := (sI (sI (sI S a0 2 (0 : Int32)) a0 3 (0 : Int32)) a0 4 x1)) hx hb hts hi_X4_freeAll_X4 tyX4 tyX4_ok nmX4 hown hw hok10 (wF_4 (S := (sI (sI S a0 2 (0 : Int32)) a0 3 (0 : Int32))) hok10.2) rfl (fun b hb9 => wF_sI_ne hb9) 4 (wq_4_4 (S := (sI (sI S a0 2 (0 : Int32)) a0 3 (0 : Int32))) hok10.2 _) rfl (by decide) (hts _ (List.mem_of_getElem? (i := 3) rfl)) (fun _ h9 => h9) rfl (by decide +kernel) (isB_nar hz11) (isB_fit hz11) (Nat.le_of_ble_eq_true rfl) dX4_freeAll_12 (fun H locs hw => ?_)
    obtain ⟨S12, hS12, hg⟩ := bd_some hg
    rw [← hS12] at hw
    have hok13 : ok S12 a0 4 := by rw [hS12]; exact hok10
    refine lv_aload_n hx hb dX4_freeAll_15 rfl (lv_at hl 0 rfl) ?_
    obtain ⟨⟨⟩, S14, hc14, hg⟩ := cl_some hg
    refine wr_cv (va_runV (As := []) (rest := []) ⟨hx, hb, hml, hown, hts⟩ (c_X4_forgetLatest l D C N S12 z a0 () S14 hc14) (cwV 0 hts gX4_freeAll_X4_forgetLatest rfl rfl rfl (by decide +kernel) ⟨Nat.le_of_ble_eq_true rfl, Nat.le_of_ble_eq_true rfl⟩) (wd_preV hw hok13 (wF_4 (S := S12) hok13.2) rfl) rfl rfl hl.1 rfl (lv_room (Nat.le_of_ble_eq_true rfl)) dX4_freeAll_16 ⟨Nat.zero_le _, Nat.zero_le _⟩) hw (fun H locs hw => ?_)
    cases hg
    exact wr_vret hx hb hr hw dX4_freeAll_19 hlk
  exact B0 S0 _ _ _ hg hw hl
theorem hi_X4_winner_X1 : ∀ w ∈ wsX10, w ∈ wsX4_winner := fun _ h => List.mem_cons_of_mem _ (List.mem_append_right _ (h))
theorem hi_X4_winner_X4 : ∀ w ∈ wsX40, w ∈ wsX4_winner := fun _ h => List.mem_cons_of_mem _ (List.mem_append_left _ (List.mem_append_right _ (h)))
abbrev rm_X4_winner : Room := { frames := 2, cells := 0, slots := 0, locals := 46 }
set_option maxHeartbeats 4000000 in
set_option maxRecDepth 100000 in
theorem c_X4_winner (l : Launch) (D : va_G) (C : C3) (N : Nat) (S0 : Hp) (z : Nat) (a0 : Nat) (r : Int32) (S9 : Hp) (hg : f_X4_winner N S0 a0 = some (r, S9)) : MetI l yX4_winner wsX4_winner rm_X4_winner D C S0 z [.ref a0] r S9 z 0 0 := by
  refine mw_ofW (cc := cX4_winner) (maxL := 1) (ret := (some .int)) (lv := [(0, .ref a0)]) (by decide) rfl (Nat.le_of_ble_eq_true rfl) rfl ?_
  intro p e s m below meth c ls hx hb hr hts hown hlk hml hnm hl hw
  have hown : s.vm.findClass RX4 = some m.cls := hown
  have B0 : ∀ (S : Hp) (H : Heap) (locs : List Loc) (ls : Array Slot), f_X4_winner N S a0 = some (r, S9) → Wd D C (va_A (wP C S0) z) s.heap S z H locs s → lv_has ls 1 [(0, .ref a0)] → W p l e rm_X4_winner s m ([.ref a0] : List Value).toArray below meth c H locs 0 0 (MQ below (QiW D C S0 z r S9 z) ([.ref a0] : List Value).toArray s 0 0 (va_A (wP C S0) z)) (F0 m 0 ls []) := by
    intro S H locs ls hg hw hl
    unfold f_X4_winner at hg
    refine lv_aload_n hx hb dX4_winner_0 rfl (lv_at hl 0 rfl) ?_
    obtain ⟨hok10, hg⟩ := gd_some hg
    obtain ⟨r11, hr11, hg⟩ := nn_some hg
    refine wr_get (K := RX4) (T := TX4) (N := 10) (index := 12) (ref := "MakerLines$State") (v := .ref r11) hx hb hts hi_X4_winner_X4 hown hw hok10 (wF_4 (S := S) hok10.2) rfl 0 (by decide) (hts _ (List.mem_of_getElem? (i := 1) rfl)) (fun _ h9 => h9) (congrArg (fun o => some (va_rf o)) hr11) dX4_winner_1 ?_
    refine lv_aload_n hx hb dX4_winner_4 rfl (lv_at hl 0 rfl) ?_
    refine wr_get (K := RX4) (T := TX4) (N := 10) (index := 22) (ref := "MakerLines$State") (v := .int (hI S a0 2)) hx hb hts hi_X4_winner_X4 hown hw hok10 (wF_4 (S := S) hok10.2) rfl 2 (by decide) (hts _ (List.mem_of_getElem? (i := 2) rfl)) (fun _ h9 => h9) rfl dX4_winner_5 ?_
    refine lv_aload_n hx hb dX4_winner_8 rfl (lv_at hl 0 rfl) ?_
    refine wr_get (K := RX4) (T := TX4) (N := 10) (index := 25) (ref := "MakerLines$State") (v := .int (hI S a0 3)) hx hb hts hi_X4_winner_X4 hown hw hok10 (wF_4 (S := S) hok10.2) rfl 3 (by decide) (hts _ (List.mem_of_getElem? (i := 3) rfl)) (fun _ h9 => h9) rfl dX4_winner_9 ?_
    obtain ⟨hok12, hg⟩ := gd_some hg
    obtain ⟨⟨⟩, S13, hc13, hg⟩ := cl_some hg
    refine wr_cv (va_runV (As := [.int (hI S a0 2), .int (hI S a0 3)]) (rest := []) ⟨hx, hb, hml, hown, hts⟩ (c_X1_survey l D C N S z r11 ((hI S a0 2)) ((hI S a0 3)) () S13 hc13) (cwV 2 hts gX4_winner_X1_survey rfl rfl rfl (by decide +kernel) ⟨Nat.le_of_ble_eq_true rfl, Nat.le_of_ble_eq_true rfl⟩) (wd_preV hw hok12 (wF_1 (S := S) hok12.2) rfl) rfl rfl hl.1 rfl (lv_room (Nat.le_of_ble_eq_true rfl)) dX4_winner_12 ⟨Nat.zero_le _, Nat.zero_le _⟩) hw (fun H locs hw => ?_)
    refine lv_aload_n hx hb dX4_winner_15 rfl (lv_at hl 0 rfl) ?_
    obtain ⟨hok14, hg⟩ := gd_some hg
    obtain ⟨r15, hr15, hg⟩ := nn_some hg
    refine wr_get (K := RX4) (T := TX4) (N := 10) (index := 12) (ref := "MakerLines$State") (v := .ref r15) hx hb hts hi_X4_winner_X4 hown hw hok14 (wF_4 (S := S13) hok14.2) rfl 0 (by decide) (hts _ (List.mem_of_getElem? (i := 1) rfl)) (fun _ h9 => h9) (congrArg (fun o => some (va_rf o)) hr15) dX4_winner_16 ?_
    obtain ⟨hok16, hg⟩ := gd_some hg
    refine wr_get (K := RX1) (T := TX1) (N := 6) (index := 76) (ref := "MakerLines$Lines") (v := .int (hI S13 r15 2)) hx hb hts hi_X4_winner_X1 hown hw hok16 (wF_1 (S := S13) hok16.2) rfl 2 (by decide) (hts _ (List.mem_of_getElem? (i := 4) rfl)) (fun _ h9 => h9) rfl dX4_winner_19 ?_
    cases hg
    exact wr_iret hx hb hr hw dX4_winner_22 hlk
  exact B0 S0 _ _ _ hg hw hl
theorem hi_X4_occupy_X4 : ∀ w ∈ wsX40, w ∈ wsX4_occupy := fun _ h => List.mem_cons_of_mem _ (List.mem_append_left _ (List.mem_append_right _ (h)))
abbrev rm_X4_occupy : Room := { frames := 3, cells := 0, slots := 0, locals := 66 }
set_option maxHeartbeats 4000000 in
set_option maxRecDepth 100000 in
theorem c_X4_occupy (l : Launch) (D : va_G) (C : C3) (N : Nat) (S0 : Hp) (z : Nat) (a0 : Nat) (x1 : Int32) (x2 : Int32) (r : Unit) (S9 : Hp) (hg : f_X4_occupy N S0 a0 x1 x2 = some (r, S9)) : MetV l yX4_occupy wsX4_occupy rm_X4_occupy D C S0 z [.ref a0, .int x1, .int x2] r S9 z 0 0 := by
  refine mw_ofW (cc := cX4_occupy) (maxL := 4) (ret := none) (lv := [(0, .ref a0), (1, .int x1), (2, .int x2)]) (by decide) rfl (Nat.le_of_ble_eq_true rfl) rfl ?_
  intro p e s m below meth c ls hx hb hr hts hown hlk hml hnm hl hw
  have hown : s.vm.findClass RX4 = some m.cls := hown
  have B109 : ∀ (S : Hp) (s0 : Int32) (s1 : Int32) (s2 : Nat) (H : Heap) (locs : List Loc) (ls : Array Slot), f_X4_occupy_b109 N a0 x1 x2 S s0 s1 s2 = some (r, S9) → Wd D C (va_A (wP C S0) z) s.heap S z H locs s → lv_has ls 4 [] → W p l e rm_X4_occupy s m ([.ref a0, .int x1, .int x2] : List Value).toArray below meth c H locs 0 0 (MQ below (QvW D C S0 z r S9 z) ([.ref a0, .int x1, .int x2] : List Value).toArray s 0 0 (va_A (wP C S0) z)) (F0 m 109 ls [.int s0, .int s1, .ref s2]) := by
    intro S s0 s1 s2 H locs ls hg hw hl
    unfold f_X4_occupy_b109 at hg
    refine lv_iadd hx hb dX4_occupy_109 ?_
    obtain ⟨hok30, hg⟩ := gd_some hg
    refine wr_put (K := RX4) (T := TX4) (N := 10) (index := 44) (ref := "MakerLines$State") (ty := (.int)) (S1 := (sI S s2 9 (s1 + s0))) hx hb hts hi_X4_occupy_X4 tyX4 tyX4_ok nmX4 hown hw hok30 (wF_4 (S := S) hok30.2) rfl (fun b hb9 => wF_sI_ne hb9) 9 (wq_4_9 (S := S) hok30.2 _) rfl (by decide) (hts _ (List.mem_of_getElem? (i := 8) rfl)) (fun _ h9 => h9) rfl (by decide +kernel) rfl rfl (Nat.le_of_ble_eq_true rfl) dX4_occupy_110 (fun H locs hw => ?_)
    cases hg
    exact wr_vret hx hb hr hw dX4_occupy_113 hlk
  have B90 : ∀ (S : Hp) (v3 : Int32) (s0 : Int32) (s1 : Int32) (s2 : Nat) (H : Heap) (locs : List Loc) (ls : Array Slot), f_X4_occupy_b90 N a0 x1 x2 S v3 s0 s1 s2 = some (r, S9) → Wd D C (va_A (wP C S0) z) s.heap S z H locs s → lv_has ls 4 [(0, .ref a0), (3, .int v3)] → W p l e rm_X4_occupy s m ([.ref a0, .int x1, .int x2] : List Value).toArray below meth c H locs 0 0 (MQ below (QvW D C S0 z r S9 z) ([.ref a0, .int x1, .int x2] : List Value).toArray s 0 0 (va_A (wP C S0) z)) (F0 m 90 ls [.int s0, .int s1, .ref s2]) := by
    intro S v3 s0 s1 s2 H locs ls hg hw hl
    unfold f_X4_occupy_b90 at hg
    refine lv_iadd hx hb dX4_occupy_90 ?_
    obtain ⟨hok27, hg⟩ := gd_some hg
    refine wr_put (K := RX4) (T := TX4) (N := 10) (index := 41) (ref := "MakerLines$State") (ty := (.int)) (S1 := (sI S s2 8 (s1 + s0))) hx hb hts hi_X4_occupy_X4 tyX4 tyX4_ok nmX4 hown hw hok27 (wF_4 (S := S) hok27.2) rfl (fun b hb9 => wF_sI_ne hb9) 8 (wq_4_8 (S := S) hok27.2 _) rfl (by decide) (hts _ (List.mem_of_getElem? (i := 7) rfl)) (fun _ h9 => h9) rfl (by decide +kernel) rfl rfl (Nat.le_of_ble_eq_true rfl) dX4_occupy_91 (fun H locs hw => ?_)
    refine lv_aload_n hx hb dX4_occupy_94 rfl (lv_at hl 0 rfl) ?_
    refine lv_dup hx hb dX4_occupy_95 rfl ?_
    obtain ⟨hok28, hg⟩ := gd_some hg
    refine wr_get (K := RX4) (T := TX4) (N := 10) (index := 44) (ref := "MakerLines$State") (v := .int (hI ((sI S s2 8 (s1 + s0))) a0 9)) hx hb hts hi_X4_occupy_X4 hown hw hok28 (wF_4 (S := (sI S s2 8 (s1 + s0))) hok28.2) rfl 9 (by decide) (hts _ (List.mem_of_getElem? (i := 8) rfl)) (fun _ h9 => h9) rfl dX4_occupy_96 ?_
    refine lv_iload_n hx hb dX4_occupy_99 rfl (lv_at hl 1 rfl) ?_
    refine lv_iconst (v := (2 : Int32)) hx hb dX4_occupy_100 (by decide) ?_
    refine lv_icmp_ne (tgt := 108) hx hb dX4_occupy_101 (by decide) (fun c29 => ?_) (fun c29 => ?_)
    · have hg := it_neg hg c29
      refine lv_iconst (v := (0 : Int32)) hx hb dX4_occupy_108 (by decide) ?_
      exact B109 _ _ _ _ _ _ _ hg hw (lv_sub hl [] rfl)
    · have hg := it_pos hg c29
      refine lv_iconst (v := (1 : Int32)) hx hb dX4_occupy_104 (by decide) ?_
      refine lv_goto (tgt := 109) hx hb dX4_occupy_105 (by decide) ?_
      exact B109 _ _ _ _ _ _ _ hg hw (lv_sub hl [] rfl)
  have B47 : ∀ (S : Hp) (s0 : Int32) (s1 : Nat) (H : Heap) (locs : List Loc) (ls : Array Slot), f_X4_occupy_b47 N a0 x1 x2 S s0 s1 = some (r, S9) → Wd D C (va_A (wP C S0) z) s.heap S z H locs s → lv_has ls 4 [(0, .ref a0), (1, .int x1), (2, .int x2)] → W p l e rm_X4_occupy s m ([.ref a0, .int x1, .int x2] : List Value).toArray below meth c H locs 0 0 (MQ below (QvW D C S0 z r S9 z) ([.ref a0, .int x1, .int x2] : List Value).toArray s 0 0 (va_A (wP C S0) z)) (F0 m 47 ls [.int s0, .ref s1]) := by
    intro S s0 s1 H locs ls hg hw hl
    unfold f_X4_occupy_b47 at hg
    obtain ⟨hok18, hg⟩ := gd_some hg
    obtain ⟨hz19, hg⟩ := gd_some hg
    refine wr_put (K := RX4) (T := TX4) (N := 10) (index := 28) (ref := "MakerLines$State") (ty := (.boolean)) (S1 := (sI S s1 4 s0)) hx hb hts hi_X4_occupy_X4 tyX4 tyX4_ok nmX4 hown hw hok18 (wF_4 (S := S) hok18.2) rfl (fun b hb9 => wF_sI_ne hb9) 4 (wq_4_4 (S := S) hok18.2 _) rfl (by decide) (hts _ (List.mem_of_getElem? (i := 1) rfl)) (fun _ h9 => h9) rfl (by decide +kernel) (isB_nar hz19) (isB_fit hz19) (Nat.le_of_ble_eq_true rfl) dX4_occupy_47 (fun H locs hw => ?_)
    refine lv_aload_n hx hb dX4_occupy_50 rfl (lv_at hl 0 rfl) ?_
    refine lv_iload_n hx hb dX4_occupy_51 rfl (lv_at hl 1 rfl) ?_
    obtain ⟨hok20, hg⟩ := gd_some hg
    refine wr_put (K := RX4) (T := TX4) (N := 10) (index := 32) (ref := "MakerLines$State") (ty := (.int)) (S1 := (sI (sI S s1 4 s0) a0 5 x1)) hx hb hts hi_X4_occupy_X4 tyX4 tyX4_ok nmX4 hown hw hok20 (wF_4 (S := (sI S s1 4 s0)) hok20.2) rfl (fun b hb9 => wF_sI_ne hb9) 5 (wq_4_5 (S := (sI S s1 4 s0)) hok20.2 _) rfl (by decide) (hts _ (List.mem_of_getElem? (i := 4) rfl)) (fun _ h9 => h9) rfl (by decide +kernel) rfl rfl (Nat.le_of_ble_eq_true rfl) dX4_occupy_52 (fun H locs hw => ?_)
    refine lv_aload_n hx hb dX4_occupy_55 rfl (lv_at hl 0 rfl) ?_
    refine lv_iload_n hx hb dX4_occupy_56 rfl (lv_at hl 2 rfl) ?_
    refine wr_put (K := RX4) (T := TX4) (N := 10) (index := 35) (ref := "MakerLines$State") (ty := (.int)) (S1 := (sI (sI (sI S s1 4 s0) a0 5 x1) a0 6 x2)) hx hb hts hi_X4_occupy_X4 tyX4 tyX4_ok nmX4 hown hw hok20 (wF_4 (S := (sI (sI S s1 4 s0) a0 5 x1)) hok20.2) rfl (fun b hb9 => wF_sI_ne hb9) 6 (wq_4_6 (S := (sI (sI S s1 4 s0) a0 5 x1)) hok20.2 _) rfl (by decide) (hts _ (List.mem_of_getElem? (i := 5) rfl)) (fun _ h9 => h9) rfl (by decide +kernel) rfl rfl (Nat.le_of_ble_eq_true rfl) dX4_occupy_57 (fun H locs hw => ?_)
    refine lv_aload_n hx hb dX4_occupy_60 rfl (lv_at hl 0 rfl) ?_
    refine lv_dup hx hb dX4_occupy_61 rfl ?_
    refine wr_get (K := RX4) (T := TX4) (N := 10) (index := 38) (ref := "MakerLines$State") (v := .int (hI ((sI (sI (sI S s1 4 s0) a0 5 x1) a0 6 x2)) a0 7)) hx hb hts hi_X4_occupy_X4 hown hw hok20 (wF_4 (S := (sI (sI (sI S s1 4 s0) a0 5 x1) a0 6 x2)) hok20.2) rfl 7 (by decide) (hts _ (List.mem_of_getElem? (i := 6) rfl)) (fun _ h9 => h9) rfl dX4_occupy_62 ?_
    refine lv_iconst (v := (1 : Int32)) hx hb dX4_occupy_65 (by decide) ?_
    refine lv_iadd hx hb dX4_occupy_66 ?_
    refine wr_put (K := RX4) (T := TX4) (N := 10) (index := 38) (ref := "MakerLines$State") (ty := (.int)) (S1 := (sI (sI (sI (sI S s1 4 s0) a0 5 x1) a0 6 x2) a0 7 ((hI ((sI (sI (sI S s1 4 s0) a0 5 x1) a0 6 x2)) a0 7) + (1 : Int32)))) hx hb hts hi_X4_occupy_X4 tyX4 tyX4_ok nmX4 hown hw hok20 (wF_4 (S := (sI (sI (sI S s1 4 s0) a0 5 x1) a0 6 x2)) hok20.2) rfl (fun b hb9 => wF_sI_ne hb9) 7 (wq_4_7 (S := (sI (sI (sI S s1 4 s0) a0 5 x1) a0 6 x2)) hok20.2 _) rfl (by decide) (hts _ (List.mem_of_getElem? (i := 6) rfl)) (fun _ h9 => h9) rfl (by decide +kernel) rfl rfl (Nat.le_of_ble_eq_true rfl) dX4_occupy_67 (fun H locs hw => ?_)
    obtain ⟨S21, hS21, hg⟩ := bd_some hg
    rw [← hS21] at hw
    have hok22 : ok S21 s1 4 := by rw [hS21]; exact hok18
    have hok23 : ok S21 a0 4 := by rw [hS21]; exact hok20
    refine lv_aload_n hx hb dX4_occupy_70 rfl (lv_at hl 0 rfl) ?_
    obtain ⟨r24, S24, hc24, hg⟩ := cl_some hg
    refine wr_ci (va_runV (As := []) (rest := []) ⟨hx, hb, hml, hown, hts⟩ (c_X4_winner l D C N S21 z a0 r24 S24 hc24) (cwV 0 hts gX4_occupy_X4_winner rfl rfl rfl (by decide +kernel) ⟨Nat.le_of_ble_eq_true rfl, Nat.le_of_ble_eq_true rfl⟩) (wd_preV hw hok23 (wF_4 (S := S21) hok23.2) rfl) rfl rfl hl.1 rfl (lv_room (Nat.le_of_ble_eq_true rfl)) dX4_occupy_71 ⟨Nat.zero_le _, Nat.zero_le _⟩) hw (fun H locs hw => ?_)
    refine lv_istore_n (lv' := [(3, .int r24), (0, .ref a0), (1, .int x1), (2, .int x2)]) hx hb dX4_occupy_74 rfl hl (by decide) rfl (fun ls hl => ?_)
    refine lv_aload_n hx hb dX4_occupy_75 rfl (lv_at hl 1 rfl) ?_
    refine lv_dup hx hb dX4_occupy_76 rfl ?_
    obtain ⟨hok25, hg⟩ := gd_some hg
    refine wr_get (K := RX4) (T := TX4) (N := 10) (index := 41) (ref := "MakerLines$State") (v := .int (hI S24 a0 8)) hx hb hts hi_X4_occupy_X4 hown hw hok25 (wF_4 (S := S24) hok25.2) rfl 8 (by decide) (hts _ (List.mem_of_getElem? (i := 7) rfl)) (fun _ h9 => h9) rfl dX4_occupy_77 ?_
    refine lv_iload_n hx hb dX4_occupy_80 rfl (lv_at hl 0 rfl) ?_
    refine lv_iconst (v := (1 : Int32)) hx hb dX4_occupy_81 (by decide) ?_
    refine lv_icmp_ne (tgt := 89) hx hb dX4_occupy_82 (by decide) (fun c26 => ?_) (fun c26 => ?_)
    · have hg := it_neg hg c26
      refine lv_iconst (v := (0 : Int32)) hx hb dX4_occupy_89 (by decide) ?_
      exact B90 _ _ _ _ _ _ _ _ hg hw (lv_sub hl [1, 0] rfl)
    · have hg := it_pos hg c26
      refine lv_iconst (v := (1 : Int32)) hx hb dX4_occupy_85 (by decide) ?_
      refine lv_goto (tgt := 90) hx hb dX4_occupy_86 (by decide) ?_
      exact B90 _ _ _ _ _ _ _ _ hg hw (lv_sub hl [1, 0] rfl)
  have B34 : ∀ (S : Hp) (H : Heap) (locs : List Loc) (ls : Array Slot), f_X4_occupy_b34 N a0 x1 x2 S = some (r, S9) → Wd D C (va_A (wP C S0) z) s.heap S z H locs s → lv_has ls 4 [(0, .ref a0), (1, .int x1), (2, .int x2)] → W p l e rm_X4_occupy s m ([.ref a0, .int x1, .int x2] : List Value).toArray below meth c H locs 0 0 (MQ below (QvW D C S0 z r S9 z) ([.ref a0, .int x1, .int x2] : List Value).toArray s 0 0 (va_A (wP C S0) z)) (F0 m 34 ls []) := by
    intro S H locs ls hg hw hl
    unfold f_X4_occupy_b34 at hg
    refine lv_aload_n hx hb dX4_occupy_34 rfl (lv_at hl 0 rfl) ?_
    refine lv_aload_n hx hb dX4_occupy_35 rfl (lv_at hl 0 rfl) ?_
    obtain ⟨hok16, hg⟩ := gd_some hg
    refine wr_get (K := RX4) (T := TX4) (N := 10) (index := 28) (ref := "MakerLines$State") (v := .int (hI S a0 4)) hx hb hts hi_X4_occupy_X4 hown hw hok16 (wF_4 (S := S) hok16.2) rfl 4 (by decide) (hts _ (List.mem_of_getElem? (i := 1) rfl)) (fun _ h9 => h9) rfl dX4_occupy_36 ?_
    refine lv_if_ne (tgt := 46) hx hb dX4_occupy_39 (by decide) (fun c17 => ?_) (fun c17 => ?_)
    · have hg := it_neg hg c17
      refine lv_iconst (v := (0 : Int32)) hx hb dX4_occupy_46 (by decide) ?_
      exact B47 _ _ _ _ _ _ hg hw (lv_sub hl [0, 1, 2] rfl)
    · have hg := it_pos hg c17
      refine lv_iconst (v := (1 : Int32)) hx hb dX4_occupy_42 (by decide) ?_
      refine lv_goto (tgt := 47) hx hb dX4_occupy_43 (by decide) ?_
      exact B47 _ _ _ _ _ _ hg hw (lv_sub hl [0, 1, 2] rfl)
  have B0 : ∀ (S : Hp) (H : Heap) (locs : List Loc) (ls : Array Slot), f_X4_occupy N S a0 x1 x2 = some (r, S9) → Wd D C (va_A (wP C S0) z) s.heap S z H locs s → lv_has ls 4 [(0, .ref a0), (1, .int x1), (2, .int x2)] → W p l e rm_X4_occupy s m ([.ref a0, .int x1, .int x2] : List Value).toArray below meth c H locs 0 0 (MQ below (QvW D C S0 z r S9 z) ([.ref a0, .int x1, .int x2] : List Value).toArray s 0 0 (va_A (wP C S0) z)) (F0 m 0 ls []) := by
    intro S H locs ls hg hw hl
    unfold f_X4_occupy at hg
    refine lv_aload_n hx hb dX4_occupy_0 rfl (lv_at hl 0 rfl) ?_
    obtain ⟨hok10, hg⟩ := gd_some hg
    refine wr_get (K := RX4) (T := TX4) (N := 10) (index := 28) (ref := "MakerLines$State") (v := .int (hI S a0 4)) hx hb hts hi_X4_occupy_X4 hown hw hok10 (wF_4 (S := S) hok10.2) rfl 4 (by decide) (hts _ (List.mem_of_getElem? (i := 1) rfl)) (fun _ h9 => h9) rfl dX4_occupy_1 ?_
    refine lv_if_eq (tgt := 22) hx hb dX4_occupy_4 (by decide) (fun c11 => ?_) (fun c11 => ?_)
    · have hg := it_pos hg c11
      refine lv_aload_n hx hb dX4_occupy_22 rfl (lv_at hl 0 rfl) ?_
      refine lv_dup hx hb dX4_occupy_23 rfl ?_
      refine wr_get (K := RX4) (T := TX4) (N := 10) (index := 25) (ref := "MakerLines$State") (v := .int (hI S a0 3)) hx hb hts hi_X4_occupy_X4 hown hw hok10 (wF_4 (S := S) hok10.2) rfl 3 (by decide) (hts _ (List.mem_of_getElem? (i := 3) rfl)) (fun _ h9 => h9) rfl dX4_occupy_24 ?_
      refine lv_iconst (v := (1 : Int32)) hx hb dX4_occupy_27 (by decide) ?_
      refine lv_iload_n hx hb dX4_occupy_28 rfl (lv_at hl 1 rfl) ?_
      refine lv_ishl hx hb dX4_occupy_29 ?_
      refine lv_ior hx hb dX4_occupy_30 ?_
      refine wr_put (K := RX4) (T := TX4) (N := 10) (index := 25) (ref := "MakerLines$State") (ty := (.int)) (S1 := (sI S a0 3 ((hI S a0 3) ||| ((1 : Int32) <<< (x1 &&& 31))))) hx hb hts hi_X4_occupy_X4 tyX4 tyX4_ok nmX4 hown hw hok10 (wF_4 (S := S) hok10.2) rfl (fun b hb9 => wF_sI_ne hb9) 3 (wq_4_3 (S := S) hok10.2 _) rfl (by decide) (hts _ (List.mem_of_getElem? (i := 3) rfl)) (fun _ h9 => h9) rfl (by decide +kernel) rfl rfl (Nat.le_of_ble_eq_true rfl) dX4_occupy_31 (fun H locs hw => ?_)
      obtain ⟨S12, hS12, hg⟩ := bd_some hg
      rw [← hS12] at hw
      have hok13 : ok S12 a0 4 := by rw [hS12]; exact hok10
      exact B34 _ _ _ _ hg hw (lv_sub hl [0, 1, 2] rfl)
    · have hg := it_neg hg c11
      refine lv_aload_n hx hb dX4_occupy_7 rfl (lv_at hl 0 rfl) ?_
      refine lv_dup hx hb dX4_occupy_8 rfl ?_
      refine wr_get (K := RX4) (T := TX4) (N := 10) (index := 22) (ref := "MakerLines$State") (v := .int (hI S a0 2)) hx hb hts hi_X4_occupy_X4 hown hw hok10 (wF_4 (S := S) hok10.2) rfl 2 (by decide) (hts _ (List.mem_of_getElem? (i := 2) rfl)) (fun _ h9 => h9) rfl dX4_occupy_9 ?_
      refine lv_iconst (v := (1 : Int32)) hx hb dX4_occupy_12 (by decide) ?_
      refine lv_iload_n hx hb dX4_occupy_13 rfl (lv_at hl 1 rfl) ?_
      refine lv_ishl hx hb dX4_occupy_14 ?_
      refine lv_ior hx hb dX4_occupy_15 ?_
      refine wr_put (K := RX4) (T := TX4) (N := 10) (index := 22) (ref := "MakerLines$State") (ty := (.int)) (S1 := (sI S a0 2 ((hI S a0 2) ||| ((1 : Int32) <<< (x1 &&& 31))))) hx hb hts hi_X4_occupy_X4 tyX4 tyX4_ok nmX4 hown hw hok10 (wF_4 (S := S) hok10.2) rfl (fun b hb9 => wF_sI_ne hb9) 2 (wq_4_2 (S := S) hok10.2 _) rfl (by decide) (hts _ (List.mem_of_getElem? (i := 2) rfl)) (fun _ h9 => h9) rfl (by decide +kernel) rfl rfl (Nat.le_of_ble_eq_true rfl) dX4_occupy_16 (fun H locs hw => ?_)
      obtain ⟨S14, hS14, hg⟩ := bd_some hg
      rw [← hS14] at hw
      have hok15 : ok S14 a0 4 := by rw [hS14]; exact hok10
      refine lv_goto (tgt := 34) hx hb dX4_occupy_19 (by decide) ?_
      exact B34 _ _ _ _ hg hw (lv_sub hl [0, 1, 2] rfl)
  exact B0 S0 _ _ _ hg hw hl
theorem hi_X4_hasCell_X4 : ∀ w ∈ wsX40, w ∈ wsX4_hasCell := fun _ h => List.mem_cons_of_mem _ (List.mem_append_right _ (h))
abbrev rm_X4_hasCell : Room := { frames := 0, cells := 0, slots := 0, locals := 0 }
set_option maxHeartbeats 4000000 in
set_option maxRecDepth 100000 in
theorem c_X4_hasCell (l : Launch) (D : va_G) (C : C3) (N : Nat) (S0 : Hp) (z : Nat) (a0 : Nat) (x1 : Int32) (r : Int32) (S9 : Hp) (hg : f_X4_hasCell N S0 a0 x1 = some (r, S9)) : MetI l yX4_hasCell wsX4_hasCell rm_X4_hasCell D C S0 z [.ref a0, .int x1] r S9 z 0 0 := by
  refine mw_ofW (cc := cX4_hasCell) (maxL := 2) (ret := (some .boolean)) (lv := [(0, .ref a0), (1, .int x1)]) (by decide) rfl (Nat.le_of_ble_eq_true rfl) rfl ?_
  intro p e s m below meth c ls hx hb hr hts hown hlk hml hnm hl hw
  have hown : s.vm.findClass RX4 = some m.cls := hown
  have B0 : ∀ (S : Hp) (H : Heap) (locs : List Loc) (ls : Array Slot), f_X4_hasCell N S a0 x1 = some (r, S9) → Wd D C (va_A (wP C S0) z) s.heap S z H locs s → lv_has ls 2 [(0, .ref a0), (1, .int x1)] → W p l e rm_X4_hasCell s m ([.ref a0, .int x1] : List Value).toArray below meth c H locs 0 0 (MQ below (QiW D C S0 z r S9 z) ([.ref a0, .int x1] : List Value).toArray s 0 0 (va_A (wP C S0) z)) (F0 m 0 ls []) := by
    intro S H locs ls hg hw hl
    unfold f_X4_hasCell at hg
    refine lv_iload_n hx hb dX4_hasCell_0 rfl (lv_at hl 1 rfl) ?_
    refine lv_if_lt (tgt := 16) hx hb dX4_hasCell_1 (by decide) (fun c10 => ?_) (fun c10 => ?_)
    · have hg := it_pos hg c10
      refine lv_iconst (v := (0 : Int32)) hx hb dX4_hasCell_16 (by decide) ?_
      cases hg
      exact wr_zret hx hb hr (by decide) hw dX4_hasCell_17 hlk
    · have hg := it_neg hg c10
      refine lv_iload_n hx hb dX4_hasCell_4 rfl (lv_at hl 1 rfl) ?_
      refine lv_aload_n hx hb dX4_hasCell_5 rfl (lv_at hl 0 rfl) ?_
      obtain ⟨hok11, hg⟩ := gd_some hg
      refine wr_get (K := RX4) (T := TX4) (N := 10) (index := 18) (ref := "MakerLines$State") (v := .int (hI S a0 1)) hx hb hts hi_X4_hasCell_X4 hown hw hok11 (wF_4 (S := S) hok11.2) rfl 1 (by decide) (hts _ (List.mem_of_getElem? (i := 1) rfl)) (fun _ h9 => h9) rfl dX4_hasCell_6 ?_
      refine lv_icmp_ge (tgt := 16) hx hb dX4_hasCell_9 (by decide) (fun c12 => ?_) (fun c12 => ?_)
      · have hg := it_pos hg c12
        refine lv_iconst (v := (0 : Int32)) hx hb dX4_hasCell_16 (by decide) ?_
        cases hg
        exact wr_zret hx hb hr (by decide) hw dX4_hasCell_17 hlk
      · have hg := it_neg hg c12
        refine lv_iconst (v := (1 : Int32)) hx hb dX4_hasCell_12 (by decide) ?_
        refine lv_goto (tgt := 17) hx hb dX4_hasCell_13 (by decide) ?_
        cases hg
        exact wr_zret hx hb hr (by decide) hw dX4_hasCell_17 hlk
  exact B0 S0 _ _ _ hg hw hl
abbrev rm_X4_isFree : Room := { frames := 2, cells := 0, slots := 0, locals := 40 }
set_option maxHeartbeats 4000000 in
set_option maxRecDepth 100000 in
theorem c_X4_isFree (l : Launch) (D : va_G) (C : C3) (N : Nat) (S0 : Hp) (z : Nat) (a0 : Nat) (x1 : Int32) (r : Int32) (S9 : Hp) (hg : f_X4_isFree N S0 a0 x1 = some (r, S9)) : MetI l yX4_isFree wsX4_isFree rm_X4_isFree D C S0 z [.ref a0, .int x1] r S9 z 0 0 := by
  refine mw_ofW (cc := cX4_isFree) (maxL := 2) (ret := (some .boolean)) (lv := [(0, .ref a0), (1, .int x1)]) (by decide) rfl (Nat.le_of_ble_eq_true rfl) rfl ?_
  intro p e s m below meth c ls hx hb hr hts hown hlk hml hnm hl hw
  have hown : s.vm.findClass RX4 = some m.cls := hown
  have B0 : ∀ (S : Hp) (H : Heap) (locs : List Loc) (ls : Array Slot), f_X4_isFree N S a0 x1 = some (r, S9) → Wd D C (va_A (wP C S0) z) s.heap S z H locs s → lv_has ls 2 [(0, .ref a0), (1, .int x1)] → W p l e rm_X4_isFree s m ([.ref a0, .int x1] : List Value).toArray below meth c H locs 0 0 (MQ below (QiW D C S0 z r S9 z) ([.ref a0, .int x1] : List Value).toArray s 0 0 (va_A (wP C S0) z)) (F0 m 0 ls []) := by
    intro S H locs ls hg hw hl
    unfold f_X4_isFree at hg
    refine lv_aload_n hx hb dX4_isFree_0 rfl (lv_at hl 0 rfl) ?_
    obtain ⟨hok10, hg⟩ := gd_some hg
    obtain ⟨r11, S11, hc11, hg⟩ := cl_some hg
    refine wr_ci (va_runV (As := []) (rest := []) ⟨hx, hb, hml, hown, hts⟩ (c_X4_freeCells l D C N S z a0 r11 S11 hc11) (cwV 0 hts gX4_isFree_X4_freeCells rfl rfl rfl (by decide +kernel) ⟨Nat.le_of_ble_eq_true rfl, Nat.le_of_ble_eq_true rfl⟩) (wd_preV hw hok10 (wF_4 (S := S) hok10.2) rfl) rfl rfl hl.1 rfl (lv_room (Nat.le_of_ble_eq_true rfl)) dX4_isFree_1 ⟨Nat.zero_le _, Nat.zero_le _⟩) hw (fun H locs hw => ?_)
    refine lv_iconst (v := (1 : Int32)) hx hb dX4_isFree_4 (by decide) ?_
    refine lv_iload_n hx hb dX4_isFree_5 rfl (lv_at hl 1 rfl) ?_
    refine lv_ishl hx hb dX4_isFree_6 ?_
    refine lv_iand hx hb dX4_isFree_7 ?_
    refine lv_if_eq (tgt := 15) hx hb dX4_isFree_8 (by decide) (fun c12 => ?_) (fun c12 => ?_)
    · have hg := it_pos hg c12
      refine lv_iconst (v := (0 : Int32)) hx hb dX4_isFree_15 (by decide) ?_
      cases hg
      exact wr_zret hx hb hr (by decide) hw dX4_isFree_16 hlk
    · have hg := it_neg hg c12
      refine lv_iconst (v := (1 : Int32)) hx hb dX4_isFree_11 (by decide) ?_
      refine lv_goto (tgt := 16) hx hb dX4_isFree_12 (by decide) ?_
      cases hg
      exact wr_zret hx hb hr (by decide) hw dX4_isFree_16 hlk
  exact B0 S0 _ _ _ hg hw hl
theorem hi_X4_ownerOf_X4 : ∀ w ∈ wsX40, w ∈ wsX4_ownerOf := fun _ h => List.mem_cons_of_mem _ (List.mem_append_right _ (h))
abbrev rm_X4_ownerOf : Room := { frames := 3, cells := 0, slots := 0, locals := 61 }
set_option maxHeartbeats 4000000 in
set_option maxRecDepth 100000 in
theorem c_X4_ownerOf (l : Launch) (D : va_G) (C : C3) (N : Nat) (S0 : Hp) (z : Nat) (a0 : Nat) (x1 : Int32) (r : Int32) (S9 : Hp) (hg : f_X4_ownerOf N S0 a0 x1 = some (r, S9)) : MetI l yX4_ownerOf wsX4_ownerOf rm_X4_ownerOf D C S0 z [.ref a0, .int x1] r S9 z 0 0 := by
  refine mw_ofW (cc := cX4_ownerOf) (maxL := 2) (ret := (some .int)) (lv := [(0, .ref a0), (1, .int x1)]) (by decide) rfl (Nat.le_of_ble_eq_true rfl) rfl ?_
  intro p e s m below meth c ls hx hb hr hts hown hlk hml hnm hl hw
  have hown : s.vm.findClass RX4 = some m.cls := hown
  have B0 : ∀ (S : Hp) (H : Heap) (locs : List Loc) (ls : Array Slot), f_X4_ownerOf N S a0 x1 = some (r, S9) → Wd D C (va_A (wP C S0) z) s.heap S z H locs s → lv_has ls 2 [(0, .ref a0), (1, .int x1)] → W p l e rm_X4_ownerOf s m ([.ref a0, .int x1] : List Value).toArray below meth c H locs 0 0 (MQ below (QiW D C S0 z r S9 z) ([.ref a0, .int x1] : List Value).toArray s 0 0 (va_A (wP C S0) z)) (F0 m 0 ls []) := by
    intro S H locs ls hg hw hl
    unfold f_X4_ownerOf at hg
    refine lv_aload_n hx hb dX4_ownerOf_0 rfl (lv_at hl 0 rfl) ?_
    refine lv_iload_n hx hb dX4_ownerOf_1 rfl (lv_at hl 1 rfl) ?_
    obtain ⟨hok10, hg⟩ := gd_some hg
    obtain ⟨r11, S11, hc11, hg⟩ := cl_some hg
    refine wr_ci (va_runV (As := [.int x1]) (rest := []) ⟨hx, hb, hml, hown, hts⟩ (c_X4_isFree l D C N S z a0 x1 r11 S11 hc11) (cwV 1 hts gX4_ownerOf_X4_isFree rfl rfl rfl (by decide +kernel) ⟨Nat.le_of_ble_eq_true rfl, Nat.le_of_ble_eq_true rfl⟩) (wd_preV hw hok10 (wF_4 (S := S) hok10.2) rfl) rfl rfl hl.1 rfl (lv_room (Nat.le_of_ble_eq_true rfl)) dX4_ownerOf_2 ⟨Nat.zero_le _, Nat.zero_le _⟩) hw (fun H locs hw => ?_)
    refine lv_if_eq (tgt := 10) hx hb dX4_ownerOf_5 (by decide) (fun c12 => ?_) (fun c12 => ?_)
    · have hg := it_pos hg c12
      refine lv_aload_n hx hb dX4_ownerOf_10 rfl (lv_at hl 0 rfl) ?_
      obtain ⟨hok13, hg⟩ := gd_some hg
      refine wr_get (K := RX4) (T := TX4) (N := 10) (index := 22) (ref := "MakerLines$State") (v := .int (hI S11 a0 2)) hx hb hts hi_X4_ownerOf_X4 hown hw hok13 (wF_4 (S := S11) hok13.2) rfl 2 (by decide) (hts _ (List.mem_of_getElem? (i := 1) rfl)) (fun _ h9 => h9) rfl dX4_ownerOf_11 ?_
      refine lv_iconst (v := (1 : Int32)) hx hb dX4_ownerOf_14 (by decide) ?_
      refine lv_iload_n hx hb dX4_ownerOf_15 rfl (lv_at hl 1 rfl) ?_
      refine lv_ishl hx hb dX4_ownerOf_16 ?_
      refine lv_iand hx hb dX4_ownerOf_17 ?_
      refine lv_if_eq (tgt := 25) hx hb dX4_ownerOf_18 (by decide) (fun c14 => ?_) (fun c14 => ?_)
      · have hg := it_pos hg c14
        refine lv_iconst (v := (2 : Int32)) hx hb dX4_ownerOf_25 (by decide) ?_
        cases hg
        exact wr_iret hx hb hr hw dX4_ownerOf_26 hlk
      · have hg := it_neg hg c14
        refine lv_iconst (v := (1 : Int32)) hx hb dX4_ownerOf_21 (by decide) ?_
        refine lv_goto (tgt := 26) hx hb dX4_ownerOf_22 (by decide) ?_
        cases hg
        exact wr_iret hx hb hr hw dX4_ownerOf_26 hlk
    · have hg := it_neg hg c12
      refine lv_iconst (v := (0 : Int32)) hx hb dX4_ownerOf_8 (by decide) ?_
      cases hg
      exact wr_iret hx hb hr hw dX4_ownerOf_9 hlk
  exact B0 S0 _ _ _ hg hw hl
theorem hi_X4_mover_X4 : ∀ w ∈ wsX40, w ∈ wsX4_mover := fun _ h => List.mem_cons_of_mem _ (List.mem_append_right _ (h))
abbrev rm_X4_mover : Room := { frames := 0, cells := 0, slots := 0, locals := 0 }
set_option maxHeartbeats 4000000 in
set_option maxRecDepth 100000 in
theorem c_X4_mover (l : Launch) (D : va_G) (C : C3) (N : Nat) (S0 : Hp) (z : Nat) (a0 : Nat) (r : Int32) (S9 : Hp) (hg : f_X4_mover N S0 a0 = some (r, S9)) : MetI l yX4_mover wsX4_mover rm_X4_mover D C S0 z [.ref a0] r S9 z 0 0 := by
  refine mw_ofW (cc := cX4_mover) (maxL := 1) (ret := (some .int)) (lv := [(0, .ref a0)]) (by decide) rfl (Nat.le_of_ble_eq_true rfl) rfl ?_
  intro p e s m below meth c ls hx hb hr hts hown hlk hml hnm hl hw
  have hown : s.vm.findClass RX4 = some m.cls := hown
  have B0 : ∀ (S : Hp) (H : Heap) (locs : List Loc) (ls : Array Slot), f_X4_mover N S a0 = some (r, S9) → Wd D C (va_A (wP C S0) z) s.heap S z H locs s → lv_has ls 1 [(0, .ref a0)] → W p l e rm_X4_mover s m ([.ref a0] : List Value).toArray below meth c H locs 0 0 (MQ below (QiW D C S0 z r S9 z) ([.ref a0] : List Value).toArray s 0 0 (va_A (wP C S0) z)) (F0 m 0 ls []) := by
    intro S H locs ls hg hw hl
    unfold f_X4_mover at hg
    refine lv_aload_n hx hb dX4_mover_0 rfl (lv_at hl 0 rfl) ?_
    obtain ⟨hok10, hg⟩ := gd_some hg
    refine wr_get (K := RX4) (T := TX4) (N := 10) (index := 28) (ref := "MakerLines$State") (v := .int (hI S a0 4)) hx hb hts hi_X4_mover_X4 hown hw hok10 (wF_4 (S := S) hok10.2) rfl 4 (by decide) (hts _ (List.mem_of_getElem? (i := 1) rfl)) (fun _ h9 => h9) rfl dX4_mover_1 ?_
    refine lv_if_eq (tgt := 11) hx hb dX4_mover_4 (by decide) (fun c11 => ?_) (fun c11 => ?_)
    · have hg := it_pos hg c11
      refine lv_iconst (v := (2 : Int32)) hx hb dX4_mover_11 (by decide) ?_
      cases hg
      exact wr_iret hx hb hr hw dX4_mover_12 hlk
    · have hg := it_neg hg c11
      refine lv_iconst (v := (1 : Int32)) hx hb dX4_mover_7 (by decide) ?_
      refine lv_goto (tgt := 12) hx hb dX4_mover_8 (by decide) ?_
      cases hg
      exact wr_iret hx hb hr hw dX4_mover_12 hlk
  exact B0 S0 _ _ _ hg hw hl
theorem hi_X4_forcedReply_X1 : ∀ w ∈ wsX10, w ∈ wsX4_forcedReply := fun _ h => List.mem_cons_of_mem _ (List.mem_append_right _ (h))
theorem hi_X4_forcedReply_X4 : ∀ w ∈ wsX40, w ∈ wsX4_forcedReply := fun _ h => List.mem_cons_of_mem _ (List.mem_append_left _ (List.mem_append_right _ (h)))
abbrev rm_X4_forcedReply : Room := { frames := 2, cells := 0, slots := 0, locals := 46 }
set_option maxHeartbeats 4000000 in
set_option maxRecDepth 100000 in
theorem c_X4_forcedReply (l : Launch) (D : va_G) (C : C3) (N : Nat) (S0 : Hp) (z : Nat) (a0 : Nat) (r : Int32) (S9 : Hp) (hg : f_X4_forcedReply N S0 a0 = some (r, S9)) : MetI l yX4_forcedReply wsX4_forcedReply rm_X4_forcedReply D C S0 z [.ref a0] r S9 z 0 0 := by
  refine mw_ofW (cc := cX4_forcedReply) (maxL := 1) (ret := (some .int)) (lv := [(0, .ref a0)]) (by decide) rfl (Nat.le_of_ble_eq_true rfl) rfl ?_
  intro p e s m below meth c ls hx hb hr hts hown hlk hml hnm hl hw
  have hown : s.vm.findClass RX4 = some m.cls := hown
  have B0 : ∀ (S : Hp) (H : Heap) (locs : List Loc) (ls : Array Slot), f_X4_forcedReply N S a0 = some (r, S9) → Wd D C (va_A (wP C S0) z) s.heap S z H locs s → lv_has ls 1 [(0, .ref a0)] → W p l e rm_X4_forcedReply s m ([.ref a0] : List Value).toArray below meth c H locs 0 0 (MQ below (QiW D C S0 z r S9 z) ([.ref a0] : List Value).toArray s 0 0 (va_A (wP C S0) z)) (F0 m 0 ls []) := by
    intro S H locs ls hg hw hl
    unfold f_X4_forcedReply at hg
    refine lv_aload_n hx hb dX4_forcedReply_0 rfl (lv_at hl 0 rfl) ?_
    obtain ⟨hok10, hg⟩ := gd_some hg
    obtain ⟨r11, hr11, hg⟩ := nn_some hg
    refine wr_get (K := RX4) (T := TX4) (N := 10) (index := 12) (ref := "MakerLines$State") (v := .ref r11) hx hb hts hi_X4_forcedReply_X4 hown hw hok10 (wF_4 (S := S) hok10.2) rfl 0 (by decide) (hts _ (List.mem_of_getElem? (i := 1) rfl)) (fun _ h9 => h9) (congrArg (fun o => some (va_rf o)) hr11) dX4_forcedReply_1 ?_
    refine lv_aload_n hx hb dX4_forcedReply_4 rfl (lv_at hl 0 rfl) ?_
    refine wr_get (K := RX4) (T := TX4) (N := 10) (index := 22) (ref := "MakerLines$State") (v := .int (hI S a0 2)) hx hb hts hi_X4_forcedReply_X4 hown hw hok10 (wF_4 (S := S) hok10.2) rfl 2 (by decide) (hts _ (List.mem_of_getElem? (i := 2) rfl)) (fun _ h9 => h9) rfl dX4_forcedReply_5 ?_
    refine lv_aload_n hx hb dX4_forcedReply_8 rfl (lv_at hl 0 rfl) ?_
    refine wr_get (K := RX4) (T := TX4) (N := 10) (index := 25) (ref := "MakerLines$State") (v := .int (hI S a0 3)) hx hb hts hi_X4_forcedReply_X4 hown hw hok10 (wF_4 (S := S) hok10.2) rfl 3 (by decide) (hts _ (List.mem_of_getElem? (i := 3) rfl)) (fun _ h9 => h9) rfl dX4_forcedReply_9 ?_
    obtain ⟨hok12, hg⟩ := gd_some hg
    obtain ⟨⟨⟩, S13, hc13, hg⟩ := cl_some hg
    refine wr_cv (va_runV (As := [.int (hI S a0 2), .int (hI S a0 3)]) (rest := []) ⟨hx, hb, hml, hown, hts⟩ (c_X1_survey l D C N S z r11 ((hI S a0 2)) ((hI S a0 3)) () S13 hc13) (cwV 2 hts gX4_forcedReply_X1_survey rfl rfl rfl (by decide +kernel) ⟨Nat.le_of_ble_eq_true rfl, Nat.le_of_ble_eq_true rfl⟩) (wd_preV hw hok12 (wF_1 (S := S) hok12.2) rfl) rfl rfl hl.1 rfl (lv_room (Nat.le_of_ble_eq_true rfl)) dX4_forcedReply_12 ⟨Nat.zero_le _, Nat.zero_le _⟩) hw (fun H locs hw => ?_)
    refine lv_aload_n hx hb dX4_forcedReply_15 rfl (lv_at hl 0 rfl) ?_
    obtain ⟨hok14, hg⟩ := gd_some hg
    obtain ⟨r15, hr15, hg⟩ := nn_some hg
    refine wr_get (K := RX4) (T := TX4) (N := 10) (index := 12) (ref := "MakerLines$State") (v := .ref r15) hx hb hts hi_X4_forcedReply_X4 hown hw hok14 (wF_4 (S := S13) hok14.2) rfl 0 (by decide) (hts _ (List.mem_of_getElem? (i := 1) rfl)) (fun _ h9 => h9) (congrArg (fun o => some (va_rf o)) hr15) dX4_forcedReply_16 ?_
    obtain ⟨hok16, hg⟩ := gd_some hg
    refine wr_get (K := RX1) (T := TX1) (N := 6) (index := 81) (ref := "MakerLines$Lines") (v := .int (hI S13 r15 5)) hx hb hts hi_X4_forcedReply_X1 hown hw hok16 (wF_1 (S := S13) hok16.2) rfl 5 (by decide) (hts _ (List.mem_of_getElem? (i := 4) rfl)) (fun _ h9 => h9) rfl dX4_forcedReply_19 ?_
    obtain ⟨r17, S17, hc17, hg⟩ := cl_some hg
    refine wr_ci (va_runSN (As := [.int (hI S13 r15 5)]) (rest := []) ⟨hx, hb, hml, hown, hts⟩ (c_X6_lowestOf l D C N S13 z ((hI S13 r15 5)) r17 S17 hc17) ⟨va_cnB (own := RX4) (index := 84) (host := RX6) 1 hts gX4_forcedReply_X6_lowestOf_n84 rfl rfl rfl (hw.2.2.2.2.2.2.1 _ (List.mem_of_getElem? (i := 1) rfl)) (hts _ (List.mem_of_getElem? (i := 24) rfl)) (by decide +kernel) ⟨Nat.le_of_ble_eq_true rfl, Nat.le_of_ble_eq_true rfl⟩, (hts _ (List.mem_of_getElem? (i := 23) rfl)), trivial⟩ (wd_preS hw) rfl rfl hl.1 rfl (lv_room (Nat.le_of_ble_eq_true rfl)) dX4_forcedReply_22 ⟨Nat.zero_le _, Nat.zero_le _⟩) hw (fun H locs hw => ?_)
    cases hg
    exact wr_iret hx hb hr hw dX4_forcedReply_25 hlk
  exact B0 S0 _ _ _ hg hw hl
theorem hi_X4_dangerOf_X4 : ∀ w ∈ wsX40, w ∈ wsX4_dangerOf := fun _ h => List.mem_cons_of_mem _ (List.mem_append_left _ (List.mem_append_right _ (h)))
abbrev rm_X4_dangerOf : Room := { frames := 3, cells := 0, slots := 0, locals := 61 }
set_option maxHeartbeats 4000000 in
set_option maxRecDepth 100000 in
theorem c_X4_dangerOf (l : Launch) (D : va_G) (C : C3) (N : Nat) (S0 : Hp) (z : Nat) (a0 : Nat) (x1 : Int32) (r : Int32) (S9 : Hp) (hg : f_X4_dangerOf N S0 a0 x1 = some (r, S9)) : MetI l yX4_dangerOf wsX4_dangerOf rm_X4_dangerOf D C S0 z [.ref a0, .int x1] r S9 z 0 0 := by
  refine mw_ofW (cc := cX4_dangerOf) (maxL := 2) (ret := (some .int)) (lv := [(0, .ref a0), (1, .int x1)]) (by decide) rfl (Nat.le_of_ble_eq_true rfl) rfl ?_
  intro p e s m below meth c ls hx hb hr hts hown hlk hml hnm hl hw
  have hown : s.vm.findClass RX4 = some m.cls := hown
  have B0 : ∀ (S : Hp) (H : Heap) (locs : List Loc) (ls : Array Slot), f_X4_dangerOf N S a0 x1 = some (r, S9) → Wd D C (va_A (wP C S0) z) s.heap S z H locs s → lv_has ls 2 [(0, .ref a0), (1, .int x1)] → W p l e rm_X4_dangerOf s m ([.ref a0, .int x1] : List Value).toArray below meth c H locs 0 0 (MQ below (QiW D C S0 z r S9 z) ([.ref a0, .int x1] : List Value).toArray s 0 0 (va_A (wP C S0) z)) (F0 m 0 ls []) := by
    intro S H locs ls hg hw hl
    unfold f_X4_dangerOf at hg
    refine lv_aload_n hx hb dX4_dangerOf_0 rfl (lv_at hl 0 rfl) ?_
    refine lv_iload_n hx hb dX4_dangerOf_1 rfl (lv_at hl 1 rfl) ?_
    obtain ⟨hok10, hg⟩ := gd_some hg
    obtain ⟨r11, S11, hc11, hg⟩ := cl_some hg
    refine wr_ci (va_runV (As := [.int x1]) (rest := []) ⟨hx, hb, hml, hown, hts⟩ (c_X4_isFree l D C N S z a0 x1 r11 S11 hc11) (cwV 1 hts gX4_dangerOf_X4_isFree rfl rfl rfl (by decide +kernel) ⟨Nat.le_of_ble_eq_true rfl, Nat.le_of_ble_eq_true rfl⟩) (wd_preV hw hok10 (wF_4 (S := S) hok10.2) rfl) rfl rfl hl.1 rfl (lv_room (Nat.le_of_ble_eq_true rfl)) dX4_dangerOf_2 ⟨Nat.zero_le _, Nat.zero_le _⟩) hw (fun H locs hw => ?_)
    refine lv_if_eq (tgt := 27) hx hb dX4_dangerOf_5 (by decide) (fun c12 => ?_) (fun c12 => ?_)
    · have hg := it_pos hg c12
      refine lv_iconst (v := (0 : Int32)) hx hb dX4_dangerOf_27 (by decide) ?_
      cases hg
      exact wr_iret hx hb hr hw dX4_dangerOf_28 hlk
    · have hg := it_neg hg c12
      refine lv_aload_n hx hb dX4_dangerOf_8 rfl (lv_at hl 0 rfl) ?_
      obtain ⟨hok13, hg⟩ := gd_some hg
      obtain ⟨r14, hr14, hg⟩ := nn_some hg
      refine wr_get (K := RX4) (T := TX4) (N := 10) (index := 12) (ref := "MakerLines$State") (v := .ref r14) hx hb hts hi_X4_dangerOf_X4 hown hw hok13 (wF_4 (S := S11) hok13.2) rfl 0 (by decide) (hts _ (List.mem_of_getElem? (i := 1) rfl)) (fun _ h9 => h9) (congrArg (fun o => some (va_rf o)) hr14) dX4_dangerOf_9 ?_
      refine lv_iload_n hx hb dX4_dangerOf_12 rfl (lv_at hl 1 rfl) ?_
      refine lv_aload_n hx hb dX4_dangerOf_13 rfl (lv_at hl 0 rfl) ?_
      refine wr_get (K := RX4) (T := TX4) (N := 10) (index := 22) (ref := "MakerLines$State") (v := .int (hI S11 a0 2)) hx hb hts hi_X4_dangerOf_X4 hown hw hok13 (wF_4 (S := S11) hok13.2) rfl 2 (by decide) (hts _ (List.mem_of_getElem? (i := 2) rfl)) (fun _ h9 => h9) rfl dX4_dangerOf_14 ?_
      refine lv_aload_n hx hb dX4_dangerOf_17 rfl (lv_at hl 0 rfl) ?_
      refine wr_get (K := RX4) (T := TX4) (N := 10) (index := 25) (ref := "MakerLines$State") (v := .int (hI S11 a0 3)) hx hb hts hi_X4_dangerOf_X4 hown hw hok13 (wF_4 (S := S11) hok13.2) rfl 3 (by decide) (hts _ (List.mem_of_getElem? (i := 3) rfl)) (fun _ h9 => h9) rfl dX4_dangerOf_18 ?_
      obtain ⟨hok15, hg⟩ := gd_some hg
      obtain ⟨r16, S16, hc16, hg⟩ := cl_some hg
      refine wr_ci (va_runV (As := [.int x1, .int (hI S11 a0 2), .int (hI S11 a0 3)]) (rest := []) ⟨hx, hb, hml, hown, hts⟩ (c_X1_weightWith l D C N S11 z r14 x1 ((hI S11 a0 2)) ((hI S11 a0 3)) r16 S16 hc16) (cwV 3 hts gX4_dangerOf_X1_weightWith rfl rfl rfl (by decide +kernel) ⟨Nat.le_of_ble_eq_true rfl, Nat.le_of_ble_eq_true rfl⟩) (wd_preV hw hok15 (wF_1 (S := S11) hok15.2) rfl) rfl rfl hl.1 rfl (lv_room (Nat.le_of_ble_eq_true rfl)) dX4_dangerOf_21 ⟨Nat.zero_le _, Nat.zero_le _⟩) hw (fun H locs hw => ?_)
      refine lv_goto (tgt := 28) hx hb dX4_dangerOf_24 (by decide) ?_
      cases hg
      exact wr_iret hx hb hr hw dX4_dangerOf_28 hlk
  exact B0 S0 _ _ _ hg hw hl
theorem hi_X4_mostDangerous_X4 : ∀ w ∈ wsX40, w ∈ wsX4_mostDangerous := fun _ h => List.mem_cons_of_mem _ (List.mem_append_left _ (List.mem_append_right _ (h)))
abbrev rm_X4_mostDangerous : Room := { frames := 2, cells := 0, slots := 0, locals := 45 }
set_option maxHeartbeats 4000000 in
set_option maxRecDepth 100000 in
theorem c_X4_mostDangerous (l : Launch) (D : va_G) (C : C3) (N : Nat) (S0 : Hp) (z : Nat) (a0 : Nat) (r : Int32) (S9 : Hp) (hg : f_X4_mostDangerous N S0 a0 = some (r, S9)) : MetI l yX4_mostDangerous wsX4_mostDangerous rm_X4_mostDangerous D C S0 z [.ref a0] r S9 z 0 0 := by
  refine mw_ofW (cc := cX4_mostDangerous) (maxL := 6) (ret := (some .int)) (lv := [(0, .ref a0)]) (by decide) rfl (Nat.le_of_ble_eq_true rfl) rfl ?_
  intro p e s m below meth c ls hx hb hr hts hown hlk hml hnm hl hw
  have hown : s.vm.findClass RX4 = some m.cls := hown
  have B12 : ∀ (K12 : Hp → Int32 → Int32 → Int32 → Int32 → Option (Int32 × Hp)) (hK12 : ∀ (S : Hp) (v1 : Int32) (v2 : Int32) (v3 : Int32) (v4 : Int32) (H : Heap) (locs : List Loc) (ls : Array Slot), K12 S v1 v2 v3 v4 = some (r, S9) → Wd D C (va_A (wP C S0) z) s.heap S z H locs s → lv_has ls 6 [(0, .ref a0), (1, .int v1), (2, .int v2), (3, .int v3), (4, .int v4)] → W p l e rm_X4_mostDangerous s m ([.ref a0] : List Value).toArray below meth c H locs 0 0 (MQ below (QiW D C S0 z r S9 z) ([.ref a0] : List Value).toArray s 0 0 (va_A (wP C S0) z)) (F0 m 12 ls [])) (S : Hp) (v1 : Int32) (v2 : Int32) (v3 : Int32) (v4 : Int32) (H : Heap) (locs : List Loc) (ls : Array Slot), f_X4_mostDangerous_b12 N a0 K12 S v1 v2 v3 v4 = some (r, S9) → Wd D C (va_A (wP C S0) z) s.heap S z H locs s → lv_has ls 6 [(0, .ref a0), (1, .int v1), (2, .int v2), (3, .int v3), (4, .int v4)] → W p l e rm_X4_mostDangerous s m ([.ref a0] : List Value).toArray below meth c H locs 0 0 (MQ below (QiW D C S0 z r S9 z) ([.ref a0] : List Value).toArray s 0 0 (va_A (wP C S0) z)) (F0 m 12 ls []) := by
    intro K12 hK12 S v1 v2 v3 v4 H locs ls hg hw hl
    unfold f_X4_mostDangerous_b12 at hg
    refine lv_iload hx hb dX4_mostDangerous_12 (lv_at hl 4 rfl) ?_
    refine lv_bipush (v := (10 : Int32)) hx hb dX4_mostDangerous_14 (by decide) ?_
    refine lv_icmp_ge (tgt := 65) hx hb dX4_mostDangerous_16 (by decide) (fun c12 => ?_) (fun c12 => ?_)
    · have hg := it_pos hg c12
      refine lv_iload_n hx hb dX4_mostDangerous_65 rfl (lv_at hl 2 rfl) ?_
      cases hg
      exact wr_iret hx hb hr hw dX4_mostDangerous_66 hlk
    · have hg := it_neg hg c12
      refine lv_iload_n hx hb dX4_mostDangerous_19 rfl (lv_at hl 1 rfl) ?_
      refine lv_iconst (v := (1 : Int32)) hx hb dX4_mostDangerous_20 (by decide) ?_
      refine lv_iload hx hb dX4_mostDangerous_21 (lv_at hl 4 rfl) ?_
      refine lv_ishl hx hb dX4_mostDangerous_23 ?_
      refine lv_iand hx hb dX4_mostDangerous_24 ?_
      refine lv_if_eq (tgt := 59) hx hb dX4_mostDangerous_25 (by decide) (fun c13 => ?_) (fun c13 => ?_)
      · have hg := it_pos hg c13
        refine lv_iinc (v := (v4 + (1 : Int32))) (lv' := [(4, .int (v4 + (1 : Int32))), (0, .ref a0), (1, .int v1), (2, .int v2), (3, .int v3)]) hx hb dX4_mostDangerous_59 hl (k := 4) rfl rfl (by decide) rfl (fun ls hl => ?_)
        refine lv_goto (tgt := 12) hx hb dX4_mostDangerous_62 (by decide) ?_
        exact hK12 _ _ _ _ _ _ _ _ hg hw (lv_sub hl [1, 2, 3, 4, 0] rfl)
      · have hg := it_neg hg c13
        refine lv_aload_n hx hb dX4_mostDangerous_28 rfl (lv_at hl 0 rfl) ?_
        obtain ⟨hok14, hg⟩ := gd_some hg
        obtain ⟨r15, hr15, hg⟩ := nn_some hg
        refine wr_get (K := RX4) (T := TX4) (N := 10) (index := 12) (ref := "MakerLines$State") (v := .ref r15) hx hb hts hi_X4_mostDangerous_X4 hown hw hok14 (wF_4 (S := S) hok14.2) rfl 0 (by decide) (hts _ (List.mem_of_getElem? (i := 1) rfl)) (fun _ h9 => h9) (congrArg (fun o => some (va_rf o)) hr15) dX4_mostDangerous_29 ?_
        refine lv_iload hx hb dX4_mostDangerous_32 (lv_at hl 4 rfl) ?_
        refine lv_aload_n hx hb dX4_mostDangerous_34 rfl (lv_at hl 0 rfl) ?_
        refine wr_get (K := RX4) (T := TX4) (N := 10) (index := 22) (ref := "MakerLines$State") (v := .int (hI S a0 2)) hx hb hts hi_X4_mostDangerous_X4 hown hw hok14 (wF_4 (S := S) hok14.2) rfl 2 (by decide) (hts _ (List.mem_of_getElem? (i := 2) rfl)) (fun _ h9 => h9) rfl dX4_mostDangerous_35 ?_
        refine lv_aload_n hx hb dX4_mostDangerous_38 rfl (lv_at hl 0 rfl) ?_
        refine wr_get (K := RX4) (T := TX4) (N := 10) (index := 25) (ref := "MakerLines$State") (v := .int (hI S a0 3)) hx hb hts hi_X4_mostDangerous_X4 hown hw hok14 (wF_4 (S := S) hok14.2) rfl 3 (by decide) (hts _ (List.mem_of_getElem? (i := 3) rfl)) (fun _ h9 => h9) rfl dX4_mostDangerous_39 ?_
        obtain ⟨hok16, hg⟩ := gd_some hg
        obtain ⟨r17, S17, hc17, hg⟩ := cl_some hg
        refine wr_ci (va_runV (As := [.int v4, .int (hI S a0 2), .int (hI S a0 3)]) (rest := []) ⟨hx, hb, hml, hown, hts⟩ (c_X1_weightWith l D C N S z r15 v4 ((hI S a0 2)) ((hI S a0 3)) r17 S17 hc17) (cwV 3 hts gX4_mostDangerous_X1_weightWith rfl rfl rfl (by decide +kernel) ⟨Nat.le_of_ble_eq_true rfl, Nat.le_of_ble_eq_true rfl⟩) (wd_preV hw hok16 (wF_1 (S := S) hok16.2) rfl) rfl rfl hl.1 rfl (lv_room (Nat.le_of_ble_eq_true rfl)) dX4_mostDangerous_42 ⟨Nat.zero_le _, Nat.zero_le _⟩) hw (fun H locs hw => ?_)
        refine lv_istore (lv' := [(5, .int r17), (0, .ref a0), (1, .int v1), (2, .int v2), (3, .int v3), (4, .int v4)]) hx hb dX4_mostDangerous_45 hl (by decide) rfl (fun ls hl => ?_)
        refine lv_iload hx hb dX4_mostDangerous_47 (lv_at hl 0 rfl) ?_
        refine lv_iload_n hx hb dX4_mostDangerous_49 rfl (lv_at hl 4 rfl) ?_
        refine lv_icmp_le (tgt := 59) hx hb dX4_mostDangerous_50 (by decide) (fun c18 => ?_) (fun c18 => ?_)
        · have hg := it_pos hg c18
          refine lv_iinc (v := (v4 + (1 : Int32))) (lv' := [(4, .int (v4 + (1 : Int32))), (5, .int r17), (0, .ref a0), (1, .int v1), (2, .int v2), (3, .int v3)]) hx hb dX4_mostDangerous_59 hl (k := 5) rfl rfl (by decide) rfl (fun ls hl => ?_)
          refine lv_goto (tgt := 12) hx hb dX4_mostDangerous_62 (by decide) ?_
          exact hK12 _ _ _ _ _ _ _ _ hg hw (lv_sub hl [2, 3, 4, 5, 0] rfl)
        · have hg := it_neg hg c18
          refine lv_iload hx hb dX4_mostDangerous_53 (lv_at hl 0 rfl) ?_
          refine lv_istore_n (lv' := [(3, .int r17), (5, .int r17), (0, .ref a0), (1, .int v1), (2, .int v2), (4, .int v4)]) hx hb dX4_mostDangerous_55 rfl hl (by decide) rfl (fun ls hl => ?_)
          refine lv_iload hx hb dX4_mostDangerous_56 (lv_at hl 5 rfl) ?_
          refine lv_istore_n (lv' := [(2, .int v4), (3, .int r17), (5, .int r17), (0, .ref a0), (1, .int v1), (4, .int v4)]) hx hb dX4_mostDangerous_58 rfl hl (by decide) rfl (fun ls hl => ?_)
          refine lv_iinc (v := (v4 + (1 : Int32))) (lv' := [(4, .int (v4 + (1 : Int32))), (2, .int v4), (3, .int r17), (5, .int r17), (0, .ref a0), (1, .int v1)]) hx hb dX4_mostDangerous_59 hl (k := 5) rfl rfl (by decide) rfl (fun ls hl => ?_)
          refine lv_goto (tgt := 12) hx hb dX4_mostDangerous_62 (by decide) ?_
          exact hK12 _ _ _ _ _ _ _ _ hg hw (lv_sub hl [4, 5, 1, 2, 0] rfl)
  have L12 : ∀ (k : Nat) (S : Hp) (v1 : Int32) (v2 : Int32) (v3 : Int32) (v4 : Int32) (H : Heap) (locs : List Loc) (ls : Array Slot), f_X4_mostDangerous_l12 N a0 k S v1 v2 v3 v4 = some (r, S9) → Wd D C (va_A (wP C S0) z) s.heap S z H locs s → lv_has ls 6 [(0, .ref a0), (1, .int v1), (2, .int v2), (3, .int v3), (4, .int v4)] → W p l e rm_X4_mostDangerous s m ([.ref a0] : List Value).toArray below meth c H locs 0 0 (MQ below (QiW D C S0 z r S9 z) ([.ref a0] : List Value).toArray s 0 0 (va_A (wP C S0) z)) (F0 m 12 ls []) := by
    intro k
    induction k with
    | zero => intro S v1 v2 v3 v4 H locs ls hg hw hl; exact absurd (show (none : Option (Int32 × Hp)) = some (r, S9) from hg) (by simp)
    | succ k ih => intro S v1 v2 v3 v4 H locs ls hg hw hl; exact B12 (f_X4_mostDangerous_l12 N a0 k) ih S v1 v2 v3 v4 H locs ls hg hw hl
  have B0 : ∀ (S : Hp) (H : Heap) (locs : List Loc) (ls : Array Slot), f_X4_mostDangerous N S a0 = some (r, S9) → Wd D C (va_A (wP C S0) z) s.heap S z H locs s → lv_has ls 6 [(0, .ref a0)] → W p l e rm_X4_mostDangerous s m ([.ref a0] : List Value).toArray below meth c H locs 0 0 (MQ below (QiW D C S0 z r S9 z) ([.ref a0] : List Value).toArray s 0 0 (va_A (wP C S0) z)) (F0 m 0 ls []) := by
    intro S H locs ls hg hw hl
    unfold f_X4_mostDangerous at hg
    refine lv_aload_n hx hb dX4_mostDangerous_0 rfl (lv_at hl 0 rfl) ?_
    obtain ⟨hok10, hg⟩ := gd_some hg
    obtain ⟨r11, S11, hc11, hg⟩ := cl_some hg
    refine wr_ci (va_runV (As := []) (rest := []) ⟨hx, hb, hml, hown, hts⟩ (c_X4_freeCells l D C N S z a0 r11 S11 hc11) (cwV 0 hts gX4_mostDangerous_X4_freeCells rfl rfl rfl (by decide +kernel) ⟨Nat.le_of_ble_eq_true rfl, Nat.le_of_ble_eq_true rfl⟩) (wd_preV hw hok10 (wF_4 (S := S) hok10.2) rfl) rfl rfl hl.1 rfl (lv_room (Nat.le_of_ble_eq_true rfl)) dX4_mostDangerous_1 ⟨Nat.zero_le _, Nat.zero_le _⟩) hw (fun H locs hw => ?_)
    refine lv_istore_n (lv' := [(1, .int r11), (0, .ref a0)]) hx hb dX4_mostDangerous_4 rfl hl (by decide) rfl (fun ls hl => ?_)
    refine lv_iconst (v := (-1 : Int32)) hx hb dX4_mostDangerous_5 (by decide) ?_
    refine lv_istore_n (lv' := [(2, .int (-1 : Int32)), (1, .int r11), (0, .ref a0)]) hx hb dX4_mostDangerous_6 rfl hl (by decide) rfl (fun ls hl => ?_)
    refine lv_iconst (v := (-1 : Int32)) hx hb dX4_mostDangerous_7 (by decide) ?_
    refine lv_istore_n (lv' := [(3, .int (-1 : Int32)), (2, .int (-1 : Int32)), (1, .int r11), (0, .ref a0)]) hx hb dX4_mostDangerous_8 rfl hl (by decide) rfl (fun ls hl => ?_)
    refine lv_iconst (v := (0 : Int32)) hx hb dX4_mostDangerous_9 (by decide) ?_
    refine lv_istore (lv' := [(4, .int (0 : Int32)), (3, .int (-1 : Int32)), (2, .int (-1 : Int32)), (1, .int r11), (0, .ref a0)]) hx hb dX4_mostDangerous_10 hl (by decide) rfl (fun ls hl => ?_)
    exact L12 N _ _ _ _ _ _ _ _ hg hw (lv_sub hl [4, 3, 2, 1, 0] rfl)
  exact B0 S0 _ _ _ hg hw hl
theorem hi_X5_init_X5 : ∀ w ∈ wsX50, w ∈ wsX5_init := fun _ h => List.mem_cons_of_mem _ (List.mem_append_right _ (h))
abbrev rm_X5_init : Room := { frames := 1, cells := 1, slots := 60, locals := 20 }
set_option maxHeartbeats 4000000 in
set_option maxRecDepth 100000 in
theorem c_X5_init (l : Launch) (D : va_G) (C : C3) (N : Nat) (S0 : Hp) (z0 : Nat) (a0 : Nat) (r : Unit) (S9 : Hp) (z9 : Nat) (hg : f_X5_init N S0 z0 a0 = some (r, S9, z9)) : MetV l yX5_init wsX5_init rm_X5_init D C S0 z0 [.ref a0] r S9 z9 1 60 := by
  refine mw_ofW (cc := cX5_init) (maxL := 1) (ret := none) (lv := [(0, .ref a0)]) (by decide) rfl (Nat.le_of_ble_eq_true rfl) rfl ?_
  intro p e s m below meth c ls hx hb hr hts hown hlk hml hnm hl hw
  have hown : s.vm.findClass RX5 = some m.cls := hown
  have B0 : ∀ (S : Hp) (z : Nat) (H : Heap) (locs : List Loc) (ls : Array Slot), f_X5_init N S z a0 = some (r, S9, z9) → Wd D C (va_A (wP C S0) z0) s.heap S z H locs s → lv_has ls 1 [(0, .ref a0)] → W p l e rm_X5_init s m ([.ref a0] : List Value).toArray below meth c H locs 0 0 (MQ below (QvW D C S0 z0 r S9 z9) ([.ref a0] : List Value).toArray s 1 60 (va_A (wP C S0) z0)) (F0 m 0 ls []) := by
    intro S z H locs ls hg hw hl
    unfold f_X5_init at hg
    refine lv_aload_n hx hb dX5_init_0 rfl (lv_at hl 0 rfl) ?_
    refine W.objInit hx hb hown (hts _ (List.mem_of_getElem? (i := 1) rfl)) (hts _ (List.mem_of_getElem? (i := 2) rfl)) (hts _ (List.mem_of_getElem? (i := 3) rfl)) rfl (by rw [hml]; exact hl.1) rfl dX5_init_1 (Nat.le_of_ble_eq_true rfl) (Nat.le_of_ble_eq_true rfl) ?_
    refine W.eq (g2 := F0 m 4 ls []) rfl ?_
    refine lv_aload_n hx hb dX5_init_4 rfl (lv_at hl 0 rfl) ?_
    refine lv_bipush (v := (60 : Int32)) hx hb dX5_init_5 (by decide) ?_
    refine wr_newI (N' := 60) hx hb (hts _ (List.mem_of_getElem? (i := 4) rfl)) hw (by decide) (by decide) (Nat.le_of_ble_eq_true rfl) (Nat.le_of_ble_eq_true rfl) (Nat.le_of_ble_eq_true rfl) dX5_init_7 (fun H hw => ?_)
    obtain ⟨hok11, hg⟩ := gd_some hg
    refine wr_putF (K := RX5) (T := TX5) (N := 2) (index := 9) (ref := "MakerLines$Text") (ty := (.array .int)) (S1 := (sR (sNew S z 8 60) a0 0 (some z))) hx hb hts hi_X5_init_X5 tyX5 tyX5_ok nmX5 hown hw hok11 (wF_5 (S := (sNew S z 8 60)) hok11.2) rfl (fun b hb9 => wF_sR_ne hb9) 0 (wq_5_0 (S := (sNew S z 8 60)) hok11.2 _) rfl (by decide) (hts _ (List.mem_of_getElem? (i := 5) rfl)) (fun _ h9 => h9) rfl hnm rfl (by decide +kernel) rfl rfl (Nat.le_of_ble_eq_true rfl) dX5_init_9 (fun H locs hw => ?_)
    refine lv_aload_n hx hb dX5_init_12 rfl (lv_at hl 0 rfl) ?_
    refine lv_iconst (v := (0 : Int32)) hx hb dX5_init_13 (by decide) ?_
    refine wr_put (K := RX5) (T := TX5) (N := 2) (index := 15) (ref := "MakerLines$Text") (ty := (.int)) (S1 := (sI (sR (sNew S z 8 60) a0 0 (some z)) a0 1 (0 : Int32))) hx hb hts hi_X5_init_X5 tyX5 tyX5_ok nmX5 hown hw hok11 (wF_5 (S := (sR (sNew S z 8 60) a0 0 (some z))) hok11.2) rfl (fun b hb9 => wF_sI_ne hb9) 1 (wq_5_1 (S := (sR (sNew S z 8 60) a0 0 (some z))) hok11.2 _) rfl (by decide) (hts _ (List.mem_of_getElem? (i := 6) rfl)) (fun _ h9 => h9) rfl (by decide +kernel) rfl rfl (Nat.le_of_ble_eq_true rfl) dX5_init_14 (fun H locs hw => ?_)
    obtain ⟨S12, hS12, hg⟩ := bd_some hg
    rw [← hS12] at hw
    have hok13 : ok S12 a0 5 := by rw [hS12]; exact hok11
    cases hg
    refine W.widen (k := 1) (n := 60) (Nat.le_of_ble_eq_true rfl) (Nat.le_of_ble_eq_true rfl) ?_
    exact wr_vret hx hb hr hw dX5_init_17 hlk
  exact B0 S0 z0 _ _ _ hg hw hl
theorem hi_X6_init_X0 : ∀ w ∈ wsX00, w ∈ wsX6_init := fun _ h => List.mem_cons_of_mem _ (List.mem_append_left _ (List.mem_append_left _ (List.mem_append_left _ (List.mem_append_left _ (List.mem_append_right _ (h))))))
theorem hi_X6_init_X2 : ∀ w ∈ wsX20, w ∈ wsX6_init := fun _ h => List.mem_cons_of_mem _ (List.mem_append_left _ (List.mem_append_left _ (List.mem_append_right _ (h))))
theorem hi_X6_init_X3 : ∀ w ∈ wsX30, w ∈ wsX6_init := fun _ h => List.mem_cons_of_mem _ (List.mem_append_left _ (List.mem_append_right _ (h)))
theorem hi_X6_init_X4 : ∀ w ∈ wsX40, w ∈ wsX6_init := fun _ h => List.mem_cons_of_mem _ (List.mem_append_left _ (List.mem_append_left _ (List.mem_append_left _ (List.mem_append_left _ (List.mem_append_left _ (List.mem_append_left _ (List.mem_append_right _ (h))))))))
theorem hi_X6_init_X5 : ∀ w ∈ wsX50, w ∈ wsX6_init := fun _ h => List.mem_cons_of_mem _ (List.mem_append_left _ (List.mem_append_left _ (List.mem_append_left _ (List.mem_append_right _ (h)))))
theorem hi_X6_init_X6 : ∀ w ∈ wsX60, w ∈ wsX6_init := fun _ h => List.mem_cons_of_mem _ (List.mem_append_left _ (List.mem_append_left _ (List.mem_append_left _ (List.mem_append_left _ (List.mem_append_left _ (List.mem_append_right _ (h)))))))
abbrev rm_X6_init : Room := { frames := 3, cells := 20, slots := 60254, locals := 63 }
set_option maxHeartbeats 4000000 in
set_option maxRecDepth 100000 in
theorem c_X6_init (l : Launch) (D : va_G) (C : C3) (N : Nat) (S0 : Hp) (z0 : Nat) (a0 : Nat) (r : Unit) (S9 : Hp) (z9 : Nat) (hg : f_X6_init N S0 z0 a0 = some (r, S9, z9)) : MetV l yX6_init wsX6_init rm_X6_init D C S0 z0 [.ref a0] r S9 z9 20 60254 := by
  refine mw_ofW (cc := cX6_init) (maxL := 1) (ret := none) (lv := [(0, .ref a0)]) (by decide) rfl (Nat.le_of_ble_eq_true rfl) rfl ?_
  intro p e s m below meth c ls hx hb hr hts hown hlk hml hnm hl hw
  have hown : s.vm.findClass RX6 = some m.cls := hown
  have B0 : ∀ (S : Hp) (z : Nat) (H : Heap) (locs : List Loc) (ls : Array Slot), f_X6_init N S z a0 = some (r, S9, z9) → Wd D C (va_A (wP C S0) z0) s.heap S z H locs s → lv_has ls 1 [(0, .ref a0)] → W p l e rm_X6_init s m ([.ref a0] : List Value).toArray below meth c H locs 0 0 (MQ below (QvW D C S0 z0 r S9 z9) ([.ref a0] : List Value).toArray s 20 60254 (va_A (wP C S0) z0)) (F0 m 0 ls []) := by
    intro S z H locs ls hg hw hl
    unfold f_X6_init at hg
    refine lv_aload_n hx hb dX6_init_0 rfl (lv_at hl 0 rfl) ?_
    refine W.objInit hx hb hown (hts _ (List.mem_of_getElem? (i := 1) rfl)) (hts _ (List.mem_of_getElem? (i := 2) rfl)) (hts _ (List.mem_of_getElem? (i := 3) rfl)) rfl (by rw [hml]; exact hl.1) rfl dX6_init_1 (Nat.le_of_ble_eq_true rfl) (Nat.le_of_ble_eq_true rfl) ?_
    refine W.eq (g2 := F0 m 4 ls []) rfl ?_
    refine lv_aload_n hx hb dX6_init_4 rfl (lv_at hl 0 rfl) ?_
    refine wr_new (K := RX4) (T := TX4) (N := 10) (ci := 4) (index := 9) (fs := [.null, .int 0, .int 0, .int 0, .int 0, .int 0, .int 0, .int 0, .int 0, .int 0]) hx hb hts hi_X6_init_X4 tyX4 tyX4_ok hown (hts _ (List.mem_of_getElem? (i := 4) rfl)) (hts _ (List.mem_of_getElem? (i := 5) rfl)) (hts _ (List.mem_of_getElem? (i := 6) rfl)) hw rfl wn_4 (fun j hj => by rcases (show j = 0 ∨ j = 1 ∨ j = 2 ∨ j = 3 ∨ j = 4 ∨ j = 5 ∨ j = 6 ∨ j = 7 ∨ j = 8 ∨ j = 9 by omega) with rfl | rfl | rfl | rfl | rfl | rfl | rfl | rfl | rfl | rfl <;> rfl) (Nat.le_of_ble_eq_true rfl) (Nat.le_of_ble_eq_true rfl) dX6_init_5 (fun H hw => ?_)
    refine lv_dup hx hb dX6_init_8 rfl ?_
    obtain ⟨⟨⟩, S11, z11, hc11, hg⟩ := cz_some hg
    refine wr_cv (va_runIN (b := z) (As := []) (rest := [.ref z, .ref a0]) ⟨hx, hb, hml, hown, hts⟩ (c_X4_init l D C N ((sNew S z 4 0)) ((z + 1)) z () S11 z11 hc11) ⟨va_cnB (own := RX6) (index := 11) (host := RX6) 0 hts gX6_init_X4_init_n11 rfl rfl rfl (hw.2.2.2.2.2.2.1 _ (List.mem_of_getElem? (i := 5) rfl)) (hts _ (List.mem_of_getElem? (i := 6) rfl)) (by decide +kernel) ⟨Nat.le_of_ble_eq_true rfl, Nat.le_of_ble_eq_true rfl⟩, rfl, (hts _ (List.mem_of_getElem? (i := 26) rfl))⟩ (wd_preS hw) rfl rfl hl.1 rfl (lv_room (Nat.le_of_ble_eq_true rfl)) dX6_init_9 ⟨Nat.le_of_ble_eq_true rfl, Nat.le_of_ble_eq_true rfl⟩) hw (fun H locs hw => ?_)
    obtain ⟨hok12, hg⟩ := gd_some hg
    refine wr_putF (K := RX6) (T := TX6) (N := 7) (index := 12) (ref := "MakerLines") (ty := (.object "MakerLines$State")) (S1 := (sR S11 a0 0 (some z))) hx hb hts hi_X6_init_X6 tyX6 tyX6_ok nmX6 hown hw hok12 (wF_6 (S := S11) hok12.2) rfl (fun b hb9 => wF_sR_ne hb9) 0 (wq_6_0 (S := S11) hok12.2 _) rfl (by decide) (hts _ (List.mem_of_getElem? (i := 7) rfl)) (fun _ h9 => h9) rfl hnm rfl (by decide +kernel) rfl rfl (Nat.le_of_ble_eq_true rfl) dX6_init_12 (fun H locs hw => ?_)
    refine lv_aload_n hx hb dX6_init_15 rfl (lv_at hl 0 rfl) ?_
    refine wr_new (K := RX4) (T := TX4) (N := 10) (ci := 4) (index := 9) (fs := [.null, .int 0, .int 0, .int 0, .int 0, .int 0, .int 0, .int 0, .int 0, .int 0]) hx hb hts hi_X6_init_X4 tyX4 tyX4_ok hown (hts _ (List.mem_of_getElem? (i := 4) rfl)) (hts _ (List.mem_of_getElem? (i := 5) rfl)) (hts _ (List.mem_of_getElem? (i := 6) rfl)) hw rfl wn_4 (fun j hj => by rcases (show j = 0 ∨ j = 1 ∨ j = 2 ∨ j = 3 ∨ j = 4 ∨ j = 5 ∨ j = 6 ∨ j = 7 ∨ j = 8 ∨ j = 9 by omega) with rfl | rfl | rfl | rfl | rfl | rfl | rfl | rfl | rfl | rfl <;> rfl) (Nat.le_of_ble_eq_true rfl) (Nat.le_of_ble_eq_true rfl) dX6_init_16 (fun H hw => ?_)
    refine lv_dup hx hb dX6_init_19 rfl ?_
    obtain ⟨⟨⟩, S14, z14, hc14, hg⟩ := cz_some hg
    refine wr_cv (va_runIN (b := z11) (As := []) (rest := [.ref z11, .ref a0]) ⟨hx, hb, hml, hown, hts⟩ (c_X4_init l D C N ((sNew (sR S11 a0 0 (some z)) z11 4 0)) ((z11 + 1)) z11 () S14 z14 hc14) ⟨va_cnB (own := RX6) (index := 11) (host := RX6) 0 hts gX6_init_X4_init_n11 rfl rfl rfl (hw.2.2.2.2.2.2.1 _ (List.mem_of_getElem? (i := 5) rfl)) (hts _ (List.mem_of_getElem? (i := 6) rfl)) (by decide +kernel) ⟨Nat.le_of_ble_eq_true rfl, Nat.le_of_ble_eq_true rfl⟩, rfl, (hts _ (List.mem_of_getElem? (i := 26) rfl))⟩ (wd_preS hw) rfl rfl hl.1 rfl (lv_room (Nat.le_of_ble_eq_true rfl)) dX6_init_20 ⟨Nat.le_of_ble_eq_true rfl, Nat.le_of_ble_eq_true rfl⟩) hw (fun H locs hw => ?_)
    obtain ⟨hok15, hg⟩ := gd_some hg
    refine wr_putF (K := RX6) (T := TX6) (N := 7) (index := 16) (ref := "MakerLines") (ty := (.object "MakerLines$State")) (S1 := (sR S14 a0 1 (some z11))) hx hb hts hi_X6_init_X6 tyX6 tyX6_ok nmX6 hown hw hok15 (wF_6 (S := S14) hok15.2) rfl (fun b hb9 => wF_sR_ne hb9) 1 (wq_6_1 (S := S14) hok15.2 _) rfl (by decide) (hts _ (List.mem_of_getElem? (i := 8) rfl)) (fun _ h9 => h9) rfl hnm rfl (by decide +kernel) rfl rfl (Nat.le_of_ble_eq_true rfl) dX6_init_23 (fun H locs hw => ?_)
    refine lv_aload_n hx hb dX6_init_26 rfl (lv_at hl 0 rfl) ?_
    refine wr_new (K := RX0) (T := TX0) (N := 2) (ci := 0) (index := 19) (fs := [.null, .int 0]) hx hb hts hi_X6_init_X0 tyX0 tyX0_ok hown (hts _ (List.mem_of_getElem? (i := 9) rfl)) (hts _ (List.mem_of_getElem? (i := 10) rfl)) (hts _ (List.mem_of_getElem? (i := 11) rfl)) hw rfl wn_0 (fun j hj => by rcases (show j = 0 ∨ j = 1 by omega) with rfl | rfl <;> rfl) (Nat.le_of_ble_eq_true rfl) (Nat.le_of_ble_eq_true rfl) dX6_init_27 (fun H hw => ?_)
    refine lv_dup hx hb dX6_init_30 rfl ?_
    obtain ⟨⟨⟩, S17, z17, hc17, hg⟩ := cz_some hg
    refine wr_cv (va_runIN (b := z14) (As := []) (rest := [.ref z14, .ref a0]) ⟨hx, hb, hml, hown, hts⟩ (c_X0_init l D C N ((sNew (sR S14 a0 1 (some z11)) z14 0 0)) ((z14 + 1)) z14 () S17 z17 hc17) ⟨va_cnB (own := RX6) (index := 21) (host := RX6) 0 hts gX6_init_X0_init_n21 rfl rfl rfl (hw.2.2.2.2.2.2.1 _ (List.mem_of_getElem? (i := 6) rfl)) (hts _ (List.mem_of_getElem? (i := 11) rfl)) (by decide +kernel) ⟨Nat.le_of_ble_eq_true rfl, Nat.le_of_ble_eq_true rfl⟩, rfl, (hts _ (List.mem_of_getElem? (i := 52) rfl))⟩ (wd_preS hw) rfl rfl hl.1 rfl (lv_room (Nat.le_of_ble_eq_true rfl)) dX6_init_31 ⟨Nat.le_of_ble_eq_true rfl, Nat.le_of_ble_eq_true rfl⟩) hw (fun H locs hw => ?_)
    obtain ⟨hok18, hg⟩ := gd_some hg
    refine wr_putF (K := RX6) (T := TX6) (N := 7) (index := 22) (ref := "MakerLines") (ty := (.object "MakerLines$History")) (S1 := (sR S17 a0 2 (some z14))) hx hb hts hi_X6_init_X6 tyX6 tyX6_ok nmX6 hown hw hok18 (wF_6 (S := S17) hok18.2) rfl (fun b hb9 => wF_sR_ne hb9) 2 (wq_6_2 (S := S17) hok18.2 _) rfl (by decide) (hts _ (List.mem_of_getElem? (i := 12) rfl)) (fun _ h9 => h9) rfl hnm rfl (by decide +kernel) rfl rfl (Nat.le_of_ble_eq_true rfl) dX6_init_34 (fun H locs hw => ?_)
    refine lv_aload_n hx hb dX6_init_37 rfl (lv_at hl 0 rfl) ?_
    refine lv_iconst (v := (2 : Int32)) hx hb dX6_init_38 (by decide) ?_
    refine wr_newQ (own := RX6) (index := 9) (N' := 2) hx hb hown (hts _ (List.mem_of_getElem? (i := 4) rfl)) hw (by decide) (by decide) (Nat.le_of_ble_eq_true rfl) (Nat.le_of_ble_eq_true rfl) (Nat.le_of_ble_eq_true rfl) dX6_init_39 (fun H hw => ?_)
    obtain ⟨hok20, hg⟩ := gd_some hg
    refine wr_putF (K := RX6) (T := TX6) (N := 7) (index := 26) (ref := "MakerLines") (ty := (.array (.object "MakerLines$State"))) (S1 := (sR (sNew (sR S17 a0 2 (some z14)) z17 9 2) a0 3 (some z17))) hx hb hts hi_X6_init_X6 tyX6 tyX6_ok nmX6 hown hw hok20 (wF_6 (S := (sNew (sR S17 a0 2 (some z14)) z17 9 2)) hok20.2) rfl (fun b hb9 => wF_sR_ne hb9) 3 (wq_6_3 (S := (sNew (sR S17 a0 2 (some z14)) z17 9 2)) hok20.2 _) rfl (by decide) (hts _ (List.mem_of_getElem? (i := 13) rfl)) (fun _ h9 => h9) rfl hnm rfl (by decide +kernel) rfl rfl (Nat.le_of_ble_eq_true rfl) dX6_init_42 (fun H locs hw => ?_)
    obtain ⟨S21, hS21, hg⟩ := bd_some hg
    rw [← hS21] at hw
    have hok22 : ok S21 a0 6 := by rw [hS21]; exact hok20
    refine lv_aload_n hx hb dX6_init_45 rfl (lv_at hl 0 rfl) ?_
    refine wr_new (K := RX5) (T := TX5) (N := 2) (ci := 5) (index := 30) (fs := [.null, .int 0]) hx hb hts hi_X6_init_X5 tyX5 tyX5_ok hown (hts _ (List.mem_of_getElem? (i := 14) rfl)) (hts _ (List.mem_of_getElem? (i := 15) rfl)) (hts _ (List.mem_of_getElem? (i := 16) rfl)) hw rfl wn_5 (fun j hj => by rcases (show j = 0 ∨ j = 1 by omega) with rfl | rfl <;> rfl) (Nat.le_of_ble_eq_true rfl) (Nat.le_of_ble_eq_true rfl) dX6_init_46 (fun H hw => ?_)
    refine lv_dup hx hb dX6_init_49 rfl ?_
    obtain ⟨⟨⟩, S24, z24, hc24, hg⟩ := cz_some hg
    refine wr_cv (va_runIN (b := ((z17 + 1))) (As := []) (rest := [.ref (z17 + 1), .ref a0]) ⟨hx, hb, hml, hown, hts⟩ (c_X5_init l D C N ((sNew S21 ((z17 + 1)) 5 0)) (((z17 + 1) + 1)) ((z17 + 1)) () S24 z24 hc24) ⟨va_cnB (own := RX6) (index := 32) (host := RX6) 0 hts gX6_init_X5_init_n32 rfl rfl rfl (hw.2.2.2.2.2.2.1 _ (List.mem_of_getElem? (i := 8) rfl)) (hts _ (List.mem_of_getElem? (i := 16) rfl)) (by decide +kernel) ⟨Nat.le_of_ble_eq_true rfl, Nat.le_of_ble_eq_true rfl⟩, rfl, (hts _ (List.mem_of_getElem? (i := 58) rfl))⟩ (wd_preS hw) rfl rfl hl.1 rfl (lv_room (Nat.le_of_ble_eq_true rfl)) dX6_init_50 ⟨Nat.le_of_ble_eq_true rfl, Nat.le_of_ble_eq_true rfl⟩) hw (fun H locs hw => ?_)
    obtain ⟨hok25, hg⟩ := gd_some hg
    refine wr_putF (K := RX6) (T := TX6) (N := 7) (index := 33) (ref := "MakerLines") (ty := (.object "MakerLines$Text")) (S1 := (sR S24 a0 4 (some (z17 + 1)))) hx hb hts hi_X6_init_X6 tyX6 tyX6_ok nmX6 hown hw hok25 (wF_6 (S := S24) hok25.2) rfl (fun b hb9 => wF_sR_ne hb9) 4 (wq_6_4 (S := S24) hok25.2 _) rfl (by decide) (hts _ (List.mem_of_getElem? (i := 17) rfl)) (fun _ h9 => h9) rfl hnm rfl (by decide +kernel) rfl rfl (Nat.le_of_ble_eq_true rfl) dX6_init_53 (fun H locs hw => ?_)
    refine lv_aload_n hx hb dX6_init_56 rfl (lv_at hl 0 rfl) ?_
    refine wr_new (K := RX2) (T := TX2) (N := 6) (ci := 2) (index := 37) (fs := [.null, .int 0, .int 0, .null, .int 0, .int 0]) hx hb hts hi_X6_init_X2 tyX2 tyX2_ok hown (hts _ (List.mem_of_getElem? (i := 18) rfl)) (hts _ (List.mem_of_getElem? (i := 19) rfl)) (hts _ (List.mem_of_getElem? (i := 20) rfl)) hw rfl wn_2 (fun j hj => by rcases (show j = 0 ∨ j = 1 ∨ j = 2 ∨ j = 3 ∨ j = 4 ∨ j = 5 by omega) with rfl | rfl | rfl | rfl | rfl | rfl <;> rfl) (Nat.le_of_ble_eq_true rfl) (Nat.le_of_ble_eq_true rfl) dX6_init_57 (fun H hw => ?_)
    refine lv_dup hx hb dX6_init_60 rfl ?_
    obtain ⟨⟨⟩, S27, z27, hc27, hg⟩ := cz_some hg
    refine wr_cv (va_runIN (b := z24) (As := []) (rest := [.ref z24, .ref a0]) ⟨hx, hb, hml, hown, hts⟩ (c_X2_init l D C N ((sNew (sR S24 a0 4 (some (z17 + 1))) z24 2 0)) ((z24 + 1)) z24 () S27 z27 hc27) ⟨va_cnB (own := RX6) (index := 39) (host := RX6) 0 hts gX6_init_X2_init_n39 rfl rfl rfl (hw.2.2.2.2.2.2.1 _ (List.mem_of_getElem? (i := 9) rfl)) (hts _ (List.mem_of_getElem? (i := 20) rfl)) (by decide +kernel) ⟨Nat.le_of_ble_eq_true rfl, Nat.le_of_ble_eq_true rfl⟩, rfl, (hts _ (List.mem_of_getElem? (i := 63) rfl))⟩ (wd_preS hw) rfl rfl hl.1 rfl (lv_room (Nat.le_of_ble_eq_true rfl)) dX6_init_61 ⟨Nat.le_of_ble_eq_true rfl, Nat.le_of_ble_eq_true rfl⟩) hw (fun H locs hw => ?_)
    obtain ⟨hok28, hg⟩ := gd_some hg
    refine wr_putF (K := RX6) (T := TX6) (N := 7) (index := 40) (ref := "MakerLines") (ty := (.object "MakerLines$Pairing")) (S1 := (sR S27 a0 5 (some z24))) hx hb hts hi_X6_init_X6 tyX6 tyX6_ok nmX6 hown hw hok28 (wF_6 (S := S27) hok28.2) rfl (fun b hb9 => wF_sR_ne hb9) 5 (wq_6_5 (S := S27) hok28.2 _) rfl (by decide) (hts _ (List.mem_of_getElem? (i := 21) rfl)) (fun _ h9 => h9) rfl hnm rfl (by decide +kernel) rfl rfl (Nat.le_of_ble_eq_true rfl) dX6_init_64 (fun H locs hw => ?_)
    refine lv_aload_n hx hb dX6_init_67 rfl (lv_at hl 0 rfl) ?_
    refine wr_new (K := RX3) (T := TX3) (N := 6) (ci := 3) (index := 44) (fs := [.null, .int 0, .int 0, .null, .int 0, .null]) hx hb hts hi_X6_init_X3 tyX3 tyX3_ok hown (hts _ (List.mem_of_getElem? (i := 22) rfl)) (hts _ (List.mem_of_getElem? (i := 23) rfl)) (hts _ (List.mem_of_getElem? (i := 24) rfl)) hw rfl wn_3 (fun j hj => by rcases (show j = 0 ∨ j = 1 ∨ j = 2 ∨ j = 3 ∨ j = 4 ∨ j = 5 by omega) with rfl | rfl | rfl | rfl | rfl | rfl <;> rfl) (Nat.le_of_ble_eq_true rfl) (Nat.le_of_ble_eq_true rfl) dX6_init_68 (fun H hw => ?_)
    refine lv_dup hx hb dX6_init_71 rfl ?_
    obtain ⟨⟨⟩, S30, z30, hc30, hg⟩ := cz_some hg
    refine wr_cv (va_runI (b := z27) (As := []) (rest := [.ref z27, .ref a0]) ⟨hx, hb, hml, hown, hts⟩ (c_X3_init l D C N ((sNew (sR S27 a0 5 (some z24)) z27 3 0)) ((z27 + 1)) z27 () S30 z30 hc30) (cwI 0 hts gX6_init_X3_init rfl rfl rfl (hts _ (List.mem_of_getElem? (i := 24) rfl)) (hts _ (List.mem_of_getElem? (i := 73) rfl)) (hts _ (List.mem_of_getElem? (i := 74) rfl)) rfl (by decide +kernel) ⟨Nat.le_of_ble_eq_true rfl, Nat.le_of_ble_eq_true rfl⟩) (wd_preS hw) rfl rfl hl.1 rfl (lv_room (Nat.le_of_ble_eq_true rfl)) dX6_init_72 ⟨Nat.le_of_ble_eq_true rfl, Nat.le_of_ble_eq_true rfl⟩) hw (fun H locs hw => ?_)
    obtain ⟨hok31, hg⟩ := gd_some hg
    refine wr_putF (K := RX6) (T := TX6) (N := 7) (index := 47) (ref := "MakerLines") (ty := (.object "MakerLines$Solver")) (S1 := (sR S30 a0 6 (some z27))) hx hb hts hi_X6_init_X6 tyX6 tyX6_ok nmX6 hown hw hok31 (wF_6 (S := S30) hok31.2) rfl (fun b hb9 => wF_sR_ne hb9) 6 (wq_6_6 (S := S30) hok31.2 _) rfl (by decide) (hts _ (List.mem_of_getElem? (i := 25) rfl)) (fun _ h9 => h9) rfl hnm rfl (by decide +kernel) rfl rfl (Nat.le_of_ble_eq_true rfl) dX6_init_75 (fun H locs hw => ?_)
    cases hg
    refine W.widen (k := 20) (n := 60254) (Nat.le_of_ble_eq_true rfl) (Nat.le_of_ble_eq_true rfl) ?_
    exact wr_vret hx hb hr hw dX6_init_78 hlk
  exact B0 S0 z0 _ _ _ hg hw hl
