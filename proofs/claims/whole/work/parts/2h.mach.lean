theorem hi_X7_solveAt_X7 : ∀ w ∈ wsX70, w ∈ wsX7_solveAt := fun _ h => List.mem_cons_of_mem _ (List.mem_append_right _ (h))
abbrev rm_X7_solveAt : Room := { frames := 1, cells := 0, slots := 0, locals := 22 }
set_option maxHeartbeats 4000000 in
set_option maxRecDepth 100000 in
theorem c_X7_solveAt (l : Launch) (D : va_G) (C : C3) (N : Nat) (S0 : Hp) (z : Nat) (a0 : Nat) (x1 : Int32) (x2 : Int32) (x3 : Int32) (r : Unit) (S9 : Hp) (hg : f_X7_solveAt N S0 a0 x1 x2 x3 = some (r, S9)) : MetV l yX7_solveAt wsX7_solveAt rm_X7_solveAt D C S0 z [.ref a0, .int x1, .int x2, .int x3] r S9 z 0 0 := by
  refine mw_ofW (cc := cX7_solveAt) (maxL := 11) (ret := none) (lv := [(0, .ref a0), (1, .int x1), (2, .int x2), (3, .int x3)]) (by decide) rfl (Nat.le_of_ble_eq_true rfl) rfl ?_
  intro p e s m below meth c ls hx hb hr hts hown hlk hml hnm hl hw
  have hown : s.vm.findClass RX7 = some m.cls := hown
  have B240 : ∀ (S : Hp) (s0 : Int32) (s1 : Int32) (s2 : Nat) (H : Heap) (locs : List Loc) (ls : Array Slot), f_X7_solveAt_b240 N a0 x1 x2 x3 S s0 s1 s2 = some (r, S9) → Wd D C (va_A (wP C S0) z) s.heap S z H locs s → lv_has ls 11 [] → W p l e rm_X7_solveAt s m ([.ref a0, .int x1, .int x2, .int x3] : List Value).toArray below meth c H locs 0 0 (MQ below (QvW D C S0 z r S9 z) ([.ref a0, .int x1, .int x2, .int x3] : List Value).toArray s 0 0 (va_A (wP C S0) z)) (F0 m 240 ls [.int s0, .int s1, .ref s2]) := by
    intro S s0 s1 s2 H locs ls hg hw hl
    unfold f_X7_solveAt_b240 at hg
    obtain ⟨hok55, hg⟩ := gd_some hg
    obtain ⟨hin56, hg⟩ := gd_some hg
    refine wr_iast hx hb hw hok55 (inb_vp hin56) dX7_solveAt_240 (fun H locs hw => ?_)
    cases hg
    exact wr_vret hx hb hr hw dX7_solveAt_241 hlk
  have B239 : ∀ (S : Hp) (s0 : Int32) (s1 : Int32) (s2 : Int32) (s3 : Nat) (H : Heap) (locs : List Loc) (ls : Array Slot), f_X7_solveAt_b239 N a0 x1 x2 x3 S s0 s1 s2 s3 = some (r, S9) → Wd D C (va_A (wP C S0) z) s.heap S z H locs s → lv_has ls 11 [] → W p l e rm_X7_solveAt s m ([.ref a0, .int x1, .int x2, .int x3] : List Value).toArray below meth c H locs 0 0 (MQ below (QvW D C S0 z r S9 z) ([.ref a0, .int x1, .int x2, .int x3] : List Value).toArray s 0 0 (va_A (wP C S0) z)) (F0 m 239 ls [.int s0, .int s1, .int s2, .ref s3]) := by
    intro S s0 s1 s2 s3 H locs ls hg hw hl
    unfold f_X7_solveAt_b239 at hg
    refine lv_iadd hx hb dX7_solveAt_239 ?_
    exact B240 _ _ _ _ _ _ _ hg hw (lv_sub hl [] rfl)
  have B201 : ∀ (S : Hp) (v4 : Int32) (v5 : Int32) (v9 : Int32) (s0 : Int32) (s1 : Int32) (s2 : Nat) (H : Heap) (locs : List Loc) (ls : Array Slot), f_X7_solveAt_b201 N a0 x1 x2 x3 S v4 v5 v9 s0 s1 s2 = some (r, S9) → Wd D C (va_A (wP C S0) z) s.heap S z H locs s → lv_has ls 11 [(0, .ref a0), (2, .int x2), (3, .int x3), (4, .int v4), (5, .int v5), (9, .int v9)] → W p l e rm_X7_solveAt s m ([.ref a0, .int x1, .int x2, .int x3] : List Value).toArray below meth c H locs 0 0 (MQ below (QvW D C S0 z r S9 z) ([.ref a0, .int x1, .int x2, .int x3] : List Value).toArray s 0 0 (va_A (wP C S0) z)) (F0 m 201 ls [.int s0, .int s1, .ref s2]) := by
    intro S v4 v5 v9 s0 s1 s2 H locs ls hg hw hl
    unfold f_X7_solveAt_b201 at hg
    obtain ⟨hok45, hg⟩ := gd_some hg
    obtain ⟨hin46, hg⟩ := gd_some hg
    refine wr_iast hx hb hw hok45 (inb_vp hin46) dX7_solveAt_201 (fun H locs hw => ?_)
    refine lv_aload_n hx hb dX7_solveAt_202 rfl (lv_at hl 0 rfl) ?_
    obtain ⟨hok47, hg⟩ := gd_some hg
    obtain ⟨r48, hr48, hg⟩ := nn_some hg
    refine wr_get (K := RX7) (T := TX7) (N := 20) (index := 41) (ref := "MakerLinesModel") (v := .ref r48) hx hb hts hi_X7_solveAt_X7 hown hw hok47 (wF_7 (S := (sI S s2 s1.toNatClampNeg s0)) hok47.2) rfl 15 (by decide) (hts _ (List.mem_of_getElem? (i := 4) rfl)) (fun _ h9 => h9) (congrArg (fun o => some (va_rf o)) hr48) dX7_solveAt_203 ?_
    refine lv_iload hx hb dX7_solveAt_206 (lv_at hl 5 rfl) ?_
    refine lv_aload_n hx hb dX7_solveAt_208 rfl (lv_at hl 0 rfl) ?_
    obtain ⟨r49, hr49, hg⟩ := nn_some hg
    refine wr_get (K := RX7) (T := TX7) (N := 20) (index := 38) (ref := "MakerLinesModel") (v := .ref r49) hx hb hts hi_X7_solveAt_X7 hown hw hok47 (wF_7 (S := (sI S s2 s1.toNatClampNeg s0)) hok47.2) rfl 14 (by decide) (hts _ (List.mem_of_getElem? (i := 3) rfl)) (fun _ h9 => h9) (congrArg (fun o => some (va_rf o)) hr49) dX7_solveAt_209 ?_
    refine lv_iload hx hb dX7_solveAt_212 (lv_at hl 5 rfl) ?_
    obtain ⟨hok50, hg⟩ := gd_some hg
    obtain ⟨hin51, hg⟩ := gd_some hg
    refine wr_iald hx hb hw hok50 (inb_vp hin51) dX7_solveAt_214 ?_
    refine lv_iconst (v := (2 : Int32)) hx hb dX7_solveAt_215 (by decide) ?_
    refine lv_icmp_ne (tgt := 226) hx hb dX7_solveAt_216 (by decide) (fun c52 => ?_) (fun c52 => ?_)
    · have hg := it_neg hg c52
      refine lv_iconst (v := (1 : Int32)) hx hb dX7_solveAt_226 (by decide) ?_
      refine lv_iload_n hx hb dX7_solveAt_227 rfl (lv_at hl 1 rfl) ?_
      refine lv_iconst (v := (1 : Int32)) hx hb dX7_solveAt_228 (by decide) ?_
      refine lv_icmp_ne (tgt := 237) hx hb dX7_solveAt_229 (by decide) (fun c53 => ?_) (fun c53 => ?_)
      · have hg := it_neg hg c53
        refine lv_iload hx hb dX7_solveAt_237 (lv_at hl 4 rfl) ?_
        exact B239 _ _ _ _ _ _ _ _ hg hw (lv_sub hl [] rfl)
      · have hg := it_pos hg c53
        refine lv_iload hx hb dX7_solveAt_232 (lv_at hl 3 rfl) ?_
        refine lv_goto (tgt := 239) hx hb dX7_solveAt_234 (by decide) ?_
        exact B239 _ _ _ _ _ _ _ _ hg hw (lv_sub hl [] rfl)
    · have hg := it_pos hg c52
      refine lv_iload_n hx hb dX7_solveAt_219 rfl (lv_at hl 2 rfl) ?_
      obtain ⟨r54, S54, hc54, hg⟩ := cl_some hg
      refine wr_ci (va_runS (As := [.int x3]) (rest := [.int v9, .ref r48]) ⟨hx, hb, hml, hown, hts⟩ (c_X7_ones l D C N ((sI S s2 s1.toNatClampNeg s0)) z x3 r54 S54 hc54) (va_cwS 1 hts gX7_solveAt_X7_ones rfl rfl rfl (by decide +kernel) ⟨Nat.le_of_ble_eq_true rfl, Nat.le_of_ble_eq_true rfl⟩) (wd_preS hw) rfl rfl hl.1 rfl (lv_room (Nat.le_of_ble_eq_true rfl)) dX7_solveAt_220 ⟨Nat.zero_le _, Nat.zero_le _⟩) hw (fun H locs hw => ?_)
      refine lv_goto (tgt := 240) hx hb dX7_solveAt_223 (by decide) ?_
      exact B240 _ _ _ _ _ _ _ hg hw (lv_sub hl [] rfl)
  have B200 : ∀ (S : Hp) (v4 : Int32) (v5 : Int32) (v9 : Int32) (s0 : Int32) (s1 : Nat) (H : Heap) (locs : List Loc) (ls : Array Slot), f_X7_solveAt_b200 N a0 x1 x2 x3 S v4 v5 v9 s0 s1 = some (r, S9) → Wd D C (va_A (wP C S0) z) s.heap S z H locs s → lv_has ls 11 [(0, .ref a0), (2, .int x2), (3, .int x3), (4, .int v4), (5, .int v5), (9, .int v9)] → W p l e rm_X7_solveAt s m ([.ref a0, .int x1, .int x2, .int x3] : List Value).toArray below meth c H locs 0 0 (MQ below (QvW D C S0 z r S9 z) ([.ref a0, .int x1, .int x2, .int x3] : List Value).toArray s 0 0 (va_A (wP C S0) z)) (F0 m 200 ls [.int s0, .ref s1]) := by
    intro S v4 v5 v9 s0 s1 H locs ls hg hw hl
    unfold f_X7_solveAt_b200 at hg
    refine lv_iconst (v := (2 : Int32)) hx hb dX7_solveAt_200 (by decide) ?_
    exact B201 _ _ _ _ _ _ _ _ _ _ hg hw (lv_sub hl [0, 1, 2, 3, 4, 5] rfl)
  have B196 : ∀ (S : Hp) (v4 : Int32) (v5 : Int32) (v9 : Int32) (s0 : Int32) (s1 : Nat) (H : Heap) (locs : List Loc) (ls : Array Slot), f_X7_solveAt_b196 N a0 x1 x2 x3 S v4 v5 v9 s0 s1 = some (r, S9) → Wd D C (va_A (wP C S0) z) s.heap S z H locs s → lv_has ls 11 [(0, .ref a0), (2, .int x2), (3, .int x3), (4, .int v4), (5, .int v5), (9, .int v9)] → W p l e rm_X7_solveAt s m ([.ref a0, .int x1, .int x2, .int x3] : List Value).toArray below meth c H locs 0 0 (MQ below (QvW D C S0 z r S9 z) ([.ref a0, .int x1, .int x2, .int x3] : List Value).toArray s 0 0 (va_A (wP C S0) z)) (F0 m 196 ls [.int s0, .ref s1]) := by
    intro S v4 v5 v9 s0 s1 H locs ls hg hw hl
    unfold f_X7_solveAt_b196 at hg
    refine lv_iconst (v := (1 : Int32)) hx hb dX7_solveAt_196 (by decide) ?_
    refine lv_goto (tgt := 201) hx hb dX7_solveAt_197 (by decide) ?_
    exact B201 _ _ _ _ _ _ _ _ _ _ hg hw (lv_sub hl [0, 1, 2, 3, 4, 5] rfl)
  have B147 : ∀ (K19 : Hp → Int32 → Int32 → Int32 → Int32 → Int32 → Int32 → Option (Unit × Hp)) (hK19 : ∀ (S : Hp) (v4 : Int32) (v5 : Int32) (v6 : Int32) (v7 : Int32) (v8 : Int32) (v9 : Int32) (H : Heap) (locs : List Loc) (ls : Array Slot), K19 S v4 v5 v6 v7 v8 v9 = some (r, S9) → Wd D C (va_A (wP C S0) z) s.heap S z H locs s → lv_has ls 11 [(0, .ref a0), (1, .int x1), (2, .int x2), (3, .int x3), (4, .int v4), (5, .int v5), (6, .int v6), (7, .int v7), (8, .int v8), (9, .int v9)] → W p l e rm_X7_solveAt s m ([.ref a0, .int x1, .int x2, .int x3] : List Value).toArray below meth c H locs 0 0 (MQ below (QvW D C S0 z r S9 z) ([.ref a0, .int x1, .int x2, .int x3] : List Value).toArray s 0 0 (va_A (wP C S0) z)) (F0 m 19 ls [])) (S : Hp) (v4 : Int32) (v5 : Int32) (v6 : Int32) (v8 : Int32) (v9 : Int32) (H : Heap) (locs : List Loc) (ls : Array Slot), f_X7_solveAt_b147 N a0 x1 x2 x3 K19 S v4 v5 v6 v8 v9 = some (r, S9) → Wd D C (va_A (wP C S0) z) s.heap S z H locs s → lv_has ls 11 [(0, .ref a0), (1, .int x1), (2, .int x2), (3, .int x3), (4, .int v4), (5, .int v5), (6, .int v6), (8, .int v8), (9, .int v9)] → W p l e rm_X7_solveAt s m ([.ref a0, .int x1, .int x2, .int x3] : List Value).toArray below meth c H locs 0 0 (MQ below (QvW D C S0 z r S9 z) ([.ref a0, .int x1, .int x2, .int x3] : List Value).toArray s 0 0 (va_A (wP C S0) z)) (F0 m 147 ls []) := by
    intro K19 hK19 S v4 v5 v6 v8 v9 H locs ls hg hw hl
    unfold f_X7_solveAt_b147 at hg
    refine lv_iconst (v := (0 : Int32)) hx hb dX7_solveAt_147 (by decide) ?_
    refine lv_istore (lv' := [(7, .int (0 : Int32)), (0, .ref a0), (1, .int x1), (2, .int x2), (3, .int x3), (4, .int v4), (5, .int v5), (6, .int v6), (8, .int v8), (9, .int v9)]) hx hb dX7_solveAt_148 hl (by decide) rfl (fun ls hl => ?_)
    refine lv_iload hx hb dX7_solveAt_150 (lv_at hl 8 rfl) ?_
    refine lv_iconst (v := (3 : Int32)) hx hb dX7_solveAt_152 (by decide) ?_
    refine lv_imul hx hb dX7_solveAt_153 ?_
    refine lv_istore (lv' := [(8, .int (v8 * (3 : Int32))), (7, .int (0 : Int32)), (0, .ref a0), (1, .int x1), (2, .int x2), (3, .int x3), (4, .int v4), (5, .int v5), (6, .int v6), (9, .int v9)]) hx hb dX7_solveAt_154 hl (by decide) rfl (fun ls hl => ?_)
    refine lv_iinc (v := (v9 + (1 : Int32))) (lv' := [(9, .int (v9 + (1 : Int32))), (8, .int (v8 * (3 : Int32))), (7, .int (0 : Int32)), (0, .ref a0), (1, .int x1), (2, .int x2), (3, .int x3), (4, .int v4), (5, .int v5), (6, .int v6)]) hx hb dX7_solveAt_156 hl (k := 9) rfl rfl (by decide) rfl (fun ls hl => ?_)
    refine lv_goto (tgt := 19) hx hb dX7_solveAt_159 (by decide) ?_
    exact hK19 _ _ _ _ _ _ _ _ _ _ hg hw (lv_sub hl [3, 4, 5, 6, 7, 8, 9, 2, 1, 0] rfl)
  have B143 : ∀ (K19 : Hp → Int32 → Int32 → Int32 → Int32 → Int32 → Int32 → Option (Unit × Hp)) (hK19 : ∀ (S : Hp) (v4 : Int32) (v5 : Int32) (v6 : Int32) (v7 : Int32) (v8 : Int32) (v9 : Int32) (H : Heap) (locs : List Loc) (ls : Array Slot), K19 S v4 v5 v6 v7 v8 v9 = some (r, S9) → Wd D C (va_A (wP C S0) z) s.heap S z H locs s → lv_has ls 11 [(0, .ref a0), (1, .int x1), (2, .int x2), (3, .int x3), (4, .int v4), (5, .int v5), (6, .int v6), (7, .int v7), (8, .int v8), (9, .int v9)] → W p l e rm_X7_solveAt s m ([.ref a0, .int x1, .int x2, .int x3] : List Value).toArray below meth c H locs 0 0 (MQ below (QvW D C S0 z r S9 z) ([.ref a0, .int x1, .int x2, .int x3] : List Value).toArray s 0 0 (va_A (wP C S0) z)) (F0 m 19 ls [])) (S : Hp) (v4 : Int32) (v5 : Int32) (v6 : Int32) (v8 : Int32) (v9 : Int32) (H : Heap) (locs : List Loc) (ls : Array Slot), f_X7_solveAt_b143 N a0 x1 x2 x3 K19 S v4 v5 v6 v8 v9 = some (r, S9) → Wd D C (va_A (wP C S0) z) s.heap S z H locs s → lv_has ls 11 [(0, .ref a0), (1, .int x1), (2, .int x2), (3, .int x3), (4, .int v4), (5, .int v5), (6, .int v6), (8, .int v8), (9, .int v9)] → W p l e rm_X7_solveAt s m ([.ref a0, .int x1, .int x2, .int x3] : List Value).toArray below meth c H locs 0 0 (MQ below (QvW D C S0 z r S9 z) ([.ref a0, .int x1, .int x2, .int x3] : List Value).toArray s 0 0 (va_A (wP C S0) z)) (F0 m 143 ls []) := by
    intro K19 hK19 S v4 v5 v6 v8 v9 H locs ls hg hw hl
    unfold f_X7_solveAt_b143 at hg
    refine lv_iconst (v := (1 : Int32)) hx hb dX7_solveAt_143 (by decide) ?_
    refine lv_goto (tgt := 148) hx hb dX7_solveAt_144 (by decide) ?_
    refine lv_istore (lv' := [(7, .int (1 : Int32)), (0, .ref a0), (1, .int x1), (2, .int x2), (3, .int x3), (4, .int v4), (5, .int v5), (6, .int v6), (8, .int v8), (9, .int v9)]) hx hb dX7_solveAt_148 hl (by decide) rfl (fun ls hl => ?_)
    refine lv_iload hx hb dX7_solveAt_150 (lv_at hl 8 rfl) ?_
    refine lv_iconst (v := (3 : Int32)) hx hb dX7_solveAt_152 (by decide) ?_
    refine lv_imul hx hb dX7_solveAt_153 ?_
    refine lv_istore (lv' := [(8, .int (v8 * (3 : Int32))), (7, .int (1 : Int32)), (0, .ref a0), (1, .int x1), (2, .int x2), (3, .int x3), (4, .int v4), (5, .int v5), (6, .int v6), (9, .int v9)]) hx hb dX7_solveAt_154 hl (by decide) rfl (fun ls hl => ?_)
    refine lv_iinc (v := (v9 + (1 : Int32))) (lv' := [(9, .int (v9 + (1 : Int32))), (8, .int (v8 * (3 : Int32))), (7, .int (1 : Int32)), (0, .ref a0), (1, .int x1), (2, .int x2), (3, .int x3), (4, .int v4), (5, .int v5), (6, .int v6)]) hx hb dX7_solveAt_156 hl (k := 9) rfl rfl (by decide) rfl (fun ls hl => ?_)
    refine lv_goto (tgt := 19) hx hb dX7_solveAt_159 (by decide) ?_
    exact hK19 _ _ _ _ _ _ _ _ _ _ hg hw (lv_sub hl [3, 4, 5, 6, 7, 8, 9, 2, 1, 0] rfl)
  have B118 : ∀ (K19 : Hp → Int32 → Int32 → Int32 → Int32 → Int32 → Int32 → Option (Unit × Hp)) (hK19 : ∀ (S : Hp) (v4 : Int32) (v5 : Int32) (v6 : Int32) (v7 : Int32) (v8 : Int32) (v9 : Int32) (H : Heap) (locs : List Loc) (ls : Array Slot), K19 S v4 v5 v6 v7 v8 v9 = some (r, S9) → Wd D C (va_A (wP C S0) z) s.heap S z H locs s → lv_has ls 11 [(0, .ref a0), (1, .int x1), (2, .int x2), (3, .int x3), (4, .int v4), (5, .int v5), (6, .int v6), (7, .int v7), (8, .int v8), (9, .int v9)] → W p l e rm_X7_solveAt s m ([.ref a0, .int x1, .int x2, .int x3] : List Value).toArray below meth c H locs 0 0 (MQ below (QvW D C S0 z r S9 z) ([.ref a0, .int x1, .int x2, .int x3] : List Value).toArray s 0 0 (va_A (wP C S0) z)) (F0 m 19 ls [])) (S : Hp) (v4 : Int32) (v5 : Int32) (v6 : Int32) (v7 : Int32) (v8 : Int32) (v9 : Int32) (v10 : Int32) (H : Heap) (locs : List Loc) (ls : Array Slot), f_X7_solveAt_b118 N a0 x1 x2 x3 K19 S v4 v5 v6 v7 v8 v9 v10 = some (r, S9) → Wd D C (va_A (wP C S0) z) s.heap S z H locs s → lv_has ls 11 [(0, .ref a0), (1, .int x1), (2, .int x2), (3, .int x3), (4, .int v4), (5, .int v5), (6, .int v6), (7, .int v7), (8, .int v8), (9, .int v9), (10, .int v10)] → W p l e rm_X7_solveAt s m ([.ref a0, .int x1, .int x2, .int x3] : List Value).toArray below meth c H locs 0 0 (MQ below (QvW D C S0 z r S9 z) ([.ref a0, .int x1, .int x2, .int x3] : List Value).toArray s 0 0 (va_A (wP C S0) z)) (F0 m 118 ls []) := by
    intro K19 hK19 S v4 v5 v6 v7 v8 v9 v10 H locs ls hg hw hl
    unfold f_X7_solveAt_b118 at hg
    refine lv_iload hx hb dX7_solveAt_118 (lv_at hl 7 rfl) ?_
    refine lv_if_ne (tgt := 143) hx hb dX7_solveAt_120 (by decide) (fun c32 => ?_) (fun c32 => ?_)
    · have hg := it_neg hg c32
      exact B143 K19 hK19 _ _ _ _ _ _ _ _ _ hg hw (lv_sub hl [0, 1, 2, 3, 4, 5, 6, 8, 9] rfl)
    · have hg := it_pos hg c32
      refine lv_iload_n hx hb dX7_solveAt_123 rfl (lv_at hl 3 rfl) ?_
      refine lv_iload hx hb dX7_solveAt_124 (lv_at hl 9 rfl) ?_
      obtain ⟨r33, S33, hc33, hg⟩ := cl_some hg
      refine wr_ci (va_runS (As := [.int x3, .int v9]) (rest := []) ⟨hx, hb, hml, hown, hts⟩ (c_X7_has l D C N S z x3 v9 r33 S33 hc33) (va_cwS 2 hts gX7_solveAt_X7_has rfl rfl rfl (by decide +kernel) ⟨Nat.le_of_ble_eq_true rfl, Nat.le_of_ble_eq_true rfl⟩) (wd_preS hw) rfl rfl hl.1 rfl (lv_room (Nat.le_of_ble_eq_true rfl)) dX7_solveAt_126 ⟨Nat.zero_le _, Nat.zero_le _⟩) hw (fun H locs hw => ?_)
      refine lv_if_eq (tgt := 147) hx hb dX7_solveAt_129 (by decide) (fun c34 => ?_) (fun c34 => ?_)
      · have hg := it_pos hg c34
        exact B147 K19 hK19 _ _ _ _ _ _ _ _ _ hg hw (lv_sub hl [0, 1, 2, 3, 4, 5, 6, 8, 9] rfl)
      · have hg := it_neg hg c34
        refine lv_aload_n hx hb dX7_solveAt_132 rfl (lv_at hl 0 rfl) ?_
        obtain ⟨hok35, hg⟩ := gd_some hg
        obtain ⟨r36, hr36, hg⟩ := nn_some hg
        refine wr_get (K := RX7) (T := TX7) (N := 20) (index := 38) (ref := "MakerLinesModel") (v := .ref r36) hx hb hts hi_X7_solveAt_X7 hown hw hok35 (wF_7 (S := S33) hok35.2) rfl 14 (by decide) (hts _ (List.mem_of_getElem? (i := 3) rfl)) (fun _ h9 => h9) (congrArg (fun o => some (va_rf o)) hr36) dX7_solveAt_133 ?_
        refine lv_iload hx hb dX7_solveAt_136 (lv_at hl 10 rfl) ?_
        obtain ⟨hok37, hg⟩ := gd_some hg
        obtain ⟨hin38, hg⟩ := gd_some hg
        refine wr_iald hx hb hw hok37 (inb_vp hin38) dX7_solveAt_138 ?_
        refine lv_iconst (v := (2 : Int32)) hx hb dX7_solveAt_139 (by decide) ?_
        refine lv_icmp_ne (tgt := 147) hx hb dX7_solveAt_140 (by decide) (fun c39 => ?_) (fun c39 => ?_)
        · have hg := it_neg hg c39
          exact B147 K19 hK19 _ _ _ _ _ _ _ _ _ hg hw (lv_sub hl [0, 1, 2, 3, 4, 5, 6, 8, 9] rfl)
        · have hg := it_pos hg c39
          exact B143 K19 hK19 _ _ _ _ _ _ _ _ _ hg hw (lv_sub hl [0, 1, 2, 3, 4, 5, 6, 8, 9] rfl)
  have B116 : ∀ (K19 : Hp → Int32 → Int32 → Int32 → Int32 → Int32 → Int32 → Option (Unit × Hp)) (hK19 : ∀ (S : Hp) (v4 : Int32) (v5 : Int32) (v6 : Int32) (v7 : Int32) (v8 : Int32) (v9 : Int32) (H : Heap) (locs : List Loc) (ls : Array Slot), K19 S v4 v5 v6 v7 v8 v9 = some (r, S9) → Wd D C (va_A (wP C S0) z) s.heap S z H locs s → lv_has ls 11 [(0, .ref a0), (1, .int x1), (2, .int x2), (3, .int x3), (4, .int v4), (5, .int v5), (6, .int v6), (7, .int v7), (8, .int v8), (9, .int v9)] → W p l e rm_X7_solveAt s m ([.ref a0, .int x1, .int x2, .int x3] : List Value).toArray below meth c H locs 0 0 (MQ below (QvW D C S0 z r S9 z) ([.ref a0, .int x1, .int x2, .int x3] : List Value).toArray s 0 0 (va_A (wP C S0) z)) (F0 m 19 ls [])) (S : Hp) (v4 : Int32) (v6 : Int32) (v7 : Int32) (v8 : Int32) (v9 : Int32) (v10 : Int32) (s0 : Int32) (H : Heap) (locs : List Loc) (ls : Array Slot), f_X7_solveAt_b116 N a0 x1 x2 x3 K19 S v4 v6 v7 v8 v9 v10 s0 = some (r, S9) → Wd D C (va_A (wP C S0) z) s.heap S z H locs s → lv_has ls 11 [(0, .ref a0), (1, .int x1), (2, .int x2), (3, .int x3), (4, .int v4), (6, .int v6), (7, .int v7), (8, .int v8), (9, .int v9), (10, .int v10)] → W p l e rm_X7_solveAt s m ([.ref a0, .int x1, .int x2, .int x3] : List Value).toArray below meth c H locs 0 0 (MQ below (QvW D C S0 z r S9 z) ([.ref a0, .int x1, .int x2, .int x3] : List Value).toArray s 0 0 (va_A (wP C S0) z)) (F0 m 116 ls [.int s0]) := by
    intro K19 hK19 S v4 v6 v7 v8 v9 v10 s0 H locs ls hg hw hl
    unfold f_X7_solveAt_b116 at hg
    refine lv_istore (lv' := [(5, .int s0), (0, .ref a0), (1, .int x1), (2, .int x2), (3, .int x3), (4, .int v4), (6, .int v6), (7, .int v7), (8, .int v8), (9, .int v9), (10, .int v10)]) hx hb dX7_solveAt_116 hl (by decide) rfl (fun ls hl => ?_)
    exact B118 K19 hK19 _ _ _ _ _ _ _ _ _ _ _ hg hw (lv_sub hl [1, 2, 3, 4, 5, 0, 6, 7, 8, 9, 10] rfl)
  have B90 : ∀ (K19 : Hp → Int32 → Int32 → Int32 → Int32 → Int32 → Int32 → Option (Unit × Hp)) (hK19 : ∀ (S : Hp) (v4 : Int32) (v5 : Int32) (v6 : Int32) (v7 : Int32) (v8 : Int32) (v9 : Int32) (H : Heap) (locs : List Loc) (ls : Array Slot), K19 S v4 v5 v6 v7 v8 v9 = some (r, S9) → Wd D C (va_A (wP C S0) z) s.heap S z H locs s → lv_has ls 11 [(0, .ref a0), (1, .int x1), (2, .int x2), (3, .int x3), (4, .int v4), (5, .int v5), (6, .int v6), (7, .int v7), (8, .int v8), (9, .int v9)] → W p l e rm_X7_solveAt s m ([.ref a0, .int x1, .int x2, .int x3] : List Value).toArray below meth c H locs 0 0 (MQ below (QvW D C S0 z r S9 z) ([.ref a0, .int x1, .int x2, .int x3] : List Value).toArray s 0 0 (va_A (wP C S0) z)) (F0 m 19 ls [])) (S : Hp) (v5 : Int32) (v6 : Int32) (v7 : Int32) (v8 : Int32) (v9 : Int32) (v10 : Int32) (s0 : Int32) (H : Heap) (locs : List Loc) (ls : Array Slot), f_X7_solveAt_b90 N a0 x1 x2 x3 K19 S v5 v6 v7 v8 v9 v10 s0 = some (r, S9) → Wd D C (va_A (wP C S0) z) s.heap S z H locs s → lv_has ls 11 [(0, .ref a0), (1, .int x1), (2, .int x2), (3, .int x3), (5, .int v5), (6, .int v6), (7, .int v7), (8, .int v8), (9, .int v9), (10, .int v10)] → W p l e rm_X7_solveAt s m ([.ref a0, .int x1, .int x2, .int x3] : List Value).toArray below meth c H locs 0 0 (MQ below (QvW D C S0 z r S9 z) ([.ref a0, .int x1, .int x2, .int x3] : List Value).toArray s 0 0 (va_A (wP C S0) z)) (F0 m 90 ls [.int s0]) := by
    intro K19 hK19 S v5 v6 v7 v8 v9 v10 s0 H locs ls hg hw hl
    unfold f_X7_solveAt_b90 at hg
    refine lv_istore (lv' := [(4, .int s0), (0, .ref a0), (1, .int x1), (2, .int x2), (3, .int x3), (5, .int v5), (6, .int v6), (7, .int v7), (8, .int v8), (9, .int v9), (10, .int v10)]) hx hb dX7_solveAt_90 hl (by decide) rfl (fun ls hl => ?_)
    refine lv_aload_n hx hb dX7_solveAt_92 rfl (lv_at hl 1 rfl) ?_
    obtain ⟨hok40, hg⟩ := gd_some hg
    obtain ⟨r41, hr41, hg⟩ := nn_some hg
    refine wr_get (K := RX7) (T := TX7) (N := 20) (index := 41) (ref := "MakerLinesModel") (v := .ref r41) hx hb hts hi_X7_solveAt_X7 hown hw hok40 (wF_7 (S := S) hok40.2) rfl 15 (by decide) (hts _ (List.mem_of_getElem? (i := 4) rfl)) (fun _ h9 => h9) (congrArg (fun o => some (va_rf o)) hr41) dX7_solveAt_93 ?_
    refine lv_iload hx hb dX7_solveAt_96 (lv_at hl 10 rfl) ?_
    obtain ⟨hok42, hg⟩ := gd_some hg
    obtain ⟨hin43, hg⟩ := gd_some hg
    refine wr_iald hx hb hw hok42 (inb_vp hin43) dX7_solveAt_98 ?_
    refine lv_iload hx hb dX7_solveAt_99 (lv_at hl 5 rfl) ?_
    refine lv_icmp_le (tgt := 114) hx hb dX7_solveAt_101 (by decide) (fun c44 => ?_) (fun c44 => ?_)
    · have hg := it_pos hg c44
      refine lv_iload hx hb dX7_solveAt_114 (lv_at hl 5 rfl) ?_
      exact B116 K19 hK19 _ _ _ _ _ _ _ _ _ _ _ hg hw (lv_sub hl [1, 2, 3, 4, 0, 6, 7, 8, 9, 10] rfl)
    · have hg := it_neg hg c44
      refine lv_aload_n hx hb dX7_solveAt_104 rfl (lv_at hl 1 rfl) ?_
      refine wr_get (K := RX7) (T := TX7) (N := 20) (index := 41) (ref := "MakerLinesModel") (v := .ref r41) hx hb hts hi_X7_solveAt_X7 hown hw hok40 (wF_7 (S := S) hok40.2) rfl 15 (by decide) (hts _ (List.mem_of_getElem? (i := 4) rfl)) (fun _ h9 => h9) (congrArg (fun o => some (va_rf o)) hr41) dX7_solveAt_105 ?_
      refine lv_iload hx hb dX7_solveAt_108 (lv_at hl 10 rfl) ?_
      refine wr_iald hx hb hw hok42 (inb_vp hin43) dX7_solveAt_110 ?_
      refine lv_goto (tgt := 116) hx hb dX7_solveAt_111 (by decide) ?_
      exact B116 K19 hK19 _ _ _ _ _ _ _ _ _ _ _ hg hw (lv_sub hl [1, 2, 3, 4, 0, 6, 7, 8, 9, 10] rfl)
  have B19 : ∀ (K19 : Hp → Int32 → Int32 → Int32 → Int32 → Int32 → Int32 → Option (Unit × Hp)) (hK19 : ∀ (S : Hp) (v4 : Int32) (v5 : Int32) (v6 : Int32) (v7 : Int32) (v8 : Int32) (v9 : Int32) (H : Heap) (locs : List Loc) (ls : Array Slot), K19 S v4 v5 v6 v7 v8 v9 = some (r, S9) → Wd D C (va_A (wP C S0) z) s.heap S z H locs s → lv_has ls 11 [(0, .ref a0), (1, .int x1), (2, .int x2), (3, .int x3), (4, .int v4), (5, .int v5), (6, .int v6), (7, .int v7), (8, .int v8), (9, .int v9)] → W p l e rm_X7_solveAt s m ([.ref a0, .int x1, .int x2, .int x3] : List Value).toArray below meth c H locs 0 0 (MQ below (QvW D C S0 z r S9 z) ([.ref a0, .int x1, .int x2, .int x3] : List Value).toArray s 0 0 (va_A (wP C S0) z)) (F0 m 19 ls [])) (S : Hp) (v4 : Int32) (v5 : Int32) (v6 : Int32) (v7 : Int32) (v8 : Int32) (v9 : Int32) (H : Heap) (locs : List Loc) (ls : Array Slot), f_X7_solveAt_b19 N a0 x1 x2 x3 K19 S v4 v5 v6 v7 v8 v9 = some (r, S9) → Wd D C (va_A (wP C S0) z) s.heap S z H locs s → lv_has ls 11 [(0, .ref a0), (1, .int x1), (2, .int x2), (3, .int x3), (4, .int v4), (5, .int v5), (6, .int v6), (7, .int v7), (8, .int v8), (9, .int v9)] → W p l e rm_X7_solveAt s m ([.ref a0, .int x1, .int x2, .int x3] : List Value).toArray below meth c H locs 0 0 (MQ below (QvW D C S0 z r S9 z) ([.ref a0, .int x1, .int x2, .int x3] : List Value).toArray s 0 0 (va_A (wP C S0) z)) (F0 m 19 ls []) := by
    intro K19 hK19 S v4 v5 v6 v7 v8 v9 H locs ls hg hw hl
    unfold f_X7_solveAt_b19 at hg
    refine lv_iload hx hb dX7_solveAt_19 (lv_at hl 9 rfl) ?_
    refine lv_aload_n hx hb dX7_solveAt_21 rfl (lv_at hl 0 rfl) ?_
    obtain ⟨hok10, hg⟩ := gd_some hg
    obtain ⟨r11, hr11, hg⟩ := nn_some hg
    refine wr_get (K := RX7) (T := TX7) (N := 20) (index := 7) (ref := "MakerLinesModel") (v := .ref r11) hx hb hts hi_X7_solveAt_X7 hown hw hok10 (wF_7 (S := S) hok10.2) rfl 0 (by decide) (hts _ (List.mem_of_getElem? (i := 1) rfl)) (fun _ h9 => h9) (congrArg (fun o => some (va_rf o)) hr11) dX7_solveAt_22 ?_
    refine lv_iconst (v := (0 : Int32)) hx hb dX7_solveAt_25 (by decide) ?_
    obtain ⟨hok12, hg⟩ := gd_some hg
    obtain ⟨hin13, hg⟩ := gd_some hg
    refine wr_iald hx hb hw hok12 (inb_vp hin13) dX7_solveAt_26 ?_
    refine lv_icmp_ge (tgt := 162) hx hb dX7_solveAt_27 (by decide) (fun c14 => ?_) (fun c14 => ?_)
    · have hg := it_pos hg c14
      refine lv_iload_n hx hb dX7_solveAt_162 rfl (lv_at hl 1 rfl) ?_
      refine lv_ldc (own := RX7) (index := 128) (v := (59049 : Int32)) hx hb hown (hts _ (List.mem_of_getElem? (i := 2) rfl)) dX7_solveAt_163 ?_
      refine lv_iload_n hx hb dX7_solveAt_165 rfl (lv_at hl 2 rfl) ?_
      refine lv_iconst (v := (1 : Int32)) hx hb dX7_solveAt_166 (by decide) ?_
      refine lv_isub hx hb dX7_solveAt_167 ?_
      refine lv_imul hx hb dX7_solveAt_168 ?_
      refine lv_iadd hx hb dX7_solveAt_169 ?_
      obtain ⟨e15, he15, hg⟩ := bd_some hg
      refine lv_istore (lv' := [(9, .int e15), (0, .ref a0), (1, .int x1), (2, .int x2), (3, .int x3), (4, .int v4), (5, .int v5), (6, .int v6), (7, .int v7), (8, .int v8)]) hx hb dX7_solveAt_170 hl (by decide) (by rw [he15]; rfl) (fun ls hl => ?_)
      refine lv_aload_n hx hb dX7_solveAt_172 rfl (lv_at hl 1 rfl) ?_
      obtain ⟨r16, hr16, hg⟩ := nn_some hg
      refine wr_get (K := RX7) (T := TX7) (N := 20) (index := 38) (ref := "MakerLinesModel") (v := .ref r16) hx hb hts hi_X7_solveAt_X7 hown hw hok10 (wF_7 (S := S) hok10.2) rfl 14 (by decide) (hts _ (List.mem_of_getElem? (i := 3) rfl)) (fun _ h9 => h9) (congrArg (fun o => some (va_rf o)) hr16) dX7_solveAt_173 ?_
      refine lv_iload hx hb dX7_solveAt_176 (lv_at hl 0 rfl) ?_
      refine lv_iload_n hx hb dX7_solveAt_178 rfl (lv_at hl 3 rfl) ?_
      refine lv_iconst (v := (1 : Int32)) hx hb dX7_solveAt_179 (by decide) ?_
      refine lv_icmp_ne (tgt := 191) hx hb dX7_solveAt_180 (by decide) (fun c17 => ?_) (fun c17 => ?_)
      · have hg := it_neg hg c17
        refine lv_iload hx hb dX7_solveAt_191 (lv_at hl 8 rfl) ?_
        refine lv_if_ne (tgt := 200) hx hb dX7_solveAt_193 (by decide) (fun c18 => ?_) (fun c18 => ?_)
        · have hg := it_neg hg c18
          exact B200 _ _ _ _ _ _ _ _ _ hg hw (lv_sub hl [1, 3, 4, 5, 6, 0] rfl)
        · have hg := it_pos hg c18
          exact B196 _ _ _ _ _ _ _ _ _ hg hw (lv_sub hl [1, 3, 4, 5, 6, 0] rfl)
      · have hg := it_pos hg c17
        refine lv_iload hx hb dX7_solveAt_183 (lv_at hl 7 rfl) ?_
        refine lv_if_eq (tgt := 200) hx hb dX7_solveAt_185 (by decide) (fun c19 => ?_) (fun c19 => ?_)
        · have hg := it_pos hg c19
          exact B200 _ _ _ _ _ _ _ _ _ hg hw (lv_sub hl [1, 3, 4, 5, 6, 0] rfl)
        · have hg := it_neg hg c19
          refine lv_goto (tgt := 196) hx hb dX7_solveAt_188 (by decide) ?_
          exact B196 _ _ _ _ _ _ _ _ _ hg hw (lv_sub hl [1, 3, 4, 5, 6, 0] rfl)
    · have hg := it_neg hg c14
      refine lv_iload_n hx hb dX7_solveAt_30 rfl (lv_at hl 1 rfl) ?_
      refine lv_iload hx hb dX7_solveAt_31 (lv_at hl 8 rfl) ?_
      refine lv_iadd hx hb dX7_solveAt_33 ?_
      refine lv_ldc (own := RX7) (index := 128) (v := (59049 : Int32)) hx hb hown (hts _ (List.mem_of_getElem? (i := 2) rfl)) dX7_solveAt_34 ?_
      refine lv_iconst (v := (2 : Int32)) hx hb dX7_solveAt_36 (by decide) ?_
      refine lv_iload_n hx hb dX7_solveAt_37 rfl (lv_at hl 2 rfl) ?_
      refine lv_isub hx hb dX7_solveAt_38 ?_
      refine lv_imul hx hb dX7_solveAt_39 ?_
      refine lv_iadd hx hb dX7_solveAt_40 ?_
      obtain ⟨e20, he20, hg⟩ := bd_some hg
      refine lv_istore (lv' := [(10, .int e20), (0, .ref a0), (1, .int x1), (2, .int x2), (3, .int x3), (4, .int v4), (5, .int v5), (6, .int v6), (7, .int v7), (8, .int v8), (9, .int v9)]) hx hb dX7_solveAt_41 hl (by decide) (by rw [he20]; rfl) (fun ls hl => ?_)
      refine lv_iload_n hx hb dX7_solveAt_43 rfl (lv_at hl 4 rfl) ?_
      refine lv_iload hx hb dX7_solveAt_44 (lv_at hl 10 rfl) ?_
      obtain ⟨r21, S21, hc21, hg⟩ := cl_some hg
      refine wr_ci (va_runS (As := [.int x3, .int v9]) (rest := []) ⟨hx, hb, hml, hown, hts⟩ (c_X7_has l D C N S z x3 v9 r21 S21 hc21) (va_cwS 2 hts gX7_solveAt_X7_has rfl rfl rfl (by decide +kernel) ⟨Nat.le_of_ble_eq_true rfl, Nat.le_of_ble_eq_true rfl⟩) (wd_preS hw) rfl rfl hl.1 rfl (lv_room (Nat.le_of_ble_eq_true rfl)) dX7_solveAt_46 ⟨Nat.zero_le _, Nat.zero_le _⟩) hw (fun H locs hw => ?_)
      refine lv_if_eq (tgt := 118) hx hb dX7_solveAt_49 (by decide) (fun c22 => ?_) (fun c22 => ?_)
      · have hg := it_pos hg c22
        exact B118 K19 hK19 _ _ _ _ _ _ _ _ _ _ _ hg hw (lv_sub hl [1, 2, 3, 4, 5, 6, 7, 8, 9, 10, 0] rfl)
      · have hg := it_neg hg c22
        refine lv_aload_n hx hb dX7_solveAt_52 rfl (lv_at hl 1 rfl) ?_
        obtain ⟨hok23, hg⟩ := gd_some hg
        obtain ⟨r24, hr24, hg⟩ := nn_some hg
        refine wr_get (K := RX7) (T := TX7) (N := 20) (index := 38) (ref := "MakerLinesModel") (v := .ref r24) hx hb hts hi_X7_solveAt_X7 hown hw hok23 (wF_7 (S := S21) hok23.2) rfl 14 (by decide) (hts _ (List.mem_of_getElem? (i := 3) rfl)) (fun _ h9 => h9) (congrArg (fun o => some (va_rf o)) hr24) dX7_solveAt_53 ?_
        refine lv_iload hx hb dX7_solveAt_56 (lv_at hl 0 rfl) ?_
        obtain ⟨hok25, hg⟩ := gd_some hg
        obtain ⟨hin26, hg⟩ := gd_some hg
        refine wr_iald hx hb hw hok25 (inb_vp hin26) dX7_solveAt_58 ?_
        refine lv_iconst (v := (1 : Int32)) hx hb dX7_solveAt_59 (by decide) ?_
        refine lv_icmp_ne (tgt := 118) hx hb dX7_solveAt_60 (by decide) (fun c27 => ?_) (fun c27 => ?_)
        · have hg := it_neg hg c27
          exact B118 K19 hK19 _ _ _ _ _ _ _ _ _ _ _ hg hw (lv_sub hl [1, 2, 3, 4, 5, 6, 7, 8, 9, 10, 0] rfl)
        · have hg := it_pos hg c27
          refine lv_iconst (v := (1 : Int32)) hx hb dX7_solveAt_63 (by decide) ?_
          refine lv_istore (lv' := [(6, .int (1 : Int32)), (10, .int e20), (0, .ref a0), (1, .int x1), (2, .int x2), (3, .int x3), (4, .int v4), (5, .int v5), (7, .int v7), (8, .int v8), (9, .int v9)]) hx hb dX7_solveAt_64 hl (by decide) rfl (fun ls hl => ?_)
          refine lv_aload_n hx hb dX7_solveAt_66 rfl (lv_at hl 2 rfl) ?_
          obtain ⟨r28, hr28, hg⟩ := nn_some hg
          refine wr_get (K := RX7) (T := TX7) (N := 20) (index := 41) (ref := "MakerLinesModel") (v := .ref r28) hx hb hts hi_X7_solveAt_X7 hown hw hok23 (wF_7 (S := S21) hok23.2) rfl 15 (by decide) (hts _ (List.mem_of_getElem? (i := 4) rfl)) (fun _ h9 => h9) (congrArg (fun o => some (va_rf o)) hr28) dX7_solveAt_67 ?_
          refine lv_iload hx hb dX7_solveAt_70 (lv_at hl 1 rfl) ?_
          obtain ⟨hok29, hg⟩ := gd_some hg
          obtain ⟨hin30, hg⟩ := gd_some hg
          refine wr_iald hx hb hw hok29 (inb_vp hin30) dX7_solveAt_72 ?_
          refine lv_iload hx hb dX7_solveAt_73 (lv_at hl 6 rfl) ?_
          refine lv_icmp_ge (tgt := 88) hx hb dX7_solveAt_75 (by decide) (fun c31 => ?_) (fun c31 => ?_)
          · have hg := it_pos hg c31
            refine lv_iload hx hb dX7_solveAt_88 (lv_at hl 6 rfl) ?_
            exact B90 K19 hK19 _ _ _ _ _ _ _ _ _ _ _ hg hw (lv_sub hl [2, 3, 4, 5, 7, 0, 8, 9, 10, 1] rfl)
          · have hg := it_neg hg c31
            refine lv_aload_n hx hb dX7_solveAt_78 rfl (lv_at hl 2 rfl) ?_
            refine wr_get (K := RX7) (T := TX7) (N := 20) (index := 41) (ref := "MakerLinesModel") (v := .ref r28) hx hb hts hi_X7_solveAt_X7 hown hw hok23 (wF_7 (S := S21) hok23.2) rfl 15 (by decide) (hts _ (List.mem_of_getElem? (i := 4) rfl)) (fun _ h9 => h9) (congrArg (fun o => some (va_rf o)) hr28) dX7_solveAt_79 ?_
            refine lv_iload hx hb dX7_solveAt_82 (lv_at hl 1 rfl) ?_
            refine wr_iald hx hb hw hok29 (inb_vp hin30) dX7_solveAt_84 ?_
            refine lv_goto (tgt := 90) hx hb dX7_solveAt_85 (by decide) ?_
            exact B90 K19 hK19 _ _ _ _ _ _ _ _ _ _ _ hg hw (lv_sub hl [2, 3, 4, 5, 7, 0, 8, 9, 10, 1] rfl)
  have L19 : ∀ (k : Nat) (S : Hp) (v4 : Int32) (v5 : Int32) (v6 : Int32) (v7 : Int32) (v8 : Int32) (v9 : Int32) (H : Heap) (locs : List Loc) (ls : Array Slot), f_X7_solveAt_l19 N a0 x1 x2 x3 k S v4 v5 v6 v7 v8 v9 = some (r, S9) → Wd D C (va_A (wP C S0) z) s.heap S z H locs s → lv_has ls 11 [(0, .ref a0), (1, .int x1), (2, .int x2), (3, .int x3), (4, .int v4), (5, .int v5), (6, .int v6), (7, .int v7), (8, .int v8), (9, .int v9)] → W p l e rm_X7_solveAt s m ([.ref a0, .int x1, .int x2, .int x3] : List Value).toArray below meth c H locs 0 0 (MQ below (QvW D C S0 z r S9 z) ([.ref a0, .int x1, .int x2, .int x3] : List Value).toArray s 0 0 (va_A (wP C S0) z)) (F0 m 19 ls []) := by
    intro k
    induction k with
    | zero => intro S v4 v5 v6 v7 v8 v9 H locs ls hg hw hl; exact absurd (show (none : Option (Unit × Hp)) = some (r, S9) from hg) (by simp)
    | succ k ih => intro S v4 v5 v6 v7 v8 v9 H locs ls hg hw hl; exact B19 (f_X7_solveAt_l19 N a0 x1 x2 x3 k) ih S v4 v5 v6 v7 v8 v9 H locs ls hg hw hl
  have B0 : ∀ (S : Hp) (H : Heap) (locs : List Loc) (ls : Array Slot), f_X7_solveAt N S a0 x1 x2 x3 = some (r, S9) → Wd D C (va_A (wP C S0) z) s.heap S z H locs s → lv_has ls 11 [(0, .ref a0), (1, .int x1), (2, .int x2), (3, .int x3)] → W p l e rm_X7_solveAt s m ([.ref a0, .int x1, .int x2, .int x3] : List Value).toArray below meth c H locs 0 0 (MQ below (QvW D C S0 z r S9 z) ([.ref a0, .int x1, .int x2, .int x3] : List Value).toArray s 0 0 (va_A (wP C S0) z)) (F0 m 0 ls []) := by
    intro S H locs ls hg hw hl
    unfold f_X7_solveAt at hg
    refine lv_bipush (v := (22 : Int32)) hx hb dX7_solveAt_0 (by decide) ?_
    refine lv_istore (lv' := [(4, .int (22 : Int32)), (0, .ref a0), (1, .int x1), (2, .int x2), (3, .int x3)]) hx hb dX7_solveAt_2 hl (by decide) rfl (fun ls hl => ?_)
    refine lv_iconst (v := (0 : Int32)) hx hb dX7_solveAt_4 (by decide) ?_
    refine lv_istore (lv' := [(5, .int (0 : Int32)), (4, .int (22 : Int32)), (0, .ref a0), (1, .int x1), (2, .int x2), (3, .int x3)]) hx hb dX7_solveAt_5 hl (by decide) rfl (fun ls hl => ?_)
    refine lv_iconst (v := (0 : Int32)) hx hb dX7_solveAt_7 (by decide) ?_
    refine lv_istore (lv' := [(6, .int (0 : Int32)), (5, .int (0 : Int32)), (4, .int (22 : Int32)), (0, .ref a0), (1, .int x1), (2, .int x2), (3, .int x3)]) hx hb dX7_solveAt_8 hl (by decide) rfl (fun ls hl => ?_)
    refine lv_iconst (v := (0 : Int32)) hx hb dX7_solveAt_10 (by decide) ?_
    refine lv_istore (lv' := [(7, .int (0 : Int32)), (6, .int (0 : Int32)), (5, .int (0 : Int32)), (4, .int (22 : Int32)), (0, .ref a0), (1, .int x1), (2, .int x2), (3, .int x3)]) hx hb dX7_solveAt_11 hl (by decide) rfl (fun ls hl => ?_)
    refine lv_iload_n hx hb dX7_solveAt_13 rfl (lv_at hl 6 rfl) ?_
    refine lv_istore (lv' := [(8, .int x2), (7, .int (0 : Int32)), (6, .int (0 : Int32)), (5, .int (0 : Int32)), (4, .int (22 : Int32)), (0, .ref a0), (1, .int x1), (2, .int x2), (3, .int x3)]) hx hb dX7_solveAt_14 hl (by decide) rfl (fun ls hl => ?_)
    refine lv_iconst (v := (0 : Int32)) hx hb dX7_solveAt_16 (by decide) ?_
    refine lv_istore (lv' := [(9, .int (0 : Int32)), (8, .int x2), (7, .int (0 : Int32)), (6, .int (0 : Int32)), (5, .int (0 : Int32)), (4, .int (22 : Int32)), (0, .ref a0), (1, .int x1), (2, .int x2), (3, .int x3)]) hx hb dX7_solveAt_17 hl (by decide) rfl (fun ls hl => ?_)
    exact L19 N _ _ _ _ _ _ _ _ _ _ hg hw (lv_sub hl [6, 7, 8, 9, 5, 4, 3, 2, 1, 0] rfl)
  exact B0 S0 _ _ _ hg hw hl
theorem hi_X7_solveAll_X7 : ∀ w ∈ wsX70, w ∈ wsX7_solveAll := fun _ h => List.mem_cons_of_mem _ (List.mem_append_right _ (h))
abbrev rm_X7_solveAll : Room := { frames := 2, cells := 0, slots := 0, locals := 52 }
set_option maxHeartbeats 4000000 in
set_option maxRecDepth 100000 in
theorem c_X7_solveAll (l : Launch) (D : va_G) (C : C3) (N : Nat) (S0 : Hp) (z : Nat) (a0 : Nat) (r : Unit) (S9 : Hp) (hg : f_X7_solveAll N S0 a0 = some (r, S9)) : MetV l yX7_solveAll wsX7_solveAll rm_X7_solveAll D C S0 z [.ref a0] r S9 z 0 0 := by
  refine mw_ofW (cc := cX7_solveAll) (maxL := 8) (ret := none) (lv := [(0, .ref a0)]) (by decide) rfl (Nat.le_of_ble_eq_true rfl) rfl ?_
  intro p e s m below meth c ls hx hb hr hts hown hlk hml hnm hl hw
  have hown : s.vm.findClass RX7 = some m.cls := hown
  have B234 : ∀ (K73 : Hp → Int32 → Option (Unit × Hp)) (hK73 : ∀ (S : Hp) (v1 : Int32) (H : Heap) (locs : List Loc) (ls : Array Slot), K73 S v1 = some (r, S9) → Wd D C (va_A (wP C S0) z) s.heap S z H locs s → lv_has ls 8 [(0, .ref a0), (1, .int v1)] → W p l e rm_X7_solveAll s m ([.ref a0] : List Value).toArray below meth c H locs 0 0 (MQ below (QvW D C S0 z r S9 z) ([.ref a0] : List Value).toArray s 0 0 (va_A (wP C S0) z)) (F0 m 73 ls [])) (K179 : Hp → Int32 → Int32 → Int32 → Int32 → Option (Unit × Hp)) (hK179 : ∀ (S : Hp) (v1 : Int32) (v5 : Int32) (v6 : Int32) (v7 : Int32) (H : Heap) (locs : List Loc) (ls : Array Slot), K179 S v1 v5 v6 v7 = some (r, S9) → Wd D C (va_A (wP C S0) z) s.heap S z H locs s → lv_has ls 8 [(0, .ref a0), (1, .int v1), (5, .int v5), (6, .int v6), (7, .int v7)] → W p l e rm_X7_solveAll s m ([.ref a0] : List Value).toArray below meth c H locs 0 0 (MQ below (QvW D C S0 z r S9 z) ([.ref a0] : List Value).toArray s 0 0 (va_A (wP C S0) z)) (F0 m 179 ls [])) (S : Hp) (v1 : Int32) (v5 : Int32) (v6 : Int32) (v7 : Int32) (s0 : Int32) (s1 : Int32) (s2 : Nat) (H : Heap) (locs : List Loc) (ls : Array Slot), f_X7_solveAll_b234 N a0 K73 K179 S v1 v5 v6 v7 s0 s1 s2 = some (r, S9) → Wd D C (va_A (wP C S0) z) s.heap S z H locs s → lv_has ls 8 [(0, .ref a0), (1, .int v1), (5, .int v5), (6, .int v6), (7, .int v7)] → W p l e rm_X7_solveAll s m ([.ref a0] : List Value).toArray below meth c H locs 0 0 (MQ below (QvW D C S0 z r S9 z) ([.ref a0] : List Value).toArray s 0 0 (va_A (wP C S0) z)) (F0 m 234 ls [.int s0, .int s1, .ref s2]) := by
    intro K73 hK73 K179 hK179 S v1 v5 v6 v7 s0 s1 s2 H locs ls hg hw hl
    unfold f_X7_solveAll_b234 at hg
    obtain ⟨hok81, hg⟩ := gd_some hg
    obtain ⟨hin82, hg⟩ := gd_some hg
    refine wr_iast hx hb hw hok81 (inb_vp hin82) dX7_solveAll_234 (fun H locs hw => ?_)
    refine lv_goto (tgt := 247) hx hb dX7_solveAll_235 (by decide) ?_
    refine lv_iinc (v := (v7 + (1 : Int32))) (lv' := [(7, .int (v7 + (1 : Int32))), (0, .ref a0), (1, .int v1), (5, .int v5), (6, .int v6)]) hx hb dX7_solveAll_247 hl (k := 4) rfl rfl (by decide) rfl (fun ls hl => ?_)
    refine lv_goto (tgt := 179) hx hb dX7_solveAll_250 (by decide) ?_
    exact hK179 _ _ _ _ _ _ _ _ hg hw (lv_sub hl [1, 2, 3, 4, 0] rfl)
  have B179 : ∀ (K73 : Hp → Int32 → Option (Unit × Hp)) (hK73 : ∀ (S : Hp) (v1 : Int32) (H : Heap) (locs : List Loc) (ls : Array Slot), K73 S v1 = some (r, S9) → Wd D C (va_A (wP C S0) z) s.heap S z H locs s → lv_has ls 8 [(0, .ref a0), (1, .int v1)] → W p l e rm_X7_solveAll s m ([.ref a0] : List Value).toArray below meth c H locs 0 0 (MQ below (QvW D C S0 z r S9 z) ([.ref a0] : List Value).toArray s 0 0 (va_A (wP C S0) z)) (F0 m 73 ls [])) (K179 : Hp → Int32 → Int32 → Int32 → Int32 → Option (Unit × Hp)) (hK179 : ∀ (S : Hp) (v1 : Int32) (v5 : Int32) (v6 : Int32) (v7 : Int32) (H : Heap) (locs : List Loc) (ls : Array Slot), K179 S v1 v5 v6 v7 = some (r, S9) → Wd D C (va_A (wP C S0) z) s.heap S z H locs s → lv_has ls 8 [(0, .ref a0), (1, .int v1), (5, .int v5), (6, .int v6), (7, .int v7)] → W p l e rm_X7_solveAll s m ([.ref a0] : List Value).toArray below meth c H locs 0 0 (MQ below (QvW D C S0 z r S9 z) ([.ref a0] : List Value).toArray s 0 0 (va_A (wP C S0) z)) (F0 m 179 ls [])) (S : Hp) (v1 : Int32) (v5 : Int32) (v6 : Int32) (v7 : Int32) (H : Heap) (locs : List Loc) (ls : Array Slot), f_X7_solveAll_b179 N a0 K73 K179 S v1 v5 v6 v7 = some (r, S9) → Wd D C (va_A (wP C S0) z) s.heap S z H locs s → lv_has ls 8 [(0, .ref a0), (1, .int v1), (5, .int v5), (6, .int v6), (7, .int v7)] → W p l e rm_X7_solveAll s m ([.ref a0] : List Value).toArray below meth c H locs 0 0 (MQ below (QvW D C S0 z r S9 z) ([.ref a0] : List Value).toArray s 0 0 (va_A (wP C S0) z)) (F0 m 179 ls []) := by
    intro K73 hK73 K179 hK179 S v1 v5 v6 v7 H locs ls hg hw hl
    unfold f_X7_solveAll_b179 at hg
    refine lv_iload hx hb dX7_solveAll_179 (lv_at hl 4 rfl) ?_
    refine lv_iconst (v := (3 : Int32)) hx hb dX7_solveAll_181 (by decide) ?_
    refine lv_icmp_ge (tgt := 253) hx hb dX7_solveAll_182 (by decide) (fun c63 => ?_) (fun c63 => ?_)
    · have hg := it_pos hg c63
      refine lv_iinc (v := (v1 + (-1 : Int32))) (lv' := [(1, .int (v1 + (-1 : Int32))), (0, .ref a0), (5, .int v5), (6, .int v6), (7, .int v7)]) hx hb dX7_solveAll_253 hl (k := 1) rfl rfl (by decide) rfl (fun ls hl => ?_)
      refine lv_goto (tgt := 73) hx hb dX7_solveAll_256 (by decide) ?_
      exact hK73 _ _ _ _ _ hg hw (lv_sub hl [1, 0] rfl)
    · have hg := it_neg hg c63
      refine lv_iload hx hb dX7_solveAll_185 (lv_at hl 2 rfl) ?_
      refine lv_if_le (tgt := 238) hx hb dX7_solveAll_187 (by decide) (fun c64 => ?_) (fun c64 => ?_)
      · have hg := it_pos hg c64
        refine lv_aload_n hx hb dX7_solveAll_238 rfl (lv_at hl 0 rfl) ?_
        refine lv_iload_n hx hb dX7_solveAll_239 rfl (lv_at hl 1 rfl) ?_
        refine lv_iload hx hb dX7_solveAll_240 (lv_at hl 4 rfl) ?_
        refine lv_iload hx hb dX7_solveAll_242 (lv_at hl 3 rfl) ?_
        obtain ⟨hok65, hg⟩ := gd_some hg
        obtain ⟨⟨⟩, S66, hc66, hg⟩ := cl_some hg
        refine wr_cv (va_runV (As := [.int v1, .int v7, .int v6]) (rest := []) ⟨hx, hb, hml, hown, hts⟩ (c_X7_solveAt l D C N S z a0 v1 v7 v6 () S66 hc66) (cwV 3 hts gX7_solveAll_X7_solveAt rfl rfl rfl (by decide +kernel) ⟨Nat.le_of_ble_eq_true rfl, Nat.le_of_ble_eq_true rfl⟩) (wd_preV hw hok65 (wF_7 (S := S) hok65.2) rfl) rfl rfl hl.1 rfl (lv_room (Nat.le_of_ble_eq_true rfl)) dX7_solveAll_244 ⟨Nat.zero_le _, Nat.zero_le _⟩) hw (fun H locs hw => ?_)
        refine lv_iinc (v := (v7 + (1 : Int32))) (lv' := [(7, .int (v7 + (1 : Int32))), (0, .ref a0), (1, .int v1), (5, .int v5), (6, .int v6)]) hx hb dX7_solveAll_247 hl (k := 4) rfl rfl (by decide) rfl (fun ls hl => ?_)
        refine lv_goto (tgt := 179) hx hb dX7_solveAll_250 (by decide) ?_
        exact hK179 _ _ _ _ _ _ _ _ hg hw (lv_sub hl [1, 2, 3, 4, 0] rfl)
      · have hg := it_neg hg c64
        refine lv_aload_n hx hb dX7_solveAll_190 rfl (lv_at hl 0 rfl) ?_
        obtain ⟨hok67, hg⟩ := gd_some hg
        obtain ⟨r68, hr68, hg⟩ := nn_some hg
        refine wr_get (K := RX7) (T := TX7) (N := 20) (index := 38) (ref := "MakerLinesModel") (v := .ref r68) hx hb hts hi_X7_solveAll_X7 hown hw hok67 (wF_7 (S := S) hok67.2) rfl 14 (by decide) (hts _ (List.mem_of_getElem? (i := 5) rfl)) (fun _ h9 => h9) (congrArg (fun o => some (va_rf o)) hr68) dX7_solveAll_191 ?_
        refine lv_iload_n hx hb dX7_solveAll_194 rfl (lv_at hl 1 rfl) ?_
        refine lv_ldc (own := RX7) (index := 128) (v := (59049 : Int32)) hx hb hown (hts _ (List.mem_of_getElem? (i := 6) rfl)) dX7_solveAll_195 ?_
        refine lv_iload hx hb dX7_solveAll_197 (lv_at hl 4 rfl) ?_
        refine lv_iconst (v := (1 : Int32)) hx hb dX7_solveAll_199 (by decide) ?_
        refine lv_isub hx hb dX7_solveAll_200 ?_
        refine lv_imul hx hb dX7_solveAll_201 ?_
        refine lv_iadd hx hb dX7_solveAll_202 ?_
        refine lv_iload hx hb dX7_solveAll_203 (lv_at hl 2 rfl) ?_
        obtain ⟨hok69, hg⟩ := gd_some hg
        obtain ⟨hin70, hg⟩ := gd_some hg
        refine wr_iast hx hb hw hok69 (inb_vp hin70) dX7_solveAll_205 (fun H locs hw => ?_)
        obtain ⟨S71, hS71, hg⟩ := bd_some hg
        rw [← hS71] at hw
        have hok72 : ok S71 a0 7 := by rw [hS71]; exact hok67
        have hr73 : hR S71 a0 14 = some r68 := by rw [hS71]; exact hr68
        have hok74 : ok S71 r68 8 := by rw [hS71]; exact hok69
        have hin75 : inb (v1 + ((59049 : Int32) * (v7 - (1 : Int32)))) (hN S71 r68) := by rw [hS71]; exact hin70
        refine lv_aload_n hx hb dX7_solveAll_206 rfl (lv_at hl 0 rfl) ?_
        obtain ⟨r76, hr76, hg⟩ := nn_some hg
        refine wr_get (K := RX7) (T := TX7) (N := 20) (index := 41) (ref := "MakerLinesModel") (v := .ref r76) hx hb hts hi_X7_solveAll_X7 hown hw hok72 (wF_7 (S := S71) hok72.2) rfl 15 (by decide) (hts _ (List.mem_of_getElem? (i := 7) rfl)) (fun _ h9 => h9) (congrArg (fun o => some (va_rf o)) hr76) dX7_solveAll_207 ?_
        refine lv_iload_n hx hb dX7_solveAll_210 rfl (lv_at hl 1 rfl) ?_
        refine lv_ldc (own := RX7) (index := 128) (v := (59049 : Int32)) hx hb hown (hts _ (List.mem_of_getElem? (i := 6) rfl)) dX7_solveAll_211 ?_
        refine lv_iload hx hb dX7_solveAll_213 (lv_at hl 4 rfl) ?_
        refine lv_iconst (v := (1 : Int32)) hx hb dX7_solveAll_215 (by decide) ?_
        refine lv_isub hx hb dX7_solveAll_216 ?_
        refine lv_imul hx hb dX7_solveAll_217 ?_
        refine lv_iadd hx hb dX7_solveAll_218 ?_
        refine lv_iload hx hb dX7_solveAll_219 (lv_at hl 2 rfl) ?_
        refine lv_iconst (v := (1 : Int32)) hx hb dX7_solveAll_221 (by decide) ?_
        refine lv_icmp_ne (tgt := 229) hx hb dX7_solveAll_222 (by decide) (fun c77 => ?_) (fun c77 => ?_)
        · have hg := it_neg hg c77
          refine lv_iload hx hb dX7_solveAll_229 (lv_at hl 3 rfl) ?_
          obtain ⟨r78, S78, hc78, hg⟩ := cl_some hg
          refine wr_ci (va_runS (As := [.int v6]) (rest := [.int (v1 + ((59049 : Int32) * (v7 - (1 : Int32)))), .ref r76]) ⟨hx, hb, hml, hown, hts⟩ (c_X7_ones l D C N S71 z v6 r78 S78 hc78) (va_cwS 1 hts gX7_solveAll_X7_ones rfl rfl rfl (by decide +kernel) ⟨Nat.le_of_ble_eq_true rfl, Nat.le_of_ble_eq_true rfl⟩) (wd_preS hw) rfl rfl hl.1 rfl (lv_room (Nat.le_of_ble_eq_true rfl)) dX7_solveAll_231 ⟨Nat.zero_le _, Nat.zero_le _⟩) hw (fun H locs hw => ?_)
          exact B234 K73 hK73 K179 hK179 _ _ _ _ _ _ _ _ _ _ _ hg hw (lv_sub hl [0, 1, 2, 3, 4] rfl)
        · have hg := it_pos hg c77
          refine lv_iconst (v := (0 : Int32)) hx hb dX7_solveAll_225 (by decide) ?_
          refine lv_goto (tgt := 234) hx hb dX7_solveAll_226 (by decide) ?_
          exact B234 K73 hK73 K179 hK179 _ _ _ _ _ _ _ _ _ _ _ hg hw (lv_sub hl [0, 1, 2, 3, 4] rfl)
  have L179 : ∀ (K73 : Hp → Int32 → Option (Unit × Hp)) (hK73 : ∀ (S : Hp) (v1 : Int32) (H : Heap) (locs : List Loc) (ls : Array Slot), K73 S v1 = some (r, S9) → Wd D C (va_A (wP C S0) z) s.heap S z H locs s → lv_has ls 8 [(0, .ref a0), (1, .int v1)] → W p l e rm_X7_solveAll s m ([.ref a0] : List Value).toArray below meth c H locs 0 0 (MQ below (QvW D C S0 z r S9 z) ([.ref a0] : List Value).toArray s 0 0 (va_A (wP C S0) z)) (F0 m 73 ls [])) (k : Nat) (S : Hp) (v1 : Int32) (v5 : Int32) (v6 : Int32) (v7 : Int32) (H : Heap) (locs : List Loc) (ls : Array Slot), f_X7_solveAll_l179 N a0 K73 k S v1 v5 v6 v7 = some (r, S9) → Wd D C (va_A (wP C S0) z) s.heap S z H locs s → lv_has ls 8 [(0, .ref a0), (1, .int v1), (5, .int v5), (6, .int v6), (7, .int v7)] → W p l e rm_X7_solveAll s m ([.ref a0] : List Value).toArray below meth c H locs 0 0 (MQ below (QvW D C S0 z r S9 z) ([.ref a0] : List Value).toArray s 0 0 (va_A (wP C S0) z)) (F0 m 179 ls []) := by
    intro K73 hK73 k
    induction k with
    | zero => intro S v1 v5 v6 v7 H locs ls hg hw hl; exact absurd (show (none : Option (Unit × Hp)) = some (r, S9) from hg) (by simp)
    | succ k ih => intro S v1 v5 v6 v7 H locs ls hg hw hl; exact B179 K73 hK73 (f_X7_solveAll_l179 N a0 K73 k) ih S v1 v5 v6 v7 H locs ls hg hw hl
  have B134 : ∀ (K73 : Hp → Int32 → Option (Unit × Hp)) (hK73 : ∀ (S : Hp) (v1 : Int32) (H : Heap) (locs : List Loc) (ls : Array Slot), K73 S v1 = some (r, S9) → Wd D C (va_A (wP C S0) z) s.heap S z H locs s → lv_has ls 8 [(0, .ref a0), (1, .int v1)] → W p l e rm_X7_solveAll s m ([.ref a0] : List Value).toArray below meth c H locs 0 0 (MQ below (QvW D C S0 z r S9 z) ([.ref a0] : List Value).toArray s 0 0 (va_A (wP C S0) z)) (F0 m 73 ls [])) (K87 : Hp → Int32 → Int32 → Int32 → Int32 → Int32 → Option (Unit × Hp)) (hK87 : ∀ (S : Hp) (v1 : Int32) (v2 : Int32) (v3 : Int32) (v4 : Int32) (v5 : Int32) (H : Heap) (locs : List Loc) (ls : Array Slot), K87 S v1 v2 v3 v4 v5 = some (r, S9) → Wd D C (va_A (wP C S0) z) s.heap S z H locs s → lv_has ls 8 [(0, .ref a0), (1, .int v1), (2, .int v2), (3, .int v3), (4, .int v4), (5, .int v5)] → W p l e rm_X7_solveAll s m ([.ref a0] : List Value).toArray below meth c H locs 0 0 (MQ below (QvW D C S0 z r S9 z) ([.ref a0] : List Value).toArray s 0 0 (va_A (wP C S0) z)) (F0 m 87 ls [])) (S : Hp) (v1 : Int32) (v2 : Int32) (v4 : Int32) (v5 : Int32) (s0 : Int32) (s1 : Int32) (H : Heap) (locs : List Loc) (ls : Array Slot), f_X7_solveAll_b134 N a0 K73 K87 S v1 v2 v4 v5 s0 s1 = some (r, S9) → Wd D C (va_A (wP C S0) z) s.heap S z H locs s → lv_has ls 8 [(0, .ref a0), (1, .int v1), (2, .int v2), (4, .int v4), (5, .int v5)] → W p l e rm_X7_solveAll s m ([.ref a0] : List Value).toArray below meth c H locs 0 0 (MQ below (QvW D C S0 z r S9 z) ([.ref a0] : List Value).toArray s 0 0 (va_A (wP C S0) z)) (F0 m 134 ls [.int s0, .int s1]) := by
    intro K73 hK73 K87 hK87 S v1 v2 v4 v5 s0 s1 H locs ls hg hw hl
    unfold f_X7_solveAll_b134 at hg
    refine lv_ior hx hb dX7_solveAll_134 ?_
    refine lv_istore_n (lv' := [(3, .int (s1 ||| s0)), (0, .ref a0), (1, .int v1), (2, .int v2), (4, .int v4), (5, .int v5)]) hx hb dX7_solveAll_135 rfl hl (by decide) rfl (fun ls hl => ?_)
    refine lv_iload hx hb dX7_solveAll_136 (lv_at hl 4 rfl) ?_
    refine lv_iconst (v := (3 : Int32)) hx hb dX7_solveAll_138 (by decide) ?_
    refine lv_idiv hx hb dX7_solveAll_139 (by decide) ?_
    refine lv_istore (lv' := [(4, .int (v4 / (3 : Int32))), (3, .int (s1 ||| s0)), (0, .ref a0), (1, .int v1), (2, .int v2), (5, .int v5)]) hx hb dX7_solveAll_140 hl (by decide) rfl (fun ls hl => ?_)
    refine lv_iinc (v := (v5 + (1 : Int32))) (lv' := [(5, .int (v5 + (1 : Int32))), (4, .int (v4 / (3 : Int32))), (3, .int (s1 ||| s0)), (0, .ref a0), (1, .int v1), (2, .int v2)]) hx hb dX7_solveAll_142 hl (k := 5) rfl rfl (by decide) rfl (fun ls hl => ?_)
    refine lv_goto (tgt := 87) hx hb dX7_solveAll_145 (by decide) ?_
    exact hK87 _ _ _ _ _ _ _ _ _ hg hw (lv_sub hl [3, 4, 5, 2, 1, 0] rfl)
  have B115 : ∀ (K73 : Hp → Int32 → Option (Unit × Hp)) (hK73 : ∀ (S : Hp) (v1 : Int32) (H : Heap) (locs : List Loc) (ls : Array Slot), K73 S v1 = some (r, S9) → Wd D C (va_A (wP C S0) z) s.heap S z H locs s → lv_has ls 8 [(0, .ref a0), (1, .int v1)] → W p l e rm_X7_solveAll s m ([.ref a0] : List Value).toArray below meth c H locs 0 0 (MQ below (QvW D C S0 z r S9 z) ([.ref a0] : List Value).toArray s 0 0 (va_A (wP C S0) z)) (F0 m 73 ls [])) (K87 : Hp → Int32 → Int32 → Int32 → Int32 → Int32 → Option (Unit × Hp)) (hK87 : ∀ (S : Hp) (v1 : Int32) (v2 : Int32) (v3 : Int32) (v4 : Int32) (v5 : Int32) (H : Heap) (locs : List Loc) (ls : Array Slot), K87 S v1 v2 v3 v4 v5 = some (r, S9) → Wd D C (va_A (wP C S0) z) s.heap S z H locs s → lv_has ls 8 [(0, .ref a0), (1, .int v1), (2, .int v2), (3, .int v3), (4, .int v4), (5, .int v5)] → W p l e rm_X7_solveAll s m ([.ref a0] : List Value).toArray below meth c H locs 0 0 (MQ below (QvW D C S0 z r S9 z) ([.ref a0] : List Value).toArray s 0 0 (va_A (wP C S0) z)) (F0 m 87 ls [])) (S : Hp) (v1 : Int32) (v3 : Int32) (v4 : Int32) (v5 : Int32) (s0 : Int32) (s1 : Int32) (H : Heap) (locs : List Loc) (ls : Array Slot), f_X7_solveAll_b115 N a0 K73 K87 S v1 v3 v4 v5 s0 s1 = some (r, S9) → Wd D C (va_A (wP C S0) z) s.heap S z H locs s → lv_has ls 8 [(0, .ref a0), (1, .int v1), (3, .int v3), (4, .int v4), (5, .int v5)] → W p l e rm_X7_solveAll s m ([.ref a0] : List Value).toArray below meth c H locs 0 0 (MQ below (QvW D C S0 z r S9 z) ([.ref a0] : List Value).toArray s 0 0 (va_A (wP C S0) z)) (F0 m 115 ls [.int s0, .int s1]) := by
    intro K73 hK73 K87 hK87 S v1 v3 v4 v5 s0 s1 H locs ls hg hw hl
    unfold f_X7_solveAll_b115 at hg
    refine lv_ior hx hb dX7_solveAll_115 ?_
    refine lv_istore_n (lv' := [(2, .int (s1 ||| s0)), (0, .ref a0), (1, .int v1), (3, .int v3), (4, .int v4), (5, .int v5)]) hx hb dX7_solveAll_116 rfl hl (by decide) rfl (fun ls hl => ?_)
    refine lv_iload_n hx hb dX7_solveAll_117 rfl (lv_at hl 3 rfl) ?_
    refine lv_iload hx hb dX7_solveAll_118 (lv_at hl 4 rfl) ?_
    refine lv_iconst (v := (3 : Int32)) hx hb dX7_solveAll_120 (by decide) ?_
    refine lv_irem hx hb dX7_solveAll_121 (by decide) ?_
    refine lv_iconst (v := (2 : Int32)) hx hb dX7_solveAll_122 (by decide) ?_
    refine lv_icmp_ne (tgt := 133) hx hb dX7_solveAll_123 (by decide) (fun c80 => ?_) (fun c80 => ?_)
    · have hg := it_neg hg c80
      refine lv_iconst (v := (0 : Int32)) hx hb dX7_solveAll_133 (by decide) ?_
      exact B134 K73 hK73 K87 hK87 _ _ _ _ _ _ _ _ _ _ hg hw (lv_sub hl [1, 2, 0, 4, 5] rfl)
    · have hg := it_pos hg c80
      refine lv_iconst (v := (1 : Int32)) hx hb dX7_solveAll_126 (by decide) ?_
      refine lv_iload hx hb dX7_solveAll_127 (lv_at hl 5 rfl) ?_
      refine lv_ishl hx hb dX7_solveAll_129 ?_
      refine lv_goto (tgt := 134) hx hb dX7_solveAll_130 (by decide) ?_
      exact B134 K73 hK73 K87 hK87 _ _ _ _ _ _ _ _ _ _ hg hw (lv_sub hl [1, 2, 0, 4, 5] rfl)
  have B87 : ∀ (K73 : Hp → Int32 → Option (Unit × Hp)) (hK73 : ∀ (S : Hp) (v1 : Int32) (H : Heap) (locs : List Loc) (ls : Array Slot), K73 S v1 = some (r, S9) → Wd D C (va_A (wP C S0) z) s.heap S z H locs s → lv_has ls 8 [(0, .ref a0), (1, .int v1)] → W p l e rm_X7_solveAll s m ([.ref a0] : List Value).toArray below meth c H locs 0 0 (MQ below (QvW D C S0 z r S9 z) ([.ref a0] : List Value).toArray s 0 0 (va_A (wP C S0) z)) (F0 m 73 ls [])) (K87 : Hp → Int32 → Int32 → Int32 → Int32 → Int32 → Option (Unit × Hp)) (hK87 : ∀ (S : Hp) (v1 : Int32) (v2 : Int32) (v3 : Int32) (v4 : Int32) (v5 : Int32) (H : Heap) (locs : List Loc) (ls : Array Slot), K87 S v1 v2 v3 v4 v5 = some (r, S9) → Wd D C (va_A (wP C S0) z) s.heap S z H locs s → lv_has ls 8 [(0, .ref a0), (1, .int v1), (2, .int v2), (3, .int v3), (4, .int v4), (5, .int v5)] → W p l e rm_X7_solveAll s m ([.ref a0] : List Value).toArray below meth c H locs 0 0 (MQ below (QvW D C S0 z r S9 z) ([.ref a0] : List Value).toArray s 0 0 (va_A (wP C S0) z)) (F0 m 87 ls [])) (S : Hp) (v1 : Int32) (v2 : Int32) (v3 : Int32) (v4 : Int32) (v5 : Int32) (H : Heap) (locs : List Loc) (ls : Array Slot), f_X7_solveAll_b87 N a0 K73 K87 S v1 v2 v3 v4 v5 = some (r, S9) → Wd D C (va_A (wP C S0) z) s.heap S z H locs s → lv_has ls 8 [(0, .ref a0), (1, .int v1), (2, .int v2), (3, .int v3), (4, .int v4), (5, .int v5)] → W p l e rm_X7_solveAll s m ([.ref a0] : List Value).toArray below meth c H locs 0 0 (MQ below (QvW D C S0 z r S9 z) ([.ref a0] : List Value).toArray s 0 0 (va_A (wP C S0) z)) (F0 m 87 ls []) := by
    intro K73 hK73 K87 hK87 S v1 v2 v3 v4 v5 H locs ls hg hw hl
    unfold f_X7_solveAll_b87 at hg
    refine lv_iload hx hb dX7_solveAll_87 (lv_at hl 5 rfl) ?_
    refine lv_aload_n hx hb dX7_solveAll_89 rfl (lv_at hl 0 rfl) ?_
    obtain ⟨hok50, hg⟩ := gd_some hg
    obtain ⟨r51, hr51, hg⟩ := nn_some hg
    refine wr_get (K := RX7) (T := TX7) (N := 20) (index := 7) (ref := "MakerLinesModel") (v := .ref r51) hx hb hts hi_X7_solveAll_X7 hown hw hok50 (wF_7 (S := S) hok50.2) rfl 0 (by decide) (hts _ (List.mem_of_getElem? (i := 1) rfl)) (fun _ h9 => h9) (congrArg (fun o => some (va_rf o)) hr51) dX7_solveAll_90 ?_
    refine lv_iconst (v := (0 : Int32)) hx hb dX7_solveAll_93 (by decide) ?_
    obtain ⟨hok52, hg⟩ := gd_some hg
    obtain ⟨hin53, hg⟩ := gd_some hg
    refine wr_iald hx hb hw hok52 (inb_vp hin53) dX7_solveAll_94 ?_
    refine lv_icmp_ge (tgt := 148) hx hb dX7_solveAll_95 (by decide) (fun c54 => ?_) (fun c54 => ?_)
    · have hg := it_pos hg c54
      refine lv_aload_n hx hb dX7_solveAll_148 rfl (lv_at hl 0 rfl) ?_
      refine lv_iload_n hx hb dX7_solveAll_149 rfl (lv_at hl 2 rfl) ?_
      refine lv_iload_n hx hb dX7_solveAll_150 rfl (lv_at hl 3 rfl) ?_
      obtain ⟨r55, S55, hc55, hg⟩ := cl_some hg
      refine wr_ci (va_runV (As := [.int v2, .int v3]) (rest := []) ⟨hx, hb, hml, hown, hts⟩ (c_X7_winner l D C N S z a0 v2 v3 r55 S55 hc55) (cwV 2 hts gX7_solveAll_X7_winner rfl rfl rfl (by decide +kernel) ⟨Nat.le_of_ble_eq_true rfl, Nat.le_of_ble_eq_true rfl⟩) (wd_preV hw hok50 (wF_7 (S := S) hok50.2) rfl) rfl rfl hl.1 rfl (lv_room (Nat.le_of_ble_eq_true rfl)) dX7_solveAll_151 ⟨Nat.zero_le _, Nat.zero_le _⟩) hw (fun H locs hw => ?_)
      refine lv_istore (lv' := [(5, .int r55), (0, .ref a0), (1, .int v1), (2, .int v2), (3, .int v3), (4, .int v4)]) hx hb dX7_solveAll_154 hl (by decide) rfl (fun ls hl => ?_)
      refine lv_iconst (v := (1 : Int32)) hx hb dX7_solveAll_156 (by decide) ?_
      refine lv_aload_n hx hb dX7_solveAll_157 rfl (lv_at hl 1 rfl) ?_
      obtain ⟨hok56, hg⟩ := gd_some hg
      obtain ⟨r57, hr57, hg⟩ := nn_some hg
      refine wr_get (K := RX7) (T := TX7) (N := 20) (index := 7) (ref := "MakerLinesModel") (v := .ref r57) hx hb hts hi_X7_solveAll_X7 hown hw hok56 (wF_7 (S := S55) hok56.2) rfl 0 (by decide) (hts _ (List.mem_of_getElem? (i := 1) rfl)) (fun _ h9 => h9) (congrArg (fun o => some (va_rf o)) hr57) dX7_solveAll_158 ?_
      refine lv_iconst (v := (0 : Int32)) hx hb dX7_solveAll_161 (by decide) ?_
      obtain ⟨hok58, hg⟩ := gd_some hg
      obtain ⟨hin59, hg⟩ := gd_some hg
      refine wr_iald hx hb hw hok58 (inb_vp hin59) dX7_solveAll_162 ?_
      refine lv_ishl hx hb dX7_solveAll_163 ?_
      refine lv_iconst (v := (1 : Int32)) hx hb dX7_solveAll_164 (by decide) ?_
      refine lv_isub hx hb dX7_solveAll_165 ?_
      refine lv_iload_n hx hb dX7_solveAll_166 rfl (lv_at hl 3 rfl) ?_
      refine lv_iconst (v := (-1 : Int32)) hx hb dX7_solveAll_167 (by decide) ?_
      refine lv_ixor hx hb dX7_solveAll_168 ?_
      refine lv_iand hx hb dX7_solveAll_169 ?_
      refine lv_iload_n hx hb dX7_solveAll_170 rfl (lv_at hl 4 rfl) ?_
      refine lv_iconst (v := (-1 : Int32)) hx hb dX7_solveAll_171 (by decide) ?_
      refine lv_ixor hx hb dX7_solveAll_172 ?_
      refine lv_iand hx hb dX7_solveAll_173 ?_
      obtain ⟨e60, he60, hg⟩ := bd_some hg
      refine lv_istore (lv' := [(6, .int e60), (5, .int r55), (0, .ref a0), (1, .int v1), (2, .int v2), (3, .int v3), (4, .int v4)]) hx hb dX7_solveAll_174 hl (by decide) (by rw [he60]; rfl) (fun ls hl => ?_)
      refine lv_iconst (v := (1 : Int32)) hx hb dX7_solveAll_176 (by decide) ?_
      refine lv_istore (lv' := [(7, .int (1 : Int32)), (6, .int e60), (5, .int r55), (0, .ref a0), (1, .int v1), (2, .int v2), (3, .int v3), (4, .int v4)]) hx hb dX7_solveAll_177 hl (by decide) rfl (fun ls hl => ?_)
      exact L179 K73 hK73 N _ _ _ _ _ _ _ _ hg hw (lv_sub hl [3, 4, 2, 1, 0] rfl)
    · have hg := it_neg hg c54
      refine lv_iload_n hx hb dX7_solveAll_98 rfl (lv_at hl 2 rfl) ?_
      refine lv_iload hx hb dX7_solveAll_99 (lv_at hl 4 rfl) ?_
      refine lv_iconst (v := (3 : Int32)) hx hb dX7_solveAll_101 (by decide) ?_
      refine lv_irem hx hb dX7_solveAll_102 (by decide) ?_
      refine lv_iconst (v := (1 : Int32)) hx hb dX7_solveAll_103 (by decide) ?_
      refine lv_icmp_ne (tgt := 114) hx hb dX7_solveAll_104 (by decide) (fun c62 => ?_) (fun c62 => ?_)
      · have hg := it_neg hg c62
        refine lv_iconst (v := (0 : Int32)) hx hb dX7_solveAll_114 (by decide) ?_
        exact B115 K73 hK73 K87 hK87 _ _ _ _ _ _ _ _ _ _ hg hw (lv_sub hl [0, 1, 3, 4, 5] rfl)
      · have hg := it_pos hg c62
        refine lv_iconst (v := (1 : Int32)) hx hb dX7_solveAll_107 (by decide) ?_
        refine lv_iload hx hb dX7_solveAll_108 (lv_at hl 5 rfl) ?_
        refine lv_ishl hx hb dX7_solveAll_110 ?_
        refine lv_goto (tgt := 115) hx hb dX7_solveAll_111 (by decide) ?_
        exact B115 K73 hK73 K87 hK87 _ _ _ _ _ _ _ _ _ _ hg hw (lv_sub hl [0, 1, 3, 4, 5] rfl)
  have L87 : ∀ (K73 : Hp → Int32 → Option (Unit × Hp)) (hK73 : ∀ (S : Hp) (v1 : Int32) (H : Heap) (locs : List Loc) (ls : Array Slot), K73 S v1 = some (r, S9) → Wd D C (va_A (wP C S0) z) s.heap S z H locs s → lv_has ls 8 [(0, .ref a0), (1, .int v1)] → W p l e rm_X7_solveAll s m ([.ref a0] : List Value).toArray below meth c H locs 0 0 (MQ below (QvW D C S0 z r S9 z) ([.ref a0] : List Value).toArray s 0 0 (va_A (wP C S0) z)) (F0 m 73 ls [])) (k : Nat) (S : Hp) (v1 : Int32) (v2 : Int32) (v3 : Int32) (v4 : Int32) (v5 : Int32) (H : Heap) (locs : List Loc) (ls : Array Slot), f_X7_solveAll_l87 N a0 K73 k S v1 v2 v3 v4 v5 = some (r, S9) → Wd D C (va_A (wP C S0) z) s.heap S z H locs s → lv_has ls 8 [(0, .ref a0), (1, .int v1), (2, .int v2), (3, .int v3), (4, .int v4), (5, .int v5)] → W p l e rm_X7_solveAll s m ([.ref a0] : List Value).toArray below meth c H locs 0 0 (MQ below (QvW D C S0 z r S9 z) ([.ref a0] : List Value).toArray s 0 0 (va_A (wP C S0) z)) (F0 m 87 ls []) := by
    intro K73 hK73 k
    induction k with
    | zero => intro S v1 v2 v3 v4 v5 H locs ls hg hw hl; exact absurd (show (none : Option (Unit × Hp)) = some (r, S9) from hg) (by simp)
    | succ k ih => intro S v1 v2 v3 v4 v5 H locs ls hg hw hl; exact B87 K73 hK73 (f_X7_solveAll_l87 N a0 K73 k) ih S v1 v2 v3 v4 v5 H locs ls hg hw hl
  have B73 : ∀ (K73 : Hp → Int32 → Option (Unit × Hp)) (hK73 : ∀ (S : Hp) (v1 : Int32) (H : Heap) (locs : List Loc) (ls : Array Slot), K73 S v1 = some (r, S9) → Wd D C (va_A (wP C S0) z) s.heap S z H locs s → lv_has ls 8 [(0, .ref a0), (1, .int v1)] → W p l e rm_X7_solveAll s m ([.ref a0] : List Value).toArray below meth c H locs 0 0 (MQ below (QvW D C S0 z r S9 z) ([.ref a0] : List Value).toArray s 0 0 (va_A (wP C S0) z)) (F0 m 73 ls [])) (S : Hp) (v1 : Int32) (H : Heap) (locs : List Loc) (ls : Array Slot), f_X7_solveAll_b73 N a0 K73 S v1 = some (r, S9) → Wd D C (va_A (wP C S0) z) s.heap S z H locs s → lv_has ls 8 [(0, .ref a0), (1, .int v1)] → W p l e rm_X7_solveAll s m ([.ref a0] : List Value).toArray below meth c H locs 0 0 (MQ below (QvW D C S0 z r S9 z) ([.ref a0] : List Value).toArray s 0 0 (va_A (wP C S0) z)) (F0 m 73 ls []) := by
    intro K73 hK73 S v1 H locs ls hg hw hl
    unfold f_X7_solveAll_b73 at hg
    refine lv_iload_n hx hb dX7_solveAll_73 rfl (lv_at hl 1 rfl) ?_
    refine lv_if_lt (tgt := 259) hx hb dX7_solveAll_74 (by decide) (fun c49 => ?_) (fun c49 => ?_)
    · have hg := it_pos hg c49
      cases hg
      exact wr_vret hx hb hr hw dX7_solveAll_259 hlk
    · have hg := it_neg hg c49
      refine lv_iconst (v := (0 : Int32)) hx hb dX7_solveAll_77 (by decide) ?_
      refine lv_istore_n (lv' := [(2, .int (0 : Int32)), (0, .ref a0), (1, .int v1)]) hx hb dX7_solveAll_78 rfl hl (by decide) rfl (fun ls hl => ?_)
      refine lv_iconst (v := (0 : Int32)) hx hb dX7_solveAll_79 (by decide) ?_
      refine lv_istore_n (lv' := [(3, .int (0 : Int32)), (2, .int (0 : Int32)), (0, .ref a0), (1, .int v1)]) hx hb dX7_solveAll_80 rfl hl (by decide) rfl (fun ls hl => ?_)
      refine lv_iload_n hx hb dX7_solveAll_81 rfl (lv_at hl 3 rfl) ?_
      refine lv_istore (lv' := [(4, .int v1), (3, .int (0 : Int32)), (2, .int (0 : Int32)), (0, .ref a0), (1, .int v1)]) hx hb dX7_solveAll_82 hl (by decide) rfl (fun ls hl => ?_)
      refine lv_iconst (v := (0 : Int32)) hx hb dX7_solveAll_84 (by decide) ?_
      refine lv_istore (lv' := [(5, .int (0 : Int32)), (4, .int v1), (3, .int (0 : Int32)), (2, .int (0 : Int32)), (0, .ref a0), (1, .int v1)]) hx hb dX7_solveAll_85 hl (by decide) rfl (fun ls hl => ?_)
      exact L87 K73 hK73 N _ _ _ _ _ _ _ _ _ hg hw (lv_sub hl [4, 5, 3, 2, 1, 0] rfl)
  have L73 : ∀ (k : Nat) (S : Hp) (v1 : Int32) (H : Heap) (locs : List Loc) (ls : Array Slot), f_X7_solveAll_l73 N a0 k S v1 = some (r, S9) → Wd D C (va_A (wP C S0) z) s.heap S z H locs s → lv_has ls 8 [(0, .ref a0), (1, .int v1)] → W p l e rm_X7_solveAll s m ([.ref a0] : List Value).toArray below meth c H locs 0 0 (MQ below (QvW D C S0 z r S9 z) ([.ref a0] : List Value).toArray s 0 0 (va_A (wP C S0) z)) (F0 m 73 ls []) := by
    intro k
    induction k with
    | zero => intro S v1 H locs ls hg hw hl; exact absurd (show (none : Option (Unit × Hp)) = some (r, S9) from hg) (by simp)
    | succ k ih => intro S v1 H locs ls hg hw hl; exact B73 (f_X7_solveAll_l73 N a0 k) ih S v1 H locs ls hg hw hl
  have B30 : ∀ (K30 : Hp → Int32 → Option (Unit × Hp)) (hK30 : ∀ (S : Hp) (v1 : Int32) (H : Heap) (locs : List Loc) (ls : Array Slot), K30 S v1 = some (r, S9) → Wd D C (va_A (wP C S0) z) s.heap S z H locs s → lv_has ls 8 [(0, .ref a0), (1, .int v1)] → W p l e rm_X7_solveAll s m ([.ref a0] : List Value).toArray below meth c H locs 0 0 (MQ below (QvW D C S0 z r S9 z) ([.ref a0] : List Value).toArray s 0 0 (va_A (wP C S0) z)) (F0 m 30 ls [])) (S : Hp) (v1 : Int32) (H : Heap) (locs : List Loc) (ls : Array Slot), f_X7_solveAll_b30 N a0 K30 S v1 = some (r, S9) → Wd D C (va_A (wP C S0) z) s.heap S z H locs s → lv_has ls 8 [(0, .ref a0), (1, .int v1)] → W p l e rm_X7_solveAll s m ([.ref a0] : List Value).toArray below meth c H locs 0 0 (MQ below (QvW D C S0 z r S9 z) ([.ref a0] : List Value).toArray s 0 0 (va_A (wP C S0) z)) (F0 m 30 ls []) := by
    intro K30 hK30 S v1 H locs ls hg hw hl
    unfold f_X7_solveAll_b30 at hg
    refine lv_iload_n hx hb dX7_solveAll_30 rfl (lv_at hl 1 rfl) ?_
    refine lv_aload_n hx hb dX7_solveAll_31 rfl (lv_at hl 0 rfl) ?_
    obtain ⟨hok29, hg⟩ := gd_some hg
    obtain ⟨r30, hr30, hg⟩ := nn_some hg
    refine wr_get (K := RX7) (T := TX7) (N := 20) (index := 7) (ref := "MakerLinesModel") (v := .ref r30) hx hb hts hi_X7_solveAll_X7 hown hw hok29 (wF_7 (S := S) hok29.2) rfl 0 (by decide) (hts _ (List.mem_of_getElem? (i := 1) rfl)) (fun _ h9 => h9) (congrArg (fun o => some (va_rf o)) hr30) dX7_solveAll_32 ?_
    refine lv_iconst (v := (2 : Int32)) hx hb dX7_solveAll_35 (by decide) ?_
    obtain ⟨hok31, hg⟩ := gd_some hg
    obtain ⟨hin32, hg⟩ := gd_some hg
    refine wr_iald hx hb hw hok31 (inb_vp hin32) dX7_solveAll_36 ?_
    refine lv_icmp_ge (tgt := 61) hx hb dX7_solveAll_37 (by decide) (fun c33 => ?_) (fun c33 => ?_)
    · have hg := it_pos hg c33
      refine lv_aload_n hx hb dX7_solveAll_61 rfl (lv_at hl 0 rfl) ?_
      refine wr_get (K := RX7) (T := TX7) (N := 20) (index := 7) (ref := "MakerLinesModel") (v := .ref r30) hx hb hts hi_X7_solveAll_X7 hown hw hok29 (wF_7 (S := S) hok29.2) rfl 0 (by decide) (hts _ (List.mem_of_getElem? (i := 1) rfl)) (fun _ h9 => h9) (congrArg (fun o => some (va_rf o)) hr30) dX7_solveAll_62 ?_
      refine lv_iconst (v := (0 : Int32)) hx hb dX7_solveAll_65 (by decide) ?_
      obtain ⟨hin34, hg⟩ := gd_some hg
      refine wr_iald hx hb hw hok31 (inb_vp hin34) dX7_solveAll_66 ?_
      obtain ⟨r35, S35, hc35, hg⟩ := cl_some hg
      refine wr_ci (va_runS (As := [.int (hI S r30 (0 : Int32).toNatClampNeg)]) (rest := []) ⟨hx, hb, hml, hown, hts⟩ (c_X7_power l D C N S z ((hI S r30 (0 : Int32).toNatClampNeg)) r35 S35 hc35) (va_cwS 1 hts gX7_solveAll_X7_power rfl rfl rfl (by decide +kernel) ⟨Nat.le_of_ble_eq_true rfl, Nat.le_of_ble_eq_true rfl⟩) (wd_preS hw) rfl rfl hl.1 rfl (lv_room (Nat.le_of_ble_eq_true rfl)) dX7_solveAll_67 ⟨Nat.zero_le _, Nat.zero_le _⟩) hw (fun H locs hw => ?_)
      refine lv_iconst (v := (1 : Int32)) hx hb dX7_solveAll_70 (by decide) ?_
      refine lv_isub hx hb dX7_solveAll_71 ?_
      refine lv_istore_n (lv' := [(1, .int (r35 - (1 : Int32))), (0, .ref a0)]) hx hb dX7_solveAll_72 rfl hl (by decide) rfl (fun ls hl => ?_)
      exact L73 N _ _ _ _ _ hg hw (lv_sub hl [1, 0] rfl)
    · have hg := it_neg hg c33
      refine lv_aload_n hx hb dX7_solveAll_40 rfl (lv_at hl 0 rfl) ?_
      obtain ⟨r36, hr36, hg⟩ := nn_some hg
      refine wr_get (K := RX7) (T := TX7) (N := 20) (index := 34) (ref := "MakerLinesModel") (v := .ref r36) hx hb hts hi_X7_solveAll_X7 hown hw hok29 (wF_7 (S := S) hok29.2) rfl 13 (by decide) (hts _ (List.mem_of_getElem? (i := 4) rfl)) (fun _ h9 => h9) (congrArg (fun o => some (va_rf o)) hr36) dX7_solveAll_41 ?_
      refine lv_iload_n hx hb dX7_solveAll_44 rfl (lv_at hl 1 rfl) ?_
      refine lv_aload_n hx hb dX7_solveAll_45 rfl (lv_at hl 0 rfl) ?_
      refine wr_get (K := RX7) (T := TX7) (N := 20) (index := 7) (ref := "MakerLinesModel") (v := .ref r30) hx hb hts hi_X7_solveAll_X7 hown hw hok29 (wF_7 (S := S) hok29.2) rfl 0 (by decide) (hts _ (List.mem_of_getElem? (i := 1) rfl)) (fun _ h9 => h9) (congrArg (fun o => some (va_rf o)) hr30) dX7_solveAll_46 ?_
      refine lv_bipush (v := (10 : Int32)) hx hb dX7_solveAll_49 (by decide) ?_
      refine lv_iload_n hx hb dX7_solveAll_51 rfl (lv_at hl 1 rfl) ?_
      refine lv_iadd hx hb dX7_solveAll_52 ?_
      obtain ⟨hin37, hg⟩ := gd_some hg
      refine wr_iald hx hb hw hok31 (inb_vp hin37) dX7_solveAll_53 ?_
      obtain ⟨hok38, hg⟩ := gd_some hg
      obtain ⟨hin39, hg⟩ := gd_some hg
      refine wr_iast hx hb hw hok38 (inb_vp hin39) dX7_solveAll_54 (fun H locs hw => ?_)
      obtain ⟨S40, hS40, hg⟩ := bd_some hg
      rw [← hS40] at hw
      have hok41 : ok S40 a0 7 := by rw [hS40]; exact hok29
      have hr42 : hR S40 a0 0 = some r30 := by rw [hS40]; exact hr30
      have hok43 : ok S40 r30 8 := by rw [hS40]; exact hok31
      have hin44 : inb (2 : Int32) (hN S40 r30) := by rw [hS40]; exact hin32
      have hr45 : hR S40 a0 13 = some r36 := by rw [hS40]; exact hr36
      have hin46 : inb ((10 : Int32) + v1) (hN S40 r30) := by rw [hS40]; exact hin37
      have hok47 : ok S40 r36 8 := by rw [hS40]; exact hok38
      have hin48 : inb v1 (hN S40 r36) := by rw [hS40]; exact hin39
      refine lv_iinc (v := (v1 + (1 : Int32))) (lv' := [(1, .int (v1 + (1 : Int32))), (0, .ref a0)]) hx hb dX7_solveAll_55 hl (k := 1) rfl rfl (by decide) rfl (fun ls hl => ?_)
      refine lv_goto (tgt := 30) hx hb dX7_solveAll_58 (by decide) ?_
      exact hK30 _ _ _ _ _ hg hw (lv_sub hl [1, 0] rfl)
  have L30 : ∀ (k : Nat) (S : Hp) (v1 : Int32) (H : Heap) (locs : List Loc) (ls : Array Slot), f_X7_solveAll_l30 N a0 k S v1 = some (r, S9) → Wd D C (va_A (wP C S0) z) s.heap S z H locs s → lv_has ls 8 [(0, .ref a0), (1, .int v1)] → W p l e rm_X7_solveAll s m ([.ref a0] : List Value).toArray below meth c H locs 0 0 (MQ below (QvW D C S0 z r S9 z) ([.ref a0] : List Value).toArray s 0 0 (va_A (wP C S0) z)) (F0 m 30 ls []) := by
    intro k
    induction k with
    | zero => intro S v1 H locs ls hg hw hl; exact absurd (show (none : Option (Unit × Hp)) = some (r, S9) from hg) (by simp)
    | succ k ih => intro S v1 H locs ls hg hw hl; exact B30 (f_X7_solveAll_l30 N a0 k) ih S v1 H locs ls hg hw hl
  have B0 : ∀ (S : Hp) (H : Heap) (locs : List Loc) (ls : Array Slot), f_X7_solveAll N S a0 = some (r, S9) → Wd D C (va_A (wP C S0) z) s.heap S z H locs s → lv_has ls 8 [(0, .ref a0)] → W p l e rm_X7_solveAll s m ([.ref a0] : List Value).toArray below meth c H locs 0 0 (MQ below (QvW D C S0 z r S9 z) ([.ref a0] : List Value).toArray s 0 0 (va_A (wP C S0) z)) (F0 m 0 ls []) := by
    intro S H locs ls hg hw hl
    unfold f_X7_solveAll at hg
    refine lv_aload_n hx hb dX7_solveAll_0 rfl (lv_at hl 0 rfl) ?_
    obtain ⟨hok10, hg⟩ := gd_some hg
    obtain ⟨r11, S11, hc11, hg⟩ := cl_some hg
    refine wr_ci (va_runV (As := []) (rest := []) ⟨hx, hb, hml, hown, hts⟩ (c_X7_isSolved l D C N S z a0 r11 S11 hc11) (cwV 0 hts gX7_solveAll_X7_isSolved rfl rfl rfl (by decide +kernel) ⟨Nat.le_of_ble_eq_true rfl, Nat.le_of_ble_eq_true rfl⟩) (wd_preV hw hok10 (wF_7 (S := S) hok10.2) rfl) rfl rfl hl.1 rfl (lv_room (Nat.le_of_ble_eq_true rfl)) dX7_solveAll_1 ⟨Nat.zero_le _, Nat.zero_le _⟩) hw (fun H locs hw => ?_)
    refine lv_if_eq (tgt := 8) hx hb dX7_solveAll_4 (by decide) (fun c12 => ?_) (fun c12 => ?_)
    · have hg := it_pos hg c12
      refine lv_aload_n hx hb dX7_solveAll_8 rfl (lv_at hl 0 rfl) ?_
      refine lv_aload_n hx hb dX7_solveAll_9 rfl (lv_at hl 0 rfl) ?_
      obtain ⟨hok13, hg⟩ := gd_some hg
      obtain ⟨r14, hr14, hg⟩ := nn_some hg
      refine wr_get (K := RX7) (T := TX7) (N := 20) (index := 7) (ref := "MakerLinesModel") (v := .ref r14) hx hb hts hi_X7_solveAll_X7 hown hw hok13 (wF_7 (S := S11) hok13.2) rfl 0 (by decide) (hts _ (List.mem_of_getElem? (i := 1) rfl)) (fun _ h9 => h9) (congrArg (fun o => some (va_rf o)) hr14) dX7_solveAll_10 ?_
      refine lv_iconst (v := (0 : Int32)) hx hb dX7_solveAll_13 (by decide) ?_
      obtain ⟨hok15, hg⟩ := gd_some hg
      obtain ⟨hin16, hg⟩ := gd_some hg
      refine wr_iald hx hb hw hok15 (inb_vp hin16) dX7_solveAll_14 ?_
      refine wr_put (K := RX7) (T := TX7) (N := 20) (index := 122) (ref := "MakerLinesModel") (ty := (.int)) (S1 := (sI S11 a0 11 (hI S11 r14 (0 : Int32).toNatClampNeg))) hx hb hts hi_X7_solveAll_X7 tyX7 tyX7_ok nmX7 hown hw hok13 (wF_7 (S := S11) hok13.2) rfl (fun b hb9 => wF_sI_ne hb9) 11 (wq_7_11 (S := S11) hok13.2 _) rfl (by decide) (hts _ (List.mem_of_getElem? (i := 2) rfl)) (fun _ h9 => h9) rfl (by decide +kernel) rfl rfl (Nat.le_of_ble_eq_true rfl) dX7_solveAll_15 (fun H locs hw => ?_)
      obtain ⟨S17, hS17, hg⟩ := bd_some hg
      rw [← hS17] at hw
      have hok18 : ok S17 a0 7 := by rw [hS17]; exact hok13
      have hr19 : hR S17 a0 0 = some r14 := by rw [hS17]; exact hr14
      have hok20 : ok S17 r14 8 := by rw [hS17]; exact hok15
      have hin21 : inb (0 : Int32) (hN S17 r14) := by rw [hS17]; exact hin16
      refine lv_aload_n hx hb dX7_solveAll_18 rfl (lv_at hl 0 rfl) ?_
      refine lv_aload_n hx hb dX7_solveAll_19 rfl (lv_at hl 0 rfl) ?_
      refine wr_get (K := RX7) (T := TX7) (N := 20) (index := 7) (ref := "MakerLinesModel") (v := .ref r14) hx hb hts hi_X7_solveAll_X7 hown hw hok18 (wF_7 (S := S17) hok18.2) rfl 0 (by decide) (hts _ (List.mem_of_getElem? (i := 1) rfl)) (fun _ h9 => h9) (congrArg (fun o => some (va_rf o)) hr19) dX7_solveAll_20 ?_
      refine lv_iconst (v := (2 : Int32)) hx hb dX7_solveAll_23 (by decide) ?_
      obtain ⟨hin22, hg⟩ := gd_some hg
      refine wr_iald hx hb hw hok20 (inb_vp hin22) dX7_solveAll_24 ?_
      refine wr_put (K := RX7) (T := TX7) (N := 20) (index := 125) (ref := "MakerLinesModel") (ty := (.int)) (S1 := (sI S17 a0 12 (hI S17 r14 (2 : Int32).toNatClampNeg))) hx hb hts hi_X7_solveAll_X7 tyX7 tyX7_ok nmX7 hown hw hok18 (wF_7 (S := S17) hok18.2) rfl (fun b hb9 => wF_sI_ne hb9) 12 (wq_7_12 (S := S17) hok18.2 _) rfl (by decide) (hts _ (List.mem_of_getElem? (i := 3) rfl)) (fun _ h9 => h9) rfl (by decide +kernel) rfl rfl (Nat.le_of_ble_eq_true rfl) dX7_solveAll_25 (fun H locs hw => ?_)
      obtain ⟨S23, hS23, hg⟩ := bd_some hg
      rw [← hS23] at hw
      have hok24 : ok S23 a0 7 := by rw [hS23]; exact hok18
      have hr25 : hR S23 a0 0 = some r14 := by rw [hS23]; exact hr19
      have hok26 : ok S23 r14 8 := by rw [hS23]; exact hok20
      have hin27 : inb (0 : Int32) (hN S23 r14) := by rw [hS23]; exact hin21
      have hin28 : inb (2 : Int32) (hN S23 r14) := by rw [hS23]; exact hin22
      refine lv_iconst (v := (0 : Int32)) hx hb dX7_solveAll_28 (by decide) ?_
      refine lv_istore_n (lv' := [(1, .int (0 : Int32)), (0, .ref a0)]) hx hb dX7_solveAll_29 rfl hl (by decide) rfl (fun ls hl => ?_)
      exact L30 N _ _ _ _ _ hg hw (lv_sub hl [1, 0] rfl)
    · have hg := it_neg hg c12
      cases hg
      exact wr_vret hx hb hr hw dX7_solveAll_7 hlk
  exact B0 S0 _ _ _ hg hw hl
theorem hi_X7_placeBehind_X7 : ∀ w ∈ wsX70, w ∈ wsX7_placeBehind := fun _ h => List.mem_cons_of_mem _ (List.mem_append_right _ (h))
abbrev rm_X7_placeBehind : Room := { frames := 2, cells := 0, slots := 0, locals := 46 }
set_option maxHeartbeats 4000000 in
set_option maxRecDepth 100000 in
theorem c_X7_placeBehind (l : Launch) (D : va_G) (C : C3) (N : Nat) (S0 : Hp) (z : Nat) (a0 : Nat) (x1 : Int32) (r : Int32) (S9 : Hp) (hg : f_X7_placeBehind N S0 a0 x1 = some (r, S9)) : MetI l yX7_placeBehind wsX7_placeBehind rm_X7_placeBehind D C S0 z [.ref a0, .int x1] r S9 z 0 0 := by
  refine mw_ofW (cc := cX7_placeBehind) (maxL := 3) (ret := (some .int)) (lv := [(0, .ref a0), (1, .int x1)]) (by decide) rfl (Nat.le_of_ble_eq_true rfl) rfl ?_
  intro p e s m below meth c ls hx hb hr hts hown hlk hml hnm hl hw
  have hown : s.vm.findClass RX7 = some m.cls := hown
  have B44 : ∀ (S : Hp) (s0 : Int32) (s1 : Int32) (s2 : Int32) (s3 : Nat) (H : Heap) (locs : List Loc) (ls : Array Slot), f_X7_placeBehind_b44 N a0 x1 S s0 s1 s2 s3 = some (r, S9) → Wd D C (va_A (wP C S0) z) s.heap S z H locs s → lv_has ls 3 [(0, .ref a0)] → W p l e rm_X7_placeBehind s m ([.ref a0, .int x1] : List Value).toArray below meth c H locs 0 0 (MQ below (QiW D C S0 z r S9 z) ([.ref a0, .int x1] : List Value).toArray s 0 0 (va_A (wP C S0) z)) (F0 m 44 ls [.int s0, .int s1, .int s2, .ref s3]) := by
    intro S s0 s1 s2 s3 H locs ls hg hw hl
    unfold f_X7_placeBehind_b44 at hg
    refine lv_ior hx hb dX7_placeBehind_44 ?_
    refine lv_iconst (v := (3 : Int32)) hx hb dX7_placeBehind_45 (by decide) ?_
    refine lv_aload_n hx hb dX7_placeBehind_46 rfl (lv_at hl 0 rfl) ?_
    obtain ⟨hok25, hg⟩ := gd_some hg
    obtain ⟨r26, hr26, hg⟩ := nn_some hg
    refine wr_get (K := RX7) (T := TX7) (N := 20) (index := 7) (ref := "MakerLinesModel") (v := .ref r26) hx hb hts hi_X7_placeBehind_X7 hown hw hok25 (wF_7 (S := S) hok25.2) rfl 0 (by decide) (hts _ (List.mem_of_getElem? (i := 1) rfl)) (fun _ h9 => h9) (congrArg (fun o => some (va_rf o)) hr26) dX7_placeBehind_47 ?_
    refine lv_iconst (v := (1 : Int32)) hx hb dX7_placeBehind_50 (by decide) ?_
    obtain ⟨hok27, hg⟩ := gd_some hg
    obtain ⟨hin28, hg⟩ := gd_some hg
    refine wr_iald hx hb hw hok27 (inb_vp hin28) dX7_placeBehind_51 ?_
    refine lv_isub hx hb dX7_placeBehind_52 ?_
    obtain ⟨hok29, hg⟩ := gd_some hg
    obtain ⟨r30, S30, hc30, hg⟩ := cl_some hg
    refine wr_ci (va_runV (As := [.int s2, .int (s1 ||| s0), .int ((3 : Int32) - (hI S r26 (1 : Int32).toNatClampNeg))]) (rest := []) ⟨hx, hb, hml, hown, hts⟩ (c_X7_placeOf l D C N S z s3 s2 ((s1 ||| s0)) (((3 : Int32) - (hI S r26 (1 : Int32).toNatClampNeg))) r30 S30 hc30) (cwV 3 hts gX7_placeBehind_X7_placeOf rfl rfl rfl (by decide +kernel) ⟨Nat.le_of_ble_eq_true rfl, Nat.le_of_ble_eq_true rfl⟩) (wd_preV hw hok29 (wF_7 (S := S) hok29.2) rfl) rfl rfl hl.1 rfl (lv_room (Nat.le_of_ble_eq_true rfl)) dX7_placeBehind_53 ⟨Nat.zero_le _, Nat.zero_le _⟩) hw (fun H locs hw => ?_)
    cases hg
    exact wr_iret hx hb hr hw dX7_placeBehind_56 hlk
  have B24 : ∀ (S : Hp) (v2 : Int32) (s0 : Int32) (s1 : Int32) (s2 : Nat) (H : Heap) (locs : List Loc) (ls : Array Slot), f_X7_placeBehind_b24 N a0 x1 S v2 s0 s1 s2 = some (r, S9) → Wd D C (va_A (wP C S0) z) s.heap S z H locs s → lv_has ls 3 [(0, .ref a0), (2, .int v2)] → W p l e rm_X7_placeBehind s m ([.ref a0, .int x1] : List Value).toArray below meth c H locs 0 0 (MQ below (QiW D C S0 z r S9 z) ([.ref a0, .int x1] : List Value).toArray s 0 0 (va_A (wP C S0) z)) (F0 m 24 ls [.int s0, .int s1, .ref s2]) := by
    intro S v2 s0 s1 s2 H locs ls hg hw hl
    unfold f_X7_placeBehind_b24 at hg
    refine lv_ior hx hb dX7_placeBehind_24 ?_
    refine lv_aload_n hx hb dX7_placeBehind_25 rfl (lv_at hl 0 rfl) ?_
    obtain ⟨hok18, hg⟩ := gd_some hg
    obtain ⟨r19, S19, hc19, hg⟩ := cl_some hg
    refine wr_ci (va_runV (As := []) (rest := [.int (s1 ||| s0), .ref s2]) ⟨hx, hb, hml, hown, hts⟩ (c_X7_breaker l D C N S z a0 r19 S19 hc19) (cwV 0 hts gX7_placeBehind_X7_breaker rfl rfl rfl (by decide +kernel) ⟨Nat.le_of_ble_eq_true rfl, Nat.le_of_ble_eq_true rfl⟩) (wd_preV hw hok18 (wF_7 (S := S) hok18.2) rfl) rfl rfl hl.1 rfl (lv_room (Nat.le_of_ble_eq_true rfl)) dX7_placeBehind_26 ⟨Nat.zero_le _, Nat.zero_le _⟩) hw (fun H locs hw => ?_)
    refine lv_aload_n hx hb dX7_placeBehind_29 rfl (lv_at hl 0 rfl) ?_
    obtain ⟨hok20, hg⟩ := gd_some hg
    obtain ⟨r21, hr21, hg⟩ := nn_some hg
    refine wr_get (K := RX7) (T := TX7) (N := 20) (index := 7) (ref := "MakerLinesModel") (v := .ref r21) hx hb hts hi_X7_placeBehind_X7 hown hw hok20 (wF_7 (S := S19) hok20.2) rfl 0 (by decide) (hts _ (List.mem_of_getElem? (i := 1) rfl)) (fun _ h9 => h9) (congrArg (fun o => some (va_rf o)) hr21) dX7_placeBehind_30 ?_
    refine lv_iconst (v := (1 : Int32)) hx hb dX7_placeBehind_33 (by decide) ?_
    obtain ⟨hok22, hg⟩ := gd_some hg
    obtain ⟨hin23, hg⟩ := gd_some hg
    refine wr_iald hx hb hw hok22 (inb_vp hin23) dX7_placeBehind_34 ?_
    refine lv_iconst (v := (2 : Int32)) hx hb dX7_placeBehind_35 (by decide) ?_
    refine lv_icmp_ne (tgt := 43) hx hb dX7_placeBehind_36 (by decide) (fun c24 => ?_) (fun c24 => ?_)
    · have hg := it_neg hg c24
      refine lv_iconst (v := (0 : Int32)) hx hb dX7_placeBehind_43 (by decide) ?_
      exact B44 _ _ _ _ _ _ _ _ hg hw (lv_sub hl [0] rfl)
    · have hg := it_pos hg c24
      refine lv_iload_n hx hb dX7_placeBehind_39 rfl (lv_at hl 1 rfl) ?_
      refine lv_goto (tgt := 44) hx hb dX7_placeBehind_40 (by decide) ?_
      exact B44 _ _ _ _ _ _ _ _ hg hw (lv_sub hl [0] rfl)
  have B0 : ∀ (S : Hp) (H : Heap) (locs : List Loc) (ls : Array Slot), f_X7_placeBehind N S a0 x1 = some (r, S9) → Wd D C (va_A (wP C S0) z) s.heap S z H locs s → lv_has ls 3 [(0, .ref a0), (1, .int x1)] → W p l e rm_X7_placeBehind s m ([.ref a0, .int x1] : List Value).toArray below meth c H locs 0 0 (MQ below (QiW D C S0 z r S9 z) ([.ref a0, .int x1] : List Value).toArray s 0 0 (va_A (wP C S0) z)) (F0 m 0 ls []) := by
    intro S H locs ls hg hw hl
    unfold f_X7_placeBehind at hg
    refine lv_iconst (v := (1 : Int32)) hx hb dX7_placeBehind_0 (by decide) ?_
    refine lv_iload_n hx hb dX7_placeBehind_1 rfl (lv_at hl 1 rfl) ?_
    refine lv_ishl hx hb dX7_placeBehind_2 ?_
    obtain ⟨e10, he10, hg⟩ := bd_some hg
    refine lv_istore_n (lv' := [(2, .int e10), (0, .ref a0), (1, .int x1)]) hx hb dX7_placeBehind_3 rfl hl (by decide) (by rw [he10]; rfl) (fun ls hl => ?_)
    refine lv_aload_n hx hb dX7_placeBehind_4 rfl (lv_at hl 1 rfl) ?_
    refine lv_aload_n hx hb dX7_placeBehind_5 rfl (lv_at hl 1 rfl) ?_
    obtain ⟨hok11, hg⟩ := gd_some hg
    obtain ⟨r12, S12, hc12, hg⟩ := cl_some hg
    refine wr_ci (va_runV (As := []) (rest := [.ref a0]) ⟨hx, hb, hml, hown, hts⟩ (c_X7_maker l D C N S z a0 r12 S12 hc12) (cwV 0 hts gX7_placeBehind_X7_maker rfl rfl rfl (by decide +kernel) ⟨Nat.le_of_ble_eq_true rfl, Nat.le_of_ble_eq_true rfl⟩) (wd_preV hw hok11 (wF_7 (S := S) hok11.2) rfl) rfl rfl hl.1 rfl (lv_room (Nat.le_of_ble_eq_true rfl)) dX7_placeBehind_6 ⟨Nat.zero_le _, Nat.zero_le _⟩) hw (fun H locs hw => ?_)
    refine lv_aload_n hx hb dX7_placeBehind_9 rfl (lv_at hl 1 rfl) ?_
    obtain ⟨hok13, hg⟩ := gd_some hg
    obtain ⟨r14, hr14, hg⟩ := nn_some hg
    refine wr_get (K := RX7) (T := TX7) (N := 20) (index := 7) (ref := "MakerLinesModel") (v := .ref r14) hx hb hts hi_X7_placeBehind_X7 hown hw hok13 (wF_7 (S := S12) hok13.2) rfl 0 (by decide) (hts _ (List.mem_of_getElem? (i := 1) rfl)) (fun _ h9 => h9) (congrArg (fun o => some (va_rf o)) hr14) dX7_placeBehind_10 ?_
    refine lv_iconst (v := (1 : Int32)) hx hb dX7_placeBehind_13 (by decide) ?_
    obtain ⟨hok15, hg⟩ := gd_some hg
    obtain ⟨hin16, hg⟩ := gd_some hg
    refine wr_iald hx hb hw hok15 (inb_vp hin16) dX7_placeBehind_14 ?_
    refine lv_iconst (v := (1 : Int32)) hx hb dX7_placeBehind_15 (by decide) ?_
    refine lv_icmp_ne (tgt := 23) hx hb dX7_placeBehind_16 (by decide) (fun c17 => ?_) (fun c17 => ?_)
    · have hg := it_neg hg c17
      refine lv_iconst (v := (0 : Int32)) hx hb dX7_placeBehind_23 (by decide) ?_
      exact B24 _ _ _ _ _ _ _ _ hg hw (lv_sub hl [1, 0] rfl)
    · have hg := it_pos hg c17
      refine lv_iload_n hx hb dX7_placeBehind_19 rfl (lv_at hl 0 rfl) ?_
      refine lv_goto (tgt := 24) hx hb dX7_placeBehind_20 (by decide) ?_
      exact B24 _ _ _ _ _ _ _ _ hg hw (lv_sub hl [1, 0] rfl)
  exact B0 S0 _ _ _ hg hw hl
theorem hi_X7_isBetter_X7 : ∀ w ∈ wsX70, w ∈ wsX7_isBetter := fun _ h => List.mem_cons_of_mem _ (List.mem_append_right _ (h))
abbrev rm_X7_isBetter : Room := { frames := 3, cells := 0, slots := 0, locals := 68 }
set_option maxHeartbeats 4000000 in
set_option maxRecDepth 100000 in
theorem c_X7_isBetter (l : Launch) (D : va_G) (C : C3) (N : Nat) (S0 : Hp) (z : Nat) (a0 : Nat) (x1 : Int32) (x2 : Int32) (r : Int32) (S9 : Hp) (hg : f_X7_isBetter N S0 a0 x1 x2 = some (r, S9)) : MetI l yX7_isBetter wsX7_isBetter rm_X7_isBetter D C S0 z [.ref a0, .int x1, .int x2] r S9 z 0 0 := by
  refine mw_ofW (cc := cX7_isBetter) (maxL := 7) (ret := (some .boolean)) (lv := [(0, .ref a0), (1, .int x1), (2, .int x2)]) (by decide) rfl (Nat.le_of_ble_eq_true rfl) rfl ?_
  intro p e s m below meth c ls hx hb hr hts hown hlk hml hnm hl hw
  have hown : s.vm.findClass RX7 = some m.cls := hown
  have B56 : ∀ (S : Hp) (v3 : Int32) (v4 : Int32) (v5 : Int32) (s0 : Int32) (H : Heap) (locs : List Loc) (ls : Array Slot), f_X7_isBetter_b56 N a0 x1 x2 S v3 v4 v5 s0 = some (r, S9) → Wd D C (va_A (wP C S0) z) s.heap S z H locs s → lv_has ls 7 [(0, .ref a0), (3, .int v3), (4, .int v4), (5, .int v5)] → W p l e rm_X7_isBetter s m ([.ref a0, .int x1, .int x2] : List Value).toArray below meth c H locs 0 0 (MQ below (QiW D C S0 z r S9 z) ([.ref a0, .int x1, .int x2] : List Value).toArray s 0 0 (va_A (wP C S0) z)) (F0 m 56 ls [.int s0]) := by
    intro S v3 v4 v5 s0 H locs ls hg hw hl
    unfold f_X7_isBetter_b56 at hg
    refine lv_istore (lv' := [(6, .int s0), (0, .ref a0), (3, .int v3), (4, .int v4), (5, .int v5)]) hx hb dX7_isBetter_56 hl (by decide) rfl (fun ls hl => ?_)
    refine lv_iload hx hb dX7_isBetter_58 (lv_at hl 4 rfl) ?_
    refine lv_iload hx hb dX7_isBetter_60 (lv_at hl 0 rfl) ?_
    refine lv_icmp_eq (tgt := 68) hx hb dX7_isBetter_62 (by decide) (fun c30 => ?_) (fun c30 => ?_)
    · have hg := it_pos hg c30
      refine lv_aload_n hx hb dX7_isBetter_68 rfl (lv_at hl 1 rfl) ?_
      obtain ⟨hok31, hg⟩ := gd_some hg
      obtain ⟨r32, hr32, hg⟩ := nn_some hg
      refine wr_get (K := RX7) (T := TX7) (N := 20) (index := 7) (ref := "MakerLinesModel") (v := .ref r32) hx hb hts hi_X7_isBetter_X7 hown hw hok31 (wF_7 (S := S) hok31.2) rfl 0 (by decide) (hts _ (List.mem_of_getElem? (i := 2) rfl)) (fun _ h9 => h9) (congrArg (fun o => some (va_rf o)) hr32) dX7_isBetter_69 ?_
      refine lv_iconst (v := (1 : Int32)) hx hb dX7_isBetter_72 (by decide) ?_
      obtain ⟨hok33, hg⟩ := gd_some hg
      obtain ⟨hin34, hg⟩ := gd_some hg
      refine wr_iald hx hb hw hok33 (inb_vp hin34) dX7_isBetter_73 ?_
      refine lv_iconst (v := (1 : Int32)) hx hb dX7_isBetter_74 (by decide) ?_
      refine lv_icmp_ne (tgt := 107) hx hb dX7_isBetter_75 (by decide) (fun c35 => ?_) (fun c35 => ?_)
      · have hg := it_neg hg c35
        refine lv_iload hx hb dX7_isBetter_107 (lv_at hl 4 rfl) ?_
        refine lv_if_ne (tgt := 132) hx hb dX7_isBetter_109 (by decide) (fun c36 => ?_) (fun c36 => ?_)
        · have hg := it_neg hg c36
          refine lv_iconst (v := (0 : Int32)) hx hb dX7_isBetter_132 (by decide) ?_
          cases hg
          exact wr_zret hx hb hr (by decide) hw dX7_isBetter_133 hlk
        · have hg := it_pos hg c36
          refine lv_aload_n hx hb dX7_isBetter_112 rfl (lv_at hl 1 rfl) ?_
          obtain ⟨r37, hr37, hg⟩ := nn_some hg
          refine wr_get (K := RX7) (T := TX7) (N := 20) (index := 41) (ref := "MakerLinesModel") (v := .ref r37) hx hb hts hi_X7_isBetter_X7 hown hw hok31 (wF_7 (S := S) hok31.2) rfl 15 (by decide) (hts _ (List.mem_of_getElem? (i := 3) rfl)) (fun _ h9 => h9) (congrArg (fun o => some (va_rf o)) hr37) dX7_isBetter_113 ?_
          refine lv_iload_n hx hb dX7_isBetter_116 rfl (lv_at hl 2 rfl) ?_
          obtain ⟨hok38, hg⟩ := gd_some hg
          obtain ⟨hin39, hg⟩ := gd_some hg
          refine wr_iald hx hb hw hok38 (inb_vp hin39) dX7_isBetter_117 ?_
          refine lv_aload_n hx hb dX7_isBetter_118 rfl (lv_at hl 1 rfl) ?_
          refine wr_get (K := RX7) (T := TX7) (N := 20) (index := 41) (ref := "MakerLinesModel") (v := .ref r37) hx hb hts hi_X7_isBetter_X7 hown hw hok31 (wF_7 (S := S) hok31.2) rfl 15 (by decide) (hts _ (List.mem_of_getElem? (i := 3) rfl)) (fun _ h9 => h9) (congrArg (fun o => some (va_rf o)) hr37) dX7_isBetter_119 ?_
          refine lv_iload hx hb dX7_isBetter_122 (lv_at hl 3 rfl) ?_
          obtain ⟨hin40, hg⟩ := gd_some hg
          refine wr_iald hx hb hw hok38 (inb_vp hin40) dX7_isBetter_124 ?_
          refine lv_icmp_le (tgt := 132) hx hb dX7_isBetter_125 (by decide) (fun c41 => ?_) (fun c41 => ?_)
          · have hg := it_pos hg c41
            refine lv_iconst (v := (0 : Int32)) hx hb dX7_isBetter_132 (by decide) ?_
            cases hg
            exact wr_zret hx hb hr (by decide) hw dX7_isBetter_133 hlk
          · have hg := it_neg hg c41
            refine lv_iconst (v := (1 : Int32)) hx hb dX7_isBetter_128 (by decide) ?_
            refine lv_goto (tgt := 133) hx hb dX7_isBetter_129 (by decide) ?_
            cases hg
            exact wr_zret hx hb hr (by decide) hw dX7_isBetter_133 hlk
      · have hg := it_pos hg c35
        refine lv_iload hx hb dX7_isBetter_78 (lv_at hl 4 rfl) ?_
        refine lv_if_eq (tgt := 103) hx hb dX7_isBetter_80 (by decide) (fun c42 => ?_) (fun c42 => ?_)
        · have hg := it_pos hg c42
          refine lv_iconst (v := (0 : Int32)) hx hb dX7_isBetter_103 (by decide) ?_
          refine lv_goto (tgt := 133) hx hb dX7_isBetter_104 (by decide) ?_
          cases hg
          exact wr_zret hx hb hr (by decide) hw dX7_isBetter_133 hlk
        · have hg := it_neg hg c42
          refine lv_aload_n hx hb dX7_isBetter_83 rfl (lv_at hl 1 rfl) ?_
          obtain ⟨r43, hr43, hg⟩ := nn_some hg
          refine wr_get (K := RX7) (T := TX7) (N := 20) (index := 41) (ref := "MakerLinesModel") (v := .ref r43) hx hb hts hi_X7_isBetter_X7 hown hw hok31 (wF_7 (S := S) hok31.2) rfl 15 (by decide) (hts _ (List.mem_of_getElem? (i := 3) rfl)) (fun _ h9 => h9) (congrArg (fun o => some (va_rf o)) hr43) dX7_isBetter_84 ?_
          refine lv_iload_n hx hb dX7_isBetter_87 rfl (lv_at hl 2 rfl) ?_
          obtain ⟨hok44, hg⟩ := gd_some hg
          obtain ⟨hin45, hg⟩ := gd_some hg
          refine wr_iald hx hb hw hok44 (inb_vp hin45) dX7_isBetter_88 ?_
          refine lv_aload_n hx hb dX7_isBetter_89 rfl (lv_at hl 1 rfl) ?_
          refine wr_get (K := RX7) (T := TX7) (N := 20) (index := 41) (ref := "MakerLinesModel") (v := .ref r43) hx hb hts hi_X7_isBetter_X7 hown hw hok31 (wF_7 (S := S) hok31.2) rfl 15 (by decide) (hts _ (List.mem_of_getElem? (i := 3) rfl)) (fun _ h9 => h9) (congrArg (fun o => some (va_rf o)) hr43) dX7_isBetter_90 ?_
          refine lv_iload hx hb dX7_isBetter_93 (lv_at hl 3 rfl) ?_
          obtain ⟨hin46, hg⟩ := gd_some hg
          refine wr_iald hx hb hw hok44 (inb_vp hin46) dX7_isBetter_95 ?_
          refine lv_icmp_ge (tgt := 103) hx hb dX7_isBetter_96 (by decide) (fun c47 => ?_) (fun c47 => ?_)
          · have hg := it_pos hg c47
            refine lv_iconst (v := (0 : Int32)) hx hb dX7_isBetter_103 (by decide) ?_
            refine lv_goto (tgt := 133) hx hb dX7_isBetter_104 (by decide) ?_
            cases hg
            exact wr_zret hx hb hr (by decide) hw dX7_isBetter_133 hlk
          · have hg := it_neg hg c47
            refine lv_iconst (v := (1 : Int32)) hx hb dX7_isBetter_99 (by decide) ?_
            refine lv_goto (tgt := 133) hx hb dX7_isBetter_100 (by decide) ?_
            cases hg
            exact wr_zret hx hb hr (by decide) hw dX7_isBetter_133 hlk
    · have hg := it_neg hg c30
      refine lv_iload hx hb dX7_isBetter_65 (lv_at hl 4 rfl) ?_
      obtain ⟨hz48, hg⟩ := gd_some hg
      cases hg
      exact wr_zret hx hb hr hz48 hw dX7_isBetter_67 hlk
  have B33 : ∀ (S : Hp) (v3 : Int32) (v4 : Int32) (s0 : Int32) (H : Heap) (locs : List Loc) (ls : Array Slot), f_X7_isBetter_b33 N a0 x1 x2 S v3 v4 s0 = some (r, S9) → Wd D C (va_A (wP C S0) z) s.heap S z H locs s → lv_has ls 7 [(0, .ref a0), (3, .int v3), (4, .int v4)] → W p l e rm_X7_isBetter s m ([.ref a0, .int x1, .int x2] : List Value).toArray below meth c H locs 0 0 (MQ below (QiW D C S0 z r S9 z) ([.ref a0, .int x1, .int x2] : List Value).toArray s 0 0 (va_A (wP C S0) z)) (F0 m 33 ls [.int s0]) := by
    intro S v3 v4 s0 H locs ls hg hw hl
    unfold f_X7_isBetter_b33 at hg
    refine lv_istore (lv' := [(5, .int s0), (0, .ref a0), (3, .int v3), (4, .int v4)]) hx hb dX7_isBetter_33 hl (by decide) rfl (fun ls hl => ?_)
    refine lv_aload_n hx hb dX7_isBetter_35 rfl (lv_at hl 1 rfl) ?_
    obtain ⟨hok22, hg⟩ := gd_some hg
    obtain ⟨r23, hr23, hg⟩ := nn_some hg
    refine wr_get (K := RX7) (T := TX7) (N := 20) (index := 38) (ref := "MakerLinesModel") (v := .ref r23) hx hb hts hi_X7_isBetter_X7 hown hw hok22 (wF_7 (S := S) hok22.2) rfl 14 (by decide) (hts _ (List.mem_of_getElem? (i := 1) rfl)) (fun _ h9 => h9) (congrArg (fun o => some (va_rf o)) hr23) dX7_isBetter_36 ?_
    refine lv_iload hx hb dX7_isBetter_39 (lv_at hl 3 rfl) ?_
    obtain ⟨hok24, hg⟩ := gd_some hg
    obtain ⟨hin25, hg⟩ := gd_some hg
    refine wr_iald hx hb hw hok24 (inb_vp hin25) dX7_isBetter_41 ?_
    refine lv_aload_n hx hb dX7_isBetter_42 rfl (lv_at hl 1 rfl) ?_
    obtain ⟨r26, hr26, hg⟩ := nn_some hg
    refine wr_get (K := RX7) (T := TX7) (N := 20) (index := 7) (ref := "MakerLinesModel") (v := .ref r26) hx hb hts hi_X7_isBetter_X7 hown hw hok22 (wF_7 (S := S) hok22.2) rfl 0 (by decide) (hts _ (List.mem_of_getElem? (i := 2) rfl)) (fun _ h9 => h9) (congrArg (fun o => some (va_rf o)) hr26) dX7_isBetter_43 ?_
    refine lv_iconst (v := (1 : Int32)) hx hb dX7_isBetter_46 (by decide) ?_
    obtain ⟨hok27, hg⟩ := gd_some hg
    obtain ⟨hin28, hg⟩ := gd_some hg
    refine wr_iald hx hb hw hok27 (inb_vp hin28) dX7_isBetter_47 ?_
    refine lv_icmp_ne (tgt := 55) hx hb dX7_isBetter_48 (by decide) (fun c29 => ?_) (fun c29 => ?_)
    · have hg := it_neg hg c29
      refine lv_iconst (v := (0 : Int32)) hx hb dX7_isBetter_55 (by decide) ?_
      exact B56 _ _ _ _ _ _ _ _ hg hw (lv_sub hl [1, 2, 3, 0] rfl)
    · have hg := it_pos hg c29
      refine lv_iconst (v := (1 : Int32)) hx hb dX7_isBetter_51 (by decide) ?_
      refine lv_goto (tgt := 56) hx hb dX7_isBetter_52 (by decide) ?_
      exact B56 _ _ _ _ _ _ _ _ hg hw (lv_sub hl [1, 2, 3, 0] rfl)
  have B0 : ∀ (S : Hp) (H : Heap) (locs : List Loc) (ls : Array Slot), f_X7_isBetter N S a0 x1 x2 = some (r, S9) → Wd D C (va_A (wP C S0) z) s.heap S z H locs s → lv_has ls 7 [(0, .ref a0), (1, .int x1), (2, .int x2)] → W p l e rm_X7_isBetter s m ([.ref a0, .int x1, .int x2] : List Value).toArray below meth c H locs 0 0 (MQ below (QiW D C S0 z r S9 z) ([.ref a0, .int x1, .int x2] : List Value).toArray s 0 0 (va_A (wP C S0) z)) (F0 m 0 ls []) := by
    intro S H locs ls hg hw hl
    unfold f_X7_isBetter at hg
    refine lv_aload_n hx hb dX7_isBetter_0 rfl (lv_at hl 0 rfl) ?_
    refine lv_iload_n hx hb dX7_isBetter_1 rfl (lv_at hl 1 rfl) ?_
    obtain ⟨hok10, hg⟩ := gd_some hg
    obtain ⟨r11, S11, hc11, hg⟩ := cl_some hg
    refine wr_ci (va_runV (As := [.int x1]) (rest := []) ⟨hx, hb, hml, hown, hts⟩ (c_X7_placeBehind l D C N S z a0 x1 r11 S11 hc11) (cwV 1 hts gX7_isBetter_X7_placeBehind rfl rfl rfl (by decide +kernel) ⟨Nat.le_of_ble_eq_true rfl, Nat.le_of_ble_eq_true rfl⟩) (wd_preV hw hok10 (wF_7 (S := S) hok10.2) rfl) rfl rfl hl.1 rfl (lv_room (Nat.le_of_ble_eq_true rfl)) dX7_isBetter_2 ⟨Nat.zero_le _, Nat.zero_le _⟩) hw (fun H locs hw => ?_)
    refine lv_istore_n (lv' := [(3, .int r11), (0, .ref a0), (1, .int x1), (2, .int x2)]) hx hb dX7_isBetter_5 rfl hl (by decide) rfl (fun ls hl => ?_)
    refine lv_aload_n hx hb dX7_isBetter_6 rfl (lv_at hl 1 rfl) ?_
    refine lv_iload_n hx hb dX7_isBetter_7 rfl (lv_at hl 3 rfl) ?_
    obtain ⟨hok12, hg⟩ := gd_some hg
    obtain ⟨r13, S13, hc13, hg⟩ := cl_some hg
    refine wr_ci (va_runV (As := [.int x2]) (rest := []) ⟨hx, hb, hml, hown, hts⟩ (c_X7_placeBehind l D C N S11 z a0 x2 r13 S13 hc13) (cwV 1 hts gX7_isBetter_X7_placeBehind rfl rfl rfl (by decide +kernel) ⟨Nat.le_of_ble_eq_true rfl, Nat.le_of_ble_eq_true rfl⟩) (wd_preV hw hok12 (wF_7 (S := S11) hok12.2) rfl) rfl rfl hl.1 rfl (lv_room (Nat.le_of_ble_eq_true rfl)) dX7_isBetter_8 ⟨Nat.zero_le _, Nat.zero_le _⟩) hw (fun H locs hw => ?_)
    refine lv_istore (lv' := [(4, .int r13), (3, .int r11), (0, .ref a0), (1, .int x1), (2, .int x2)]) hx hb dX7_isBetter_11 hl (by decide) rfl (fun ls hl => ?_)
    refine lv_aload_n hx hb dX7_isBetter_13 rfl (lv_at hl 2 rfl) ?_
    obtain ⟨hok14, hg⟩ := gd_some hg
    obtain ⟨r15, hr15, hg⟩ := nn_some hg
    refine wr_get (K := RX7) (T := TX7) (N := 20) (index := 38) (ref := "MakerLinesModel") (v := .ref r15) hx hb hts hi_X7_isBetter_X7 hown hw hok14 (wF_7 (S := S13) hok14.2) rfl 14 (by decide) (hts _ (List.mem_of_getElem? (i := 1) rfl)) (fun _ h9 => h9) (congrArg (fun o => some (va_rf o)) hr15) dX7_isBetter_14 ?_
    refine lv_iload_n hx hb dX7_isBetter_17 rfl (lv_at hl 1 rfl) ?_
    obtain ⟨hok16, hg⟩ := gd_some hg
    obtain ⟨hin17, hg⟩ := gd_some hg
    refine wr_iald hx hb hw hok16 (inb_vp hin17) dX7_isBetter_18 ?_
    refine lv_aload_n hx hb dX7_isBetter_19 rfl (lv_at hl 2 rfl) ?_
    obtain ⟨r18, hr18, hg⟩ := nn_some hg
    refine wr_get (K := RX7) (T := TX7) (N := 20) (index := 7) (ref := "MakerLinesModel") (v := .ref r18) hx hb hts hi_X7_isBetter_X7 hown hw hok14 (wF_7 (S := S13) hok14.2) rfl 0 (by decide) (hts _ (List.mem_of_getElem? (i := 2) rfl)) (fun _ h9 => h9) (congrArg (fun o => some (va_rf o)) hr18) dX7_isBetter_20 ?_
    refine lv_iconst (v := (1 : Int32)) hx hb dX7_isBetter_23 (by decide) ?_
    obtain ⟨hok19, hg⟩ := gd_some hg
    obtain ⟨hin20, hg⟩ := gd_some hg
    refine wr_iald hx hb hw hok19 (inb_vp hin20) dX7_isBetter_24 ?_
    refine lv_icmp_ne (tgt := 32) hx hb dX7_isBetter_25 (by decide) (fun c21 => ?_) (fun c21 => ?_)
    · have hg := it_neg hg c21
      refine lv_iconst (v := (0 : Int32)) hx hb dX7_isBetter_32 (by decide) ?_
      exact B33 _ _ _ _ _ _ _ hg hw (lv_sub hl [2, 1, 0] rfl)
    · have hg := it_pos hg c21
      refine lv_iconst (v := (1 : Int32)) hx hb dX7_isBetter_28 (by decide) ?_
      refine lv_goto (tgt := 33) hx hb dX7_isBetter_29 (by decide) ?_
      exact B33 _ _ _ _ _ _ _ hg hw (lv_sub hl [2, 1, 0] rfl)
  exact B0 S0 _ _ _ hg hw hl
theorem hi_X7_bestMove_X7 : ∀ w ∈ wsX70, w ∈ wsX7_bestMove := fun _ h => List.mem_cons_of_mem _ (List.mem_append_right _ (h))
abbrev rm_X7_bestMove : Room := { frames := 4, cells := 0, slots := 0, locals := 94 }
set_option maxHeartbeats 4000000 in
set_option maxRecDepth 100000 in
theorem c_X7_bestMove (l : Launch) (D : va_G) (C : C3) (N : Nat) (S0 : Hp) (z : Nat) (a0 : Nat) (r : Int32) (S9 : Hp) (hg : f_X7_bestMove N S0 a0 = some (r, S9)) : MetI l yX7_bestMove wsX7_bestMove rm_X7_bestMove D C S0 z [.ref a0] r S9 z 0 0 := by
  refine mw_ofW (cc := cX7_bestMove) (maxL := 3) (ret := (some .int)) (lv := [(0, .ref a0)]) (by decide) rfl (Nat.le_of_ble_eq_true rfl) rfl ?_
  intro p e s m below meth c ls hx hb hr hts hown hlk hml hnm hl hw
  have hown : s.vm.findClass RX7 = some m.cls := hown
  have B8 : ∀ (K8 : Hp → Int32 → Int32 → Option (Int32 × Hp)) (hK8 : ∀ (S : Hp) (v1 : Int32) (v2 : Int32) (H : Heap) (locs : List Loc) (ls : Array Slot), K8 S v1 v2 = some (r, S9) → Wd D C (va_A (wP C S0) z) s.heap S z H locs s → lv_has ls 3 [(0, .ref a0), (1, .int v1), (2, .int v2)] → W p l e rm_X7_bestMove s m ([.ref a0] : List Value).toArray below meth c H locs 0 0 (MQ below (QiW D C S0 z r S9 z) ([.ref a0] : List Value).toArray s 0 0 (va_A (wP C S0) z)) (F0 m 8 ls [])) (S : Hp) (v1 : Int32) (v2 : Int32) (H : Heap) (locs : List Loc) (ls : Array Slot), f_X7_bestMove_b8 N a0 K8 S v1 v2 = some (r, S9) → Wd D C (va_A (wP C S0) z) s.heap S z H locs s → lv_has ls 3 [(0, .ref a0), (1, .int v1), (2, .int v2)] → W p l e rm_X7_bestMove s m ([.ref a0] : List Value).toArray below meth c H locs 0 0 (MQ below (QiW D C S0 z r S9 z) ([.ref a0] : List Value).toArray s 0 0 (va_A (wP C S0) z)) (F0 m 8 ls []) := by
    intro K8 hK8 S v1 v2 H locs ls hg hw hl
    unfold f_X7_bestMove_b8 at hg
    refine lv_iload_n hx hb dX7_bestMove_8 rfl (lv_at hl 2 rfl) ?_
    refine lv_aload_n hx hb dX7_bestMove_9 rfl (lv_at hl 0 rfl) ?_
    obtain ⟨hok12, hg⟩ := gd_some hg
    obtain ⟨r13, hr13, hg⟩ := nn_some hg
    refine wr_get (K := RX7) (T := TX7) (N := 20) (index := 7) (ref := "MakerLinesModel") (v := .ref r13) hx hb hts hi_X7_bestMove_X7 hown hw hok12 (wF_7 (S := S) hok12.2) rfl 0 (by decide) (hts _ (List.mem_of_getElem? (i := 1) rfl)) (fun _ h9 => h9) (congrArg (fun o => some (va_rf o)) hr13) dX7_bestMove_10 ?_
    refine lv_iconst (v := (0 : Int32)) hx hb dX7_bestMove_13 (by decide) ?_
    obtain ⟨hok14, hg⟩ := gd_some hg
    obtain ⟨hin15, hg⟩ := gd_some hg
    refine wr_iald hx hb hw hok14 (inb_vp hin15) dX7_bestMove_14 ?_
    refine lv_icmp_ge (tgt := 55) hx hb dX7_bestMove_15 (by decide) (fun c16 => ?_) (fun c16 => ?_)
    · have hg := it_pos hg c16
      refine lv_iload_n hx hb dX7_bestMove_55 rfl (lv_at hl 1 rfl) ?_
      cases hg
      exact wr_iret hx hb hr hw dX7_bestMove_56 hlk
    · have hg := it_neg hg c16
      refine lv_aload_n hx hb dX7_bestMove_18 rfl (lv_at hl 0 rfl) ?_
      obtain ⟨r17, S17, hc17, hg⟩ := cl_some hg
      refine wr_ci (va_runV (As := []) (rest := []) ⟨hx, hb, hml, hown, hts⟩ (c_X7_free l D C N S z a0 r17 S17 hc17) (cwV 0 hts gX7_bestMove_X7_free rfl rfl rfl (by decide +kernel) ⟨Nat.le_of_ble_eq_true rfl, Nat.le_of_ble_eq_true rfl⟩) (wd_preV hw hok12 (wF_7 (S := S) hok12.2) rfl) rfl rfl hl.1 rfl (lv_room (Nat.le_of_ble_eq_true rfl)) dX7_bestMove_19 ⟨Nat.zero_le _, Nat.zero_le _⟩) hw (fun H locs hw => ?_)
      refine lv_iload_n hx hb dX7_bestMove_22 rfl (lv_at hl 2 rfl) ?_
      obtain ⟨r18, S18, hc18, hg⟩ := cl_some hg
      refine wr_ci (va_runS (As := [.int r17, .int v2]) (rest := []) ⟨hx, hb, hml, hown, hts⟩ (c_X7_has l D C N S17 z r17 v2 r18 S18 hc18) (va_cwS 2 hts gX7_bestMove_X7_has rfl rfl rfl (by decide +kernel) ⟨Nat.le_of_ble_eq_true rfl, Nat.le_of_ble_eq_true rfl⟩) (wd_preS hw) rfl rfl hl.1 rfl (lv_room (Nat.le_of_ble_eq_true rfl)) dX7_bestMove_23 ⟨Nat.zero_le _, Nat.zero_le _⟩) hw (fun H locs hw => ?_)
      refine lv_if_eq (tgt := 49) hx hb dX7_bestMove_26 (by decide) (fun c19 => ?_) (fun c19 => ?_)
      · have hg := it_pos hg c19
        refine lv_iinc (v := (v2 + (1 : Int32))) (lv' := [(2, .int (v2 + (1 : Int32))), (0, .ref a0), (1, .int v1)]) hx hb dX7_bestMove_49 hl (k := 2) rfl rfl (by decide) rfl (fun ls hl => ?_)
        refine lv_goto (tgt := 8) hx hb dX7_bestMove_52 (by decide) ?_
        exact hK8 _ _ _ _ _ _ hg hw (lv_sub hl [1, 2, 0] rfl)
      · have hg := it_neg hg c19
        refine lv_iload_n hx hb dX7_bestMove_29 rfl (lv_at hl 1 rfl) ?_
        refine lv_iconst (v := (-1 : Int32)) hx hb dX7_bestMove_30 (by decide) ?_
        refine lv_icmp_eq (tgt := 43) hx hb dX7_bestMove_31 (by decide) (fun c20 => ?_) (fun c20 => ?_)
        · have hg := it_pos hg c20
          refine lv_iload_n hx hb dX7_bestMove_43 rfl (lv_at hl 2 rfl) ?_
          refine lv_goto (tgt := 48) hx hb dX7_bestMove_44 (by decide) ?_
          refine lv_istore_n (lv' := [(1, .int v2), (0, .ref a0), (2, .int v2)]) hx hb dX7_bestMove_48 rfl hl (by decide) rfl (fun ls hl => ?_)
          refine lv_iinc (v := (v2 + (1 : Int32))) (lv' := [(2, .int (v2 + (1 : Int32))), (1, .int v2), (0, .ref a0)]) hx hb dX7_bestMove_49 hl (k := 2) rfl rfl (by decide) rfl (fun ls hl => ?_)
          refine lv_goto (tgt := 8) hx hb dX7_bestMove_52 (by decide) ?_
          exact hK8 _ _ _ _ _ _ hg hw (lv_sub hl [2, 1, 0] rfl)
        · have hg := it_neg hg c20
          refine lv_aload_n hx hb dX7_bestMove_34 rfl (lv_at hl 0 rfl) ?_
          refine lv_iload_n hx hb dX7_bestMove_35 rfl (lv_at hl 2 rfl) ?_
          refine lv_iload_n hx hb dX7_bestMove_36 rfl (lv_at hl 1 rfl) ?_
          obtain ⟨hok21, hg⟩ := gd_some hg
          obtain ⟨r22, S22, hc22, hg⟩ := cl_some hg
          refine wr_ci (va_runV (As := [.int v2, .int v1]) (rest := []) ⟨hx, hb, hml, hown, hts⟩ (c_X7_isBetter l D C N S18 z a0 v2 v1 r22 S22 hc22) (cwV 2 hts gX7_bestMove_X7_isBetter rfl rfl rfl (by decide +kernel) ⟨Nat.le_of_ble_eq_true rfl, Nat.le_of_ble_eq_true rfl⟩) (wd_preV hw hok21 (wF_7 (S := S18) hok21.2) rfl) rfl rfl hl.1 rfl (lv_room (Nat.le_of_ble_eq_true rfl)) dX7_bestMove_37 ⟨Nat.zero_le _, Nat.zero_le _⟩) hw (fun H locs hw => ?_)
          refine lv_if_eq (tgt := 47) hx hb dX7_bestMove_40 (by decide) (fun c23 => ?_) (fun c23 => ?_)
          · have hg := it_pos hg c23
            refine lv_iload_n hx hb dX7_bestMove_47 rfl (lv_at hl 1 rfl) ?_
            refine lv_istore_n (lv' := [(1, .int v1), (0, .ref a0), (2, .int v2)]) hx hb dX7_bestMove_48 rfl hl (by decide) rfl (fun ls hl => ?_)
            refine lv_iinc (v := (v2 + (1 : Int32))) (lv' := [(2, .int (v2 + (1 : Int32))), (1, .int v1), (0, .ref a0)]) hx hb dX7_bestMove_49 hl (k := 2) rfl rfl (by decide) rfl (fun ls hl => ?_)
            refine lv_goto (tgt := 8) hx hb dX7_bestMove_52 (by decide) ?_
            exact hK8 _ _ _ _ _ _ hg hw (lv_sub hl [2, 1, 0] rfl)
          · have hg := it_neg hg c23
            refine lv_iload_n hx hb dX7_bestMove_43 rfl (lv_at hl 2 rfl) ?_
            refine lv_goto (tgt := 48) hx hb dX7_bestMove_44 (by decide) ?_
            refine lv_istore_n (lv' := [(1, .int v2), (0, .ref a0), (2, .int v2)]) hx hb dX7_bestMove_48 rfl hl (by decide) rfl (fun ls hl => ?_)
            refine lv_iinc (v := (v2 + (1 : Int32))) (lv' := [(2, .int (v2 + (1 : Int32))), (1, .int v2), (0, .ref a0)]) hx hb dX7_bestMove_49 hl (k := 2) rfl rfl (by decide) rfl (fun ls hl => ?_)
            refine lv_goto (tgt := 8) hx hb dX7_bestMove_52 (by decide) ?_
            exact hK8 _ _ _ _ _ _ hg hw (lv_sub hl [2, 1, 0] rfl)
  have L8 : ∀ (k : Nat) (S : Hp) (v1 : Int32) (v2 : Int32) (H : Heap) (locs : List Loc) (ls : Array Slot), f_X7_bestMove_l8 N a0 k S v1 v2 = some (r, S9) → Wd D C (va_A (wP C S0) z) s.heap S z H locs s → lv_has ls 3 [(0, .ref a0), (1, .int v1), (2, .int v2)] → W p l e rm_X7_bestMove s m ([.ref a0] : List Value).toArray below meth c H locs 0 0 (MQ below (QiW D C S0 z r S9 z) ([.ref a0] : List Value).toArray s 0 0 (va_A (wP C S0) z)) (F0 m 8 ls []) := by
    intro k
    induction k with
    | zero => intro S v1 v2 H locs ls hg hw hl; exact absurd (show (none : Option (Int32 × Hp)) = some (r, S9) from hg) (by simp)
    | succ k ih => intro S v1 v2 H locs ls hg hw hl; exact B8 (f_X7_bestMove_l8 N a0 k) ih S v1 v2 H locs ls hg hw hl
  have B0 : ∀ (S : Hp) (H : Heap) (locs : List Loc) (ls : Array Slot), f_X7_bestMove N S a0 = some (r, S9) → Wd D C (va_A (wP C S0) z) s.heap S z H locs s → lv_has ls 3 [(0, .ref a0)] → W p l e rm_X7_bestMove s m ([.ref a0] : List Value).toArray below meth c H locs 0 0 (MQ below (QiW D C S0 z r S9 z) ([.ref a0] : List Value).toArray s 0 0 (va_A (wP C S0) z)) (F0 m 0 ls []) := by
    intro S H locs ls hg hw hl
    unfold f_X7_bestMove at hg
    refine lv_aload_n hx hb dX7_bestMove_0 rfl (lv_at hl 0 rfl) ?_
    obtain ⟨hok10, hg⟩ := gd_some hg
    obtain ⟨⟨⟩, S11, hc11, hg⟩ := cl_some hg
    refine wr_cv (va_runV (As := []) (rest := []) ⟨hx, hb, hml, hown, hts⟩ (c_X7_solveAll l D C N S z a0 () S11 hc11) (cwV 0 hts gX7_bestMove_X7_solveAll rfl rfl rfl (by decide +kernel) ⟨Nat.le_of_ble_eq_true rfl, Nat.le_of_ble_eq_true rfl⟩) (wd_preV hw hok10 (wF_7 (S := S) hok10.2) rfl) rfl rfl hl.1 rfl (lv_room (Nat.le_of_ble_eq_true rfl)) dX7_bestMove_1 ⟨Nat.zero_le _, Nat.zero_le _⟩) hw (fun H locs hw => ?_)
    refine lv_iconst (v := (-1 : Int32)) hx hb dX7_bestMove_4 (by decide) ?_
    refine lv_istore_n (lv' := [(1, .int (-1 : Int32)), (0, .ref a0)]) hx hb dX7_bestMove_5 rfl hl (by decide) rfl (fun ls hl => ?_)
    refine lv_iconst (v := (0 : Int32)) hx hb dX7_bestMove_6 (by decide) ?_
    refine lv_istore_n (lv' := [(2, .int (0 : Int32)), (1, .int (-1 : Int32)), (0, .ref a0)]) hx hb dX7_bestMove_7 rfl hl (by decide) rfl (fun ls hl => ?_)
    exact L8 N _ _ _ _ _ _ hg hw (lv_sub hl [2, 1, 0] rfl)
  exact B0 S0 _ _ _ hg hw hl
theorem hi_X7_byDanger_X7 : ∀ w ∈ wsX70, w ∈ wsX7_byDanger := fun _ h => List.mem_cons_of_mem _ (List.mem_append_right _ (h))
abbrev rm_X7_byDanger : Room := { frames := 5, cells := 0, slots := 0, locals := 105 }
set_option maxHeartbeats 4000000 in
set_option maxRecDepth 100000 in
theorem c_X7_byDanger (l : Launch) (D : va_G) (C : C3) (N : Nat) (S0 : Hp) (z : Nat) (a0 : Nat) (r : Int32) (S9 : Hp) (hg : f_X7_byDanger N S0 a0 = some (r, S9)) : MetI l yX7_byDanger wsX7_byDanger rm_X7_byDanger D C S0 z [.ref a0] r S9 z 0 0 := by
  refine mw_ofW (cc := cX7_byDanger) (maxL := 3) (ret := (some .int)) (lv := [(0, .ref a0)]) (by decide) rfl (Nat.le_of_ble_eq_true rfl) rfl ?_
  intro p e s m below meth c ls hx hb hr hts hown hlk hml hnm hl hw
  have hown : s.vm.findClass RX7 = some m.cls := hown
  have B4 : ∀ (K4 : Hp → Int32 → Int32 → Option (Int32 × Hp)) (hK4 : ∀ (S : Hp) (v1 : Int32) (v2 : Int32) (H : Heap) (locs : List Loc) (ls : Array Slot), K4 S v1 v2 = some (r, S9) → Wd D C (va_A (wP C S0) z) s.heap S z H locs s → lv_has ls 3 [(0, .ref a0), (1, .int v1), (2, .int v2)] → W p l e rm_X7_byDanger s m ([.ref a0] : List Value).toArray below meth c H locs 0 0 (MQ below (QiW D C S0 z r S9 z) ([.ref a0] : List Value).toArray s 0 0 (va_A (wP C S0) z)) (F0 m 4 ls [])) (S : Hp) (v1 : Int32) (v2 : Int32) (H : Heap) (locs : List Loc) (ls : Array Slot), f_X7_byDanger_b4 N a0 K4 S v1 v2 = some (r, S9) → Wd D C (va_A (wP C S0) z) s.heap S z H locs s → lv_has ls 3 [(0, .ref a0), (1, .int v1), (2, .int v2)] → W p l e rm_X7_byDanger s m ([.ref a0] : List Value).toArray below meth c H locs 0 0 (MQ below (QiW D C S0 z r S9 z) ([.ref a0] : List Value).toArray s 0 0 (va_A (wP C S0) z)) (F0 m 4 ls []) := by
    intro K4 hK4 S v1 v2 H locs ls hg hw hl
    unfold f_X7_byDanger_b4 at hg
    refine lv_iload_n hx hb dX7_byDanger_4 rfl (lv_at hl 2 rfl) ?_
    refine lv_aload_n hx hb dX7_byDanger_5 rfl (lv_at hl 0 rfl) ?_
    obtain ⟨hok10, hg⟩ := gd_some hg
    obtain ⟨r11, hr11, hg⟩ := nn_some hg
    refine wr_get (K := RX7) (T := TX7) (N := 20) (index := 7) (ref := "MakerLinesModel") (v := .ref r11) hx hb hts hi_X7_byDanger_X7 hown hw hok10 (wF_7 (S := S) hok10.2) rfl 0 (by decide) (hts _ (List.mem_of_getElem? (i := 1) rfl)) (fun _ h9 => h9) (congrArg (fun o => some (va_rf o)) hr11) dX7_byDanger_6 ?_
    refine lv_iconst (v := (0 : Int32)) hx hb dX7_byDanger_9 (by decide) ?_
    obtain ⟨hok12, hg⟩ := gd_some hg
    obtain ⟨hin13, hg⟩ := gd_some hg
    refine wr_iald hx hb hw hok12 (inb_vp hin13) dX7_byDanger_10 ?_
    refine lv_icmp_ge (tgt := 55) hx hb dX7_byDanger_11 (by decide) (fun c14 => ?_) (fun c14 => ?_)
    · have hg := it_pos hg c14
      refine lv_iload_n hx hb dX7_byDanger_55 rfl (lv_at hl 1 rfl) ?_
      cases hg
      exact wr_iret hx hb hr hw dX7_byDanger_56 hlk
    · have hg := it_neg hg c14
      refine lv_aload_n hx hb dX7_byDanger_14 rfl (lv_at hl 0 rfl) ?_
      obtain ⟨r15, S15, hc15, hg⟩ := cl_some hg
      refine wr_ci (va_runV (As := []) (rest := []) ⟨hx, hb, hml, hown, hts⟩ (c_X7_free l D C N S z a0 r15 S15 hc15) (cwV 0 hts gX7_byDanger_X7_free rfl rfl rfl (by decide +kernel) ⟨Nat.le_of_ble_eq_true rfl, Nat.le_of_ble_eq_true rfl⟩) (wd_preV hw hok10 (wF_7 (S := S) hok10.2) rfl) rfl rfl hl.1 rfl (lv_room (Nat.le_of_ble_eq_true rfl)) dX7_byDanger_15 ⟨Nat.zero_le _, Nat.zero_le _⟩) hw (fun H locs hw => ?_)
      refine lv_iload_n hx hb dX7_byDanger_18 rfl (lv_at hl 2 rfl) ?_
      obtain ⟨r16, S16, hc16, hg⟩ := cl_some hg
      refine wr_ci (va_runS (As := [.int r15, .int v2]) (rest := []) ⟨hx, hb, hml, hown, hts⟩ (c_X7_has l D C N S15 z r15 v2 r16 S16 hc16) (va_cwS 2 hts gX7_byDanger_X7_has rfl rfl rfl (by decide +kernel) ⟨Nat.le_of_ble_eq_true rfl, Nat.le_of_ble_eq_true rfl⟩) (wd_preS hw) rfl rfl hl.1 rfl (lv_room (Nat.le_of_ble_eq_true rfl)) dX7_byDanger_19 ⟨Nat.zero_le _, Nat.zero_le _⟩) hw (fun H locs hw => ?_)
      refine lv_if_eq (tgt := 47) hx hb dX7_byDanger_22 (by decide) (fun c17 => ?_) (fun c17 => ?_)
      · have hg := it_pos hg c17
        refine lv_iload_n hx hb dX7_byDanger_47 rfl (lv_at hl 1 rfl) ?_
        refine lv_istore_n (lv' := [(1, .int v1), (0, .ref a0), (2, .int v2)]) hx hb dX7_byDanger_48 rfl hl (by decide) rfl (fun ls hl => ?_)
        refine lv_iinc (v := (v2 + (1 : Int32))) (lv' := [(2, .int (v2 + (1 : Int32))), (1, .int v1), (0, .ref a0)]) hx hb dX7_byDanger_49 hl (k := 2) rfl rfl (by decide) rfl (fun ls hl => ?_)
        refine lv_goto (tgt := 4) hx hb dX7_byDanger_52 (by decide) ?_
        exact hK4 _ _ _ _ _ _ hg hw (lv_sub hl [2, 1, 0] rfl)
      · have hg := it_neg hg c17
        refine lv_iload_n hx hb dX7_byDanger_25 rfl (lv_at hl 1 rfl) ?_
        refine lv_iconst (v := (-1 : Int32)) hx hb dX7_byDanger_26 (by decide) ?_
        refine lv_icmp_eq (tgt := 43) hx hb dX7_byDanger_27 (by decide) (fun c18 => ?_) (fun c18 => ?_)
        · have hg := it_pos hg c18
          refine lv_iload_n hx hb dX7_byDanger_43 rfl (lv_at hl 2 rfl) ?_
          refine lv_goto (tgt := 48) hx hb dX7_byDanger_44 (by decide) ?_
          refine lv_istore_n (lv' := [(1, .int v2), (0, .ref a0), (2, .int v2)]) hx hb dX7_byDanger_48 rfl hl (by decide) rfl (fun ls hl => ?_)
          refine lv_iinc (v := (v2 + (1 : Int32))) (lv' := [(2, .int (v2 + (1 : Int32))), (1, .int v2), (0, .ref a0)]) hx hb dX7_byDanger_49 hl (k := 2) rfl rfl (by decide) rfl (fun ls hl => ?_)
          refine lv_goto (tgt := 4) hx hb dX7_byDanger_52 (by decide) ?_
          exact hK4 _ _ _ _ _ _ hg hw (lv_sub hl [2, 1, 0] rfl)
        · have hg := it_neg hg c18
          refine lv_aload_n hx hb dX7_byDanger_30 rfl (lv_at hl 0 rfl) ?_
          refine lv_iload_n hx hb dX7_byDanger_31 rfl (lv_at hl 2 rfl) ?_
          obtain ⟨hok19, hg⟩ := gd_some hg
          obtain ⟨r20, S20, hc20, hg⟩ := cl_some hg
          refine wr_ci (va_runV (As := [.int v2]) (rest := []) ⟨hx, hb, hml, hown, hts⟩ (c_X7_danger l D C N S16 z a0 v2 r20 S20 hc20) (cwV 1 hts gX7_byDanger_X7_danger rfl rfl rfl (by decide +kernel) ⟨Nat.le_of_ble_eq_true rfl, Nat.le_of_ble_eq_true rfl⟩) (wd_preV hw hok19 (wF_7 (S := S16) hok19.2) rfl) rfl rfl hl.1 rfl (lv_room (Nat.le_of_ble_eq_true rfl)) dX7_byDanger_32 ⟨Nat.zero_le _, Nat.zero_le _⟩) hw (fun H locs hw => ?_)
          refine lv_aload_n hx hb dX7_byDanger_35 rfl (lv_at hl 0 rfl) ?_
          refine lv_iload_n hx hb dX7_byDanger_36 rfl (lv_at hl 1 rfl) ?_
          obtain ⟨hok21, hg⟩ := gd_some hg
          obtain ⟨r22, S22, hc22, hg⟩ := cl_some hg
          refine wr_ci (va_runV (As := [.int v1]) (rest := [.int r20]) ⟨hx, hb, hml, hown, hts⟩ (c_X7_danger l D C N S20 z a0 v1 r22 S22 hc22) (cwV 1 hts gX7_byDanger_X7_danger rfl rfl rfl (by decide +kernel) ⟨Nat.le_of_ble_eq_true rfl, Nat.le_of_ble_eq_true rfl⟩) (wd_preV hw hok21 (wF_7 (S := S20) hok21.2) rfl) rfl rfl hl.1 rfl (lv_room (Nat.le_of_ble_eq_true rfl)) dX7_byDanger_37 ⟨Nat.zero_le _, Nat.zero_le _⟩) hw (fun H locs hw => ?_)
          refine lv_icmp_le (tgt := 47) hx hb dX7_byDanger_40 (by decide) (fun c23 => ?_) (fun c23 => ?_)
          · have hg := it_pos hg c23
            refine lv_iload_n hx hb dX7_byDanger_47 rfl (lv_at hl 1 rfl) ?_
            refine lv_istore_n (lv' := [(1, .int v1), (0, .ref a0), (2, .int v2)]) hx hb dX7_byDanger_48 rfl hl (by decide) rfl (fun ls hl => ?_)
            refine lv_iinc (v := (v2 + (1 : Int32))) (lv' := [(2, .int (v2 + (1 : Int32))), (1, .int v1), (0, .ref a0)]) hx hb dX7_byDanger_49 hl (k := 2) rfl rfl (by decide) rfl (fun ls hl => ?_)
            refine lv_goto (tgt := 4) hx hb dX7_byDanger_52 (by decide) ?_
            exact hK4 _ _ _ _ _ _ hg hw (lv_sub hl [2, 1, 0] rfl)
          · have hg := it_neg hg c23
            refine lv_iload_n hx hb dX7_byDanger_43 rfl (lv_at hl 2 rfl) ?_
            refine lv_goto (tgt := 48) hx hb dX7_byDanger_44 (by decide) ?_
            refine lv_istore_n (lv' := [(1, .int v2), (0, .ref a0), (2, .int v2)]) hx hb dX7_byDanger_48 rfl hl (by decide) rfl (fun ls hl => ?_)
            refine lv_iinc (v := (v2 + (1 : Int32))) (lv' := [(2, .int (v2 + (1 : Int32))), (1, .int v2), (0, .ref a0)]) hx hb dX7_byDanger_49 hl (k := 2) rfl rfl (by decide) rfl (fun ls hl => ?_)
            refine lv_goto (tgt := 4) hx hb dX7_byDanger_52 (by decide) ?_
            exact hK4 _ _ _ _ _ _ hg hw (lv_sub hl [2, 1, 0] rfl)
  have L4 : ∀ (k : Nat) (S : Hp) (v1 : Int32) (v2 : Int32) (H : Heap) (locs : List Loc) (ls : Array Slot), f_X7_byDanger_l4 N a0 k S v1 v2 = some (r, S9) → Wd D C (va_A (wP C S0) z) s.heap S z H locs s → lv_has ls 3 [(0, .ref a0), (1, .int v1), (2, .int v2)] → W p l e rm_X7_byDanger s m ([.ref a0] : List Value).toArray below meth c H locs 0 0 (MQ below (QiW D C S0 z r S9 z) ([.ref a0] : List Value).toArray s 0 0 (va_A (wP C S0) z)) (F0 m 4 ls []) := by
    intro k
    induction k with
    | zero => intro S v1 v2 H locs ls hg hw hl; exact absurd (show (none : Option (Int32 × Hp)) = some (r, S9) from hg) (by simp)
    | succ k ih => intro S v1 v2 H locs ls hg hw hl; exact B4 (f_X7_byDanger_l4 N a0 k) ih S v1 v2 H locs ls hg hw hl
  have B0 : ∀ (S : Hp) (H : Heap) (locs : List Loc) (ls : Array Slot), f_X7_byDanger N S a0 = some (r, S9) → Wd D C (va_A (wP C S0) z) s.heap S z H locs s → lv_has ls 3 [(0, .ref a0)] → W p l e rm_X7_byDanger s m ([.ref a0] : List Value).toArray below meth c H locs 0 0 (MQ below (QiW D C S0 z r S9 z) ([.ref a0] : List Value).toArray s 0 0 (va_A (wP C S0) z)) (F0 m 0 ls []) := by
    intro S H locs ls hg hw hl
    unfold f_X7_byDanger at hg
    refine lv_iconst (v := (-1 : Int32)) hx hb dX7_byDanger_0 (by decide) ?_
    refine lv_istore_n (lv' := [(1, .int (-1 : Int32)), (0, .ref a0)]) hx hb dX7_byDanger_1 rfl hl (by decide) rfl (fun ls hl => ?_)
    refine lv_iconst (v := (0 : Int32)) hx hb dX7_byDanger_2 (by decide) ?_
    refine lv_istore_n (lv' := [(2, .int (0 : Int32)), (1, .int (-1 : Int32)), (0, .ref a0)]) hx hb dX7_byDanger_3 rfl hl (by decide) rfl (fun ls hl => ?_)
    exact L4 N _ _ _ _ _ _ hg hw (lv_sub hl [2, 1, 0] rfl)
  exact B0 S0 _ _ _ hg hw hl
theorem hi_X7_replyBy_X7 : ∀ w ∈ wsX70, w ∈ wsX7_replyBy := fun _ h => List.mem_cons_of_mem _ (List.mem_append_right _ (h))
abbrev rm_X7_replyBy : Room := { frames := 6, cells := 0, slots := 0, locals := 127 }
set_option maxHeartbeats 4000000 in
set_option maxRecDepth 100000 in
theorem c_X7_replyBy (l : Launch) (D : va_G) (C : C3) (N : Nat) (S0 : Hp) (z : Nat) (a0 : Nat) (x1 : Int32) (r : Int32) (S9 : Hp) (hg : f_X7_replyBy N S0 a0 x1 = some (r, S9)) : MetI l yX7_replyBy wsX7_replyBy rm_X7_replyBy D C S0 z [.ref a0, .int x1] r S9 z 0 0 := by
  refine mw_ofW (cc := cX7_replyBy) (maxL := 2) (ret := (some .int)) (lv := [(0, .ref a0), (1, .int x1)]) (by decide) rfl (Nat.le_of_ble_eq_true rfl) rfl ?_
  intro p e s m below meth c ls hx hb hr hts hown hlk hml hnm hl hw
  have hown : s.vm.findClass RX7 = some m.cls := hown
  have B56 : ∀ (S : Hp) (H : Heap) (locs : List Loc) (ls : Array Slot), f_X7_replyBy_b56 N a0 x1 S = some (r, S9) → Wd D C (va_A (wP C S0) z) s.heap S z H locs s → lv_has ls 2 [(0, .ref a0)] → W p l e rm_X7_replyBy s m ([.ref a0, .int x1] : List Value).toArray below meth c H locs 0 0 (MQ below (QiW D C S0 z r S9 z) ([.ref a0, .int x1] : List Value).toArray s 0 0 (va_A (wP C S0) z)) (F0 m 56 ls []) := by
    intro S H locs ls hg hw hl
    unfold f_X7_replyBy_b56 at hg
    refine lv_aload_n hx hb dX7_replyBy_56 rfl (lv_at hl 0 rfl) ?_
    obtain ⟨hok27, hg⟩ := gd_some hg
    obtain ⟨r28, S28, hc28, hg⟩ := cl_some hg
    refine wr_ci (va_runV (As := []) (rest := []) ⟨hx, hb, hml, hown, hts⟩ (c_X7_forced l D C N S z a0 r28 S28 hc28) (cwV 0 hts gX7_replyBy_X7_forced rfl rfl rfl (by decide +kernel) ⟨Nat.le_of_ble_eq_true rfl, Nat.le_of_ble_eq_true rfl⟩) (wd_preV hw hok27 (wF_7 (S := S) hok27.2) rfl) rfl rfl hl.1 rfl (lv_room (Nat.le_of_ble_eq_true rfl)) dX7_replyBy_57 ⟨Nat.zero_le _, Nat.zero_le _⟩) hw (fun H locs hw => ?_)
    refine lv_iconst (v := (-1 : Int32)) hx hb dX7_replyBy_60 (by decide) ?_
    refine lv_icmp_ne (tgt := 71) hx hb dX7_replyBy_61 (by decide) (fun c29 => ?_) (fun c29 => ?_)
    · have hg := it_neg hg c29
      refine lv_aload_n hx hb dX7_replyBy_71 rfl (lv_at hl 0 rfl) ?_
      obtain ⟨hok30, hg⟩ := gd_some hg
      obtain ⟨r31, S31, hc31, hg⟩ := cl_some hg
      refine wr_ci (va_runV (As := []) (rest := []) ⟨hx, hb, hml, hown, hts⟩ (c_X7_forced l D C N S28 z a0 r31 S31 hc31) (cwV 0 hts gX7_replyBy_X7_forced rfl rfl rfl (by decide +kernel) ⟨Nat.le_of_ble_eq_true rfl, Nat.le_of_ble_eq_true rfl⟩) (wd_preV hw hok30 (wF_7 (S := S28) hok30.2) rfl) rfl rfl hl.1 rfl (lv_room (Nat.le_of_ble_eq_true rfl)) dX7_replyBy_72 ⟨Nat.zero_le _, Nat.zero_le _⟩) hw (fun H locs hw => ?_)
      cases hg
      exact wr_iret hx hb hr hw dX7_replyBy_75 hlk
    · have hg := it_pos hg c29
      refine lv_aload_n hx hb dX7_replyBy_64 rfl (lv_at hl 0 rfl) ?_
      obtain ⟨hok32, hg⟩ := gd_some hg
      obtain ⟨r33, S33, hc33, hg⟩ := cl_some hg
      refine wr_ci (va_runV (As := []) (rest := []) ⟨hx, hb, hml, hown, hts⟩ (c_X7_byDanger l D C N S28 z a0 r33 S33 hc33) (cwV 0 hts gX7_replyBy_X7_byDanger rfl rfl rfl (by decide +kernel) ⟨Nat.le_of_ble_eq_true rfl, Nat.le_of_ble_eq_true rfl⟩) (wd_preV hw hok32 (wF_7 (S := S28) hok32.2) rfl) rfl rfl hl.1 rfl (lv_room (Nat.le_of_ble_eq_true rfl)) dX7_replyBy_65 ⟨Nat.zero_le _, Nat.zero_le _⟩) hw (fun H locs hw => ?_)
      refine lv_goto (tgt := 75) hx hb dX7_replyBy_68 (by decide) ?_
      cases hg
      exact wr_iret hx hb hr hw dX7_replyBy_75 hlk
  have B0 : ∀ (S : Hp) (H : Heap) (locs : List Loc) (ls : Array Slot), f_X7_replyBy N S a0 x1 = some (r, S9) → Wd D C (va_A (wP C S0) z) s.heap S z H locs s → lv_has ls 2 [(0, .ref a0), (1, .int x1)] → W p l e rm_X7_replyBy s m ([.ref a0, .int x1] : List Value).toArray below meth c H locs 0 0 (MQ below (QiW D C S0 z r S9 z) ([.ref a0, .int x1] : List Value).toArray s 0 0 (va_A (wP C S0) z)) (F0 m 0 ls []) := by
    intro S H locs ls hg hw hl
    unfold f_X7_replyBy at hg
    refine lv_aload_n hx hb dX7_replyBy_0 rfl (lv_at hl 0 rfl) ?_
    obtain ⟨hok10, hg⟩ := gd_some hg
    obtain ⟨r11, S11, hc11, hg⟩ := cl_some hg
    refine wr_ci (va_runV (As := []) (rest := []) ⟨hx, hb, hml, hown, hts⟩ (c_X7_winnerNow l D C N S z a0 r11 S11 hc11) (cwV 0 hts gX7_replyBy_X7_winnerNow rfl rfl rfl (by decide +kernel) ⟨Nat.le_of_ble_eq_true rfl, Nat.le_of_ble_eq_true rfl⟩) (wd_preV hw hok10 (wF_7 (S := S) hok10.2) rfl) rfl rfl hl.1 rfl (lv_room (Nat.le_of_ble_eq_true rfl)) dX7_replyBy_1 ⟨Nat.zero_le _, Nat.zero_le _⟩) hw (fun H locs hw => ?_)
    refine lv_if_le (tgt := 9) hx hb dX7_replyBy_4 (by decide) (fun c12 => ?_) (fun c12 => ?_)
    · have hg := it_pos hg c12
      refine lv_iload_n hx hb dX7_replyBy_9 rfl (lv_at hl 1 rfl) ?_
      refine lv_if_ne (tgt := 22) hx hb dX7_replyBy_10 (by decide) (fun c13 => ?_) (fun c13 => ?_)
      · have hg := it_neg hg c13
        refine lv_iload_n hx hb dX7_replyBy_22 rfl (lv_at hl 1 rfl) ?_
        refine lv_iconst (v := (3 : Int32)) hx hb dX7_replyBy_23 (by decide) ?_
        refine lv_icmp_ne (tgt := 32) hx hb dX7_replyBy_24 (by decide) (fun c14 => ?_) (fun c14 => ?_)
        · have hg := it_neg hg c14
          refine lv_iload_n hx hb dX7_replyBy_32 rfl (lv_at hl 1 rfl) ?_
          refine lv_iconst (v := (2 : Int32)) hx hb dX7_replyBy_33 (by decide) ?_
          refine lv_icmp_ne (tgt := 56) hx hb dX7_replyBy_34 (by decide) (fun c15 => ?_) (fun c15 => ?_)
          · have hg := it_neg hg c15
            exact B56 _ _ _ _ hg hw (lv_sub hl [0] rfl)
          · have hg := it_pos hg c15
            refine lv_aload_n hx hb dX7_replyBy_37 rfl (lv_at hl 0 rfl) ?_
            obtain ⟨hok16, hg⟩ := gd_some hg
            obtain ⟨r17, hr17, hg⟩ := nn_some hg
            refine wr_get (K := RX7) (T := TX7) (N := 20) (index := 7) (ref := "MakerLinesModel") (v := .ref r17) hx hb hts hi_X7_replyBy_X7 hown hw hok16 (wF_7 (S := S11) hok16.2) rfl 0 (by decide) (hts _ (List.mem_of_getElem? (i := 1) rfl)) (fun _ h9 => h9) (congrArg (fun o => some (va_rf o)) hr17) dX7_replyBy_38 ?_
            refine lv_bipush (v := (6 : Int32)) hx hb dX7_replyBy_41 (by decide) ?_
            obtain ⟨hok18, hg⟩ := gd_some hg
            obtain ⟨hin19, hg⟩ := gd_some hg
            refine wr_iald hx hb hw hok18 (inb_vp hin19) dX7_replyBy_43 ?_
            refine lv_iconst (v := (-1 : Int32)) hx hb dX7_replyBy_44 (by decide) ?_
            refine lv_icmp_eq (tgt := 56) hx hb dX7_replyBy_45 (by decide) (fun c20 => ?_) (fun c20 => ?_)
            · have hg := it_pos hg c20
              exact B56 _ _ _ _ hg hw (lv_sub hl [0] rfl)
            · have hg := it_neg hg c20
              refine lv_aload_n hx hb dX7_replyBy_48 rfl (lv_at hl 0 rfl) ?_
              refine wr_get (K := RX7) (T := TX7) (N := 20) (index := 7) (ref := "MakerLinesModel") (v := .ref r17) hx hb hts hi_X7_replyBy_X7 hown hw hok16 (wF_7 (S := S11) hok16.2) rfl 0 (by decide) (hts _ (List.mem_of_getElem? (i := 1) rfl)) (fun _ h9 => h9) (congrArg (fun o => some (va_rf o)) hr17) dX7_replyBy_49 ?_
              refine lv_bipush (v := (6 : Int32)) hx hb dX7_replyBy_52 (by decide) ?_
              refine wr_iald hx hb hw hok18 (inb_vp hin19) dX7_replyBy_54 ?_
              cases hg
              exact wr_iret hx hb hr hw dX7_replyBy_55 hlk
        · have hg := it_pos hg c14
          refine lv_aload_n hx hb dX7_replyBy_27 rfl (lv_at hl 0 rfl) ?_
          obtain ⟨hok21, hg⟩ := gd_some hg
          obtain ⟨r22, S22, hc22, hg⟩ := cl_some hg
          refine wr_ci (va_runV (As := []) (rest := []) ⟨hx, hb, hml, hown, hts⟩ (c_X7_bestMove l D C N S11 z a0 r22 S22 hc22) (cwV 0 hts gX7_replyBy_X7_bestMove rfl rfl rfl (by decide +kernel) ⟨Nat.le_of_ble_eq_true rfl, Nat.le_of_ble_eq_true rfl⟩) (wd_preV hw hok21 (wF_7 (S := S11) hok21.2) rfl) rfl rfl hl.1 rfl (lv_room (Nat.le_of_ble_eq_true rfl)) dX7_replyBy_28 ⟨Nat.zero_le _, Nat.zero_le _⟩) hw (fun H locs hw => ?_)
          cases hg
          exact wr_iret hx hb hr hw dX7_replyBy_31 hlk
      · have hg := it_pos hg c13
        refine lv_aload_n hx hb dX7_replyBy_13 rfl (lv_at hl 0 rfl) ?_
        refine lv_aload_n hx hb dX7_replyBy_14 rfl (lv_at hl 0 rfl) ?_
        obtain ⟨hok23, hg⟩ := gd_some hg
        obtain ⟨r24, S24, hc24, hg⟩ := cl_some hg
        refine wr_ci (va_runV (As := []) (rest := [.ref a0]) ⟨hx, hb, hml, hown, hts⟩ (c_X7_free l D C N S11 z a0 r24 S24 hc24) (cwV 0 hts gX7_replyBy_X7_free rfl rfl rfl (by decide +kernel) ⟨Nat.le_of_ble_eq_true rfl, Nat.le_of_ble_eq_true rfl⟩) (wd_preV hw hok23 (wF_7 (S := S11) hok23.2) rfl) rfl rfl hl.1 rfl (lv_room (Nat.le_of_ble_eq_true rfl)) dX7_replyBy_15 ⟨Nat.zero_le _, Nat.zero_le _⟩) hw (fun H locs hw => ?_)
        obtain ⟨hok25, hg⟩ := gd_some hg
        obtain ⟨r26, S26, hc26, hg⟩ := cl_some hg
        refine wr_ci (va_runV (As := [.int r24]) (rest := []) ⟨hx, hb, hml, hown, hts⟩ (c_X7_lowest l D C N S24 z a0 r24 r26 S26 hc26) (cwV 1 hts gX7_replyBy_X7_lowest rfl rfl rfl (by decide +kernel) ⟨Nat.le_of_ble_eq_true rfl, Nat.le_of_ble_eq_true rfl⟩) (wd_preV hw hok25 (wF_7 (S := S24) hok25.2) rfl) rfl rfl hl.1 rfl (lv_room (Nat.le_of_ble_eq_true rfl)) dX7_replyBy_18 ⟨Nat.zero_le _, Nat.zero_le _⟩) hw (fun H locs hw => ?_)
        cases hg
        exact wr_iret hx hb hr hw dX7_replyBy_21 hlk
    · have hg := it_neg hg c12
      refine lv_iconst (v := (-1 : Int32)) hx hb dX7_replyBy_7 (by decide) ?_
      cases hg
      exact wr_iret hx hb hr hw dX7_replyBy_8 hlk
  exact B0 S0 _ _ _ hg hw hl
theorem hi_X7_empties_X7 : ∀ w ∈ wsX70, w ∈ wsX7_empties := fun _ h => List.mem_cons_of_mem _ (List.mem_append_right _ (h))
abbrev rm_X7_empties : Room := { frames := 0, cells := 0, slots := 0, locals := 0 }
set_option maxHeartbeats 4000000 in
set_option maxRecDepth 100000 in
theorem c_X7_empties (l : Launch) (D : va_G) (C : C3) (N : Nat) (S0 : Hp) (z : Nat) (a0 : Nat) (x1 : Int32) (r : Unit) (S9 : Hp) (hg : f_X7_empties N S0 a0 x1 = some (r, S9)) : MetV l yX7_empties wsX7_empties rm_X7_empties D C S0 z [.ref a0, .int x1] r S9 z 0 0 := by
  refine mw_ofW (cc := cX7_empties) (maxL := 2) (ret := none) (lv := [(0, .ref a0), (1, .int x1)]) (by decide) rfl (Nat.le_of_ble_eq_true rfl) rfl ?_
  intro p e s m below meth c ls hx hb hr hts hown hlk hml hnm hl hw
  have hown : s.vm.findClass RX7 = some m.cls := hown
  have B0 : ∀ (S : Hp) (H : Heap) (locs : List Loc) (ls : Array Slot), f_X7_empties N S a0 x1 = some (r, S9) → Wd D C (va_A (wP C S0) z) s.heap S z H locs s → lv_has ls 2 [(0, .ref a0), (1, .int x1)] → W p l e rm_X7_empties s m ([.ref a0, .int x1] : List Value).toArray below meth c H locs 0 0 (MQ below (QvW D C S0 z r S9 z) ([.ref a0, .int x1] : List Value).toArray s 0 0 (va_A (wP C S0) z)) (F0 m 0 ls []) := by
    intro S H locs ls hg hw hl
    unfold f_X7_empties at hg
    refine lv_aload_n hx hb dX7_empties_0 rfl (lv_at hl 0 rfl) ?_
    obtain ⟨hok10, hg⟩ := gd_some hg
    obtain ⟨r11, hr11, hg⟩ := nn_some hg
    refine wr_get (K := RX7) (T := TX7) (N := 20) (index := 7) (ref := "MakerLinesModel") (v := .ref r11) hx hb hts hi_X7_empties_X7 hown hw hok10 (wF_7 (S := S) hok10.2) rfl 0 (by decide) (hts _ (List.mem_of_getElem? (i := 1) rfl)) (fun _ h9 => h9) (congrArg (fun o => some (va_rf o)) hr11) dX7_empties_1 ?_
    refine lv_iconst (v := (1 : Int32)) hx hb dX7_empties_4 (by decide) ?_
    refine lv_iload_n hx hb dX7_empties_5 rfl (lv_at hl 1 rfl) ?_
    obtain ⟨hok12, hg⟩ := gd_some hg
    obtain ⟨hin13, hg⟩ := gd_some hg
    refine wr_iast hx hb hw hok12 (inb_vp hin13) dX7_empties_6 (fun H locs hw => ?_)
    refine lv_aload_n hx hb dX7_empties_7 rfl (lv_at hl 0 rfl) ?_
    refine wr_get (K := RX7) (T := TX7) (N := 20) (index := 7) (ref := "MakerLinesModel") (v := .ref r11) hx hb hts hi_X7_empties_X7 hown hw hok10 (wF_7 (S := (sI S r11 (1 : Int32).toNatClampNeg x1)) hok10.2) rfl 0 (by decide) (hts _ (List.mem_of_getElem? (i := 1) rfl)) (fun _ h9 => h9) (congrArg (fun o => some (va_rf o)) hr11) dX7_empties_8 ?_
    refine lv_iconst (v := (3 : Int32)) hx hb dX7_empties_11 (by decide) ?_
    refine lv_iconst (v := (0 : Int32)) hx hb dX7_empties_12 (by decide) ?_
    obtain ⟨hin14, hg⟩ := gd_some hg
    refine wr_iast hx hb hw hok12 (inb_vp hin14) dX7_empties_13 (fun H locs hw => ?_)
    obtain ⟨S15, hS15, hg⟩ := bd_some hg
    rw [← hS15] at hw
    have hok16 : ok S15 a0 7 := by rw [hS15]; exact hok10
    have hr17 : hR S15 a0 0 = some r11 := by rw [hS15]; exact hr11
    have hok18 : ok S15 r11 8 := by rw [hS15]; exact hok12
    have hin19 : inb (1 : Int32) (hN S15 r11) := by rw [hS15]; exact hin13
    have hin20 : inb (3 : Int32) (hN S15 r11) := by rw [hS15]; exact hin14
    refine lv_aload_n hx hb dX7_empties_14 rfl (lv_at hl 0 rfl) ?_
    refine wr_get (K := RX7) (T := TX7) (N := 20) (index := 7) (ref := "MakerLinesModel") (v := .ref r11) hx hb hts hi_X7_empties_X7 hown hw hok16 (wF_7 (S := S15) hok16.2) rfl 0 (by decide) (hts _ (List.mem_of_getElem? (i := 1) rfl)) (fun _ h9 => h9) (congrArg (fun o => some (va_rf o)) hr17) dX7_empties_15 ?_
    refine lv_iconst (v := (4 : Int32)) hx hb dX7_empties_18 (by decide) ?_
    refine lv_iconst (v := (0 : Int32)) hx hb dX7_empties_19 (by decide) ?_
    obtain ⟨hin21, hg⟩ := gd_some hg
    refine wr_iast hx hb hw hok18 (inb_vp hin21) dX7_empties_20 (fun H locs hw => ?_)
    obtain ⟨S22, hS22, hg⟩ := bd_some hg
    rw [← hS22] at hw
    have hok23 : ok S22 a0 7 := by rw [hS22]; exact hok16
    have hr24 : hR S22 a0 0 = some r11 := by rw [hS22]; exact hr17
    have hok25 : ok S22 r11 8 := by rw [hS22]; exact hok18
    have hin26 : inb (1 : Int32) (hN S22 r11) := by rw [hS22]; exact hin19
    have hin27 : inb (3 : Int32) (hN S22 r11) := by rw [hS22]; exact hin20
    have hin28 : inb (4 : Int32) (hN S22 r11) := by rw [hS22]; exact hin21
    refine lv_aload_n hx hb dX7_empties_21 rfl (lv_at hl 0 rfl) ?_
    refine wr_get (K := RX7) (T := TX7) (N := 20) (index := 7) (ref := "MakerLinesModel") (v := .ref r11) hx hb hts hi_X7_empties_X7 hown hw hok23 (wF_7 (S := S22) hok23.2) rfl 0 (by decide) (hts _ (List.mem_of_getElem? (i := 1) rfl)) (fun _ h9 => h9) (congrArg (fun o => some (va_rf o)) hr24) dX7_empties_22 ?_
    refine lv_iconst (v := (5 : Int32)) hx hb dX7_empties_25 (by decide) ?_
    refine lv_iconst (v := (-1 : Int32)) hx hb dX7_empties_26 (by decide) ?_
    obtain ⟨hin29, hg⟩ := gd_some hg
    refine wr_iast hx hb hw hok25 (inb_vp hin29) dX7_empties_27 (fun H locs hw => ?_)
    obtain ⟨S30, hS30, hg⟩ := bd_some hg
    rw [← hS30] at hw
    have hok31 : ok S30 a0 7 := by rw [hS30]; exact hok23
    have hr32 : hR S30 a0 0 = some r11 := by rw [hS30]; exact hr24
    have hok33 : ok S30 r11 8 := by rw [hS30]; exact hok25
    have hin34 : inb (1 : Int32) (hN S30 r11) := by rw [hS30]; exact hin26
    have hin35 : inb (3 : Int32) (hN S30 r11) := by rw [hS30]; exact hin27
    have hin36 : inb (4 : Int32) (hN S30 r11) := by rw [hS30]; exact hin28
    have hin37 : inb (5 : Int32) (hN S30 r11) := by rw [hS30]; exact hin29
    refine lv_aload_n hx hb dX7_empties_28 rfl (lv_at hl 0 rfl) ?_
    refine wr_get (K := RX7) (T := TX7) (N := 20) (index := 7) (ref := "MakerLinesModel") (v := .ref r11) hx hb hts hi_X7_empties_X7 hown hw hok31 (wF_7 (S := S30) hok31.2) rfl 0 (by decide) (hts _ (List.mem_of_getElem? (i := 1) rfl)) (fun _ h9 => h9) (congrArg (fun o => some (va_rf o)) hr32) dX7_empties_29 ?_
    refine lv_bipush (v := (6 : Int32)) hx hb dX7_empties_32 (by decide) ?_
    refine lv_iconst (v := (-1 : Int32)) hx hb dX7_empties_34 (by decide) ?_
    obtain ⟨hin38, hg⟩ := gd_some hg
    refine wr_iast hx hb hw hok33 (inb_vp hin38) dX7_empties_35 (fun H locs hw => ?_)
    obtain ⟨S39, hS39, hg⟩ := bd_some hg
    rw [← hS39] at hw
    have hok40 : ok S39 a0 7 := by rw [hS39]; exact hok31
    have hr41 : hR S39 a0 0 = some r11 := by rw [hS39]; exact hr32
    have hok42 : ok S39 r11 8 := by rw [hS39]; exact hok33
    have hin43 : inb (1 : Int32) (hN S39 r11) := by rw [hS39]; exact hin34
    have hin44 : inb (3 : Int32) (hN S39 r11) := by rw [hS39]; exact hin35
    have hin45 : inb (4 : Int32) (hN S39 r11) := by rw [hS39]; exact hin36
    have hin46 : inb (5 : Int32) (hN S39 r11) := by rw [hS39]; exact hin37
    have hin47 : inb (6 : Int32) (hN S39 r11) := by rw [hS39]; exact hin38
    cases hg
    exact wr_vret hx hb hr hw dX7_empties_36 hlk
  exact B0 S0 _ _ _ hg hw hl
theorem hi_X7_begin_X7 : ∀ w ∈ wsX70, w ∈ wsX7_begin := fun _ h => List.mem_cons_of_mem _ (List.mem_append_right _ (h))
abbrev rm_X7_begin : Room := { frames := 1, cells := 0, slots := 0, locals := 22 }
set_option maxHeartbeats 4000000 in
set_option maxRecDepth 100000 in
theorem c_X7_begin (l : Launch) (D : va_G) (C : C3) (N : Nat) (S0 : Hp) (z : Nat) (a0 : Nat) (x1 : Int32) (r : Int32) (S9 : Hp) (hg : f_X7_begin N S0 a0 x1 = some (r, S9)) : MetI l yX7_begin wsX7_begin rm_X7_begin D C S0 z [.ref a0, .int x1] r S9 z 0 0 := by
  refine mw_ofW (cc := cX7_begin) (maxL := 3) (ret := (some .int)) (lv := [(0, .ref a0), (1, .int x1)]) (by decide) rfl (Nat.le_of_ble_eq_true rfl) rfl ?_
  intro p e s m below meth c ls hx hb hr hts hown hlk hml hnm hl hw
  have hown : s.vm.findClass RX7 = some m.cls := hown
  have B16 : ∀ (S : Hp) (s0 : Int32) (s1 : Nat) (H : Heap) (locs : List Loc) (ls : Array Slot), f_X7_begin_b16 N a0 x1 S s0 s1 = some (r, S9) → Wd D C (va_A (wP C S0) z) s.heap S z H locs s → lv_has ls 3 [(0, .ref a0), (1, .int x1)] → W p l e rm_X7_begin s m ([.ref a0, .int x1] : List Value).toArray below meth c H locs 0 0 (MQ below (QiW D C S0 z r S9 z) ([.ref a0, .int x1] : List Value).toArray s 0 0 (va_A (wP C S0) z)) (F0 m 16 ls [.int s0, .ref s1]) := by
    intro S s0 s1 H locs ls hg hw hl
    unfold f_X7_begin_b16 at hg
    obtain ⟨hok12, hg⟩ := gd_some hg
    refine wr_put (K := RX7) (T := TX7) (N := 20) (index := 50) (ref := "MakerLinesModel") (ty := (.int)) (S1 := (sI S s1 7 s0)) hx hb hts hi_X7_begin_X7 tyX7 tyX7_ok nmX7 hown hw hok12 (wF_7 (S := S) hok12.2) rfl (fun b hb9 => wF_sI_ne hb9) 7 (wq_7_7 (S := S) hok12.2 _) rfl (by decide) (hts _ (List.mem_of_getElem? (i := 1) rfl)) (fun _ h9 => h9) rfl (by decide +kernel) rfl rfl (Nat.le_of_ble_eq_true rfl) dX7_begin_16 (fun H locs hw => ?_)
    refine lv_aload_n hx hb dX7_begin_19 rfl (lv_at hl 0 rfl) ?_
    obtain ⟨hok13, hg⟩ := gd_some hg
    refine wr_get (K := RX7) (T := TX7) (N := 20) (index := 50) (ref := "MakerLinesModel") (v := .int (hI ((sI S s1 7 s0)) a0 7)) hx hb hts hi_X7_begin_X7 hown hw hok13 (wF_7 (S := (sI S s1 7 s0)) hok13.2) rfl 7 (by decide) (hts _ (List.mem_of_getElem? (i := 1) rfl)) (fun _ h9 => h9) rfl dX7_begin_20 ?_
    refine lv_if_le (tgt := 28) hx hb dX7_begin_23 (by decide) (fun c14 => ?_) (fun c14 => ?_)
    · have hg := it_pos hg c14
      refine lv_aload_n hx hb dX7_begin_28 rfl (lv_at hl 0 rfl) ?_
      obtain ⟨⟨⟩, S15, hc15, hg⟩ := cl_some hg
      refine wr_cv (va_runV (As := []) (rest := []) ⟨hx, hb, hml, hown, hts⟩ (c_X7_save l D C N ((sI S s1 7 s0)) z a0 () S15 hc15) (cwV 0 hts gX7_begin_X7_save rfl rfl rfl (by decide +kernel) ⟨Nat.le_of_ble_eq_true rfl, Nat.le_of_ble_eq_true rfl⟩) (wd_preV hw hok13 (wF_7 (S := (sI S s1 7 s0)) hok13.2) rfl) rfl rfl hl.1 rfl (lv_room (Nat.le_of_ble_eq_true rfl)) dX7_begin_29 ⟨Nat.zero_le _, Nat.zero_le _⟩) hw (fun H locs hw => ?_)
      refine lv_aload_n hx hb dX7_begin_32 rfl (lv_at hl 0 rfl) ?_
      obtain ⟨hok16, hg⟩ := gd_some hg
      obtain ⟨r17, hr17, hg⟩ := nn_some hg
      refine wr_get (K := RX7) (T := TX7) (N := 20) (index := 7) (ref := "MakerLinesModel") (v := .ref r17) hx hb hts hi_X7_begin_X7 hown hw hok16 (wF_7 (S := S15) hok16.2) rfl 0 (by decide) (hts _ (List.mem_of_getElem? (i := 2) rfl)) (fun _ h9 => h9) (congrArg (fun o => some (va_rf o)) hr17) dX7_begin_33 ?_
      refine lv_iconst (v := (0 : Int32)) hx hb dX7_begin_36 (by decide) ?_
      obtain ⟨hok18, hg⟩ := gd_some hg
      obtain ⟨hin19, hg⟩ := gd_some hg
      refine wr_iald hx hb hw hok18 (inb_vp hin19) dX7_begin_37 ?_
      obtain ⟨e20, he20, hg⟩ := bd_some hg
      refine lv_istore_n (lv' := [(2, .int e20), (0, .ref a0), (1, .int x1)]) hx hb dX7_begin_38 rfl hl (by decide) (by rw [he20]; rfl) (fun ls hl => ?_)
      refine lv_aload_n hx hb dX7_begin_39 rfl (lv_at hl 1 rfl) ?_
      refine wr_get (K := RX7) (T := TX7) (N := 20) (index := 7) (ref := "MakerLinesModel") (v := .ref r17) hx hb hts hi_X7_begin_X7 hown hw hok16 (wF_7 (S := S15) hok16.2) rfl 0 (by decide) (hts _ (List.mem_of_getElem? (i := 2) rfl)) (fun _ h9 => h9) (congrArg (fun o => some (va_rf o)) hr17) dX7_begin_40 ?_
      refine lv_iconst (v := (0 : Int32)) hx hb dX7_begin_43 (by decide) ?_
      refine lv_iload_n hx hb dX7_begin_44 rfl (lv_at hl 2 rfl) ?_
      refine wr_iast hx hb hw hok18 (inb_vp hin19) dX7_begin_45 (fun H locs hw => ?_)
      refine lv_aload_n hx hb dX7_begin_46 rfl (lv_at hl 1 rfl) ?_
      refine wr_get (K := RX7) (T := TX7) (N := 20) (index := 7) (ref := "MakerLinesModel") (v := .ref r17) hx hb hts hi_X7_begin_X7 hown hw hok16 (wF_7 (S := (sI S15 r17 (0 : Int32).toNatClampNeg x1)) hok16.2) rfl 0 (by decide) (hts _ (List.mem_of_getElem? (i := 2) rfl)) (fun _ h9 => h9) (congrArg (fun o => some (va_rf o)) hr17) dX7_begin_47 ?_
      refine lv_iconst (v := (2 : Int32)) hx hb dX7_begin_50 (by decide) ?_
      refine lv_iconst (v := (0 : Int32)) hx hb dX7_begin_51 (by decide) ?_
      obtain ⟨hin21, hg⟩ := gd_some hg
      refine wr_iast hx hb hw hok18 (inb_vp hin21) dX7_begin_52 (fun H locs hw => ?_)
      obtain ⟨S22, hS22, hg⟩ := bd_some hg
      rw [← hS22] at hw
      have hok23 : ok S22 a0 7 := by rw [hS22]; exact hok16
      have hr24 : hR S22 a0 0 = some r17 := by rw [hS22]; exact hr17
      have hok25 : ok S22 r17 8 := by rw [hS22]; exact hok18
      have hin26 : inb (0 : Int32) (hN S22 r17) := by rw [hS22]; exact hin19
      have hin27 : inb (2 : Int32) (hN S22 r17) := by rw [hS22]; exact hin21
      refine lv_aload_n hx hb dX7_begin_53 rfl (lv_at hl 1 rfl) ?_
      refine lv_iconst (v := (1 : Int32)) hx hb dX7_begin_54 (by decide) ?_
      obtain ⟨⟨⟩, S28, hc28, hg⟩ := cl_some hg
      refine wr_cv (va_runV (As := [.int (1 : Int32)]) (rest := []) ⟨hx, hb, hml, hown, hts⟩ (c_X7_empties l D C N S22 z a0 ((1 : Int32)) () S28 hc28) (cwV 1 hts gX7_begin_X7_empties rfl rfl rfl (by decide +kernel) ⟨Nat.le_of_ble_eq_true rfl, Nat.le_of_ble_eq_true rfl⟩) (wd_preV hw hok23 (wF_7 (S := S22) hok23.2) rfl) rfl rfl hl.1 rfl (lv_room (Nat.le_of_ble_eq_true rfl)) dX7_begin_55 ⟨Nat.zero_le _, Nat.zero_le _⟩) hw (fun H locs hw => ?_)
      refine lv_iload_n hx hb dX7_begin_58 rfl (lv_at hl 0 rfl) ?_
      cases hg
      exact wr_iret hx hb hr hw dX7_begin_59 hlk
    · have hg := it_neg hg c14
      refine lv_iconst (v := (0 : Int32)) hx hb dX7_begin_26 (by decide) ?_
      cases hg
      exact wr_iret hx hb hr hw dX7_begin_27 hlk
  have B0 : ∀ (S : Hp) (H : Heap) (locs : List Loc) (ls : Array Slot), f_X7_begin N S a0 x1 = some (r, S9) → Wd D C (va_A (wP C S0) z) s.heap S z H locs s → lv_has ls 3 [(0, .ref a0), (1, .int x1)] → W p l e rm_X7_begin s m ([.ref a0, .int x1] : List Value).toArray below meth c H locs 0 0 (MQ below (QiW D C S0 z r S9 z) ([.ref a0, .int x1] : List Value).toArray s 0 0 (va_A (wP C S0) z)) (F0 m 0 ls []) := by
    intro S H locs ls hg hw hl
    unfold f_X7_begin at hg
    refine lv_aload_n hx hb dX7_begin_0 rfl (lv_at hl 0 rfl) ?_
    refine lv_iload_n hx hb dX7_begin_1 rfl (lv_at hl 1 rfl) ?_
    refine lv_iconst (v := (2 : Int32)) hx hb dX7_begin_2 (by decide) ?_
    refine lv_bipush (v := (10 : Int32)) hx hb dX7_begin_3 (by decide) ?_
    obtain ⟨r10, S10, hc10, hg⟩ := cl_some hg
    refine wr_ci (va_runS (As := [.int x1, .int (2 : Int32), .int (10 : Int32)]) (rest := [.ref a0]) ⟨hx, hb, hml, hown, hts⟩ (c_X7_within l D C N S z x1 ((2 : Int32)) ((10 : Int32)) r10 S10 hc10) (va_cwS 3 hts gX7_begin_X7_within rfl rfl rfl (by decide +kernel) ⟨Nat.le_of_ble_eq_true rfl, Nat.le_of_ble_eq_true rfl⟩) (wd_preS hw) rfl rfl hl.1 rfl (lv_room (Nat.le_of_ble_eq_true rfl)) dX7_begin_5 ⟨Nat.zero_le _, Nat.zero_le _⟩) hw (fun H locs hw => ?_)
    refine lv_if_eq (tgt := 15) hx hb dX7_begin_8 (by decide) (fun c11 => ?_) (fun c11 => ?_)
    · have hg := it_pos hg c11
      refine lv_iconst (v := (1 : Int32)) hx hb dX7_begin_15 (by decide) ?_
      exact B16 _ _ _ _ _ _ hg hw (lv_sub hl [0, 1] rfl)
    · have hg := it_neg hg c11
      refine lv_iconst (v := (0 : Int32)) hx hb dX7_begin_11 (by decide) ?_
      refine lv_goto (tgt := 16) hx hb dX7_begin_12 (by decide) ?_
      exact B16 _ _ _ _ _ _ hg hw (lv_sub hl [0, 1] rfl)
  exact B0 S0 _ _ _ hg hw hl
