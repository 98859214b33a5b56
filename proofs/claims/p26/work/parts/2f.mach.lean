abbrev rm_L_pairing : Room := { frames := 1, cells := 0, slots := 0, locals := 20 }
set_option maxHeartbeats 4000000 in
set_option maxRecDepth 100000 in
theorem c_L_pairing (l : Launch) (D : va_G) (C : C3) (N : Nat) (S0 : Hp) (z : Nat) (a0 : Nat) (a1 : Nat) (a2 : Nat) (r : Int32) (S9 : Hp) (hg : f_L_pairing N S0 a0 a1 a2 = some (r, S9)) : MetI l yL_pairing wsL_pairing rm_L_pairing D C S0 z [.ref a0, .ref a1, .ref a2] r S9 z 0 0 := by
  refine mw_ofW (cc := cL_pairing) (maxL := 11) (ret := (some .boolean)) (lv := [(0, .ref a0), (1, .ref a1), (2, .ref a2)]) (by decide) rfl (Nat.le_of_ble_eq_true rfl) rfl ?_
  intro p e s m below meth c ls hx hb hr hts hown hlk hml hnm hl hw
  have hown : s.vm.findClass RL = some m.cls := hown
  have B356 : ∀ (K2 : Hp → Int32 → Option (Int32 × Hp)) (hK2 : ∀ (S : Hp) (v3 : Int32) (H : Heap) (locs : List Loc) (ls : Array Slot), K2 S v3 = some (r, S9) → Wd D C (va_A (wP C S0) z) s.heap S z H locs s → lv_has ls 11 [(0, .ref a0), (1, .ref a1), (2, .ref a2), (3, .int v3)] → W p l e rm_L_pairing s m ([.ref a0, .ref a1, .ref a2] : List Value).toArray below meth c H locs 0 0 (MQ below (QiW D C S0 z r S9 z) ([.ref a0, .ref a1, .ref a2] : List Value).toArray s 0 0 (va_A (wP C S0) z)) (F0 m 2 ls [])) (S : Hp) (v3 : Int32) (v4 : Int32) (H : Heap) (locs : List Loc) (ls : Array Slot), f_L_pairing_b356 N a0 a1 a2 K2 S v3 v4 = some (r, S9) → Wd D C (va_A (wP C S0) z) s.heap S z H locs s → lv_has ls 11 [(0, .ref a0), (1, .ref a1), (2, .ref a2), (3, .int v3), (4, .int v4)] → W p l e rm_L_pairing s m ([.ref a0, .ref a1, .ref a2] : List Value).toArray below meth c H locs 0 0 (MQ below (QiW D C S0 z r S9 z) ([.ref a0, .ref a1, .ref a2] : List Value).toArray s 0 0 (va_A (wP C S0) z)) (F0 m 356 ls []) := by
    intro K2 hK2 S v3 v4 H locs ls hg hw hl
    unfold f_L_pairing_b356 at hg
    refine lv_iload hx hb dL_pairing_356 (lv_at hl 4 rfl) ?_
    refine lv_if_eq (tgt := 363) hx hb dL_pairing_358 (by decide) (fun c22 => ?_) (fun c22 => ?_)
    · have hg := it_pos hg c22
      refine lv_iinc (v := (v3 + (1 : Int32))) (lv' := [(3, .int (v3 + (1 : Int32))), (0, .ref a0), (1, .ref a1), (2, .ref a2), (4, .int v4)]) hx hb dL_pairing_363 hl (k := 3) rfl rfl (by decide) rfl (fun ls hl => ?_)
      refine lv_goto (tgt := 2) hx hb dL_pairing_366 (by decide) ?_
      exact hK2 _ _ _ _ _ hg hw (lv_sub hl [1, 2, 3, 0] rfl)
    · have hg := it_neg hg c22
      refine lv_iconst (v := (1 : Int32)) hx hb dL_pairing_361 (by decide) ?_
      cases hg
      exact wr_zret hx hb hr (by decide) hw dL_pairing_362 hlk
  have B331 : ∀ (K2 : Hp → Int32 → Option (Int32 × Hp)) (hK2 : ∀ (S : Hp) (v3 : Int32) (H : Heap) (locs : List Loc) (ls : Array Slot), K2 S v3 = some (r, S9) → Wd D C (va_A (wP C S0) z) s.heap S z H locs s → lv_has ls 11 [(0, .ref a0), (1, .ref a1), (2, .ref a2), (3, .int v3)] → W p l e rm_L_pairing s m ([.ref a0, .ref a1, .ref a2] : List Value).toArray below meth c H locs 0 0 (MQ below (QiW D C S0 z r S9 z) ([.ref a0, .ref a1, .ref a2] : List Value).toArray s 0 0 (va_A (wP C S0) z)) (F0 m 2 ls [])) (K38 : Hp → Int32 → Int32 → Int32 → Int32 → Option (Int32 × Hp)) (hK38 : ∀ (S : Hp) (v3 : Int32) (v4 : Int32) (v5 : Int32) (v6 : Int32) (H : Heap) (locs : List Loc) (ls : Array Slot), K38 S v3 v4 v5 v6 = some (r, S9) → Wd D C (va_A (wP C S0) z) s.heap S z H locs s → lv_has ls 11 [(0, .ref a0), (1, .ref a1), (2, .ref a2), (3, .int v3), (4, .int v4), (5, .int v5), (6, .int v6)] → W p l e rm_L_pairing s m ([.ref a0, .ref a1, .ref a2] : List Value).toArray below meth c H locs 0 0 (MQ below (QiW D C S0 z r S9 z) ([.ref a0, .ref a1, .ref a2] : List Value).toArray s 0 0 (va_A (wP C S0) z)) (F0 m 38 ls [])) (S : Hp) (v3 : Int32) (v5 : Int32) (v6 : Int32) (v9 : Int32) (v10 : Int32) (s0 : Int32) (H : Heap) (locs : List Loc) (ls : Array Slot), f_L_pairing_b331 N a0 a1 a2 K2 K38 S v3 v5 v6 v9 v10 s0 = some (r, S9) → Wd D C (va_A (wP C S0) z) s.heap S z H locs s → lv_has ls 11 [(0, .ref a0), (1, .ref a1), (2, .ref a2), (3, .int v3), (5, .int v5), (6, .int v6), (9, .int v9), (10, .int v10)] → W p l e rm_L_pairing s m ([.ref a0, .ref a1, .ref a2] : List Value).toArray below meth c H locs 0 0 (MQ below (QiW D C S0 z r S9 z) ([.ref a0, .ref a1, .ref a2] : List Value).toArray s 0 0 (va_A (wP C S0) z)) (F0 m 331 ls [.int s0]) := by
    intro K2 hK2 K38 hK38 S v3 v5 v6 v9 v10 s0 H locs ls hg hw hl
    unfold f_L_pairing_b331 at hg
    refine lv_istore (lv' := [(4, .int s0), (0, .ref a0), (1, .ref a1), (2, .ref a2), (3, .int v3), (5, .int v5), (6, .int v6), (9, .int v9), (10, .int v10)]) hx hb dL_pairing_331 hl (by decide) rfl (fun ls hl => ?_)
    refine lv_iload hx hb dL_pairing_333 (lv_at hl 0 rfl) ?_
    refine lv_if_eq (tgt := 350) hx hb dL_pairing_335 (by decide) (fun c61 => ?_) (fun c61 => ?_)
    · have hg := it_pos hg c61
      refine lv_iinc (v := (v6 + (1 : Int32))) (lv' := [(6, .int (v6 + (1 : Int32))), (4, .int s0), (0, .ref a0), (1, .ref a1), (2, .ref a2), (3, .int v3), (5, .int v5), (9, .int v9), (10, .int v10)]) hx hb dL_pairing_350 hl (k := 6) rfl rfl (by decide) rfl (fun ls hl => ?_)
      refine lv_goto (tgt := 38) hx hb dL_pairing_353 (by decide) ?_
      exact hK38 _ _ _ _ _ _ _ _ hg hw (lv_sub hl [2, 3, 4, 5, 1, 6, 0] rfl)
    · have hg := it_neg hg c61
      refine lv_aload_n hx hb dL_pairing_338 rfl (lv_at hl 3 rfl) ?_
      refine lv_iload hx hb dL_pairing_339 (lv_at hl 7 rfl) ?_
      refine lv_iload hx hb dL_pairing_341 (lv_at hl 8 rfl) ?_
      obtain ⟨hok62, hg⟩ := gd_some hg
      obtain ⟨hin63, hg⟩ := gd_some hg
      refine wr_iast hx hb hw hok62 (inb_vp hin63) dL_pairing_343 (fun H locs hw => ?_)
      refine lv_aload_n hx hb dL_pairing_344 rfl (lv_at hl 3 rfl) ?_
      refine lv_iload hx hb dL_pairing_345 (lv_at hl 8 rfl) ?_
      refine lv_iload hx hb dL_pairing_347 (lv_at hl 7 rfl) ?_
      obtain ⟨hin64, hg⟩ := gd_some hg
      refine wr_iast hx hb hw hok62 (inb_vp hin64) dL_pairing_349 (fun H locs hw => ?_)
      obtain ⟨S65, hS65, hg⟩ := bd_some hg
      rw [← hS65] at hw
      refine lv_iinc (v := (v6 + (1 : Int32))) (lv' := [(6, .int (v6 + (1 : Int32))), (4, .int s0), (0, .ref a0), (1, .ref a1), (2, .ref a2), (3, .int v3), (5, .int v5), (9, .int v9), (10, .int v10)]) hx hb dL_pairing_350 hl (k := 6) rfl rfl (by decide) rfl (fun ls hl => ?_)
      refine lv_goto (tgt := 38) hx hb dL_pairing_353 (by decide) ?_
      exact hK38 _ _ _ _ _ _ _ _ hg hw (lv_sub hl [2, 3, 4, 5, 1, 6, 0] rfl)
  have B330 : ∀ (K2 : Hp → Int32 → Option (Int32 × Hp)) (hK2 : ∀ (S : Hp) (v3 : Int32) (H : Heap) (locs : List Loc) (ls : Array Slot), K2 S v3 = some (r, S9) → Wd D C (va_A (wP C S0) z) s.heap S z H locs s → lv_has ls 11 [(0, .ref a0), (1, .ref a1), (2, .ref a2), (3, .int v3)] → W p l e rm_L_pairing s m ([.ref a0, .ref a1, .ref a2] : List Value).toArray below meth c H locs 0 0 (MQ below (QiW D C S0 z r S9 z) ([.ref a0, .ref a1, .ref a2] : List Value).toArray s 0 0 (va_A (wP C S0) z)) (F0 m 2 ls [])) (K38 : Hp → Int32 → Int32 → Int32 → Int32 → Option (Int32 × Hp)) (hK38 : ∀ (S : Hp) (v3 : Int32) (v4 : Int32) (v5 : Int32) (v6 : Int32) (H : Heap) (locs : List Loc) (ls : Array Slot), K38 S v3 v4 v5 v6 = some (r, S9) → Wd D C (va_A (wP C S0) z) s.heap S z H locs s → lv_has ls 11 [(0, .ref a0), (1, .ref a1), (2, .ref a2), (3, .int v3), (4, .int v4), (5, .int v5), (6, .int v6)] → W p l e rm_L_pairing s m ([.ref a0, .ref a1, .ref a2] : List Value).toArray below meth c H locs 0 0 (MQ below (QiW D C S0 z r S9 z) ([.ref a0, .ref a1, .ref a2] : List Value).toArray s 0 0 (va_A (wP C S0) z)) (F0 m 38 ls [])) (S : Hp) (v3 : Int32) (v5 : Int32) (v6 : Int32) (v9 : Int32) (v10 : Int32) (H : Heap) (locs : List Loc) (ls : Array Slot), f_L_pairing_b330 N a0 a1 a2 K2 K38 S v3 v5 v6 v9 v10 = some (r, S9) → Wd D C (va_A (wP C S0) z) s.heap S z H locs s → lv_has ls 11 [(0, .ref a0), (1, .ref a1), (2, .ref a2), (3, .int v3), (5, .int v5), (6, .int v6), (9, .int v9), (10, .int v10)] → W p l e rm_L_pairing s m ([.ref a0, .ref a1, .ref a2] : List Value).toArray below meth c H locs 0 0 (MQ below (QiW D C S0 z r S9 z) ([.ref a0, .ref a1, .ref a2] : List Value).toArray s 0 0 (va_A (wP C S0) z)) (F0 m 330 ls []) := by
    intro K2 hK2 K38 hK38 S v3 v5 v6 v9 v10 H locs ls hg hw hl
    unfold f_L_pairing_b330 at hg
    refine lv_iconst (v := (0 : Int32)) hx hb dL_pairing_330 (by decide) ?_
    exact B331 K2 hK2 K38 hK38 _ _ _ _ _ _ _ _ _ _ hg hw (lv_sub hl [0, 1, 2, 3, 4, 5, 6, 7] rfl)
  have B269 : ∀ (K2 : Hp → Int32 → Option (Int32 × Hp)) (hK2 : ∀ (S : Hp) (v3 : Int32) (H : Heap) (locs : List Loc) (ls : Array Slot), K2 S v3 = some (r, S9) → Wd D C (va_A (wP C S0) z) s.heap S z H locs s → lv_has ls 11 [(0, .ref a0), (1, .ref a1), (2, .ref a2), (3, .int v3)] → W p l e rm_L_pairing s m ([.ref a0, .ref a1, .ref a2] : List Value).toArray below meth c H locs 0 0 (MQ below (QiW D C S0 z r S9 z) ([.ref a0, .ref a1, .ref a2] : List Value).toArray s 0 0 (va_A (wP C S0) z)) (F0 m 2 ls [])) (K38 : Hp → Int32 → Int32 → Int32 → Int32 → Option (Int32 × Hp)) (hK38 : ∀ (S : Hp) (v3 : Int32) (v4 : Int32) (v5 : Int32) (v6 : Int32) (H : Heap) (locs : List Loc) (ls : Array Slot), K38 S v3 v4 v5 v6 = some (r, S9) → Wd D C (va_A (wP C S0) z) s.heap S z H locs s → lv_has ls 11 [(0, .ref a0), (1, .ref a1), (2, .ref a2), (3, .int v3), (4, .int v4), (5, .int v5), (6, .int v6)] → W p l e rm_L_pairing s m ([.ref a0, .ref a1, .ref a2] : List Value).toArray below meth c H locs 0 0 (MQ below (QiW D C S0 z r S9 z) ([.ref a0, .ref a1, .ref a2] : List Value).toArray s 0 0 (va_A (wP C S0) z)) (F0 m 38 ls [])) (S : Hp) (v3 : Int32) (v5 : Int32) (v6 : Int32) (v7 : Int32) (v9 : Int32) (s0 : Int32) (H : Heap) (locs : List Loc) (ls : Array Slot), f_L_pairing_b269 N a0 a1 a2 K2 K38 S v3 v5 v6 v7 v9 s0 = some (r, S9) → Wd D C (va_A (wP C S0) z) s.heap S z H locs s → lv_has ls 11 [(0, .ref a0), (1, .ref a1), (2, .ref a2), (3, .int v3), (5, .int v5), (6, .int v6), (7, .int v7), (9, .int v9)] → W p l e rm_L_pairing s m ([.ref a0, .ref a1, .ref a2] : List Value).toArray below meth c H locs 0 0 (MQ below (QiW D C S0 z r S9 z) ([.ref a0, .ref a1, .ref a2] : List Value).toArray s 0 0 (va_A (wP C S0) z)) (F0 m 269 ls [.int s0]) := by
    intro K2 hK2 K38 hK38 S v3 v5 v6 v7 v9 s0 H locs ls hg hw hl
    unfold f_L_pairing_b269 at hg
    refine lv_istore (lv' := [(10, .int s0), (0, .ref a0), (1, .ref a1), (2, .ref a2), (3, .int v3), (5, .int v5), (6, .int v6), (7, .int v7), (9, .int v9)]) hx hb dL_pairing_269 hl (by decide) rfl (fun ls hl => ?_)
    refine lv_iload hx hb dL_pairing_271 (lv_at hl 7 rfl) ?_
    refine lv_bipush (v := (10 : Int32)) hx hb dL_pairing_273 (by decide) ?_
    refine lv_icmp_ge (tgt := 330) hx hb dL_pairing_275 (by decide) (fun c47 => ?_) (fun c47 => ?_)
    · have hg := it_pos hg c47
      exact B330 K2 hK2 K38 hK38 _ _ _ _ _ _ _ _ _ hg hw (lv_sub hl [1, 2, 3, 4, 5, 6, 8, 0] rfl)
    · have hg := it_neg hg c47
      refine lv_aload_n hx hb dL_pairing_278 rfl (lv_at hl 2 rfl) ?_
      refine lv_iload hx hb dL_pairing_279 (lv_at hl 6 rfl) ?_
      obtain ⟨hok48, hg⟩ := gd_some hg
      obtain ⟨hin49, hg⟩ := gd_some hg
      refine wr_iald hx hb hw hok48 (inb_vp hin49) dL_pairing_281 ?_
      refine lv_aload_n hx hb dL_pairing_282 rfl (lv_at hl 1 rfl) ?_
      obtain ⟨r50, S50, hc50, hg⟩ := cl_some hg
      refine wr_ci (va_runS (As := [.ref a0]) (rest := [.int (hI S a1 v6.toNatClampNeg)]) ⟨hx, hb, hml, hown, hts⟩ (c_L_free l D C N S z a0 r50 S50 hc50) (va_cwS 1 hts gL_pairing_L_free rfl rfl rfl (by decide +kernel) ⟨Nat.le_of_ble_eq_true rfl, Nat.le_of_ble_eq_true rfl⟩) (wd_preS hw) rfl rfl hl.1 rfl (lv_room (Nat.le_of_ble_eq_true rfl)) dL_pairing_283 ⟨Nat.zero_le _, Nat.zero_le _⟩) hw (fun H locs hw => ?_)
      refine lv_iand hx hb dL_pairing_286 ?_
      refine lv_iconst (v := (1 : Int32)) hx hb dL_pairing_287 (by decide) ?_
      refine lv_iload hx hb dL_pairing_288 (lv_at hl 8 rfl) ?_
      refine lv_ishl hx hb dL_pairing_290 ?_
      refine lv_iand hx hb dL_pairing_291 ?_
      refine lv_if_eq (tgt := 330) hx hb dL_pairing_292 (by decide) (fun c51 => ?_) (fun c51 => ?_)
      · have hg := it_pos hg c51
        exact B330 K2 hK2 K38 hK38 _ _ _ _ _ _ _ _ _ hg hw (lv_sub hl [1, 2, 3, 4, 5, 6, 8, 0] rfl)
      · have hg := it_neg hg c51
        refine lv_aload_n hx hb dL_pairing_295 rfl (lv_at hl 2 rfl) ?_
        refine lv_iload hx hb dL_pairing_296 (lv_at hl 6 rfl) ?_
        obtain ⟨hok52, hg⟩ := gd_some hg
        obtain ⟨hin53, hg⟩ := gd_some hg
        refine wr_iald hx hb hw hok52 (inb_vp hin53) dL_pairing_298 ?_
        refine lv_aload_n hx hb dL_pairing_299 rfl (lv_at hl 1 rfl) ?_
        obtain ⟨r54, S54, hc54, hg⟩ := cl_some hg
        refine wr_ci (va_runS (As := [.ref a0]) (rest := [.int (hI S50 a1 v6.toNatClampNeg)]) ⟨hx, hb, hml, hown, hts⟩ (c_L_free l D C N S50 z a0 r54 S54 hc54) (va_cwS 1 hts gL_pairing_L_free rfl rfl rfl (by decide +kernel) ⟨Nat.le_of_ble_eq_true rfl, Nat.le_of_ble_eq_true rfl⟩) (wd_preS hw) rfl rfl hl.1 rfl (lv_room (Nat.le_of_ble_eq_true rfl)) dL_pairing_300 ⟨Nat.zero_le _, Nat.zero_le _⟩) hw (fun H locs hw => ?_)
        refine lv_iand hx hb dL_pairing_303 ?_
        refine lv_iconst (v := (1 : Int32)) hx hb dL_pairing_304 (by decide) ?_
        refine lv_iload hx hb dL_pairing_305 (lv_at hl 0 rfl) ?_
        refine lv_ishl hx hb dL_pairing_307 ?_
        refine lv_iand hx hb dL_pairing_308 ?_
        refine lv_if_eq (tgt := 330) hx hb dL_pairing_309 (by decide) (fun c55 => ?_) (fun c55 => ?_)
        · have hg := it_pos hg c55
          exact B330 K2 hK2 K38 hK38 _ _ _ _ _ _ _ _ _ hg hw (lv_sub hl [1, 2, 3, 4, 5, 6, 8, 0] rfl)
        · have hg := it_neg hg c55
          refine lv_aload_n hx hb dL_pairing_312 rfl (lv_at hl 3 rfl) ?_
          refine lv_iload hx hb dL_pairing_313 (lv_at hl 8 rfl) ?_
          obtain ⟨hok56, hg⟩ := gd_some hg
          obtain ⟨hin57, hg⟩ := gd_some hg
          refine wr_iald hx hb hw hok56 (inb_vp hin57) dL_pairing_315 ?_
          refine lv_if_ge (tgt := 330) hx hb dL_pairing_316 (by decide) (fun c58 => ?_) (fun c58 => ?_)
          · have hg := it_pos hg c58
            exact B330 K2 hK2 K38 hK38 _ _ _ _ _ _ _ _ _ hg hw (lv_sub hl [1, 2, 3, 4, 5, 6, 8, 0] rfl)
          · have hg := it_neg hg c58
            refine lv_aload_n hx hb dL_pairing_319 rfl (lv_at hl 3 rfl) ?_
            refine lv_iload hx hb dL_pairing_320 (lv_at hl 0 rfl) ?_
            obtain ⟨hin59, hg⟩ := gd_some hg
            refine wr_iald hx hb hw hok56 (inb_vp hin59) dL_pairing_322 ?_
            refine lv_if_ge (tgt := 330) hx hb dL_pairing_323 (by decide) (fun c60 => ?_) (fun c60 => ?_)
            · have hg := it_pos hg c60
              exact B330 K2 hK2 K38 hK38 _ _ _ _ _ _ _ _ _ hg hw (lv_sub hl [1, 2, 3, 4, 5, 6, 8, 0] rfl)
            · have hg := it_neg hg c60
              refine lv_iconst (v := (1 : Int32)) hx hb dL_pairing_326 (by decide) ?_
              refine lv_goto (tgt := 331) hx hb dL_pairing_327 (by decide) ?_
              exact B331 K2 hK2 K38 hK38 _ _ _ _ _ _ _ _ _ _ hg hw (lv_sub hl [1, 2, 3, 4, 5, 6, 8, 0] rfl)
  have B225 : ∀ (K2 : Hp → Int32 → Option (Int32 × Hp)) (hK2 : ∀ (S : Hp) (v3 : Int32) (H : Heap) (locs : List Loc) (ls : Array Slot), K2 S v3 = some (r, S9) → Wd D C (va_A (wP C S0) z) s.heap S z H locs s → lv_has ls 11 [(0, .ref a0), (1, .ref a1), (2, .ref a2), (3, .int v3)] → W p l e rm_L_pairing s m ([.ref a0, .ref a1, .ref a2] : List Value).toArray below meth c H locs 0 0 (MQ below (QiW D C S0 z r S9 z) ([.ref a0, .ref a1, .ref a2] : List Value).toArray s 0 0 (va_A (wP C S0) z)) (F0 m 2 ls [])) (K38 : Hp → Int32 → Int32 → Int32 → Int32 → Option (Int32 × Hp)) (hK38 : ∀ (S : Hp) (v3 : Int32) (v4 : Int32) (v5 : Int32) (v6 : Int32) (H : Heap) (locs : List Loc) (ls : Array Slot), K38 S v3 v4 v5 v6 = some (r, S9) → Wd D C (va_A (wP C S0) z) s.heap S z H locs s → lv_has ls 11 [(0, .ref a0), (1, .ref a1), (2, .ref a2), (3, .int v3), (4, .int v4), (5, .int v5), (6, .int v6)] → W p l e rm_L_pairing s m ([.ref a0, .ref a1, .ref a2] : List Value).toArray below meth c H locs 0 0 (MQ below (QiW D C S0 z r S9 z) ([.ref a0, .ref a1, .ref a2] : List Value).toArray s 0 0 (va_A (wP C S0) z)) (F0 m 38 ls [])) (S : Hp) (v3 : Int32) (v5 : Int32) (v6 : Int32) (v7 : Int32) (s0 : Int32) (H : Heap) (locs : List Loc) (ls : Array Slot), f_L_pairing_b225 N a0 a1 a2 K2 K38 S v3 v5 v6 v7 s0 = some (r, S9) → Wd D C (va_A (wP C S0) z) s.heap S z H locs s → lv_has ls 11 [(0, .ref a0), (1, .ref a1), (2, .ref a2), (3, .int v3), (5, .int v5), (6, .int v6), (7, .int v7)] → W p l e rm_L_pairing s m ([.ref a0, .ref a1, .ref a2] : List Value).toArray below meth c H locs 0 0 (MQ below (QiW D C S0 z r S9 z) ([.ref a0, .ref a1, .ref a2] : List Value).toArray s 0 0 (va_A (wP C S0) z)) (F0 m 225 ls [.int s0]) := by
    intro K2 hK2 K38 hK38 S v3 v5 v6 v7 s0 H locs ls hg hw hl
    unfold f_L_pairing_b225 at hg
    refine lv_istore (lv' := [(9, .int s0), (0, .ref a0), (1, .ref a1), (2, .ref a2), (3, .int v3), (5, .int v5), (6, .int v6), (7, .int v7)]) hx hb dL_pairing_225 hl (by decide) rfl (fun ls hl => ?_)
    refine lv_iload hx hb dL_pairing_227 (lv_at hl 7 rfl) ?_
    refine lv_iconst (v := (4 : Int32)) hx hb dL_pairing_229 (by decide) ?_
    refine lv_icmp_ge (tgt := 240) hx hb dL_pairing_230 (by decide) (fun c44 => ?_) (fun c44 => ?_)
    · have hg := it_pos hg c44
      refine lv_iload hx hb dL_pairing_240 (lv_at hl 7 rfl) ?_
      refine lv_bipush (v := (7 : Int32)) hx hb dL_pairing_242 (by decide) ?_
      refine lv_icmp_ge (tgt := 254) hx hb dL_pairing_244 (by decide) (fun c45 => ?_) (fun c45 => ?_)
      · have hg := it_pos hg c45
        refine lv_iload hx hb dL_pairing_254 (lv_at hl 7 rfl) ?_
        refine lv_bipush (v := (9 : Int32)) hx hb dL_pairing_256 (by decide) ?_
        refine lv_icmp_ge (tgt := 268) hx hb dL_pairing_258 (by decide) (fun c46 => ?_) (fun c46 => ?_)
        · have hg := it_pos hg c46
          refine lv_iconst (v := (4 : Int32)) hx hb dL_pairing_268 (by decide) ?_
          exact B269 K2 hK2 K38 hK38 _ _ _ _ _ _ _ _ _ _ hg hw (lv_sub hl [1, 2, 3, 4, 5, 6, 7, 0] rfl)
        · have hg := it_neg hg c46
          refine lv_iload hx hb dL_pairing_261 (lv_at hl 7 rfl) ?_
          refine lv_iconst (v := (4 : Int32)) hx hb dL_pairing_263 (by decide) ?_
          refine lv_isub hx hb dL_pairing_264 ?_
          refine lv_goto (tgt := 269) hx hb dL_pairing_265 (by decide) ?_
          exact B269 K2 hK2 K38 hK38 _ _ _ _ _ _ _ _ _ _ hg hw (lv_sub hl [1, 2, 3, 4, 5, 6, 7, 0] rfl)
      · have hg := it_neg hg c45
        refine lv_iload hx hb dL_pairing_247 (lv_at hl 7 rfl) ?_
        refine lv_iconst (v := (2 : Int32)) hx hb dL_pairing_249 (by decide) ?_
        refine lv_isub hx hb dL_pairing_250 ?_
        refine lv_goto (tgt := 269) hx hb dL_pairing_251 (by decide) ?_
        exact B269 K2 hK2 K38 hK38 _ _ _ _ _ _ _ _ _ _ hg hw (lv_sub hl [1, 2, 3, 4, 5, 6, 7, 0] rfl)
    · have hg := it_neg hg c44
      refine lv_iload hx hb dL_pairing_233 (lv_at hl 7 rfl) ?_
      refine lv_iconst (v := (1 : Int32)) hx hb dL_pairing_235 (by decide) ?_
      refine lv_iadd hx hb dL_pairing_236 ?_
      refine lv_goto (tgt := 269) hx hb dL_pairing_237 (by decide) ?_
      exact B269 K2 hK2 K38 hK38 _ _ _ _ _ _ _ _ _ _ hg hw (lv_sub hl [1, 2, 3, 4, 5, 6, 7, 0] rfl)
  have B170 : ∀ (K2 : Hp → Int32 → Option (Int32 × Hp)) (hK2 : ∀ (S : Hp) (v3 : Int32) (H : Heap) (locs : List Loc) (ls : Array Slot), K2 S v3 = some (r, S9) → Wd D C (va_A (wP C S0) z) s.heap S z H locs s → lv_has ls 11 [(0, .ref a0), (1, .ref a1), (2, .ref a2), (3, .int v3)] → W p l e rm_L_pairing s m ([.ref a0, .ref a1, .ref a2] : List Value).toArray below meth c H locs 0 0 (MQ below (QiW D C S0 z r S9 z) ([.ref a0, .ref a1, .ref a2] : List Value).toArray s 0 0 (va_A (wP C S0) z)) (F0 m 2 ls [])) (K38 : Hp → Int32 → Int32 → Int32 → Int32 → Option (Int32 × Hp)) (hK38 : ∀ (S : Hp) (v3 : Int32) (v4 : Int32) (v5 : Int32) (v6 : Int32) (H : Heap) (locs : List Loc) (ls : Array Slot), K38 S v3 v4 v5 v6 = some (r, S9) → Wd D C (va_A (wP C S0) z) s.heap S z H locs s → lv_has ls 11 [(0, .ref a0), (1, .ref a1), (2, .ref a2), (3, .int v3), (4, .int v4), (5, .int v5), (6, .int v6)] → W p l e rm_L_pairing s m ([.ref a0, .ref a1, .ref a2] : List Value).toArray below meth c H locs 0 0 (MQ below (QiW D C S0 z r S9 z) ([.ref a0, .ref a1, .ref a2] : List Value).toArray s 0 0 (va_A (wP C S0) z)) (F0 m 38 ls [])) (S : Hp) (v3 : Int32) (v5 : Int32) (v6 : Int32) (v7 : Int32) (v8 : Int32) (H : Heap) (locs : List Loc) (ls : Array Slot), f_L_pairing_b170 N a0 a1 a2 K2 K38 S v3 v5 v6 v7 v8 = some (r, S9) → Wd D C (va_A (wP C S0) z) s.heap S z H locs s → lv_has ls 11 [(0, .ref a0), (1, .ref a1), (2, .ref a2), (3, .int v3), (5, .int v5), (6, .int v6), (7, .int v7), (8, .int v8)] → W p l e rm_L_pairing s m ([.ref a0, .ref a1, .ref a2] : List Value).toArray below meth c H locs 0 0 (MQ below (QiW D C S0 z r S9 z) ([.ref a0, .ref a1, .ref a2] : List Value).toArray s 0 0 (va_A (wP C S0) z)) (F0 m 170 ls []) := by
    intro K2 hK2 K38 hK38 S v3 v5 v6 v7 v8 H locs ls hg hw hl
    unfold f_L_pairing_b170 at hg
    refine lv_iload hx hb dL_pairing_170 (lv_at hl 7 rfl) ?_
    refine lv_if_ne (tgt := 192) hx hb dL_pairing_172 (by decide) (fun c39 => ?_) (fun c39 => ?_)
    · have hg := it_neg hg c39
      refine lv_iload hx hb dL_pairing_192 (lv_at hl 6 rfl) ?_
      refine lv_iconst (v := (4 : Int32)) hx hb dL_pairing_194 (by decide) ?_
      refine lv_icmp_ge (tgt := 202) hx hb dL_pairing_195 (by decide) (fun c40 => ?_) (fun c40 => ?_)
      · have hg := it_pos hg c40
        refine lv_iload hx hb dL_pairing_202 (lv_at hl 6 rfl) ?_
        refine lv_bipush (v := (7 : Int32)) hx hb dL_pairing_204 (by decide) ?_
        refine lv_icmp_ge (tgt := 213) hx hb dL_pairing_206 (by decide) (fun c41 => ?_) (fun c41 => ?_)
        · have hg := it_pos hg c41
          refine lv_iload hx hb dL_pairing_213 (lv_at hl 6 rfl) ?_
          refine lv_bipush (v := (9 : Int32)) hx hb dL_pairing_215 (by decide) ?_
          refine lv_icmp_ge (tgt := 224) hx hb dL_pairing_217 (by decide) (fun c42 => ?_) (fun c42 => ?_)
          · have hg := it_pos hg c42
            refine lv_iconst (v := (3 : Int32)) hx hb dL_pairing_224 (by decide) ?_
            exact B225 K2 hK2 K38 hK38 _ _ _ _ _ _ _ _ _ hg hw (lv_sub hl [0, 1, 2, 3, 4, 5, 6] rfl)
          · have hg := it_neg hg c42
            refine lv_iconst (v := (2 : Int32)) hx hb dL_pairing_220 (by decide) ?_
            refine lv_goto (tgt := 225) hx hb dL_pairing_221 (by decide) ?_
            exact B225 K2 hK2 K38 hK38 _ _ _ _ _ _ _ _ _ hg hw (lv_sub hl [0, 1, 2, 3, 4, 5, 6] rfl)
        · have hg := it_neg hg c41
          refine lv_iconst (v := (1 : Int32)) hx hb dL_pairing_209 (by decide) ?_
          refine lv_goto (tgt := 225) hx hb dL_pairing_210 (by decide) ?_
          exact B225 K2 hK2 K38 hK38 _ _ _ _ _ _ _ _ _ hg hw (lv_sub hl [0, 1, 2, 3, 4, 5, 6] rfl)
      · have hg := it_neg hg c40
        refine lv_iconst (v := (0 : Int32)) hx hb dL_pairing_198 (by decide) ?_
        refine lv_goto (tgt := 225) hx hb dL_pairing_199 (by decide) ?_
        exact B225 K2 hK2 K38 hK38 _ _ _ _ _ _ _ _ _ hg hw (lv_sub hl [0, 1, 2, 3, 4, 5, 6] rfl)
    · have hg := it_pos hg c39
      refine lv_iload hx hb dL_pairing_175 (lv_at hl 6 rfl) ?_
      refine lv_bipush (v := (10 : Int32)) hx hb dL_pairing_177 (by decide) ?_
      refine lv_icmp_ne (tgt := 186) hx hb dL_pairing_179 (by decide) (fun c43 => ?_) (fun c43 => ?_)
      · have hg := it_neg hg c43
        refine lv_iconst (v := (0 : Int32)) hx hb dL_pairing_186 (by decide) ?_
        refine lv_istore (lv' := [(4, .int (0 : Int32)), (0, .ref a0), (1, .ref a1), (2, .ref a2), (3, .int v3), (5, .int v5), (6, .int v6), (7, .int v7), (8, .int v8)]) hx hb dL_pairing_187 hl (by decide) rfl (fun ls hl => ?_)
        refine lv_goto (tgt := 350) hx hb dL_pairing_189 (by decide) ?_
        refine lv_iinc (v := (v6 + (1 : Int32))) (lv' := [(6, .int (v6 + (1 : Int32))), (4, .int (0 : Int32)), (0, .ref a0), (1, .ref a1), (2, .ref a2), (3, .int v3), (5, .int v5), (7, .int v7), (8, .int v8)]) hx hb dL_pairing_350 hl (k := 6) rfl rfl (by decide) rfl (fun ls hl => ?_)
        refine lv_goto (tgt := 38) hx hb dL_pairing_353 (by decide) ?_
        exact hK38 _ _ _ _ _ _ _ _ hg hw (lv_sub hl [2, 3, 4, 5, 1, 6, 0] rfl)
      · have hg := it_pos hg c43
        refine lv_iconst (v := (1 : Int32)) hx hb dL_pairing_182 (by decide) ?_
        refine lv_goto (tgt := 187) hx hb dL_pairing_183 (by decide) ?_
        refine lv_istore (lv' := [(4, .int (1 : Int32)), (0, .ref a0), (1, .ref a1), (2, .ref a2), (3, .int v3), (5, .int v5), (6, .int v6), (7, .int v7), (8, .int v8)]) hx hb dL_pairing_187 hl (by decide) rfl (fun ls hl => ?_)
        refine lv_goto (tgt := 350) hx hb dL_pairing_189 (by decide) ?_
        refine lv_iinc (v := (v6 + (1 : Int32))) (lv' := [(6, .int (v6 + (1 : Int32))), (4, .int (1 : Int32)), (0, .ref a0), (1, .ref a1), (2, .ref a2), (3, .int v3), (5, .int v5), (7, .int v7), (8, .int v8)]) hx hb dL_pairing_350 hl (k := 6) rfl rfl (by decide) rfl (fun ls hl => ?_)
        refine lv_goto (tgt := 38) hx hb dL_pairing_353 (by decide) ?_
        exact hK38 _ _ _ _ _ _ _ _ hg hw (lv_sub hl [2, 3, 4, 5, 1, 6, 0] rfl)
  have B115 : ∀ (K2 : Hp → Int32 → Option (Int32 × Hp)) (hK2 : ∀ (S : Hp) (v3 : Int32) (H : Heap) (locs : List Loc) (ls : Array Slot), K2 S v3 = some (r, S9) → Wd D C (va_A (wP C S0) z) s.heap S z H locs s → lv_has ls 11 [(0, .ref a0), (1, .ref a1), (2, .ref a2), (3, .int v3)] → W p l e rm_L_pairing s m ([.ref a0, .ref a1, .ref a2] : List Value).toArray below meth c H locs 0 0 (MQ below (QiW D C S0 z r S9 z) ([.ref a0, .ref a1, .ref a2] : List Value).toArray s 0 0 (va_A (wP C S0) z)) (F0 m 2 ls [])) (K38 : Hp → Int32 → Int32 → Int32 → Int32 → Option (Int32 × Hp)) (hK38 : ∀ (S : Hp) (v3 : Int32) (v4 : Int32) (v5 : Int32) (v6 : Int32) (H : Heap) (locs : List Loc) (ls : Array Slot), K38 S v3 v4 v5 v6 = some (r, S9) → Wd D C (va_A (wP C S0) z) s.heap S z H locs s → lv_has ls 11 [(0, .ref a0), (1, .ref a1), (2, .ref a2), (3, .int v3), (4, .int v4), (5, .int v5), (6, .int v6)] → W p l e rm_L_pairing s m ([.ref a0, .ref a1, .ref a2] : List Value).toArray below meth c H locs 0 0 (MQ below (QiW D C S0 z r S9 z) ([.ref a0, .ref a1, .ref a2] : List Value).toArray s 0 0 (va_A (wP C S0) z)) (F0 m 38 ls [])) (K115 : Hp → Int32 → Int32 → Int32 → Int32 → Int32 → Int32 → Option (Int32 × Hp)) (hK115 : ∀ (S : Hp) (v3 : Int32) (v5 : Int32) (v6 : Int32) (v7 : Int32) (v8 : Int32) (v9 : Int32) (H : Heap) (locs : List Loc) (ls : Array Slot), K115 S v3 v5 v6 v7 v8 v9 = some (r, S9) → Wd D C (va_A (wP C S0) z) s.heap S z H locs s → lv_has ls 11 [(0, .ref a0), (1, .ref a1), (2, .ref a2), (3, .int v3), (5, .int v5), (6, .int v6), (7, .int v7), (8, .int v8), (9, .int v9)] → W p l e rm_L_pairing s m ([.ref a0, .ref a1, .ref a2] : List Value).toArray below meth c H locs 0 0 (MQ below (QiW D C S0 z r S9 z) ([.ref a0, .ref a1, .ref a2] : List Value).toArray s 0 0 (va_A (wP C S0) z)) (F0 m 115 ls [])) (S : Hp) (v3 : Int32) (v5 : Int32) (v6 : Int32) (v7 : Int32) (v8 : Int32) (v9 : Int32) (H : Heap) (locs : List Loc) (ls : Array Slot), f_L_pairing_b115 N a0 a1 a2 K2 K38 K115 S v3 v5 v6 v7 v8 v9 = some (r, S9) → Wd D C (va_A (wP C S0) z) s.heap S z H locs s → lv_has ls 11 [(0, .ref a0), (1, .ref a1), (2, .ref a2), (3, .int v3), (5, .int v5), (6, .int v6), (7, .int v7), (8, .int v8), (9, .int v9)] → W p l e rm_L_pairing s m ([.ref a0, .ref a1, .ref a2] : List Value).toArray below meth c H locs 0 0 (MQ below (QiW D C S0 z r S9 z) ([.ref a0, .ref a1, .ref a2] : List Value).toArray s 0 0 (va_A (wP C S0) z)) (F0 m 115 ls []) := by
    intro K2 hK2 K38 hK38 K115 hK115 S v3 v5 v6 v7 v8 v9 H locs ls hg hw hl
    unfold f_L_pairing_b115 at hg
    refine lv_iload hx hb dL_pairing_115 (lv_at hl 8 rfl) ?_
    refine lv_iconst (v := (5 : Int32)) hx hb dL_pairing_117 (by decide) ?_
    refine lv_icmp_ge (tgt := 170) hx hb dL_pairing_118 (by decide) (fun c30 => ?_) (fun c30 => ?_)
    · have hg := it_pos hg c30
      exact B170 K2 hK2 K38 hK38 _ _ _ _ _ _ _ _ _ hg hw (lv_sub hl [0, 1, 2, 3, 4, 5, 6, 7] rfl)
    · have hg := it_neg hg c30
      refine lv_iload hx hb dL_pairing_121 (lv_at hl 7 rfl) ?_
      refine lv_if_eq (tgt := 170) hx hb dL_pairing_123 (by decide) (fun c31 => ?_) (fun c31 => ?_)
      · have hg := it_pos hg c31
        exact B170 K2 hK2 K38 hK38 _ _ _ _ _ _ _ _ _ hg hw (lv_sub hl [0, 1, 2, 3, 4, 5, 6, 7] rfl)
      · have hg := it_neg hg c31
        refine lv_aload_n hx hb dL_pairing_126 rfl (lv_at hl 2 rfl) ?_
        refine lv_iload hx hb dL_pairing_127 (lv_at hl 8 rfl) ?_
        obtain ⟨hok32, hg⟩ := gd_some hg
        obtain ⟨hin33, hg⟩ := gd_some hg
        refine wr_iald hx hb hw hok32 (inb_vp hin33) dL_pairing_129 ?_
        refine lv_if_lt (tgt := 164) hx hb dL_pairing_130 (by decide) (fun c34 => ?_) (fun c34 => ?_)
        · have hg := it_pos hg c34
          refine lv_iinc (v := (v9 + (1 : Int32))) (lv' := [(9, .int (v9 + (1 : Int32))), (0, .ref a0), (1, .ref a1), (2, .ref a2), (3, .int v3), (5, .int v5), (6, .int v6), (7, .int v7), (8, .int v8)]) hx hb dL_pairing_164 hl (k := 8) rfl rfl (by decide) rfl (fun ls hl => ?_)
          refine lv_goto (tgt := 115) hx hb dL_pairing_167 (by decide) ?_
          exact hK115 _ _ _ _ _ _ _ _ _ _ hg hw (lv_sub hl [1, 2, 3, 4, 5, 6, 7, 8, 0] rfl)
        · have hg := it_neg hg c34
          refine lv_aload_n hx hb dL_pairing_133 rfl (lv_at hl 1 rfl) ?_
          refine lv_iload hx hb dL_pairing_134 (lv_at hl 5 rfl) ?_
          obtain ⟨hok35, hg⟩ := gd_some hg
          obtain ⟨hin36, hg⟩ := gd_some hg
          refine wr_iald hx hb hw hok35 (inb_vp hin36) dL_pairing_136 ?_
          refine lv_iload hx hb dL_pairing_137 (lv_at hl 8 rfl) ?_
          refine lv_ishr hx hb dL_pairing_139 ?_
          refine lv_iconst (v := (1 : Int32)) hx hb dL_pairing_140 (by decide) ?_
          refine lv_iand hx hb dL_pairing_141 ?_
          refine lv_iconst (v := (1 : Int32)) hx hb dL_pairing_142 (by decide) ?_
          refine lv_icmp_ne (tgt := 164) hx hb dL_pairing_143 (by decide) (fun c37 => ?_) (fun c37 => ?_)
          · have hg := it_neg hg c37
            refine lv_iinc (v := (v9 + (1 : Int32))) (lv' := [(9, .int (v9 + (1 : Int32))), (0, .ref a0), (1, .ref a1), (2, .ref a2), (3, .int v3), (5, .int v5), (6, .int v6), (7, .int v7), (8, .int v8)]) hx hb dL_pairing_164 hl (k := 8) rfl rfl (by decide) rfl (fun ls hl => ?_)
            refine lv_goto (tgt := 115) hx hb dL_pairing_167 (by decide) ?_
            exact hK115 _ _ _ _ _ _ _ _ _ _ hg hw (lv_sub hl [1, 2, 3, 4, 5, 6, 7, 8, 0] rfl)
          · have hg := it_pos hg c37
            refine lv_aload_n hx hb dL_pairing_146 rfl (lv_at hl 1 rfl) ?_
            refine lv_iload hx hb dL_pairing_147 (lv_at hl 5 rfl) ?_
            refine wr_iald hx hb hw hok35 (inb_vp hin36) dL_pairing_149 ?_
            refine lv_aload_n hx hb dL_pairing_150 rfl (lv_at hl 2 rfl) ?_
            refine lv_iload hx hb dL_pairing_151 (lv_at hl 8 rfl) ?_
            refine wr_iald hx hb hw hok32 (inb_vp hin33) dL_pairing_153 ?_
            refine lv_ishr hx hb dL_pairing_154 ?_
            refine lv_iconst (v := (1 : Int32)) hx hb dL_pairing_155 (by decide) ?_
            refine lv_iand hx hb dL_pairing_156 ?_
            refine lv_iconst (v := (1 : Int32)) hx hb dL_pairing_157 (by decide) ?_
            refine lv_icmp_ne (tgt := 164) hx hb dL_pairing_158 (by decide) (fun c38 => ?_) (fun c38 => ?_)
            · have hg := it_neg hg c38
              refine lv_iinc (v := (v9 + (1 : Int32))) (lv' := [(9, .int (v9 + (1 : Int32))), (0, .ref a0), (1, .ref a1), (2, .ref a2), (3, .int v3), (5, .int v5), (6, .int v6), (7, .int v7), (8, .int v8)]) hx hb dL_pairing_164 hl (k := 8) rfl rfl (by decide) rfl (fun ls hl => ?_)
              refine lv_goto (tgt := 115) hx hb dL_pairing_167 (by decide) ?_
              exact hK115 _ _ _ _ _ _ _ _ _ _ hg hw (lv_sub hl [1, 2, 3, 4, 5, 6, 7, 8, 0] rfl)
            · have hg := it_pos hg c38
              refine lv_iconst (v := (0 : Int32)) hx hb dL_pairing_161 (by decide) ?_
              refine lv_istore (lv' := [(8, .int (0 : Int32)), (0, .ref a0), (1, .ref a1), (2, .ref a2), (3, .int v3), (5, .int v5), (6, .int v6), (7, .int v7), (9, .int v9)]) hx hb dL_pairing_162 hl (by decide) rfl (fun ls hl => ?_)
              refine lv_iinc (v := (v9 + (1 : Int32))) (lv' := [(9, .int (v9 + (1 : Int32))), (8, .int (0 : Int32)), (0, .ref a0), (1, .ref a1), (2, .ref a2), (3, .int v3), (5, .int v5), (6, .int v6), (7, .int v7)]) hx hb dL_pairing_164 hl (k := 8) rfl rfl (by decide) rfl (fun ls hl => ?_)
              refine lv_goto (tgt := 115) hx hb dL_pairing_167 (by decide) ?_
              exact hK115 _ _ _ _ _ _ _ _ _ _ hg hw (lv_sub hl [2, 3, 4, 5, 6, 7, 8, 1, 0] rfl)
  have L115 : ∀ (K2 : Hp → Int32 → Option (Int32 × Hp)) (hK2 : ∀ (S : Hp) (v3 : Int32) (H : Heap) (locs : List Loc) (ls : Array Slot), K2 S v3 = some (r, S9) → Wd D C (va_A (wP C S0) z) s.heap S z H locs s → lv_has ls 11 [(0, .ref a0), (1, .ref a1), (2, .ref a2), (3, .int v3)] → W p l e rm_L_pairing s m ([.ref a0, .ref a1, .ref a2] : List Value).toArray below meth c H locs 0 0 (MQ below (QiW D C S0 z r S9 z) ([.ref a0, .ref a1, .ref a2] : List Value).toArray s 0 0 (va_A (wP C S0) z)) (F0 m 2 ls [])) (K38 : Hp → Int32 → Int32 → Int32 → Int32 → Option (Int32 × Hp)) (hK38 : ∀ (S : Hp) (v3 : Int32) (v4 : Int32) (v5 : Int32) (v6 : Int32) (H : Heap) (locs : List Loc) (ls : Array Slot), K38 S v3 v4 v5 v6 = some (r, S9) → Wd D C (va_A (wP C S0) z) s.heap S z H locs s → lv_has ls 11 [(0, .ref a0), (1, .ref a1), (2, .ref a2), (3, .int v3), (4, .int v4), (5, .int v5), (6, .int v6)] → W p l e rm_L_pairing s m ([.ref a0, .ref a1, .ref a2] : List Value).toArray below meth c H locs 0 0 (MQ below (QiW D C S0 z r S9 z) ([.ref a0, .ref a1, .ref a2] : List Value).toArray s 0 0 (va_A (wP C S0) z)) (F0 m 38 ls [])) (k : Nat) (S : Hp) (v3 : Int32) (v5 : Int32) (v6 : Int32) (v7 : Int32) (v8 : Int32) (v9 : Int32) (H : Heap) (locs : List Loc) (ls : Array Slot), f_L_pairing_l115 N a0 a1 a2 K2 K38 k S v3 v5 v6 v7 v8 v9 = some (r, S9) → Wd D C (va_A (wP C S0) z) s.heap S z H locs s → lv_has ls 11 [(0, .ref a0), (1, .ref a1), (2, .ref a2), (3, .int v3), (5, .int v5), (6, .int v6), (7, .int v7), (8, .int v8), (9, .int v9)] → W p l e rm_L_pairing s m ([.ref a0, .ref a1, .ref a2] : List Value).toArray below meth c H locs 0 0 (MQ below (QiW D C S0 z r S9 z) ([.ref a0, .ref a1, .ref a2] : List Value).toArray s 0 0 (va_A (wP C S0) z)) (F0 m 115 ls []) := by
    intro K2 hK2 K38 hK38 k
    induction k with
    | zero => intro S v3 v5 v6 v7 v8 v9 H locs ls hg hw hl; exact absurd (show (none : Option (Int32 × Hp)) = some (r, S9) from hg) (by simp)
    | succ k ih => intro S v3 v5 v6 v7 v8 v9 H locs ls hg hw hl; exact B115 K2 hK2 K38 hK38 (f_L_pairing_l115 N a0 a1 a2 K2 K38 k) ih S v3 v5 v6 v7 v8 v9 H locs ls hg hw hl
  have B84 : ∀ (K2 : Hp → Int32 → Option (Int32 × Hp)) (hK2 : ∀ (S : Hp) (v3 : Int32) (H : Heap) (locs : List Loc) (ls : Array Slot), K2 S v3 = some (r, S9) → Wd D C (va_A (wP C S0) z) s.heap S z H locs s → lv_has ls 11 [(0, .ref a0), (1, .ref a1), (2, .ref a2), (3, .int v3)] → W p l e rm_L_pairing s m ([.ref a0, .ref a1, .ref a2] : List Value).toArray below meth c H locs 0 0 (MQ below (QiW D C S0 z r S9 z) ([.ref a0, .ref a1, .ref a2] : List Value).toArray s 0 0 (va_A (wP C S0) z)) (F0 m 2 ls [])) (K38 : Hp → Int32 → Int32 → Int32 → Int32 → Option (Int32 × Hp)) (hK38 : ∀ (S : Hp) (v3 : Int32) (v4 : Int32) (v5 : Int32) (v6 : Int32) (H : Heap) (locs : List Loc) (ls : Array Slot), K38 S v3 v4 v5 v6 = some (r, S9) → Wd D C (va_A (wP C S0) z) s.heap S z H locs s → lv_has ls 11 [(0, .ref a0), (1, .ref a1), (2, .ref a2), (3, .int v3), (4, .int v4), (5, .int v5), (6, .int v6)] → W p l e rm_L_pairing s m ([.ref a0, .ref a1, .ref a2] : List Value).toArray below meth c H locs 0 0 (MQ below (QiW D C S0 z r S9 z) ([.ref a0, .ref a1, .ref a2] : List Value).toArray s 0 0 (va_A (wP C S0) z)) (F0 m 38 ls [])) (S : Hp) (v3 : Int32) (v5 : Int32) (v6 : Int32) (s0 : Int32) (H : Heap) (locs : List Loc) (ls : Array Slot), f_L_pairing_b84 N a0 a1 a2 K2 K38 S v3 v5 v6 s0 = some (r, S9) → Wd D C (va_A (wP C S0) z) s.heap S z H locs s → lv_has ls 11 [(0, .ref a0), (1, .ref a1), (2, .ref a2), (3, .int v3), (5, .int v5), (6, .int v6)] → W p l e rm_L_pairing s m ([.ref a0, .ref a1, .ref a2] : List Value).toArray below meth c H locs 0 0 (MQ below (QiW D C S0 z r S9 z) ([.ref a0, .ref a1, .ref a2] : List Value).toArray s 0 0 (va_A (wP C S0) z)) (F0 m 84 ls [.int s0]) := by
    intro K2 hK2 K38 hK38 S v3 v5 v6 s0 H locs ls hg hw hl
    unfold f_L_pairing_b84 at hg
    refine lv_istore (lv' := [(7, .int s0), (0, .ref a0), (1, .ref a1), (2, .ref a2), (3, .int v3), (5, .int v5), (6, .int v6)]) hx hb dL_pairing_84 hl (by decide) rfl (fun ls hl => ?_)
    refine lv_iload hx hb dL_pairing_86 (lv_at hl 6 rfl) ?_
    refine lv_aload_n hx hb dL_pairing_88 rfl (lv_at hl 1 rfl) ?_
    refine lv_iconst (v := (2 : Int32)) hx hb dL_pairing_89 (by decide) ?_
    obtain ⟨hok23, hg⟩ := gd_some hg
    obtain ⟨hin24, hg⟩ := gd_some hg
    refine wr_iald hx hb hw hok23 (inb_vp hin24) dL_pairing_90 ?_
    refine lv_icmp_ge (tgt := 109) hx hb dL_pairing_91 (by decide) (fun c25 => ?_) (fun c25 => ?_)
    · have hg := it_pos hg c25
      refine lv_iconst (v := (0 : Int32)) hx hb dL_pairing_109 (by decide) ?_
      refine lv_istore (lv' := [(8, .int (0 : Int32)), (7, .int s0), (0, .ref a0), (1, .ref a1), (2, .ref a2), (3, .int v3), (5, .int v5), (6, .int v6)]) hx hb dL_pairing_110 hl (by decide) rfl (fun ls hl => ?_)
      refine lv_iconst (v := (0 : Int32)) hx hb dL_pairing_112 (by decide) ?_
      refine lv_istore (lv' := [(9, .int (0 : Int32)), (8, .int (0 : Int32)), (7, .int s0), (0, .ref a0), (1, .ref a1), (2, .ref a2), (3, .int v3), (5, .int v5), (6, .int v6)]) hx hb dL_pairing_113 hl (by decide) rfl (fun ls hl => ?_)
      exact L115 K2 hK2 K38 hK38 N _ _ _ _ _ _ _ _ _ _ hg hw (lv_sub hl [3, 4, 5, 6, 7, 8, 2, 1, 0] rfl)
    · have hg := it_neg hg c25
      refine lv_aload_n hx hb dL_pairing_94 rfl (lv_at hl 2 rfl) ?_
      refine lv_iload hx hb dL_pairing_95 (lv_at hl 6 rfl) ?_
      obtain ⟨hok26, hg⟩ := gd_some hg
      obtain ⟨hin27, hg⟩ := gd_some hg
      refine wr_iald hx hb hw hok26 (inb_vp hin27) dL_pairing_97 ?_
      refine lv_aload_n hx hb dL_pairing_98 rfl (lv_at hl 1 rfl) ?_
      refine lv_iconst (v := (4 : Int32)) hx hb dL_pairing_99 (by decide) ?_
      obtain ⟨hin28, hg⟩ := gd_some hg
      refine wr_iald hx hb hw hok23 (inb_vp hin28) dL_pairing_100 ?_
      refine lv_iand hx hb dL_pairing_101 ?_
      refine lv_if_ne (tgt := 109) hx hb dL_pairing_102 (by decide) (fun c29 => ?_) (fun c29 => ?_)
      · have hg := it_neg hg c29
        refine lv_iconst (v := (0 : Int32)) hx hb dL_pairing_109 (by decide) ?_
        refine lv_istore (lv' := [(8, .int (0 : Int32)), (7, .int s0), (0, .ref a0), (1, .ref a1), (2, .ref a2), (3, .int v3), (5, .int v5), (6, .int v6)]) hx hb dL_pairing_110 hl (by decide) rfl (fun ls hl => ?_)
        refine lv_iconst (v := (0 : Int32)) hx hb dL_pairing_112 (by decide) ?_
        refine lv_istore (lv' := [(9, .int (0 : Int32)), (8, .int (0 : Int32)), (7, .int s0), (0, .ref a0), (1, .ref a1), (2, .ref a2), (3, .int v3), (5, .int v5), (6, .int v6)]) hx hb dL_pairing_113 hl (by decide) rfl (fun ls hl => ?_)
        exact L115 K2 hK2 K38 hK38 N _ _ _ _ _ _ _ _ _ _ hg hw (lv_sub hl [3, 4, 5, 6, 7, 8, 2, 1, 0] rfl)
      · have hg := it_pos hg c29
        refine lv_iconst (v := (1 : Int32)) hx hb dL_pairing_105 (by decide) ?_
        refine lv_goto (tgt := 110) hx hb dL_pairing_106 (by decide) ?_
        refine lv_istore (lv' := [(8, .int (1 : Int32)), (7, .int s0), (0, .ref a0), (1, .ref a1), (2, .ref a2), (3, .int v3), (5, .int v5), (6, .int v6)]) hx hb dL_pairing_110 hl (by decide) rfl (fun ls hl => ?_)
        refine lv_iconst (v := (0 : Int32)) hx hb dL_pairing_112 (by decide) ?_
        refine lv_istore (lv' := [(9, .int (0 : Int32)), (8, .int (1 : Int32)), (7, .int s0), (0, .ref a0), (1, .ref a1), (2, .ref a2), (3, .int v3), (5, .int v5), (6, .int v6)]) hx hb dL_pairing_113 hl (by decide) rfl (fun ls hl => ?_)
        exact L115 K2 hK2 K38 hK38 N _ _ _ _ _ _ _ _ _ _ hg hw (lv_sub hl [3, 4, 5, 6, 7, 8, 2, 1, 0] rfl)
  have B38 : ∀ (K2 : Hp → Int32 → Option (Int32 × Hp)) (hK2 : ∀ (S : Hp) (v3 : Int32) (H : Heap) (locs : List Loc) (ls : Array Slot), K2 S v3 = some (r, S9) → Wd D C (va_A (wP C S0) z) s.heap S z H locs s → lv_has ls 11 [(0, .ref a0), (1, .ref a1), (2, .ref a2), (3, .int v3)] → W p l e rm_L_pairing s m ([.ref a0, .ref a1, .ref a2] : List Value).toArray below meth c H locs 0 0 (MQ below (QiW D C S0 z r S9 z) ([.ref a0, .ref a1, .ref a2] : List Value).toArray s 0 0 (va_A (wP C S0) z)) (F0 m 2 ls [])) (K38 : Hp → Int32 → Int32 → Int32 → Int32 → Option (Int32 × Hp)) (hK38 : ∀ (S : Hp) (v3 : Int32) (v4 : Int32) (v5 : Int32) (v6 : Int32) (H : Heap) (locs : List Loc) (ls : Array Slot), K38 S v3 v4 v5 v6 = some (r, S9) → Wd D C (va_A (wP C S0) z) s.heap S z H locs s → lv_has ls 11 [(0, .ref a0), (1, .ref a1), (2, .ref a2), (3, .int v3), (4, .int v4), (5, .int v5), (6, .int v6)] → W p l e rm_L_pairing s m ([.ref a0, .ref a1, .ref a2] : List Value).toArray below meth c H locs 0 0 (MQ below (QiW D C S0 z r S9 z) ([.ref a0, .ref a1, .ref a2] : List Value).toArray s 0 0 (va_A (wP C S0) z)) (F0 m 38 ls [])) (S : Hp) (v3 : Int32) (v4 : Int32) (v5 : Int32) (v6 : Int32) (H : Heap) (locs : List Loc) (ls : Array Slot), f_L_pairing_b38 N a0 a1 a2 K2 K38 S v3 v4 v5 v6 = some (r, S9) → Wd D C (va_A (wP C S0) z) s.heap S z H locs s → lv_has ls 11 [(0, .ref a0), (1, .ref a1), (2, .ref a2), (3, .int v3), (4, .int v4), (5, .int v5), (6, .int v6)] → W p l e rm_L_pairing s m ([.ref a0, .ref a1, .ref a2] : List Value).toArray below meth c H locs 0 0 (MQ below (QiW D C S0 z r S9 z) ([.ref a0, .ref a1, .ref a2] : List Value).toArray s 0 0 (va_A (wP C S0) z)) (F0 m 38 ls []) := by
    intro K2 hK2 K38 hK38 S v3 v4 v5 v6 H locs ls hg hw hl
    unfold f_L_pairing_b38 at hg
    refine lv_iload hx hb dL_pairing_38 (lv_at hl 6 rfl) ?_
    refine lv_iconst (v := (3 : Int32)) hx hb dL_pairing_40 (by decide) ?_
    refine lv_icmp_ge (tgt := 356) hx hb dL_pairing_41 (by decide) (fun c14 => ?_) (fun c14 => ?_)
    · have hg := it_pos hg c14
      exact B356 K2 hK2 _ _ _ _ _ _ hg hw (lv_sub hl [0, 1, 2, 3, 4] rfl)
    · have hg := it_neg hg c14
      refine lv_iload hx hb dL_pairing_44 (lv_at hl 4 rfl) ?_
      refine lv_if_eq (tgt := 356) hx hb dL_pairing_46 (by decide) (fun c15 => ?_) (fun c15 => ?_)
      · have hg := it_pos hg c15
        exact B356 K2 hK2 _ _ _ _ _ _ hg hw (lv_sub hl [0, 1, 2, 3, 4] rfl)
      · have hg := it_neg hg c15
        refine lv_iload hx hb dL_pairing_49 (lv_at hl 6 rfl) ?_
        refine lv_if_ne (tgt := 62) hx hb dL_pairing_51 (by decide) (fun c16 => ?_) (fun c16 => ?_)
        · have hg := it_neg hg c16
          refine lv_iload hx hb dL_pairing_62 (lv_at hl 6 rfl) ?_
          refine lv_iconst (v := (1 : Int32)) hx hb dL_pairing_64 (by decide) ?_
          refine lv_icmp_ne (tgt := 79) hx hb dL_pairing_65 (by decide) (fun c17 => ?_) (fun c17 => ?_)
          · have hg := it_neg hg c17
            refine lv_iload hx hb dL_pairing_79 (lv_at hl 5 rfl) ?_
            refine lv_bipush (v := (11 : Int32)) hx hb dL_pairing_81 (by decide) ?_
            refine lv_irem hx hb dL_pairing_83 (by decide) ?_
            exact B84 K2 hK2 K38 hK38 _ _ _ _ _ _ _ _ hg hw (lv_sub hl [0, 1, 2, 3, 5, 6] rfl)
          · have hg := it_pos hg c17
            refine lv_iload hx hb dL_pairing_68 (lv_at hl 5 rfl) ?_
            refine lv_bipush (v := (11 : Int32)) hx hb dL_pairing_70 (by decide) ?_
            refine lv_idiv hx hb dL_pairing_72 (by decide) ?_
            refine lv_bipush (v := (11 : Int32)) hx hb dL_pairing_73 (by decide) ?_
            refine lv_irem hx hb dL_pairing_75 (by decide) ?_
            refine lv_goto (tgt := 84) hx hb dL_pairing_76 (by decide) ?_
            exact B84 K2 hK2 K38 hK38 _ _ _ _ _ _ _ _ hg hw (lv_sub hl [0, 1, 2, 3, 5, 6] rfl)
        · have hg := it_pos hg c16
          refine lv_iload hx hb dL_pairing_54 (lv_at hl 5 rfl) ?_
          refine lv_bipush (v := (121 : Int32)) hx hb dL_pairing_56 (by decide) ?_
          refine lv_idiv hx hb dL_pairing_58 (by decide) ?_
          refine lv_goto (tgt := 84) hx hb dL_pairing_59 (by decide) ?_
          exact B84 K2 hK2 K38 hK38 _ _ _ _ _ _ _ _ hg hw (lv_sub hl [0, 1, 2, 3, 5, 6] rfl)
  have L38 : ∀ (K2 : Hp → Int32 → Option (Int32 × Hp)) (hK2 : ∀ (S : Hp) (v3 : Int32) (H : Heap) (locs : List Loc) (ls : Array Slot), K2 S v3 = some (r, S9) → Wd D C (va_A (wP C S0) z) s.heap S z H locs s → lv_has ls 11 [(0, .ref a0), (1, .ref a1), (2, .ref a2), (3, .int v3)] → W p l e rm_L_pairing s m ([.ref a0, .ref a1, .ref a2] : List Value).toArray below meth c H locs 0 0 (MQ below (QiW D C S0 z r S9 z) ([.ref a0, .ref a1, .ref a2] : List Value).toArray s 0 0 (va_A (wP C S0) z)) (F0 m 2 ls [])) (k : Nat) (S : Hp) (v3 : Int32) (v4 : Int32) (v5 : Int32) (v6 : Int32) (H : Heap) (locs : List Loc) (ls : Array Slot), f_L_pairing_l38 N a0 a1 a2 K2 k S v3 v4 v5 v6 = some (r, S9) → Wd D C (va_A (wP C S0) z) s.heap S z H locs s → lv_has ls 11 [(0, .ref a0), (1, .ref a1), (2, .ref a2), (3, .int v3), (4, .int v4), (5, .int v5), (6, .int v6)] → W p l e rm_L_pairing s m ([.ref a0, .ref a1, .ref a2] : List Value).toArray below meth c H locs 0 0 (MQ below (QiW D C S0 z r S9 z) ([.ref a0, .ref a1, .ref a2] : List Value).toArray s 0 0 (va_A (wP C S0) z)) (F0 m 38 ls []) := by
    intro K2 hK2 k
    induction k with
    | zero => intro S v3 v4 v5 v6 H locs ls hg hw hl; exact absurd (show (none : Option (Int32 × Hp)) = some (r, S9) from hg) (by simp)
    | succ k ih => intro S v3 v4 v5 v6 H locs ls hg hw hl; exact B38 K2 hK2 (f_L_pairing_l38 N a0 a1 a2 K2 k) ih S v3 v4 v5 v6 H locs ls hg hw hl
  have B12 : ∀ (K2 : Hp → Int32 → Option (Int32 × Hp)) (hK2 : ∀ (S : Hp) (v3 : Int32) (H : Heap) (locs : List Loc) (ls : Array Slot), K2 S v3 = some (r, S9) → Wd D C (va_A (wP C S0) z) s.heap S z H locs s → lv_has ls 11 [(0, .ref a0), (1, .ref a1), (2, .ref a2), (3, .int v3)] → W p l e rm_L_pairing s m ([.ref a0, .ref a1, .ref a2] : List Value).toArray below meth c H locs 0 0 (MQ below (QiW D C S0 z r S9 z) ([.ref a0, .ref a1, .ref a2] : List Value).toArray s 0 0 (va_A (wP C S0) z)) (F0 m 2 ls [])) (K12 : Hp → Int32 → Int32 → Option (Int32 × Hp)) (hK12 : ∀ (S : Hp) (v3 : Int32) (v4 : Int32) (H : Heap) (locs : List Loc) (ls : Array Slot), K12 S v3 v4 = some (r, S9) → Wd D C (va_A (wP C S0) z) s.heap S z H locs s → lv_has ls 11 [(0, .ref a0), (1, .ref a1), (2, .ref a2), (3, .int v3), (4, .int v4)] → W p l e rm_L_pairing s m ([.ref a0, .ref a1, .ref a2] : List Value).toArray below meth c H locs 0 0 (MQ below (QiW D C S0 z r S9 z) ([.ref a0, .ref a1, .ref a2] : List Value).toArray s 0 0 (va_A (wP C S0) z)) (F0 m 12 ls [])) (S : Hp) (v3 : Int32) (v4 : Int32) (H : Heap) (locs : List Loc) (ls : Array Slot), f_L_pairing_b12 N a0 a1 a2 K2 K12 S v3 v4 = some (r, S9) → Wd D C (va_A (wP C S0) z) s.heap S z H locs s → lv_has ls 11 [(0, .ref a0), (1, .ref a1), (2, .ref a2), (3, .int v3), (4, .int v4)] → W p l e rm_L_pairing s m ([.ref a0, .ref a1, .ref a2] : List Value).toArray below meth c H locs 0 0 (MQ below (QiW D C S0 z r S9 z) ([.ref a0, .ref a1, .ref a2] : List Value).toArray s 0 0 (va_A (wP C S0) z)) (F0 m 12 ls []) := by
    intro K2 hK2 K12 hK12 S v3 v4 H locs ls hg hw hl
    unfold f_L_pairing_b12 at hg
    refine lv_iload hx hb dL_pairing_12 (lv_at hl 4 rfl) ?_
    refine lv_iconst (v := (5 : Int32)) hx hb dL_pairing_14 (by decide) ?_
    refine lv_icmp_ge (tgt := 29) hx hb dL_pairing_15 (by decide) (fun c11 => ?_) (fun c11 => ?_)
    · have hg := it_pos hg c11
      refine lv_iconst (v := (1 : Int32)) hx hb dL_pairing_29 (by decide) ?_
      refine lv_istore (lv' := [(4, .int (1 : Int32)), (0, .ref a0), (1, .ref a1), (2, .ref a2), (3, .int v3)]) hx hb dL_pairing_30 hl (by decide) rfl (fun ls hl => ?_)
      refine lv_iload_n hx hb dL_pairing_32 rfl (lv_at hl 4 rfl) ?_
      refine lv_istore (lv' := [(5, .int v3), (4, .int (1 : Int32)), (0, .ref a0), (1, .ref a1), (2, .ref a2), (3, .int v3)]) hx hb dL_pairing_33 hl (by decide) rfl (fun ls hl => ?_)
      refine lv_iconst (v := (0 : Int32)) hx hb dL_pairing_35 (by decide) ?_
      refine lv_istore (lv' := [(6, .int (0 : Int32)), (5, .int v3), (4, .int (1 : Int32)), (0, .ref a0), (1, .ref a1), (2, .ref a2), (3, .int v3)]) hx hb dL_pairing_36 hl (by decide) rfl (fun ls hl => ?_)
      exact L38 K2 hK2 N _ _ _ _ _ _ _ _ hg hw (lv_sub hl [3, 4, 5, 6, 2, 1, 0] rfl)
    · have hg := it_neg hg c11
      refine lv_aload_n hx hb dL_pairing_18 rfl (lv_at hl 2 rfl) ?_
      refine lv_iload hx hb dL_pairing_19 (lv_at hl 4 rfl) ?_
      refine lv_iconst (v := (-1 : Int32)) hx hb dL_pairing_21 (by decide) ?_
      obtain ⟨hok12, hg⟩ := gd_some hg
      obtain ⟨hin13, hg⟩ := gd_some hg
      refine wr_iast hx hb hw hok12 (inb_vp hin13) dL_pairing_22 (fun H locs hw => ?_)
      refine lv_iinc (v := (v4 + (1 : Int32))) (lv' := [(4, .int (v4 + (1 : Int32))), (0, .ref a0), (1, .ref a1), (2, .ref a2), (3, .int v3)]) hx hb dL_pairing_23 hl (k := 4) rfl rfl (by decide) rfl (fun ls hl => ?_)
      refine lv_goto (tgt := 12) hx hb dL_pairing_26 (by decide) ?_
      exact hK12 _ _ _ _ _ _ hg hw (lv_sub hl [1, 2, 3, 4, 0] rfl)
  have L12 : ∀ (K2 : Hp → Int32 → Option (Int32 × Hp)) (hK2 : ∀ (S : Hp) (v3 : Int32) (H : Heap) (locs : List Loc) (ls : Array Slot), K2 S v3 = some (r, S9) → Wd D C (va_A (wP C S0) z) s.heap S z H locs s → lv_has ls 11 [(0, .ref a0), (1, .ref a1), (2, .ref a2), (3, .int v3)] → W p l e rm_L_pairing s m ([.ref a0, .ref a1, .ref a2] : List Value).toArray below meth c H locs 0 0 (MQ below (QiW D C S0 z r S9 z) ([.ref a0, .ref a1, .ref a2] : List Value).toArray s 0 0 (va_A (wP C S0) z)) (F0 m 2 ls [])) (k : Nat) (S : Hp) (v3 : Int32) (v4 : Int32) (H : Heap) (locs : List Loc) (ls : Array Slot), f_L_pairing_l12 N a0 a1 a2 K2 k S v3 v4 = some (r, S9) → Wd D C (va_A (wP C S0) z) s.heap S z H locs s → lv_has ls 11 [(0, .ref a0), (1, .ref a1), (2, .ref a2), (3, .int v3), (4, .int v4)] → W p l e rm_L_pairing s m ([.ref a0, .ref a1, .ref a2] : List Value).toArray below meth c H locs 0 0 (MQ below (QiW D C S0 z r S9 z) ([.ref a0, .ref a1, .ref a2] : List Value).toArray s 0 0 (va_A (wP C S0) z)) (F0 m 12 ls []) := by
    intro K2 hK2 k
    induction k with
    | zero => intro S v3 v4 H locs ls hg hw hl; exact absurd (show (none : Option (Int32 × Hp)) = some (r, S9) from hg) (by simp)
    | succ k ih => intro S v3 v4 H locs ls hg hw hl; exact B12 K2 hK2 (f_L_pairing_l12 N a0 a1 a2 K2 k) ih S v3 v4 H locs ls hg hw hl
  have B2 : ∀ (K2 : Hp → Int32 → Option (Int32 × Hp)) (hK2 : ∀ (S : Hp) (v3 : Int32) (H : Heap) (locs : List Loc) (ls : Array Slot), K2 S v3 = some (r, S9) → Wd D C (va_A (wP C S0) z) s.heap S z H locs s → lv_has ls 11 [(0, .ref a0), (1, .ref a1), (2, .ref a2), (3, .int v3)] → W p l e rm_L_pairing s m ([.ref a0, .ref a1, .ref a2] : List Value).toArray below meth c H locs 0 0 (MQ below (QiW D C S0 z r S9 z) ([.ref a0, .ref a1, .ref a2] : List Value).toArray s 0 0 (va_A (wP C S0) z)) (F0 m 2 ls [])) (S : Hp) (v3 : Int32) (H : Heap) (locs : List Loc) (ls : Array Slot), f_L_pairing_b2 N a0 a1 a2 K2 S v3 = some (r, S9) → Wd D C (va_A (wP C S0) z) s.heap S z H locs s → lv_has ls 11 [(0, .ref a0), (1, .ref a1), (2, .ref a2), (3, .int v3)] → W p l e rm_L_pairing s m ([.ref a0, .ref a1, .ref a2] : List Value).toArray below meth c H locs 0 0 (MQ below (QiW D C S0 z r S9 z) ([.ref a0, .ref a1, .ref a2] : List Value).toArray s 0 0 (va_A (wP C S0) z)) (F0 m 2 ls []) := by
    intro K2 hK2 S v3 H locs ls hg hw hl
    unfold f_L_pairing_b2 at hg
    refine lv_iload_n hx hb dL_pairing_2 rfl (lv_at hl 3 rfl) ?_
    refine lv_sipush (v := (1331 : Int32)) hx hb dL_pairing_3 (by decide) ?_
    refine lv_icmp_ge (tgt := 369) hx hb dL_pairing_6 (by decide) (fun c10 => ?_) (fun c10 => ?_)
    · have hg := it_pos hg c10
      refine lv_iconst (v := (0 : Int32)) hx hb dL_pairing_369 (by decide) ?_
      cases hg
      exact wr_zret hx hb hr (by decide) hw dL_pairing_370 hlk
    · have hg := it_neg hg c10
      refine lv_iconst (v := (0 : Int32)) hx hb dL_pairing_9 (by decide) ?_
      refine lv_istore (lv' := [(4, .int (0 : Int32)), (0, .ref a0), (1, .ref a1), (2, .ref a2), (3, .int v3)]) hx hb dL_pairing_10 hl (by decide) rfl (fun ls hl => ?_)
      exact L12 K2 hK2 N _ _ _ _ _ _ hg hw (lv_sub hl [1, 2, 3, 4, 0] rfl)
  have L2 : ∀ (k : Nat) (S : Hp) (v3 : Int32) (H : Heap) (locs : List Loc) (ls : Array Slot), f_L_pairing_l2 N a0 a1 a2 k S v3 = some (r, S9) → Wd D C (va_A (wP C S0) z) s.heap S z H locs s → lv_has ls 11 [(0, .ref a0), (1, .ref a1), (2, .ref a2), (3, .int v3)] → W p l e rm_L_pairing s m ([.ref a0, .ref a1, .ref a2] : List Value).toArray below meth c H locs 0 0 (MQ below (QiW D C S0 z r S9 z) ([.ref a0, .ref a1, .ref a2] : List Value).toArray s 0 0 (va_A (wP C S0) z)) (F0 m 2 ls []) := by
    intro k
    induction k with
    | zero => intro S v3 H locs ls hg hw hl; exact absurd (show (none : Option (Int32 × Hp)) = some (r, S9) from hg) (by simp)
    | succ k ih => intro S v3 H locs ls hg hw hl; exact B2 (f_L_pairing_l2 N a0 a1 a2 k) ih S v3 H locs ls hg hw hl
  have B0 : ∀ (S : Hp) (H : Heap) (locs : List Loc) (ls : Array Slot), f_L_pairing N S a0 a1 a2 = some (r, S9) → Wd D C (va_A (wP C S0) z) s.heap S z H locs s → lv_has ls 11 [(0, .ref a0), (1, .ref a1), (2, .ref a2)] → W p l e rm_L_pairing s m ([.ref a0, .ref a1, .ref a2] : List Value).toArray below meth c H locs 0 0 (MQ below (QiW D C S0 z r S9 z) ([.ref a0, .ref a1, .ref a2] : List Value).toArray s 0 0 (va_A (wP C S0) z)) (F0 m 0 ls []) := by
    intro S H locs ls hg hw hl
    unfold f_L_pairing at hg
    refine lv_iconst (v := (0 : Int32)) hx hb dL_pairing_0 (by decide) ?_
    refine lv_istore_n (lv' := [(3, .int (0 : Int32)), (0, .ref a0), (1, .ref a1), (2, .ref a2)]) hx hb dL_pairing_1 rfl hl (by decide) rfl (fun ls hl => ?_)
    exact L2 N _ _ _ _ _ hg hw (lv_sub hl [1, 2, 3, 0] rfl)
  exact B0 S0 _ _ _ hg hw hl
