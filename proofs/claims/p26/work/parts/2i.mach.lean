abbrev rm_L_agree : Room := { frames := 34, cells := 0, slots := 0, locals := 1587 }
set_option maxHeartbeats 4000000 in
set_option maxRecDepth 100000 in
theorem c_L_agree (l : Launch) (D : va_G) (C : C3) (N : Nat) (S0 : Hp) (z : Nat) (a0 : Nat) (a1 : Nat) (a2 : Nat) (a3 : Nat) (r : Int32) (S9 : Hp) (hg : f_L_agree N S0 a0 a1 a2 a3 = some (r, S9)) : MetI l yL_agree wsL_agree rm_L_agree D C S0 z [.ref a0, .ref a1, .ref a2, .ref a3] r S9 z 0 0 := by
  refine mw_ofW (cc := cL_agree) (maxL := 9) (ret := (some .boolean)) (lv := [(0, .ref a0), (1, .ref a1), (2, .ref a2), (3, .ref a3)]) (by decide) rfl (Nat.le_of_ble_eq_true rfl) rfl ?_
  intro p e s m below meth c ls hx hb hr hts hown hlk hml hnm hl hw
  have hown : s.vm.findClass RL = some m.cls := hown
  have B387 : ∀ (S : Hp) (s0 : Int32) (s1 : Int32) (H : Heap) (locs : List Loc) (ls : Array Slot), f_L_agree_b387 N a0 a1 a2 a3 S s0 s1 = some (r, S9) → Wd D C (va_A (wP C S0) z) s.heap S z H locs s → lv_has ls 9 [(0, .ref a0), (1, .ref a1)] → W p l e rm_L_agree s m ([.ref a0, .ref a1, .ref a2, .ref a3] : List Value).toArray below meth c H locs 0 0 (MQ below (QiW D C S0 z r S9 z) ([.ref a0, .ref a1, .ref a2, .ref a3] : List Value).toArray s 0 0 (va_A (wP C S0) z)) (F0 m 387 ls [.int s0, .int s1]) := by
    intro S s0 s1 H locs ls hg hw hl
    unfold f_L_agree_b387 at hg
    refine lv_icmp_ne (tgt := 471) hx hb dL_agree_387 (by decide) (fun c101 => ?_) (fun c101 => ?_)
    · have hg := it_neg hg c101
      refine lv_iconst (v := (0 : Int32)) hx hb dL_agree_471 (by decide) ?_
      cases hg
      exact wr_zret hx hb hr (by decide) hw dL_agree_472 hlk
    · have hg := it_pos hg c101
      refine lv_aload_n hx hb dL_agree_390 rfl (lv_at hl 0 rfl) ?_
      refine lv_bipush (v := (9 : Int32)) hx hb dL_agree_391 (by decide) ?_
      obtain ⟨hok102, hg⟩ := gd_some hg
      obtain ⟨r103, S103, hc103, hg⟩ := cl_some hg
      refine wr_ci (va_runV (As := [.int (9 : Int32)]) (rest := []) ⟨hx, hb, hml, hown, hts⟩ (c_X6_count l D C N S z a0 ((9 : Int32)) r103 S103 hc103) (cwV 1 hts gL_agree_X6_count rfl rfl rfl (by decide +kernel) ⟨Nat.le_of_ble_eq_true rfl, Nat.le_of_ble_eq_true rfl⟩) (wd_preV hw hok102 (wF_6 (S := S) hok102.2) rfl) rfl rfl hl.1 rfl (lv_room (Nat.le_of_ble_eq_true rfl)) dL_agree_393 ⟨Nat.zero_le _, Nat.zero_le _⟩) hw (fun H locs hw => ?_)
      refine lv_aload_n hx hb dL_agree_396 rfl (lv_at hl 1 rfl) ?_
      obtain ⟨r104, S104, hc104, hg⟩ := cl_some hg
      refine wr_ci (va_runS (As := [.ref a1]) (rest := [.int r103]) ⟨hx, hb, hml, hown, hts⟩ (c_L_free l D C N S103 z a1 r104 S104 hc104) (va_cwS 1 hts gL_agree_L_free rfl rfl rfl (by decide +kernel) ⟨Nat.le_of_ble_eq_true rfl, Nat.le_of_ble_eq_true rfl⟩) (wd_preS hw) rfl rfl hl.1 rfl (lv_room (Nat.le_of_ble_eq_true rfl)) dL_agree_397 ⟨Nat.zero_le _, Nat.zero_le _⟩) hw (fun H locs hw => ?_)
      refine lv_icmp_ne (tgt := 471) hx hb dL_agree_400 (by decide) (fun c105 => ?_) (fun c105 => ?_)
      · have hg := it_neg hg c105
        refine lv_iconst (v := (0 : Int32)) hx hb dL_agree_471 (by decide) ?_
        cases hg
        exact wr_zret hx hb hr (by decide) hw dL_agree_472 hlk
      · have hg := it_pos hg c105
        refine lv_aload_n hx hb dL_agree_403 rfl (lv_at hl 0 rfl) ?_
        refine lv_bipush (v := (10 : Int32)) hx hb dL_agree_404 (by decide) ?_
        obtain ⟨hok106, hg⟩ := gd_some hg
        obtain ⟨r107, S107, hc107, hg⟩ := cl_some hg
        refine wr_ci (va_runV (As := [.int (10 : Int32)]) (rest := []) ⟨hx, hb, hml, hown, hts⟩ (c_X6_count l D C N S104 z a0 ((10 : Int32)) r107 S107 hc107) (cwV 1 hts gL_agree_X6_count rfl rfl rfl (by decide +kernel) ⟨Nat.le_of_ble_eq_true rfl, Nat.le_of_ble_eq_true rfl⟩) (wd_preV hw hok106 (wF_6 (S := S104) hok106.2) rfl) rfl rfl hl.1 rfl (lv_room (Nat.le_of_ble_eq_true rfl)) dL_agree_406 ⟨Nat.zero_le _, Nat.zero_le _⟩) hw (fun H locs hw => ?_)
        refine lv_aload_n hx hb dL_agree_409 rfl (lv_at hl 1 rfl) ?_
        refine lv_bipush (v := (7 : Int32)) hx hb dL_agree_410 (by decide) ?_
        obtain ⟨hok108, hg⟩ := gd_some hg
        obtain ⟨hin109, hg⟩ := gd_some hg
        refine wr_iald hx hb hw hok108 (inb_vp hin109) dL_agree_412 ?_
        refine lv_icmp_ne (tgt := 471) hx hb dL_agree_413 (by decide) (fun c110 => ?_) (fun c110 => ?_)
        · have hg := it_neg hg c110
          refine lv_iconst (v := (0 : Int32)) hx hb dL_agree_471 (by decide) ?_
          cases hg
          exact wr_zret hx hb hr (by decide) hw dL_agree_472 hlk
        · have hg := it_pos hg c110
          refine lv_aload_n hx hb dL_agree_416 rfl (lv_at hl 0 rfl) ?_
          refine lv_bipush (v := (11 : Int32)) hx hb dL_agree_417 (by decide) ?_
          obtain ⟨hok111, hg⟩ := gd_some hg
          obtain ⟨r112, S112, hc112, hg⟩ := cl_some hg
          refine wr_ci (va_runV (As := [.int (11 : Int32)]) (rest := []) ⟨hx, hb, hml, hown, hts⟩ (c_X6_count l D C N S107 z a0 ((11 : Int32)) r112 S112 hc112) (cwV 1 hts gL_agree_X6_count rfl rfl rfl (by decide +kernel) ⟨Nat.le_of_ble_eq_true rfl, Nat.le_of_ble_eq_true rfl⟩) (wd_preV hw hok111 (wF_6 (S := S107) hok111.2) rfl) rfl rfl hl.1 rfl (lv_room (Nat.le_of_ble_eq_true rfl)) dL_agree_419 ⟨Nat.zero_le _, Nat.zero_le _⟩) hw (fun H locs hw => ?_)
          refine lv_aload_n hx hb dL_agree_422 rfl (lv_at hl 1 rfl) ?_
          refine lv_bipush (v := (8 : Int32)) hx hb dL_agree_423 (by decide) ?_
          obtain ⟨hok113, hg⟩ := gd_some hg
          obtain ⟨hin114, hg⟩ := gd_some hg
          refine wr_iald hx hb hw hok113 (inb_vp hin114) dL_agree_425 ?_
          refine lv_icmp_ne (tgt := 471) hx hb dL_agree_426 (by decide) (fun c115 => ?_) (fun c115 => ?_)
          · have hg := it_neg hg c115
            refine lv_iconst (v := (0 : Int32)) hx hb dL_agree_471 (by decide) ?_
            cases hg
            exact wr_zret hx hb hr (by decide) hw dL_agree_472 hlk
          · have hg := it_pos hg c115
            refine lv_aload_n hx hb dL_agree_429 rfl (lv_at hl 0 rfl) ?_
            refine lv_bipush (v := (12 : Int32)) hx hb dL_agree_430 (by decide) ?_
            obtain ⟨hok116, hg⟩ := gd_some hg
            obtain ⟨r117, S117, hc117, hg⟩ := cl_some hg
            refine wr_ci (va_runV (As := [.int (12 : Int32)]) (rest := []) ⟨hx, hb, hml, hown, hts⟩ (c_X6_count l D C N S112 z a0 ((12 : Int32)) r117 S117 hc117) (cwV 1 hts gL_agree_X6_count rfl rfl rfl (by decide +kernel) ⟨Nat.le_of_ble_eq_true rfl, Nat.le_of_ble_eq_true rfl⟩) (wd_preV hw hok116 (wF_6 (S := S112) hok116.2) rfl) rfl rfl hl.1 rfl (lv_room (Nat.le_of_ble_eq_true rfl)) dL_agree_432 ⟨Nat.zero_le _, Nat.zero_le _⟩) hw (fun H locs hw => ?_)
            refine lv_aload_n hx hb dL_agree_435 rfl (lv_at hl 1 rfl) ?_
            refine lv_bipush (v := (9 : Int32)) hx hb dL_agree_436 (by decide) ?_
            obtain ⟨hok118, hg⟩ := gd_some hg
            obtain ⟨hin119, hg⟩ := gd_some hg
            refine wr_iald hx hb hw hok118 (inb_vp hin119) dL_agree_438 ?_
            refine lv_icmp_ne (tgt := 471) hx hb dL_agree_439 (by decide) (fun c120 => ?_) (fun c120 => ?_)
            · have hg := it_neg hg c120
              refine lv_iconst (v := (0 : Int32)) hx hb dL_agree_471 (by decide) ?_
              cases hg
              exact wr_zret hx hb hr (by decide) hw dL_agree_472 hlk
            · have hg := it_pos hg c120
              refine lv_aload_n hx hb dL_agree_442 rfl (lv_at hl 0 rfl) ?_
              refine lv_bipush (v := (13 : Int32)) hx hb dL_agree_443 (by decide) ?_
              obtain ⟨hok121, hg⟩ := gd_some hg
              obtain ⟨r122, S122, hc122, hg⟩ := cl_some hg
              refine wr_ci (va_runV (As := [.int (13 : Int32)]) (rest := []) ⟨hx, hb, hml, hown, hts⟩ (c_X6_count l D C N S117 z a0 ((13 : Int32)) r122 S122 hc122) (cwV 1 hts gL_agree_X6_count rfl rfl rfl (by decide +kernel) ⟨Nat.le_of_ble_eq_true rfl, Nat.le_of_ble_eq_true rfl⟩) (wd_preV hw hok121 (wF_6 (S := S117) hok121.2) rfl) rfl rfl hl.1 rfl (lv_room (Nat.le_of_ble_eq_true rfl)) dL_agree_445 ⟨Nat.zero_le _, Nat.zero_le _⟩) hw (fun H locs hw => ?_)
              refine lv_aload_n hx hb dL_agree_448 rfl (lv_at hl 1 rfl) ?_
              refine lv_iconst (v := (5 : Int32)) hx hb dL_agree_449 (by decide) ?_
              obtain ⟨hok123, hg⟩ := gd_some hg
              obtain ⟨hin124, hg⟩ := gd_some hg
              refine wr_iald hx hb hw hok123 (inb_vp hin124) dL_agree_450 ?_
              refine lv_icmp_ne (tgt := 471) hx hb dL_agree_451 (by decide) (fun c125 => ?_) (fun c125 => ?_)
              · have hg := it_neg hg c125
                refine lv_iconst (v := (0 : Int32)) hx hb dL_agree_471 (by decide) ?_
                cases hg
                exact wr_zret hx hb hr (by decide) hw dL_agree_472 hlk
              · have hg := it_pos hg c125
                refine lv_aload_n hx hb dL_agree_454 rfl (lv_at hl 0 rfl) ?_
                refine lv_bipush (v := (15 : Int32)) hx hb dL_agree_455 (by decide) ?_
                obtain ⟨hok126, hg⟩ := gd_some hg
                obtain ⟨r127, S127, hc127, hg⟩ := cl_some hg
                refine wr_ci (va_runV (As := [.int (15 : Int32)]) (rest := []) ⟨hx, hb, hml, hown, hts⟩ (c_X6_count l D C N S122 z a0 ((15 : Int32)) r127 S127 hc127) (cwV 1 hts gL_agree_X6_count rfl rfl rfl (by decide +kernel) ⟨Nat.le_of_ble_eq_true rfl, Nat.le_of_ble_eq_true rfl⟩) (wd_preV hw hok126 (wF_6 (S := S122) hok126.2) rfl) rfl rfl hl.1 rfl (lv_room (Nat.le_of_ble_eq_true rfl)) dL_agree_457 ⟨Nat.zero_le _, Nat.zero_le _⟩) hw (fun H locs hw => ?_)
                refine lv_aload_n hx hb dL_agree_460 rfl (lv_at hl 1 rfl) ?_
                refine lv_bipush (v := (10 : Int32)) hx hb dL_agree_461 (by decide) ?_
                obtain ⟨hok128, hg⟩ := gd_some hg
                obtain ⟨hin129, hg⟩ := gd_some hg
                refine wr_iald hx hb hw hok128 (inb_vp hin129) dL_agree_463 ?_
                refine lv_icmp_ne (tgt := 471) hx hb dL_agree_464 (by decide) (fun c130 => ?_) (fun c130 => ?_)
                · have hg := it_neg hg c130
                  refine lv_iconst (v := (0 : Int32)) hx hb dL_agree_471 (by decide) ?_
                  cases hg
                  exact wr_zret hx hb hr (by decide) hw dL_agree_472 hlk
                · have hg := it_pos hg c130
                  refine lv_iconst (v := (1 : Int32)) hx hb dL_agree_467 (by decide) ?_
                  refine lv_goto (tgt := 472) hx hb dL_agree_468 (by decide) ?_
                  cases hg
                  exact wr_zret hx hb hr (by decide) hw dL_agree_472 hlk
  have B367 : ∀ (S : Hp) (v5 : Int32) (v6 : Int32) (s0 : Int32) (s1 : Int32) (H : Heap) (locs : List Loc) (ls : Array Slot), f_L_agree_b367 N a0 a1 a2 a3 S v5 v6 s0 s1 = some (r, S9) → Wd D C (va_A (wP C S0) z) s.heap S z H locs s → lv_has ls 9 [(0, .ref a0), (1, .ref a1), (5, .int v5), (6, .int v6)] → W p l e rm_L_agree s m ([.ref a0, .ref a1, .ref a2, .ref a3] : List Value).toArray below meth c H locs 0 0 (MQ below (QiW D C S0 z r S9 z) ([.ref a0, .ref a1, .ref a2, .ref a3] : List Value).toArray s 0 0 (va_A (wP C S0) z)) (F0 m 367 ls [.int s0, .int s1]) := by
    intro S v5 v6 s0 s1 H locs ls hg hw hl
    unfold f_L_agree_b367 at hg
    refine lv_icmp_ne (tgt := 471) hx hb dL_agree_367 (by decide) (fun c97 => ?_) (fun c97 => ?_)
    · have hg := it_neg hg c97
      refine lv_iconst (v := (0 : Int32)) hx hb dL_agree_471 (by decide) ?_
      cases hg
      exact wr_zret hx hb hr (by decide) hw dL_agree_472 hlk
    · have hg := it_pos hg c97
      refine lv_aload_n hx hb dL_agree_370 rfl (lv_at hl 0 rfl) ?_
      refine lv_bipush (v := (8 : Int32)) hx hb dL_agree_371 (by decide) ?_
      obtain ⟨hok98, hg⟩ := gd_some hg
      obtain ⟨r99, S99, hc99, hg⟩ := cl_some hg
      refine wr_ci (va_runV (As := [.int (8 : Int32)]) (rest := []) ⟨hx, hb, hml, hown, hts⟩ (c_X6_count l D C N S z a0 ((8 : Int32)) r99 S99 hc99) (cwV 1 hts gL_agree_X6_count rfl rfl rfl (by decide +kernel) ⟨Nat.le_of_ble_eq_true rfl, Nat.le_of_ble_eq_true rfl⟩) (wd_preV hw hok98 (wF_6 (S := S) hok98.2) rfl) rfl rfl hl.1 rfl (lv_room (Nat.le_of_ble_eq_true rfl)) dL_agree_373 ⟨Nat.zero_le _, Nat.zero_le _⟩) hw (fun H locs hw => ?_)
      refine lv_iload hx hb dL_agree_376 (lv_at hl 2 rfl) ?_
      refine lv_if_eq (tgt := 386) hx hb dL_agree_378 (by decide) (fun c100 => ?_) (fun c100 => ?_)
      · have hg := it_pos hg c100
        refine lv_iconst (v := (-1 : Int32)) hx hb dL_agree_386 (by decide) ?_
        exact B387 _ _ _ _ _ _ hg hw (lv_sub hl [0, 1] rfl)
      · have hg := it_neg hg c100
        refine lv_iload hx hb dL_agree_381 (lv_at hl 3 rfl) ?_
        refine lv_goto (tgt := 387) hx hb dL_agree_383 (by decide) ?_
        exact B387 _ _ _ _ _ _ hg hw (lv_sub hl [0, 1] rfl)
  have B317 : ∀ (S : Hp) (v5 : Int32) (v6 : Int32) (v7 : Int32) (s0 : Int32) (s1 : Int32) (H : Heap) (locs : List Loc) (ls : Array Slot), f_L_agree_b317 N a0 a1 a2 a3 S v5 v6 v7 s0 s1 = some (r, S9) → Wd D C (va_A (wP C S0) z) s.heap S z H locs s → lv_has ls 9 [(0, .ref a0), (1, .ref a1), (2, .ref a2), (5, .int v5), (6, .int v6), (7, .int v7)] → W p l e rm_L_agree s m ([.ref a0, .ref a1, .ref a2, .ref a3] : List Value).toArray below meth c H locs 0 0 (MQ below (QiW D C S0 z r S9 z) ([.ref a0, .ref a1, .ref a2, .ref a3] : List Value).toArray s 0 0 (va_A (wP C S0) z)) (F0 m 317 ls [.int s0, .int s1]) := by
    intro S v5 v6 v7 s0 s1 H locs ls hg hw hl
    unfold f_L_agree_b317 at hg
    refine lv_icmp_ne (tgt := 471) hx hb dL_agree_317 (by decide) (fun c84 => ?_) (fun c84 => ?_)
    · have hg := it_neg hg c84
      refine lv_iconst (v := (0 : Int32)) hx hb dL_agree_471 (by decide) ?_
      cases hg
      exact wr_zret hx hb hr (by decide) hw dL_agree_472 hlk
    · have hg := it_pos hg c84
      refine lv_aload_n hx hb dL_agree_320 rfl (lv_at hl 0 rfl) ?_
      refine lv_iconst (v := (5 : Int32)) hx hb dL_agree_321 (by decide) ?_
      obtain ⟨hok85, hg⟩ := gd_some hg
      obtain ⟨r86, S86, hc86, hg⟩ := cl_some hg
      refine wr_ci (va_runV (As := [.int (5 : Int32)]) (rest := []) ⟨hx, hb, hml, hown, hts⟩ (c_X6_count l D C N S z a0 ((5 : Int32)) r86 S86 hc86) (cwV 1 hts gL_agree_X6_count rfl rfl rfl (by decide +kernel) ⟨Nat.le_of_ble_eq_true rfl, Nat.le_of_ble_eq_true rfl⟩) (wd_preV hw hok85 (wF_6 (S := S) hok85.2) rfl) rfl rfl hl.1 rfl (lv_room (Nat.le_of_ble_eq_true rfl)) dL_agree_322 ⟨Nat.zero_le _, Nat.zero_le _⟩) hw (fun H locs hw => ?_)
      refine lv_iload hx hb dL_agree_325 (lv_at hl 5 rfl) ?_
      refine lv_icmp_ne (tgt := 471) hx hb dL_agree_327 (by decide) (fun c87 => ?_) (fun c87 => ?_)
      · have hg := it_neg hg c87
        refine lv_iconst (v := (0 : Int32)) hx hb dL_agree_471 (by decide) ?_
        cases hg
        exact wr_zret hx hb hr (by decide) hw dL_agree_472 hlk
      · have hg := it_pos hg c87
        refine lv_aload_n hx hb dL_agree_330 rfl (lv_at hl 0 rfl) ?_
        refine lv_bipush (v := (6 : Int32)) hx hb dL_agree_331 (by decide) ?_
        obtain ⟨hok88, hg⟩ := gd_some hg
        obtain ⟨r89, S89, hc89, hg⟩ := cl_some hg
        refine wr_ci (va_runV (As := [.int (6 : Int32)]) (rest := []) ⟨hx, hb, hml, hown, hts⟩ (c_X6_count l D C N S86 z a0 ((6 : Int32)) r89 S89 hc89) (cwV 1 hts gL_agree_X6_count rfl rfl rfl (by decide +kernel) ⟨Nat.le_of_ble_eq_true rfl, Nat.le_of_ble_eq_true rfl⟩) (wd_preV hw hok88 (wF_6 (S := S86) hok88.2) rfl) rfl rfl hl.1 rfl (lv_room (Nat.le_of_ble_eq_true rfl)) dL_agree_333 ⟨Nat.zero_le _, Nat.zero_le _⟩) hw (fun H locs hw => ?_)
        refine lv_aload_n hx hb dL_agree_336 rfl (lv_at hl 1 rfl) ?_
        refine lv_aload_n hx hb dL_agree_337 rfl (lv_at hl 2 rfl) ?_
        obtain ⟨r90, S90, hc90, hg⟩ := cl_some hg
        refine wr_ci (va_runS (As := [.ref a1, .ref a2]) (rest := [.int r89]) ⟨hx, hb, hml, hown, hts⟩ (c_L_threats l D C N S89 z a1 a2 r90 S90 hc90) (va_cwS 2 hts gL_agree_L_threats rfl rfl rfl (by decide +kernel) ⟨Nat.le_of_ble_eq_true rfl, Nat.le_of_ble_eq_true rfl⟩) (wd_preS hw) rfl rfl hl.1 rfl (lv_room (Nat.le_of_ble_eq_true rfl)) dL_agree_338 ⟨Nat.zero_le _, Nat.zero_le _⟩) hw (fun H locs hw => ?_)
        refine lv_icmp_ne (tgt := 471) hx hb dL_agree_341 (by decide) (fun c91 => ?_) (fun c91 => ?_)
        · have hg := it_neg hg c91
          refine lv_iconst (v := (0 : Int32)) hx hb dL_agree_471 (by decide) ?_
          cases hg
          exact wr_zret hx hb hr (by decide) hw dL_agree_472 hlk
        · have hg := it_pos hg c91
          refine lv_aload_n hx hb dL_agree_344 rfl (lv_at hl 0 rfl) ?_
          refine lv_bipush (v := (7 : Int32)) hx hb dL_agree_345 (by decide) ?_
          obtain ⟨hok92, hg⟩ := gd_some hg
          obtain ⟨r93, S93, hc93, hg⟩ := cl_some hg
          refine wr_ci (va_runV (As := [.int (7 : Int32)]) (rest := []) ⟨hx, hb, hml, hown, hts⟩ (c_X6_count l D C N S90 z a0 ((7 : Int32)) r93 S93 hc93) (cwV 1 hts gL_agree_X6_count rfl rfl rfl (by decide +kernel) ⟨Nat.le_of_ble_eq_true rfl, Nat.le_of_ble_eq_true rfl⟩) (wd_preV hw hok92 (wF_6 (S := S90) hok92.2) rfl) rfl rfl hl.1 rfl (lv_room (Nat.le_of_ble_eq_true rfl)) dL_agree_347 ⟨Nat.zero_le _, Nat.zero_le _⟩) hw (fun H locs hw => ?_)
          refine lv_iload hx hb dL_agree_350 (lv_at hl 5 rfl) ?_
          refine lv_if_ne (tgt := 366) hx hb dL_agree_352 (by decide) (fun c94 => ?_) (fun c94 => ?_)
          · have hg := it_neg hg c94
            refine lv_iconst (v := (-1 : Int32)) hx hb dL_agree_366 (by decide) ?_
            exact B367 _ _ _ _ _ _ _ _ hg hw (lv_sub hl [0, 1, 3, 4] rfl)
          · have hg := it_pos hg c94
            refine lv_aload_n hx hb dL_agree_355 rfl (lv_at hl 1 rfl) ?_
            refine lv_aload_n hx hb dL_agree_356 rfl (lv_at hl 2 rfl) ?_
            obtain ⟨r95, S95, hc95, hg⟩ := cl_some hg
            refine wr_ci (va_runS (As := [.ref a1, .ref a2]) (rest := [.int r93]) ⟨hx, hb, hml, hown, hts⟩ (c_L_threats l D C N S93 z a1 a2 r95 S95 hc95) (va_cwS 2 hts gL_agree_L_threats rfl rfl rfl (by decide +kernel) ⟨Nat.le_of_ble_eq_true rfl, Nat.le_of_ble_eq_true rfl⟩) (wd_preS hw) rfl rfl hl.1 rfl (lv_room (Nat.le_of_ble_eq_true rfl)) dL_agree_357 ⟨Nat.zero_le _, Nat.zero_le _⟩) hw (fun H locs hw => ?_)
            obtain ⟨r96, S96, hc96, hg⟩ := cl_some hg
            refine wr_ci (va_runS (As := [.int r95]) (rest := [.int r93]) ⟨hx, hb, hml, hown, hts⟩ (c_L_low l D C N S95 z r95 r96 S96 hc96) (va_cwS 1 hts gL_agree_L_low rfl rfl rfl (by decide +kernel) ⟨Nat.le_of_ble_eq_true rfl, Nat.le_of_ble_eq_true rfl⟩) (wd_preS hw) rfl rfl hl.1 rfl (lv_room (Nat.le_of_ble_eq_true rfl)) dL_agree_360 ⟨Nat.zero_le _, Nat.zero_le _⟩) hw (fun H locs hw => ?_)
            refine lv_goto (tgt := 367) hx hb dL_agree_363 (by decide) ?_
            exact B367 _ _ _ _ _ _ _ _ hg hw (lv_sub hl [0, 1, 3, 4] rfl)
  have B260 : ∀ (K260 : Hp → Int32 → Int32 → Int32 → Int32 → Int32 → Option (Int32 × Hp)) (hK260 : ∀ (S : Hp) (v4 : Int32) (v5 : Int32) (v6 : Int32) (v7 : Int32) (v8 : Int32) (H : Heap) (locs : List Loc) (ls : Array Slot), K260 S v4 v5 v6 v7 v8 = some (r, S9) → Wd D C (va_A (wP C S0) z) s.heap S z H locs s → lv_has ls 9 [(0, .ref a0), (1, .ref a1), (2, .ref a2), (4, .int v4), (5, .int v5), (6, .int v6), (7, .int v7), (8, .int v8)] → W p l e rm_L_agree s m ([.ref a0, .ref a1, .ref a2, .ref a3] : List Value).toArray below meth c H locs 0 0 (MQ below (QiW D C S0 z r S9 z) ([.ref a0, .ref a1, .ref a2, .ref a3] : List Value).toArray s 0 0 (va_A (wP C S0) z)) (F0 m 260 ls [])) (S : Hp) (v4 : Int32) (v5 : Int32) (v6 : Int32) (v7 : Int32) (v8 : Int32) (H : Heap) (locs : List Loc) (ls : Array Slot), f_L_agree_b260 N a0 a1 a2 a3 K260 S v4 v5 v6 v7 v8 = some (r, S9) → Wd D C (va_A (wP C S0) z) s.heap S z H locs s → lv_has ls 9 [(0, .ref a0), (1, .ref a1), (2, .ref a2), (4, .int v4), (5, .int v5), (6, .int v6), (7, .int v7), (8, .int v8)] → W p l e rm_L_agree s m ([.ref a0, .ref a1, .ref a2, .ref a3] : List Value).toArray below meth c H locs 0 0 (MQ below (QiW D C S0 z r S9 z) ([.ref a0, .ref a1, .ref a2, .ref a3] : List Value).toArray s 0 0 (va_A (wP C S0) z)) (F0 m 260 ls []) := by
    intro K260 hK260 S v4 v5 v6 v7 v8 H locs ls hg hw hl
    unfold f_L_agree_b260 at hg
    refine lv_iload hx hb dL_agree_260 (lv_at hl 7 rfl) ?_
    refine lv_iconst (v := (3 : Int32)) hx hb dL_agree_262 (by decide) ?_
    refine lv_icmp_ge (tgt := 290) hx hb dL_agree_263 (by decide) (fun c66 => ?_) (fun c66 => ?_)
    · have hg := it_pos hg c66
      refine lv_aload_n hx hb dL_agree_290 rfl (lv_at hl 0 rfl) ?_
      refine lv_iconst (v := (3 : Int32)) hx hb dL_agree_291 (by decide) ?_
      obtain ⟨hok67, hg⟩ := gd_some hg
      obtain ⟨r68, S68, hc68, hg⟩ := cl_some hg
      refine wr_ci (va_runV (As := [.int (3 : Int32)]) (rest := []) ⟨hx, hb, hml, hown, hts⟩ (c_X6_count l D C N S z a0 ((3 : Int32)) r68 S68 hc68) (cwV 1 hts gL_agree_X6_count rfl rfl rfl (by decide +kernel) ⟨Nat.le_of_ble_eq_true rfl, Nat.le_of_ble_eq_true rfl⟩) (wd_preV hw hok67 (wF_6 (S := S) hok67.2) rfl) rfl rfl hl.1 rfl (lv_room (Nat.le_of_ble_eq_true rfl)) dL_agree_292 ⟨Nat.zero_le _, Nat.zero_le _⟩) hw (fun H locs hw => ?_)
      refine lv_iload hx hb dL_agree_295 (lv_at hl 3 rfl) ?_
      refine lv_icmp_ne (tgt := 471) hx hb dL_agree_297 (by decide) (fun c69 => ?_) (fun c69 => ?_)
      · have hg := it_neg hg c69
        refine lv_iconst (v := (0 : Int32)) hx hb dL_agree_471 (by decide) ?_
        cases hg
        exact wr_zret hx hb hr (by decide) hw dL_agree_472 hlk
      · have hg := it_pos hg c69
        refine lv_aload_n hx hb dL_agree_300 rfl (lv_at hl 0 rfl) ?_
        refine lv_iconst (v := (4 : Int32)) hx hb dL_agree_301 (by decide) ?_
        obtain ⟨hok70, hg⟩ := gd_some hg
        obtain ⟨r71, S71, hc71, hg⟩ := cl_some hg
        refine wr_ci (va_runV (As := [.int (4 : Int32)]) (rest := []) ⟨hx, hb, hml, hown, hts⟩ (c_X6_count l D C N S68 z a0 ((4 : Int32)) r71 S71 hc71) (cwV 1 hts gL_agree_X6_count rfl rfl rfl (by decide +kernel) ⟨Nat.le_of_ble_eq_true rfl, Nat.le_of_ble_eq_true rfl⟩) (wd_preV hw hok70 (wF_6 (S := S68) hok70.2) rfl) rfl rfl hl.1 rfl (lv_room (Nat.le_of_ble_eq_true rfl)) dL_agree_302 ⟨Nat.zero_le _, Nat.zero_le _⟩) hw (fun H locs hw => ?_)
        refine lv_iload hx hb dL_agree_305 (lv_at hl 6 rfl) ?_
        refine lv_if_ne (tgt := 316) hx hb dL_agree_307 (by decide) (fun c72 => ?_) (fun c72 => ?_)
        · have hg := it_neg hg c72
          refine lv_iconst (v := (0 : Int32)) hx hb dL_agree_316 (by decide) ?_
          exact B317 _ _ _ _ _ _ _ _ _ hg hw (lv_sub hl [0, 1, 2, 4, 5, 6] rfl)
        · have hg := it_pos hg c72
          refine lv_aload_n hx hb dL_agree_310 rfl (lv_at hl 1 rfl) ?_
          refine lv_iconst (v := (1 : Int32)) hx hb dL_agree_311 (by decide) ?_
          obtain ⟨hok73, hg⟩ := gd_some hg
          obtain ⟨hin74, hg⟩ := gd_some hg
          refine wr_iald hx hb hw hok73 (inb_vp hin74) dL_agree_312 ?_
          refine lv_goto (tgt := 317) hx hb dL_agree_313 (by decide) ?_
          exact B317 _ _ _ _ _ _ _ _ _ hg hw (lv_sub hl [0, 1, 2, 4, 5, 6] rfl)
    · have hg := it_neg hg c66
      refine lv_aload_n hx hb dL_agree_266 rfl (lv_at hl 0 rfl) ?_
      refine lv_iload hx hb dL_agree_267 (lv_at hl 7 rfl) ?_
      obtain ⟨hok75, hg⟩ := gd_some hg
      obtain ⟨r76, S76, hc76, hg⟩ := cl_some hg
      refine wr_ci (va_runV (As := [.int v8]) (rest := []) ⟨hx, hb, hml, hown, hts⟩ (c_X6_reply l D C N S z a0 v8 r76 S76 hc76) (cwV 1 hts gL_agree_X6_reply rfl rfl rfl (by decide +kernel) ⟨Nat.le_of_ble_eq_true rfl, Nat.le_of_ble_eq_true rfl⟩) (wd_preV hw hok75 (wF_6 (S := S) hok75.2) rfl) rfl rfl hl.1 rfl (lv_room (Nat.le_of_ble_eq_true rfl)) dL_agree_269 ⟨Nat.zero_le _, Nat.zero_le _⟩) hw (fun H locs hw => ?_)
      refine lv_aload_n hx hb dL_agree_272 rfl (lv_at hl 1 rfl) ?_
      refine lv_aload_n hx hb dL_agree_273 rfl (lv_at hl 2 rfl) ?_
      refine lv_iload hx hb dL_agree_274 (lv_at hl 7 rfl) ?_
      obtain ⟨r77, S77, hc77, hg⟩ := cl_some hg
      refine wr_ci (va_runS (As := [.ref a1, .ref a2, .int v8]) (rest := [.int r76]) ⟨hx, hb, hml, hown, hts⟩ (c_L_reply l D C N S76 z a1 a2 v8 r77 S77 hc77) (va_cwS 3 hts gL_agree_L_reply rfl rfl rfl (by decide +kernel) ⟨Nat.le_of_ble_eq_true rfl, Nat.le_of_ble_eq_true rfl⟩) (wd_preS hw) rfl rfl hl.1 rfl (lv_room (Nat.le_of_ble_eq_true rfl)) dL_agree_276 ⟨Nat.zero_le _, Nat.zero_le _⟩) hw (fun H locs hw => ?_)
      refine lv_icmp_eq (tgt := 284) hx hb dL_agree_279 (by decide) (fun c78 => ?_) (fun c78 => ?_)
      · have hg := it_pos hg c78
        refine lv_iinc (v := (v8 + (1 : Int32))) (lv' := [(8, .int (v8 + (1 : Int32))), (0, .ref a0), (1, .ref a1), (2, .ref a2), (4, .int v4), (5, .int v5), (6, .int v6), (7, .int v7)]) hx hb dL_agree_284 hl (k := 7) rfl rfl (by decide) rfl (fun ls hl => ?_)
        refine lv_goto (tgt := 260) hx hb dL_agree_287 (by decide) ?_
        exact hK260 _ _ _ _ _ _ _ _ _ hg hw (lv_sub hl [1, 2, 3, 4, 5, 6, 7, 0] rfl)
      · have hg := it_neg hg c78
        refine lv_iconst (v := (0 : Int32)) hx hb dL_agree_282 (by decide) ?_
        cases hg
        exact wr_zret hx hb hr (by decide) hw dL_agree_283 hlk
  have L260 : ∀ (k : Nat) (S : Hp) (v4 : Int32) (v5 : Int32) (v6 : Int32) (v7 : Int32) (v8 : Int32) (H : Heap) (locs : List Loc) (ls : Array Slot), f_L_agree_l260 N a0 a1 a2 a3 k S v4 v5 v6 v7 v8 = some (r, S9) → Wd D C (va_A (wP C S0) z) s.heap S z H locs s → lv_has ls 9 [(0, .ref a0), (1, .ref a1), (2, .ref a2), (4, .int v4), (5, .int v5), (6, .int v6), (7, .int v7), (8, .int v8)] → W p l e rm_L_agree s m ([.ref a0, .ref a1, .ref a2, .ref a3] : List Value).toArray below meth c H locs 0 0 (MQ below (QiW D C S0 z r S9 z) ([.ref a0, .ref a1, .ref a2, .ref a3] : List Value).toArray s 0 0 (va_A (wP C S0) z)) (F0 m 260 ls []) := by
    intro k
    induction k with
    | zero => intro S v4 v5 v6 v7 v8 H locs ls hg hw hl; exact absurd (show (none : Option (Int32 × Hp)) = some (r, S9) from hg) (by simp)
    | succ k ih => intro S v4 v5 v6 v7 v8 H locs ls hg hw hl; exact B260 (f_L_agree_l260 N a0 a1 a2 a3 k) ih S v4 v5 v6 v7 v8 H locs ls hg hw hl
  have B222 : ∀ (K148 : Hp → Int32 → Int32 → Int32 → Int32 → Option (Int32 × Hp)) (hK148 : ∀ (S : Hp) (v4 : Int32) (v5 : Int32) (v6 : Int32) (v7 : Int32) (H : Heap) (locs : List Loc) (ls : Array Slot), K148 S v4 v5 v6 v7 = some (r, S9) → Wd D C (va_A (wP C S0) z) s.heap S z H locs s → lv_has ls 9 [(0, .ref a0), (1, .ref a1), (2, .ref a2), (3, .ref a3), (4, .int v4), (5, .int v5), (6, .int v6), (7, .int v7)] → W p l e rm_L_agree s m ([.ref a0, .ref a1, .ref a2, .ref a3] : List Value).toArray below meth c H locs 0 0 (MQ below (QiW D C S0 z r S9 z) ([.ref a0, .ref a1, .ref a2, .ref a3] : List Value).toArray s 0 0 (va_A (wP C S0) z)) (F0 m 148 ls [])) (S : Hp) (v4 : Int32) (v5 : Int32) (v6 : Int32) (v7 : Int32) (s0 : Int32) (s1 : Int32) (H : Heap) (locs : List Loc) (ls : Array Slot), f_L_agree_b222 N a0 a1 a2 a3 K148 S v4 v5 v6 v7 s0 s1 = some (r, S9) → Wd D C (va_A (wP C S0) z) s.heap S z H locs s → lv_has ls 9 [(0, .ref a0), (1, .ref a1), (2, .ref a2), (3, .ref a3), (4, .int v4), (5, .int v5), (6, .int v6), (7, .int v7)] → W p l e rm_L_agree s m ([.ref a0, .ref a1, .ref a2, .ref a3] : List Value).toArray below meth c H locs 0 0 (MQ below (QiW D C S0 z r S9 z) ([.ref a0, .ref a1, .ref a2, .ref a3] : List Value).toArray s 0 0 (va_A (wP C S0) z)) (F0 m 222 ls [.int s0, .int s1]) := by
    intro K148 hK148 S v4 v5 v6 v7 s0 s1 H locs ls hg hw hl
    unfold f_L_agree_b222 at hg
    refine lv_icmp_eq (tgt := 227) hx hb dL_agree_222 (by decide) (fun c79 => ?_) (fun c79 => ?_)
    · have hg := it_pos hg c79
      refine lv_iload hx hb dL_agree_227 (lv_at hl 5 rfl) ?_
      refine lv_if_eq (tgt := 244) hx hb dL_agree_229 (by decide) (fun c80 => ?_) (fun c80 => ?_)
      · have hg := it_pos hg c80
        refine lv_iinc (v := (v7 + (1 : Int32))) (lv' := [(7, .int (v7 + (1 : Int32))), (0, .ref a0), (1, .ref a1), (2, .ref a2), (3, .ref a3), (4, .int v4), (5, .int v5), (6, .int v6)]) hx hb dL_agree_244 hl (k := 7) rfl rfl (by decide) rfl (fun ls hl => ?_)
        refine lv_goto (tgt := 148) hx hb dL_agree_247 (by decide) ?_
        exact hK148 _ _ _ _ _ _ _ _ hg hw (lv_sub hl [1, 2, 3, 4, 5, 6, 7, 0] rfl)
      · have hg := it_neg hg c80
        refine lv_aload_n hx hb dL_agree_232 rfl (lv_at hl 3 rfl) ?_
        refine lv_iload hx hb dL_agree_233 (lv_at hl 7 rfl) ?_
        obtain ⟨hok81, hg⟩ := gd_some hg
        obtain ⟨hin82, hg⟩ := gd_some hg
        refine wr_iald hx hb hw hok81 (inb_vp hin82) dL_agree_235 ?_
        refine lv_iload hx hb dL_agree_236 (lv_at hl 7 rfl) ?_
        refine lv_icmp_le (tgt := 244) hx hb dL_agree_238 (by decide) (fun c83 => ?_) (fun c83 => ?_)
        · have hg := it_pos hg c83
          refine lv_iinc (v := (v7 + (1 : Int32))) (lv' := [(7, .int (v7 + (1 : Int32))), (0, .ref a0), (1, .ref a1), (2, .ref a2), (3, .ref a3), (4, .int v4), (5, .int v5), (6, .int v6)]) hx hb dL_agree_244 hl (k := 7) rfl rfl (by decide) rfl (fun ls hl => ?_)
          refine lv_goto (tgt := 148) hx hb dL_agree_247 (by decide) ?_
          exact hK148 _ _ _ _ _ _ _ _ hg hw (lv_sub hl [1, 2, 3, 4, 5, 6, 7, 0] rfl)
        · have hg := it_neg hg c83
          refine lv_iinc (v := (v6 + (1 : Int32))) (lv' := [(6, .int (v6 + (1 : Int32))), (0, .ref a0), (1, .ref a1), (2, .ref a2), (3, .ref a3), (4, .int v4), (5, .int v5), (7, .int v7)]) hx hb dL_agree_241 hl (k := 6) rfl rfl (by decide) rfl (fun ls hl => ?_)
          refine lv_iinc (v := (v7 + (1 : Int32))) (lv' := [(7, .int (v7 + (1 : Int32))), (6, .int (v6 + (1 : Int32))), (0, .ref a0), (1, .ref a1), (2, .ref a2), (3, .ref a3), (4, .int v4), (5, .int v5)]) hx hb dL_agree_244 hl (k := 7) rfl rfl (by decide) rfl (fun ls hl => ?_)
          refine lv_goto (tgt := 148) hx hb dL_agree_247 (by decide) ?_
          exact hK148 _ _ _ _ _ _ _ _ hg hw (lv_sub hl [2, 3, 4, 5, 6, 7, 1, 0] rfl)
    · have hg := it_neg hg c79
      refine lv_iconst (v := (0 : Int32)) hx hb dL_agree_225 (by decide) ?_
      cases hg
      exact wr_zret hx hb hr (by decide) hw dL_agree_226 hlk
  have B148 : ∀ (K148 : Hp → Int32 → Int32 → Int32 → Int32 → Option (Int32 × Hp)) (hK148 : ∀ (S : Hp) (v4 : Int32) (v5 : Int32) (v6 : Int32) (v7 : Int32) (H : Heap) (locs : List Loc) (ls : Array Slot), K148 S v4 v5 v6 v7 = some (r, S9) → Wd D C (va_A (wP C S0) z) s.heap S z H locs s → lv_has ls 9 [(0, .ref a0), (1, .ref a1), (2, .ref a2), (3, .ref a3), (4, .int v4), (5, .int v5), (6, .int v6), (7, .int v7)] → W p l e rm_L_agree s m ([.ref a0, .ref a1, .ref a2, .ref a3] : List Value).toArray below meth c H locs 0 0 (MQ below (QiW D C S0 z r S9 z) ([.ref a0, .ref a1, .ref a2, .ref a3] : List Value).toArray s 0 0 (va_A (wP C S0) z)) (F0 m 148 ls [])) (S : Hp) (v4 : Int32) (v5 : Int32) (v6 : Int32) (v7 : Int32) (H : Heap) (locs : List Loc) (ls : Array Slot), f_L_agree_b148 N a0 a1 a2 a3 K148 S v4 v5 v6 v7 = some (r, S9) → Wd D C (va_A (wP C S0) z) s.heap S z H locs s → lv_has ls 9 [(0, .ref a0), (1, .ref a1), (2, .ref a2), (3, .ref a3), (4, .int v4), (5, .int v5), (6, .int v6), (7, .int v7)] → W p l e rm_L_agree s m ([.ref a0, .ref a1, .ref a2, .ref a3] : List Value).toArray below meth c H locs 0 0 (MQ below (QiW D C S0 z r S9 z) ([.ref a0, .ref a1, .ref a2, .ref a3] : List Value).toArray s 0 0 (va_A (wP C S0) z)) (F0 m 148 ls []) := by
    intro K148 hK148 S v4 v5 v6 v7 H locs ls hg hw hl
    unfold f_L_agree_b148 at hg
    refine lv_iload hx hb dL_agree_148 (lv_at hl 7 rfl) ?_
    refine lv_aload_n hx hb dL_agree_150 rfl (lv_at hl 1 rfl) ?_
    refine lv_iconst (v := (0 : Int32)) hx hb dL_agree_151 (by decide) ?_
    obtain ⟨hok27, hg⟩ := gd_some hg
    obtain ⟨hin28, hg⟩ := gd_some hg
    refine wr_iald hx hb hw hok27 (inb_vp hin28) dL_agree_152 ?_
    refine lv_icmp_ge (tgt := 250) hx hb dL_agree_153 (by decide) (fun c29 => ?_) (fun c29 => ?_)
    · have hg := it_pos hg c29
      refine lv_aload_n hx hb dL_agree_250 rfl (lv_at hl 1 rfl) ?_
      refine lv_aload_n hx hb dL_agree_251 rfl (lv_at hl 2 rfl) ?_
      obtain ⟨r30, S30, hc30, hg⟩ := cl_some hg
      refine wr_ci (va_runS (As := [.ref a1, .ref a2]) (rest := []) ⟨hx, hb, hml, hown, hts⟩ (c_L_winner l D C N S z a1 a2 r30 S30 hc30) (va_cwS 2 hts gL_agree_L_winner rfl rfl rfl (by decide +kernel) ⟨Nat.le_of_ble_eq_true rfl, Nat.le_of_ble_eq_true rfl⟩) (wd_preS hw) rfl rfl hl.1 rfl (lv_room (Nat.le_of_ble_eq_true rfl)) dL_agree_252 ⟨Nat.zero_le _, Nat.zero_le _⟩) hw (fun H locs hw => ?_)
      refine lv_istore (lv' := [(7, .int r30), (0, .ref a0), (1, .ref a1), (2, .ref a2), (3, .ref a3), (4, .int v4), (5, .int v5), (6, .int v6)]) hx hb dL_agree_255 hl (by decide) rfl (fun ls hl => ?_)
      refine lv_iconst (v := (0 : Int32)) hx hb dL_agree_257 (by decide) ?_
      refine lv_istore (lv' := [(8, .int (0 : Int32)), (7, .int r30), (0, .ref a0), (1, .ref a1), (2, .ref a2), (3, .ref a3), (4, .int v4), (5, .int v5), (6, .int v6)]) hx hb dL_agree_258 hl (by decide) rfl (fun ls hl => ?_)
      exact L260 N _ _ _ _ _ _ _ _ _ hg hw (lv_sub hl [2, 3, 4, 6, 7, 8, 1, 0] rfl)
    · have hg := it_neg hg c29
      refine lv_aload_n hx hb dL_agree_156 rfl (lv_at hl 0 rfl) ?_
      refine lv_iload hx hb dL_agree_157 (lv_at hl 7 rfl) ?_
      refine lv_iconst (v := (0 : Int32)) hx hb dL_agree_159 (by decide) ?_
      obtain ⟨hok31, hg⟩ := gd_some hg
      obtain ⟨r32, S32, hc32, hg⟩ := cl_some hg
      refine wr_ci (va_runV (As := [.int v7, .int (0 : Int32)]) (rest := []) ⟨hx, hb, hml, hown, hts⟩ (c_X6_cell l D C N S z a0 v7 ((0 : Int32)) r32 S32 hc32) (cwV 2 hts gL_agree_X6_cell rfl rfl rfl (by decide +kernel) ⟨Nat.le_of_ble_eq_true rfl, Nat.le_of_ble_eq_true rfl⟩) (wd_preV hw hok31 (wF_6 (S := S) hok31.2) rfl) rfl rfl hl.1 rfl (lv_room (Nat.le_of_ble_eq_true rfl)) dL_agree_160 ⟨Nat.zero_le _, Nat.zero_le _⟩) hw (fun H locs hw => ?_)
      refine lv_aload_n hx hb dL_agree_163 rfl (lv_at hl 1 rfl) ?_
      refine lv_iconst (v := (3 : Int32)) hx hb dL_agree_164 (by decide) ?_
      obtain ⟨hok33, hg⟩ := gd_some hg
      obtain ⟨hin34, hg⟩ := gd_some hg
      refine wr_iald hx hb hw hok33 (inb_vp hin34) dL_agree_165 ?_
      refine lv_iload hx hb dL_agree_166 (lv_at hl 7 rfl) ?_
      refine lv_ishr hx hb dL_agree_168 ?_
      refine lv_iconst (v := (1 : Int32)) hx hb dL_agree_169 (by decide) ?_
      refine lv_iand hx hb dL_agree_170 ?_
      refine lv_iconst (v := (2 : Int32)) hx hb dL_agree_171 (by decide) ?_
      refine lv_aload_n hx hb dL_agree_172 rfl (lv_at hl 1 rfl) ?_
      refine lv_iconst (v := (4 : Int32)) hx hb dL_agree_173 (by decide) ?_
      obtain ⟨hin35, hg⟩ := gd_some hg
      refine wr_iald hx hb hw hok33 (inb_vp hin35) dL_agree_174 ?_
      refine lv_iload hx hb dL_agree_175 (lv_at hl 7 rfl) ?_
      refine lv_ishr hx hb dL_agree_177 ?_
      refine lv_iconst (v := (1 : Int32)) hx hb dL_agree_178 (by decide) ?_
      refine lv_iand hx hb dL_agree_179 ?_
      refine lv_imul hx hb dL_agree_180 ?_
      refine lv_iadd hx hb dL_agree_181 ?_
      refine lv_icmp_ne (tgt := 225) hx hb dL_agree_182 (by decide) (fun c36 => ?_) (fun c36 => ?_)
      · have hg := it_neg hg c36
        refine lv_iconst (v := (0 : Int32)) hx hb dL_agree_225 (by decide) ?_
        cases hg
        exact wr_zret hx hb hr (by decide) hw dL_agree_226 hlk
      · have hg := it_pos hg c36
        refine lv_aload_n hx hb dL_agree_185 rfl (lv_at hl 0 rfl) ?_
        refine lv_iload hx hb dL_agree_186 (lv_at hl 7 rfl) ?_
        refine lv_iconst (v := (1 : Int32)) hx hb dL_agree_188 (by decide) ?_
        obtain ⟨hok37, hg⟩ := gd_some hg
        obtain ⟨r38, S38, hc38, hg⟩ := cl_some hg
        refine wr_ci (va_runV (As := [.int v7, .int (1 : Int32)]) (rest := []) ⟨hx, hb, hml, hown, hts⟩ (c_X6_cell l D C N S32 z a0 v7 ((1 : Int32)) r38 S38 hc38) (cwV 2 hts gL_agree_X6_cell rfl rfl rfl (by decide +kernel) ⟨Nat.le_of_ble_eq_true rfl, Nat.le_of_ble_eq_true rfl⟩) (wd_preV hw hok37 (wF_6 (S := S32) hok37.2) rfl) rfl rfl hl.1 rfl (lv_room (Nat.le_of_ble_eq_true rfl)) dL_agree_189 ⟨Nat.zero_le _, Nat.zero_le _⟩) hw (fun H locs hw => ?_)
        refine lv_aload_n hx hb dL_agree_192 rfl (lv_at hl 1 rfl) ?_
        refine lv_aload_n hx hb dL_agree_193 rfl (lv_at hl 2 rfl) ?_
        refine lv_iload hx hb dL_agree_194 (lv_at hl 7 rfl) ?_
        obtain ⟨r39, S39, hc39, hg⟩ := cl_some hg
        refine wr_ci (va_runS (As := [.ref a1, .ref a2, .int v7]) (rest := [.int r38]) ⟨hx, hb, hml, hown, hts⟩ (c_L_danger l D C N S38 z a1 a2 v7 r39 S39 hc39) (va_cwS 3 hts gL_agree_L_danger rfl rfl rfl (by decide +kernel) ⟨Nat.le_of_ble_eq_true rfl, Nat.le_of_ble_eq_true rfl⟩) (wd_preS hw) rfl rfl hl.1 rfl (lv_room (Nat.le_of_ble_eq_true rfl)) dL_agree_196 ⟨Nat.zero_le _, Nat.zero_le _⟩) hw (fun H locs hw => ?_)
        refine lv_icmp_ne (tgt := 225) hx hb dL_agree_199 (by decide) (fun c40 => ?_) (fun c40 => ?_)
        · have hg := it_neg hg c40
          refine lv_iconst (v := (0 : Int32)) hx hb dL_agree_225 (by decide) ?_
          cases hg
          exact wr_zret hx hb hr (by decide) hw dL_agree_226 hlk
        · have hg := it_pos hg c40
          refine lv_aload_n hx hb dL_agree_202 rfl (lv_at hl 0 rfl) ?_
          refine lv_iload hx hb dL_agree_203 (lv_at hl 7 rfl) ?_
          refine lv_iconst (v := (2 : Int32)) hx hb dL_agree_205 (by decide) ?_
          obtain ⟨hok41, hg⟩ := gd_some hg
          obtain ⟨r42, S42, hc42, hg⟩ := cl_some hg
          refine wr_ci (va_runV (As := [.int v7, .int (2 : Int32)]) (rest := []) ⟨hx, hb, hml, hown, hts⟩ (c_X6_cell l D C N S39 z a0 v7 ((2 : Int32)) r42 S42 hc42) (cwV 2 hts gL_agree_X6_cell rfl rfl rfl (by decide +kernel) ⟨Nat.le_of_ble_eq_true rfl, Nat.le_of_ble_eq_true rfl⟩) (wd_preV hw hok41 (wF_6 (S := S39) hok41.2) rfl) rfl rfl hl.1 rfl (lv_room (Nat.le_of_ble_eq_true rfl)) dL_agree_206 ⟨Nat.zero_le _, Nat.zero_le _⟩) hw (fun H locs hw => ?_)
          refine lv_iload hx hb dL_agree_209 (lv_at hl 5 rfl) ?_
          refine lv_if_eq (tgt := 221) hx hb dL_agree_211 (by decide) (fun c43 => ?_) (fun c43 => ?_)
          · have hg := it_pos hg c43
            refine lv_iconst (v := (-1 : Int32)) hx hb dL_agree_221 (by decide) ?_
            exact B222 K148 hK148 _ _ _ _ _ _ _ _ _ _ hg hw (lv_sub hl [0, 1, 2, 3, 4, 5, 6, 7] rfl)
          · have hg := it_neg hg c43
            refine lv_aload_n hx hb dL_agree_214 rfl (lv_at hl 3 rfl) ?_
            refine lv_iload hx hb dL_agree_215 (lv_at hl 7 rfl) ?_
            obtain ⟨hok44, hg⟩ := gd_some hg
            obtain ⟨hin45, hg⟩ := gd_some hg
            refine wr_iald hx hb hw hok44 (inb_vp hin45) dL_agree_217 ?_
            refine lv_goto (tgt := 222) hx hb dL_agree_218 (by decide) ?_
            exact B222 K148 hK148 _ _ _ _ _ _ _ _ _ _ hg hw (lv_sub hl [0, 1, 2, 3, 4, 5, 6, 7] rfl)
  have L148 : ∀ (k : Nat) (S : Hp) (v4 : Int32) (v5 : Int32) (v6 : Int32) (v7 : Int32) (H : Heap) (locs : List Loc) (ls : Array Slot), f_L_agree_l148 N a0 a1 a2 a3 k S v4 v5 v6 v7 = some (r, S9) → Wd D C (va_A (wP C S0) z) s.heap S z H locs s → lv_has ls 9 [(0, .ref a0), (1, .ref a1), (2, .ref a2), (3, .ref a3), (4, .int v4), (5, .int v5), (6, .int v6), (7, .int v7)] → W p l e rm_L_agree s m ([.ref a0, .ref a1, .ref a2, .ref a3] : List Value).toArray below meth c H locs 0 0 (MQ below (QiW D C S0 z r S9 z) ([.ref a0, .ref a1, .ref a2, .ref a3] : List Value).toArray s 0 0 (va_A (wP C S0) z)) (F0 m 148 ls []) := by
    intro k
    induction k with
    | zero => intro S v4 v5 v6 v7 H locs ls hg hw hl; exact absurd (show (none : Option (Int32 × Hp)) = some (r, S9) from hg) (by simp)
    | succ k ih => intro S v4 v5 v6 v7 H locs ls hg hw hl; exact B148 (f_L_agree_l148 N a0 a1 a2 a3 k) ih S v4 v5 v6 v7 H locs ls hg hw hl
  have B63 : ∀ (K6 : Hp → Int32 → Int32 → Option (Int32 × Hp)) (hK6 : ∀ (S : Hp) (v4 : Int32) (v5 : Int32) (H : Heap) (locs : List Loc) (ls : Array Slot), K6 S v4 v5 = some (r, S9) → Wd D C (va_A (wP C S0) z) s.heap S z H locs s → lv_has ls 9 [(0, .ref a0), (1, .ref a1), (2, .ref a2), (3, .ref a3), (4, .int v4), (5, .int v5)] → W p l e rm_L_agree s m ([.ref a0, .ref a1, .ref a2, .ref a3] : List Value).toArray below meth c H locs 0 0 (MQ below (QiW D C S0 z r S9 z) ([.ref a0, .ref a1, .ref a2, .ref a3] : List Value).toArray s 0 0 (va_A (wP C S0) z)) (F0 m 6 ls [])) (S : Hp) (v4 : Int32) (v5 : Int32) (s0 : Int32) (s1 : Int32) (H : Heap) (locs : List Loc) (ls : Array Slot), f_L_agree_b63 N a0 a1 a2 a3 K6 S v4 v5 s0 s1 = some (r, S9) → Wd D C (va_A (wP C S0) z) s.heap S z H locs s → lv_has ls 9 [(0, .ref a0), (1, .ref a1), (2, .ref a2), (3, .ref a3), (4, .int v4), (5, .int v5)] → W p l e rm_L_agree s m ([.ref a0, .ref a1, .ref a2, .ref a3] : List Value).toArray below meth c H locs 0 0 (MQ below (QiW D C S0 z r S9 z) ([.ref a0, .ref a1, .ref a2, .ref a3] : List Value).toArray s 0 0 (va_A (wP C S0) z)) (F0 m 63 ls [.int s0, .int s1]) := by
    intro K6 hK6 S v4 v5 s0 s1 H locs ls hg hw hl
    unfold f_L_agree_b63 at hg
    refine lv_icmp_ne (tgt := 126) hx hb dL_agree_63 (by decide) (fun c46 => ?_) (fun c46 => ?_)
    · have hg := it_neg hg c46
      refine lv_iconst (v := (0 : Int32)) hx hb dL_agree_126 (by decide) ?_
      cases hg
      exact wr_zret hx hb hr (by decide) hw dL_agree_127 hlk
    · have hg := it_pos hg c46
      refine lv_aload_n hx hb dL_agree_66 rfl (lv_at hl 0 rfl) ?_
      refine lv_iload hx hb dL_agree_67 (lv_at hl 5 rfl) ?_
      refine lv_iconst (v := (2 : Int32)) hx hb dL_agree_69 (by decide) ?_
      obtain ⟨hok47, hg⟩ := gd_some hg
      obtain ⟨r48, S48, hc48, hg⟩ := cl_some hg
      refine wr_ci (va_runV (As := [.int v5, .int (2 : Int32)]) (rest := []) ⟨hx, hb, hml, hown, hts⟩ (c_X6_line l D C N S z a0 v5 ((2 : Int32)) r48 S48 hc48) (cwV 2 hts gL_agree_X6_line rfl rfl rfl (by decide +kernel) ⟨Nat.le_of_ble_eq_true rfl, Nat.le_of_ble_eq_true rfl⟩) (wd_preV hw hok47 (wF_6 (S := S) hok47.2) rfl) rfl rfl hl.1 rfl (lv_room (Nat.le_of_ble_eq_true rfl)) dL_agree_70 ⟨Nat.zero_le _, Nat.zero_le _⟩) hw (fun H locs hw => ?_)
      refine lv_aload_n hx hb dL_agree_73 rfl (lv_at hl 2 rfl) ?_
      refine lv_iload hx hb dL_agree_74 (lv_at hl 5 rfl) ?_
      obtain ⟨hok49, hg⟩ := gd_some hg
      obtain ⟨hin50, hg⟩ := gd_some hg
      refine wr_iald hx hb hw hok49 (inb_vp hin50) dL_agree_76 ?_
      refine lv_aload_n hx hb dL_agree_77 rfl (lv_at hl 1 rfl) ?_
      obtain ⟨r51, S51, hc51, hg⟩ := cl_some hg
      refine wr_ci (va_runS (As := [.ref a1]) (rest := [.int (hI S48 a2 v5.toNatClampNeg), .int r48]) ⟨hx, hb, hml, hown, hts⟩ (c_L_free l D C N S48 z a1 r51 S51 hc51) (va_cwS 1 hts gL_agree_L_free rfl rfl rfl (by decide +kernel) ⟨Nat.le_of_ble_eq_true rfl, Nat.le_of_ble_eq_true rfl⟩) (wd_preS hw) rfl rfl hl.1 rfl (lv_room (Nat.le_of_ble_eq_true rfl)) dL_agree_78 ⟨Nat.zero_le _, Nat.zero_le _⟩) hw (fun H locs hw => ?_)
      refine lv_iand hx hb dL_agree_81 ?_
      obtain ⟨r52, S52, hc52, hg⟩ := cl_some hg
      refine wr_ci (va_runS (As := [.int ((hI S48 a2 v5.toNatClampNeg) &&& r51)]) (rest := [.int r48]) ⟨hx, hb, hml, hown, hts⟩ (c_L_ones l D C N S51 z (((hI S48 a2 v5.toNatClampNeg) &&& r51)) r52 S52 hc52) (va_cwS 1 hts gL_agree_L_ones rfl rfl rfl (by decide +kernel) ⟨Nat.le_of_ble_eq_true rfl, Nat.le_of_ble_eq_true rfl⟩) (wd_preS hw) rfl rfl hl.1 rfl (lv_room (Nat.le_of_ble_eq_true rfl)) dL_agree_82 ⟨Nat.zero_le _, Nat.zero_le _⟩) hw (fun H locs hw => ?_)
      refine lv_icmp_ne (tgt := 126) hx hb dL_agree_85 (by decide) (fun c53 => ?_) (fun c53 => ?_)
      · have hg := it_neg hg c53
        refine lv_iconst (v := (0 : Int32)) hx hb dL_agree_126 (by decide) ?_
        cases hg
        exact wr_zret hx hb hr (by decide) hw dL_agree_127 hlk
      · have hg := it_pos hg c53
        refine lv_aload_n hx hb dL_agree_88 rfl (lv_at hl 0 rfl) ?_
        refine lv_iload hx hb dL_agree_89 (lv_at hl 5 rfl) ?_
        refine lv_iconst (v := (3 : Int32)) hx hb dL_agree_91 (by decide) ?_
        obtain ⟨hok54, hg⟩ := gd_some hg
        obtain ⟨r55, S55, hc55, hg⟩ := cl_some hg
        refine wr_ci (va_runV (As := [.int v5, .int (3 : Int32)]) (rest := []) ⟨hx, hb, hml, hown, hts⟩ (c_X6_line l D C N S52 z a0 v5 ((3 : Int32)) r55 S55 hc55) (cwV 2 hts gL_agree_X6_line rfl rfl rfl (by decide +kernel) ⟨Nat.le_of_ble_eq_true rfl, Nat.le_of_ble_eq_true rfl⟩) (wd_preV hw hok54 (wF_6 (S := S52) hok54.2) rfl) rfl rfl hl.1 rfl (lv_room (Nat.le_of_ble_eq_true rfl)) dL_agree_92 ⟨Nat.zero_le _, Nat.zero_le _⟩) hw (fun H locs hw => ?_)
        refine lv_aload_n hx hb dL_agree_95 rfl (lv_at hl 1 rfl) ?_
        refine lv_aload_n hx hb dL_agree_96 rfl (lv_at hl 2 rfl) ?_
        refine lv_iload hx hb dL_agree_97 (lv_at hl 5 rfl) ?_
        obtain ⟨r56, S56, hc56, hg⟩ := cl_some hg
        refine wr_ci (va_runS (As := [.ref a1, .ref a2, .int v5]) (rest := [.int r55]) ⟨hx, hb, hml, hown, hts⟩ (c_L_weight l D C N S55 z a1 a2 v5 r56 S56 hc56) (va_cwS 3 hts gL_agree_L_weight rfl rfl rfl (by decide +kernel) ⟨Nat.le_of_ble_eq_true rfl, Nat.le_of_ble_eq_true rfl⟩) (wd_preS hw) rfl rfl hl.1 rfl (lv_room (Nat.le_of_ble_eq_true rfl)) dL_agree_99 ⟨Nat.zero_le _, Nat.zero_le _⟩) hw (fun H locs hw => ?_)
        refine lv_icmp_ne (tgt := 126) hx hb dL_agree_102 (by decide) (fun c57 => ?_) (fun c57 => ?_)
        · have hg := it_neg hg c57
          refine lv_iconst (v := (0 : Int32)) hx hb dL_agree_126 (by decide) ?_
          cases hg
          exact wr_zret hx hb hr (by decide) hw dL_agree_127 hlk
        · have hg := it_pos hg c57
          refine lv_aload_n hx hb dL_agree_105 rfl (lv_at hl 0 rfl) ?_
          refine lv_iload hx hb dL_agree_106 (lv_at hl 5 rfl) ?_
          refine lv_iconst (v := (4 : Int32)) hx hb dL_agree_108 (by decide) ?_
          obtain ⟨hok58, hg⟩ := gd_some hg
          obtain ⟨r59, S59, hc59, hg⟩ := cl_some hg
          refine wr_ci (va_runV (As := [.int v5, .int (4 : Int32)]) (rest := []) ⟨hx, hb, hml, hown, hts⟩ (c_X6_line l D C N S56 z a0 v5 ((4 : Int32)) r59 S59 hc59) (cwV 2 hts gL_agree_X6_line rfl rfl rfl (by decide +kernel) ⟨Nat.le_of_ble_eq_true rfl, Nat.le_of_ble_eq_true rfl⟩) (wd_preV hw hok58 (wF_6 (S := S56) hok58.2) rfl) rfl rfl hl.1 rfl (lv_room (Nat.le_of_ble_eq_true rfl)) dL_agree_109 ⟨Nat.zero_le _, Nat.zero_le _⟩) hw (fun H locs hw => ?_)
          refine lv_aload_n hx hb dL_agree_112 rfl (lv_at hl 2 rfl) ?_
          refine lv_iload hx hb dL_agree_113 (lv_at hl 5 rfl) ?_
          obtain ⟨hok60, hg⟩ := gd_some hg
          obtain ⟨hin61, hg⟩ := gd_some hg
          refine wr_iald hx hb hw hok60 (inb_vp hin61) dL_agree_115 ?_
          refine lv_aload_n hx hb dL_agree_116 rfl (lv_at hl 1 rfl) ?_
          refine lv_iconst (v := (3 : Int32)) hx hb dL_agree_117 (by decide) ?_
          obtain ⟨hok62, hg⟩ := gd_some hg
          obtain ⟨hin63, hg⟩ := gd_some hg
          refine wr_iald hx hb hw hok62 (inb_vp hin63) dL_agree_118 ?_
          refine lv_iand hx hb dL_agree_119 ?_
          obtain ⟨r64, S64, hc64, hg⟩ := cl_some hg
          refine wr_ci (va_runS (As := [.int ((hI S59 a2 v5.toNatClampNeg) &&& (hI S59 a1 (3 : Int32).toNatClampNeg))]) (rest := [.int r59]) ⟨hx, hb, hml, hown, hts⟩ (c_L_ones l D C N S59 z (((hI S59 a2 v5.toNatClampNeg) &&& (hI S59 a1 (3 : Int32).toNatClampNeg))) r64 S64 hc64) (va_cwS 1 hts gL_agree_L_ones rfl rfl rfl (by decide +kernel) ⟨Nat.le_of_ble_eq_true rfl, Nat.le_of_ble_eq_true rfl⟩) (wd_preS hw) rfl rfl hl.1 rfl (lv_room (Nat.le_of_ble_eq_true rfl)) dL_agree_120 ⟨Nat.zero_le _, Nat.zero_le _⟩) hw (fun H locs hw => ?_)
          refine lv_icmp_eq (tgt := 128) hx hb dL_agree_123 (by decide) (fun c65 => ?_) (fun c65 => ?_)
          · have hg := it_pos hg c65
            refine lv_iinc (v := (v5 + (1 : Int32))) (lv' := [(5, .int (v5 + (1 : Int32))), (0, .ref a0), (1, .ref a1), (2, .ref a2), (3, .ref a3), (4, .int v4)]) hx hb dL_agree_128 hl (k := 5) rfl rfl (by decide) rfl (fun ls hl => ?_)
            refine lv_goto (tgt := 6) hx hb dL_agree_131 (by decide) ?_
            exact hK6 _ _ _ _ _ _ hg hw (lv_sub hl [1, 2, 3, 4, 5, 0] rfl)
          · have hg := it_neg hg c65
            refine lv_iconst (v := (0 : Int32)) hx hb dL_agree_126 (by decide) ?_
            cases hg
            exact wr_zret hx hb hr (by decide) hw dL_agree_127 hlk
  have B6 : ∀ (K6 : Hp → Int32 → Int32 → Option (Int32 × Hp)) (hK6 : ∀ (S : Hp) (v4 : Int32) (v5 : Int32) (H : Heap) (locs : List Loc) (ls : Array Slot), K6 S v4 v5 = some (r, S9) → Wd D C (va_A (wP C S0) z) s.heap S z H locs s → lv_has ls 9 [(0, .ref a0), (1, .ref a1), (2, .ref a2), (3, .ref a3), (4, .int v4), (5, .int v5)] → W p l e rm_L_agree s m ([.ref a0, .ref a1, .ref a2, .ref a3] : List Value).toArray below meth c H locs 0 0 (MQ below (QiW D C S0 z r S9 z) ([.ref a0, .ref a1, .ref a2, .ref a3] : List Value).toArray s 0 0 (va_A (wP C S0) z)) (F0 m 6 ls [])) (S : Hp) (v4 : Int32) (v5 : Int32) (H : Heap) (locs : List Loc) (ls : Array Slot), f_L_agree_b6 N a0 a1 a2 a3 K6 S v4 v5 = some (r, S9) → Wd D C (va_A (wP C S0) z) s.heap S z H locs s → lv_has ls 9 [(0, .ref a0), (1, .ref a1), (2, .ref a2), (3, .ref a3), (4, .int v4), (5, .int v5)] → W p l e rm_L_agree s m ([.ref a0, .ref a1, .ref a2, .ref a3] : List Value).toArray below meth c H locs 0 0 (MQ below (QiW D C S0 z r S9 z) ([.ref a0, .ref a1, .ref a2, .ref a3] : List Value).toArray s 0 0 (va_A (wP C S0) z)) (F0 m 6 ls []) := by
    intro K6 hK6 S v4 v5 H locs ls hg hw hl
    unfold f_L_agree_b6 at hg
    refine lv_iload hx hb dL_agree_6 (lv_at hl 5 rfl) ?_
    refine lv_aload_n hx hb dL_agree_8 rfl (lv_at hl 1 rfl) ?_
    refine lv_iconst (v := (2 : Int32)) hx hb dL_agree_9 (by decide) ?_
    obtain ⟨hok10, hg⟩ := gd_some hg
    obtain ⟨hin11, hg⟩ := gd_some hg
    refine wr_iald hx hb hw hok10 (inb_vp hin11) dL_agree_10 ?_
    refine lv_icmp_ge (tgt := 134) hx hb dL_agree_11 (by decide) (fun c12 => ?_) (fun c12 => ?_)
    · have hg := it_pos hg c12
      refine lv_aload_n hx hb dL_agree_134 rfl (lv_at hl 1 rfl) ?_
      refine lv_aload_n hx hb dL_agree_135 rfl (lv_at hl 2 rfl) ?_
      refine lv_aload_n hx hb dL_agree_136 rfl (lv_at hl 3 rfl) ?_
      obtain ⟨r13, S13, hc13, hg⟩ := cl_some hg
      refine wr_ci (va_runS (As := [.ref a1, .ref a2, .ref a3]) (rest := []) ⟨hx, hb, hml, hown, hts⟩ (c_L_pairing l D C N S z a1 a2 a3 r13 S13 hc13) (va_cwS 3 hts gL_agree_L_pairing rfl rfl rfl (by decide +kernel) ⟨Nat.le_of_ble_eq_true rfl, Nat.le_of_ble_eq_true rfl⟩) (wd_preS hw) rfl rfl hl.1 rfl (lv_room (Nat.le_of_ble_eq_true rfl)) dL_agree_137 ⟨Nat.zero_le _, Nat.zero_le _⟩) hw (fun H locs hw => ?_)
      refine lv_istore (lv' := [(5, .int r13), (0, .ref a0), (1, .ref a1), (2, .ref a2), (3, .ref a3), (4, .int v4)]) hx hb dL_agree_140 hl (by decide) rfl (fun ls hl => ?_)
      refine lv_iconst (v := (0 : Int32)) hx hb dL_agree_142 (by decide) ?_
      refine lv_istore (lv' := [(6, .int (0 : Int32)), (5, .int r13), (0, .ref a0), (1, .ref a1), (2, .ref a2), (3, .ref a3), (4, .int v4)]) hx hb dL_agree_143 hl (by decide) rfl (fun ls hl => ?_)
      refine lv_iconst (v := (0 : Int32)) hx hb dL_agree_145 (by decide) ?_
      refine lv_istore (lv' := [(7, .int (0 : Int32)), (6, .int (0 : Int32)), (5, .int r13), (0, .ref a0), (1, .ref a1), (2, .ref a2), (3, .ref a3), (4, .int v4)]) hx hb dL_agree_146 hl (by decide) rfl (fun ls hl => ?_)
      exact L148 N _ _ _ _ _ _ _ _ hg hw (lv_sub hl [3, 4, 5, 6, 7, 2, 1, 0] rfl)
    · have hg := it_neg hg c12
      refine lv_iload hx hb dL_agree_14 (lv_at hl 4 rfl) ?_
      refine lv_aload_n hx hb dL_agree_16 rfl (lv_at hl 1 rfl) ?_
      refine lv_aload_n hx hb dL_agree_17 rfl (lv_at hl 2 rfl) ?_
      refine lv_iload hx hb dL_agree_18 (lv_at hl 5 rfl) ?_
      obtain ⟨r14, S14, hc14, hg⟩ := cl_some hg
      refine wr_ci (va_runS (As := [.ref a1, .ref a2, .int v5]) (rest := [.int v4]) ⟨hx, hb, hml, hown, hts⟩ (c_L_weight l D C N S z a1 a2 v5 r14 S14 hc14) (va_cwS 3 hts gL_agree_L_weight rfl rfl rfl (by decide +kernel) ⟨Nat.le_of_ble_eq_true rfl, Nat.le_of_ble_eq_true rfl⟩) (wd_preS hw) rfl rfl hl.1 rfl (lv_room (Nat.le_of_ble_eq_true rfl)) dL_agree_20 ⟨Nat.zero_le _, Nat.zero_le _⟩) hw (fun H locs hw => ?_)
      refine lv_iadd hx hb dL_agree_23 ?_
      refine lv_istore (lv' := [(4, .int (v4 + r14)), (0, .ref a0), (1, .ref a1), (2, .ref a2), (3, .ref a3), (5, .int v5)]) hx hb dL_agree_24 hl (by decide) rfl (fun ls hl => ?_)
      refine lv_aload_n hx hb dL_agree_26 rfl (lv_at hl 1 rfl) ?_
      refine lv_iload hx hb dL_agree_27 (lv_at hl 5 rfl) ?_
      refine lv_iconst (v := (0 : Int32)) hx hb dL_agree_29 (by decide) ?_
      obtain ⟨hok15, hg⟩ := gd_some hg
      obtain ⟨r16, S16, hc16, hg⟩ := cl_some hg
      refine wr_ci (va_runV (As := [.int v5, .int (0 : Int32)]) (rest := []) ⟨hx, hb, hml, hown, hts⟩ (c_X6_line l D C N S14 z a0 v5 ((0 : Int32)) r16 S16 hc16) (cwV 2 hts gL_agree_X6_line rfl rfl rfl (by decide +kernel) ⟨Nat.le_of_ble_eq_true rfl, Nat.le_of_ble_eq_true rfl⟩) (wd_preV hw hok15 (wF_6 (S := S14) hok15.2) rfl) rfl rfl hl.1 rfl (lv_room (Nat.le_of_ble_eq_true rfl)) dL_agree_30 ⟨Nat.zero_le _, Nat.zero_le _⟩) hw (fun H locs hw => ?_)
      refine lv_aload_n hx hb dL_agree_33 rfl (lv_at hl 3 rfl) ?_
      refine lv_iload hx hb dL_agree_34 (lv_at hl 5 rfl) ?_
      obtain ⟨hok17, hg⟩ := gd_some hg
      obtain ⟨hin18, hg⟩ := gd_some hg
      refine wr_iald hx hb hw hok17 (inb_vp hin18) dL_agree_36 ?_
      refine lv_icmp_ne (tgt := 126) hx hb dL_agree_37 (by decide) (fun c19 => ?_) (fun c19 => ?_)
      · have hg := it_neg hg c19
        refine lv_iconst (v := (0 : Int32)) hx hb dL_agree_126 (by decide) ?_
        cases hg
        exact wr_zret hx hb hr (by decide) hw dL_agree_127 hlk
      · have hg := it_pos hg c19
        refine lv_aload_n hx hb dL_agree_40 rfl (lv_at hl 1 rfl) ?_
        refine lv_iload hx hb dL_agree_41 (lv_at hl 5 rfl) ?_
        refine lv_iconst (v := (1 : Int32)) hx hb dL_agree_43 (by decide) ?_
        obtain ⟨hok20, hg⟩ := gd_some hg
        obtain ⟨r21, S21, hc21, hg⟩ := cl_some hg
        refine wr_ci (va_runV (As := [.int v5, .int (1 : Int32)]) (rest := []) ⟨hx, hb, hml, hown, hts⟩ (c_X6_line l D C N S16 z a0 v5 ((1 : Int32)) r21 S21 hc21) (cwV 2 hts gL_agree_X6_line rfl rfl rfl (by decide +kernel) ⟨Nat.le_of_ble_eq_true rfl, Nat.le_of_ble_eq_true rfl⟩) (wd_preV hw hok20 (wF_6 (S := S16) hok20.2) rfl) rfl rfl hl.1 rfl (lv_room (Nat.le_of_ble_eq_true rfl)) dL_agree_44 ⟨Nat.zero_le _, Nat.zero_le _⟩) hw (fun H locs hw => ?_)
        refine lv_aload_n hx hb dL_agree_47 rfl (lv_at hl 3 rfl) ?_
        refine lv_iload hx hb dL_agree_48 (lv_at hl 5 rfl) ?_
        obtain ⟨hok22, hg⟩ := gd_some hg
        obtain ⟨hin23, hg⟩ := gd_some hg
        refine wr_iald hx hb hw hok22 (inb_vp hin23) dL_agree_50 ?_
        refine lv_aload_n hx hb dL_agree_51 rfl (lv_at hl 2 rfl) ?_
        refine lv_iconst (v := (4 : Int32)) hx hb dL_agree_52 (by decide) ?_
        obtain ⟨hok24, hg⟩ := gd_some hg
        obtain ⟨hin25, hg⟩ := gd_some hg
        refine wr_iald hx hb hw hok24 (inb_vp hin25) dL_agree_53 ?_
        refine lv_iand hx hb dL_agree_54 ?_
        refine lv_if_eq (tgt := 62) hx hb dL_agree_55 (by decide) (fun c26 => ?_) (fun c26 => ?_)
        · have hg := it_pos hg c26
          refine lv_iconst (v := (0 : Int32)) hx hb dL_agree_62 (by decide) ?_
          exact B63 K6 hK6 _ _ _ _ _ _ _ _ hg hw (lv_sub hl [1, 2, 3, 4, 0, 5] rfl)
        · have hg := it_neg hg c26
          refine lv_iconst (v := (1 : Int32)) hx hb dL_agree_58 (by decide) ?_
          refine lv_goto (tgt := 63) hx hb dL_agree_59 (by decide) ?_
          exact B63 K6 hK6 _ _ _ _ _ _ _ _ hg hw (lv_sub hl [1, 2, 3, 4, 0, 5] rfl)
  have L6 : ∀ (k : Nat) (S : Hp) (v4 : Int32) (v5 : Int32) (H : Heap) (locs : List Loc) (ls : Array Slot), f_L_agree_l6 N a0 a1 a2 a3 k S v4 v5 = some (r, S9) → Wd D C (va_A (wP C S0) z) s.heap S z H locs s → lv_has ls 9 [(0, .ref a0), (1, .ref a1), (2, .ref a2), (3, .ref a3), (4, .int v4), (5, .int v5)] → W p l e rm_L_agree s m ([.ref a0, .ref a1, .ref a2, .ref a3] : List Value).toArray below meth c H locs 0 0 (MQ below (QiW D C S0 z r S9 z) ([.ref a0, .ref a1, .ref a2, .ref a3] : List Value).toArray s 0 0 (va_A (wP C S0) z)) (F0 m 6 ls []) := by
    intro k
    induction k with
    | zero => intro S v4 v5 H locs ls hg hw hl; exact absurd (show (none : Option (Int32 × Hp)) = some (r, S9) from hg) (by simp)
    | succ k ih => intro S v4 v5 H locs ls hg hw hl; exact B6 (f_L_agree_l6 N a0 a1 a2 a3 k) ih S v4 v5 H locs ls hg hw hl
  have B0 : ∀ (S : Hp) (H : Heap) (locs : List Loc) (ls : Array Slot), f_L_agree N S a0 a1 a2 a3 = some (r, S9) → Wd D C (va_A (wP C S0) z) s.heap S z H locs s → lv_has ls 9 [(0, .ref a0), (1, .ref a1), (2, .ref a2), (3, .ref a3)] → W p l e rm_L_agree s m ([.ref a0, .ref a1, .ref a2, .ref a3] : List Value).toArray below meth c H locs 0 0 (MQ below (QiW D C S0 z r S9 z) ([.ref a0, .ref a1, .ref a2, .ref a3] : List Value).toArray s 0 0 (va_A (wP C S0) z)) (F0 m 0 ls []) := by
    intro S H locs ls hg hw hl
    unfold f_L_agree at hg
    refine lv_iconst (v := (0 : Int32)) hx hb dL_agree_0 (by decide) ?_
    refine lv_istore (lv' := [(4, .int (0 : Int32)), (0, .ref a0), (1, .ref a1), (2, .ref a2), (3, .ref a3)]) hx hb dL_agree_1 hl (by decide) rfl (fun ls hl => ?_)
    refine lv_iconst (v := (0 : Int32)) hx hb dL_agree_3 (by decide) ?_
    refine lv_istore (lv' := [(5, .int (0 : Int32)), (4, .int (0 : Int32)), (0, .ref a0), (1, .ref a1), (2, .ref a2), (3, .ref a3)]) hx hb dL_agree_4 hl (by decide) rfl (fun ls hl => ?_)
    exact L6 N _ _ _ _ _ _ hg hw (lv_sub hl [2, 3, 4, 5, 1, 0] rfl)
  exact B0 S0 _ _ _ hg hw hl
