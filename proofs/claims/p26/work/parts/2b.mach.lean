theorem hi_X2_init_X1 : ∀ w ∈ wsX10, w ∈ wsX2_init := fun _ h => List.mem_cons_of_mem _ (List.mem_append_left _ (List.mem_append_right _ (h)))
theorem hi_X2_init_X2 : ∀ w ∈ wsX20, w ∈ wsX2_init := fun _ h => List.mem_cons_of_mem _ (List.mem_append_right _ (h))
abbrev rm_X2_init : Room := { frames := 2, cells := 3, slots := 23, locals := 40 }
set_option maxHeartbeats 4000000 in
set_option maxRecDepth 100000 in
theorem c_X2_init (l : Launch) (D : va_G) (C : C3) (N : Nat) (S0 : Hp) (z0 : Nat) (a0 : Nat) (r : Unit) (S9 : Hp) (z9 : Nat) (hg : f_X2_init N S0 z0 a0 = some (r, S9, z9)) : MetV l yX2_init wsX2_init rm_X2_init D C S0 z0 [.ref a0] r S9 z9 3 23 := by
  refine mw_ofW (cc := cX2_init) (maxL := 1) (ret := none) (lv := [(0, .ref a0)]) (by decide) rfl (Nat.le_of_ble_eq_true rfl) rfl ?_
  intro p e s m below meth c ls hx hb hr hts hown hlk hml hnm hl hw
  have hown : s.vm.findClass RX2 = some m.cls := hown
  have B0 : ∀ (S : Hp) (z : Nat) (H : Heap) (locs : List Loc) (ls : Array Slot), f_X2_init N S z a0 = some (r, S9, z9) → Wd D C (va_A (wP C S0) z0) s.heap S z H locs s → lv_has ls 1 [(0, .ref a0)] → W p l e rm_X2_init s m ([.ref a0] : List Value).toArray below meth c H locs 0 0 (MQ below (QvW D C S0 z0 r S9 z9) ([.ref a0] : List Value).toArray s 3 23 (va_A (wP C S0) z0)) (F0 m 0 ls []) := by
    intro S z H locs ls hg hw hl
    unfold f_X2_init at hg
    refine lv_aload_n hx hb dX2_init_0 rfl (lv_at hl 0 rfl) ?_
    refine W.objInit hx hb hown (hts _ (List.mem_of_getElem? (i := 1) rfl)) (hts _ (List.mem_of_getElem? (i := 2) rfl)) (hts _ (List.mem_of_getElem? (i := 3) rfl)) rfl (by rw [hml]; exact hl.1) rfl dX2_init_1 (Nat.le_of_ble_eq_true rfl) (Nat.le_of_ble_eq_true rfl) ?_
    refine W.eq (g2 := F0 m 4 ls []) rfl ?_
    refine lv_aload_n hx hb dX2_init_4 rfl (lv_at hl 0 rfl) ?_
    refine wr_new (K := RX1) (T := TX1) (N := 6) (ci := 1) (index := 9) (fs := [.null, .int 0, .int 0, .int 0, .int 0, .int 0]) hx hb hts hi_X2_init_X1 tyX1 tyX1_ok hown (hts _ (List.mem_of_getElem? (i := 4) rfl)) (hts _ (List.mem_of_getElem? (i := 5) rfl)) (hts _ (List.mem_of_getElem? (i := 6) rfl)) hw rfl wn_1 (fun j hj => by rcases (show j = 0 ∨ j = 1 ∨ j = 2 ∨ j = 3 ∨ j = 4 ∨ j = 5 by omega) with rfl | rfl | rfl | rfl | rfl | rfl <;> rfl) (Nat.le_of_ble_eq_true rfl) (Nat.le_of_ble_eq_true rfl) dX2_init_5 (fun H hw => ?_)
    refine lv_dup hx hb dX2_init_8 rfl ?_
    obtain ⟨⟨⟩, S11, z11, hc11, hg⟩ := cz_some hg
    refine wr_cv (va_runIN (b := z) (As := []) (rest := [.ref z, .ref a0]) ⟨hx, hb, hml, hown, hts⟩ (c_X1_init l D C N ((sNew S z 1 0)) ((z + 1)) z () S11 z11 hc11) ⟨va_cnB (own := RX2) (index := 11) (host := RX6) 0 hts gX2_init_X1_init_n11 rfl rfl rfl (hw.2.2.2.2.2.2.1 _ (List.mem_of_getElem? (i := 2) rfl)) (hts _ (List.mem_of_getElem? (i := 6) rfl)) (by decide +kernel) ⟨Nat.le_of_ble_eq_true rfl, Nat.le_of_ble_eq_true rfl⟩, rfl, (hts _ (List.mem_of_getElem? (i := 14) rfl))⟩ (wd_preS hw) rfl rfl hl.1 rfl (lv_room (Nat.le_of_ble_eq_true rfl)) dX2_init_9 ⟨Nat.le_of_ble_eq_true rfl, Nat.le_of_ble_eq_true rfl⟩) hw (fun H locs hw => ?_)
    obtain ⟨hok12, hg⟩ := gd_some hg
    refine wr_putF (K := RX2) (T := TX2) (N := 6) (index := 12) (ref := "MakerLines$Pairing") (ty := (.object "MakerLines$Lines")) (S1 := (sR S11 a0 0 (some z))) hx hb hts hi_X2_init_X2 tyX2 tyX2_ok nmX2 hown hw hok12 (wF_2 (S := S11) hok12.2) rfl (fun b hb9 => wF_sR_ne hb9) 0 (wq_2_0 (S := S11) hok12.2 _) rfl (by decide) (hts _ (List.mem_of_getElem? (i := 7) rfl)) (fun _ h9 => h9) rfl hnm rfl (by decide +kernel) rfl rfl (Nat.le_of_ble_eq_true rfl) dX2_init_12 (fun H locs hw => ?_)
    refine lv_aload_n hx hb dX2_init_15 rfl (lv_at hl 0 rfl) ?_
    refine lv_iconst (v := (0 : Int32)) hx hb dX2_init_16 (by decide) ?_
    refine wr_put (K := RX2) (T := TX2) (N := 6) (index := 18) (ref := "MakerLines$Pairing") (ty := (.int)) (S1 := (sI (sR S11 a0 0 (some z)) a0 1 (0 : Int32))) hx hb hts hi_X2_init_X2 tyX2 tyX2_ok nmX2 hown hw hok12 (wF_2 (S := (sR S11 a0 0 (some z))) hok12.2) rfl (fun b hb9 => wF_sI_ne hb9) 1 (wq_2_1 (S := (sR S11 a0 0 (some z))) hok12.2 _) rfl (by decide) (hts _ (List.mem_of_getElem? (i := 8) rfl)) (fun _ h9 => h9) rfl (by decide +kernel) rfl rfl (Nat.le_of_ble_eq_true rfl) dX2_init_17 (fun H locs hw => ?_)
    refine lv_aload_n hx hb dX2_init_20 rfl (lv_at hl 0 rfl) ?_
    refine lv_iconst (v := (0 : Int32)) hx hb dX2_init_21 (by decide) ?_
    refine wr_put (K := RX2) (T := TX2) (N := 6) (index := 22) (ref := "MakerLines$Pairing") (ty := (.int)) (S1 := (sI (sI (sR S11 a0 0 (some z)) a0 1 (0 : Int32)) a0 2 (0 : Int32))) hx hb hts hi_X2_init_X2 tyX2 tyX2_ok nmX2 hown hw hok12 (wF_2 (S := (sI (sR S11 a0 0 (some z)) a0 1 (0 : Int32))) hok12.2) rfl (fun b hb9 => wF_sI_ne hb9) 2 (wq_2_2 (S := (sI (sR S11 a0 0 (some z)) a0 1 (0 : Int32))) hok12.2 _) rfl (by decide) (hts _ (List.mem_of_getElem? (i := 9) rfl)) (fun _ h9 => h9) rfl (by decide +kernel) rfl rfl (Nat.le_of_ble_eq_true rfl) dX2_init_22 (fun H locs hw => ?_)
    obtain ⟨S13, hS13, hg⟩ := bd_some hg
    rw [← hS13] at hw
    have hok14 : ok S13 a0 2 := by rw [hS13]; exact hok12
    refine lv_aload_n hx hb dX2_init_25 rfl (lv_at hl 0 rfl) ?_
    refine lv_iconst (v := (5 : Int32)) hx hb dX2_init_26 (by decide) ?_
    refine wr_newI (N' := 5) hx hb (hts _ (List.mem_of_getElem? (i := 10) rfl)) hw (by decide) (by decide) (Nat.le_of_ble_eq_true rfl) (Nat.le_of_ble_eq_true rfl) (Nat.le_of_ble_eq_true rfl) dX2_init_27 (fun H hw => ?_)
    obtain ⟨hok16, hg⟩ := gd_some hg
    refine wr_putF (K := RX2) (T := TX2) (N := 6) (index := 25) (ref := "MakerLines$Pairing") (ty := (.array .int)) (S1 := (sR (sNew S13 z11 8 5) a0 3 (some z11))) hx hb hts hi_X2_init_X2 tyX2 tyX2_ok nmX2 hown hw hok16 (wF_2 (S := (sNew S13 z11 8 5)) hok16.2) rfl (fun b hb9 => wF_sR_ne hb9) 3 (wq_2_3 (S := (sNew S13 z11 8 5)) hok16.2 _) rfl (by decide) (hts _ (List.mem_of_getElem? (i := 11) rfl)) (fun _ h9 => h9) rfl hnm rfl (by decide +kernel) rfl rfl (Nat.le_of_ble_eq_true rfl) dX2_init_29 (fun H locs hw => ?_)
    refine lv_aload_n hx hb dX2_init_32 rfl (lv_at hl 0 rfl) ?_
    refine lv_iconst (v := (0 : Int32)) hx hb dX2_init_33 (by decide) ?_
    refine wr_put (K := RX2) (T := TX2) (N := 6) (index := 29) (ref := "MakerLines$Pairing") (ty := (.int)) (S1 := (sI (sR (sNew S13 z11 8 5) a0 3 (some z11)) a0 4 (0 : Int32))) hx hb hts hi_X2_init_X2 tyX2 tyX2_ok nmX2 hown hw hok16 (wF_2 (S := (sR (sNew S13 z11 8 5) a0 3 (some z11))) hok16.2) rfl (fun b hb9 => wF_sI_ne hb9) 4 (wq_2_4 (S := (sR (sNew S13 z11 8 5) a0 3 (some z11))) hok16.2 _) rfl (by decide) (hts _ (List.mem_of_getElem? (i := 12) rfl)) (fun _ h9 => h9) rfl (by decide +kernel) rfl rfl (Nat.le_of_ble_eq_true rfl) dX2_init_34 (fun H locs hw => ?_)
    obtain ⟨S17, hS17, hg⟩ := bd_some hg
    rw [← hS17] at hw
    have hok18 : ok S17 a0 2 := by rw [hS17]; exact hok16
    refine lv_aload_n hx hb dX2_init_37 rfl (lv_at hl 0 rfl) ?_
    refine lv_iconst (v := (1 : Int32)) hx hb dX2_init_38 (by decide) ?_
    refine wr_put (K := RX2) (T := TX2) (N := 6) (index := 32) (ref := "MakerLines$Pairing") (ty := (.boolean)) (S1 := (sI S17 a0 5 (1 : Int32))) hx hb hts hi_X2_init_X2 tyX2 tyX2_ok nmX2 hown hw hok18 (wF_2 (S := S17) hok18.2) rfl (fun b hb9 => wF_sI_ne hb9) 5 (wq_2_5 (S := S17) hok18.2 _) rfl (by decide) (hts _ (List.mem_of_getElem? (i := 13) rfl)) (fun _ h9 => h9) rfl (by decide +kernel) (by decide) (by decide) (Nat.le_of_ble_eq_true rfl) dX2_init_39 (fun H locs hw => ?_)
    cases hg
    refine W.widen (k := 3) (n := 23) (Nat.le_of_ble_eq_true rfl) (Nat.le_of_ble_eq_true rfl) ?_
    exact wr_vret hx hb hr hw dX2_init_42 hlk
  exact B0 S0 z0 _ _ _ hg hw hl
theorem hi_X2_needsPair_X2 : ∀ w ∈ wsX20, w ∈ wsX2_needsPair := fun _ h => List.mem_cons_of_mem _ (List.mem_append_right _ (h))
abbrev rm_X2_needsPair : Room := { frames := 0, cells := 0, slots := 0, locals := 0 }
set_option maxHeartbeats 4000000 in
set_option maxRecDepth 100000 in
theorem c_X2_needsPair (l : Launch) (D : va_G) (C : C3) (N : Nat) (S0 : Hp) (z : Nat) (a0 : Nat) (x1 : Int32) (r : Int32) (S9 : Hp) (hg : f_X2_needsPair N S0 a0 x1 = some (r, S9)) : MetI l yX2_needsPair wsX2_needsPair rm_X2_needsPair D C S0 z [.ref a0, .int x1] r S9 z 0 0 := by
  refine mw_ofW (cc := cX2_needsPair) (maxL := 3) (ret := (some .boolean)) (lv := [(0, .ref a0), (1, .int x1)]) (by decide) rfl (Nat.le_of_ble_eq_true rfl) rfl ?_
  intro p e s m below meth c ls hx hb hr hts hown hlk hml hnm hl hw
  have hown : s.vm.findClass RX2 = some m.cls := hown
  have B40 : ∀ (S : Hp) (H : Heap) (locs : List Loc) (ls : Array Slot), f_X2_needsPair_b40 N a0 x1 S = some (r, S9) → Wd D C (va_A (wP C S0) z) s.heap S z H locs s → lv_has ls 3 [(0, .ref a0), (1, .int x1)] → W p l e rm_X2_needsPair s m ([.ref a0, .int x1] : List Value).toArray below meth c H locs 0 0 (MQ below (QiW D C S0 z r S9 z) ([.ref a0, .int x1] : List Value).toArray s 0 0 (va_A (wP C S0) z)) (F0 m 40 ls []) := by
    intro S H locs ls hg hw hl
    unfold f_X2_needsPair_b40 at hg
    refine lv_iload_n hx hb dX2_needsPair_40 rfl (lv_at hl 1 rfl) ?_
    refine lv_aload_n hx hb dX2_needsPair_41 rfl (lv_at hl 0 rfl) ?_
    obtain ⟨hok17, hg⟩ := gd_some hg
    refine wr_get (K := RX2) (T := TX2) (N := 6) (index := 22) (ref := "MakerLines$Pairing") (v := .int (hI S a0 2)) hx hb hts hi_X2_needsPair_X2 hown hw hok17 (wF_2 (S := S) hok17.2) rfl 2 (by decide) (hts _ (List.mem_of_getElem? (i := 3) rfl)) (fun _ h9 => h9) rfl dX2_needsPair_42 ?_
    refine lv_iand hx hb dX2_needsPair_45 ?_
    refine lv_if_ne (tgt := 53) hx hb dX2_needsPair_46 (by decide) (fun c18 => ?_) (fun c18 => ?_)
    · have hg := it_neg hg c18
      refine lv_iconst (v := (0 : Int32)) hx hb dX2_needsPair_53 (by decide) ?_
      cases hg
      exact wr_zret hx hb hr (by decide) hw dX2_needsPair_54 hlk
    · have hg := it_pos hg c18
      refine lv_iconst (v := (1 : Int32)) hx hb dX2_needsPair_49 (by decide) ?_
      refine lv_goto (tgt := 54) hx hb dX2_needsPair_50 (by decide) ?_
      cases hg
      exact wr_zret hx hb hr (by decide) hw dX2_needsPair_54 hlk
  have B2 : ∀ (K2 : Hp → Int32 → Option (Int32 × Hp)) (hK2 : ∀ (S : Hp) (v2 : Int32) (H : Heap) (locs : List Loc) (ls : Array Slot), K2 S v2 = some (r, S9) → Wd D C (va_A (wP C S0) z) s.heap S z H locs s → lv_has ls 3 [(0, .ref a0), (1, .int x1), (2, .int v2)] → W p l e rm_X2_needsPair s m ([.ref a0, .int x1] : List Value).toArray below meth c H locs 0 0 (MQ below (QiW D C S0 z r S9 z) ([.ref a0, .int x1] : List Value).toArray s 0 0 (va_A (wP C S0) z)) (F0 m 2 ls [])) (S : Hp) (v2 : Int32) (H : Heap) (locs : List Loc) (ls : Array Slot), f_X2_needsPair_b2 N a0 x1 K2 S v2 = some (r, S9) → Wd D C (va_A (wP C S0) z) s.heap S z H locs s → lv_has ls 3 [(0, .ref a0), (1, .int x1), (2, .int v2)] → W p l e rm_X2_needsPair s m ([.ref a0, .int x1] : List Value).toArray below meth c H locs 0 0 (MQ below (QiW D C S0 z r S9 z) ([.ref a0, .int x1] : List Value).toArray s 0 0 (va_A (wP C S0) z)) (F0 m 2 ls []) := by
    intro K2 hK2 S v2 H locs ls hg hw hl
    unfold f_X2_needsPair_b2 at hg
    refine lv_iload_n hx hb dX2_needsPair_2 rfl (lv_at hl 2 rfl) ?_
    refine lv_aload_n hx hb dX2_needsPair_3 rfl (lv_at hl 0 rfl) ?_
    obtain ⟨hok10, hg⟩ := gd_some hg
    refine wr_get (K := RX2) (T := TX2) (N := 6) (index := 29) (ref := "MakerLines$Pairing") (v := .int (hI S a0 4)) hx hb hts hi_X2_needsPair_X2 hown hw hok10 (wF_2 (S := S) hok10.2) rfl 4 (by decide) (hts _ (List.mem_of_getElem? (i := 1) rfl)) (fun _ h9 => h9) rfl dX2_needsPair_4 ?_
    refine lv_icmp_ge (tgt := 40) hx hb dX2_needsPair_7 (by decide) (fun c11 => ?_) (fun c11 => ?_)
    · have hg := it_pos hg c11
      exact B40 _ _ _ _ hg hw (lv_sub hl [0, 1] rfl)
    · have hg := it_neg hg c11
      refine lv_iload_n hx hb dX2_needsPair_10 rfl (lv_at hl 2 rfl) ?_
      refine lv_aload_n hx hb dX2_needsPair_11 rfl (lv_at hl 0 rfl) ?_
      obtain ⟨r12, hr12, hg⟩ := nn_some hg
      refine wr_get (K := RX2) (T := TX2) (N := 6) (index := 25) (ref := "MakerLines$Pairing") (v := .ref r12) hx hb hts hi_X2_needsPair_X2 hown hw hok10 (wF_2 (S := S) hok10.2) rfl 3 (by decide) (hts _ (List.mem_of_getElem? (i := 2) rfl)) (fun _ h9 => h9) (congrArg (fun o => some (va_rf o)) hr12) dX2_needsPair_12 ?_
      obtain ⟨hok13, hg⟩ := gd_some hg
      refine wr_alen8 hx hb hw hok13 dX2_needsPair_15 ?_
      refine lv_icmp_ge (tgt := 40) hx hb dX2_needsPair_16 (by decide) (fun c14 => ?_) (fun c14 => ?_)
      · have hg := it_pos hg c14
        exact B40 _ _ _ _ hg hw (lv_sub hl [0, 1] rfl)
      · have hg := it_neg hg c14
        refine lv_aload_n hx hb dX2_needsPair_19 rfl (lv_at hl 0 rfl) ?_
        refine wr_get (K := RX2) (T := TX2) (N := 6) (index := 25) (ref := "MakerLines$Pairing") (v := .ref r12) hx hb hts hi_X2_needsPair_X2 hown hw hok10 (wF_2 (S := S) hok10.2) rfl 3 (by decide) (hts _ (List.mem_of_getElem? (i := 2) rfl)) (fun _ h9 => h9) (congrArg (fun o => some (va_rf o)) hr12) dX2_needsPair_20 ?_
        refine lv_iload_n hx hb dX2_needsPair_23 rfl (lv_at hl 2 rfl) ?_
        obtain ⟨hin15, hg⟩ := gd_some hg
        refine wr_iald hx hb hw hok13 (inb_vp hin15) dX2_needsPair_24 ?_
        refine lv_iload_n hx hb dX2_needsPair_25 rfl (lv_at hl 1 rfl) ?_
        refine lv_iconst (v := (-1 : Int32)) hx hb dX2_needsPair_26 (by decide) ?_
        refine lv_ixor hx hb dX2_needsPair_27 ?_
        refine lv_iand hx hb dX2_needsPair_28 ?_
        refine lv_if_ne (tgt := 34) hx hb dX2_needsPair_29 (by decide) (fun c16 => ?_) (fun c16 => ?_)
        · have hg := it_neg hg c16
          refine lv_iinc (v := (v2 + (1 : Int32))) (lv' := [(2, .int (v2 + (1 : Int32))), (0, .ref a0), (1, .int x1)]) hx hb dX2_needsPair_34 hl (k := 2) rfl rfl (by decide) rfl (fun ls hl => ?_)
          refine lv_goto (tgt := 2) hx hb dX2_needsPair_37 (by decide) ?_
          exact hK2 _ _ _ _ _ hg hw (lv_sub hl [1, 2, 0] rfl)
        · have hg := it_pos hg c16
          refine lv_iconst (v := (0 : Int32)) hx hb dX2_needsPair_32 (by decide) ?_
          cases hg
          exact wr_zret hx hb hr (by decide) hw dX2_needsPair_33 hlk
  have L2 : ∀ (k : Nat) (S : Hp) (v2 : Int32) (H : Heap) (locs : List Loc) (ls : Array Slot), f_X2_needsPair_l2 N a0 x1 k S v2 = some (r, S9) → Wd D C (va_A (wP C S0) z) s.heap S z H locs s → lv_has ls 3 [(0, .ref a0), (1, .int x1), (2, .int v2)] → W p l e rm_X2_needsPair s m ([.ref a0, .int x1] : List Value).toArray below meth c H locs 0 0 (MQ below (QiW D C S0 z r S9 z) ([.ref a0, .int x1] : List Value).toArray s 0 0 (va_A (wP C S0) z)) (F0 m 2 ls []) := by
    intro k
    induction k with
    | zero => intro S v2 H locs ls hg hw hl; exact absurd (show (none : Option (Int32 × Hp)) = some (r, S9) from hg) (by simp)
    | succ k ih => intro S v2 H locs ls hg hw hl; exact B2 (f_X2_needsPair_l2 N a0 x1 k) ih S v2 H locs ls hg hw hl
  have B0 : ∀ (S : Hp) (H : Heap) (locs : List Loc) (ls : Array Slot), f_X2_needsPair N S a0 x1 = some (r, S9) → Wd D C (va_A (wP C S0) z) s.heap S z H locs s → lv_has ls 3 [(0, .ref a0), (1, .int x1)] → W p l e rm_X2_needsPair s m ([.ref a0, .int x1] : List Value).toArray below meth c H locs 0 0 (MQ below (QiW D C S0 z r S9 z) ([.ref a0, .int x1] : List Value).toArray s 0 0 (va_A (wP C S0) z)) (F0 m 0 ls []) := by
    intro S H locs ls hg hw hl
    unfold f_X2_needsPair at hg
    refine lv_iconst (v := (0 : Int32)) hx hb dX2_needsPair_0 (by decide) ?_
    refine lv_istore_n (lv' := [(2, .int (0 : Int32)), (0, .ref a0), (1, .int x1)]) hx hb dX2_needsPair_1 rfl hl (by decide) rfl (fun ls hl => ?_)
    exact L2 N _ _ _ _ _ hg hw (lv_sub hl [1, 2, 0] rfl)
  exact B0 S0 _ _ _ hg hw hl
theorem hi_X2_isHopeless_X2 : ∀ w ∈ wsX20, w ∈ wsX2_isHopeless := fun _ h => List.mem_cons_of_mem _ (List.mem_append_left _ (List.mem_append_right _ (h)))
abbrev rm_X2_isHopeless : Room := { frames := 1, cells := 0, slots := 0, locals := 22 }
set_option maxHeartbeats 4000000 in
set_option maxRecDepth 100000 in
theorem c_X2_isHopeless (l : Launch) (D : va_G) (C : C3) (N : Nat) (S0 : Hp) (z : Nat) (a0 : Nat) (x1 : Int32) (x2 : Int32) (r : Int32) (S9 : Hp) (hg : f_X2_isHopeless N S0 a0 x1 x2 = some (r, S9)) : MetI l yX2_isHopeless wsX2_isHopeless rm_X2_isHopeless D C S0 z [.ref a0, .int x1, .int x2] r S9 z 0 0 := by
  refine mw_ofW (cc := cX2_isHopeless) (maxL := 5) (ret := (some .boolean)) (lv := [(0, .ref a0), (1, .int x1), (2, .int x2)]) (by decide) rfl (Nat.le_of_ble_eq_true rfl) rfl ?_
  intro p e s m below meth c ls hx hb hr hts hown hlk hml hnm hl hw
  have hown : s.vm.findClass RX2 = some m.cls := hown
  have B2 : ∀ (K2 : Hp → Int32 → Option (Int32 × Hp)) (hK2 : ∀ (S : Hp) (v3 : Int32) (H : Heap) (locs : List Loc) (ls : Array Slot), K2 S v3 = some (r, S9) → Wd D C (va_A (wP C S0) z) s.heap S z H locs s → lv_has ls 5 [(0, .ref a0), (2, .int x2), (3, .int v3)] → W p l e rm_X2_isHopeless s m ([.ref a0, .int x1, .int x2] : List Value).toArray below meth c H locs 0 0 (MQ below (QiW D C S0 z r S9 z) ([.ref a0, .int x1, .int x2] : List Value).toArray s 0 0 (va_A (wP C S0) z)) (F0 m 2 ls [])) (S : Hp) (v3 : Int32) (H : Heap) (locs : List Loc) (ls : Array Slot), f_X2_isHopeless_b2 N a0 x1 x2 K2 S v3 = some (r, S9) → Wd D C (va_A (wP C S0) z) s.heap S z H locs s → lv_has ls 5 [(0, .ref a0), (2, .int x2), (3, .int v3)] → W p l e rm_X2_isHopeless s m ([.ref a0, .int x1, .int x2] : List Value).toArray below meth c H locs 0 0 (MQ below (QiW D C S0 z r S9 z) ([.ref a0, .int x1, .int x2] : List Value).toArray s 0 0 (va_A (wP C S0) z)) (F0 m 2 ls []) := by
    intro K2 hK2 S v3 H locs ls hg hw hl
    unfold f_X2_isHopeless_b2 at hg
    refine lv_iload_n hx hb dX2_isHopeless_2 rfl (lv_at hl 2 rfl) ?_
    refine lv_bipush (v := (12 : Int32)) hx hb dX2_isHopeless_3 (by decide) ?_
    refine lv_icmp_ge (tgt := 53) hx hb dX2_isHopeless_5 (by decide) (fun c10 => ?_) (fun c10 => ?_)
    · have hg := it_pos hg c10
      refine lv_iconst (v := (0 : Int32)) hx hb dX2_isHopeless_53 (by decide) ?_
      cases hg
      exact wr_zret hx hb hr (by decide) hw dX2_isHopeless_54 hlk
    · have hg := it_neg hg c10
      refine lv_aload_n hx hb dX2_isHopeless_8 rfl (lv_at hl 0 rfl) ?_
      obtain ⟨hok11, hg⟩ := gd_some hg
      obtain ⟨r12, hr12, hg⟩ := nn_some hg
      refine wr_get (K := RX2) (T := TX2) (N := 6) (index := 12) (ref := "MakerLines$Pairing") (v := .ref r12) hx hb hts hi_X2_isHopeless_X2 hown hw hok11 (wF_2 (S := S) hok11.2) rfl 0 (by decide) (hts _ (List.mem_of_getElem? (i := 1) rfl)) (fun _ h9 => h9) (congrArg (fun o => some (va_rf o)) hr12) dX2_isHopeless_9 ?_
      refine lv_iload_n hx hb dX2_isHopeless_12 rfl (lv_at hl 2 rfl) ?_
      obtain ⟨hok13, hg⟩ := gd_some hg
      obtain ⟨r14, S14, hc14, hg⟩ := cl_some hg
      refine wr_ci (va_runV (As := [.int v3]) (rest := []) ⟨hx, hb, hml, hown, hts⟩ (c_X1_maskOf l D C N S z r12 v3 r14 S14 hc14) (cwV 1 hts gX2_isHopeless_X1_maskOf rfl rfl rfl (by decide +kernel) ⟨Nat.le_of_ble_eq_true rfl, Nat.le_of_ble_eq_true rfl⟩) (wd_preV hw hok13 (wF_1 (S := S) hok13.2) rfl) rfl rfl hl.1 rfl (lv_room (Nat.le_of_ble_eq_true rfl)) dX2_isHopeless_13 ⟨Nat.zero_le _, Nat.zero_le _⟩) hw (fun H locs hw => ?_)
      refine lv_istore (lv' := [(4, .int r14), (0, .ref a0), (2, .int x2), (3, .int v3)]) hx hb dX2_isHopeless_16 hl (by decide) rfl (fun ls hl => ?_)
      refine lv_iload hx hb dX2_isHopeless_18 (lv_at hl 0 rfl) ?_
      refine lv_if_eq (tgt := 47) hx hb dX2_isHopeless_20 (by decide) (fun c15 => ?_) (fun c15 => ?_)
      · have hg := it_pos hg c15
        refine lv_iinc (v := (v3 + (1 : Int32))) (lv' := [(3, .int (v3 + (1 : Int32))), (4, .int r14), (0, .ref a0), (2, .int x2)]) hx hb dX2_isHopeless_47 hl (k := 3) rfl rfl (by decide) rfl (fun ls hl => ?_)
        refine lv_goto (tgt := 2) hx hb dX2_isHopeless_50 (by decide) ?_
        exact hK2 _ _ _ _ _ hg hw (lv_sub hl [2, 3, 0] rfl)
      · have hg := it_neg hg c15
        refine lv_iload hx hb dX2_isHopeless_23 (lv_at hl 0 rfl) ?_
        refine lv_iload_n hx hb dX2_isHopeless_25 rfl (lv_at hl 2 rfl) ?_
        refine lv_iconst (v := (-1 : Int32)) hx hb dX2_isHopeless_26 (by decide) ?_
        refine lv_ixor hx hb dX2_isHopeless_27 ?_
        refine lv_iand hx hb dX2_isHopeless_28 ?_
        refine wr_ci (va_runS (As := [.int (r14 &&& (x2 ^^^ (-1 : Int32)))]) (rest := []) ⟨hx, hb, hml, hown, hts⟩ (c_bitc l D C S14 z ((r14 &&& (x2 ^^^ (-1 : Int32))))) (va_cwS 1 hts gX2_isHopeless_J6_bitCount_0f7a4 rfl rfl rfl (by decide +kernel) ⟨Nat.le_of_ble_eq_true rfl, Nat.le_of_ble_eq_true rfl⟩) (wd_preS hw) rfl rfl hl.1 rfl (lv_room (Nat.le_of_ble_eq_true rfl)) dX2_isHopeless_29 ⟨Nat.zero_le _, Nat.zero_le _⟩) hw (fun H locs hw => ?_)
        refine lv_iconst (v := (2 : Int32)) hx hb dX2_isHopeless_32 (by decide) ?_
        refine lv_icmp_ge (tgt := 47) hx hb dX2_isHopeless_33 (by decide) (fun c16 => ?_) (fun c16 => ?_)
        · have hg := it_pos hg c16
          refine lv_iinc (v := (v3 + (1 : Int32))) (lv' := [(3, .int (v3 + (1 : Int32))), (4, .int r14), (0, .ref a0), (2, .int x2)]) hx hb dX2_isHopeless_47 hl (k := 3) rfl rfl (by decide) rfl (fun ls hl => ?_)
          refine lv_goto (tgt := 2) hx hb dX2_isHopeless_50 (by decide) ?_
          exact hK2 _ _ _ _ _ hg hw (lv_sub hl [2, 3, 0] rfl)
        · have hg := it_neg hg c16
          refine lv_aload_n hx hb dX2_isHopeless_36 rfl (lv_at hl 1 rfl) ?_
          refine lv_iload hx hb dX2_isHopeless_37 (lv_at hl 0 rfl) ?_
          obtain ⟨hok17, hg⟩ := gd_some hg
          obtain ⟨r18, S18, hc18, hg⟩ := cl_some hg
          refine wr_ci (va_runV (As := [.int r14]) (rest := []) ⟨hx, hb, hml, hown, hts⟩ (c_X2_needsPair l D C N S14 z a0 r14 r18 S18 hc18) (cwV 1 hts gX2_isHopeless_X2_needsPair rfl rfl rfl (by decide +kernel) ⟨Nat.le_of_ble_eq_true rfl, Nat.le_of_ble_eq_true rfl⟩) (wd_preV hw hok17 (wF_2 (S := S14) hok17.2) rfl) rfl rfl hl.1 rfl (lv_room (Nat.le_of_ble_eq_true rfl)) dX2_isHopeless_39 ⟨Nat.zero_le _, Nat.zero_le _⟩) hw (fun H locs hw => ?_)
          refine lv_if_eq (tgt := 47) hx hb dX2_isHopeless_42 (by decide) (fun c19 => ?_) (fun c19 => ?_)
          · have hg := it_pos hg c19
            refine lv_iinc (v := (v3 + (1 : Int32))) (lv' := [(3, .int (v3 + (1 : Int32))), (4, .int r14), (0, .ref a0), (2, .int x2)]) hx hb dX2_isHopeless_47 hl (k := 3) rfl rfl (by decide) rfl (fun ls hl => ?_)
            refine lv_goto (tgt := 2) hx hb dX2_isHopeless_50 (by decide) ?_
            exact hK2 _ _ _ _ _ hg hw (lv_sub hl [2, 3, 0] rfl)
          · have hg := it_neg hg c19
            refine lv_iconst (v := (1 : Int32)) hx hb dX2_isHopeless_45 (by decide) ?_
            cases hg
            exact wr_zret hx hb hr (by decide) hw dX2_isHopeless_46 hlk
  have L2 : ∀ (k : Nat) (S : Hp) (v3 : Int32) (H : Heap) (locs : List Loc) (ls : Array Slot), f_X2_isHopeless_l2 N a0 x1 x2 k S v3 = some (r, S9) → Wd D C (va_A (wP C S0) z) s.heap S z H locs s → lv_has ls 5 [(0, .ref a0), (2, .int x2), (3, .int v3)] → W p l e rm_X2_isHopeless s m ([.ref a0, .int x1, .int x2] : List Value).toArray below meth c H locs 0 0 (MQ below (QiW D C S0 z r S9 z) ([.ref a0, .int x1, .int x2] : List Value).toArray s 0 0 (va_A (wP C S0) z)) (F0 m 2 ls []) := by
    intro k
    induction k with
    | zero => intro S v3 H locs ls hg hw hl; exact absurd (show (none : Option (Int32 × Hp)) = some (r, S9) from hg) (by simp)
    | succ k ih => intro S v3 H locs ls hg hw hl; exact B2 (f_X2_isHopeless_l2 N a0 x1 x2 k) ih S v3 H locs ls hg hw hl
  have B0 : ∀ (S : Hp) (H : Heap) (locs : List Loc) (ls : Array Slot), f_X2_isHopeless N S a0 x1 x2 = some (r, S9) → Wd D C (va_A (wP C S0) z) s.heap S z H locs s → lv_has ls 5 [(0, .ref a0), (1, .int x1), (2, .int x2)] → W p l e rm_X2_isHopeless s m ([.ref a0, .int x1, .int x2] : List Value).toArray below meth c H locs 0 0 (MQ below (QiW D C S0 z r S9 z) ([.ref a0, .int x1, .int x2] : List Value).toArray s 0 0 (va_A (wP C S0) z)) (F0 m 0 ls []) := by
    intro S H locs ls hg hw hl
    unfold f_X2_isHopeless at hg
    refine lv_iload_n hx hb dX2_isHopeless_0 rfl (lv_at hl 1 rfl) ?_
    refine lv_istore_n (lv' := [(3, .int x1), (0, .ref a0), (1, .int x1), (2, .int x2)]) hx hb dX2_isHopeless_1 rfl hl (by decide) rfl (fun ls hl => ?_)
    exact L2 N _ _ _ _ _ hg hw (lv_sub hl [1, 3, 0] rfl)
  exact B0 S0 _ _ _ hg hw hl
theorem hi_X2_pairBy_X2 : ∀ w ∈ wsX20, w ∈ wsX2_pairBy := fun _ h => List.mem_cons_of_mem _ (List.mem_append_left _ (List.mem_append_right _ (h)))
set_option maxHeartbeats 4000000 in
set_option maxRecDepth 100000 in
theorem c_X2_pairBy (l : Launch) (D : va_G) (C : C3) (pf : Hp → Nat → Int32 → Int32 → Option (Int32 × Hp)) (rmR : Room) (N : Nat) (S0 : Hp) (z : Nat) (a0 : Nat) (x1 : Int32) (x2 : Int32) (x3 : Int32) (r : Int32) (S9 : Hp) (rmF : Room) (hpf : ∀ (S : Hp) (z : Nat) (a0 : Nat) (x1 : Int32) (x2 : Int32) (r : Int32) (S9 : Hp), pf S a0 x1 x2 = some (r, S9) → MetI l yX2_pairFrom wsX2_pairFrom rmF D C S z [.ref a0, .int x1, .int x2] r S9 z 0 0) (hRF : rmF.cells = 0 ∧ rmF.slots = 0 ∧ rmF.frames + 1 ≤ rmR.frames ∧ 8 + (8 + 11) + rmF.locals ≤ rmR.locals) (hR0 : 0 ≤ rmR.frames ∧ 0 ≤ rmR.locals) (hg : f_X2_pairBy pf N S0 a0 x1 x2 x3 = some (r, S9)) : MetI l yX2_pairBy wsX2_pairBy rmR D C S0 z [.ref a0, .int x1, .int x2, .int x3] r S9 z 0 0 := by
  refine mw_ofW (cc := cX2_pairBy) (maxL := 4) (ret := (some .boolean)) (lv := [(0, .ref a0), (1, .int x1), (2, .int x2), (3, .int x3)]) (by decide) rfl (Nat.le_of_ble_eq_true rfl) rfl ?_
  intro p e s m below meth c ls hx hb hr hts hown hlk hml hnm hl hw
  have hown : s.vm.findClass RX2 = some m.cls := hown
  have B0 : ∀ (S : Hp) (H : Heap) (locs : List Loc) (ls : Array Slot), f_X2_pairBy pf N S a0 x1 x2 x3 = some (r, S9) → Wd D C (va_A (wP C S0) z) s.heap S z H locs s → lv_has ls 4 [(0, .ref a0), (1, .int x1), (2, .int x2), (3, .int x3)] → W p l e rmR s m ([.ref a0, .int x1, .int x2, .int x3] : List Value).toArray below meth c H locs 0 0 (MQ below (QiW D C S0 z r S9 z) ([.ref a0, .int x1, .int x2, .int x3] : List Value).toArray s 0 0 (va_A (wP C S0) z)) (F0 m 0 ls []) := by
    intro S H locs ls hg hw hl
    unfold f_X2_pairBy at hg
    refine lv_aload_n hx hb dX2_pairBy_0 rfl (lv_at hl 0 rfl) ?_
    obtain ⟨hok10, hg⟩ := gd_some hg
    refine wr_get (K := RX2) (T := TX2) (N := 6) (index := 29) (ref := "MakerLines$Pairing") (v := .int (hI S a0 4)) hx hb hts hi_X2_pairBy_X2 hown hw hok10 (wF_2 (S := S) hok10.2) rfl 4 (by decide) (hts _ (List.mem_of_getElem? (i := 1) rfl)) (fun _ h9 => h9) rfl dX2_pairBy_1 ?_
    refine lv_if_lt (tgt := 19) hx hb dX2_pairBy_4 (by decide) (fun c11 => ?_) (fun c11 => ?_)
    · have hg := it_pos hg c11
      refine lv_iconst (v := (0 : Int32)) hx hb dX2_pairBy_19 (by decide) ?_
      cases hg
      exact wr_zret hx hb hr (by decide) hw dX2_pairBy_20 hlk
    · have hg := it_neg hg c11
      refine lv_aload_n hx hb dX2_pairBy_7 rfl (lv_at hl 0 rfl) ?_
      refine wr_get (K := RX2) (T := TX2) (N := 6) (index := 29) (ref := "MakerLines$Pairing") (v := .int (hI S a0 4)) hx hb hts hi_X2_pairBy_X2 hown hw hok10 (wF_2 (S := S) hok10.2) rfl 4 (by decide) (hts _ (List.mem_of_getElem? (i := 1) rfl)) (fun _ h9 => h9) rfl dX2_pairBy_8 ?_
      refine lv_aload_n hx hb dX2_pairBy_11 rfl (lv_at hl 0 rfl) ?_
      obtain ⟨r12, hr12, hg⟩ := nn_some hg
      refine wr_get (K := RX2) (T := TX2) (N := 6) (index := 25) (ref := "MakerLines$Pairing") (v := .ref r12) hx hb hts hi_X2_pairBy_X2 hown hw hok10 (wF_2 (S := S) hok10.2) rfl 3 (by decide) (hts _ (List.mem_of_getElem? (i := 2) rfl)) (fun _ h9 => h9) (congrArg (fun o => some (va_rf o)) hr12) dX2_pairBy_12 ?_
      obtain ⟨hok13, hg⟩ := gd_some hg
      refine wr_alen8 hx hb hw hok13 dX2_pairBy_15 ?_
      refine lv_icmp_lt (tgt := 21) hx hb dX2_pairBy_16 (by decide) (fun c14 => ?_) (fun c14 => ?_)
      · have hg := it_pos hg c14
        refine lv_aload_n hx hb dX2_pairBy_21 rfl (lv_at hl 0 rfl) ?_
        refine wr_get (K := RX2) (T := TX2) (N := 6) (index := 25) (ref := "MakerLines$Pairing") (v := .ref r12) hx hb hts hi_X2_pairBy_X2 hown hw hok10 (wF_2 (S := S) hok10.2) rfl 3 (by decide) (hts _ (List.mem_of_getElem? (i := 2) rfl)) (fun _ h9 => h9) (congrArg (fun o => some (va_rf o)) hr12) dX2_pairBy_22 ?_
        refine lv_aload_n hx hb dX2_pairBy_25 rfl (lv_at hl 0 rfl) ?_
        refine wr_get (K := RX2) (T := TX2) (N := 6) (index := 29) (ref := "MakerLines$Pairing") (v := .int (hI S a0 4)) hx hb hts hi_X2_pairBy_X2 hown hw hok10 (wF_2 (S := S) hok10.2) rfl 4 (by decide) (hts _ (List.mem_of_getElem? (i := 1) rfl)) (fun _ h9 => h9) rfl dX2_pairBy_26 ?_
        refine lv_iload_n hx hb dX2_pairBy_29 rfl (lv_at hl 1 rfl) ?_
        obtain ⟨hin15, hg⟩ := gd_some hg
        refine wr_iast hx hb hw hok13 (inb_vp hin15) dX2_pairBy_30 (fun H locs hw => ?_)
        refine lv_aload_n hx hb dX2_pairBy_31 rfl (lv_at hl 0 rfl) ?_
        refine lv_dup hx hb dX2_pairBy_32 rfl ?_
        refine wr_get (K := RX2) (T := TX2) (N := 6) (index := 29) (ref := "MakerLines$Pairing") (v := .int (hI ((sI S r12 (hI S a0 4).toNatClampNeg x1)) a0 4)) hx hb hts hi_X2_pairBy_X2 hown hw hok10 (wF_2 (S := (sI S r12 (hI S a0 4).toNatClampNeg x1)) hok10.2) rfl 4 (by decide) (hts _ (List.mem_of_getElem? (i := 1) rfl)) (fun _ h9 => h9) rfl dX2_pairBy_33 ?_
        refine lv_iconst (v := (1 : Int32)) hx hb dX2_pairBy_36 (by decide) ?_
        refine lv_iadd hx hb dX2_pairBy_37 ?_
        refine wr_put (K := RX2) (T := TX2) (N := 6) (index := 29) (ref := "MakerLines$Pairing") (ty := (.int)) (S1 := (sI (sI S r12 (hI S a0 4).toNatClampNeg x1) a0 4 ((hI ((sI S r12 (hI S a0 4).toNatClampNeg x1)) a0 4) + (1 : Int32)))) hx hb hts hi_X2_pairBy_X2 tyX2 tyX2_ok nmX2 hown hw hok10 (wF_2 (S := (sI S r12 (hI S a0 4).toNatClampNeg x1)) hok10.2) rfl (fun b hb9 => wF_sI_ne hb9) 4 (wq_2_4 (S := (sI S r12 (hI S a0 4).toNatClampNeg x1)) hok10.2 _) rfl (by decide) (hts _ (List.mem_of_getElem? (i := 1) rfl)) (fun _ h9 => h9) rfl (by decide +kernel) rfl rfl (Nat.le_of_ble_eq_true rfl) dX2_pairBy_38 (fun H locs hw => ?_)
        obtain ⟨S16, hS16, hg⟩ := bd_some hg
        rw [← hS16] at hw
        have hok17 : ok S16 a0 2 := by rw [hS16]; exact hok10
        have hr18 : hR S16 a0 3 = some r12 := by rw [hS16]; exact hr12
        have hok19 : ok S16 r12 8 := by rw [hS16]; exact hok13
        have hin20 : inb (hI S a0 4) (hN S16 r12) := by rw [hS16]; exact hin15
        refine lv_aload_n hx hb dX2_pairBy_41 rfl (lv_at hl 0 rfl) ?_
        refine lv_iload_n hx hb dX2_pairBy_42 rfl (lv_at hl 2 rfl) ?_
        refine lv_iconst (v := (1 : Int32)) hx hb dX2_pairBy_43 (by decide) ?_
        refine lv_iadd hx hb dX2_pairBy_44 ?_
        refine lv_iload_n hx hb dX2_pairBy_45 rfl (lv_at hl 3 rfl) ?_
        refine lv_iload_n hx hb dX2_pairBy_46 rfl (lv_at hl 1 rfl) ?_
        refine lv_ior hx hb dX2_pairBy_47 ?_
        obtain ⟨r21, S21, hc21, hg⟩ := cl_some hg
        refine wr_ci (va_runV (As := [.int (x2 + (1 : Int32)), .int (x3 ||| x1)]) (rest := []) ⟨hx, hb, hml, hown, hts⟩ (hpf S16 z a0 ((x2 + (1 : Int32))) ((x3 ||| x1)) r21 S21 hc21) (cwV 2 hts gX2_pairBy_X2_pairFrom rfl hRF.1 hRF.2.1 (by decide +kernel) hRF.2.2) (wd_preV hw hok17 (wF_2 (S := S16) hok17.2) rfl) rfl rfl hl.1 rfl (lv_room (Nat.le_of_ble_eq_true rfl)) dX2_pairBy_48 ⟨Nat.zero_le _, Nat.zero_le _⟩) hw (fun H locs hw => ?_)
        refine lv_if_eq (tgt := 56) hx hb dX2_pairBy_51 (by decide) (fun c22 => ?_) (fun c22 => ?_)
        · have hg := it_pos hg c22
          refine lv_aload_n hx hb dX2_pairBy_56 rfl (lv_at hl 0 rfl) ?_
          refine lv_dup hx hb dX2_pairBy_57 rfl ?_
          obtain ⟨hok23, hg⟩ := gd_some hg
          refine wr_get (K := RX2) (T := TX2) (N := 6) (index := 29) (ref := "MakerLines$Pairing") (v := .int (hI S21 a0 4)) hx hb hts hi_X2_pairBy_X2 hown hw hok23 (wF_2 (S := S21) hok23.2) rfl 4 (by decide) (hts _ (List.mem_of_getElem? (i := 1) rfl)) (fun _ h9 => h9) rfl dX2_pairBy_58 ?_
          refine lv_iconst (v := (1 : Int32)) hx hb dX2_pairBy_61 (by decide) ?_
          refine lv_isub hx hb dX2_pairBy_62 ?_
          refine wr_put (K := RX2) (T := TX2) (N := 6) (index := 29) (ref := "MakerLines$Pairing") (ty := (.int)) (S1 := (sI S21 a0 4 ((hI S21 a0 4) - (1 : Int32)))) hx hb hts hi_X2_pairBy_X2 tyX2 tyX2_ok nmX2 hown hw hok23 (wF_2 (S := S21) hok23.2) rfl (fun b hb9 => wF_sI_ne hb9) 4 (wq_2_4 (S := S21) hok23.2 _) rfl (by decide) (hts _ (List.mem_of_getElem? (i := 1) rfl)) (fun _ h9 => h9) rfl (by decide +kernel) rfl rfl (Nat.le_of_ble_eq_true rfl) dX2_pairBy_63 (fun H locs hw => ?_)
          refine lv_iconst (v := (0 : Int32)) hx hb dX2_pairBy_66 (by decide) ?_
          cases hg
          exact wr_zret hx hb hr (by decide) hw dX2_pairBy_67 hlk
        · have hg := it_neg hg c22
          refine lv_iconst (v := (1 : Int32)) hx hb dX2_pairBy_54 (by decide) ?_
          cases hg
          exact wr_zret hx hb hr (by decide) hw dX2_pairBy_55 hlk
      · have hg := it_neg hg c14
        refine lv_iconst (v := (0 : Int32)) hx hb dX2_pairBy_19 (by decide) ?_
        cases hg
        exact wr_zret hx hb hr (by decide) hw dX2_pairBy_20 hlk
  exact B0 S0 _ _ _ hg hw hl
theorem hi_X2_pairFrom_X2 : ∀ w ∈ wsX20, w ∈ wsX2_pairFrom := fun _ h => List.mem_cons_of_mem _ (List.mem_append_left _ (List.mem_append_right _ (h)))
set_option maxHeartbeats 4000000 in
set_option maxRecDepth 100000 in
theorem c_X2_pairFromB (l : Launch) (D : va_G) (C : C3) (pf : Hp → Nat → Int32 → Int32 → Option (Int32 × Hp)) (rmR : Room) (N : Nat) (S0 : Hp) (z : Nat) (a0 : Nat) (x1 : Int32) (x2 : Int32) (r : Int32) (S9 : Hp) (rmF : Room) (rmB : Room) (hpf : ∀ (S : Hp) (z : Nat) (a0 : Nat) (x1 : Int32) (x2 : Int32) (r : Int32) (S9 : Hp), pf S a0 x1 x2 = some (r, S9) → MetI l yX2_pairFrom wsX2_pairFrom rmF D C S z [.ref a0, .int x1, .int x2] r S9 z 0 0) (hpb : ∀ (S : Hp) (z : Nat) (a0 : Nat) (x1 : Int32) (x2 : Int32) (x3 : Int32) (r : Int32) (S9 : Hp), f_X2_pairBy pf N S a0 x1 x2 x3 = some (r, S9) → MetI l yX2_pairBy wsX2_pairBy rmB D C S z [.ref a0, .int x1, .int x2, .int x3] r S9 z 0 0) (hRF : rmF.cells = 0 ∧ rmF.slots = 0 ∧ rmF.frames + 1 ≤ rmR.frames ∧ 8 + (8 + 11) + rmF.locals ≤ rmR.locals) (hRB : rmB.cells = 0 ∧ rmB.slots = 0 ∧ rmB.frames + 1 ≤ rmR.frames ∧ 8 + (4 + 11) + rmB.locals ≤ rmR.locals) (hR0 : 2 ≤ rmR.frames ∧ 46 ≤ rmR.locals) (hg : f_X2_pairFromB pf N S0 a0 x1 x2 = some (r, S9)) : MetI l yX2_pairFrom wsX2_pairFrom rmR D C S0 z [.ref a0, .int x1, .int x2] r S9 z 0 0 := by
  refine mw_ofW (cc := cX2_pairFrom) (maxL := 8) (ret := (some .boolean)) (lv := [(0, .ref a0), (1, .int x1), (2, .int x2)]) (by decide) rfl (Nat.le_of_ble_eq_true rfl) rfl ?_
  intro p e s m below meth c ls hx hb hr hts hown hlk hml hnm hl hw
  have hown : s.vm.findClass RX2 = some m.cls := hown
  have B73 : ∀ (K60 : Hp → Int32 → Int32 → Option (Int32 × Hp)) (hK60 : ∀ (S : Hp) (v4 : Int32) (v5 : Int32) (H : Heap) (locs : List Loc) (ls : Array Slot), K60 S v4 v5 = some (r, S9) → Wd D C (va_A (wP C S0) z) s.heap S z H locs s → lv_has ls 8 [(0, .ref a0), (1, .int x1), (2, .int x2), (4, .int v4), (5, .int v5)] → W p l e rmR s m ([.ref a0, .int x1, .int x2] : List Value).toArray below meth c H locs 0 0 (MQ below (QiW D C S0 z r S9 z) ([.ref a0, .int x1, .int x2] : List Value).toArray s 0 0 (va_A (wP C S0) z)) (F0 m 60 ls [])) (K73 : Hp → Int32 → Int32 → Int32 → Option (Int32 × Hp)) (hK73 : ∀ (S : Hp) (v4 : Int32) (v5 : Int32) (v6 : Int32) (H : Heap) (locs : List Loc) (ls : Array Slot), K73 S v4 v5 v6 = some (r, S9) → Wd D C (va_A (wP C S0) z) s.heap S z H locs s → lv_has ls 8 [(0, .ref a0), (1, .int x1), (2, .int x2), (4, .int v4), (5, .int v5), (6, .int v6)] → W p l e rmR s m ([.ref a0, .int x1, .int x2] : List Value).toArray below meth c H locs 0 0 (MQ below (QiW D C S0 z r S9 z) ([.ref a0, .int x1, .int x2] : List Value).toArray s 0 0 (va_A (wP C S0) z)) (F0 m 73 ls [])) (S : Hp) (v4 : Int32) (v5 : Int32) (v6 : Int32) (H : Heap) (locs : List Loc) (ls : Array Slot), f_X2_pairFromB_b73 pf N a0 x1 x2 K60 K73 S v4 v5 v6 = some (r, S9) → Wd D C (va_A (wP C S0) z) s.heap S z H locs s → lv_has ls 8 [(0, .ref a0), (1, .int x1), (2, .int x2), (4, .int v4), (5, .int v5), (6, .int v6)] → W p l e rmR s m ([.ref a0, .int x1, .int x2] : List Value).toArray below meth c H locs 0 0 (MQ below (QiW D C S0 z r S9 z) ([.ref a0, .int x1, .int x2] : List Value).toArray s 0 0 (va_A (wP C S0) z)) (F0 m 73 ls []) := by
    intro K60 hK60 K73 hK73 S v4 v5 v6 H locs ls hg hw hl
    unfold f_X2_pairFromB_b73 at hg
    refine lv_iload hx hb dX2_pairFrom_73 (lv_at hl 5 rfl) ?_
    refine lv_bipush (v := (10 : Int32)) hx hb dX2_pairFrom_75 (by decide) ?_
    refine lv_icmp_ge (tgt := 120) hx hb dX2_pairFrom_77 (by decide) (fun c30 => ?_) (fun c30 => ?_)
    · have hg := it_pos hg c30
      refine lv_iinc (v := (v5 + (1 : Int32))) (lv' := [(5, .int (v5 + (1 : Int32))), (0, .ref a0), (1, .int x1), (2, .int x2), (4, .int v4), (6, .int v6)]) hx hb dX2_pairFrom_120 hl (k := 4) rfl rfl (by decide) rfl (fun ls hl => ?_)
      refine lv_goto (tgt := 60) hx hb dX2_pairFrom_123 (by decide) ?_
      exact hK60 _ _ _ _ _ _ hg hw (lv_sub hl [1, 2, 3, 4, 0] rfl)
    · have hg := it_neg hg c30
      refine lv_iconst (v := (1 : Int32)) hx hb dX2_pairFrom_80 (by decide) ?_
      refine lv_iload hx hb dX2_pairFrom_81 (lv_at hl 4 rfl) ?_
      refine lv_ishl hx hb dX2_pairFrom_83 ?_
      refine lv_iconst (v := (1 : Int32)) hx hb dX2_pairFrom_84 (by decide) ?_
      refine lv_iload hx hb dX2_pairFrom_85 (lv_at hl 5 rfl) ?_
      refine lv_ishl hx hb dX2_pairFrom_87 ?_
      refine lv_ior hx hb dX2_pairFrom_88 ?_
      obtain ⟨e31, he31, hg⟩ := bd_some hg
      refine lv_istore (lv' := [(7, .int e31), (0, .ref a0), (1, .int x1), (2, .int x2), (4, .int v4), (5, .int v5), (6, .int v6)]) hx hb dX2_pairFrom_89 hl (by decide) (by rw [he31]; rfl) (fun ls hl => ?_)
      refine lv_iload hx hb dX2_pairFrom_91 (lv_at hl 4 rfl) ?_
      refine lv_iload hx hb dX2_pairFrom_93 (lv_at hl 0 rfl) ?_
      refine lv_iand hx hb dX2_pairFrom_95 ?_
      refine lv_iload hx hb dX2_pairFrom_96 (lv_at hl 0 rfl) ?_
      refine lv_icmp_ne (tgt := 114) hx hb dX2_pairFrom_98 (by decide) (fun c32 => ?_) (fun c32 => ?_)
      · have hg := it_neg hg c32
        refine lv_iinc (v := (v6 + (1 : Int32))) (lv' := [(6, .int (v6 + (1 : Int32))), (7, .int e31), (0, .ref a0), (1, .int x1), (2, .int x2), (4, .int v4), (5, .int v5)]) hx hb dX2_pairFrom_114 hl (k := 6) rfl rfl (by decide) rfl (fun ls hl => ?_)
        refine lv_goto (tgt := 73) hx hb dX2_pairFrom_117 (by decide) ?_
        exact hK73 _ _ _ _ _ _ _ hg hw (lv_sub hl [2, 3, 4, 5, 6, 0] rfl)
      · have hg := it_pos hg c32
        refine lv_aload_n hx hb dX2_pairFrom_101 rfl (lv_at hl 1 rfl) ?_
        refine lv_iload hx hb dX2_pairFrom_102 (lv_at hl 0 rfl) ?_
        refine lv_iload_n hx hb dX2_pairFrom_104 rfl (lv_at hl 2 rfl) ?_
        refine lv_iload_n hx hb dX2_pairFrom_105 rfl (lv_at hl 3 rfl) ?_
        obtain ⟨hok33, hg⟩ := gd_some hg
        obtain ⟨r34, S34, hc34, hg⟩ := cl_some hg
        refine wr_ci (va_runV (As := [.int e31, .int x1, .int x2]) (rest := []) ⟨hx, hb, hml, hown, hts⟩ (hpb S z a0 e31 x1 x2 r34 S34 hc34) (cwV 3 hts gX2_pairFrom_X2_pairBy rfl hRB.1 hRB.2.1 (by decide +kernel) hRB.2.2) (wd_preV hw hok33 (wF_2 (S := S) hok33.2) rfl) rfl rfl hl.1 rfl (lv_room (Nat.le_of_ble_eq_true rfl)) dX2_pairFrom_106 ⟨Nat.zero_le _, Nat.zero_le _⟩) hw (fun H locs hw => ?_)
        refine lv_if_eq (tgt := 114) hx hb dX2_pairFrom_109 (by decide) (fun c35 => ?_) (fun c35 => ?_)
        · have hg := it_pos hg c35
          refine lv_iinc (v := (v6 + (1 : Int32))) (lv' := [(6, .int (v6 + (1 : Int32))), (7, .int e31), (0, .ref a0), (1, .int x1), (2, .int x2), (4, .int v4), (5, .int v5)]) hx hb dX2_pairFrom_114 hl (k := 6) rfl rfl (by decide) rfl (fun ls hl => ?_)
          refine lv_goto (tgt := 73) hx hb dX2_pairFrom_117 (by decide) ?_
          exact hK73 _ _ _ _ _ _ _ hg hw (lv_sub hl [2, 3, 4, 5, 6, 0] rfl)
        · have hg := it_neg hg c35
          refine lv_iconst (v := (1 : Int32)) hx hb dX2_pairFrom_112 (by decide) ?_
          cases hg
          exact wr_zret hx hb hr (by decide) hw dX2_pairFrom_113 hlk
  have L73 : ∀ (K60 : Hp → Int32 → Int32 → Option (Int32 × Hp)) (hK60 : ∀ (S : Hp) (v4 : Int32) (v5 : Int32) (H : Heap) (locs : List Loc) (ls : Array Slot), K60 S v4 v5 = some (r, S9) → Wd D C (va_A (wP C S0) z) s.heap S z H locs s → lv_has ls 8 [(0, .ref a0), (1, .int x1), (2, .int x2), (4, .int v4), (5, .int v5)] → W p l e rmR s m ([.ref a0, .int x1, .int x2] : List Value).toArray below meth c H locs 0 0 (MQ below (QiW D C S0 z r S9 z) ([.ref a0, .int x1, .int x2] : List Value).toArray s 0 0 (va_A (wP C S0) z)) (F0 m 60 ls [])) (k : Nat) (S : Hp) (v4 : Int32) (v5 : Int32) (v6 : Int32) (H : Heap) (locs : List Loc) (ls : Array Slot), f_X2_pairFromB_l73 pf N a0 x1 x2 K60 k S v4 v5 v6 = some (r, S9) → Wd D C (va_A (wP C S0) z) s.heap S z H locs s → lv_has ls 8 [(0, .ref a0), (1, .int x1), (2, .int x2), (4, .int v4), (5, .int v5), (6, .int v6)] → W p l e rmR s m ([.ref a0, .int x1, .int x2] : List Value).toArray below meth c H locs 0 0 (MQ below (QiW D C S0 z r S9 z) ([.ref a0, .int x1, .int x2] : List Value).toArray s 0 0 (va_A (wP C S0) z)) (F0 m 73 ls []) := by
    intro K60 hK60 k
    induction k with
    | zero => intro S v4 v5 v6 H locs ls hg hw hl; exact absurd (show (none : Option (Int32 × Hp)) = some (r, S9) from hg) (by simp)
    | succ k ih => intro S v4 v5 v6 H locs ls hg hw hl; exact B73 K60 hK60 (f_X2_pairFromB_l73 pf N a0 x1 x2 K60 k) ih S v4 v5 v6 H locs ls hg hw hl
  have B60 : ∀ (K60 : Hp → Int32 → Int32 → Option (Int32 × Hp)) (hK60 : ∀ (S : Hp) (v4 : Int32) (v5 : Int32) (H : Heap) (locs : List Loc) (ls : Array Slot), K60 S v4 v5 = some (r, S9) → Wd D C (va_A (wP C S0) z) s.heap S z H locs s → lv_has ls 8 [(0, .ref a0), (1, .int x1), (2, .int x2), (4, .int v4), (5, .int v5)] → W p l e rmR s m ([.ref a0, .int x1, .int x2] : List Value).toArray below meth c H locs 0 0 (MQ below (QiW D C S0 z r S9 z) ([.ref a0, .int x1, .int x2] : List Value).toArray s 0 0 (va_A (wP C S0) z)) (F0 m 60 ls [])) (S : Hp) (v4 : Int32) (v5 : Int32) (H : Heap) (locs : List Loc) (ls : Array Slot), f_X2_pairFromB_b60 pf N a0 x1 x2 K60 S v4 v5 = some (r, S9) → Wd D C (va_A (wP C S0) z) s.heap S z H locs s → lv_has ls 8 [(0, .ref a0), (1, .int x1), (2, .int x2), (4, .int v4), (5, .int v5)] → W p l e rmR s m ([.ref a0, .int x1, .int x2] : List Value).toArray below meth c H locs 0 0 (MQ below (QiW D C S0 z r S9 z) ([.ref a0, .int x1, .int x2] : List Value).toArray s 0 0 (va_A (wP C S0) z)) (F0 m 60 ls []) := by
    intro K60 hK60 S v4 v5 H locs ls hg hw hl
    unfold f_X2_pairFromB_b60 at hg
    refine lv_iload hx hb dX2_pairFrom_60 (lv_at hl 4 rfl) ?_
    refine lv_bipush (v := (10 : Int32)) hx hb dX2_pairFrom_62 (by decide) ?_
    refine lv_icmp_ge (tgt := 126) hx hb dX2_pairFrom_64 (by decide) (fun c29 => ?_) (fun c29 => ?_)
    · have hg := it_pos hg c29
      refine lv_iconst (v := (0 : Int32)) hx hb dX2_pairFrom_126 (by decide) ?_
      cases hg
      exact wr_zret hx hb hr (by decide) hw dX2_pairFrom_127 hlk
    · have hg := it_neg hg c29
      refine lv_iload hx hb dX2_pairFrom_67 (lv_at hl 4 rfl) ?_
      refine lv_iconst (v := (1 : Int32)) hx hb dX2_pairFrom_69 (by decide) ?_
      refine lv_iadd hx hb dX2_pairFrom_70 ?_
      refine lv_istore (lv' := [(6, .int (v5 + (1 : Int32))), (0, .ref a0), (1, .int x1), (2, .int x2), (4, .int v4), (5, .int v5)]) hx hb dX2_pairFrom_71 hl (by decide) rfl (fun ls hl => ?_)
      exact L73 K60 hK60 N _ _ _ _ _ _ _ hg hw (lv_sub hl [1, 2, 3, 4, 5, 0] rfl)
  have L60 : ∀ (k : Nat) (S : Hp) (v4 : Int32) (v5 : Int32) (H : Heap) (locs : List Loc) (ls : Array Slot), f_X2_pairFromB_l60 pf N a0 x1 x2 k S v4 v5 = some (r, S9) → Wd D C (va_A (wP C S0) z) s.heap S z H locs s → lv_has ls 8 [(0, .ref a0), (1, .int x1), (2, .int x2), (4, .int v4), (5, .int v5)] → W p l e rmR s m ([.ref a0, .int x1, .int x2] : List Value).toArray below meth c H locs 0 0 (MQ below (QiW D C S0 z r S9 z) ([.ref a0, .int x1, .int x2] : List Value).toArray s 0 0 (va_A (wP C S0) z)) (F0 m 60 ls []) := by
    intro k
    induction k with
    | zero => intro S v4 v5 H locs ls hg hw hl; exact absurd (show (none : Option (Int32 × Hp)) = some (r, S9) from hg) (by simp)
    | succ k ih => intro S v4 v5 H locs ls hg hw hl; exact B60 (f_X2_pairFromB_l60 pf N a0 x1 x2 k) ih S v4 v5 H locs ls hg hw hl
  have B0 : ∀ (S : Hp) (H : Heap) (locs : List Loc) (ls : Array Slot), f_X2_pairFromB pf N S a0 x1 x2 = some (r, S9) → Wd D C (va_A (wP C S0) z) s.heap S z H locs s → lv_has ls 8 [(0, .ref a0), (1, .int x1), (2, .int x2)] → W p l e rmR s m ([.ref a0, .int x1, .int x2] : List Value).toArray below meth c H locs 0 0 (MQ below (QiW D C S0 z r S9 z) ([.ref a0, .int x1, .int x2] : List Value).toArray s 0 0 (va_A (wP C S0) z)) (F0 m 0 ls []) := by
    intro S H locs ls hg hw hl
    unfold f_X2_pairFromB at hg
    refine lv_aload_n hx hb dX2_pairFrom_0 rfl (lv_at hl 0 rfl) ?_
    obtain ⟨hok10, hg⟩ := gd_some hg
    obtain ⟨r11, hr11, hg⟩ := nn_some hg
    refine wr_get (K := RX2) (T := TX2) (N := 6) (index := 12) (ref := "MakerLines$Pairing") (v := .ref r11) hx hb hts hi_X2_pairFrom_X2 hown hw hok10 (wF_2 (S := S) hok10.2) rfl 0 (by decide) (hts _ (List.mem_of_getElem? (i := 1) rfl)) (fun _ h9 => h9) (congrArg (fun o => some (va_rf o)) hr11) dX2_pairFrom_1 ?_
    refine lv_iload_n hx hb dX2_pairFrom_4 rfl (lv_at hl 1 rfl) ?_
    obtain ⟨hok12, hg⟩ := gd_some hg
    obtain ⟨r13, S13, hc13, hg⟩ := cl_some hg
    refine wr_ci (va_runV (As := [.int x1]) (rest := []) ⟨hx, hb, hml, hown, hts⟩ (c_X1_has l D C N S z r11 x1 r13 S13 hc13) (cwV 1 hts gX2_pairFrom_X1_has rfl rfl rfl (by decide +kernel) ⟨Nat.le_trans (Nat.le_of_ble_eq_true rfl) hR0.1, Nat.le_trans (Nat.le_of_ble_eq_true rfl) hR0.2⟩) (wd_preV hw hok12 (wF_1 (S := S) hok12.2) rfl) rfl rfl hl.1 rfl (lv_room (Nat.le_of_ble_eq_true rfl)) dX2_pairFrom_5 ⟨Nat.zero_le _, Nat.zero_le _⟩) hw (fun H locs hw => ?_)
    refine lv_if_ne (tgt := 13) hx hb dX2_pairFrom_8 (by decide) (fun c14 => ?_) (fun c14 => ?_)
    · have hg := it_neg hg c14
      refine lv_aload_n hx hb dX2_pairFrom_13 rfl (lv_at hl 0 rfl) ?_
      obtain ⟨hok15, hg⟩ := gd_some hg
      obtain ⟨r16, hr16, hg⟩ := nn_some hg
      refine wr_get (K := RX2) (T := TX2) (N := 6) (index := 12) (ref := "MakerLines$Pairing") (v := .ref r16) hx hb hts hi_X2_pairFrom_X2 hown hw hok15 (wF_2 (S := S13) hok15.2) rfl 0 (by decide) (hts _ (List.mem_of_getElem? (i := 1) rfl)) (fun _ h9 => h9) (congrArg (fun o => some (va_rf o)) hr16) dX2_pairFrom_14 ?_
      refine lv_iload_n hx hb dX2_pairFrom_17 rfl (lv_at hl 1 rfl) ?_
      obtain ⟨hok17, hg⟩ := gd_some hg
      obtain ⟨r18, S18, hc18, hg⟩ := cl_some hg
      refine wr_ci (va_runV (As := [.int x1]) (rest := []) ⟨hx, hb, hml, hown, hts⟩ (c_X1_maskOf l D C N S13 z r16 x1 r18 S18 hc18) (cwV 1 hts gX2_pairFrom_X1_maskOf rfl rfl rfl (by decide +kernel) ⟨Nat.le_trans (Nat.le_of_ble_eq_true rfl) hR0.1, Nat.le_trans (Nat.le_of_ble_eq_true rfl) hR0.2⟩) (wd_preV hw hok17 (wF_1 (S := S13) hok17.2) rfl) rfl rfl hl.1 rfl (lv_room (Nat.le_of_ble_eq_true rfl)) dX2_pairFrom_18 ⟨Nat.zero_le _, Nat.zero_le _⟩) hw (fun H locs hw => ?_)
      refine lv_istore_n (lv' := [(3, .int r18), (0, .ref a0), (1, .int x1), (2, .int x2)]) hx hb dX2_pairFrom_21 rfl hl (by decide) rfl (fun ls hl => ?_)
      refine lv_aload_n hx hb dX2_pairFrom_22 rfl (lv_at hl 1 rfl) ?_
      refine lv_iload_n hx hb dX2_pairFrom_23 rfl (lv_at hl 0 rfl) ?_
      obtain ⟨hok19, hg⟩ := gd_some hg
      obtain ⟨r20, S20, hc20, hg⟩ := cl_some hg
      refine wr_ci (va_runV (As := [.int r18]) (rest := []) ⟨hx, hb, hml, hown, hts⟩ (c_X2_needsPair l D C N S18 z a0 r18 r20 S20 hc20) (cwV 1 hts gX2_pairFrom_X2_needsPair rfl rfl rfl (by decide +kernel) ⟨Nat.le_trans (Nat.le_of_ble_eq_true rfl) hR0.1, Nat.le_trans (Nat.le_of_ble_eq_true rfl) hR0.2⟩) (wd_preV hw hok19 (wF_2 (S := S18) hok19.2) rfl) rfl rfl hl.1 rfl (lv_room (Nat.le_of_ble_eq_true rfl)) dX2_pairFrom_24 ⟨Nat.zero_le _, Nat.zero_le _⟩) hw (fun H locs hw => ?_)
      refine lv_if_ne (tgt := 39) hx hb dX2_pairFrom_27 (by decide) (fun c21 => ?_) (fun c21 => ?_)
      · have hg := it_neg hg c21
        refine lv_aload_n hx hb dX2_pairFrom_39 rfl (lv_at hl 1 rfl) ?_
        refine lv_iload_n hx hb dX2_pairFrom_40 rfl (lv_at hl 2 rfl) ?_
        refine lv_iload_n hx hb dX2_pairFrom_41 rfl (lv_at hl 3 rfl) ?_
        obtain ⟨hok22, hg⟩ := gd_some hg
        obtain ⟨r23, S23, hc23, hg⟩ := cl_some hg
        refine wr_ci (va_runV (As := [.int x1, .int x2]) (rest := []) ⟨hx, hb, hml, hown, hts⟩ (c_X2_isHopeless l D C N S20 z a0 x1 x2 r23 S23 hc23) (cwV 2 hts gX2_pairFrom_X2_isHopeless rfl rfl rfl (by decide +kernel) ⟨Nat.le_trans (Nat.le_of_ble_eq_true rfl) hR0.1, Nat.le_trans (Nat.le_of_ble_eq_true rfl) hR0.2⟩) (wd_preV hw hok22 (wF_2 (S := S20) hok22.2) rfl) rfl rfl hl.1 rfl (lv_room (Nat.le_of_ble_eq_true rfl)) dX2_pairFrom_42 ⟨Nat.zero_le _, Nat.zero_le _⟩) hw (fun H locs hw => ?_)
        refine lv_if_eq (tgt := 50) hx hb dX2_pairFrom_45 (by decide) (fun c24 => ?_) (fun c24 => ?_)
        · have hg := it_pos hg c24
          refine lv_iload_n hx hb dX2_pairFrom_50 rfl (lv_at hl 0 rfl) ?_
          refine lv_iload_n hx hb dX2_pairFrom_51 rfl (lv_at hl 3 rfl) ?_
          refine lv_iconst (v := (-1 : Int32)) hx hb dX2_pairFrom_52 (by decide) ?_
          refine lv_ixor hx hb dX2_pairFrom_53 ?_
          refine lv_iand hx hb dX2_pairFrom_54 ?_
          obtain ⟨e25, he25, hg⟩ := bd_some hg
          refine lv_istore (lv' := [(4, .int e25), (3, .int r18), (0, .ref a0), (1, .int x1), (2, .int x2)]) hx hb dX2_pairFrom_55 hl (by decide) (by rw [he25]; rfl) (fun ls hl => ?_)
          refine lv_iconst (v := (0 : Int32)) hx hb dX2_pairFrom_57 (by decide) ?_
          refine lv_istore (lv' := [(5, .int (0 : Int32)), (4, .int e25), (3, .int r18), (0, .ref a0), (1, .int x1), (2, .int x2)]) hx hb dX2_pairFrom_58 hl (by decide) rfl (fun ls hl => ?_)
          exact L60 N _ _ _ _ _ _ hg hw (lv_sub hl [3, 4, 5, 1, 0] rfl)
        · have hg := it_neg hg c24
          refine lv_iconst (v := (0 : Int32)) hx hb dX2_pairFrom_48 (by decide) ?_
          cases hg
          exact wr_zret hx hb hr (by decide) hw dX2_pairFrom_49 hlk
      · have hg := it_pos hg c21
        refine lv_aload_n hx hb dX2_pairFrom_30 rfl (lv_at hl 1 rfl) ?_
        refine lv_iload_n hx hb dX2_pairFrom_31 rfl (lv_at hl 2 rfl) ?_
        refine lv_iconst (v := (1 : Int32)) hx hb dX2_pairFrom_32 (by decide) ?_
        refine lv_iadd hx hb dX2_pairFrom_33 ?_
        refine lv_iload_n hx hb dX2_pairFrom_34 rfl (lv_at hl 3 rfl) ?_
        obtain ⟨hok26, hg⟩ := gd_some hg
        obtain ⟨r27, S27, hc27, hg⟩ := cl_some hg
        refine wr_ci (va_runV (As := [.int (x1 + (1 : Int32)), .int x2]) (rest := []) ⟨hx, hb, hml, hown, hts⟩ (hpf S20 z a0 ((x1 + (1 : Int32))) x2 r27 S27 hc27) (cwV 2 hts gX2_pairFrom_X2_pairFrom rfl hRF.1 hRF.2.1 (by decide +kernel) hRF.2.2) (wd_preV hw hok26 (wF_2 (S := S20) hok26.2) rfl) rfl rfl hl.1 rfl (lv_room (Nat.le_of_ble_eq_true rfl)) dX2_pairFrom_35 ⟨Nat.zero_le _, Nat.zero_le _⟩) hw (fun H locs hw => ?_)
        obtain ⟨hz28, hg⟩ := gd_some hg
        cases hg
        exact wr_zret hx hb hr hz28 hw dX2_pairFrom_38 hlk
    · have hg := it_pos hg c14
      refine lv_iconst (v := (1 : Int32)) hx hb dX2_pairFrom_11 (by decide) ?_
      cases hg
      exact wr_zret hx hb hr (by decide) hw dX2_pairFrom_12 hlk
  exact B0 S0 _ _ _ hg hw hl
abbrev rmPF (d : Nat) : Room := { frames := 2 * d + 2, cells := 0, slots := 0, locals := 100 * d + 96 }
abbrev rmPB (d : Nat) : Room := { frames := 2 * d + 3, cells := 0, slots := 0, locals := 100 * d + 146 }
theorem c_X2_pairFromD (l : Launch) (D : va_G) (C : C3) (N : Nat) : ∀ (d : Nat) (S0 : Hp) (z : Nat) (a0 : Nat) (x1 x2 : Int32) (r : Int32) (S9 : Hp), f_X2_pairFromD N d S0 a0 x1 x2 = some (r, S9) → MetI l yX2_pairFrom wsX2_pairFrom (rmPF d) D C S0 z [.ref a0, .int x1, .int x2] r S9 z 0 0 := by
  intro d
  induction d with
  | zero => intro S0 z a0 x1 x2 r S9 hg; exact absurd (show (none : Option (Int32 × Hp)) = some (r, S9) from hg) (by simp)
  | succ d ih =>
    intro S0 z a0 x1 x2 r S9 hg
    refine c_X2_pairFromB l D C (f_X2_pairFromD N d) (rmPF (d + 1)) N S0 z a0 x1 x2 r S9 (rmPF d) (rmPB d) ih (fun S z a0 x1 x2 x3 r S9 h => c_X2_pairBy l D C (f_X2_pairFromD N d) (rmPB d) N S z a0 x1 x2 x3 r S9 (rmPF d) ih ⟨rfl, rfl, ?_, ?_⟩ ⟨?_, ?_⟩ h) ⟨rfl, rfl, ?_, ?_⟩ ⟨rfl, rfl, ?_, ?_⟩ ⟨?_, ?_⟩ hg <;> (simp only []; omega)
abbrev rm_X2_pairFrom : Room := rmPF 14
theorem c_X2_pairFrom (l : Launch) (D : va_G) (C : C3) (N : Nat) (S0 : Hp) (z : Nat) (a0 : Nat) (x1 x2 : Int32) (r : Int32) (S9 : Hp) (hg : f_X2_pairFrom N S0 a0 x1 x2 = some (r, S9)) : MetI l yX2_pairFrom wsX2_pairFrom rm_X2_pairFrom D C S0 z [.ref a0, .int x1, .int x2] r S9 z 0 0 := c_X2_pairFromD l D C N 14 S0 z a0 x1 x2 r S9 hg
theorem hi_X2_lookAt_X2 : ∀ w ∈ wsX20, w ∈ wsX2_lookAt := fun _ h => List.mem_cons_of_mem _ (List.mem_append_left _ (List.mem_append_left _ (List.mem_append_right _ (h))))
theorem hi_X2_lookAt_X4 : ∀ w ∈ wsX40, w ∈ wsX2_lookAt := fun _ h => List.mem_cons_of_mem _ (List.mem_append_left _ (List.mem_append_right _ (h)))
abbrev rm_X2_lookAt : Room := { frames := 31, cells := 0, slots := 0, locals := 1523 }
set_option maxHeartbeats 4000000 in
set_option maxRecDepth 100000 in
theorem c_X2_lookAt (l : Launch) (D : va_G) (C : C3) (N : Nat) (S0 : Hp) (z : Nat) (a0 : Nat) (a1 : Nat) (r : Unit) (S9 : Hp) (hg : f_X2_lookAt N S0 a0 a1 = some (r, S9)) : MetV l yX2_lookAt wsX2_lookAt rm_X2_lookAt D C S0 z [.ref a0, .ref a1] r S9 z 0 0 := by
  refine mw_ofW (cc := cX2_lookAt) (maxL := 2) (ret := none) (lv := [(0, .ref a0), (1, .ref a1)]) (by decide) rfl (Nat.le_of_ble_eq_true rfl) rfl ?_
  intro p e s m below meth c ls hx hb hr hts hown hlk hml hnm hl hw
  have hown : s.vm.findClass RX2 = some m.cls := hown
  have B36 : ∀ (S : Hp) (H : Heap) (locs : List Loc) (ls : Array Slot), f_X2_lookAt_b36 N a0 a1 S = some (r, S9) → Wd D C (va_A (wP C S0) z) s.heap S z H locs s → lv_has ls 2 [(0, .ref a0), (1, .ref a1)] → W p l e rm_X2_lookAt s m ([.ref a0, .ref a1] : List Value).toArray below meth c H locs 0 0 (MQ below (QvW D C S0 z r S9 z) ([.ref a0, .ref a1] : List Value).toArray s 0 0 (va_A (wP C S0) z)) (F0 m 36 ls []) := by
    intro S H locs ls hg hw hl
    unfold f_X2_lookAt_b36 at hg
    refine lv_aload_n hx hb dX2_lookAt_36 rfl (lv_at hl 0 rfl) ?_
    obtain ⟨hok19, hg⟩ := gd_some hg
    obtain ⟨r20, hr20, hg⟩ := nn_some hg
    refine wr_get (K := RX2) (T := TX2) (N := 6) (index := 12) (ref := "MakerLines$Pairing") (v := .ref r20) hx hb hts hi_X2_lookAt_X2 hown hw hok19 (wF_2 (S := S) hok19.2) rfl 0 (by decide) (hts _ (List.mem_of_getElem? (i := 5) rfl)) (fun _ h9 => h9) (congrArg (fun o => some (va_rf o)) hr20) dX2_lookAt_37 ?_
    refine lv_aload_n hx hb dX2_lookAt_40 rfl (lv_at hl 1 rfl) ?_
    obtain ⟨hok21, hg⟩ := gd_some hg
    obtain ⟨r22, hr22, hg⟩ := nn_some hg
    refine wr_get (K := RX4) (T := TX4) (N := 10) (index := 40) (ref := "MakerLines$State") (v := .ref r22) hx hb hts hi_X2_lookAt_X4 hown hw hok21 (wF_4 (S := S) hok21.2) rfl 0 (by decide) (hts _ (List.mem_of_getElem? (i := 6) rfl)) (fun _ h9 => h9) (congrArg (fun o => some (va_rf o)) hr22) dX2_lookAt_41 ?_
    obtain ⟨hok23, hg⟩ := gd_some hg
    obtain ⟨⟨⟩, S24, hc24, hg⟩ := cl_some hg
    refine wr_cv (va_runV (As := [.ref r22]) (rest := []) ⟨hx, hb, hml, hown, hts⟩ (c_X1_copy l D C N S z r20 r22 () S24 hc24) (cwV 1 hts gX2_lookAt_X1_copy rfl rfl rfl (by decide +kernel) ⟨Nat.le_of_ble_eq_true rfl, Nat.le_of_ble_eq_true rfl⟩) (wd_preV hw hok23 (wF_1 (S := S) hok23.2) rfl) rfl rfl hl.1 rfl (lv_room (Nat.le_of_ble_eq_true rfl)) dX2_lookAt_44 ⟨Nat.zero_le _, Nat.zero_le _⟩) hw (fun H locs hw => ?_)
    refine lv_aload_n hx hb dX2_lookAt_47 rfl (lv_at hl 0 rfl) ?_
    refine lv_aload_n hx hb dX2_lookAt_48 rfl (lv_at hl 1 rfl) ?_
    obtain ⟨hok25, hg⟩ := gd_some hg
    refine wr_get (K := RX4) (T := TX4) (N := 10) (index := 36) (ref := "MakerLines$State") (v := .int (hI S24 a1 2)) hx hb hts hi_X2_lookAt_X4 hown hw hok25 (wF_4 (S := S24) hok25.2) rfl 2 (by decide) (hts _ (List.mem_of_getElem? (i := 2) rfl)) (fun _ h9 => h9) rfl dX2_lookAt_49 ?_
    obtain ⟨hok26, hg⟩ := gd_some hg
    refine wr_put (K := RX2) (T := TX2) (N := 6) (index := 18) (ref := "MakerLines$Pairing") (ty := (.int)) (S1 := (sI S24 a0 1 (hI S24 a1 2))) hx hb hts hi_X2_lookAt_X2 tyX2 tyX2_ok nmX2 hown hw hok26 (wF_2 (S := S24) hok26.2) rfl (fun b hb9 => wF_sI_ne hb9) 1 (wq_2_1 (S := S24) hok26.2 _) rfl (by decide) (hts _ (List.mem_of_getElem? (i := 1) rfl)) (fun _ h9 => h9) rfl (by decide +kernel) rfl rfl (Nat.le_of_ble_eq_true rfl) dX2_lookAt_52 (fun H locs hw => ?_)
    refine lv_aload_n hx hb dX2_lookAt_55 rfl (lv_at hl 0 rfl) ?_
    refine lv_aload_n hx hb dX2_lookAt_56 rfl (lv_at hl 1 rfl) ?_
    refine wr_get (K := RX4) (T := TX4) (N := 10) (index := 39) (ref := "MakerLines$State") (v := .int (hI ((sI S24 a0 1 (hI S24 a1 2))) a1 3)) hx hb hts hi_X2_lookAt_X4 hown hw hok25 (wF_4 (S := (sI S24 a0 1 (hI S24 a1 2))) hok25.2) rfl 3 (by decide) (hts _ (List.mem_of_getElem? (i := 4) rfl)) (fun _ h9 => h9) rfl dX2_lookAt_57 ?_
    refine wr_put (K := RX2) (T := TX2) (N := 6) (index := 22) (ref := "MakerLines$Pairing") (ty := (.int)) (S1 := (sI (sI S24 a0 1 (hI S24 a1 2)) a0 2 (hI ((sI S24 a0 1 (hI S24 a1 2))) a1 3))) hx hb hts hi_X2_lookAt_X2 tyX2 tyX2_ok nmX2 hown hw hok26 (wF_2 (S := (sI S24 a0 1 (hI S24 a1 2))) hok26.2) rfl (fun b hb9 => wF_sI_ne hb9) 2 (wq_2_2 (S := (sI S24 a0 1 (hI S24 a1 2))) hok26.2 _) rfl (by decide) (hts _ (List.mem_of_getElem? (i := 3) rfl)) (fun _ h9 => h9) rfl (by decide +kernel) rfl rfl (Nat.le_of_ble_eq_true rfl) dX2_lookAt_60 (fun H locs hw => ?_)
    obtain ⟨S27, hS27, hg⟩ := bd_some hg
    rw [← hS27] at hw
    have hok28 : ok S27 a1 4 := by rw [hS27]; exact hok25
    have hok29 : ok S27 a0 2 := by rw [hS27]; exact hok26
    refine lv_aload_n hx hb dX2_lookAt_63 rfl (lv_at hl 0 rfl) ?_
    refine lv_iconst (v := (0 : Int32)) hx hb dX2_lookAt_64 (by decide) ?_
    refine wr_put (K := RX2) (T := TX2) (N := 6) (index := 29) (ref := "MakerLines$Pairing") (ty := (.int)) (S1 := (sI S27 a0 4 (0 : Int32))) hx hb hts hi_X2_lookAt_X2 tyX2 tyX2_ok nmX2 hown hw hok29 (wF_2 (S := S27) hok29.2) rfl (fun b hb9 => wF_sI_ne hb9) 4 (wq_2_4 (S := S27) hok29.2 _) rfl (by decide) (hts _ (List.mem_of_getElem? (i := 7) rfl)) (fun _ h9 => h9) rfl (by decide +kernel) rfl rfl (Nat.le_of_ble_eq_true rfl) dX2_lookAt_65 (fun H locs hw => ?_)
    refine lv_aload_n hx hb dX2_lookAt_68 rfl (lv_at hl 0 rfl) ?_
    refine lv_aload_n hx hb dX2_lookAt_69 rfl (lv_at hl 0 rfl) ?_
    refine lv_iconst (v := (0 : Int32)) hx hb dX2_lookAt_70 (by decide) ?_
    refine lv_aload_n hx hb dX2_lookAt_71 rfl (lv_at hl 0 rfl) ?_
    refine wr_get (K := RX2) (T := TX2) (N := 6) (index := 18) (ref := "MakerLines$Pairing") (v := .int (hI ((sI S27 a0 4 (0 : Int32))) a0 1)) hx hb hts hi_X2_lookAt_X2 hown hw hok29 (wF_2 (S := (sI S27 a0 4 (0 : Int32))) hok29.2) rfl 1 (by decide) (hts _ (List.mem_of_getElem? (i := 1) rfl)) (fun _ h9 => h9) rfl dX2_lookAt_72 ?_
    refine lv_aload_n hx hb dX2_lookAt_75 rfl (lv_at hl 0 rfl) ?_
    refine wr_get (K := RX2) (T := TX2) (N := 6) (index := 22) (ref := "MakerLines$Pairing") (v := .int (hI ((sI S27 a0 4 (0 : Int32))) a0 2)) hx hb hts hi_X2_lookAt_X2 hown hw hok29 (wF_2 (S := (sI S27 a0 4 (0 : Int32))) hok29.2) rfl 2 (by decide) (hts _ (List.mem_of_getElem? (i := 3) rfl)) (fun _ h9 => h9) rfl dX2_lookAt_76 ?_
    refine lv_ior hx hb dX2_lookAt_79 ?_
    obtain ⟨r30, S30, hc30, hg⟩ := cl_some hg
    refine wr_ci (va_runV (As := [.int (0 : Int32), .int ((hI ((sI S27 a0 4 (0 : Int32))) a0 1) ||| (hI ((sI S27 a0 4 (0 : Int32))) a0 2))]) (rest := [.ref a0]) ⟨hx, hb, hml, hown, hts⟩ (c_X2_pairFrom l D C N ((sI S27 a0 4 (0 : Int32))) z a0 ((0 : Int32)) (((hI ((sI S27 a0 4 (0 : Int32))) a0 1) ||| (hI ((sI S27 a0 4 (0 : Int32))) a0 2))) r30 S30 hc30) (cwV 2 hts gX2_lookAt_X2_pairFrom rfl rfl rfl (by decide +kernel) ⟨Nat.le_of_ble_eq_true rfl, Nat.le_of_ble_eq_true rfl⟩) (wd_preV hw hok29 (wF_2 (S := (sI S27 a0 4 (0 : Int32))) hok29.2) rfl) rfl rfl hl.1 rfl (lv_room (Nat.le_of_ble_eq_true rfl)) dX2_lookAt_80 ⟨Nat.zero_le _, Nat.zero_le _⟩) hw (fun H locs hw => ?_)
    obtain ⟨hok31, hg⟩ := gd_some hg
    obtain ⟨hz32, hg⟩ := gd_some hg
    refine wr_put (K := RX2) (T := TX2) (N := 6) (index := 32) (ref := "MakerLines$Pairing") (ty := (.boolean)) (S1 := (sI S30 a0 5 r30)) hx hb hts hi_X2_lookAt_X2 tyX2 tyX2_ok nmX2 hown hw hok31 (wF_2 (S := S30) hok31.2) rfl (fun b hb9 => wF_sI_ne hb9) 5 (wq_2_5 (S := S30) hok31.2 _) rfl (by decide) (hts _ (List.mem_of_getElem? (i := 8) rfl)) (fun _ h9 => h9) rfl (by decide +kernel) (isB_nar hz32) (isB_fit hz32) (Nat.le_of_ble_eq_true rfl) dX2_lookAt_83 (fun H locs hw => ?_)
    cases hg
    exact wr_vret hx hb hr hw dX2_lookAt_86 hlk
  have B0 : ∀ (S : Hp) (H : Heap) (locs : List Loc) (ls : Array Slot), f_X2_lookAt N S a0 a1 = some (r, S9) → Wd D C (va_A (wP C S0) z) s.heap S z H locs s → lv_has ls 2 [(0, .ref a0), (1, .ref a1)] → W p l e rm_X2_lookAt s m ([.ref a0, .ref a1] : List Value).toArray below meth c H locs 0 0 (MQ below (QvW D C S0 z r S9 z) ([.ref a0, .ref a1] : List Value).toArray s 0 0 (va_A (wP C S0) z)) (F0 m 0 ls []) := by
    intro S H locs ls hg hw hl
    unfold f_X2_lookAt at hg
    refine lv_aload_n hx hb dX2_lookAt_0 rfl (lv_at hl 0 rfl) ?_
    obtain ⟨hok10, hg⟩ := gd_some hg
    refine wr_get (K := RX2) (T := TX2) (N := 6) (index := 18) (ref := "MakerLines$Pairing") (v := .int (hI S a0 1)) hx hb hts hi_X2_lookAt_X2 hown hw hok10 (wF_2 (S := S) hok10.2) rfl 1 (by decide) (hts _ (List.mem_of_getElem? (i := 1) rfl)) (fun _ h9 => h9) rfl dX2_lookAt_1 ?_
    refine lv_aload_n hx hb dX2_lookAt_4 rfl (lv_at hl 1 rfl) ?_
    obtain ⟨hok11, hg⟩ := gd_some hg
    refine wr_get (K := RX4) (T := TX4) (N := 10) (index := 36) (ref := "MakerLines$State") (v := .int (hI S a1 2)) hx hb hts hi_X2_lookAt_X4 hown hw hok11 (wF_4 (S := S) hok11.2) rfl 2 (by decide) (hts _ (List.mem_of_getElem? (i := 2) rfl)) (fun _ h9 => h9) rfl dX2_lookAt_5 ?_
    refine lv_icmp_ne (tgt := 36) hx hb dX2_lookAt_8 (by decide) (fun c12 => ?_) (fun c12 => ?_)
    · have hg := it_neg hg c12
      exact B36 _ _ _ _ hg hw (lv_sub hl [0, 1] rfl)
    · have hg := it_pos hg c12
      refine lv_aload_n hx hb dX2_lookAt_11 rfl (lv_at hl 0 rfl) ?_
      refine wr_get (K := RX2) (T := TX2) (N := 6) (index := 22) (ref := "MakerLines$Pairing") (v := .int (hI S a0 2)) hx hb hts hi_X2_lookAt_X2 hown hw hok10 (wF_2 (S := S) hok10.2) rfl 2 (by decide) (hts _ (List.mem_of_getElem? (i := 3) rfl)) (fun _ h9 => h9) rfl dX2_lookAt_12 ?_
      refine lv_aload_n hx hb dX2_lookAt_15 rfl (lv_at hl 1 rfl) ?_
      refine wr_get (K := RX4) (T := TX4) (N := 10) (index := 39) (ref := "MakerLines$State") (v := .int (hI S a1 3)) hx hb hts hi_X2_lookAt_X4 hown hw hok11 (wF_4 (S := S) hok11.2) rfl 3 (by decide) (hts _ (List.mem_of_getElem? (i := 4) rfl)) (fun _ h9 => h9) rfl dX2_lookAt_16 ?_
      refine lv_icmp_ne (tgt := 36) hx hb dX2_lookAt_19 (by decide) (fun c13 => ?_) (fun c13 => ?_)
      · have hg := it_neg hg c13
        exact B36 _ _ _ _ hg hw (lv_sub hl [0, 1] rfl)
      · have hg := it_pos hg c13
        refine lv_aload_n hx hb dX2_lookAt_22 rfl (lv_at hl 0 rfl) ?_
        obtain ⟨r14, hr14, hg⟩ := nn_some hg
        refine wr_get (K := RX2) (T := TX2) (N := 6) (index := 12) (ref := "MakerLines$Pairing") (v := .ref r14) hx hb hts hi_X2_lookAt_X2 hown hw hok10 (wF_2 (S := S) hok10.2) rfl 0 (by decide) (hts _ (List.mem_of_getElem? (i := 5) rfl)) (fun _ h9 => h9) (congrArg (fun o => some (va_rf o)) hr14) dX2_lookAt_23 ?_
        refine lv_aload_n hx hb dX2_lookAt_26 rfl (lv_at hl 1 rfl) ?_
        obtain ⟨r15, hr15, hg⟩ := nn_some hg
        refine wr_get (K := RX4) (T := TX4) (N := 10) (index := 40) (ref := "MakerLines$State") (v := .ref r15) hx hb hts hi_X2_lookAt_X4 hown hw hok11 (wF_4 (S := S) hok11.2) rfl 0 (by decide) (hts _ (List.mem_of_getElem? (i := 6) rfl)) (fun _ h9 => h9) (congrArg (fun o => some (va_rf o)) hr15) dX2_lookAt_27 ?_
        obtain ⟨hok16, hg⟩ := gd_some hg
        obtain ⟨r17, S17, hc17, hg⟩ := cl_some hg
        refine wr_ci (va_runV (As := [.ref r15]) (rest := []) ⟨hx, hb, hml, hown, hts⟩ (c_X1_areSame l D C N S z r14 r15 r17 S17 hc17) (cwV 1 hts gX2_lookAt_X1_areSame rfl rfl rfl (by decide +kernel) ⟨Nat.le_of_ble_eq_true rfl, Nat.le_of_ble_eq_true rfl⟩) (wd_preV hw hok16 (wF_1 (S := S) hok16.2) rfl) rfl rfl hl.1 rfl (lv_room (Nat.le_of_ble_eq_true rfl)) dX2_lookAt_30 ⟨Nat.zero_le _, Nat.zero_le _⟩) hw (fun H locs hw => ?_)
        refine lv_if_ne (tgt := 86) hx hb dX2_lookAt_33 (by decide) (fun c18 => ?_) (fun c18 => ?_)
        · have hg := it_neg hg c18
          cases hg
          exact wr_vret hx hb hr hw dX2_lookAt_86 hlk
        · have hg := it_pos hg c18
          exact B36 _ _ _ _ hg hw (lv_sub hl [0, 1] rfl)
  exact B0 S0 _ _ _ hg hw hl
abbrev rm_X6_lowestOf : Room := { frames := 0, cells := 0, slots := 0, locals := 0 }
set_option maxHeartbeats 4000000 in
set_option maxRecDepth 100000 in
theorem c_X6_lowestOf (l : Launch) (D : va_G) (C : C3) (N : Nat) (S0 : Hp) (z : Nat) (x0 : Int32) (r : Int32) (S9 : Hp) (hg : f_X6_lowestOf N S0 x0 = some (r, S9)) : MetI l yX6_lowestOf wsX6_lowestOf rm_X6_lowestOf D C S0 z [.int x0] r S9 z 0 0 := by
  refine mw_ofW (cc := cX6_lowestOf) (maxL := 2) (ret := (some .int)) (lv := [(0, .int x0)]) (by decide) rfl (Nat.le_of_ble_eq_true rfl) rfl ?_
  intro p e s m below meth c ls hx hb hr hts hown hlk hml hnm hl hw
  have hown : s.vm.findClass RX6 = some m.cls := hown
  have B2 : ∀ (K2 : Hp → Int32 → Option (Int32 × Hp)) (hK2 : ∀ (S : Hp) (v1 : Int32) (H : Heap) (locs : List Loc) (ls : Array Slot), K2 S v1 = some (r, S9) → Wd D C (va_A (wP C S0) z) s.heap S z H locs s → lv_has ls 2 [(0, .int x0), (1, .int v1)] → W p l e rm_X6_lowestOf s m ([.int x0] : List Value).toArray below meth c H locs 0 0 (MQ below (QiW D C S0 z r S9 z) ([.int x0] : List Value).toArray s 0 0 (va_A (wP C S0) z)) (F0 m 2 ls [])) (S : Hp) (v1 : Int32) (H : Heap) (locs : List Loc) (ls : Array Slot), f_X6_lowestOf_b2 N x0 K2 S v1 = some (r, S9) → Wd D C (va_A (wP C S0) z) s.heap S z H locs s → lv_has ls 2 [(0, .int x0), (1, .int v1)] → W p l e rm_X6_lowestOf s m ([.int x0] : List Value).toArray below meth c H locs 0 0 (MQ below (QiW D C S0 z r S9 z) ([.int x0] : List Value).toArray s 0 0 (va_A (wP C S0) z)) (F0 m 2 ls []) := by
    intro K2 hK2 S v1 H locs ls hg hw hl
    unfold f_X6_lowestOf_b2 at hg
    refine lv_iload_n hx hb dX6_lowestOf_2 rfl (lv_at hl 1 rfl) ?_
    refine lv_bipush (v := (10 : Int32)) hx hb dX6_lowestOf_3 (by decide) ?_
    refine lv_icmp_ge (tgt := 24) hx hb dX6_lowestOf_5 (by decide) (fun c10 => ?_) (fun c10 => ?_)
    · have hg := it_pos hg c10
      refine lv_iconst (v := (-1 : Int32)) hx hb dX6_lowestOf_24 (by decide) ?_
      cases hg
      exact wr_iret hx hb hr hw dX6_lowestOf_25 hlk
    · have hg := it_neg hg c10
      refine lv_iload_n hx hb dX6_lowestOf_8 rfl (lv_at hl 0 rfl) ?_
      refine lv_iconst (v := (1 : Int32)) hx hb dX6_lowestOf_9 (by decide) ?_
      refine lv_iload_n hx hb dX6_lowestOf_10 rfl (lv_at hl 1 rfl) ?_
      refine lv_ishl hx hb dX6_lowestOf_11 ?_
      refine lv_iand hx hb dX6_lowestOf_12 ?_
      refine lv_if_eq (tgt := 18) hx hb dX6_lowestOf_13 (by decide) (fun c11 => ?_) (fun c11 => ?_)
      · have hg := it_pos hg c11
        refine lv_iinc (v := (v1 + (1 : Int32))) (lv' := [(1, .int (v1 + (1 : Int32))), (0, .int x0)]) hx hb dX6_lowestOf_18 hl (k := 1) rfl rfl (by decide) rfl (fun ls hl => ?_)
        refine lv_goto (tgt := 2) hx hb dX6_lowestOf_21 (by decide) ?_
        exact hK2 _ _ _ _ _ hg hw (lv_sub hl [1, 0] rfl)
      · have hg := it_neg hg c11
        refine lv_iload_n hx hb dX6_lowestOf_16 rfl (lv_at hl 1 rfl) ?_
        cases hg
        exact wr_iret hx hb hr hw dX6_lowestOf_17 hlk
  have L2 : ∀ (k : Nat) (S : Hp) (v1 : Int32) (H : Heap) (locs : List Loc) (ls : Array Slot), f_X6_lowestOf_l2 N x0 k S v1 = some (r, S9) → Wd D C (va_A (wP C S0) z) s.heap S z H locs s → lv_has ls 2 [(0, .int x0), (1, .int v1)] → W p l e rm_X6_lowestOf s m ([.int x0] : List Value).toArray below meth c H locs 0 0 (MQ below (QiW D C S0 z r S9 z) ([.int x0] : List Value).toArray s 0 0 (va_A (wP C S0) z)) (F0 m 2 ls []) := by
    intro k
    induction k with
    | zero => intro S v1 H locs ls hg hw hl; exact absurd (show (none : Option (Int32 × Hp)) = some (r, S9) from hg) (by simp)
    | succ k ih => intro S v1 H locs ls hg hw hl; exact B2 (f_X6_lowestOf_l2 N x0 k) ih S v1 H locs ls hg hw hl
  have B0 : ∀ (S : Hp) (H : Heap) (locs : List Loc) (ls : Array Slot), f_X6_lowestOf N S x0 = some (r, S9) → Wd D C (va_A (wP C S0) z) s.heap S z H locs s → lv_has ls 2 [(0, .int x0)] → W p l e rm_X6_lowestOf s m ([.int x0] : List Value).toArray below meth c H locs 0 0 (MQ below (QiW D C S0 z r S9 z) ([.int x0] : List Value).toArray s 0 0 (va_A (wP C S0) z)) (F0 m 0 ls []) := by
    intro S H locs ls hg hw hl
    unfold f_X6_lowestOf at hg
    refine lv_iconst (v := (0 : Int32)) hx hb dX6_lowestOf_0 (by decide) ?_
    refine lv_istore_n (lv' := [(1, .int (0 : Int32)), (0, .int x0)]) hx hb dX6_lowestOf_1 rfl hl (by decide) rfl (fun ls hl => ?_)
    exact L2 N _ _ _ _ _ hg hw (lv_sub hl [1, 0] rfl)
  exact B0 S0 _ _ _ hg hw hl
theorem hi_X2_otherOf_X2 : ∀ w ∈ wsX20, w ∈ wsX2_otherOf := fun _ h => List.mem_cons_of_mem _ (List.mem_append_right _ (h))
abbrev rm_X2_otherOf : Room := { frames := 1, cells := 0, slots := 0, locals := 21 }
set_option maxHeartbeats 4000000 in
set_option maxRecDepth 100000 in
theorem c_X2_otherOf (l : Launch) (D : va_G) (C : C3) (N : Nat) (S0 : Hp) (z : Nat) (a0 : Nat) (x1 : Int32) (r : Int32) (S9 : Hp) (hg : f_X2_otherOf N S0 a0 x1 = some (r, S9)) : MetI l yX2_otherOf wsX2_otherOf rm_X2_otherOf D C S0 z [.ref a0, .int x1] r S9 z 0 0 := by
  refine mw_ofW (cc := cX2_otherOf) (maxL := 3) (ret := (some .int)) (lv := [(0, .ref a0), (1, .int x1)]) (by decide) rfl (Nat.le_of_ble_eq_true rfl) rfl ?_
  intro p e s m below meth c ls hx hb hr hts hown hlk hml hnm hl hw
  have hown : s.vm.findClass RX2 = some m.cls := hown
  have B2 : ∀ (K2 : Hp → Int32 → Option (Int32 × Hp)) (hK2 : ∀ (S : Hp) (v2 : Int32) (H : Heap) (locs : List Loc) (ls : Array Slot), K2 S v2 = some (r, S9) → Wd D C (va_A (wP C S0) z) s.heap S z H locs s → lv_has ls 3 [(0, .ref a0), (1, .int x1), (2, .int v2)] → W p l e rm_X2_otherOf s m ([.ref a0, .int x1] : List Value).toArray below meth c H locs 0 0 (MQ below (QiW D C S0 z r S9 z) ([.ref a0, .int x1] : List Value).toArray s 0 0 (va_A (wP C S0) z)) (F0 m 2 ls [])) (S : Hp) (v2 : Int32) (H : Heap) (locs : List Loc) (ls : Array Slot), f_X2_otherOf_b2 N a0 x1 K2 S v2 = some (r, S9) → Wd D C (va_A (wP C S0) z) s.heap S z H locs s → lv_has ls 3 [(0, .ref a0), (1, .int x1), (2, .int v2)] → W p l e rm_X2_otherOf s m ([.ref a0, .int x1] : List Value).toArray below meth c H locs 0 0 (MQ below (QiW D C S0 z r S9 z) ([.ref a0, .int x1] : List Value).toArray s 0 0 (va_A (wP C S0) z)) (F0 m 2 ls []) := by
    intro K2 hK2 S v2 H locs ls hg hw hl
    unfold f_X2_otherOf_b2 at hg
    refine lv_iload_n hx hb dX2_otherOf_2 rfl (lv_at hl 2 rfl) ?_
    refine lv_aload_n hx hb dX2_otherOf_3 rfl (lv_at hl 0 rfl) ?_
    obtain ⟨hok10, hg⟩ := gd_some hg
    refine wr_get (K := RX2) (T := TX2) (N := 6) (index := 29) (ref := "MakerLines$Pairing") (v := .int (hI S a0 4)) hx hb hts hi_X2_otherOf_X2 hown hw hok10 (wF_2 (S := S) hok10.2) rfl 4 (by decide) (hts _ (List.mem_of_getElem? (i := 1) rfl)) (fun _ h9 => h9) rfl dX2_otherOf_4 ?_
    refine lv_icmp_ge (tgt := 54) hx hb dX2_otherOf_7 (by decide) (fun c11 => ?_) (fun c11 => ?_)
    · have hg := it_pos hg c11
      refine lv_iconst (v := (-1 : Int32)) hx hb dX2_otherOf_54 (by decide) ?_
      cases hg
      exact wr_iret hx hb hr hw dX2_otherOf_55 hlk
    · have hg := it_neg hg c11
      refine lv_iload_n hx hb dX2_otherOf_10 rfl (lv_at hl 2 rfl) ?_
      refine lv_aload_n hx hb dX2_otherOf_11 rfl (lv_at hl 0 rfl) ?_
      obtain ⟨r12, hr12, hg⟩ := nn_some hg
      refine wr_get (K := RX2) (T := TX2) (N := 6) (index := 25) (ref := "MakerLines$Pairing") (v := .ref r12) hx hb hts hi_X2_otherOf_X2 hown hw hok10 (wF_2 (S := S) hok10.2) rfl 3 (by decide) (hts _ (List.mem_of_getElem? (i := 2) rfl)) (fun _ h9 => h9) (congrArg (fun o => some (va_rf o)) hr12) dX2_otherOf_12 ?_
      obtain ⟨hok13, hg⟩ := gd_some hg
      refine wr_alen8 hx hb hw hok13 dX2_otherOf_15 ?_
      refine lv_icmp_ge (tgt := 54) hx hb dX2_otherOf_16 (by decide) (fun c14 => ?_) (fun c14 => ?_)
      · have hg := it_pos hg c14
        refine lv_iconst (v := (-1 : Int32)) hx hb dX2_otherOf_54 (by decide) ?_
        cases hg
        exact wr_iret hx hb hr hw dX2_otherOf_55 hlk
      · have hg := it_neg hg c14
        refine lv_aload_n hx hb dX2_otherOf_19 rfl (lv_at hl 0 rfl) ?_
        refine wr_get (K := RX2) (T := TX2) (N := 6) (index := 25) (ref := "MakerLines$Pairing") (v := .ref r12) hx hb hts hi_X2_otherOf_X2 hown hw hok10 (wF_2 (S := S) hok10.2) rfl 3 (by decide) (hts _ (List.mem_of_getElem? (i := 2) rfl)) (fun _ h9 => h9) (congrArg (fun o => some (va_rf o)) hr12) dX2_otherOf_20 ?_
        refine lv_iload_n hx hb dX2_otherOf_23 rfl (lv_at hl 2 rfl) ?_
        obtain ⟨hin15, hg⟩ := gd_some hg
        refine wr_iald hx hb hw hok13 (inb_vp hin15) dX2_otherOf_24 ?_
        refine lv_iconst (v := (1 : Int32)) hx hb dX2_otherOf_25 (by decide) ?_
        refine lv_iload_n hx hb dX2_otherOf_26 rfl (lv_at hl 1 rfl) ?_
        refine lv_ishl hx hb dX2_otherOf_27 ?_
        refine lv_iand hx hb dX2_otherOf_28 ?_
        refine lv_if_eq (tgt := 48) hx hb dX2_otherOf_29 (by decide) (fun c16 => ?_) (fun c16 => ?_)
        · have hg := it_pos hg c16
          refine lv_iinc (v := (v2 + (1 : Int32))) (lv' := [(2, .int (v2 + (1 : Int32))), (0, .ref a0), (1, .int x1)]) hx hb dX2_otherOf_48 hl (k := 2) rfl rfl (by decide) rfl (fun ls hl => ?_)
          refine lv_goto (tgt := 2) hx hb dX2_otherOf_51 (by decide) ?_
          exact hK2 _ _ _ _ _ hg hw (lv_sub hl [1, 2, 0] rfl)
        · have hg := it_neg hg c16
          refine lv_aload_n hx hb dX2_otherOf_32 rfl (lv_at hl 0 rfl) ?_
          refine wr_get (K := RX2) (T := TX2) (N := 6) (index := 25) (ref := "MakerLines$Pairing") (v := .ref r12) hx hb hts hi_X2_otherOf_X2 hown hw hok10 (wF_2 (S := S) hok10.2) rfl 3 (by decide) (hts _ (List.mem_of_getElem? (i := 2) rfl)) (fun _ h9 => h9) (congrArg (fun o => some (va_rf o)) hr12) dX2_otherOf_33 ?_
          refine lv_iload_n hx hb dX2_otherOf_36 rfl (lv_at hl 2 rfl) ?_
          refine wr_iald hx hb hw hok13 (inb_vp hin15) dX2_otherOf_37 ?_
          refine lv_iconst (v := (1 : Int32)) hx hb dX2_otherOf_38 (by decide) ?_
          refine lv_iload_n hx hb dX2_otherOf_39 rfl (lv_at hl 1 rfl) ?_
          refine lv_ishl hx hb dX2_otherOf_40 ?_
          refine lv_iconst (v := (-1 : Int32)) hx hb dX2_otherOf_41 (by decide) ?_
          refine lv_ixor hx hb dX2_otherOf_42 ?_
          refine lv_iand hx hb dX2_otherOf_43 ?_
          obtain ⟨r17, S17, hc17, hg⟩ := cl_some hg
          refine wr_ci (va_runSN (As := [.int ((hI S r12 v2.toNatClampNeg) &&& (((1 : Int32) <<< (x1 &&& 31)) ^^^ (-1 : Int32)))]) (rest := []) ⟨hx, hb, hml, hown, hts⟩ (c_X6_lowestOf l D C N S z (((hI S r12 v2.toNatClampNeg) &&& (((1 : Int32) <<< (x1 &&& 31)) ^^^ (-1 : Int32)))) r17 S17 hc17) ⟨va_cnB (own := RX2) (index := 53) (host := RX6) 1 hts gX2_otherOf_X6_lowestOf_n53 rfl rfl rfl (hw.2.2.2.2.2.2.1 _ (List.mem_of_getElem? (i := 0) rfl)) (hts _ (List.mem_of_getElem? (i := 4) rfl)) (by decide +kernel) ⟨Nat.le_of_ble_eq_true rfl, Nat.le_of_ble_eq_true rfl⟩, (hts _ (List.mem_of_getElem? (i := 3) rfl)), trivial⟩ (wd_preS hw) rfl rfl hl.1 rfl (lv_room (Nat.le_of_ble_eq_true rfl)) dX2_otherOf_44 ⟨Nat.zero_le _, Nat.zero_le _⟩) hw (fun H locs hw => ?_)
          cases hg
          exact wr_iret hx hb hr hw dX2_otherOf_47 hlk
  have L2 : ∀ (k : Nat) (S : Hp) (v2 : Int32) (H : Heap) (locs : List Loc) (ls : Array Slot), f_X2_otherOf_l2 N a0 x1 k S v2 = some (r, S9) → Wd D C (va_A (wP C S0) z) s.heap S z H locs s → lv_has ls 3 [(0, .ref a0), (1, .int x1), (2, .int v2)] → W p l e rm_X2_otherOf s m ([.ref a0, .int x1] : List Value).toArray below meth c H locs 0 0 (MQ below (QiW D C S0 z r S9 z) ([.ref a0, .int x1] : List Value).toArray s 0 0 (va_A (wP C S0) z)) (F0 m 2 ls []) := by
    intro k
    induction k with
    | zero => intro S v2 H locs ls hg hw hl; exact absurd (show (none : Option (Int32 × Hp)) = some (r, S9) from hg) (by simp)
    | succ k ih => intro S v2 H locs ls hg hw hl; exact B2 (f_X2_otherOf_l2 N a0 x1 k) ih S v2 H locs ls hg hw hl
  have B0 : ∀ (S : Hp) (H : Heap) (locs : List Loc) (ls : Array Slot), f_X2_otherOf N S a0 x1 = some (r, S9) → Wd D C (va_A (wP C S0) z) s.heap S z H locs s → lv_has ls 3 [(0, .ref a0), (1, .int x1)] → W p l e rm_X2_otherOf s m ([.ref a0, .int x1] : List Value).toArray below meth c H locs 0 0 (MQ below (QiW D C S0 z r S9 z) ([.ref a0, .int x1] : List Value).toArray s 0 0 (va_A (wP C S0) z)) (F0 m 0 ls []) := by
    intro S H locs ls hg hw hl
    unfold f_X2_otherOf at hg
    refine lv_iconst (v := (0 : Int32)) hx hb dX2_otherOf_0 (by decide) ?_
    refine lv_istore_n (lv' := [(2, .int (0 : Int32)), (0, .ref a0), (1, .int x1)]) hx hb dX2_otherOf_1 rfl hl (by decide) rfl (fun ls hl => ?_)
    exact L2 N _ _ _ _ _ hg hw (lv_sub hl [1, 2, 0] rfl)
  exact B0 S0 _ _ _ hg hw hl
theorem hi_X3_init_X1 : ∀ w ∈ wsX10, w ∈ wsX3_init := fun _ h => List.mem_cons_of_mem _ (List.mem_append_left _ (List.mem_append_right _ (h)))
theorem hi_X3_init_X3 : ∀ w ∈ wsX30, w ∈ wsX3_init := fun _ h => List.mem_cons_of_mem _ (List.mem_append_right _ (h))
abbrev rm_X3_init : Room := { frames := 2, cells := 4, slots := 60091, locals := 40 }
set_option maxHeartbeats 4000000 in
set_option maxRecDepth 100000 in
theorem c_X3_init (l : Launch) (D : va_G) (C : C3) (N : Nat) (S0 : Hp) (z0 : Nat) (a0 : Nat) (r : Unit) (S9 : Hp) (z9 : Nat) (hg : f_X3_init N S0 z0 a0 = some (r, S9, z9)) : MetV l yX3_init wsX3_init rm_X3_init D C S0 z0 [.ref a0] r S9 z9 4 60091 := by
  refine mw_ofW (cc := cX3_init) (maxL := 4) (ret := none) (lv := [(0, .ref a0)]) (by decide) rfl (Nat.le_of_ble_eq_true rfl) rfl ?_
  intro p e s m below meth c ls hx hb hr hts hown hlk hml hnm hl hw
  have hown : s.vm.findClass RX3 = some m.cls := hown
  have B88 : ∀ (K51 : Hp → Nat → Int32 → Int32 → Option (Unit × Hp × Nat)) (hK51 : ∀ (S : Hp) (z : Nat) (v1 : Int32) (v2 : Int32) (H : Heap) (locs : List Loc) (ls : Array Slot), K51 S z v1 v2 = some (r, S9, z9) → Wd D C (va_A (wP C S0) z0) s.heap S z H locs s → lv_has ls 4 [(0, .ref a0), (1, .int v1), (2, .int v2)] → W p l e rm_X3_init s m ([.ref a0] : List Value).toArray below meth c H locs 4 60091 (MQ below (QvW D C S0 z0 r S9 z9) ([.ref a0] : List Value).toArray s 4 60091 (va_A (wP C S0) z0)) (F0 m 51 ls [])) (K59 : Hp → Nat → Int32 → Int32 → Int32 → Option (Unit × Hp × Nat)) (hK59 : ∀ (S : Hp) (z : Nat) (v1 : Int32) (v2 : Int32) (v3 : Int32) (H : Heap) (locs : List Loc) (ls : Array Slot), K59 S z v1 v2 v3 = some (r, S9, z9) → Wd D C (va_A (wP C S0) z0) s.heap S z H locs s → lv_has ls 4 [(0, .ref a0), (1, .int v1), (2, .int v2), (3, .int v3)] → W p l e rm_X3_init s m ([.ref a0] : List Value).toArray below meth c H locs 4 60091 (MQ below (QvW D C S0 z0 r S9 z9) ([.ref a0] : List Value).toArray s 4 60091 (va_A (wP C S0) z0)) (F0 m 59 ls [])) (S : Hp) (z : Nat) (v1 : Int32) (v2 : Int32) (v3 : Int32) (s0 : Int32) (s1 : Int32) (s2 : Int32) (s3 : Nat) (H : Heap) (locs : List Loc) (ls : Array Slot), f_X3_init_b88 N a0 K51 K59 S z v1 v2 v3 s0 s1 s2 s3 = some (r, S9, z9) → Wd D C (va_A (wP C S0) z0) s.heap S z H locs s → lv_has ls 4 [(0, .ref a0), (1, .int v1), (2, .int v2), (3, .int v3)] → W p l e rm_X3_init s m ([.ref a0] : List Value).toArray below meth c H locs 4 60091 (MQ below (QvW D C S0 z0 r S9 z9) ([.ref a0] : List Value).toArray s 4 60091 (va_A (wP C S0) z0)) (F0 m 88 ls [.int s0, .int s1, .int s2, .ref s3]) := by
    intro K51 hK51 K59 hK59 S z v1 v2 v3 s0 s1 s2 s3 H locs ls hg hw hl
    unfold f_X3_init_b88 at hg
    refine lv_iadd hx hb dX3_init_88 ?_
    obtain ⟨hok30, hg⟩ := gd_some hg
    obtain ⟨hin31, hg⟩ := gd_some hg
    refine wr_iast hx hb hw hok30 (inb_vp hin31) dX3_init_89 (fun H locs hw => ?_)
    refine lv_iinc (v := (v3 + (1 : Int32))) (lv' := [(3, .int (v3 + (1 : Int32))), (0, .ref a0), (1, .int v1), (2, .int v2)]) hx hb dX3_init_90 hl (k := 3) rfl rfl (by decide) rfl (fun ls hl => ?_)
    refine lv_goto (tgt := 59) hx hb dX3_init_93 (by decide) ?_
    exact hK59 _ _ _ _ _ _ _ _ hg hw (lv_sub hl [1, 2, 3, 0] rfl)
  have B59 : ∀ (K51 : Hp → Nat → Int32 → Int32 → Option (Unit × Hp × Nat)) (hK51 : ∀ (S : Hp) (z : Nat) (v1 : Int32) (v2 : Int32) (H : Heap) (locs : List Loc) (ls : Array Slot), K51 S z v1 v2 = some (r, S9, z9) → Wd D C (va_A (wP C S0) z0) s.heap S z H locs s → lv_has ls 4 [(0, .ref a0), (1, .int v1), (2, .int v2)] → W p l e rm_X3_init s m ([.ref a0] : List Value).toArray below meth c H locs 4 60091 (MQ below (QvW D C S0 z0 r S9 z9) ([.ref a0] : List Value).toArray s 4 60091 (va_A (wP C S0) z0)) (F0 m 51 ls [])) (K59 : Hp → Nat → Int32 → Int32 → Int32 → Option (Unit × Hp × Nat)) (hK59 : ∀ (S : Hp) (z : Nat) (v1 : Int32) (v2 : Int32) (v3 : Int32) (H : Heap) (locs : List Loc) (ls : Array Slot), K59 S z v1 v2 v3 = some (r, S9, z9) → Wd D C (va_A (wP C S0) z0) s.heap S z H locs s → lv_has ls 4 [(0, .ref a0), (1, .int v1), (2, .int v2), (3, .int v3)] → W p l e rm_X3_init s m ([.ref a0] : List Value).toArray below meth c H locs 4 60091 (MQ below (QvW D C S0 z0 r S9 z9) ([.ref a0] : List Value).toArray s 4 60091 (va_A (wP C S0) z0)) (F0 m 59 ls [])) (S : Hp) (z : Nat) (v1 : Int32) (v2 : Int32) (v3 : Int32) (H : Heap) (locs : List Loc) (ls : Array Slot), f_X3_init_b59 N a0 K51 K59 S z v1 v2 v3 = some (r, S9, z9) → Wd D C (va_A (wP C S0) z0) s.heap S z H locs s → lv_has ls 4 [(0, .ref a0), (1, .int v1), (2, .int v2), (3, .int v3)] → W p l e rm_X3_init s m ([.ref a0] : List Value).toArray below meth c H locs 4 60091 (MQ below (QvW D C S0 z0 r S9 z9) ([.ref a0] : List Value).toArray s 4 60091 (va_A (wP C S0) z0)) (F0 m 59 ls []) := by
    intro K51 hK51 K59 hK59 S z v1 v2 v3 H locs ls hg hw hl
    unfold f_X3_init_b59 at hg
    refine lv_iload_n hx hb dX3_init_59 rfl (lv_at hl 3 rfl) ?_
    refine lv_aload_n hx hb dX3_init_60 rfl (lv_at hl 0 rfl) ?_
    obtain ⟨hok24, hg⟩ := gd_some hg
    obtain ⟨r25, hr25, hg⟩ := nn_some hg
    refine wr_get (K := RX3) (T := TX3) (N := 6) (index := 34) (ref := "MakerLines$Solver") (v := .ref r25) hx hb hts hi_X3_init_X3 hown hw hok24 (wF_3 (S := S) hok24.2) rfl 5 (by decide) (hts _ (List.mem_of_getElem? (i := 14) rfl)) (fun _ h9 => h9) (congrArg (fun o => some (va_rf o)) hr25) dX3_init_61 ?_
    obtain ⟨hok26, hg⟩ := gd_some hg
    refine wr_alen8 hx hb hw hok26 dX3_init_64 ?_
    refine lv_icmp_ge (tgt := 96) hx hb dX3_init_65 (by decide) (fun c27 => ?_) (fun c27 => ?_)
    · have hg := it_pos hg c27
      refine lv_iload_n hx hb dX3_init_96 rfl (lv_at hl 1 rfl) ?_
      refine lv_iconst (v := (3 : Int32)) hx hb dX3_init_97 (by decide) ?_
      refine lv_imul hx hb dX3_init_98 ?_
      refine lv_istore_n (lv' := [(1, .int (v1 * (3 : Int32))), (0, .ref a0), (2, .int v2), (3, .int v3)]) hx hb dX3_init_99 rfl hl (by decide) rfl (fun ls hl => ?_)
      refine lv_iinc (v := (v2 + (1 : Int32))) (lv' := [(2, .int (v2 + (1 : Int32))), (1, .int (v1 * (3 : Int32))), (0, .ref a0), (3, .int v3)]) hx hb dX3_init_100 hl (k := 2) rfl rfl (by decide) rfl (fun ls hl => ?_)
      refine lv_goto (tgt := 51) hx hb dX3_init_103 (by decide) ?_
      exact hK51 _ _ _ _ _ _ _ hg hw (lv_sub hl [2, 1, 0] rfl)
    · have hg := it_neg hg c27
      refine lv_aload_n hx hb dX3_init_68 rfl (lv_at hl 0 rfl) ?_
      refine wr_get (K := RX3) (T := TX3) (N := 6) (index := 34) (ref := "MakerLines$Solver") (v := .ref r25) hx hb hts hi_X3_init_X3 hown hw hok24 (wF_3 (S := S) hok24.2) rfl 5 (by decide) (hts _ (List.mem_of_getElem? (i := 14) rfl)) (fun _ h9 => h9) (congrArg (fun o => some (va_rf o)) hr25) dX3_init_69 ?_
      refine lv_iload_n hx hb dX3_init_72 rfl (lv_at hl 3 rfl) ?_
      refine lv_dup2_11 hx hb dX3_init_73 rfl rfl ?_
      obtain ⟨hin28, hg⟩ := gd_some hg
      refine wr_iald hx hb hw hok26 (inb_vp hin28) dX3_init_74 ?_
      refine lv_iload_n hx hb dX3_init_75 rfl (lv_at hl 3 rfl) ?_
      refine lv_iconst (v := (1 : Int32)) hx hb dX3_init_76 (by decide) ?_
      refine lv_iload_n hx hb dX3_init_77 rfl (lv_at hl 2 rfl) ?_
      refine lv_ishl hx hb dX3_init_78 ?_
      refine lv_iand hx hb dX3_init_79 ?_
      refine lv_if_eq (tgt := 87) hx hb dX3_init_80 (by decide) (fun c29 => ?_) (fun c29 => ?_)
      · have hg := it_pos hg c29
        refine lv_iconst (v := (0 : Int32)) hx hb dX3_init_87 (by decide) ?_
        exact B88 K51 hK51 K59 hK59 _ _ _ _ _ _ _ _ _ _ _ _ hg hw (lv_sub hl [0, 1, 2, 3] rfl)
      · have hg := it_neg hg c29
        refine lv_iload_n hx hb dX3_init_83 rfl (lv_at hl 1 rfl) ?_
        refine lv_goto (tgt := 88) hx hb dX3_init_84 (by decide) ?_
        exact B88 K51 hK51 K59 hK59 _ _ _ _ _ _ _ _ _ _ _ _ hg hw (lv_sub hl [0, 1, 2, 3] rfl)
  have L59 : ∀ (K51 : Hp → Nat → Int32 → Int32 → Option (Unit × Hp × Nat)) (hK51 : ∀ (S : Hp) (z : Nat) (v1 : Int32) (v2 : Int32) (H : Heap) (locs : List Loc) (ls : Array Slot), K51 S z v1 v2 = some (r, S9, z9) → Wd D C (va_A (wP C S0) z0) s.heap S z H locs s → lv_has ls 4 [(0, .ref a0), (1, .int v1), (2, .int v2)] → W p l e rm_X3_init s m ([.ref a0] : List Value).toArray below meth c H locs 4 60091 (MQ below (QvW D C S0 z0 r S9 z9) ([.ref a0] : List Value).toArray s 4 60091 (va_A (wP C S0) z0)) (F0 m 51 ls [])) (k : Nat) (S : Hp) (z : Nat) (v1 : Int32) (v2 : Int32) (v3 : Int32) (H : Heap) (locs : List Loc) (ls : Array Slot), f_X3_init_l59 N a0 K51 k S z v1 v2 v3 = some (r, S9, z9) → Wd D C (va_A (wP C S0) z0) s.heap S z H locs s → lv_has ls 4 [(0, .ref a0), (1, .int v1), (2, .int v2), (3, .int v3)] → W p l e rm_X3_init s m ([.ref a0] : List Value).toArray below meth c H locs 4 60091 (MQ below (QvW D C S0 z0 r S9 z9) ([.ref a0] : List Value).toArray s 4 60091 (va_A (wP C S0) z0)) (F0 m 59 ls []) := by
    intro K51 hK51 k
    induction k with
    | zero => intro S z v1 v2 v3 H locs ls hg hw hl; exact absurd (show (none : Option (Unit × Hp × Nat)) = some (r, S9, z9) from hg) (by simp)
    | succ k ih => intro S z v1 v2 v3 H locs ls hg hw hl; exact B59 K51 hK51 (f_X3_init_l59 N a0 K51 k) ih S z v1 v2 v3 H locs ls hg hw hl
  have B51 : ∀ (K51 : Hp → Nat → Int32 → Int32 → Option (Unit × Hp × Nat)) (hK51 : ∀ (S : Hp) (z : Nat) (v1 : Int32) (v2 : Int32) (H : Heap) (locs : List Loc) (ls : Array Slot), K51 S z v1 v2 = some (r, S9, z9) → Wd D C (va_A (wP C S0) z0) s.heap S z H locs s → lv_has ls 4 [(0, .ref a0), (1, .int v1), (2, .int v2)] → W p l e rm_X3_init s m ([.ref a0] : List Value).toArray below meth c H locs 4 60091 (MQ below (QvW D C S0 z0 r S9 z9) ([.ref a0] : List Value).toArray s 4 60091 (va_A (wP C S0) z0)) (F0 m 51 ls [])) (S : Hp) (z : Nat) (v1 : Int32) (v2 : Int32) (H : Heap) (locs : List Loc) (ls : Array Slot), f_X3_init_b51 N a0 K51 S z v1 v2 = some (r, S9, z9) → Wd D C (va_A (wP C S0) z0) s.heap S z H locs s → lv_has ls 4 [(0, .ref a0), (1, .int v1), (2, .int v2)] → W p l e rm_X3_init s m ([.ref a0] : List Value).toArray below meth c H locs 4 60091 (MQ below (QvW D C S0 z0 r S9 z9) ([.ref a0] : List Value).toArray s 4 60091 (va_A (wP C S0) z0)) (F0 m 51 ls []) := by
    intro K51 hK51 S z v1 v2 H locs ls hg hw hl
    unfold f_X3_init_b51 at hg
    refine lv_iload_n hx hb dX3_init_51 rfl (lv_at hl 2 rfl) ?_
    refine lv_bipush (v := (10 : Int32)) hx hb dX3_init_52 (by decide) ?_
    refine lv_icmp_ge (tgt := 106) hx hb dX3_init_54 (by decide) (fun c23 => ?_) (fun c23 => ?_)
    · have hg := it_pos hg c23
      cases hg
      refine W.widen (k := 4) (n := 60091) (Nat.le_of_ble_eq_true rfl) (Nat.le_of_ble_eq_true rfl) ?_
      exact wr_vret hx hb hr hw dX3_init_106 hlk
    · have hg := it_neg hg c23
      refine lv_iconst (v := (0 : Int32)) hx hb dX3_init_57 (by decide) ?_
      refine lv_istore_n (lv' := [(3, .int (0 : Int32)), (0, .ref a0), (1, .int v1), (2, .int v2)]) hx hb dX3_init_58 rfl hl (by decide) rfl (fun ls hl => ?_)
      exact L59 K51 hK51 N _ _ _ _ _ _ _ _ hg hw (lv_sub hl [1, 2, 3, 0] rfl)
  have L51 : ∀ (k : Nat) (S : Hp) (z : Nat) (v1 : Int32) (v2 : Int32) (H : Heap) (locs : List Loc) (ls : Array Slot), f_X3_init_l51 N a0 k S z v1 v2 = some (r, S9, z9) → Wd D C (va_A (wP C S0) z0) s.heap S z H locs s → lv_has ls 4 [(0, .ref a0), (1, .int v1), (2, .int v2)] → W p l e rm_X3_init s m ([.ref a0] : List Value).toArray below meth c H locs 4 60091 (MQ below (QvW D C S0 z0 r S9 z9) ([.ref a0] : List Value).toArray s 4 60091 (va_A (wP C S0) z0)) (F0 m 51 ls []) := by
    intro k
    induction k with
    | zero => intro S z v1 v2 H locs ls hg hw hl; exact absurd (show (none : Option (Unit × Hp × Nat)) = some (r, S9, z9) from hg) (by simp)
    | succ k ih => intro S z v1 v2 H locs ls hg hw hl; exact B51 (f_X3_init_l51 N a0 k) ih S z v1 v2 H locs ls hg hw hl
  have B0 : ∀ (S : Hp) (z : Nat) (H : Heap) (locs : List Loc) (ls : Array Slot), f_X3_init N S z a0 = some (r, S9, z9) → Wd D C (va_A (wP C S0) z0) s.heap S z H locs s → lv_has ls 4 [(0, .ref a0)] → W p l e rm_X3_init s m ([.ref a0] : List Value).toArray below meth c H locs 0 0 (MQ below (QvW D C S0 z0 r S9 z9) ([.ref a0] : List Value).toArray s 4 60091 (va_A (wP C S0) z0)) (F0 m 0 ls []) := by
    intro S z H locs ls hg hw hl
    unfold f_X3_init at hg
    refine lv_aload_n hx hb dX3_init_0 rfl (lv_at hl 0 rfl) ?_
    refine W.objInit hx hb hown (hts _ (List.mem_of_getElem? (i := 1) rfl)) (hts _ (List.mem_of_getElem? (i := 2) rfl)) (hts _ (List.mem_of_getElem? (i := 3) rfl)) rfl (by rw [hml]; exact hl.1) rfl dX3_init_1 (Nat.le_of_ble_eq_true rfl) (Nat.le_of_ble_eq_true rfl) ?_
    refine W.eq (g2 := F0 m 4 ls []) rfl ?_
    refine lv_aload_n hx hb dX3_init_4 rfl (lv_at hl 0 rfl) ?_
    refine wr_new (K := RX1) (T := TX1) (N := 6) (ci := 1) (index := 9) (fs := [.null, .int 0, .int 0, .int 0, .int 0, .int 0]) hx hb hts hi_X3_init_X1 tyX1 tyX1_ok hown (hts _ (List.mem_of_getElem? (i := 4) rfl)) (hts _ (List.mem_of_getElem? (i := 5) rfl)) (hts _ (List.mem_of_getElem? (i := 6) rfl)) hw rfl wn_1 (fun j hj => by rcases (show j = 0 ∨ j = 1 ∨ j = 2 ∨ j = 3 ∨ j = 4 ∨ j = 5 by omega) with rfl | rfl | rfl | rfl | rfl | rfl <;> rfl) (Nat.le_of_ble_eq_true rfl) (Nat.le_of_ble_eq_true rfl) dX3_init_5 (fun H hw => ?_)
    refine lv_dup hx hb dX3_init_8 rfl ?_
    obtain ⟨⟨⟩, S11, z11, hc11, hg⟩ := cz_some hg
    refine wr_cv (va_runIN (b := z) (As := []) (rest := [.ref z, .ref a0]) ⟨hx, hb, hml, hown, hts⟩ (c_X1_init l D C N ((sNew S z 1 0)) ((z + 1)) z () S11 z11 hc11) ⟨va_cnB (own := RX3) (index := 11) (host := RX6) 0 hts gX3_init_X1_init_n11 rfl rfl rfl (hw.2.2.2.2.2.2.1 _ (List.mem_of_getElem? (i := 3) rfl)) (hts _ (List.mem_of_getElem? (i := 6) rfl)) (by decide +kernel) ⟨Nat.le_of_ble_eq_true rfl, Nat.le_of_ble_eq_true rfl⟩, rfl, (hts _ (List.mem_of_getElem? (i := 15) rfl))⟩ (wd_preS hw) rfl rfl hl.1 rfl (lv_room (Nat.le_of_ble_eq_true rfl)) dX3_init_9 ⟨Nat.le_of_ble_eq_true rfl, Nat.le_of_ble_eq_true rfl⟩) hw (fun H locs hw => ?_)
    obtain ⟨hok12, hg⟩ := gd_some hg
    refine wr_putF (K := RX3) (T := TX3) (N := 6) (index := 12) (ref := "MakerLines$Solver") (ty := (.object "MakerLines$Lines")) (S1 := (sR S11 a0 0 (some z))) hx hb hts hi_X3_init_X3 tyX3 tyX3_ok nmX3 hown hw hok12 (wF_3 (S := S11) hok12.2) rfl (fun b hb9 => wF_sR_ne hb9) 0 (wq_3_0 (S := S11) hok12.2 _) rfl (by decide) (hts _ (List.mem_of_getElem? (i := 7) rfl)) (fun _ h9 => h9) rfl hnm rfl (by decide +kernel) rfl rfl (Nat.le_of_ble_eq_true rfl) dX3_init_12 (fun H locs hw => ?_)
    refine lv_aload_n hx hb dX3_init_15 rfl (lv_at hl 0 rfl) ?_
    refine lv_iconst (v := (0 : Int32)) hx hb dX3_init_16 (by decide) ?_
    refine wr_put (K := RX3) (T := TX3) (N := 6) (index := 18) (ref := "MakerLines$Solver") (ty := (.int)) (S1 := (sI (sR S11 a0 0 (some z)) a0 1 (0 : Int32))) hx hb hts hi_X3_init_X3 tyX3 tyX3_ok nmX3 hown hw hok12 (wF_3 (S := (sR S11 a0 0 (some z))) hok12.2) rfl (fun b hb9 => wF_sI_ne hb9) 1 (wq_3_1 (S := (sR S11 a0 0 (some z))) hok12.2 _) rfl (by decide) (hts _ (List.mem_of_getElem? (i := 8) rfl)) (fun _ h9 => h9) rfl (by decide +kernel) rfl rfl (Nat.le_of_ble_eq_true rfl) dX3_init_17 (fun H locs hw => ?_)
    refine lv_aload_n hx hb dX3_init_20 rfl (lv_at hl 0 rfl) ?_
    refine lv_iconst (v := (1 : Int32)) hx hb dX3_init_21 (by decide) ?_
    refine wr_put (K := RX3) (T := TX3) (N := 6) (index := 22) (ref := "MakerLines$Solver") (ty := (.boolean)) (S1 := (sI (sI (sR S11 a0 0 (some z)) a0 1 (0 : Int32)) a0 2 (1 : Int32))) hx hb hts hi_X3_init_X3 tyX3 tyX3_ok nmX3 hown hw hok12 (wF_3 (S := (sI (sR S11 a0 0 (some z)) a0 1 (0 : Int32))) hok12.2) rfl (fun b hb9 => wF_sI_ne hb9) 2 (wq_3_2 (S := (sI (sR S11 a0 0 (some z)) a0 1 (0 : Int32))) hok12.2 _) rfl (by decide) (hts _ (List.mem_of_getElem? (i := 9) rfl)) (fun _ h9 => h9) rfl (by decide +kernel) (by decide) (by decide) (Nat.le_of_ble_eq_true rfl) dX3_init_22 (fun H locs hw => ?_)
    obtain ⟨S13, hS13, hg⟩ := bd_some hg
    rw [← hS13] at hw
    have hok14 : ok S13 a0 3 := by rw [hS13]; exact hok12
    refine lv_aload_n hx hb dX3_init_25 rfl (lv_at hl 0 rfl) ?_
    refine lv_ldc (own := RX3) (index := 26) (v := (59049 : Int32)) hx hb hown (hts _ (List.mem_of_getElem? (i := 10) rfl)) dX3_init_26 ?_
    refine wr_newI (N' := 59049) hx hb (hts _ (List.mem_of_getElem? (i := 11) rfl)) hw (by decide) (by decide) (Nat.le_of_ble_eq_true rfl) (Nat.le_of_ble_eq_true rfl) (Nat.le_of_ble_eq_true rfl) dX3_init_28 (fun H hw => ?_)
    obtain ⟨hok16, hg⟩ := gd_some hg
    refine wr_putF (K := RX3) (T := TX3) (N := 6) (index := 27) (ref := "MakerLines$Solver") (ty := (.array .int)) (S1 := (sR (sNew S13 z11 8 59049) a0 3 (some z11))) hx hb hts hi_X3_init_X3 tyX3 tyX3_ok nmX3 hown hw hok16 (wF_3 (S := (sNew S13 z11 8 59049)) hok16.2) rfl (fun b hb9 => wF_sR_ne hb9) 3 (wq_3_3 (S := (sNew S13 z11 8 59049)) hok16.2 _) rfl (by decide) (hts _ (List.mem_of_getElem? (i := 12) rfl)) (fun _ h9 => h9) rfl hnm rfl (by decide +kernel) rfl rfl (Nat.le_of_ble_eq_true rfl) dX3_init_30 (fun H locs hw => ?_)
    refine lv_aload_n hx hb dX3_init_33 rfl (lv_at hl 0 rfl) ?_
    refine lv_iconst (v := (1 : Int32)) hx hb dX3_init_34 (by decide) ?_
    refine wr_put (K := RX3) (T := TX3) (N := 6) (index := 31) (ref := "MakerLines$Solver") (ty := (.int)) (S1 := (sI (sR (sNew S13 z11 8 59049) a0 3 (some z11)) a0 4 (1 : Int32))) hx hb hts hi_X3_init_X3 tyX3 tyX3_ok nmX3 hown hw hok16 (wF_3 (S := (sR (sNew S13 z11 8 59049) a0 3 (some z11))) hok16.2) rfl (fun b hb9 => wF_sI_ne hb9) 4 (wq_3_4 (S := (sR (sNew S13 z11 8 59049) a0 3 (some z11))) hok16.2 _) rfl (by decide) (hts _ (List.mem_of_getElem? (i := 13) rfl)) (fun _ h9 => h9) rfl (by decide +kernel) rfl rfl (Nat.le_of_ble_eq_true rfl) dX3_init_35 (fun H locs hw => ?_)
    obtain ⟨S17, hS17, hg⟩ := bd_some hg
    rw [← hS17] at hw
    have hok18 : ok S17 a0 3 := by rw [hS17]; exact hok16
    refine lv_aload_n hx hb dX3_init_38 rfl (lv_at hl 0 rfl) ?_
    refine lv_sipush (v := (1024 : Int32)) hx hb dX3_init_39 (by decide) ?_
    refine wr_newI (N' := 1024) hx hb (hts _ (List.mem_of_getElem? (i := 11) rfl)) hw (by decide) (by decide) (Nat.le_of_ble_eq_true rfl) (Nat.le_of_ble_eq_true rfl) (Nat.le_of_ble_eq_true rfl) dX3_init_42 (fun H hw => ?_)
    obtain ⟨hok20, hg⟩ := gd_some hg
    refine wr_putF (K := RX3) (T := TX3) (N := 6) (index := 34) (ref := "MakerLines$Solver") (ty := (.array .int)) (S1 := (sR (sNew S17 ((z11 + 1)) 8 1024) a0 5 (some (z11 + 1)))) hx hb hts hi_X3_init_X3 tyX3 tyX3_ok nmX3 hown hw hok20 (wF_3 (S := (sNew S17 ((z11 + 1)) 8 1024)) hok20.2) rfl (fun b hb9 => wF_sR_ne hb9) 5 (wq_3_5 (S := (sNew S17 ((z11 + 1)) 8 1024)) hok20.2 _) rfl (by decide) (hts _ (List.mem_of_getElem? (i := 14) rfl)) (fun _ h9 => h9) rfl hnm rfl (by decide +kernel) rfl rfl (Nat.le_of_ble_eq_true rfl) dX3_init_44 (fun H locs hw => ?_)
    obtain ⟨S21, hS21, hg⟩ := bd_some hg
    rw [← hS21] at hw
    have hok22 : ok S21 a0 3 := by rw [hS21]; exact hok20
    refine lv_iconst (v := (1 : Int32)) hx hb dX3_init_47 (by decide) ?_
    refine lv_istore_n (lv' := [(1, .int (1 : Int32)), (0, .ref a0)]) hx hb dX3_init_48 rfl hl (by decide) rfl (fun ls hl => ?_)
    refine lv_iconst (v := (0 : Int32)) hx hb dX3_init_49 (by decide) ?_
    refine lv_istore_n (lv' := [(2, .int (0 : Int32)), (1, .int (1 : Int32)), (0, .ref a0)]) hx hb dX3_init_50 rfl hl (by decide) rfl (fun ls hl => ?_)
    exact L51 N _ _ _ _ _ _ _ hg hw (lv_sub hl [2, 1, 0] rfl)
  exact B0 S0 z0 _ _ _ hg hw hl
theorem hi_X4_allCells_X4 : ∀ w ∈ wsX40, w ∈ wsX4_allCells := fun _ h => List.mem_cons_of_mem _ (List.mem_append_right _ (h))
abbrev rm_X4_allCells : Room := { frames := 0, cells := 0, slots := 0, locals := 0 }
set_option maxHeartbeats 4000000 in
set_option maxRecDepth 100000 in
theorem c_X4_allCells (l : Launch) (D : va_G) (C : C3) (N : Nat) (S0 : Hp) (z : Nat) (a0 : Nat) (r : Int32) (S9 : Hp) (hg : f_X4_allCells N S0 a0 = some (r, S9)) : MetI l yX4_allCells wsX4_allCells rm_X4_allCells D C S0 z [.ref a0] r S9 z 0 0 := by
  refine mw_ofW (cc := cX4_allCells) (maxL := 1) (ret := (some .int)) (lv := [(0, .ref a0)]) (by decide) rfl (Nat.le_of_ble_eq_true rfl) rfl ?_
  intro p e s m below meth c ls hx hb hr hts hown hlk hml hnm hl hw
  have hown : s.vm.findClass RX4 = some m.cls := hown
  have B0 : ∀ (S : Hp) (H : Heap) (locs : List Loc) (ls : Array Slot), f_X4_allCells N S a0 = some (r, S9) → Wd D C (va_A (wP C S0) z) s.heap S z H locs s → lv_has ls 1 [(0, .ref a0)] → W p l e rm_X4_allCells s m ([.ref a0] : List Value).toArray below meth c H locs 0 0 (MQ below (QiW D C S0 z r S9 z) ([.ref a0] : List Value).toArray s 0 0 (va_A (wP C S0) z)) (F0 m 0 ls []) := by
    intro S H locs ls hg hw hl
    unfold f_X4_allCells at hg
    refine lv_iconst (v := (1 : Int32)) hx hb dX4_allCells_0 (by decide) ?_
    refine lv_aload_n hx hb dX4_allCells_1 rfl (lv_at hl 0 rfl) ?_
    obtain ⟨hok10, hg⟩ := gd_some hg
    refine wr_get (K := RX4) (T := TX4) (N := 10) (index := 18) (ref := "MakerLines$State") (v := .int (hI S a0 1)) hx hb hts hi_X4_allCells_X4 hown hw hok10 (wF_4 (S := S) hok10.2) rfl 1 (by decide) (hts _ (List.mem_of_getElem? (i := 1) rfl)) (fun _ h9 => h9) rfl dX4_allCells_2 ?_
    refine lv_ishl hx hb dX4_allCells_5 ?_
    refine lv_iconst (v := (1 : Int32)) hx hb dX4_allCells_6 (by decide) ?_
    refine lv_isub hx hb dX4_allCells_7 ?_
    cases hg
    exact wr_iret hx hb hr hw dX4_allCells_8 hlk
  exact B0 S0 _ _ _ hg hw hl
theorem hi_X3_prepare_X3 : ∀ w ∈ wsX30, w ∈ wsX3_prepare := fun _ h => List.mem_cons_of_mem _ (List.mem_append_left _ (List.mem_append_right _ (h)))
theorem hi_X3_prepare_X4 : ∀ w ∈ wsX40, w ∈ wsX3_prepare := fun _ h => List.mem_cons_of_mem _ (List.mem_append_left _ (List.mem_append_left _ (List.mem_append_right _ (h))))
abbrev rm_X3_prepare : Room := { frames := 1, cells := 0, slots := 0, locals := 22 }
set_option maxHeartbeats 4000000 in
set_option maxRecDepth 100000 in
theorem c_X3_prepare (l : Launch) (D : va_G) (C : C3) (N : Nat) (S0 : Hp) (z : Nat) (a0 : Nat) (a1 : Nat) (r : Unit) (S9 : Hp) (hg : f_X3_prepare N S0 a0 a1 = some (r, S9)) : MetV l yX3_prepare wsX3_prepare rm_X3_prepare D C S0 z [.ref a0, .ref a1] r S9 z 0 0 := by
  refine mw_ofW (cc := cX3_prepare) (maxL := 5) (ret := none) (lv := [(0, .ref a0), (1, .ref a1)]) (by decide) rfl (Nat.le_of_ble_eq_true rfl) rfl ?_
  intro p e s m below meth c ls hx hb hr hts hown hlk hml hnm hl hw
  have hown : s.vm.findClass RX3 = some m.cls := hown
  have B82 : ∀ (S : Hp) (v3 : Int32) (H : Heap) (locs : List Loc) (ls : Array Slot), f_X3_prepare_b82 N a0 a1 S v3 = some (r, S9) → Wd D C (va_A (wP C S0) z) s.heap S z H locs s → lv_has ls 5 [(0, .ref a0), (1, .ref a1), (3, .int v3)] → W p l e rm_X3_prepare s m ([.ref a0, .ref a1] : List Value).toArray below meth c H locs 0 0 (MQ below (QvW D C S0 z r S9 z) ([.ref a0, .ref a1] : List Value).toArray s 0 0 (va_A (wP C S0) z)) (F0 m 82 ls []) := by
    intro S v3 H locs ls hg hw hl
    unfold f_X3_prepare_b82 at hg
    refine lv_aload_n hx hb dX3_prepare_82 rfl (lv_at hl 0 rfl) ?_
    obtain ⟨hok28, hg⟩ := gd_some hg
    obtain ⟨r29, hr29, hg⟩ := nn_some hg
    refine wr_get (K := RX3) (T := TX3) (N := 6) (index := 12) (ref := "MakerLines$Solver") (v := .ref r29) hx hb hts hi_X3_prepare_X3 hown hw hok28 (wF_3 (S := S) hok28.2) rfl 0 (by decide) (hts _ (List.mem_of_getElem? (i := 6) rfl)) (fun _ h9 => h9) (congrArg (fun o => some (va_rf o)) hr29) dX3_prepare_83 ?_
    refine lv_aload_n hx hb dX3_prepare_86 rfl (lv_at hl 1 rfl) ?_
    obtain ⟨hok30, hg⟩ := gd_some hg
    obtain ⟨r31, hr31, hg⟩ := nn_some hg
    refine wr_get (K := RX4) (T := TX4) (N := 10) (index := 72) (ref := "MakerLines$State") (v := .ref r31) hx hb hts hi_X3_prepare_X4 hown hw hok30 (wF_4 (S := S) hok30.2) rfl 0 (by decide) (hts _ (List.mem_of_getElem? (i := 7) rfl)) (fun _ h9 => h9) (congrArg (fun o => some (va_rf o)) hr31) dX3_prepare_87 ?_
    obtain ⟨hok32, hg⟩ := gd_some hg
    obtain ⟨⟨⟩, S33, hc33, hg⟩ := cl_some hg
    refine wr_cv (va_runV (As := [.ref r31]) (rest := []) ⟨hx, hb, hml, hown, hts⟩ (c_X1_copy l D C N S z r29 r31 () S33 hc33) (cwV 1 hts gX3_prepare_X1_copy rfl rfl rfl (by decide +kernel) ⟨Nat.le_of_ble_eq_true rfl, Nat.le_of_ble_eq_true rfl⟩) (wd_preV hw hok32 (wF_1 (S := S) hok32.2) rfl) rfl rfl hl.1 rfl (lv_room (Nat.le_of_ble_eq_true rfl)) dX3_prepare_90 ⟨Nat.zero_le _, Nat.zero_le _⟩) hw (fun H locs hw => ?_)
    refine lv_aload_n hx hb dX3_prepare_93 rfl (lv_at hl 0 rfl) ?_
    refine lv_aload_n hx hb dX3_prepare_94 rfl (lv_at hl 1 rfl) ?_
    obtain ⟨hok34, hg⟩ := gd_some hg
    obtain ⟨r35, S35, hc35, hg⟩ := cl_some hg
    refine wr_ci (va_runV (As := []) (rest := [.ref a0]) ⟨hx, hb, hml, hown, hts⟩ (c_X4_allCells l D C N S33 z a1 r35 S35 hc35) (cwV 0 hts gX3_prepare_X4_allCells rfl rfl rfl (by decide +kernel) ⟨Nat.le_of_ble_eq_true rfl, Nat.le_of_ble_eq_true rfl⟩) (wd_preV hw hok34 (wF_4 (S := S33) hok34.2) rfl) rfl rfl hl.1 rfl (lv_room (Nat.le_of_ble_eq_true rfl)) dX3_prepare_95 ⟨Nat.zero_le _, Nat.zero_le _⟩) hw (fun H locs hw => ?_)
    obtain ⟨hok36, hg⟩ := gd_some hg
    refine wr_put (K := RX3) (T := TX3) (N := 6) (index := 18) (ref := "MakerLines$Solver") (ty := (.int)) (S1 := (sI S35 a0 1 r35)) hx hb hts hi_X3_prepare_X3 tyX3 tyX3_ok nmX3 hown hw hok36 (wF_3 (S := S35) hok36.2) rfl (fun b hb9 => wF_sI_ne hb9) 1 (wq_3_1 (S := S35) hok36.2 _) rfl (by decide) (hts _ (List.mem_of_getElem? (i := 4) rfl)) (fun _ h9 => h9) rfl (by decide +kernel) rfl rfl (Nat.le_of_ble_eq_true rfl) dX3_prepare_98 (fun H locs hw => ?_)
    refine lv_aload_n hx hb dX3_prepare_101 rfl (lv_at hl 0 rfl) ?_
    refine lv_iload_n hx hb dX3_prepare_102 rfl (lv_at hl 2 rfl) ?_
    obtain ⟨hz37, hg⟩ := gd_some hg
    refine wr_put (K := RX3) (T := TX3) (N := 6) (index := 22) (ref := "MakerLines$Solver") (ty := (.boolean)) (S1 := (sI (sI S35 a0 1 r35) a0 2 v3)) hx hb hts hi_X3_prepare_X3 tyX3 tyX3_ok nmX3 hown hw hok36 (wF_3 (S := (sI S35 a0 1 r35)) hok36.2) rfl (fun b hb9 => wF_sI_ne hb9) 2 (wq_3_2 (S := (sI S35 a0 1 r35)) hok36.2 _) rfl (by decide) (hts _ (List.mem_of_getElem? (i := 5) rfl)) (fun _ h9 => h9) rfl (by decide +kernel) (isB_nar hz37) (isB_fit hz37) (Nat.le_of_ble_eq_true rfl) dX3_prepare_103 (fun H locs hw => ?_)
    refine lv_aload_n hx hb dX3_prepare_106 rfl (lv_at hl 0 rfl) ?_
    refine lv_dup hx hb dX3_prepare_107 rfl ?_
    refine wr_get (K := RX3) (T := TX3) (N := 6) (index := 31) (ref := "MakerLines$Solver") (v := .int (hI ((sI (sI S35 a0 1 r35) a0 2 v3)) a0 4)) hx hb hts hi_X3_prepare_X3 hown hw hok36 (wF_3 (S := (sI (sI S35 a0 1 r35) a0 2 v3)) hok36.2) rfl 4 (by decide) (hts _ (List.mem_of_getElem? (i := 8) rfl)) (fun _ h9 => h9) rfl dX3_prepare_108 ?_
    refine lv_iconst (v := (1 : Int32)) hx hb dX3_prepare_111 (by decide) ?_
    refine lv_iadd hx hb dX3_prepare_112 ?_
    refine wr_put (K := RX3) (T := TX3) (N := 6) (index := 31) (ref := "MakerLines$Solver") (ty := (.int)) (S1 := (sI (sI (sI S35 a0 1 r35) a0 2 v3) a0 4 ((hI ((sI (sI S35 a0 1 r35) a0 2 v3)) a0 4) + (1 : Int32)))) hx hb hts hi_X3_prepare_X3 tyX3 tyX3_ok nmX3 hown hw hok36 (wF_3 (S := (sI (sI S35 a0 1 r35) a0 2 v3)) hok36.2) rfl (fun b hb9 => wF_sI_ne hb9) 4 (wq_3_4 (S := (sI (sI S35 a0 1 r35) a0 2 v3)) hok36.2 _) rfl (by decide) (hts _ (List.mem_of_getElem? (i := 8) rfl)) (fun _ h9 => h9) rfl (by decide +kernel) rfl rfl (Nat.le_of_ble_eq_true rfl) dX3_prepare_113 (fun H locs hw => ?_)
    obtain ⟨S38, hS38, hg⟩ := bd_some hg
    rw [← hS38] at hw
    have hok39 : ok S38 a0 3 := by rw [hS38]; exact hok36
    cases hg
    exact wr_vret hx hb hr hw dX3_prepare_116 hlk
  have B61 : ∀ (S : Hp) (v3 : Int32) (s0 : Int32) (H : Heap) (locs : List Loc) (ls : Array Slot), f_X3_prepare_b61 N a0 a1 S v3 s0 = some (r, S9) → Wd D C (va_A (wP C S0) z) s.heap S z H locs s → lv_has ls 5 [(0, .ref a0), (1, .ref a1), (3, .int v3)] → W p l e rm_X3_prepare s m ([.ref a0, .ref a1] : List Value).toArray below meth c H locs 0 0 (MQ below (QvW D C S0 z r S9 z) ([.ref a0, .ref a1] : List Value).toArray s 0 0 (va_A (wP C S0) z)) (F0 m 61 ls [.int s0]) := by
    intro S v3 s0 H locs ls hg hw hl
    unfold f_X3_prepare_b61 at hg
    refine lv_istore (lv' := [(4, .int s0), (0, .ref a0), (1, .ref a1), (3, .int v3)]) hx hb dX3_prepare_61 hl (by decide) rfl (fun ls hl => ?_)
    refine lv_iload hx hb dX3_prepare_63 (lv_at hl 0 rfl) ?_
    refine lv_if_eq (tgt := 82) hx hb dX3_prepare_65 (by decide) (fun c20 => ?_) (fun c20 => ?_)
    · have hg := it_pos hg c20
      exact B82 _ _ _ _ _ hg hw (lv_sub hl [1, 2, 3] rfl)
    · have hg := it_neg hg c20
      refine lv_aload_n hx hb dX3_prepare_68 rfl (lv_at hl 1 rfl) ?_
      obtain ⟨hok21, hg⟩ := gd_some hg
      obtain ⟨r22, hr22, hg⟩ := nn_some hg
      refine wr_get (K := RX3) (T := TX3) (N := 6) (index := 12) (ref := "MakerLines$Solver") (v := .ref r22) hx hb hts hi_X3_prepare_X3 hown hw hok21 (wF_3 (S := S) hok21.2) rfl 0 (by decide) (hts _ (List.mem_of_getElem? (i := 6) rfl)) (fun _ h9 => h9) (congrArg (fun o => some (va_rf o)) hr22) dX3_prepare_69 ?_
      refine lv_aload_n hx hb dX3_prepare_72 rfl (lv_at hl 2 rfl) ?_
      obtain ⟨hok23, hg⟩ := gd_some hg
      obtain ⟨r24, hr24, hg⟩ := nn_some hg
      refine wr_get (K := RX4) (T := TX4) (N := 10) (index := 72) (ref := "MakerLines$State") (v := .ref r24) hx hb hts hi_X3_prepare_X4 hown hw hok23 (wF_4 (S := S) hok23.2) rfl 0 (by decide) (hts _ (List.mem_of_getElem? (i := 7) rfl)) (fun _ h9 => h9) (congrArg (fun o => some (va_rf o)) hr24) dX3_prepare_73 ?_
      obtain ⟨hok25, hg⟩ := gd_some hg
      obtain ⟨r26, S26, hc26, hg⟩ := cl_some hg
      refine wr_ci (va_runV (As := [.ref r24]) (rest := []) ⟨hx, hb, hml, hown, hts⟩ (c_X1_areSame l D C N S z r22 r24 r26 S26 hc26) (cwV 1 hts gX3_prepare_X1_areSame rfl rfl rfl (by decide +kernel) ⟨Nat.le_of_ble_eq_true rfl, Nat.le_of_ble_eq_true rfl⟩) (wd_preV hw hok25 (wF_1 (S := S) hok25.2) rfl) rfl rfl hl.1 rfl (lv_room (Nat.le_of_ble_eq_true rfl)) dX3_prepare_76 ⟨Nat.zero_le _, Nat.zero_le _⟩) hw (fun H locs hw => ?_)
      refine lv_if_ne (tgt := 116) hx hb dX3_prepare_79 (by decide) (fun c27 => ?_) (fun c27 => ?_)
      · have hg := it_neg hg c27
        cases hg
        exact wr_vret hx hb hr hw dX3_prepare_116 hlk
      · have hg := it_pos hg c27
        exact B82 _ _ _ _ _ hg hw (lv_sub hl [1, 2, 3] rfl)
  have B60 : ∀ (S : Hp) (v3 : Int32) (H : Heap) (locs : List Loc) (ls : Array Slot), f_X3_prepare_b60 N a0 a1 S v3 = some (r, S9) → Wd D C (va_A (wP C S0) z) s.heap S z H locs s → lv_has ls 5 [(0, .ref a0), (1, .ref a1), (3, .int v3)] → W p l e rm_X3_prepare s m ([.ref a0, .ref a1] : List Value).toArray below meth c H locs 0 0 (MQ below (QvW D C S0 z r S9 z) ([.ref a0, .ref a1] : List Value).toArray s 0 0 (va_A (wP C S0) z)) (F0 m 60 ls []) := by
    intro S v3 H locs ls hg hw hl
    unfold f_X3_prepare_b60 at hg
    refine lv_iconst (v := (0 : Int32)) hx hb dX3_prepare_60 (by decide) ?_
    exact B61 _ _ _ _ _ _ hg hw (lv_sub hl [0, 1, 2] rfl)
  have B36 : ∀ (S : Hp) (s0 : Int32) (H : Heap) (locs : List Loc) (ls : Array Slot), f_X3_prepare_b36 N a0 a1 S s0 = some (r, S9) → Wd D C (va_A (wP C S0) z) s.heap S z H locs s → lv_has ls 5 [(0, .ref a0), (1, .ref a1)] → W p l e rm_X3_prepare s m ([.ref a0, .ref a1] : List Value).toArray below meth c H locs 0 0 (MQ below (QvW D C S0 z r S9 z) ([.ref a0, .ref a1] : List Value).toArray s 0 0 (va_A (wP C S0) z)) (F0 m 36 ls [.int s0]) := by
    intro S s0 H locs ls hg hw hl
    unfold f_X3_prepare_b36 at hg
    refine lv_istore_n (lv' := [(3, .int s0), (0, .ref a0), (1, .ref a1)]) hx hb dX3_prepare_36 rfl hl (by decide) rfl (fun ls hl => ?_)
    refine lv_aload_n hx hb dX3_prepare_37 rfl (lv_at hl 1 rfl) ?_
    obtain ⟨hok14, hg⟩ := gd_some hg
    refine wr_get (K := RX3) (T := TX3) (N := 6) (index := 18) (ref := "MakerLines$Solver") (v := .int (hI S a0 1)) hx hb hts hi_X3_prepare_X3 hown hw hok14 (wF_3 (S := S) hok14.2) rfl 1 (by decide) (hts _ (List.mem_of_getElem? (i := 4) rfl)) (fun _ h9 => h9) rfl dX3_prepare_38 ?_
    refine lv_aload_n hx hb dX3_prepare_41 rfl (lv_at hl 2 rfl) ?_
    obtain ⟨hok15, hg⟩ := gd_some hg
    obtain ⟨r16, S16, hc16, hg⟩ := cl_some hg
    refine wr_ci (va_runV (As := []) (rest := [.int (hI S a0 1)]) ⟨hx, hb, hml, hown, hts⟩ (c_X4_allCells l D C N S z a1 r16 S16 hc16) (cwV 0 hts gX3_prepare_X4_allCells rfl rfl rfl (by decide +kernel) ⟨Nat.le_of_ble_eq_true rfl, Nat.le_of_ble_eq_true rfl⟩) (wd_preV hw hok15 (wF_4 (S := S) hok15.2) rfl) rfl rfl hl.1 rfl (lv_room (Nat.le_of_ble_eq_true rfl)) dX3_prepare_42 ⟨Nat.zero_le _, Nat.zero_le _⟩) hw (fun H locs hw => ?_)
    refine lv_icmp_ne (tgt := 60) hx hb dX3_prepare_45 (by decide) (fun c17 => ?_) (fun c17 => ?_)
    · have hg := it_neg hg c17
      exact B60 _ _ _ _ _ hg hw (lv_sub hl [1, 2, 0] rfl)
    · have hg := it_pos hg c17
      refine lv_aload_n hx hb dX3_prepare_48 rfl (lv_at hl 1 rfl) ?_
      obtain ⟨hok18, hg⟩ := gd_some hg
      refine wr_get (K := RX3) (T := TX3) (N := 6) (index := 22) (ref := "MakerLines$Solver") (v := .int (hI S16 a0 2)) hx hb hts hi_X3_prepare_X3 hown hw hok18 (wF_3 (S := S16) hok18.2) rfl 2 (by decide) (hts _ (List.mem_of_getElem? (i := 5) rfl)) (fun _ h9 => h9) rfl dX3_prepare_49 ?_
      refine lv_iload_n hx hb dX3_prepare_52 rfl (lv_at hl 0 rfl) ?_
      refine lv_icmp_ne (tgt := 60) hx hb dX3_prepare_53 (by decide) (fun c19 => ?_) (fun c19 => ?_)
      · have hg := it_neg hg c19
        exact B60 _ _ _ _ _ hg hw (lv_sub hl [1, 2, 0] rfl)
      · have hg := it_pos hg c19
        refine lv_iconst (v := (1 : Int32)) hx hb dX3_prepare_56 (by decide) ?_
        refine lv_goto (tgt := 61) hx hb dX3_prepare_57 (by decide) ?_
        exact B61 _ _ _ _ _ _ hg hw (lv_sub hl [1, 2, 0] rfl)
  have B28 : ∀ (S : Hp) (s0 : Int32) (s1 : Int32) (H : Heap) (locs : List Loc) (ls : Array Slot), f_X3_prepare_b28 N a0 a1 S s0 s1 = some (r, S9) → Wd D C (va_A (wP C S0) z) s.heap S z H locs s → lv_has ls 5 [(0, .ref a0), (1, .ref a1)] → W p l e rm_X3_prepare s m ([.ref a0, .ref a1] : List Value).toArray below meth c H locs 0 0 (MQ below (QvW D C S0 z r S9 z) ([.ref a0, .ref a1] : List Value).toArray s 0 0 (va_A (wP C S0) z)) (F0 m 28 ls [.int s0, .int s1]) := by
    intro S s0 s1 H locs ls hg hw hl
    unfold f_X3_prepare_b28 at hg
    refine lv_icmp_ne (tgt := 35) hx hb dX3_prepare_28 (by decide) (fun c13 => ?_) (fun c13 => ?_)
    · have hg := it_neg hg c13
      refine lv_iconst (v := (0 : Int32)) hx hb dX3_prepare_35 (by decide) ?_
      exact B36 _ _ _ _ _ hg hw (lv_sub hl [0, 1] rfl)
    · have hg := it_pos hg c13
      refine lv_iconst (v := (1 : Int32)) hx hb dX3_prepare_31 (by decide) ?_
      refine lv_goto (tgt := 36) hx hb dX3_prepare_32 (by decide) ?_
      exact B36 _ _ _ _ _ hg hw (lv_sub hl [0, 1] rfl)
  have B0 : ∀ (S : Hp) (H : Heap) (locs : List Loc) (ls : Array Slot), f_X3_prepare N S a0 a1 = some (r, S9) → Wd D C (va_A (wP C S0) z) s.heap S z H locs s → lv_has ls 5 [(0, .ref a0), (1, .ref a1)] → W p l e rm_X3_prepare s m ([.ref a0, .ref a1] : List Value).toArray below meth c H locs 0 0 (MQ below (QvW D C S0 z r S9 z) ([.ref a0, .ref a1] : List Value).toArray s 0 0 (va_A (wP C S0) z)) (F0 m 0 ls []) := by
    intro S H locs ls hg hw hl
    unfold f_X3_prepare at hg
    refine lv_aload_n hx hb dX3_prepare_0 rfl (lv_at hl 1 rfl) ?_
    obtain ⟨hok10, hg⟩ := gd_some hg
    refine wr_get (K := RX4) (T := TX4) (N := 10) (index := 41) (ref := "MakerLines$State") (v := .int (hI S a1 2)) hx hb hts hi_X3_prepare_X4 hown hw hok10 (wF_4 (S := S) hok10.2) rfl 2 (by decide) (hts _ (List.mem_of_getElem? (i := 1) rfl)) (fun _ h9 => h9) rfl dX3_prepare_1 ?_
    refine lv_aload_n hx hb dX3_prepare_4 rfl (lv_at hl 1 rfl) ?_
    refine wr_get (K := RX4) (T := TX4) (N := 10) (index := 46) (ref := "MakerLines$State") (v := .int (hI S a1 3)) hx hb hts hi_X3_prepare_X4 hown hw hok10 (wF_4 (S := S) hok10.2) rfl 3 (by decide) (hts _ (List.mem_of_getElem? (i := 2) rfl)) (fun _ h9 => h9) rfl dX3_prepare_5 ?_
    refine lv_ior hx hb dX3_prepare_8 ?_
    refine wr_ci (va_runS (As := [.int ((hI S a1 2) ||| (hI S a1 3))]) (rest := []) ⟨hx, hb, hml, hown, hts⟩ (c_bitc l D C S z (((hI S a1 2) ||| (hI S a1 3)))) (va_cwS 1 hts gX3_prepare_J6_bitCount_0f7a4 rfl rfl rfl (by decide +kernel) ⟨Nat.le_of_ble_eq_true rfl, Nat.le_of_ble_eq_true rfl⟩) (wd_preS hw) rfl rfl hl.1 rfl (lv_room (Nat.le_of_ble_eq_true rfl)) dX3_prepare_9 ⟨Nat.zero_le _, Nat.zero_le _⟩) hw (fun H locs hw => ?_)
    obtain ⟨e11, he11, hg⟩ := bd_some hg
    refine lv_istore_n (lv' := [(2, .int e11), (0, .ref a0), (1, .ref a1)]) hx hb dX3_prepare_12 rfl hl (by decide) (by rw [he11]; rfl) (fun ls hl => ?_)
    refine lv_aload_n hx hb dX3_prepare_13 rfl (lv_at hl 2 rfl) ?_
    refine wr_get (K := RX4) (T := TX4) (N := 10) (index := 49) (ref := "MakerLines$State") (v := .int (hI S a1 4)) hx hb hts hi_X3_prepare_X4 hown hw hok10 (wF_4 (S := S) hok10.2) rfl 4 (by decide) (hts _ (List.mem_of_getElem? (i := 3) rfl)) (fun _ h9 => h9) rfl dX3_prepare_14 ?_
    refine lv_iload_n hx hb dX3_prepare_17 rfl (lv_at hl 0 rfl) ?_
    refine lv_iconst (v := (1 : Int32)) hx hb dX3_prepare_18 (by decide) ?_
    refine lv_iand hx hb dX3_prepare_19 ?_
    refine lv_if_ne (tgt := 27) hx hb dX3_prepare_20 (by decide) (fun c12 => ?_) (fun c12 => ?_)
    · have hg := it_neg hg c12
      refine lv_iconst (v := (0 : Int32)) hx hb dX3_prepare_27 (by decide) ?_
      exact B28 _ _ _ _ _ _ hg hw (lv_sub hl [1, 2] rfl)
    · have hg := it_pos hg c12
      refine lv_iconst (v := (1 : Int32)) hx hb dX3_prepare_23 (by decide) ?_
      refine lv_goto (tgt := 28) hx hb dX3_prepare_24 (by decide) ?_
      exact B28 _ _ _ _ _ _ hg hw (lv_sub hl [1, 2] rfl)
  exact B0 S0 _ _ _ hg hw hl
theorem hi_X3_placeOf_X3 : ∀ w ∈ wsX30, w ∈ wsX3_placeOf := fun _ h => List.mem_cons_of_mem _ (List.mem_append_right _ (h))
abbrev rm_X3_placeOf : Room := { frames := 0, cells := 0, slots := 0, locals := 0 }
set_option maxHeartbeats 4000000 in
set_option maxRecDepth 100000 in
theorem c_X3_placeOf (l : Launch) (D : va_G) (C : C3) (N : Nat) (S0 : Hp) (z : Nat) (a0 : Nat) (x1 : Int32) (x2 : Int32) (r : Int32) (S9 : Hp) (hg : f_X3_placeOf N S0 a0 x1 x2 = some (r, S9)) : MetI l yX3_placeOf wsX3_placeOf rm_X3_placeOf D C S0 z [.ref a0, .int x1, .int x2] r S9 z 0 0 := by
  refine mw_ofW (cc := cX3_placeOf) (maxL := 4) (ret := (some .int)) (lv := [(0, .ref a0), (1, .int x1), (2, .int x2)]) (by decide) rfl (Nat.le_of_ble_eq_true rfl) rfl ?_
  intro p e s m below meth c ls hx hb hr hts hown hlk hml hnm hl hw
  have hown : s.vm.findClass RX3 = some m.cls := hown
  have B31 : ∀ (S : Hp) (s0 : Int32) (H : Heap) (locs : List Loc) (ls : Array Slot), f_X3_placeOf_b31 N a0 x1 x2 S s0 = some (r, S9) → Wd D C (va_A (wP C S0) z) s.heap S z H locs s → lv_has ls 4 [(0, .ref a0), (1, .int x1), (2, .int x2)] → W p l e rm_X3_placeOf s m ([.ref a0, .int x1, .int x2] : List Value).toArray below meth c H locs 0 0 (MQ below (QiW D C S0 z r S9 z) ([.ref a0, .int x1, .int x2] : List Value).toArray s 0 0 (va_A (wP C S0) z)) (F0 m 31 ls [.int s0]) := by
    intro S s0 H locs ls hg hw hl
    unfold f_X3_placeOf_b31 at hg
    refine lv_istore_n (lv' := [(3, .int s0), (0, .ref a0), (1, .int x1), (2, .int x2)]) hx hb dX3_placeOf_31 rfl hl (by decide) rfl (fun ls hl => ?_)
    refine lv_iload_n hx hb dX3_placeOf_32 rfl (lv_at hl 0 rfl) ?_
    refine lv_if_eq (tgt := 54) hx hb dX3_placeOf_33 (by decide) (fun c17 => ?_) (fun c17 => ?_)
    · have hg := it_pos hg c17
      refine lv_iconst (v := (-1 : Int32)) hx hb dX3_placeOf_54 (by decide) ?_
      cases hg
      exact wr_iret hx hb hr hw dX3_placeOf_55 hlk
    · have hg := it_neg hg c17
      refine lv_aload_n hx hb dX3_placeOf_36 rfl (lv_at hl 1 rfl) ?_
      obtain ⟨hok18, hg⟩ := gd_some hg
      obtain ⟨r19, hr19, hg⟩ := nn_some hg
      refine wr_get (K := RX3) (T := TX3) (N := 6) (index := 34) (ref := "MakerLines$Solver") (v := .ref r19) hx hb hts hi_X3_placeOf_X3 hown hw hok18 (wF_3 (S := S) hok18.2) rfl 5 (by decide) (hts _ (List.mem_of_getElem? (i := 1) rfl)) (fun _ h9 => h9) (congrArg (fun o => some (va_rf o)) hr19) dX3_placeOf_37 ?_
      refine lv_iload_n hx hb dX3_placeOf_40 rfl (lv_at hl 2 rfl) ?_
      obtain ⟨hok20, hg⟩ := gd_some hg
      obtain ⟨hin21, hg⟩ := gd_some hg
      refine wr_iald hx hb hw hok20 (inb_vp hin21) dX3_placeOf_41 ?_
      refine lv_iconst (v := (2 : Int32)) hx hb dX3_placeOf_42 (by decide) ?_
      refine lv_aload_n hx hb dX3_placeOf_43 rfl (lv_at hl 1 rfl) ?_
      refine wr_get (K := RX3) (T := TX3) (N := 6) (index := 34) (ref := "MakerLines$Solver") (v := .ref r19) hx hb hts hi_X3_placeOf_X3 hown hw hok18 (wF_3 (S := S) hok18.2) rfl 5 (by decide) (hts _ (List.mem_of_getElem? (i := 1) rfl)) (fun _ h9 => h9) (congrArg (fun o => some (va_rf o)) hr19) dX3_placeOf_44 ?_
      refine lv_iload_n hx hb dX3_placeOf_47 rfl (lv_at hl 3 rfl) ?_
      obtain ⟨hin22, hg⟩ := gd_some hg
      refine wr_iald hx hb hw hok20 (inb_vp hin22) dX3_placeOf_48 ?_
      refine lv_imul hx hb dX3_placeOf_49 ?_
      refine lv_iadd hx hb dX3_placeOf_50 ?_
      refine lv_goto (tgt := 55) hx hb dX3_placeOf_51 (by decide) ?_
      cases hg
      exact wr_iret hx hb hr hw dX3_placeOf_55 hlk
  have B30 : ∀ (S : Hp) (H : Heap) (locs : List Loc) (ls : Array Slot), f_X3_placeOf_b30 N a0 x1 x2 S = some (r, S9) → Wd D C (va_A (wP C S0) z) s.heap S z H locs s → lv_has ls 4 [(0, .ref a0), (1, .int x1), (2, .int x2)] → W p l e rm_X3_placeOf s m ([.ref a0, .int x1, .int x2] : List Value).toArray below meth c H locs 0 0 (MQ below (QiW D C S0 z r S9 z) ([.ref a0, .int x1, .int x2] : List Value).toArray s 0 0 (va_A (wP C S0) z)) (F0 m 30 ls []) := by
    intro S H locs ls hg hw hl
    unfold f_X3_placeOf_b30 at hg
    refine lv_iconst (v := (0 : Int32)) hx hb dX3_placeOf_30 (by decide) ?_
    exact B31 _ _ _ _ _ hg hw (lv_sub hl [0, 1, 2] rfl)
  have B0 : ∀ (S : Hp) (H : Heap) (locs : List Loc) (ls : Array Slot), f_X3_placeOf N S a0 x1 x2 = some (r, S9) → Wd D C (va_A (wP C S0) z) s.heap S z H locs s → lv_has ls 4 [(0, .ref a0), (1, .int x1), (2, .int x2)] → W p l e rm_X3_placeOf s m ([.ref a0, .int x1, .int x2] : List Value).toArray below meth c H locs 0 0 (MQ below (QiW D C S0 z r S9 z) ([.ref a0, .int x1, .int x2] : List Value).toArray s 0 0 (va_A (wP C S0) z)) (F0 m 0 ls []) := by
    intro S H locs ls hg hw hl
    unfold f_X3_placeOf at hg
    refine lv_iload_n hx hb dX3_placeOf_0 rfl (lv_at hl 1 rfl) ?_
    refine lv_if_lt (tgt := 30) hx hb dX3_placeOf_1 (by decide) (fun c10 => ?_) (fun c10 => ?_)
    · have hg := it_pos hg c10
      exact B30 _ _ _ _ hg hw (lv_sub hl [0, 1, 2] rfl)
    · have hg := it_neg hg c10
      refine lv_iload_n hx hb dX3_placeOf_4 rfl (lv_at hl 1 rfl) ?_
      refine lv_aload_n hx hb dX3_placeOf_5 rfl (lv_at hl 0 rfl) ?_
      obtain ⟨hok11, hg⟩ := gd_some hg
      obtain ⟨r12, hr12, hg⟩ := nn_some hg
      refine wr_get (K := RX3) (T := TX3) (N := 6) (index := 34) (ref := "MakerLines$Solver") (v := .ref r12) hx hb hts hi_X3_placeOf_X3 hown hw hok11 (wF_3 (S := S) hok11.2) rfl 5 (by decide) (hts _ (List.mem_of_getElem? (i := 1) rfl)) (fun _ h9 => h9) (congrArg (fun o => some (va_rf o)) hr12) dX3_placeOf_6 ?_
      obtain ⟨hok13, hg⟩ := gd_some hg
      refine wr_alen8 hx hb hw hok13 dX3_placeOf_9 ?_
      refine lv_icmp_ge (tgt := 30) hx hb dX3_placeOf_10 (by decide) (fun c14 => ?_) (fun c14 => ?_)
      · have hg := it_pos hg c14
        exact B30 _ _ _ _ hg hw (lv_sub hl [0, 1, 2] rfl)
      · have hg := it_neg hg c14
        refine lv_iload_n hx hb dX3_placeOf_13 rfl (lv_at hl 2 rfl) ?_
        refine lv_if_lt (tgt := 30) hx hb dX3_placeOf_14 (by decide) (fun c15 => ?_) (fun c15 => ?_)
        · have hg := it_pos hg c15
          exact B30 _ _ _ _ hg hw (lv_sub hl [0, 1, 2] rfl)
        · have hg := it_neg hg c15
          refine lv_iload_n hx hb dX3_placeOf_17 rfl (lv_at hl 2 rfl) ?_
          refine lv_aload_n hx hb dX3_placeOf_18 rfl (lv_at hl 0 rfl) ?_
          refine wr_get (K := RX3) (T := TX3) (N := 6) (index := 34) (ref := "MakerLines$Solver") (v := .ref r12) hx hb hts hi_X3_placeOf_X3 hown hw hok11 (wF_3 (S := S) hok11.2) rfl 5 (by decide) (hts _ (List.mem_of_getElem? (i := 1) rfl)) (fun _ h9 => h9) (congrArg (fun o => some (va_rf o)) hr12) dX3_placeOf_19 ?_
          refine wr_alen8 hx hb hw hok13 dX3_placeOf_22 ?_
          refine lv_icmp_ge (tgt := 30) hx hb dX3_placeOf_23 (by decide) (fun c16 => ?_) (fun c16 => ?_)
          · have hg := it_pos hg c16
            exact B30 _ _ _ _ hg hw (lv_sub hl [0, 1, 2] rfl)
          · have hg := it_neg hg c16
            refine lv_iconst (v := (1 : Int32)) hx hb dX3_placeOf_26 (by decide) ?_
            refine lv_goto (tgt := 31) hx hb dX3_placeOf_27 (by decide) ?_
            exact B31 _ _ _ _ _ hg hw (lv_sub hl [0, 1, 2] rfl)
  exact B0 S0 _ _ _ hg hw hl
theorem hi_X3_recall_X3 : ∀ w ∈ wsX30, w ∈ wsX3_recall := fun _ h => List.mem_cons_of_mem _ (List.mem_append_right _ (h))
abbrev rm_X3_recall : Room := { frames := 0, cells := 0, slots := 0, locals := 0 }
set_option maxHeartbeats 4000000 in
set_option maxRecDepth 100000 in
theorem c_X3_recall (l : Launch) (D : va_G) (C : C3) (N : Nat) (S0 : Hp) (z : Nat) (a0 : Nat) (x1 : Int32) (r : Int32) (S9 : Hp) (hg : f_X3_recall N S0 a0 x1 = some (r, S9)) : MetI l yX3_recall wsX3_recall rm_X3_recall D C S0 z [.ref a0, .int x1] r S9 z 0 0 := by
  refine mw_ofW (cc := cX3_recall) (maxL := 3) (ret := (some .int)) (lv := [(0, .ref a0), (1, .int x1)]) (by decide) rfl (Nat.le_of_ble_eq_true rfl) rfl ?_
  intro p e s m below meth c ls hx hb hr hts hown hlk hml hnm hl hw
  have hown : s.vm.findClass RX3 = some m.cls := hown
  have B18 : ∀ (S : Hp) (s0 : Int32) (H : Heap) (locs : List Loc) (ls : Array Slot), f_X3_recall_b18 N a0 x1 S s0 = some (r, S9) → Wd D C (va_A (wP C S0) z) s.heap S z H locs s → lv_has ls 3 [(0, .ref a0), (1, .int x1)] → W p l e rm_X3_recall s m ([.ref a0, .int x1] : List Value).toArray below meth c H locs 0 0 (MQ below (QiW D C S0 z r S9 z) ([.ref a0, .int x1] : List Value).toArray s 0 0 (va_A (wP C S0) z)) (F0 m 18 ls [.int s0]) := by
    intro S s0 H locs ls hg hw hl
    unfold f_X3_recall_b18 at hg
    refine lv_istore_n (lv' := [(2, .int s0), (0, .ref a0), (1, .int x1)]) hx hb dX3_recall_18 rfl hl (by decide) rfl (fun ls hl => ?_)
    refine lv_iload_n hx hb dX3_recall_19 rfl (lv_at hl 0 rfl) ?_
    refine lv_if_eq (tgt := 50) hx hb dX3_recall_20 (by decide) (fun c15 => ?_) (fun c15 => ?_)
    · have hg := it_pos hg c15
      refine lv_bipush (v := (-2 : Int32)) hx hb dX3_recall_50 (by decide) ?_
      cases hg
      exact wr_iret hx hb hr hw dX3_recall_52 hlk
    · have hg := it_neg hg c15
      refine lv_aload_n hx hb dX3_recall_23 rfl (lv_at hl 1 rfl) ?_
      obtain ⟨hok16, hg⟩ := gd_some hg
      obtain ⟨r17, hr17, hg⟩ := nn_some hg
      refine wr_get (K := RX3) (T := TX3) (N := 6) (index := 27) (ref := "MakerLines$Solver") (v := .ref r17) hx hb hts hi_X3_recall_X3 hown hw hok16 (wF_3 (S := S) hok16.2) rfl 3 (by decide) (hts _ (List.mem_of_getElem? (i := 1) rfl)) (fun _ h9 => h9) (congrArg (fun o => some (va_rf o)) hr17) dX3_recall_24 ?_
      refine lv_iload_n hx hb dX3_recall_27 rfl (lv_at hl 2 rfl) ?_
      obtain ⟨hok18, hg⟩ := gd_some hg
      obtain ⟨hin19, hg⟩ := gd_some hg
      refine wr_iald hx hb hw hok18 (inb_vp hin19) dX3_recall_28 ?_
      refine lv_iconst (v := (4 : Int32)) hx hb dX3_recall_29 (by decide) ?_
      refine lv_ishr hx hb dX3_recall_30 ?_
      refine lv_aload_n hx hb dX3_recall_31 rfl (lv_at hl 1 rfl) ?_
      refine wr_get (K := RX3) (T := TX3) (N := 6) (index := 31) (ref := "MakerLines$Solver") (v := .int (hI S a0 4)) hx hb hts hi_X3_recall_X3 hown hw hok16 (wF_3 (S := S) hok16.2) rfl 4 (by decide) (hts _ (List.mem_of_getElem? (i := 2) rfl)) (fun _ h9 => h9) rfl dX3_recall_32 ?_
      refine lv_icmp_ne (tgt := 50) hx hb dX3_recall_35 (by decide) (fun c20 => ?_) (fun c20 => ?_)
      · have hg := it_neg hg c20
        refine lv_bipush (v := (-2 : Int32)) hx hb dX3_recall_50 (by decide) ?_
        cases hg
        exact wr_iret hx hb hr hw dX3_recall_52 hlk
      · have hg := it_pos hg c20
        refine lv_aload_n hx hb dX3_recall_38 rfl (lv_at hl 1 rfl) ?_
        refine wr_get (K := RX3) (T := TX3) (N := 6) (index := 27) (ref := "MakerLines$Solver") (v := .ref r17) hx hb hts hi_X3_recall_X3 hown hw hok16 (wF_3 (S := S) hok16.2) rfl 3 (by decide) (hts _ (List.mem_of_getElem? (i := 1) rfl)) (fun _ h9 => h9) (congrArg (fun o => some (va_rf o)) hr17) dX3_recall_39 ?_
        refine lv_iload_n hx hb dX3_recall_42 rfl (lv_at hl 2 rfl) ?_
        refine wr_iald hx hb hw hok18 (inb_vp hin19) dX3_recall_43 ?_
        refine lv_bipush (v := (15 : Int32)) hx hb dX3_recall_44 (by decide) ?_
        refine lv_iand hx hb dX3_recall_46 ?_
        refine lv_iconst (v := (1 : Int32)) hx hb dX3_recall_47 (by decide) ?_
        refine lv_isub hx hb dX3_recall_48 ?_
        cases hg
        exact wr_iret hx hb hr hw dX3_recall_49 hlk
  have B17 : ∀ (S : Hp) (H : Heap) (locs : List Loc) (ls : Array Slot), f_X3_recall_b17 N a0 x1 S = some (r, S9) → Wd D C (va_A (wP C S0) z) s.heap S z H locs s → lv_has ls 3 [(0, .ref a0), (1, .int x1)] → W p l e rm_X3_recall s m ([.ref a0, .int x1] : List Value).toArray below meth c H locs 0 0 (MQ below (QiW D C S0 z r S9 z) ([.ref a0, .int x1] : List Value).toArray s 0 0 (va_A (wP C S0) z)) (F0 m 17 ls []) := by
    intro S H locs ls hg hw hl
    unfold f_X3_recall_b17 at hg
    refine lv_iconst (v := (0 : Int32)) hx hb dX3_recall_17 (by decide) ?_
    exact B18 _ _ _ _ _ hg hw (lv_sub hl [0, 1] rfl)
  have B0 : ∀ (S : Hp) (H : Heap) (locs : List Loc) (ls : Array Slot), f_X3_recall N S a0 x1 = some (r, S9) → Wd D C (va_A (wP C S0) z) s.heap S z H locs s → lv_has ls 3 [(0, .ref a0), (1, .int x1)] → W p l e rm_X3_recall s m ([.ref a0, .int x1] : List Value).toArray below meth c H locs 0 0 (MQ below (QiW D C S0 z r S9 z) ([.ref a0, .int x1] : List Value).toArray s 0 0 (va_A (wP C S0) z)) (F0 m 0 ls []) := by
    intro S H locs ls hg hw hl
    unfold f_X3_recall at hg
    refine lv_iload_n hx hb dX3_recall_0 rfl (lv_at hl 1 rfl) ?_
    refine lv_if_lt (tgt := 17) hx hb dX3_recall_1 (by decide) (fun c10 => ?_) (fun c10 => ?_)
    · have hg := it_pos hg c10
      exact B17 _ _ _ _ hg hw (lv_sub hl [0, 1] rfl)
    · have hg := it_neg hg c10
      refine lv_iload_n hx hb dX3_recall_4 rfl (lv_at hl 1 rfl) ?_
      refine lv_aload_n hx hb dX3_recall_5 rfl (lv_at hl 0 rfl) ?_
      obtain ⟨hok11, hg⟩ := gd_some hg
      obtain ⟨r12, hr12, hg⟩ := nn_some hg
      refine wr_get (K := RX3) (T := TX3) (N := 6) (index := 27) (ref := "MakerLines$Solver") (v := .ref r12) hx hb hts hi_X3_recall_X3 hown hw hok11 (wF_3 (S := S) hok11.2) rfl 3 (by decide) (hts _ (List.mem_of_getElem? (i := 1) rfl)) (fun _ h9 => h9) (congrArg (fun o => some (va_rf o)) hr12) dX3_recall_6 ?_
      obtain ⟨hok13, hg⟩ := gd_some hg
      refine wr_alen8 hx hb hw hok13 dX3_recall_9 ?_
      refine lv_icmp_ge (tgt := 17) hx hb dX3_recall_10 (by decide) (fun c14 => ?_) (fun c14 => ?_)
      · have hg := it_pos hg c14
        exact B17 _ _ _ _ hg hw (lv_sub hl [0, 1] rfl)
      · have hg := it_neg hg c14
        refine lv_iconst (v := (1 : Int32)) hx hb dX3_recall_13 (by decide) ?_
        refine lv_goto (tgt := 18) hx hb dX3_recall_14 (by decide) ?_
        exact B18 _ _ _ _ _ hg hw (lv_sub hl [0, 1] rfl)
  exact B0 S0 _ _ _ hg hw hl
theorem hi_X3_keep_X3 : ∀ w ∈ wsX30, w ∈ wsX3_keep := fun _ h => List.mem_cons_of_mem _ (List.mem_append_right _ (h))
abbrev rm_X3_keep : Room := { frames := 0, cells := 0, slots := 0, locals := 0 }
set_option maxHeartbeats 4000000 in
set_option maxRecDepth 100000 in
theorem c_X3_keep (l : Launch) (D : va_G) (C : C3) (N : Nat) (S0 : Hp) (z : Nat) (a0 : Nat) (x1 : Int32) (x2 : Int32) (r : Unit) (S9 : Hp) (hg : f_X3_keep N S0 a0 x1 x2 = some (r, S9)) : MetV l yX3_keep wsX3_keep rm_X3_keep D C S0 z [.ref a0, .int x1, .int x2] r S9 z 0 0 := by
  refine mw_ofW (cc := cX3_keep) (maxL := 3) (ret := none) (lv := [(0, .ref a0), (1, .int x1), (2, .int x2)]) (by decide) rfl (Nat.le_of_ble_eq_true rfl) rfl ?_
  intro p e s m below meth c ls hx hb hr hts hown hlk hml hnm hl hw
  have hown : s.vm.findClass RX3 = some m.cls := hown
  have B0 : ∀ (S : Hp) (H : Heap) (locs : List Loc) (ls : Array Slot), f_X3_keep N S a0 x1 x2 = some (r, S9) → Wd D C (va_A (wP C S0) z) s.heap S z H locs s → lv_has ls 3 [(0, .ref a0), (1, .int x1), (2, .int x2)] → W p l e rm_X3_keep s m ([.ref a0, .int x1, .int x2] : List Value).toArray below meth c H locs 0 0 (MQ below (QvW D C S0 z r S9 z) ([.ref a0, .int x1, .int x2] : List Value).toArray s 0 0 (va_A (wP C S0) z)) (F0 m 0 ls []) := by
    intro S H locs ls hg hw hl
    unfold f_X3_keep at hg
    refine lv_iload_n hx hb dX3_keep_0 rfl (lv_at hl 1 rfl) ?_
    refine lv_if_lt (tgt := 32) hx hb dX3_keep_1 (by decide) (fun c10 => ?_) (fun c10 => ?_)
    · have hg := it_pos hg c10
      cases hg
      exact wr_vret hx hb hr hw dX3_keep_32 hlk
    · have hg := it_neg hg c10
      refine lv_iload_n hx hb dX3_keep_4 rfl (lv_at hl 1 rfl) ?_
      refine lv_aload_n hx hb dX3_keep_5 rfl (lv_at hl 0 rfl) ?_
      obtain ⟨hok11, hg⟩ := gd_some hg
      obtain ⟨r12, hr12, hg⟩ := nn_some hg
      refine wr_get (K := RX3) (T := TX3) (N := 6) (index := 27) (ref := "MakerLines$Solver") (v := .ref r12) hx hb hts hi_X3_keep_X3 hown hw hok11 (wF_3 (S := S) hok11.2) rfl 3 (by decide) (hts _ (List.mem_of_getElem? (i := 1) rfl)) (fun _ h9 => h9) (congrArg (fun o => some (va_rf o)) hr12) dX3_keep_6 ?_
      obtain ⟨hok13, hg⟩ := gd_some hg
      refine wr_alen8 hx hb hw hok13 dX3_keep_9 ?_
      refine lv_icmp_ge (tgt := 32) hx hb dX3_keep_10 (by decide) (fun c14 => ?_) (fun c14 => ?_)
      · have hg := it_pos hg c14
        cases hg
        exact wr_vret hx hb hr hw dX3_keep_32 hlk
      · have hg := it_neg hg c14
        refine lv_aload_n hx hb dX3_keep_13 rfl (lv_at hl 0 rfl) ?_
        refine wr_get (K := RX3) (T := TX3) (N := 6) (index := 27) (ref := "MakerLines$Solver") (v := .ref r12) hx hb hts hi_X3_keep_X3 hown hw hok11 (wF_3 (S := S) hok11.2) rfl 3 (by decide) (hts _ (List.mem_of_getElem? (i := 1) rfl)) (fun _ h9 => h9) (congrArg (fun o => some (va_rf o)) hr12) dX3_keep_14 ?_
        refine lv_iload_n hx hb dX3_keep_17 rfl (lv_at hl 1 rfl) ?_
        refine lv_aload_n hx hb dX3_keep_18 rfl (lv_at hl 0 rfl) ?_
        refine wr_get (K := RX3) (T := TX3) (N := 6) (index := 31) (ref := "MakerLines$Solver") (v := .int (hI S a0 4)) hx hb hts hi_X3_keep_X3 hown hw hok11 (wF_3 (S := S) hok11.2) rfl 4 (by decide) (hts _ (List.mem_of_getElem? (i := 2) rfl)) (fun _ h9 => h9) rfl dX3_keep_19 ?_
        refine lv_iconst (v := (4 : Int32)) hx hb dX3_keep_22 (by decide) ?_
        refine lv_ishl hx hb dX3_keep_23 ?_
        refine lv_iload_n hx hb dX3_keep_24 rfl (lv_at hl 2 rfl) ?_
        refine lv_iconst (v := (1 : Int32)) hx hb dX3_keep_25 (by decide) ?_
        refine lv_iadd hx hb dX3_keep_26 ?_
        refine lv_bipush (v := (15 : Int32)) hx hb dX3_keep_27 (by decide) ?_
        refine lv_iand hx hb dX3_keep_29 ?_
        refine lv_ior hx hb dX3_keep_30 ?_
        obtain ⟨hin15, hg⟩ := gd_some hg
        refine wr_iast hx hb hw hok13 (inb_vp hin15) dX3_keep_31 (fun H locs hw => ?_)
        obtain ⟨S16, hS16, hg⟩ := bd_some hg
        rw [← hS16] at hw
        have hok17 : ok S16 a0 3 := by rw [hS16]; exact hok11
        have hr18 : hR S16 a0 3 = some r12 := by rw [hS16]; exact hr12
        have hok19 : ok S16 r12 8 := by rw [hS16]; exact hok13
        have hin20 : inb x1 (hN S16 r12) := by rw [hS16]; exact hin15
        cases hg
        exact wr_vret hx hb hr hw dX3_keep_32 hlk
  exact B0 S0 _ _ _ hg hw hl
