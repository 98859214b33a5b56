theorem hi_X7_mix_X7 : ∀ w ∈ wsX70, w ∈ wsX7_mix := fun _ h => List.mem_cons_of_mem _ (List.mem_append_right _ (h))
abbrev rm_X7_mix : Room := { frames := 0, cells := 0, slots := 0, locals := 0 }
set_option maxHeartbeats 4000000 in
set_option maxRecDepth 100000 in
theorem c_X7_mix (l : Launch) (D : va_G) (C : C3) (N : Nat) (S0 : Hp) (z : Nat) (a0 : Nat) (y1 : Int64) (r : Unit) (S9 : Hp) (hg : f_X7_mix N S0 a0 y1 = some (r, S9)) : MetV l yX7_mix wsX7_mix rm_X7_mix D C S0 z [.ref a0, .long y1] r S9 z 0 0 := by
  refine mw_ofW (cc := cX7_mix) (maxL := 3) (ret := none) (lv := [(0, .ref a0), (1, .long y1)]) (by decide) rfl (Nat.le_of_ble_eq_true rfl) rfl ?_
  intro p e s m below meth c ls hx hb hr hts hown hlk hml hnm hl hw
  have hown : s.vm.findClass RX7 = some m.cls := hown
  have B0 : ∀ (S : Hp) (H : Heap) (locs : List Loc) (ls : Array Slot), f_X7_mix N S a0 y1 = some (r, S9) → Wd D C (va_A (wP C S0) z) s.heap S z H locs s → lv_has ls 3 [(0, .ref a0), (1, .long y1)] → W p l e rm_X7_mix s m ([.ref a0, .long y1] : List Value).toArray below meth c H locs 0 0 (MQ below (QvW D C S0 z r S9 z) ([.ref a0, .long y1] : List Value).toArray s 0 0 (va_A (wP C S0) z)) (F0 m 0 ls []) := by
    intro S H locs ls hg hw hl
    unfold f_X7_mix at hg
    refine lv_aload_n hx hb dX7_mix_0 rfl (lv_at hl 0 rfl) ?_
    refine lv_ldc2 (own := RX7) (index := 245) (v := (31 : Int64)) hx hb hown (hts _ (List.mem_of_getElem? (i := 1) rfl)) dX7_mix_1 ?_
    refine lv_aload_n hx hb dX7_mix_4 rfl (lv_at hl 0 rfl) ?_
    obtain ⟨hok10, hg⟩ := gd_some hg
    refine wr_get (K := RX7) (T := TX7) (N := 20) (index := 247) (ref := "MakerLinesModel") (v := .long (hJ S a0 19)) hx hb hts hi_X7_mix_X7 hown hw hok10 (wF_7 (S := S) hok10.2) rfl 19 (by decide) (hts _ (List.mem_of_getElem? (i := 2) rfl)) (fun _ h9 => h9) rfl dX7_mix_5 ?_
    refine lv_lmul hx hb dX7_mix_8 ?_
    refine lv_lload_n hx hb dX7_mix_9 rfl (lv_at hl 1 rfl) ?_
    refine lv_ladd hx hb dX7_mix_10 ?_
    refine wr_put (K := RX7) (T := TX7) (N := 20) (index := 247) (ref := "MakerLinesModel") (ty := (.long)) (S1 := (sJ S a0 19 (((31 : Int64) * (hJ S a0 19)) + y1))) hx hb hts hi_X7_mix_X7 tyX7 tyX7_ok nmX7 hown hw hok10 (wF_7 (S := S) hok10.2) rfl (fun b hb9 => wF_sJ_ne hb9) 19 (wq_7_19 (S := S) hok10.2 _) rfl (by decide) (hts _ (List.mem_of_getElem? (i := 2) rfl)) (fun _ h9 => h9) rfl (by decide +kernel) rfl rfl (Nat.le_of_ble_eq_true rfl) dX7_mix_11 (fun H locs hw => ?_)
    obtain ⟨S11, hS11, hg⟩ := bd_some hg
    rw [← hS11] at hw
    have hok12 : ok S11 a0 7 := by rw [hS11]; exact hok10
    cases hg
    exact wr_vret hx hb hr hw dX7_mix_14 hlk
  exact B0 S0 _ _ _ hg hw hl
