theorem hi_X7_mix_X7 : ∀ w ∈ wsX70, w ∈ wsX7_mix := fun _ h => List.mem_cons_of_mem _ (List.mem_append_right _ (h))
abbrev rm_X7_mix : Room := { frames := 0, cells := 0, slots := 0, locals := 0 }
set_option maxHeartbeats 4000000 in
set_option maxRecDepth 100000 in
theorem c_X7_mix (l : Launch) (D : va_G) (C : C3) (N : Nat) (S0 : Hp) (z : Nat) (a0 : Nat) (y1 : Int64) (r : Unit) (S9 : Hp) (hg : f_X7_mix N S0 a0 y1 = some (r, S9)) : MetV l yX7_mix wsX7_mix rm_X7_mix D C S0 z [.ref a0, .long y1] r S9 z 0 0 := by
  refine mw_ofW (cc := cX7_mix) (maxL := 3) (ret := none) (lv := [(0, .ref a0), (1, .long y1)]) (by decide) rfl (Nat.le_of_ble_eq_true rfl) rfl ?_
  intro p e s m below meth c ls hx hb hr hts hown hlk hml hnm hl hw
  have hown : s.vm.findClass RX7 = some m.cls := hown
  have B0 : ∀ (S : Hp) (H : Heap) (locs : List Loc) (ls : Array Slot), f_X7_mix N S a0 y1 = some (r, S9) → Wd D C (va_A (wP C S0) z) s.heap S z H locs s → lv_has ls 3 [(0, .ref a0), (1, .long y1)] → W p l e rm_X7_mix s m ([.ref a0, .long y1] : List Value).toArray below meth c H locs 0 0 (MQ below (QvW D C S0 z r S9 z) ([.ref a0, .long y1] : List Value).toArray s 0 0 (va_A (wP C S0) z)) (F0 m 0 ls []) := by
    intro S H locs ls hg hw hl
    unfold f_X7_mix at hg
    refine lv_aload_n hx hb dX7_mix_0 rfl (lv_at hl 0 rfl) ?_
    refine lv_ldc2 (own := RX7) (index := 245) (v := (31 : Int64)) hx hb hown (hts _ (List.mem_of_getElem? (i := 1) rfl)) dX7_mix_1 ?_
    refine lv_aload_n hx hb dX7_mix_4 rfl (lv_at hl 0 rfl) ?_
    obtain ⟨hok10, hg⟩ := gd_some hg
    refine wr_get (K := RX7) (T := TX7) (N := 20) (index := 247) (ref := "MakerLinesModel") (v := .long (hJ S a0 19)) hx hb hts hi_X7_mix_X7 hown hw hok10 (wF_7 (S := S) hok10.2) rfl 19 (by decide) (hts _ (List.mem_of_getElem? (i := 2) rfl)) (fun _ h9 => h9) rfl dX7_mix_5 ?_
    refine lv_lmul hx hb dX7_mix_8 ?_
    refine lv_lload_n hx hb dX7_mix_9 rfl (lv_at hl 1 rfl) ?_
    refine lv_ladd hx hb dX7_mix_10 ?_
    refine wr_put (K := RX7) (T := TX7) (N := 20) (index := 247) (ref := "MakerLinesModel") (ty := (.long)) (S1 := (sJ S a0 19 (((31 : Int64) * (hJ S a0 19)) + y1))) hx hb hts hi_X7_mix_X7 tyX7 tyX7_ok nmX7 hown hw hok10 (wF_7 (S := S) hok10.2) rfl (fun b hb9 => wF_sJ_ne hb9) 19 (wq_7_19 (S := S) hok10.2 _) rfl (by decide) (hts _ (List.mem_of_getElem? (i := 2) rfl)) (fun _ h9 => h9) rfl (by decide +kernel) rfl rfl (Nat.le_of_ble_eq_true rfl) dX7_mix_11 (fun H locs hw => ?_)
    obtain ⟨S11, hS11, hg⟩ := bd_some hg
    rw [← hS11] at hw
    have hok12 : ok S11 a0 7 := by rw [hS11]; exact hok10
    cases hg
    exact wr_vret hx hb hr hw dX7_mix_14 hlk
  exact B0 S0 _ _ _ hg hw hl
theorem hi_X7_digest_X7 : ∀ w ∈ wsX70, w ∈ wsX7_digest := fun _ h => List.mem_cons_of_mem _ (List.mem_append_right _ (h))
abbrev rm_X7_digest : Room := { frames := 10, cells := 0, slots := 0, locals := 220 }
set_option maxHeartbeats 4000000 in
set_option maxRecDepth 100000 in
theorem c_X7_digest (l : Launch) (D : va_G) (C : C3) (N : Nat) (S0 : Hp) (z : Nat) (a0 : Nat) (r : Int64) (S9 : Hp) (hg : f_X7_digest N S0 a0 = some (r, S9)) : MetL l yX7_digest wsX7_digest rm_X7_digest D C S0 z [.ref a0] r S9 z 0 0 := by
  refine mw_ofW (cc := cX7_digest) (maxL := 3) (ret := (some .long)) (lv := [(0, .ref a0)]) (by decide) rfl (Nat.le_of_ble_eq_true rfl) rfl ?_
  intro p e s m below meth c ls hx hb hr hts hown hlk hml hnm hl hw
  have hown : s.vm.findClass RX7 = some m.cls := hown
  have B232 : ∀ (K232 : Hp → Int32 → Option (Int64 × Hp)) (hK232 : ∀ (S : Hp) (v1 : Int32) (H : Heap) (locs : List Loc) (ls : Array Slot), K232 S v1 = some (r, S9) → Wd D C (va_A (wP C S0) z) s.heap S z H locs s → lv_has ls 3 [(0, .ref a0), (1, .int v1)] → W p l e rm_X7_digest s m ([.ref a0] : List Value).toArray below meth c H locs 0 0 (MQ below (QlW D C S0 z r S9 z) ([.ref a0] : List Value).toArray s 0 0 (va_A (wP C S0) z)) (F0 m 232 ls [])) (S : Hp) (v1 : Int32) (H : Heap) (locs : List Loc) (ls : Array Slot), f_X7_digest_b232 N a0 K232 S v1 = some (r, S9) → Wd D C (va_A (wP C S0) z) s.heap S z H locs s → lv_has ls 3 [(0, .ref a0), (1, .int v1)] → W p l e rm_X7_digest s m ([.ref a0] : List Value).toArray below meth c H locs 0 0 (MQ below (QlW D C S0 z r S9 z) ([.ref a0] : List Value).toArray s 0 0 (va_A (wP C S0) z)) (F0 m 232 ls []) := by
    intro K232 hK232 S v1 H locs ls hg hw hl
    unfold f_X7_digest_b232 at hg
    refine lv_iload_n hx hb dX7_digest_232 rfl (lv_at hl 1 rfl) ?_
    refine lv_aload_n hx hb dX7_digest_233 rfl (lv_at hl 0 rfl) ?_
    obtain ⟨hok78, hg⟩ := gd_some hg
    refine wr_get (K := RX7) (T := TX7) (N := 20) (index := 191) (ref := "MakerLinesModel") (v := .int (hI S a0 5)) hx hb hts hi_X7_digest_X7 hown hw hok78 (wF_7 (S := S) hok78.2) rfl 5 (by decide) (hts _ (List.mem_of_getElem? (i := 5) rfl)) (fun _ h9 => h9) rfl dX7_digest_234 ?_
    refine lv_icmp_ge (tgt := 257) hx hb dX7_digest_237 (by decide) (fun c79 => ?_) (fun c79 => ?_)
    · have hg := it_pos hg c79
      refine lv_aload_n hx hb dX7_digest_257 rfl (lv_at hl 0 rfl) ?_
      refine wr_get (K := RX7) (T := TX7) (N := 20) (index := 247) (ref := "MakerLinesModel") (v := .long (hJ S a0 19)) hx hb hts hi_X7_digest_X7 hown hw hok78 (wF_7 (S := S) hok78.2) rfl 19 (by decide) (hts _ (List.mem_of_getElem? (i := 3) rfl)) (fun _ h9 => h9) rfl dX7_digest_258 ?_
      cases hg
      exact wr_lret hx hb hr hw dX7_digest_261 hlk
    · have hg := it_neg hg c79
      refine lv_aload_n hx hb dX7_digest_240 rfl (lv_at hl 0 rfl) ?_
      refine lv_aload_n hx hb dX7_digest_241 rfl (lv_at hl 0 rfl) ?_
      obtain ⟨r80, hr80, hg⟩ := nn_some hg
      refine wr_get (K := RX7) (T := TX7) (N := 20) (index := 22) (ref := "MakerLinesModel") (v := .ref r80) hx hb hts hi_X7_digest_X7 hown hw hok78 (wF_7 (S := S) hok78.2) rfl 6 (by decide) (hts _ (List.mem_of_getElem? (i := 6) rfl)) (fun _ h9 => h9) (congrArg (fun o => some (va_rf o)) hr80) dX7_digest_242 ?_
      refine lv_iload_n hx hb dX7_digest_245 rfl (lv_at hl 1 rfl) ?_
      obtain ⟨hok81, hg⟩ := gd_some hg
      obtain ⟨hin82, hg⟩ := gd_some hg
      refine wr_iald hx hb hw hok81 (inb_vp hin82) dX7_digest_246 ?_
      refine lv_i2l (v := (Int32.toInt64 (hI S r80 v1.toNatClampNeg))) hx hb dX7_digest_247 rfl ?_
      obtain ⟨⟨⟩, S83, hc83, hg⟩ := cl_some hg
      refine wr_cv (va_runV (As := [.long (Int32.toInt64 (hI S r80 v1.toNatClampNeg))]) (rest := []) ⟨hx, hb, hml, hown, hts⟩ (c_X7_mix l D C N S z a0 ((Int32.toInt64 (hI S r80 v1.toNatClampNeg))) () S83 hc83) (cwV 1 hts gX7_digest_X7_mix rfl rfl rfl (by decide +kernel) ⟨Nat.le_of_ble_eq_true rfl, Nat.le_of_ble_eq_true rfl⟩) (wd_preV hw hok78 (wF_7 (S := S) hok78.2) rfl) rfl rfl hl.1 rfl (lv_room (Nat.le_of_ble_eq_true rfl)) dX7_digest_248 ⟨Nat.zero_le _, Nat.zero_le _⟩) hw (fun H locs hw => ?_)
      refine lv_iinc (v := (v1 + (1 : Int32))) (lv' := [(1, .int (v1 + (1 : Int32))), (0, .ref a0)]) hx hb dX7_digest_251 hl (k := 1) rfl rfl (by decide) rfl (fun ls hl => ?_)
      refine lv_goto (tgt := 232) hx hb dX7_digest_254 (by decide) ?_
      exact hK232 _ _ _ _ _ hg hw (lv_sub hl [1, 0] rfl)
  have L232 : ∀ (k : Nat) (S : Hp) (v1 : Int32) (H : Heap) (locs : List Loc) (ls : Array Slot), f_X7_digest_l232 N a0 k S v1 = some (r, S9) → Wd D C (va_A (wP C S0) z) s.heap S z H locs s → lv_has ls 3 [(0, .ref a0), (1, .int v1)] → W p l e rm_X7_digest s m ([.ref a0] : List Value).toArray below meth c H locs 0 0 (MQ below (QlW D C S0 z r S9 z) ([.ref a0] : List Value).toArray s 0 0 (va_A (wP C S0) z)) (F0 m 232 ls []) := by
    intro k
    induction k with
    | zero => intro S v1 H locs ls hg hw hl; exact absurd (show (none : Option (Int64 × Hp)) = some (r, S9) from hg) (by simp)
    | succ k ih => intro S v1 H locs ls hg hw hl; exact B232 (f_X7_digest_l232 N a0 k) ih S v1 H locs ls hg hw hl
  have B125 : ∀ (K125 : Hp → Int32 → Option (Int64 × Hp)) (hK125 : ∀ (S : Hp) (v1 : Int32) (H : Heap) (locs : List Loc) (ls : Array Slot), K125 S v1 = some (r, S9) → Wd D C (va_A (wP C S0) z) s.heap S z H locs s → lv_has ls 3 [(0, .ref a0), (1, .int v1)] → W p l e rm_X7_digest s m ([.ref a0] : List Value).toArray below meth c H locs 0 0 (MQ below (QlW D C S0 z r S9 z) ([.ref a0] : List Value).toArray s 0 0 (va_A (wP C S0) z)) (F0 m 125 ls [])) (S : Hp) (v1 : Int32) (H : Heap) (locs : List Loc) (ls : Array Slot), f_X7_digest_b125 N a0 K125 S v1 = some (r, S9) → Wd D C (va_A (wP C S0) z) s.heap S z H locs s → lv_has ls 3 [(0, .ref a0), (1, .int v1)] → W p l e rm_X7_digest s m ([.ref a0] : List Value).toArray below meth c H locs 0 0 (MQ below (QlW D C S0 z r S9 z) ([.ref a0] : List Value).toArray s 0 0 (va_A (wP C S0) z)) (F0 m 125 ls []) := by
    intro K125 hK125 S v1 H locs ls hg hw hl
    unfold f_X7_digest_b125 at hg
    refine lv_iload_n hx hb dX7_digest_125 rfl (lv_at hl 1 rfl) ?_
    refine lv_iconst (v := (4 : Int32)) hx hb dX7_digest_126 (by decide) ?_
    refine lv_icmp_ge (tgt := 146) hx hb dX7_digest_127 (by decide) (fun c33 => ?_) (fun c33 => ?_)
    · have hg := it_pos hg c33
      refine lv_aload_n hx hb dX7_digest_146 rfl (lv_at hl 0 rfl) ?_
      refine lv_aload_n hx hb dX7_digest_147 rfl (lv_at hl 0 rfl) ?_
      refine lv_iconst (v := (0 : Int32)) hx hb dX7_digest_148 (by decide) ?_
      obtain ⟨hok34, hg⟩ := gd_some hg
      obtain ⟨r35, S35, hc35, hg⟩ := cl_some hg
      refine wr_ci (va_runV (As := [.int (0 : Int32)]) (rest := [.ref a0]) ⟨hx, hb, hml, hown, hts⟩ (c_X7_solvedNow l D C N S z a0 ((0 : Int32)) r35 S35 hc35) (cwV 1 hts gX7_digest_X7_solvedNow rfl rfl rfl (by decide +kernel) ⟨Nat.le_of_ble_eq_true rfl, Nat.le_of_ble_eq_true rfl⟩) (wd_preV hw hok34 (wF_7 (S := S) hok34.2) rfl) rfl rfl hl.1 rfl (lv_room (Nat.le_of_ble_eq_true rfl)) dX7_digest_149 ⟨Nat.zero_le _, Nat.zero_le _⟩) hw (fun H locs hw => ?_)
      refine lv_i2l (v := (Int32.toInt64 r35)) hx hb dX7_digest_152 rfl ?_
      obtain ⟨hok36, hg⟩ := gd_some hg
      obtain ⟨⟨⟩, S37, hc37, hg⟩ := cl_some hg
      refine wr_cv (va_runV (As := [.long (Int32.toInt64 r35)]) (rest := []) ⟨hx, hb, hml, hown, hts⟩ (c_X7_mix l D C N S35 z a0 ((Int32.toInt64 r35)) () S37 hc37) (cwV 1 hts gX7_digest_X7_mix rfl rfl rfl (by decide +kernel) ⟨Nat.le_of_ble_eq_true rfl, Nat.le_of_ble_eq_true rfl⟩) (wd_preV hw hok36 (wF_7 (S := S35) hok36.2) rfl) rfl rfl hl.1 rfl (lv_room (Nat.le_of_ble_eq_true rfl)) dX7_digest_153 ⟨Nat.zero_le _, Nat.zero_le _⟩) hw (fun H locs hw => ?_)
      refine lv_aload_n hx hb dX7_digest_156 rfl (lv_at hl 0 rfl) ?_
      refine lv_aload_n hx hb dX7_digest_157 rfl (lv_at hl 0 rfl) ?_
      refine lv_iconst (v := (1 : Int32)) hx hb dX7_digest_158 (by decide) ?_
      obtain ⟨hok38, hg⟩ := gd_some hg
      obtain ⟨r39, S39, hc39, hg⟩ := cl_some hg
      refine wr_ci (va_runV (As := [.int (1 : Int32)]) (rest := [.ref a0]) ⟨hx, hb, hml, hown, hts⟩ (c_X7_solvedNow l D C N S37 z a0 ((1 : Int32)) r39 S39 hc39) (cwV 1 hts gX7_digest_X7_solvedNow rfl rfl rfl (by decide +kernel) ⟨Nat.le_of_ble_eq_true rfl, Nat.le_of_ble_eq_true rfl⟩) (wd_preV hw hok38 (wF_7 (S := S37) hok38.2) rfl) rfl rfl hl.1 rfl (lv_room (Nat.le_of_ble_eq_true rfl)) dX7_digest_159 ⟨Nat.zero_le _, Nat.zero_le _⟩) hw (fun H locs hw => ?_)
      refine lv_i2l (v := (Int32.toInt64 r39)) hx hb dX7_digest_162 rfl ?_
      obtain ⟨hok40, hg⟩ := gd_some hg
      obtain ⟨⟨⟩, S41, hc41, hg⟩ := cl_some hg
      refine wr_cv (va_runV (As := [.long (Int32.toInt64 r39)]) (rest := []) ⟨hx, hb, hml, hown, hts⟩ (c_X7_mix l D C N S39 z a0 ((Int32.toInt64 r39)) () S41 hc41) (cwV 1 hts gX7_digest_X7_mix rfl rfl rfl (by decide +kernel) ⟨Nat.le_of_ble_eq_true rfl, Nat.le_of_ble_eq_true rfl⟩) (wd_preV hw hok40 (wF_7 (S := S39) hok40.2) rfl) rfl rfl hl.1 rfl (lv_room (Nat.le_of_ble_eq_true rfl)) dX7_digest_163 ⟨Nat.zero_le _, Nat.zero_le _⟩) hw (fun H locs hw => ?_)
      refine lv_aload_n hx hb dX7_digest_166 rfl (lv_at hl 0 rfl) ?_
      refine lv_aload_n hx hb dX7_digest_167 rfl (lv_at hl 0 rfl) ?_
      refine lv_iconst (v := (1 : Int32)) hx hb dX7_digest_168 (by decide) ?_
      refine lv_iconst (v := (1 : Int32)) hx hb dX7_digest_169 (by decide) ?_
      obtain ⟨hok42, hg⟩ := gd_some hg
      obtain ⟨r43, S43, hc43, hg⟩ := cl_some hg
      refine wr_ci (va_runV (As := [.int (1 : Int32), .int (1 : Int32)]) (rest := [.ref a0]) ⟨hx, hb, hml, hown, hts⟩ (c_X7_playedThen l D C N S41 z a0 ((1 : Int32)) ((1 : Int32)) r43 S43 hc43) (cwV 2 hts gX7_digest_X7_playedThen rfl rfl rfl (by decide +kernel) ⟨Nat.le_of_ble_eq_true rfl, Nat.le_of_ble_eq_true rfl⟩) (wd_preV hw hok42 (wF_7 (S := S41) hok42.2) rfl) rfl rfl hl.1 rfl (lv_room (Nat.le_of_ble_eq_true rfl)) dX7_digest_170 ⟨Nat.zero_le _, Nat.zero_le _⟩) hw (fun H locs hw => ?_)
      refine lv_i2l (v := (Int32.toInt64 r43)) hx hb dX7_digest_173 rfl ?_
      obtain ⟨hok44, hg⟩ := gd_some hg
      obtain ⟨⟨⟩, S45, hc45, hg⟩ := cl_some hg
      refine wr_cv (va_runV (As := [.long (Int32.toInt64 r43)]) (rest := []) ⟨hx, hb, hml, hown, hts⟩ (c_X7_mix l D C N S43 z a0 ((Int32.toInt64 r43)) () S45 hc45) (cwV 1 hts gX7_digest_X7_mix rfl rfl rfl (by decide +kernel) ⟨Nat.le_of_ble_eq_true rfl, Nat.le_of_ble_eq_true rfl⟩) (wd_preV hw hok44 (wF_7 (S := S43) hok44.2) rfl) rfl rfl hl.1 rfl (lv_room (Nat.le_of_ble_eq_true rfl)) dX7_digest_174 ⟨Nat.zero_le _, Nat.zero_le _⟩) hw (fun H locs hw => ?_)
      refine lv_aload_n hx hb dX7_digest_177 rfl (lv_at hl 0 rfl) ?_
      refine lv_aload_n hx hb dX7_digest_178 rfl (lv_at hl 0 rfl) ?_
      refine lv_iconst (v := (1 : Int32)) hx hb dX7_digest_179 (by decide) ?_
      refine lv_iconst (v := (2 : Int32)) hx hb dX7_digest_180 (by decide) ?_
      obtain ⟨hok46, hg⟩ := gd_some hg
      obtain ⟨r47, S47, hc47, hg⟩ := cl_some hg
      refine wr_ci (va_runV (As := [.int (1 : Int32), .int (2 : Int32)]) (rest := [.ref a0]) ⟨hx, hb, hml, hown, hts⟩ (c_X7_playedThen l D C N S45 z a0 ((1 : Int32)) ((2 : Int32)) r47 S47 hc47) (cwV 2 hts gX7_digest_X7_playedThen rfl rfl rfl (by decide +kernel) ⟨Nat.le_of_ble_eq_true rfl, Nat.le_of_ble_eq_true rfl⟩) (wd_preV hw hok46 (wF_7 (S := S45) hok46.2) rfl) rfl rfl hl.1 rfl (lv_room (Nat.le_of_ble_eq_true rfl)) dX7_digest_181 ⟨Nat.zero_le _, Nat.zero_le _⟩) hw (fun H locs hw => ?_)
      refine lv_i2l (v := (Int32.toInt64 r47)) hx hb dX7_digest_184 rfl ?_
      obtain ⟨hok48, hg⟩ := gd_some hg
      obtain ⟨⟨⟩, S49, hc49, hg⟩ := cl_some hg
      refine wr_cv (va_runV (As := [.long (Int32.toInt64 r47)]) (rest := []) ⟨hx, hb, hml, hown, hts⟩ (c_X7_mix l D C N S47 z a0 ((Int32.toInt64 r47)) () S49 hc49) (cwV 1 hts gX7_digest_X7_mix rfl rfl rfl (by decide +kernel) ⟨Nat.le_of_ble_eq_true rfl, Nat.le_of_ble_eq_true rfl⟩) (wd_preV hw hok48 (wF_7 (S := S47) hok48.2) rfl) rfl rfl hl.1 rfl (lv_room (Nat.le_of_ble_eq_true rfl)) dX7_digest_185 ⟨Nat.zero_le _, Nat.zero_le _⟩) hw (fun H locs hw => ?_)
      refine lv_aload_n hx hb dX7_digest_188 rfl (lv_at hl 0 rfl) ?_
      refine lv_aload_n hx hb dX7_digest_189 rfl (lv_at hl 0 rfl) ?_
      refine lv_iconst (v := (2 : Int32)) hx hb dX7_digest_190 (by decide) ?_
      refine lv_iconst (v := (3 : Int32)) hx hb dX7_digest_191 (by decide) ?_
      obtain ⟨hok50, hg⟩ := gd_some hg
      obtain ⟨r51, S51, hc51, hg⟩ := cl_some hg
      refine wr_ci (va_runV (As := [.int (2 : Int32), .int (3 : Int32)]) (rest := [.ref a0]) ⟨hx, hb, hml, hown, hts⟩ (c_X7_playedThen l D C N S49 z a0 ((2 : Int32)) ((3 : Int32)) r51 S51 hc51) (cwV 2 hts gX7_digest_X7_playedThen rfl rfl rfl (by decide +kernel) ⟨Nat.le_of_ble_eq_true rfl, Nat.le_of_ble_eq_true rfl⟩) (wd_preV hw hok50 (wF_7 (S := S49) hok50.2) rfl) rfl rfl hl.1 rfl (lv_room (Nat.le_of_ble_eq_true rfl)) dX7_digest_192 ⟨Nat.zero_le _, Nat.zero_le _⟩) hw (fun H locs hw => ?_)
      refine lv_i2l (v := (Int32.toInt64 r51)) hx hb dX7_digest_195 rfl ?_
      obtain ⟨hok52, hg⟩ := gd_some hg
      obtain ⟨⟨⟩, S53, hc53, hg⟩ := cl_some hg
      refine wr_cv (va_runV (As := [.long (Int32.toInt64 r51)]) (rest := []) ⟨hx, hb, hml, hown, hts⟩ (c_X7_mix l D C N S51 z a0 ((Int32.toInt64 r51)) () S53 hc53) (cwV 1 hts gX7_digest_X7_mix rfl rfl rfl (by decide +kernel) ⟨Nat.le_of_ble_eq_true rfl, Nat.le_of_ble_eq_true rfl⟩) (wd_preV hw hok52 (wF_7 (S := S51) hok52.2) rfl) rfl rfl hl.1 rfl (lv_room (Nat.le_of_ble_eq_true rfl)) dX7_digest_196 ⟨Nat.zero_le _, Nat.zero_le _⟩) hw (fun H locs hw => ?_)
      refine lv_aload_n hx hb dX7_digest_199 rfl (lv_at hl 0 rfl) ?_
      refine lv_aload_n hx hb dX7_digest_200 rfl (lv_at hl 0 rfl) ?_
      refine lv_iconst (v := (3 : Int32)) hx hb dX7_digest_201 (by decide) ?_
      refine lv_iconst (v := (1 : Int32)) hx hb dX7_digest_202 (by decide) ?_
      obtain ⟨hok54, hg⟩ := gd_some hg
      obtain ⟨r55, S55, hc55, hg⟩ := cl_some hg
      refine wr_ci (va_runV (As := [.int (3 : Int32), .int (1 : Int32)]) (rest := [.ref a0]) ⟨hx, hb, hml, hown, hts⟩ (c_X7_playedThen l D C N S53 z a0 ((3 : Int32)) ((1 : Int32)) r55 S55 hc55) (cwV 2 hts gX7_digest_X7_playedThen rfl rfl rfl (by decide +kernel) ⟨Nat.le_of_ble_eq_true rfl, Nat.le_of_ble_eq_true rfl⟩) (wd_preV hw hok54 (wF_7 (S := S53) hok54.2) rfl) rfl rfl hl.1 rfl (lv_room (Nat.le_of_ble_eq_true rfl)) dX7_digest_203 ⟨Nat.zero_le _, Nat.zero_le _⟩) hw (fun H locs hw => ?_)
      refine lv_i2l (v := (Int32.toInt64 r55)) hx hb dX7_digest_206 rfl ?_
      obtain ⟨hok56, hg⟩ := gd_some hg
      obtain ⟨⟨⟩, S57, hc57, hg⟩ := cl_some hg
      refine wr_cv (va_runV (As := [.long (Int32.toInt64 r55)]) (rest := []) ⟨hx, hb, hml, hown, hts⟩ (c_X7_mix l D C N S55 z a0 ((Int32.toInt64 r55)) () S57 hc57) (cwV 1 hts gX7_digest_X7_mix rfl rfl rfl (by decide +kernel) ⟨Nat.le_of_ble_eq_true rfl, Nat.le_of_ble_eq_true rfl⟩) (wd_preV hw hok56 (wF_7 (S := S55) hok56.2) rfl) rfl rfl hl.1 rfl (lv_room (Nat.le_of_ble_eq_true rfl)) dX7_digest_207 ⟨Nat.zero_le _, Nat.zero_le _⟩) hw (fun H locs hw => ?_)
      refine lv_aload_n hx hb dX7_digest_210 rfl (lv_at hl 0 rfl) ?_
      refine lv_aload_n hx hb dX7_digest_211 rfl (lv_at hl 0 rfl) ?_
      obtain ⟨hok58, hg⟩ := gd_some hg
      obtain ⟨r59, S59, hc59, hg⟩ := cl_some hg
      refine wr_cd (va_runV (As := []) (rest := [.ref a0]) ⟨hx, hb, hml, hown, hts⟩ (c_X7_share l D C N S57 z a0 r59 S59 hc59) (cwV 0 hts gX7_digest_X7_share rfl rfl rfl (by decide +kernel) ⟨Nat.le_of_ble_eq_true rfl, Nat.le_of_ble_eq_true rfl⟩) (wd_preV hw hok58 (wF_7 (S := S57) hok58.2) rfl) rfl rfl hl.1 rfl (lv_room (Nat.le_of_ble_eq_true rfl)) dX7_digest_212 ⟨Nat.zero_le _, Nat.zero_le _⟩) hw (fun H locs hw => ?_)
      obtain ⟨r60, S60, hc60, hg⟩ := cl_some hg
      refine wr_cl (va_runS (As := [.double r59]) (rest := [.ref a0]) ⟨hx, hb, hml, hown, hts⟩ (c_Jxe99ae_doubleToLongBits_ccdee l D C N S59 z r59 r60 S60 hc60) (va_cwS 1 hts gX7_digest_Jxe99ae_doubleToLongBits_ccdee rfl rfl rfl (by decide +kernel) ⟨Nat.le_of_ble_eq_true rfl, Nat.le_of_ble_eq_true rfl⟩) (wd_preS hw) rfl rfl hl.1 rfl (lv_room (Nat.le_of_ble_eq_true rfl)) dX7_digest_215 ⟨Nat.zero_le _, Nat.zero_le _⟩) hw (fun H locs hw => ?_)
      obtain ⟨hok61, hg⟩ := gd_some hg
      obtain ⟨⟨⟩, S62, hc62, hg⟩ := cl_some hg
      refine wr_cv (va_runV (As := [.long r60]) (rest := []) ⟨hx, hb, hml, hown, hts⟩ (c_X7_mix l D C N S60 z a0 r60 () S62 hc62) (cwV 1 hts gX7_digest_X7_mix rfl rfl rfl (by decide +kernel) ⟨Nat.le_of_ble_eq_true rfl, Nat.le_of_ble_eq_true rfl⟩) (wd_preV hw hok61 (wF_7 (S := S60) hok61.2) rfl) rfl rfl hl.1 rfl (lv_room (Nat.le_of_ble_eq_true rfl)) dX7_digest_218 ⟨Nat.zero_le _, Nat.zero_le _⟩) hw (fun H locs hw => ?_)
      refine lv_aload_n hx hb dX7_digest_221 rfl (lv_at hl 0 rfl) ?_
      refine lv_aload_n hx hb dX7_digest_222 rfl (lv_at hl 0 rfl) ?_
      obtain ⟨hok63, hg⟩ := gd_some hg
      refine wr_get (K := RX7) (T := TX7) (N := 20) (index := 191) (ref := "MakerLinesModel") (v := .int (hI S62 a0 5)) hx hb hts hi_X7_digest_X7 hown hw hok63 (wF_7 (S := S62) hok63.2) rfl 5 (by decide) (hts _ (List.mem_of_getElem? (i := 5) rfl)) (fun _ h9 => h9) rfl dX7_digest_223 ?_
      refine lv_i2l (v := (Int32.toInt64 (hI S62 a0 5))) hx hb dX7_digest_226 rfl ?_
      obtain ⟨⟨⟩, S64, hc64, hg⟩ := cl_some hg
      refine wr_cv (va_runV (As := [.long (Int32.toInt64 (hI S62 a0 5))]) (rest := []) ⟨hx, hb, hml, hown, hts⟩ (c_X7_mix l D C N S62 z a0 ((Int32.toInt64 (hI S62 a0 5))) () S64 hc64) (cwV 1 hts gX7_digest_X7_mix rfl rfl rfl (by decide +kernel) ⟨Nat.le_of_ble_eq_true rfl, Nat.le_of_ble_eq_true rfl⟩) (wd_preV hw hok63 (wF_7 (S := S62) hok63.2) rfl) rfl rfl hl.1 rfl (lv_room (Nat.le_of_ble_eq_true rfl)) dX7_digest_227 ⟨Nat.zero_le _, Nat.zero_le _⟩) hw (fun H locs hw => ?_)
      refine lv_iconst (v := (0 : Int32)) hx hb dX7_digest_230 (by decide) ?_
      refine lv_istore_n (lv' := [(1, .int (0 : Int32)), (0, .ref a0)]) hx hb dX7_digest_231 rfl hl (by decide) rfl (fun ls hl => ?_)
      exact L232 N _ _ _ _ _ hg hw (lv_sub hl [1, 0] rfl)
    · have hg := it_neg hg c33
      refine lv_aload_n hx hb dX7_digest_130 rfl (lv_at hl 0 rfl) ?_
      refine lv_aload_n hx hb dX7_digest_131 rfl (lv_at hl 0 rfl) ?_
      refine lv_iload_n hx hb dX7_digest_132 rfl (lv_at hl 1 rfl) ?_
      obtain ⟨hok65, hg⟩ := gd_some hg
      obtain ⟨r66, S66, hc66, hg⟩ := cl_some hg
      refine wr_ci (va_runV (As := [.int v1]) (rest := [.ref a0]) ⟨hx, hb, hml, hown, hts⟩ (c_X7_replyBy l D C N S z a0 v1 r66 S66 hc66) (cwV 1 hts gX7_digest_X7_replyBy rfl rfl rfl (by decide +kernel) ⟨Nat.le_of_ble_eq_true rfl, Nat.le_of_ble_eq_true rfl⟩) (wd_preV hw hok65 (wF_7 (S := S) hok65.2) rfl) rfl rfl hl.1 rfl (lv_room (Nat.le_of_ble_eq_true rfl)) dX7_digest_133 ⟨Nat.zero_le _, Nat.zero_le _⟩) hw (fun H locs hw => ?_)
      refine lv_i2l (v := (Int32.toInt64 r66)) hx hb dX7_digest_136 rfl ?_
      obtain ⟨hok67, hg⟩ := gd_some hg
      obtain ⟨⟨⟩, S68, hc68, hg⟩ := cl_some hg
      refine wr_cv (va_runV (As := [.long (Int32.toInt64 r66)]) (rest := []) ⟨hx, hb, hml, hown, hts⟩ (c_X7_mix l D C N S66 z a0 ((Int32.toInt64 r66)) () S68 hc68) (cwV 1 hts gX7_digest_X7_mix rfl rfl rfl (by decide +kernel) ⟨Nat.le_of_ble_eq_true rfl, Nat.le_of_ble_eq_true rfl⟩) (wd_preV hw hok67 (wF_7 (S := S66) hok67.2) rfl) rfl rfl hl.1 rfl (lv_room (Nat.le_of_ble_eq_true rfl)) dX7_digest_137 ⟨Nat.zero_le _, Nat.zero_le _⟩) hw (fun H locs hw => ?_)
      refine lv_iinc (v := (v1 + (1 : Int32))) (lv' := [(1, .int (v1 + (1 : Int32))), (0, .ref a0)]) hx hb dX7_digest_140 hl (k := 1) rfl rfl (by decide) rfl (fun ls hl => ?_)
      refine lv_goto (tgt := 125) hx hb dX7_digest_143 (by decide) ?_
      exact hK125 _ _ _ _ _ hg hw (lv_sub hl [1, 0] rfl)
  have L125 : ∀ (k : Nat) (S : Hp) (v1 : Int32) (H : Heap) (locs : List Loc) (ls : Array Slot), f_X7_digest_l125 N a0 k S v1 = some (r, S9) → Wd D C (va_A (wP C S0) z) s.heap S z H locs s → lv_has ls 3 [(0, .ref a0), (1, .int v1)] → W p l e rm_X7_digest s m ([.ref a0] : List Value).toArray below meth c H locs 0 0 (MQ below (QlW D C S0 z r S9 z) ([.ref a0] : List Value).toArray s 0 0 (va_A (wP C S0) z)) (F0 m 125 ls []) := by
    intro k
    induction k with
    | zero => intro S v1 H locs ls hg hw hl; exact absurd (show (none : Option (Int64 × Hp)) = some (r, S9) from hg) (by simp)
    | succ k ih => intro S v1 H locs ls hg hw hl; exact B125 (f_X7_digest_l125 N a0 k) ih S v1 H locs ls hg hw hl
  have B85 : ∀ (K73 : Hp → Int32 → Option (Int64 × Hp)) (hK73 : ∀ (S : Hp) (v1 : Int32) (H : Heap) (locs : List Loc) (ls : Array Slot), K73 S v1 = some (r, S9) → Wd D C (va_A (wP C S0) z) s.heap S z H locs s → lv_has ls 3 [(0, .ref a0), (1, .int v1)] → W p l e rm_X7_digest s m ([.ref a0] : List Value).toArray below meth c H locs 0 0 (MQ below (QlW D C S0 z r S9 z) ([.ref a0] : List Value).toArray s 0 0 (va_A (wP C S0) z)) (F0 m 73 ls [])) (K85 : Hp → Int32 → Int32 → Option (Int64 × Hp)) (hK85 : ∀ (S : Hp) (v1 : Int32) (v2 : Int32) (H : Heap) (locs : List Loc) (ls : Array Slot), K85 S v1 v2 = some (r, S9) → Wd D C (va_A (wP C S0) z) s.heap S z H locs s → lv_has ls 3 [(0, .ref a0), (1, .int v1), (2, .int v2)] → W p l e rm_X7_digest s m ([.ref a0] : List Value).toArray below meth c H locs 0 0 (MQ below (QlW D C S0 z r S9 z) ([.ref a0] : List Value).toArray s 0 0 (va_A (wP C S0) z)) (F0 m 85 ls [])) (S : Hp) (v1 : Int32) (v2 : Int32) (H : Heap) (locs : List Loc) (ls : Array Slot), f_X7_digest_b85 N a0 K73 K85 S v1 v2 = some (r, S9) → Wd D C (va_A (wP C S0) z) s.heap S z H locs s → lv_has ls 3 [(0, .ref a0), (1, .int v1), (2, .int v2)] → W p l e rm_X7_digest s m ([.ref a0] : List Value).toArray below meth c H locs 0 0 (MQ below (QlW D C S0 z r S9 z) ([.ref a0] : List Value).toArray s 0 0 (va_A (wP C S0) z)) (F0 m 85 ls []) := by
    intro K73 hK73 K85 hK85 S v1 v2 H locs ls hg hw hl
    unfold f_X7_digest_b85 at hg
    refine lv_iload_n hx hb dX7_digest_85 rfl (lv_at hl 2 rfl) ?_
    refine lv_iconst (v := (4 : Int32)) hx hb dX7_digest_86 (by decide) ?_
    refine lv_icmp_ge (tgt := 107) hx hb dX7_digest_87 (by decide) (fun c69 => ?_) (fun c69 => ?_)
    · have hg := it_pos hg c69
      refine lv_aload_n hx hb dX7_digest_107 rfl (lv_at hl 0 rfl) ?_
      refine lv_aload_n hx hb dX7_digest_108 rfl (lv_at hl 0 rfl) ?_
      refine lv_iload_n hx hb dX7_digest_109 rfl (lv_at hl 1 rfl) ?_
      obtain ⟨hok70, hg⟩ := gd_some hg
      obtain ⟨r71, S71, hc71, hg⟩ := cl_some hg
      refine wr_ci (va_runV (As := [.int v1]) (rest := [.ref a0]) ⟨hx, hb, hml, hown, hts⟩ (c_X7_movedThen l D C N S z a0 v1 r71 S71 hc71) (cwV 1 hts gX7_digest_X7_movedThen rfl rfl rfl (by decide +kernel) ⟨Nat.le_of_ble_eq_true rfl, Nat.le_of_ble_eq_true rfl⟩) (wd_preV hw hok70 (wF_7 (S := S) hok70.2) rfl) rfl rfl hl.1 rfl (lv_room (Nat.le_of_ble_eq_true rfl)) dX7_digest_110 ⟨Nat.zero_le _, Nat.zero_le _⟩) hw (fun H locs hw => ?_)
      refine lv_i2l (v := (Int32.toInt64 r71)) hx hb dX7_digest_113 rfl ?_
      obtain ⟨hok72, hg⟩ := gd_some hg
      obtain ⟨⟨⟩, S73, hc73, hg⟩ := cl_some hg
      refine wr_cv (va_runV (As := [.long (Int32.toInt64 r71)]) (rest := []) ⟨hx, hb, hml, hown, hts⟩ (c_X7_mix l D C N S71 z a0 ((Int32.toInt64 r71)) () S73 hc73) (cwV 1 hts gX7_digest_X7_mix rfl rfl rfl (by decide +kernel) ⟨Nat.le_of_ble_eq_true rfl, Nat.le_of_ble_eq_true rfl⟩) (wd_preV hw hok72 (wF_7 (S := S71) hok72.2) rfl) rfl rfl hl.1 rfl (lv_room (Nat.le_of_ble_eq_true rfl)) dX7_digest_114 ⟨Nat.zero_le _, Nat.zero_le _⟩) hw (fun H locs hw => ?_)
      refine lv_iinc (v := (v1 + (1 : Int32))) (lv' := [(1, .int (v1 + (1 : Int32))), (0, .ref a0), (2, .int v2)]) hx hb dX7_digest_117 hl (k := 1) rfl rfl (by decide) rfl (fun ls hl => ?_)
      refine lv_goto (tgt := 73) hx hb dX7_digest_120 (by decide) ?_
      exact hK73 _ _ _ _ _ hg hw (lv_sub hl [1, 0] rfl)
    · have hg := it_neg hg c69
      refine lv_aload_n hx hb dX7_digest_90 rfl (lv_at hl 0 rfl) ?_
      refine lv_aload_n hx hb dX7_digest_91 rfl (lv_at hl 0 rfl) ?_
      refine lv_iload_n hx hb dX7_digest_92 rfl (lv_at hl 1 rfl) ?_
      refine lv_iload_n hx hb dX7_digest_93 rfl (lv_at hl 2 rfl) ?_
      obtain ⟨hok74, hg⟩ := gd_some hg
      obtain ⟨r75, S75, hc75, hg⟩ := cl_some hg
      refine wr_ci (va_runV (As := [.int v1, .int v2]) (rest := [.ref a0]) ⟨hx, hb, hml, hown, hts⟩ (c_X7_cellNow l D C N S z a0 v1 v2 r75 S75 hc75) (cwV 2 hts gX7_digest_X7_cellNow rfl rfl rfl (by decide +kernel) ⟨Nat.le_of_ble_eq_true rfl, Nat.le_of_ble_eq_true rfl⟩) (wd_preV hw hok74 (wF_7 (S := S) hok74.2) rfl) rfl rfl hl.1 rfl (lv_room (Nat.le_of_ble_eq_true rfl)) dX7_digest_94 ⟨Nat.zero_le _, Nat.zero_le _⟩) hw (fun H locs hw => ?_)
      refine lv_i2l (v := (Int32.toInt64 r75)) hx hb dX7_digest_97 rfl ?_
      obtain ⟨hok76, hg⟩ := gd_some hg
      obtain ⟨⟨⟩, S77, hc77, hg⟩ := cl_some hg
      refine wr_cv (va_runV (As := [.long (Int32.toInt64 r75)]) (rest := []) ⟨hx, hb, hml, hown, hts⟩ (c_X7_mix l D C N S75 z a0 ((Int32.toInt64 r75)) () S77 hc77) (cwV 1 hts gX7_digest_X7_mix rfl rfl rfl (by decide +kernel) ⟨Nat.le_of_ble_eq_true rfl, Nat.le_of_ble_eq_true rfl⟩) (wd_preV hw hok76 (wF_7 (S := S75) hok76.2) rfl) rfl rfl hl.1 rfl (lv_room (Nat.le_of_ble_eq_true rfl)) dX7_digest_98 ⟨Nat.zero_le _, Nat.zero_le _⟩) hw (fun H locs hw => ?_)
      refine lv_iinc (v := (v2 + (1 : Int32))) (lv' := [(2, .int (v2 + (1 : Int32))), (0, .ref a0), (1, .int v1)]) hx hb dX7_digest_101 hl (k := 2) rfl rfl (by decide) rfl (fun ls hl => ?_)
      refine lv_goto (tgt := 85) hx hb dX7_digest_104 (by decide) ?_
      exact hK85 _ _ _ _ _ _ hg hw (lv_sub hl [1, 2, 0] rfl)
  have L85 : ∀ (K73 : Hp → Int32 → Option (Int64 × Hp)) (hK73 : ∀ (S : Hp) (v1 : Int32) (H : Heap) (locs : List Loc) (ls : Array Slot), K73 S v1 = some (r, S9) → Wd D C (va_A (wP C S0) z) s.heap S z H locs s → lv_has ls 3 [(0, .ref a0), (1, .int v1)] → W p l e rm_X7_digest s m ([.ref a0] : List Value).toArray below meth c H locs 0 0 (MQ below (QlW D C S0 z r S9 z) ([.ref a0] : List Value).toArray s 0 0 (va_A (wP C S0) z)) (F0 m 73 ls [])) (k : Nat) (S : Hp) (v1 : Int32) (v2 : Int32) (H : Heap) (locs : List Loc) (ls : Array Slot), f_X7_digest_l85 N a0 K73 k S v1 v2 = some (r, S9) → Wd D C (va_A (wP C S0) z) s.heap S z H locs s → lv_has ls 3 [(0, .ref a0), (1, .int v1), (2, .int v2)] → W p l e rm_X7_digest s m ([.ref a0] : List Value).toArray below meth c H locs 0 0 (MQ below (QlW D C S0 z r S9 z) ([.ref a0] : List Value).toArray s 0 0 (va_A (wP C S0) z)) (F0 m 85 ls []) := by
    intro K73 hK73 k
    induction k with
    | zero => intro S v1 v2 H locs ls hg hw hl; exact absurd (show (none : Option (Int64 × Hp)) = some (r, S9) from hg) (by simp)
    | succ k ih => intro S v1 v2 H locs ls hg hw hl; exact B85 K73 hK73 (f_X7_digest_l85 N a0 K73 k) ih S v1 v2 H locs ls hg hw hl
  have B73 : ∀ (K73 : Hp → Int32 → Option (Int64 × Hp)) (hK73 : ∀ (S : Hp) (v1 : Int32) (H : Heap) (locs : List Loc) (ls : Array Slot), K73 S v1 = some (r, S9) → Wd D C (va_A (wP C S0) z) s.heap S z H locs s → lv_has ls 3 [(0, .ref a0), (1, .int v1)] → W p l e rm_X7_digest s m ([.ref a0] : List Value).toArray below meth c H locs 0 0 (MQ below (QlW D C S0 z r S9 z) ([.ref a0] : List Value).toArray s 0 0 (va_A (wP C S0) z)) (F0 m 73 ls [])) (S : Hp) (v1 : Int32) (H : Heap) (locs : List Loc) (ls : Array Slot), f_X7_digest_b73 N a0 K73 S v1 = some (r, S9) → Wd D C (va_A (wP C S0) z) s.heap S z H locs s → lv_has ls 3 [(0, .ref a0), (1, .int v1)] → W p l e rm_X7_digest s m ([.ref a0] : List Value).toArray below meth c H locs 0 0 (MQ below (QlW D C S0 z r S9 z) ([.ref a0] : List Value).toArray s 0 0 (va_A (wP C S0) z)) (F0 m 73 ls []) := by
    intro K73 hK73 S v1 H locs ls hg hw hl
    unfold f_X7_digest_b73 at hg
    refine lv_iload_n hx hb dX7_digest_73 rfl (lv_at hl 1 rfl) ?_
    refine lv_aload_n hx hb dX7_digest_74 rfl (lv_at hl 0 rfl) ?_
    obtain ⟨hok28, hg⟩ := gd_some hg
    obtain ⟨r29, hr29, hg⟩ := nn_some hg
    refine wr_get (K := RX7) (T := TX7) (N := 20) (index := 7) (ref := "MakerLinesModel") (v := .ref r29) hx hb hts hi_X7_digest_X7 hown hw hok28 (wF_7 (S := S) hok28.2) rfl 0 (by decide) (hts _ (List.mem_of_getElem? (i := 4) rfl)) (fun _ h9 => h9) (congrArg (fun o => some (va_rf o)) hr29) dX7_digest_75 ?_
    refine lv_iconst (v := (0 : Int32)) hx hb dX7_digest_78 (by decide) ?_
    obtain ⟨hok30, hg⟩ := gd_some hg
    obtain ⟨hin31, hg⟩ := gd_some hg
    refine wr_iald hx hb hw hok30 (inb_vp hin31) dX7_digest_79 ?_
    refine lv_icmp_ge (tgt := 123) hx hb dX7_digest_80 (by decide) (fun c32 => ?_) (fun c32 => ?_)
    · have hg := it_pos hg c32
      refine lv_iconst (v := (0 : Int32)) hx hb dX7_digest_123 (by decide) ?_
      refine lv_istore_n (lv' := [(1, .int (0 : Int32)), (0, .ref a0)]) hx hb dX7_digest_124 rfl hl (by decide) rfl (fun ls hl => ?_)
      exact L125 N _ _ _ _ _ hg hw (lv_sub hl [1, 0] rfl)
    · have hg := it_neg hg c32
      refine lv_iconst (v := (0 : Int32)) hx hb dX7_digest_83 (by decide) ?_
      refine lv_istore_n (lv' := [(2, .int (0 : Int32)), (0, .ref a0), (1, .int v1)]) hx hb dX7_digest_84 rfl hl (by decide) rfl (fun ls hl => ?_)
      exact L85 K73 hK73 N _ _ _ _ _ _ hg hw (lv_sub hl [1, 2, 0] rfl)
  have L73 : ∀ (k : Nat) (S : Hp) (v1 : Int32) (H : Heap) (locs : List Loc) (ls : Array Slot), f_X7_digest_l73 N a0 k S v1 = some (r, S9) → Wd D C (va_A (wP C S0) z) s.heap S z H locs s → lv_has ls 3 [(0, .ref a0), (1, .int v1)] → W p l e rm_X7_digest s m ([.ref a0] : List Value).toArray below meth c H locs 0 0 (MQ below (QlW D C S0 z r S9 z) ([.ref a0] : List Value).toArray s 0 0 (va_A (wP C S0) z)) (F0 m 73 ls []) := by
    intro k
    induction k with
    | zero => intro S v1 H locs ls hg hw hl; exact absurd (show (none : Option (Int64 × Hp)) = some (r, S9) from hg) (by simp)
    | succ k ih => intro S v1 H locs ls hg hw hl; exact B73 (f_X7_digest_l73 N a0 k) ih S v1 H locs ls hg hw hl
  have B38 : ∀ (K38 : Hp → Int32 → Option (Int64 × Hp)) (hK38 : ∀ (S : Hp) (v1 : Int32) (H : Heap) (locs : List Loc) (ls : Array Slot), K38 S v1 = some (r, S9) → Wd D C (va_A (wP C S0) z) s.heap S z H locs s → lv_has ls 3 [(0, .ref a0), (1, .int v1)] → W p l e rm_X7_digest s m ([.ref a0] : List Value).toArray below meth c H locs 0 0 (MQ below (QlW D C S0 z r S9 z) ([.ref a0] : List Value).toArray s 0 0 (va_A (wP C S0) z)) (F0 m 38 ls [])) (S : Hp) (v1 : Int32) (H : Heap) (locs : List Loc) (ls : Array Slot), f_X7_digest_b38 N a0 K38 S v1 = some (r, S9) → Wd D C (va_A (wP C S0) z) s.heap S z H locs s → lv_has ls 3 [(0, .ref a0), (1, .int v1)] → W p l e rm_X7_digest s m ([.ref a0] : List Value).toArray below meth c H locs 0 0 (MQ below (QlW D C S0 z r S9 z) ([.ref a0] : List Value).toArray s 0 0 (va_A (wP C S0) z)) (F0 m 38 ls []) := by
    intro K38 hK38 S v1 H locs ls hg hw hl
    unfold f_X7_digest_b38 at hg
    refine lv_iload_n hx hb dX7_digest_38 rfl (lv_at hl 1 rfl) ?_
    refine lv_iconst (v := (5 : Int32)) hx hb dX7_digest_39 (by decide) ?_
    refine lv_aload_n hx hb dX7_digest_40 rfl (lv_at hl 0 rfl) ?_
    obtain ⟨hok18, hg⟩ := gd_some hg
    obtain ⟨r19, hr19, hg⟩ := nn_some hg
    refine wr_get (K := RX7) (T := TX7) (N := 20) (index := 7) (ref := "MakerLinesModel") (v := .ref r19) hx hb hts hi_X7_digest_X7 hown hw hok18 (wF_7 (S := S) hok18.2) rfl 0 (by decide) (hts _ (List.mem_of_getElem? (i := 4) rfl)) (fun _ h9 => h9) (congrArg (fun o => some (va_rf o)) hr19) dX7_digest_41 ?_
    refine lv_iconst (v := (2 : Int32)) hx hb dX7_digest_44 (by decide) ?_
    obtain ⟨hok20, hg⟩ := gd_some hg
    obtain ⟨hin21, hg⟩ := gd_some hg
    refine wr_iald hx hb hw hok20 (inb_vp hin21) dX7_digest_45 ?_
    refine lv_imul hx hb dX7_digest_46 ?_
    refine lv_icmp_ge (tgt := 71) hx hb dX7_digest_47 (by decide) (fun c22 => ?_) (fun c22 => ?_)
    · have hg := it_pos hg c22
      refine lv_iconst (v := (0 : Int32)) hx hb dX7_digest_71 (by decide) ?_
      refine lv_istore_n (lv' := [(1, .int (0 : Int32)), (0, .ref a0)]) hx hb dX7_digest_72 rfl hl (by decide) rfl (fun ls hl => ?_)
      exact L73 N _ _ _ _ _ hg hw (lv_sub hl [1, 0] rfl)
    · have hg := it_neg hg c22
      refine lv_aload_n hx hb dX7_digest_50 rfl (lv_at hl 0 rfl) ?_
      refine lv_aload_n hx hb dX7_digest_51 rfl (lv_at hl 0 rfl) ?_
      refine lv_iload_n hx hb dX7_digest_52 rfl (lv_at hl 1 rfl) ?_
      refine lv_iconst (v := (5 : Int32)) hx hb dX7_digest_53 (by decide) ?_
      refine lv_idiv hx hb dX7_digest_54 (by decide) ?_
      refine lv_iload_n hx hb dX7_digest_55 rfl (lv_at hl 1 rfl) ?_
      refine lv_iconst (v := (5 : Int32)) hx hb dX7_digest_56 (by decide) ?_
      refine lv_irem hx hb dX7_digest_57 (by decide) ?_
      obtain ⟨r25, S25, hc25, hg⟩ := cl_some hg
      refine wr_ci (va_runV (As := [.int (v1 / (5 : Int32)), .int (v1 - v1 / (5 : Int32) * (5 : Int32))]) (rest := [.ref a0]) ⟨hx, hb, hml, hown, hts⟩ (c_X7_lineNow l D C N S z a0 ((v1 / (5 : Int32))) ((v1 - v1 / (5 : Int32) * (5 : Int32))) r25 S25 hc25) (cwV 2 hts gX7_digest_X7_lineNow rfl rfl rfl (by decide +kernel) ⟨Nat.le_of_ble_eq_true rfl, Nat.le_of_ble_eq_true rfl⟩) (wd_preV hw hok18 (wF_7 (S := S) hok18.2) rfl) rfl rfl hl.1 rfl (lv_room (Nat.le_of_ble_eq_true rfl)) dX7_digest_58 ⟨Nat.zero_le _, Nat.zero_le _⟩) hw (fun H locs hw => ?_)
      refine lv_i2l (v := (Int32.toInt64 r25)) hx hb dX7_digest_61 rfl ?_
      obtain ⟨hok26, hg⟩ := gd_some hg
      obtain ⟨⟨⟩, S27, hc27, hg⟩ := cl_some hg
      refine wr_cv (va_runV (As := [.long (Int32.toInt64 r25)]) (rest := []) ⟨hx, hb, hml, hown, hts⟩ (c_X7_mix l D C N S25 z a0 ((Int32.toInt64 r25)) () S27 hc27) (cwV 1 hts gX7_digest_X7_mix rfl rfl rfl (by decide +kernel) ⟨Nat.le_of_ble_eq_true rfl, Nat.le_of_ble_eq_true rfl⟩) (wd_preV hw hok26 (wF_7 (S := S25) hok26.2) rfl) rfl rfl hl.1 rfl (lv_room (Nat.le_of_ble_eq_true rfl)) dX7_digest_62 ⟨Nat.zero_le _, Nat.zero_le _⟩) hw (fun H locs hw => ?_)
      refine lv_iinc (v := (v1 + (1 : Int32))) (lv' := [(1, .int (v1 + (1 : Int32))), (0, .ref a0)]) hx hb dX7_digest_65 hl (k := 1) rfl rfl (by decide) rfl (fun ls hl => ?_)
      refine lv_goto (tgt := 38) hx hb dX7_digest_68 (by decide) ?_
      exact hK38 _ _ _ _ _ hg hw (lv_sub hl [1, 0] rfl)
  have L38 : ∀ (k : Nat) (S : Hp) (v1 : Int32) (H : Heap) (locs : List Loc) (ls : Array Slot), f_X7_digest_l38 N a0 k S v1 = some (r, S9) → Wd D C (va_A (wP C S0) z) s.heap S z H locs s → lv_has ls 3 [(0, .ref a0), (1, .int v1)] → W p l e rm_X7_digest s m ([.ref a0] : List Value).toArray below meth c H locs 0 0 (MQ below (QlW D C S0 z r S9 z) ([.ref a0] : List Value).toArray s 0 0 (va_A (wP C S0) z)) (F0 m 38 ls []) := by
    intro k
    induction k with
    | zero => intro S v1 H locs ls hg hw hl; exact absurd (show (none : Option (Int64 × Hp)) = some (r, S9) from hg) (by simp)
    | succ k ih => intro S v1 H locs ls hg hw hl; exact B38 (f_X7_digest_l38 N a0 k) ih S v1 H locs ls hg hw hl
  have B14 : ∀ (K14 : Hp → Int32 → Option (Int64 × Hp)) (hK14 : ∀ (S : Hp) (v1 : Int32) (H : Heap) (locs : List Loc) (ls : Array Slot), K14 S v1 = some (r, S9) → Wd D C (va_A (wP C S0) z) s.heap S z H locs s → lv_has ls 3 [(0, .ref a0), (1, .int v1)] → W p l e rm_X7_digest s m ([.ref a0] : List Value).toArray below meth c H locs 0 0 (MQ below (QlW D C S0 z r S9 z) ([.ref a0] : List Value).toArray s 0 0 (va_A (wP C S0) z)) (F0 m 14 ls [])) (S : Hp) (v1 : Int32) (H : Heap) (locs : List Loc) (ls : Array Slot), f_X7_digest_b14 N a0 K14 S v1 = some (r, S9) → Wd D C (va_A (wP C S0) z) s.heap S z H locs s → lv_has ls 3 [(0, .ref a0), (1, .int v1)] → W p l e rm_X7_digest s m ([.ref a0] : List Value).toArray below meth c H locs 0 0 (MQ below (QlW D C S0 z r S9 z) ([.ref a0] : List Value).toArray s 0 0 (va_A (wP C S0) z)) (F0 m 14 ls []) := by
    intro K14 hK14 S v1 H locs ls hg hw hl
    unfold f_X7_digest_b14 at hg
    refine lv_iload_n hx hb dX7_digest_14 rfl (lv_at hl 1 rfl) ?_
    refine lv_bipush (v := (16 : Int32)) hx hb dX7_digest_15 (by decide) ?_
    refine lv_icmp_ge (tgt := 36) hx hb dX7_digest_17 (by decide) (fun c13 => ?_) (fun c13 => ?_)
    · have hg := it_pos hg c13
      refine lv_iconst (v := (0 : Int32)) hx hb dX7_digest_36 (by decide) ?_
      refine lv_istore_n (lv' := [(1, .int (0 : Int32)), (0, .ref a0)]) hx hb dX7_digest_37 rfl hl (by decide) rfl (fun ls hl => ?_)
      exact L38 N _ _ _ _ _ hg hw (lv_sub hl [1, 0] rfl)
    · have hg := it_neg hg c13
      refine lv_aload_n hx hb dX7_digest_20 rfl (lv_at hl 0 rfl) ?_
      refine lv_aload_n hx hb dX7_digest_21 rfl (lv_at hl 0 rfl) ?_
      refine lv_iload_n hx hb dX7_digest_22 rfl (lv_at hl 1 rfl) ?_
      obtain ⟨hok14, hg⟩ := gd_some hg
      obtain ⟨r15, S15, hc15, hg⟩ := cl_some hg
      refine wr_ci (va_runV (As := [.int v1]) (rest := [.ref a0]) ⟨hx, hb, hml, hown, hts⟩ (c_X7_counted l D C N S z a0 v1 r15 S15 hc15) (cwV 1 hts gX7_digest_X7_counted rfl rfl rfl (by decide +kernel) ⟨Nat.le_of_ble_eq_true rfl, Nat.le_of_ble_eq_true rfl⟩) (wd_preV hw hok14 (wF_7 (S := S) hok14.2) rfl) rfl rfl hl.1 rfl (lv_room (Nat.le_of_ble_eq_true rfl)) dX7_digest_23 ⟨Nat.zero_le _, Nat.zero_le _⟩) hw (fun H locs hw => ?_)
      refine lv_i2l (v := (Int32.toInt64 r15)) hx hb dX7_digest_26 rfl ?_
      obtain ⟨hok16, hg⟩ := gd_some hg
      obtain ⟨⟨⟩, S17, hc17, hg⟩ := cl_some hg
      refine wr_cv (va_runV (As := [.long (Int32.toInt64 r15)]) (rest := []) ⟨hx, hb, hml, hown, hts⟩ (c_X7_mix l D C N S15 z a0 ((Int32.toInt64 r15)) () S17 hc17) (cwV 1 hts gX7_digest_X7_mix rfl rfl rfl (by decide +kernel) ⟨Nat.le_of_ble_eq_true rfl, Nat.le_of_ble_eq_true rfl⟩) (wd_preV hw hok16 (wF_7 (S := S15) hok16.2) rfl) rfl rfl hl.1 rfl (lv_room (Nat.le_of_ble_eq_true rfl)) dX7_digest_27 ⟨Nat.zero_le _, Nat.zero_le _⟩) hw (fun H locs hw => ?_)
      refine lv_iinc (v := (v1 + (1 : Int32))) (lv' := [(1, .int (v1 + (1 : Int32))), (0, .ref a0)]) hx hb dX7_digest_30 hl (k := 1) rfl rfl (by decide) rfl (fun ls hl => ?_)
      refine lv_goto (tgt := 14) hx hb dX7_digest_33 (by decide) ?_
      exact hK14 _ _ _ _ _ hg hw (lv_sub hl [1, 0] rfl)
  have L14 : ∀ (k : Nat) (S : Hp) (v1 : Int32) (H : Heap) (locs : List Loc) (ls : Array Slot), f_X7_digest_l14 N a0 k S v1 = some (r, S9) → Wd D C (va_A (wP C S0) z) s.heap S z H locs s → lv_has ls 3 [(0, .ref a0), (1, .int v1)] → W p l e rm_X7_digest s m ([.ref a0] : List Value).toArray below meth c H locs 0 0 (MQ below (QlW D C S0 z r S9 z) ([.ref a0] : List Value).toArray s 0 0 (va_A (wP C S0) z)) (F0 m 14 ls []) := by
    intro k
    induction k with
    | zero => intro S v1 H locs ls hg hw hl; exact absurd (show (none : Option (Int64 × Hp)) = some (r, S9) from hg) (by simp)
    | succ k ih => intro S v1 H locs ls hg hw hl; exact B14 (f_X7_digest_l14 N a0 k) ih S v1 H locs ls hg hw hl
  have B0 : ∀ (S : Hp) (H : Heap) (locs : List Loc) (ls : Array Slot), f_X7_digest N S a0 = some (r, S9) → Wd D C (va_A (wP C S0) z) s.heap S z H locs s → lv_has ls 3 [(0, .ref a0)] → W p l e rm_X7_digest s m ([.ref a0] : List Value).toArray below meth c H locs 0 0 (MQ below (QlW D C S0 z r S9 z) ([.ref a0] : List Value).toArray s 0 0 (va_A (wP C S0) z)) (F0 m 0 ls []) := by
    intro S H locs ls hg hw hl
    unfold f_X7_digest at hg
    refine lv_aload_n hx hb dX7_digest_0 rfl (lv_at hl 0 rfl) ?_
    refine lv_iconst (v := (0 : Int32)) hx hb dX7_digest_1 (by decide) ?_
    obtain ⟨hok10, hg⟩ := gd_some hg
    refine wr_put (K := RX7) (T := TX7) (N := 20) (index := 50) (ref := "MakerLinesModel") (ty := (.int)) (S1 := (sI S a0 7 (0 : Int32))) hx hb hts hi_X7_digest_X7 tyX7 tyX7_ok nmX7 hown hw hok10 (wF_7 (S := S) hok10.2) rfl (fun b hb9 => wF_sI_ne hb9) 7 (wq_7_7 (S := S) hok10.2 _) rfl (by decide) (hts _ (List.mem_of_getElem? (i := 1) rfl)) (fun _ h9 => h9) rfl (by decide +kernel) rfl rfl (Nat.le_of_ble_eq_true rfl) dX7_digest_2 (fun H locs hw => ?_)
    refine lv_aload_n hx hb dX7_digest_5 rfl (lv_at hl 0 rfl) ?_
    refine lv_ldc2 (own := RX7) (index := 251) (v := (2503 : Int64)) hx hb hown (hts _ (List.mem_of_getElem? (i := 2) rfl)) dX7_digest_6 ?_
    refine wr_put (K := RX7) (T := TX7) (N := 20) (index := 247) (ref := "MakerLinesModel") (ty := (.long)) (S1 := (sJ (sI S a0 7 (0 : Int32)) a0 19 (2503 : Int64))) hx hb hts hi_X7_digest_X7 tyX7 tyX7_ok nmX7 hown hw hok10 (wF_7 (S := (sI S a0 7 (0 : Int32))) hok10.2) rfl (fun b hb9 => wF_sJ_ne hb9) 19 (wq_7_19 (S := (sI S a0 7 (0 : Int32))) hok10.2 _) rfl (by decide) (hts _ (List.mem_of_getElem? (i := 3) rfl)) (fun _ h9 => h9) rfl (by decide +kernel) rfl rfl (Nat.le_of_ble_eq_true rfl) dX7_digest_9 (fun H locs hw => ?_)
    obtain ⟨S11, hS11, hg⟩ := bd_some hg
    rw [← hS11] at hw
    have hok12 : ok S11 a0 7 := by rw [hS11]; exact hok10
    refine lv_iconst (v := (0 : Int32)) hx hb dX7_digest_12 (by decide) ?_
    refine lv_istore_n (lv' := [(1, .int (0 : Int32)), (0, .ref a0)]) hx hb dX7_digest_13 rfl hl (by decide) rfl (fun ls hl => ?_)
    exact L14 N _ _ _ _ _ hg hw (lv_sub hl [1, 0] rfl)
  exact B0 S0 _ _ _ hg hw hl
