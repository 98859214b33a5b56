abbrev rm_X6_shareBits : Room := { frames := 0, cells := 0, slots := 0, locals := 0 }
set_option maxHeartbeats 4000000 in
set_option maxRecDepth 100000 in
theorem c_X6_shareBits (l : Launch) (D : va_G) (C : C3) (N : Nat) (S0 : Hp) (z : Nat) (x0 : Int32) (r : Int64) (S9 : Hp) (hg : f_X6_shareBits N S0 x0 = some (r, S9)) : MetL l yX6_shareBits wsX6_shareBits rm_X6_shareBits D C S0 z [.int x0] r S9 z 0 0 := by
  refine mw_ofW (cc := cX6_shareBits) (maxL := 6) (ret := (some .long)) (lv := [(0, .int x0)]) (by decide) rfl (Nat.le_of_ble_eq_true rfl) rfl ?_
  intro p e s m below meth c ls hx hb hr hts hown hlk hml hnm hl hw
  have hown : s.vm.findClass RX6 = some m.cls := hown
  have B10 : ∀ (K10 : Hp → Int32 → Int32 → Option (Int64 × Hp)) (hK10 : ∀ (S : Hp) (v1 : Int32) (v2 : Int32) (H : Heap) (locs : List Loc) (ls : Array Slot), K10 S v1 v2 = some (r, S9) → Wd D C (va_A (wP C S0) z) s.heap S z H locs s → lv_has ls 6 [(0, .int x0), (1, .int v1), (2, .int v2)] → W p l e rm_X6_shareBits s m ([.int x0] : List Value).toArray below meth c H locs 0 0 (MQ below (QlW D C S0 z r S9 z) ([.int x0] : List Value).toArray s 0 0 (va_A (wP C S0) z)) (F0 m 10 ls [])) (S : Hp) (v1 : Int32) (v2 : Int32) (H : Heap) (locs : List Loc) (ls : Array Slot), f_X6_shareBits_b10 N x0 K10 S v1 v2 = some (r, S9) → Wd D C (va_A (wP C S0) z) s.heap S z H locs s → lv_has ls 6 [(0, .int x0), (1, .int v1), (2, .int v2)] → W p l e rm_X6_shareBits s m ([.int x0] : List Value).toArray below meth c H locs 0 0 (MQ below (QlW D C S0 z r S9 z) ([.int x0] : List Value).toArray s 0 0 (va_A (wP C S0) z)) (F0 m 10 ls []) := by
    intro K10 hK10 S v1 v2 H locs ls hg hw hl
    unfold f_X6_shareBits_b10 at hg
    refine lv_iload_n hx hb dX6_shareBits_10 rfl (lv_at hl 2 rfl) ?_
    refine lv_bipush (v := (14 : Int32)) hx hb dX6_shareBits_11 (by decide) ?_
    refine lv_icmp_ge (tgt := 30) hx hb dX6_shareBits_13 (by decide) (fun c11 => ?_) (fun c11 => ?_)
    · have hg := it_pos hg c11
      refine lv_sipush (v := (1023 : Int32)) hx hb dX6_shareBits_30 (by decide) ?_
      refine lv_iload_n hx hb dX6_shareBits_33 rfl (lv_at hl 1 rfl) ?_
      refine lv_iadd hx hb dX6_shareBits_34 ?_
      refine lv_bipush (v := (10 : Int32)) hx hb dX6_shareBits_35 (by decide) ?_
      refine lv_isub hx hb dX6_shareBits_37 ?_
      refine lv_i2l (v := (Int32.toInt64 (((1023 : Int32) + v1) - (10 : Int32)))) hx hb dX6_shareBits_38 rfl ?_
      obtain ⟨e12, he12, hg⟩ := bd_some hg
      refine lv_lstore_n (lv' := [(2, .long e12), (0, .int x0), (1, .int v1)]) hx hb dX6_shareBits_39 rfl hl (by decide) (by rw [he12]; rfl) (fun ls hl => ?_)
      refine lv_iload_n hx hb dX6_shareBits_40 rfl (lv_at hl 1 rfl) ?_
      refine lv_iconst (v := (1 : Int32)) hx hb dX6_shareBits_41 (by decide) ?_
      refine lv_iload_n hx hb dX6_shareBits_42 rfl (lv_at hl 2 rfl) ?_
      refine lv_ishl hx hb dX6_shareBits_43 ?_
      refine lv_isub hx hb dX6_shareBits_44 ?_
      refine lv_i2l (v := (Int32.toInt64 (x0 - ((1 : Int32) <<< (v1 &&& 31))))) hx hb dX6_shareBits_45 rfl ?_
      refine lv_bipush (v := (52 : Int32)) hx hb dX6_shareBits_46 (by decide) ?_
      refine lv_iload_n hx hb dX6_shareBits_48 rfl (lv_at hl 2 rfl) ?_
      refine lv_isub hx hb dX6_shareBits_49 ?_
      refine lv_lshl (v := ((Int32.toInt64 (x0 - ((1 : Int32) <<< (v1 &&& 31)))) <<< (Int32.toInt64 ((52 : Int32) - v1) &&& 63))) hx hb dX6_shareBits_50 rfl ?_
      obtain ⟨e13, he13, hg⟩ := bd_some hg
      refine lv_lstore (lv' := [(4, .long e13), (2, .long e12), (0, .int x0), (1, .int v1)]) hx hb dX6_shareBits_51 hl (by decide) (by rw [he13]; rfl) (fun ls hl => ?_)
      refine lv_lload_n hx hb dX6_shareBits_53 rfl (lv_at hl 1 rfl) ?_
      refine lv_bipush (v := (52 : Int32)) hx hb dX6_shareBits_54 (by decide) ?_
      refine lv_lshl (v := (e12 <<< (Int32.toInt64 (52 : Int32) &&& 63))) hx hb dX6_shareBits_56 rfl ?_
      refine lv_lload hx hb dX6_shareBits_57 (lv_at hl 0 rfl) ?_
      refine lv_ladd hx hb dX6_shareBits_59 ?_
      cases hg
      exact wr_lret hx hb hr hw dX6_shareBits_60 hlk
    · have hg := it_neg hg c11
      refine lv_iload_n hx hb dX6_shareBits_16 rfl (lv_at hl 0 rfl) ?_
      refine lv_iload_n hx hb dX6_shareBits_17 rfl (lv_at hl 2 rfl) ?_
      refine lv_ishr hx hb dX6_shareBits_18 ?_
      refine lv_if_eq (tgt := 24) hx hb dX6_shareBits_19 (by decide) (fun c14 => ?_) (fun c14 => ?_)
      · have hg := it_pos hg c14
        refine lv_iinc (v := (v2 + (1 : Int32))) (lv' := [(2, .int (v2 + (1 : Int32))), (0, .int x0), (1, .int v1)]) hx hb dX6_shareBits_24 hl (k := 2) rfl rfl (by decide) rfl (fun ls hl => ?_)
        refine lv_goto (tgt := 10) hx hb dX6_shareBits_27 (by decide) ?_
        exact hK10 _ _ _ _ _ _ hg hw (lv_sub hl [1, 2, 0] rfl)
      · have hg := it_neg hg c14
        refine lv_iload_n hx hb dX6_shareBits_22 rfl (lv_at hl 2 rfl) ?_
        refine lv_istore_n (lv' := [(1, .int v2), (0, .int x0), (2, .int v2)]) hx hb dX6_shareBits_23 rfl hl (by decide) rfl (fun ls hl => ?_)
        refine lv_iinc (v := (v2 + (1 : Int32))) (lv' := [(2, .int (v2 + (1 : Int32))), (1, .int v2), (0, .int x0)]) hx hb dX6_shareBits_24 hl (k := 2) rfl rfl (by decide) rfl (fun ls hl => ?_)
        refine lv_goto (tgt := 10) hx hb dX6_shareBits_27 (by decide) ?_
        exact hK10 _ _ _ _ _ _ hg hw (lv_sub hl [2, 1, 0] rfl)
  have L10 : ∀ (k : Nat) (S : Hp) (v1 : Int32) (v2 : Int32) (H : Heap) (locs : List Loc) (ls : Array Slot), f_X6_shareBits_l10 N x0 k S v1 v2 = some (r, S9) → Wd D C (va_A (wP C S0) z) s.heap S z H locs s → lv_has ls 6 [(0, .int x0), (1, .int v1), (2, .int v2)] → W p l e rm_X6_shareBits s m ([.int x0] : List Value).toArray below meth c H locs 0 0 (MQ below (QlW D C S0 z r S9 z) ([.int x0] : List Value).toArray s 0 0 (va_A (wP C S0) z)) (F0 m 10 ls []) := by
    intro k
    induction k with
    | zero => intro S v1 v2 H locs ls hg hw hl; exact absurd (show (none : Option (Int64 × Hp)) = some (r, S9) from hg) (by simp)
    | succ k ih => intro S v1 v2 H locs ls hg hw hl; exact B10 (f_X6_shareBits_l10 N x0 k) ih S v1 v2 H locs ls hg hw hl
  have B0 : ∀ (S : Hp) (H : Heap) (locs : List Loc) (ls : Array Slot), f_X6_shareBits N S x0 = some (r, S9) → Wd D C (va_A (wP C S0) z) s.heap S z H locs s → lv_has ls 6 [(0, .int x0)] → W p l e rm_X6_shareBits s m ([.int x0] : List Value).toArray below meth c H locs 0 0 (MQ below (QlW D C S0 z r S9 z) ([.int x0] : List Value).toArray s 0 0 (va_A (wP C S0) z)) (F0 m 0 ls []) := by
    intro S H locs ls hg hw hl
    unfold f_X6_shareBits at hg
    refine lv_iload_n hx hb dX6_shareBits_0 rfl (lv_at hl 0 rfl) ?_
    refine lv_if_gt (tgt := 6) hx hb dX6_shareBits_1 (by decide) (fun c10 => ?_) (fun c10 => ?_)
    · have hg := it_pos hg c10
      refine lv_iconst (v := (0 : Int32)) hx hb dX6_shareBits_6 (by decide) ?_
      refine lv_istore_n (lv' := [(1, .int (0 : Int32)), (0, .int x0)]) hx hb dX6_shareBits_7 rfl hl (by decide) rfl (fun ls hl => ?_)
      refine lv_iconst (v := (1 : Int32)) hx hb dX6_shareBits_8 (by decide) ?_
      refine lv_istore_n (lv' := [(2, .int (1 : Int32)), (1, .int (0 : Int32)), (0, .int x0)]) hx hb dX6_shareBits_9 rfl hl (by decide) rfl (fun ls hl => ?_)
      exact L10 N _ _ _ _ _ _ hg hw (lv_sub hl [2, 1, 0] rfl)
    · have hg := it_neg hg c10
      refine lv_lconst (v := (0 : Int64)) hx hb dX6_shareBits_4 (by decide) ?_
      cases hg
      exact wr_lret hx hb hr hw dX6_shareBits_5 hlk
  exact B0 S0 _ _ _ hg hw hl
theorem hi_X6_digest_X1 : ∀ w ∈ wsX10, w ∈ wsX6_digest := fun _ h => List.mem_cons_of_mem _ (List.mem_append_left _ (List.mem_append_left _ (List.mem_append_left _ (List.mem_append_left _ (List.mem_append_left _ (List.mem_append_left _ (List.mem_append_right _ (h))))))))
theorem hi_X6_digest_X4 : ∀ w ∈ wsX40, w ∈ wsX6_digest := fun _ h => List.mem_cons_of_mem _ (List.mem_append_left _ (List.mem_append_left _ (List.mem_append_left _ (List.mem_append_left _ (List.mem_append_left _ (List.mem_append_left _ (List.mem_append_left _ (List.mem_append_right _ (h)))))))))
theorem hi_X6_digest_X6 : ∀ w ∈ wsX60, w ∈ wsX6_digest := fun _ h => List.mem_cons_of_mem _ (List.mem_append_left _ (List.mem_append_left _ (List.mem_append_left _ (List.mem_append_left _ (List.mem_append_left _ (List.mem_append_left _ (List.mem_append_left _ (List.mem_append_left _ (List.mem_append_right _ (h))))))))))
abbrev rm_X6_digest : Room := { frames := 34, cells := 0, slots := 0, locals := 1592 }
set_option maxHeartbeats 4000000 in
set_option maxRecDepth 100000 in
theorem c_X6_digest (l : Launch) (D : va_G) (C : C3) (N : Nat) (S0 : Hp) (z : Nat) (a0 : Nat) (r : Int64) (S9 : Hp) (hg : f_X6_digest N S0 a0 = some (r, S9)) : MetL l yX6_digest wsX6_digest rm_X6_digest D C S0 z [.ref a0] r S9 z 0 0 := by
  refine mw_ofW (cc := cX6_digest) (maxL := 5) (ret := (some .long)) (lv := [(0, .ref a0)]) (by decide) rfl (Nat.le_of_ble_eq_true rfl) rfl ?_
  intro p e s m below meth c ls hx hb hr hts hown hlk hml hnm hl hw
  have hown : s.vm.findClass RX6 = some m.cls := hown
  have B147 : ∀ (K147 : Hp → Int64 → Int32 → Option (Int64 × Hp)) (hK147 : ∀ (S : Hp) (l1 : Int64) (v3 : Int32) (H : Heap) (locs : List Loc) (ls : Array Slot), K147 S l1 v3 = some (r, S9) → Wd D C (va_A (wP C S0) z) s.heap S z H locs s → lv_has ls 5 [(0, .ref a0), (1, .long l1), (3, .int v3)] → W p l e rm_X6_digest s m ([.ref a0] : List Value).toArray below meth c H locs 0 0 (MQ below (QlW D C S0 z r S9 z) ([.ref a0] : List Value).toArray s 0 0 (va_A (wP C S0) z)) (F0 m 147 ls [])) (S : Hp) (l1 : Int64) (v3 : Int32) (H : Heap) (locs : List Loc) (ls : Array Slot), f_X6_digest_b147 N a0 K147 S l1 v3 = some (r, S9) → Wd D C (va_A (wP C S0) z) s.heap S z H locs s → lv_has ls 5 [(0, .ref a0), (1, .long l1), (3, .int v3)] → W p l e rm_X6_digest s m ([.ref a0] : List Value).toArray below meth c H locs 0 0 (MQ below (QlW D C S0 z r S9 z) ([.ref a0] : List Value).toArray s 0 0 (va_A (wP C S0) z)) (F0 m 147 ls []) := by
    intro K147 hK147 S l1 v3 H locs ls hg hw hl
    unfold f_X6_digest_b147 at hg
    refine lv_iload_n hx hb dX6_digest_147 rfl (lv_at hl 2 rfl) ?_
    refine lv_iconst (v := (3 : Int32)) hx hb dX6_digest_148 (by decide) ?_
    refine lv_icmp_gt (tgt := 171) hx hb dX6_digest_149 (by decide) (fun c28 => ?_) (fun c28 => ?_)
    · have hg := it_pos hg c28
      refine lv_ldc2 (own := RX6) (index := 268) (v := (31 : Int64)) hx hb hown (hts _ (List.mem_of_getElem? (i := 2) rfl)) dX6_digest_171 ?_
      refine lv_lload_n hx hb dX6_digest_174 rfl (lv_at hl 1 rfl) ?_
      refine lv_lmul hx hb dX6_digest_175 ?_
      refine lv_aload_n hx hb dX6_digest_176 rfl (lv_at hl 0 rfl) ?_
      refine lv_iconst (v := (0 : Int32)) hx hb dX6_digest_177 (by decide) ?_
      obtain ⟨hok29, hg⟩ := gd_some hg
      obtain ⟨r30, S30, hc30, hg⟩ := cl_some hg
      refine wr_ci (va_runV (As := [.int (0 : Int32)]) (rest := [.long ((31 : Int64) * l1)]) ⟨hx, hb, hml, hown, hts⟩ (c_X6_solved l D C N S z a0 ((0 : Int32)) r30 S30 hc30) (cwV 1 hts gX6_digest_X6_solved rfl rfl rfl (by decide +kernel) ⟨Nat.le_of_ble_eq_true rfl, Nat.le_of_ble_eq_true rfl⟩) (wd_preV hw hok29 (wF_6 (S := S) hok29.2) rfl) rfl rfl hl.1 rfl (lv_room (Nat.le_of_ble_eq_true rfl)) dX6_digest_178 ⟨Nat.zero_le _, Nat.zero_le _⟩) hw (fun H locs hw => ?_)
      refine lv_i2l (v := (Int32.toInt64 r30)) hx hb dX6_digest_181 rfl ?_
      refine lv_ladd hx hb dX6_digest_182 ?_
      obtain ⟨e31, he31, hg⟩ := bd_some hg
      refine lv_lstore_n (lv' := [(1, .long e31), (0, .ref a0), (3, .int v3)]) hx hb dX6_digest_183 rfl hl (by decide) (by rw [he31]; rfl) (fun ls hl => ?_)
      refine lv_ldc2 (own := RX6) (index := 268) (v := (31 : Int64)) hx hb hown (hts _ (List.mem_of_getElem? (i := 2) rfl)) dX6_digest_184 ?_
      refine lv_lload_n hx hb dX6_digest_187 rfl (lv_at hl 0 rfl) ?_
      refine lv_lmul hx hb dX6_digest_188 ?_
      refine lv_aload_n hx hb dX6_digest_189 rfl (lv_at hl 1 rfl) ?_
      refine lv_iconst (v := (1 : Int32)) hx hb dX6_digest_190 (by decide) ?_
      obtain ⟨hok32, hg⟩ := gd_some hg
      obtain ⟨r33, S33, hc33, hg⟩ := cl_some hg
      refine wr_ci (va_runV (As := [.int (1 : Int32)]) (rest := [.long ((31 : Int64) * e31)]) ⟨hx, hb, hml, hown, hts⟩ (c_X6_solved l D C N S30 z a0 ((1 : Int32)) r33 S33 hc33) (cwV 1 hts gX6_digest_X6_solved rfl rfl rfl (by decide +kernel) ⟨Nat.le_of_ble_eq_true rfl, Nat.le_of_ble_eq_true rfl⟩) (wd_preV hw hok32 (wF_6 (S := S30) hok32.2) rfl) rfl rfl hl.1 rfl (lv_room (Nat.le_of_ble_eq_true rfl)) dX6_digest_191 ⟨Nat.zero_le _, Nat.zero_le _⟩) hw (fun H locs hw => ?_)
      refine lv_i2l (v := (Int32.toInt64 r33)) hx hb dX6_digest_194 rfl ?_
      refine lv_ladd hx hb dX6_digest_195 ?_
      obtain ⟨e34, he34, hg⟩ := bd_some hg
      refine lv_lstore_n (lv' := [(1, .long e34), (0, .ref a0), (3, .int v3)]) hx hb dX6_digest_196 rfl hl (by decide) (by rw [he34]; rfl) (fun ls hl => ?_)
      refine lv_ldc2 (own := RX6) (index := 268) (v := (31 : Int64)) hx hb hown (hts _ (List.mem_of_getElem? (i := 2) rfl)) dX6_digest_197 ?_
      refine lv_lload_n hx hb dX6_digest_200 rfl (lv_at hl 0 rfl) ?_
      refine lv_lmul hx hb dX6_digest_201 ?_
      refine lv_aload_n hx hb dX6_digest_202 rfl (lv_at hl 1 rfl) ?_
      refine lv_iconst (v := (1 : Int32)) hx hb dX6_digest_203 (by decide) ?_
      refine lv_iconst (v := (1 : Int32)) hx hb dX6_digest_204 (by decide) ?_
      obtain ⟨hok35, hg⟩ := gd_some hg
      obtain ⟨r36, S36, hc36, hg⟩ := cl_some hg
      refine wr_ci (va_runV (As := [.int (1 : Int32), .int (1 : Int32)]) (rest := [.long ((31 : Int64) * e34)]) ⟨hx, hb, hml, hown, hts⟩ (c_X6_ifPlayed l D C N S33 z a0 ((1 : Int32)) ((1 : Int32)) r36 S36 hc36) (cwV 2 hts gX6_digest_X6_ifPlayed rfl rfl rfl (by decide +kernel) ⟨Nat.le_of_ble_eq_true rfl, Nat.le_of_ble_eq_true rfl⟩) (wd_preV hw hok35 (wF_6 (S := S33) hok35.2) rfl) rfl rfl hl.1 rfl (lv_room (Nat.le_of_ble_eq_true rfl)) dX6_digest_205 ⟨Nat.zero_le _, Nat.zero_le _⟩) hw (fun H locs hw => ?_)
      refine lv_i2l (v := (Int32.toInt64 r36)) hx hb dX6_digest_208 rfl ?_
      refine lv_ladd hx hb dX6_digest_209 ?_
      obtain ⟨e37, he37, hg⟩ := bd_some hg
      refine lv_lstore_n (lv' := [(1, .long e37), (0, .ref a0), (3, .int v3)]) hx hb dX6_digest_210 rfl hl (by decide) (by rw [he37]; rfl) (fun ls hl => ?_)
      refine lv_ldc2 (own := RX6) (index := 268) (v := (31 : Int64)) hx hb hown (hts _ (List.mem_of_getElem? (i := 2) rfl)) dX6_digest_211 ?_
      refine lv_lload_n hx hb dX6_digest_214 rfl (lv_at hl 0 rfl) ?_
      refine lv_lmul hx hb dX6_digest_215 ?_
      refine lv_aload_n hx hb dX6_digest_216 rfl (lv_at hl 1 rfl) ?_
      refine lv_iconst (v := (1 : Int32)) hx hb dX6_digest_217 (by decide) ?_
      refine lv_iconst (v := (2 : Int32)) hx hb dX6_digest_218 (by decide) ?_
      obtain ⟨hok38, hg⟩ := gd_some hg
      obtain ⟨r39, S39, hc39, hg⟩ := cl_some hg
      refine wr_ci (va_runV (As := [.int (1 : Int32), .int (2 : Int32)]) (rest := [.long ((31 : Int64) * e37)]) ⟨hx, hb, hml, hown, hts⟩ (c_X6_ifPlayed l D C N S36 z a0 ((1 : Int32)) ((2 : Int32)) r39 S39 hc39) (cwV 2 hts gX6_digest_X6_ifPlayed rfl rfl rfl (by decide +kernel) ⟨Nat.le_of_ble_eq_true rfl, Nat.le_of_ble_eq_true rfl⟩) (wd_preV hw hok38 (wF_6 (S := S36) hok38.2) rfl) rfl rfl hl.1 rfl (lv_room (Nat.le_of_ble_eq_true rfl)) dX6_digest_219 ⟨Nat.zero_le _, Nat.zero_le _⟩) hw (fun H locs hw => ?_)
      refine lv_i2l (v := (Int32.toInt64 r39)) hx hb dX6_digest_222 rfl ?_
      refine lv_ladd hx hb dX6_digest_223 ?_
      obtain ⟨e40, he40, hg⟩ := bd_some hg
      refine lv_lstore_n (lv' := [(1, .long e40), (0, .ref a0), (3, .int v3)]) hx hb dX6_digest_224 rfl hl (by decide) (by rw [he40]; rfl) (fun ls hl => ?_)
      refine lv_ldc2 (own := RX6) (index := 268) (v := (31 : Int64)) hx hb hown (hts _ (List.mem_of_getElem? (i := 2) rfl)) dX6_digest_225 ?_
      refine lv_lload_n hx hb dX6_digest_228 rfl (lv_at hl 0 rfl) ?_
      refine lv_lmul hx hb dX6_digest_229 ?_
      refine lv_aload_n hx hb dX6_digest_230 rfl (lv_at hl 1 rfl) ?_
      refine lv_iconst (v := (2 : Int32)) hx hb dX6_digest_231 (by decide) ?_
      refine lv_iconst (v := (3 : Int32)) hx hb dX6_digest_232 (by decide) ?_
      obtain ⟨hok41, hg⟩ := gd_some hg
      obtain ⟨r42, S42, hc42, hg⟩ := cl_some hg
      refine wr_ci (va_runV (As := [.int (2 : Int32), .int (3 : Int32)]) (rest := [.long ((31 : Int64) * e40)]) ⟨hx, hb, hml, hown, hts⟩ (c_X6_ifPlayed l D C N S39 z a0 ((2 : Int32)) ((3 : Int32)) r42 S42 hc42) (cwV 2 hts gX6_digest_X6_ifPlayed rfl rfl rfl (by decide +kernel) ⟨Nat.le_of_ble_eq_true rfl, Nat.le_of_ble_eq_true rfl⟩) (wd_preV hw hok41 (wF_6 (S := S39) hok41.2) rfl) rfl rfl hl.1 rfl (lv_room (Nat.le_of_ble_eq_true rfl)) dX6_digest_233 ⟨Nat.zero_le _, Nat.zero_le _⟩) hw (fun H locs hw => ?_)
      refine lv_i2l (v := (Int32.toInt64 r42)) hx hb dX6_digest_236 rfl ?_
      refine lv_ladd hx hb dX6_digest_237 ?_
      obtain ⟨e43, he43, hg⟩ := bd_some hg
      refine lv_lstore_n (lv' := [(1, .long e43), (0, .ref a0), (3, .int v3)]) hx hb dX6_digest_238 rfl hl (by decide) (by rw [he43]; rfl) (fun ls hl => ?_)
      refine lv_ldc2 (own := RX6) (index := 268) (v := (31 : Int64)) hx hb hown (hts _ (List.mem_of_getElem? (i := 2) rfl)) dX6_digest_239 ?_
      refine lv_lload_n hx hb dX6_digest_242 rfl (lv_at hl 0 rfl) ?_
      refine lv_lmul hx hb dX6_digest_243 ?_
      refine lv_aload_n hx hb dX6_digest_244 rfl (lv_at hl 1 rfl) ?_
      refine lv_iconst (v := (3 : Int32)) hx hb dX6_digest_245 (by decide) ?_
      refine lv_iconst (v := (1 : Int32)) hx hb dX6_digest_246 (by decide) ?_
      obtain ⟨hok44, hg⟩ := gd_some hg
      obtain ⟨r45, S45, hc45, hg⟩ := cl_some hg
      refine wr_ci (va_runV (As := [.int (3 : Int32), .int (1 : Int32)]) (rest := [.long ((31 : Int64) * e43)]) ⟨hx, hb, hml, hown, hts⟩ (c_X6_ifPlayed l D C N S42 z a0 ((3 : Int32)) ((1 : Int32)) r45 S45 hc45) (cwV 2 hts gX6_digest_X6_ifPlayed rfl rfl rfl (by decide +kernel) ⟨Nat.le_of_ble_eq_true rfl, Nat.le_of_ble_eq_true rfl⟩) (wd_preV hw hok44 (wF_6 (S := S42) hok44.2) rfl) rfl rfl hl.1 rfl (lv_room (Nat.le_of_ble_eq_true rfl)) dX6_digest_247 ⟨Nat.zero_le _, Nat.zero_le _⟩) hw (fun H locs hw => ?_)
      refine lv_i2l (v := (Int32.toInt64 r45)) hx hb dX6_digest_250 rfl ?_
      refine lv_ladd hx hb dX6_digest_251 ?_
      obtain ⟨e46, he46, hg⟩ := bd_some hg
      refine lv_lstore_n (lv' := [(1, .long e46), (0, .ref a0), (3, .int v3)]) hx hb dX6_digest_252 rfl hl (by decide) (by rw [he46]; rfl) (fun ls hl => ?_)
      refine lv_ldc2 (own := RX6) (index := 268) (v := (31 : Int64)) hx hb hown (hts _ (List.mem_of_getElem? (i := 2) rfl)) dX6_digest_253 ?_
      refine lv_lload_n hx hb dX6_digest_256 rfl (lv_at hl 0 rfl) ?_
      refine lv_lmul hx hb dX6_digest_257 ?_
      refine lv_aload_n hx hb dX6_digest_258 rfl (lv_at hl 1 rfl) ?_
      obtain ⟨hok47, hg⟩ := gd_some hg
      obtain ⟨r48, hr48, hg⟩ := nn_some hg
      refine wr_get (K := RX6) (T := TX6) (N := 7) (index := 12) (ref := "MakerLines") (v := .ref r48) hx hb hts hi_X6_digest_X6 hown hw hok47 (wF_6 (S := S45) hok47.2) rfl 0 (by decide) (hts _ (List.mem_of_getElem? (i := 3) rfl)) (fun _ h9 => h9) (congrArg (fun o => some (va_rf o)) hr48) dX6_digest_259 ?_
      obtain ⟨hok49, hg⟩ := gd_some hg
      obtain ⟨r50, S50, hc50, hg⟩ := cl_some hg
      refine wr_ci (va_runV (As := []) (rest := [.long ((31 : Int64) * e46)]) ⟨hx, hb, hml, hown, hts⟩ (c_X4_weight l D C N S45 z r48 r50 S50 hc50) (cwV 0 hts gX6_digest_X4_weight rfl rfl rfl (by decide +kernel) ⟨Nat.le_of_ble_eq_true rfl, Nat.le_of_ble_eq_true rfl⟩) (wd_preV hw hok49 (wF_4 (S := S45) hok49.2) rfl) rfl rfl hl.1 rfl (lv_room (Nat.le_of_ble_eq_true rfl)) dX6_digest_262 ⟨Nat.zero_le _, Nat.zero_le _⟩) hw (fun H locs hw => ?_)
      obtain ⟨r51, S51, hc51, hg⟩ := cl_some hg
      refine wr_cl (va_runS (As := [.int r50]) (rest := [.long ((31 : Int64) * e46)]) ⟨hx, hb, hml, hown, hts⟩ (c_X6_shareBits l D C N S50 z r50 r51 S51 hc51) (va_cwS 1 hts gX6_digest_X6_shareBits rfl rfl rfl (by decide +kernel) ⟨Nat.le_of_ble_eq_true rfl, Nat.le_of_ble_eq_true rfl⟩) (wd_preS hw) rfl rfl hl.1 rfl (lv_room (Nat.le_of_ble_eq_true rfl)) dX6_digest_265 ⟨Nat.zero_le _, Nat.zero_le _⟩) hw (fun H locs hw => ?_)
      refine lv_ladd hx hb dX6_digest_268 ?_
      obtain ⟨e52, he52, hg⟩ := bd_some hg
      refine lv_lstore_n (lv' := [(1, .long e52), (0, .ref a0), (3, .int v3)]) hx hb dX6_digest_269 rfl hl (by decide) (by rw [he52]; rfl) (fun ls hl => ?_)
      refine lv_aload_n hx hb dX6_digest_270 rfl (lv_at hl 1 rfl) ?_
      obtain ⟨hok53, hg⟩ := gd_some hg
      obtain ⟨r54, hr54, hg⟩ := nn_some hg
      refine wr_get (K := RX6) (T := TX6) (N := 7) (index := 33) (ref := "MakerLines") (v := .ref r54) hx hb hts hi_X6_digest_X6 hown hw hok53 (wF_6 (S := S51) hok53.2) rfl 4 (by decide) (hts _ (List.mem_of_getElem? (i := 7) rfl)) (fun _ h9 => h9) (congrArg (fun o => some (va_rf o)) hr54) dX6_digest_271 ?_
      refine lv_lload_n hx hb dX6_digest_274 rfl (lv_at hl 0 rfl) ?_
      obtain ⟨hok55, hg⟩ := gd_some hg
      obtain ⟨r56, S56, hc56, hg⟩ := cl_some hg
      refine wr_cl (va_runV (As := [.long e52]) (rest := []) ⟨hx, hb, hml, hown, hts⟩ (c_X5_hashOnto l D C N S51 z r54 e52 r56 S56 hc56) (cwV 1 hts gX6_digest_X5_hashOnto rfl rfl rfl (by decide +kernel) ⟨Nat.le_of_ble_eq_true rfl, Nat.le_of_ble_eq_true rfl⟩) (wd_preV hw hok55 (wF_5 (S := S51) hok55.2) rfl) rfl rfl hl.1 rfl (lv_room (Nat.le_of_ble_eq_true rfl)) dX6_digest_275 ⟨Nat.zero_le _, Nat.zero_le _⟩) hw (fun H locs hw => ?_)
      cases hg
      exact wr_lret hx hb hr hw dX6_digest_278 hlk
    · have hg := it_neg hg c28
      refine lv_ldc2 (own := RX6) (index := 268) (v := (31 : Int64)) hx hb hown (hts _ (List.mem_of_getElem? (i := 2) rfl)) dX6_digest_152 ?_
      refine lv_lload_n hx hb dX6_digest_155 rfl (lv_at hl 1 rfl) ?_
      refine lv_lmul hx hb dX6_digest_156 ?_
      refine lv_aload_n hx hb dX6_digest_157 rfl (lv_at hl 0 rfl) ?_
      refine lv_iload_n hx hb dX6_digest_158 rfl (lv_at hl 2 rfl) ?_
      obtain ⟨hok57, hg⟩ := gd_some hg
      obtain ⟨r58, S58, hc58, hg⟩ := cl_some hg
      refine wr_ci (va_runV (As := [.int v3]) (rest := [.long ((31 : Int64) * l1)]) ⟨hx, hb, hml, hown, hts⟩ (c_X6_reply l D C N S z a0 v3 r58 S58 hc58) (cwV 1 hts gX6_digest_X6_reply rfl rfl rfl (by decide +kernel) ⟨Nat.le_of_ble_eq_true rfl, Nat.le_of_ble_eq_true rfl⟩) (wd_preV hw hok57 (wF_6 (S := S) hok57.2) rfl) rfl rfl hl.1 rfl (lv_room (Nat.le_of_ble_eq_true rfl)) dX6_digest_159 ⟨Nat.zero_le _, Nat.zero_le _⟩) hw (fun H locs hw => ?_)
      refine lv_i2l (v := (Int32.toInt64 r58)) hx hb dX6_digest_162 rfl ?_
      refine lv_ladd hx hb dX6_digest_163 ?_
      obtain ⟨e59, he59, hg⟩ := bd_some hg
      refine lv_lstore_n (lv' := [(1, .long e59), (0, .ref a0), (3, .int v3)]) hx hb dX6_digest_164 rfl hl (by decide) (by rw [he59]; rfl) (fun ls hl => ?_)
      refine lv_iinc (v := (v3 + (1 : Int32))) (lv' := [(3, .int (v3 + (1 : Int32))), (1, .long e59), (0, .ref a0)]) hx hb dX6_digest_165 hl (k := 2) rfl rfl (by decide) rfl (fun ls hl => ?_)
      refine lv_goto (tgt := 147) hx hb dX6_digest_168 (by decide) ?_
      exact hK147 _ _ _ _ _ _ hg hw (lv_sub hl [2, 1, 0] rfl)
  have L147 : ∀ (k : Nat) (S : Hp) (l1 : Int64) (v3 : Int32) (H : Heap) (locs : List Loc) (ls : Array Slot), f_X6_digest_l147 N a0 k S l1 v3 = some (r, S9) → Wd D C (va_A (wP C S0) z) s.heap S z H locs s → lv_has ls 5 [(0, .ref a0), (1, .long l1), (3, .int v3)] → W p l e rm_X6_digest s m ([.ref a0] : List Value).toArray below meth c H locs 0 0 (MQ below (QlW D C S0 z r S9 z) ([.ref a0] : List Value).toArray s 0 0 (va_A (wP C S0) z)) (F0 m 147 ls []) := by
    intro k
    induction k with
    | zero => intro S l1 v3 H locs ls hg hw hl; exact absurd (show (none : Option (Int64 × Hp)) = some (r, S9) from hg) (by simp)
    | succ k ih => intro S l1 v3 H locs ls hg hw hl; exact B147 (f_X6_digest_l147 N a0 k) ih S l1 v3 H locs ls hg hw hl
  have B99 : ∀ (K85 : Hp → Int64 → Int32 → Option (Int64 × Hp)) (hK85 : ∀ (S : Hp) (l1 : Int64) (v3 : Int32) (H : Heap) (locs : List Loc) (ls : Array Slot), K85 S l1 v3 = some (r, S9) → Wd D C (va_A (wP C S0) z) s.heap S z H locs s → lv_has ls 5 [(0, .ref a0), (1, .long l1), (3, .int v3)] → W p l e rm_X6_digest s m ([.ref a0] : List Value).toArray below meth c H locs 0 0 (MQ below (QlW D C S0 z r S9 z) ([.ref a0] : List Value).toArray s 0 0 (va_A (wP C S0) z)) (F0 m 85 ls [])) (K99 : Hp → Int64 → Int32 → Int32 → Option (Int64 × Hp)) (hK99 : ∀ (S : Hp) (l1 : Int64) (v3 : Int32) (v4 : Int32) (H : Heap) (locs : List Loc) (ls : Array Slot), K99 S l1 v3 v4 = some (r, S9) → Wd D C (va_A (wP C S0) z) s.heap S z H locs s → lv_has ls 5 [(0, .ref a0), (1, .long l1), (3, .int v3), (4, .int v4)] → W p l e rm_X6_digest s m ([.ref a0] : List Value).toArray below meth c H locs 0 0 (MQ below (QlW D C S0 z r S9 z) ([.ref a0] : List Value).toArray s 0 0 (va_A (wP C S0) z)) (F0 m 99 ls [])) (S : Hp) (l1 : Int64) (v3 : Int32) (v4 : Int32) (H : Heap) (locs : List Loc) (ls : Array Slot), f_X6_digest_b99 N a0 K85 K99 S l1 v3 v4 = some (r, S9) → Wd D C (va_A (wP C S0) z) s.heap S z H locs s → lv_has ls 5 [(0, .ref a0), (1, .long l1), (3, .int v3), (4, .int v4)] → W p l e rm_X6_digest s m ([.ref a0] : List Value).toArray below meth c H locs 0 0 (MQ below (QlW D C S0 z r S9 z) ([.ref a0] : List Value).toArray s 0 0 (va_A (wP C S0) z)) (F0 m 99 ls []) := by
    intro K85 hK85 K99 hK99 S l1 v3 v4 H locs ls hg hw hl
    unfold f_X6_digest_b99 at hg
    refine lv_iload hx hb dX6_digest_99 (lv_at hl 3 rfl) ?_
    refine lv_iconst (v := (4 : Int32)) hx hb dX6_digest_101 (by decide) ?_
    refine lv_icmp_ge (tgt := 126) hx hb dX6_digest_102 (by decide) (fun c60 => ?_) (fun c60 => ?_)
    · have hg := it_pos hg c60
      refine lv_ldc2 (own := RX6) (index := 268) (v := (31 : Int64)) hx hb hown (hts _ (List.mem_of_getElem? (i := 2) rfl)) dX6_digest_126 ?_
      refine lv_lload_n hx hb dX6_digest_129 rfl (lv_at hl 1 rfl) ?_
      refine lv_lmul hx hb dX6_digest_130 ?_
      refine lv_aload_n hx hb dX6_digest_131 rfl (lv_at hl 0 rfl) ?_
      refine lv_iload_n hx hb dX6_digest_132 rfl (lv_at hl 2 rfl) ?_
      obtain ⟨hok61, hg⟩ := gd_some hg
      obtain ⟨r62, S62, hc62, hg⟩ := cl_some hg
      refine wr_ci (va_runV (As := [.int v3]) (rest := [.long ((31 : Int64) * l1)]) ⟨hx, hb, hml, hown, hts⟩ (c_X6_ifMoved l D C N S z a0 v3 r62 S62 hc62) (cwV 1 hts gX6_digest_X6_ifMoved rfl rfl rfl (by decide +kernel) ⟨Nat.le_of_ble_eq_true rfl, Nat.le_of_ble_eq_true rfl⟩) (wd_preV hw hok61 (wF_6 (S := S) hok61.2) rfl) rfl rfl hl.1 rfl (lv_room (Nat.le_of_ble_eq_true rfl)) dX6_digest_133 ⟨Nat.zero_le _, Nat.zero_le _⟩) hw (fun H locs hw => ?_)
      refine lv_i2l (v := (Int32.toInt64 r62)) hx hb dX6_digest_136 rfl ?_
      refine lv_ladd hx hb dX6_digest_137 ?_
      obtain ⟨e63, he63, hg⟩ := bd_some hg
      refine lv_lstore_n (lv' := [(1, .long e63), (0, .ref a0), (3, .int v3), (4, .int v4)]) hx hb dX6_digest_138 rfl hl (by decide) (by rw [he63]; rfl) (fun ls hl => ?_)
      refine lv_iinc (v := (v3 + (1 : Int32))) (lv' := [(3, .int (v3 + (1 : Int32))), (1, .long e63), (0, .ref a0), (4, .int v4)]) hx hb dX6_digest_139 hl (k := 2) rfl rfl (by decide) rfl (fun ls hl => ?_)
      refine lv_goto (tgt := 85) hx hb dX6_digest_142 (by decide) ?_
      exact hK85 _ _ _ _ _ _ hg hw (lv_sub hl [2, 1, 0] rfl)
    · have hg := it_neg hg c60
      refine lv_ldc2 (own := RX6) (index := 268) (v := (31 : Int64)) hx hb hown (hts _ (List.mem_of_getElem? (i := 2) rfl)) dX6_digest_105 ?_
      refine lv_lload_n hx hb dX6_digest_108 rfl (lv_at hl 1 rfl) ?_
      refine lv_lmul hx hb dX6_digest_109 ?_
      refine lv_aload_n hx hb dX6_digest_110 rfl (lv_at hl 0 rfl) ?_
      refine lv_iload_n hx hb dX6_digest_111 rfl (lv_at hl 2 rfl) ?_
      refine lv_iload hx hb dX6_digest_112 (lv_at hl 3 rfl) ?_
      obtain ⟨hok64, hg⟩ := gd_some hg
      obtain ⟨r65, S65, hc65, hg⟩ := cl_some hg
      refine wr_ci (va_runV (As := [.int v3, .int v4]) (rest := [.long ((31 : Int64) * l1)]) ⟨hx, hb, hml, hown, hts⟩ (c_X6_cell l D C N S z a0 v3 v4 r65 S65 hc65) (cwV 2 hts gX6_digest_X6_cell rfl rfl rfl (by decide +kernel) ⟨Nat.le_of_ble_eq_true rfl, Nat.le_of_ble_eq_true rfl⟩) (wd_preV hw hok64 (wF_6 (S := S) hok64.2) rfl) rfl rfl hl.1 rfl (lv_room (Nat.le_of_ble_eq_true rfl)) dX6_digest_114 ⟨Nat.zero_le _, Nat.zero_le _⟩) hw (fun H locs hw => ?_)
      refine lv_i2l (v := (Int32.toInt64 r65)) hx hb dX6_digest_117 rfl ?_
      refine lv_ladd hx hb dX6_digest_118 ?_
      obtain ⟨e66, he66, hg⟩ := bd_some hg
      refine lv_lstore_n (lv' := [(1, .long e66), (0, .ref a0), (3, .int v3), (4, .int v4)]) hx hb dX6_digest_119 rfl hl (by decide) (by rw [he66]; rfl) (fun ls hl => ?_)
      refine lv_iinc (v := (v4 + (1 : Int32))) (lv' := [(4, .int (v4 + (1 : Int32))), (1, .long e66), (0, .ref a0), (3, .int v3)]) hx hb dX6_digest_120 hl (k := 3) rfl rfl (by decide) rfl (fun ls hl => ?_)
      refine lv_goto (tgt := 99) hx hb dX6_digest_123 (by decide) ?_
      exact hK99 _ _ _ _ _ _ _ hg hw (lv_sub hl [2, 1, 3, 0] rfl)
  have L99 : ∀ (K85 : Hp → Int64 → Int32 → Option (Int64 × Hp)) (hK85 : ∀ (S : Hp) (l1 : Int64) (v3 : Int32) (H : Heap) (locs : List Loc) (ls : Array Slot), K85 S l1 v3 = some (r, S9) → Wd D C (va_A (wP C S0) z) s.heap S z H locs s → lv_has ls 5 [(0, .ref a0), (1, .long l1), (3, .int v3)] → W p l e rm_X6_digest s m ([.ref a0] : List Value).toArray below meth c H locs 0 0 (MQ below (QlW D C S0 z r S9 z) ([.ref a0] : List Value).toArray s 0 0 (va_A (wP C S0) z)) (F0 m 85 ls [])) (k : Nat) (S : Hp) (l1 : Int64) (v3 : Int32) (v4 : Int32) (H : Heap) (locs : List Loc) (ls : Array Slot), f_X6_digest_l99 N a0 K85 k S l1 v3 v4 = some (r, S9) → Wd D C (va_A (wP C S0) z) s.heap S z H locs s → lv_has ls 5 [(0, .ref a0), (1, .long l1), (3, .int v3), (4, .int v4)] → W p l e rm_X6_digest s m ([.ref a0] : List Value).toArray below meth c H locs 0 0 (MQ below (QlW D C S0 z r S9 z) ([.ref a0] : List Value).toArray s 0 0 (va_A (wP C S0) z)) (F0 m 99 ls []) := by
    intro K85 hK85 k
    induction k with
    | zero => intro S l1 v3 v4 H locs ls hg hw hl; exact absurd (show (none : Option (Int64 × Hp)) = some (r, S9) from hg) (by simp)
    | succ k ih => intro S l1 v3 v4 H locs ls hg hw hl; exact B99 K85 hK85 (f_X6_digest_l99 N a0 K85 k) ih S l1 v3 v4 H locs ls hg hw hl
  have B85 : ∀ (K85 : Hp → Int64 → Int32 → Option (Int64 × Hp)) (hK85 : ∀ (S : Hp) (l1 : Int64) (v3 : Int32) (H : Heap) (locs : List Loc) (ls : Array Slot), K85 S l1 v3 = some (r, S9) → Wd D C (va_A (wP C S0) z) s.heap S z H locs s → lv_has ls 5 [(0, .ref a0), (1, .long l1), (3, .int v3)] → W p l e rm_X6_digest s m ([.ref a0] : List Value).toArray below meth c H locs 0 0 (MQ below (QlW D C S0 z r S9 z) ([.ref a0] : List Value).toArray s 0 0 (va_A (wP C S0) z)) (F0 m 85 ls [])) (S : Hp) (l1 : Int64) (v3 : Int32) (H : Heap) (locs : List Loc) (ls : Array Slot), f_X6_digest_b85 N a0 K85 S l1 v3 = some (r, S9) → Wd D C (va_A (wP C S0) z) s.heap S z H locs s → lv_has ls 5 [(0, .ref a0), (1, .long l1), (3, .int v3)] → W p l e rm_X6_digest s m ([.ref a0] : List Value).toArray below meth c H locs 0 0 (MQ below (QlW D C S0 z r S9 z) ([.ref a0] : List Value).toArray s 0 0 (va_A (wP C S0) z)) (F0 m 85 ls []) := by
    intro K85 hK85 S l1 v3 H locs ls hg hw hl
    unfold f_X6_digest_b85 at hg
    refine lv_iload_n hx hb dX6_digest_85 rfl (lv_at hl 2 rfl) ?_
    refine lv_aload_n hx hb dX6_digest_86 rfl (lv_at hl 0 rfl) ?_
    obtain ⟨hok20, hg⟩ := gd_some hg
    obtain ⟨r21, hr21, hg⟩ := nn_some hg
    refine wr_get (K := RX6) (T := TX6) (N := 7) (index := 12) (ref := "MakerLines") (v := .ref r21) hx hb hts hi_X6_digest_X6 hown hw hok20 (wF_6 (S := S) hok20.2) rfl 0 (by decide) (hts _ (List.mem_of_getElem? (i := 3) rfl)) (fun _ h9 => h9) (congrArg (fun o => some (va_rf o)) hr21) dX6_digest_87 ?_
    obtain ⟨hok22, hg⟩ := gd_some hg
    refine wr_get (K := RX4) (T := TX4) (N := 10) (index := 62) (ref := "MakerLines$State") (v := .int (hI S r21 1)) hx hb hts hi_X6_digest_X4 hown hw hok22 (wF_4 (S := S) hok22.2) rfl 1 (by decide) (hts _ (List.mem_of_getElem? (i := 6) rfl)) (fun _ h9 => h9) rfl dX6_digest_90 ?_
    refine lv_icmp_ge (tgt := 145) hx hb dX6_digest_93 (by decide) (fun c23 => ?_) (fun c23 => ?_)
    · have hg := it_pos hg c23
      refine lv_iconst (v := (0 : Int32)) hx hb dX6_digest_145 (by decide) ?_
      refine lv_istore_n (lv' := [(3, .int (0 : Int32)), (0, .ref a0), (1, .long l1)]) hx hb dX6_digest_146 rfl hl (by decide) rfl (fun ls hl => ?_)
      exact L147 N _ _ _ _ _ _ hg hw (lv_sub hl [1, 2, 0] rfl)
    · have hg := it_neg hg c23
      refine lv_iconst (v := (0 : Int32)) hx hb dX6_digest_96 (by decide) ?_
      refine lv_istore (lv' := [(4, .int (0 : Int32)), (0, .ref a0), (1, .long l1), (3, .int v3)]) hx hb dX6_digest_97 hl (by decide) rfl (fun ls hl => ?_)
      exact L99 K85 hK85 N _ _ _ _ _ _ _ hg hw (lv_sub hl [1, 2, 3, 0] rfl)
  have L85 : ∀ (k : Nat) (S : Hp) (l1 : Int64) (v3 : Int32) (H : Heap) (locs : List Loc) (ls : Array Slot), f_X6_digest_l85 N a0 k S l1 v3 = some (r, S9) → Wd D C (va_A (wP C S0) z) s.heap S z H locs s → lv_has ls 5 [(0, .ref a0), (1, .long l1), (3, .int v3)] → W p l e rm_X6_digest s m ([.ref a0] : List Value).toArray below meth c H locs 0 0 (MQ below (QlW D C S0 z r S9 z) ([.ref a0] : List Value).toArray s 0 0 (va_A (wP C S0) z)) (F0 m 85 ls []) := by
    intro k
    induction k with
    | zero => intro S l1 v3 H locs ls hg hw hl; exact absurd (show (none : Option (Int64 × Hp)) = some (r, S9) from hg) (by simp)
    | succ k ih => intro S l1 v3 H locs ls hg hw hl; exact B85 (f_X6_digest_l85 N a0 k) ih S l1 v3 H locs ls hg hw hl
  have B50 : ∀ (K33 : Hp → Int64 → Int32 → Option (Int64 × Hp)) (hK33 : ∀ (S : Hp) (l1 : Int64) (v3 : Int32) (H : Heap) (locs : List Loc) (ls : Array Slot), K33 S l1 v3 = some (r, S9) → Wd D C (va_A (wP C S0) z) s.heap S z H locs s → lv_has ls 5 [(0, .ref a0), (1, .long l1), (3, .int v3)] → W p l e rm_X6_digest s m ([.ref a0] : List Value).toArray below meth c H locs 0 0 (MQ below (QlW D C S0 z r S9 z) ([.ref a0] : List Value).toArray s 0 0 (va_A (wP C S0) z)) (F0 m 33 ls [])) (K50 : Hp → Int64 → Int32 → Int32 → Option (Int64 × Hp)) (hK50 : ∀ (S : Hp) (l1 : Int64) (v3 : Int32) (v4 : Int32) (H : Heap) (locs : List Loc) (ls : Array Slot), K50 S l1 v3 v4 = some (r, S9) → Wd D C (va_A (wP C S0) z) s.heap S z H locs s → lv_has ls 5 [(0, .ref a0), (1, .long l1), (3, .int v3), (4, .int v4)] → W p l e rm_X6_digest s m ([.ref a0] : List Value).toArray below meth c H locs 0 0 (MQ below (QlW D C S0 z r S9 z) ([.ref a0] : List Value).toArray s 0 0 (va_A (wP C S0) z)) (F0 m 50 ls [])) (S : Hp) (l1 : Int64) (v3 : Int32) (v4 : Int32) (H : Heap) (locs : List Loc) (ls : Array Slot), f_X6_digest_b50 N a0 K33 K50 S l1 v3 v4 = some (r, S9) → Wd D C (va_A (wP C S0) z) s.heap S z H locs s → lv_has ls 5 [(0, .ref a0), (1, .long l1), (3, .int v3), (4, .int v4)] → W p l e rm_X6_digest s m ([.ref a0] : List Value).toArray below meth c H locs 0 0 (MQ below (QlW D C S0 z r S9 z) ([.ref a0] : List Value).toArray s 0 0 (va_A (wP C S0) z)) (F0 m 50 ls []) := by
    intro K33 hK33 K50 hK50 S l1 v3 v4 H locs ls hg hw hl
    unfold f_X6_digest_b50 at hg
    refine lv_iload hx hb dX6_digest_50 (lv_at hl 3 rfl) ?_
    refine lv_iconst (v := (5 : Int32)) hx hb dX6_digest_52 (by decide) ?_
    refine lv_icmp_ge (tgt := 77) hx hb dX6_digest_53 (by decide) (fun c24 => ?_) (fun c24 => ?_)
    · have hg := it_pos hg c24
      refine lv_iinc (v := (v3 + (1 : Int32))) (lv' := [(3, .int (v3 + (1 : Int32))), (0, .ref a0), (1, .long l1), (4, .int v4)]) hx hb dX6_digest_77 hl (k := 2) rfl rfl (by decide) rfl (fun ls hl => ?_)
      refine lv_goto (tgt := 33) hx hb dX6_digest_80 (by decide) ?_
      exact hK33 _ _ _ _ _ _ hg hw (lv_sub hl [1, 2, 0] rfl)
    · have hg := it_neg hg c24
      refine lv_ldc2 (own := RX6) (index := 268) (v := (31 : Int64)) hx hb hown (hts _ (List.mem_of_getElem? (i := 2) rfl)) dX6_digest_56 ?_
      refine lv_lload_n hx hb dX6_digest_59 rfl (lv_at hl 1 rfl) ?_
      refine lv_lmul hx hb dX6_digest_60 ?_
      refine lv_aload_n hx hb dX6_digest_61 rfl (lv_at hl 0 rfl) ?_
      refine lv_iload_n hx hb dX6_digest_62 rfl (lv_at hl 2 rfl) ?_
      refine lv_iload hx hb dX6_digest_63 (lv_at hl 3 rfl) ?_
      obtain ⟨hok25, hg⟩ := gd_some hg
      obtain ⟨r26, S26, hc26, hg⟩ := cl_some hg
      refine wr_ci (va_runV (As := [.int v3, .int v4]) (rest := [.long ((31 : Int64) * l1)]) ⟨hx, hb, hml, hown, hts⟩ (c_X6_line l D C N S z a0 v3 v4 r26 S26 hc26) (cwV 2 hts gX6_digest_X6_line rfl rfl rfl (by decide +kernel) ⟨Nat.le_of_ble_eq_true rfl, Nat.le_of_ble_eq_true rfl⟩) (wd_preV hw hok25 (wF_6 (S := S) hok25.2) rfl) rfl rfl hl.1 rfl (lv_room (Nat.le_of_ble_eq_true rfl)) dX6_digest_65 ⟨Nat.zero_le _, Nat.zero_le _⟩) hw (fun H locs hw => ?_)
      refine lv_i2l (v := (Int32.toInt64 r26)) hx hb dX6_digest_68 rfl ?_
      refine lv_ladd hx hb dX6_digest_69 ?_
      obtain ⟨e27, he27, hg⟩ := bd_some hg
      refine lv_lstore_n (lv' := [(1, .long e27), (0, .ref a0), (3, .int v3), (4, .int v4)]) hx hb dX6_digest_70 rfl hl (by decide) (by rw [he27]; rfl) (fun ls hl => ?_)
      refine lv_iinc (v := (v4 + (1 : Int32))) (lv' := [(4, .int (v4 + (1 : Int32))), (1, .long e27), (0, .ref a0), (3, .int v3)]) hx hb dX6_digest_71 hl (k := 3) rfl rfl (by decide) rfl (fun ls hl => ?_)
      refine lv_goto (tgt := 50) hx hb dX6_digest_74 (by decide) ?_
      exact hK50 _ _ _ _ _ _ _ hg hw (lv_sub hl [2, 1, 3, 0] rfl)
  have L50 : ∀ (K33 : Hp → Int64 → Int32 → Option (Int64 × Hp)) (hK33 : ∀ (S : Hp) (l1 : Int64) (v3 : Int32) (H : Heap) (locs : List Loc) (ls : Array Slot), K33 S l1 v3 = some (r, S9) → Wd D C (va_A (wP C S0) z) s.heap S z H locs s → lv_has ls 5 [(0, .ref a0), (1, .long l1), (3, .int v3)] → W p l e rm_X6_digest s m ([.ref a0] : List Value).toArray below meth c H locs 0 0 (MQ below (QlW D C S0 z r S9 z) ([.ref a0] : List Value).toArray s 0 0 (va_A (wP C S0) z)) (F0 m 33 ls [])) (k : Nat) (S : Hp) (l1 : Int64) (v3 : Int32) (v4 : Int32) (H : Heap) (locs : List Loc) (ls : Array Slot), f_X6_digest_l50 N a0 K33 k S l1 v3 v4 = some (r, S9) → Wd D C (va_A (wP C S0) z) s.heap S z H locs s → lv_has ls 5 [(0, .ref a0), (1, .long l1), (3, .int v3), (4, .int v4)] → W p l e rm_X6_digest s m ([.ref a0] : List Value).toArray below meth c H locs 0 0 (MQ below (QlW D C S0 z r S9 z) ([.ref a0] : List Value).toArray s 0 0 (va_A (wP C S0) z)) (F0 m 50 ls []) := by
    intro K33 hK33 k
    induction k with
    | zero => intro S l1 v3 v4 H locs ls hg hw hl; exact absurd (show (none : Option (Int64 × Hp)) = some (r, S9) from hg) (by simp)
    | succ k ih => intro S l1 v3 v4 H locs ls hg hw hl; exact B50 K33 hK33 (f_X6_digest_l50 N a0 K33 k) ih S l1 v3 v4 H locs ls hg hw hl
  have B33 : ∀ (K33 : Hp → Int64 → Int32 → Option (Int64 × Hp)) (hK33 : ∀ (S : Hp) (l1 : Int64) (v3 : Int32) (H : Heap) (locs : List Loc) (ls : Array Slot), K33 S l1 v3 = some (r, S9) → Wd D C (va_A (wP C S0) z) s.heap S z H locs s → lv_has ls 5 [(0, .ref a0), (1, .long l1), (3, .int v3)] → W p l e rm_X6_digest s m ([.ref a0] : List Value).toArray below meth c H locs 0 0 (MQ below (QlW D C S0 z r S9 z) ([.ref a0] : List Value).toArray s 0 0 (va_A (wP C S0) z)) (F0 m 33 ls [])) (S : Hp) (l1 : Int64) (v3 : Int32) (H : Heap) (locs : List Loc) (ls : Array Slot), f_X6_digest_b33 N a0 K33 S l1 v3 = some (r, S9) → Wd D C (va_A (wP C S0) z) s.heap S z H locs s → lv_has ls 5 [(0, .ref a0), (1, .long l1), (3, .int v3)] → W p l e rm_X6_digest s m ([.ref a0] : List Value).toArray below meth c H locs 0 0 (MQ below (QlW D C S0 z r S9 z) ([.ref a0] : List Value).toArray s 0 0 (va_A (wP C S0) z)) (F0 m 33 ls []) := by
    intro K33 hK33 S l1 v3 H locs ls hg hw hl
    unfold f_X6_digest_b33 at hg
    refine lv_iload_n hx hb dX6_digest_33 rfl (lv_at hl 2 rfl) ?_
    refine lv_aload_n hx hb dX6_digest_34 rfl (lv_at hl 0 rfl) ?_
    obtain ⟨hok14, hg⟩ := gd_some hg
    obtain ⟨r15, hr15, hg⟩ := nn_some hg
    refine wr_get (K := RX6) (T := TX6) (N := 7) (index := 12) (ref := "MakerLines") (v := .ref r15) hx hb hts hi_X6_digest_X6 hown hw hok14 (wF_6 (S := S) hok14.2) rfl 0 (by decide) (hts _ (List.mem_of_getElem? (i := 3) rfl)) (fun _ h9 => h9) (congrArg (fun o => some (va_rf o)) hr15) dX6_digest_35 ?_
    obtain ⟨hok16, hg⟩ := gd_some hg
    obtain ⟨r17, hr17, hg⟩ := nn_some hg
    refine wr_get (K := RX4) (T := TX4) (N := 10) (index := 66) (ref := "MakerLines$State") (v := .ref r17) hx hb hts hi_X6_digest_X4 hown hw hok16 (wF_4 (S := S) hok16.2) rfl 0 (by decide) (hts _ (List.mem_of_getElem? (i := 4) rfl)) (fun _ h9 => h9) (congrArg (fun o => some (va_rf o)) hr17) dX6_digest_38 ?_
    obtain ⟨hok18, hg⟩ := gd_some hg
    refine wr_get (K := RX1) (T := TX1) (N := 6) (index := 70) (ref := "MakerLines$Lines") (v := .int (hI S r17 1)) hx hb hts hi_X6_digest_X1 hown hw hok18 (wF_1 (S := S) hok18.2) rfl 1 (by decide) (hts _ (List.mem_of_getElem? (i := 5) rfl)) (fun _ h9 => h9) rfl dX6_digest_41 ?_
    refine lv_icmp_ge (tgt := 83) hx hb dX6_digest_44 (by decide) (fun c19 => ?_) (fun c19 => ?_)
    · have hg := it_pos hg c19
      refine lv_iconst (v := (0 : Int32)) hx hb dX6_digest_83 (by decide) ?_
      refine lv_istore_n (lv' := [(3, .int (0 : Int32)), (0, .ref a0), (1, .long l1)]) hx hb dX6_digest_84 rfl hl (by decide) rfl (fun ls hl => ?_)
      exact L85 N _ _ _ _ _ _ hg hw (lv_sub hl [1, 2, 0] rfl)
    · have hg := it_neg hg c19
      refine lv_iconst (v := (0 : Int32)) hx hb dX6_digest_47 (by decide) ?_
      refine lv_istore (lv' := [(4, .int (0 : Int32)), (0, .ref a0), (1, .long l1), (3, .int v3)]) hx hb dX6_digest_48 hl (by decide) rfl (fun ls hl => ?_)
      exact L50 K33 hK33 N _ _ _ _ _ _ _ hg hw (lv_sub hl [1, 2, 3, 0] rfl)
  have L33 : ∀ (k : Nat) (S : Hp) (l1 : Int64) (v3 : Int32) (H : Heap) (locs : List Loc) (ls : Array Slot), f_X6_digest_l33 N a0 k S l1 v3 = some (r, S9) → Wd D C (va_A (wP C S0) z) s.heap S z H locs s → lv_has ls 5 [(0, .ref a0), (1, .long l1), (3, .int v3)] → W p l e rm_X6_digest s m ([.ref a0] : List Value).toArray below meth c H locs 0 0 (MQ below (QlW D C S0 z r S9 z) ([.ref a0] : List Value).toArray s 0 0 (va_A (wP C S0) z)) (F0 m 33 ls []) := by
    intro k
    induction k with
    | zero => intro S l1 v3 H locs ls hg hw hl; exact absurd (show (none : Option (Int64 × Hp)) = some (r, S9) from hg) (by simp)
    | succ k ih => intro S l1 v3 H locs ls hg hw hl; exact B33 (f_X6_digest_l33 N a0 k) ih S l1 v3 H locs ls hg hw hl
  have B6 : ∀ (K6 : Hp → Int64 → Int32 → Option (Int64 × Hp)) (hK6 : ∀ (S : Hp) (l1 : Int64) (v3 : Int32) (H : Heap) (locs : List Loc) (ls : Array Slot), K6 S l1 v3 = some (r, S9) → Wd D C (va_A (wP C S0) z) s.heap S z H locs s → lv_has ls 5 [(0, .ref a0), (1, .long l1), (3, .int v3)] → W p l e rm_X6_digest s m ([.ref a0] : List Value).toArray below meth c H locs 0 0 (MQ below (QlW D C S0 z r S9 z) ([.ref a0] : List Value).toArray s 0 0 (va_A (wP C S0) z)) (F0 m 6 ls [])) (S : Hp) (l1 : Int64) (v3 : Int32) (H : Heap) (locs : List Loc) (ls : Array Slot), f_X6_digest_b6 N a0 K6 S l1 v3 = some (r, S9) → Wd D C (va_A (wP C S0) z) s.heap S z H locs s → lv_has ls 5 [(0, .ref a0), (1, .long l1), (3, .int v3)] → W p l e rm_X6_digest s m ([.ref a0] : List Value).toArray below meth c H locs 0 0 (MQ below (QlW D C S0 z r S9 z) ([.ref a0] : List Value).toArray s 0 0 (va_A (wP C S0) z)) (F0 m 6 ls []) := by
    intro K6 hK6 S l1 v3 H locs ls hg hw hl
    unfold f_X6_digest_b6 at hg
    refine lv_iload_n hx hb dX6_digest_6 rfl (lv_at hl 2 rfl) ?_
    refine lv_bipush (v := (16 : Int32)) hx hb dX6_digest_7 (by decide) ?_
    refine lv_icmp_ge (tgt := 31) hx hb dX6_digest_9 (by decide) (fun c10 => ?_) (fun c10 => ?_)
    · have hg := it_pos hg c10
      refine lv_iconst (v := (0 : Int32)) hx hb dX6_digest_31 (by decide) ?_
      refine lv_istore_n (lv' := [(3, .int (0 : Int32)), (0, .ref a0), (1, .long l1)]) hx hb dX6_digest_32 rfl hl (by decide) rfl (fun ls hl => ?_)
      exact L33 N _ _ _ _ _ _ hg hw (lv_sub hl [1, 2, 0] rfl)
    · have hg := it_neg hg c10
      refine lv_ldc2 (own := RX6) (index := 268) (v := (31 : Int64)) hx hb hown (hts _ (List.mem_of_getElem? (i := 2) rfl)) dX6_digest_12 ?_
      refine lv_lload_n hx hb dX6_digest_15 rfl (lv_at hl 1 rfl) ?_
      refine lv_lmul hx hb dX6_digest_16 ?_
      refine lv_aload_n hx hb dX6_digest_17 rfl (lv_at hl 0 rfl) ?_
      refine lv_iload_n hx hb dX6_digest_18 rfl (lv_at hl 2 rfl) ?_
      obtain ⟨hok11, hg⟩ := gd_some hg
      obtain ⟨r12, S12, hc12, hg⟩ := cl_some hg
      refine wr_ci (va_runV (As := [.int v3]) (rest := [.long ((31 : Int64) * l1)]) ⟨hx, hb, hml, hown, hts⟩ (c_X6_count l D C N S z a0 v3 r12 S12 hc12) (cwV 1 hts gX6_digest_X6_count rfl rfl rfl (by decide +kernel) ⟨Nat.le_of_ble_eq_true rfl, Nat.le_of_ble_eq_true rfl⟩) (wd_preV hw hok11 (wF_6 (S := S) hok11.2) rfl) rfl rfl hl.1 rfl (lv_room (Nat.le_of_ble_eq_true rfl)) dX6_digest_19 ⟨Nat.zero_le _, Nat.zero_le _⟩) hw (fun H locs hw => ?_)
      refine lv_i2l (v := (Int32.toInt64 r12)) hx hb dX6_digest_22 rfl ?_
      refine lv_ladd hx hb dX6_digest_23 ?_
      obtain ⟨e13, he13, hg⟩ := bd_some hg
      refine lv_lstore_n (lv' := [(1, .long e13), (0, .ref a0), (3, .int v3)]) hx hb dX6_digest_24 rfl hl (by decide) (by rw [he13]; rfl) (fun ls hl => ?_)
      refine lv_iinc (v := (v3 + (1 : Int32))) (lv' := [(3, .int (v3 + (1 : Int32))), (1, .long e13), (0, .ref a0)]) hx hb dX6_digest_25 hl (k := 2) rfl rfl (by decide) rfl (fun ls hl => ?_)
      refine lv_goto (tgt := 6) hx hb dX6_digest_28 (by decide) ?_
      exact hK6 _ _ _ _ _ _ hg hw (lv_sub hl [2, 1, 0] rfl)
  have L6 : ∀ (k : Nat) (S : Hp) (l1 : Int64) (v3 : Int32) (H : Heap) (locs : List Loc) (ls : Array Slot), f_X6_digest_l6 N a0 k S l1 v3 = some (r, S9) → Wd D C (va_A (wP C S0) z) s.heap S z H locs s → lv_has ls 5 [(0, .ref a0), (1, .long l1), (3, .int v3)] → W p l e rm_X6_digest s m ([.ref a0] : List Value).toArray below meth c H locs 0 0 (MQ below (QlW D C S0 z r S9 z) ([.ref a0] : List Value).toArray s 0 0 (va_A (wP C S0) z)) (F0 m 6 ls []) := by
    intro k
    induction k with
    | zero => intro S l1 v3 H locs ls hg hw hl; exact absurd (show (none : Option (Int64 × Hp)) = some (r, S9) from hg) (by simp)
    | succ k ih => intro S l1 v3 H locs ls hg hw hl; exact B6 (f_X6_digest_l6 N a0 k) ih S l1 v3 H locs ls hg hw hl
  have B0 : ∀ (S : Hp) (H : Heap) (locs : List Loc) (ls : Array Slot), f_X6_digest N S a0 = some (r, S9) → Wd D C (va_A (wP C S0) z) s.heap S z H locs s → lv_has ls 5 [(0, .ref a0)] → W p l e rm_X6_digest s m ([.ref a0] : List Value).toArray below meth c H locs 0 0 (MQ below (QlW D C S0 z r S9 z) ([.ref a0] : List Value).toArray s 0 0 (va_A (wP C S0) z)) (F0 m 0 ls []) := by
    intro S H locs ls hg hw hl
    unfold f_X6_digest at hg
    refine lv_ldc2 (own := RX6) (index := 266) (v := (2503 : Int64)) hx hb hown (hts _ (List.mem_of_getElem? (i := 1) rfl)) dX6_digest_0 ?_
    refine lv_lstore_n (lv' := [(1, .long (2503 : Int64)), (0, .ref a0)]) hx hb dX6_digest_3 rfl hl (by decide) rfl (fun ls hl => ?_)
    refine lv_iconst (v := (0 : Int32)) hx hb dX6_digest_4 (by decide) ?_
    refine lv_istore_n (lv' := [(3, .int (0 : Int32)), (1, .long (2503 : Int64)), (0, .ref a0)]) hx hb dX6_digest_5 rfl hl (by decide) rfl (fun ls hl => ?_)
    exact L6 N _ _ _ _ _ _ hg hw (lv_sub hl [2, 1, 0] rfl)
  exact B0 S0 _ _ _ hg hw hl
theorem hi_X7_init_X7 : ∀ w ∈ wsX70, w ∈ wsX7_init := fun _ h => List.mem_cons_of_mem _ (List.mem_append_right _ (h))
abbrev rm_X7_init : Room := { frames := 1, cells := 13, slots := 236556, locals := 20 }
set_option maxHeartbeats 4000000 in
set_option maxRecDepth 100000 in
theorem c_X7_init (l : Launch) (D : va_G) (C : C3) (N : Nat) (S0 : Hp) (z0 : Nat) (a0 : Nat) (r : Unit) (S9 : Hp) (z9 : Nat) (hg : f_X7_init N S0 z0 a0 = some (r, S9, z9)) : MetV l yX7_init wsX7_init rm_X7_init D C S0 z0 [.ref a0] r S9 z9 13 236556 := by
  refine mw_ofW (cc := cX7_init) (maxL := 1) (ret := none) (lv := [(0, .ref a0)]) (by decide) rfl (Nat.le_of_ble_eq_true rfl) rfl ?_
  intro p e s m below meth c ls hx hb hr hts hown hlk hml hnm hl hw
  have hown : s.vm.findClass RX7 = some m.cls := hown
  have B0 : ∀ (S : Hp) (z : Nat) (H : Heap) (locs : List Loc) (ls : Array Slot), f_X7_init N S z a0 = some (r, S9, z9) → Wd D C (va_A (wP C S0) z0) s.heap S z H locs s → lv_has ls 1 [(0, .ref a0)] → W p l e rm_X7_init s m ([.ref a0] : List Value).toArray below meth c H locs 0 0 (MQ below (QvW D C S0 z0 r S9 z9) ([.ref a0] : List Value).toArray s 13 236556 (va_A (wP C S0) z0)) (F0 m 0 ls []) := by
    intro S z H locs ls hg hw hl
    unfold f_X7_init at hg
    refine lv_aload_n hx hb dX7_init_0 rfl (lv_at hl 0 rfl) ?_
    refine W.objInit hx hb hown (hts _ (List.mem_of_getElem? (i := 1) rfl)) (hts _ (List.mem_of_getElem? (i := 2) rfl)) (hts _ (List.mem_of_getElem? (i := 3) rfl)) rfl (by rw [hml]; exact hl.1) rfl dX7_init_1 (Nat.le_of_ble_eq_true rfl) (Nat.le_of_ble_eq_true rfl) ?_
    refine W.eq (g2 := F0 m 4 ls []) rfl ?_
    refine lv_aload_n hx hb dX7_init_4 rfl (lv_at hl 0 rfl) ?_
    refine lv_bipush (v := (22 : Int32)) hx hb dX7_init_5 (by decide) ?_
    refine wr_newI (N' := 22) hx hb (hts _ (List.mem_of_getElem? (i := 4) rfl)) hw (by decide) (by decide) (Nat.le_of_ble_eq_true rfl) (Nat.le_of_ble_eq_true rfl) (Nat.le_of_ble_eq_true rfl) dX7_init_7 (fun H hw => ?_)
    obtain ⟨hok11, hg⟩ := gd_some hg
    refine wr_putF (K := RX7) (T := TX7) (N := 20) (index := 7) (ref := "MakerLinesModel") (ty := (.array .int)) (S1 := (sR (sNew S z 8 22) a0 0 (some z))) hx hb hts hi_X7_init_X7 tyX7 tyX7_ok nmX7 hown hw hok11 (wF_7 (S := (sNew S z 8 22)) hok11.2) rfl (fun b hb9 => wF_sR_ne hb9) 0 (wq_7_0 (S := (sNew S z 8 22)) hok11.2 _) rfl (by decide) (hts _ (List.mem_of_getElem? (i := 5) rfl)) (fun _ h9 => h9) rfl hnm rfl (by decide +kernel) rfl rfl (Nat.le_of_ble_eq_true rfl) dX7_init_9 (fun H locs hw => ?_)
    refine lv_aload_n hx hb dX7_init_12 rfl (lv_at hl 0 rfl) ?_
    refine lv_sipush (v := (132 : Int32)) hx hb dX7_init_13 (by decide) ?_
    refine wr_newI (N' := 132) hx hb (hts _ (List.mem_of_getElem? (i := 4) rfl)) hw (by decide) (by decide) (Nat.le_of_ble_eq_true rfl) (Nat.le_of_ble_eq_true rfl) (Nat.le_of_ble_eq_true rfl) dX7_init_16 (fun H hw => ?_)
    obtain ⟨hok13, hg⟩ := gd_some hg
    refine wr_putF (K := RX7) (T := TX7) (N := 20) (index := 13) (ref := "MakerLinesModel") (ty := (.array .int)) (S1 := (sR (sNew (sR (sNew S z 8 22) a0 0 (some z)) ((z + 1)) 8 132) a0 2 (some (z + 1)))) hx hb hts hi_X7_init_X7 tyX7 tyX7_ok nmX7 hown hw hok13 (wF_7 (S := (sNew (sR (sNew S z 8 22) a0 0 (some z)) ((z + 1)) 8 132)) hok13.2) rfl (fun b hb9 => wF_sR_ne hb9) 2 (wq_7_2 (S := (sNew (sR (sNew S z 8 22) a0 0 (some z)) ((z + 1)) 8 132)) hok13.2 _) rfl (by decide) (hts _ (List.mem_of_getElem? (i := 6) rfl)) (fun _ h9 => h9) rfl hnm rfl (by decide +kernel) rfl rfl (Nat.le_of_ble_eq_true rfl) dX7_init_18 (fun H locs hw => ?_)
    obtain ⟨S14, hS14, hg⟩ := bd_some hg
    rw [← hS14] at hw
    have hok15 : ok S14 a0 7 := by rw [hS14]; exact hok13
    refine lv_aload_n hx hb dX7_init_21 rfl (lv_at hl 0 rfl) ?_
    refine lv_bipush (v := (44 : Int32)) hx hb dX7_init_22 (by decide) ?_
    refine wr_newI (N' := 44) hx hb (hts _ (List.mem_of_getElem? (i := 4) rfl)) hw (by decide) (by decide) (Nat.le_of_ble_eq_true rfl) (Nat.le_of_ble_eq_true rfl) (Nat.le_of_ble_eq_true rfl) dX7_init_24 (fun H hw => ?_)
    obtain ⟨hok17, hg⟩ := gd_some hg
    refine wr_putF (K := RX7) (T := TX7) (N := 20) (index := 16) (ref := "MakerLinesModel") (ty := (.array .int)) (S1 := (sR (sNew S14 (((z + 1) + 1)) 8 44) a0 3 (some ((z + 1) + 1)))) hx hb hts hi_X7_init_X7 tyX7 tyX7_ok nmX7 hown hw hok17 (wF_7 (S := (sNew S14 (((z + 1) + 1)) 8 44)) hok17.2) rfl (fun b hb9 => wF_sR_ne hb9) 3 (wq_7_3 (S := (sNew S14 (((z + 1) + 1)) 8 44)) hok17.2 _) rfl (by decide) (hts _ (List.mem_of_getElem? (i := 7) rfl)) (fun _ h9 => h9) rfl hnm rfl (by decide +kernel) rfl rfl (Nat.le_of_ble_eq_true rfl) dX7_init_26 (fun H locs hw => ?_)
    obtain ⟨S18, hS18, hg⟩ := bd_some hg
    rw [← hS18] at hw
    have hok19 : ok S18 a0 7 := by rw [hS18]; exact hok17
    refine lv_aload_n hx hb dX7_init_29 rfl (lv_at hl 0 rfl) ?_
    refine lv_iconst (v := (2 : Int32)) hx hb dX7_init_30 (by decide) ?_
    refine wr_newI (N' := 2) hx hb (hts _ (List.mem_of_getElem? (i := 4) rfl)) hw (by decide) (by decide) (Nat.le_of_ble_eq_true rfl) (Nat.le_of_ble_eq_true rfl) (Nat.le_of_ble_eq_true rfl) dX7_init_31 (fun H hw => ?_)
    obtain ⟨hok21, hg⟩ := gd_some hg
    refine wr_putF (K := RX7) (T := TX7) (N := 20) (index := 19) (ref := "MakerLinesModel") (ty := (.array .int)) (S1 := (sR (sNew S18 ((((z + 1) + 1) + 1)) 8 2) a0 4 (some (((z + 1) + 1) + 1)))) hx hb hts hi_X7_init_X7 tyX7 tyX7_ok nmX7 hown hw hok21 (wF_7 (S := (sNew S18 ((((z + 1) + 1) + 1)) 8 2)) hok21.2) rfl (fun b hb9 => wF_sR_ne hb9) 4 (wq_7_4 (S := (sNew S18 ((((z + 1) + 1) + 1)) 8 2)) hok21.2 _) rfl (by decide) (hts _ (List.mem_of_getElem? (i := 8) rfl)) (fun _ h9 => h9) rfl hnm rfl (by decide +kernel) rfl rfl (Nat.le_of_ble_eq_true rfl) dX7_init_33 (fun H locs hw => ?_)
    obtain ⟨S22, hS22, hg⟩ := bd_some hg
    rw [← hS22] at hw
    have hok23 : ok S22 a0 7 := by rw [hS22]; exact hok21
    refine lv_aload_n hx hb dX7_init_36 rfl (lv_at hl 0 rfl) ?_
    refine lv_bipush (v := (60 : Int32)) hx hb dX7_init_37 (by decide) ?_
    refine wr_newI (N' := 60) hx hb (hts _ (List.mem_of_getElem? (i := 4) rfl)) hw (by decide) (by decide) (Nat.le_of_ble_eq_true rfl) (Nat.le_of_ble_eq_true rfl) (Nat.le_of_ble_eq_true rfl) dX7_init_39 (fun H hw => ?_)
    obtain ⟨hok25, hg⟩ := gd_some hg
    refine wr_putF (K := RX7) (T := TX7) (N := 20) (index := 22) (ref := "MakerLinesModel") (ty := (.array .int)) (S1 := (sR (sNew S22 (((((z + 1) + 1) + 1) + 1)) 8 60) a0 6 (some ((((z + 1) + 1) + 1) + 1)))) hx hb hts hi_X7_init_X7 tyX7 tyX7_ok nmX7 hown hw hok25 (wF_7 (S := (sNew S22 (((((z + 1) + 1) + 1) + 1)) 8 60)) hok25.2) rfl (fun b hb9 => wF_sR_ne hb9) 6 (wq_7_6 (S := (sNew S22 (((((z + 1) + 1) + 1) + 1)) 8 60)) hok25.2 _) rfl (by decide) (hts _ (List.mem_of_getElem? (i := 9) rfl)) (fun _ h9 => h9) rfl hnm rfl (by decide +kernel) rfl rfl (Nat.le_of_ble_eq_true rfl) dX7_init_41 (fun H locs hw => ?_)
    obtain ⟨S26, hS26, hg⟩ := bd_some hg
    rw [← hS26] at hw
    have hok27 : ok S26 a0 7 := by rw [hS26]; exact hok25
    refine lv_aload_n hx hb dX7_init_44 rfl (lv_at hl 0 rfl) ?_
    refine lv_bipush (v := (10 : Int32)) hx hb dX7_init_45 (by decide) ?_
    refine wr_newI (N' := 10) hx hb (hts _ (List.mem_of_getElem? (i := 4) rfl)) hw (by decide) (by decide) (Nat.le_of_ble_eq_true rfl) (Nat.le_of_ble_eq_true rfl) (Nat.le_of_ble_eq_true rfl) dX7_init_47 (fun H hw => ?_)
    obtain ⟨hok29, hg⟩ := gd_some hg
    refine wr_putF (K := RX7) (T := TX7) (N := 20) (index := 25) (ref := "MakerLinesModel") (ty := (.array .int)) (S1 := (sR (sNew S26 ((((((z + 1) + 1) + 1) + 1) + 1)) 8 10) a0 8 (some (((((z + 1) + 1) + 1) + 1) + 1)))) hx hb hts hi_X7_init_X7 tyX7 tyX7_ok nmX7 hown hw hok29 (wF_7 (S := (sNew S26 ((((((z + 1) + 1) + 1) + 1) + 1)) 8 10)) hok29.2) rfl (fun b hb9 => wF_sR_ne hb9) 8 (wq_7_8 (S := (sNew S26 ((((((z + 1) + 1) + 1) + 1) + 1)) 8 10)) hok29.2 _) rfl (by decide) (hts _ (List.mem_of_getElem? (i := 10) rfl)) (fun _ h9 => h9) rfl hnm rfl (by decide +kernel) rfl rfl (Nat.le_of_ble_eq_true rfl) dX7_init_49 (fun H locs hw => ?_)
    obtain ⟨S30, hS30, hg⟩ := bd_some hg
    rw [← hS30] at hw
    have hok31 : ok S30 a0 7 := by rw [hS30]; exact hok29
    refine lv_aload_n hx hb dX7_init_52 rfl (lv_at hl 0 rfl) ?_
    refine lv_bipush (v := (12 : Int32)) hx hb dX7_init_53 (by decide) ?_
    refine wr_newI (N' := 12) hx hb (hts _ (List.mem_of_getElem? (i := 4) rfl)) hw (by decide) (by decide) (Nat.le_of_ble_eq_true rfl) (Nat.le_of_ble_eq_true rfl) (Nat.le_of_ble_eq_true rfl) dX7_init_55 (fun H hw => ?_)
    obtain ⟨hok33, hg⟩ := gd_some hg
    refine wr_putF (K := RX7) (T := TX7) (N := 20) (index := 28) (ref := "MakerLinesModel") (ty := (.array .int)) (S1 := (sR (sNew S30 (((((((z + 1) + 1) + 1) + 1) + 1) + 1)) 8 12) a0 9 (some ((((((z + 1) + 1) + 1) + 1) + 1) + 1)))) hx hb hts hi_X7_init_X7 tyX7 tyX7_ok nmX7 hown hw hok33 (wF_7 (S := (sNew S30 (((((((z + 1) + 1) + 1) + 1) + 1) + 1)) 8 12)) hok33.2) rfl (fun b hb9 => wF_sR_ne hb9) 9 (wq_7_9 (S := (sNew S30 (((((((z + 1) + 1) + 1) + 1) + 1) + 1)) 8 12)) hok33.2 _) rfl (by decide) (hts _ (List.mem_of_getElem? (i := 11) rfl)) (fun _ h9 => h9) rfl hnm rfl (by decide +kernel) rfl rfl (Nat.le_of_ble_eq_true rfl) dX7_init_57 (fun H locs hw => ?_)
    obtain ⟨S34, hS34, hg⟩ := bd_some hg
    rw [← hS34] at hw
    have hok35 : ok S34 a0 7 := by rw [hS34]; exact hok33
    refine lv_aload_n hx hb dX7_init_60 rfl (lv_at hl 0 rfl) ?_
    refine lv_bipush (v := (12 : Int32)) hx hb dX7_init_61 (by decide) ?_
    refine wr_newI (N' := 12) hx hb (hts _ (List.mem_of_getElem? (i := 4) rfl)) hw (by decide) (by decide) (Nat.le_of_ble_eq_true rfl) (Nat.le_of_ble_eq_true rfl) (Nat.le_of_ble_eq_true rfl) dX7_init_63 (fun H hw => ?_)
    obtain ⟨hok37, hg⟩ := gd_some hg
    refine wr_putF (K := RX7) (T := TX7) (N := 20) (index := 31) (ref := "MakerLinesModel") (ty := (.array .int)) (S1 := (sR (sNew S34 ((((((((z + 1) + 1) + 1) + 1) + 1) + 1) + 1)) 8 12) a0 10 (some (((((((z + 1) + 1) + 1) + 1) + 1) + 1) + 1)))) hx hb hts hi_X7_init_X7 tyX7 tyX7_ok nmX7 hown hw hok37 (wF_7 (S := (sNew S34 ((((((((z + 1) + 1) + 1) + 1) + 1) + 1) + 1)) 8 12)) hok37.2) rfl (fun b hb9 => wF_sR_ne hb9) 10 (wq_7_10 (S := (sNew S34 ((((((((z + 1) + 1) + 1) + 1) + 1) + 1) + 1)) 8 12)) hok37.2 _) rfl (by decide) (hts _ (List.mem_of_getElem? (i := 12) rfl)) (fun _ h9 => h9) rfl hnm rfl (by decide +kernel) rfl rfl (Nat.le_of_ble_eq_true rfl) dX7_init_65 (fun H locs hw => ?_)
    obtain ⟨S38, hS38, hg⟩ := bd_some hg
    rw [← hS38] at hw
    have hok39 : ok S38 a0 7 := by rw [hS38]; exact hok37
    refine lv_aload_n hx hb dX7_init_68 rfl (lv_at hl 0 rfl) ?_
    refine lv_bipush (v := (12 : Int32)) hx hb dX7_init_69 (by decide) ?_
    refine wr_newI (N' := 12) hx hb (hts _ (List.mem_of_getElem? (i := 4) rfl)) hw (by decide) (by decide) (Nat.le_of_ble_eq_true rfl) (Nat.le_of_ble_eq_true rfl) (Nat.le_of_ble_eq_true rfl) dX7_init_71 (fun H hw => ?_)
    obtain ⟨hok41, hg⟩ := gd_some hg
    refine wr_putF (K := RX7) (T := TX7) (N := 20) (index := 34) (ref := "MakerLinesModel") (ty := (.array .int)) (S1 := (sR (sNew S38 (((((((((z + 1) + 1) + 1) + 1) + 1) + 1) + 1) + 1)) 8 12) a0 13 (some ((((((((z + 1) + 1) + 1) + 1) + 1) + 1) + 1) + 1)))) hx hb hts hi_X7_init_X7 tyX7 tyX7_ok nmX7 hown hw hok41 (wF_7 (S := (sNew S38 (((((((((z + 1) + 1) + 1) + 1) + 1) + 1) + 1) + 1)) 8 12)) hok41.2) rfl (fun b hb9 => wF_sR_ne hb9) 13 (wq_7_13 (S := (sNew S38 (((((((((z + 1) + 1) + 1) + 1) + 1) + 1) + 1) + 1)) 8 12)) hok41.2 _) rfl (by decide) (hts _ (List.mem_of_getElem? (i := 13) rfl)) (fun _ h9 => h9) rfl hnm rfl (by decide +kernel) rfl rfl (Nat.le_of_ble_eq_true rfl) dX7_init_73 (fun H locs hw => ?_)
    obtain ⟨S42, hS42, hg⟩ := bd_some hg
    rw [← hS42] at hw
    have hok43 : ok S42 a0 7 := by rw [hS42]; exact hok41
    refine lv_aload_n hx hb dX7_init_76 rfl (lv_at hl 0 rfl) ?_
    refine lv_ldc (own := RX7) (index := 37) (v := (118098 : Int32)) hx hb hown (hts _ (List.mem_of_getElem? (i := 14) rfl)) dX7_init_77 ?_
    refine wr_newI (N' := 118098) hx hb (hts _ (List.mem_of_getElem? (i := 4) rfl)) hw (by decide) (by decide) (Nat.le_of_ble_eq_true rfl) (Nat.le_of_ble_eq_true rfl) (Nat.le_of_ble_eq_true rfl) dX7_init_79 (fun H hw => ?_)
    obtain ⟨hok45, hg⟩ := gd_some hg
    refine wr_putF (K := RX7) (T := TX7) (N := 20) (index := 38) (ref := "MakerLinesModel") (ty := (.array .int)) (S1 := (sR (sNew S42 ((((((((((z + 1) + 1) + 1) + 1) + 1) + 1) + 1) + 1) + 1)) 8 118098) a0 14 (some (((((((((z + 1) + 1) + 1) + 1) + 1) + 1) + 1) + 1) + 1)))) hx hb hts hi_X7_init_X7 tyX7 tyX7_ok nmX7 hown hw hok45 (wF_7 (S := (sNew S42 ((((((((((z + 1) + 1) + 1) + 1) + 1) + 1) + 1) + 1) + 1)) 8 118098)) hok45.2) rfl (fun b hb9 => wF_sR_ne hb9) 14 (wq_7_14 (S := (sNew S42 ((((((((((z + 1) + 1) + 1) + 1) + 1) + 1) + 1) + 1) + 1)) 8 118098)) hok45.2 _) rfl (by decide) (hts _ (List.mem_of_getElem? (i := 15) rfl)) (fun _ h9 => h9) rfl hnm rfl (by decide +kernel) rfl rfl (Nat.le_of_ble_eq_true rfl) dX7_init_81 (fun H locs hw => ?_)
    obtain ⟨S46, hS46, hg⟩ := bd_some hg
    rw [← hS46] at hw
    have hok47 : ok S46 a0 7 := by rw [hS46]; exact hok45
    refine lv_aload_n hx hb dX7_init_84 rfl (lv_at hl 0 rfl) ?_
    refine lv_ldc (own := RX7) (index := 37) (v := (118098 : Int32)) hx hb hown (hts _ (List.mem_of_getElem? (i := 14) rfl)) dX7_init_85 ?_
    refine wr_newI (N' := 118098) hx hb (hts _ (List.mem_of_getElem? (i := 4) rfl)) hw (by decide) (by decide) (Nat.le_of_ble_eq_true rfl) (Nat.le_of_ble_eq_true rfl) (Nat.le_of_ble_eq_true rfl) dX7_init_87 (fun H hw => ?_)
    obtain ⟨hok49, hg⟩ := gd_some hg
    refine wr_putF (K := RX7) (T := TX7) (N := 20) (index := 41) (ref := "MakerLinesModel") (ty := (.array .int)) (S1 := (sR (sNew S46 (((((((((((z + 1) + 1) + 1) + 1) + 1) + 1) + 1) + 1) + 1) + 1)) 8 118098) a0 15 (some ((((((((((z + 1) + 1) + 1) + 1) + 1) + 1) + 1) + 1) + 1) + 1)))) hx hb hts hi_X7_init_X7 tyX7 tyX7_ok nmX7 hown hw hok49 (wF_7 (S := (sNew S46 (((((((((((z + 1) + 1) + 1) + 1) + 1) + 1) + 1) + 1) + 1) + 1)) 8 118098)) hok49.2) rfl (fun b hb9 => wF_sR_ne hb9) 15 (wq_7_15 (S := (sNew S46 (((((((((((z + 1) + 1) + 1) + 1) + 1) + 1) + 1) + 1) + 1) + 1)) 8 118098)) hok49.2 _) rfl (by decide) (hts _ (List.mem_of_getElem? (i := 16) rfl)) (fun _ h9 => h9) rfl hnm rfl (by decide +kernel) rfl rfl (Nat.le_of_ble_eq_true rfl) dX7_init_89 (fun H locs hw => ?_)
    obtain ⟨S50, hS50, hg⟩ := bd_some hg
    rw [← hS50] at hw
    have hok51 : ok S50 a0 7 := by rw [hS50]; exact hok49
    refine lv_aload_n hx hb dX7_init_92 rfl (lv_at hl 0 rfl) ?_
    refine lv_bipush (v := (32 : Int32)) hx hb dX7_init_93 (by decide) ?_
    refine wr_newI (N' := 32) hx hb (hts _ (List.mem_of_getElem? (i := 4) rfl)) hw (by decide) (by decide) (Nat.le_of_ble_eq_true rfl) (Nat.le_of_ble_eq_true rfl) (Nat.le_of_ble_eq_true rfl) dX7_init_95 (fun H hw => ?_)
    obtain ⟨hok53, hg⟩ := gd_some hg
    refine wr_putF (K := RX7) (T := TX7) (N := 20) (index := 44) (ref := "MakerLinesModel") (ty := (.array .int)) (S1 := (sR (sNew S50 ((((((((((((z + 1) + 1) + 1) + 1) + 1) + 1) + 1) + 1) + 1) + 1) + 1)) 8 32) a0 16 (some (((((((((((z + 1) + 1) + 1) + 1) + 1) + 1) + 1) + 1) + 1) + 1) + 1)))) hx hb hts hi_X7_init_X7 tyX7 tyX7_ok nmX7 hown hw hok53 (wF_7 (S := (sNew S50 ((((((((((((z + 1) + 1) + 1) + 1) + 1) + 1) + 1) + 1) + 1) + 1) + 1)) 8 32)) hok53.2) rfl (fun b hb9 => wF_sR_ne hb9) 16 (wq_7_16 (S := (sNew S50 ((((((((((((z + 1) + 1) + 1) + 1) + 1) + 1) + 1) + 1) + 1) + 1) + 1)) 8 32)) hok53.2 _) rfl (by decide) (hts _ (List.mem_of_getElem? (i := 17) rfl)) (fun _ h9 => h9) rfl hnm rfl (by decide +kernel) rfl rfl (Nat.le_of_ble_eq_true rfl) dX7_init_97 (fun H locs hw => ?_)
    obtain ⟨S54, hS54, hg⟩ := bd_some hg
    rw [← hS54] at hw
    have hok55 : ok S54 a0 7 := by rw [hS54]; exact hok53
    refine lv_aload_n hx hb dX7_init_100 rfl (lv_at hl 0 rfl) ?_
    refine lv_bipush (v := (22 : Int32)) hx hb dX7_init_101 (by decide) ?_
    refine wr_newI (N' := 22) hx hb (hts _ (List.mem_of_getElem? (i := 4) rfl)) hw (by decide) (by decide) (Nat.le_of_ble_eq_true rfl) (Nat.le_of_ble_eq_true rfl) (Nat.le_of_ble_eq_true rfl) dX7_init_103 (fun H hw => ?_)
    obtain ⟨hok57, hg⟩ := gd_some hg
    refine wr_putF (K := RX7) (T := TX7) (N := 20) (index := 47) (ref := "MakerLinesModel") (ty := (.array .int)) (S1 := (sR (sNew S54 (((((((((((((z + 1) + 1) + 1) + 1) + 1) + 1) + 1) + 1) + 1) + 1) + 1) + 1)) 8 22) a0 18 (some ((((((((((((z + 1) + 1) + 1) + 1) + 1) + 1) + 1) + 1) + 1) + 1) + 1) + 1)))) hx hb hts hi_X7_init_X7 tyX7 tyX7_ok nmX7 hown hw hok57 (wF_7 (S := (sNew S54 (((((((((((((z + 1) + 1) + 1) + 1) + 1) + 1) + 1) + 1) + 1) + 1) + 1) + 1)) 8 22)) hok57.2) rfl (fun b hb9 => wF_sR_ne hb9) 18 (wq_7_18 (S := (sNew S54 (((((((((((((z + 1) + 1) + 1) + 1) + 1) + 1) + 1) + 1) + 1) + 1) + 1) + 1)) 8 22)) hok57.2 _) rfl (by decide) (hts _ (List.mem_of_getElem? (i := 18) rfl)) (fun _ h9 => h9) rfl hnm rfl (by decide +kernel) rfl rfl (Nat.le_of_ble_eq_true rfl) dX7_init_105 (fun H locs hw => ?_)
    obtain ⟨S58, hS58, hg⟩ := bd_some hg
    rw [← hS58] at hw
    have hok59 : ok S58 a0 7 := by rw [hS58]; exact hok57
    refine lv_aload_n hx hb dX7_init_108 rfl (lv_at hl 0 rfl) ?_
    obtain ⟨r60, hr60, hg⟩ := nn_some hg
    refine wr_get (K := RX7) (T := TX7) (N := 20) (index := 7) (ref := "MakerLinesModel") (v := .ref r60) hx hb hts hi_X7_init_X7 hown hw hok59 (wF_7 (S := S58) hok59.2) rfl 0 (by decide) (hts _ (List.mem_of_getElem? (i := 5) rfl)) (fun _ h9 => h9) (congrArg (fun o => some (va_rf o)) hr60) dX7_init_109 ?_
    refine lv_iconst (v := (0 : Int32)) hx hb dX7_init_112 (by decide) ?_
    refine lv_bipush (v := (9 : Int32)) hx hb dX7_init_113 (by decide) ?_
    obtain ⟨hok61, hg⟩ := gd_some hg
    obtain ⟨hin62, hg⟩ := gd_some hg
    refine wr_iast hx hb hw hok61 (inb_vp hin62) dX7_init_115 (fun H locs hw => ?_)
    obtain ⟨S63, hS63, hg⟩ := bd_some hg
    rw [← hS63] at hw
    have hok64 : ok S63 a0 7 := by rw [hS63]; exact hok59
    have hr65 : hR S63 a0 0 = some r60 := by rw [hS63]; exact hr60
    have hok66 : ok S63 r60 8 := by rw [hS63]; exact hok61
    have hin67 : inb (0 : Int32) (hN S63 r60) := by rw [hS63]; exact hin62
    refine lv_aload_n hx hb dX7_init_116 rfl (lv_at hl 0 rfl) ?_
    refine wr_get (K := RX7) (T := TX7) (N := 20) (index := 7) (ref := "MakerLinesModel") (v := .ref r60) hx hb hts hi_X7_init_X7 hown hw hok64 (wF_7 (S := S63) hok64.2) rfl 0 (by decide) (hts _ (List.mem_of_getElem? (i := 5) rfl)) (fun _ h9 => h9) (congrArg (fun o => some (va_rf o)) hr65) dX7_init_117 ?_
    refine lv_iconst (v := (1 : Int32)) hx hb dX7_init_120 (by decide) ?_
    refine lv_iconst (v := (1 : Int32)) hx hb dX7_init_121 (by decide) ?_
    obtain ⟨hin68, hg⟩ := gd_some hg
    refine wr_iast hx hb hw hok66 (inb_vp hin68) dX7_init_122 (fun H locs hw => ?_)
    obtain ⟨S69, hS69, hg⟩ := bd_some hg
    rw [← hS69] at hw
    have hok70 : ok S69 a0 7 := by rw [hS69]; exact hok64
    have hr71 : hR S69 a0 0 = some r60 := by rw [hS69]; exact hr65
    have hok72 : ok S69 r60 8 := by rw [hS69]; exact hok66
    have hin73 : inb (0 : Int32) (hN S69 r60) := by rw [hS69]; exact hin67
    have hin74 : inb (1 : Int32) (hN S69 r60) := by rw [hS69]; exact hin68
    refine lv_aload_n hx hb dX7_init_123 rfl (lv_at hl 0 rfl) ?_
    refine wr_get (K := RX7) (T := TX7) (N := 20) (index := 7) (ref := "MakerLinesModel") (v := .ref r60) hx hb hts hi_X7_init_X7 hown hw hok70 (wF_7 (S := S69) hok70.2) rfl 0 (by decide) (hts _ (List.mem_of_getElem? (i := 5) rfl)) (fun _ h9 => h9) (congrArg (fun o => some (va_rf o)) hr71) dX7_init_124 ?_
    refine lv_iconst (v := (5 : Int32)) hx hb dX7_init_127 (by decide) ?_
    refine lv_iconst (v := (-1 : Int32)) hx hb dX7_init_128 (by decide) ?_
    obtain ⟨hin75, hg⟩ := gd_some hg
    refine wr_iast hx hb hw hok72 (inb_vp hin75) dX7_init_129 (fun H locs hw => ?_)
    obtain ⟨S76, hS76, hg⟩ := bd_some hg
    rw [← hS76] at hw
    have hok77 : ok S76 a0 7 := by rw [hS76]; exact hok70
    have hr78 : hR S76 a0 0 = some r60 := by rw [hS76]; exact hr71
    have hok79 : ok S76 r60 8 := by rw [hS76]; exact hok72
    have hin80 : inb (0 : Int32) (hN S76 r60) := by rw [hS76]; exact hin73
    have hin81 : inb (1 : Int32) (hN S76 r60) := by rw [hS76]; exact hin74
    have hin82 : inb (5 : Int32) (hN S76 r60) := by rw [hS76]; exact hin75
    refine lv_aload_n hx hb dX7_init_130 rfl (lv_at hl 0 rfl) ?_
    refine wr_get (K := RX7) (T := TX7) (N := 20) (index := 7) (ref := "MakerLinesModel") (v := .ref r60) hx hb hts hi_X7_init_X7 hown hw hok77 (wF_7 (S := S76) hok77.2) rfl 0 (by decide) (hts _ (List.mem_of_getElem? (i := 5) rfl)) (fun _ h9 => h9) (congrArg (fun o => some (va_rf o)) hr78) dX7_init_131 ?_
    refine lv_bipush (v := (6 : Int32)) hx hb dX7_init_134 (by decide) ?_
    refine lv_iconst (v := (-1 : Int32)) hx hb dX7_init_136 (by decide) ?_
    obtain ⟨hin83, hg⟩ := gd_some hg
    refine wr_iast hx hb hw hok79 (inb_vp hin83) dX7_init_137 (fun H locs hw => ?_)
    obtain ⟨S84, hS84, hg⟩ := bd_some hg
    rw [← hS84] at hw
    have hok85 : ok S84 a0 7 := by rw [hS84]; exact hok77
    have hr86 : hR S84 a0 0 = some r60 := by rw [hS84]; exact hr78
    have hok87 : ok S84 r60 8 := by rw [hS84]; exact hok79
    have hin88 : inb (0 : Int32) (hN S84 r60) := by rw [hS84]; exact hin80
    have hin89 : inb (1 : Int32) (hN S84 r60) := by rw [hS84]; exact hin81
    have hin90 : inb (5 : Int32) (hN S84 r60) := by rw [hS84]; exact hin82
    have hin91 : inb (6 : Int32) (hN S84 r60) := by rw [hS84]; exact hin83
    cases hg
    refine W.widen (k := 13) (n := 236556) (Nat.le_of_ble_eq_true rfl) (Nat.le_of_ble_eq_true rfl) ?_
    exact wr_vret hx hb hr hw dX7_init_138 hlk
  exact B0 S0 z0 _ _ _ hg hw hl
theorem hi_X7_thrown_X7 : ∀ w ∈ wsX70, w ∈ wsX7_thrown := fun _ h => List.mem_cons_of_mem _ (List.mem_append_right _ (h))
abbrev rm_X7_thrown : Room := { frames := 0, cells := 0, slots := 0, locals := 0 }
set_option maxHeartbeats 4000000 in
set_option maxRecDepth 100000 in
theorem c_X7_thrown (l : Launch) (D : va_G) (C : C3) (N : Nat) (S0 : Hp) (z : Nat) (a0 : Nat) (r : Int32) (S9 : Hp) (hg : f_X7_thrown N S0 a0 = some (r, S9)) : MetI l yX7_thrown wsX7_thrown rm_X7_thrown D C S0 z [.ref a0] r S9 z 0 0 := by
  refine mw_ofW (cc := cX7_thrown) (maxL := 1) (ret := (some .int)) (lv := [(0, .ref a0)]) (by decide) rfl (Nat.le_of_ble_eq_true rfl) rfl ?_
  intro p e s m below meth c ls hx hb hr hts hown hlk hml hnm hl hw
  have hown : s.vm.findClass RX7 = some m.cls := hown
  have B0 : ∀ (S : Hp) (H : Heap) (locs : List Loc) (ls : Array Slot), f_X7_thrown N S a0 = some (r, S9) → Wd D C (va_A (wP C S0) z) s.heap S z H locs s → lv_has ls 1 [(0, .ref a0)] → W p l e rm_X7_thrown s m ([.ref a0] : List Value).toArray below meth c H locs 0 0 (MQ below (QiW D C S0 z r S9 z) ([.ref a0] : List Value).toArray s 0 0 (va_A (wP C S0) z)) (F0 m 0 ls []) := by
    intro S H locs ls hg hw hl
    unfold f_X7_thrown at hg
    refine lv_aload_n hx hb dX7_thrown_0 rfl (lv_at hl 0 rfl) ?_
    obtain ⟨hok10, hg⟩ := gd_some hg
    refine wr_get (K := RX7) (T := TX7) (N := 20) (index := 50) (ref := "MakerLinesModel") (v := .int (hI S a0 7)) hx hb hts hi_X7_thrown_X7 hown hw hok10 (wF_7 (S := S) hok10.2) rfl 7 (by decide) (hts _ (List.mem_of_getElem? (i := 1) rfl)) (fun _ h9 => h9) rfl dX7_thrown_1 ?_
    cases hg
    exact wr_iret hx hb hr hw dX7_thrown_4 hlk
  exact B0 S0 _ _ _ hg hw hl
abbrev rm_X7_within : Room := { frames := 0, cells := 0, slots := 0, locals := 0 }
set_option maxHeartbeats 4000000 in
set_option maxRecDepth 100000 in
theorem c_X7_within (l : Launch) (D : va_G) (C : C3) (N : Nat) (S0 : Hp) (z : Nat) (x0 : Int32) (x1 : Int32) (x2 : Int32) (r : Int32) (S9 : Hp) (hg : f_X7_within N S0 x0 x1 x2 = some (r, S9)) : MetI l yX7_within wsX7_within rm_X7_within D C S0 z [.int x0, .int x1, .int x2] r S9 z 0 0 := by
  refine mw_ofW (cc := cX7_within) (maxL := 3) (ret := (some .boolean)) (lv := [(0, .int x0), (1, .int x1), (2, .int x2)]) (by decide) rfl (Nat.le_of_ble_eq_true rfl) rfl ?_
  intro p e s m below meth c ls hx hb hr hts hown hlk hml hnm hl hw
  have hown : s.vm.findClass RX7 = some m.cls := hown
  have B0 : ∀ (S : Hp) (H : Heap) (locs : List Loc) (ls : Array Slot), f_X7_within N S x0 x1 x2 = some (r, S9) → Wd D C (va_A (wP C S0) z) s.heap S z H locs s → lv_has ls 3 [(0, .int x0), (1, .int x1), (2, .int x2)] → W p l e rm_X7_within s m ([.int x0, .int x1, .int x2] : List Value).toArray below meth c H locs 0 0 (MQ below (QiW D C S0 z r S9 z) ([.int x0, .int x1, .int x2] : List Value).toArray s 0 0 (va_A (wP C S0) z)) (F0 m 0 ls []) := by
    intro S H locs ls hg hw hl
    unfold f_X7_within at hg
    refine lv_iload_n hx hb dX7_within_0 rfl (lv_at hl 0 rfl) ?_
    refine lv_iload_n hx hb dX7_within_1 rfl (lv_at hl 1 rfl) ?_
    refine lv_icmp_lt (tgt := 14) hx hb dX7_within_2 (by decide) (fun c10 => ?_) (fun c10 => ?_)
    · have hg := it_pos hg c10
      refine lv_iconst (v := (0 : Int32)) hx hb dX7_within_14 (by decide) ?_
      cases hg
      exact wr_zret hx hb hr (by decide) hw dX7_within_15 hlk
    · have hg := it_neg hg c10
      refine lv_iload_n hx hb dX7_within_5 rfl (lv_at hl 0 rfl) ?_
      refine lv_iload_n hx hb dX7_within_6 rfl (lv_at hl 2 rfl) ?_
      refine lv_icmp_gt (tgt := 14) hx hb dX7_within_7 (by decide) (fun c11 => ?_) (fun c11 => ?_)
      · have hg := it_pos hg c11
        refine lv_iconst (v := (0 : Int32)) hx hb dX7_within_14 (by decide) ?_
        cases hg
        exact wr_zret hx hb hr (by decide) hw dX7_within_15 hlk
      · have hg := it_neg hg c11
        refine lv_iconst (v := (1 : Int32)) hx hb dX7_within_10 (by decide) ?_
        refine lv_goto (tgt := 15) hx hb dX7_within_11 (by decide) ?_
        cases hg
        exact wr_zret hx hb hr (by decide) hw dX7_within_15 hlk
  exact B0 S0 _ _ _ hg hw hl
theorem hi_X7_save_X7 : ∀ w ∈ wsX70, w ∈ wsX7_save := fun _ h => List.mem_cons_of_mem _ (List.mem_append_right _ (h))
abbrev rm_X7_save : Room := { frames := 0, cells := 0, slots := 0, locals := 0 }
set_option maxHeartbeats 4000000 in
set_option maxRecDepth 100000 in
theorem c_X7_save (l : Launch) (D : va_G) (C : C3) (N : Nat) (S0 : Hp) (z : Nat) (a0 : Nat) (r : Unit) (S9 : Hp) (hg : f_X7_save N S0 a0 = some (r, S9)) : MetV l yX7_save wsX7_save rm_X7_save D C S0 z [.ref a0] r S9 z 0 0 := by
  refine mw_ofW (cc := cX7_save) (maxL := 2) (ret := none) (lv := [(0, .ref a0)]) (by decide) rfl (Nat.le_of_ble_eq_true rfl) rfl ?_
  intro p e s m below meth c ls hx hb hr hts hown hlk hml hnm hl hw
  have hown : s.vm.findClass RX7 = some m.cls := hown
  have B52 : ∀ (K52 : Hp → Int32 → Option (Unit × Hp)) (hK52 : ∀ (S : Hp) (v1 : Int32) (H : Heap) (locs : List Loc) (ls : Array Slot), K52 S v1 = some (r, S9) → Wd D C (va_A (wP C S0) z) s.heap S z H locs s → lv_has ls 2 [(0, .ref a0), (1, .int v1)] → W p l e rm_X7_save s m ([.ref a0] : List Value).toArray below meth c H locs 0 0 (MQ below (QvW D C S0 z r S9 z) ([.ref a0] : List Value).toArray s 0 0 (va_A (wP C S0) z)) (F0 m 52 ls [])) (S : Hp) (v1 : Int32) (H : Heap) (locs : List Loc) (ls : Array Slot), f_X7_save_b52 N a0 K52 S v1 = some (r, S9) → Wd D C (va_A (wP C S0) z) s.heap S z H locs s → lv_has ls 2 [(0, .ref a0), (1, .int v1)] → W p l e rm_X7_save s m ([.ref a0] : List Value).toArray below meth c H locs 0 0 (MQ below (QvW D C S0 z r S9 z) ([.ref a0] : List Value).toArray s 0 0 (va_A (wP C S0) z)) (F0 m 52 ls []) := by
    intro K52 hK52 S v1 H locs ls hg hw hl
    unfold f_X7_save_b52 at hg
    refine lv_iload_n hx hb dX7_save_52 rfl (lv_at hl 1 rfl) ?_
    refine lv_bipush (v := (22 : Int32)) hx hb dX7_save_53 (by decide) ?_
    refine lv_icmp_ge (tgt := 84) hx hb dX7_save_55 (by decide) (fun c12 => ?_) (fun c12 => ?_)
    · have hg := it_pos hg c12
      refine lv_aload_n hx hb dX7_save_84 rfl (lv_at hl 0 rfl) ?_
      refine lv_dup hx hb dX7_save_85 rfl ?_
      obtain ⟨hok13, hg⟩ := gd_some hg
      refine wr_get (K := RX7) (T := TX7) (N := 20) (index := 54) (ref := "MakerLinesModel") (v := .int (hI S a0 1)) hx hb hts hi_X7_save_X7 hown hw hok13 (wF_7 (S := S) hok13.2) rfl 1 (by decide) (hts _ (List.mem_of_getElem? (i := 1) rfl)) (fun _ h9 => h9) rfl dX7_save_86 ?_
      refine lv_iconst (v := (1 : Int32)) hx hb dX7_save_89 (by decide) ?_
      refine lv_iadd hx hb dX7_save_90 ?_
      refine wr_put (K := RX7) (T := TX7) (N := 20) (index := 54) (ref := "MakerLinesModel") (ty := (.int)) (S1 := (sI S a0 1 ((hI S a0 1) + (1 : Int32)))) hx hb hts hi_X7_save_X7 tyX7 tyX7_ok nmX7 hown hw hok13 (wF_7 (S := S) hok13.2) rfl (fun b hb9 => wF_sI_ne hb9) 1 (wq_7_1 (S := S) hok13.2 _) rfl (by decide) (hts _ (List.mem_of_getElem? (i := 1) rfl)) (fun _ h9 => h9) rfl (by decide +kernel) rfl rfl (Nat.le_of_ble_eq_true rfl) dX7_save_91 (fun H locs hw => ?_)
      cases hg
      exact wr_vret hx hb hr hw dX7_save_94 hlk
    · have hg := it_neg hg c12
      refine lv_aload_n hx hb dX7_save_58 rfl (lv_at hl 0 rfl) ?_
      obtain ⟨hok14, hg⟩ := gd_some hg
      obtain ⟨r15, hr15, hg⟩ := nn_some hg
      refine wr_get (K := RX7) (T := TX7) (N := 20) (index := 13) (ref := "MakerLinesModel") (v := .ref r15) hx hb hts hi_X7_save_X7 hown hw hok14 (wF_7 (S := S) hok14.2) rfl 2 (by decide) (hts _ (List.mem_of_getElem? (i := 2) rfl)) (fun _ h9 => h9) (congrArg (fun o => some (va_rf o)) hr15) dX7_save_59 ?_
      refine lv_bipush (v := (22 : Int32)) hx hb dX7_save_62 (by decide) ?_
      refine lv_aload_n hx hb dX7_save_64 rfl (lv_at hl 0 rfl) ?_
      refine wr_get (K := RX7) (T := TX7) (N := 20) (index := 54) (ref := "MakerLinesModel") (v := .int (hI S a0 1)) hx hb hts hi_X7_save_X7 hown hw hok14 (wF_7 (S := S) hok14.2) rfl 1 (by decide) (hts _ (List.mem_of_getElem? (i := 1) rfl)) (fun _ h9 => h9) rfl dX7_save_65 ?_
      refine lv_imul hx hb dX7_save_68 ?_
      refine lv_iload_n hx hb dX7_save_69 rfl (lv_at hl 1 rfl) ?_
      refine lv_iadd hx hb dX7_save_70 ?_
      refine lv_aload_n hx hb dX7_save_71 rfl (lv_at hl 0 rfl) ?_
      obtain ⟨r16, hr16, hg⟩ := nn_some hg
      refine wr_get (K := RX7) (T := TX7) (N := 20) (index := 7) (ref := "MakerLinesModel") (v := .ref r16) hx hb hts hi_X7_save_X7 hown hw hok14 (wF_7 (S := S) hok14.2) rfl 0 (by decide) (hts _ (List.mem_of_getElem? (i := 3) rfl)) (fun _ h9 => h9) (congrArg (fun o => some (va_rf o)) hr16) dX7_save_72 ?_
      refine lv_iload_n hx hb dX7_save_75 rfl (lv_at hl 1 rfl) ?_
      obtain ⟨hok17, hg⟩ := gd_some hg
      obtain ⟨hin18, hg⟩ := gd_some hg
      refine wr_iald hx hb hw hok17 (inb_vp hin18) dX7_save_76 ?_
      obtain ⟨hok19, hg⟩ := gd_some hg
      obtain ⟨hin20, hg⟩ := gd_some hg
      refine wr_iast hx hb hw hok19 (inb_vp hin20) dX7_save_77 (fun H locs hw => ?_)
      obtain ⟨S21, hS21, hg⟩ := bd_some hg
      rw [← hS21] at hw
      have hok22 : ok S21 a0 7 := by rw [hS21]; exact hok14
      have hr23 : hR S21 a0 2 = some r15 := by rw [hS21]; exact hr15
      have hr24 : hR S21 a0 0 = some r16 := by rw [hS21]; exact hr16
      have hok25 : ok S21 r16 8 := by rw [hS21]; exact hok17
      have hin26 : inb v1 (hN S21 r16) := by rw [hS21]; exact hin18
      have hok27 : ok S21 r15 8 := by rw [hS21]; exact hok19
      have hin28 : inb (((22 : Int32) * (hI S a0 1)) + v1) (hN S21 r15) := by rw [hS21]; exact hin20
      refine lv_iinc (v := (v1 + (1 : Int32))) (lv' := [(1, .int (v1 + (1 : Int32))), (0, .ref a0)]) hx hb dX7_save_78 hl (k := 1) rfl rfl (by decide) rfl (fun ls hl => ?_)
      refine lv_goto (tgt := 52) hx hb dX7_save_81 (by decide) ?_
      exact hK52 _ _ _ _ _ hg hw (lv_sub hl [1, 0] rfl)
  have L52 : ∀ (k : Nat) (S : Hp) (v1 : Int32) (H : Heap) (locs : List Loc) (ls : Array Slot), f_X7_save_l52 N a0 k S v1 = some (r, S9) → Wd D C (va_A (wP C S0) z) s.heap S z H locs s → lv_has ls 2 [(0, .ref a0), (1, .int v1)] → W p l e rm_X7_save s m ([.ref a0] : List Value).toArray below meth c H locs 0 0 (MQ below (QvW D C S0 z r S9 z) ([.ref a0] : List Value).toArray s 0 0 (va_A (wP C S0) z)) (F0 m 52 ls []) := by
    intro k
    induction k with
    | zero => intro S v1 H locs ls hg hw hl; exact absurd (show (none : Option (Unit × Hp)) = some (r, S9) from hg) (by simp)
    | succ k ih => intro S v1 H locs ls hg hw hl; exact B52 (f_X7_save_l52 N a0 k) ih S v1 H locs ls hg hw hl
  have B12 : ∀ (K12 : Hp → Int32 → Option (Unit × Hp)) (hK12 : ∀ (S : Hp) (v1 : Int32) (H : Heap) (locs : List Loc) (ls : Array Slot), K12 S v1 = some (r, S9) → Wd D C (va_A (wP C S0) z) s.heap S z H locs s → lv_has ls 2 [(0, .ref a0), (1, .int v1)] → W p l e rm_X7_save s m ([.ref a0] : List Value).toArray below meth c H locs 0 0 (MQ below (QvW D C S0 z r S9 z) ([.ref a0] : List Value).toArray s 0 0 (va_A (wP C S0) z)) (F0 m 12 ls [])) (S : Hp) (v1 : Int32) (H : Heap) (locs : List Loc) (ls : Array Slot), f_X7_save_b12 N a0 K12 S v1 = some (r, S9) → Wd D C (va_A (wP C S0) z) s.heap S z H locs s → lv_has ls 2 [(0, .ref a0), (1, .int v1)] → W p l e rm_X7_save s m ([.ref a0] : List Value).toArray below meth c H locs 0 0 (MQ below (QvW D C S0 z r S9 z) ([.ref a0] : List Value).toArray s 0 0 (va_A (wP C S0) z)) (F0 m 12 ls []) := by
    intro K12 hK12 S v1 H locs ls hg hw hl
    unfold f_X7_save_b12 at hg
    refine lv_iload_n hx hb dX7_save_12 rfl (lv_at hl 1 rfl) ?_
    refine lv_sipush (v := (132 : Int32)) hx hb dX7_save_13 (by decide) ?_
    refine lv_icmp_ge (tgt := 40) hx hb dX7_save_16 (by decide) (fun c29 => ?_) (fun c29 => ?_)
    · have hg := it_pos hg c29
      refine lv_aload_n hx hb dX7_save_40 rfl (lv_at hl 0 rfl) ?_
      refine lv_dup hx hb dX7_save_41 rfl ?_
      obtain ⟨hok30, hg⟩ := gd_some hg
      refine wr_get (K := RX7) (T := TX7) (N := 20) (index := 54) (ref := "MakerLinesModel") (v := .int (hI S a0 1)) hx hb hts hi_X7_save_X7 hown hw hok30 (wF_7 (S := S) hok30.2) rfl 1 (by decide) (hts _ (List.mem_of_getElem? (i := 1) rfl)) (fun _ h9 => h9) rfl dX7_save_42 ?_
      refine lv_iconst (v := (1 : Int32)) hx hb dX7_save_45 (by decide) ?_
      refine lv_isub hx hb dX7_save_46 ?_
      refine wr_put (K := RX7) (T := TX7) (N := 20) (index := 54) (ref := "MakerLinesModel") (ty := (.int)) (S1 := (sI S a0 1 ((hI S a0 1) - (1 : Int32)))) hx hb hts hi_X7_save_X7 tyX7 tyX7_ok nmX7 hown hw hok30 (wF_7 (S := S) hok30.2) rfl (fun b hb9 => wF_sI_ne hb9) 1 (wq_7_1 (S := S) hok30.2 _) rfl (by decide) (hts _ (List.mem_of_getElem? (i := 1) rfl)) (fun _ h9 => h9) rfl (by decide +kernel) rfl rfl (Nat.le_of_ble_eq_true rfl) dX7_save_47 (fun H locs hw => ?_)
      refine lv_iconst (v := (0 : Int32)) hx hb dX7_save_50 (by decide) ?_
      refine lv_istore_n (lv' := [(1, .int (0 : Int32)), (0, .ref a0)]) hx hb dX7_save_51 rfl hl (by decide) rfl (fun ls hl => ?_)
      exact L52 N _ _ _ _ _ hg hw (lv_sub hl [1, 0] rfl)
    · have hg := it_neg hg c29
      refine lv_aload_n hx hb dX7_save_19 rfl (lv_at hl 0 rfl) ?_
      obtain ⟨hok31, hg⟩ := gd_some hg
      obtain ⟨r32, hr32, hg⟩ := nn_some hg
      refine wr_get (K := RX7) (T := TX7) (N := 20) (index := 13) (ref := "MakerLinesModel") (v := .ref r32) hx hb hts hi_X7_save_X7 hown hw hok31 (wF_7 (S := S) hok31.2) rfl 2 (by decide) (hts _ (List.mem_of_getElem? (i := 2) rfl)) (fun _ h9 => h9) (congrArg (fun o => some (va_rf o)) hr32) dX7_save_20 ?_
      refine lv_iload_n hx hb dX7_save_23 rfl (lv_at hl 1 rfl) ?_
      refine lv_bipush (v := (22 : Int32)) hx hb dX7_save_24 (by decide) ?_
      refine lv_isub hx hb dX7_save_26 ?_
      refine lv_aload_n hx hb dX7_save_27 rfl (lv_at hl 0 rfl) ?_
      refine wr_get (K := RX7) (T := TX7) (N := 20) (index := 13) (ref := "MakerLinesModel") (v := .ref r32) hx hb hts hi_X7_save_X7 hown hw hok31 (wF_7 (S := S) hok31.2) rfl 2 (by decide) (hts _ (List.mem_of_getElem? (i := 2) rfl)) (fun _ h9 => h9) (congrArg (fun o => some (va_rf o)) hr32) dX7_save_28 ?_
      refine lv_iload_n hx hb dX7_save_31 rfl (lv_at hl 1 rfl) ?_
      obtain ⟨hok33, hg⟩ := gd_some hg
      obtain ⟨hin34, hg⟩ := gd_some hg
      refine wr_iald hx hb hw hok33 (inb_vp hin34) dX7_save_32 ?_
      obtain ⟨hin35, hg⟩ := gd_some hg
      refine wr_iast hx hb hw hok33 (inb_vp hin35) dX7_save_33 (fun H locs hw => ?_)
      obtain ⟨S36, hS36, hg⟩ := bd_some hg
      rw [← hS36] at hw
      have hok37 : ok S36 a0 7 := by rw [hS36]; exact hok31
      have hr38 : hR S36 a0 2 = some r32 := by rw [hS36]; exact hr32
      have hok39 : ok S36 r32 8 := by rw [hS36]; exact hok33
      have hin40 : inb v1 (hN S36 r32) := by rw [hS36]; exact hin34
      have hin41 : inb (v1 - (22 : Int32)) (hN S36 r32) := by rw [hS36]; exact hin35
      refine lv_iinc (v := (v1 + (1 : Int32))) (lv' := [(1, .int (v1 + (1 : Int32))), (0, .ref a0)]) hx hb dX7_save_34 hl (k := 1) rfl rfl (by decide) rfl (fun ls hl => ?_)
      refine lv_goto (tgt := 12) hx hb dX7_save_37 (by decide) ?_
      exact hK12 _ _ _ _ _ hg hw (lv_sub hl [1, 0] rfl)
  have L12 : ∀ (k : Nat) (S : Hp) (v1 : Int32) (H : Heap) (locs : List Loc) (ls : Array Slot), f_X7_save_l12 N a0 k S v1 = some (r, S9) → Wd D C (va_A (wP C S0) z) s.heap S z H locs s → lv_has ls 2 [(0, .ref a0), (1, .int v1)] → W p l e rm_X7_save s m ([.ref a0] : List Value).toArray below meth c H locs 0 0 (MQ below (QvW D C S0 z r S9 z) ([.ref a0] : List Value).toArray s 0 0 (va_A (wP C S0) z)) (F0 m 12 ls []) := by
    intro k
    induction k with
    | zero => intro S v1 H locs ls hg hw hl; exact absurd (show (none : Option (Unit × Hp)) = some (r, S9) from hg) (by simp)
    | succ k ih => intro S v1 H locs ls hg hw hl; exact B12 (f_X7_save_l12 N a0 k) ih S v1 H locs ls hg hw hl
  have B0 : ∀ (S : Hp) (H : Heap) (locs : List Loc) (ls : Array Slot), f_X7_save N S a0 = some (r, S9) → Wd D C (va_A (wP C S0) z) s.heap S z H locs s → lv_has ls 2 [(0, .ref a0)] → W p l e rm_X7_save s m ([.ref a0] : List Value).toArray below meth c H locs 0 0 (MQ below (QvW D C S0 z r S9 z) ([.ref a0] : List Value).toArray s 0 0 (va_A (wP C S0) z)) (F0 m 0 ls []) := by
    intro S H locs ls hg hw hl
    unfold f_X7_save at hg
    refine lv_aload_n hx hb dX7_save_0 rfl (lv_at hl 0 rfl) ?_
    obtain ⟨hok10, hg⟩ := gd_some hg
    refine wr_get (K := RX7) (T := TX7) (N := 20) (index := 54) (ref := "MakerLinesModel") (v := .int (hI S a0 1)) hx hb hts hi_X7_save_X7 hown hw hok10 (wF_7 (S := S) hok10.2) rfl 1 (by decide) (hts _ (List.mem_of_getElem? (i := 1) rfl)) (fun _ h9 => h9) rfl dX7_save_1 ?_
    refine lv_bipush (v := (6 : Int32)) hx hb dX7_save_4 (by decide) ?_
    refine lv_icmp_ne (tgt := 50) hx hb dX7_save_6 (by decide) (fun c11 => ?_) (fun c11 => ?_)
    · have hg := it_neg hg c11
      refine lv_iconst (v := (0 : Int32)) hx hb dX7_save_50 (by decide) ?_
      refine lv_istore_n (lv' := [(1, .int (0 : Int32)), (0, .ref a0)]) hx hb dX7_save_51 rfl hl (by decide) rfl (fun ls hl => ?_)
      exact L52 N _ _ _ _ _ hg hw (lv_sub hl [1, 0] rfl)
    · have hg := it_pos hg c11
      refine lv_bipush (v := (22 : Int32)) hx hb dX7_save_9 (by decide) ?_
      refine lv_istore_n (lv' := [(1, .int (22 : Int32)), (0, .ref a0)]) hx hb dX7_save_11 rfl hl (by decide) rfl (fun ls hl => ?_)
      exact L12 N _ _ _ _ _ hg hw (lv_sub hl [1, 0] rfl)
  exact B0 S0 _ _ _ hg hw hl
abbrev rm_X7_has : Room := { frames := 0, cells := 0, slots := 0, locals := 0 }
set_option maxHeartbeats 4000000 in
set_option maxRecDepth 100000 in
theorem c_X7_has (l : Launch) (D : va_G) (C : C3) (N : Nat) (S0 : Hp) (z : Nat) (x0 : Int32) (x1 : Int32) (r : Int32) (S9 : Hp) (hg : f_X7_has N S0 x0 x1 = some (r, S9)) : MetI l yX7_has wsX7_has rm_X7_has D C S0 z [.int x0, .int x1] r S9 z 0 0 := by
  refine mw_ofW (cc := cX7_has) (maxL := 2) (ret := (some .boolean)) (lv := [(0, .int x0), (1, .int x1)]) (by decide) rfl (Nat.le_of_ble_eq_true rfl) rfl ?_
  intro p e s m below meth c ls hx hb hr hts hown hlk hml hnm hl hw
  have hown : s.vm.findClass RX7 = some m.cls := hown
  have B0 : ∀ (S : Hp) (H : Heap) (locs : List Loc) (ls : Array Slot), f_X7_has N S x0 x1 = some (r, S9) → Wd D C (va_A (wP C S0) z) s.heap S z H locs s → lv_has ls 2 [(0, .int x0), (1, .int x1)] → W p l e rm_X7_has s m ([.int x0, .int x1] : List Value).toArray below meth c H locs 0 0 (MQ below (QiW D C S0 z r S9 z) ([.int x0, .int x1] : List Value).toArray s 0 0 (va_A (wP C S0) z)) (F0 m 0 ls []) := by
    intro S H locs ls hg hw hl
    unfold f_X7_has at hg
    refine lv_iload_n hx hb dX7_has_0 rfl (lv_at hl 0 rfl) ?_
    refine lv_iload_n hx hb dX7_has_1 rfl (lv_at hl 1 rfl) ?_
    refine lv_ishr hx hb dX7_has_2 ?_
    refine lv_iconst (v := (1 : Int32)) hx hb dX7_has_3 (by decide) ?_
    refine lv_iand hx hb dX7_has_4 ?_
    refine lv_iconst (v := (1 : Int32)) hx hb dX7_has_5 (by decide) ?_
    refine lv_icmp_ne (tgt := 13) hx hb dX7_has_6 (by decide) (fun c10 => ?_) (fun c10 => ?_)
    · have hg := it_neg hg c10
      refine lv_iconst (v := (0 : Int32)) hx hb dX7_has_13 (by decide) ?_
      cases hg
      exact wr_zret hx hb hr (by decide) hw dX7_has_14 hlk
    · have hg := it_pos hg c10
      refine lv_iconst (v := (1 : Int32)) hx hb dX7_has_9 (by decide) ?_
      refine lv_goto (tgt := 14) hx hb dX7_has_10 (by decide) ?_
      cases hg
      exact wr_zret hx hb hr (by decide) hw dX7_has_14 hlk
  exact B0 S0 _ _ _ hg hw hl
abbrev rm_X7_ones : Room := { frames := 0, cells := 0, slots := 0, locals := 0 }
set_option maxHeartbeats 4000000 in
set_option maxRecDepth 100000 in
theorem c_X7_ones (l : Launch) (D : va_G) (C : C3) (N : Nat) (S0 : Hp) (z : Nat) (x0 : Int32) (r : Int32) (S9 : Hp) (hg : f_X7_ones N S0 x0 = some (r, S9)) : MetI l yX7_ones wsX7_ones rm_X7_ones D C S0 z [.int x0] r S9 z 0 0 := by
  refine mw_ofW (cc := cX7_ones) (maxL := 3) (ret := (some .int)) (lv := [(0, .int x0)]) (by decide) rfl (Nat.le_of_ble_eq_true rfl) rfl ?_
  intro p e s m below meth c ls hx hb hr hts hown hlk hml hnm hl hw
  have hown : s.vm.findClass RX7 = some m.cls := hown
  have B4 : ∀ (K4 : Hp → Int32 → Int32 → Option (Int32 × Hp)) (hK4 : ∀ (S : Hp) (v1 : Int32) (v2 : Int32) (H : Heap) (locs : List Loc) (ls : Array Slot), K4 S v1 v2 = some (r, S9) → Wd D C (va_A (wP C S0) z) s.heap S z H locs s → lv_has ls 3 [(0, .int x0), (1, .int v1), (2, .int v2)] → W p l e rm_X7_ones s m ([.int x0] : List Value).toArray below meth c H locs 0 0 (MQ below (QiW D C S0 z r S9 z) ([.int x0] : List Value).toArray s 0 0 (va_A (wP C S0) z)) (F0 m 4 ls [])) (S : Hp) (v1 : Int32) (v2 : Int32) (H : Heap) (locs : List Loc) (ls : Array Slot), f_X7_ones_b4 N x0 K4 S v1 v2 = some (r, S9) → Wd D C (va_A (wP C S0) z) s.heap S z H locs s → lv_has ls 3 [(0, .int x0), (1, .int v1), (2, .int v2)] → W p l e rm_X7_ones s m ([.int x0] : List Value).toArray below meth c H locs 0 0 (MQ below (QiW D C S0 z r S9 z) ([.int x0] : List Value).toArray s 0 0 (va_A (wP C S0) z)) (F0 m 4 ls []) := by
    intro K4 hK4 S v1 v2 H locs ls hg hw hl
    unfold f_X7_ones_b4 at hg
    refine lv_iload_n hx hb dX7_ones_4 rfl (lv_at hl 2 rfl) ?_
    refine lv_bipush (v := (10 : Int32)) hx hb dX7_ones_5 (by decide) ?_
    refine lv_icmp_ge (tgt := 24) hx hb dX7_ones_7 (by decide) (fun c10 => ?_) (fun c10 => ?_)
    · have hg := it_pos hg c10
      refine lv_iload_n hx hb dX7_ones_24 rfl (lv_at hl 1 rfl) ?_
      cases hg
      exact wr_iret hx hb hr hw dX7_ones_25 hlk
    · have hg := it_neg hg c10
      refine lv_iload_n hx hb dX7_ones_10 rfl (lv_at hl 1 rfl) ?_
      refine lv_iload_n hx hb dX7_ones_11 rfl (lv_at hl 0 rfl) ?_
      refine lv_iload_n hx hb dX7_ones_12 rfl (lv_at hl 2 rfl) ?_
      refine lv_ishr hx hb dX7_ones_13 ?_
      refine lv_iconst (v := (1 : Int32)) hx hb dX7_ones_14 (by decide) ?_
      refine lv_iand hx hb dX7_ones_15 ?_
      refine lv_iadd hx hb dX7_ones_16 ?_
      obtain ⟨e11, he11, hg⟩ := bd_some hg
      refine lv_istore_n (lv' := [(1, .int e11), (0, .int x0), (2, .int v2)]) hx hb dX7_ones_17 rfl hl (by decide) (by rw [he11]; rfl) (fun ls hl => ?_)
      refine lv_iinc (v := (v2 + (1 : Int32))) (lv' := [(2, .int (v2 + (1 : Int32))), (1, .int e11), (0, .int x0)]) hx hb dX7_ones_18 hl (k := 2) rfl rfl (by decide) rfl (fun ls hl => ?_)
      refine lv_goto (tgt := 4) hx hb dX7_ones_21 (by decide) ?_
      exact hK4 _ _ _ _ _ _ hg hw (lv_sub hl [2, 1, 0] rfl)
  have L4 : ∀ (k : Nat) (S : Hp) (v1 : Int32) (v2 : Int32) (H : Heap) (locs : List Loc) (ls : Array Slot), f_X7_ones_l4 N x0 k S v1 v2 = some (r, S9) → Wd D C (va_A (wP C S0) z) s.heap S z H locs s → lv_has ls 3 [(0, .int x0), (1, .int v1), (2, .int v2)] → W p l e rm_X7_ones s m ([.int x0] : List Value).toArray below meth c H locs 0 0 (MQ below (QiW D C S0 z r S9 z) ([.int x0] : List Value).toArray s 0 0 (va_A (wP C S0) z)) (F0 m 4 ls []) := by
    intro k
    induction k with
    | zero => intro S v1 v2 H locs ls hg hw hl; exact absurd (show (none : Option (Int32 × Hp)) = some (r, S9) from hg) (by simp)
    | succ k ih => intro S v1 v2 H locs ls hg hw hl; exact B4 (f_X7_ones_l4 N x0 k) ih S v1 v2 H locs ls hg hw hl
  have B0 : ∀ (S : Hp) (H : Heap) (locs : List Loc) (ls : Array Slot), f_X7_ones N S x0 = some (r, S9) → Wd D C (va_A (wP C S0) z) s.heap S z H locs s → lv_has ls 3 [(0, .int x0)] → W p l e rm_X7_ones s m ([.int x0] : List Value).toArray below meth c H locs 0 0 (MQ below (QiW D C S0 z r S9 z) ([.int x0] : List Value).toArray s 0 0 (va_A (wP C S0) z)) (F0 m 0 ls []) := by
    intro S H locs ls hg hw hl
    unfold f_X7_ones at hg
    refine lv_iconst (v := (0 : Int32)) hx hb dX7_ones_0 (by decide) ?_
    refine lv_istore_n (lv' := [(1, .int (0 : Int32)), (0, .int x0)]) hx hb dX7_ones_1 rfl hl (by decide) rfl (fun ls hl => ?_)
    refine lv_iconst (v := (0 : Int32)) hx hb dX7_ones_2 (by decide) ?_
    refine lv_istore_n (lv' := [(2, .int (0 : Int32)), (1, .int (0 : Int32)), (0, .int x0)]) hx hb dX7_ones_3 rfl hl (by decide) rfl (fun ls hl => ?_)
    exact L4 N _ _ _ _ _ _ hg hw (lv_sub hl [2, 1, 0] rfl)
  exact B0 S0 _ _ _ hg hw hl
theorem hi_X7_isCell_X7 : ∀ w ∈ wsX70, w ∈ wsX7_isCell := fun _ h => List.mem_cons_of_mem _ (List.mem_append_right _ (h))
abbrev rm_X7_isCell : Room := { frames := 1, cells := 0, slots := 0, locals := 22 }
set_option maxHeartbeats 4000000 in
set_option maxRecDepth 100000 in
theorem c_X7_isCell (l : Launch) (D : va_G) (C : C3) (N : Nat) (S0 : Hp) (z : Nat) (a0 : Nat) (x1 : Int32) (r : Int32) (S9 : Hp) (hg : f_X7_isCell N S0 a0 x1 = some (r, S9)) : MetI l yX7_isCell wsX7_isCell rm_X7_isCell D C S0 z [.ref a0, .int x1] r S9 z 0 0 := by
  refine mw_ofW (cc := cX7_isCell) (maxL := 2) (ret := (some .boolean)) (lv := [(0, .ref a0), (1, .int x1)]) (by decide) rfl (Nat.le_of_ble_eq_true rfl) rfl ?_
  intro p e s m below meth c ls hx hb hr hts hown hlk hml hnm hl hw
  have hown : s.vm.findClass RX7 = some m.cls := hown
  have B0 : ∀ (S : Hp) (H : Heap) (locs : List Loc) (ls : Array Slot), f_X7_isCell N S a0 x1 = some (r, S9) → Wd D C (va_A (wP C S0) z) s.heap S z H locs s → lv_has ls 2 [(0, .ref a0), (1, .int x1)] → W p l e rm_X7_isCell s m ([.ref a0, .int x1] : List Value).toArray below meth c H locs 0 0 (MQ below (QiW D C S0 z r S9 z) ([.ref a0, .int x1] : List Value).toArray s 0 0 (va_A (wP C S0) z)) (F0 m 0 ls []) := by
    intro S H locs ls hg hw hl
    unfold f_X7_isCell at hg
    refine lv_iload_n hx hb dX7_isCell_0 rfl (lv_at hl 1 rfl) ?_
    refine lv_iconst (v := (0 : Int32)) hx hb dX7_isCell_1 (by decide) ?_
    refine lv_aload_n hx hb dX7_isCell_2 rfl (lv_at hl 0 rfl) ?_
    obtain ⟨hok10, hg⟩ := gd_some hg
    obtain ⟨r11, hr11, hg⟩ := nn_some hg
    refine wr_get (K := RX7) (T := TX7) (N := 20) (index := 7) (ref := "MakerLinesModel") (v := .ref r11) hx hb hts hi_X7_isCell_X7 hown hw hok10 (wF_7 (S := S) hok10.2) rfl 0 (by decide) (hts _ (List.mem_of_getElem? (i := 1) rfl)) (fun _ h9 => h9) (congrArg (fun o => some (va_rf o)) hr11) dX7_isCell_3 ?_
    refine lv_iconst (v := (0 : Int32)) hx hb dX7_isCell_6 (by decide) ?_
    obtain ⟨hok12, hg⟩ := gd_some hg
    obtain ⟨hin13, hg⟩ := gd_some hg
    refine wr_iald hx hb hw hok12 (inb_vp hin13) dX7_isCell_7 ?_
    refine lv_iconst (v := (1 : Int32)) hx hb dX7_isCell_8 (by decide) ?_
    refine lv_isub hx hb dX7_isCell_9 ?_
    obtain ⟨r14, S14, hc14, hg⟩ := cl_some hg
    refine wr_ci (va_runS (As := [.int x1, .int (0 : Int32), .int ((hI S r11 (0 : Int32).toNatClampNeg) - (1 : Int32))]) (rest := []) ⟨hx, hb, hml, hown, hts⟩ (c_X7_within l D C N S z x1 ((0 : Int32)) (((hI S r11 (0 : Int32).toNatClampNeg) - (1 : Int32))) r14 S14 hc14) (va_cwS 3 hts gX7_isCell_X7_within rfl rfl rfl (by decide +kernel) ⟨Nat.le_of_ble_eq_true rfl, Nat.le_of_ble_eq_true rfl⟩) (wd_preS hw) rfl rfl hl.1 rfl (lv_room (Nat.le_of_ble_eq_true rfl)) dX7_isCell_10 ⟨Nat.zero_le _, Nat.zero_le _⟩) hw (fun H locs hw => ?_)
    obtain ⟨hz15, hg⟩ := gd_some hg
    cases hg
    exact wr_zret hx hb hr hz15 hw dX7_isCell_13 hlk
  exact B0 S0 _ _ _ hg hw hl
theorem hi_X7_isLine_X7 : ∀ w ∈ wsX70, w ∈ wsX7_isLine := fun _ h => List.mem_cons_of_mem _ (List.mem_append_right _ (h))
abbrev rm_X7_isLine : Room := { frames := 1, cells := 0, slots := 0, locals := 22 }
set_option maxHeartbeats 4000000 in
set_option maxRecDepth 100000 in
theorem c_X7_isLine (l : Launch) (D : va_G) (C : C3) (N : Nat) (S0 : Hp) (z : Nat) (a0 : Nat) (x1 : Int32) (r : Int32) (S9 : Hp) (hg : f_X7_isLine N S0 a0 x1 = some (r, S9)) : MetI l yX7_isLine wsX7_isLine rm_X7_isLine D C S0 z [.ref a0, .int x1] r S9 z 0 0 := by
  refine mw_ofW (cc := cX7_isLine) (maxL := 2) (ret := (some .boolean)) (lv := [(0, .ref a0), (1, .int x1)]) (by decide) rfl (Nat.le_of_ble_eq_true rfl) rfl ?_
  intro p e s m below meth c ls hx hb hr hts hown hlk hml hnm hl hw
  have hown : s.vm.findClass RX7 = some m.cls := hown
  have B0 : ∀ (S : Hp) (H : Heap) (locs : List Loc) (ls : Array Slot), f_X7_isLine N S a0 x1 = some (r, S9) → Wd D C (va_A (wP C S0) z) s.heap S z H locs s → lv_has ls 2 [(0, .ref a0), (1, .int x1)] → W p l e rm_X7_isLine s m ([.ref a0, .int x1] : List Value).toArray below meth c H locs 0 0 (MQ below (QiW D C S0 z r S9 z) ([.ref a0, .int x1] : List Value).toArray s 0 0 (va_A (wP C S0) z)) (F0 m 0 ls []) := by
    intro S H locs ls hg hw hl
    unfold f_X7_isLine at hg
    refine lv_iload_n hx hb dX7_isLine_0 rfl (lv_at hl 1 rfl) ?_
    refine lv_iconst (v := (0 : Int32)) hx hb dX7_isLine_1 (by decide) ?_
    refine lv_aload_n hx hb dX7_isLine_2 rfl (lv_at hl 0 rfl) ?_
    obtain ⟨hok10, hg⟩ := gd_some hg
    obtain ⟨r11, hr11, hg⟩ := nn_some hg
    refine wr_get (K := RX7) (T := TX7) (N := 20) (index := 7) (ref := "MakerLinesModel") (v := .ref r11) hx hb hts hi_X7_isLine_X7 hown hw hok10 (wF_7 (S := S) hok10.2) rfl 0 (by decide) (hts _ (List.mem_of_getElem? (i := 1) rfl)) (fun _ h9 => h9) (congrArg (fun o => some (va_rf o)) hr11) dX7_isLine_3 ?_
    refine lv_iconst (v := (2 : Int32)) hx hb dX7_isLine_6 (by decide) ?_
    obtain ⟨hok12, hg⟩ := gd_some hg
    obtain ⟨hin13, hg⟩ := gd_some hg
    refine wr_iald hx hb hw hok12 (inb_vp hin13) dX7_isLine_7 ?_
    refine lv_iconst (v := (1 : Int32)) hx hb dX7_isLine_8 (by decide) ?_
    refine lv_isub hx hb dX7_isLine_9 ?_
    obtain ⟨r14, S14, hc14, hg⟩ := cl_some hg
    refine wr_ci (va_runS (As := [.int x1, .int (0 : Int32), .int ((hI S r11 (2 : Int32).toNatClampNeg) - (1 : Int32))]) (rest := []) ⟨hx, hb, hml, hown, hts⟩ (c_X7_within l D C N S z x1 ((0 : Int32)) (((hI S r11 (2 : Int32).toNatClampNeg) - (1 : Int32))) r14 S14 hc14) (va_cwS 3 hts gX7_isLine_X7_within rfl rfl rfl (by decide +kernel) ⟨Nat.le_of_ble_eq_true rfl, Nat.le_of_ble_eq_true rfl⟩) (wd_preS hw) rfl rfl hl.1 rfl (lv_room (Nat.le_of_ble_eq_true rfl)) dX7_isLine_10 ⟨Nat.zero_le _, Nat.zero_le _⟩) hw (fun H locs hw => ?_)
    obtain ⟨hz15, hg⟩ := gd_some hg
    cases hg
    exact wr_zret hx hb hr hz15 hw dX7_isLine_13 hlk
  exact B0 S0 _ _ _ hg hw hl
theorem hi_X7_maker_X7 : ∀ w ∈ wsX70, w ∈ wsX7_maker := fun _ h => List.mem_cons_of_mem _ (List.mem_append_right _ (h))
abbrev rm_X7_maker : Room := { frames := 0, cells := 0, slots := 0, locals := 0 }
set_option maxHeartbeats 4000000 in
set_option maxRecDepth 100000 in
theorem c_X7_maker (l : Launch) (D : va_G) (C : C3) (N : Nat) (S0 : Hp) (z : Nat) (a0 : Nat) (r : Int32) (S9 : Hp) (hg : f_X7_maker N S0 a0 = some (r, S9)) : MetI l yX7_maker wsX7_maker rm_X7_maker D C S0 z [.ref a0] r S9 z 0 0 := by
  refine mw_ofW (cc := cX7_maker) (maxL := 1) (ret := (some .int)) (lv := [(0, .ref a0)]) (by decide) rfl (Nat.le_of_ble_eq_true rfl) rfl ?_
  intro p e s m below meth c ls hx hb hr hts hown hlk hml hnm hl hw
  have hown : s.vm.findClass RX7 = some m.cls := hown
  have B0 : ∀ (S : Hp) (H : Heap) (locs : List Loc) (ls : Array Slot), f_X7_maker N S a0 = some (r, S9) → Wd D C (va_A (wP C S0) z) s.heap S z H locs s → lv_has ls 1 [(0, .ref a0)] → W p l e rm_X7_maker s m ([.ref a0] : List Value).toArray below meth c H locs 0 0 (MQ below (QiW D C S0 z r S9 z) ([.ref a0] : List Value).toArray s 0 0 (va_A (wP C S0) z)) (F0 m 0 ls []) := by
    intro S H locs ls hg hw hl
    unfold f_X7_maker at hg
    refine lv_aload_n hx hb dX7_maker_0 rfl (lv_at hl 0 rfl) ?_
    obtain ⟨hok10, hg⟩ := gd_some hg
    obtain ⟨r11, hr11, hg⟩ := nn_some hg
    refine wr_get (K := RX7) (T := TX7) (N := 20) (index := 7) (ref := "MakerLinesModel") (v := .ref r11) hx hb hts hi_X7_maker_X7 hown hw hok10 (wF_7 (S := S) hok10.2) rfl 0 (by decide) (hts _ (List.mem_of_getElem? (i := 1) rfl)) (fun _ h9 => h9) (congrArg (fun o => some (va_rf o)) hr11) dX7_maker_1 ?_
    refine lv_iconst (v := (3 : Int32)) hx hb dX7_maker_4 (by decide) ?_
    obtain ⟨hok12, hg⟩ := gd_some hg
    obtain ⟨hin13, hg⟩ := gd_some hg
    refine wr_iald hx hb hw hok12 (inb_vp hin13) dX7_maker_5 ?_
    cases hg
    exact wr_iret hx hb hr hw dX7_maker_6 hlk
  exact B0 S0 _ _ _ hg hw hl
theorem hi_X7_breaker_X7 : ∀ w ∈ wsX70, w ∈ wsX7_breaker := fun _ h => List.mem_cons_of_mem _ (List.mem_append_right _ (h))
abbrev rm_X7_breaker : Room := { frames := 0, cells := 0, slots := 0, locals := 0 }
set_option maxHeartbeats 4000000 in
set_option maxRecDepth 100000 in
theorem c_X7_breaker (l : Launch) (D : va_G) (C : C3) (N : Nat) (S0 : Hp) (z : Nat) (a0 : Nat) (r : Int32) (S9 : Hp) (hg : f_X7_breaker N S0 a0 = some (r, S9)) : MetI l yX7_breaker wsX7_breaker rm_X7_breaker D C S0 z [.ref a0] r S9 z 0 0 := by
  refine mw_ofW (cc := cX7_breaker) (maxL := 1) (ret := (some .int)) (lv := [(0, .ref a0)]) (by decide) rfl (Nat.le_of_ble_eq_true rfl) rfl ?_
  intro p e s m below meth c ls hx hb hr hts hown hlk hml hnm hl hw
  have hown : s.vm.findClass RX7 = some m.cls := hown
  have B0 : ∀ (S : Hp) (H : Heap) (locs : List Loc) (ls : Array Slot), f_X7_breaker N S a0 = some (r, S9) → Wd D C (va_A (wP C S0) z) s.heap S z H locs s → lv_has ls 1 [(0, .ref a0)] → W p l e rm_X7_breaker s m ([.ref a0] : List Value).toArray below meth c H locs 0 0 (MQ below (QiW D C S0 z r S9 z) ([.ref a0] : List Value).toArray s 0 0 (va_A (wP C S0) z)) (F0 m 0 ls []) := by
    intro S H locs ls hg hw hl
    unfold f_X7_breaker at hg
    refine lv_aload_n hx hb dX7_breaker_0 rfl (lv_at hl 0 rfl) ?_
    obtain ⟨hok10, hg⟩ := gd_some hg
    obtain ⟨r11, hr11, hg⟩ := nn_some hg
    refine wr_get (K := RX7) (T := TX7) (N := 20) (index := 7) (ref := "MakerLinesModel") (v := .ref r11) hx hb hts hi_X7_breaker_X7 hown hw hok10 (wF_7 (S := S) hok10.2) rfl 0 (by decide) (hts _ (List.mem_of_getElem? (i := 1) rfl)) (fun _ h9 => h9) (congrArg (fun o => some (va_rf o)) hr11) dX7_breaker_1 ?_
    refine lv_iconst (v := (4 : Int32)) hx hb dX7_breaker_4 (by decide) ?_
    obtain ⟨hok12, hg⟩ := gd_some hg
    obtain ⟨hin13, hg⟩ := gd_some hg
    refine wr_iald hx hb hw hok12 (inb_vp hin13) dX7_breaker_5 ?_
    cases hg
    exact wr_iret hx hb hr hw dX7_breaker_6 hlk
  exact B0 S0 _ _ _ hg hw hl
theorem hi_X7_free_X7 : ∀ w ∈ wsX70, w ∈ wsX7_free := fun _ h => List.mem_cons_of_mem _ (List.mem_append_right _ (h))
abbrev rm_X7_free : Room := { frames := 1, cells := 0, slots := 0, locals := 20 }
set_option maxHeartbeats 4000000 in
set_option maxRecDepth 100000 in
theorem c_X7_free (l : Launch) (D : va_G) (C : C3) (N : Nat) (S0 : Hp) (z : Nat) (a0 : Nat) (r : Int32) (S9 : Hp) (hg : f_X7_free N S0 a0 = some (r, S9)) : MetI l yX7_free wsX7_free rm_X7_free D C S0 z [.ref a0] r S9 z 0 0 := by
  refine mw_ofW (cc := cX7_free) (maxL := 1) (ret := (some .int)) (lv := [(0, .ref a0)]) (by decide) rfl (Nat.le_of_ble_eq_true rfl) rfl ?_
  intro p e s m below meth c ls hx hb hr hts hown hlk hml hnm hl hw
  have hown : s.vm.findClass RX7 = some m.cls := hown
  have B0 : ∀ (S : Hp) (H : Heap) (locs : List Loc) (ls : Array Slot), f_X7_free N S a0 = some (r, S9) → Wd D C (va_A (wP C S0) z) s.heap S z H locs s → lv_has ls 1 [(0, .ref a0)] → W p l e rm_X7_free s m ([.ref a0] : List Value).toArray below meth c H locs 0 0 (MQ below (QiW D C S0 z r S9 z) ([.ref a0] : List Value).toArray s 0 0 (va_A (wP C S0) z)) (F0 m 0 ls []) := by
    intro S H locs ls hg hw hl
    unfold f_X7_free at hg
    refine lv_iconst (v := (1 : Int32)) hx hb dX7_free_0 (by decide) ?_
    refine lv_aload_n hx hb dX7_free_1 rfl (lv_at hl 0 rfl) ?_
    obtain ⟨hok10, hg⟩ := gd_some hg
    obtain ⟨r11, hr11, hg⟩ := nn_some hg
    refine wr_get (K := RX7) (T := TX7) (N := 20) (index := 7) (ref := "MakerLinesModel") (v := .ref r11) hx hb hts hi_X7_free_X7 hown hw hok10 (wF_7 (S := S) hok10.2) rfl 0 (by decide) (hts _ (List.mem_of_getElem? (i := 1) rfl)) (fun _ h9 => h9) (congrArg (fun o => some (va_rf o)) hr11) dX7_free_2 ?_
    refine lv_iconst (v := (0 : Int32)) hx hb dX7_free_5 (by decide) ?_
    obtain ⟨hok12, hg⟩ := gd_some hg
    obtain ⟨hin13, hg⟩ := gd_some hg
    refine wr_iald hx hb hw hok12 (inb_vp hin13) dX7_free_6 ?_
    refine lv_ishl hx hb dX7_free_7 ?_
    refine lv_iconst (v := (1 : Int32)) hx hb dX7_free_8 (by decide) ?_
    refine lv_isub hx hb dX7_free_9 ?_
    refine lv_aload_n hx hb dX7_free_10 rfl (lv_at hl 0 rfl) ?_
    obtain ⟨r14, S14, hc14, hg⟩ := cl_some hg
    refine wr_ci (va_runV (As := []) (rest := [.int (((1 : Int32) <<< ((hI S r11 (0 : Int32).toNatClampNeg) &&& 31)) - (1 : Int32))]) ⟨hx, hb, hml, hown, hts⟩ (c_X7_maker l D C N S z a0 r14 S14 hc14) (cwV 0 hts gX7_free_X7_maker rfl rfl rfl (by decide +kernel) ⟨Nat.le_of_ble_eq_true rfl, Nat.le_of_ble_eq_true rfl⟩) (wd_preV hw hok10 (wF_7 (S := S) hok10.2) rfl) rfl rfl hl.1 rfl (lv_room (Nat.le_of_ble_eq_true rfl)) dX7_free_11 ⟨Nat.zero_le _, Nat.zero_le _⟩) hw (fun H locs hw => ?_)
    refine lv_iconst (v := (-1 : Int32)) hx hb dX7_free_14 (by decide) ?_
    refine lv_ixor hx hb dX7_free_15 ?_
    refine lv_iand hx hb dX7_free_16 ?_
    refine lv_aload_n hx hb dX7_free_17 rfl (lv_at hl 0 rfl) ?_
    obtain ⟨hok15, hg⟩ := gd_some hg
    obtain ⟨r16, S16, hc16, hg⟩ := cl_some hg
    refine wr_ci (va_runV (As := []) (rest := [.int ((((1 : Int32) <<< ((hI S r11 (0 : Int32).toNatClampNeg) &&& 31)) - (1 : Int32)) &&& (r14 ^^^ (-1 : Int32)))]) ⟨hx, hb, hml, hown, hts⟩ (c_X7_breaker l D C N S14 z a0 r16 S16 hc16) (cwV 0 hts gX7_free_X7_breaker rfl rfl rfl (by decide +kernel) ⟨Nat.le_of_ble_eq_true rfl, Nat.le_of_ble_eq_true rfl⟩) (wd_preV hw hok15 (wF_7 (S := S14) hok15.2) rfl) rfl rfl hl.1 rfl (lv_room (Nat.le_of_ble_eq_true rfl)) dX7_free_18 ⟨Nat.zero_le _, Nat.zero_le _⟩) hw (fun H locs hw => ?_)
    refine lv_iconst (v := (-1 : Int32)) hx hb dX7_free_21 (by decide) ?_
    refine lv_ixor hx hb dX7_free_22 ?_
    refine lv_iand hx hb dX7_free_23 ?_
    cases hg
    exact wr_iret hx hb hr hw dX7_free_24 hlk
  exact B0 S0 _ _ _ hg hw hl
theorem hi_X7_isDead_X7 : ∀ w ∈ wsX70, w ∈ wsX7_isDead := fun _ h => List.mem_cons_of_mem _ (List.mem_append_right _ (h))
abbrev rm_X7_isDead : Room := { frames := 1, cells := 0, slots := 0, locals := 20 }
set_option maxHeartbeats 4000000 in
set_option maxRecDepth 100000 in
theorem c_X7_isDead (l : Launch) (D : va_G) (C : C3) (N : Nat) (S0 : Hp) (z : Nat) (a0 : Nat) (x1 : Int32) (r : Int32) (S9 : Hp) (hg : f_X7_isDead N S0 a0 x1 = some (r, S9)) : MetI l yX7_isDead wsX7_isDead rm_X7_isDead D C S0 z [.ref a0, .int x1] r S9 z 0 0 := by
  refine mw_ofW (cc := cX7_isDead) (maxL := 2) (ret := (some .boolean)) (lv := [(0, .ref a0), (1, .int x1)]) (by decide) rfl (Nat.le_of_ble_eq_true rfl) rfl ?_
  intro p e s m below meth c ls hx hb hr hts hown hlk hml hnm hl hw
  have hown : s.vm.findClass RX7 = some m.cls := hown
  have B0 : ∀ (S : Hp) (H : Heap) (locs : List Loc) (ls : Array Slot), f_X7_isDead N S a0 x1 = some (r, S9) → Wd D C (va_A (wP C S0) z) s.heap S z H locs s → lv_has ls 2 [(0, .ref a0), (1, .int x1)] → W p l e rm_X7_isDead s m ([.ref a0, .int x1] : List Value).toArray below meth c H locs 0 0 (MQ below (QiW D C S0 z r S9 z) ([.ref a0, .int x1] : List Value).toArray s 0 0 (va_A (wP C S0) z)) (F0 m 0 ls []) := by
    intro S H locs ls hg hw hl
    unfold f_X7_isDead at hg
    refine lv_aload_n hx hb dX7_isDead_0 rfl (lv_at hl 0 rfl) ?_
    obtain ⟨hok10, hg⟩ := gd_some hg
    obtain ⟨r11, hr11, hg⟩ := nn_some hg
    refine wr_get (K := RX7) (T := TX7) (N := 20) (index := 7) (ref := "MakerLinesModel") (v := .ref r11) hx hb hts hi_X7_isDead_X7 hown hw hok10 (wF_7 (S := S) hok10.2) rfl 0 (by decide) (hts _ (List.mem_of_getElem? (i := 1) rfl)) (fun _ h9 => h9) (congrArg (fun o => some (va_rf o)) hr11) dX7_isDead_1 ?_
    refine lv_bipush (v := (10 : Int32)) hx hb dX7_isDead_4 (by decide) ?_
    refine lv_iload_n hx hb dX7_isDead_6 rfl (lv_at hl 1 rfl) ?_
    refine lv_iadd hx hb dX7_isDead_7 ?_
    obtain ⟨hok12, hg⟩ := gd_some hg
    obtain ⟨hin13, hg⟩ := gd_some hg
    refine wr_iald hx hb hw hok12 (inb_vp hin13) dX7_isDead_8 ?_
    refine lv_aload_n hx hb dX7_isDead_9 rfl (lv_at hl 0 rfl) ?_
    obtain ⟨r14, S14, hc14, hg⟩ := cl_some hg
    refine wr_ci (va_runV (As := []) (rest := [.int (hI S r11 ((10 : Int32) + x1).toNatClampNeg)]) ⟨hx, hb, hml, hown, hts⟩ (c_X7_breaker l D C N S z a0 r14 S14 hc14) (cwV 0 hts gX7_isDead_X7_breaker rfl rfl rfl (by decide +kernel) ⟨Nat.le_of_ble_eq_true rfl, Nat.le_of_ble_eq_true rfl⟩) (wd_preV hw hok10 (wF_7 (S := S) hok10.2) rfl) rfl rfl hl.1 rfl (lv_room (Nat.le_of_ble_eq_true rfl)) dX7_isDead_10 ⟨Nat.zero_le _, Nat.zero_le _⟩) hw (fun H locs hw => ?_)
    refine lv_iand hx hb dX7_isDead_13 ?_
    refine lv_if_eq (tgt := 21) hx hb dX7_isDead_14 (by decide) (fun c15 => ?_) (fun c15 => ?_)
    · have hg := it_pos hg c15
      refine lv_iconst (v := (0 : Int32)) hx hb dX7_isDead_21 (by decide) ?_
      cases hg
      exact wr_zret hx hb hr (by decide) hw dX7_isDead_22 hlk
    · have hg := it_neg hg c15
      refine lv_iconst (v := (1 : Int32)) hx hb dX7_isDead_17 (by decide) ?_
      refine lv_goto (tgt := 22) hx hb dX7_isDead_18 (by decide) ?_
      cases hg
      exact wr_zret hx hb hr (by decide) hw dX7_isDead_22 hlk
  exact B0 S0 _ _ _ hg hw hl
theorem hi_X7_freeOf_X7 : ∀ w ∈ wsX70, w ∈ wsX7_freeOf := fun _ h => List.mem_cons_of_mem _ (List.mem_append_right _ (h))
abbrev rm_X7_freeOf : Room := { frames := 2, cells := 0, slots := 0, locals := 40 }
set_option maxHeartbeats 4000000 in
set_option maxRecDepth 100000 in
theorem c_X7_freeOf (l : Launch) (D : va_G) (C : C3) (N : Nat) (S0 : Hp) (z : Nat) (a0 : Nat) (x1 : Int32) (r : Int32) (S9 : Hp) (hg : f_X7_freeOf N S0 a0 x1 = some (r, S9)) : MetI l yX7_freeOf wsX7_freeOf rm_X7_freeOf D C S0 z [.ref a0, .int x1] r S9 z 0 0 := by
  refine mw_ofW (cc := cX7_freeOf) (maxL := 2) (ret := (some .int)) (lv := [(0, .ref a0), (1, .int x1)]) (by decide) rfl (Nat.le_of_ble_eq_true rfl) rfl ?_
  intro p e s m below meth c ls hx hb hr hts hown hlk hml hnm hl hw
  have hown : s.vm.findClass RX7 = some m.cls := hown
  have B0 : ∀ (S : Hp) (H : Heap) (locs : List Loc) (ls : Array Slot), f_X7_freeOf N S a0 x1 = some (r, S9) → Wd D C (va_A (wP C S0) z) s.heap S z H locs s → lv_has ls 2 [(0, .ref a0), (1, .int x1)] → W p l e rm_X7_freeOf s m ([.ref a0, .int x1] : List Value).toArray below meth c H locs 0 0 (MQ below (QiW D C S0 z r S9 z) ([.ref a0, .int x1] : List Value).toArray s 0 0 (va_A (wP C S0) z)) (F0 m 0 ls []) := by
    intro S H locs ls hg hw hl
    unfold f_X7_freeOf at hg
    refine lv_aload_n hx hb dX7_freeOf_0 rfl (lv_at hl 0 rfl) ?_
    obtain ⟨hok10, hg⟩ := gd_some hg
    obtain ⟨r11, hr11, hg⟩ := nn_some hg
    refine wr_get (K := RX7) (T := TX7) (N := 20) (index := 7) (ref := "MakerLinesModel") (v := .ref r11) hx hb hts hi_X7_freeOf_X7 hown hw hok10 (wF_7 (S := S) hok10.2) rfl 0 (by decide) (hts _ (List.mem_of_getElem? (i := 1) rfl)) (fun _ h9 => h9) (congrArg (fun o => some (va_rf o)) hr11) dX7_freeOf_1 ?_
    refine lv_bipush (v := (10 : Int32)) hx hb dX7_freeOf_4 (by decide) ?_
    refine lv_iload_n hx hb dX7_freeOf_6 rfl (lv_at hl 1 rfl) ?_
    refine lv_iadd hx hb dX7_freeOf_7 ?_
    obtain ⟨hok12, hg⟩ := gd_some hg
    obtain ⟨hin13, hg⟩ := gd_some hg
    refine wr_iald hx hb hw hok12 (inb_vp hin13) dX7_freeOf_8 ?_
    refine lv_aload_n hx hb dX7_freeOf_9 rfl (lv_at hl 0 rfl) ?_
    obtain ⟨r14, S14, hc14, hg⟩ := cl_some hg
    refine wr_ci (va_runV (As := []) (rest := [.int (hI S r11 ((10 : Int32) + x1).toNatClampNeg)]) ⟨hx, hb, hml, hown, hts⟩ (c_X7_free l D C N S z a0 r14 S14 hc14) (cwV 0 hts gX7_freeOf_X7_free rfl rfl rfl (by decide +kernel) ⟨Nat.le_of_ble_eq_true rfl, Nat.le_of_ble_eq_true rfl⟩) (wd_preV hw hok10 (wF_7 (S := S) hok10.2) rfl) rfl rfl hl.1 rfl (lv_room (Nat.le_of_ble_eq_true rfl)) dX7_freeOf_10 ⟨Nat.zero_le _, Nat.zero_le _⟩) hw (fun H locs hw => ?_)
    refine lv_iand hx hb dX7_freeOf_13 ?_
    cases hg
    exact wr_iret hx hb hr hw dX7_freeOf_14 hlk
  exact B0 S0 _ _ _ hg hw hl
abbrev rm_X7_weightOf : Room := { frames := 3, cells := 0, slots := 0, locals := 61 }
set_option maxHeartbeats 4000000 in
set_option maxRecDepth 100000 in
theorem c_X7_weightOf (l : Launch) (D : va_G) (C : C3) (N : Nat) (S0 : Hp) (z : Nat) (a0 : Nat) (x1 : Int32) (r : Int32) (S9 : Hp) (hg : f_X7_weightOf N S0 a0 x1 = some (r, S9)) : MetI l yX7_weightOf wsX7_weightOf rm_X7_weightOf D C S0 z [.ref a0, .int x1] r S9 z 0 0 := by
  refine mw_ofW (cc := cX7_weightOf) (maxL := 2) (ret := (some .int)) (lv := [(0, .ref a0), (1, .int x1)]) (by decide) rfl (Nat.le_of_ble_eq_true rfl) rfl ?_
  intro p e s m below meth c ls hx hb hr hts hown hlk hml hnm hl hw
  have hown : s.vm.findClass RX7 = some m.cls := hown
  have B0 : ∀ (S : Hp) (H : Heap) (locs : List Loc) (ls : Array Slot), f_X7_weightOf N S a0 x1 = some (r, S9) → Wd D C (va_A (wP C S0) z) s.heap S z H locs s → lv_has ls 2 [(0, .ref a0), (1, .int x1)] → W p l e rm_X7_weightOf s m ([.ref a0, .int x1] : List Value).toArray below meth c H locs 0 0 (MQ below (QiW D C S0 z r S9 z) ([.ref a0, .int x1] : List Value).toArray s 0 0 (va_A (wP C S0) z)) (F0 m 0 ls []) := by
    intro S H locs ls hg hw hl
    unfold f_X7_weightOf at hg
    refine lv_aload_n hx hb dX7_weightOf_0 rfl (lv_at hl 0 rfl) ?_
    refine lv_iload_n hx hb dX7_weightOf_1 rfl (lv_at hl 1 rfl) ?_
    obtain ⟨hok10, hg⟩ := gd_some hg
    obtain ⟨r11, S11, hc11, hg⟩ := cl_some hg
    refine wr_ci (va_runV (As := [.int x1]) (rest := []) ⟨hx, hb, hml, hown, hts⟩ (c_X7_isDead l D C N S z a0 x1 r11 S11 hc11) (cwV 1 hts gX7_weightOf_X7_isDead rfl rfl rfl (by decide +kernel) ⟨Nat.le_of_ble_eq_true rfl, Nat.le_of_ble_eq_true rfl⟩) (wd_preV hw hok10 (wF_7 (S := S) hok10.2) rfl) rfl rfl hl.1 rfl (lv_room (Nat.le_of_ble_eq_true rfl)) dX7_weightOf_2 ⟨Nat.zero_le _, Nat.zero_le _⟩) hw (fun H locs hw => ?_)
    refine lv_if_eq (tgt := 12) hx hb dX7_weightOf_5 (by decide) (fun c12 => ?_) (fun c12 => ?_)
    · have hg := it_pos hg c12
      refine lv_sipush (v := (1024 : Int32)) hx hb dX7_weightOf_12 (by decide) ?_
      refine lv_aload_n hx hb dX7_weightOf_15 rfl (lv_at hl 0 rfl) ?_
      refine lv_iload_n hx hb dX7_weightOf_16 rfl (lv_at hl 1 rfl) ?_
      obtain ⟨hok13, hg⟩ := gd_some hg
      obtain ⟨r14, S14, hc14, hg⟩ := cl_some hg
      refine wr_ci (va_runV (As := [.int x1]) (rest := [.int (1024 : Int32)]) ⟨hx, hb, hml, hown, hts⟩ (c_X7_freeOf l D C N S11 z a0 x1 r14 S14 hc14) (cwV 1 hts gX7_weightOf_X7_freeOf rfl rfl rfl (by decide +kernel) ⟨Nat.le_of_ble_eq_true rfl, Nat.le_of_ble_eq_true rfl⟩) (wd_preV hw hok13 (wF_7 (S := S11) hok13.2) rfl) rfl rfl hl.1 rfl (lv_room (Nat.le_of_ble_eq_true rfl)) dX7_weightOf_17 ⟨Nat.zero_le _, Nat.zero_le _⟩) hw (fun H locs hw => ?_)
      obtain ⟨r15, S15, hc15, hg⟩ := cl_some hg
      refine wr_ci (va_runS (As := [.int r14]) (rest := [.int (1024 : Int32)]) ⟨hx, hb, hml, hown, hts⟩ (c_X7_ones l D C N S14 z r14 r15 S15 hc15) (va_cwS 1 hts gX7_weightOf_X7_ones rfl rfl rfl (by decide +kernel) ⟨Nat.le_of_ble_eq_true rfl, Nat.le_of_ble_eq_true rfl⟩) (wd_preS hw) rfl rfl hl.1 rfl (lv_room (Nat.le_of_ble_eq_true rfl)) dX7_weightOf_20 ⟨Nat.zero_le _, Nat.zero_le _⟩) hw (fun H locs hw => ?_)
      refine lv_ishr hx hb dX7_weightOf_23 ?_
      cases hg
      exact wr_iret hx hb hr hw dX7_weightOf_24 hlk
    · have hg := it_neg hg c12
      refine lv_iconst (v := (0 : Int32)) hx hb dX7_weightOf_8 (by decide) ?_
      refine lv_goto (tgt := 24) hx hb dX7_weightOf_9 (by decide) ?_
      cases hg
      exact wr_iret hx hb hr hw dX7_weightOf_24 hlk
  exact B0 S0 _ _ _ hg hw hl
theorem hi_X7_winner_X7 : ∀ w ∈ wsX70, w ∈ wsX7_winner := fun _ h => List.mem_cons_of_mem _ (List.mem_append_right _ (h))
abbrev rm_X7_winner : Room := { frames := 0, cells := 0, slots := 0, locals := 0 }
set_option maxHeartbeats 4000000 in
set_option maxRecDepth 100000 in
theorem c_X7_winner (l : Launch) (D : va_G) (C : C3) (N : Nat) (S0 : Hp) (z : Nat) (a0 : Nat) (x1 : Int32) (x2 : Int32) (r : Int32) (S9 : Hp) (hg : f_X7_winner N S0 a0 x1 x2 = some (r, S9)) : MetI l yX7_winner wsX7_winner rm_X7_winner D C S0 z [.ref a0, .int x1, .int x2] r S9 z 0 0 := by
  refine mw_ofW (cc := cX7_winner) (maxL := 6) (ret := (some .int)) (lv := [(0, .ref a0), (1, .int x1), (2, .int x2)]) (by decide) rfl (Nat.le_of_ble_eq_true rfl) rfl ?_
  intro p e s m below meth c ls hx hb hr hts hown hlk hml hnm hl hw
  have hown : s.vm.findClass RX7 = some m.cls := hown
  have B5 : ∀ (K5 : Hp → Int32 → Int32 → Option (Int32 × Hp)) (hK5 : ∀ (S : Hp) (v3 : Int32) (v4 : Int32) (H : Heap) (locs : List Loc) (ls : Array Slot), K5 S v3 v4 = some (r, S9) → Wd D C (va_A (wP C S0) z) s.heap S z H locs s → lv_has ls 6 [(0, .ref a0), (1, .int x1), (2, .int x2), (3, .int v3), (4, .int v4)] → W p l e rm_X7_winner s m ([.ref a0, .int x1, .int x2] : List Value).toArray below meth c H locs 0 0 (MQ below (QiW D C S0 z r S9 z) ([.ref a0, .int x1, .int x2] : List Value).toArray s 0 0 (va_A (wP C S0) z)) (F0 m 5 ls [])) (S : Hp) (v3 : Int32) (v4 : Int32) (H : Heap) (locs : List Loc) (ls : Array Slot), f_X7_winner_b5 N a0 x1 x2 K5 S v3 v4 = some (r, S9) → Wd D C (va_A (wP C S0) z) s.heap S z H locs s → lv_has ls 6 [(0, .ref a0), (1, .int x1), (2, .int x2), (3, .int v3), (4, .int v4)] → W p l e rm_X7_winner s m ([.ref a0, .int x1, .int x2] : List Value).toArray below meth c H locs 0 0 (MQ below (QiW D C S0 z r S9 z) ([.ref a0, .int x1, .int x2] : List Value).toArray s 0 0 (va_A (wP C S0) z)) (F0 m 5 ls []) := by
    intro K5 hK5 S v3 v4 H locs ls hg hw hl
    unfold f_X7_winner_b5 at hg
    refine lv_iload hx hb dX7_winner_5 (lv_at hl 4 rfl) ?_
    refine lv_aload_n hx hb dX7_winner_7 rfl (lv_at hl 0 rfl) ?_
    obtain ⟨hok10, hg⟩ := gd_some hg
    obtain ⟨r11, hr11, hg⟩ := nn_some hg
    refine wr_get (K := RX7) (T := TX7) (N := 20) (index := 7) (ref := "MakerLinesModel") (v := .ref r11) hx hb hts hi_X7_winner_X7 hown hw hok10 (wF_7 (S := S) hok10.2) rfl 0 (by decide) (hts _ (List.mem_of_getElem? (i := 1) rfl)) (fun _ h9 => h9) (congrArg (fun o => some (va_rf o)) hr11) dX7_winner_8 ?_
    refine lv_iconst (v := (2 : Int32)) hx hb dX7_winner_11 (by decide) ?_
    obtain ⟨hok12, hg⟩ := gd_some hg
    obtain ⟨hin13, hg⟩ := gd_some hg
    refine wr_iald hx hb hw hok12 (inb_vp hin13) dX7_winner_12 ?_
    refine lv_icmp_ge (tgt := 62) hx hb dX7_winner_13 (by decide) (fun c14 => ?_) (fun c14 => ?_)
    · have hg := it_pos hg c14
      refine lv_iload_n hx hb dX7_winner_62 rfl (lv_at hl 3 rfl) ?_
      refine lv_if_eq (tgt := 70) hx hb dX7_winner_63 (by decide) (fun c15 => ?_) (fun c15 => ?_)
      · have hg := it_pos hg c15
        refine lv_iconst (v := (2 : Int32)) hx hb dX7_winner_70 (by decide) ?_
        cases hg
        exact wr_iret hx hb hr hw dX7_winner_71 hlk
      · have hg := it_neg hg c15
        refine lv_iconst (v := (0 : Int32)) hx hb dX7_winner_66 (by decide) ?_
        refine lv_goto (tgt := 71) hx hb dX7_winner_67 (by decide) ?_
        cases hg
        exact wr_iret hx hb hr hw dX7_winner_71 hlk
    · have hg := it_neg hg c14
      refine lv_aload_n hx hb dX7_winner_16 rfl (lv_at hl 0 rfl) ?_
      refine wr_get (K := RX7) (T := TX7) (N := 20) (index := 7) (ref := "MakerLinesModel") (v := .ref r11) hx hb hts hi_X7_winner_X7 hown hw hok10 (wF_7 (S := S) hok10.2) rfl 0 (by decide) (hts _ (List.mem_of_getElem? (i := 1) rfl)) (fun _ h9 => h9) (congrArg (fun o => some (va_rf o)) hr11) dX7_winner_17 ?_
      refine lv_bipush (v := (10 : Int32)) hx hb dX7_winner_20 (by decide) ?_
      refine lv_iload hx hb dX7_winner_22 (lv_at hl 4 rfl) ?_
      refine lv_iadd hx hb dX7_winner_24 ?_
      obtain ⟨hin16, hg⟩ := gd_some hg
      refine wr_iald hx hb hw hok12 (inb_vp hin16) dX7_winner_25 ?_
      obtain ⟨e17, he17, hg⟩ := bd_some hg
      refine lv_istore (lv' := [(5, .int e17), (0, .ref a0), (1, .int x1), (2, .int x2), (3, .int v3), (4, .int v4)]) hx hb dX7_winner_26 hl (by decide) (by rw [he17]; rfl) (fun ls hl => ?_)
      refine lv_iload hx hb dX7_winner_28 (lv_at hl 0 rfl) ?_
      refine lv_iload_n hx hb dX7_winner_30 rfl (lv_at hl 2 rfl) ?_
      refine lv_iconst (v := (-1 : Int32)) hx hb dX7_winner_31 (by decide) ?_
      refine lv_ixor hx hb dX7_winner_32 ?_
      refine lv_iand hx hb dX7_winner_33 ?_
      refine lv_if_ne (tgt := 39) hx hb dX7_winner_34 (by decide) (fun c18 => ?_) (fun c18 => ?_)
      · have hg := it_neg hg c18
        refine lv_iload_n hx hb dX7_winner_39 rfl (lv_at hl 4 rfl) ?_
        refine lv_if_ne (tgt := 50) hx hb dX7_winner_40 (by decide) (fun c19 => ?_) (fun c19 => ?_)
        · have hg := it_neg hg c19
          refine lv_iconst (v := (1 : Int32)) hx hb dX7_winner_50 (by decide) ?_
          refine lv_goto (tgt := 55) hx hb dX7_winner_51 (by decide) ?_
          refine lv_istore_n (lv' := [(3, .int (1 : Int32)), (5, .int e17), (0, .ref a0), (1, .int x1), (2, .int x2), (4, .int v4)]) hx hb dX7_winner_55 rfl hl (by decide) rfl (fun ls hl => ?_)
          refine lv_iinc (v := (v4 + (1 : Int32))) (lv' := [(4, .int (v4 + (1 : Int32))), (3, .int (1 : Int32)), (5, .int e17), (0, .ref a0), (1, .int x1), (2, .int x2)]) hx hb dX7_winner_56 hl (k := 5) rfl rfl (by decide) rfl (fun ls hl => ?_)
          refine lv_goto (tgt := 5) hx hb dX7_winner_59 (by decide) ?_
          exact hK5 _ _ _ _ _ _ hg hw (lv_sub hl [3, 4, 5, 1, 0] rfl)
        · have hg := it_pos hg c19
          refine lv_iload hx hb dX7_winner_43 (lv_at hl 0 rfl) ?_
          refine lv_iload_n hx hb dX7_winner_45 rfl (lv_at hl 3 rfl) ?_
          refine lv_iand hx hb dX7_winner_46 ?_
          refine lv_if_ne (tgt := 54) hx hb dX7_winner_47 (by decide) (fun c20 => ?_) (fun c20 => ?_)
          · have hg := it_neg hg c20
            refine lv_iconst (v := (0 : Int32)) hx hb dX7_winner_54 (by decide) ?_
            refine lv_istore_n (lv' := [(3, .int (0 : Int32)), (5, .int e17), (0, .ref a0), (1, .int x1), (2, .int x2), (4, .int v4)]) hx hb dX7_winner_55 rfl hl (by decide) rfl (fun ls hl => ?_)
            refine lv_iinc (v := (v4 + (1 : Int32))) (lv' := [(4, .int (v4 + (1 : Int32))), (3, .int (0 : Int32)), (5, .int e17), (0, .ref a0), (1, .int x1), (2, .int x2)]) hx hb dX7_winner_56 hl (k := 5) rfl rfl (by decide) rfl (fun ls hl => ?_)
            refine lv_goto (tgt := 5) hx hb dX7_winner_59 (by decide) ?_
            exact hK5 _ _ _ _ _ _ hg hw (lv_sub hl [3, 4, 5, 1, 0] rfl)
          · have hg := it_pos hg c20
            refine lv_iconst (v := (1 : Int32)) hx hb dX7_winner_50 (by decide) ?_
            refine lv_goto (tgt := 55) hx hb dX7_winner_51 (by decide) ?_
            refine lv_istore_n (lv' := [(3, .int (1 : Int32)), (5, .int e17), (0, .ref a0), (1, .int x1), (2, .int x2), (4, .int v4)]) hx hb dX7_winner_55 rfl hl (by decide) rfl (fun ls hl => ?_)
            refine lv_iinc (v := (v4 + (1 : Int32))) (lv' := [(4, .int (v4 + (1 : Int32))), (3, .int (1 : Int32)), (5, .int e17), (0, .ref a0), (1, .int x1), (2, .int x2)]) hx hb dX7_winner_56 hl (k := 5) rfl rfl (by decide) rfl (fun ls hl => ?_)
            refine lv_goto (tgt := 5) hx hb dX7_winner_59 (by decide) ?_
            exact hK5 _ _ _ _ _ _ hg hw (lv_sub hl [3, 4, 5, 1, 0] rfl)
      · have hg := it_pos hg c18
        refine lv_iconst (v := (1 : Int32)) hx hb dX7_winner_37 (by decide) ?_
        cases hg
        exact wr_iret hx hb hr hw dX7_winner_38 hlk
  have L5 : ∀ (k : Nat) (S : Hp) (v3 : Int32) (v4 : Int32) (H : Heap) (locs : List Loc) (ls : Array Slot), f_X7_winner_l5 N a0 x1 x2 k S v3 v4 = some (r, S9) → Wd D C (va_A (wP C S0) z) s.heap S z H locs s → lv_has ls 6 [(0, .ref a0), (1, .int x1), (2, .int x2), (3, .int v3), (4, .int v4)] → W p l e rm_X7_winner s m ([.ref a0, .int x1, .int x2] : List Value).toArray below meth c H locs 0 0 (MQ below (QiW D C S0 z r S9 z) ([.ref a0, .int x1, .int x2] : List Value).toArray s 0 0 (va_A (wP C S0) z)) (F0 m 5 ls []) := by
    intro k
    induction k with
    | zero => intro S v3 v4 H locs ls hg hw hl; exact absurd (show (none : Option (Int32 × Hp)) = some (r, S9) from hg) (by simp)
    | succ k ih => intro S v3 v4 H locs ls hg hw hl; exact B5 (f_X7_winner_l5 N a0 x1 x2 k) ih S v3 v4 H locs ls hg hw hl
  have B0 : ∀ (S : Hp) (H : Heap) (locs : List Loc) (ls : Array Slot), f_X7_winner N S a0 x1 x2 = some (r, S9) → Wd D C (va_A (wP C S0) z) s.heap S z H locs s → lv_has ls 6 [(0, .ref a0), (1, .int x1), (2, .int x2)] → W p l e rm_X7_winner s m ([.ref a0, .int x1, .int x2] : List Value).toArray below meth c H locs 0 0 (MQ below (QiW D C S0 z r S9 z) ([.ref a0, .int x1, .int x2] : List Value).toArray s 0 0 (va_A (wP C S0) z)) (F0 m 0 ls []) := by
    intro S H locs ls hg hw hl
    unfold f_X7_winner at hg
    refine lv_iconst (v := (0 : Int32)) hx hb dX7_winner_0 (by decide) ?_
    refine lv_istore_n (lv' := [(3, .int (0 : Int32)), (0, .ref a0), (1, .int x1), (2, .int x2)]) hx hb dX7_winner_1 rfl hl (by decide) rfl (fun ls hl => ?_)
    refine lv_iconst (v := (0 : Int32)) hx hb dX7_winner_2 (by decide) ?_
    refine lv_istore (lv' := [(4, .int (0 : Int32)), (3, .int (0 : Int32)), (0, .ref a0), (1, .int x1), (2, .int x2)]) hx hb dX7_winner_3 hl (by decide) rfl (fun ls hl => ?_)
    exact L5 N _ _ _ _ _ _ hg hw (lv_sub hl [2, 3, 4, 1, 0] rfl)
  exact B0 S0 _ _ _ hg hw hl
abbrev rm_X7_winnerNow : Room := { frames := 1, cells := 0, slots := 0, locals := 25 }
set_option maxHeartbeats 4000000 in
set_option maxRecDepth 100000 in
theorem c_X7_winnerNow (l : Launch) (D : va_G) (C : C3) (N : Nat) (S0 : Hp) (z : Nat) (a0 : Nat) (r : Int32) (S9 : Hp) (hg : f_X7_winnerNow N S0 a0 = some (r, S9)) : MetI l yX7_winnerNow wsX7_winnerNow rm_X7_winnerNow D C S0 z [.ref a0] r S9 z 0 0 := by
  refine mw_ofW (cc := cX7_winnerNow) (maxL := 1) (ret := (some .int)) (lv := [(0, .ref a0)]) (by decide) rfl (Nat.le_of_ble_eq_true rfl) rfl ?_
  intro p e s m below meth c ls hx hb hr hts hown hlk hml hnm hl hw
  have hown : s.vm.findClass RX7 = some m.cls := hown
  have B0 : ∀ (S : Hp) (H : Heap) (locs : List Loc) (ls : Array Slot), f_X7_winnerNow N S a0 = some (r, S9) → Wd D C (va_A (wP C S0) z) s.heap S z H locs s → lv_has ls 1 [(0, .ref a0)] → W p l e rm_X7_winnerNow s m ([.ref a0] : List Value).toArray below meth c H locs 0 0 (MQ below (QiW D C S0 z r S9 z) ([.ref a0] : List Value).toArray s 0 0 (va_A (wP C S0) z)) (F0 m 0 ls []) := by
    intro S H locs ls hg hw hl
    unfold f_X7_winnerNow at hg
    refine lv_aload_n hx hb dX7_winnerNow_0 rfl (lv_at hl 0 rfl) ?_
    refine lv_aload_n hx hb dX7_winnerNow_1 rfl (lv_at hl 0 rfl) ?_
    obtain ⟨hok10, hg⟩ := gd_some hg
    obtain ⟨r11, S11, hc11, hg⟩ := cl_some hg
    refine wr_ci (va_runV (As := []) (rest := [.ref a0]) ⟨hx, hb, hml, hown, hts⟩ (c_X7_maker l D C N S z a0 r11 S11 hc11) (cwV 0 hts gX7_winnerNow_X7_maker rfl rfl rfl (by decide +kernel) ⟨Nat.le_of_ble_eq_true rfl, Nat.le_of_ble_eq_true rfl⟩) (wd_preV hw hok10 (wF_7 (S := S) hok10.2) rfl) rfl rfl hl.1 rfl (lv_room (Nat.le_of_ble_eq_true rfl)) dX7_winnerNow_2 ⟨Nat.zero_le _, Nat.zero_le _⟩) hw (fun H locs hw => ?_)
    refine lv_aload_n hx hb dX7_winnerNow_5 rfl (lv_at hl 0 rfl) ?_
    obtain ⟨hok12, hg⟩ := gd_some hg
    obtain ⟨r13, S13, hc13, hg⟩ := cl_some hg
    refine wr_ci (va_runV (As := []) (rest := [.int r11, .ref a0]) ⟨hx, hb, hml, hown, hts⟩ (c_X7_breaker l D C N S11 z a0 r13 S13 hc13) (cwV 0 hts gX7_winnerNow_X7_breaker rfl rfl rfl (by decide +kernel) ⟨Nat.le_of_ble_eq_true rfl, Nat.le_of_ble_eq_true rfl⟩) (wd_preV hw hok12 (wF_7 (S := S11) hok12.2) rfl) rfl rfl hl.1 rfl (lv_room (Nat.le_of_ble_eq_true rfl)) dX7_winnerNow_6 ⟨Nat.zero_le _, Nat.zero_le _⟩) hw (fun H locs hw => ?_)
    obtain ⟨hok14, hg⟩ := gd_some hg
    obtain ⟨r15, S15, hc15, hg⟩ := cl_some hg
    refine wr_ci (va_runV (As := [.int r11, .int r13]) (rest := []) ⟨hx, hb, hml, hown, hts⟩ (c_X7_winner l D C N S13 z a0 r11 r13 r15 S15 hc15) (cwV 2 hts gX7_winnerNow_X7_winner rfl rfl rfl (by decide +kernel) ⟨Nat.le_of_ble_eq_true rfl, Nat.le_of_ble_eq_true rfl⟩) (wd_preV hw hok14 (wF_7 (S := S13) hok14.2) rfl) rfl rfl hl.1 rfl (lv_room (Nat.le_of_ble_eq_true rfl)) dX7_winnerNow_9 ⟨Nat.zero_le _, Nat.zero_le _⟩) hw (fun H locs hw => ?_)
    cases hg
    exact wr_iret hx hb hr hw dX7_winnerNow_12 hlk
  exact B0 S0 _ _ _ hg hw hl
theorem hi_X7_weight_X7 : ∀ w ∈ wsX70, w ∈ wsX7_weight := fun _ h => List.mem_cons_of_mem _ (List.mem_append_right _ (h))
abbrev rm_X7_weight : Room := { frames := 4, cells := 0, slots := 0, locals := 82 }
set_option maxHeartbeats 4000000 in
set_option maxRecDepth 100000 in
theorem c_X7_weight (l : Launch) (D : va_G) (C : C3) (N : Nat) (S0 : Hp) (z : Nat) (a0 : Nat) (r : Int32) (S9 : Hp) (hg : f_X7_weight N S0 a0 = some (r, S9)) : MetI l yX7_weight wsX7_weight rm_X7_weight D C S0 z [.ref a0] r S9 z 0 0 := by
  refine mw_ofW (cc := cX7_weight) (maxL := 3) (ret := (some .int)) (lv := [(0, .ref a0)]) (by decide) rfl (Nat.le_of_ble_eq_true rfl) rfl ?_
  intro p e s m below meth c ls hx hb hr hts hown hlk hml hnm hl hw
  have hown : s.vm.findClass RX7 = some m.cls := hown
  have B4 : ∀ (K4 : Hp → Int32 → Int32 → Option (Int32 × Hp)) (hK4 : ∀ (S : Hp) (v1 : Int32) (v2 : Int32) (H : Heap) (locs : List Loc) (ls : Array Slot), K4 S v1 v2 = some (r, S9) → Wd D C (va_A (wP C S0) z) s.heap S z H locs s → lv_has ls 3 [(0, .ref a0), (1, .int v1), (2, .int v2)] → W p l e rm_X7_weight s m ([.ref a0] : List Value).toArray below meth c H locs 0 0 (MQ below (QiW D C S0 z r S9 z) ([.ref a0] : List Value).toArray s 0 0 (va_A (wP C S0) z)) (F0 m 4 ls [])) (S : Hp) (v1 : Int32) (v2 : Int32) (H : Heap) (locs : List Loc) (ls : Array Slot), f_X7_weight_b4 N a0 K4 S v1 v2 = some (r, S9) → Wd D C (va_A (wP C S0) z) s.heap S z H locs s → lv_has ls 3 [(0, .ref a0), (1, .int v1), (2, .int v2)] → W p l e rm_X7_weight s m ([.ref a0] : List Value).toArray below meth c H locs 0 0 (MQ below (QiW D C S0 z r S9 z) ([.ref a0] : List Value).toArray s 0 0 (va_A (wP C S0) z)) (F0 m 4 ls []) := by
    intro K4 hK4 S v1 v2 H locs ls hg hw hl
    unfold f_X7_weight_b4 at hg
    refine lv_iload_n hx hb dX7_weight_4 rfl (lv_at hl 2 rfl) ?_
    refine lv_aload_n hx hb dX7_weight_5 rfl (lv_at hl 0 rfl) ?_
    obtain ⟨hok10, hg⟩ := gd_some hg
    obtain ⟨r11, hr11, hg⟩ := nn_some hg
    refine wr_get (K := RX7) (T := TX7) (N := 20) (index := 7) (ref := "MakerLinesModel") (v := .ref r11) hx hb hts hi_X7_weight_X7 hown hw hok10 (wF_7 (S := S) hok10.2) rfl 0 (by decide) (hts _ (List.mem_of_getElem? (i := 1) rfl)) (fun _ h9 => h9) (congrArg (fun o => some (va_rf o)) hr11) dX7_weight_6 ?_
    refine lv_iconst (v := (2 : Int32)) hx hb dX7_weight_9 (by decide) ?_
    obtain ⟨hok12, hg⟩ := gd_some hg
    obtain ⟨hin13, hg⟩ := gd_some hg
    refine wr_iald hx hb hw hok12 (inb_vp hin13) dX7_weight_10 ?_
    refine lv_icmp_ge (tgt := 28) hx hb dX7_weight_11 (by decide) (fun c14 => ?_) (fun c14 => ?_)
    · have hg := it_pos hg c14
      refine lv_iload_n hx hb dX7_weight_28 rfl (lv_at hl 1 rfl) ?_
      cases hg
      exact wr_iret hx hb hr hw dX7_weight_29 hlk
    · have hg := it_neg hg c14
      refine lv_iload_n hx hb dX7_weight_14 rfl (lv_at hl 1 rfl) ?_
      refine lv_aload_n hx hb dX7_weight_15 rfl (lv_at hl 0 rfl) ?_
      refine lv_iload_n hx hb dX7_weight_16 rfl (lv_at hl 2 rfl) ?_
      obtain ⟨r15, S15, hc15, hg⟩ := cl_some hg
      refine wr_ci (va_runV (As := [.int v2]) (rest := [.int v1]) ⟨hx, hb, hml, hown, hts⟩ (c_X7_weightOf l D C N S z a0 v2 r15 S15 hc15) (cwV 1 hts gX7_weight_X7_weightOf rfl rfl rfl (by decide +kernel) ⟨Nat.le_of_ble_eq_true rfl, Nat.le_of_ble_eq_true rfl⟩) (wd_preV hw hok10 (wF_7 (S := S) hok10.2) rfl) rfl rfl hl.1 rfl (lv_room (Nat.le_of_ble_eq_true rfl)) dX7_weight_17 ⟨Nat.zero_le _, Nat.zero_le _⟩) hw (fun H locs hw => ?_)
      refine lv_iadd hx hb dX7_weight_20 ?_
      refine lv_istore_n (lv' := [(1, .int (v1 + r15)), (0, .ref a0), (2, .int v2)]) hx hb dX7_weight_21 rfl hl (by decide) rfl (fun ls hl => ?_)
      refine lv_iinc (v := (v2 + (1 : Int32))) (lv' := [(2, .int (v2 + (1 : Int32))), (1, .int (v1 + r15)), (0, .ref a0)]) hx hb dX7_weight_22 hl (k := 2) rfl rfl (by decide) rfl (fun ls hl => ?_)
      refine lv_goto (tgt := 4) hx hb dX7_weight_25 (by decide) ?_
      exact hK4 _ _ _ _ _ _ hg hw (lv_sub hl [2, 1, 0] rfl)
  have L4 : ∀ (k : Nat) (S : Hp) (v1 : Int32) (v2 : Int32) (H : Heap) (locs : List Loc) (ls : Array Slot), f_X7_weight_l4 N a0 k S v1 v2 = some (r, S9) → Wd D C (va_A (wP C S0) z) s.heap S z H locs s → lv_has ls 3 [(0, .ref a0), (1, .int v1), (2, .int v2)] → W p l e rm_X7_weight s m ([.ref a0] : List Value).toArray below meth c H locs 0 0 (MQ below (QiW D C S0 z r S9 z) ([.ref a0] : List Value).toArray s 0 0 (va_A (wP C S0) z)) (F0 m 4 ls []) := by
    intro k
    induction k with
    | zero => intro S v1 v2 H locs ls hg hw hl; exact absurd (show (none : Option (Int32 × Hp)) = some (r, S9) from hg) (by simp)
    | succ k ih => intro S v1 v2 H locs ls hg hw hl; exact B4 (f_X7_weight_l4 N a0 k) ih S v1 v2 H locs ls hg hw hl
  have B0 : ∀ (S : Hp) (H : Heap) (locs : List Loc) (ls : Array Slot), f_X7_weight N S a0 = some (r, S9) → Wd D C (va_A (wP C S0) z) s.heap S z H locs s → lv_has ls 3 [(0, .ref a0)] → W p l e rm_X7_weight s m ([.ref a0] : List Value).toArray below meth c H locs 0 0 (MQ below (QiW D C S0 z r S9 z) ([.ref a0] : List Value).toArray s 0 0 (va_A (wP C S0) z)) (F0 m 0 ls []) := by
    intro S H locs ls hg hw hl
    unfold f_X7_weight at hg
    refine lv_iconst (v := (0 : Int32)) hx hb dX7_weight_0 (by decide) ?_
    refine lv_istore_n (lv' := [(1, .int (0 : Int32)), (0, .ref a0)]) hx hb dX7_weight_1 rfl hl (by decide) rfl (fun ls hl => ?_)
    refine lv_iconst (v := (0 : Int32)) hx hb dX7_weight_2 (by decide) ?_
    refine lv_istore_n (lv' := [(2, .int (0 : Int32)), (1, .int (0 : Int32)), (0, .ref a0)]) hx hb dX7_weight_3 rfl hl (by decide) rfl (fun ls hl => ?_)
    exact L4 N _ _ _ _ _ _ hg hw (lv_sub hl [2, 1, 0] rfl)
  exact B0 S0 _ _ _ hg hw hl
theorem hi_X7_danger_X7 : ∀ w ∈ wsX70, w ∈ wsX7_danger := fun _ h => List.mem_cons_of_mem _ (List.mem_append_right _ (h))
abbrev rm_X7_danger : Room := { frames := 4, cells := 0, slots := 0, locals := 82 }
set_option maxHeartbeats 4000000 in
set_option maxRecDepth 100000 in
theorem c_X7_danger (l : Launch) (D : va_G) (C : C3) (N : Nat) (S0 : Hp) (z : Nat) (a0 : Nat) (x1 : Int32) (r : Int32) (S9 : Hp) (hg : f_X7_danger N S0 a0 x1 = some (r, S9)) : MetI l yX7_danger wsX7_danger rm_X7_danger D C S0 z [.ref a0, .int x1] r S9 z 0 0 := by
  refine mw_ofW (cc := cX7_danger) (maxL := 4) (ret := (some .int)) (lv := [(0, .ref a0), (1, .int x1)]) (by decide) rfl (Nat.le_of_ble_eq_true rfl) rfl ?_
  intro p e s m below meth c ls hx hb hr hts hown hlk hml hnm hl hw
  have hown : s.vm.findClass RX7 = some m.cls := hown
  have B4 : ∀ (K4 : Hp → Int32 → Int32 → Option (Int32 × Hp)) (hK4 : ∀ (S : Hp) (v2 : Int32) (v3 : Int32) (H : Heap) (locs : List Loc) (ls : Array Slot), K4 S v2 v3 = some (r, S9) → Wd D C (va_A (wP C S0) z) s.heap S z H locs s → lv_has ls 4 [(0, .ref a0), (1, .int x1), (2, .int v2), (3, .int v3)] → W p l e rm_X7_danger s m ([.ref a0, .int x1] : List Value).toArray below meth c H locs 0 0 (MQ below (QiW D C S0 z r S9 z) ([.ref a0, .int x1] : List Value).toArray s 0 0 (va_A (wP C S0) z)) (F0 m 4 ls [])) (S : Hp) (v2 : Int32) (v3 : Int32) (H : Heap) (locs : List Loc) (ls : Array Slot), f_X7_danger_b4 N a0 x1 K4 S v2 v3 = some (r, S9) → Wd D C (va_A (wP C S0) z) s.heap S z H locs s → lv_has ls 4 [(0, .ref a0), (1, .int x1), (2, .int v2), (3, .int v3)] → W p l e rm_X7_danger s m ([.ref a0, .int x1] : List Value).toArray below meth c H locs 0 0 (MQ below (QiW D C S0 z r S9 z) ([.ref a0, .int x1] : List Value).toArray s 0 0 (va_A (wP C S0) z)) (F0 m 4 ls []) := by
    intro K4 hK4 S v2 v3 H locs ls hg hw hl
    unfold f_X7_danger_b4 at hg
    refine lv_iload_n hx hb dX7_danger_4 rfl (lv_at hl 3 rfl) ?_
    refine lv_aload_n hx hb dX7_danger_5 rfl (lv_at hl 0 rfl) ?_
    obtain ⟨hok10, hg⟩ := gd_some hg
    obtain ⟨r11, hr11, hg⟩ := nn_some hg
    refine wr_get (K := RX7) (T := TX7) (N := 20) (index := 7) (ref := "MakerLinesModel") (v := .ref r11) hx hb hts hi_X7_danger_X7 hown hw hok10 (wF_7 (S := S) hok10.2) rfl 0 (by decide) (hts _ (List.mem_of_getElem? (i := 1) rfl)) (fun _ h9 => h9) (congrArg (fun o => some (va_rf o)) hr11) dX7_danger_6 ?_
    refine lv_iconst (v := (2 : Int32)) hx hb dX7_danger_9 (by decide) ?_
    obtain ⟨hok12, hg⟩ := gd_some hg
    obtain ⟨hin13, hg⟩ := gd_some hg
    refine wr_iald hx hb hw hok12 (inb_vp hin13) dX7_danger_10 ?_
    refine lv_icmp_ge (tgt := 44) hx hb dX7_danger_11 (by decide) (fun c14 => ?_) (fun c14 => ?_)
    · have hg := it_pos hg c14
      refine lv_iload_n hx hb dX7_danger_44 rfl (lv_at hl 2 rfl) ?_
      cases hg
      exact wr_iret hx hb hr hw dX7_danger_45 hlk
    · have hg := it_neg hg c14
      refine lv_iload_n hx hb dX7_danger_14 rfl (lv_at hl 2 rfl) ?_
      refine lv_aload_n hx hb dX7_danger_15 rfl (lv_at hl 0 rfl) ?_
      refine lv_iload_n hx hb dX7_danger_16 rfl (lv_at hl 3 rfl) ?_
      obtain ⟨r15, S15, hc15, hg⟩ := cl_some hg
      refine wr_ci (va_runV (As := [.int v3]) (rest := [.int v2]) ⟨hx, hb, hml, hown, hts⟩ (c_X7_freeOf l D C N S z a0 v3 r15 S15 hc15) (cwV 1 hts gX7_danger_X7_freeOf rfl rfl rfl (by decide +kernel) ⟨Nat.le_of_ble_eq_true rfl, Nat.le_of_ble_eq_true rfl⟩) (wd_preV hw hok10 (wF_7 (S := S) hok10.2) rfl) rfl rfl hl.1 rfl (lv_room (Nat.le_of_ble_eq_true rfl)) dX7_danger_17 ⟨Nat.zero_le _, Nat.zero_le _⟩) hw (fun H locs hw => ?_)
      refine lv_iload_n hx hb dX7_danger_20 rfl (lv_at hl 1 rfl) ?_
      obtain ⟨r16, S16, hc16, hg⟩ := cl_some hg
      refine wr_ci (va_runS (As := [.int r15, .int x1]) (rest := [.int v2]) ⟨hx, hb, hml, hown, hts⟩ (c_X7_has l D C N S15 z r15 x1 r16 S16 hc16) (va_cwS 2 hts gX7_danger_X7_has rfl rfl rfl (by decide +kernel) ⟨Nat.le_of_ble_eq_true rfl, Nat.le_of_ble_eq_true rfl⟩) (wd_preS hw) rfl rfl hl.1 rfl (lv_room (Nat.le_of_ble_eq_true rfl)) dX7_danger_21 ⟨Nat.zero_le _, Nat.zero_le _⟩) hw (fun H locs hw => ?_)
      refine lv_if_eq (tgt := 35) hx hb dX7_danger_24 (by decide) (fun c17 => ?_) (fun c17 => ?_)
      · have hg := it_pos hg c17
        refine lv_iconst (v := (0 : Int32)) hx hb dX7_danger_35 (by decide) ?_
        refine lv_iadd hx hb dX7_danger_36 ?_
        refine lv_istore_n (lv' := [(2, .int (v2 + (0 : Int32))), (0, .ref a0), (1, .int x1), (3, .int v3)]) hx hb dX7_danger_37 rfl hl (by decide) rfl (fun ls hl => ?_)
        refine lv_iinc (v := (v3 + (1 : Int32))) (lv' := [(3, .int (v3 + (1 : Int32))), (2, .int (v2 + (0 : Int32))), (0, .ref a0), (1, .int x1)]) hx hb dX7_danger_38 hl (k := 3) rfl rfl (by decide) rfl (fun ls hl => ?_)
        refine lv_goto (tgt := 4) hx hb dX7_danger_41 (by decide) ?_
        exact hK4 _ _ _ _ _ _ hg hw (lv_sub hl [2, 3, 1, 0] rfl)
      · have hg := it_neg hg c17
        refine lv_aload_n hx hb dX7_danger_27 rfl (lv_at hl 0 rfl) ?_
        refine lv_iload_n hx hb dX7_danger_28 rfl (lv_at hl 3 rfl) ?_
        obtain ⟨hok18, hg⟩ := gd_some hg
        obtain ⟨r19, S19, hc19, hg⟩ := cl_some hg
        refine wr_ci (va_runV (As := [.int v3]) (rest := [.int v2]) ⟨hx, hb, hml, hown, hts⟩ (c_X7_weightOf l D C N S16 z a0 v3 r19 S19 hc19) (cwV 1 hts gX7_danger_X7_weightOf rfl rfl rfl (by decide +kernel) ⟨Nat.le_of_ble_eq_true rfl, Nat.le_of_ble_eq_true rfl⟩) (wd_preV hw hok18 (wF_7 (S := S16) hok18.2) rfl) rfl rfl hl.1 rfl (lv_room (Nat.le_of_ble_eq_true rfl)) dX7_danger_29 ⟨Nat.zero_le _, Nat.zero_le _⟩) hw (fun H locs hw => ?_)
        refine lv_goto (tgt := 36) hx hb dX7_danger_32 (by decide) ?_
        refine lv_iadd hx hb dX7_danger_36 ?_
        refine lv_istore_n (lv' := [(2, .int (v2 + r19)), (0, .ref a0), (1, .int x1), (3, .int v3)]) hx hb dX7_danger_37 rfl hl (by decide) rfl (fun ls hl => ?_)
        refine lv_iinc (v := (v3 + (1 : Int32))) (lv' := [(3, .int (v3 + (1 : Int32))), (2, .int (v2 + r19)), (0, .ref a0), (1, .int x1)]) hx hb dX7_danger_38 hl (k := 3) rfl rfl (by decide) rfl (fun ls hl => ?_)
        refine lv_goto (tgt := 4) hx hb dX7_danger_41 (by decide) ?_
        exact hK4 _ _ _ _ _ _ hg hw (lv_sub hl [2, 3, 1, 0] rfl)
  have L4 : ∀ (k : Nat) (S : Hp) (v2 : Int32) (v3 : Int32) (H : Heap) (locs : List Loc) (ls : Array Slot), f_X7_danger_l4 N a0 x1 k S v2 v3 = some (r, S9) → Wd D C (va_A (wP C S0) z) s.heap S z H locs s → lv_has ls 4 [(0, .ref a0), (1, .int x1), (2, .int v2), (3, .int v3)] → W p l e rm_X7_danger s m ([.ref a0, .int x1] : List Value).toArray below meth c H locs 0 0 (MQ below (QiW D C S0 z r S9 z) ([.ref a0, .int x1] : List Value).toArray s 0 0 (va_A (wP C S0) z)) (F0 m 4 ls []) := by
    intro k
    induction k with
    | zero => intro S v2 v3 H locs ls hg hw hl; exact absurd (show (none : Option (Int32 × Hp)) = some (r, S9) from hg) (by simp)
    | succ k ih => intro S v2 v3 H locs ls hg hw hl; exact B4 (f_X7_danger_l4 N a0 x1 k) ih S v2 v3 H locs ls hg hw hl
  have B0 : ∀ (S : Hp) (H : Heap) (locs : List Loc) (ls : Array Slot), f_X7_danger N S a0 x1 = some (r, S9) → Wd D C (va_A (wP C S0) z) s.heap S z H locs s → lv_has ls 4 [(0, .ref a0), (1, .int x1)] → W p l e rm_X7_danger s m ([.ref a0, .int x1] : List Value).toArray below meth c H locs 0 0 (MQ below (QiW D C S0 z r S9 z) ([.ref a0, .int x1] : List Value).toArray s 0 0 (va_A (wP C S0) z)) (F0 m 0 ls []) := by
    intro S H locs ls hg hw hl
    unfold f_X7_danger at hg
    refine lv_iconst (v := (0 : Int32)) hx hb dX7_danger_0 (by decide) ?_
    refine lv_istore_n (lv' := [(2, .int (0 : Int32)), (0, .ref a0), (1, .int x1)]) hx hb dX7_danger_1 rfl hl (by decide) rfl (fun ls hl => ?_)
    refine lv_iconst (v := (0 : Int32)) hx hb dX7_danger_2 (by decide) ?_
    refine lv_istore_n (lv' := [(3, .int (0 : Int32)), (2, .int (0 : Int32)), (0, .ref a0), (1, .int x1)]) hx hb dX7_danger_3 rfl hl (by decide) rfl (fun ls hl => ?_)
    exact L4 N _ _ _ _ _ _ hg hw (lv_sub hl [2, 3, 1, 0] rfl)
  exact B0 S0 _ _ _ hg hw hl
