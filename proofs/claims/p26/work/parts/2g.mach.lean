abbrev rm_L_reply : Room := { frames := 3, cells := 0, slots := 0, locals := 68 }
set_option maxHeartbeats 4000000 in
set_option maxRecDepth 100000 in
theorem c_L_reply (l : Launch) (D : va_G) (C : C3) (N : Nat) (S0 : Hp) (z : Nat) (a0 : Nat) (a1 : Nat) (x2 : Int32) (r : Int32) (S9 : Hp) (hg : f_L_reply N S0 a0 a1 x2 = some (r, S9)) : MetI l yL_reply wsL_reply rm_L_reply D C S0 z [.ref a0, .ref a1, .int x2] r S9 z 0 0 := by
  refine mw_ofW (cc := cL_reply) (maxL := 5) (ret := (some .int)) (lv := [(0, .ref a0), (1, .ref a1), (2, .int x2)]) (by decide) rfl (Nat.le_of_ble_eq_true rfl) rfl ?_
  intro p e s m below meth c ls hx hb hr hts hown hlk hml hnm hl hw
  have hown : s.vm.findClass RL = some m.cls := hown
  have B65 : ∀ (K65 : Hp → Int32 → Int32 → Option (Int32 × Hp)) (hK65 : ∀ (S : Hp) (v3 : Int32) (v4 : Int32) (H : Heap) (locs : List Loc) (ls : Array Slot), K65 S v3 v4 = some (r, S9) → Wd D C (va_A (wP C S0) z) s.heap S z H locs s → lv_has ls 5 [(0, .ref a0), (1, .ref a1), (3, .int v3), (4, .int v4)] → W p l e rm_L_reply s m ([.ref a0, .ref a1, .int x2] : List Value).toArray below meth c H locs 0 0 (MQ below (QiW D C S0 z r S9 z) ([.ref a0, .ref a1, .int x2] : List Value).toArray s 0 0 (va_A (wP C S0) z)) (F0 m 65 ls [])) (S : Hp) (v3 : Int32) (v4 : Int32) (H : Heap) (locs : List Loc) (ls : Array Slot), f_L_reply_b65 N a0 a1 x2 K65 S v3 v4 = some (r, S9) → Wd D C (va_A (wP C S0) z) s.heap S z H locs s → lv_has ls 5 [(0, .ref a0), (1, .ref a1), (3, .int v3), (4, .int v4)] → W p l e rm_L_reply s m ([.ref a0, .ref a1, .int x2] : List Value).toArray below meth c H locs 0 0 (MQ below (QiW D C S0 z r S9 z) ([.ref a0, .ref a1, .int x2] : List Value).toArray s 0 0 (va_A (wP C S0) z)) (F0 m 65 ls []) := by
    intro K65 hK65 S v3 v4 H locs ls hg hw hl
    unfold f_L_reply_b65 at hg
    refine lv_iload hx hb dL_reply_65 (lv_at hl 3 rfl) ?_
    refine lv_if_lt (tgt := 112) hx hb dL_reply_67 (by decide) (fun c26 => ?_) (fun c26 => ?_)
    · have hg := it_pos hg c26
      refine lv_iload_n hx hb dL_reply_112 rfl (lv_at hl 2 rfl) ?_
      cases hg
      exact wr_iret hx hb hr hw dL_reply_113 hlk
    · have hg := it_neg hg c26
      refine lv_aload_n hx hb dL_reply_70 rfl (lv_at hl 0 rfl) ?_
      obtain ⟨r27, S27, hc27, hg⟩ := cl_some hg
      refine wr_ci (va_runS (As := [.ref a0]) (rest := []) ⟨hx, hb, hml, hown, hts⟩ (c_L_free l D C N S z a0 r27 S27 hc27) (va_cwS 1 hts gL_reply_L_free rfl rfl rfl (by decide +kernel) ⟨Nat.le_of_ble_eq_true rfl, Nat.le_of_ble_eq_true rfl⟩) (wd_preS hw) rfl rfl hl.1 rfl (lv_room (Nat.le_of_ble_eq_true rfl)) dL_reply_71 ⟨Nat.zero_le _, Nat.zero_le _⟩) hw (fun H locs hw => ?_)
      refine lv_iload hx hb dL_reply_74 (lv_at hl 3 rfl) ?_
      refine lv_ishr hx hb dL_reply_76 ?_
      refine lv_iconst (v := (1 : Int32)) hx hb dL_reply_77 (by decide) ?_
      refine lv_iand hx hb dL_reply_78 ?_
      refine lv_iconst (v := (1 : Int32)) hx hb dL_reply_79 (by decide) ?_
      refine lv_icmp_ne (tgt := 106) hx hb dL_reply_80 (by decide) (fun c28 => ?_) (fun c28 => ?_)
      · have hg := it_neg hg c28
        refine lv_iinc (v := (v4 + (-1 : Int32))) (lv' := [(4, .int (v4 + (-1 : Int32))), (0, .ref a0), (1, .ref a1), (3, .int v3)]) hx hb dL_reply_106 hl (k := 3) rfl rfl (by decide) rfl (fun ls hl => ?_)
        refine lv_goto (tgt := 65) hx hb dL_reply_109 (by decide) ?_
        exact hK65 _ _ _ _ _ _ hg hw (lv_sub hl [1, 2, 3, 0] rfl)
      · have hg := it_pos hg c28
        refine lv_iload_n hx hb dL_reply_83 rfl (lv_at hl 2 rfl) ?_
        refine lv_if_lt (tgt := 103) hx hb dL_reply_84 (by decide) (fun c29 => ?_) (fun c29 => ?_)
        · have hg := it_pos hg c29
          refine lv_iload hx hb dL_reply_103 (lv_at hl 3 rfl) ?_
          refine lv_istore_n (lv' := [(3, .int v4), (0, .ref a0), (1, .ref a1), (4, .int v4)]) hx hb dL_reply_105 rfl hl (by decide) rfl (fun ls hl => ?_)
          refine lv_iinc (v := (v4 + (-1 : Int32))) (lv' := [(4, .int (v4 + (-1 : Int32))), (3, .int v4), (0, .ref a0), (1, .ref a1)]) hx hb dL_reply_106 hl (k := 3) rfl rfl (by decide) rfl (fun ls hl => ?_)
          refine lv_goto (tgt := 65) hx hb dL_reply_109 (by decide) ?_
          exact hK65 _ _ _ _ _ _ hg hw (lv_sub hl [2, 3, 1, 0] rfl)
        · have hg := it_neg hg c29
          refine lv_aload_n hx hb dL_reply_87 rfl (lv_at hl 0 rfl) ?_
          refine lv_aload_n hx hb dL_reply_88 rfl (lv_at hl 1 rfl) ?_
          refine lv_iload hx hb dL_reply_89 (lv_at hl 3 rfl) ?_
          obtain ⟨r30, S30, hc30, hg⟩ := cl_some hg
          refine wr_ci (va_runS (As := [.ref a0, .ref a1, .int v4]) (rest := []) ⟨hx, hb, hml, hown, hts⟩ (c_L_danger l D C N S27 z a0 a1 v4 r30 S30 hc30) (va_cwS 3 hts gL_reply_L_danger rfl rfl rfl (by decide +kernel) ⟨Nat.le_of_ble_eq_true rfl, Nat.le_of_ble_eq_true rfl⟩) (wd_preS hw) rfl rfl hl.1 rfl (lv_room (Nat.le_of_ble_eq_true rfl)) dL_reply_91 ⟨Nat.zero_le _, Nat.zero_le _⟩) hw (fun H locs hw => ?_)
          refine lv_aload_n hx hb dL_reply_94 rfl (lv_at hl 0 rfl) ?_
          refine lv_aload_n hx hb dL_reply_95 rfl (lv_at hl 1 rfl) ?_
          refine lv_iload_n hx hb dL_reply_96 rfl (lv_at hl 2 rfl) ?_
          obtain ⟨r31, S31, hc31, hg⟩ := cl_some hg
          refine wr_ci (va_runS (As := [.ref a0, .ref a1, .int v3]) (rest := [.int r30]) ⟨hx, hb, hml, hown, hts⟩ (c_L_danger l D C N S30 z a0 a1 v3 r31 S31 hc31) (va_cwS 3 hts gL_reply_L_danger rfl rfl rfl (by decide +kernel) ⟨Nat.le_of_ble_eq_true rfl, Nat.le_of_ble_eq_true rfl⟩) (wd_preS hw) rfl rfl hl.1 rfl (lv_room (Nat.le_of_ble_eq_true rfl)) dL_reply_97 ⟨Nat.zero_le _, Nat.zero_le _⟩) hw (fun H locs hw => ?_)
          refine lv_icmp_lt (tgt := 106) hx hb dL_reply_100 (by decide) (fun c32 => ?_) (fun c32 => ?_)
          · have hg := it_pos hg c32
            refine lv_iinc (v := (v4 + (-1 : Int32))) (lv' := [(4, .int (v4 + (-1 : Int32))), (0, .ref a0), (1, .ref a1), (3, .int v3)]) hx hb dL_reply_106 hl (k := 3) rfl rfl (by decide) rfl (fun ls hl => ?_)
            refine lv_goto (tgt := 65) hx hb dL_reply_109 (by decide) ?_
            exact hK65 _ _ _ _ _ _ hg hw (lv_sub hl [1, 2, 3, 0] rfl)
          · have hg := it_neg hg c32
            refine lv_iload hx hb dL_reply_103 (lv_at hl 3 rfl) ?_
            refine lv_istore_n (lv' := [(3, .int v4), (0, .ref a0), (1, .ref a1), (4, .int v4)]) hx hb dL_reply_105 rfl hl (by decide) rfl (fun ls hl => ?_)
            refine lv_iinc (v := (v4 + (-1 : Int32))) (lv' := [(4, .int (v4 + (-1 : Int32))), (3, .int v4), (0, .ref a0), (1, .ref a1)]) hx hb dL_reply_106 hl (k := 3) rfl rfl (by decide) rfl (fun ls hl => ?_)
            refine lv_goto (tgt := 65) hx hb dL_reply_109 (by decide) ?_
            exact hK65 _ _ _ _ _ _ hg hw (lv_sub hl [2, 3, 1, 0] rfl)
  have L65 : ∀ (k : Nat) (S : Hp) (v3 : Int32) (v4 : Int32) (H : Heap) (locs : List Loc) (ls : Array Slot), f_L_reply_l65 N a0 a1 x2 k S v3 v4 = some (r, S9) → Wd D C (va_A (wP C S0) z) s.heap S z H locs s → lv_has ls 5 [(0, .ref a0), (1, .ref a1), (3, .int v3), (4, .int v4)] → W p l e rm_L_reply s m ([.ref a0, .ref a1, .int x2] : List Value).toArray below meth c H locs 0 0 (MQ below (QiW D C S0 z r S9 z) ([.ref a0, .ref a1, .int x2] : List Value).toArray s 0 0 (va_A (wP C S0) z)) (F0 m 65 ls []) := by
    intro k
    induction k with
    | zero => intro S v3 v4 H locs ls hg hw hl; exact absurd (show (none : Option (Int32 × Hp)) = some (r, S9) from hg) (by simp)
    | succ k ih => intro S v3 v4 H locs ls hg hw hl; exact B65 (f_L_reply_l65 N a0 a1 x2 k) ih S v3 v4 H locs ls hg hw hl
  have B39 : ∀ (S : Hp) (H : Heap) (locs : List Loc) (ls : Array Slot), f_L_reply_b39 N a0 a1 x2 S = some (r, S9) → Wd D C (va_A (wP C S0) z) s.heap S z H locs s → lv_has ls 5 [(0, .ref a0), (1, .ref a1)] → W p l e rm_L_reply s m ([.ref a0, .ref a1, .int x2] : List Value).toArray below meth c H locs 0 0 (MQ below (QiW D C S0 z r S9 z) ([.ref a0, .ref a1, .int x2] : List Value).toArray s 0 0 (va_A (wP C S0) z)) (F0 m 39 ls []) := by
    intro S H locs ls hg hw hl
    unfold f_L_reply_b39 at hg
    refine lv_aload_n hx hb dL_reply_39 rfl (lv_at hl 0 rfl) ?_
    refine lv_aload_n hx hb dL_reply_40 rfl (lv_at hl 1 rfl) ?_
    obtain ⟨r19, S19, hc19, hg⟩ := cl_some hg
    refine wr_ci (va_runS (As := [.ref a0, .ref a1]) (rest := []) ⟨hx, hb, hml, hown, hts⟩ (c_L_threats l D C N S z a0 a1 r19 S19 hc19) (va_cwS 2 hts gL_reply_L_threats rfl rfl rfl (by decide +kernel) ⟨Nat.le_of_ble_eq_true rfl, Nat.le_of_ble_eq_true rfl⟩) (wd_preS hw) rfl rfl hl.1 rfl (lv_room (Nat.le_of_ble_eq_true rfl)) dL_reply_41 ⟨Nat.zero_le _, Nat.zero_le _⟩) hw (fun H locs hw => ?_)
    refine lv_if_eq (tgt := 56) hx hb dL_reply_44 (by decide) (fun c20 => ?_) (fun c20 => ?_)
    · have hg := it_pos hg c20
      refine lv_iconst (v := (-1 : Int32)) hx hb dL_reply_56 (by decide) ?_
      refine lv_istore_n (lv' := [(3, .int (-1 : Int32)), (0, .ref a0), (1, .ref a1)]) hx hb dL_reply_57 rfl hl (by decide) rfl (fun ls hl => ?_)
      refine lv_aload_n hx hb dL_reply_58 rfl (lv_at hl 1 rfl) ?_
      refine lv_iconst (v := (0 : Int32)) hx hb dL_reply_59 (by decide) ?_
      obtain ⟨hok21, hg⟩ := gd_some hg
      obtain ⟨hin22, hg⟩ := gd_some hg
      refine wr_iald hx hb hw hok21 (inb_vp hin22) dL_reply_60 ?_
      refine lv_iconst (v := (1 : Int32)) hx hb dL_reply_61 (by decide) ?_
      refine lv_isub hx hb dL_reply_62 ?_
      obtain ⟨e23, he23, hg⟩ := bd_some hg
      refine lv_istore (lv' := [(4, .int e23), (3, .int (-1 : Int32)), (0, .ref a0), (1, .ref a1)]) hx hb dL_reply_63 hl (by decide) (by rw [he23]; rfl) (fun ls hl => ?_)
      exact L65 N _ _ _ _ _ _ hg hw (lv_sub hl [2, 3, 1, 0] rfl)
    · have hg := it_neg hg c20
      refine lv_aload_n hx hb dL_reply_47 rfl (lv_at hl 0 rfl) ?_
      refine lv_aload_n hx hb dL_reply_48 rfl (lv_at hl 1 rfl) ?_
      obtain ⟨r24, S24, hc24, hg⟩ := cl_some hg
      refine wr_ci (va_runS (As := [.ref a0, .ref a1]) (rest := []) ⟨hx, hb, hml, hown, hts⟩ (c_L_threats l D C N S19 z a0 a1 r24 S24 hc24) (va_cwS 2 hts gL_reply_L_threats rfl rfl rfl (by decide +kernel) ⟨Nat.le_of_ble_eq_true rfl, Nat.le_of_ble_eq_true rfl⟩) (wd_preS hw) rfl rfl hl.1 rfl (lv_room (Nat.le_of_ble_eq_true rfl)) dL_reply_49 ⟨Nat.zero_le _, Nat.zero_le _⟩) hw (fun H locs hw => ?_)
      obtain ⟨r25, S25, hc25, hg⟩ := cl_some hg
      refine wr_ci (va_runS (As := [.int r24]) (rest := []) ⟨hx, hb, hml, hown, hts⟩ (c_L_low l D C N S24 z r24 r25 S25 hc25) (va_cwS 1 hts gL_reply_L_low rfl rfl rfl (by decide +kernel) ⟨Nat.le_of_ble_eq_true rfl, Nat.le_of_ble_eq_true rfl⟩) (wd_preS hw) rfl rfl hl.1 rfl (lv_room (Nat.le_of_ble_eq_true rfl)) dL_reply_52 ⟨Nat.zero_le _, Nat.zero_le _⟩) hw (fun H locs hw => ?_)
      cases hg
      exact wr_iret hx hb hr hw dL_reply_55 hlk
  have B0 : ∀ (S : Hp) (H : Heap) (locs : List Loc) (ls : Array Slot), f_L_reply N S a0 a1 x2 = some (r, S9) → Wd D C (va_A (wP C S0) z) s.heap S z H locs s → lv_has ls 5 [(0, .ref a0), (1, .ref a1), (2, .int x2)] → W p l e rm_L_reply s m ([.ref a0, .ref a1, .int x2] : List Value).toArray below meth c H locs 0 0 (MQ below (QiW D C S0 z r S9 z) ([.ref a0, .ref a1, .int x2] : List Value).toArray s 0 0 (va_A (wP C S0) z)) (F0 m 0 ls []) := by
    intro S H locs ls hg hw hl
    unfold f_L_reply at hg
    refine lv_aload_n hx hb dL_reply_0 rfl (lv_at hl 0 rfl) ?_
    refine lv_aload_n hx hb dL_reply_1 rfl (lv_at hl 1 rfl) ?_
    obtain ⟨r10, S10, hc10, hg⟩ := cl_some hg
    refine wr_ci (va_runS (As := [.ref a0, .ref a1]) (rest := []) ⟨hx, hb, hml, hown, hts⟩ (c_L_winner l D C N S z a0 a1 r10 S10 hc10) (va_cwS 2 hts gL_reply_L_winner rfl rfl rfl (by decide +kernel) ⟨Nat.le_of_ble_eq_true rfl, Nat.le_of_ble_eq_true rfl⟩) (wd_preS hw) rfl rfl hl.1 rfl (lv_room (Nat.le_of_ble_eq_true rfl)) dL_reply_2 ⟨Nat.zero_le _, Nat.zero_le _⟩) hw (fun H locs hw => ?_)
    refine lv_if_le (tgt := 10) hx hb dL_reply_5 (by decide) (fun c11 => ?_) (fun c11 => ?_)
    · have hg := it_pos hg c11
      refine lv_iload_n hx hb dL_reply_10 rfl (lv_at hl 2 rfl) ?_
      refine lv_if_ne (tgt := 22) hx hb dL_reply_11 (by decide) (fun c12 => ?_) (fun c12 => ?_)
      · have hg := it_neg hg c12
        refine lv_iload_n hx hb dL_reply_22 rfl (lv_at hl 2 rfl) ?_
        refine lv_iconst (v := (2 : Int32)) hx hb dL_reply_23 (by decide) ?_
        refine lv_icmp_ne (tgt := 39) hx hb dL_reply_24 (by decide) (fun c13 => ?_) (fun c13 => ?_)
        · have hg := it_neg hg c13
          exact B39 _ _ _ _ hg hw (lv_sub hl [0, 1] rfl)
        · have hg := it_pos hg c13
          refine lv_aload_n hx hb dL_reply_27 rfl (lv_at hl 0 rfl) ?_
          refine lv_bipush (v := (6 : Int32)) hx hb dL_reply_28 (by decide) ?_
          obtain ⟨hok14, hg⟩ := gd_some hg
          obtain ⟨hin15, hg⟩ := gd_some hg
          refine wr_iald hx hb hw hok14 (inb_vp hin15) dL_reply_30 ?_
          refine lv_if_lt (tgt := 39) hx hb dL_reply_31 (by decide) (fun c16 => ?_) (fun c16 => ?_)
          · have hg := it_pos hg c16
            exact B39 _ _ _ _ hg hw (lv_sub hl [0, 1] rfl)
          · have hg := it_neg hg c16
            refine lv_aload_n hx hb dL_reply_34 rfl (lv_at hl 0 rfl) ?_
            refine lv_bipush (v := (6 : Int32)) hx hb dL_reply_35 (by decide) ?_
            refine wr_iald hx hb hw hok14 (inb_vp hin15) dL_reply_37 ?_
            cases hg
            exact wr_iret hx hb hr hw dL_reply_38 hlk
      · have hg := it_pos hg c12
        refine lv_aload_n hx hb dL_reply_14 rfl (lv_at hl 0 rfl) ?_
        obtain ⟨r17, S17, hc17, hg⟩ := cl_some hg
        refine wr_ci (va_runS (As := [.ref a0]) (rest := []) ⟨hx, hb, hml, hown, hts⟩ (c_L_free l D C N S10 z a0 r17 S17 hc17) (va_cwS 1 hts gL_reply_L_free rfl rfl rfl (by decide +kernel) ⟨Nat.le_of_ble_eq_true rfl, Nat.le_of_ble_eq_true rfl⟩) (wd_preS hw) rfl rfl hl.1 rfl (lv_room (Nat.le_of_ble_eq_true rfl)) dL_reply_15 ⟨Nat.zero_le _, Nat.zero_le _⟩) hw (fun H locs hw => ?_)
        obtain ⟨r18, S18, hc18, hg⟩ := cl_some hg
        refine wr_ci (va_runS (As := [.int r17]) (rest := []) ⟨hx, hb, hml, hown, hts⟩ (c_L_low l D C N S17 z r17 r18 S18 hc18) (va_cwS 1 hts gL_reply_L_low rfl rfl rfl (by decide +kernel) ⟨Nat.le_of_ble_eq_true rfl, Nat.le_of_ble_eq_true rfl⟩) (wd_preS hw) rfl rfl hl.1 rfl (lv_room (Nat.le_of_ble_eq_true rfl)) dL_reply_18 ⟨Nat.zero_le _, Nat.zero_le _⟩) hw (fun H locs hw => ?_)
        cases hg
        exact wr_iret hx hb hr hw dL_reply_21 hlk
    · have hg := it_neg hg c11
      refine lv_iconst (v := (-1 : Int32)) hx hb dL_reply_8 (by decide) ?_
      cases hg
      exact wr_iret hx hb hr hw dL_reply_9 hlk
  exact B0 S0 _ _ _ hg hw hl
abbrev rm_L_moves : Room := { frames := 2, cells := 0, slots := 0, locals := 50 }
set_option maxHeartbeats 4000000 in
set_option maxRecDepth 100000 in
theorem c_L_moves (l : Launch) (D : va_G) (C : C3) (N : Nat) (S0 : Hp) (z : Nat) (a0 : Nat) (a1 : Nat) (a2 : Nat) (x3 : Int32) (r : Unit) (S9 : Hp) (hg : f_L_moves N S0 a0 a1 a2 x3 = some (r, S9)) : MetV l yL_moves wsL_moves rm_L_moves D C S0 z [.ref a0, .ref a1, .ref a2, .int x3] r S9 z 0 0 := by
  refine mw_ofW (cc := cL_moves) (maxL := 5) (ret := none) (lv := [(0, .ref a0), (1, .ref a1), (2, .ref a2), (3, .int x3)]) (by decide) rfl (Nat.le_of_ble_eq_true rfl) rfl ?_
  intro p e s m below meth c ls hx hb hr hts hown hlk hml hnm hl hw
  have hown : s.vm.findClass RL = some m.cls := hown
  have B19 : ∀ (S : Hp) (s0 : Int32) (s1 : Int32) (s2 : Nat) (H : Heap) (locs : List Loc) (ls : Array Slot), f_L_moves_b19 N a0 a1 a2 x3 S s0 s1 s2 = some (r, S9) → Wd D C (va_A (wP C S0) z) s.heap S z H locs s → lv_has ls 5 [(0, .ref a0), (1, .ref a1), (3, .int x3)] → W p l e rm_L_moves s m ([.ref a0, .ref a1, .ref a2, .int x3] : List Value).toArray below meth c H locs 0 0 (MQ below (QvW D C S0 z r S9 z) ([.ref a0, .ref a1, .ref a2, .int x3] : List Value).toArray s 0 0 (va_A (wP C S0) z)) (F0 m 19 ls [.int s0, .int s1, .ref s2]) := by
    intro S s0 s1 s2 H locs ls hg hw hl
    unfold f_L_moves_b19 at hg
    obtain ⟨hok14, hg⟩ := gd_some hg
    obtain ⟨hin15, hg⟩ := gd_some hg
    refine wr_iast hx hb hw hok14 (inb_vp hin15) dL_moves_19 (fun H locs hw => ?_)
    refine lv_aload_n hx hb dL_moves_20 rfl (lv_at hl 0 rfl) ?_
    refine lv_iconst (v := (2 : Int32)) hx hb dL_moves_21 (by decide) ?_
    refine lv_aload_n hx hb dL_moves_22 rfl (lv_at hl 0 rfl) ?_
    refine lv_iconst (v := (1 : Int32)) hx hb dL_moves_23 (by decide) ?_
    obtain ⟨hok16, hg⟩ := gd_some hg
    obtain ⟨hin17, hg⟩ := gd_some hg
    refine wr_iald hx hb hw hok16 (inb_vp hin17) dL_moves_24 ?_
    refine lv_iadd hx hb dL_moves_25 ?_
    refine lv_dup2_11 hx hb dL_moves_26 rfl rfl ?_
    obtain ⟨hin18, hg⟩ := gd_some hg
    refine wr_iald hx hb hw hok16 (inb_vp hin18) dL_moves_27 ?_
    refine lv_iconst (v := (1 : Int32)) hx hb dL_moves_28 (by decide) ?_
    refine lv_iload_n hx hb dL_moves_29 rfl (lv_at hl 2 rfl) ?_
    refine lv_ishl hx hb dL_moves_30 ?_
    refine lv_ior hx hb dL_moves_31 ?_
    refine wr_iast hx hb hw hok16 (inb_vp hin18) dL_moves_32 (fun H locs hw => ?_)
    obtain ⟨S19, hS19, hg⟩ := bd_some hg
    rw [← hS19] at hw
    have hok20 : ok S19 s2 8 := by rw [hS19]; exact hok14
    have hin21 : inb s1 (hN S19 s2) := by rw [hS19]; exact hin15
    have hok22 : ok S19 a0 8 := by rw [hS19]; exact hok16
    have hin23 : inb (1 : Int32) (hN S19 a0) := by rw [hS19]; exact hin17
    have hin24 : inb ((2 : Int32) + (hI ((sI S s2 s1.toNatClampNeg s0)) a0 (1 : Int32).toNatClampNeg)) (hN S19 a0) := by rw [hS19]; exact hin18
    refine lv_aload_n hx hb dL_moves_33 rfl (lv_at hl 0 rfl) ?_
    refine lv_iconst (v := (5 : Int32)) hx hb dL_moves_34 (by decide) ?_
    refine lv_iload_n hx hb dL_moves_35 rfl (lv_at hl 2 rfl) ?_
    obtain ⟨hin25, hg⟩ := gd_some hg
    refine wr_iast hx hb hw hok22 (inb_vp hin25) dL_moves_36 (fun H locs hw => ?_)
    refine lv_aload_n hx hb dL_moves_37 rfl (lv_at hl 0 rfl) ?_
    refine lv_iconst (v := (1 : Int32)) hx hb dL_moves_38 (by decide) ?_
    refine lv_iconst (v := (3 : Int32)) hx hb dL_moves_39 (by decide) ?_
    refine lv_aload_n hx hb dL_moves_40 rfl (lv_at hl 0 rfl) ?_
    refine lv_iconst (v := (1 : Int32)) hx hb dL_moves_41 (by decide) ?_
    refine wr_iald hx hb hw hok22 (inb_vp hin23) dL_moves_42 ?_
    refine lv_isub hx hb dL_moves_43 ?_
    refine wr_iast hx hb hw hok22 (inb_vp hin23) dL_moves_44 (fun H locs hw => ?_)
    obtain ⟨S26, hS26, hg⟩ := bd_some hg
    rw [← hS26] at hw
    have hok27 : ok S26 s2 8 := by rw [hS26]; exact hok20
    have hin28 : inb s1 (hN S26 s2) := by rw [hS26]; exact hin21
    have hok29 : ok S26 a0 8 := by rw [hS26]; exact hok22
    have hin30 : inb (1 : Int32) (hN S26 a0) := by rw [hS26]; exact hin23
    have hin31 : inb ((2 : Int32) + (hI ((sI S s2 s1.toNatClampNeg s0)) a0 (1 : Int32).toNatClampNeg)) (hN S26 a0) := by rw [hS26]; exact hin24
    have hin32 : inb (5 : Int32) (hN S26 a0) := by rw [hS26]; exact hin25
    refine lv_aload_n hx hb dL_moves_45 rfl (lv_at hl 0 rfl) ?_
    refine lv_bipush (v := (7 : Int32)) hx hb dL_moves_46 (by decide) ?_
    refine lv_dup2_11 hx hb dL_moves_48 rfl rfl ?_
    obtain ⟨hin33, hg⟩ := gd_some hg
    refine wr_iald hx hb hw hok29 (inb_vp hin33) dL_moves_49 ?_
    refine lv_iconst (v := (1 : Int32)) hx hb dL_moves_50 (by decide) ?_
    refine lv_iadd hx hb dL_moves_51 ?_
    refine wr_iast hx hb hw hok29 (inb_vp hin33) dL_moves_52 (fun H locs hw => ?_)
    obtain ⟨S34, hS34, hg⟩ := bd_some hg
    rw [← hS34] at hw
    have hok35 : ok S34 s2 8 := by rw [hS34]; exact hok27
    have hin36 : inb s1 (hN S34 s2) := by rw [hS34]; exact hin28
    have hok37 : ok S34 a0 8 := by rw [hS34]; exact hok29
    have hin38 : inb (1 : Int32) (hN S34 a0) := by rw [hS34]; exact hin30
    have hin39 : inb ((2 : Int32) + (hI ((sI S s2 s1.toNatClampNeg s0)) a0 (1 : Int32).toNatClampNeg)) (hN S34 a0) := by rw [hS34]; exact hin31
    have hin40 : inb (5 : Int32) (hN S34 a0) := by rw [hS34]; exact hin32
    have hin41 : inb (7 : Int32) (hN S34 a0) := by rw [hS34]; exact hin33
    refine lv_aload_n hx hb dL_moves_53 rfl (lv_at hl 0 rfl) ?_
    refine lv_aload_n hx hb dL_moves_54 rfl (lv_at hl 1 rfl) ?_
    obtain ⟨r42, S42, hc42, hg⟩ := cl_some hg
    refine wr_ci (va_runS (As := [.ref a0, .ref a1]) (rest := []) ⟨hx, hb, hml, hown, hts⟩ (c_L_winner l D C N S34 z a0 a1 r42 S42 hc42) (va_cwS 2 hts gL_moves_L_winner rfl rfl rfl (by decide +kernel) ⟨Nat.le_of_ble_eq_true rfl, Nat.le_of_ble_eq_true rfl⟩) (wd_preS hw) rfl rfl hl.1 rfl (lv_room (Nat.le_of_ble_eq_true rfl)) dL_moves_55 ⟨Nat.zero_le _, Nat.zero_le _⟩) hw (fun H locs hw => ?_)
    refine lv_istore (lv' := [(4, .int r42), (0, .ref a0), (1, .ref a1), (3, .int x3)]) hx hb dL_moves_58 hl (by decide) rfl (fun ls hl => ?_)
    refine lv_iload hx hb dL_moves_60 (lv_at hl 0 rfl) ?_
    refine lv_if_le (tgt := 76) hx hb dL_moves_62 (by decide) (fun c43 => ?_) (fun c43 => ?_)
    · have hg := it_pos hg c43
      cases hg
      exact wr_vret hx hb hr hw dL_moves_76 hlk
    · have hg := it_neg hg c43
      refine lv_aload_n hx hb dL_moves_65 rfl (lv_at hl 1 rfl) ?_
      refine lv_bipush (v := (7 : Int32)) hx hb dL_moves_66 (by decide) ?_
      refine lv_iload hx hb dL_moves_68 (lv_at hl 0 rfl) ?_
      refine lv_iadd hx hb dL_moves_70 ?_
      refine lv_dup2_11 hx hb dL_moves_71 rfl rfl ?_
      obtain ⟨hok44, hg⟩ := gd_some hg
      obtain ⟨hin45, hg⟩ := gd_some hg
      refine wr_iald hx hb hw hok44 (inb_vp hin45) dL_moves_72 ?_
      refine lv_iconst (v := (1 : Int32)) hx hb dL_moves_73 (by decide) ?_
      refine lv_iadd hx hb dL_moves_74 ?_
      refine wr_iast hx hb hw hok44 (inb_vp hin45) dL_moves_75 (fun H locs hw => ?_)
      obtain ⟨S46, hS46, hg⟩ := bd_some hg
      rw [← hS46] at hw
      have hok47 : ok S46 a0 8 := by rw [hS46]; exact hok44
      have hin48 : inb ((7 : Int32) + r42) (hN S46 a0) := by rw [hS46]; exact hin45
      cases hg
      exact wr_vret hx hb hr hw dL_moves_76 hlk
  have B0 : ∀ (S : Hp) (H : Heap) (locs : List Loc) (ls : Array Slot), f_L_moves N S a0 a1 a2 x3 = some (r, S9) → Wd D C (va_A (wP C S0) z) s.heap S z H locs s → lv_has ls 5 [(0, .ref a0), (1, .ref a1), (2, .ref a2), (3, .int x3)] → W p l e rm_L_moves s m ([.ref a0, .ref a1, .ref a2, .int x3] : List Value).toArray below meth c H locs 0 0 (MQ below (QvW D C S0 z r S9 z) ([.ref a0, .ref a1, .ref a2, .int x3] : List Value).toArray s 0 0 (va_A (wP C S0) z)) (F0 m 0 ls []) := by
    intro S H locs ls hg hw hl
    unfold f_L_moves at hg
    refine lv_aload_n hx hb dL_moves_0 rfl (lv_at hl 0 rfl) ?_
    refine lv_bipush (v := (6 : Int32)) hx hb dL_moves_1 (by decide) ?_
    refine lv_aload_n hx hb dL_moves_3 rfl (lv_at hl 0 rfl) ?_
    refine lv_aload_n hx hb dL_moves_4 rfl (lv_at hl 1 rfl) ?_
    refine lv_aload_n hx hb dL_moves_5 rfl (lv_at hl 2 rfl) ?_
    obtain ⟨r10, S10, hc10, hg⟩ := cl_some hg
    refine wr_ci (va_runS (As := [.ref a0, .ref a1, .ref a2]) (rest := [.int (6 : Int32), .ref a0]) ⟨hx, hb, hml, hown, hts⟩ (c_L_pairing l D C N S z a0 a1 a2 r10 S10 hc10) (va_cwS 3 hts gL_moves_L_pairing rfl rfl rfl (by decide +kernel) ⟨Nat.le_of_ble_eq_true rfl, Nat.le_of_ble_eq_true rfl⟩) (wd_preS hw) rfl rfl hl.1 rfl (lv_room (Nat.le_of_ble_eq_true rfl)) dL_moves_6 ⟨Nat.zero_le _, Nat.zero_le _⟩) hw (fun H locs hw => ?_)
    refine lv_if_eq (tgt := 18) hx hb dL_moves_9 (by decide) (fun c11 => ?_) (fun c11 => ?_)
    · have hg := it_pos hg c11
      refine lv_iconst (v := (-1 : Int32)) hx hb dL_moves_18 (by decide) ?_
      exact B19 _ _ _ _ _ _ _ hg hw (lv_sub hl [0, 1, 3] rfl)
    · have hg := it_neg hg c11
      refine lv_aload_n hx hb dL_moves_12 rfl (lv_at hl 2 rfl) ?_
      refine lv_iload_n hx hb dL_moves_13 rfl (lv_at hl 3 rfl) ?_
      obtain ⟨hok12, hg⟩ := gd_some hg
      obtain ⟨hin13, hg⟩ := gd_some hg
      refine wr_iald hx hb hw hok12 (inb_vp hin13) dL_moves_14 ?_
      refine lv_goto (tgt := 19) hx hb dL_moves_15 (by decide) ?_
      exact B19 _ _ _ _ _ _ _ hg hw (lv_sub hl [0, 1, 3] rfl)
  exact B0 S0 _ _ _ hg hw hl
abbrev rm_L_empty : Room := { frames := 0, cells := 0, slots := 0, locals := 0 }
set_option maxHeartbeats 4000000 in
set_option maxRecDepth 100000 in
theorem c_L_empty (l : Launch) (D : va_G) (C : C3) (N : Nat) (S0 : Hp) (z : Nat) (a0 : Nat) (x1 : Int32) (r : Unit) (S9 : Hp) (hg : f_L_empty N S0 a0 x1 = some (r, S9)) : MetV l yL_empty wsL_empty rm_L_empty D C S0 z [.ref a0, .int x1] r S9 z 0 0 := by
  refine mw_ofW (cc := cL_empty) (maxL := 2) (ret := none) (lv := [(0, .ref a0), (1, .int x1)]) (by decide) rfl (Nat.le_of_ble_eq_true rfl) rfl ?_
  intro p e s m below meth c ls hx hb hr hts hown hlk hml hnm hl hw
  have hown : s.vm.findClass RL = some m.cls := hown
  have B0 : ∀ (S : Hp) (H : Heap) (locs : List Loc) (ls : Array Slot), f_L_empty N S a0 x1 = some (r, S9) → Wd D C (va_A (wP C S0) z) s.heap S z H locs s → lv_has ls 2 [(0, .ref a0), (1, .int x1)] → W p l e rm_L_empty s m ([.ref a0, .int x1] : List Value).toArray below meth c H locs 0 0 (MQ below (QvW D C S0 z r S9 z) ([.ref a0, .int x1] : List Value).toArray s 0 0 (va_A (wP C S0) z)) (F0 m 0 ls []) := by
    intro S H locs ls hg hw hl
    unfold f_L_empty at hg
    refine lv_aload_n hx hb dL_empty_0 rfl (lv_at hl 0 rfl) ?_
    refine lv_iconst (v := (1 : Int32)) hx hb dL_empty_1 (by decide) ?_
    refine lv_iload_n hx hb dL_empty_2 rfl (lv_at hl 1 rfl) ?_
    obtain ⟨hok10, hg⟩ := gd_some hg
    obtain ⟨hin11, hg⟩ := gd_some hg
    refine wr_iast hx hb hw hok10 (inb_vp hin11) dL_empty_3 (fun H locs hw => ?_)
    refine lv_aload_n hx hb dL_empty_4 rfl (lv_at hl 0 rfl) ?_
    refine lv_iconst (v := (3 : Int32)) hx hb dL_empty_5 (by decide) ?_
    refine lv_iconst (v := (0 : Int32)) hx hb dL_empty_6 (by decide) ?_
    obtain ⟨hin12, hg⟩ := gd_some hg
    refine wr_iast hx hb hw hok10 (inb_vp hin12) dL_empty_7 (fun H locs hw => ?_)
    obtain ⟨S13, hS13, hg⟩ := bd_some hg
    rw [← hS13] at hw
    have hok14 : ok S13 a0 8 := by rw [hS13]; exact hok10
    have hin15 : inb (1 : Int32) (hN S13 a0) := by rw [hS13]; exact hin11
    have hin16 : inb (3 : Int32) (hN S13 a0) := by rw [hS13]; exact hin12
    refine lv_aload_n hx hb dL_empty_8 rfl (lv_at hl 0 rfl) ?_
    refine lv_iconst (v := (4 : Int32)) hx hb dL_empty_9 (by decide) ?_
    refine lv_iconst (v := (0 : Int32)) hx hb dL_empty_10 (by decide) ?_
    obtain ⟨hin17, hg⟩ := gd_some hg
    refine wr_iast hx hb hw hok14 (inb_vp hin17) dL_empty_11 (fun H locs hw => ?_)
    obtain ⟨S18, hS18, hg⟩ := bd_some hg
    rw [← hS18] at hw
    have hok19 : ok S18 a0 8 := by rw [hS18]; exact hok14
    have hin20 : inb (1 : Int32) (hN S18 a0) := by rw [hS18]; exact hin15
    have hin21 : inb (3 : Int32) (hN S18 a0) := by rw [hS18]; exact hin16
    have hin22 : inb (4 : Int32) (hN S18 a0) := by rw [hS18]; exact hin17
    refine lv_aload_n hx hb dL_empty_12 rfl (lv_at hl 0 rfl) ?_
    refine lv_iconst (v := (5 : Int32)) hx hb dL_empty_13 (by decide) ?_
    refine lv_iconst (v := (-1 : Int32)) hx hb dL_empty_14 (by decide) ?_
    obtain ⟨hin23, hg⟩ := gd_some hg
    refine wr_iast hx hb hw hok19 (inb_vp hin23) dL_empty_15 (fun H locs hw => ?_)
    obtain ⟨S24, hS24, hg⟩ := bd_some hg
    rw [← hS24] at hw
    have hok25 : ok S24 a0 8 := by rw [hS24]; exact hok19
    have hin26 : inb (1 : Int32) (hN S24 a0) := by rw [hS24]; exact hin20
    have hin27 : inb (3 : Int32) (hN S24 a0) := by rw [hS24]; exact hin21
    have hin28 : inb (4 : Int32) (hN S24 a0) := by rw [hS24]; exact hin22
    have hin29 : inb (5 : Int32) (hN S24 a0) := by rw [hS24]; exact hin23
    refine lv_aload_n hx hb dL_empty_16 rfl (lv_at hl 0 rfl) ?_
    refine lv_bipush (v := (6 : Int32)) hx hb dL_empty_17 (by decide) ?_
    refine lv_iconst (v := (-1 : Int32)) hx hb dL_empty_19 (by decide) ?_
    obtain ⟨hin30, hg⟩ := gd_some hg
    refine wr_iast hx hb hw hok25 (inb_vp hin30) dL_empty_20 (fun H locs hw => ?_)
    obtain ⟨S31, hS31, hg⟩ := bd_some hg
    rw [← hS31] at hw
    have hok32 : ok S31 a0 8 := by rw [hS31]; exact hok25
    have hin33 : inb (1 : Int32) (hN S31 a0) := by rw [hS31]; exact hin26
    have hin34 : inb (3 : Int32) (hN S31 a0) := by rw [hS31]; exact hin27
    have hin35 : inb (4 : Int32) (hN S31 a0) := by rw [hS31]; exact hin28
    have hin36 : inb (5 : Int32) (hN S31 a0) := by rw [hS31]; exact hin29
    have hin37 : inb (6 : Int32) (hN S31 a0) := by rw [hS31]; exact hin30
    cases hg
    exact wr_vret hx hb hr hw dL_empty_21 hlk
  exact B0 S0 _ _ _ hg hw hl
