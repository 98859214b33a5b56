abbrev rm_L_act : Room := { frames := 34, cells := 3, slots := 28, locals := 1593 }
set_option maxHeartbeats 4000000 in
set_option maxRecDepth 100000 in
theorem c_L_act (l : Launch) (D : va_G) (C : C3) (N : Nat) (S0 : Hp) (z0 : Nat) (a0 : Nat) (x1 : Int32) (x2 : Int32) (a3 : Nat) (a4 : Nat) (a5 : Nat) (r : Int32) (S9 : Hp) (z9 : Nat) (hg : f_L_act N S0 z0 a0 x1 x2 a3 a4 a5 = some (r, S9, z9)) : MetI l yL_act wsL_act rm_L_act D C S0 z0 [.ref a0, .int x1, .int x2, .ref a3, .ref a4, .ref a5] r S9 z9 3 28 := by
  refine mw_ofW (cc := cL_act) (maxL := 12) (ret := (some .boolean)) (lv := [(0, .ref a0), (1, .int x1), (2, .int x2), (3, .ref a3), (4, .ref a4), (5, .ref a5)]) (by decide) rfl (Nat.le_of_ble_eq_true rfl) rfl ?_
  intro p e s m below meth c ls hx hb hr hts hown hlk hml hnm hl hw
  have hown : s.vm.findClass RL = some m.cls := hown
  have B73 : ∀ (S : Hp) (z : Nat) (v8 : Int32) (H : Heap) (locs : List Loc) (ls : Array Slot), f_L_act_b73 N a0 x1 x2 a3 a4 a5 S z v8 = some (r, S9, z9) → Wd D C (va_A (wP C S0) z0) s.heap S z H locs s → lv_has ls 12 [(0, .ref a0), (3, .ref a3), (8, .int v8)] → W p l e rm_L_act s m ([.ref a0, .int x1, .int x2, .ref a3, .ref a4, .ref a5] : List Value).toArray below meth c H locs 0 0 (MQ below (QiW D C S0 z0 r S9 z9) ([.ref a0, .int x1, .int x2, .ref a3, .ref a4, .ref a5] : List Value).toArray s 3 28 (va_A (wP C S0) z0)) (F0 m 73 ls []) := by
    intro S z v8 H locs ls hg hw hl
    unfold f_L_act_b73 at hg
    refine lv_aload_n hx hb dL_act_73 rfl (lv_at hl 0 rfl) ?_
    refine lv_aload_n hx hb dL_act_74 rfl (lv_at hl 1 rfl) ?_
    refine lv_iconst (v := (0 : Int32)) hx hb dL_act_75 (by decide) ?_
    obtain ⟨hok79, hg⟩ := gd_some hg
    obtain ⟨hin80, hg⟩ := gd_some hg
    refine wr_iald hx hb hw hok79 (inb_vp hin80) dL_act_76 ?_
    obtain ⟨hok81, hg⟩ := gd_some hg
    obtain ⟨r82, S82, z82, hc82, hg⟩ := cz_some hg
    refine wr_ci (va_runV (As := [.int (hI S a3 (0 : Int32).toNatClampNeg)]) (rest := []) ⟨hx, hb, hml, hown, hts⟩ (c_X6_begin l D C N S z a0 ((hI S a3 (0 : Int32).toNatClampNeg)) r82 S82 z82 hc82) (cwV 1 hts gL_act_X6_begin rfl rfl rfl (by decide +kernel) ⟨Nat.le_of_ble_eq_true rfl, Nat.le_of_ble_eq_true rfl⟩) (wd_preV hw hok81 (wF_6 (S := S) hok81.2) rfl) rfl rfl hl.1 rfl (lv_room (Nat.le_of_ble_eq_true rfl)) dL_act_77 ⟨Nat.le_of_ble_eq_true rfl, Nat.le_of_ble_eq_true rfl⟩) hw (fun H locs hw => ?_)
    refine lv_iload hx hb dL_act_80 (lv_at hl 2 rfl) ?_
    refine lv_icmp_ne (tgt := 89) hx hb dL_act_82 (by decide) (fun c83 => ?_) (fun c83 => ?_)
    · have hg := it_neg hg c83
      refine lv_iconst (v := (0 : Int32)) hx hb dL_act_89 (by decide) ?_
      cases hg
      refine W.widen (k := 3) (n := 28) (Nat.le_of_ble_eq_true rfl) (Nat.le_of_ble_eq_true rfl) ?_
      exact wr_zret hx hb hr (by decide) hw dL_act_90 hlk
    · have hg := it_pos hg c83
      refine lv_iconst (v := (1 : Int32)) hx hb dL_act_85 (by decide) ?_
      refine lv_goto (tgt := 90) hx hb dL_act_86 (by decide) ?_
      cases hg
      refine W.widen (k := 3) (n := 28) (Nat.le_of_ble_eq_true rfl) (Nat.le_of_ble_eq_true rfl) ?_
      exact wr_zret hx hb hr (by decide) hw dL_act_90 hlk
  have B153 : ∀ (S : Hp) (z : Nat) (H : Heap) (locs : List Loc) (ls : Array Slot), f_L_act_b153 N a0 x1 x2 a3 a4 a5 S z = some (r, S9, z9) → Wd D C (va_A (wP C S0) z0) s.heap S z H locs s → lv_has ls 12 [(0, .ref a0), (3, .ref a3), (4, .ref a4)] → W p l e rm_L_act s m ([.ref a0, .int x1, .int x2, .ref a3, .ref a4, .ref a5] : List Value).toArray below meth c H locs 0 0 (MQ below (QiW D C S0 z0 r S9 z9) ([.ref a0, .int x1, .int x2, .ref a3, .ref a4, .ref a5] : List Value).toArray s 3 28 (va_A (wP C S0) z0)) (F0 m 153 ls []) := by
    intro S z H locs ls hg hw hl
    unfold f_L_act_b153 at hg
    refine lv_aload_n hx hb dL_act_153 rfl (lv_at hl 0 rfl) ?_
    refine lv_aload hx hb dL_act_154 (lv_at hl 2 rfl) ?_
    refine lv_aload_n hx hb dL_act_156 rfl (lv_at hl 1 rfl) ?_
    refine lv_iconst (v := (2 : Int32)) hx hb dL_act_157 (by decide) ?_
    obtain ⟨hok84, hg⟩ := gd_some hg
    obtain ⟨hin85, hg⟩ := gd_some hg
    refine wr_iald hx hb hw hok84 (inb_vp hin85) dL_act_158 ?_
    refine lv_iconst (v := (1 : Int32)) hx hb dL_act_159 (by decide) ?_
    refine lv_isub hx hb dL_act_160 ?_
    obtain ⟨hok86, hg⟩ := gd_some hg
    obtain ⟨hin87, hg⟩ := gd_some hg
    refine wr_iald hx hb hw hok86 (inb_vp hin87) dL_act_161 ?_
    obtain ⟨hok88, hg⟩ := gd_some hg
    obtain ⟨r89, S89, z89, hc89, hg⟩ := cz_some hg
    refine wr_ci (va_runV (As := [.int (hI S a4 ((hI S a3 (2 : Int32).toNatClampNeg) - (1 : Int32)).toNatClampNeg)]) (rest := []) ⟨hx, hb, hml, hown, hts⟩ (c_X6_addLine l D C N S z a0 ((hI S a4 ((hI S a3 (2 : Int32).toNatClampNeg) - (1 : Int32)).toNatClampNeg)) r89 S89 z89 hc89) (cwV 1 hts gL_act_X6_addLine rfl rfl rfl (by decide +kernel) ⟨Nat.le_of_ble_eq_true rfl, Nat.le_of_ble_eq_true rfl⟩) (wd_preV hw hok88 (wF_6 (S := S) hok88.2) rfl) rfl rfl hl.1 rfl (lv_room (Nat.le_of_ble_eq_true rfl)) dL_act_162 ⟨Nat.le_of_ble_eq_true rfl, Nat.le_of_ble_eq_true rfl⟩) hw (fun H locs hw => ?_)
    refine lv_aload_n hx hb dL_act_165 rfl (lv_at hl 1 rfl) ?_
    refine lv_iconst (v := (2 : Int32)) hx hb dL_act_166 (by decide) ?_
    obtain ⟨hok90, hg⟩ := gd_some hg
    obtain ⟨hin91, hg⟩ := gd_some hg
    refine wr_iald hx hb hw hok90 (inb_vp hin91) dL_act_167 ?_
    refine lv_iconst (v := (1 : Int32)) hx hb dL_act_168 (by decide) ?_
    refine lv_isub hx hb dL_act_169 ?_
    refine lv_icmp_ne (tgt := 177) hx hb dL_act_170 (by decide) (fun c92 => ?_) (fun c92 => ?_)
    · have hg := it_neg hg c92
      refine lv_iconst (v := (0 : Int32)) hx hb dL_act_177 (by decide) ?_
      cases hg
      refine W.widen (k := 3) (n := 28) (Nat.le_of_ble_eq_true rfl) (Nat.le_of_ble_eq_true rfl) ?_
      exact wr_zret hx hb hr (by decide) hw dL_act_178 hlk
    · have hg := it_pos hg c92
      refine lv_iconst (v := (1 : Int32)) hx hb dL_act_173 (by decide) ?_
      refine lv_goto (tgt := 178) hx hb dL_act_174 (by decide) ?_
      cases hg
      refine W.widen (k := 3) (n := 28) (Nat.le_of_ble_eq_true rfl) (Nat.le_of_ble_eq_true rfl) ?_
      exact wr_zret hx hb hr (by decide) hw dL_act_178 hlk
  have B110 : ∀ (S : Hp) (z : Nat) (H : Heap) (locs : List Loc) (ls : Array Slot), f_L_act_b110 N a0 x1 x2 a3 a4 a5 S z = some (r, S9, z9) → Wd D C (va_A (wP C S0) z0) s.heap S z H locs s → lv_has ls 12 [(0, .ref a0), (2, .int x2), (3, .ref a3), (4, .ref a4)] → W p l e rm_L_act s m ([.ref a0, .int x1, .int x2, .ref a3, .ref a4, .ref a5] : List Value).toArray below meth c H locs 0 0 (MQ below (QiW D C S0 z0 r S9 z9) ([.ref a0, .int x1, .int x2, .ref a3, .ref a4, .ref a5] : List Value).toArray s 3 28 (va_A (wP C S0) z0)) (F0 m 110 ls []) := by
    intro S z H locs ls hg hw hl
    unfold f_L_act_b110 at hg
    refine lv_aload hx hb dL_act_110 (lv_at hl 3 rfl) ?_
    refine lv_aload_n hx hb dL_act_112 rfl (lv_at hl 2 rfl) ?_
    refine lv_iconst (v := (2 : Int32)) hx hb dL_act_113 (by decide) ?_
    obtain ⟨hok40, hg⟩ := gd_some hg
    obtain ⟨hin41, hg⟩ := gd_some hg
    refine wr_iald hx hb hw hok40 (inb_vp hin41) dL_act_114 ?_
    refine lv_iconst (v := (1 : Int32)) hx hb dL_act_115 (by decide) ?_
    refine lv_iload_n hx hb dL_act_116 rfl (lv_at hl 1 rfl) ?_
    refine lv_iconst (v := (1 : Int32)) hx hb dL_act_117 (by decide) ?_
    refine lv_aload_n hx hb dL_act_118 rfl (lv_at hl 2 rfl) ?_
    refine lv_iconst (v := (0 : Int32)) hx hb dL_act_119 (by decide) ?_
    obtain ⟨hin42, hg⟩ := gd_some hg
    refine wr_iald hx hb hw hok40 (inb_vp hin42) dL_act_120 ?_
    refine lv_ishl hx hb dL_act_121 ?_
    refine lv_iconst (v := (1 : Int32)) hx hb dL_act_122 (by decide) ?_
    refine lv_isub hx hb dL_act_123 ?_
    obtain ⟨r43, S43, hc43, hg⟩ := cl_some hg
    refine wr_ci (va_runS (As := [.int x2, .int (((1 : Int32) <<< ((hI S a3 (0 : Int32).toNatClampNeg) &&& 31)) - (1 : Int32))]) (rest := [.int (1 : Int32), .int (hI S a3 (2 : Int32).toNatClampNeg), .ref a4]) ⟨hx, hb, hml, hown, hts⟩ (c_L_at l D C N S z x2 ((((1 : Int32) <<< ((hI S a3 (0 : Int32).toNatClampNeg) &&& 31)) - (1 : Int32))) r43 S43 hc43) (va_cwS 2 hts gL_act_L_at rfl rfl rfl (by decide +kernel) ⟨Nat.le_of_ble_eq_true rfl, Nat.le_of_ble_eq_true rfl⟩) (wd_preS hw) rfl rfl hl.1 rfl (lv_room (Nat.le_of_ble_eq_true rfl)) dL_act_124 ⟨Nat.le_of_ble_eq_true rfl, Nat.le_of_ble_eq_true rfl⟩) hw (fun H locs hw => ?_)
    refine lv_iadd hx hb dL_act_127 ?_
    obtain ⟨hok44, hg⟩ := gd_some hg
    obtain ⟨hin45, hg⟩ := gd_some hg
    refine wr_iast hx hb hw hok44 (inb_vp hin45) dL_act_128 (fun H locs hw => ?_)
    obtain ⟨S46, hS46, hg⟩ := bd_some hg
    rw [← hS46] at hw
    have hok47 : ok S46 a4 8 := by rw [hS46]; exact hok44
    have hin48 : inb (hI S a3 (2 : Int32).toNatClampNeg) (hN S46 a4) := by rw [hS46]; exact hin45
    refine lv_aload_n hx hb dL_act_129 rfl (lv_at hl 2 rfl) ?_
    refine lv_iconst (v := (2 : Int32)) hx hb dL_act_130 (by decide) ?_
    refine lv_dup2_11 hx hb dL_act_131 rfl rfl ?_
    obtain ⟨hok49, hg⟩ := gd_some hg
    obtain ⟨hin50, hg⟩ := gd_some hg
    refine wr_iald hx hb hw hok49 (inb_vp hin50) dL_act_132 ?_
    refine lv_iconst (v := (1 : Int32)) hx hb dL_act_133 (by decide) ?_
    refine lv_iadd hx hb dL_act_134 ?_
    refine wr_iast hx hb hw hok49 (inb_vp hin50) dL_act_135 (fun H locs hw => ?_)
    obtain ⟨S51, hS51, hg⟩ := bd_some hg
    rw [← hS51] at hw
    have hok52 : ok S51 a4 8 := by rw [hS51]; exact hok47
    have hin53 : inb (hI S a3 (2 : Int32).toNatClampNeg) (hN S51 a4) := by rw [hS51]; exact hin48
    have hok54 : ok S51 a3 8 := by rw [hS51]; exact hok49
    have hin55 : inb (2 : Int32) (hN S51 a3) := by rw [hS51]; exact hin50
    refine lv_aload_n hx hb dL_act_136 rfl (lv_at hl 2 rfl) ?_
    refine lv_bipush (v := (10 : Int32)) hx hb dL_act_137 (by decide) ?_
    obtain ⟨hin56, hg⟩ := gd_some hg
    refine wr_iald hx hb hw hok54 (inb_vp hin56) dL_act_139 ?_
    refine lv_bipush (v := (6 : Int32)) hx hb dL_act_140 (by decide) ?_
    refine lv_icmp_ge (tgt := 153) hx hb dL_act_142 (by decide) (fun c57 => ?_) (fun c57 => ?_)
    · have hg := it_pos hg c57
      exact B153 _ _ _ _ _ hg hw (lv_sub hl [0, 2, 3] rfl)
    · have hg := it_neg hg c57
      refine lv_aload_n hx hb dL_act_145 rfl (lv_at hl 2 rfl) ?_
      refine lv_bipush (v := (10 : Int32)) hx hb dL_act_146 (by decide) ?_
      refine lv_dup2_11 hx hb dL_act_148 rfl rfl ?_
      refine wr_iald hx hb hw hok54 (inb_vp hin56) dL_act_149 ?_
      refine lv_iconst (v := (1 : Int32)) hx hb dL_act_150 (by decide) ?_
      refine lv_iadd hx hb dL_act_151 ?_
      refine wr_iast hx hb hw hok54 (inb_vp hin56) dL_act_152 (fun H locs hw => ?_)
      obtain ⟨S58, hS58, hg⟩ := bd_some hg
      rw [← hS58] at hw
      have hok59 : ok S58 a4 8 := by rw [hS58]; exact hok52
      have hin60 : inb (hI S a3 (2 : Int32).toNatClampNeg) (hN S58 a4) := by rw [hS58]; exact hin53
      have hok61 : ok S58 a3 8 := by rw [hS58]; exact hok54
      have hin62 : inb (2 : Int32) (hN S58 a3) := by rw [hS58]; exact hin55
      have hin63 : inb (10 : Int32) (hN S58 a3) := by rw [hS58]; exact hin56
      exact B153 _ _ _ _ _ hg hw (lv_sub hl [0, 2, 3] rfl)
  have B349 : ∀ (S : Hp) (z : Nat) (v8 : Int32) (v9 : Int32) (H : Heap) (locs : List Loc) (ls : Array Slot), f_L_act_b349 N a0 x1 x2 a3 a4 a5 S z v8 v9 = some (r, S9, z9) → Wd D C (va_A (wP C S0) z0) s.heap S z H locs s → lv_has ls 12 [(0, .ref a0), (8, .int v8), (9, .int v9)] → W p l e rm_L_act s m ([.ref a0, .int x1, .int x2, .ref a3, .ref a4, .ref a5] : List Value).toArray below meth c H locs 0 0 (MQ below (QiW D C S0 z0 r S9 z9) ([.ref a0, .int x1, .int x2, .ref a3, .ref a4, .ref a5] : List Value).toArray s 3 28 (va_A (wP C S0) z0)) (F0 m 349 ls []) := by
    intro S z v8 v9 H locs ls hg hw hl
    unfold f_L_act_b349 at hg
    refine lv_aload_n hx hb dL_act_349 rfl (lv_at hl 0 rfl) ?_
    refine lv_iload hx hb dL_act_350 (lv_at hl 2 rfl) ?_
    obtain ⟨hok192, hg⟩ := gd_some hg
    obtain ⟨r193, S193, z193, hc193, hg⟩ := cz_some hg
    refine wr_ci (va_runV (As := [.int v9]) (rest := []) ⟨hx, hb, hml, hown, hts⟩ (c_X6_clear l D C N S z a0 v9 r193 S193 z193 hc193) (cwV 1 hts gL_act_X6_clear rfl rfl rfl (by decide +kernel) ⟨Nat.le_of_ble_eq_true rfl, Nat.le_of_ble_eq_true rfl⟩) (wd_preV hw hok192 (wF_6 (S := S) hok192.2) rfl) rfl rfl hl.1 rfl (lv_room (Nat.le_of_ble_eq_true rfl)) dL_act_352 ⟨Nat.le_of_ble_eq_true rfl, Nat.le_of_ble_eq_true rfl⟩) hw (fun H locs hw => ?_)
    refine lv_iload hx hb dL_act_355 (lv_at hl 1 rfl) ?_
    refine lv_icmp_ne (tgt := 364) hx hb dL_act_357 (by decide) (fun c194 => ?_) (fun c194 => ?_)
    · have hg := it_neg hg c194
      refine lv_iconst (v := (0 : Int32)) hx hb dL_act_364 (by decide) ?_
      cases hg
      refine W.widen (k := 3) (n := 28) (Nat.le_of_ble_eq_true rfl) (Nat.le_of_ble_eq_true rfl) ?_
      exact wr_zret hx hb hr (by decide) hw dL_act_365 hlk
    · have hg := it_pos hg c194
      refine lv_iconst (v := (1 : Int32)) hx hb dL_act_360 (by decide) ?_
      refine lv_goto (tgt := 365) hx hb dL_act_361 (by decide) ?_
      cases hg
      refine W.widen (k := 3) (n := 28) (Nat.le_of_ble_eq_true rfl) (Nat.le_of_ble_eq_true rfl) ?_
      exact wr_zret hx hb hr (by decide) hw dL_act_365 hlk
  have B329 : ∀ (S : Hp) (z : Nat) (v8 : Int32) (v9 : Int32) (s0 : Int32) (s1 : Nat) (H : Heap) (locs : List Loc) (ls : Array Slot), f_L_act_b329 N a0 x1 x2 a3 a4 a5 S z v8 v9 s0 s1 = some (r, S9, z9) → Wd D C (va_A (wP C S0) z0) s.heap S z H locs s → lv_has ls 12 [(0, .ref a0), (3, .ref a3), (8, .int v8), (9, .int v9)] → W p l e rm_L_act s m ([.ref a0, .int x1, .int x2, .ref a3, .ref a4, .ref a5] : List Value).toArray below meth c H locs 0 0 (MQ below (QiW D C S0 z0 r S9 z9) ([.ref a0, .int x1, .int x2, .ref a3, .ref a4, .ref a5] : List Value).toArray s 3 28 (va_A (wP C S0) z0)) (F0 m 329 ls [.int s0, .ref s1]) := by
    intro S z v8 v9 s0 s1 H locs ls hg hw hl
    unfold f_L_act_b329 at hg
    obtain ⟨⟨⟩, S180, hc180, hg⟩ := cl_some hg
    refine wr_cv (va_runS (As := [.ref s1, .int s0]) (rest := []) ⟨hx, hb, hml, hown, hts⟩ (c_L_empty l D C N S z s1 s0 () S180 hc180) (va_cwS 2 hts gL_act_L_empty rfl rfl rfl (by decide +kernel) ⟨Nat.le_of_ble_eq_true rfl, Nat.le_of_ble_eq_true rfl⟩) (wd_preS hw) rfl rfl hl.1 rfl (lv_room (Nat.le_of_ble_eq_true rfl)) dL_act_329 ⟨Nat.le_of_ble_eq_true rfl, Nat.le_of_ble_eq_true rfl⟩) hw (fun H locs hw => ?_)
    refine lv_aload_n hx hb dL_act_332 rfl (lv_at hl 1 rfl) ?_
    refine lv_bipush (v := (10 : Int32)) hx hb dL_act_333 (by decide) ?_
    obtain ⟨hok181, hg⟩ := gd_some hg
    obtain ⟨hin182, hg⟩ := gd_some hg
    refine wr_iald hx hb hw hok181 (inb_vp hin182) dL_act_335 ?_
    refine lv_bipush (v := (6 : Int32)) hx hb dL_act_336 (by decide) ?_
    refine lv_icmp_ge (tgt := 349) hx hb dL_act_338 (by decide) (fun c183 => ?_) (fun c183 => ?_)
    · have hg := it_pos hg c183
      exact B349 _ _ _ _ _ _ _ hg hw (lv_sub hl [0, 2, 3] rfl)
    · have hg := it_neg hg c183
      refine lv_aload_n hx hb dL_act_341 rfl (lv_at hl 1 rfl) ?_
      refine lv_bipush (v := (10 : Int32)) hx hb dL_act_342 (by decide) ?_
      refine lv_dup2_11 hx hb dL_act_344 rfl rfl ?_
      refine wr_iald hx hb hw hok181 (inb_vp hin182) dL_act_345 ?_
      refine lv_iconst (v := (1 : Int32)) hx hb dL_act_346 (by decide) ?_
      refine lv_iadd hx hb dL_act_347 ?_
      refine wr_iast hx hb hw hok181 (inb_vp hin182) dL_act_348 (fun H locs hw => ?_)
      obtain ⟨S184, hS184, hg⟩ := bd_some hg
      rw [← hS184] at hw
      have hok185 : ok S184 a3 8 := by rw [hS184]; exact hok181
      have hin186 : inb (10 : Int32) (hN S184 a3) := by rw [hS184]; exact hin182
      exact B349 _ _ _ _ _ _ _ hg hw (lv_sub hl [0, 2, 3] rfl)
  have B316 : ∀ (S : Hp) (z : Nat) (v8 : Int32) (s0 : Int32) (H : Heap) (locs : List Loc) (ls : Array Slot), f_L_act_b316 N a0 x1 x2 a3 a4 a5 S z v8 s0 = some (r, S9, z9) → Wd D C (va_A (wP C S0) z0) s.heap S z H locs s → lv_has ls 12 [(0, .ref a0), (3, .ref a3), (8, .int v8)] → W p l e rm_L_act s m ([.ref a0, .int x1, .int x2, .ref a3, .ref a4, .ref a5] : List Value).toArray below meth c H locs 0 0 (MQ below (QiW D C S0 z0 r S9 z9) ([.ref a0, .int x1, .int x2, .ref a3, .ref a4, .ref a5] : List Value).toArray s 3 28 (va_A (wP C S0) z0)) (F0 m 316 ls [.int s0]) := by
    intro S z v8 s0 H locs ls hg hw hl
    unfold f_L_act_b316 at hg
    refine lv_istore (lv' := [(9, .int s0), (0, .ref a0), (3, .ref a3), (8, .int v8)]) hx hb dL_act_316 hl (by decide) rfl (fun ls hl => ?_)
    refine lv_aload_n hx hb dL_act_318 rfl (lv_at hl 2 rfl) ?_
    refine lv_iload hx hb dL_act_319 (lv_at hl 0 rfl) ?_
    refine lv_if_eq (tgt := 328) hx hb dL_act_321 (by decide) (fun c173 => ?_) (fun c173 => ?_)
    · have hg := it_pos hg c173
      refine lv_iconst (v := (2 : Int32)) hx hb dL_act_328 (by decide) ?_
      exact B329 _ _ _ _ _ _ _ _ _ hg hw (lv_sub hl [1, 2, 3, 0] rfl)
    · have hg := it_neg hg c173
      refine lv_iconst (v := (1 : Int32)) hx hb dL_act_324 (by decide) ?_
      refine lv_goto (tgt := 329) hx hb dL_act_325 (by decide) ?_
      exact B329 _ _ _ _ _ _ _ _ _ hg hw (lv_sub hl [1, 2, 3, 0] rfl)
  have B291 : ∀ (S : Hp) (z : Nat) (H : Heap) (locs : List Loc) (ls : Array Slot), f_L_act_b291 N a0 x1 x2 a3 a4 a5 S z = some (r, S9, z9) → Wd D C (va_A (wP C S0) z0) s.heap S z H locs s → lv_has ls 12 [(0, .ref a0), (2, .int x2), (3, .ref a3)] → W p l e rm_L_act s m ([.ref a0, .int x1, .int x2, .ref a3, .ref a4, .ref a5] : List Value).toArray below meth c H locs 0 0 (MQ below (QiW D C S0 z0 r S9 z9) ([.ref a0, .int x1, .int x2, .ref a3, .ref a4, .ref a5] : List Value).toArray s 3 28 (va_A (wP C S0) z0)) (F0 m 291 ls []) := by
    intro S z H locs ls hg hw hl
    unfold f_L_act_b291 at hg
    refine lv_aload_n hx hb dL_act_291 rfl (lv_at hl 2 rfl) ?_
    refine lv_iconst (v := (3 : Int32)) hx hb dL_act_292 (by decide) ?_
    obtain ⟨hok135, hg⟩ := gd_some hg
    obtain ⟨hin136, hg⟩ := gd_some hg
    refine wr_iald hx hb hw hok135 (inb_vp hin136) dL_act_293 ?_
    refine lv_aload_n hx hb dL_act_294 rfl (lv_at hl 2 rfl) ?_
    refine lv_iconst (v := (4 : Int32)) hx hb dL_act_295 (by decide) ?_
    obtain ⟨hin137, hg⟩ := gd_some hg
    refine wr_iald hx hb hw hok135 (inb_vp hin137) dL_act_296 ?_
    refine lv_ior hx hb dL_act_297 ?_
    obtain ⟨r138, S138, hc138, hg⟩ := cl_some hg
    refine wr_ci (va_runS (As := [.int ((hI S a3 (3 : Int32).toNatClampNeg) ||| (hI S a3 (4 : Int32).toNatClampNeg))]) (rest := []) ⟨hx, hb, hml, hown, hts⟩ (c_L_ones l D C N S z (((hI S a3 (3 : Int32).toNatClampNeg) ||| (hI S a3 (4 : Int32).toNatClampNeg))) r138 S138 hc138) (va_cwS 1 hts gL_act_L_ones rfl rfl rfl (by decide +kernel) ⟨Nat.le_of_ble_eq_true rfl, Nat.le_of_ble_eq_true rfl⟩) (wd_preS hw) rfl rfl hl.1 rfl (lv_room (Nat.le_of_ble_eq_true rfl)) dL_act_298 ⟨Nat.le_of_ble_eq_true rfl, Nat.le_of_ble_eq_true rfl⟩) hw (fun H locs hw => ?_)
    refine lv_istore (lv' := [(8, .int r138), (0, .ref a0), (2, .int x2), (3, .ref a3)]) hx hb dL_act_301 hl (by decide) rfl (fun ls hl => ?_)
    refine lv_iload_n hx hb dL_act_303 rfl (lv_at hl 2 rfl) ?_
    refine lv_iconst (v := (2 : Int32)) hx hb dL_act_304 (by decide) ?_
    obtain ⟨r139, S139, hc139, hg⟩ := cl_some hg
    refine wr_ci (va_runS (As := [.int x2, .int (2 : Int32)]) (rest := []) ⟨hx, hb, hml, hown, hts⟩ (c_L_at l D C N S138 z x2 ((2 : Int32)) r139 S139 hc139) (va_cwS 2 hts gL_act_L_at rfl rfl rfl (by decide +kernel) ⟨Nat.le_of_ble_eq_true rfl, Nat.le_of_ble_eq_true rfl⟩) (wd_preS hw) rfl rfl hl.1 rfl (lv_room (Nat.le_of_ble_eq_true rfl)) dL_act_305 ⟨Nat.le_of_ble_eq_true rfl, Nat.le_of_ble_eq_true rfl⟩) hw (fun H locs hw => ?_)
    refine lv_if_ne (tgt := 315) hx hb dL_act_308 (by decide) (fun c140 => ?_) (fun c140 => ?_)
    · have hg := it_neg hg c140
      refine lv_iconst (v := (0 : Int32)) hx hb dL_act_315 (by decide) ?_
      exact B316 _ _ _ _ _ _ _ hg hw (lv_sub hl [1, 3, 0] rfl)
    · have hg := it_pos hg c140
      refine lv_iconst (v := (1 : Int32)) hx hb dL_act_311 (by decide) ?_
      refine lv_goto (tgt := 316) hx hb dL_act_312 (by decide) ?_
      exact B316 _ _ _ _ _ _ _ hg hw (lv_sub hl [1, 3, 0] rfl)
  have B596 : ∀ (S : Hp) (z : Nat) (v8 : Int32) (v9 : Int32) (v10 : Int32) (v11 : Int32) (H : Heap) (locs : List Loc) (ls : Array Slot), f_L_act_b596 N a0 x1 x2 a3 a4 a5 S z v8 v9 v10 v11 = some (r, S9, z9) → Wd D C (va_A (wP C S0) z0) s.heap S z H locs s → lv_has ls 12 [(0, .ref a0), (8, .int v8), (9, .int v9), (10, .int v10), (11, .int v11)] → W p l e rm_L_act s m ([.ref a0, .int x1, .int x2, .ref a3, .ref a4, .ref a5] : List Value).toArray below meth c H locs 0 0 (MQ below (QiW D C S0 z0 r S9 z9) ([.ref a0, .int x1, .int x2, .ref a3, .ref a4, .ref a5] : List Value).toArray s 3 28 (va_A (wP C S0) z0)) (F0 m 596 ls []) := by
    intro S z v8 v9 v10 v11 H locs ls hg hw hl
    unfold f_L_act_b596 at hg
    refine lv_aload_n hx hb dL_act_596 rfl (lv_at hl 0 rfl) ?_
    refine lv_iload hx hb dL_act_597 (lv_at hl 1 rfl) ?_
    refine lv_iload hx hb dL_act_599 (lv_at hl 2 rfl) ?_
    refine lv_iload hx hb dL_act_601 (lv_at hl 3 rfl) ?_
    obtain ⟨hok187, hg⟩ := gd_some hg
    obtain ⟨r188, S188, z188, hc188, hg⟩ := cz_some hg
    refine wr_ci (va_runV (As := [.int v8, .int v9, .int v10]) (rest := []) ⟨hx, hb, hml, hown, hts⟩ (c_X6_play l D C N S z a0 v8 v9 v10 r188 S188 z188 hc188) (cwV 3 hts gL_act_X6_play rfl rfl rfl (by decide +kernel) ⟨Nat.le_of_ble_eq_true rfl, Nat.le_of_ble_eq_true rfl⟩) (wd_preV hw hok187 (wF_6 (S := S) hok187.2) rfl) rfl rfl hl.1 rfl (lv_room (Nat.le_of_ble_eq_true rfl)) dL_act_603 ⟨Nat.le_of_ble_eq_true rfl, Nat.le_of_ble_eq_true rfl⟩) hw (fun H locs hw => ?_)
    refine lv_iload hx hb dL_act_606 (lv_at hl 4 rfl) ?_
    refine lv_icmp_ne (tgt := 615) hx hb dL_act_608 (by decide) (fun c189 => ?_) (fun c189 => ?_)
    · have hg := it_neg hg c189
      refine lv_iconst (v := (0 : Int32)) hx hb dL_act_615 (by decide) ?_
      cases hg
      refine W.widen (k := 3) (n := 28) (Nat.le_of_ble_eq_true rfl) (Nat.le_of_ble_eq_true rfl) ?_
      exact wr_zret hx hb hr (by decide) hw dL_act_616 hlk
    · have hg := it_pos hg c189
      refine lv_iconst (v := (1 : Int32)) hx hb dL_act_611 (by decide) ?_
      refine lv_goto (tgt := 616) hx hb dL_act_612 (by decide) ?_
      cases hg
      refine W.widen (k := 3) (n := 28) (Nat.le_of_ble_eq_true rfl) (Nat.le_of_ble_eq_true rfl) ?_
      exact wr_zret hx hb hr (by decide) hw dL_act_616 hlk
  have B584 : ∀ (K546 : Hp → Nat → Int32 → Int32 → Int32 → Int32 → Option (Int32 × Hp × Nat)) (hK546 : ∀ (S : Hp) (z : Nat) (v8 : Int32) (v9 : Int32) (v10 : Int32) (v11 : Int32) (H : Heap) (locs : List Loc) (ls : Array Slot), K546 S z v8 v9 v10 v11 = some (r, S9, z9) → Wd D C (va_A (wP C S0) z0) s.heap S z H locs s → lv_has ls 12 [(0, .ref a0), (3, .ref a3), (4, .ref a4), (5, .ref a5), (8, .int v8), (9, .int v9), (10, .int v10), (11, .int v11)] → W p l e rm_L_act s m ([.ref a0, .int x1, .int x2, .ref a3, .ref a4, .ref a5] : List Value).toArray below meth c H locs 0 0 (MQ below (QiW D C S0 z0 r S9 z9) ([.ref a0, .int x1, .int x2, .ref a3, .ref a4, .ref a5] : List Value).toArray s 3 28 (va_A (wP C S0) z0)) (F0 m 546 ls [])) (S : Hp) (z : Nat) (v8 : Int32) (v9 : Int32) (v10 : Int32) (v11 : Int32) (s0 : Int32) (s1 : Nat) (s2 : Nat) (s3 : Nat) (s4 : Nat) (s5 : Nat) (H : Heap) (locs : List Loc) (ls : Array Slot), f_L_act_b584 N a0 x1 x2 a3 a4 a5 K546 S z v8 v9 v10 v11 s0 s1 s2 s3 s4 s5 = some (r, S9, z9) → Wd D C (va_A (wP C S0) z0) s.heap S z H locs s → lv_has ls 12 [(0, .ref a0), (3, .ref a3), (4, .ref a4), (5, .ref a5), (8, .int v8), (9, .int v9), (10, .int v10), (11, .int v11)] → W p l e rm_L_act s m ([.ref a0, .int x1, .int x2, .ref a3, .ref a4, .ref a5] : List Value).toArray below meth c H locs 0 0 (MQ below (QiW D C S0 z0 r S9 z9) ([.ref a0, .int x1, .int x2, .ref a3, .ref a4, .ref a5] : List Value).toArray s 3 28 (va_A (wP C S0) z0)) (F0 m 584 ls [.int s0, .ref s1, .ref s2, .ref s3, .ref s4, .ref s5]) := by
    intro K546 hK546 S z v8 v9 v10 v11 s0 s1 s2 s3 s4 s5 H locs ls hg hw hl
    unfold f_L_act_b584 at hg
    obtain ⟨r190, S190, hc190, hg⟩ := cl_some hg
    refine wr_ci (va_runS (As := [.ref s2, .ref s1, .int s0]) (rest := [.ref s3, .ref s4, .ref s5]) ⟨hx, hb, hml, hown, hts⟩ (c_L_reply l D C N S z s2 s1 s0 r190 S190 hc190) (va_cwS 3 hts gL_act_L_reply rfl rfl rfl (by decide +kernel) ⟨Nat.le_of_ble_eq_true rfl, Nat.le_of_ble_eq_true rfl⟩) (wd_preS hw) rfl rfl hl.1 rfl (lv_room (Nat.le_of_ble_eq_true rfl)) dL_act_584 ⟨Nat.le_of_ble_eq_true rfl, Nat.le_of_ble_eq_true rfl⟩) hw (fun H locs hw => ?_)
    obtain ⟨⟨⟩, S191, hc191, hg⟩ := cl_some hg
    refine wr_cv (va_runS (As := [.ref s5, .ref s4, .ref s3, .int r190]) (rest := []) ⟨hx, hb, hml, hown, hts⟩ (c_L_moves l D C N S190 z s5 s4 s3 r190 () S191 hc191) (va_cwS 4 hts gL_act_L_moves rfl rfl rfl (by decide +kernel) ⟨Nat.le_of_ble_eq_true rfl, Nat.le_of_ble_eq_true rfl⟩) (wd_preS hw) rfl rfl hl.1 rfl (lv_room (Nat.le_of_ble_eq_true rfl)) dL_act_587 ⟨Nat.le_of_ble_eq_true rfl, Nat.le_of_ble_eq_true rfl⟩) hw (fun H locs hw => ?_)
    refine lv_iinc (v := (v11 + (1 : Int32))) (lv' := [(11, .int (v11 + (1 : Int32))), (0, .ref a0), (3, .ref a3), (4, .ref a4), (5, .ref a5), (8, .int v8), (9, .int v9), (10, .int v10)]) hx hb dL_act_590 hl (k := 7) rfl rfl (by decide) rfl (fun ls hl => ?_)
    refine lv_goto (tgt := 546) hx hb dL_act_593 (by decide) ?_
    exact hK546 _ _ _ _ _ _ _ _ _ hg hw (lv_sub hl [1, 2, 3, 4, 5, 6, 7, 0] rfl)
  have B546 : ∀ (K546 : Hp → Nat → Int32 → Int32 → Int32 → Int32 → Option (Int32 × Hp × Nat)) (hK546 : ∀ (S : Hp) (z : Nat) (v8 : Int32) (v9 : Int32) (v10 : Int32) (v11 : Int32) (H : Heap) (locs : List Loc) (ls : Array Slot), K546 S z v8 v9 v10 v11 = some (r, S9, z9) → Wd D C (va_A (wP C S0) z0) s.heap S z H locs s → lv_has ls 12 [(0, .ref a0), (3, .ref a3), (4, .ref a4), (5, .ref a5), (8, .int v8), (9, .int v9), (10, .int v10), (11, .int v11)] → W p l e rm_L_act s m ([.ref a0, .int x1, .int x2, .ref a3, .ref a4, .ref a5] : List Value).toArray below meth c H locs 0 0 (MQ below (QiW D C S0 z0 r S9 z9) ([.ref a0, .int x1, .int x2, .ref a3, .ref a4, .ref a5] : List Value).toArray s 3 28 (va_A (wP C S0) z0)) (F0 m 546 ls [])) (S : Hp) (z : Nat) (v8 : Int32) (v9 : Int32) (v10 : Int32) (v11 : Int32) (H : Heap) (locs : List Loc) (ls : Array Slot), f_L_act_b546 N a0 x1 x2 a3 a4 a5 K546 S z v8 v9 v10 v11 = some (r, S9, z9) → Wd D C (va_A (wP C S0) z0) s.heap S z H locs s → lv_has ls 12 [(0, .ref a0), (3, .ref a3), (4, .ref a4), (5, .ref a5), (8, .int v8), (9, .int v9), (10, .int v10), (11, .int v11)] → W p l e rm_L_act s m ([.ref a0, .int x1, .int x2, .ref a3, .ref a4, .ref a5] : List Value).toArray below meth c H locs 0 0 (MQ below (QiW D C S0 z0 r S9 z9) ([.ref a0, .int x1, .int x2, .ref a3, .ref a4, .ref a5] : List Value).toArray s 3 28 (va_A (wP C S0) z0)) (F0 m 546 ls []) := by
    intro K546 hK546 S z v8 v9 v10 v11 H locs ls hg hw hl
    unfold f_L_act_b546 at hg
    refine lv_iload hx hb dL_act_546 (lv_at hl 7 rfl) ?_
    refine lv_iload hx hb dL_act_548 (lv_at hl 6 rfl) ?_
    refine lv_icmp_ge (tgt := 596) hx hb dL_act_550 (by decide) (fun c174 => ?_) (fun c174 => ?_)
    · have hg := it_pos hg c174
      exact B596 _ _ _ _ _ _ _ _ _ hg hw (lv_sub hl [0, 4, 5, 6, 7] rfl)
    · have hg := it_neg hg c174
      refine lv_aload_n hx hb dL_act_553 rfl (lv_at hl 1 rfl) ?_
      refine lv_aload hx hb dL_act_554 (lv_at hl 2 rfl) ?_
      obtain ⟨r175, S175, hc175, hg⟩ := cl_some hg
      refine wr_ci (va_runS (As := [.ref a3, .ref a4]) (rest := []) ⟨hx, hb, hml, hown, hts⟩ (c_L_winner l D C N S z a3 a4 r175 S175 hc175) (va_cwS 2 hts gL_act_L_winner rfl rfl rfl (by decide +kernel) ⟨Nat.le_of_ble_eq_true rfl, Nat.le_of_ble_eq_true rfl⟩) (wd_preS hw) rfl rfl hl.1 rfl (lv_room (Nat.le_of_ble_eq_true rfl)) dL_act_556 ⟨Nat.le_of_ble_eq_true rfl, Nat.le_of_ble_eq_true rfl⟩) hw (fun H locs hw => ?_)
      refine lv_if_ne (tgt := 596) hx hb dL_act_559 (by decide) (fun c176 => ?_) (fun c176 => ?_)
      · have hg := it_neg hg c176
        exact B596 _ _ _ _ _ _ _ _ _ hg hw (lv_sub hl [0, 4, 5, 6, 7] rfl)
      · have hg := it_pos hg c176
        refine lv_aload_n hx hb dL_act_562 rfl (lv_at hl 1 rfl) ?_
        refine lv_aload hx hb dL_act_563 (lv_at hl 2 rfl) ?_
        refine lv_aload hx hb dL_act_565 (lv_at hl 3 rfl) ?_
        refine lv_aload_n hx hb dL_act_567 rfl (lv_at hl 1 rfl) ?_
        refine lv_aload hx hb dL_act_568 (lv_at hl 2 rfl) ?_
        refine lv_aload_n hx hb dL_act_570 rfl (lv_at hl 1 rfl) ?_
        refine lv_iconst (v := (1 : Int32)) hx hb dL_act_571 (by decide) ?_
        obtain ⟨hok177, hg⟩ := gd_some hg
        obtain ⟨hin178, hg⟩ := gd_some hg
        refine wr_iald hx hb hw hok177 (inb_vp hin178) dL_act_572 ?_
        refine lv_iconst (v := (1 : Int32)) hx hb dL_act_573 (by decide) ?_
        refine lv_icmp_ne (tgt := 582) hx hb dL_act_574 (by decide) (fun c179 => ?_) (fun c179 => ?_)
        · have hg := it_neg hg c179
          refine lv_iload hx hb dL_act_582 (lv_at hl 5 rfl) ?_
          exact B584 K546 hK546 _ _ _ _ _ _ _ _ _ _ _ _ _ _ _ hg hw (lv_sub hl [0, 1, 2, 3, 4, 5, 6, 7] rfl)
        · have hg := it_pos hg c179
          refine lv_iload hx hb dL_act_577 (lv_at hl 4 rfl) ?_
          refine lv_goto (tgt := 584) hx hb dL_act_579 (by decide) ?_
          exact B584 K546 hK546 _ _ _ _ _ _ _ _ _ _ _ _ _ _ _ hg hw (lv_sub hl [0, 1, 2, 3, 4, 5, 6, 7] rfl)
  have L546 : ∀ (k : Nat) (S : Hp) (z : Nat) (v8 : Int32) (v9 : Int32) (v10 : Int32) (v11 : Int32) (H : Heap) (locs : List Loc) (ls : Array Slot), f_L_act_l546 N a0 x1 x2 a3 a4 a5 k S z v8 v9 v10 v11 = some (r, S9, z9) → Wd D C (va_A (wP C S0) z0) s.heap S z H locs s → lv_has ls 12 [(0, .ref a0), (3, .ref a3), (4, .ref a4), (5, .ref a5), (8, .int v8), (9, .int v9), (10, .int v10), (11, .int v11)] → W p l e rm_L_act s m ([.ref a0, .int x1, .int x2, .ref a3, .ref a4, .ref a5] : List Value).toArray below meth c H locs 0 0 (MQ below (QiW D C S0 z0 r S9 z9) ([.ref a0, .int x1, .int x2, .ref a3, .ref a4, .ref a5] : List Value).toArray s 3 28 (va_A (wP C S0) z0)) (F0 m 546 ls []) := by
    intro k
    induction k with
    | zero => intro S z v8 v9 v10 v11 H locs ls hg hw hl; exact absurd (show (none : Option (Int32 × Hp × Nat)) = some (r, S9, z9) from hg) (by simp)
    | succ k ih => intro S z v8 v9 v10 v11 H locs ls hg hw hl; exact B546 (f_L_act_l546 N a0 x1 x2 a3 a4 a5 k) ih S z v8 v9 v10 v11 H locs ls hg hw hl
  have B475 : ∀ (S : Hp) (z : Nat) (v6 : Int32) (H : Heap) (locs : List Loc) (ls : Array Slot), f_L_act_b475 N a0 x1 x2 a3 a4 a5 S z v6 = some (r, S9, z9) → Wd D C (va_A (wP C S0) z0) s.heap S z H locs s → lv_has ls 12 [(0, .ref a0), (2, .int x2), (3, .ref a3), (4, .ref a4), (5, .ref a5), (6, .int v6)] → W p l e rm_L_act s m ([.ref a0, .int x1, .int x2, .ref a3, .ref a4, .ref a5] : List Value).toArray below meth c H locs 0 0 (MQ below (QiW D C S0 z0 r S9 z9) ([.ref a0, .int x1, .int x2, .ref a3, .ref a4, .ref a5] : List Value).toArray s 3 28 (va_A (wP C S0) z0)) (F0 m 475 ls []) := by
    intro S z v6 H locs ls hg hw hl
    unfold f_L_act_b475 at hg
    refine lv_iload hx hb dL_act_475 (lv_at hl 5 rfl) ?_
    refine lv_bipush (v := (10 : Int32)) hx hb dL_act_477 (by decide) ?_
    refine lv_icmp_ne (tgt := 515) hx hb dL_act_479 (by decide) (fun c141 => ?_) (fun c141 => ?_)
    · have hg := it_neg hg c141
      refine lv_iload_n hx hb dL_act_515 rfl (lv_at hl 1 rfl) ?_
      refine lv_iconst (v := (3 : Int32)) hx hb dL_act_516 (by decide) ?_
      obtain ⟨r142, S142, hc142, hg⟩ := cl_some hg
      refine wr_ci (va_runS (As := [.int x2, .int (3 : Int32)]) (rest := []) ⟨hx, hb, hml, hown, hts⟩ (c_L_at l D C N S z x2 ((3 : Int32)) r142 S142 hc142) (va_cwS 2 hts gL_act_L_at rfl rfl rfl (by decide +kernel) ⟨Nat.le_of_ble_eq_true rfl, Nat.le_of_ble_eq_true rfl⟩) (wd_preS hw) rfl rfl hl.1 rfl (lv_room (Nat.le_of_ble_eq_true rfl)) dL_act_517 ⟨Nat.le_of_ble_eq_true rfl, Nat.le_of_ble_eq_true rfl⟩) hw (fun H locs hw => ?_)
      refine lv_istore (lv' := [(8, .int r142), (0, .ref a0), (2, .int x2), (3, .ref a3), (4, .ref a4), (5, .ref a5), (6, .int v6)]) hx hb dL_act_520 hl (by decide) rfl (fun ls hl => ?_)
      refine lv_iload_n hx hb dL_act_522 rfl (lv_at hl 2 rfl) ?_
      refine lv_iconst (v := (2 : Int32)) hx hb dL_act_523 (by decide) ?_
      refine lv_ishr hx hb dL_act_524 ?_
      refine lv_iconst (v := (3 : Int32)) hx hb dL_act_525 (by decide) ?_
      obtain ⟨r143, S143, hc143, hg⟩ := cl_some hg
      refine wr_ci (va_runS (As := [.int (x2 >>> ((2 : Int32) &&& 31)), .int (3 : Int32)]) (rest := []) ⟨hx, hb, hml, hown, hts⟩ (c_L_at l D C N S142 z ((x2 >>> ((2 : Int32) &&& 31))) ((3 : Int32)) r143 S143 hc143) (va_cwS 2 hts gL_act_L_at rfl rfl rfl (by decide +kernel) ⟨Nat.le_of_ble_eq_true rfl, Nat.le_of_ble_eq_true rfl⟩) (wd_preS hw) rfl rfl hl.1 rfl (lv_room (Nat.le_of_ble_eq_true rfl)) dL_act_526 ⟨Nat.le_of_ble_eq_true rfl, Nat.le_of_ble_eq_true rfl⟩) hw (fun H locs hw => ?_)
      refine lv_istore (lv' := [(9, .int r143), (8, .int r142), (0, .ref a0), (2, .int x2), (3, .ref a3), (4, .ref a4), (5, .ref a5), (6, .int v6)]) hx hb dL_act_529 hl (by decide) rfl (fun ls hl => ?_)
      refine lv_iconst (v := (1 : Int32)) hx hb dL_act_531 (by decide) ?_
      refine lv_iload_n hx hb dL_act_532 rfl (lv_at hl 3 rfl) ?_
      refine lv_iconst (v := (4 : Int32)) hx hb dL_act_533 (by decide) ?_
      refine lv_ishr hx hb dL_act_534 ?_
      refine lv_bipush (v := (10 : Int32)) hx hb dL_act_535 (by decide) ?_
      obtain ⟨r144, S144, hc144, hg⟩ := cl_some hg
      refine wr_ci (va_runS (As := [.int (x2 >>> ((4 : Int32) &&& 31)), .int (10 : Int32)]) (rest := [.int (1 : Int32)]) ⟨hx, hb, hml, hown, hts⟩ (c_L_at l D C N S143 z ((x2 >>> ((4 : Int32) &&& 31))) ((10 : Int32)) r144 S144 hc144) (va_cwS 2 hts gL_act_L_at rfl rfl rfl (by decide +kernel) ⟨Nat.le_of_ble_eq_true rfl, Nat.le_of_ble_eq_true rfl⟩) (wd_preS hw) rfl rfl hl.1 rfl (lv_room (Nat.le_of_ble_eq_true rfl)) dL_act_537 ⟨Nat.le_of_ble_eq_true rfl, Nat.le_of_ble_eq_true rfl⟩) hw (fun H locs hw => ?_)
      refine lv_iadd hx hb dL_act_540 ?_
      refine lv_istore (lv' := [(10, .int ((1 : Int32) + r144)), (9, .int r143), (8, .int r142), (0, .ref a0), (2, .int x2), (3, .ref a3), (4, .ref a4), (5, .ref a5), (6, .int v6)]) hx hb dL_act_541 hl (by decide) rfl (fun ls hl => ?_)
      refine lv_iconst (v := (0 : Int32)) hx hb dL_act_543 (by decide) ?_
      refine lv_istore (lv' := [(11, .int (0 : Int32)), (10, .int ((1 : Int32) + r144)), (9, .int r143), (8, .int r142), (0, .ref a0), (2, .int x2), (3, .ref a3), (4, .ref a4), (5, .ref a5), (6, .int v6)]) hx hb dL_act_544 hl (by decide) rfl (fun ls hl => ?_)
      exact L546 N _ _ _ _ _ _ _ _ _ hg hw (lv_sub hl [4, 6, 7, 8, 3, 2, 1, 0] rfl)
    · have hg := it_pos hg c141
      refine lv_aload_n hx hb dL_act_482 rfl (lv_at hl 2 rfl) ?_
      refine lv_iconst (v := (1 : Int32)) hx hb dL_act_483 (by decide) ?_
      refine lv_iconst (v := (3 : Int32)) hx hb dL_act_484 (by decide) ?_
      refine lv_aload_n hx hb dL_act_485 rfl (lv_at hl 2 rfl) ?_
      refine lv_iconst (v := (1 : Int32)) hx hb dL_act_486 (by decide) ?_
      obtain ⟨hok145, hg⟩ := gd_some hg
      obtain ⟨hin146, hg⟩ := gd_some hg
      refine wr_iald hx hb hw hok145 (inb_vp hin146) dL_act_487 ?_
      refine lv_isub hx hb dL_act_488 ?_
      refine wr_iast hx hb hw hok145 (inb_vp hin146) dL_act_489 (fun H locs hw => ?_)
      obtain ⟨S147, hS147, hg⟩ := bd_some hg
      rw [← hS147] at hw
      have hok148 : ok S147 a3 8 := by rw [hS147]; exact hok145
      have hin149 : inb (1 : Int32) (hN S147 a3) := by rw [hS147]; exact hin146
      refine lv_aload_n hx hb dL_act_490 rfl (lv_at hl 2 rfl) ?_
      refine lv_iconst (v := (5 : Int32)) hx hb dL_act_491 (by decide) ?_
      refine lv_iconst (v := (-1 : Int32)) hx hb dL_act_492 (by decide) ?_
      obtain ⟨hin150, hg⟩ := gd_some hg
      refine wr_iast hx hb hw hok148 (inb_vp hin150) dL_act_493 (fun H locs hw => ?_)
      obtain ⟨S151, hS151, hg⟩ := bd_some hg
      rw [← hS151] at hw
      have hok152 : ok S151 a3 8 := by rw [hS151]; exact hok148
      have hin153 : inb (1 : Int32) (hN S151 a3) := by rw [hS151]; exact hin149
      have hin154 : inb (5 : Int32) (hN S151 a3) := by rw [hS151]; exact hin150
      refine lv_aload_n hx hb dL_act_494 rfl (lv_at hl 2 rfl) ?_
      refine lv_bipush (v := (6 : Int32)) hx hb dL_act_495 (by decide) ?_
      refine lv_iconst (v := (-1 : Int32)) hx hb dL_act_497 (by decide) ?_
      obtain ⟨hin155, hg⟩ := gd_some hg
      refine wr_iast hx hb hw hok152 (inb_vp hin155) dL_act_498 (fun H locs hw => ?_)
      obtain ⟨S156, hS156, hg⟩ := bd_some hg
      rw [← hS156] at hw
      have hok157 : ok S156 a3 8 := by rw [hS156]; exact hok152
      have hin158 : inb (1 : Int32) (hN S156 a3) := by rw [hS156]; exact hin153
      have hin159 : inb (5 : Int32) (hN S156 a3) := by rw [hS156]; exact hin154
      have hin160 : inb (6 : Int32) (hN S156 a3) := by rw [hS156]; exact hin155
      refine lv_aload_n hx hb dL_act_499 rfl (lv_at hl 0 rfl) ?_
      obtain ⟨hok161, hg⟩ := gd_some hg
      obtain ⟨r162, S162, z162, hc162, hg⟩ := cz_some hg
      refine wr_ci (va_runV (As := []) (rest := []) ⟨hx, hb, hml, hown, hts⟩ (c_X6_skip l D C N S156 z a0 r162 S162 z162 hc162) (cwV 0 hts gL_act_X6_skip rfl rfl rfl (by decide +kernel) ⟨Nat.le_of_ble_eq_true rfl, Nat.le_of_ble_eq_true rfl⟩) (wd_preV hw hok161 (wF_6 (S := S156) hok161.2) rfl) rfl rfl hl.1 rfl (lv_room (Nat.le_of_ble_eq_true rfl)) dL_act_500 ⟨Nat.le_of_ble_eq_true rfl, Nat.le_of_ble_eq_true rfl⟩) hw (fun H locs hw => ?_)
      refine lv_aload_n hx hb dL_act_503 rfl (lv_at hl 2 rfl) ?_
      refine lv_iconst (v := (1 : Int32)) hx hb dL_act_504 (by decide) ?_
      obtain ⟨hok163, hg⟩ := gd_some hg
      obtain ⟨hin164, hg⟩ := gd_some hg
      refine wr_iald hx hb hw hok163 (inb_vp hin164) dL_act_505 ?_
      refine lv_icmp_ne (tgt := 513) hx hb dL_act_506 (by decide) (fun c165 => ?_) (fun c165 => ?_)
      · have hg := it_neg hg c165
        refine lv_iconst (v := (0 : Int32)) hx hb dL_act_513 (by decide) ?_
        cases hg
        refine W.widen (k := 3) (n := 28) (Nat.le_of_ble_eq_true rfl) (Nat.le_of_ble_eq_true rfl) ?_
        exact wr_zret hx hb hr (by decide) hw dL_act_514 hlk
      · have hg := it_pos hg c165
        refine lv_iconst (v := (1 : Int32)) hx hb dL_act_509 (by decide) ?_
        refine lv_goto (tgt := 514) hx hb dL_act_510 (by decide) ?_
        cases hg
        refine W.widen (k := 3) (n := 28) (Nat.le_of_ble_eq_true rfl) (Nat.le_of_ble_eq_true rfl) ?_
        exact wr_zret hx hb hr (by decide) hw dL_act_514 hlk
  have B437 : ∀ (S : Hp) (z : Nat) (v8 : Int32) (H : Heap) (locs : List Loc) (ls : Array Slot), f_L_act_b437 N a0 x1 x2 a3 a4 a5 S z v8 = some (r, S9, z9) → Wd D C (va_A (wP C S0) z0) s.heap S z H locs s → lv_has ls 12 [(0, .ref a0), (3, .ref a3), (4, .ref a4), (8, .int v8)] → W p l e rm_L_act s m ([.ref a0, .int x1, .int x2, .ref a3, .ref a4, .ref a5] : List Value).toArray below meth c H locs 0 0 (MQ below (QiW D C S0 z0 r S9 z9) ([.ref a0, .int x1, .int x2, .ref a3, .ref a4, .ref a5] : List Value).toArray s 3 28 (va_A (wP C S0) z0)) (F0 m 437 ls []) := by
    intro S z v8 H locs ls hg hw hl
    unfold f_L_act_b437 at hg
    refine lv_aload_n hx hb dL_act_437 rfl (lv_at hl 0 rfl) ?_
    refine lv_iload hx hb dL_act_438 (lv_at hl 3 rfl) ?_
    obtain ⟨hok166, hg⟩ := gd_some hg
    obtain ⟨r167, S167, z167, hc167, hg⟩ := cz_some hg
    refine wr_ci (va_runV (As := [.int v8]) (rest := []) ⟨hx, hb, hml, hown, hts⟩ (c_X6_move l D C N S z a0 v8 r167 S167 z167 hc167) (cwV 1 hts gL_act_X6_move rfl rfl rfl (by decide +kernel) ⟨Nat.le_of_ble_eq_true rfl, Nat.le_of_ble_eq_true rfl⟩) (wd_preV hw hok166 (wF_6 (S := S) hok166.2) rfl) rfl rfl hl.1 rfl (lv_room (Nat.le_of_ble_eq_true rfl)) dL_act_440 ⟨Nat.le_of_ble_eq_true rfl, Nat.le_of_ble_eq_true rfl⟩) hw (fun H locs hw => ?_)
    refine lv_aload_n hx hb dL_act_443 rfl (lv_at hl 1 rfl) ?_
    refine lv_aload hx hb dL_act_444 (lv_at hl 2 rfl) ?_
    obtain ⟨r168, S168, hc168, hg⟩ := cl_some hg
    refine wr_ci (va_runS (As := [.ref a3, .ref a4]) (rest := [.int r167]) ⟨hx, hb, hml, hown, hts⟩ (c_L_winner l D C N S167 z167 a3 a4 r168 S168 hc168) (va_cwS 2 hts gL_act_L_winner rfl rfl rfl (by decide +kernel) ⟨Nat.le_of_ble_eq_true rfl, Nat.le_of_ble_eq_true rfl⟩) (wd_preS hw) rfl rfl hl.1 rfl (lv_room (Nat.le_of_ble_eq_true rfl)) dL_act_446 ⟨Nat.le_of_ble_eq_true rfl, Nat.le_of_ble_eq_true rfl⟩) hw (fun H locs hw => ?_)
    refine lv_icmp_ne (tgt := 456) hx hb dL_act_449 (by decide) (fun c169 => ?_) (fun c169 => ?_)
    · have hg := it_neg hg c169
      refine lv_iconst (v := (0 : Int32)) hx hb dL_act_456 (by decide) ?_
      cases hg
      refine W.widen (k := 3) (n := 28) (Nat.le_of_ble_eq_true rfl) (Nat.le_of_ble_eq_true rfl) ?_
      exact wr_zret hx hb hr (by decide) hw dL_act_457 hlk
    · have hg := it_pos hg c169
      refine lv_iconst (v := (1 : Int32)) hx hb dL_act_452 (by decide) ?_
      refine lv_goto (tgt := 457) hx hb dL_act_453 (by decide) ?_
      cases hg
      refine W.widen (k := 3) (n := 28) (Nat.le_of_ble_eq_true rfl) (Nat.le_of_ble_eq_true rfl) ?_
      exact wr_zret hx hb hr (by decide) hw dL_act_457 hlk
  have B279 : ∀ (S : Hp) (z : Nat) (v6 : Int32) (v7 : Int32) (H : Heap) (locs : List Loc) (ls : Array Slot), f_L_act_b279 N a0 x1 x2 a3 a4 a5 S z v6 v7 = some (r, S9, z9) → Wd D C (va_A (wP C S0) z0) s.heap S z H locs s → lv_has ls 12 [(0, .ref a0), (2, .int x2), (3, .ref a3), (4, .ref a4), (5, .ref a5), (6, .int v6), (7, .int v7)] → W p l e rm_L_act s m ([.ref a0, .int x1, .int x2, .ref a3, .ref a4, .ref a5] : List Value).toArray below meth c H locs 0 0 (MQ below (QiW D C S0 z0 r S9 z9) ([.ref a0, .int x1, .int x2, .ref a3, .ref a4, .ref a5] : List Value).toArray s 3 28 (va_A (wP C S0) z0)) (F0 m 279 ls []) := by
    intro S z v6 v7 H locs ls hg hw hl
    unfold f_L_act_b279 at hg
    refine lv_iload hx hb dL_act_279 (lv_at hl 5 rfl) ?_
    refine lv_bipush (v := (6 : Int32)) hx hb dL_act_281 (by decide) ?_
    refine lv_icmp_lt (tgt := 291) hx hb dL_act_283 (by decide) (fun c93 => ?_) (fun c93 => ?_)
    · have hg := it_pos hg c93
      exact B291 _ _ _ _ _ hg hw (lv_sub hl [0, 1, 2] rfl)
    · have hg := it_neg hg c93
      refine lv_iload hx hb dL_act_286 (lv_at hl 6 rfl) ?_
      refine lv_if_ne (tgt := 366) hx hb dL_act_288 (by decide) (fun c94 => ?_) (fun c94 => ?_)
      · have hg := it_neg hg c94
        refine lv_iload hx hb dL_act_366 (lv_at hl 5 rfl) ?_
        refine lv_bipush (v := (10 : Int32)) hx hb dL_act_368 (by decide) ?_
        refine lv_icmp_ge (tgt := 458) hx hb dL_act_370 (by decide) (fun c95 => ?_) (fun c95 => ?_)
        · have hg := it_pos hg c95
          refine lv_aload_n hx hb dL_act_458 rfl (lv_at hl 2 rfl) ?_
          refine lv_bipush (v := (10 : Int32)) hx hb dL_act_459 (by decide) ?_
          obtain ⟨hok96, hg⟩ := gd_some hg
          obtain ⟨hin97, hg⟩ := gd_some hg
          refine wr_iald hx hb hw hok96 (inb_vp hin97) dL_act_461 ?_
          refine lv_bipush (v := (6 : Int32)) hx hb dL_act_462 (by decide) ?_
          refine lv_icmp_ge (tgt := 475) hx hb dL_act_464 (by decide) (fun c98 => ?_) (fun c98 => ?_)
          · have hg := it_pos hg c98
            exact B475 _ _ _ _ _ _ hg hw (lv_sub hl [0, 1, 2, 3, 4, 5] rfl)
          · have hg := it_neg hg c98
            refine lv_aload_n hx hb dL_act_467 rfl (lv_at hl 2 rfl) ?_
            refine lv_bipush (v := (10 : Int32)) hx hb dL_act_468 (by decide) ?_
            refine lv_dup2_11 hx hb dL_act_470 rfl rfl ?_
            refine wr_iald hx hb hw hok96 (inb_vp hin97) dL_act_471 ?_
            refine lv_iconst (v := (1 : Int32)) hx hb dL_act_472 (by decide) ?_
            refine lv_iadd hx hb dL_act_473 ?_
            refine wr_iast hx hb hw hok96 (inb_vp hin97) dL_act_474 (fun H locs hw => ?_)
            obtain ⟨S99, hS99, hg⟩ := bd_some hg
            rw [← hS99] at hw
            have hok100 : ok S99 a3 8 := by rw [hS99]; exact hok96
            have hin101 : inb (10 : Int32) (hN S99 a3) := by rw [hS99]; exact hin97
            exact B475 _ _ _ _ _ _ hg hw (lv_sub hl [0, 1, 2, 3, 4, 5] rfl)
        · have hg := it_neg hg c95
          refine lv_iload_n hx hb dL_act_373 rfl (lv_at hl 1 rfl) ?_
          refine lv_aload_n hx hb dL_act_374 rfl (lv_at hl 2 rfl) ?_
          refine lv_iconst (v := (0 : Int32)) hx hb dL_act_375 (by decide) ?_
          obtain ⟨hok102, hg⟩ := gd_some hg
          obtain ⟨hin103, hg⟩ := gd_some hg
          refine wr_iald hx hb hw hok102 (inb_vp hin103) dL_act_376 ?_
          obtain ⟨r104, S104, hc104, hg⟩ := cl_some hg
          refine wr_ci (va_runS (As := [.int x2, .int (hI S a3 (0 : Int32).toNatClampNeg)]) (rest := []) ⟨hx, hb, hml, hown, hts⟩ (c_L_at l D C N S z x2 ((hI S a3 (0 : Int32).toNatClampNeg)) r104 S104 hc104) (va_cwS 2 hts gL_act_L_at rfl rfl rfl (by decide +kernel) ⟨Nat.le_of_ble_eq_true rfl, Nat.le_of_ble_eq_true rfl⟩) (wd_preS hw) rfl rfl hl.1 rfl (lv_room (Nat.le_of_ble_eq_true rfl)) dL_act_377 ⟨Nat.le_of_ble_eq_true rfl, Nat.le_of_ble_eq_true rfl⟩) hw (fun H locs hw => ?_)
          refine lv_istore (lv' := [(8, .int r104), (0, .ref a0), (2, .int x2), (3, .ref a3), (4, .ref a4), (5, .ref a5), (6, .int v6), (7, .int v7)]) hx hb dL_act_380 hl (by decide) rfl (fun ls hl => ?_)
          refine lv_aload_n hx hb dL_act_382 rfl (lv_at hl 3 rfl) ?_
          obtain ⟨r105, S105, hc105, hg⟩ := cl_some hg
          refine wr_ci (va_runS (As := [.ref a3]) (rest := []) ⟨hx, hb, hml, hown, hts⟩ (c_L_free l D C N S104 z a3 r105 S105 hc105) (va_cwS 1 hts gL_act_L_free rfl rfl rfl (by decide +kernel) ⟨Nat.le_of_ble_eq_true rfl, Nat.le_of_ble_eq_true rfl⟩) (wd_preS hw) rfl rfl hl.1 rfl (lv_room (Nat.le_of_ble_eq_true rfl)) dL_act_383 ⟨Nat.le_of_ble_eq_true rfl, Nat.le_of_ble_eq_true rfl⟩) hw (fun H locs hw => ?_)
          refine lv_iload hx hb dL_act_386 (lv_at hl 0 rfl) ?_
          refine lv_ishr hx hb dL_act_388 ?_
          refine lv_iconst (v := (1 : Int32)) hx hb dL_act_389 (by decide) ?_
          refine lv_iand hx hb dL_act_390 ?_
          refine lv_if_ne (tgt := 410) hx hb dL_act_391 (by decide) (fun c106 => ?_) (fun c106 => ?_)
          · have hg := it_neg hg c106
            refine lv_aload_n hx hb dL_act_410 rfl (lv_at hl 3 rfl) ?_
            refine lv_aload hx hb dL_act_411 (lv_at hl 4 rfl) ?_
            refine lv_aload hx hb dL_act_413 (lv_at hl 5 rfl) ?_
            refine lv_iload hx hb dL_act_415 (lv_at hl 0 rfl) ?_
            obtain ⟨⟨⟩, S107, hc107, hg⟩ := cl_some hg
            refine wr_cv (va_runS (As := [.ref a3, .ref a4, .ref a5, .int r104]) (rest := []) ⟨hx, hb, hml, hown, hts⟩ (c_L_moves l D C N S105 z a3 a4 a5 r104 () S107 hc107) (va_cwS 4 hts gL_act_L_moves rfl rfl rfl (by decide +kernel) ⟨Nat.le_of_ble_eq_true rfl, Nat.le_of_ble_eq_true rfl⟩) (wd_preS hw) rfl rfl hl.1 rfl (lv_room (Nat.le_of_ble_eq_true rfl)) dL_act_417 ⟨Nat.le_of_ble_eq_true rfl, Nat.le_of_ble_eq_true rfl⟩) hw (fun H locs hw => ?_)
            refine lv_aload_n hx hb dL_act_420 rfl (lv_at hl 3 rfl) ?_
            refine lv_bipush (v := (10 : Int32)) hx hb dL_act_421 (by decide) ?_
            obtain ⟨hok108, hg⟩ := gd_some hg
            obtain ⟨hin109, hg⟩ := gd_some hg
            refine wr_iald hx hb hw hok108 (inb_vp hin109) dL_act_423 ?_
            refine lv_bipush (v := (6 : Int32)) hx hb dL_act_424 (by decide) ?_
            refine lv_icmp_ge (tgt := 437) hx hb dL_act_426 (by decide) (fun c110 => ?_) (fun c110 => ?_)
            · have hg := it_pos hg c110
              exact B437 _ _ _ _ _ _ hg hw (lv_sub hl [1, 3, 4, 0] rfl)
            · have hg := it_neg hg c110
              refine lv_aload_n hx hb dL_act_429 rfl (lv_at hl 3 rfl) ?_
              refine lv_bipush (v := (10 : Int32)) hx hb dL_act_430 (by decide) ?_
              refine lv_dup2_11 hx hb dL_act_432 rfl rfl ?_
              refine wr_iald hx hb hw hok108 (inb_vp hin109) dL_act_433 ?_
              refine lv_iconst (v := (1 : Int32)) hx hb dL_act_434 (by decide) ?_
              refine lv_iadd hx hb dL_act_435 ?_
              refine wr_iast hx hb hw hok108 (inb_vp hin109) dL_act_436 (fun H locs hw => ?_)
              obtain ⟨S111, hS111, hg⟩ := bd_some hg
              rw [← hS111] at hw
              have hok112 : ok S111 a3 8 := by rw [hS111]; exact hok108
              have hin113 : inb (10 : Int32) (hN S111 a3) := by rw [hS111]; exact hin109
              exact B437 _ _ _ _ _ _ hg hw (lv_sub hl [1, 3, 4, 0] rfl)
          · have hg := it_pos hg c106
            refine lv_aload_n hx hb dL_act_394 rfl (lv_at hl 1 rfl) ?_
            refine lv_iload hx hb dL_act_395 (lv_at hl 0 rfl) ?_
            obtain ⟨hok114, hg⟩ := gd_some hg
            obtain ⟨r115, S115, hc115, hg⟩ := cl_some hg
            refine wr_ci (va_runV (As := [.int r104]) (rest := []) ⟨hx, hb, hml, hown, hts⟩ (c_X6_ifMoved l D C N S105 z a0 r104 r115 S115 hc115) (cwV 1 hts gL_act_X6_ifMoved rfl rfl rfl (by decide +kernel) ⟨Nat.le_of_ble_eq_true rfl, Nat.le_of_ble_eq_true rfl⟩) (wd_preV hw hok114 (wF_6 (S := S105) hok114.2) rfl) rfl rfl hl.1 rfl (lv_room (Nat.le_of_ble_eq_true rfl)) dL_act_397 ⟨Nat.le_of_ble_eq_true rfl, Nat.le_of_ble_eq_true rfl⟩) hw (fun H locs hw => ?_)
            refine lv_iconst (v := (-1 : Int32)) hx hb dL_act_400 (by decide) ?_
            refine lv_icmp_ne (tgt := 408) hx hb dL_act_401 (by decide) (fun c116 => ?_) (fun c116 => ?_)
            · have hg := it_neg hg c116
              refine lv_iconst (v := (0 : Int32)) hx hb dL_act_408 (by decide) ?_
              cases hg
              refine W.widen (k := 3) (n := 28) (Nat.le_of_ble_eq_true rfl) (Nat.le_of_ble_eq_true rfl) ?_
              exact wr_zret hx hb hr (by decide) hw dL_act_409 hlk
            · have hg := it_pos hg c116
              refine lv_iconst (v := (1 : Int32)) hx hb dL_act_404 (by decide) ?_
              refine lv_goto (tgt := 409) hx hb dL_act_405 (by decide) ?_
              cases hg
              refine W.widen (k := 3) (n := 28) (Nat.le_of_ble_eq_true rfl) (Nat.le_of_ble_eq_true rfl) ?_
              exact wr_zret hx hb hr (by decide) hw dL_act_409 hlk
      · have hg := it_pos hg c94
        exact B291 _ _ _ _ _ hg hw (lv_sub hl [0, 1, 2] rfl)
  have B262 : ∀ (S : Hp) (z : Nat) (v8 : Int32) (v9 : Int32) (H : Heap) (locs : List Loc) (ls : Array Slot), f_L_act_b262 N a0 x1 x2 a3 a4 a5 S z v8 v9 = some (r, S9, z9) → Wd D C (va_A (wP C S0) z0) s.heap S z H locs s → lv_has ls 12 [(0, .ref a0), (8, .int v8), (9, .int v9)] → W p l e rm_L_act s m ([.ref a0, .int x1, .int x2, .ref a3, .ref a4, .ref a5] : List Value).toArray below meth c H locs 0 0 (MQ below (QiW D C S0 z0 r S9 z9) ([.ref a0, .int x1, .int x2, .ref a3, .ref a4, .ref a5] : List Value).toArray s 3 28 (va_A (wP C S0) z0)) (F0 m 262 ls []) := by
    intro S z v8 v9 H locs ls hg hw hl
    unfold f_L_act_b262 at hg
    refine lv_aload_n hx hb dL_act_262 rfl (lv_at hl 0 rfl) ?_
    refine lv_iload hx hb dL_act_263 (lv_at hl 1 rfl) ?_
    obtain ⟨hok170, hg⟩ := gd_some hg
    obtain ⟨r171, S171, z171, hc171, hg⟩ := cz_some hg
    refine wr_ci (va_runV (As := [.int v8]) (rest := []) ⟨hx, hb, hml, hown, hts⟩ (c_X6_removeLine l D C N S z a0 v8 r171 S171 z171 hc171) (cwV 1 hts gL_act_X6_removeLine rfl rfl rfl (by decide +kernel) ⟨Nat.le_of_ble_eq_true rfl, Nat.le_of_ble_eq_true rfl⟩) (wd_preV hw hok170 (wF_6 (S := S) hok170.2) rfl) rfl rfl hl.1 rfl (lv_room (Nat.le_of_ble_eq_true rfl)) dL_act_265 ⟨Nat.le_of_ble_eq_true rfl, Nat.le_of_ble_eq_true rfl⟩) hw (fun H locs hw => ?_)
    refine lv_iload hx hb dL_act_268 (lv_at hl 2 rfl) ?_
    refine lv_icmp_ne (tgt := 277) hx hb dL_act_270 (by decide) (fun c172 => ?_) (fun c172 => ?_)
    · have hg := it_neg hg c172
      refine lv_iconst (v := (0 : Int32)) hx hb dL_act_277 (by decide) ?_
      cases hg
      refine W.widen (k := 3) (n := 28) (Nat.le_of_ble_eq_true rfl) (Nat.le_of_ble_eq_true rfl) ?_
      exact wr_zret hx hb hr (by decide) hw dL_act_278 hlk
    · have hg := it_pos hg c172
      refine lv_iconst (v := (1 : Int32)) hx hb dL_act_273 (by decide) ?_
      refine lv_goto (tgt := 278) hx hb dL_act_274 (by decide) ?_
      cases hg
      refine W.widen (k := 3) (n := 28) (Nat.le_of_ble_eq_true rfl) (Nat.le_of_ble_eq_true rfl) ?_
      exact wr_zret hx hb hr (by decide) hw dL_act_278 hlk
  have B219 : ∀ (K219 : Hp → Nat → Int32 → Int32 → Int32 → Option (Int32 × Hp × Nat)) (hK219 : ∀ (S : Hp) (z : Nat) (v8 : Int32) (v9 : Int32) (v10 : Int32) (H : Heap) (locs : List Loc) (ls : Array Slot), K219 S z v8 v9 v10 = some (r, S9, z9) → Wd D C (va_A (wP C S0) z0) s.heap S z H locs s → lv_has ls 12 [(0, .ref a0), (3, .ref a3), (4, .ref a4), (8, .int v8), (9, .int v9), (10, .int v10)] → W p l e rm_L_act s m ([.ref a0, .int x1, .int x2, .ref a3, .ref a4, .ref a5] : List Value).toArray below meth c H locs 0 0 (MQ below (QiW D C S0 z0 r S9 z9) ([.ref a0, .int x1, .int x2, .ref a3, .ref a4, .ref a5] : List Value).toArray s 3 28 (va_A (wP C S0) z0)) (F0 m 219 ls [])) (S : Hp) (z : Nat) (v8 : Int32) (v9 : Int32) (v10 : Int32) (H : Heap) (locs : List Loc) (ls : Array Slot), f_L_act_b219 N a0 x1 x2 a3 a4 a5 K219 S z v8 v9 v10 = some (r, S9, z9) → Wd D C (va_A (wP C S0) z0) s.heap S z H locs s → lv_has ls 12 [(0, .ref a0), (3, .ref a3), (4, .ref a4), (8, .int v8), (9, .int v9), (10, .int v10)] → W p l e rm_L_act s m ([.ref a0, .int x1, .int x2, .ref a3, .ref a4, .ref a5] : List Value).toArray below meth c H locs 0 0 (MQ below (QiW D C S0 z0 r S9 z9) ([.ref a0, .int x1, .int x2, .ref a3, .ref a4, .ref a5] : List Value).toArray s 3 28 (va_A (wP C S0) z0)) (F0 m 219 ls []) := by
    intro K219 hK219 S z v8 v9 v10 H locs ls hg hw hl
    unfold f_L_act_b219 at hg
    refine lv_iload hx hb dL_act_219 (lv_at hl 5 rfl) ?_
    refine lv_aload_n hx hb dL_act_221 rfl (lv_at hl 1 rfl) ?_
    refine lv_iconst (v := (2 : Int32)) hx hb dL_act_222 (by decide) ?_
    obtain ⟨hok117, hg⟩ := gd_some hg
    obtain ⟨hin118, hg⟩ := gd_some hg
    refine wr_iald hx hb hw hok117 (inb_vp hin118) dL_act_223 ?_
    refine lv_icmp_ge (tgt := 245) hx hb dL_act_224 (by decide) (fun c119 => ?_) (fun c119 => ?_)
    · have hg := it_pos hg c119
      refine lv_aload_n hx hb dL_act_245 rfl (lv_at hl 1 rfl) ?_
      refine lv_bipush (v := (10 : Int32)) hx hb dL_act_246 (by decide) ?_
      obtain ⟨hin120, hg⟩ := gd_some hg
      refine wr_iald hx hb hw hok117 (inb_vp hin120) dL_act_248 ?_
      refine lv_bipush (v := (6 : Int32)) hx hb dL_act_249 (by decide) ?_
      refine lv_icmp_ge (tgt := 262) hx hb dL_act_251 (by decide) (fun c121 => ?_) (fun c121 => ?_)
      · have hg := it_pos hg c121
        exact B262 _ _ _ _ _ _ _ hg hw (lv_sub hl [0, 3, 4] rfl)
      · have hg := it_neg hg c121
        refine lv_aload_n hx hb dL_act_254 rfl (lv_at hl 1 rfl) ?_
        refine lv_bipush (v := (10 : Int32)) hx hb dL_act_255 (by decide) ?_
        refine lv_dup2_11 hx hb dL_act_257 rfl rfl ?_
        refine wr_iald hx hb hw hok117 (inb_vp hin120) dL_act_258 ?_
        refine lv_iconst (v := (1 : Int32)) hx hb dL_act_259 (by decide) ?_
        refine lv_iadd hx hb dL_act_260 ?_
        refine wr_iast hx hb hw hok117 (inb_vp hin120) dL_act_261 (fun H locs hw => ?_)
        obtain ⟨S122, hS122, hg⟩ := bd_some hg
        rw [← hS122] at hw
        have hok123 : ok S122 a3 8 := by rw [hS122]; exact hok117
        have hin124 : inb (2 : Int32) (hN S122 a3) := by rw [hS122]; exact hin118
        have hin125 : inb (10 : Int32) (hN S122 a3) := by rw [hS122]; exact hin120
        exact B262 _ _ _ _ _ _ _ hg hw (lv_sub hl [0, 3, 4] rfl)
    · have hg := it_neg hg c119
      refine lv_aload hx hb dL_act_227 (lv_at hl 2 rfl) ?_
      refine lv_iload hx hb dL_act_229 (lv_at hl 5 rfl) ?_
      refine lv_aload hx hb dL_act_231 (lv_at hl 2 rfl) ?_
      refine lv_iload hx hb dL_act_233 (lv_at hl 5 rfl) ?_
      refine lv_iconst (v := (1 : Int32)) hx hb dL_act_235 (by decide) ?_
      refine lv_iadd hx hb dL_act_236 ?_
      obtain ⟨hok126, hg⟩ := gd_some hg
      obtain ⟨hin127, hg⟩ := gd_some hg
      refine wr_iald hx hb hw hok126 (inb_vp hin127) dL_act_237 ?_
      obtain ⟨hin128, hg⟩ := gd_some hg
      refine wr_iast hx hb hw hok126 (inb_vp hin128) dL_act_238 (fun H locs hw => ?_)
      obtain ⟨S129, hS129, hg⟩ := bd_some hg
      rw [← hS129] at hw
      have hok130 : ok S129 a3 8 := by rw [hS129]; exact hok117
      have hin131 : inb (2 : Int32) (hN S129 a3) := by rw [hS129]; exact hin118
      have hok132 : ok S129 a4 8 := by rw [hS129]; exact hok126
      have hin133 : inb (v10 + (1 : Int32)) (hN S129 a4) := by rw [hS129]; exact hin127
      have hin134 : inb v10 (hN S129 a4) := by rw [hS129]; exact hin128
      refine lv_iinc (v := (v10 + (1 : Int32))) (lv' := [(10, .int (v10 + (1 : Int32))), (0, .ref a0), (3, .ref a3), (4, .ref a4), (8, .int v8), (9, .int v9)]) hx hb dL_act_239 hl (k := 5) rfl rfl (by decide) rfl (fun ls hl => ?_)
      refine lv_goto (tgt := 219) hx hb dL_act_242 (by decide) ?_
      exact hK219 _ _ _ _ _ _ _ _ hg hw (lv_sub hl [1, 2, 3, 4, 5, 0] rfl)
  have L219 : ∀ (k : Nat) (S : Hp) (z : Nat) (v8 : Int32) (v9 : Int32) (v10 : Int32) (H : Heap) (locs : List Loc) (ls : Array Slot), f_L_act_l219 N a0 x1 x2 a3 a4 a5 k S z v8 v9 v10 = some (r, S9, z9) → Wd D C (va_A (wP C S0) z0) s.heap S z H locs s → lv_has ls 12 [(0, .ref a0), (3, .ref a3), (4, .ref a4), (8, .int v8), (9, .int v9), (10, .int v10)] → W p l e rm_L_act s m ([.ref a0, .int x1, .int x2, .ref a3, .ref a4, .ref a5] : List Value).toArray below meth c H locs 0 0 (MQ below (QiW D C S0 z0 r S9 z9) ([.ref a0, .int x1, .int x2, .ref a3, .ref a4, .ref a5] : List Value).toArray s 3 28 (va_A (wP C S0) z0)) (F0 m 219 ls []) := by
    intro k
    induction k with
    | zero => intro S z v8 v9 v10 H locs ls hg hw hl; exact absurd (show (none : Option (Int32 × Hp × Nat)) = some (r, S9, z9) from hg) (by simp)
    | succ k ih => intro S z v8 v9 v10 H locs ls hg hw hl; exact B219 (f_L_act_l219 N a0 x1 x2 a3 a4 a5 k) ih S z v8 v9 v10 H locs ls hg hw hl
  have B179 : ∀ (S : Hp) (z : Nat) (v6 : Int32) (v7 : Int32) (H : Heap) (locs : List Loc) (ls : Array Slot), f_L_act_b179 N a0 x1 x2 a3 a4 a5 S z v6 v7 = some (r, S9, z9) → Wd D C (va_A (wP C S0) z0) s.heap S z H locs s → lv_has ls 12 [(0, .ref a0), (2, .int x2), (3, .ref a3), (4, .ref a4), (5, .ref a5), (6, .int v6), (7, .int v7)] → W p l e rm_L_act s m ([.ref a0, .int x1, .int x2, .ref a3, .ref a4, .ref a5] : List Value).toArray below meth c H locs 0 0 (MQ below (QiW D C S0 z0 r S9 z9) ([.ref a0, .int x1, .int x2, .ref a3, .ref a4, .ref a5] : List Value).toArray s 3 28 (va_A (wP C S0) z0)) (F0 m 179 ls []) := by
    intro S z v6 v7 H locs ls hg hw hl
    unfold f_L_act_b179 at hg
    refine lv_iload hx hb dL_act_179 (lv_at hl 5 rfl) ?_
    refine lv_iconst (v := (4 : Int32)) hx hb dL_act_181 (by decide) ?_
    refine lv_icmp_ne (tgt := 279) hx hb dL_act_182 (by decide) (fun c64 => ?_) (fun c64 => ?_)
    · have hg := it_neg hg c64
      exact B279 _ _ _ _ _ _ _ hg hw (lv_sub hl [0, 1, 2, 3, 4, 5, 6] rfl)
    · have hg := it_pos hg c64
      refine lv_aload_n hx hb dL_act_185 rfl (lv_at hl 2 rfl) ?_
      refine lv_iconst (v := (2 : Int32)) hx hb dL_act_186 (by decide) ?_
      obtain ⟨hok65, hg⟩ := gd_some hg
      obtain ⟨hin66, hg⟩ := gd_some hg
      refine wr_iald hx hb hw hok65 (inb_vp hin66) dL_act_187 ?_
      refine lv_iconst (v := (1 : Int32)) hx hb dL_act_188 (by decide) ?_
      refine lv_icmp_le (tgt := 279) hx hb dL_act_189 (by decide) (fun c67 => ?_) (fun c67 => ?_)
      · have hg := it_pos hg c67
        exact B279 _ _ _ _ _ _ _ hg hw (lv_sub hl [0, 1, 2, 3, 4, 5, 6] rfl)
      · have hg := it_neg hg c67
        refine lv_iload_n hx hb dL_act_192 rfl (lv_at hl 1 rfl) ?_
        refine lv_aload_n hx hb dL_act_193 rfl (lv_at hl 2 rfl) ?_
        refine lv_iconst (v := (2 : Int32)) hx hb dL_act_194 (by decide) ?_
        refine wr_iald hx hb hw hok65 (inb_vp hin66) dL_act_195 ?_
        obtain ⟨r68, S68, hc68, hg⟩ := cl_some hg
        refine wr_ci (va_runS (As := [.int x2, .int (hI S a3 (2 : Int32).toNatClampNeg)]) (rest := []) ⟨hx, hb, hml, hown, hts⟩ (c_L_at l D C N S z x2 ((hI S a3 (2 : Int32).toNatClampNeg)) r68 S68 hc68) (va_cwS 2 hts gL_act_L_at rfl rfl rfl (by decide +kernel) ⟨Nat.le_of_ble_eq_true rfl, Nat.le_of_ble_eq_true rfl⟩) (wd_preS hw) rfl rfl hl.1 rfl (lv_room (Nat.le_of_ble_eq_true rfl)) dL_act_196 ⟨Nat.le_of_ble_eq_true rfl, Nat.le_of_ble_eq_true rfl⟩) hw (fun H locs hw => ?_)
        refine lv_istore (lv' := [(8, .int r68), (0, .ref a0), (2, .int x2), (3, .ref a3), (4, .ref a4), (5, .ref a5), (6, .int v6), (7, .int v7)]) hx hb dL_act_199 hl (by decide) rfl (fun ls hl => ?_)
        refine lv_aload hx hb dL_act_201 (lv_at hl 4 rfl) ?_
        refine lv_iload hx hb dL_act_203 (lv_at hl 0 rfl) ?_
        obtain ⟨hok69, hg⟩ := gd_some hg
        obtain ⟨hin70, hg⟩ := gd_some hg
        refine wr_iald hx hb hw hok69 (inb_vp hin70) dL_act_205 ?_
        obtain ⟨e71, he71, hg⟩ := bd_some hg
        refine lv_istore (lv' := [(9, .int e71), (8, .int r68), (0, .ref a0), (2, .int x2), (3, .ref a3), (4, .ref a4), (5, .ref a5), (6, .int v6), (7, .int v7)]) hx hb dL_act_206 hl (by decide) (by rw [he71]; rfl) (fun ls hl => ?_)
        refine lv_aload_n hx hb dL_act_208 rfl (lv_at hl 4 rfl) ?_
        refine lv_iconst (v := (2 : Int32)) hx hb dL_act_209 (by decide) ?_
        refine lv_dup2_11 hx hb dL_act_210 rfl rfl ?_
        obtain ⟨hok72, hg⟩ := gd_some hg
        obtain ⟨hin73, hg⟩ := gd_some hg
        refine wr_iald hx hb hw hok72 (inb_vp hin73) dL_act_211 ?_
        refine lv_iconst (v := (1 : Int32)) hx hb dL_act_212 (by decide) ?_
        refine lv_isub hx hb dL_act_213 ?_
        refine wr_iast hx hb hw hok72 (inb_vp hin73) dL_act_214 (fun H locs hw => ?_)
        obtain ⟨S74, hS74, hg⟩ := bd_some hg
        rw [← hS74] at hw
        have hok75 : ok S74 a4 8 := by rw [hS74]; exact hok69
        have hin76 : inb r68 (hN S74 a4) := by rw [hS74]; exact hin70
        have hok77 : ok S74 a3 8 := by rw [hS74]; exact hok72
        have hin78 : inb (2 : Int32) (hN S74 a3) := by rw [hS74]; exact hin73
        refine lv_iload hx hb dL_act_215 (lv_at hl 1 rfl) ?_
        refine lv_istore (lv' := [(10, .int r68), (9, .int e71), (8, .int r68), (0, .ref a0), (2, .int x2), (3, .ref a3), (4, .ref a4), (5, .ref a5), (6, .int v6), (7, .int v7)]) hx hb dL_act_217 hl (by decide) rfl (fun ls hl => ?_)
        exact L219 N _ _ _ _ _ _ _ _ hg hw (lv_sub hl [3, 5, 6, 2, 1, 0] rfl)
  have B25 : ∀ (S : Hp) (z : Nat) (v6 : Int32) (s0 : Int32) (H : Heap) (locs : List Loc) (ls : Array Slot), f_L_act_b25 N a0 x1 x2 a3 a4 a5 S z v6 s0 = some (r, S9, z9) → Wd D C (va_A (wP C S0) z0) s.heap S z H locs s → lv_has ls 12 [(0, .ref a0), (2, .int x2), (3, .ref a3), (4, .ref a4), (5, .ref a5), (6, .int v6)] → W p l e rm_L_act s m ([.ref a0, .int x1, .int x2, .ref a3, .ref a4, .ref a5] : List Value).toArray below meth c H locs 0 0 (MQ below (QiW D C S0 z0 r S9 z9) ([.ref a0, .int x1, .int x2, .ref a3, .ref a4, .ref a5] : List Value).toArray s 3 28 (va_A (wP C S0) z0)) (F0 m 25 ls [.int s0]) := by
    intro S z v6 s0 H locs ls hg hw hl
    unfold f_L_act_b25 at hg
    refine lv_istore (lv' := [(7, .int s0), (0, .ref a0), (2, .int x2), (3, .ref a3), (4, .ref a4), (5, .ref a5), (6, .int v6)]) hx hb dL_act_25 hl (by decide) rfl (fun ls hl => ?_)
    refine lv_iload hx hb dL_act_27 (lv_at hl 6 rfl) ?_
    refine lv_if_ne (tgt := 91) hx hb dL_act_29 (by decide) (fun c13 => ?_) (fun c13 => ?_)
    · have hg := it_neg hg c13
      refine lv_aload_n hx hb dL_act_91 rfl (lv_at hl 3 rfl) ?_
      refine lv_iconst (v := (2 : Int32)) hx hb dL_act_92 (by decide) ?_
      obtain ⟨hok14, hg⟩ := gd_some hg
      obtain ⟨hin15, hg⟩ := gd_some hg
      refine wr_iald hx hb hw hok14 (inb_vp hin15) dL_act_93 ?_
      refine lv_if_eq (tgt := 110) hx hb dL_act_94 (by decide) (fun c16 => ?_) (fun c16 => ?_)
      · have hg := it_pos hg c16
        exact B110 _ _ _ _ _ hg hw (lv_sub hl [1, 2, 3, 4] rfl)
      · have hg := it_neg hg c16
        refine lv_iload hx hb dL_act_97 (lv_at hl 6 rfl) ?_
        refine lv_iconst (v := (4 : Int32)) hx hb dL_act_99 (by decide) ?_
        refine lv_icmp_ge (tgt := 179) hx hb dL_act_100 (by decide) (fun c17 => ?_) (fun c17 => ?_)
        · have hg := it_pos hg c17
          exact B179 _ _ _ _ _ _ _ hg hw (lv_sub hl [1, 2, 3, 4, 5, 6, 0] rfl)
        · have hg := it_neg hg c17
          refine lv_aload_n hx hb dL_act_103 rfl (lv_at hl 3 rfl) ?_
          refine lv_iconst (v := (2 : Int32)) hx hb dL_act_104 (by decide) ?_
          refine wr_iald hx hb hw hok14 (inb_vp hin15) dL_act_105 ?_
          refine lv_iconst (v := (3 : Int32)) hx hb dL_act_106 (by decide) ?_
          refine lv_icmp_ge (tgt := 179) hx hb dL_act_107 (by decide) (fun c18 => ?_) (fun c18 => ?_)
          · have hg := it_pos hg c18
            exact B179 _ _ _ _ _ _ _ hg hw (lv_sub hl [1, 2, 3, 4, 5, 6, 0] rfl)
          · have hg := it_neg hg c18
            exact B110 _ _ _ _ _ hg hw (lv_sub hl [1, 2, 3, 4] rfl)
    · have hg := it_pos hg c13
      refine lv_aload_n hx hb dL_act_32 rfl (lv_at hl 3 rfl) ?_
      refine lv_iconst (v := (0 : Int32)) hx hb dL_act_33 (by decide) ?_
      obtain ⟨hok19, hg⟩ := gd_some hg
      obtain ⟨hin20, hg⟩ := gd_some hg
      refine wr_iald hx hb hw hok19 (inb_vp hin20) dL_act_34 ?_
      obtain ⟨e21, he21, hg⟩ := bd_some hg
      refine lv_istore (lv' := [(8, .int e21), (7, .int s0), (0, .ref a0), (2, .int x2), (3, .ref a3), (4, .ref a4), (5, .ref a5), (6, .int v6)]) hx hb dL_act_35 hl (by decide) (by rw [he21]; rfl) (fun ls hl => ?_)
      refine lv_aload_n hx hb dL_act_37 rfl (lv_at hl 4 rfl) ?_
      refine lv_iconst (v := (0 : Int32)) hx hb dL_act_38 (by decide) ?_
      refine lv_iconst (v := (2 : Int32)) hx hb dL_act_39 (by decide) ?_
      refine lv_iload_n hx hb dL_act_40 rfl (lv_at hl 3 rfl) ?_
      refine lv_iconst (v := (4 : Int32)) hx hb dL_act_41 (by decide) ?_
      obtain ⟨r22, S22, hc22, hg⟩ := cl_some hg
      refine wr_ci (va_runS (As := [.int x2, .int (4 : Int32)]) (rest := [.int (2 : Int32), .int (0 : Int32), .ref a3]) ⟨hx, hb, hml, hown, hts⟩ (c_L_at l D C N S z x2 ((4 : Int32)) r22 S22 hc22) (va_cwS 2 hts gL_act_L_at rfl rfl rfl (by decide +kernel) ⟨Nat.le_of_ble_eq_true rfl, Nat.le_of_ble_eq_true rfl⟩) (wd_preS hw) rfl rfl hl.1 rfl (lv_room (Nat.le_of_ble_eq_true rfl)) dL_act_42 ⟨Nat.le_of_ble_eq_true rfl, Nat.le_of_ble_eq_true rfl⟩) hw (fun H locs hw => ?_)
      refine lv_iadd hx hb dL_act_45 ?_
      obtain ⟨hok23, hg⟩ := gd_some hg
      obtain ⟨hin24, hg⟩ := gd_some hg
      refine wr_iast hx hb hw hok23 (inb_vp hin24) dL_act_46 (fun H locs hw => ?_)
      obtain ⟨S25, hS25, hg⟩ := bd_some hg
      rw [← hS25] at hw
      have hok26 : ok S25 a3 8 := by rw [hS25]; exact hok23
      have hin27 : inb (0 : Int32) (hN S25 a3) := by rw [hS25]; exact hin24
      refine lv_aload_n hx hb dL_act_47 rfl (lv_at hl 4 rfl) ?_
      refine lv_iconst (v := (2 : Int32)) hx hb dL_act_48 (by decide) ?_
      refine lv_iconst (v := (0 : Int32)) hx hb dL_act_49 (by decide) ?_
      obtain ⟨hin28, hg⟩ := gd_some hg
      refine wr_iast hx hb hw hok26 (inb_vp hin28) dL_act_50 (fun H locs hw => ?_)
      obtain ⟨S29, hS29, hg⟩ := bd_some hg
      rw [← hS29] at hw
      have hok30 : ok S29 a3 8 := by rw [hS29]; exact hok26
      have hin31 : inb (0 : Int32) (hN S29 a3) := by rw [hS29]; exact hin27
      have hin32 : inb (2 : Int32) (hN S29 a3) := by rw [hS29]; exact hin28
      refine lv_aload_n hx hb dL_act_51 rfl (lv_at hl 4 rfl) ?_
      refine lv_iconst (v := (1 : Int32)) hx hb dL_act_52 (by decide) ?_
      obtain ⟨⟨⟩, S33, hc33, hg⟩ := cl_some hg
      refine wr_cv (va_runS (As := [.ref a3, .int (1 : Int32)]) (rest := []) ⟨hx, hb, hml, hown, hts⟩ (c_L_empty l D C N S29 z a3 ((1 : Int32)) () S33 hc33) (va_cwS 2 hts gL_act_L_empty rfl rfl rfl (by decide +kernel) ⟨Nat.le_of_ble_eq_true rfl, Nat.le_of_ble_eq_true rfl⟩) (wd_preS hw) rfl rfl hl.1 rfl (lv_room (Nat.le_of_ble_eq_true rfl)) dL_act_53 ⟨Nat.le_of_ble_eq_true rfl, Nat.le_of_ble_eq_true rfl⟩) hw (fun H locs hw => ?_)
      refine lv_aload_n hx hb dL_act_56 rfl (lv_at hl 4 rfl) ?_
      refine lv_bipush (v := (10 : Int32)) hx hb dL_act_57 (by decide) ?_
      obtain ⟨hok34, hg⟩ := gd_some hg
      obtain ⟨hin35, hg⟩ := gd_some hg
      refine wr_iald hx hb hw hok34 (inb_vp hin35) dL_act_59 ?_
      refine lv_bipush (v := (6 : Int32)) hx hb dL_act_60 (by decide) ?_
      refine lv_icmp_ge (tgt := 73) hx hb dL_act_62 (by decide) (fun c36 => ?_) (fun c36 => ?_)
      · have hg := it_pos hg c36
        exact B73 _ _ _ _ _ _ hg hw (lv_sub hl [2, 4, 0] rfl)
      · have hg := it_neg hg c36
        refine lv_aload_n hx hb dL_act_65 rfl (lv_at hl 4 rfl) ?_
        refine lv_bipush (v := (10 : Int32)) hx hb dL_act_66 (by decide) ?_
        refine lv_dup2_11 hx hb dL_act_68 rfl rfl ?_
        refine wr_iald hx hb hw hok34 (inb_vp hin35) dL_act_69 ?_
        refine lv_iconst (v := (1 : Int32)) hx hb dL_act_70 (by decide) ?_
        refine lv_iadd hx hb dL_act_71 ?_
        refine wr_iast hx hb hw hok34 (inb_vp hin35) dL_act_72 (fun H locs hw => ?_)
        obtain ⟨S37, hS37, hg⟩ := bd_some hg
        rw [← hS37] at hw
        have hok38 : ok S37 a3 8 := by rw [hS37]; exact hok34
        have hin39 : inb (10 : Int32) (hN S37 a3) := by rw [hS37]; exact hin35
        exact B73 _ _ _ _ _ _ hg hw (lv_sub hl [2, 4, 0] rfl)
  have B0 : ∀ (S : Hp) (z : Nat) (H : Heap) (locs : List Loc) (ls : Array Slot), f_L_act N S z a0 x1 x2 a3 a4 a5 = some (r, S9, z9) → Wd D C (va_A (wP C S0) z0) s.heap S z H locs s → lv_has ls 12 [(0, .ref a0), (1, .int x1), (2, .int x2), (3, .ref a3), (4, .ref a4), (5, .ref a5)] → W p l e rm_L_act s m ([.ref a0, .int x1, .int x2, .ref a3, .ref a4, .ref a5] : List Value).toArray below meth c H locs 0 0 (MQ below (QiW D C S0 z0 r S9 z9) ([.ref a0, .int x1, .int x2, .ref a3, .ref a4, .ref a5] : List Value).toArray s 3 28 (va_A (wP C S0) z0)) (F0 m 0 ls []) := by
    intro S z H locs ls hg hw hl
    unfold f_L_act at hg
    refine lv_iload_n hx hb dL_act_0 rfl (lv_at hl 1 rfl) ?_
    refine lv_bipush (v := (20 : Int32)) hx hb dL_act_1 (by decide) ?_
    refine lv_ishr hx hb dL_act_3 ?_
    refine lv_bipush (v := (14 : Int32)) hx hb dL_act_4 (by decide) ?_
    obtain ⟨r10, S10, hc10, hg⟩ := cl_some hg
    refine wr_ci (va_runS (As := [.int (x1 >>> ((20 : Int32) &&& 31)), .int (14 : Int32)]) (rest := []) ⟨hx, hb, hml, hown, hts⟩ (c_L_at l D C N S z ((x1 >>> ((20 : Int32) &&& 31))) ((14 : Int32)) r10 S10 hc10) (va_cwS 2 hts gL_act_L_at rfl rfl rfl (by decide +kernel) ⟨Nat.le_of_ble_eq_true rfl, Nat.le_of_ble_eq_true rfl⟩) (wd_preS hw) rfl rfl hl.1 rfl (lv_room (Nat.le_of_ble_eq_true rfl)) dL_act_6 ⟨Nat.le_of_ble_eq_true rfl, Nat.le_of_ble_eq_true rfl⟩) hw (fun H locs hw => ?_)
    refine lv_istore (lv' := [(6, .int r10), (0, .ref a0), (1, .int x1), (2, .int x2), (3, .ref a3), (4, .ref a4), (5, .ref a5)]) hx hb dL_act_9 hl (by decide) rfl (fun ls hl => ?_)
    refine lv_aload_n hx hb dL_act_11 rfl (lv_at hl 4 rfl) ?_
    refine lv_aload hx hb dL_act_12 (lv_at hl 5 rfl) ?_
    obtain ⟨r11, S11, hc11, hg⟩ := cl_some hg
    refine wr_ci (va_runS (As := [.ref a3, .ref a4]) (rest := []) ⟨hx, hb, hml, hown, hts⟩ (c_L_winner l D C N S10 z a3 a4 r11 S11 hc11) (va_cwS 2 hts gL_act_L_winner rfl rfl rfl (by decide +kernel) ⟨Nat.le_of_ble_eq_true rfl, Nat.le_of_ble_eq_true rfl⟩) (wd_preS hw) rfl rfl hl.1 rfl (lv_room (Nat.le_of_ble_eq_true rfl)) dL_act_14 ⟨Nat.le_of_ble_eq_true rfl, Nat.le_of_ble_eq_true rfl⟩) hw (fun H locs hw => ?_)
    refine lv_if_ne (tgt := 24) hx hb dL_act_17 (by decide) (fun c12 => ?_) (fun c12 => ?_)
    · have hg := it_neg hg c12
      refine lv_iconst (v := (0 : Int32)) hx hb dL_act_24 (by decide) ?_
      exact B25 _ _ _ _ _ _ _ hg hw (lv_sub hl [1, 3, 4, 5, 6, 0] rfl)
    · have hg := it_pos hg c12
      refine lv_iconst (v := (1 : Int32)) hx hb dL_act_20 (by decide) ?_
      refine lv_goto (tgt := 25) hx hb dL_act_21 (by decide) ?_
      exact B25 _ _ _ _ _ _ _ hg hw (lv_sub hl [1, 3, 4, 5, 6, 0] rfl)
  exact B0 S0 z0 _ _ _ hg hw hl
