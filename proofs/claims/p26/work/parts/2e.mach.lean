theorem hi_X6_count_X0 : ∀ w ∈ wsX00, w ∈ wsX6_count := fun _ h => List.mem_cons_of_mem _ (List.mem_append_left _ (List.mem_append_left _ (List.mem_append_right _ (h))))
theorem hi_X6_count_X1 : ∀ w ∈ wsX10, w ∈ wsX6_count := fun _ h => List.mem_cons_of_mem _ (List.mem_append_left _ (List.mem_append_left _ (List.mem_append_left _ (List.mem_append_right _ (h)))))
theorem hi_X6_count_X4 : ∀ w ∈ wsX40, w ∈ wsX6_count := fun _ h => List.mem_cons_of_mem _ (List.mem_append_left _ (List.mem_append_left _ (List.mem_append_left _ (List.mem_append_left _ (List.mem_append_right _ (h))))))
theorem hi_X6_count_X6 : ∀ w ∈ wsX60, w ∈ wsX6_count := fun _ h => List.mem_cons_of_mem _ (List.mem_append_left _ (List.mem_append_left _ (List.mem_append_left _ (List.mem_append_left _ (List.mem_append_left _ (List.mem_append_right _ (h)))))))
abbrev rm_X6_count : Room := { frames := 33, cells := 0, slots := 0, locals := 1564 }
set_option maxHeartbeats 4000000 in
set_option maxRecDepth 100000 in
theorem c_X6_count (l : Launch) (D : va_G) (C : C3) (N : Nat) (S0 : Hp) (z : Nat) (a0 : Nat) (x1 : Int32) (r : Int32) (S9 : Hp) (hg : f_X6_count N S0 a0 x1 = some (r, S9)) : MetI l yX6_count wsX6_count rm_X6_count D C S0 z [.ref a0, .int x1] r S9 z 0 0 := by
  refine mw_ofW (cc := cX6_count) (maxL := 3) (ret := (some .int)) (lv := [(0, .ref a0), (1, .int x1)]) (by decide) rfl (Nat.le_of_ble_eq_true rfl) rfl ?_
  intro p e s m below meth c ls hx hb hr hts hown hlk hml hnm hl hw
  have hown : s.vm.findClass RX6 = some m.cls := hown
  have B10 : ∀ (S : Hp) (H : Heap) (locs : List Loc) (ls : Array Slot), f_X6_count_b10 N a0 x1 S = some (r, S9) → Wd D C (va_A (wP C S0) z) s.heap S z H locs s → lv_has ls 3 [] → W p l e rm_X6_count s m ([.ref a0, .int x1] : List Value).toArray below meth c H locs 0 0 (MQ below (QiW D C S0 z r S9 z) ([.ref a0, .int x1] : List Value).toArray s 0 0 (va_A (wP C S0) z)) (F0 m 10 ls []) := by
    intro S H locs ls hg hw hl
    unfold f_X6_count_b10 at hg
    exact absurd hg (by simp)
  have B0 : ∀ (S : Hp) (H : Heap) (locs : List Loc) (ls : Array Slot), f_X6_count N S a0 x1 = some (r, S9) → Wd D C (va_A (wP C S0) z) s.heap S z H locs s → lv_has ls 3 [(0, .ref a0), (1, .int x1)] → W p l e rm_X6_count s m ([.ref a0, .int x1] : List Value).toArray below meth c H locs 0 0 (MQ below (QiW D C S0 z r S9 z) ([.ref a0, .int x1] : List Value).toArray s 0 0 (va_A (wP C S0) z)) (F0 m 0 ls []) := by
    intro S H locs ls hg hw hl
    unfold f_X6_count at hg
    refine lv_iload_n hx hb dX6_count_0 rfl (lv_at hl 1 rfl) ?_
    refine lv_if_lt (tgt := 10) hx hb dX6_count_1 (by decide) (fun c10 => ?_) (fun c10 => ?_)
    · have hg := it_pos hg c10
      exact B10 _ _ _ _ hg hw (lv_sub hl [] rfl)
    · have hg := it_neg hg c10
      refine lv_iload_n hx hb dX6_count_4 rfl (lv_at hl 1 rfl) ?_
      refine lv_bipush (v := (16 : Int32)) hx hb dX6_count_5 (by decide) ?_
      refine lv_icmp_lt (tgt := 20) hx hb dX6_count_7 (by decide) (fun c11 => ?_) (fun c11 => ?_)
      · have hg := it_pos hg c11
        refine lv_aload_n hx hb dX6_count_20 rfl (lv_at hl 0 rfl) ?_
        obtain ⟨hok12, hg⟩ := gd_some hg
        obtain ⟨r13, hr13, hg⟩ := nn_some hg
        refine wr_get (K := RX6) (T := TX6) (N := 7) (index := 12) (ref := "MakerLines") (v := .ref r13) hx hb hts hi_X6_count_X6 hown hw hok12 (wF_6 (S := S) hok12.2) rfl 0 (by decide) (hts _ (List.mem_of_getElem? (i := 3) rfl)) (fun _ h9 => h9) (congrArg (fun o => some (va_rf o)) hr13) dX6_count_21 ?_
        obtain ⟨hok14, hg⟩ := gd_some hg
        obtain ⟨r15, S15, hc15, hg⟩ := cl_some hg
        refine wr_ci (va_runV (As := []) (rest := []) ⟨hx, hb, hml, hown, hts⟩ (c_X4_winner l D C N S z r13 r15 S15 hc15) (cwV 0 hts gX6_count_X4_winner rfl rfl rfl (by decide +kernel) ⟨Nat.le_of_ble_eq_true rfl, Nat.le_of_ble_eq_true rfl⟩) (wd_preV hw hok14 (wF_4 (S := S) hok14.2) rfl) rfl rfl hl.1 rfl (lv_room (Nat.le_of_ble_eq_true rfl)) dX6_count_24 ⟨Nat.zero_le _, Nat.zero_le _⟩) hw (fun H locs hw => ?_)
        refine lv_istore_n (lv' := [(2, .int r15), (0, .ref a0), (1, .int x1)]) hx hb dX6_count_27 rfl hl (by decide) rfl (fun ls hl => ?_)
        refine lv_iload_n hx hb dX6_count_28 rfl (lv_at hl 2 rfl) ?_
        by_cases c19 : x1 = 0
        · have hg := it_pos hg c19
          refine lv_tableIn (tgt := 104) hx hb dX6_count_29 (by rw [c19]; decide) (by rw [c19]; decide) (off := 75) (by rw [c19]; rfl) (by decide) ?_
          refine lv_aload_n hx hb dX6_count_104 rfl (lv_at hl 1 rfl) ?_
          obtain ⟨hok16, hg⟩ := gd_some hg
          obtain ⟨r17, hr17, hg⟩ := nn_some hg
          refine wr_get (K := RX6) (T := TX6) (N := 7) (index := 12) (ref := "MakerLines") (v := .ref r17) hx hb hts hi_X6_count_X6 hown hw hok16 (wF_6 (S := S15) hok16.2) rfl 0 (by decide) (hts _ (List.mem_of_getElem? (i := 3) rfl)) (fun _ h9 => h9) (congrArg (fun o => some (va_rf o)) hr17) dX6_count_105 ?_
          obtain ⟨hok18, hg⟩ := gd_some hg
          refine wr_get (K := RX4) (T := TX4) (N := 10) (index := 62) (ref := "MakerLines$State") (v := .int (hI S15 r17 1)) hx hb hts hi_X6_count_X4 hown hw hok18 (wF_4 (S := S15) hok18.2) rfl 1 (by decide) (hts _ (List.mem_of_getElem? (i := 4) rfl)) (fun _ h9 => h9) rfl dX6_count_108 ?_
          cases hg
          exact wr_iret hx hb hr hw dX6_count_111 hlk
        · have hg := it_neg hg c19
          by_cases c25 : x1 = 1
          · have hg := it_pos hg c25
            refine lv_tableIn (tgt := 112) hx hb dX6_count_29 (by rw [c25]; decide) (by rw [c25]; decide) (off := 83) (by rw [c25]; rfl) (by decide) ?_
            refine lv_aload_n hx hb dX6_count_112 rfl (lv_at hl 1 rfl) ?_
            obtain ⟨hok20, hg⟩ := gd_some hg
            obtain ⟨r21, hr21, hg⟩ := nn_some hg
            refine wr_get (K := RX6) (T := TX6) (N := 7) (index := 12) (ref := "MakerLines") (v := .ref r21) hx hb hts hi_X6_count_X6 hown hw hok20 (wF_6 (S := S15) hok20.2) rfl 0 (by decide) (hts _ (List.mem_of_getElem? (i := 3) rfl)) (fun _ h9 => h9) (congrArg (fun o => some (va_rf o)) hr21) dX6_count_113 ?_
            obtain ⟨hok22, hg⟩ := gd_some hg
            obtain ⟨r23, hr23, hg⟩ := nn_some hg
            refine wr_get (K := RX4) (T := TX4) (N := 10) (index := 66) (ref := "MakerLines$State") (v := .ref r23) hx hb hts hi_X6_count_X4 hown hw hok22 (wF_4 (S := S15) hok22.2) rfl 0 (by decide) (hts _ (List.mem_of_getElem? (i := 5) rfl)) (fun _ h9 => h9) (congrArg (fun o => some (va_rf o)) hr23) dX6_count_116 ?_
            obtain ⟨hok24, hg⟩ := gd_some hg
            refine wr_get (K := RX1) (T := TX1) (N := 6) (index := 70) (ref := "MakerLines$Lines") (v := .int (hI S15 r23 1)) hx hb hts hi_X6_count_X1 hown hw hok24 (wF_1 (S := S15) hok24.2) rfl 1 (by decide) (hts _ (List.mem_of_getElem? (i := 6) rfl)) (fun _ h9 => h9) rfl dX6_count_119 ?_
            cases hg
            exact wr_iret hx hb hr hw dX6_count_122 hlk
          · have hg := it_neg hg c25
            by_cases c31 : x1 = 2
            · have hg := it_pos hg c31
              refine lv_tableIn (tgt := 123) hx hb dX6_count_29 (by rw [c31]; decide) (by rw [c31]; decide) (off := 94) (by rw [c31]; rfl) (by decide) ?_
              refine lv_aload_n hx hb dX6_count_123 rfl (lv_at hl 1 rfl) ?_
              obtain ⟨hok26, hg⟩ := gd_some hg
              obtain ⟨r27, hr27, hg⟩ := nn_some hg
              refine wr_get (K := RX6) (T := TX6) (N := 7) (index := 12) (ref := "MakerLines") (v := .ref r27) hx hb hts hi_X6_count_X6 hown hw hok26 (wF_6 (S := S15) hok26.2) rfl 0 (by decide) (hts _ (List.mem_of_getElem? (i := 3) rfl)) (fun _ h9 => h9) (congrArg (fun o => some (va_rf o)) hr27) dX6_count_124 ?_
              obtain ⟨hok28, hg⟩ := gd_some hg
              obtain ⟨r29, hr29, hg⟩ := nn_some hg
              refine wr_get (K := RX4) (T := TX4) (N := 10) (index := 66) (ref := "MakerLines$State") (v := .ref r29) hx hb hts hi_X6_count_X4 hown hw hok28 (wF_4 (S := S15) hok28.2) rfl 0 (by decide) (hts _ (List.mem_of_getElem? (i := 5) rfl)) (fun _ h9 => h9) (congrArg (fun o => some (va_rf o)) hr29) dX6_count_127 ?_
              obtain ⟨hok30, hg⟩ := gd_some hg
              refine wr_get (K := RX1) (T := TX1) (N := 6) (index := 232) (ref := "MakerLines$Lines") (v := .int (hI S15 r29 3)) hx hb hts hi_X6_count_X1 hown hw hok30 (wF_1 (S := S15) hok30.2) rfl 3 (by decide) (hts _ (List.mem_of_getElem? (i := 7) rfl)) (fun _ h9 => h9) rfl dX6_count_130 ?_
              cases hg
              exact wr_iret hx hb hr hw dX6_count_133 hlk
            · have hg := it_neg hg c31
              by_cases c37 : x1 = 3
              · have hg := it_pos hg c37
                refine lv_tableIn (tgt := 134) hx hb dX6_count_29 (by rw [c37]; decide) (by rw [c37]; decide) (off := 105) (by rw [c37]; rfl) (by decide) ?_
                refine lv_aload_n hx hb dX6_count_134 rfl (lv_at hl 1 rfl) ?_
                obtain ⟨hok32, hg⟩ := gd_some hg
                obtain ⟨r33, hr33, hg⟩ := nn_some hg
                refine wr_get (K := RX6) (T := TX6) (N := 7) (index := 12) (ref := "MakerLines") (v := .ref r33) hx hb hts hi_X6_count_X6 hown hw hok32 (wF_6 (S := S15) hok32.2) rfl 0 (by decide) (hts _ (List.mem_of_getElem? (i := 3) rfl)) (fun _ h9 => h9) (congrArg (fun o => some (va_rf o)) hr33) dX6_count_135 ?_
                obtain ⟨hok34, hg⟩ := gd_some hg
                obtain ⟨r35, hr35, hg⟩ := nn_some hg
                refine wr_get (K := RX4) (T := TX4) (N := 10) (index := 66) (ref := "MakerLines$State") (v := .ref r35) hx hb hts hi_X6_count_X4 hown hw hok34 (wF_4 (S := S15) hok34.2) rfl 0 (by decide) (hts _ (List.mem_of_getElem? (i := 5) rfl)) (fun _ h9 => h9) (congrArg (fun o => some (va_rf o)) hr35) dX6_count_138 ?_
                obtain ⟨hok36, hg⟩ := gd_some hg
                refine wr_get (K := RX1) (T := TX1) (N := 6) (index := 235) (ref := "MakerLines$Lines") (v := .int (hI S15 r35 4)) hx hb hts hi_X6_count_X1 hown hw hok36 (wF_1 (S := S15) hok36.2) rfl 4 (by decide) (hts _ (List.mem_of_getElem? (i := 8) rfl)) (fun _ h9 => h9) rfl dX6_count_141 ?_
                cases hg
                exact wr_iret hx hb hr hw dX6_count_144 hlk
              · have hg := it_neg hg c37
                by_cases c43 : x1 = 4
                · have hg := it_pos hg c43
                  refine lv_tableIn (tgt := 145) hx hb dX6_count_29 (by rw [c43]; decide) (by rw [c43]; decide) (off := 116) (by rw [c43]; rfl) (by decide) ?_
                  refine lv_iload_n hx hb dX6_count_145 rfl (lv_at hl 0 rfl) ?_
                  refine lv_if_ne (tgt := 159) hx hb dX6_count_146 (by decide) (fun c38 => ?_) (fun c38 => ?_)
                  · have hg := it_neg hg c38
                    refine lv_iconst (v := (0 : Int32)) hx hb dX6_count_159 (by decide) ?_
                    cases hg
                    exact wr_iret hx hb hr hw dX6_count_160 hlk
                  · have hg := it_pos hg c38
                    refine lv_aload_n hx hb dX6_count_149 rfl (lv_at hl 1 rfl) ?_
                    obtain ⟨hok39, hg⟩ := gd_some hg
                    obtain ⟨r40, hr40, hg⟩ := nn_some hg
                    refine wr_get (K := RX6) (T := TX6) (N := 7) (index := 12) (ref := "MakerLines") (v := .ref r40) hx hb hts hi_X6_count_X6 hown hw hok39 (wF_6 (S := S15) hok39.2) rfl 0 (by decide) (hts _ (List.mem_of_getElem? (i := 3) rfl)) (fun _ h9 => h9) (congrArg (fun o => some (va_rf o)) hr40) dX6_count_150 ?_
                    obtain ⟨hok41, hg⟩ := gd_some hg
                    obtain ⟨r42, S42, hc42, hg⟩ := cl_some hg
                    refine wr_ci (va_runV (As := []) (rest := []) ⟨hx, hb, hml, hown, hts⟩ (c_X4_mover l D C N S15 z r40 r42 S42 hc42) (cwV 0 hts gX6_count_X4_mover rfl rfl rfl (by decide +kernel) ⟨Nat.le_of_ble_eq_true rfl, Nat.le_of_ble_eq_true rfl⟩) (wd_preV hw hok41 (wF_4 (S := S15) hok41.2) rfl) rfl rfl hl.1 rfl (lv_room (Nat.le_of_ble_eq_true rfl)) dX6_count_153 ⟨Nat.zero_le _, Nat.zero_le _⟩) hw (fun H locs hw => ?_)
                    refine lv_goto (tgt := 160) hx hb dX6_count_156 (by decide) ?_
                    cases hg
                    exact wr_iret hx hb hr hw dX6_count_160 hlk
                · have hg := it_neg hg c43
                  by_cases c44 : x1 = 5
                  · have hg := it_pos hg c44
                    refine lv_tableIn (tgt := 161) hx hb dX6_count_29 (by rw [c44]; decide) (by rw [c44]; decide) (off := 132) (by rw [c44]; rfl) (by decide) ?_
                    refine lv_iload_n hx hb dX6_count_161 rfl (lv_at hl 0 rfl) ?_
                    cases hg
                    exact wr_iret hx hb hr hw dX6_count_162 hlk
                  · have hg := it_neg hg c44
                    by_cases c50 : x1 = 6
                    · have hg := it_pos hg c50
                      refine lv_tableIn (tgt := 163) hx hb dX6_count_29 (by rw [c50]; decide) (by rw [c50]; decide) (off := 134) (by rw [c50]; rfl) (by decide) ?_
                      refine lv_aload_n hx hb dX6_count_163 rfl (lv_at hl 1 rfl) ?_
                      obtain ⟨hok45, hg⟩ := gd_some hg
                      obtain ⟨r46, hr46, hg⟩ := nn_some hg
                      refine wr_get (K := RX6) (T := TX6) (N := 7) (index := 12) (ref := "MakerLines") (v := .ref r46) hx hb hts hi_X6_count_X6 hown hw hok45 (wF_6 (S := S15) hok45.2) rfl 0 (by decide) (hts _ (List.mem_of_getElem? (i := 3) rfl)) (fun _ h9 => h9) (congrArg (fun o => some (va_rf o)) hr46) dX6_count_164 ?_
                      obtain ⟨hok47, hg⟩ := gd_some hg
                      obtain ⟨r48, hr48, hg⟩ := nn_some hg
                      refine wr_get (K := RX4) (T := TX4) (N := 10) (index := 66) (ref := "MakerLines$State") (v := .ref r48) hx hb hts hi_X6_count_X4 hown hw hok47 (wF_4 (S := S15) hok47.2) rfl 0 (by decide) (hts _ (List.mem_of_getElem? (i := 5) rfl)) (fun _ h9 => h9) (congrArg (fun o => some (va_rf o)) hr48) dX6_count_167 ?_
                      obtain ⟨hok49, hg⟩ := gd_some hg
                      refine wr_get (K := RX1) (T := TX1) (N := 6) (index := 238) (ref := "MakerLines$Lines") (v := .int (hI S15 r48 5)) hx hb hts hi_X6_count_X1 hown hw hok49 (wF_1 (S := S15) hok49.2) rfl 5 (by decide) (hts _ (List.mem_of_getElem? (i := 9) rfl)) (fun _ h9 => h9) rfl dX6_count_170 ?_
                      cases hg
                      exact wr_iret hx hb hr hw dX6_count_173 hlk
                    · have hg := it_neg hg c50
                      by_cases c56 : x1 = 7
                      · have hg := it_pos hg c56
                        refine lv_tableIn (tgt := 174) hx hb dX6_count_29 (by rw [c56]; decide) (by rw [c56]; decide) (off := 145) (by rw [c56]; rfl) (by decide) ?_
                        refine lv_iload_n hx hb dX6_count_174 rfl (lv_at hl 0 rfl) ?_
                        refine lv_if_ne (tgt := 188) hx hb dX6_count_175 (by decide) (fun c51 => ?_) (fun c51 => ?_)
                        · have hg := it_neg hg c51
                          refine lv_iconst (v := (-1 : Int32)) hx hb dX6_count_188 (by decide) ?_
                          cases hg
                          exact wr_iret hx hb hr hw dX6_count_189 hlk
                        · have hg := it_pos hg c51
                          refine lv_aload_n hx hb dX6_count_178 rfl (lv_at hl 1 rfl) ?_
                          obtain ⟨hok52, hg⟩ := gd_some hg
                          obtain ⟨r53, hr53, hg⟩ := nn_some hg
                          refine wr_get (K := RX6) (T := TX6) (N := 7) (index := 12) (ref := "MakerLines") (v := .ref r53) hx hb hts hi_X6_count_X6 hown hw hok52 (wF_6 (S := S15) hok52.2) rfl 0 (by decide) (hts _ (List.mem_of_getElem? (i := 3) rfl)) (fun _ h9 => h9) (congrArg (fun o => some (va_rf o)) hr53) dX6_count_179 ?_
                          obtain ⟨hok54, hg⟩ := gd_some hg
                          obtain ⟨r55, S55, hc55, hg⟩ := cl_some hg
                          refine wr_ci (va_runV (As := []) (rest := []) ⟨hx, hb, hml, hown, hts⟩ (c_X4_forcedReply l D C N S15 z r53 r55 S55 hc55) (cwV 0 hts gX6_count_X4_forcedReply rfl rfl rfl (by decide +kernel) ⟨Nat.le_of_ble_eq_true rfl, Nat.le_of_ble_eq_true rfl⟩) (wd_preV hw hok54 (wF_4 (S := S15) hok54.2) rfl) rfl rfl hl.1 rfl (lv_room (Nat.le_of_ble_eq_true rfl)) dX6_count_182 ⟨Nat.zero_le _, Nat.zero_le _⟩) hw (fun H locs hw => ?_)
                          refine lv_goto (tgt := 189) hx hb dX6_count_185 (by decide) ?_
                          cases hg
                          exact wr_iret hx hb hr hw dX6_count_189 hlk
                      · have hg := it_neg hg c56
                        by_cases c59 : x1 = 8
                        · have hg := it_pos hg c59
                          refine lv_tableIn (tgt := 190) hx hb dX6_count_29 (by rw [c59]; decide) (by rw [c59]; decide) (off := 161) (by rw [c59]; rfl) (by decide) ?_
                          refine lv_aload_n hx hb dX6_count_190 rfl (lv_at hl 1 rfl) ?_
                          obtain ⟨hok57, hg⟩ := gd_some hg
                          obtain ⟨r58, S58, hc58, hg⟩ := cl_some hg
                          refine wr_ci (va_runV (As := []) (rest := []) ⟨hx, hb, hml, hown, hts⟩ (c_X6_pairsInPairing l D C N S15 z a0 r58 S58 hc58) (cwV 0 hts gX6_count_X6_pairsInPairing rfl rfl rfl (by decide +kernel) ⟨Nat.le_of_ble_eq_true rfl, Nat.le_of_ble_eq_true rfl⟩) (wd_preV hw hok57 (wF_6 (S := S15) hok57.2) rfl) rfl rfl hl.1 rfl (lv_room (Nat.le_of_ble_eq_true rfl)) dX6_count_191 ⟨Nat.zero_le _, Nat.zero_le _⟩) hw (fun H locs hw => ?_)
                          cases hg
                          exact wr_iret hx hb hr hw dX6_count_194 hlk
                        · have hg := it_neg hg c59
                          by_cases c64 : x1 = 9
                          · have hg := it_pos hg c64
                            refine lv_tableIn (tgt := 195) hx hb dX6_count_29 (by rw [c64]; decide) (by rw [c64]; decide) (off := 166) (by rw [c64]; rfl) (by decide) ?_
                            refine lv_aload_n hx hb dX6_count_195 rfl (lv_at hl 1 rfl) ?_
                            obtain ⟨hok60, hg⟩ := gd_some hg
                            obtain ⟨r61, hr61, hg⟩ := nn_some hg
                            refine wr_get (K := RX6) (T := TX6) (N := 7) (index := 12) (ref := "MakerLines") (v := .ref r61) hx hb hts hi_X6_count_X6 hown hw hok60 (wF_6 (S := S15) hok60.2) rfl 0 (by decide) (hts _ (List.mem_of_getElem? (i := 3) rfl)) (fun _ h9 => h9) (congrArg (fun o => some (va_rf o)) hr61) dX6_count_196 ?_
                            obtain ⟨hok62, hg⟩ := gd_some hg
                            obtain ⟨r63, S63, hc63, hg⟩ := cl_some hg
                            refine wr_ci (va_runV (As := []) (rest := []) ⟨hx, hb, hml, hown, hts⟩ (c_X4_freeCells l D C N S15 z r61 r63 S63 hc63) (cwV 0 hts gX6_count_X4_freeCells rfl rfl rfl (by decide +kernel) ⟨Nat.le_of_ble_eq_true rfl, Nat.le_of_ble_eq_true rfl⟩) (wd_preV hw hok62 (wF_4 (S := S15) hok62.2) rfl) rfl rfl hl.1 rfl (lv_room (Nat.le_of_ble_eq_true rfl)) dX6_count_199 ⟨Nat.zero_le _, Nat.zero_le _⟩) hw (fun H locs hw => ?_)
                            cases hg
                            exact wr_iret hx hb hr hw dX6_count_202 hlk
                          · have hg := it_neg hg c64
                            by_cases c68 : x1 = 10
                            · have hg := it_pos hg c68
                              refine lv_tableIn (tgt := 203) hx hb dX6_count_29 (by rw [c68]; decide) (by rw [c68]; decide) (off := 174) (by rw [c68]; rfl) (by decide) ?_
                              refine lv_aload_n hx hb dX6_count_203 rfl (lv_at hl 1 rfl) ?_
                              obtain ⟨hok65, hg⟩ := gd_some hg
                              obtain ⟨r66, hr66, hg⟩ := nn_some hg
                              refine wr_get (K := RX6) (T := TX6) (N := 7) (index := 12) (ref := "MakerLines") (v := .ref r66) hx hb hts hi_X6_count_X6 hown hw hok65 (wF_6 (S := S15) hok65.2) rfl 0 (by decide) (hts _ (List.mem_of_getElem? (i := 3) rfl)) (fun _ h9 => h9) (congrArg (fun o => some (va_rf o)) hr66) dX6_count_204 ?_
                              obtain ⟨hok67, hg⟩ := gd_some hg
                              refine wr_get (K := RX4) (T := TX4) (N := 10) (index := 247) (ref := "MakerLines$State") (v := .int (hI S15 r66 7)) hx hb hts hi_X6_count_X4 hown hw hok67 (wF_4 (S := S15) hok67.2) rfl 7 (by decide) (hts _ (List.mem_of_getElem? (i := 10) rfl)) (fun _ h9 => h9) rfl dX6_count_207 ?_
                              cases hg
                              exact wr_iret hx hb hr hw dX6_count_210 hlk
                            · have hg := it_neg hg c68
                              by_cases c72 : x1 = 11
                              · have hg := it_pos hg c72
                                refine lv_tableIn (tgt := 211) hx hb dX6_count_29 (by rw [c72]; decide) (by rw [c72]; decide) (off := 182) (by rw [c72]; rfl) (by decide) ?_
                                refine lv_aload_n hx hb dX6_count_211 rfl (lv_at hl 1 rfl) ?_
                                obtain ⟨hok69, hg⟩ := gd_some hg
                                obtain ⟨r70, hr70, hg⟩ := nn_some hg
                                refine wr_get (K := RX6) (T := TX6) (N := 7) (index := 12) (ref := "MakerLines") (v := .ref r70) hx hb hts hi_X6_count_X6 hown hw hok69 (wF_6 (S := S15) hok69.2) rfl 0 (by decide) (hts _ (List.mem_of_getElem? (i := 3) rfl)) (fun _ h9 => h9) (congrArg (fun o => some (va_rf o)) hr70) dX6_count_212 ?_
                                obtain ⟨hok71, hg⟩ := gd_some hg
                                refine wr_get (K := RX4) (T := TX4) (N := 10) (index := 250) (ref := "MakerLines$State") (v := .int (hI S15 r70 8)) hx hb hts hi_X6_count_X4 hown hw hok71 (wF_4 (S := S15) hok71.2) rfl 8 (by decide) (hts _ (List.mem_of_getElem? (i := 11) rfl)) (fun _ h9 => h9) rfl dX6_count_215 ?_
                                cases hg
                                exact wr_iret hx hb hr hw dX6_count_218 hlk
                              · have hg := it_neg hg c72
                                by_cases c76 : x1 = 12
                                · have hg := it_pos hg c76
                                  refine lv_tableIn (tgt := 219) hx hb dX6_count_29 (by rw [c76]; decide) (by rw [c76]; decide) (off := 190) (by rw [c76]; rfl) (by decide) ?_
                                  refine lv_aload_n hx hb dX6_count_219 rfl (lv_at hl 1 rfl) ?_
                                  obtain ⟨hok73, hg⟩ := gd_some hg
                                  obtain ⟨r74, hr74, hg⟩ := nn_some hg
                                  refine wr_get (K := RX6) (T := TX6) (N := 7) (index := 12) (ref := "MakerLines") (v := .ref r74) hx hb hts hi_X6_count_X6 hown hw hok73 (wF_6 (S := S15) hok73.2) rfl 0 (by decide) (hts _ (List.mem_of_getElem? (i := 3) rfl)) (fun _ h9 => h9) (congrArg (fun o => some (va_rf o)) hr74) dX6_count_220 ?_
                                  obtain ⟨hok75, hg⟩ := gd_some hg
                                  refine wr_get (K := RX4) (T := TX4) (N := 10) (index := 253) (ref := "MakerLines$State") (v := .int (hI S15 r74 9)) hx hb hts hi_X6_count_X4 hown hw hok75 (wF_4 (S := S15) hok75.2) rfl 9 (by decide) (hts _ (List.mem_of_getElem? (i := 12) rfl)) (fun _ h9 => h9) rfl dX6_count_223 ?_
                                  cases hg
                                  exact wr_iret hx hb hr hw dX6_count_226 hlk
                                · have hg := it_neg hg c76
                                  by_cases c80 : x1 = 13
                                  · have hg := it_pos hg c80
                                    refine lv_tableIn (tgt := 227) hx hb dX6_count_29 (by rw [c80]; decide) (by rw [c80]; decide) (off := 198) (by rw [c80]; rfl) (by decide) ?_
                                    refine lv_aload_n hx hb dX6_count_227 rfl (lv_at hl 1 rfl) ?_
                                    obtain ⟨hok77, hg⟩ := gd_some hg
                                    obtain ⟨r78, hr78, hg⟩ := nn_some hg
                                    refine wr_get (K := RX6) (T := TX6) (N := 7) (index := 12) (ref := "MakerLines") (v := .ref r78) hx hb hts hi_X6_count_X6 hown hw hok77 (wF_6 (S := S15) hok77.2) rfl 0 (by decide) (hts _ (List.mem_of_getElem? (i := 3) rfl)) (fun _ h9 => h9) (congrArg (fun o => some (va_rf o)) hr78) dX6_count_228 ?_
                                    obtain ⟨hok79, hg⟩ := gd_some hg
                                    refine wr_get (K := RX4) (T := TX4) (N := 10) (index := 256) (ref := "MakerLines$State") (v := .int (hI S15 r78 5)) hx hb hts hi_X6_count_X4 hown hw hok79 (wF_4 (S := S15) hok79.2) rfl 5 (by decide) (hts _ (List.mem_of_getElem? (i := 13) rfl)) (fun _ h9 => h9) rfl dX6_count_231 ?_
                                    cases hg
                                    exact wr_iret hx hb hr hw dX6_count_234 hlk
                                  · have hg := it_neg hg c80
                                    by_cases c83 : x1 = 14
                                    · have hg := it_pos hg c83
                                      refine lv_tableIn (tgt := 235) hx hb dX6_count_29 (by rw [c83]; decide) (by rw [c83]; decide) (off := 206) (by rw [c83]; rfl) (by decide) ?_
                                      refine lv_aload_n hx hb dX6_count_235 rfl (lv_at hl 1 rfl) ?_
                                      obtain ⟨hok81, hg⟩ := gd_some hg
                                      obtain ⟨r82, S82, hc82, hg⟩ := cl_some hg
                                      refine wr_ci (va_runV (As := []) (rest := []) ⟨hx, hb, hml, hown, hts⟩ (c_X6_snapshotsTaken l D C N S15 z a0 r82 S82 hc82) (cwV 0 hts gX6_count_X6_snapshotsTaken rfl rfl rfl (by decide +kernel) ⟨Nat.le_of_ble_eq_true rfl, Nat.le_of_ble_eq_true rfl⟩) (wd_preV hw hok81 (wF_6 (S := S15) hok81.2) rfl) rfl rfl hl.1 rfl (lv_room (Nat.le_of_ble_eq_true rfl)) dX6_count_236 ⟨Nat.zero_le _, Nat.zero_le _⟩) hw (fun H locs hw => ?_)
                                      cases hg
                                      exact wr_iret hx hb hr hw dX6_count_239 hlk
                                    · have hg := it_neg hg c83
                                      refine lv_tableOut (tgt := 240) hx hb dX6_count_29 (sw_out 14 (by decide) (fun j hj => ?_)) (by decide) ?_
                                      · rcases (show j = 0 ∨ j = 1 ∨ j = 2 ∨ j = 3 ∨ j = 4 ∨ j = 5 ∨ j = 6 ∨ j = 7 ∨ j = 8 ∨ j = 9 ∨ j = 10 ∨ j = 11 ∨ j = 12 ∨ j = 13 ∨ j = 14 by omega) with rfl | rfl | rfl | rfl | rfl | rfl | rfl | rfl | rfl | rfl | rfl | rfl | rfl | rfl | rfl
                                        · exact c19
                                        · exact c25
                                        · exact c31
                                        · exact c37
                                        · exact c43
                                        · exact c44
                                        · exact c50
                                        · exact c56
                                        · exact c59
                                        · exact c64
                                        · exact c68
                                        · exact c72
                                        · exact c76
                                        · exact c80
                                        · exact c83
                                      refine lv_aload_n hx hb dX6_count_240 rfl (lv_at hl 1 rfl) ?_
                                      obtain ⟨hok84, hg⟩ := gd_some hg
                                      obtain ⟨r85, hr85, hg⟩ := nn_some hg
                                      refine wr_get (K := RX6) (T := TX6) (N := 7) (index := 22) (ref := "MakerLines") (v := .ref r85) hx hb hts hi_X6_count_X6 hown hw hok84 (wF_6 (S := S15) hok84.2) rfl 2 (by decide) (hts _ (List.mem_of_getElem? (i := 14) rfl)) (fun _ h9 => h9) (congrArg (fun o => some (va_rf o)) hr85) dX6_count_241 ?_
                                      obtain ⟨hok86, hg⟩ := gd_some hg
                                      refine wr_get (K := RX0) (T := TX0) (N := 2) (index := 195) (ref := "MakerLines$History") (v := .int (hI S15 r85 1)) hx hb hts hi_X6_count_X0 hown hw hok86 (wF_0 (S := S15) hok86.2) rfl 1 (by decide) (hts _ (List.mem_of_getElem? (i := 15) rfl)) (fun _ h9 => h9) rfl dX6_count_244 ?_
                                      cases hg
                                      exact wr_iret hx hb hr hw dX6_count_247 hlk
      · have hg := it_neg hg c11
        exact B10 _ _ _ _ hg hw (lv_sub hl [] rfl)
  exact B0 S0 _ _ _ hg hw hl
abbrev rm_L_at : Room := { frames := 0, cells := 0, slots := 0, locals := 0 }
set_option maxHeartbeats 4000000 in
set_option maxRecDepth 100000 in
theorem c_L_at (l : Launch) (D : va_G) (C : C3) (N : Nat) (S0 : Hp) (z : Nat) (x0 : Int32) (x1 : Int32) (r : Int32) (S9 : Hp) (hg : f_L_at N S0 x0 x1 = some (r, S9)) : MetI l yL_at wsL_at rm_L_at D C S0 z [.int x0, .int x1] r S9 z 0 0 := by
  refine mw_ofW (cc := cL_at) (maxL := 2) (ret := (some .int)) (lv := [(0, .int x0), (1, .int x1)]) (by decide) rfl (Nat.le_of_ble_eq_true rfl) rfl ?_
  intro p e s m below meth c ls hx hb hr hts hown hlk hml hnm hl hw
  have hown : s.vm.findClass RL = some m.cls := hown
  have B0 : ∀ (S : Hp) (H : Heap) (locs : List Loc) (ls : Array Slot), f_L_at N S x0 x1 = some (r, S9) → Wd D C (va_A (wP C S0) z) s.heap S z H locs s → lv_has ls 2 [(0, .int x0), (1, .int x1)] → W p l e rm_L_at s m ([.int x0, .int x1] : List Value).toArray below meth c H locs 0 0 (MQ below (QiW D C S0 z r S9 z) ([.int x0, .int x1] : List Value).toArray s 0 0 (va_A (wP C S0) z)) (F0 m 0 ls []) := by
    intro S H locs ls hg hw hl
    unfold f_L_at at hg
    refine lv_iload_n hx hb dL_at_0 rfl (lv_at hl 0 rfl) ?_
    refine lv_iconst (v := (1 : Int32)) hx hb dL_at_1 (by decide) ?_
    refine lv_iushr (v := (((x0).toUInt32 >>> (((1 : Int32)).toUInt32 &&& Int32.toUInt32 31)).toInt32)) hx hb dL_at_2 rfl ?_
    refine lv_iload_n hx hb dL_at_3 rfl (lv_at hl 1 rfl) ?_
    obtain ⟨hd10, hg⟩ := gd_some hg
    refine lv_irem hx hb dL_at_4 hd10 ?_
    cases hg
    exact wr_iret hx hb hr hw dL_at_5 hlk
  exact B0 S0 _ _ _ hg hw hl
abbrev rm_L_ones : Room := { frames := 0, cells := 0, slots := 0, locals := 0 }
set_option maxHeartbeats 4000000 in
set_option maxRecDepth 100000 in
theorem c_L_ones (l : Launch) (D : va_G) (C : C3) (N : Nat) (S0 : Hp) (z : Nat) (x0 : Int32) (r : Int32) (S9 : Hp) (hg : f_L_ones N S0 x0 = some (r, S9)) : MetI l yL_ones wsL_ones rm_L_ones D C S0 z [.int x0] r S9 z 0 0 := by
  refine mw_ofW (cc := cL_ones) (maxL := 3) (ret := (some .int)) (lv := [(0, .int x0)]) (by decide) rfl (Nat.le_of_ble_eq_true rfl) rfl ?_
  intro p e s m below meth c ls hx hb hr hts hown hlk hml hnm hl hw
  have hown : s.vm.findClass RL = some m.cls := hown
  have B4 : ∀ (K4 : Hp → Int32 → Int32 → Option (Int32 × Hp)) (hK4 : ∀ (S : Hp) (v1 : Int32) (v2 : Int32) (H : Heap) (locs : List Loc) (ls : Array Slot), K4 S v1 v2 = some (r, S9) → Wd D C (va_A (wP C S0) z) s.heap S z H locs s → lv_has ls 3 [(1, .int v1), (2, .int v2)] → W p l e rm_L_ones s m ([.int x0] : List Value).toArray below meth c H locs 0 0 (MQ below (QiW D C S0 z r S9 z) ([.int x0] : List Value).toArray s 0 0 (va_A (wP C S0) z)) (F0 m 4 ls [])) (S : Hp) (v1 : Int32) (v2 : Int32) (H : Heap) (locs : List Loc) (ls : Array Slot), f_L_ones_b4 N x0 K4 S v1 v2 = some (r, S9) → Wd D C (va_A (wP C S0) z) s.heap S z H locs s → lv_has ls 3 [(1, .int v1), (2, .int v2)] → W p l e rm_L_ones s m ([.int x0] : List Value).toArray below meth c H locs 0 0 (MQ below (QiW D C S0 z r S9 z) ([.int x0] : List Value).toArray s 0 0 (va_A (wP C S0) z)) (F0 m 4 ls []) := by
    intro K4 hK4 S v1 v2 H locs ls hg hw hl
    unfold f_L_ones_b4 at hg
    refine lv_iload_n hx hb dL_ones_4 rfl (lv_at hl 1 rfl) ?_
    refine lv_if_eq (tgt := 20) hx hb dL_ones_5 (by decide) (fun c10 => ?_) (fun c10 => ?_)
    · have hg := it_pos hg c10
      refine lv_iload_n hx hb dL_ones_20 rfl (lv_at hl 0 rfl) ?_
      cases hg
      exact wr_iret hx hb hr hw dL_ones_21 hlk
    · have hg := it_neg hg c10
      refine lv_iinc (v := (v1 + (1 : Int32))) (lv' := [(1, .int (v1 + (1 : Int32))), (2, .int v2)]) hx hb dL_ones_8 hl (k := 0) rfl rfl (by decide) rfl (fun ls hl => ?_)
      refine lv_iload_n hx hb dL_ones_11 rfl (lv_at hl 1 rfl) ?_
      refine lv_iload_n hx hb dL_ones_12 rfl (lv_at hl 1 rfl) ?_
      refine lv_iconst (v := (1 : Int32)) hx hb dL_ones_13 (by decide) ?_
      refine lv_isub hx hb dL_ones_14 ?_
      refine lv_iand hx hb dL_ones_15 ?_
      obtain ⟨e11, he11, hg⟩ := bd_some hg
      refine lv_istore_n (lv' := [(2, .int e11), (1, .int (v1 + (1 : Int32)))]) hx hb dL_ones_16 rfl hl (by decide) (by rw [he11]; rfl) (fun ls hl => ?_)
      refine lv_goto (tgt := 4) hx hb dL_ones_17 (by decide) ?_
      exact hK4 _ _ _ _ _ _ hg hw (lv_sub hl [1, 0] rfl)
  have L4 : ∀ (k : Nat) (S : Hp) (v1 : Int32) (v2 : Int32) (H : Heap) (locs : List Loc) (ls : Array Slot), f_L_ones_l4 N x0 k S v1 v2 = some (r, S9) → Wd D C (va_A (wP C S0) z) s.heap S z H locs s → lv_has ls 3 [(1, .int v1), (2, .int v2)] → W p l e rm_L_ones s m ([.int x0] : List Value).toArray below meth c H locs 0 0 (MQ below (QiW D C S0 z r S9 z) ([.int x0] : List Value).toArray s 0 0 (va_A (wP C S0) z)) (F0 m 4 ls []) := by
    intro k
    induction k with
    | zero => intro S v1 v2 H locs ls hg hw hl; exact absurd (show (none : Option (Int32 × Hp)) = some (r, S9) from hg) (by simp)
    | succ k ih => intro S v1 v2 H locs ls hg hw hl; exact B4 (f_L_ones_l4 N x0 k) ih S v1 v2 H locs ls hg hw hl
  have B0 : ∀ (S : Hp) (H : Heap) (locs : List Loc) (ls : Array Slot), f_L_ones N S x0 = some (r, S9) → Wd D C (va_A (wP C S0) z) s.heap S z H locs s → lv_has ls 3 [(0, .int x0)] → W p l e rm_L_ones s m ([.int x0] : List Value).toArray below meth c H locs 0 0 (MQ below (QiW D C S0 z r S9 z) ([.int x0] : List Value).toArray s 0 0 (va_A (wP C S0) z)) (F0 m 0 ls []) := by
    intro S H locs ls hg hw hl
    unfold f_L_ones at hg
    refine lv_iconst (v := (0 : Int32)) hx hb dL_ones_0 (by decide) ?_
    refine lv_istore_n (lv' := [(1, .int (0 : Int32)), (0, .int x0)]) hx hb dL_ones_1 rfl hl (by decide) rfl (fun ls hl => ?_)
    refine lv_iload_n hx hb dL_ones_2 rfl (lv_at hl 1 rfl) ?_
    refine lv_istore_n (lv' := [(2, .int x0), (1, .int (0 : Int32)), (0, .int x0)]) hx hb dL_ones_3 rfl hl (by decide) rfl (fun ls hl => ?_)
    exact L4 N _ _ _ _ _ _ hg hw (lv_sub hl [1, 0] rfl)
  exact B0 S0 _ _ _ hg hw hl
abbrev rm_L_low : Room := { frames := 0, cells := 0, slots := 0, locals := 0 }
set_option maxHeartbeats 4000000 in
set_option maxRecDepth 100000 in
theorem c_L_low (l : Launch) (D : va_G) (C : C3) (N : Nat) (S0 : Hp) (z : Nat) (x0 : Int32) (r : Int32) (S9 : Hp) (hg : f_L_low N S0 x0 = some (r, S9)) : MetI l yL_low wsL_low rm_L_low D C S0 z [.int x0] r S9 z 0 0 := by
  refine mw_ofW (cc := cL_low) (maxL := 2) (ret := (some .int)) (lv := [(0, .int x0)]) (by decide) rfl (Nat.le_of_ble_eq_true rfl) rfl ?_
  intro p e s m below meth c ls hx hb hr hts hown hlk hml hnm hl hw
  have hown : s.vm.findClass RL = some m.cls := hown
  have B2 : ∀ (K2 : Hp → Int32 → Option (Int32 × Hp)) (hK2 : ∀ (S : Hp) (v1 : Int32) (H : Heap) (locs : List Loc) (ls : Array Slot), K2 S v1 = some (r, S9) → Wd D C (va_A (wP C S0) z) s.heap S z H locs s → lv_has ls 2 [(0, .int x0), (1, .int v1)] → W p l e rm_L_low s m ([.int x0] : List Value).toArray below meth c H locs 0 0 (MQ below (QiW D C S0 z r S9 z) ([.int x0] : List Value).toArray s 0 0 (va_A (wP C S0) z)) (F0 m 2 ls [])) (S : Hp) (v1 : Int32) (H : Heap) (locs : List Loc) (ls : Array Slot), f_L_low_b2 N x0 K2 S v1 = some (r, S9) → Wd D C (va_A (wP C S0) z) s.heap S z H locs s → lv_has ls 2 [(0, .int x0), (1, .int v1)] → W p l e rm_L_low s m ([.int x0] : List Value).toArray below meth c H locs 0 0 (MQ below (QiW D C S0 z r S9 z) ([.int x0] : List Value).toArray s 0 0 (va_A (wP C S0) z)) (F0 m 2 ls []) := by
    intro K2 hK2 S v1 H locs ls hg hw hl
    unfold f_L_low_b2 at hg
    refine lv_iload_n hx hb dL_low_2 rfl (lv_at hl 1 rfl) ?_
    refine lv_bipush (v := (10 : Int32)) hx hb dL_low_3 (by decide) ?_
    refine lv_icmp_ge (tgt := 25) hx hb dL_low_5 (by decide) (fun c10 => ?_) (fun c10 => ?_)
    · have hg := it_pos hg c10
      refine lv_iconst (v := (-1 : Int32)) hx hb dL_low_25 (by decide) ?_
      cases hg
      exact wr_iret hx hb hr hw dL_low_26 hlk
    · have hg := it_neg hg c10
      refine lv_iload_n hx hb dL_low_8 rfl (lv_at hl 0 rfl) ?_
      refine lv_iload_n hx hb dL_low_9 rfl (lv_at hl 1 rfl) ?_
      refine lv_ishr hx hb dL_low_10 ?_
      refine lv_iconst (v := (1 : Int32)) hx hb dL_low_11 (by decide) ?_
      refine lv_iand hx hb dL_low_12 ?_
      refine lv_iconst (v := (1 : Int32)) hx hb dL_low_13 (by decide) ?_
      refine lv_icmp_ne (tgt := 19) hx hb dL_low_14 (by decide) (fun c11 => ?_) (fun c11 => ?_)
      · have hg := it_neg hg c11
        refine lv_iinc (v := (v1 + (1 : Int32))) (lv' := [(1, .int (v1 + (1 : Int32))), (0, .int x0)]) hx hb dL_low_19 hl (k := 1) rfl rfl (by decide) rfl (fun ls hl => ?_)
        refine lv_goto (tgt := 2) hx hb dL_low_22 (by decide) ?_
        exact hK2 _ _ _ _ _ hg hw (lv_sub hl [1, 0] rfl)
      · have hg := it_pos hg c11
        refine lv_iload_n hx hb dL_low_17 rfl (lv_at hl 1 rfl) ?_
        cases hg
        exact wr_iret hx hb hr hw dL_low_18 hlk
  have L2 : ∀ (k : Nat) (S : Hp) (v1 : Int32) (H : Heap) (locs : List Loc) (ls : Array Slot), f_L_low_l2 N x0 k S v1 = some (r, S9) → Wd D C (va_A (wP C S0) z) s.heap S z H locs s → lv_has ls 2 [(0, .int x0), (1, .int v1)] → W p l e rm_L_low s m ([.int x0] : List Value).toArray below meth c H locs 0 0 (MQ below (QiW D C S0 z r S9 z) ([.int x0] : List Value).toArray s 0 0 (va_A (wP C S0) z)) (F0 m 2 ls []) := by
    intro k
    induction k with
    | zero => intro S v1 H locs ls hg hw hl; exact absurd (show (none : Option (Int32 × Hp)) = some (r, S9) from hg) (by simp)
    | succ k ih => intro S v1 H locs ls hg hw hl; exact B2 (f_L_low_l2 N x0 k) ih S v1 H locs ls hg hw hl
  have B0 : ∀ (S : Hp) (H : Heap) (locs : List Loc) (ls : Array Slot), f_L_low N S x0 = some (r, S9) → Wd D C (va_A (wP C S0) z) s.heap S z H locs s → lv_has ls 2 [(0, .int x0)] → W p l e rm_L_low s m ([.int x0] : List Value).toArray below meth c H locs 0 0 (MQ below (QiW D C S0 z r S9 z) ([.int x0] : List Value).toArray s 0 0 (va_A (wP C S0) z)) (F0 m 0 ls []) := by
    intro S H locs ls hg hw hl
    unfold f_L_low at hg
    refine lv_iconst (v := (0 : Int32)) hx hb dL_low_0 (by decide) ?_
    refine lv_istore_n (lv' := [(1, .int (0 : Int32)), (0, .int x0)]) hx hb dL_low_1 rfl hl (by decide) rfl (fun ls hl => ?_)
    exact L2 N _ _ _ _ _ hg hw (lv_sub hl [1, 0] rfl)
  exact B0 S0 _ _ _ hg hw hl
abbrev rm_L_winner : Room := { frames := 0, cells := 0, slots := 0, locals := 0 }
set_option maxHeartbeats 4000000 in
set_option maxRecDepth 100000 in
theorem c_L_winner (l : Launch) (D : va_G) (C : C3) (N : Nat) (S0 : Hp) (z : Nat) (a0 : Nat) (a1 : Nat) (r : Int32) (S9 : Hp) (hg : f_L_winner N S0 a0 a1 = some (r, S9)) : MetI l yL_winner wsL_winner rm_L_winner D C S0 z [.ref a0, .ref a1] r S9 z 0 0 := by
  refine mw_ofW (cc := cL_winner) (maxL := 4) (ret := (some .int)) (lv := [(0, .ref a0), (1, .ref a1)]) (by decide) rfl (Nat.le_of_ble_eq_true rfl) rfl ?_
  intro p e s m below meth c ls hx hb hr hts hown hlk hml hnm hl hw
  have hown : s.vm.findClass RL = some m.cls := hown
  have B4 : ∀ (K4 : Hp → Int32 → Int32 → Option (Int32 × Hp)) (hK4 : ∀ (S : Hp) (v2 : Int32) (v3 : Int32) (H : Heap) (locs : List Loc) (ls : Array Slot), K4 S v2 v3 = some (r, S9) → Wd D C (va_A (wP C S0) z) s.heap S z H locs s → lv_has ls 4 [(0, .ref a0), (1, .ref a1), (2, .int v2), (3, .int v3)] → W p l e rm_L_winner s m ([.ref a0, .ref a1] : List Value).toArray below meth c H locs 0 0 (MQ below (QiW D C S0 z r S9 z) ([.ref a0, .ref a1] : List Value).toArray s 0 0 (va_A (wP C S0) z)) (F0 m 4 ls [])) (S : Hp) (v2 : Int32) (v3 : Int32) (H : Heap) (locs : List Loc) (ls : Array Slot), f_L_winner_b4 N a0 a1 K4 S v2 v3 = some (r, S9) → Wd D C (va_A (wP C S0) z) s.heap S z H locs s → lv_has ls 4 [(0, .ref a0), (1, .ref a1), (2, .int v2), (3, .int v3)] → W p l e rm_L_winner s m ([.ref a0, .ref a1] : List Value).toArray below meth c H locs 0 0 (MQ below (QiW D C S0 z r S9 z) ([.ref a0, .ref a1] : List Value).toArray s 0 0 (va_A (wP C S0) z)) (F0 m 4 ls []) := by
    intro K4 hK4 S v2 v3 H locs ls hg hw hl
    unfold f_L_winner_b4 at hg
    refine lv_iload_n hx hb dL_winner_4 rfl (lv_at hl 3 rfl) ?_
    refine lv_aload_n hx hb dL_winner_5 rfl (lv_at hl 0 rfl) ?_
    refine lv_iconst (v := (2 : Int32)) hx hb dL_winner_6 (by decide) ?_
    obtain ⟨hok10, hg⟩ := gd_some hg
    obtain ⟨hin11, hg⟩ := gd_some hg
    refine wr_iald hx hb hw hok10 (inb_vp hin11) dL_winner_7 ?_
    refine lv_icmp_ge (tgt := 43) hx hb dL_winner_8 (by decide) (fun c12 => ?_) (fun c12 => ?_)
    · have hg := it_pos hg c12
      refine lv_iload_n hx hb dL_winner_43 rfl (lv_at hl 2 rfl) ?_
      refine lv_if_eq (tgt := 51) hx hb dL_winner_44 (by decide) (fun c13 => ?_) (fun c13 => ?_)
      · have hg := it_pos hg c13
        refine lv_iconst (v := (2 : Int32)) hx hb dL_winner_51 (by decide) ?_
        cases hg
        exact wr_iret hx hb hr hw dL_winner_52 hlk
      · have hg := it_neg hg c13
        refine lv_iconst (v := (0 : Int32)) hx hb dL_winner_47 (by decide) ?_
        refine lv_goto (tgt := 52) hx hb dL_winner_48 (by decide) ?_
        cases hg
        exact wr_iret hx hb hr hw dL_winner_52 hlk
    · have hg := it_neg hg c12
      refine lv_aload_n hx hb dL_winner_11 rfl (lv_at hl 1 rfl) ?_
      refine lv_iload_n hx hb dL_winner_12 rfl (lv_at hl 3 rfl) ?_
      obtain ⟨hok14, hg⟩ := gd_some hg
      obtain ⟨hin15, hg⟩ := gd_some hg
      refine wr_iald hx hb hw hok14 (inb_vp hin15) dL_winner_13 ?_
      refine lv_aload_n hx hb dL_winner_14 rfl (lv_at hl 0 rfl) ?_
      refine lv_iconst (v := (3 : Int32)) hx hb dL_winner_15 (by decide) ?_
      obtain ⟨hin16, hg⟩ := gd_some hg
      refine wr_iald hx hb hw hok10 (inb_vp hin16) dL_winner_16 ?_
      refine lv_iconst (v := (-1 : Int32)) hx hb dL_winner_17 (by decide) ?_
      refine lv_ixor hx hb dL_winner_18 ?_
      refine lv_iand hx hb dL_winner_19 ?_
      refine lv_if_ne (tgt := 25) hx hb dL_winner_20 (by decide) (fun c17 => ?_) (fun c17 => ?_)
      · have hg := it_neg hg c17
        refine lv_aload_n hx hb dL_winner_25 rfl (lv_at hl 1 rfl) ?_
        refine lv_iload_n hx hb dL_winner_26 rfl (lv_at hl 3 rfl) ?_
        refine wr_iald hx hb hw hok14 (inb_vp hin15) dL_winner_27 ?_
        refine lv_aload_n hx hb dL_winner_28 rfl (lv_at hl 0 rfl) ?_
        refine lv_iconst (v := (4 : Int32)) hx hb dL_winner_29 (by decide) ?_
        obtain ⟨hin18, hg⟩ := gd_some hg
        refine wr_iald hx hb hw hok10 (inb_vp hin18) dL_winner_30 ?_
        refine lv_iand hx hb dL_winner_31 ?_
        refine lv_if_ne (tgt := 37) hx hb dL_winner_32 (by decide) (fun c19 => ?_) (fun c19 => ?_)
        · have hg := it_neg hg c19
          refine lv_iinc (v := (v3 + (1 : Int32))) (lv' := [(3, .int (v3 + (1 : Int32))), (0, .ref a0), (1, .ref a1), (2, .int v2)]) hx hb dL_winner_37 hl (k := 3) rfl rfl (by decide) rfl (fun ls hl => ?_)
          refine lv_goto (tgt := 4) hx hb dL_winner_40 (by decide) ?_
          exact hK4 _ _ _ _ _ _ hg hw (lv_sub hl [1, 2, 3, 0] rfl)
        · have hg := it_pos hg c19
          refine lv_iconst (v := (1 : Int32)) hx hb dL_winner_35 (by decide) ?_
          refine lv_istore_n (lv' := [(2, .int (1 : Int32)), (0, .ref a0), (1, .ref a1), (3, .int v3)]) hx hb dL_winner_36 rfl hl (by decide) rfl (fun ls hl => ?_)
          refine lv_iinc (v := (v3 + (1 : Int32))) (lv' := [(3, .int (v3 + (1 : Int32))), (2, .int (1 : Int32)), (0, .ref a0), (1, .ref a1)]) hx hb dL_winner_37 hl (k := 3) rfl rfl (by decide) rfl (fun ls hl => ?_)
          refine lv_goto (tgt := 4) hx hb dL_winner_40 (by decide) ?_
          exact hK4 _ _ _ _ _ _ hg hw (lv_sub hl [2, 3, 1, 0] rfl)
      · have hg := it_pos hg c17
        refine lv_iconst (v := (1 : Int32)) hx hb dL_winner_23 (by decide) ?_
        cases hg
        exact wr_iret hx hb hr hw dL_winner_24 hlk
  have L4 : ∀ (k : Nat) (S : Hp) (v2 : Int32) (v3 : Int32) (H : Heap) (locs : List Loc) (ls : Array Slot), f_L_winner_l4 N a0 a1 k S v2 v3 = some (r, S9) → Wd D C (va_A (wP C S0) z) s.heap S z H locs s → lv_has ls 4 [(0, .ref a0), (1, .ref a1), (2, .int v2), (3, .int v3)] → W p l e rm_L_winner s m ([.ref a0, .ref a1] : List Value).toArray below meth c H locs 0 0 (MQ below (QiW D C S0 z r S9 z) ([.ref a0, .ref a1] : List Value).toArray s 0 0 (va_A (wP C S0) z)) (F0 m 4 ls []) := by
    intro k
    induction k with
    | zero => intro S v2 v3 H locs ls hg hw hl; exact absurd (show (none : Option (Int32 × Hp)) = some (r, S9) from hg) (by simp)
    | succ k ih => intro S v2 v3 H locs ls hg hw hl; exact B4 (f_L_winner_l4 N a0 a1 k) ih S v2 v3 H locs ls hg hw hl
  have B0 : ∀ (S : Hp) (H : Heap) (locs : List Loc) (ls : Array Slot), f_L_winner N S a0 a1 = some (r, S9) → Wd D C (va_A (wP C S0) z) s.heap S z H locs s → lv_has ls 4 [(0, .ref a0), (1, .ref a1)] → W p l e rm_L_winner s m ([.ref a0, .ref a1] : List Value).toArray below meth c H locs 0 0 (MQ below (QiW D C S0 z r S9 z) ([.ref a0, .ref a1] : List Value).toArray s 0 0 (va_A (wP C S0) z)) (F0 m 0 ls []) := by
    intro S H locs ls hg hw hl
    unfold f_L_winner at hg
    refine lv_iconst (v := (0 : Int32)) hx hb dL_winner_0 (by decide) ?_
    refine lv_istore_n (lv' := [(2, .int (0 : Int32)), (0, .ref a0), (1, .ref a1)]) hx hb dL_winner_1 rfl hl (by decide) rfl (fun ls hl => ?_)
    refine lv_iconst (v := (0 : Int32)) hx hb dL_winner_2 (by decide) ?_
    refine lv_istore_n (lv' := [(3, .int (0 : Int32)), (2, .int (0 : Int32)), (0, .ref a0), (1, .ref a1)]) hx hb dL_winner_3 rfl hl (by decide) rfl (fun ls hl => ?_)
    exact L4 N _ _ _ _ _ _ hg hw (lv_sub hl [2, 3, 1, 0] rfl)
  exact B0 S0 _ _ _ hg hw hl
abbrev rm_L_free : Room := { frames := 0, cells := 0, slots := 0, locals := 0 }
set_option maxHeartbeats 4000000 in
set_option maxRecDepth 100000 in
theorem c_L_free (l : Launch) (D : va_G) (C : C3) (N : Nat) (S0 : Hp) (z : Nat) (a0 : Nat) (r : Int32) (S9 : Hp) (hg : f_L_free N S0 a0 = some (r, S9)) : MetI l yL_free wsL_free rm_L_free D C S0 z [.ref a0] r S9 z 0 0 := by
  refine mw_ofW (cc := cL_free) (maxL := 1) (ret := (some .int)) (lv := [(0, .ref a0)]) (by decide) rfl (Nat.le_of_ble_eq_true rfl) rfl ?_
  intro p e s m below meth c ls hx hb hr hts hown hlk hml hnm hl hw
  have hown : s.vm.findClass RL = some m.cls := hown
  have B0 : ∀ (S : Hp) (H : Heap) (locs : List Loc) (ls : Array Slot), f_L_free N S a0 = some (r, S9) → Wd D C (va_A (wP C S0) z) s.heap S z H locs s → lv_has ls 1 [(0, .ref a0)] → W p l e rm_L_free s m ([.ref a0] : List Value).toArray below meth c H locs 0 0 (MQ below (QiW D C S0 z r S9 z) ([.ref a0] : List Value).toArray s 0 0 (va_A (wP C S0) z)) (F0 m 0 ls []) := by
    intro S H locs ls hg hw hl
    unfold f_L_free at hg
    refine lv_iconst (v := (1 : Int32)) hx hb dL_free_0 (by decide) ?_
    refine lv_aload_n hx hb dL_free_1 rfl (lv_at hl 0 rfl) ?_
    refine lv_iconst (v := (0 : Int32)) hx hb dL_free_2 (by decide) ?_
    obtain ⟨hok10, hg⟩ := gd_some hg
    obtain ⟨hin11, hg⟩ := gd_some hg
    refine wr_iald hx hb hw hok10 (inb_vp hin11) dL_free_3 ?_
    refine lv_ishl hx hb dL_free_4 ?_
    refine lv_iconst (v := (1 : Int32)) hx hb dL_free_5 (by decide) ?_
    refine lv_isub hx hb dL_free_6 ?_
    refine lv_aload_n hx hb dL_free_7 rfl (lv_at hl 0 rfl) ?_
    refine lv_iconst (v := (3 : Int32)) hx hb dL_free_8 (by decide) ?_
    obtain ⟨hin12, hg⟩ := gd_some hg
    refine wr_iald hx hb hw hok10 (inb_vp hin12) dL_free_9 ?_
    refine lv_iconst (v := (-1 : Int32)) hx hb dL_free_10 (by decide) ?_
    refine lv_ixor hx hb dL_free_11 ?_
    refine lv_iand hx hb dL_free_12 ?_
    refine lv_aload_n hx hb dL_free_13 rfl (lv_at hl 0 rfl) ?_
    refine lv_iconst (v := (4 : Int32)) hx hb dL_free_14 (by decide) ?_
    obtain ⟨hin13, hg⟩ := gd_some hg
    refine wr_iald hx hb hw hok10 (inb_vp hin13) dL_free_15 ?_
    refine lv_iconst (v := (-1 : Int32)) hx hb dL_free_16 (by decide) ?_
    refine lv_ixor hx hb dL_free_17 ?_
    refine lv_iand hx hb dL_free_18 ?_
    cases hg
    exact wr_iret hx hb hr hw dL_free_19 hlk
  exact B0 S0 _ _ _ hg hw hl
abbrev rm_L_weight : Room := { frames := 1, cells := 0, slots := 0, locals := 22 }
set_option maxHeartbeats 4000000 in
set_option maxRecDepth 100000 in
theorem c_L_weight (l : Launch) (D : va_G) (C : C3) (N : Nat) (S0 : Hp) (z : Nat) (a0 : Nat) (a1 : Nat) (x2 : Int32) (r : Int32) (S9 : Hp) (hg : f_L_weight N S0 a0 a1 x2 = some (r, S9)) : MetI l yL_weight wsL_weight rm_L_weight D C S0 z [.ref a0, .ref a1, .int x2] r S9 z 0 0 := by
  refine mw_ofW (cc := cL_weight) (maxL := 3) (ret := (some .int)) (lv := [(0, .ref a0), (1, .ref a1), (2, .int x2)]) (by decide) rfl (Nat.le_of_ble_eq_true rfl) rfl ?_
  intro p e s m below meth c ls hx hb hr hts hown hlk hml hnm hl hw
  have hown : s.vm.findClass RL = some m.cls := hown
  have B0 : ∀ (S : Hp) (H : Heap) (locs : List Loc) (ls : Array Slot), f_L_weight N S a0 a1 x2 = some (r, S9) → Wd D C (va_A (wP C S0) z) s.heap S z H locs s → lv_has ls 3 [(0, .ref a0), (1, .ref a1), (2, .int x2)] → W p l e rm_L_weight s m ([.ref a0, .ref a1, .int x2] : List Value).toArray below meth c H locs 0 0 (MQ below (QiW D C S0 z r S9 z) ([.ref a0, .ref a1, .int x2] : List Value).toArray s 0 0 (va_A (wP C S0) z)) (F0 m 0 ls []) := by
    intro S H locs ls hg hw hl
    unfold f_L_weight at hg
    refine lv_aload_n hx hb dL_weight_0 rfl (lv_at hl 1 rfl) ?_
    refine lv_iload_n hx hb dL_weight_1 rfl (lv_at hl 2 rfl) ?_
    obtain ⟨hok10, hg⟩ := gd_some hg
    obtain ⟨hin11, hg⟩ := gd_some hg
    refine wr_iald hx hb hw hok10 (inb_vp hin11) dL_weight_2 ?_
    refine lv_aload_n hx hb dL_weight_3 rfl (lv_at hl 0 rfl) ?_
    refine lv_iconst (v := (4 : Int32)) hx hb dL_weight_4 (by decide) ?_
    obtain ⟨hok12, hg⟩ := gd_some hg
    obtain ⟨hin13, hg⟩ := gd_some hg
    refine wr_iald hx hb hw hok12 (inb_vp hin13) dL_weight_5 ?_
    refine lv_iand hx hb dL_weight_6 ?_
    refine lv_if_eq (tgt := 14) hx hb dL_weight_7 (by decide) (fun c14 => ?_) (fun c14 => ?_)
    · have hg := it_pos hg c14
      refine lv_sipush (v := (1024 : Int32)) hx hb dL_weight_14 (by decide) ?_
      refine lv_aload_n hx hb dL_weight_17 rfl (lv_at hl 1 rfl) ?_
      refine lv_iload_n hx hb dL_weight_18 rfl (lv_at hl 2 rfl) ?_
      refine wr_iald hx hb hw hok10 (inb_vp hin11) dL_weight_19 ?_
      refine lv_aload_n hx hb dL_weight_20 rfl (lv_at hl 0 rfl) ?_
      obtain ⟨r15, S15, hc15, hg⟩ := cl_some hg
      refine wr_ci (va_runS (As := [.ref a0]) (rest := [.int (hI S a1 x2.toNatClampNeg), .int (1024 : Int32)]) ⟨hx, hb, hml, hown, hts⟩ (c_L_free l D C N S z a0 r15 S15 hc15) (va_cwS 1 hts gL_weight_L_free rfl rfl rfl (by decide +kernel) ⟨Nat.le_of_ble_eq_true rfl, Nat.le_of_ble_eq_true rfl⟩) (wd_preS hw) rfl rfl hl.1 rfl (lv_room (Nat.le_of_ble_eq_true rfl)) dL_weight_21 ⟨Nat.zero_le _, Nat.zero_le _⟩) hw (fun H locs hw => ?_)
      refine lv_iand hx hb dL_weight_24 ?_
      obtain ⟨r16, S16, hc16, hg⟩ := cl_some hg
      refine wr_ci (va_runS (As := [.int ((hI S a1 x2.toNatClampNeg) &&& r15)]) (rest := [.int (1024 : Int32)]) ⟨hx, hb, hml, hown, hts⟩ (c_L_ones l D C N S15 z (((hI S a1 x2.toNatClampNeg) &&& r15)) r16 S16 hc16) (va_cwS 1 hts gL_weight_L_ones rfl rfl rfl (by decide +kernel) ⟨Nat.le_of_ble_eq_true rfl, Nat.le_of_ble_eq_true rfl⟩) (wd_preS hw) rfl rfl hl.1 rfl (lv_room (Nat.le_of_ble_eq_true rfl)) dL_weight_25 ⟨Nat.zero_le _, Nat.zero_le _⟩) hw (fun H locs hw => ?_)
      refine lv_ishr hx hb dL_weight_28 ?_
      cases hg
      exact wr_iret hx hb hr hw dL_weight_29 hlk
    · have hg := it_neg hg c14
      refine lv_iconst (v := (0 : Int32)) hx hb dL_weight_10 (by decide) ?_
      refine lv_goto (tgt := 29) hx hb dL_weight_11 (by decide) ?_
      cases hg
      exact wr_iret hx hb hr hw dL_weight_29 hlk
  exact B0 S0 _ _ _ hg hw hl
abbrev rm_L_danger : Room := { frames := 2, cells := 0, slots := 0, locals := 44 }
set_option maxHeartbeats 4000000 in
set_option maxRecDepth 100000 in
theorem c_L_danger (l : Launch) (D : va_G) (C : C3) (N : Nat) (S0 : Hp) (z : Nat) (a0 : Nat) (a1 : Nat) (x2 : Int32) (r : Int32) (S9 : Hp) (hg : f_L_danger N S0 a0 a1 x2 = some (r, S9)) : MetI l yL_danger wsL_danger rm_L_danger D C S0 z [.ref a0, .ref a1, .int x2] r S9 z 0 0 := by
  refine mw_ofW (cc := cL_danger) (maxL := 5) (ret := (some .int)) (lv := [(0, .ref a0), (1, .ref a1), (2, .int x2)]) (by decide) rfl (Nat.le_of_ble_eq_true rfl) rfl ?_
  intro p e s m below meth c ls hx hb hr hts hown hlk hml hnm hl hw
  have hown : s.vm.findClass RL = some m.cls := hown
  have B5 : ∀ (K5 : Hp → Int32 → Int32 → Option (Int32 × Hp)) (hK5 : ∀ (S : Hp) (v3 : Int32) (v4 : Int32) (H : Heap) (locs : List Loc) (ls : Array Slot), K5 S v3 v4 = some (r, S9) → Wd D C (va_A (wP C S0) z) s.heap S z H locs s → lv_has ls 5 [(0, .ref a0), (1, .ref a1), (2, .int x2), (3, .int v3), (4, .int v4)] → W p l e rm_L_danger s m ([.ref a0, .ref a1, .int x2] : List Value).toArray below meth c H locs 0 0 (MQ below (QiW D C S0 z r S9 z) ([.ref a0, .ref a1, .int x2] : List Value).toArray s 0 0 (va_A (wP C S0) z)) (F0 m 5 ls [])) (S : Hp) (v3 : Int32) (v4 : Int32) (H : Heap) (locs : List Loc) (ls : Array Slot), f_L_danger_b5 N a0 a1 x2 K5 S v3 v4 = some (r, S9) → Wd D C (va_A (wP C S0) z) s.heap S z H locs s → lv_has ls 5 [(0, .ref a0), (1, .ref a1), (2, .int x2), (3, .int v3), (4, .int v4)] → W p l e rm_L_danger s m ([.ref a0, .ref a1, .int x2] : List Value).toArray below meth c H locs 0 0 (MQ below (QiW D C S0 z r S9 z) ([.ref a0, .ref a1, .int x2] : List Value).toArray s 0 0 (va_A (wP C S0) z)) (F0 m 5 ls []) := by
    intro K5 hK5 S v3 v4 H locs ls hg hw hl
    unfold f_L_danger_b5 at hg
    refine lv_iload hx hb dL_danger_5 (lv_at hl 4 rfl) ?_
    refine lv_aload_n hx hb dL_danger_7 rfl (lv_at hl 0 rfl) ?_
    refine lv_iconst (v := (2 : Int32)) hx hb dL_danger_8 (by decide) ?_
    obtain ⟨hok10, hg⟩ := gd_some hg
    obtain ⟨hin11, hg⟩ := gd_some hg
    refine wr_iald hx hb hw hok10 (inb_vp hin11) dL_danger_9 ?_
    refine lv_icmp_ge (tgt := 45) hx hb dL_danger_10 (by decide) (fun c12 => ?_) (fun c12 => ?_)
    · have hg := it_pos hg c12
      refine lv_iload_n hx hb dL_danger_45 rfl (lv_at hl 3 rfl) ?_
      cases hg
      exact wr_iret hx hb hr hw dL_danger_46 hlk
    · have hg := it_neg hg c12
      refine lv_aload_n hx hb dL_danger_13 rfl (lv_at hl 1 rfl) ?_
      refine lv_iload hx hb dL_danger_14 (lv_at hl 4 rfl) ?_
      obtain ⟨hok13, hg⟩ := gd_some hg
      obtain ⟨hin14, hg⟩ := gd_some hg
      refine wr_iald hx hb hw hok13 (inb_vp hin14) dL_danger_16 ?_
      refine lv_aload_n hx hb dL_danger_17 rfl (lv_at hl 0 rfl) ?_
      obtain ⟨r15, S15, hc15, hg⟩ := cl_some hg
      refine wr_ci (va_runS (As := [.ref a0]) (rest := [.int (hI S a1 v4.toNatClampNeg)]) ⟨hx, hb, hml, hown, hts⟩ (c_L_free l D C N S z a0 r15 S15 hc15) (va_cwS 1 hts gL_danger_L_free rfl rfl rfl (by decide +kernel) ⟨Nat.le_of_ble_eq_true rfl, Nat.le_of_ble_eq_true rfl⟩) (wd_preS hw) rfl rfl hl.1 rfl (lv_room (Nat.le_of_ble_eq_true rfl)) dL_danger_18 ⟨Nat.zero_le _, Nat.zero_le _⟩) hw (fun H locs hw => ?_)
      refine lv_iand hx hb dL_danger_21 ?_
      refine lv_iconst (v := (1 : Int32)) hx hb dL_danger_22 (by decide) ?_
      refine lv_iload_n hx hb dL_danger_23 rfl (lv_at hl 2 rfl) ?_
      refine lv_ishl hx hb dL_danger_24 ?_
      refine lv_iand hx hb dL_danger_25 ?_
      refine lv_if_eq (tgt := 39) hx hb dL_danger_26 (by decide) (fun c16 => ?_) (fun c16 => ?_)
      · have hg := it_pos hg c16
        refine lv_iinc (v := (v4 + (1 : Int32))) (lv' := [(4, .int (v4 + (1 : Int32))), (0, .ref a0), (1, .ref a1), (2, .int x2), (3, .int v3)]) hx hb dL_danger_39 hl (k := 4) rfl rfl (by decide) rfl (fun ls hl => ?_)
        refine lv_goto (tgt := 5) hx hb dL_danger_42 (by decide) ?_
        exact hK5 _ _ _ _ _ _ hg hw (lv_sub hl [1, 2, 3, 4, 0] rfl)
      · have hg := it_neg hg c16
        refine lv_iload_n hx hb dL_danger_29 rfl (lv_at hl 3 rfl) ?_
        refine lv_aload_n hx hb dL_danger_30 rfl (lv_at hl 0 rfl) ?_
        refine lv_aload_n hx hb dL_danger_31 rfl (lv_at hl 1 rfl) ?_
        refine lv_iload hx hb dL_danger_32 (lv_at hl 4 rfl) ?_
        obtain ⟨r17, S17, hc17, hg⟩ := cl_some hg
        refine wr_ci (va_runS (As := [.ref a0, .ref a1, .int v4]) (rest := [.int v3]) ⟨hx, hb, hml, hown, hts⟩ (c_L_weight l D C N S15 z a0 a1 v4 r17 S17 hc17) (va_cwS 3 hts gL_danger_L_weight rfl rfl rfl (by decide +kernel) ⟨Nat.le_of_ble_eq_true rfl, Nat.le_of_ble_eq_true rfl⟩) (wd_preS hw) rfl rfl hl.1 rfl (lv_room (Nat.le_of_ble_eq_true rfl)) dL_danger_34 ⟨Nat.zero_le _, Nat.zero_le _⟩) hw (fun H locs hw => ?_)
        refine lv_iadd hx hb dL_danger_37 ?_
        refine lv_istore_n (lv' := [(3, .int (v3 + r17)), (0, .ref a0), (1, .ref a1), (2, .int x2), (4, .int v4)]) hx hb dL_danger_38 rfl hl (by decide) rfl (fun ls hl => ?_)
        refine lv_iinc (v := (v4 + (1 : Int32))) (lv' := [(4, .int (v4 + (1 : Int32))), (3, .int (v3 + r17)), (0, .ref a0), (1, .ref a1), (2, .int x2)]) hx hb dL_danger_39 hl (k := 4) rfl rfl (by decide) rfl (fun ls hl => ?_)
        refine lv_goto (tgt := 5) hx hb dL_danger_42 (by decide) ?_
        exact hK5 _ _ _ _ _ _ hg hw (lv_sub hl [2, 3, 4, 1, 0] rfl)
  have L5 : ∀ (k : Nat) (S : Hp) (v3 : Int32) (v4 : Int32) (H : Heap) (locs : List Loc) (ls : Array Slot), f_L_danger_l5 N a0 a1 x2 k S v3 v4 = some (r, S9) → Wd D C (va_A (wP C S0) z) s.heap S z H locs s → lv_has ls 5 [(0, .ref a0), (1, .ref a1), (2, .int x2), (3, .int v3), (4, .int v4)] → W p l e rm_L_danger s m ([.ref a0, .ref a1, .int x2] : List Value).toArray below meth c H locs 0 0 (MQ below (QiW D C S0 z r S9 z) ([.ref a0, .ref a1, .int x2] : List Value).toArray s 0 0 (va_A (wP C S0) z)) (F0 m 5 ls []) := by
    intro k
    induction k with
    | zero => intro S v3 v4 H locs ls hg hw hl; exact absurd (show (none : Option (Int32 × Hp)) = some (r, S9) from hg) (by simp)
    | succ k ih => intro S v3 v4 H locs ls hg hw hl; exact B5 (f_L_danger_l5 N a0 a1 x2 k) ih S v3 v4 H locs ls hg hw hl
  have B0 : ∀ (S : Hp) (H : Heap) (locs : List Loc) (ls : Array Slot), f_L_danger N S a0 a1 x2 = some (r, S9) → Wd D C (va_A (wP C S0) z) s.heap S z H locs s → lv_has ls 5 [(0, .ref a0), (1, .ref a1), (2, .int x2)] → W p l e rm_L_danger s m ([.ref a0, .ref a1, .int x2] : List Value).toArray below meth c H locs 0 0 (MQ below (QiW D C S0 z r S9 z) ([.ref a0, .ref a1, .int x2] : List Value).toArray s 0 0 (va_A (wP C S0) z)) (F0 m 0 ls []) := by
    intro S H locs ls hg hw hl
    unfold f_L_danger at hg
    refine lv_iconst (v := (0 : Int32)) hx hb dL_danger_0 (by decide) ?_
    refine lv_istore_n (lv' := [(3, .int (0 : Int32)), (0, .ref a0), (1, .ref a1), (2, .int x2)]) hx hb dL_danger_1 rfl hl (by decide) rfl (fun ls hl => ?_)
    refine lv_iconst (v := (0 : Int32)) hx hb dL_danger_2 (by decide) ?_
    refine lv_istore (lv' := [(4, .int (0 : Int32)), (3, .int (0 : Int32)), (0, .ref a0), (1, .ref a1), (2, .int x2)]) hx hb dL_danger_3 hl (by decide) rfl (fun ls hl => ?_)
    exact L5 N _ _ _ _ _ _ hg hw (lv_sub hl [2, 3, 4, 1, 0] rfl)
  exact B0 S0 _ _ _ hg hw hl
abbrev rm_L_threats : Room := { frames := 1, cells := 0, slots := 0, locals := 22 }
set_option maxHeartbeats 4000000 in
set_option maxRecDepth 100000 in
theorem c_L_threats (l : Launch) (D : va_G) (C : C3) (N : Nat) (S0 : Hp) (z : Nat) (a0 : Nat) (a1 : Nat) (r : Int32) (S9 : Hp) (hg : f_L_threats N S0 a0 a1 = some (r, S9)) : MetI l yL_threats wsL_threats rm_L_threats D C S0 z [.ref a0, .ref a1] r S9 z 0 0 := by
  refine mw_ofW (cc := cL_threats) (maxL := 4) (ret := (some .int)) (lv := [(0, .ref a0), (1, .ref a1)]) (by decide) rfl (Nat.le_of_ble_eq_true rfl) rfl ?_
  intro p e s m below meth c ls hx hb hr hts hown hlk hml hnm hl hw
  have hown : s.vm.findClass RL = some m.cls := hown
  have B4 : ∀ (K4 : Hp → Int32 → Int32 → Option (Int32 × Hp)) (hK4 : ∀ (S : Hp) (v2 : Int32) (v3 : Int32) (H : Heap) (locs : List Loc) (ls : Array Slot), K4 S v2 v3 = some (r, S9) → Wd D C (va_A (wP C S0) z) s.heap S z H locs s → lv_has ls 4 [(0, .ref a0), (1, .ref a1), (2, .int v2), (3, .int v3)] → W p l e rm_L_threats s m ([.ref a0, .ref a1] : List Value).toArray below meth c H locs 0 0 (MQ below (QiW D C S0 z r S9 z) ([.ref a0, .ref a1] : List Value).toArray s 0 0 (va_A (wP C S0) z)) (F0 m 4 ls [])) (S : Hp) (v2 : Int32) (v3 : Int32) (H : Heap) (locs : List Loc) (ls : Array Slot), f_L_threats_b4 N a0 a1 K4 S v2 v3 = some (r, S9) → Wd D C (va_A (wP C S0) z) s.heap S z H locs s → lv_has ls 4 [(0, .ref a0), (1, .ref a1), (2, .int v2), (3, .int v3)] → W p l e rm_L_threats s m ([.ref a0, .ref a1] : List Value).toArray below meth c H locs 0 0 (MQ below (QiW D C S0 z r S9 z) ([.ref a0, .ref a1] : List Value).toArray s 0 0 (va_A (wP C S0) z)) (F0 m 4 ls []) := by
    intro K4 hK4 S v2 v3 H locs ls hg hw hl
    unfold f_L_threats_b4 at hg
    refine lv_iload_n hx hb dL_threats_4 rfl (lv_at hl 3 rfl) ?_
    refine lv_aload_n hx hb dL_threats_5 rfl (lv_at hl 0 rfl) ?_
    refine lv_iconst (v := (2 : Int32)) hx hb dL_threats_6 (by decide) ?_
    obtain ⟨hok10, hg⟩ := gd_some hg
    obtain ⟨hin11, hg⟩ := gd_some hg
    refine wr_iald hx hb hw hok10 (inb_vp hin11) dL_threats_7 ?_
    refine lv_icmp_ge (tgt := 53) hx hb dL_threats_8 (by decide) (fun c12 => ?_) (fun c12 => ?_)
    · have hg := it_pos hg c12
      refine lv_iload_n hx hb dL_threats_53 rfl (lv_at hl 2 rfl) ?_
      cases hg
      exact wr_iret hx hb hr hw dL_threats_54 hlk
    · have hg := it_neg hg c12
      refine lv_aload_n hx hb dL_threats_11 rfl (lv_at hl 1 rfl) ?_
      refine lv_iload_n hx hb dL_threats_12 rfl (lv_at hl 3 rfl) ?_
      obtain ⟨hok13, hg⟩ := gd_some hg
      obtain ⟨hin14, hg⟩ := gd_some hg
      refine wr_iald hx hb hw hok13 (inb_vp hin14) dL_threats_13 ?_
      refine lv_aload_n hx hb dL_threats_14 rfl (lv_at hl 0 rfl) ?_
      refine lv_iconst (v := (4 : Int32)) hx hb dL_threats_15 (by decide) ?_
      obtain ⟨hin15, hg⟩ := gd_some hg
      refine wr_iald hx hb hw hok10 (inb_vp hin15) dL_threats_16 ?_
      refine lv_iand hx hb dL_threats_17 ?_
      refine lv_if_ne (tgt := 47) hx hb dL_threats_18 (by decide) (fun c16 => ?_) (fun c16 => ?_)
      · have hg := it_neg hg c16
        refine lv_iinc (v := (v3 + (1 : Int32))) (lv' := [(3, .int (v3 + (1 : Int32))), (0, .ref a0), (1, .ref a1), (2, .int v2)]) hx hb dL_threats_47 hl (k := 3) rfl rfl (by decide) rfl (fun ls hl => ?_)
        refine lv_goto (tgt := 4) hx hb dL_threats_50 (by decide) ?_
        exact hK4 _ _ _ _ _ _ hg hw (lv_sub hl [1, 2, 3, 0] rfl)
      · have hg := it_pos hg c16
        refine lv_aload_n hx hb dL_threats_21 rfl (lv_at hl 1 rfl) ?_
        refine lv_iload_n hx hb dL_threats_22 rfl (lv_at hl 3 rfl) ?_
        refine wr_iald hx hb hw hok13 (inb_vp hin14) dL_threats_23 ?_
        refine lv_aload_n hx hb dL_threats_24 rfl (lv_at hl 0 rfl) ?_
        obtain ⟨r17, S17, hc17, hg⟩ := cl_some hg
        refine wr_ci (va_runS (As := [.ref a0]) (rest := [.int (hI S a1 v3.toNatClampNeg)]) ⟨hx, hb, hml, hown, hts⟩ (c_L_free l D C N S z a0 r17 S17 hc17) (va_cwS 1 hts gL_threats_L_free rfl rfl rfl (by decide +kernel) ⟨Nat.le_of_ble_eq_true rfl, Nat.le_of_ble_eq_true rfl⟩) (wd_preS hw) rfl rfl hl.1 rfl (lv_room (Nat.le_of_ble_eq_true rfl)) dL_threats_25 ⟨Nat.zero_le _, Nat.zero_le _⟩) hw (fun H locs hw => ?_)
        refine lv_iand hx hb dL_threats_28 ?_
        obtain ⟨r18, S18, hc18, hg⟩ := cl_some hg
        refine wr_ci (va_runS (As := [.int ((hI S a1 v3.toNatClampNeg) &&& r17)]) (rest := []) ⟨hx, hb, hml, hown, hts⟩ (c_L_ones l D C N S17 z (((hI S a1 v3.toNatClampNeg) &&& r17)) r18 S18 hc18) (va_cwS 1 hts gL_threats_L_ones rfl rfl rfl (by decide +kernel) ⟨Nat.le_of_ble_eq_true rfl, Nat.le_of_ble_eq_true rfl⟩) (wd_preS hw) rfl rfl hl.1 rfl (lv_room (Nat.le_of_ble_eq_true rfl)) dL_threats_29 ⟨Nat.zero_le _, Nat.zero_le _⟩) hw (fun H locs hw => ?_)
        refine lv_iconst (v := (1 : Int32)) hx hb dL_threats_32 (by decide) ?_
        refine lv_icmp_ne (tgt := 47) hx hb dL_threats_33 (by decide) (fun c19 => ?_) (fun c19 => ?_)
        · have hg := it_neg hg c19
          refine lv_iinc (v := (v3 + (1 : Int32))) (lv' := [(3, .int (v3 + (1 : Int32))), (0, .ref a0), (1, .ref a1), (2, .int v2)]) hx hb dL_threats_47 hl (k := 3) rfl rfl (by decide) rfl (fun ls hl => ?_)
          refine lv_goto (tgt := 4) hx hb dL_threats_50 (by decide) ?_
          exact hK4 _ _ _ _ _ _ hg hw (lv_sub hl [1, 2, 3, 0] rfl)
        · have hg := it_pos hg c19
          refine lv_iload_n hx hb dL_threats_36 rfl (lv_at hl 2 rfl) ?_
          refine lv_aload_n hx hb dL_threats_37 rfl (lv_at hl 1 rfl) ?_
          refine lv_iload_n hx hb dL_threats_38 rfl (lv_at hl 3 rfl) ?_
          obtain ⟨hok20, hg⟩ := gd_some hg
          obtain ⟨hin21, hg⟩ := gd_some hg
          refine wr_iald hx hb hw hok20 (inb_vp hin21) dL_threats_39 ?_
          refine lv_aload_n hx hb dL_threats_40 rfl (lv_at hl 0 rfl) ?_
          obtain ⟨r22, S22, hc22, hg⟩ := cl_some hg
          refine wr_ci (va_runS (As := [.ref a0]) (rest := [.int (hI S18 a1 v3.toNatClampNeg), .int v2]) ⟨hx, hb, hml, hown, hts⟩ (c_L_free l D C N S18 z a0 r22 S22 hc22) (va_cwS 1 hts gL_threats_L_free rfl rfl rfl (by decide +kernel) ⟨Nat.le_of_ble_eq_true rfl, Nat.le_of_ble_eq_true rfl⟩) (wd_preS hw) rfl rfl hl.1 rfl (lv_room (Nat.le_of_ble_eq_true rfl)) dL_threats_41 ⟨Nat.zero_le _, Nat.zero_le _⟩) hw (fun H locs hw => ?_)
          refine lv_iand hx hb dL_threats_44 ?_
          refine lv_ior hx hb dL_threats_45 ?_
          obtain ⟨e23, he23, hg⟩ := bd_some hg
          refine lv_istore_n (lv' := [(2, .int e23), (0, .ref a0), (1, .ref a1), (3, .int v3)]) hx hb dL_threats_46 rfl hl (by decide) (by rw [he23]; rfl) (fun ls hl => ?_)
          refine lv_iinc (v := (v3 + (1 : Int32))) (lv' := [(3, .int (v3 + (1 : Int32))), (2, .int e23), (0, .ref a0), (1, .ref a1)]) hx hb dL_threats_47 hl (k := 3) rfl rfl (by decide) rfl (fun ls hl => ?_)
          refine lv_goto (tgt := 4) hx hb dL_threats_50 (by decide) ?_
          exact hK4 _ _ _ _ _ _ hg hw (lv_sub hl [2, 3, 1, 0] rfl)
  have L4 : ∀ (k : Nat) (S : Hp) (v2 : Int32) (v3 : Int32) (H : Heap) (locs : List Loc) (ls : Array Slot), f_L_threats_l4 N a0 a1 k S v2 v3 = some (r, S9) → Wd D C (va_A (wP C S0) z) s.heap S z H locs s → lv_has ls 4 [(0, .ref a0), (1, .ref a1), (2, .int v2), (3, .int v3)] → W p l e rm_L_threats s m ([.ref a0, .ref a1] : List Value).toArray below meth c H locs 0 0 (MQ below (QiW D C S0 z r S9 z) ([.ref a0, .ref a1] : List Value).toArray s 0 0 (va_A (wP C S0) z)) (F0 m 4 ls []) := by
    intro k
    induction k with
    | zero => intro S v2 v3 H locs ls hg hw hl; exact absurd (show (none : Option (Int32 × Hp)) = some (r, S9) from hg) (by simp)
    | succ k ih => intro S v2 v3 H locs ls hg hw hl; exact B4 (f_L_threats_l4 N a0 a1 k) ih S v2 v3 H locs ls hg hw hl
  have B0 : ∀ (S : Hp) (H : Heap) (locs : List Loc) (ls : Array Slot), f_L_threats N S a0 a1 = some (r, S9) → Wd D C (va_A (wP C S0) z) s.heap S z H locs s → lv_has ls 4 [(0, .ref a0), (1, .ref a1)] → W p l e rm_L_threats s m ([.ref a0, .ref a1] : List Value).toArray below meth c H locs 0 0 (MQ below (QiW D C S0 z r S9 z) ([.ref a0, .ref a1] : List Value).toArray s 0 0 (va_A (wP C S0) z)) (F0 m 0 ls []) := by
    intro S H locs ls hg hw hl
    unfold f_L_threats at hg
    refine lv_iconst (v := (0 : Int32)) hx hb dL_threats_0 (by decide) ?_
    refine lv_istore_n (lv' := [(2, .int (0 : Int32)), (0, .ref a0), (1, .ref a1)]) hx hb dL_threats_1 rfl hl (by decide) rfl (fun ls hl => ?_)
    refine lv_iconst (v := (0 : Int32)) hx hb dL_threats_2 (by decide) ?_
    refine lv_istore_n (lv' := [(3, .int (0 : Int32)), (2, .int (0 : Int32)), (0, .ref a0), (1, .ref a1)]) hx hb dL_threats_3 rfl hl (by decide) rfl (fun ls hl => ?_)
    exact L4 N _ _ _ _ _ _ hg hw (lv_sub hl [2, 3, 1, 0] rfl)
  exact B0 S0 _ _ _ hg hw hl
