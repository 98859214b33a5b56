def LawStep (N : Nat) (I : Hp → Prop) (x zz li pa : Nat) (S : Hp) (z : Nat) : Prop := ∀ a c : Int32, ∃ T z1 U, f_L_act N S z x a c zz li pa = some (1, T, z1) ∧ f_L_agree N T x zz li pa = some (1, U) ∧ I U
set_option maxHeartbeats 4000000 in
set_option maxRecDepth 100000 in
theorem lw_loop {p : Program} (l : Launch) {e : Env} {s : State} {m : MethodId} {b : Nat} {below : List Frame} {meth : Method} {c : Code} {D : va_G} {C : C3} {L : Nat} {xs : Nat → Int32} {I : Nat → Nat → Nat → Nat → Nat → Hp → Prop} {N x zz li pa : Nat} (hLL : L ≤ 260) (CF : CallFix p m c cL_law 6 s #[Value.ref b] wsL_law RL) (hr : meth.sig.returnType = ret) (hlk : meth.locks = false) (hX : va_X b L xs s s.heap) (hbl : b < s.heap.size) (hI9 : ∀ k S z, I (k + 1) x zz li pa S → (∀ a ∈ hL S, a < z) → LawStep N (I k x zz li pa) x zz li pa S z) :
    ∀ (k n : Nat) (S : Hp) (z : Nat) (H : Heap) (locs : List Loc) (cells slots : Nat) (ls : Array Slot), n + k = 30 → I k x zz li pa S → Wd D C (fun q : Nat => s.heap.size ≤ q) s.heap S z H locs s → lv_has ls 6 [(5, .int (nI n)), (4, .ref pa), (3, .ref li), (2, .ref zz), (1, .ref x), (0, .ref b)] → cells + 3 * k ≤ 600130 → slots + 28 * k ≤ 7301080 → W p l e room_1 s m #[Value.ref b] below meth c H locs cells slots (lw_Z below #[Value.ref b] s) (F0 m 51 ls []) := by
  have CF0 := CF
  obtain ⟨hx, hb, hml, hown, hts⟩ := CF
  have hbA : ¬ (fun q : Nat => s.heap.size ≤ q) b := Nat.not_le.mpr hbl
  intro k
  induction k with
  | zero =>
    intro n S z H locs cells slots ls hk hI hw hl hc hs
    refine lv_iload hx hb dL_law_51 (lv_at hl 0 rfl) ?_
    refine lv_bipush (v := (30 : Int32)) hx hb dL_law_53 (by decide) ?_
    refine lv_icmp_ge (tgt := 106) hx hb dL_law_55 (by decide) (fun q => ?_) (fun q => ?_)
    · refine lv_iconst (v := (1 : Int32)) hx hb dL_law_106 (by decide) ?_
      refine va_forget hw.2.2.2.1.2.2 ?_
      refine W.widen (k := 600130) (n := 7301080) (by omega) (by omega) ?_
      exact lw_ret hx hb hr hlk dL_law_107
    · exact absurd (nI_le (a := 30) (by omega) (by omega)) q
  | succ k ih =>
    intro n S z H locs cells slots ls hk hI hw hl hc hs
    refine lv_iload hx hb dL_law_51 (lv_at hl 0 rfl) ?_
    refine lv_bipush (v := (30 : Int32)) hx hb dL_law_53 (by decide) ?_
    refine lv_icmp_ge (tgt := 106) hx hb dL_law_55 (by decide) (fun q => ?_) (fun q => ?_)
    · exact absurd q (nI_ge (show n < 30 by omega) (by decide))
    · have k1 : (2 : Int32) * nI n = nI (2 * n) := (Int32.ofNat_mul 2 n).symm
      have k2 : (2 : Int32) * nI n + (1 : Int32) = nI (2 * n + 1) := by rw [k1]; exact (Int32.ofNat_add (2 * n) 1).symm
      obtain ⟨T, z1, U, e1, e2, hU⟩ := hI9 k S z hI (fun a ha => Nat.not_le.mp (fun h => wd_out hw h ha)) (cellV xs L ((2 : Int32) * nI n)) (cellV xs L ((2 : Int32) * nI n + (1 : Int32)))
      refine lv_aload_n hx hb dL_law_58 rfl (lv_at hl 4 rfl) ?_
      refine lv_aload_n hx hb dL_law_59 rfl (lv_at hl 5 rfl) ?_
      refine lv_iconst (v := (2 : Int32)) hx hb dL_law_60 (by decide) ?_
      refine lv_iload hx hb dL_law_61 (lv_at hl 0 rfl) ?_
      refine lv_imul hx hb dL_law_63 ?_
      refine wr_ci (va_runS (As := [.ref b, .int ((2 : Int32) * nI n)]) (rest := [.ref x]) ⟨hx, hb, hml, hown, hts⟩ (c_L_cell l D C S z b L xs ((2 : Int32) * nI n) hLL (j := 2 * n) k1 (by omega)) (va_cwS 2 hts gL_law_L_cell rfl rfl rfl (by decide +kernel) ⟨Nat.le_of_ble_eq_true rfl, Nat.le_of_ble_eq_true rfl⟩) (wd_preX hw hX hbl hbA) rfl rfl hl.1 rfl (lv_room (Nat.le_of_ble_eq_true rfl)) dL_law_64 ⟨by show _ + 0 ≤ 600130; omega, by show _ + 0 ≤ 7301080; omega⟩) hw (fun H locs hw => ?_)
      refine lv_aload_n hx hb dL_law_67 rfl (lv_at hl 5 rfl) ?_
      refine lv_iconst (v := (2 : Int32)) hx hb dL_law_68 (by decide) ?_
      refine lv_iload hx hb dL_law_69 (lv_at hl 0 rfl) ?_
      refine lv_imul hx hb dL_law_71 ?_
      refine lv_iconst (v := (1 : Int32)) hx hb dL_law_72 (by decide) ?_
      refine lv_iadd hx hb dL_law_73 ?_
      refine wr_ci (va_runS (As := [.ref b, .int ((2 : Int32) * nI n + (1 : Int32))]) (rest := [.int (cellV xs L ((2 : Int32) * nI n)), .ref x]) ⟨hx, hb, hml, hown, hts⟩ (c_L_cell l D C S z b L xs ((2 : Int32) * nI n + (1 : Int32)) hLL (j := 2 * n + 1) k2 (by omega)) (va_cwS 2 hts gL_law_L_cell rfl rfl rfl (by decide +kernel) ⟨Nat.le_of_ble_eq_true rfl, Nat.le_of_ble_eq_true rfl⟩) (wd_preX hw hX hbl hbA) rfl rfl hl.1 rfl (lv_room (Nat.le_of_ble_eq_true rfl)) dL_law_74 ⟨by show _ + 0 ≤ 600130; omega, by show _ + 0 ≤ 7301080; omega⟩) hw (fun H locs hw => ?_)
      refine lv_aload_n hx hb dL_law_77 rfl (lv_at hl 3 rfl) ?_
      refine lv_aload_n hx hb dL_law_78 rfl (lv_at hl 2 rfl) ?_
      refine lv_aload hx hb dL_law_79 (lv_at hl 1 rfl) ?_
      refine wr_ci (va_runS (As := [.ref x, .int (cellV xs L ((2 : Int32) * nI n)), .int (cellV xs L ((2 : Int32) * nI n + (1 : Int32))), .ref zz, .ref li, .ref pa]) (rest := []) ⟨hx, hb, hml, hown, hts⟩ (c_L_act l D C N S z x (cellV xs L ((2 : Int32) * nI n)) (cellV xs L ((2 : Int32) * nI n + (1 : Int32))) zz li pa 1 T z1 e1) (va_cwS 6 hts gL_law_L_act rfl rfl rfl (by decide +kernel) ⟨Nat.le_of_ble_eq_true rfl, Nat.le_of_ble_eq_true rfl⟩) (wd_preS hw) rfl rfl hl.1 rfl (lv_room (Nat.le_of_ble_eq_true rfl)) dL_law_81 ⟨by show _ + 3 ≤ 600130; omega, by show _ + 28 ≤ 7301080; omega⟩) hw (fun H locs hw => ?_)
      refine lv_if_eq (tgt := 98) hx hb dL_law_84 (by decide) (fun q => absurd q (by decide)) (fun q => ?_)
      refine lv_aload_n hx hb dL_law_87 rfl (lv_at hl 4 rfl) ?_
      refine lv_aload_n hx hb dL_law_88 rfl (lv_at hl 3 rfl) ?_
      refine lv_aload_n hx hb dL_law_89 rfl (lv_at hl 2 rfl) ?_
      refine lv_aload hx hb dL_law_90 (lv_at hl 1 rfl) ?_
      refine wr_ci (va_runS (As := [.ref x, .ref zz, .ref li, .ref pa]) (rest := []) ⟨hx, hb, hml, hown, hts⟩ (c_L_agree l D C N T z1 x zz li pa 1 U e2) (va_cwS 4 hts gL_law_L_agree rfl rfl rfl (by decide +kernel) ⟨Nat.le_of_ble_eq_true rfl, Nat.le_of_ble_eq_true rfl⟩) (wd_preS hw) rfl rfl hl.1 rfl (lv_room (Nat.le_of_ble_eq_true rfl)) dL_law_92 ⟨by show _ + 0 ≤ 600130; omega, by show _ + 0 ≤ 7301080; omega⟩) hw (fun H locs hw => ?_)
      refine lv_if_ne (tgt := 100) hx hb dL_law_95 (by decide) (fun q => ?_) (fun q => absurd q (by decide))
      refine lv_iinc (v := nI (n + 1)) (lv' := [(5, .int (nI (n + 1))), (4, .ref pa), (3, .ref li), (2, .ref zz), (1, .ref x), (0, .ref b)]) hx hb dL_law_100 hl (k := 0) rfl (Int32.ofNat_add n 1).symm (by decide) rfl (fun ls hl => ?_)
      refine lv_goto (tgt := 51) hx hb dL_law_103 (by decide) ?_
      exact ih (n + 1) U z1 H locs _ _ ls (by omega) hU hw hl (by omega) (by omega)
