/-- a call of the class by one of the law's own methods, then of the reference, then what the reference says was thrown -/
def LwH (I : Nat → Nat → Nat → Hp → Prop) (N x mm o : Nat) (h : Option (Int32 × Hp)) (g : Hp → Option (Int32 × Hp)) : Prop :=
  ∃ r S1 b S2 S3, h = some (r, S1) ∧ g S1 = some (b, S2) ∧ f_X7_thrown N S2 mm = some (r, S3) ∧ ok S1 mm 7 ∧ ok S2 mm 7 ∧ (r = 0 → ok S3 o 10 ∧ inb (0 : Int32) (hN S3 o) ∧ hJ S3 o (0 : Int32).toNatClampNeg = b.toInt64) ∧ I x mm o S3
def LwZ (I : Nat → Nat → Nat → Hp → Prop) (x mm o : Nat) (h : Option (Int32 × Hp × Nat)) (g : Hp → Option (Int32 × Hp)) : Prop :=
  ∃ b S1 z1 S2, h = some (b, S1, z1) ∧ g S1 = some (b, S2) ∧ ok S1 mm 7 ∧ I x mm o S2
def LwI (I : Nat → Nat → Nat → Hp → Prop) (x mm o : Nat) (h : Option (Int32 × Hp)) (g : Hp → Option (Int32 × Hp)) : Prop :=
  ∃ b S1 S2, h = some (b, S1) ∧ g S1 = some (b, S2) ∧ ok S1 mm 7 ∧ I x mm o S2
def LwD (I : Nat → Nat → Nat → Hp → Prop) (x mm o : Nat) (h : Option (UInt64 × Hp)) (g : Hp → Option (UInt64 × Hp)) : Prop :=
  ∃ v w S1 S2, h = some (v, S1) ∧ g S1 = some (w, S2) ∧ FP.dcmp v w = some .eq ∧ ok S1 mm 7 ∧ I x mm o S2
def LwJ (I : Nat → Nat → Nat → Hp → Prop) (x mm o : Nat) (h : Option (Int64 × Hp)) (g : Hp → Option (Int64 × Hp)) : Prop :=
  ∃ v S1 S2, h = some (v, S1) ∧ g S1 = some (v, S2) ∧ ok S1 mm 7 ∧ I x mm o S2
def LawStep (N : Nat) (I : Nat → Nat → Nat → Hp → Prop) (x mm o : Nat) (S : Hp) (z : Nat) : Prop :=
  (∀ p1 : Int32, LwH I N x mm o (f_L_begin N S z x p1 o) (fun T => f_X7_begin N T mm p1)) ∧
  (∀ p1 : Int32, LwH I N x mm o (f_L_addLine N S z x p1 o) (fun T => f_X7_addLine N T mm p1)) ∧
  (∀ p1 : Int32, LwH I N x mm o (f_L_removeLine N S z x p1 o) (fun T => f_X7_removeLine N T mm p1)) ∧
  (∀ p1 : Int32, isB p1 → ok S x 6 ∧ LwZ I x mm o (f_X6_clear N S z x p1) (fun T => f_X7_clear N T mm p1)) ∧
  (∀ p1 : Int32, LwH I N x mm o (f_L_move N S z x p1 o) (fun T => f_X7_move N T mm p1)) ∧
  (LwH I N x mm o (f_L_skip N S z x o) (fun T => f_X7_skip N T mm)) ∧
  (∀ p1 p2 p3 : Int32, LwH I N x mm o (f_L_play N S z x p1 p2 p3 o) (fun T => f_X7_play N T mm p1 p2 p3)) ∧
  (∀ p1 : Int32, LwH I N x mm o (f_L_append N S z x p1 o) (fun T => f_X7_append N T mm p1)) ∧
  (ok S x 6 ∧ LwI I x mm o (f_X6_clearBuffer N S x) (fun T => f_X7_clearBuffer N T mm)) ∧
  (ok S x 6 ∧ LwI I x mm o (f_X6_firstError N S x) (fun T => f_X7_firstError N T mm)) ∧
  (LwH I N x mm o (f_L_read N S z x o) (fun T => f_X7_read N T mm)) ∧
  (∀ p1 : Int32, LwH I N x mm o (f_L_take N S z x p1 o) (fun T => f_X7_take N T mm p1)) ∧
  (∀ p1 : Int32, LwH I N x mm o (f_L_restore N S z x p1 o) (fun T => f_X7_restore N T mm p1)) ∧
  (LwH I N x mm o (f_L_undo N S z x o) (fun T => f_X7_undo N T mm)) ∧
  (∀ p1 p2 : Int32, LwH I N x mm o (f_L_line N S z x p1 p2 o) (fun T => f_X7_line N T mm p1 p2)) ∧
  (∀ p1 p2 : Int32, LwH I N x mm o (f_L_cell N S z x p1 p2 o) (fun T => f_X7_cell N T mm p1 p2)) ∧
  (∀ p1 : Int32, LwH I N x mm o (f_L_reply N S z x p1 o) (fun T => f_X7_reply N T mm p1)) ∧
  (∀ p1 : Int32, LwH I N x mm o (f_L_solved N S z x p1 o) (fun T => f_X7_solved N T mm p1)) ∧
  (∀ p1 : Int32, LwH I N x mm o (f_L_ifMoved N S z x p1 o) (fun T => f_X7_ifMoved N T mm p1)) ∧
  (∀ p1 p2 : Int32, LwH I N x mm o (f_L_ifPlayed N S z x p1 p2 o) (fun T => f_X7_ifPlayed N T mm p1 p2)) ∧
  (∀ p1 : Int32, LwH I N x mm o (f_L_count N S z x p1 o) (fun T => f_X7_count N T mm p1)) ∧
  (ok S x 6 ∧ LwD I x mm o (f_X6_weightShare N S x) (fun T => f_X7_weightShare N T mm)) ∧
  (ok S x 6 ∧ LwJ I x mm o (f_X6_digest N S x) (fun T => f_X7_digest N T mm))
theorem lv_zif {p : Program} {l : Launch} {e : Env} {R : Room} {s : State} {m : MethodId} {args : Array Value} {below : List Frame} {meth : Method} {c : Code} {H : Heap} {locs : List Loc} {cells slots : Nat} {Q : State → Prop} {cc : ByteArray} {pc tgt pj : Nat} {ls : Array Slot} {rest : List Value} {x : Int32} {o1 o2 : Int} (hx : p.tables.exec = Jvm.exec) (hb : c.code = cc) (hd : decode cc pc = .ok (.ifCond .eq o1, 3)) (ht : (pc : Int) + o1 = (tgt : Int)) (hd1 : decode cc (pc + 3) = .ok (.iconst 1, 1)) (hd2 : decode cc (pc + 4) = .ok (.goto o2, 3)) (ht2 : ((pc + 4 : Nat) : Int) + o2 = (pj : Int)) (hd3 : decode cc tgt = .ok (.iconst 0, 1)) (hj : tgt + 1 = pj)
    (k : W p l e R s m args below meth c H locs cells slots Q (F0 m pj ls (.int (if x = 0 then 0 else 1) :: rest))) : W p l e R s m args below meth c H locs cells slots Q (F0 m pc ls (.int x :: rest)) := by
  refine lv_if_eq (tgt := tgt) hx hb hd ht (fun q => ?_) (fun q => ?_)
  · refine lv_iconst (v := (0 : Int32)) hx hb hd3 (by decide) ?_
    rw [if_pos q] at k
    subst hj
    exact k
  · refine lv_iconst (v := (1 : Int32)) hx hb hd1 (by decide) ?_
    refine lv_goto (tgt := pj) hx hb hd2 ht2 ?_
    rw [if_neg q] at k
    exact k
set_option maxHeartbeats 4000000 in
set_option maxRecDepth 100000 in
theorem lwc_0 {p : Program} (l : Launch) (hlt : l.stackTraces = false) {e : Env} {s : State} {m : MethodId} {b : Nat} {below : List Frame} {meth : Method} {c : Code} {D : va_G} {C : C3} {A : Nat → Prop} {L : Nat} {xs : Nat → Int32} {I : Nat → Nat → Nat → Hp → Prop} {N x mm o z : Nat} {S : Hp} {i : Int32} {H : Heap} {locs : List Loc} {cells slots : Nat} {Q : State → Prop} {ls : Array Slot} (CF : CallFix p m c cL_law 9 s #[Value.ref b] wsL_law RL) (hX : va_X b L xs s s.heap) (hbl : b < s.heap.size) (hbA : ¬ A b) (hi1 : vp_in (i + (1 : Int32)) L) (hop : LwH I N x mm o (f_L_begin N S z x (xs (i + (1 : Int32)).toNatClampNeg) o) (fun T => f_X7_begin N T mm (xs (i + (1 : Int32)).toNatClampNeg))) (hthr : ThrOk A s s.heap) (hw : Wd D C A s.heap S z H locs s) (hl : lv_has ls 9 [(4, .int i), (3, .ref o), (2, .ref mm), (1, .ref x), (0, .ref b)]) (hc4 : cells + 4 ≤ 601024) (hs64 : slots + 64 ≤ 7293034)
    (kk : ∀ (S9 : Hp) (z9 : Nat) (H9 : Heap) (locs9 : List Loc) (cs ss : Nat) (ls9 : Array Slot), cs ≤ cells + 4 → ss ≤ slots + 64 → I x mm o S9 → Wd D C A s.heap S9 z9 H9 locs9 s → lv_has ls9 9 [(4, .int i), (3, .ref o), (2, .ref mm), (1, .ref x), (0, .ref b)] → W p l e room_1 s m #[Value.ref b] below meth c H9 locs9 cs ss Q (F0 m 1298 ls9 [])) : W p l e room_1 s m #[Value.ref b] below meth c H locs cells slots Q (F0 m 144 ls []) := by
  obtain ⟨hx, hb, hml, hown, hts⟩ := CF
  obtain ⟨r, S1, v, S2, S3, e1, e2, e3, ok1, ok2, hr0, hI⟩ := hop
  refine lv_aload_n hx hb dL_law_144 rfl (lv_at hl 3 rfl) ?_
  refine lv_aload_n hx hb dL_law_145 rfl (lv_at hl 4 rfl) ?_
  refine lv_iload hx hb dL_law_146 (lv_at hl 0 rfl) ?_
  refine lv_iconst (v := (1 : Int32)) hx hb dL_law_148 (by decide) ?_
  refine lv_iadd hx hb dL_law_149 ?_
  refine va_sld hx hb hX hbl hbA hw.2.2.2.1 hi1 dL_law_150 ?_
  refine lv_aload_n hx hb dL_law_151 rfl (lv_at hl 1 rfl) ?_
  refine wr_ch (vx_runSX (As := [.ref x, .int (xs (i + (1 : Int32)).toNatClampNeg), .ref o]) (rest := []) ⟨hx, hb, hml, hown, hts⟩ (h_L_begin l hlt D C N S z x (xs (i + (1 : Int32)).toNatClampNeg) o r S1 e1) (vx_cwSW 3 hts gL_law_L_begin rfl rfl rfl (by decide +kernel) ⟨Nat.le_of_ble_eq_true rfl, Nat.le_of_ble_eq_true rfl⟩) (wd_preST hw hthr) rfl rfl hl.1 rfl (lv_room (Nat.le_of_ble_eq_true rfl)) dL_law_152 ⟨by show _ + 3 ≤ 601024; omega, by show _ + 28 ≤ 7293034; omega⟩) hw (fun z1 H locs hw => ?_)
  refine lv_istore (lv' := [(5, .int r), (4, .int i), (3, .ref o), (2, .ref mm), (1, .ref x), (0, .ref b)]) hx hb dL_law_155 hl (by decide) rfl (fun ls hl => ?_)
  refine lv_aload_n hx hb dL_law_157 rfl (lv_at hl 3 rfl) ?_
  refine lv_aload_n hx hb dL_law_158 rfl (lv_at hl 5 rfl) ?_
  refine lv_iload hx hb dL_law_159 (lv_at hl 1 rfl) ?_
  refine lv_iconst (v := (1 : Int32)) hx hb dL_law_161 (by decide) ?_
  refine lv_iadd hx hb dL_law_162 ?_
  refine va_sld hx hb hX hbl hbA hw.2.2.2.1 hi1 dL_law_163 ?_
  refine wr_ci (va_runV (As := [.int (xs (i + (1 : Int32)).toNatClampNeg)]) (rest := []) ⟨hx, hb, hml, hown, hts⟩ (c_X7_begin l D C N S1 z1 mm (xs (i + (1 : Int32)).toNatClampNeg) v S2 e2) (cwV 1 hts gL_law_X7_begin rfl rfl rfl (by decide +kernel) ⟨Nat.le_of_ble_eq_true rfl, Nat.le_of_ble_eq_true rfl⟩) (wd_preV hw ok1 (wF_7 (S := S1) ok1.2) rfl) rfl rfl hl.1 rfl (lv_room (Nat.le_of_ble_eq_true rfl)) dL_law_164 ⟨by show _ + 0 ≤ 601024; omega, by show _ + 0 ≤ 7293034; omega⟩) hw (fun H locs hw => ?_)
  refine lv_istore (lv' := [(6, .int v), (5, .int r), (4, .int i), (3, .ref o), (2, .ref mm), (1, .ref x), (0, .ref b)]) hx hb dL_law_167 hl (by decide) rfl (fun ls hl => ?_)
  refine lv_aload_n hx hb dL_law_169 rfl (lv_at hl 4 rfl) ?_
  refine wr_ci (va_runV (As := []) (rest := []) ⟨hx, hb, hml, hown, hts⟩ (c_X7_thrown l D C N S2 z1 mm r S3 e3) (cwV 0 hts gL_law_X7_thrown rfl rfl rfl (by decide +kernel) ⟨Nat.le_of_ble_eq_true rfl, Nat.le_of_ble_eq_true rfl⟩) (wd_preV hw ok2 (wF_7 (S := S2) ok2.2) rfl) rfl rfl hl.1 rfl (lv_room (Nat.le_of_ble_eq_true rfl)) dL_law_170 ⟨by show _ + 0 ≤ 601024; omega, by show _ + 0 ≤ 7293034; omega⟩) hw (fun H locs hw => ?_)
  refine lv_iload hx hb dL_law_173 (lv_at hl 1 rfl) ?_
  refine lv_icmp_eq (tgt := 180) hx hb dL_law_175 (by decide) (fun _ => ?_) (fun q => absurd rfl q)
  refine lv_iload hx hb dL_law_180 (lv_at hl 1 rfl) ?_
  refine lv_if_ne (tgt := 197) hx hb dL_law_182 (by decide) (fun _ => ?_) (fun q => ?_)
  · refine lv_goto (tgt := 1298) hx hb dL_law_197 (by decide) ?_
    exact kk _ _ H locs _ _ ls (by omega) (by omega) hI hw (lv_sub hl [2, 3, 4, 5, 6] rfl)
  · obtain ⟨ok3, in3, h3⟩ := hr0 q
    refine lv_aload_n hx hb dL_law_185 rfl (lv_at hl 3 rfl) ?_
    refine lv_iconst (v := (0 : Int32)) hx hb dL_law_186 (by decide) ?_
    refine wr_lald hx hb hw ok3 (inb_vp in3) dL_law_187 ?_
    refine lv_iload hx hb dL_law_188 (lv_at hl 0 rfl) ?_
    refine lv_i2l (v := v.toInt64) hx hb dL_law_190 rfl ?_
    refine W.lcmp hx hb dL_law_191 ?_
    refine lv_if_eq (tgt := 197) hx hb dL_law_192 (by decide) (fun _ => ?_) (fun q => absurd ((lg_cmp_eq _ _).mpr h3) q)
    refine lv_goto (tgt := 1298) hx hb dL_law_197 (by decide) ?_
    exact kk _ _ H locs _ _ ls (by omega) (by omega) hI hw (lv_sub hl [2, 3, 4, 5, 6] rfl)
set_option maxHeartbeats 4000000 in
set_option maxRecDepth 100000 in
theorem lwc_1 {p : Program} (l : Launch) (hlt : l.stackTraces = false) {e : Env} {s : State} {m : MethodId} {b : Nat} {below : List Frame} {meth : Method} {c : Code} {D : va_G} {C : C3} {A : Nat → Prop} {L : Nat} {xs : Nat → Int32} {I : Nat → Nat → Nat → Hp → Prop} {N x mm o z : Nat} {S : Hp} {i : Int32} {H : Heap} {locs : List Loc} {cells slots : Nat} {Q : State → Prop} {ls : Array Slot} (CF : CallFix p m c cL_law 9 s #[Value.ref b] wsL_law RL) (hX : va_X b L xs s s.heap) (hbl : b < s.heap.size) (hbA : ¬ A b) (hi1 : vp_in (i + (1 : Int32)) L) (hop : LwH I N x mm o (f_L_addLine N S z x (xs (i + (1 : Int32)).toNatClampNeg) o) (fun T => f_X7_addLine N T mm (xs (i + (1 : Int32)).toNatClampNeg))) (hthr : ThrOk A s s.heap) (hw : Wd D C A s.heap S z H locs s) (hl : lv_has ls 9 [(4, .int i), (3, .ref o), (2, .ref mm), (1, .ref x), (0, .ref b)]) (hc4 : cells + 4 ≤ 601024) (hs64 : slots + 64 ≤ 7293034)
    (kk : ∀ (S9 : Hp) (z9 : Nat) (H9 : Heap) (locs9 : List Loc) (cs ss : Nat) (ls9 : Array Slot), cs ≤ cells + 4 → ss ≤ slots + 64 → I x mm o S9 → Wd D C A s.heap S9 z9 H9 locs9 s → lv_has ls9 9 [(4, .int i), (3, .ref o), (2, .ref mm), (1, .ref x), (0, .ref b)] → W p l e room_1 s m #[Value.ref b] below meth c H9 locs9 cs ss Q (F0 m 1298 ls9 [])) : W p l e room_1 s m #[Value.ref b] below meth c H locs cells slots Q (F0 m 200 ls []) := by
  obtain ⟨hx, hb, hml, hown, hts⟩ := CF
  obtain ⟨r, S1, v, S2, S3, e1, e2, e3, ok1, ok2, hr0, hI⟩ := hop
  refine lv_aload_n hx hb dL_law_200 rfl (lv_at hl 3 rfl) ?_
  refine lv_aload_n hx hb dL_law_201 rfl (lv_at hl 4 rfl) ?_
  refine lv_iload hx hb dL_law_202 (lv_at hl 0 rfl) ?_
  refine lv_iconst (v := (1 : Int32)) hx hb dL_law_204 (by decide) ?_
  refine lv_iadd hx hb dL_law_205 ?_
  refine va_sld hx hb hX hbl hbA hw.2.2.2.1 hi1 dL_law_206 ?_
  refine lv_aload_n hx hb dL_law_207 rfl (lv_at hl 1 rfl) ?_
  refine wr_ch (vx_runSX (As := [.ref x, .int (xs (i + (1 : Int32)).toNatClampNeg), .ref o]) (rest := []) ⟨hx, hb, hml, hown, hts⟩ (h_L_addLine l hlt D C N S z x (xs (i + (1 : Int32)).toNatClampNeg) o r S1 e1) (vx_cwSW 3 hts gL_law_L_addLine rfl rfl rfl (by decide +kernel) ⟨Nat.le_of_ble_eq_true rfl, Nat.le_of_ble_eq_true rfl⟩) (wd_preST hw hthr) rfl rfl hl.1 rfl (lv_room (Nat.le_of_ble_eq_true rfl)) dL_law_208 ⟨by show _ + 3 ≤ 601024; omega, by show _ + 28 ≤ 7293034; omega⟩) hw (fun z1 H locs hw => ?_)
  refine lv_istore (lv' := [(5, .int r), (4, .int i), (3, .ref o), (2, .ref mm), (1, .ref x), (0, .ref b)]) hx hb dL_law_211 hl (by decide) rfl (fun ls hl => ?_)
  refine lv_aload_n hx hb dL_law_213 rfl (lv_at hl 3 rfl) ?_
  refine lv_aload_n hx hb dL_law_214 rfl (lv_at hl 5 rfl) ?_
  refine lv_iload hx hb dL_law_215 (lv_at hl 1 rfl) ?_
  refine lv_iconst (v := (1 : Int32)) hx hb dL_law_217 (by decide) ?_
  refine lv_iadd hx hb dL_law_218 ?_
  refine va_sld hx hb hX hbl hbA hw.2.2.2.1 hi1 dL_law_219 ?_
  refine wr_ci (va_runV (As := [.int (xs (i + (1 : Int32)).toNatClampNeg)]) (rest := []) ⟨hx, hb, hml, hown, hts⟩ (c_X7_addLine l D C N S1 z1 mm (xs (i + (1 : Int32)).toNatClampNeg) v S2 e2) (cwV 1 hts gL_law_X7_addLine rfl rfl rfl (by decide +kernel) ⟨Nat.le_of_ble_eq_true rfl, Nat.le_of_ble_eq_true rfl⟩) (wd_preV hw ok1 (wF_7 (S := S1) ok1.2) rfl) rfl rfl hl.1 rfl (lv_room (Nat.le_of_ble_eq_true rfl)) dL_law_220 ⟨by show _ + 0 ≤ 601024; omega, by show _ + 0 ≤ 7293034; omega⟩) hw (fun H locs hw => ?_)
  refine lv_istore (lv' := [(6, .int v), (5, .int r), (4, .int i), (3, .ref o), (2, .ref mm), (1, .ref x), (0, .ref b)]) hx hb dL_law_223 hl (by decide) rfl (fun ls hl => ?_)
  refine lv_aload_n hx hb dL_law_225 rfl (lv_at hl 4 rfl) ?_
  refine wr_ci (va_runV (As := []) (rest := []) ⟨hx, hb, hml, hown, hts⟩ (c_X7_thrown l D C N S2 z1 mm r S3 e3) (cwV 0 hts gL_law_X7_thrown rfl rfl rfl (by decide +kernel) ⟨Nat.le_of_ble_eq_true rfl, Nat.le_of_ble_eq_true rfl⟩) (wd_preV hw ok2 (wF_7 (S := S2) ok2.2) rfl) rfl rfl hl.1 rfl (lv_room (Nat.le_of_ble_eq_true rfl)) dL_law_226 ⟨by show _ + 0 ≤ 601024; omega, by show _ + 0 ≤ 7293034; omega⟩) hw (fun H locs hw => ?_)
  refine lv_iload hx hb dL_law_229 (lv_at hl 1 rfl) ?_
  refine lv_icmp_eq (tgt := 236) hx hb dL_law_231 (by decide) (fun _ => ?_) (fun q => absurd rfl q)
  refine lv_iload hx hb dL_law_236 (lv_at hl 1 rfl) ?_
  refine lv_if_ne (tgt := 253) hx hb dL_law_238 (by decide) (fun _ => ?_) (fun q => ?_)
  · refine lv_goto (tgt := 1298) hx hb dL_law_253 (by decide) ?_
    exact kk _ _ H locs _ _ ls (by omega) (by omega) hI hw (lv_sub hl [2, 3, 4, 5, 6] rfl)
  · obtain ⟨ok3, in3, h3⟩ := hr0 q
    refine lv_aload_n hx hb dL_law_241 rfl (lv_at hl 3 rfl) ?_
    refine lv_iconst (v := (0 : Int32)) hx hb dL_law_242 (by decide) ?_
    refine wr_lald hx hb hw ok3 (inb_vp in3) dL_law_243 ?_
    refine lv_iload hx hb dL_law_244 (lv_at hl 0 rfl) ?_
    refine lv_i2l (v := v.toInt64) hx hb dL_law_246 rfl ?_
    refine W.lcmp hx hb dL_law_247 ?_
    refine lv_if_eq (tgt := 253) hx hb dL_law_248 (by decide) (fun _ => ?_) (fun q => absurd ((lg_cmp_eq _ _).mpr h3) q)
    refine lv_goto (tgt := 1298) hx hb dL_law_253 (by decide) ?_
    exact kk _ _ H locs _ _ ls (by omega) (by omega) hI hw (lv_sub hl [2, 3, 4, 5, 6] rfl)
set_option maxHeartbeats 4000000 in
set_option maxRecDepth 100000 in
theorem lwc_2 {p : Program} (l : Launch) (hlt : l.stackTraces = false) {e : Env} {s : State} {m : MethodId} {b : Nat} {below : List Frame} {meth : Method} {c : Code} {D : va_G} {C : C3} {A : Nat → Prop} {L : Nat} {xs : Nat → Int32} {I : Nat → Nat → Nat → Hp → Prop} {N x mm o z : Nat} {S : Hp} {i : Int32} {H : Heap} {locs : List Loc} {cells slots : Nat} {Q : State → Prop} {ls : Array Slot} (CF : CallFix p m c cL_law 9 s #[Value.ref b] wsL_law RL) (hX : va_X b L xs s s.heap) (hbl : b < s.heap.size) (hbA : ¬ A b) (hi1 : vp_in (i + (1 : Int32)) L) (hop : LwH I N x mm o (f_L_removeLine N S z x (xs (i + (1 : Int32)).toNatClampNeg) o) (fun T => f_X7_removeLine N T mm (xs (i + (1 : Int32)).toNatClampNeg))) (hthr : ThrOk A s s.heap) (hw : Wd D C A s.heap S z H locs s) (hl : lv_has ls 9 [(4, .int i), (3, .ref o), (2, .ref mm), (1, .ref x), (0, .ref b)]) (hc4 : cells + 4 ≤ 601024) (hs64 : slots + 64 ≤ 7293034)
    (kk : ∀ (S9 : Hp) (z9 : Nat) (H9 : Heap) (locs9 : List Loc) (cs ss : Nat) (ls9 : Array Slot), cs ≤ cells + 4 → ss ≤ slots + 64 → I x mm o S9 → Wd D C A s.heap S9 z9 H9 locs9 s → lv_has ls9 9 [(4, .int i), (3, .ref o), (2, .ref mm), (1, .ref x), (0, .ref b)] → W p l e room_1 s m #[Value.ref b] below meth c H9 locs9 cs ss Q (F0 m 1298 ls9 [])) : W p l e room_1 s m #[Value.ref b] below meth c H locs cells slots Q (F0 m 256 ls []) := by
  obtain ⟨hx, hb, hml, hown, hts⟩ := CF
  obtain ⟨r, S1, v, S2, S3, e1, e2, e3, ok1, ok2, hr0, hI⟩ := hop
  refine lv_aload_n hx hb dL_law_256 rfl (lv_at hl 3 rfl) ?_
  refine lv_aload_n hx hb dL_law_257 rfl (lv_at hl 4 rfl) ?_
  refine lv_iload hx hb dL_law_258 (lv_at hl 0 rfl) ?_
  refine lv_iconst (v := (1 : Int32)) hx hb dL_law_260 (by decide) ?_
  refine lv_iadd hx hb dL_law_261 ?_
  refine va_sld hx hb hX hbl hbA hw.2.2.2.1 hi1 dL_law_262 ?_
  refine lv_aload_n hx hb dL_law_263 rfl (lv_at hl 1 rfl) ?_
  refine wr_ch (vx_runSX (As := [.ref x, .int (xs (i + (1 : Int32)).toNatClampNeg), .ref o]) (rest := []) ⟨hx, hb, hml, hown, hts⟩ (h_L_removeLine l hlt D C N S z x (xs (i + (1 : Int32)).toNatClampNeg) o r S1 e1) (vx_cwSW 3 hts gL_law_L_removeLine rfl rfl rfl (by decide +kernel) ⟨Nat.le_of_ble_eq_true rfl, Nat.le_of_ble_eq_true rfl⟩) (wd_preST hw hthr) rfl rfl hl.1 rfl (lv_room (Nat.le_of_ble_eq_true rfl)) dL_law_264 ⟨by show _ + 3 ≤ 601024; omega, by show _ + 28 ≤ 7293034; omega⟩) hw (fun z1 H locs hw => ?_)
  refine lv_istore (lv' := [(5, .int r), (4, .int i), (3, .ref o), (2, .ref mm), (1, .ref x), (0, .ref b)]) hx hb dL_law_267 hl (by decide) rfl (fun ls hl => ?_)
  refine lv_aload_n hx hb dL_law_269 rfl (lv_at hl 3 rfl) ?_
  refine lv_aload_n hx hb dL_law_270 rfl (lv_at hl 5 rfl) ?_
  refine lv_iload hx hb dL_law_271 (lv_at hl 1 rfl) ?_
  refine lv_iconst (v := (1 : Int32)) hx hb dL_law_273 (by decide) ?_
  refine lv_iadd hx hb dL_law_274 ?_
  refine va_sld hx hb hX hbl hbA hw.2.2.2.1 hi1 dL_law_275 ?_
  refine wr_ci (va_runV (As := [.int (xs (i + (1 : Int32)).toNatClampNeg)]) (rest := []) ⟨hx, hb, hml, hown, hts⟩ (c_X7_removeLine l D C N S1 z1 mm (xs (i + (1 : Int32)).toNatClampNeg) v S2 e2) (cwV 1 hts gL_law_X7_removeLine rfl rfl rfl (by decide +kernel) ⟨Nat.le_of_ble_eq_true rfl, Nat.le_of_ble_eq_true rfl⟩) (wd_preV hw ok1 (wF_7 (S := S1) ok1.2) rfl) rfl rfl hl.1 rfl (lv_room (Nat.le_of_ble_eq_true rfl)) dL_law_276 ⟨by show _ + 0 ≤ 601024; omega, by show _ + 0 ≤ 7293034; omega⟩) hw (fun H locs hw => ?_)
  refine lv_istore (lv' := [(6, .int v), (5, .int r), (4, .int i), (3, .ref o), (2, .ref mm), (1, .ref x), (0, .ref b)]) hx hb dL_law_279 hl (by decide) rfl (fun ls hl => ?_)
  refine lv_aload_n hx hb dL_law_281 rfl (lv_at hl 4 rfl) ?_
  refine wr_ci (va_runV (As := []) (rest := []) ⟨hx, hb, hml, hown, hts⟩ (c_X7_thrown l D C N S2 z1 mm r S3 e3) (cwV 0 hts gL_law_X7_thrown rfl rfl rfl (by decide +kernel) ⟨Nat.le_of_ble_eq_true rfl, Nat.le_of_ble_eq_true rfl⟩) (wd_preV hw ok2 (wF_7 (S := S2) ok2.2) rfl) rfl rfl hl.1 rfl (lv_room (Nat.le_of_ble_eq_true rfl)) dL_law_282 ⟨by show _ + 0 ≤ 601024; omega, by show _ + 0 ≤ 7293034; omega⟩) hw (fun H locs hw => ?_)
  refine lv_iload hx hb dL_law_285 (lv_at hl 1 rfl) ?_
  refine lv_icmp_eq (tgt := 292) hx hb dL_law_287 (by decide) (fun _ => ?_) (fun q => absurd rfl q)
  refine lv_iload hx hb dL_law_292 (lv_at hl 1 rfl) ?_
  refine lv_if_ne (tgt := 309) hx hb dL_law_294 (by decide) (fun _ => ?_) (fun q => ?_)
  · refine lv_goto (tgt := 1298) hx hb dL_law_309 (by decide) ?_
    exact kk _ _ H locs _ _ ls (by omega) (by omega) hI hw (lv_sub hl [2, 3, 4, 5, 6] rfl)
  · obtain ⟨ok3, in3, h3⟩ := hr0 q
    refine lv_aload_n hx hb dL_law_297 rfl (lv_at hl 3 rfl) ?_
    refine lv_iconst (v := (0 : Int32)) hx hb dL_law_298 (by decide) ?_
    refine wr_lald hx hb hw ok3 (inb_vp in3) dL_law_299 ?_
    refine lv_iload hx hb dL_law_300 (lv_at hl 0 rfl) ?_
    refine lv_i2l (v := v.toInt64) hx hb dL_law_302 rfl ?_
    refine W.lcmp hx hb dL_law_303 ?_
    refine lv_if_eq (tgt := 309) hx hb dL_law_304 (by decide) (fun _ => ?_) (fun q => absurd ((lg_cmp_eq _ _).mpr h3) q)
    refine lv_goto (tgt := 1298) hx hb dL_law_309 (by decide) ?_
    exact kk _ _ H locs _ _ ls (by omega) (by omega) hI hw (lv_sub hl [2, 3, 4, 5, 6] rfl)
set_option maxHeartbeats 4000000 in
set_option maxRecDepth 100000 in
theorem lwc_3 {p : Program} (l : Launch) (hlt : l.stackTraces = false) {e : Env} {s : State} {m : MethodId} {b : Nat} {below : List Frame} {meth : Method} {c : Code} {D : va_G} {C : C3} {A : Nat → Prop} {L : Nat} {xs : Nat → Int32} {I : Nat → Nat → Nat → Hp → Prop} {N x mm o z : Nat} {S : Hp} {i : Int32} {H : Heap} {locs : List Loc} {cells slots : Nat} {Q : State → Prop} {ls : Array Slot} (CF : CallFix p m c cL_law 9 s #[Value.ref b] wsL_law RL) (hX : va_X b L xs s s.heap) (hbl : b < s.heap.size) (hbA : ¬ A b) (hi1 : vp_in (i + (1 : Int32)) L) (hop : ∀ p1 : Int32, isB p1 → ok S x 6 ∧ LwZ I x mm o (f_X6_clear N S z x p1) (fun T => f_X7_clear N T mm p1)) (hthr : ThrOk A s s.heap) (hw : Wd D C A s.heap S z H locs s) (hl : lv_has ls 9 [(4, .int i), (3, .ref o), (2, .ref mm), (1, .ref x), (0, .ref b)]) (hc4 : cells + 4 ≤ 601024) (hs64 : slots + 64 ≤ 7293034)
    (kk : ∀ (S9 : Hp) (z9 : Nat) (H9 : Heap) (locs9 : List Loc) (cs ss : Nat) (ls9 : Array Slot), cs ≤ cells + 4 → ss ≤ slots + 64 → I x mm o S9 → Wd D C A s.heap S9 z9 H9 locs9 s → lv_has ls9 9 [(4, .int i), (3, .ref o), (2, .ref mm), (1, .ref x), (0, .ref b)] → W p l e room_1 s m #[Value.ref b] below meth c H9 locs9 cs ss Q (F0 m 1298 ls9 [])) : W p l e room_1 s m #[Value.ref b] below meth c H locs cells slots Q (F0 m 312 ls []) := by
  obtain ⟨hx, hb, hml, hown, hts⟩ := CF
  obtain ⟨ok0, v, S1, z1, S2, e1, e2, ok1, hI⟩ := hop (if (xs (i + (1 : Int32)).toNatClampNeg) = 0 then 0 else 1) (by by_cases q : (xs (i + (1 : Int32)).toNatClampNeg) = 0 <;> simp [isB, q])
  refine lv_aload_n hx hb dL_law_312 rfl (lv_at hl 3 rfl) ?_
  refine lv_aload_n hx hb dL_law_313 rfl (lv_at hl 4 rfl) ?_
  refine lv_iload hx hb dL_law_314 (lv_at hl 0 rfl) ?_
  refine lv_iconst (v := (1 : Int32)) hx hb dL_law_316 (by decide) ?_
  refine lv_iadd hx hb dL_law_317 ?_
  refine va_sld hx hb hX hbl hbA hw.2.2.2.1 hi1 dL_law_318 ?_
  refine lv_zif (tgt := 326) (pj := 327) hx hb dL_law_319 (by decide) dL_law_322 dL_law_323 (by decide) dL_law_326 (by decide) ?_
  refine wr_ci (va_runV (As := [.int (if (xs (i + (1 : Int32)).toNatClampNeg) = 0 then (0 : Int32) else 1)]) (rest := []) ⟨hx, hb, hml, hown, hts⟩ (c_X6_clear l D C N S z x (if (xs (i + (1 : Int32)).toNatClampNeg) = 0 then (0 : Int32) else 1) v S1 z1 e1) (cwV 1 hts gL_law_X6_clear rfl rfl rfl (by decide +kernel) ⟨Nat.le_of_ble_eq_true rfl, Nat.le_of_ble_eq_true rfl⟩) (wd_preV hw ok0 (wF_6 (S := S) ok0.2) rfl) rfl rfl hl.1 rfl (lv_room (Nat.le_of_ble_eq_true rfl)) dL_law_327 ⟨by show _ + 3 ≤ 601024; omega, by show _ + 28 ≤ 7293034; omega⟩) hw (fun H locs hw => ?_)
  refine lv_aload_n hx hb dL_law_330 rfl (lv_at hl 2 rfl) ?_
  refine lv_aload_n hx hb dL_law_331 rfl (lv_at hl 4 rfl) ?_
  refine lv_iload hx hb dL_law_332 (lv_at hl 0 rfl) ?_
  refine lv_iconst (v := (1 : Int32)) hx hb dL_law_334 (by decide) ?_
  refine lv_iadd hx hb dL_law_335 ?_
  refine va_sld hx hb hX hbl hbA hw.2.2.2.1 hi1 dL_law_336 ?_
  refine lv_zif (tgt := 344) (pj := 345) hx hb dL_law_337 (by decide) dL_law_340 dL_law_341 (by decide) dL_law_344 (by decide) ?_
  refine wr_ci (va_runV (As := [.int (if (xs (i + (1 : Int32)).toNatClampNeg) = 0 then (0 : Int32) else 1)]) (rest := [.int v]) ⟨hx, hb, hml, hown, hts⟩ (c_X7_clear l D C N S1 z1 mm (if (xs (i + (1 : Int32)).toNatClampNeg) = 0 then (0 : Int32) else 1) v S2 e2) (cwV 1 hts gL_law_X7_clear rfl rfl rfl (by decide +kernel) ⟨Nat.le_of_ble_eq_true rfl, Nat.le_of_ble_eq_true rfl⟩) (wd_preV hw ok1 (wF_7 (S := S1) ok1.2) rfl) rfl rfl hl.1 rfl (lv_room (Nat.le_of_ble_eq_true rfl)) dL_law_345 ⟨by show _ + 0 ≤ 601024; omega, by show _ + 0 ≤ 7293034; omega⟩) hw (fun H locs hw => ?_)
  refine lv_icmp_eq (tgt := 1298) hx hb dL_law_348 (by decide) (fun _ => ?_) (fun q => absurd rfl q)
  exact kk _ _ H locs _ _ ls (by omega) (by omega) hI hw (lv_sub hl [0, 1, 2, 3, 4] rfl)
set_option maxHeartbeats 4000000 in
set_option maxRecDepth 100000 in
theorem lwc_4 {p : Program} (l : Launch) (hlt : l.stackTraces = false) {e : Env} {s : State} {m : MethodId} {b : Nat} {below : List Frame} {meth : Method} {c : Code} {D : va_G} {C : C3} {A : Nat → Prop} {L : Nat} {xs : Nat → Int32} {I : Nat → Nat → Nat → Hp → Prop} {N x mm o z : Nat} {S : Hp} {i : Int32} {H : Heap} {locs : List Loc} {cells slots : Nat} {Q : State → Prop} {ls : Array Slot} (CF : CallFix p m c cL_law 9 s #[Value.ref b] wsL_law RL) (hX : va_X b L xs s s.heap) (hbl : b < s.heap.size) (hbA : ¬ A b) (hi1 : vp_in (i + (1 : Int32)) L) (hop : LwH I N x mm o (f_L_move N S z x (xs (i + (1 : Int32)).toNatClampNeg) o) (fun T => f_X7_move N T mm (xs (i + (1 : Int32)).toNatClampNeg))) (hthr : ThrOk A s s.heap) (hw : Wd D C A s.heap S z H locs s) (hl : lv_has ls 9 [(4, .int i), (3, .ref o), (2, .ref mm), (1, .ref x), (0, .ref b)]) (hc4 : cells + 4 ≤ 601024) (hs64 : slots + 64 ≤ 7293034)
    (kk : ∀ (S9 : Hp) (z9 : Nat) (H9 : Heap) (locs9 : List Loc) (cs ss : Nat) (ls9 : Array Slot), cs ≤ cells + 4 → ss ≤ slots + 64 → I x mm o S9 → Wd D C A s.heap S9 z9 H9 locs9 s → lv_has ls9 9 [(4, .int i), (3, .ref o), (2, .ref mm), (1, .ref x), (0, .ref b)] → W p l e room_1 s m #[Value.ref b] below meth c H9 locs9 cs ss Q (F0 m 1298 ls9 [])) : W p l e room_1 s m #[Value.ref b] below meth c H locs cells slots Q (F0 m 353 ls []) := by
  obtain ⟨hx, hb, hml, hown, hts⟩ := CF
  obtain ⟨r, S1, v, S2, S3, e1, e2, e3, ok1, ok2, hr0, hI⟩ := hop
  refine lv_aload_n hx hb dL_law_353 rfl (lv_at hl 3 rfl) ?_
  refine lv_aload_n hx hb dL_law_354 rfl (lv_at hl 4 rfl) ?_
  refine lv_iload hx hb dL_law_355 (lv_at hl 0 rfl) ?_
  refine lv_iconst (v := (1 : Int32)) hx hb dL_law_357 (by decide) ?_
  refine lv_iadd hx hb dL_law_358 ?_
  refine va_sld hx hb hX hbl hbA hw.2.2.2.1 hi1 dL_law_359 ?_
  refine lv_aload_n hx hb dL_law_360 rfl (lv_at hl 1 rfl) ?_
  refine wr_ch (vx_runSX (As := [.ref x, .int (xs (i + (1 : Int32)).toNatClampNeg), .ref o]) (rest := []) ⟨hx, hb, hml, hown, hts⟩ (h_L_move l hlt D C N S z x (xs (i + (1 : Int32)).toNatClampNeg) o r S1 e1) (vx_cwSW 3 hts gL_law_L_move rfl rfl rfl (by decide +kernel) ⟨Nat.le_of_ble_eq_true rfl, Nat.le_of_ble_eq_true rfl⟩) (wd_preST hw hthr) rfl rfl hl.1 rfl (lv_room (Nat.le_of_ble_eq_true rfl)) dL_law_361 ⟨by show _ + 3 ≤ 601024; omega, by show _ + 28 ≤ 7293034; omega⟩) hw (fun z1 H locs hw => ?_)
  refine lv_istore (lv' := [(5, .int r), (4, .int i), (3, .ref o), (2, .ref mm), (1, .ref x), (0, .ref b)]) hx hb dL_law_364 hl (by decide) rfl (fun ls hl => ?_)
  refine lv_aload_n hx hb dL_law_366 rfl (lv_at hl 3 rfl) ?_
  refine lv_aload_n hx hb dL_law_367 rfl (lv_at hl 5 rfl) ?_
  refine lv_iload hx hb dL_law_368 (lv_at hl 1 rfl) ?_
  refine lv_iconst (v := (1 : Int32)) hx hb dL_law_370 (by decide) ?_
  refine lv_iadd hx hb dL_law_371 ?_
  refine va_sld hx hb hX hbl hbA hw.2.2.2.1 hi1 dL_law_372 ?_
  refine wr_ci (va_runV (As := [.int (xs (i + (1 : Int32)).toNatClampNeg)]) (rest := []) ⟨hx, hb, hml, hown, hts⟩ (c_X7_move l D C N S1 z1 mm (xs (i + (1 : Int32)).toNatClampNeg) v S2 e2) (cwV 1 hts gL_law_X7_move rfl rfl rfl (by decide +kernel) ⟨Nat.le_of_ble_eq_true rfl, Nat.le_of_ble_eq_true rfl⟩) (wd_preV hw ok1 (wF_7 (S := S1) ok1.2) rfl) rfl rfl hl.1 rfl (lv_room (Nat.le_of_ble_eq_true rfl)) dL_law_373 ⟨by show _ + 0 ≤ 601024; omega, by show _ + 0 ≤ 7293034; omega⟩) hw (fun H locs hw => ?_)
  refine lv_istore (lv' := [(6, .int v), (5, .int r), (4, .int i), (3, .ref o), (2, .ref mm), (1, .ref x), (0, .ref b)]) hx hb dL_law_376 hl (by decide) rfl (fun ls hl => ?_)
  refine lv_aload_n hx hb dL_law_378 rfl (lv_at hl 4 rfl) ?_
  refine wr_ci (va_runV (As := []) (rest := []) ⟨hx, hb, hml, hown, hts⟩ (c_X7_thrown l D C N S2 z1 mm r S3 e3) (cwV 0 hts gL_law_X7_thrown rfl rfl rfl (by decide +kernel) ⟨Nat.le_of_ble_eq_true rfl, Nat.le_of_ble_eq_true rfl⟩) (wd_preV hw ok2 (wF_7 (S := S2) ok2.2) rfl) rfl rfl hl.1 rfl (lv_room (Nat.le_of_ble_eq_true rfl)) dL_law_379 ⟨by show _ + 0 ≤ 601024; omega, by show _ + 0 ≤ 7293034; omega⟩) hw (fun H locs hw => ?_)
  refine lv_iload hx hb dL_law_382 (lv_at hl 1 rfl) ?_
  refine lv_icmp_eq (tgt := 389) hx hb dL_law_384 (by decide) (fun _ => ?_) (fun q => absurd rfl q)
  refine lv_iload hx hb dL_law_389 (lv_at hl 1 rfl) ?_
  refine lv_if_ne (tgt := 406) hx hb dL_law_391 (by decide) (fun _ => ?_) (fun q => ?_)
  · refine lv_goto (tgt := 1298) hx hb dL_law_406 (by decide) ?_
    exact kk _ _ H locs _ _ ls (by omega) (by omega) hI hw (lv_sub hl [2, 3, 4, 5, 6] rfl)
  · obtain ⟨ok3, in3, h3⟩ := hr0 q
    refine lv_aload_n hx hb dL_law_394 rfl (lv_at hl 3 rfl) ?_
    refine lv_iconst (v := (0 : Int32)) hx hb dL_law_395 (by decide) ?_
    refine wr_lald hx hb hw ok3 (inb_vp in3) dL_law_396 ?_
    refine lv_iload hx hb dL_law_397 (lv_at hl 0 rfl) ?_
    refine lv_i2l (v := v.toInt64) hx hb dL_law_399 rfl ?_
    refine W.lcmp hx hb dL_law_400 ?_
    refine lv_if_eq (tgt := 406) hx hb dL_law_401 (by decide) (fun _ => ?_) (fun q => absurd ((lg_cmp_eq _ _).mpr h3) q)
    refine lv_goto (tgt := 1298) hx hb dL_law_406 (by decide) ?_
    exact kk _ _ H locs _ _ ls (by omega) (by omega) hI hw (lv_sub hl [2, 3, 4, 5, 6] rfl)
set_option maxHeartbeats 4000000 in
set_option maxRecDepth 100000 in
theorem lwc_5 {p : Program} (l : Launch) (hlt : l.stackTraces = false) {e : Env} {s : State} {m : MethodId} {b : Nat} {below : List Frame} {meth : Method} {c : Code} {D : va_G} {C : C3} {A : Nat → Prop} {L : Nat} {xs : Nat → Int32} {I : Nat → Nat → Nat → Hp → Prop} {N x mm o z : Nat} {S : Hp} {i : Int32} {H : Heap} {locs : List Loc} {cells slots : Nat} {Q : State → Prop} {ls : Array Slot} (CF : CallFix p m c cL_law 9 s #[Value.ref b] wsL_law RL) (hX : va_X b L xs s s.heap) (hbl : b < s.heap.size) (hbA : ¬ A b) (hop : LwH I N x mm o (f_L_skip N S z x o) (fun T => f_X7_skip N T mm)) (hthr : ThrOk A s s.heap) (hw : Wd D C A s.heap S z H locs s) (hl : lv_has ls 9 [(4, .int i), (3, .ref o), (2, .ref mm), (1, .ref x), (0, .ref b)]) (hc4 : cells + 4 ≤ 601024) (hs64 : slots + 64 ≤ 7293034)
    (kk : ∀ (S9 : Hp) (z9 : Nat) (H9 : Heap) (locs9 : List Loc) (cs ss : Nat) (ls9 : Array Slot), cs ≤ cells + 4 → ss ≤ slots + 64 → I x mm o S9 → Wd D C A s.heap S9 z9 H9 locs9 s → lv_has ls9 9 [(4, .int i), (3, .ref o), (2, .ref mm), (1, .ref x), (0, .ref b)] → W p l e room_1 s m #[Value.ref b] below meth c H9 locs9 cs ss Q (F0 m 1298 ls9 [])) : W p l e room_1 s m #[Value.ref b] below meth c H locs cells slots Q (F0 m 409 ls []) := by
  obtain ⟨hx, hb, hml, hown, hts⟩ := CF
  obtain ⟨r, S1, v, S2, S3, e1, e2, e3, ok1, ok2, hr0, hI⟩ := hop
  refine lv_aload_n hx hb dL_law_409 rfl (lv_at hl 3 rfl) ?_
  refine lv_aload_n hx hb dL_law_410 rfl (lv_at hl 1 rfl) ?_
  refine wr_ch (vx_runSX (As := [.ref x, .ref o]) (rest := []) ⟨hx, hb, hml, hown, hts⟩ (h_L_skip l hlt D C N S z x o r S1 e1) (vx_cwSW 2 hts gL_law_L_skip rfl rfl rfl (by decide +kernel) ⟨Nat.le_of_ble_eq_true rfl, Nat.le_of_ble_eq_true rfl⟩) (wd_preST hw hthr) rfl rfl hl.1 rfl (lv_room (Nat.le_of_ble_eq_true rfl)) dL_law_411 ⟨by show _ + 3 ≤ 601024; omega, by show _ + 28 ≤ 7293034; omega⟩) hw (fun z1 H locs hw => ?_)
  refine lv_istore (lv' := [(5, .int r), (4, .int i), (3, .ref o), (2, .ref mm), (1, .ref x), (0, .ref b)]) hx hb dL_law_414 hl (by decide) rfl (fun ls hl => ?_)
  refine lv_aload_n hx hb dL_law_416 rfl (lv_at hl 3 rfl) ?_
  refine wr_ci (va_runV (As := []) (rest := []) ⟨hx, hb, hml, hown, hts⟩ (c_X7_skip l D C N S1 z1 mm v S2 e2) (cwV 0 hts gL_law_X7_skip rfl rfl rfl (by decide +kernel) ⟨Nat.le_of_ble_eq_true rfl, Nat.le_of_ble_eq_true rfl⟩) (wd_preV hw ok1 (wF_7 (S := S1) ok1.2) rfl) rfl rfl hl.1 rfl (lv_room (Nat.le_of_ble_eq_true rfl)) dL_law_417 ⟨by show _ + 0 ≤ 601024; omega, by show _ + 0 ≤ 7293034; omega⟩) hw (fun H locs hw => ?_)
  refine lv_istore (lv' := [(6, .int v), (5, .int r), (4, .int i), (3, .ref o), (2, .ref mm), (1, .ref x), (0, .ref b)]) hx hb dL_law_420 hl (by decide) rfl (fun ls hl => ?_)
  refine lv_aload_n hx hb dL_law_422 rfl (lv_at hl 4 rfl) ?_
  refine wr_ci (va_runV (As := []) (rest := []) ⟨hx, hb, hml, hown, hts⟩ (c_X7_thrown l D C N S2 z1 mm r S3 e3) (cwV 0 hts gL_law_X7_thrown rfl rfl rfl (by decide +kernel) ⟨Nat.le_of_ble_eq_true rfl, Nat.le_of_ble_eq_true rfl⟩) (wd_preV hw ok2 (wF_7 (S := S2) ok2.2) rfl) rfl rfl hl.1 rfl (lv_room (Nat.le_of_ble_eq_true rfl)) dL_law_423 ⟨by show _ + 0 ≤ 601024; omega, by show _ + 0 ≤ 7293034; omega⟩) hw (fun H locs hw => ?_)
  refine lv_iload hx hb dL_law_426 (lv_at hl 1 rfl) ?_
  refine lv_icmp_eq (tgt := 433) hx hb dL_law_428 (by decide) (fun _ => ?_) (fun q => absurd rfl q)
  refine lv_iload hx hb dL_law_433 (lv_at hl 1 rfl) ?_
  refine lv_if_ne (tgt := 450) hx hb dL_law_435 (by decide) (fun _ => ?_) (fun q => ?_)
  · refine lv_goto (tgt := 1298) hx hb dL_law_450 (by decide) ?_
    exact kk _ _ H locs _ _ ls (by omega) (by omega) hI hw (lv_sub hl [2, 3, 4, 5, 6] rfl)
  · obtain ⟨ok3, in3, h3⟩ := hr0 q
    refine lv_aload_n hx hb dL_law_438 rfl (lv_at hl 3 rfl) ?_
    refine lv_iconst (v := (0 : Int32)) hx hb dL_law_439 (by decide) ?_
    refine wr_lald hx hb hw ok3 (inb_vp in3) dL_law_440 ?_
    refine lv_iload hx hb dL_law_441 (lv_at hl 0 rfl) ?_
    refine lv_i2l (v := v.toInt64) hx hb dL_law_443 rfl ?_
    refine W.lcmp hx hb dL_law_444 ?_
    refine lv_if_eq (tgt := 450) hx hb dL_law_445 (by decide) (fun _ => ?_) (fun q => absurd ((lg_cmp_eq _ _).mpr h3) q)
    refine lv_goto (tgt := 1298) hx hb dL_law_450 (by decide) ?_
    exact kk _ _ H locs _ _ ls (by omega) (by omega) hI hw (lv_sub hl [2, 3, 4, 5, 6] rfl)
set_option maxHeartbeats 4000000 in
set_option maxRecDepth 100000 in
theorem lwc_6 {p : Program} (l : Launch) (hlt : l.stackTraces = false) {e : Env} {s : State} {m : MethodId} {b : Nat} {below : List Frame} {meth : Method} {c : Code} {D : va_G} {C : C3} {A : Nat → Prop} {L : Nat} {xs : Nat → Int32} {I : Nat → Nat → Nat → Hp → Prop} {N x mm o z : Nat} {S : Hp} {i : Int32} {H : Heap} {locs : List Loc} {cells slots : Nat} {Q : State → Prop} {ls : Array Slot} (CF : CallFix p m c cL_law 9 s #[Value.ref b] wsL_law RL) (hX : va_X b L xs s s.heap) (hbl : b < s.heap.size) (hbA : ¬ A b) (hi1 : vp_in (i + (1 : Int32)) L) (hi2 : vp_in (i + (2 : Int32)) L) (hi3 : vp_in (i + (3 : Int32)) L) (hop : LwH I N x mm o (f_L_play N S z x (xs (i + (1 : Int32)).toNatClampNeg) (xs (i + (2 : Int32)).toNatClampNeg) (xs (i + (3 : Int32)).toNatClampNeg) o) (fun T => f_X7_play N T mm (xs (i + (1 : Int32)).toNatClampNeg) (xs (i + (2 : Int32)).toNatClampNeg) (xs (i + (3 : Int32)).toNatClampNeg))) (hthr : ThrOk A s s.heap) (hw : Wd D C A s.heap S z H locs s) (hl : lv_has ls 9 [(4, .int i), (3, .ref o), (2, .ref mm), (1, .ref x), (0, .ref b)]) (hc4 : cells + 4 ≤ 601024) (hs64 : slots + 64 ≤ 7293034)
    (kk : ∀ (S9 : Hp) (z9 : Nat) (H9 : Heap) (locs9 : List Loc) (cs ss : Nat) (ls9 : Array Slot), cs ≤ cells + 4 → ss ≤ slots + 64 → I x mm o S9 → Wd D C A s.heap S9 z9 H9 locs9 s → lv_has ls9 9 [(4, .int i), (3, .ref o), (2, .ref mm), (1, .ref x), (0, .ref b)] → W p l e room_1 s m #[Value.ref b] below meth c H9 locs9 cs ss Q (F0 m 1298 ls9 [])) : W p l e room_1 s m #[Value.ref b] below meth c H locs cells slots Q (F0 m 453 ls []) := by
  obtain ⟨hx, hb, hml, hown, hts⟩ := CF
  obtain ⟨r, S1, v, S2, S3, e1, e2, e3, ok1, ok2, hr0, hI⟩ := hop
  refine lv_aload_n hx hb dL_law_453 rfl (lv_at hl 3 rfl) ?_
  refine lv_aload_n hx hb dL_law_454 rfl (lv_at hl 4 rfl) ?_
  refine lv_iload hx hb dL_law_455 (lv_at hl 0 rfl) ?_
  refine lv_iconst (v := (1 : Int32)) hx hb dL_law_457 (by decide) ?_
  refine lv_iadd hx hb dL_law_458 ?_
  refine va_sld hx hb hX hbl hbA hw.2.2.2.1 hi1 dL_law_459 ?_
  refine lv_aload_n hx hb dL_law_460 rfl (lv_at hl 4 rfl) ?_
  refine lv_iload hx hb dL_law_461 (lv_at hl 0 rfl) ?_
  refine lv_iconst (v := (2 : Int32)) hx hb dL_law_463 (by decide) ?_
  refine lv_iadd hx hb dL_law_464 ?_
  refine va_sld hx hb hX hbl hbA hw.2.2.2.1 hi2 dL_law_465 ?_
  refine lv_aload_n hx hb dL_law_466 rfl (lv_at hl 4 rfl) ?_
  refine lv_iload hx hb dL_law_467 (lv_at hl 0 rfl) ?_
  refine lv_iconst (v := (3 : Int32)) hx hb dL_law_469 (by decide) ?_
  refine lv_iadd hx hb dL_law_470 ?_
  refine va_sld hx hb hX hbl hbA hw.2.2.2.1 hi3 dL_law_471 ?_
  refine lv_aload_n hx hb dL_law_472 rfl (lv_at hl 1 rfl) ?_
  refine wr_ch (vx_runSX (As := [.ref x, .int (xs (i + (1 : Int32)).toNatClampNeg), .int (xs (i + (2 : Int32)).toNatClampNeg), .int (xs (i + (3 : Int32)).toNatClampNeg), .ref o]) (rest := []) ⟨hx, hb, hml, hown, hts⟩ (h_L_play l hlt D C N S z x (xs (i + (1 : Int32)).toNatClampNeg) (xs (i + (2 : Int32)).toNatClampNeg) (xs (i + (3 : Int32)).toNatClampNeg) o r S1 e1) (vx_cwSW 5 hts gL_law_L_play rfl rfl rfl (by decide +kernel) ⟨Nat.le_of_ble_eq_true rfl, Nat.le_of_ble_eq_true rfl⟩) (wd_preST hw hthr) rfl rfl hl.1 rfl (lv_room (Nat.le_of_ble_eq_true rfl)) dL_law_473 ⟨by show _ + 3 ≤ 601024; omega, by show _ + 28 ≤ 7293034; omega⟩) hw (fun z1 H locs hw => ?_)
  refine lv_istore (lv' := [(5, .int r), (4, .int i), (3, .ref o), (2, .ref mm), (1, .ref x), (0, .ref b)]) hx hb dL_law_476 hl (by decide) rfl (fun ls hl => ?_)
  refine lv_aload_n hx hb dL_law_478 rfl (lv_at hl 3 rfl) ?_
  refine lv_aload_n hx hb dL_law_479 rfl (lv_at hl 5 rfl) ?_
  refine lv_iload hx hb dL_law_480 (lv_at hl 1 rfl) ?_
  refine lv_iconst (v := (1 : Int32)) hx hb dL_law_482 (by decide) ?_
  refine lv_iadd hx hb dL_law_483 ?_
  refine va_sld hx hb hX hbl hbA hw.2.2.2.1 hi1 dL_law_484 ?_
  refine lv_aload_n hx hb dL_law_485 rfl (lv_at hl 5 rfl) ?_
  refine lv_iload hx hb dL_law_486 (lv_at hl 1 rfl) ?_
  refine lv_iconst (v := (2 : Int32)) hx hb dL_law_488 (by decide) ?_
  refine lv_iadd hx hb dL_law_489 ?_
  refine va_sld hx hb hX hbl hbA hw.2.2.2.1 hi2 dL_law_490 ?_
  refine lv_aload_n hx hb dL_law_491 rfl (lv_at hl 5 rfl) ?_
  refine lv_iload hx hb dL_law_492 (lv_at hl 1 rfl) ?_
  refine lv_iconst (v := (3 : Int32)) hx hb dL_law_494 (by decide) ?_
  refine lv_iadd hx hb dL_law_495 ?_
  refine va_sld hx hb hX hbl hbA hw.2.2.2.1 hi3 dL_law_496 ?_
  refine wr_ci (va_runV (As := [.int (xs (i + (1 : Int32)).toNatClampNeg), .int (xs (i + (2 : Int32)).toNatClampNeg), .int (xs (i + (3 : Int32)).toNatClampNeg)]) (rest := []) ⟨hx, hb, hml, hown, hts⟩ (c_X7_play l D C N S1 z1 mm (xs (i + (1 : Int32)).toNatClampNeg) (xs (i + (2 : Int32)).toNatClampNeg) (xs (i + (3 : Int32)).toNatClampNeg) v S2 e2) (cwV 3 hts gL_law_X7_play rfl rfl rfl (by decide +kernel) ⟨Nat.le_of_ble_eq_true rfl, Nat.le_of_ble_eq_true rfl⟩) (wd_preV hw ok1 (wF_7 (S := S1) ok1.2) rfl) rfl rfl hl.1 rfl (lv_room (Nat.le_of_ble_eq_true rfl)) dL_law_497 ⟨by show _ + 0 ≤ 601024; omega, by show _ + 0 ≤ 7293034; omega⟩) hw (fun H locs hw => ?_)
  refine lv_istore (lv' := [(6, .int v), (5, .int r), (4, .int i), (3, .ref o), (2, .ref mm), (1, .ref x), (0, .ref b)]) hx hb dL_law_500 hl (by decide) rfl (fun ls hl => ?_)
  refine lv_aload_n hx hb dL_law_502 rfl (lv_at hl 4 rfl) ?_
  refine wr_ci (va_runV (As := []) (rest := []) ⟨hx, hb, hml, hown, hts⟩ (c_X7_thrown l D C N S2 z1 mm r S3 e3) (cwV 0 hts gL_law_X7_thrown rfl rfl rfl (by decide +kernel) ⟨Nat.le_of_ble_eq_true rfl, Nat.le_of_ble_eq_true rfl⟩) (wd_preV hw ok2 (wF_7 (S := S2) ok2.2) rfl) rfl rfl hl.1 rfl (lv_room (Nat.le_of_ble_eq_true rfl)) dL_law_503 ⟨by show _ + 0 ≤ 601024; omega, by show _ + 0 ≤ 7293034; omega⟩) hw (fun H locs hw => ?_)
  refine lv_iload hx hb dL_law_506 (lv_at hl 1 rfl) ?_
  refine lv_icmp_eq (tgt := 513) hx hb dL_law_508 (by decide) (fun _ => ?_) (fun q => absurd rfl q)
  refine lv_iload hx hb dL_law_513 (lv_at hl 1 rfl) ?_
  refine lv_if_ne (tgt := 530) hx hb dL_law_515 (by decide) (fun _ => ?_) (fun q => ?_)
  · refine lv_goto (tgt := 1298) hx hb dL_law_530 (by decide) ?_
    exact kk _ _ H locs _ _ ls (by omega) (by omega) hI hw (lv_sub hl [2, 3, 4, 5, 6] rfl)
  · obtain ⟨ok3, in3, h3⟩ := hr0 q
    refine lv_aload_n hx hb dL_law_518 rfl (lv_at hl 3 rfl) ?_
    refine lv_iconst (v := (0 : Int32)) hx hb dL_law_519 (by decide) ?_
    refine wr_lald hx hb hw ok3 (inb_vp in3) dL_law_520 ?_
    refine lv_iload hx hb dL_law_521 (lv_at hl 0 rfl) ?_
    refine lv_i2l (v := v.toInt64) hx hb dL_law_523 rfl ?_
    refine W.lcmp hx hb dL_law_524 ?_
    refine lv_if_eq (tgt := 530) hx hb dL_law_525 (by decide) (fun _ => ?_) (fun q => absurd ((lg_cmp_eq _ _).mpr h3) q)
    refine lv_goto (tgt := 1298) hx hb dL_law_530 (by decide) ?_
    exact kk _ _ H locs _ _ ls (by omega) (by omega) hI hw (lv_sub hl [2, 3, 4, 5, 6] rfl)
set_option maxHeartbeats 4000000 in
set_option maxRecDepth 100000 in
theorem lwc_7 {p : Program} (l : Launch) (hlt : l.stackTraces = false) {e : Env} {s : State} {m : MethodId} {b : Nat} {below : List Frame} {meth : Method} {c : Code} {D : va_G} {C : C3} {A : Nat → Prop} {L : Nat} {xs : Nat → Int32} {I : Nat → Nat → Nat → Hp → Prop} {N x mm o z : Nat} {S : Hp} {i : Int32} {H : Heap} {locs : List Loc} {cells slots : Nat} {Q : State → Prop} {ls : Array Slot} (CF : CallFix p m c cL_law 9 s #[Value.ref b] wsL_law RL) (hX : va_X b L xs s s.heap) (hbl : b < s.heap.size) (hbA : ¬ A b) (hi1 : vp_in (i + (1 : Int32)) L) (hop : LwH I N x mm o (f_L_append N S z x (xs (i + (1 : Int32)).toNatClampNeg) o) (fun T => f_X7_append N T mm (xs (i + (1 : Int32)).toNatClampNeg))) (hthr : ThrOk A s s.heap) (hw : Wd D C A s.heap S z H locs s) (hl : lv_has ls 9 [(4, .int i), (3, .ref o), (2, .ref mm), (1, .ref x), (0, .ref b)]) (hc4 : cells + 4 ≤ 601024) (hs64 : slots + 64 ≤ 7293034)
    (kk : ∀ (S9 : Hp) (z9 : Nat) (H9 : Heap) (locs9 : List Loc) (cs ss : Nat) (ls9 : Array Slot), cs ≤ cells + 4 → ss ≤ slots + 64 → I x mm o S9 → Wd D C A s.heap S9 z9 H9 locs9 s → lv_has ls9 9 [(4, .int i), (3, .ref o), (2, .ref mm), (1, .ref x), (0, .ref b)] → W p l e room_1 s m #[Value.ref b] below meth c H9 locs9 cs ss Q (F0 m 1298 ls9 [])) : W p l e room_1 s m #[Value.ref b] below meth c H locs cells slots Q (F0 m 533 ls []) := by
  obtain ⟨hx, hb, hml, hown, hts⟩ := CF
  obtain ⟨r, S1, v, S2, S3, e1, e2, e3, ok1, ok2, hr0, hI⟩ := hop
  refine lv_aload_n hx hb dL_law_533 rfl (lv_at hl 3 rfl) ?_
  refine lv_aload_n hx hb dL_law_534 rfl (lv_at hl 4 rfl) ?_
  refine lv_iload hx hb dL_law_535 (lv_at hl 0 rfl) ?_
  refine lv_iconst (v := (1 : Int32)) hx hb dL_law_537 (by decide) ?_
  refine lv_iadd hx hb dL_law_538 ?_
  refine va_sld hx hb hX hbl hbA hw.2.2.2.1 hi1 dL_law_539 ?_
  refine lv_aload_n hx hb dL_law_540 rfl (lv_at hl 1 rfl) ?_
  refine wr_ch (vx_runSX (As := [.ref x, .int (xs (i + (1 : Int32)).toNatClampNeg), .ref o]) (rest := []) ⟨hx, hb, hml, hown, hts⟩ (h_L_append l hlt D C N S z x (xs (i + (1 : Int32)).toNatClampNeg) o r S1 e1) (vx_cwSW 3 hts gL_law_L_append rfl rfl rfl (by decide +kernel) ⟨Nat.le_of_ble_eq_true rfl, Nat.le_of_ble_eq_true rfl⟩) (wd_preST hw hthr) rfl rfl hl.1 rfl (lv_room (Nat.le_of_ble_eq_true rfl)) dL_law_541 ⟨by show _ + 1 ≤ 601024; omega, by show _ + 6 ≤ 7293034; omega⟩) hw (fun z1 H locs hw => ?_)
  refine lv_istore (lv' := [(5, .int r), (4, .int i), (3, .ref o), (2, .ref mm), (1, .ref x), (0, .ref b)]) hx hb dL_law_544 hl (by decide) rfl (fun ls hl => ?_)
  refine lv_aload_n hx hb dL_law_546 rfl (lv_at hl 3 rfl) ?_
  refine lv_aload_n hx hb dL_law_547 rfl (lv_at hl 5 rfl) ?_
  refine lv_iload hx hb dL_law_548 (lv_at hl 1 rfl) ?_
  refine lv_iconst (v := (1 : Int32)) hx hb dL_law_550 (by decide) ?_
  refine lv_iadd hx hb dL_law_551 ?_
  refine va_sld hx hb hX hbl hbA hw.2.2.2.1 hi1 dL_law_552 ?_
  refine wr_ci (va_runV (As := [.int (xs (i + (1 : Int32)).toNatClampNeg)]) (rest := []) ⟨hx, hb, hml, hown, hts⟩ (c_X7_append l D C N S1 z1 mm (xs (i + (1 : Int32)).toNatClampNeg) v S2 e2) (cwV 1 hts gL_law_X7_append rfl rfl rfl (by decide +kernel) ⟨Nat.le_of_ble_eq_true rfl, Nat.le_of_ble_eq_true rfl⟩) (wd_preV hw ok1 (wF_7 (S := S1) ok1.2) rfl) rfl rfl hl.1 rfl (lv_room (Nat.le_of_ble_eq_true rfl)) dL_law_553 ⟨by show _ + 0 ≤ 601024; omega, by show _ + 0 ≤ 7293034; omega⟩) hw (fun H locs hw => ?_)
  refine lv_istore (lv' := [(6, .int v), (5, .int r), (4, .int i), (3, .ref o), (2, .ref mm), (1, .ref x), (0, .ref b)]) hx hb dL_law_556 hl (by decide) rfl (fun ls hl => ?_)
  refine lv_aload_n hx hb dL_law_558 rfl (lv_at hl 4 rfl) ?_
  refine wr_ci (va_runV (As := []) (rest := []) ⟨hx, hb, hml, hown, hts⟩ (c_X7_thrown l D C N S2 z1 mm r S3 e3) (cwV 0 hts gL_law_X7_thrown rfl rfl rfl (by decide +kernel) ⟨Nat.le_of_ble_eq_true rfl, Nat.le_of_ble_eq_true rfl⟩) (wd_preV hw ok2 (wF_7 (S := S2) ok2.2) rfl) rfl rfl hl.1 rfl (lv_room (Nat.le_of_ble_eq_true rfl)) dL_law_559 ⟨by show _ + 0 ≤ 601024; omega, by show _ + 0 ≤ 7293034; omega⟩) hw (fun H locs hw => ?_)
  refine lv_iload hx hb dL_law_562 (lv_at hl 1 rfl) ?_
  refine lv_icmp_eq (tgt := 569) hx hb dL_law_564 (by decide) (fun _ => ?_) (fun q => absurd rfl q)
  refine lv_iload hx hb dL_law_569 (lv_at hl 1 rfl) ?_
  refine lv_if_ne (tgt := 586) hx hb dL_law_571 (by decide) (fun _ => ?_) (fun q => ?_)
  · refine lv_goto (tgt := 1298) hx hb dL_law_586 (by decide) ?_
    exact kk _ _ H locs _ _ ls (by omega) (by omega) hI hw (lv_sub hl [2, 3, 4, 5, 6] rfl)
  · obtain ⟨ok3, in3, h3⟩ := hr0 q
    refine lv_aload_n hx hb dL_law_574 rfl (lv_at hl 3 rfl) ?_
    refine lv_iconst (v := (0 : Int32)) hx hb dL_law_575 (by decide) ?_
    refine wr_lald hx hb hw ok3 (inb_vp in3) dL_law_576 ?_
    refine lv_iload hx hb dL_law_577 (lv_at hl 0 rfl) ?_
    refine lv_i2l (v := v.toInt64) hx hb dL_law_579 rfl ?_
    refine W.lcmp hx hb dL_law_580 ?_
    refine lv_if_eq (tgt := 586) hx hb dL_law_581 (by decide) (fun _ => ?_) (fun q => absurd ((lg_cmp_eq _ _).mpr h3) q)
    refine lv_goto (tgt := 1298) hx hb dL_law_586 (by decide) ?_
    exact kk _ _ H locs _ _ ls (by omega) (by omega) hI hw (lv_sub hl [2, 3, 4, 5, 6] rfl)
set_option maxHeartbeats 4000000 in
set_option maxRecDepth 100000 in
theorem lwc_8 {p : Program} (l : Launch) (hlt : l.stackTraces = false) {e : Env} {s : State} {m : MethodId} {b : Nat} {below : List Frame} {meth : Method} {c : Code} {D : va_G} {C : C3} {A : Nat → Prop} {L : Nat} {xs : Nat → Int32} {I : Nat → Nat → Nat → Hp → Prop} {N x mm o z : Nat} {S : Hp} {i : Int32} {H : Heap} {locs : List Loc} {cells slots : Nat} {Q : State → Prop} {ls : Array Slot} (CF : CallFix p m c cL_law 9 s #[Value.ref b] wsL_law RL) (hX : va_X b L xs s s.heap) (hbl : b < s.heap.size) (hbA : ¬ A b) (hop : ok S x 6 ∧ LwI I x mm o (f_X6_clearBuffer N S x) (fun T => f_X7_clearBuffer N T mm)) (hthr : ThrOk A s s.heap) (hw : Wd D C A s.heap S z H locs s) (hl : lv_has ls 9 [(4, .int i), (3, .ref o), (2, .ref mm), (1, .ref x), (0, .ref b)]) (hc4 : cells + 4 ≤ 601024) (hs64 : slots + 64 ≤ 7293034)
    (kk : ∀ (S9 : Hp) (z9 : Nat) (H9 : Heap) (locs9 : List Loc) (cs ss : Nat) (ls9 : Array Slot), cs ≤ cells + 4 → ss ≤ slots + 64 → I x mm o S9 → Wd D C A s.heap S9 z9 H9 locs9 s → lv_has ls9 9 [(4, .int i), (3, .ref o), (2, .ref mm), (1, .ref x), (0, .ref b)] → W p l e room_1 s m #[Value.ref b] below meth c H9 locs9 cs ss Q (F0 m 1298 ls9 [])) : W p l e room_1 s m #[Value.ref b] below meth c H locs cells slots Q (F0 m 589 ls []) := by
  obtain ⟨hx, hb, hml, hown, hts⟩ := CF
  obtain ⟨ok0, v, S1, S2, e1, e2, ok1, hI⟩ := hop
  refine lv_aload_n hx hb dL_law_589 rfl (lv_at hl 3 rfl) ?_
  refine wr_ci (va_runV (As := []) (rest := []) ⟨hx, hb, hml, hown, hts⟩ (c_X6_clearBuffer l D C N S z x v S1 e1) (cwV 0 hts gL_law_X6_clearBuffer rfl rfl rfl (by decide +kernel) ⟨Nat.le_of_ble_eq_true rfl, Nat.le_of_ble_eq_true rfl⟩) (wd_preV hw ok0 (wF_6 (S := S) ok0.2) rfl) rfl rfl hl.1 rfl (lv_room (Nat.le_of_ble_eq_true rfl)) dL_law_590 ⟨by show _ + 0 ≤ 601024; omega, by show _ + 0 ≤ 7293034; omega⟩) hw (fun H locs hw => ?_)
  refine lv_aload_n hx hb dL_law_593 rfl (lv_at hl 2 rfl) ?_
  refine wr_ci (va_runV (As := []) (rest := [.int v]) ⟨hx, hb, hml, hown, hts⟩ (c_X7_clearBuffer l D C N S1 z mm v S2 e2) (cwV 0 hts gL_law_X7_clearBuffer rfl rfl rfl (by decide +kernel) ⟨Nat.le_of_ble_eq_true rfl, Nat.le_of_ble_eq_true rfl⟩) (wd_preV hw ok1 (wF_7 (S := S1) ok1.2) rfl) rfl rfl hl.1 rfl (lv_room (Nat.le_of_ble_eq_true rfl)) dL_law_594 ⟨by show _ + 0 ≤ 601024; omega, by show _ + 0 ≤ 7293034; omega⟩) hw (fun H locs hw => ?_)
  refine lv_icmp_eq (tgt := 1298) hx hb dL_law_597 (by decide) (fun _ => ?_) (fun q => absurd rfl q)
  exact kk _ _ H locs _ _ ls (by omega) (by omega) hI hw (lv_sub hl [0, 1, 2, 3, 4] rfl)
set_option maxHeartbeats 4000000 in
set_option maxRecDepth 100000 in
theorem lwc_9 {p : Program} (l : Launch) (hlt : l.stackTraces = false) {e : Env} {s : State} {m : MethodId} {b : Nat} {below : List Frame} {meth : Method} {c : Code} {D : va_G} {C : C3} {A : Nat → Prop} {L : Nat} {xs : Nat → Int32} {I : Nat → Nat → Nat → Hp → Prop} {N x mm o z : Nat} {S : Hp} {i : Int32} {H : Heap} {locs : List Loc} {cells slots : Nat} {Q : State → Prop} {ls : Array Slot} (CF : CallFix p m c cL_law 9 s #[Value.ref b] wsL_law RL) (hX : va_X b L xs s s.heap) (hbl : b < s.heap.size) (hbA : ¬ A b) (hop : ok S x 6 ∧ LwI I x mm o (f_X6_firstError N S x) (fun T => f_X7_firstError N T mm)) (hthr : ThrOk A s s.heap) (hw : Wd D C A s.heap S z H locs s) (hl : lv_has ls 9 [(4, .int i), (3, .ref o), (2, .ref mm), (1, .ref x), (0, .ref b)]) (hc4 : cells + 4 ≤ 601024) (hs64 : slots + 64 ≤ 7293034)
    (kk : ∀ (S9 : Hp) (z9 : Nat) (H9 : Heap) (locs9 : List Loc) (cs ss : Nat) (ls9 : Array Slot), cs ≤ cells + 4 → ss ≤ slots + 64 → I x mm o S9 → Wd D C A s.heap S9 z9 H9 locs9 s → lv_has ls9 9 [(4, .int i), (3, .ref o), (2, .ref mm), (1, .ref x), (0, .ref b)] → W p l e room_1 s m #[Value.ref b] below meth c H9 locs9 cs ss Q (F0 m 1298 ls9 [])) : W p l e room_1 s m #[Value.ref b] below meth c H locs cells slots Q (F0 m 602 ls []) := by
  obtain ⟨hx, hb, hml, hown, hts⟩ := CF
  obtain ⟨ok0, v, S1, S2, e1, e2, ok1, hI⟩ := hop
  refine lv_aload_n hx hb dL_law_602 rfl (lv_at hl 3 rfl) ?_
  refine wr_ci (va_runV (As := []) (rest := []) ⟨hx, hb, hml, hown, hts⟩ (c_X6_firstError l D C N S z x v S1 e1) (cwV 0 hts gL_law_X6_firstError rfl rfl rfl (by decide +kernel) ⟨Nat.le_of_ble_eq_true rfl, Nat.le_of_ble_eq_true rfl⟩) (wd_preV hw ok0 (wF_6 (S := S) ok0.2) rfl) rfl rfl hl.1 rfl (lv_room (Nat.le_of_ble_eq_true rfl)) dL_law_603 ⟨by show _ + 0 ≤ 601024; omega, by show _ + 0 ≤ 7293034; omega⟩) hw (fun H locs hw => ?_)
  refine lv_aload_n hx hb dL_law_606 rfl (lv_at hl 2 rfl) ?_
  refine wr_ci (va_runV (As := []) (rest := [.int v]) ⟨hx, hb, hml, hown, hts⟩ (c_X7_firstError l D C N S1 z mm v S2 e2) (cwV 0 hts gL_law_X7_firstError rfl rfl rfl (by decide +kernel) ⟨Nat.le_of_ble_eq_true rfl, Nat.le_of_ble_eq_true rfl⟩) (wd_preV hw ok1 (wF_7 (S := S1) ok1.2) rfl) rfl rfl hl.1 rfl (lv_room (Nat.le_of_ble_eq_true rfl)) dL_law_607 ⟨by show _ + 0 ≤ 601024; omega, by show _ + 0 ≤ 7293034; omega⟩) hw (fun H locs hw => ?_)
  refine lv_icmp_eq (tgt := 1298) hx hb dL_law_610 (by decide) (fun _ => ?_) (fun q => absurd rfl q)
  exact kk _ _ H locs _ _ ls (by omega) (by omega) hI hw (lv_sub hl [0, 1, 2, 3, 4] rfl)
set_option maxHeartbeats 4000000 in
set_option maxRecDepth 100000 in
theorem lwc_10 {p : Program} (l : Launch) (hlt : l.stackTraces = false) {e : Env} {s : State} {m : MethodId} {b : Nat} {below : List Frame} {meth : Method} {c : Code} {D : va_G} {C : C3} {A : Nat → Prop} {L : Nat} {xs : Nat → Int32} {I : Nat → Nat → Nat → Hp → Prop} {N x mm o z : Nat} {S : Hp} {i : Int32} {H : Heap} {locs : List Loc} {cells slots : Nat} {Q : State → Prop} {ls : Array Slot} (CF : CallFix p m c cL_law 9 s #[Value.ref b] wsL_law RL) (hX : va_X b L xs s s.heap) (hbl : b < s.heap.size) (hbA : ¬ A b) (hop : LwH I N x mm o (f_L_read N S z x o) (fun T => f_X7_read N T mm)) (hthr : ThrOk A s s.heap) (hw : Wd D C A s.heap S z H locs s) (hl : lv_has ls 9 [(4, .int i), (3, .ref o), (2, .ref mm), (1, .ref x), (0, .ref b)]) (hc4 : cells + 4 ≤ 601024) (hs64 : slots + 64 ≤ 7293034)
    (kk : ∀ (S9 : Hp) (z9 : Nat) (H9 : Heap) (locs9 : List Loc) (cs ss : Nat) (ls9 : Array Slot), cs ≤ cells + 4 → ss ≤ slots + 64 → I x mm o S9 → Wd D C A s.heap S9 z9 H9 locs9 s → lv_has ls9 9 [(4, .int i), (3, .ref o), (2, .ref mm), (1, .ref x), (0, .ref b)] → W p l e room_1 s m #[Value.ref b] below meth c H9 locs9 cs ss Q (F0 m 1298 ls9 [])) : W p l e room_1 s m #[Value.ref b] below meth c H locs cells slots Q (F0 m 615 ls []) := by
  obtain ⟨hx, hb, hml, hown, hts⟩ := CF
  obtain ⟨r, S1, v, S2, S3, e1, e2, e3, ok1, ok2, hr0, hI⟩ := hop
  refine lv_aload_n hx hb dL_law_615 rfl (lv_at hl 3 rfl) ?_
  refine lv_aload_n hx hb dL_law_616 rfl (lv_at hl 1 rfl) ?_
  refine wr_ch (vx_runSX (As := [.ref x, .ref o]) (rest := []) ⟨hx, hb, hml, hown, hts⟩ (h_L_read l hlt D C N S z x o r S1 e1) (vx_cwSW 2 hts gL_law_L_read rfl rfl rfl (by decide +kernel) ⟨Nat.le_of_ble_eq_true rfl, Nat.le_of_ble_eq_true rfl⟩) (wd_preST hw hthr) rfl rfl hl.1 rfl (lv_room (Nat.le_of_ble_eq_true rfl)) dL_law_617 ⟨by show _ + 3 ≤ 601024; omega, by show _ + 28 ≤ 7293034; omega⟩) hw (fun z1 H locs hw => ?_)
  refine lv_istore (lv' := [(5, .int r), (4, .int i), (3, .ref o), (2, .ref mm), (1, .ref x), (0, .ref b)]) hx hb dL_law_620 hl (by decide) rfl (fun ls hl => ?_)
  refine lv_aload_n hx hb dL_law_622 rfl (lv_at hl 3 rfl) ?_
  refine wr_ci (va_runV (As := []) (rest := []) ⟨hx, hb, hml, hown, hts⟩ (c_X7_read l D C N S1 z1 mm v S2 e2) (cwV 0 hts gL_law_X7_read rfl rfl rfl (by decide +kernel) ⟨Nat.le_of_ble_eq_true rfl, Nat.le_of_ble_eq_true rfl⟩) (wd_preV hw ok1 (wF_7 (S := S1) ok1.2) rfl) rfl rfl hl.1 rfl (lv_room (Nat.le_of_ble_eq_true rfl)) dL_law_623 ⟨by show _ + 0 ≤ 601024; omega, by show _ + 0 ≤ 7293034; omega⟩) hw (fun H locs hw => ?_)
  refine lv_istore (lv' := [(6, .int v), (5, .int r), (4, .int i), (3, .ref o), (2, .ref mm), (1, .ref x), (0, .ref b)]) hx hb dL_law_626 hl (by decide) rfl (fun ls hl => ?_)
  refine lv_aload_n hx hb dL_law_628 rfl (lv_at hl 4 rfl) ?_
  refine wr_ci (va_runV (As := []) (rest := []) ⟨hx, hb, hml, hown, hts⟩ (c_X7_thrown l D C N S2 z1 mm r S3 e3) (cwV 0 hts gL_law_X7_thrown rfl rfl rfl (by decide +kernel) ⟨Nat.le_of_ble_eq_true rfl, Nat.le_of_ble_eq_true rfl⟩) (wd_preV hw ok2 (wF_7 (S := S2) ok2.2) rfl) rfl rfl hl.1 rfl (lv_room (Nat.le_of_ble_eq_true rfl)) dL_law_629 ⟨by show _ + 0 ≤ 601024; omega, by show _ + 0 ≤ 7293034; omega⟩) hw (fun H locs hw => ?_)
  refine lv_iload hx hb dL_law_632 (lv_at hl 1 rfl) ?_
  refine lv_icmp_eq (tgt := 639) hx hb dL_law_634 (by decide) (fun _ => ?_) (fun q => absurd rfl q)
  refine lv_iload hx hb dL_law_639 (lv_at hl 1 rfl) ?_
  refine lv_if_ne (tgt := 656) hx hb dL_law_641 (by decide) (fun _ => ?_) (fun q => ?_)
  · refine lv_goto (tgt := 1298) hx hb dL_law_656 (by decide) ?_
    exact kk _ _ H locs _ _ ls (by omega) (by omega) hI hw (lv_sub hl [2, 3, 4, 5, 6] rfl)
  · obtain ⟨ok3, in3, h3⟩ := hr0 q
    refine lv_aload_n hx hb dL_law_644 rfl (lv_at hl 3 rfl) ?_
    refine lv_iconst (v := (0 : Int32)) hx hb dL_law_645 (by decide) ?_
    refine wr_lald hx hb hw ok3 (inb_vp in3) dL_law_646 ?_
    refine lv_iload hx hb dL_law_647 (lv_at hl 0 rfl) ?_
    refine lv_i2l (v := v.toInt64) hx hb dL_law_649 rfl ?_
    refine W.lcmp hx hb dL_law_650 ?_
    refine lv_if_eq (tgt := 656) hx hb dL_law_651 (by decide) (fun _ => ?_) (fun q => absurd ((lg_cmp_eq _ _).mpr h3) q)
    refine lv_goto (tgt := 1298) hx hb dL_law_656 (by decide) ?_
    exact kk _ _ H locs _ _ ls (by omega) (by omega) hI hw (lv_sub hl [2, 3, 4, 5, 6] rfl)
set_option maxHeartbeats 4000000 in
set_option maxRecDepth 100000 in
theorem lwc_11 {p : Program} (l : Launch) (hlt : l.stackTraces = false) {e : Env} {s : State} {m : MethodId} {b : Nat} {below : List Frame} {meth : Method} {c : Code} {D : va_G} {C : C3} {A : Nat → Prop} {L : Nat} {xs : Nat → Int32} {I : Nat → Nat → Nat → Hp → Prop} {N x mm o z : Nat} {S : Hp} {i : Int32} {H : Heap} {locs : List Loc} {cells slots : Nat} {Q : State → Prop} {ls : Array Slot} (CF : CallFix p m c cL_law 9 s #[Value.ref b] wsL_law RL) (hX : va_X b L xs s s.heap) (hbl : b < s.heap.size) (hbA : ¬ A b) (hi1 : vp_in (i + (1 : Int32)) L) (hop : LwH I N x mm o (f_L_take N S z x (xs (i + (1 : Int32)).toNatClampNeg) o) (fun T => f_X7_take N T mm (xs (i + (1 : Int32)).toNatClampNeg))) (hthr : ThrOk A s s.heap) (hw : Wd D C A s.heap S z H locs s) (hl : lv_has ls 9 [(4, .int i), (3, .ref o), (2, .ref mm), (1, .ref x), (0, .ref b)]) (hc4 : cells + 4 ≤ 601024) (hs64 : slots + 64 ≤ 7293034)
    (kk : ∀ (S9 : Hp) (z9 : Nat) (H9 : Heap) (locs9 : List Loc) (cs ss : Nat) (ls9 : Array Slot), cs ≤ cells + 4 → ss ≤ slots + 64 → I x mm o S9 → Wd D C A s.heap S9 z9 H9 locs9 s → lv_has ls9 9 [(4, .int i), (3, .ref o), (2, .ref mm), (1, .ref x), (0, .ref b)] → W p l e room_1 s m #[Value.ref b] below meth c H9 locs9 cs ss Q (F0 m 1298 ls9 [])) : W p l e room_1 s m #[Value.ref b] below meth c H locs cells slots Q (F0 m 659 ls []) := by
  obtain ⟨hx, hb, hml, hown, hts⟩ := CF
  obtain ⟨r, S1, v, S2, S3, e1, e2, e3, ok1, ok2, hr0, hI⟩ := hop
  refine lv_aload_n hx hb dL_law_659 rfl (lv_at hl 3 rfl) ?_
  refine lv_aload_n hx hb dL_law_660 rfl (lv_at hl 4 rfl) ?_
  refine lv_iload hx hb dL_law_661 (lv_at hl 0 rfl) ?_
  refine lv_iconst (v := (1 : Int32)) hx hb dL_law_663 (by decide) ?_
  refine lv_iadd hx hb dL_law_664 ?_
  refine va_sld hx hb hX hbl hbA hw.2.2.2.1 hi1 dL_law_665 ?_
  refine lv_aload_n hx hb dL_law_666 rfl (lv_at hl 1 rfl) ?_
  refine wr_ch (vx_runSX (As := [.ref x, .int (xs (i + (1 : Int32)).toNatClampNeg), .ref o]) (rest := []) ⟨hx, hb, hml, hown, hts⟩ (h_L_take l hlt D C N S z x (xs (i + (1 : Int32)).toNatClampNeg) o r S1 e1) (vx_cwSW 3 hts gL_law_L_take rfl rfl rfl (by decide +kernel) ⟨Nat.le_of_ble_eq_true rfl, Nat.le_of_ble_eq_true rfl⟩) (wd_preST hw hthr) rfl rfl hl.1 rfl (lv_room (Nat.le_of_ble_eq_true rfl)) dL_law_667 ⟨by show _ + 3 ≤ 601024; omega, by show _ + 28 ≤ 7293034; omega⟩) hw (fun z1 H locs hw => ?_)
  refine lv_istore (lv' := [(5, .int r), (4, .int i), (3, .ref o), (2, .ref mm), (1, .ref x), (0, .ref b)]) hx hb dL_law_670 hl (by decide) rfl (fun ls hl => ?_)
  refine lv_aload_n hx hb dL_law_672 rfl (lv_at hl 3 rfl) ?_
  refine lv_aload_n hx hb dL_law_673 rfl (lv_at hl 5 rfl) ?_
  refine lv_iload hx hb dL_law_674 (lv_at hl 1 rfl) ?_
  refine lv_iconst (v := (1 : Int32)) hx hb dL_law_676 (by decide) ?_
  refine lv_iadd hx hb dL_law_677 ?_
  refine va_sld hx hb hX hbl hbA hw.2.2.2.1 hi1 dL_law_678 ?_
  refine wr_ci (va_runV (As := [.int (xs (i + (1 : Int32)).toNatClampNeg)]) (rest := []) ⟨hx, hb, hml, hown, hts⟩ (c_X7_take l D C N S1 z1 mm (xs (i + (1 : Int32)).toNatClampNeg) v S2 e2) (cwV 1 hts gL_law_X7_take rfl rfl rfl (by decide +kernel) ⟨Nat.le_of_ble_eq_true rfl, Nat.le_of_ble_eq_true rfl⟩) (wd_preV hw ok1 (wF_7 (S := S1) ok1.2) rfl) rfl rfl hl.1 rfl (lv_room (Nat.le_of_ble_eq_true rfl)) dL_law_679 ⟨by show _ + 0 ≤ 601024; omega, by show _ + 0 ≤ 7293034; omega⟩) hw (fun H locs hw => ?_)
  refine lv_istore (lv' := [(6, .int v), (5, .int r), (4, .int i), (3, .ref o), (2, .ref mm), (1, .ref x), (0, .ref b)]) hx hb dL_law_682 hl (by decide) rfl (fun ls hl => ?_)
  refine lv_aload_n hx hb dL_law_684 rfl (lv_at hl 4 rfl) ?_
  refine wr_ci (va_runV (As := []) (rest := []) ⟨hx, hb, hml, hown, hts⟩ (c_X7_thrown l D C N S2 z1 mm r S3 e3) (cwV 0 hts gL_law_X7_thrown rfl rfl rfl (by decide +kernel) ⟨Nat.le_of_ble_eq_true rfl, Nat.le_of_ble_eq_true rfl⟩) (wd_preV hw ok2 (wF_7 (S := S2) ok2.2) rfl) rfl rfl hl.1 rfl (lv_room (Nat.le_of_ble_eq_true rfl)) dL_law_685 ⟨by show _ + 0 ≤ 601024; omega, by show _ + 0 ≤ 7293034; omega⟩) hw (fun H locs hw => ?_)
  refine lv_iload hx hb dL_law_688 (lv_at hl 1 rfl) ?_
  refine lv_icmp_eq (tgt := 695) hx hb dL_law_690 (by decide) (fun _ => ?_) (fun q => absurd rfl q)
  refine lv_iload hx hb dL_law_695 (lv_at hl 1 rfl) ?_
  refine lv_if_ne (tgt := 712) hx hb dL_law_697 (by decide) (fun _ => ?_) (fun q => ?_)
  · refine lv_goto (tgt := 1298) hx hb dL_law_712 (by decide) ?_
    exact kk _ _ H locs _ _ ls (by omega) (by omega) hI hw (lv_sub hl [2, 3, 4, 5, 6] rfl)
  · obtain ⟨ok3, in3, h3⟩ := hr0 q
    refine lv_aload_n hx hb dL_law_700 rfl (lv_at hl 3 rfl) ?_
    refine lv_iconst (v := (0 : Int32)) hx hb dL_law_701 (by decide) ?_
    refine wr_lald hx hb hw ok3 (inb_vp in3) dL_law_702 ?_
    refine lv_iload hx hb dL_law_703 (lv_at hl 0 rfl) ?_
    refine lv_i2l (v := v.toInt64) hx hb dL_law_705 rfl ?_
    refine W.lcmp hx hb dL_law_706 ?_
    refine lv_if_eq (tgt := 712) hx hb dL_law_707 (by decide) (fun _ => ?_) (fun q => absurd ((lg_cmp_eq _ _).mpr h3) q)
    refine lv_goto (tgt := 1298) hx hb dL_law_712 (by decide) ?_
    exact kk _ _ H locs _ _ ls (by omega) (by omega) hI hw (lv_sub hl [2, 3, 4, 5, 6] rfl)
set_option maxHeartbeats 4000000 in
set_option maxRecDepth 100000 in
theorem lwc_12 {p : Program} (l : Launch) (hlt : l.stackTraces = false) {e : Env} {s : State} {m : MethodId} {b : Nat} {below : List Frame} {meth : Method} {c : Code} {D : va_G} {C : C3} {A : Nat → Prop} {L : Nat} {xs : Nat → Int32} {I : Nat → Nat → Nat → Hp → Prop} {N x mm o z : Nat} {S : Hp} {i : Int32} {H : Heap} {locs : List Loc} {cells slots : Nat} {Q : State → Prop} {ls : Array Slot} (CF : CallFix p m c cL_law 9 s #[Value.ref b] wsL_law RL) (hX : va_X b L xs s s.heap) (hbl : b < s.heap.size) (hbA : ¬ A b) (hi1 : vp_in (i + (1 : Int32)) L) (hop : LwH I N x mm o (f_L_restore N S z x (xs (i + (1 : Int32)).toNatClampNeg) o) (fun T => f_X7_restore N T mm (xs (i + (1 : Int32)).toNatClampNeg))) (hthr : ThrOk A s s.heap) (hw : Wd D C A s.heap S z H locs s) (hl : lv_has ls 9 [(4, .int i), (3, .ref o), (2, .ref mm), (1, .ref x), (0, .ref b)]) (hc4 : cells + 4 ≤ 601024) (hs64 : slots + 64 ≤ 7293034)
    (kk : ∀ (S9 : Hp) (z9 : Nat) (H9 : Heap) (locs9 : List Loc) (cs ss : Nat) (ls9 : Array Slot), cs ≤ cells + 4 → ss ≤ slots + 64 → I x mm o S9 → Wd D C A s.heap S9 z9 H9 locs9 s → lv_has ls9 9 [(4, .int i), (3, .ref o), (2, .ref mm), (1, .ref x), (0, .ref b)] → W p l e room_1 s m #[Value.ref b] below meth c H9 locs9 cs ss Q (F0 m 1298 ls9 [])) : W p l e room_1 s m #[Value.ref b] below meth c H locs cells slots Q (F0 m 715 ls []) := by
  obtain ⟨hx, hb, hml, hown, hts⟩ := CF
  obtain ⟨r, S1, v, S2, S3, e1, e2, e3, ok1, ok2, hr0, hI⟩ := hop
  refine lv_aload_n hx hb dL_law_715 rfl (lv_at hl 3 rfl) ?_
  refine lv_aload_n hx hb dL_law_716 rfl (lv_at hl 4 rfl) ?_
  refine lv_iload hx hb dL_law_717 (lv_at hl 0 rfl) ?_
  refine lv_iconst (v := (1 : Int32)) hx hb dL_law_719 (by decide) ?_
  refine lv_iadd hx hb dL_law_720 ?_
  refine va_sld hx hb hX hbl hbA hw.2.2.2.1 hi1 dL_law_721 ?_
  refine lv_aload_n hx hb dL_law_722 rfl (lv_at hl 1 rfl) ?_
  refine wr_ch (vx_runSX (As := [.ref x, .int (xs (i + (1 : Int32)).toNatClampNeg), .ref o]) (rest := []) ⟨hx, hb, hml, hown, hts⟩ (h_L_restore l hlt D C N S z x (xs (i + (1 : Int32)).toNatClampNeg) o r S1 e1) (vx_cwSW 3 hts gL_law_L_restore rfl rfl rfl (by decide +kernel) ⟨Nat.le_of_ble_eq_true rfl, Nat.le_of_ble_eq_true rfl⟩) (wd_preST hw hthr) rfl rfl hl.1 rfl (lv_room (Nat.le_of_ble_eq_true rfl)) dL_law_723 ⟨by show _ + 3 ≤ 601024; omega, by show _ + 28 ≤ 7293034; omega⟩) hw (fun z1 H locs hw => ?_)
  refine lv_istore (lv' := [(5, .int r), (4, .int i), (3, .ref o), (2, .ref mm), (1, .ref x), (0, .ref b)]) hx hb dL_law_726 hl (by decide) rfl (fun ls hl => ?_)
  refine lv_aload_n hx hb dL_law_728 rfl (lv_at hl 3 rfl) ?_
  refine lv_aload_n hx hb dL_law_729 rfl (lv_at hl 5 rfl) ?_
  refine lv_iload hx hb dL_law_730 (lv_at hl 1 rfl) ?_
  refine lv_iconst (v := (1 : Int32)) hx hb dL_law_732 (by decide) ?_
  refine lv_iadd hx hb dL_law_733 ?_
  refine va_sld hx hb hX hbl hbA hw.2.2.2.1 hi1 dL_law_734 ?_
  refine wr_ci (va_runV (As := [.int (xs (i + (1 : Int32)).toNatClampNeg)]) (rest := []) ⟨hx, hb, hml, hown, hts⟩ (c_X7_restore l D C N S1 z1 mm (xs (i + (1 : Int32)).toNatClampNeg) v S2 e2) (cwV 1 hts gL_law_X7_restore rfl rfl rfl (by decide +kernel) ⟨Nat.le_of_ble_eq_true rfl, Nat.le_of_ble_eq_true rfl⟩) (wd_preV hw ok1 (wF_7 (S := S1) ok1.2) rfl) rfl rfl hl.1 rfl (lv_room (Nat.le_of_ble_eq_true rfl)) dL_law_735 ⟨by show _ + 0 ≤ 601024; omega, by show _ + 0 ≤ 7293034; omega⟩) hw (fun H locs hw => ?_)
  refine lv_istore (lv' := [(6, .int v), (5, .int r), (4, .int i), (3, .ref o), (2, .ref mm), (1, .ref x), (0, .ref b)]) hx hb dL_law_738 hl (by decide) rfl (fun ls hl => ?_)
  refine lv_aload_n hx hb dL_law_740 rfl (lv_at hl 4 rfl) ?_
  refine wr_ci (va_runV (As := []) (rest := []) ⟨hx, hb, hml, hown, hts⟩ (c_X7_thrown l D C N S2 z1 mm r S3 e3) (cwV 0 hts gL_law_X7_thrown rfl rfl rfl (by decide +kernel) ⟨Nat.le_of_ble_eq_true rfl, Nat.le_of_ble_eq_true rfl⟩) (wd_preV hw ok2 (wF_7 (S := S2) ok2.2) rfl) rfl rfl hl.1 rfl (lv_room (Nat.le_of_ble_eq_true rfl)) dL_law_741 ⟨by show _ + 0 ≤ 601024; omega, by show _ + 0 ≤ 7293034; omega⟩) hw (fun H locs hw => ?_)
  refine lv_iload hx hb dL_law_744 (lv_at hl 1 rfl) ?_
  refine lv_icmp_eq (tgt := 751) hx hb dL_law_746 (by decide) (fun _ => ?_) (fun q => absurd rfl q)
  refine lv_iload hx hb dL_law_751 (lv_at hl 1 rfl) ?_
  refine lv_if_ne (tgt := 768) hx hb dL_law_753 (by decide) (fun _ => ?_) (fun q => ?_)
  · refine lv_goto (tgt := 1298) hx hb dL_law_768 (by decide) ?_
    exact kk _ _ H locs _ _ ls (by omega) (by omega) hI hw (lv_sub hl [2, 3, 4, 5, 6] rfl)
  · obtain ⟨ok3, in3, h3⟩ := hr0 q
    refine lv_aload_n hx hb dL_law_756 rfl (lv_at hl 3 rfl) ?_
    refine lv_iconst (v := (0 : Int32)) hx hb dL_law_757 (by decide) ?_
    refine wr_lald hx hb hw ok3 (inb_vp in3) dL_law_758 ?_
    refine lv_iload hx hb dL_law_759 (lv_at hl 0 rfl) ?_
    refine lv_i2l (v := v.toInt64) hx hb dL_law_761 rfl ?_
    refine W.lcmp hx hb dL_law_762 ?_
    refine lv_if_eq (tgt := 768) hx hb dL_law_763 (by decide) (fun _ => ?_) (fun q => absurd ((lg_cmp_eq _ _).mpr h3) q)
    refine lv_goto (tgt := 1298) hx hb dL_law_768 (by decide) ?_
    exact kk _ _ H locs _ _ ls (by omega) (by omega) hI hw (lv_sub hl [2, 3, 4, 5, 6] rfl)
set_option maxHeartbeats 4000000 in
set_option maxRecDepth 100000 in
theorem lwc_13 {p : Program} (l : Launch) (hlt : l.stackTraces = false) {e : Env} {s : State} {m : MethodId} {b : Nat} {below : List Frame} {meth : Method} {c : Code} {D : va_G} {C : C3} {A : Nat → Prop} {L : Nat} {xs : Nat → Int32} {I : Nat → Nat → Nat → Hp → Prop} {N x mm o z : Nat} {S : Hp} {i : Int32} {H : Heap} {locs : List Loc} {cells slots : Nat} {Q : State → Prop} {ls : Array Slot} (CF : CallFix p m c cL_law 9 s #[Value.ref b] wsL_law RL) (hX : va_X b L xs s s.heap) (hbl : b < s.heap.size) (hbA : ¬ A b) (hop : LwH I N x mm o (f_L_undo N S z x o) (fun T => f_X7_undo N T mm)) (hthr : ThrOk A s s.heap) (hw : Wd D C A s.heap S z H locs s) (hl : lv_has ls 9 [(4, .int i), (3, .ref o), (2, .ref mm), (1, .ref x), (0, .ref b)]) (hc4 : cells + 4 ≤ 601024) (hs64 : slots + 64 ≤ 7293034)
    (kk : ∀ (S9 : Hp) (z9 : Nat) (H9 : Heap) (locs9 : List Loc) (cs ss : Nat) (ls9 : Array Slot), cs ≤ cells + 4 → ss ≤ slots + 64 → I x mm o S9 → Wd D C A s.heap S9 z9 H9 locs9 s → lv_has ls9 9 [(4, .int i), (3, .ref o), (2, .ref mm), (1, .ref x), (0, .ref b)] → W p l e room_1 s m #[Value.ref b] below meth c H9 locs9 cs ss Q (F0 m 1298 ls9 [])) : W p l e room_1 s m #[Value.ref b] below meth c H locs cells slots Q (F0 m 771 ls []) := by
  obtain ⟨hx, hb, hml, hown, hts⟩ := CF
  obtain ⟨r, S1, v, S2, S3, e1, e2, e3, ok1, ok2, hr0, hI⟩ := hop
  refine lv_aload_n hx hb dL_law_771 rfl (lv_at hl 3 rfl) ?_
  refine lv_aload_n hx hb dL_law_772 rfl (lv_at hl 1 rfl) ?_
  refine wr_ch (vx_runSX (As := [.ref x, .ref o]) (rest := []) ⟨hx, hb, hml, hown, hts⟩ (h_L_undo l hlt D C N S z x o r S1 e1) (vx_cwSW 2 hts gL_law_L_undo rfl rfl rfl (by decide +kernel) ⟨Nat.le_of_ble_eq_true rfl, Nat.le_of_ble_eq_true rfl⟩) (wd_preST hw hthr) rfl rfl hl.1 rfl (lv_room (Nat.le_of_ble_eq_true rfl)) dL_law_773 ⟨by show _ + 1 ≤ 601024; omega, by show _ + 6 ≤ 7293034; omega⟩) hw (fun z1 H locs hw => ?_)
  refine lv_istore (lv' := [(5, .int r), (4, .int i), (3, .ref o), (2, .ref mm), (1, .ref x), (0, .ref b)]) hx hb dL_law_776 hl (by decide) rfl (fun ls hl => ?_)
  refine lv_aload_n hx hb dL_law_778 rfl (lv_at hl 3 rfl) ?_
  refine wr_ci (va_runV (As := []) (rest := []) ⟨hx, hb, hml, hown, hts⟩ (c_X7_undo l D C N S1 z1 mm v S2 e2) (cwV 0 hts gL_law_X7_undo rfl rfl rfl (by decide +kernel) ⟨Nat.le_of_ble_eq_true rfl, Nat.le_of_ble_eq_true rfl⟩) (wd_preV hw ok1 (wF_7 (S := S1) ok1.2) rfl) rfl rfl hl.1 rfl (lv_room (Nat.le_of_ble_eq_true rfl)) dL_law_779 ⟨by show _ + 0 ≤ 601024; omega, by show _ + 0 ≤ 7293034; omega⟩) hw (fun H locs hw => ?_)
  refine lv_istore (lv' := [(6, .int v), (5, .int r), (4, .int i), (3, .ref o), (2, .ref mm), (1, .ref x), (0, .ref b)]) hx hb dL_law_782 hl (by decide) rfl (fun ls hl => ?_)
  refine lv_aload_n hx hb dL_law_784 rfl (lv_at hl 4 rfl) ?_
  refine wr_ci (va_runV (As := []) (rest := []) ⟨hx, hb, hml, hown, hts⟩ (c_X7_thrown l D C N S2 z1 mm r S3 e3) (cwV 0 hts gL_law_X7_thrown rfl rfl rfl (by decide +kernel) ⟨Nat.le_of_ble_eq_true rfl, Nat.le_of_ble_eq_true rfl⟩) (wd_preV hw ok2 (wF_7 (S := S2) ok2.2) rfl) rfl rfl hl.1 rfl (lv_room (Nat.le_of_ble_eq_true rfl)) dL_law_785 ⟨by show _ + 0 ≤ 601024; omega, by show _ + 0 ≤ 7293034; omega⟩) hw (fun H locs hw => ?_)
  refine lv_iload hx hb dL_law_788 (lv_at hl 1 rfl) ?_
  refine lv_icmp_eq (tgt := 795) hx hb dL_law_790 (by decide) (fun _ => ?_) (fun q => absurd rfl q)
  refine lv_iload hx hb dL_law_795 (lv_at hl 1 rfl) ?_
  refine lv_if_ne (tgt := 812) hx hb dL_law_797 (by decide) (fun _ => ?_) (fun q => ?_)
  · refine lv_goto (tgt := 1298) hx hb dL_law_812 (by decide) ?_
    exact kk _ _ H locs _ _ ls (by omega) (by omega) hI hw (lv_sub hl [2, 3, 4, 5, 6] rfl)
  · obtain ⟨ok3, in3, h3⟩ := hr0 q
    refine lv_aload_n hx hb dL_law_800 rfl (lv_at hl 3 rfl) ?_
    refine lv_iconst (v := (0 : Int32)) hx hb dL_law_801 (by decide) ?_
    refine wr_lald hx hb hw ok3 (inb_vp in3) dL_law_802 ?_
    refine lv_iload hx hb dL_law_803 (lv_at hl 0 rfl) ?_
    refine lv_i2l (v := v.toInt64) hx hb dL_law_805 rfl ?_
    refine W.lcmp hx hb dL_law_806 ?_
    refine lv_if_eq (tgt := 812) hx hb dL_law_807 (by decide) (fun _ => ?_) (fun q => absurd ((lg_cmp_eq _ _).mpr h3) q)
    refine lv_goto (tgt := 1298) hx hb dL_law_812 (by decide) ?_
    exact kk _ _ H locs _ _ ls (by omega) (by omega) hI hw (lv_sub hl [2, 3, 4, 5, 6] rfl)
set_option maxHeartbeats 4000000 in
set_option maxRecDepth 100000 in
theorem lwc_14 {p : Program} (l : Launch) (hlt : l.stackTraces = false) {e : Env} {s : State} {m : MethodId} {b : Nat} {below : List Frame} {meth : Method} {c : Code} {D : va_G} {C : C3} {A : Nat → Prop} {L : Nat} {xs : Nat → Int32} {I : Nat → Nat → Nat → Hp → Prop} {N x mm o z : Nat} {S : Hp} {i : Int32} {H : Heap} {locs : List Loc} {cells slots : Nat} {Q : State → Prop} {ls : Array Slot} (CF : CallFix p m c cL_law 9 s #[Value.ref b] wsL_law RL) (hX : va_X b L xs s s.heap) (hbl : b < s.heap.size) (hbA : ¬ A b) (hi1 : vp_in (i + (1 : Int32)) L) (hi2 : vp_in (i + (2 : Int32)) L) (hop : LwH I N x mm o (f_L_line N S z x (xs (i + (1 : Int32)).toNatClampNeg) (xs (i + (2 : Int32)).toNatClampNeg) o) (fun T => f_X7_line N T mm (xs (i + (1 : Int32)).toNatClampNeg) (xs (i + (2 : Int32)).toNatClampNeg))) (hthr : ThrOk A s s.heap) (hw : Wd D C A s.heap S z H locs s) (hl : lv_has ls 9 [(4, .int i), (3, .ref o), (2, .ref mm), (1, .ref x), (0, .ref b)]) (hc4 : cells + 4 ≤ 601024) (hs64 : slots + 64 ≤ 7293034)
    (kk : ∀ (S9 : Hp) (z9 : Nat) (H9 : Heap) (locs9 : List Loc) (cs ss : Nat) (ls9 : Array Slot), cs ≤ cells + 4 → ss ≤ slots + 64 → I x mm o S9 → Wd D C A s.heap S9 z9 H9 locs9 s → lv_has ls9 9 [(4, .int i), (3, .ref o), (2, .ref mm), (1, .ref x), (0, .ref b)] → W p l e room_1 s m #[Value.ref b] below meth c H9 locs9 cs ss Q (F0 m 1298 ls9 [])) : W p l e room_1 s m #[Value.ref b] below meth c H locs cells slots Q (F0 m 815 ls []) := by
  obtain ⟨hx, hb, hml, hown, hts⟩ := CF
  obtain ⟨r, S1, v, S2, S3, e1, e2, e3, ok1, ok2, hr0, hI⟩ := hop
  refine lv_aload_n hx hb dL_law_815 rfl (lv_at hl 3 rfl) ?_
  refine lv_aload_n hx hb dL_law_816 rfl (lv_at hl 4 rfl) ?_
  refine lv_iload hx hb dL_law_817 (lv_at hl 0 rfl) ?_
  refine lv_iconst (v := (1 : Int32)) hx hb dL_law_819 (by decide) ?_
  refine lv_iadd hx hb dL_law_820 ?_
  refine va_sld hx hb hX hbl hbA hw.2.2.2.1 hi1 dL_law_821 ?_
  refine lv_aload_n hx hb dL_law_822 rfl (lv_at hl 4 rfl) ?_
  refine lv_iload hx hb dL_law_823 (lv_at hl 0 rfl) ?_
  refine lv_iconst (v := (2 : Int32)) hx hb dL_law_825 (by decide) ?_
  refine lv_iadd hx hb dL_law_826 ?_
  refine va_sld hx hb hX hbl hbA hw.2.2.2.1 hi2 dL_law_827 ?_
  refine lv_aload_n hx hb dL_law_828 rfl (lv_at hl 1 rfl) ?_
  refine wr_ch (vx_runSX (As := [.ref x, .int (xs (i + (1 : Int32)).toNatClampNeg), .int (xs (i + (2 : Int32)).toNatClampNeg), .ref o]) (rest := []) ⟨hx, hb, hml, hown, hts⟩ (h_L_line l hlt D C N S z x (xs (i + (1 : Int32)).toNatClampNeg) (xs (i + (2 : Int32)).toNatClampNeg) o r S1 e1) (vx_cwSW 4 hts gL_law_L_line rfl rfl rfl (by decide +kernel) ⟨Nat.le_of_ble_eq_true rfl, Nat.le_of_ble_eq_true rfl⟩) (wd_preST hw hthr) rfl rfl hl.1 rfl (lv_room (Nat.le_of_ble_eq_true rfl)) dL_law_829 ⟨by show _ + 1 ≤ 601024; omega, by show _ + 6 ≤ 7293034; omega⟩) hw (fun z1 H locs hw => ?_)
  refine lv_istore (lv' := [(5, .int r), (4, .int i), (3, .ref o), (2, .ref mm), (1, .ref x), (0, .ref b)]) hx hb dL_law_832 hl (by decide) rfl (fun ls hl => ?_)
  refine lv_aload_n hx hb dL_law_834 rfl (lv_at hl 3 rfl) ?_
  refine lv_aload_n hx hb dL_law_835 rfl (lv_at hl 5 rfl) ?_
  refine lv_iload hx hb dL_law_836 (lv_at hl 1 rfl) ?_
  refine lv_iconst (v := (1 : Int32)) hx hb dL_law_838 (by decide) ?_
  refine lv_iadd hx hb dL_law_839 ?_
  refine va_sld hx hb hX hbl hbA hw.2.2.2.1 hi1 dL_law_840 ?_
  refine lv_aload_n hx hb dL_law_841 rfl (lv_at hl 5 rfl) ?_
  refine lv_iload hx hb dL_law_842 (lv_at hl 1 rfl) ?_
  refine lv_iconst (v := (2 : Int32)) hx hb dL_law_844 (by decide) ?_
  refine lv_iadd hx hb dL_law_845 ?_
  refine va_sld hx hb hX hbl hbA hw.2.2.2.1 hi2 dL_law_846 ?_
  refine wr_ci (va_runV (As := [.int (xs (i + (1 : Int32)).toNatClampNeg), .int (xs (i + (2 : Int32)).toNatClampNeg)]) (rest := []) ⟨hx, hb, hml, hown, hts⟩ (c_X7_line l D C N S1 z1 mm (xs (i + (1 : Int32)).toNatClampNeg) (xs (i + (2 : Int32)).toNatClampNeg) v S2 e2) (cwV 2 hts gL_law_X7_line rfl rfl rfl (by decide +kernel) ⟨Nat.le_of_ble_eq_true rfl, Nat.le_of_ble_eq_true rfl⟩) (wd_preV hw ok1 (wF_7 (S := S1) ok1.2) rfl) rfl rfl hl.1 rfl (lv_room (Nat.le_of_ble_eq_true rfl)) dL_law_847 ⟨by show _ + 0 ≤ 601024; omega, by show _ + 0 ≤ 7293034; omega⟩) hw (fun H locs hw => ?_)
  refine lv_istore (lv' := [(6, .int v), (5, .int r), (4, .int i), (3, .ref o), (2, .ref mm), (1, .ref x), (0, .ref b)]) hx hb dL_law_850 hl (by decide) rfl (fun ls hl => ?_)
  refine lv_aload_n hx hb dL_law_852 rfl (lv_at hl 4 rfl) ?_
  refine wr_ci (va_runV (As := []) (rest := []) ⟨hx, hb, hml, hown, hts⟩ (c_X7_thrown l D C N S2 z1 mm r S3 e3) (cwV 0 hts gL_law_X7_thrown rfl rfl rfl (by decide +kernel) ⟨Nat.le_of_ble_eq_true rfl, Nat.le_of_ble_eq_true rfl⟩) (wd_preV hw ok2 (wF_7 (S := S2) ok2.2) rfl) rfl rfl hl.1 rfl (lv_room (Nat.le_of_ble_eq_true rfl)) dL_law_853 ⟨by show _ + 0 ≤ 601024; omega, by show _ + 0 ≤ 7293034; omega⟩) hw (fun H locs hw => ?_)
  refine lv_iload hx hb dL_law_856 (lv_at hl 1 rfl) ?_
  refine lv_icmp_eq (tgt := 863) hx hb dL_law_858 (by decide) (fun _ => ?_) (fun q => absurd rfl q)
  refine lv_iload hx hb dL_law_863 (lv_at hl 1 rfl) ?_
  refine lv_if_ne (tgt := 880) hx hb dL_law_865 (by decide) (fun _ => ?_) (fun q => ?_)
  · refine lv_goto (tgt := 1298) hx hb dL_law_880 (by decide) ?_
    exact kk _ _ H locs _ _ ls (by omega) (by omega) hI hw (lv_sub hl [2, 3, 4, 5, 6] rfl)
  · obtain ⟨ok3, in3, h3⟩ := hr0 q
    refine lv_aload_n hx hb dL_law_868 rfl (lv_at hl 3 rfl) ?_
    refine lv_iconst (v := (0 : Int32)) hx hb dL_law_869 (by decide) ?_
    refine wr_lald hx hb hw ok3 (inb_vp in3) dL_law_870 ?_
    refine lv_iload hx hb dL_law_871 (lv_at hl 0 rfl) ?_
    refine lv_i2l (v := v.toInt64) hx hb dL_law_873 rfl ?_
    refine W.lcmp hx hb dL_law_874 ?_
    refine lv_if_eq (tgt := 880) hx hb dL_law_875 (by decide) (fun _ => ?_) (fun q => absurd ((lg_cmp_eq _ _).mpr h3) q)
    refine lv_goto (tgt := 1298) hx hb dL_law_880 (by decide) ?_
    exact kk _ _ H locs _ _ ls (by omega) (by omega) hI hw (lv_sub hl [2, 3, 4, 5, 6] rfl)
set_option maxHeartbeats 4000000 in
set_option maxRecDepth 100000 in
theorem lwc_15 {p : Program} (l : Launch) (hlt : l.stackTraces = false) {e : Env} {s : State} {m : MethodId} {b : Nat} {below : List Frame} {meth : Method} {c : Code} {D : va_G} {C : C3} {A : Nat → Prop} {L : Nat} {xs : Nat → Int32} {I : Nat → Nat → Nat → Hp → Prop} {N x mm o z : Nat} {S : Hp} {i : Int32} {H : Heap} {locs : List Loc} {cells slots : Nat} {Q : State → Prop} {ls : Array Slot} (CF : CallFix p m c cL_law 9 s #[Value.ref b] wsL_law RL) (hX : va_X b L xs s s.heap) (hbl : b < s.heap.size) (hbA : ¬ A b) (hi1 : vp_in (i + (1 : Int32)) L) (hi2 : vp_in (i + (2 : Int32)) L) (hop : LwH I N x mm o (f_L_cell N S z x (xs (i + (1 : Int32)).toNatClampNeg) (xs (i + (2 : Int32)).toNatClampNeg) o) (fun T => f_X7_cell N T mm (xs (i + (1 : Int32)).toNatClampNeg) (xs (i + (2 : Int32)).toNatClampNeg))) (hthr : ThrOk A s s.heap) (hw : Wd D C A s.heap S z H locs s) (hl : lv_has ls 9 [(4, .int i), (3, .ref o), (2, .ref mm), (1, .ref x), (0, .ref b)]) (hc4 : cells + 4 ≤ 601024) (hs64 : slots + 64 ≤ 7293034)
    (kk : ∀ (S9 : Hp) (z9 : Nat) (H9 : Heap) (locs9 : List Loc) (cs ss : Nat) (ls9 : Array Slot), cs ≤ cells + 4 → ss ≤ slots + 64 → I x mm o S9 → Wd D C A s.heap S9 z9 H9 locs9 s → lv_has ls9 9 [(4, .int i), (3, .ref o), (2, .ref mm), (1, .ref x), (0, .ref b)] → W p l e room_1 s m #[Value.ref b] below meth c H9 locs9 cs ss Q (F0 m 1298 ls9 [])) : W p l e room_1 s m #[Value.ref b] below meth c H locs cells slots Q (F0 m 883 ls []) := by
  obtain ⟨hx, hb, hml, hown, hts⟩ := CF
  obtain ⟨r, S1, v, S2, S3, e1, e2, e3, ok1, ok2, hr0, hI⟩ := hop
  refine lv_aload_n hx hb dL_law_883 rfl (lv_at hl 3 rfl) ?_
  refine lv_aload_n hx hb dL_law_884 rfl (lv_at hl 4 rfl) ?_
  refine lv_iload hx hb dL_law_885 (lv_at hl 0 rfl) ?_
  refine lv_iconst (v := (1 : Int32)) hx hb dL_law_887 (by decide) ?_
  refine lv_iadd hx hb dL_law_888 ?_
  refine va_sld hx hb hX hbl hbA hw.2.2.2.1 hi1 dL_law_889 ?_
  refine lv_aload_n hx hb dL_law_890 rfl (lv_at hl 4 rfl) ?_
  refine lv_iload hx hb dL_law_891 (lv_at hl 0 rfl) ?_
  refine lv_iconst (v := (2 : Int32)) hx hb dL_law_893 (by decide) ?_
  refine lv_iadd hx hb dL_law_894 ?_
  refine va_sld hx hb hX hbl hbA hw.2.2.2.1 hi2 dL_law_895 ?_
  refine lv_aload_n hx hb dL_law_896 rfl (lv_at hl 1 rfl) ?_
  refine wr_ch (vx_runSX (As := [.ref x, .int (xs (i + (1 : Int32)).toNatClampNeg), .int (xs (i + (2 : Int32)).toNatClampNeg), .ref o]) (rest := []) ⟨hx, hb, hml, hown, hts⟩ (h_L_cell l hlt D C N S z x (xs (i + (1 : Int32)).toNatClampNeg) (xs (i + (2 : Int32)).toNatClampNeg) o r S1 e1) (vx_cwSW 4 hts gL_law_L_cell rfl rfl rfl (by decide +kernel) ⟨Nat.le_of_ble_eq_true rfl, Nat.le_of_ble_eq_true rfl⟩) (wd_preST hw hthr) rfl rfl hl.1 rfl (lv_room (Nat.le_of_ble_eq_true rfl)) dL_law_897 ⟨by show _ + 1 ≤ 601024; omega, by show _ + 6 ≤ 7293034; omega⟩) hw (fun z1 H locs hw => ?_)
  refine lv_istore (lv' := [(5, .int r), (4, .int i), (3, .ref o), (2, .ref mm), (1, .ref x), (0, .ref b)]) hx hb dL_law_900 hl (by decide) rfl (fun ls hl => ?_)
  refine lv_aload_n hx hb dL_law_902 rfl (lv_at hl 3 rfl) ?_
  refine lv_aload_n hx hb dL_law_903 rfl (lv_at hl 5 rfl) ?_
  refine lv_iload hx hb dL_law_904 (lv_at hl 1 rfl) ?_
  refine lv_iconst (v := (1 : Int32)) hx hb dL_law_906 (by decide) ?_
  refine lv_iadd hx hb dL_law_907 ?_
  refine va_sld hx hb hX hbl hbA hw.2.2.2.1 hi1 dL_law_908 ?_
  refine lv_aload_n hx hb dL_law_909 rfl (lv_at hl 5 rfl) ?_
  refine lv_iload hx hb dL_law_910 (lv_at hl 1 rfl) ?_
  refine lv_iconst (v := (2 : Int32)) hx hb dL_law_912 (by decide) ?_
  refine lv_iadd hx hb dL_law_913 ?_
  refine va_sld hx hb hX hbl hbA hw.2.2.2.1 hi2 dL_law_914 ?_
  refine wr_ci (va_runV (As := [.int (xs (i + (1 : Int32)).toNatClampNeg), .int (xs (i + (2 : Int32)).toNatClampNeg)]) (rest := []) ⟨hx, hb, hml, hown, hts⟩ (c_X7_cell l D C N S1 z1 mm (xs (i + (1 : Int32)).toNatClampNeg) (xs (i + (2 : Int32)).toNatClampNeg) v S2 e2) (cwV 2 hts gL_law_X7_cell rfl rfl rfl (by decide +kernel) ⟨Nat.le_of_ble_eq_true rfl, Nat.le_of_ble_eq_true rfl⟩) (wd_preV hw ok1 (wF_7 (S := S1) ok1.2) rfl) rfl rfl hl.1 rfl (lv_room (Nat.le_of_ble_eq_true rfl)) dL_law_915 ⟨by show _ + 0 ≤ 601024; omega, by show _ + 0 ≤ 7293034; omega⟩) hw (fun H locs hw => ?_)
  refine lv_istore (lv' := [(6, .int v), (5, .int r), (4, .int i), (3, .ref o), (2, .ref mm), (1, .ref x), (0, .ref b)]) hx hb dL_law_918 hl (by decide) rfl (fun ls hl => ?_)
  refine lv_aload_n hx hb dL_law_920 rfl (lv_at hl 4 rfl) ?_
  refine wr_ci (va_runV (As := []) (rest := []) ⟨hx, hb, hml, hown, hts⟩ (c_X7_thrown l D C N S2 z1 mm r S3 e3) (cwV 0 hts gL_law_X7_thrown rfl rfl rfl (by decide +kernel) ⟨Nat.le_of_ble_eq_true rfl, Nat.le_of_ble_eq_true rfl⟩) (wd_preV hw ok2 (wF_7 (S := S2) ok2.2) rfl) rfl rfl hl.1 rfl (lv_room (Nat.le_of_ble_eq_true rfl)) dL_law_921 ⟨by show _ + 0 ≤ 601024; omega, by show _ + 0 ≤ 7293034; omega⟩) hw (fun H locs hw => ?_)
  refine lv_iload hx hb dL_law_924 (lv_at hl 1 rfl) ?_
  refine lv_icmp_eq (tgt := 931) hx hb dL_law_926 (by decide) (fun _ => ?_) (fun q => absurd rfl q)
  refine lv_iload hx hb dL_law_931 (lv_at hl 1 rfl) ?_
  refine lv_if_ne (tgt := 948) hx hb dL_law_933 (by decide) (fun _ => ?_) (fun q => ?_)
  · refine lv_goto (tgt := 1298) hx hb dL_law_948 (by decide) ?_
    exact kk _ _ H locs _ _ ls (by omega) (by omega) hI hw (lv_sub hl [2, 3, 4, 5, 6] rfl)
  · obtain ⟨ok3, in3, h3⟩ := hr0 q
    refine lv_aload_n hx hb dL_law_936 rfl (lv_at hl 3 rfl) ?_
    refine lv_iconst (v := (0 : Int32)) hx hb dL_law_937 (by decide) ?_
    refine wr_lald hx hb hw ok3 (inb_vp in3) dL_law_938 ?_
    refine lv_iload hx hb dL_law_939 (lv_at hl 0 rfl) ?_
    refine lv_i2l (v := v.toInt64) hx hb dL_law_941 rfl ?_
    refine W.lcmp hx hb dL_law_942 ?_
    refine lv_if_eq (tgt := 948) hx hb dL_law_943 (by decide) (fun _ => ?_) (fun q => absurd ((lg_cmp_eq _ _).mpr h3) q)
    refine lv_goto (tgt := 1298) hx hb dL_law_948 (by decide) ?_
    exact kk _ _ H locs _ _ ls (by omega) (by omega) hI hw (lv_sub hl [2, 3, 4, 5, 6] rfl)
set_option maxHeartbeats 4000000 in
set_option maxRecDepth 100000 in
theorem lwc_16 {p : Program} (l : Launch) (hlt : l.stackTraces = false) {e : Env} {s : State} {m : MethodId} {b : Nat} {below : List Frame} {meth : Method} {c : Code} {D : va_G} {C : C3} {A : Nat → Prop} {L : Nat} {xs : Nat → Int32} {I : Nat → Nat → Nat → Hp → Prop} {N x mm o z : Nat} {S : Hp} {i : Int32} {H : Heap} {locs : List Loc} {cells slots : Nat} {Q : State → Prop} {ls : Array Slot} (CF : CallFix p m c cL_law 9 s #[Value.ref b] wsL_law RL) (hX : va_X b L xs s s.heap) (hbl : b < s.heap.size) (hbA : ¬ A b) (hi1 : vp_in (i + (1 : Int32)) L) (hop : LwH I N x mm o (f_L_reply N S z x (xs (i + (1 : Int32)).toNatClampNeg) o) (fun T => f_X7_reply N T mm (xs (i + (1 : Int32)).toNatClampNeg))) (hthr : ThrOk A s s.heap) (hw : Wd D C A s.heap S z H locs s) (hl : lv_has ls 9 [(4, .int i), (3, .ref o), (2, .ref mm), (1, .ref x), (0, .ref b)]) (hc4 : cells + 4 ≤ 601024) (hs64 : slots + 64 ≤ 7293034)
    (kk : ∀ (S9 : Hp) (z9 : Nat) (H9 : Heap) (locs9 : List Loc) (cs ss : Nat) (ls9 : Array Slot), cs ≤ cells + 4 → ss ≤ slots + 64 → I x mm o S9 → Wd D C A s.heap S9 z9 H9 locs9 s → lv_has ls9 9 [(4, .int i), (3, .ref o), (2, .ref mm), (1, .ref x), (0, .ref b)] → W p l e room_1 s m #[Value.ref b] below meth c H9 locs9 cs ss Q (F0 m 1298 ls9 [])) : W p l e room_1 s m #[Value.ref b] below meth c H locs cells slots Q (F0 m 951 ls []) := by
  obtain ⟨hx, hb, hml, hown, hts⟩ := CF
  obtain ⟨r, S1, v, S2, S3, e1, e2, e3, ok1, ok2, hr0, hI⟩ := hop
  refine lv_aload_n hx hb dL_law_951 rfl (lv_at hl 3 rfl) ?_
  refine lv_aload_n hx hb dL_law_952 rfl (lv_at hl 4 rfl) ?_
  refine lv_iload hx hb dL_law_953 (lv_at hl 0 rfl) ?_
  refine lv_iconst (v := (1 : Int32)) hx hb dL_law_955 (by decide) ?_
  refine lv_iadd hx hb dL_law_956 ?_
  refine va_sld hx hb hX hbl hbA hw.2.2.2.1 hi1 dL_law_957 ?_
  refine lv_aload_n hx hb dL_law_958 rfl (lv_at hl 1 rfl) ?_
  refine wr_ch (vx_runSX (As := [.ref x, .int (xs (i + (1 : Int32)).toNatClampNeg), .ref o]) (rest := []) ⟨hx, hb, hml, hown, hts⟩ (h_L_reply l hlt D C N S z x (xs (i + (1 : Int32)).toNatClampNeg) o r S1 e1) (vx_cwSW 3 hts gL_law_L_reply rfl rfl rfl (by decide +kernel) ⟨Nat.le_of_ble_eq_true rfl, Nat.le_of_ble_eq_true rfl⟩) (wd_preST hw hthr) rfl rfl hl.1 rfl (lv_room (Nat.le_of_ble_eq_true rfl)) dL_law_959 ⟨by show _ + 1 ≤ 601024; omega, by show _ + 6 ≤ 7293034; omega⟩) hw (fun z1 H locs hw => ?_)
  refine lv_istore (lv' := [(5, .int r), (4, .int i), (3, .ref o), (2, .ref mm), (1, .ref x), (0, .ref b)]) hx hb dL_law_962 hl (by decide) rfl (fun ls hl => ?_)
  refine lv_aload_n hx hb dL_law_964 rfl (lv_at hl 3 rfl) ?_
  refine lv_aload_n hx hb dL_law_965 rfl (lv_at hl 5 rfl) ?_
  refine lv_iload hx hb dL_law_966 (lv_at hl 1 rfl) ?_
  refine lv_iconst (v := (1 : Int32)) hx hb dL_law_968 (by decide) ?_
  refine lv_iadd hx hb dL_law_969 ?_
  refine va_sld hx hb hX hbl hbA hw.2.2.2.1 hi1 dL_law_970 ?_
  refine wr_ci (va_runV (As := [.int (xs (i + (1 : Int32)).toNatClampNeg)]) (rest := []) ⟨hx, hb, hml, hown, hts⟩ (c_X7_reply l D C N S1 z1 mm (xs (i + (1 : Int32)).toNatClampNeg) v S2 e2) (cwV 1 hts gL_law_X7_reply rfl rfl rfl (by decide +kernel) ⟨Nat.le_of_ble_eq_true rfl, Nat.le_of_ble_eq_true rfl⟩) (wd_preV hw ok1 (wF_7 (S := S1) ok1.2) rfl) rfl rfl hl.1 rfl (lv_room (Nat.le_of_ble_eq_true rfl)) dL_law_971 ⟨by show _ + 0 ≤ 601024; omega, by show _ + 0 ≤ 7293034; omega⟩) hw (fun H locs hw => ?_)
  refine lv_istore (lv' := [(6, .int v), (5, .int r), (4, .int i), (3, .ref o), (2, .ref mm), (1, .ref x), (0, .ref b)]) hx hb dL_law_974 hl (by decide) rfl (fun ls hl => ?_)
  refine lv_aload_n hx hb dL_law_976 rfl (lv_at hl 4 rfl) ?_
  refine wr_ci (va_runV (As := []) (rest := []) ⟨hx, hb, hml, hown, hts⟩ (c_X7_thrown l D C N S2 z1 mm r S3 e3) (cwV 0 hts gL_law_X7_thrown rfl rfl rfl (by decide +kernel) ⟨Nat.le_of_ble_eq_true rfl, Nat.le_of_ble_eq_true rfl⟩) (wd_preV hw ok2 (wF_7 (S := S2) ok2.2) rfl) rfl rfl hl.1 rfl (lv_room (Nat.le_of_ble_eq_true rfl)) dL_law_977 ⟨by show _ + 0 ≤ 601024; omega, by show _ + 0 ≤ 7293034; omega⟩) hw (fun H locs hw => ?_)
  refine lv_iload hx hb dL_law_980 (lv_at hl 1 rfl) ?_
  refine lv_icmp_eq (tgt := 987) hx hb dL_law_982 (by decide) (fun _ => ?_) (fun q => absurd rfl q)
  refine lv_iload hx hb dL_law_987 (lv_at hl 1 rfl) ?_
  refine lv_if_ne (tgt := 1004) hx hb dL_law_989 (by decide) (fun _ => ?_) (fun q => ?_)
  · refine lv_goto (tgt := 1298) hx hb dL_law_1004 (by decide) ?_
    exact kk _ _ H locs _ _ ls (by omega) (by omega) hI hw (lv_sub hl [2, 3, 4, 5, 6] rfl)
  · obtain ⟨ok3, in3, h3⟩ := hr0 q
    refine lv_aload_n hx hb dL_law_992 rfl (lv_at hl 3 rfl) ?_
    refine lv_iconst (v := (0 : Int32)) hx hb dL_law_993 (by decide) ?_
    refine wr_lald hx hb hw ok3 (inb_vp in3) dL_law_994 ?_
    refine lv_iload hx hb dL_law_995 (lv_at hl 0 rfl) ?_
    refine lv_i2l (v := v.toInt64) hx hb dL_law_997 rfl ?_
    refine W.lcmp hx hb dL_law_998 ?_
    refine lv_if_eq (tgt := 1004) hx hb dL_law_999 (by decide) (fun _ => ?_) (fun q => absurd ((lg_cmp_eq _ _).mpr h3) q)
    refine lv_goto (tgt := 1298) hx hb dL_law_1004 (by decide) ?_
    exact kk _ _ H locs _ _ ls (by omega) (by omega) hI hw (lv_sub hl [2, 3, 4, 5, 6] rfl)
set_option maxHeartbeats 4000000 in
set_option maxRecDepth 100000 in
theorem lwc_17 {p : Program} (l : Launch) (hlt : l.stackTraces = false) {e : Env} {s : State} {m : MethodId} {b : Nat} {below : List Frame} {meth : Method} {c : Code} {D : va_G} {C : C3} {A : Nat → Prop} {L : Nat} {xs : Nat → Int32} {I : Nat → Nat → Nat → Hp → Prop} {N x mm o z : Nat} {S : Hp} {i : Int32} {H : Heap} {locs : List Loc} {cells slots : Nat} {Q : State → Prop} {ls : Array Slot} (CF : CallFix p m c cL_law 9 s #[Value.ref b] wsL_law RL) (hX : va_X b L xs s s.heap) (hbl : b < s.heap.size) (hbA : ¬ A b) (hi1 : vp_in (i + (1 : Int32)) L) (hop : LwH I N x mm o (f_L_solved N S z x (xs (i + (1 : Int32)).toNatClampNeg) o) (fun T => f_X7_solved N T mm (xs (i + (1 : Int32)).toNatClampNeg))) (hthr : ThrOk A s s.heap) (hw : Wd D C A s.heap S z H locs s) (hl : lv_has ls 9 [(4, .int i), (3, .ref o), (2, .ref mm), (1, .ref x), (0, .ref b)]) (hc4 : cells + 4 ≤ 601024) (hs64 : slots + 64 ≤ 7293034)
    (kk : ∀ (S9 : Hp) (z9 : Nat) (H9 : Heap) (locs9 : List Loc) (cs ss : Nat) (ls9 : Array Slot), cs ≤ cells + 4 → ss ≤ slots + 64 → I x mm o S9 → Wd D C A s.heap S9 z9 H9 locs9 s → lv_has ls9 9 [(4, .int i), (3, .ref o), (2, .ref mm), (1, .ref x), (0, .ref b)] → W p l e room_1 s m #[Value.ref b] below meth c H9 locs9 cs ss Q (F0 m 1298 ls9 [])) : W p l e room_1 s m #[Value.ref b] below meth c H locs cells slots Q (F0 m 1007 ls []) := by
  obtain ⟨hx, hb, hml, hown, hts⟩ := CF
  obtain ⟨r, S1, v, S2, S3, e1, e2, e3, ok1, ok2, hr0, hI⟩ := hop
  refine lv_aload_n hx hb dL_law_1007 rfl (lv_at hl 3 rfl) ?_
  refine lv_aload_n hx hb dL_law_1008 rfl (lv_at hl 4 rfl) ?_
  refine lv_iload hx hb dL_law_1009 (lv_at hl 0 rfl) ?_
  refine lv_iconst (v := (1 : Int32)) hx hb dL_law_1011 (by decide) ?_
  refine lv_iadd hx hb dL_law_1012 ?_
  refine va_sld hx hb hX hbl hbA hw.2.2.2.1 hi1 dL_law_1013 ?_
  refine lv_aload_n hx hb dL_law_1014 rfl (lv_at hl 1 rfl) ?_
  refine wr_ch (vx_runSX (As := [.ref x, .int (xs (i + (1 : Int32)).toNatClampNeg), .ref o]) (rest := []) ⟨hx, hb, hml, hown, hts⟩ (h_L_solved l hlt D C N S z x (xs (i + (1 : Int32)).toNatClampNeg) o r S1 e1) (vx_cwSW 3 hts gL_law_L_solved rfl rfl rfl (by decide +kernel) ⟨Nat.le_of_ble_eq_true rfl, Nat.le_of_ble_eq_true rfl⟩) (wd_preST hw hthr) rfl rfl hl.1 rfl (lv_room (Nat.le_of_ble_eq_true rfl)) dL_law_1015 ⟨by show _ + 1 ≤ 601024; omega, by show _ + 6 ≤ 7293034; omega⟩) hw (fun z1 H locs hw => ?_)
  refine lv_istore (lv' := [(5, .int r), (4, .int i), (3, .ref o), (2, .ref mm), (1, .ref x), (0, .ref b)]) hx hb dL_law_1018 hl (by decide) rfl (fun ls hl => ?_)
  refine lv_aload_n hx hb dL_law_1020 rfl (lv_at hl 3 rfl) ?_
  refine lv_aload_n hx hb dL_law_1021 rfl (lv_at hl 5 rfl) ?_
  refine lv_iload hx hb dL_law_1022 (lv_at hl 1 rfl) ?_
  refine lv_iconst (v := (1 : Int32)) hx hb dL_law_1024 (by decide) ?_
  refine lv_iadd hx hb dL_law_1025 ?_
  refine va_sld hx hb hX hbl hbA hw.2.2.2.1 hi1 dL_law_1026 ?_
  refine wr_ci (va_runV (As := [.int (xs (i + (1 : Int32)).toNatClampNeg)]) (rest := []) ⟨hx, hb, hml, hown, hts⟩ (c_X7_solved l D C N S1 z1 mm (xs (i + (1 : Int32)).toNatClampNeg) v S2 e2) (cwV 1 hts gL_law_X7_solved rfl rfl rfl (by decide +kernel) ⟨Nat.le_of_ble_eq_true rfl, Nat.le_of_ble_eq_true rfl⟩) (wd_preV hw ok1 (wF_7 (S := S1) ok1.2) rfl) rfl rfl hl.1 rfl (lv_room (Nat.le_of_ble_eq_true rfl)) dL_law_1027 ⟨by show _ + 0 ≤ 601024; omega, by show _ + 0 ≤ 7293034; omega⟩) hw (fun H locs hw => ?_)
  refine lv_istore (lv' := [(6, .int v), (5, .int r), (4, .int i), (3, .ref o), (2, .ref mm), (1, .ref x), (0, .ref b)]) hx hb dL_law_1030 hl (by decide) rfl (fun ls hl => ?_)
  refine lv_aload_n hx hb dL_law_1032 rfl (lv_at hl 4 rfl) ?_
  refine wr_ci (va_runV (As := []) (rest := []) ⟨hx, hb, hml, hown, hts⟩ (c_X7_thrown l D C N S2 z1 mm r S3 e3) (cwV 0 hts gL_law_X7_thrown rfl rfl rfl (by decide +kernel) ⟨Nat.le_of_ble_eq_true rfl, Nat.le_of_ble_eq_true rfl⟩) (wd_preV hw ok2 (wF_7 (S := S2) ok2.2) rfl) rfl rfl hl.1 rfl (lv_room (Nat.le_of_ble_eq_true rfl)) dL_law_1033 ⟨by show _ + 0 ≤ 601024; omega, by show _ + 0 ≤ 7293034; omega⟩) hw (fun H locs hw => ?_)
  refine lv_iload hx hb dL_law_1036 (lv_at hl 1 rfl) ?_
  refine lv_icmp_eq (tgt := 1043) hx hb dL_law_1038 (by decide) (fun _ => ?_) (fun q => absurd rfl q)
  refine lv_iload hx hb dL_law_1043 (lv_at hl 1 rfl) ?_
  refine lv_if_ne (tgt := 1060) hx hb dL_law_1045 (by decide) (fun _ => ?_) (fun q => ?_)
  · refine lv_goto (tgt := 1298) hx hb dL_law_1060 (by decide) ?_
    exact kk _ _ H locs _ _ ls (by omega) (by omega) hI hw (lv_sub hl [2, 3, 4, 5, 6] rfl)
  · obtain ⟨ok3, in3, h3⟩ := hr0 q
    refine lv_aload_n hx hb dL_law_1048 rfl (lv_at hl 3 rfl) ?_
    refine lv_iconst (v := (0 : Int32)) hx hb dL_law_1049 (by decide) ?_
    refine wr_lald hx hb hw ok3 (inb_vp in3) dL_law_1050 ?_
    refine lv_iload hx hb dL_law_1051 (lv_at hl 0 rfl) ?_
    refine lv_i2l (v := v.toInt64) hx hb dL_law_1053 rfl ?_
    refine W.lcmp hx hb dL_law_1054 ?_
    refine lv_if_eq (tgt := 1060) hx hb dL_law_1055 (by decide) (fun _ => ?_) (fun q => absurd ((lg_cmp_eq _ _).mpr h3) q)
    refine lv_goto (tgt := 1298) hx hb dL_law_1060 (by decide) ?_
    exact kk _ _ H locs _ _ ls (by omega) (by omega) hI hw (lv_sub hl [2, 3, 4, 5, 6] rfl)
set_option maxHeartbeats 4000000 in
set_option maxRecDepth 100000 in
theorem lwc_18 {p : Program} (l : Launch) (hlt : l.stackTraces = false) {e : Env} {s : State} {m : MethodId} {b : Nat} {below : List Frame} {meth : Method} {c : Code} {D : va_G} {C : C3} {A : Nat → Prop} {L : Nat} {xs : Nat → Int32} {I : Nat → Nat → Nat → Hp → Prop} {N x mm o z : Nat} {S : Hp} {i : Int32} {H : Heap} {locs : List Loc} {cells slots : Nat} {Q : State → Prop} {ls : Array Slot} (CF : CallFix p m c cL_law 9 s #[Value.ref b] wsL_law RL) (hX : va_X b L xs s s.heap) (hbl : b < s.heap.size) (hbA : ¬ A b) (hi1 : vp_in (i + (1 : Int32)) L) (hop : LwH I N x mm o (f_L_ifMoved N S z x (xs (i + (1 : Int32)).toNatClampNeg) o) (fun T => f_X7_ifMoved N T mm (xs (i + (1 : Int32)).toNatClampNeg))) (hthr : ThrOk A s s.heap) (hw : Wd D C A s.heap S z H locs s) (hl : lv_has ls 9 [(4, .int i), (3, .ref o), (2, .ref mm), (1, .ref x), (0, .ref b)]) (hc4 : cells + 4 ≤ 601024) (hs64 : slots + 64 ≤ 7293034)
    (kk : ∀ (S9 : Hp) (z9 : Nat) (H9 : Heap) (locs9 : List Loc) (cs ss : Nat) (ls9 : Array Slot), cs ≤ cells + 4 → ss ≤ slots + 64 → I x mm o S9 → Wd D C A s.heap S9 z9 H9 locs9 s → lv_has ls9 9 [(4, .int i), (3, .ref o), (2, .ref mm), (1, .ref x), (0, .ref b)] → W p l e room_1 s m #[Value.ref b] below meth c H9 locs9 cs ss Q (F0 m 1298 ls9 [])) : W p l e room_1 s m #[Value.ref b] below meth c H locs cells slots Q (F0 m 1063 ls []) := by
  obtain ⟨hx, hb, hml, hown, hts⟩ := CF
  obtain ⟨r, S1, v, S2, S3, e1, e2, e3, ok1, ok2, hr0, hI⟩ := hop
  refine lv_aload_n hx hb dL_law_1063 rfl (lv_at hl 3 rfl) ?_
  refine lv_aload_n hx hb dL_law_1064 rfl (lv_at hl 4 rfl) ?_
  refine lv_iload hx hb dL_law_1065 (lv_at hl 0 rfl) ?_
  refine lv_iconst (v := (1 : Int32)) hx hb dL_law_1067 (by decide) ?_
  refine lv_iadd hx hb dL_law_1068 ?_
  refine va_sld hx hb hX hbl hbA hw.2.2.2.1 hi1 dL_law_1069 ?_
  refine lv_aload_n hx hb dL_law_1070 rfl (lv_at hl 1 rfl) ?_
  refine wr_ch (vx_runSX (As := [.ref x, .int (xs (i + (1 : Int32)).toNatClampNeg), .ref o]) (rest := []) ⟨hx, hb, hml, hown, hts⟩ (h_L_ifMoved l hlt D C N S z x (xs (i + (1 : Int32)).toNatClampNeg) o r S1 e1) (vx_cwSW 3 hts gL_law_L_ifMoved rfl rfl rfl (by decide +kernel) ⟨Nat.le_of_ble_eq_true rfl, Nat.le_of_ble_eq_true rfl⟩) (wd_preST hw hthr) rfl rfl hl.1 rfl (lv_room (Nat.le_of_ble_eq_true rfl)) dL_law_1071 ⟨by show _ + 1 ≤ 601024; omega, by show _ + 6 ≤ 7293034; omega⟩) hw (fun z1 H locs hw => ?_)
  refine lv_istore (lv' := [(5, .int r), (4, .int i), (3, .ref o), (2, .ref mm), (1, .ref x), (0, .ref b)]) hx hb dL_law_1074 hl (by decide) rfl (fun ls hl => ?_)
  refine lv_aload_n hx hb dL_law_1076 rfl (lv_at hl 3 rfl) ?_
  refine lv_aload_n hx hb dL_law_1077 rfl (lv_at hl 5 rfl) ?_
  refine lv_iload hx hb dL_law_1078 (lv_at hl 1 rfl) ?_
  refine lv_iconst (v := (1 : Int32)) hx hb dL_law_1080 (by decide) ?_
  refine lv_iadd hx hb dL_law_1081 ?_
  refine va_sld hx hb hX hbl hbA hw.2.2.2.1 hi1 dL_law_1082 ?_
  refine wr_ci (va_runV (As := [.int (xs (i + (1 : Int32)).toNatClampNeg)]) (rest := []) ⟨hx, hb, hml, hown, hts⟩ (c_X7_ifMoved l D C N S1 z1 mm (xs (i + (1 : Int32)).toNatClampNeg) v S2 e2) (cwV 1 hts gL_law_X7_ifMoved rfl rfl rfl (by decide +kernel) ⟨Nat.le_of_ble_eq_true rfl, Nat.le_of_ble_eq_true rfl⟩) (wd_preV hw ok1 (wF_7 (S := S1) ok1.2) rfl) rfl rfl hl.1 rfl (lv_room (Nat.le_of_ble_eq_true rfl)) dL_law_1083 ⟨by show _ + 0 ≤ 601024; omega, by show _ + 0 ≤ 7293034; omega⟩) hw (fun H locs hw => ?_)
  refine lv_istore (lv' := [(6, .int v), (5, .int r), (4, .int i), (3, .ref o), (2, .ref mm), (1, .ref x), (0, .ref b)]) hx hb dL_law_1086 hl (by decide) rfl (fun ls hl => ?_)
  refine lv_aload_n hx hb dL_law_1088 rfl (lv_at hl 4 rfl) ?_
  refine wr_ci (va_runV (As := []) (rest := []) ⟨hx, hb, hml, hown, hts⟩ (c_X7_thrown l D C N S2 z1 mm r S3 e3) (cwV 0 hts gL_law_X7_thrown rfl rfl rfl (by decide +kernel) ⟨Nat.le_of_ble_eq_true rfl, Nat.le_of_ble_eq_true rfl⟩) (wd_preV hw ok2 (wF_7 (S := S2) ok2.2) rfl) rfl rfl hl.1 rfl (lv_room (Nat.le_of_ble_eq_true rfl)) dL_law_1089 ⟨by show _ + 0 ≤ 601024; omega, by show _ + 0 ≤ 7293034; omega⟩) hw (fun H locs hw => ?_)
  refine lv_iload hx hb dL_law_1092 (lv_at hl 1 rfl) ?_
  refine lv_icmp_eq (tgt := 1099) hx hb dL_law_1094 (by decide) (fun _ => ?_) (fun q => absurd rfl q)
  refine lv_iload hx hb dL_law_1099 (lv_at hl 1 rfl) ?_
  refine lv_if_ne (tgt := 1116) hx hb dL_law_1101 (by decide) (fun _ => ?_) (fun q => ?_)
  · refine lv_goto (tgt := 1298) hx hb dL_law_1116 (by decide) ?_
    exact kk _ _ H locs _ _ ls (by omega) (by omega) hI hw (lv_sub hl [2, 3, 4, 5, 6] rfl)
  · obtain ⟨ok3, in3, h3⟩ := hr0 q
    refine lv_aload_n hx hb dL_law_1104 rfl (lv_at hl 3 rfl) ?_
    refine lv_iconst (v := (0 : Int32)) hx hb dL_law_1105 (by decide) ?_
    refine wr_lald hx hb hw ok3 (inb_vp in3) dL_law_1106 ?_
    refine lv_iload hx hb dL_law_1107 (lv_at hl 0 rfl) ?_
    refine lv_i2l (v := v.toInt64) hx hb dL_law_1109 rfl ?_
    refine W.lcmp hx hb dL_law_1110 ?_
    refine lv_if_eq (tgt := 1116) hx hb dL_law_1111 (by decide) (fun _ => ?_) (fun q => absurd ((lg_cmp_eq _ _).mpr h3) q)
    refine lv_goto (tgt := 1298) hx hb dL_law_1116 (by decide) ?_
    exact kk _ _ H locs _ _ ls (by omega) (by omega) hI hw (lv_sub hl [2, 3, 4, 5, 6] rfl)
set_option maxHeartbeats 4000000 in
set_option maxRecDepth 100000 in
theorem lwc_19 {p : Program} (l : Launch) (hlt : l.stackTraces = false) {e : Env} {s : State} {m : MethodId} {b : Nat} {below : List Frame} {meth : Method} {c : Code} {D : va_G} {C : C3} {A : Nat → Prop} {L : Nat} {xs : Nat → Int32} {I : Nat → Nat → Nat → Hp → Prop} {N x mm o z : Nat} {S : Hp} {i : Int32} {H : Heap} {locs : List Loc} {cells slots : Nat} {Q : State → Prop} {ls : Array Slot} (CF : CallFix p m c cL_law 9 s #[Value.ref b] wsL_law RL) (hX : va_X b L xs s s.heap) (hbl : b < s.heap.size) (hbA : ¬ A b) (hi1 : vp_in (i + (1 : Int32)) L) (hi2 : vp_in (i + (2 : Int32)) L) (hop : LwH I N x mm o (f_L_ifPlayed N S z x (xs (i + (1 : Int32)).toNatClampNeg) (xs (i + (2 : Int32)).toNatClampNeg) o) (fun T => f_X7_ifPlayed N T mm (xs (i + (1 : Int32)).toNatClampNeg) (xs (i + (2 : Int32)).toNatClampNeg))) (hthr : ThrOk A s s.heap) (hw : Wd D C A s.heap S z H locs s) (hl : lv_has ls 9 [(4, .int i), (3, .ref o), (2, .ref mm), (1, .ref x), (0, .ref b)]) (hc4 : cells + 4 ≤ 601024) (hs64 : slots + 64 ≤ 7293034)
    (kk : ∀ (S9 : Hp) (z9 : Nat) (H9 : Heap) (locs9 : List Loc) (cs ss : Nat) (ls9 : Array Slot), cs ≤ cells + 4 → ss ≤ slots + 64 → I x mm o S9 → Wd D C A s.heap S9 z9 H9 locs9 s → lv_has ls9 9 [(4, .int i), (3, .ref o), (2, .ref mm), (1, .ref x), (0, .ref b)] → W p l e room_1 s m #[Value.ref b] below meth c H9 locs9 cs ss Q (F0 m 1298 ls9 [])) : W p l e room_1 s m #[Value.ref b] below meth c H locs cells slots Q (F0 m 1119 ls []) := by
  obtain ⟨hx, hb, hml, hown, hts⟩ := CF
  obtain ⟨r, S1, v, S2, S3, e1, e2, e3, ok1, ok2, hr0, hI⟩ := hop
  refine lv_aload_n hx hb dL_law_1119 rfl (lv_at hl 3 rfl) ?_
  refine lv_aload_n hx hb dL_law_1120 rfl (lv_at hl 4 rfl) ?_
  refine lv_iload hx hb dL_law_1121 (lv_at hl 0 rfl) ?_
  refine lv_iconst (v := (1 : Int32)) hx hb dL_law_1123 (by decide) ?_
  refine lv_iadd hx hb dL_law_1124 ?_
  refine va_sld hx hb hX hbl hbA hw.2.2.2.1 hi1 dL_law_1125 ?_
  refine lv_aload_n hx hb dL_law_1126 rfl (lv_at hl 4 rfl) ?_
  refine lv_iload hx hb dL_law_1127 (lv_at hl 0 rfl) ?_
  refine lv_iconst (v := (2 : Int32)) hx hb dL_law_1129 (by decide) ?_
  refine lv_iadd hx hb dL_law_1130 ?_
  refine va_sld hx hb hX hbl hbA hw.2.2.2.1 hi2 dL_law_1131 ?_
  refine lv_aload_n hx hb dL_law_1132 rfl (lv_at hl 1 rfl) ?_
  refine wr_ch (vx_runSX (As := [.ref x, .int (xs (i + (1 : Int32)).toNatClampNeg), .int (xs (i + (2 : Int32)).toNatClampNeg), .ref o]) (rest := []) ⟨hx, hb, hml, hown, hts⟩ (h_L_ifPlayed l hlt D C N S z x (xs (i + (1 : Int32)).toNatClampNeg) (xs (i + (2 : Int32)).toNatClampNeg) o r S1 e1) (vx_cwSW 4 hts gL_law_L_ifPlayed rfl rfl rfl (by decide +kernel) ⟨Nat.le_of_ble_eq_true rfl, Nat.le_of_ble_eq_true rfl⟩) (wd_preST hw hthr) rfl rfl hl.1 rfl (lv_room (Nat.le_of_ble_eq_true rfl)) dL_law_1133 ⟨by show _ + 1 ≤ 601024; omega, by show _ + 6 ≤ 7293034; omega⟩) hw (fun z1 H locs hw => ?_)
  refine lv_istore (lv' := [(5, .int r), (4, .int i), (3, .ref o), (2, .ref mm), (1, .ref x), (0, .ref b)]) hx hb dL_law_1136 hl (by decide) rfl (fun ls hl => ?_)
  refine lv_aload_n hx hb dL_law_1138 rfl (lv_at hl 3 rfl) ?_
  refine lv_aload_n hx hb dL_law_1139 rfl (lv_at hl 5 rfl) ?_
  refine lv_iload hx hb dL_law_1140 (lv_at hl 1 rfl) ?_
  refine lv_iconst (v := (1 : Int32)) hx hb dL_law_1142 (by decide) ?_
  refine lv_iadd hx hb dL_law_1143 ?_
  refine va_sld hx hb hX hbl hbA hw.2.2.2.1 hi1 dL_law_1144 ?_
  refine lv_aload_n hx hb dL_law_1145 rfl (lv_at hl 5 rfl) ?_
  refine lv_iload hx hb dL_law_1146 (lv_at hl 1 rfl) ?_
  refine lv_iconst (v := (2 : Int32)) hx hb dL_law_1148 (by decide) ?_
  refine lv_iadd hx hb dL_law_1149 ?_
  refine va_sld hx hb hX hbl hbA hw.2.2.2.1 hi2 dL_law_1150 ?_
  refine wr_ci (va_runV (As := [.int (xs (i + (1 : Int32)).toNatClampNeg), .int (xs (i + (2 : Int32)).toNatClampNeg)]) (rest := []) ⟨hx, hb, hml, hown, hts⟩ (c_X7_ifPlayed l D C N S1 z1 mm (xs (i + (1 : Int32)).toNatClampNeg) (xs (i + (2 : Int32)).toNatClampNeg) v S2 e2) (cwV 2 hts gL_law_X7_ifPlayed rfl rfl rfl (by decide +kernel) ⟨Nat.le_of_ble_eq_true rfl, Nat.le_of_ble_eq_true rfl⟩) (wd_preV hw ok1 (wF_7 (S := S1) ok1.2) rfl) rfl rfl hl.1 rfl (lv_room (Nat.le_of_ble_eq_true rfl)) dL_law_1151 ⟨by show _ + 0 ≤ 601024; omega, by show _ + 0 ≤ 7293034; omega⟩) hw (fun H locs hw => ?_)
  refine lv_istore (lv' := [(6, .int v), (5, .int r), (4, .int i), (3, .ref o), (2, .ref mm), (1, .ref x), (0, .ref b)]) hx hb dL_law_1154 hl (by decide) rfl (fun ls hl => ?_)
  refine lv_aload_n hx hb dL_law_1156 rfl (lv_at hl 4 rfl) ?_
  refine wr_ci (va_runV (As := []) (rest := []) ⟨hx, hb, hml, hown, hts⟩ (c_X7_thrown l D C N S2 z1 mm r S3 e3) (cwV 0 hts gL_law_X7_thrown rfl rfl rfl (by decide +kernel) ⟨Nat.le_of_ble_eq_true rfl, Nat.le_of_ble_eq_true rfl⟩) (wd_preV hw ok2 (wF_7 (S := S2) ok2.2) rfl) rfl rfl hl.1 rfl (lv_room (Nat.le_of_ble_eq_true rfl)) dL_law_1157 ⟨by show _ + 0 ≤ 601024; omega, by show _ + 0 ≤ 7293034; omega⟩) hw (fun H locs hw => ?_)
  refine lv_iload hx hb dL_law_1160 (lv_at hl 1 rfl) ?_
  refine lv_icmp_eq (tgt := 1167) hx hb dL_law_1162 (by decide) (fun _ => ?_) (fun q => absurd rfl q)
  refine lv_iload hx hb dL_law_1167 (lv_at hl 1 rfl) ?_
  refine lv_if_ne (tgt := 1184) hx hb dL_law_1169 (by decide) (fun _ => ?_) (fun q => ?_)
  · refine lv_goto (tgt := 1298) hx hb dL_law_1184 (by decide) ?_
    exact kk _ _ H locs _ _ ls (by omega) (by omega) hI hw (lv_sub hl [2, 3, 4, 5, 6] rfl)
  · obtain ⟨ok3, in3, h3⟩ := hr0 q
    refine lv_aload_n hx hb dL_law_1172 rfl (lv_at hl 3 rfl) ?_
    refine lv_iconst (v := (0 : Int32)) hx hb dL_law_1173 (by decide) ?_
    refine wr_lald hx hb hw ok3 (inb_vp in3) dL_law_1174 ?_
    refine lv_iload hx hb dL_law_1175 (lv_at hl 0 rfl) ?_
    refine lv_i2l (v := v.toInt64) hx hb dL_law_1177 rfl ?_
    refine W.lcmp hx hb dL_law_1178 ?_
    refine lv_if_eq (tgt := 1184) hx hb dL_law_1179 (by decide) (fun _ => ?_) (fun q => absurd ((lg_cmp_eq _ _).mpr h3) q)
    refine lv_goto (tgt := 1298) hx hb dL_law_1184 (by decide) ?_
    exact kk _ _ H locs _ _ ls (by omega) (by omega) hI hw (lv_sub hl [2, 3, 4, 5, 6] rfl)
set_option maxHeartbeats 4000000 in
set_option maxRecDepth 100000 in
theorem lwc_20 {p : Program} (l : Launch) (hlt : l.stackTraces = false) {e : Env} {s : State} {m : MethodId} {b : Nat} {below : List Frame} {meth : Method} {c : Code} {D : va_G} {C : C3} {A : Nat → Prop} {L : Nat} {xs : Nat → Int32} {I : Nat → Nat → Nat → Hp → Prop} {N x mm o z : Nat} {S : Hp} {i : Int32} {H : Heap} {locs : List Loc} {cells slots : Nat} {Q : State → Prop} {ls : Array Slot} (CF : CallFix p m c cL_law 9 s #[Value.ref b] wsL_law RL) (hX : va_X b L xs s s.heap) (hbl : b < s.heap.size) (hbA : ¬ A b) (hi1 : vp_in (i + (1 : Int32)) L) (hop : LwH I N x mm o (f_L_count N S z x (xs (i + (1 : Int32)).toNatClampNeg) o) (fun T => f_X7_count N T mm (xs (i + (1 : Int32)).toNatClampNeg))) (hthr : ThrOk A s s.heap) (hw : Wd D C A s.heap S z H locs s) (hl : lv_has ls 9 [(4, .int i), (3, .ref o), (2, .ref mm), (1, .ref x), (0, .ref b)]) (hc4 : cells + 4 ≤ 601024) (hs64 : slots + 64 ≤ 7293034)
    (kk : ∀ (S9 : Hp) (z9 : Nat) (H9 : Heap) (locs9 : List Loc) (cs ss : Nat) (ls9 : Array Slot), cs ≤ cells + 4 → ss ≤ slots + 64 → I x mm o S9 → Wd D C A s.heap S9 z9 H9 locs9 s → lv_has ls9 9 [(4, .int i), (3, .ref o), (2, .ref mm), (1, .ref x), (0, .ref b)] → W p l e room_1 s m #[Value.ref b] below meth c H9 locs9 cs ss Q (F0 m 1298 ls9 [])) : W p l e room_1 s m #[Value.ref b] below meth c H locs cells slots Q (F0 m 1187 ls []) := by
  obtain ⟨hx, hb, hml, hown, hts⟩ := CF
  obtain ⟨r, S1, v, S2, S3, e1, e2, e3, ok1, ok2, hr0, hI⟩ := hop
  refine lv_aload_n hx hb dL_law_1187 rfl (lv_at hl 3 rfl) ?_
  refine lv_aload_n hx hb dL_law_1188 rfl (lv_at hl 4 rfl) ?_
  refine lv_iload hx hb dL_law_1189 (lv_at hl 0 rfl) ?_
  refine lv_iconst (v := (1 : Int32)) hx hb dL_law_1191 (by decide) ?_
  refine lv_iadd hx hb dL_law_1192 ?_
  refine va_sld hx hb hX hbl hbA hw.2.2.2.1 hi1 dL_law_1193 ?_
  refine lv_aload_n hx hb dL_law_1194 rfl (lv_at hl 1 rfl) ?_
  refine wr_ch (vx_runSX (As := [.ref x, .int (xs (i + (1 : Int32)).toNatClampNeg), .ref o]) (rest := []) ⟨hx, hb, hml, hown, hts⟩ (h_L_count l hlt D C N S z x (xs (i + (1 : Int32)).toNatClampNeg) o r S1 e1) (vx_cwSW 3 hts gL_law_L_count rfl rfl rfl (by decide +kernel) ⟨Nat.le_of_ble_eq_true rfl, Nat.le_of_ble_eq_true rfl⟩) (wd_preST hw hthr) rfl rfl hl.1 rfl (lv_room (Nat.le_of_ble_eq_true rfl)) dL_law_1195 ⟨by show _ + 1 ≤ 601024; omega, by show _ + 6 ≤ 7293034; omega⟩) hw (fun z1 H locs hw => ?_)
  refine lv_istore (lv' := [(5, .int r), (4, .int i), (3, .ref o), (2, .ref mm), (1, .ref x), (0, .ref b)]) hx hb dL_law_1198 hl (by decide) rfl (fun ls hl => ?_)
  refine lv_aload_n hx hb dL_law_1200 rfl (lv_at hl 3 rfl) ?_
  refine lv_aload_n hx hb dL_law_1201 rfl (lv_at hl 5 rfl) ?_
  refine lv_iload hx hb dL_law_1202 (lv_at hl 1 rfl) ?_
  refine lv_iconst (v := (1 : Int32)) hx hb dL_law_1204 (by decide) ?_
  refine lv_iadd hx hb dL_law_1205 ?_
  refine va_sld hx hb hX hbl hbA hw.2.2.2.1 hi1 dL_law_1206 ?_
  refine wr_ci (va_runV (As := [.int (xs (i + (1 : Int32)).toNatClampNeg)]) (rest := []) ⟨hx, hb, hml, hown, hts⟩ (c_X7_count l D C N S1 z1 mm (xs (i + (1 : Int32)).toNatClampNeg) v S2 e2) (cwV 1 hts gL_law_X7_count rfl rfl rfl (by decide +kernel) ⟨Nat.le_of_ble_eq_true rfl, Nat.le_of_ble_eq_true rfl⟩) (wd_preV hw ok1 (wF_7 (S := S1) ok1.2) rfl) rfl rfl hl.1 rfl (lv_room (Nat.le_of_ble_eq_true rfl)) dL_law_1207 ⟨by show _ + 0 ≤ 601024; omega, by show _ + 0 ≤ 7293034; omega⟩) hw (fun H locs hw => ?_)
  refine lv_istore (lv' := [(6, .int v), (5, .int r), (4, .int i), (3, .ref o), (2, .ref mm), (1, .ref x), (0, .ref b)]) hx hb dL_law_1210 hl (by decide) rfl (fun ls hl => ?_)
  refine lv_aload_n hx hb dL_law_1212 rfl (lv_at hl 4 rfl) ?_
  refine wr_ci (va_runV (As := []) (rest := []) ⟨hx, hb, hml, hown, hts⟩ (c_X7_thrown l D C N S2 z1 mm r S3 e3) (cwV 0 hts gL_law_X7_thrown rfl rfl rfl (by decide +kernel) ⟨Nat.le_of_ble_eq_true rfl, Nat.le_of_ble_eq_true rfl⟩) (wd_preV hw ok2 (wF_7 (S := S2) ok2.2) rfl) rfl rfl hl.1 rfl (lv_room (Nat.le_of_ble_eq_true rfl)) dL_law_1213 ⟨by show _ + 0 ≤ 601024; omega, by show _ + 0 ≤ 7293034; omega⟩) hw (fun H locs hw => ?_)
  refine lv_iload hx hb dL_law_1216 (lv_at hl 1 rfl) ?_
  refine lv_icmp_eq (tgt := 1223) hx hb dL_law_1218 (by decide) (fun _ => ?_) (fun q => absurd rfl q)
  refine lv_iload hx hb dL_law_1223 (lv_at hl 1 rfl) ?_
  refine lv_if_ne (tgt := 1240) hx hb dL_law_1225 (by decide) (fun _ => ?_) (fun q => ?_)
  · refine lv_goto (tgt := 1298) hx hb dL_law_1240 (by decide) ?_
    exact kk _ _ H locs _ _ ls (by omega) (by omega) hI hw (lv_sub hl [2, 3, 4, 5, 6] rfl)
  · obtain ⟨ok3, in3, h3⟩ := hr0 q
    refine lv_aload_n hx hb dL_law_1228 rfl (lv_at hl 3 rfl) ?_
    refine lv_iconst (v := (0 : Int32)) hx hb dL_law_1229 (by decide) ?_
    refine wr_lald hx hb hw ok3 (inb_vp in3) dL_law_1230 ?_
    refine lv_iload hx hb dL_law_1231 (lv_at hl 0 rfl) ?_
    refine lv_i2l (v := v.toInt64) hx hb dL_law_1233 rfl ?_
    refine W.lcmp hx hb dL_law_1234 ?_
    refine lv_if_eq (tgt := 1240) hx hb dL_law_1235 (by decide) (fun _ => ?_) (fun q => absurd ((lg_cmp_eq _ _).mpr h3) q)
    refine lv_goto (tgt := 1298) hx hb dL_law_1240 (by decide) ?_
    exact kk _ _ H locs _ _ ls (by omega) (by omega) hI hw (lv_sub hl [2, 3, 4, 5, 6] rfl)
set_option maxHeartbeats 4000000 in
set_option maxRecDepth 100000 in
theorem lwc_21 {p : Program} (l : Launch) (hlt : l.stackTraces = false) {e : Env} {s : State} {m : MethodId} {b : Nat} {below : List Frame} {meth : Method} {c : Code} {D : va_G} {C : C3} {A : Nat → Prop} {L : Nat} {xs : Nat → Int32} {I : Nat → Nat → Nat → Hp → Prop} {N x mm o z : Nat} {S : Hp} {i : Int32} {H : Heap} {locs : List Loc} {cells slots : Nat} {Q : State → Prop} {ls : Array Slot} (CF : CallFix p m c cL_law 9 s #[Value.ref b] wsL_law RL) (hX : va_X b L xs s s.heap) (hbl : b < s.heap.size) (hbA : ¬ A b) (hop : ok S x 6 ∧ LwD I x mm o (f_X6_weightShare N S x) (fun T => f_X7_weightShare N T mm)) (hthr : ThrOk A s s.heap) (hw : Wd D C A s.heap S z H locs s) (hl : lv_has ls 9 [(4, .int i), (3, .ref o), (2, .ref mm), (1, .ref x), (0, .ref b)]) (hc4 : cells + 4 ≤ 601024) (hs64 : slots + 64 ≤ 7293034)
    (kk : ∀ (S9 : Hp) (z9 : Nat) (H9 : Heap) (locs9 : List Loc) (cs ss : Nat) (ls9 : Array Slot), cs ≤ cells + 4 → ss ≤ slots + 64 → I x mm o S9 → Wd D C A s.heap S9 z9 H9 locs9 s → lv_has ls9 9 [(4, .int i), (3, .ref o), (2, .ref mm), (1, .ref x), (0, .ref b)] → W p l e room_1 s m #[Value.ref b] below meth c H9 locs9 cs ss Q (F0 m 1298 ls9 [])) : W p l e room_1 s m #[Value.ref b] below meth c H locs cells slots Q (F0 m 1243 ls []) := by
  obtain ⟨hx, hb, hml, hown, hts⟩ := CF
  obtain ⟨ok0, v, w, S1, S2, e1, e2, hd, ok1, hI⟩ := hop
  refine lv_aload_n hx hb dL_law_1243 rfl (lv_at hl 3 rfl) ?_
  refine wr_cd (va_runV (As := []) (rest := []) ⟨hx, hb, hml, hown, hts⟩ (c_X6_weightShare l D C N S z x v S1 e1) (cwV 0 hts gL_law_X6_weightShare rfl rfl rfl (by decide +kernel) ⟨Nat.le_of_ble_eq_true rfl, Nat.le_of_ble_eq_true rfl⟩) (wd_preV hw ok0 (wF_6 (S := S) ok0.2) rfl) rfl rfl hl.1 rfl (lv_room (Nat.le_of_ble_eq_true rfl)) dL_law_1244 ⟨by show _ + 0 ≤ 601024; omega, by show _ + 0 ≤ 7293034; omega⟩) hw (fun H locs hw => ?_)
  refine lv_dstore (lv' := [(5, .double v), (4, .int i), (3, .ref o), (2, .ref mm), (1, .ref x), (0, .ref b)]) hx hb dL_law_1247 hl (by decide) rfl (fun ls hl => ?_)
  refine lv_aload_n hx hb dL_law_1249 rfl (lv_at hl 3 rfl) ?_
  refine wr_cd (va_runV (As := []) (rest := []) ⟨hx, hb, hml, hown, hts⟩ (c_X7_weightShare l D C N S1 z mm w S2 e2) (cwV 0 hts gL_law_X7_weightShare rfl rfl rfl (by decide +kernel) ⟨Nat.le_of_ble_eq_true rfl, Nat.le_of_ble_eq_true rfl⟩) (wd_preV hw ok1 (wF_7 (S := S1) ok1.2) rfl) rfl rfl hl.1 rfl (lv_room (Nat.le_of_ble_eq_true rfl)) dL_law_1250 ⟨by show _ + 0 ≤ 601024; omega, by show _ + 0 ≤ 7293034; omega⟩) hw (fun H locs hw => ?_)
  refine lv_dstore (lv' := [(7, .double w), (5, .double v), (4, .int i), (3, .ref o), (2, .ref mm), (1, .ref x), (0, .ref b)]) hx hb dL_law_1253 hl (by decide) rfl (fun ls hl => ?_)
  refine lv_dload hx hb dL_law_1255 (lv_at hl 1 rfl) ?_
  refine lv_dload hx hb dL_law_1257 (lv_at hl 0 rfl) ?_
  refine lv_dcmp hx hb dL_law_1259 ?_
  refine lv_if_eq (tgt := 1281) hx hb dL_law_1260 (by decide) (fun _ => ?_) (fun q => absurd (by rw [hd]; rfl) q)
  refine lv_goto (tgt := 1298) hx hb dL_law_1281 (by decide) ?_
  exact kk _ _ H locs _ _ ls (by omega) (by omega) hI hw (lv_sub hl [2, 3, 4, 5, 6] rfl)
set_option maxHeartbeats 4000000 in
set_option maxRecDepth 100000 in
theorem lwc_22 {p : Program} (l : Launch) (hlt : l.stackTraces = false) {e : Env} {s : State} {m : MethodId} {b : Nat} {below : List Frame} {meth : Method} {c : Code} {D : va_G} {C : C3} {A : Nat → Prop} {L : Nat} {xs : Nat → Int32} {I : Nat → Nat → Nat → Hp → Prop} {N x mm o z : Nat} {S : Hp} {i : Int32} {H : Heap} {locs : List Loc} {cells slots : Nat} {Q : State → Prop} {ls : Array Slot} (CF : CallFix p m c cL_law 9 s #[Value.ref b] wsL_law RL) (hX : va_X b L xs s s.heap) (hbl : b < s.heap.size) (hbA : ¬ A b) (hop : ok S x 6 ∧ LwJ I x mm o (f_X6_digest N S x) (fun T => f_X7_digest N T mm)) (hthr : ThrOk A s s.heap) (hw : Wd D C A s.heap S z H locs s) (hl : lv_has ls 9 [(4, .int i), (3, .ref o), (2, .ref mm), (1, .ref x), (0, .ref b)]) (hc4 : cells + 4 ≤ 601024) (hs64 : slots + 64 ≤ 7293034)
    (kk : ∀ (S9 : Hp) (z9 : Nat) (H9 : Heap) (locs9 : List Loc) (cs ss : Nat) (ls9 : Array Slot), cs ≤ cells + 4 → ss ≤ slots + 64 → I x mm o S9 → Wd D C A s.heap S9 z9 H9 locs9 s → lv_has ls9 9 [(4, .int i), (3, .ref o), (2, .ref mm), (1, .ref x), (0, .ref b)] → W p l e room_1 s m #[Value.ref b] below meth c H9 locs9 cs ss Q (F0 m 1298 ls9 [])) : W p l e room_1 s m #[Value.ref b] below meth c H locs cells slots Q (F0 m 1284 ls []) := by
  obtain ⟨hx, hb, hml, hown, hts⟩ := CF
  obtain ⟨ok0, v, S1, S2, e1, e2, ok1, hI⟩ := hop
  refine lv_aload_n hx hb dL_law_1284 rfl (lv_at hl 3 rfl) ?_
  refine wr_cl (va_runV (As := []) (rest := []) ⟨hx, hb, hml, hown, hts⟩ (c_X6_digest l D C N S z x v S1 e1) (cwV 0 hts gL_law_X6_digest rfl rfl rfl (by decide +kernel) ⟨Nat.le_of_ble_eq_true rfl, Nat.le_of_ble_eq_true rfl⟩) (wd_preV hw ok0 (wF_6 (S := S) ok0.2) rfl) rfl rfl hl.1 rfl (lv_room (Nat.le_of_ble_eq_true rfl)) dL_law_1285 ⟨by show _ + 0 ≤ 601024; omega, by show _ + 0 ≤ 7293034; omega⟩) hw (fun H locs hw => ?_)
  refine lv_aload_n hx hb dL_law_1288 rfl (lv_at hl 2 rfl) ?_
  refine wr_cl (va_runV (As := []) (rest := [.long v]) ⟨hx, hb, hml, hown, hts⟩ (c_X7_digest l D C N S1 z mm v S2 e2) (cwV 0 hts gL_law_X7_digest rfl rfl rfl (by decide +kernel) ⟨Nat.le_of_ble_eq_true rfl, Nat.le_of_ble_eq_true rfl⟩) (wd_preV hw ok1 (wF_7 (S := S1) ok1.2) rfl) rfl rfl hl.1 rfl (lv_room (Nat.le_of_ble_eq_true rfl)) dL_law_1289 ⟨by show _ + 0 ≤ 601024; omega, by show _ + 0 ≤ 7293034; omega⟩) hw (fun H locs hw => ?_)
  refine W.lcmp hx hb dL_law_1292 ?_
  refine lv_if_eq (tgt := 1298) hx hb dL_law_1293 (by decide) (fun _ => ?_) (fun q => absurd ((lg_cmp_eq _ _).mpr rfl) q)
  exact kk _ _ H locs _ _ ls (by omega) (by omega) hI hw (lv_sub hl [0, 1, 2, 3, 4] rfl)
