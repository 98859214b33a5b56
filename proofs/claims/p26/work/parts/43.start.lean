def S00 : Hp := ([], fun _ => 0, fun _ => 0, fun _ _ => 0, fun _ _ => none, fun _ _ => 0)
def S3a (S1 : Hp) (z1 : Nat) : Hp := sI (sI (sNew (sNew (sNew S1 z1 8 11) (z1 + 1) 8 3) (z1 + 1 + 1) 8 5) z1 0 5) z1 10 1
def LawInit (N : Nat) (I : Nat → Nat → Nat → Nat → Nat → Hp → Prop) : Prop := ∀ x : Nat, ∃ S1 z1, f_X6_init N (sNew S00 x 6 0) (x + 1) x = some ((), S1, z1) ∧ ((∀ a, a ∈ hL S1 → a < z1) → ∃ S2 S3 z3, f_L_empty N (S3a S1 z1) z1 1 = some ((), S2) ∧ ok S2 x 6 ∧ f_X6_begin N S2 (z1 + 1 + 1 + 1) x 5 = some (9, S3, z3) ∧ I 30 x z1 (z1 + 1) (z1 + 1 + 1) S3)
def LawOk (N : Nat) (I : Nat → Nat → Nat → Nat → Nat → Hp → Prop) : Prop := LawInit N I ∧ ∀ k x zz li pa S z, I (k + 1) x zz li pa S → (∀ a ∈ hL S, a < z) → LawStep N (I k x zz li pa) x zz li pa S z
theorem ok_new (S : Hp) (a k n : Nat) : ok (sNew S a k n) a k := ⟨by simp [hL_sNew], by simp [hK_sNew]⟩
theorem ok_old {S : Hp} {a k b i n : Nat} (h : ok S a k) (hab : a ≠ b) : ok (sNew S b i n) a k := ⟨by rw [hL_sNew]; exact List.mem_append_left _ h.1, by rw [hK_sNew, if_neg hab]; exact h.2⟩
theorem ok_put {S : Hp} {a k b j : Nat} {v : Int32} (h : ok S a k) : ok (sI S b j v) a k := h
set_option maxHeartbeats 4000000 in
set_option maxRecDepth 100000 in
theorem lw_nest {s : State} {b : Nat} (hts0 : ∀ w ∈ lw_tbl, w.before #[Value.ref b] s = true) : nestOk s := by
  refine ⟨fun q hq => ?_, va_AO.of (hts0 (Cond.arrayOver (.object "MakerLines$State")) (List.mem_of_getElem? (i := 138) (by decide +kernel)))⟩
  simp only [nestL, List.mem_cons, List.not_mem_nil, or_false] at hq
  rcases hq with rfl | rfl | rfl | rfl | rfl | rfl | rfl | rfl | rfl | rfl
  · exact va_Nw.of rfl (hts0 (Cond.methodLinkNest RX2 53 yX6_lowestOf RX6) (List.mem_of_getElem? (i := 554) (by decide +kernel)))
  · exact va_Nw.of rfl (hts0 (Cond.methodLinkNest RX4 84 yX6_lowestOf RX6) (List.mem_of_getElem? (i := 612) (by decide +kernel)))
  · exact va_Nw.of rfl (hts0 (Cond.methodLinkNest RX2 11 yX1_init RX6) (List.mem_of_getElem? (i := 167) (by decide +kernel)))
  · exact va_Nw.of rfl (hts0 (Cond.methodLinkNest RX3 11 yX1_init RX6) (List.mem_of_getElem? (i := 196) (by decide +kernel)))
  · exact va_Nw.of rfl (hts0 (Cond.methodLinkNest RX4 11 yX1_init RX6) (List.mem_of_getElem? (i := 50) (by decide +kernel)))
  · exact va_Nw.of rfl (hts0 (Cond.methodLinkNest RX6 11 yX4_init RX6) (List.mem_of_getElem? (i := 44) (by decide +kernel)))
  · exact va_Nw.of rfl (hts0 (Cond.methodLinkNest RX6 21 yX0_init RX6) (List.mem_of_getElem? (i := 133) (by decide +kernel)))
  · exact va_Nw.of rfl (hts0 (Cond.methodLinkNest RX0 24 yX4_init RX6) (List.mem_of_getElem? (i := 319) (by decide +kernel)))
  · exact va_Nw.of rfl (hts0 (Cond.methodLinkNest RX6 32 yX5_init RX6) (List.mem_of_getElem? (i := 149) (by decide +kernel)))
  · exact va_Nw.of rfl (hts0 (Cond.methodLinkNest RX6 39 yX2_init RX6) (List.mem_of_getElem? (i := 162) (by decide +kernel)))
set_option maxHeartbeats 4000000 in
set_option maxRecDepth 100000 in
theorem lw_known {s : State} {b : Nat} (hts0 : ∀ w ∈ lw_tbl, w.before #[Value.ref b] s = true) : ∃ (D : va_G) (C : C3), va_K D vwCl (tysC C) s := by
  obtain ⟨c0, iS0, hKn0⟩ := u_known (C := RX0) (T := TX0) (N := 2) (n := 2) hts0 inX0 (hts0 (Cond.instantiable RX0 2) (List.mem_of_getElem? (i := 132) (by decide +kernel)))
  obtain ⟨c1, iS1, hKn1⟩ := u_known (C := RX1) (T := TX1) (N := 6) (n := 6) hts0 inX1 (hts0 (Cond.instantiable RX1 6) (List.mem_of_getElem? (i := 49) (by decide +kernel)))
  obtain ⟨c2, iS2, hKn2⟩ := u_known (C := RX2) (T := TX2) (N := 6) (n := 6) hts0 inX2 (hts0 (Cond.instantiable RX2 6) (List.mem_of_getElem? (i := 161) (by decide +kernel)))
  obtain ⟨c3, iS3, hKn3⟩ := u_known (C := RX3) (T := TX3) (N := 6) (n := 6) hts0 inX3 (hts0 (Cond.instantiable RX3 6) (List.mem_of_getElem? (i := 190) (by decide +kernel)))
  obtain ⟨c4, iS4, hKn4⟩ := u_known (C := RX4) (T := TX4) (N := 10) (n := 10) hts0 inX4 (hts0 (Cond.instantiable RX4 10) (List.mem_of_getElem? (i := 43) (by decide +kernel)))
  obtain ⟨c5, iS5, hKn5⟩ := u_known (C := RX5) (T := TX5) (N := 2) (n := 2) hts0 inX5 (hts0 (Cond.instantiable RX5 2) (List.mem_of_getElem? (i := 148) (by decide +kernel)))
  obtain ⟨c6, iS6, hKn6⟩ := u_known (C := RX6) (T := TX6) (N := 7) (n := 7) hts0 inX6 (hts0 (Cond.instantiable RX6 7) (List.mem_of_getElem? (i := 35) (by decide +kernel)))
  obtain ⟨cI, kI, compI, fI1, fI2, fI3⟩ := Cond.arrayClass_spec (hts0 (Cond.arrayClass .int) (List.mem_of_getElem? (i := 82) (by decide +kernel)))
  obtain ⟨compQ, cQ, kQ, fQ1, fQ2, fQ3, fQ4, fQ5⟩ := Cond.arrayOver_spec (hts0 (Cond.arrayOver (.object "MakerLines$State")) (List.mem_of_getElem? (i := 138) (by decide +kernel)))
  refine ⟨(fun k => if k = 0 then c0 else if k = 1 then c1 else if k = 2 then c2 else if k = 3 then c3 else if k = 4 then c4 else if k = 5 then c5 else c6, fun k => if k = 0 then iS0 else if k = 1 then iS1 else if k = 2 then iS2 else if k = 3 then iS3 else if k = 4 then iS4 else if k = 5 then iS5 else iS6), (cI, cQ, cI), fun k q hq => ?_, fun k q hq => ?_⟩
  · match k, hq with
    | 0, hq => cases hq; exact hKn0
    | 1, hq => cases hq; exact hKn1
    | 2, hq => cases hq; exact hKn2
    | 3, hq => cases hq; exact hKn3
    | 4, hq => cases hq; exact hKn4
    | 5, hq => cases hq; exact hKn5
    | 6, hq => cases hq; exact hKn6
    | k + 7, hq => simp [vwCl] at hq
  · match k, hq with
    | 0, hq => cases hq; exact ⟨fun n z => ⟨(fun k h => by cases h), kI, fI2, compI, fI3⟩, fI1⟩
    | 1, hq => cases hq; exact ⟨fun n z => ⟨(fun k h => by cases h), kQ, fQ3, compQ, fQ4⟩, kQ, compQ, fQ3, fQ4, fQ1, fQ5⟩
    | k + 2, hq => simp [tysC] at hq
set_option maxHeartbeats 4000000 in
set_option maxRecDepth 100000 in
theorem whole_start0 {N : Nat} {I : Nat → Nat → Nat → Nat → Nat → Hp → Prop} (hLaw : LawOk N I) {p : Program} {e : Env} {s : State} {m : MethodId} {below : List Frame} {meth : Method} {c : Code} (l : Launch) (hflags : l.flags = flags0) {b L : Nat} {xs : Nat → Int32} (hL : L ≤ 260) (C0 : lw_At p s m meth c b L xs) : W p l e room_1 s m #[Value.ref b] below meth c s.heap [] 0 0 (lw_Z below #[Value.ref b] s) (entryFrame m ([Value.ref b] : List Value).toArray 6) := by
  obtain ⟨hx, hb, hr, hml, hown, hts0, hX, hbl, hlocks, hgv⟩ := id C0
  have hown : s.vm.findClass RL = some m.cls := hown
  have hts : ∀ w ∈ wsL_law, w.before #[Value.ref b] s = true := fun w h => hts0 w (wsL_law_in w h)
  have hn := lw_nest hts0
  obtain ⟨D, C, hK⟩ := lw_known hts0
  have hw : Wd D C (fun q : Nat => s.heap.size ≤ q) s.heap S00 s.heap.size s.heap [] s := ⟨fun k q h => (by cases h), ⟨fun i j p q h => (by cases h), fun k q h => (by cases h)⟩, hK, va_S.rf, fun q h => h, rfl, hn⟩
  obtain ⟨S1, z1, e1, hq⟩ := hLaw.1 s.heap.size
  have hl := lv_entry ([.ref b]) (n := 6) (Nat.le_of_ble_eq_true rfl)
  rw [lg_entry_eq]
  generalize (lg_sl ([.ref b]) ++ List.replicate (6 - (lg_sl ([.ref b])).length) Slot.unset).toArray = ls at hl ⊢
  have hl : lv_has ls 6 [(0, .ref b)] := hl
  refine wr_new (K := RX6) (T := TX6) (N := 7) (ci := 6) (index := 48) (fs := [.null, .null, .null, .null, .null, .null, .null]) hx hb hts0 inX6 tyX6 tyX6_ok hown (hts0 (Cond.classLink RL 48 RX6) (List.mem_of_getElem? (i := 34) (by decide +kernel))) (hts0 (Cond.instantiable RX6 7) (List.mem_of_getElem? (i := 35) (by decide +kernel))) (hts0 (Cond.initialized RX6) (List.mem_of_getElem? (i := 19) (by decide +kernel))) hw rfl wn_6 (fun j hj => by rcases (show j = 0 ∨ j = 1 ∨ j = 2 ∨ j = 3 ∨ j = 4 ∨ j = 5 ∨ j = 6 by omega) with rfl | rfl | rfl | rfl | rfl | rfl | rfl <;> rfl) (by show _ + 1 ≤ 600130; omega) (by show _ + 7 ≤ 7301080; omega) dL_law_0 (fun H hw => ?_)
  refine lv_dup hx hb dL_law_3 rfl ?_
  refine wr_cv (va_runI (b := s.heap.size) (As := []) (rest := [.ref s.heap.size]) ⟨hx, hb, hml, hown, hts⟩ (c_X6_init l D C N (sNew S00 s.heap.size 6 0) (s.heap.size + 1) s.heap.size () S1 z1 e1) (cwI 0 hts gL_law_X6_init rfl rfl rfl (hts0 (Cond.initialized RX6) (List.mem_of_getElem? (i := 19) (by decide +kernel))) (hts0 (Cond.methodLink RL 94 yX6_init) (List.mem_of_getElem? (i := 36) (by decide +kernel))) (hts0 (Cond.instanceMethod yX6_init) (List.mem_of_getElem? (i := 37) (by decide +kernel))) rfl (by decide +kernel) ⟨Nat.le_of_ble_eq_true rfl, Nat.le_of_ble_eq_true rfl⟩) (wd_preS hw) rfl rfl hl.1 rfl (lv_room (Nat.le_of_ble_eq_true rfl)) dL_law_4 ⟨by show _ + 20 ≤ 600130; omega, by show _ + 60254 ≤ 7301080; omega⟩) hw (fun H locs hw => ?_)
  obtain ⟨S2, S3, z3, e2, e3, e4, hI⟩ := hq (fun a ha => Nat.not_le.mp (fun h => wd_out hw h ha))
  refine lv_astore_n (lv' := [(1, .ref s.heap.size), (0, .ref b)]) hx hb dL_law_7 rfl hl (by decide) rfl (fun ls hl => ?_)
  refine lv_bipush (v := (11 : Int32)) hx hb dL_law_8 (by decide) ?_
  refine wr_newI (N' := 11) hx hb (hts0 (Cond.arrayClass .int) (List.mem_of_getElem? (i := 82) (by decide +kernel))) hw (by decide) rfl (by decide) (by show _ + 1 ≤ 600130; omega) (by show _ + 11 ≤ 7301080; omega) dL_law_10 (fun H hw => ?_)
  refine lv_astore_n (lv' := [(2, .ref z1), (1, .ref s.heap.size), (0, .ref b)]) hx hb dL_law_12 rfl hl (by decide) rfl (fun ls hl => ?_)
  refine lv_iconst (v := (3 : Int32)) hx hb dL_law_13 (by decide) ?_
  refine wr_newI (N' := 3) hx hb (hts0 (Cond.arrayClass .int) (List.mem_of_getElem? (i := 82) (by decide +kernel))) hw (by decide) rfl (by decide) (by show _ + 1 ≤ 600130; omega) (by show _ + 3 ≤ 7301080; omega) dL_law_14 (fun H hw => ?_)
  refine lv_astore_n (lv' := [(3, .ref (z1 + 1)), (2, .ref z1), (1, .ref s.heap.size), (0, .ref b)]) hx hb dL_law_16 rfl hl (by decide) rfl (fun ls hl => ?_)
  refine lv_iconst (v := (5 : Int32)) hx hb dL_law_17 (by decide) ?_
  refine wr_newI (N' := 5) hx hb (hts0 (Cond.arrayClass .int) (List.mem_of_getElem? (i := 82) (by decide +kernel))) hw (by decide) rfl (by decide) (by show _ + 1 ≤ 600130; omega) (by show _ + 5 ≤ 7301080; omega) dL_law_18 (fun H hw => ?_)
  refine lv_astore (lv' := [(4, .ref (z1 + 1 + 1)), (3, .ref (z1 + 1)), (2, .ref z1), (1, .ref s.heap.size), (0, .ref b)]) hx hb dL_law_20 hl (by decide) rfl (fun ls hl => ?_)
  have o1 : ok (sNew (sNew (sNew S1 z1 8 11) (z1 + 1) 8 3) (z1 + 1 + 1) 8 5) z1 8 := ok_old (ok_old (ok_new _ _ _ _) (by omega)) (by omega)
  have n1 : hN (sNew (sNew (sNew S1 z1 8 11) (z1 + 1) 8 3) (z1 + 1 + 1) 8 5) z1 = 11 := by rw [hN_sNew, if_neg (by omega), hN_sNew, if_neg (by omega), hN_sNew, if_pos rfl]
  have i0 : inb (0 : Int32) (hN (sNew (sNew (sNew S1 z1 8 11) (z1 + 1) 8 3) (z1 + 1 + 1) 8 5) z1) := by rw [n1]; decide
  have i10 : inb (10 : Int32) (hN (sI (sNew (sNew (sNew S1 z1 8 11) (z1 + 1) 8 3) (z1 + 1 + 1) 8 5) z1 (0 : Int32).toNatClampNeg 5) z1) := by rw [hN_sI, n1]; decide
  refine lv_aload_n hx hb dL_law_22 rfl (lv_at hl 2 rfl) ?_
  refine lv_iconst (v := (0 : Int32)) hx hb dL_law_23 (by decide) ?_
  refine lv_iconst (v := (5 : Int32)) hx hb dL_law_24 (by decide) ?_
  refine wr_iast hx hb hw o1 (inb_vp i0) dL_law_25 (fun H locs hw => ?_)
  refine lv_aload_n hx hb dL_law_26 rfl (lv_at hl 2 rfl) ?_
  refine lv_bipush (v := (10 : Int32)) hx hb dL_law_27 (by decide) ?_
  refine lv_iconst (v := (1 : Int32)) hx hb dL_law_29 (by decide) ?_
  refine wr_iast hx hb hw (ok_put o1) (inb_vp i10) dL_law_30 (fun H locs hw => ?_)
  have hw : Wd D C (fun q : Nat => s.heap.size ≤ q) s.heap (S3a S1 z1) (z1 + 1 + 1 + 1) H locs s := hw
  refine lv_aload_n hx hb dL_law_31 rfl (lv_at hl 2 rfl) ?_
  refine lv_iconst (v := (1 : Int32)) hx hb dL_law_32 (by decide) ?_
  refine wr_cv (va_runS (As := [.ref z1, .int (1 : Int32)]) (rest := []) ⟨hx, hb, hml, hown, hts⟩ (c_L_empty l D C N (S3a S1 z1) (z1 + 1 + 1 + 1) z1 1 () S2 e2) (va_cwS 2 hts gL_law_L_empty rfl rfl rfl (by decide +kernel) ⟨Nat.le_of_ble_eq_true rfl, Nat.le_of_ble_eq_true rfl⟩) (wd_preS hw) rfl rfl hl.1 rfl (lv_room (Nat.le_of_ble_eq_true rfl)) dL_law_33 ⟨by show _ + 0 ≤ 600130; omega, by show _ + 0 ≤ 7301080; omega⟩) hw (fun H locs hw => ?_)
  refine lv_aload_n hx hb dL_law_36 rfl (lv_at hl 3 rfl) ?_
  refine lv_iconst (v := (5 : Int32)) hx hb dL_law_37 (by decide) ?_
  refine wr_ci (va_runV (As := [.int (5 : Int32)]) (rest := []) ⟨hx, hb, hml, hown, hts⟩ (c_X6_begin l D C N S2 (z1 + 1 + 1 + 1) s.heap.size 5 9 S3 z3 e4) (cwV 1 hts gL_law_X6_begin rfl rfl rfl (by decide +kernel) ⟨Nat.le_of_ble_eq_true rfl, Nat.le_of_ble_eq_true rfl⟩) (wd_preV hw e3 (wF_6 (S := S2) e3.2) rfl) rfl rfl hl.1 rfl (lv_room (Nat.le_of_ble_eq_true rfl)) dL_law_38 ⟨by show _ + 3 ≤ 600130; omega, by show _ + 28 ≤ 7301080; omega⟩) hw (fun H locs hw => ?_)
  refine lv_bipush (v := (9 : Int32)) hx hb dL_law_41 (by decide) ?_
  refine lv_icmp_eq (tgt := 48) hx hb dL_law_43 (by decide) (fun q => ?_) (fun q => absurd rfl q)
  refine lv_iconst (v := (0 : Int32)) hx hb dL_law_48 (by decide) ?_
  refine lv_istore (lv' := [(5, .int 0), (4, .ref (z1 + 1 + 1)), (3, .ref (z1 + 1)), (2, .ref z1), (1, .ref s.heap.size), (0, .ref b)]) hx hb dL_law_49 hl (by decide) rfl (fun ls hl => ?_)
  exact lw_loop l hL ⟨hx, hb, hml, hown, hts⟩ hr hlocks hX hbl (fun k S z hI hf => hLaw.2 k _ _ _ _ S z hI hf) 30 0 _ _ H locs _ _ ls rfl hI hw hl (by omega) (by omega)
