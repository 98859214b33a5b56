def S00 : Hp := ([], fun _ => 0, fun _ => 0, fun _ _ => 0, fun _ _ => none, fun _ _ => 0)
def LawInit (N : Nat) (I : Nat → Nat → Nat → Nat → Hp → Prop) : Prop := ∀ z0 : Nat, ∃ S1 z1 S2 z2, f_X6_init N (sNew S00 z0 6 0) (z0 + 1) z0 = some ((), S1, z1) ∧ f_X7_init N (sNew S1 z1 7 0) (z1 + 1) z1 = some ((), S2, z2) ∧ I 512 z0 z1 z2 (sNew S2 z2 10 1)
def LawOk (N : Nat) (I : Nat → Nat → Nat → Nat → Hp → Prop) : Prop := LawInit N I ∧ (∀ k x mm o S z, I (k + 1) x mm o S → (∀ a ∈ hL S, a < z) → LawStep N (I k) x mm o S z) ∧ ∀ k x mm o S, I (k + 1) x mm o S → I k x mm o S
set_option maxHeartbeats 4000000 in
set_option maxRecDepth 100000 in
theorem lw_nest {s : State} {b : Nat} (hts0 : ∀ w ∈ lw_tbl, w.before #[Value.ref b] s = true) : nestOk s := by
  refine ⟨fun q hq => ?_, va_AO.of (hts0 (Cond.arrayOver (.object "MakerLines$State")) (List.mem_of_getElem? (i := 190) (by decide +kernel)))⟩
  simp only [nestL, List.mem_cons, List.not_mem_nil, or_false] at hq
  rcases hq with rfl | rfl | rfl | rfl | rfl | rfl | rfl | rfl | rfl | rfl
  · exact va_Nw.of rfl (hts0 (Cond.methodLinkNest RX2 53 yX6_lowestOf RX6) (List.mem_of_getElem? (i := 558) (by decide +kernel)))
  · exact va_Nw.of rfl (hts0 (Cond.methodLinkNest RX4 84 yX6_lowestOf RX6) (List.mem_of_getElem? (i := 447) (by decide +kernel)))
  · exact va_Nw.of rfl (hts0 (Cond.methodLinkNest RX2 11 yX1_init RX6) (List.mem_of_getElem? (i := 220) (by decide +kernel)))
  · exact va_Nw.of rfl (hts0 (Cond.methodLinkNest RX3 11 yX1_init RX6) (List.mem_of_getElem? (i := 249) (by decide +kernel)))
  · exact va_Nw.of rfl (hts0 (Cond.methodLinkNest RX4 11 yX1_init RX6) (List.mem_of_getElem? (i := 101) (by decide +kernel)))
  · exact va_Nw.of rfl (hts0 (Cond.methodLinkNest RX6 11 yX4_init RX6) (List.mem_of_getElem? (i := 95) (by decide +kernel)))
  · exact va_Nw.of rfl (hts0 (Cond.methodLinkNest RX6 21 yX0_init RX6) (List.mem_of_getElem? (i := 185) (by decide +kernel)))
  · exact va_Nw.of rfl (hts0 (Cond.methodLinkNest RX0 24 yX4_init RX6) (List.mem_of_getElem? (i := 304) (by decide +kernel)))
  · exact va_Nw.of rfl (hts0 (Cond.methodLinkNest RX6 32 yX5_init RX6) (List.mem_of_getElem? (i := 201) (by decide +kernel)))
  · exact va_Nw.of rfl (hts0 (Cond.methodLinkNest RX6 39 yX2_init RX6) (List.mem_of_getElem? (i := 215) (by decide +kernel)))
set_option maxHeartbeats 4000000 in
set_option maxRecDepth 100000 in
theorem lw_str {s : State} {b : Nat} (hts0 : ∀ w ∈ lw_tbl, w.before #[Value.ref b] s = true) (hgv : (Jvm.Cond.and given_1 narrow_1).before #[Value.ref b] s = true) : ∀ q ∈ strL, ∃ sa, vk_R RX6 q.1 q.2 sa s := by
  intro q hq
  have hf := flat_of_before _ hgv
  simp only [strL, List.mem_cons, List.not_mem_nil, or_false] at hq
  rcases hq with rfl | rfl | rfl | rfl | rfl | rfl | rfl | rfl | rfl | rfl | rfl | rfl | rfl | rfl | rfl | rfl | rfl | rfl | rfl | rfl
  · obtain ⟨a, _, _, _, h, -⟩ := Cond.exactly_spec (hf (Cond.exactly (Term.string "MakerLines" 53) "java/lang/String") (by decide +kernel))
    exact ⟨a, vk_R.of (hts0 (Cond.stringRef RX6 53 "a board has 2 to 10 cells") (List.mem_of_getElem? (i := 668) (by decide +kernel))) h⟩
  · obtain ⟨a, _, _, _, h, -⟩ := Cond.exactly_spec (hf (Cond.exactly (Term.string "MakerLines" 83) "java/lang/String") (by decide +kernel))
    exact ⟨a, vk_R.of (hts0 (Cond.stringRef RX6 83 "a line has one or more cells of the board") (List.mem_of_getElem? (i := 678) (by decide +kernel))) h⟩
  · obtain ⟨a, _, _, _, h, -⟩ := Cond.exactly_spec (hf (Cond.exactly (Term.string "MakerLines" 87) "java/lang/String") (by decide +kernel))
    exact ⟨a, vk_R.of (hts0 (Cond.stringRef RX6 87 "there are 12 lines") (List.mem_of_getElem? (i := 688) (by decide +kernel))) h⟩
  · obtain ⟨a, _, _, _, h, -⟩ := Cond.exactly_spec (hf (Cond.exactly (Term.string "MakerLines" 100) "java/lang/String") (by decide +kernel))
    exact ⟨a, vk_R.of (hts0 (Cond.stringRef RX6 100 "there is no such line") (List.mem_of_getElem? (i := 514) (by decide +kernel))) h⟩
  · obtain ⟨a, _, _, _, h, -⟩ := Cond.exactly_spec (hf (Cond.exactly (Term.string "MakerLines" 124) "java/lang/String") (by decide +kernel))
    exact ⟨a, vk_R.of (hts0 (Cond.stringRef RX6 124 "there is no such cell") (List.mem_of_getElem? (i := 531) (by decide +kernel))) h⟩
  · obtain ⟨a, _, _, _, h, -⟩ := Cond.exactly_spec (hf (Cond.exactly (Term.string "MakerLines" 132) "java/lang/String") (by decide +kernel))
    exact ⟨a, vk_R.of (hts0 (Cond.stringRef RX6 132 "the game is not open, or the cell is not free") (List.mem_of_getElem? (i := 719) (by decide +kernel))) h⟩
  · obtain ⟨a, _, _, _, h, -⟩ := Cond.exactly_spec (hf (Cond.exactly (Term.string "MakerLines" 141) "java/lang/String") (by decide +kernel))
    exact ⟨a, vk_R.of (hts0 (Cond.stringRef RX6 141 "the game is not open") (List.mem_of_getElem? (i := 727) (by decide +kernel))) h⟩
  · obtain ⟨a, _, _, _, h, -⟩ := Cond.exactly_spec (hf (Cond.exactly (Term.string "MakerLines" 156) "java/lang/String") (by decide +kernel))
    exact ⟨a, vk_R.of (hts0 (Cond.stringRef RX6 156 "a rule is 0 to 3, and moves are 1 to 10") (List.mem_of_getElem? (i := 736) (by decide +kernel))) h⟩
  · obtain ⟨a, _, _, _, h, -⟩ := Cond.exactly_spec (hf (Cond.exactly (Term.string "MakerLines" 162) "java/lang/String") (by decide +kernel))
    exact ⟨a, vk_R.of (hts0 (Cond.stringRef RX6 162 "a character code is 33 to 126") (List.mem_of_getElem? (i := 744) (by decide +kernel))) h⟩
  · obtain ⟨a, _, _, _, h, -⟩ := Cond.exactly_spec (hf (Cond.exactly (Term.string "MakerLines" 165) "java/lang/String") (by decide +kernel))
    exact ⟨a, vk_R.of (hts0 (Cond.stringRef RX6 165 "the buffer has 60 characters") (List.mem_of_getElem? (i := 745) (by decide +kernel))) h⟩
  · obtain ⟨a, _, _, _, h, -⟩ := Cond.exactly_spec (hf (Cond.exactly (Term.string "MakerLines" 174) "java/lang/String") (by decide +kernel))
    exact ⟨a, vk_R.of (hts0 (Cond.stringRef RX6 174 "the buffer is not a complete row of lines") (List.mem_of_getElem? (i := 762) (by decide +kernel))) h⟩
  · obtain ⟨a, _, _, _, h, -⟩ := Cond.exactly_spec (hf (Cond.exactly (Term.string "MakerLines" 179) "java/lang/String") (by decide +kernel))
    exact ⟨a, vk_R.of (hts0 (Cond.stringRef RX6 179 "there would be more than 12 lines") (List.mem_of_getElem? (i := 767) (by decide +kernel))) h⟩
  · obtain ⟨a, _, _, _, h, -⟩ := Cond.exactly_spec (hf (Cond.exactly (Term.string "MakerLines" 188) "java/lang/String") (by decide +kernel))
    exact ⟨a, vk_R.of (hts0 (Cond.stringRef RX6 188 "a snapshot is 0 or 1") (List.mem_of_getElem? (i := 784) (by decide +kernel))) h⟩
  · obtain ⟨a, _, _, _, h, -⟩ := Cond.exactly_spec (hf (Cond.exactly (Term.string "MakerLines" 193) "java/lang/String") (by decide +kernel))
    exact ⟨a, vk_R.of (hts0 (Cond.stringRef RX6 193 "the snapshot was not taken") (List.mem_of_getElem? (i := 792) (by decide +kernel))) h⟩
  · obtain ⟨a, _, _, _, h, -⟩ := Cond.exactly_spec (hf (Cond.exactly (Term.string "MakerLines" 196) "java/lang/String") (by decide +kernel))
    exact ⟨a, vk_R.of (hts0 (Cond.stringRef RX6 196 "there is no saved state") (List.mem_of_getElem? (i := 800) (by decide +kernel))) h⟩
  · obtain ⟨a, _, _, _, h, -⟩ := Cond.exactly_spec (hf (Cond.exactly (Term.string "MakerLines" 201) "java/lang/String") (by decide +kernel))
    exact ⟨a, vk_R.of (hts0 (Cond.stringRef RX6 201 "a property of a line is 0 to 4") (List.mem_of_getElem? (i := 521) (by decide +kernel))) h⟩
  · obtain ⟨a, _, _, _, h, -⟩ := Cond.exactly_spec (hf (Cond.exactly (Term.string "MakerLines" 206) "java/lang/String") (by decide +kernel))
    exact ⟨a, vk_R.of (hts0 (Cond.stringRef RX6 206 "a property of a cell is 0 to 3") (List.mem_of_getElem? (i := 532) (by decide +kernel))) h⟩
  · obtain ⟨a, _, _, _, h, -⟩ := Cond.exactly_spec (hf (Cond.exactly (Term.string "MakerLines" 218) "java/lang/String") (by decide +kernel))
    exact ⟨a, vk_R.of (hts0 (Cond.stringRef RX6 218 "a rule is 0 to 3") (List.mem_of_getElem? (i := 621) (by decide +kernel))) h⟩
  · obtain ⟨a, _, _, _, h, -⟩ := Cond.exactly_spec (hf (Cond.exactly (Term.string "MakerLines" 224) "java/lang/String") (by decide +kernel))
    exact ⟨a, vk_R.of (hts0 (Cond.stringRef RX6 224 "what is told is 0 or 1") (List.mem_of_getElem? (i := 643) (by decide +kernel))) h⟩
  · obtain ⟨a, _, _, _, h, -⟩ := Cond.exactly_spec (hf (Cond.exactly (Term.string "MakerLines" 230) "java/lang/String") (by decide +kernel))
    exact ⟨a, vk_R.of (hts0 (Cond.stringRef RX6 230 "what is counted is 0 to 15") (List.mem_of_getElem? (i := 408) (by decide +kernel))) h⟩
set_option maxHeartbeats 4000000 in
set_option maxRecDepth 100000 in
theorem lw_thrB {s : State} {b : Nat} (hts0 : ∀ w ∈ lw_tbl, w.before #[Value.ref b] s = true) : ∀ E ∈ exL, ∀ w ∈ thrB E, va_Nw w s := by
  intro E hE w hw
  refine va_Nw.of (thrB_t hw) (A := #[Value.ref b]) ?_
  simp only [exL, List.mem_cons, List.not_mem_nil, or_false] at hE
  simp only [thrB, List.mem_cons, List.not_mem_nil, or_false] at hw
  rcases hE with rfl | rfl | rfl <;> rcases hw with rfl | rfl | rfl | rfl
  · exact (hts0 (Cond.declares ⟨"java/lang/RuntimeException", "<init>", "(Ljava/lang/String;)V"⟩) (List.mem_of_getElem? (i := 371) (by decide +kernel)))
  · exact (hts0 (Cond.declares ⟨"java/lang/Exception", "<init>", "(Ljava/lang/String;)V"⟩) (List.mem_of_getElem? (i := 373) (by decide +kernel)))
  · exact (hts0 (Cond.declares ⟨"java/lang/Throwable", "<init>", "(Ljava/lang/String;)V"⟩) (List.mem_of_getElem? (i := 375) (by decide +kernel)))
  · exact (hts0 (Cond.castable "java/lang/IllegalArgumentException" "java/lang/IllegalArgumentException") (List.mem_of_getElem? (i := 369) (by decide +kernel)))
  · exact (hts0 (Cond.declares ⟨"java/lang/RuntimeException", "<init>", "(Ljava/lang/String;)V"⟩) (List.mem_of_getElem? (i := 371) (by decide +kernel)))
  · exact (hts0 (Cond.declares ⟨"java/lang/Exception", "<init>", "(Ljava/lang/String;)V"⟩) (List.mem_of_getElem? (i := 373) (by decide +kernel)))
  · exact (hts0 (Cond.declares ⟨"java/lang/Throwable", "<init>", "(Ljava/lang/String;)V"⟩) (List.mem_of_getElem? (i := 375) (by decide +kernel)))
  · exact (hts0 (Cond.castable "java/lang/IllegalStateException" "java/lang/IllegalStateException") (List.mem_of_getElem? (i := 681) (by decide +kernel)))
  · exact (hts0 (Cond.declares ⟨"java/lang/RuntimeException", "<init>", "(Ljava/lang/String;)V"⟩) (List.mem_of_getElem? (i := 371) (by decide +kernel)))
  · exact (hts0 (Cond.declares ⟨"java/lang/Exception", "<init>", "(Ljava/lang/String;)V"⟩) (List.mem_of_getElem? (i := 373) (by decide +kernel)))
  · exact (hts0 (Cond.declares ⟨"java/lang/Throwable", "<init>", "(Ljava/lang/String;)V"⟩) (List.mem_of_getElem? (i := 375) (by decide +kernel)))
  · exact (hts0 (Cond.castable "java/lang/IndexOutOfBoundsException" "java/lang/IndexOutOfBoundsException") (List.mem_of_getElem? (i := 507) (by decide +kernel)))
set_option maxHeartbeats 4000000 in
set_option maxRecDepth 100000 in
theorem lw_thr {s : State} {b : Nat} (hts0 : ∀ w ∈ lw_tbl, w.before #[Value.ref b] s = true) (hgv : (Jvm.Cond.and given_1 narrow_1).before #[Value.ref b] s = true) : ThrOk (fun q : Nat => s.heap.size ≤ q) s s.heap := by
  have hf := flat_of_before _ hgv
  have z1 := vx_Zqof (A := fun q : Nat => s.heap.size ≤ q) (hts0 (Cond.laysStatic "java/lang/Throwable" "UNASSIGNED_STACK" "[Ljava/lang/StackTraceElement;") (List.mem_of_getElem? (i := 394) (by decide +kernel))) (hts0 (Cond.initialized "java/lang/Throwable") (List.mem_of_getElem? (i := 76) (by decide +kernel))) (hf (Cond.isRef (Term.static "java/lang/Throwable" "UNASSIGNED_STACK" "[Ljava/lang/StackTraceElement;")) (by decide +kernel)) (fun a h => Nat.not_le.mpr h)
  have z2 := vx_Zqof (A := fun q : Nat => s.heap.size ≤ q) (hts0 (Cond.laysStatic "java/lang/Throwable" "SUPPRESSED_SENTINEL" "Ljava/util/List;") (List.mem_of_getElem? (i := 396) (by decide +kernel))) (hts0 (Cond.initialized "java/lang/Throwable") (List.mem_of_getElem? (i := 76) (by decide +kernel))) (hf (Cond.isRef (Term.static "java/lang/Throwable" "SUPPRESSED_SENTINEL" "Ljava/util/List;")) (by decide +kernel)) (fun a h => Nat.not_le.mpr h)
  exact ⟨z1, z2, lw_str hts0 hgv, va_Nc.of (hf (Cond.not (Cond.castable "java/lang/IllegalStateException" "java/lang/IllegalArgumentException")) (by decide +kernel)), va_Nc.of (hf (Cond.not (Cond.castable "java/lang/IllegalStateException" "java/lang/IndexOutOfBoundsException")) (by decide +kernel)), va_Nc.of (hf (Cond.not (Cond.castable "java/lang/IllegalArgumentException" "java/lang/IndexOutOfBoundsException")) (by decide +kernel)), lw_thrB hts0⟩
set_option maxHeartbeats 4000000 in
set_option maxRecDepth 100000 in
theorem lw_known {s : State} {b : Nat} (hts0 : ∀ w ∈ lw_tbl, w.before #[Value.ref b] s = true) : ∃ (D : va_G) (C : C3), va_K D vwCl (tysC C) s := by
  obtain ⟨c0, iS0, hKn0⟩ := u_known (C := RX0) (T := TX0) (N := 2) (n := 2) hts0 inX0 (hts0 (Cond.instantiable RX0 2) (List.mem_of_getElem? (i := 184) (by decide +kernel)))
  obtain ⟨c1, iS1, hKn1⟩ := u_known (C := RX1) (T := TX1) (N := 6) (n := 6) hts0 inX1 (hts0 (Cond.instantiable RX1 6) (List.mem_of_getElem? (i := 100) (by decide +kernel)))
  obtain ⟨c2, iS2, hKn2⟩ := u_known (C := RX2) (T := TX2) (N := 6) (n := 6) hts0 inX2 (hts0 (Cond.instantiable RX2 6) (List.mem_of_getElem? (i := 214) (by decide +kernel)))
  obtain ⟨c3, iS3, hKn3⟩ := u_known (C := RX3) (T := TX3) (N := 6) (n := 6) hts0 inX3 (hts0 (Cond.instantiable RX3 6) (List.mem_of_getElem? (i := 243) (by decide +kernel)))
  obtain ⟨c4, iS4, hKn4⟩ := u_known (C := RX4) (T := TX4) (N := 10) (n := 10) hts0 inX4 (hts0 (Cond.instantiable RX4 10) (List.mem_of_getElem? (i := 94) (by decide +kernel)))
  obtain ⟨c5, iS5, hKn5⟩ := u_known (C := RX5) (T := TX5) (N := 2) (n := 2) hts0 inX5 (hts0 (Cond.instantiable RX5 2) (List.mem_of_getElem? (i := 200) (by decide +kernel)))
  obtain ⟨c6, iS6, hKn6⟩ := u_known (C := RX6) (T := TX6) (N := 7) (n := 7) hts0 inX6 (hts0 (Cond.instantiable RX6 7) (List.mem_of_getElem? (i := 86) (by decide +kernel)))
  obtain ⟨c7, iS7, hKn7⟩ := u_known (C := RX7) (T := TX7) (N := 20) (n := 20) hts0 inX7 (hts0 (Cond.instantiable RX7 20) (List.mem_of_getElem? (i := 834) (by decide +kernel)))
  obtain ⟨cI, kI, compI, fI1, fI2, fI3⟩ := Cond.arrayClass_spec (hts0 (Cond.arrayClass .int) (List.mem_of_getElem? (i := 134) (by decide +kernel)))
  obtain ⟨cJ, kJ, compJ, fJ1, fJ2, fJ3⟩ := Cond.arrayClass_spec (hts0 (Cond.arrayClass .long) (List.mem_of_getElem? (i := 1224) (by decide +kernel)))
  obtain ⟨compQ, cQ, kQ, fQ1, fQ2, fQ3, fQ4, fQ5⟩ := Cond.arrayOver_spec (hts0 (Cond.arrayOver (.object "MakerLines$State")) (List.mem_of_getElem? (i := 190) (by decide +kernel)))
  refine ⟨(fun k => if k = 0 then c0 else if k = 1 then c1 else if k = 2 then c2 else if k = 3 then c3 else if k = 4 then c4 else if k = 5 then c5 else if k = 6 then c6 else c7, fun k => if k = 0 then iS0 else if k = 1 then iS1 else if k = 2 then iS2 else if k = 3 then iS3 else if k = 4 then iS4 else if k = 5 then iS5 else if k = 6 then iS6 else iS7), (cI, cQ, cJ), fun k q hq => ?_, fun k q hq => ?_⟩
  · match k, hq with
    | 0, hq => cases hq; exact hKn0
    | 1, hq => cases hq; exact hKn1
    | 2, hq => cases hq; exact hKn2
    | 3, hq => cases hq; exact hKn3
    | 4, hq => cases hq; exact hKn4
    | 5, hq => cases hq; exact hKn5
    | 6, hq => cases hq; exact hKn6
    | 7, hq => cases hq; exact hKn7
    | k + 8, hq => simp [vwCl] at hq
  · match k, hq with
    | 0, hq => cases hq; exact ⟨fun n z => ⟨(fun k h => by cases h), kI, fI2, compI, fI3⟩, fI1⟩
    | 1, hq => cases hq; exact ⟨fun n z => ⟨(fun k h => by cases h), kQ, fQ3, compQ, fQ4⟩, kQ, compQ, fQ3, fQ4, fQ1, fQ5⟩
    | 2, hq => cases hq; exact ⟨fun n z => ⟨(fun k h => by cases h), kJ, fJ2, compJ, fJ3⟩, fJ1⟩
    | k + 3, hq => simp [tysC] at hq
set_option maxHeartbeats 4000000 in
set_option maxRecDepth 100000 in
theorem whole_start0 {N : Nat} {I : Nat → Nat → Nat → Nat → Hp → Prop} (hLaw : LawOk N I) {p : Program} {e : Env} {s : State} {m : MethodId} {below : List Frame} {meth : Method} {c : Code} (l : Launch) (hflags : l.flags = flags0) {b L : Nat} {xs : Nat → Int32} (hL : L ≤ 2048) (C0 : lw_At p s m meth c b L xs) : W p l e room_1 s m #[Value.ref b] below meth c s.heap [] 0 0 (lw_Z below #[Value.ref b] s) (entryFrame m ([Value.ref b] : List Value).toArray 9) := by
  obtain ⟨hx, hb, hr, hml, hown, hts0, hX, hbl, hlocks, hgv⟩ := id C0
  have hown : s.vm.findClass RL = some m.cls := hown
  have hlt : l.stackTraces = false := by
    unfold Launch.stackTraces
    rw [hflags]
    decide +kernel
  have hts : ∀ w ∈ wsL_law, w.before #[Value.ref b] s = true := fun w h => hts0 w (wsL_law_in w h)
  have hthr := lw_thr hts0 hgv
  have hn := lw_nest hts0
  obtain ⟨D, C, hK⟩ := lw_known hts0
  have hw : Wd D C (fun q : Nat => s.heap.size ≤ q) s.heap S00 s.heap.size s.heap [] s := ⟨fun k q h => (by cases h), ⟨fun i j p q h => (by cases h), fun k q h => (by cases h)⟩, hK, va_S.rf, fun q h => h, rfl, hn⟩
  obtain ⟨S1, z1, S2, z2, e1, e2, hI⟩ := hLaw.1 s.heap.size
  have hl := lv_entry ([.ref b]) (n := 9) (Nat.le_of_ble_eq_true rfl)
  rw [lg_entry_eq]
  generalize (lg_sl ([.ref b]) ++ List.replicate (9 - (lg_sl ([.ref b])).length) Slot.unset).toArray = ls at hl ⊢
  have hl : lv_has ls 9 [(0, .ref b)] := hl
  refine wr_new (K := RX6) (T := TX6) (N := 7) (ci := 6) (index := 8) (fs := [.null, .null, .null, .null, .null, .null, .null]) hx hb hts0 inX6 tyX6 tyX6_ok hown (hts0 (Cond.classLink RL 8 RX6) (List.mem_of_getElem? (i := 85) (by decide +kernel))) (hts0 (Cond.instantiable RX6 7) (List.mem_of_getElem? (i := 86) (by decide +kernel))) (hts0 (Cond.initialized RX6) (List.mem_of_getElem? (i := 68) (by decide +kernel))) hw rfl wn_6 (fun j hj => by rcases (show j = 0 ∨ j = 1 ∨ j = 2 ∨ j = 3 ∨ j = 4 ∨ j = 5 ∨ j = 6 by omega) with rfl | rfl | rfl | rfl | rfl | rfl | rfl <;> rfl) (by show _ + 1 ≤ 601024; omega) (by show _ + 7 ≤ 7293034; omega) dL_law_0 (fun H hw => ?_)
  refine lv_dup hx hb dL_law_3 rfl ?_
  refine wr_cv (va_runI (b := s.heap.size) (As := []) (rest := [.ref s.heap.size]) ⟨hx, hb, hml, hown, hts⟩ (c_X6_init l D C N (sNew S00 s.heap.size 6 0) (s.heap.size + 1) s.heap.size () S1 z1 e1) (cwI 0 hts gL_law_X6_init rfl rfl rfl (hts0 (Cond.initialized RX6) (List.mem_of_getElem? (i := 68) (by decide +kernel))) (hts0 (Cond.methodLink RL 73 yX6_init) (List.mem_of_getElem? (i := 87) (by decide +kernel))) (hts0 (Cond.instanceMethod yX6_init) (List.mem_of_getElem? (i := 88) (by decide +kernel))) rfl (by decide +kernel) ⟨Nat.le_of_ble_eq_true rfl, Nat.le_of_ble_eq_true rfl⟩) (wd_preS hw) rfl rfl hl.1 rfl (lv_room (Nat.le_of_ble_eq_true rfl)) dL_law_4 ⟨by show _ + 20 ≤ 601024; omega, by show _ + 60254 ≤ 7293034; omega⟩) hw (fun H locs hw => ?_)
  refine lv_astore_n (lv' := [(1, .ref s.heap.size), (0, .ref b)]) hx hb dL_law_7 rfl hl (by decide) rfl (fun ls hl => ?_)
  refine wr_new (K := RX7) (T := TX7) (N := 20) (ci := 7) (index := 74) (fs := [.null, .int 0, .null, .null, .null, .int 0, .null, .int 0, .null, .null, .null, .int 0, .int 0, .null, .null, .null, .null, .int 0, .null, .long 0]) hx hb hts0 inX7 tyX7 tyX7_ok hown (hts0 (Cond.classLink RL 74 RX7) (List.mem_of_getElem? (i := 833) (by decide +kernel))) (hts0 (Cond.instantiable RX7 20) (List.mem_of_getElem? (i := 834) (by decide +kernel))) (hts0 (Cond.initialized RX7) (List.mem_of_getElem? (i := 75) (by decide +kernel))) hw rfl wn_7 (fun j hj => by rcases (show j = 0 ∨ j = 1 ∨ j = 2 ∨ j = 3 ∨ j = 4 ∨ j = 5 ∨ j = 6 ∨ j = 7 ∨ j = 8 ∨ j = 9 ∨ j = 10 ∨ j = 11 ∨ j = 12 ∨ j = 13 ∨ j = 14 ∨ j = 15 ∨ j = 16 ∨ j = 17 ∨ j = 18 ∨ j = 19 by omega) with rfl | rfl | rfl | rfl | rfl | rfl | rfl | rfl | rfl | rfl | rfl | rfl | rfl | rfl | rfl | rfl | rfl | rfl | rfl | rfl <;> rfl) (by show _ + 1 ≤ 601024; omega) (by show _ + 20 ≤ 7293034; omega) dL_law_8 (fun H hw => ?_)
  refine lv_dup hx hb dL_law_11 rfl ?_
  refine wr_cv (va_runI (b := z1) (As := []) (rest := [.ref z1]) ⟨hx, hb, hml, hown, hts⟩ (c_X7_init l D C N (sNew S1 z1 7 0) (z1 + 1) z1 () S2 z2 e2) (cwI 0 hts gL_law_X7_init rfl rfl rfl (hts0 (Cond.initialized RX7) (List.mem_of_getElem? (i := 75) (by decide +kernel))) (hts0 (Cond.methodLink RL 76 yX7_init) (List.mem_of_getElem? (i := 835) (by decide +kernel))) (hts0 (Cond.instanceMethod yX7_init) (List.mem_of_getElem? (i := 836) (by decide +kernel))) rfl (by decide +kernel) ⟨Nat.le_of_ble_eq_true rfl, Nat.le_of_ble_eq_true rfl⟩) (wd_preS hw) rfl rfl hl.1 rfl (lv_room (Nat.le_of_ble_eq_true rfl)) dL_law_12 ⟨by show _ + 13 ≤ 601024; omega, by show _ + 236556 ≤ 7293034; omega⟩) hw (fun H locs hw => ?_)
  refine lv_astore_n (lv' := [(2, .ref z1), (1, .ref s.heap.size), (0, .ref b)]) hx hb dL_law_15 rfl hl (by decide) rfl (fun ls hl => ?_)
  refine lv_iconst (v := (1 : Int32)) hx hb dL_law_16 (by decide) ?_
  refine wr_newJ (N' := 1) hx hb (hts0 (Cond.arrayClass .long) (List.mem_of_getElem? (i := 1224) (by decide +kernel))) hw (by decide) rfl (by decide) (by show _ + 1 ≤ 601024; omega) (by show _ + 1 ≤ 7293034; omega) dL_law_17 (fun H hw => ?_)
  refine lv_astore_n (lv' := [(3, .ref z2), (2, .ref z1), (1, .ref s.heap.size), (0, .ref b)]) hx hb dL_law_19 rfl hl (by decide) rfl (fun ls hl => ?_)
  refine lv_iconst (v := (0 : Int32)) hx hb dL_law_20 (by decide) ?_
  refine lv_istore (lv' := [(4, .int 0), (3, .ref z2), (2, .ref z1), (1, .ref s.heap.size), (0, .ref b)]) hx hb dL_law_21 hl (by decide) rfl (fun ls hl => ?_)
  exact lw_loop l hlt hL ⟨hx, hb, hml, hown, hts⟩ hr hlocks hX hbl hthr (fun k S z hI hf => hLaw.2.1 k _ _ _ S z hI hf) (fun k S hI => hLaw.2.2 k _ _ _ S hI) 512 0 _ _ H locs _ _ ls (by omega) (by omega) hI hw hl (by omega) (by omega)
