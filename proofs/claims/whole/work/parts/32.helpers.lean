def lA (o : Option (Int32 × Hp × Nat)) (e : Option (String × Hp)) (a : Nat) (E1 E2 : String) : Option (Int32 × Hp) := match o with
  | some q => gd (ok q.2.1 a 10) <| gd (inb (0 : Int32) (hN q.2.1 a)) <| some (0, sJ q.2.1 a (0 : Int32).toNatClampNeg q.1.toInt64)
  | none => match e with
    | some q => if q.1 = E1 then some (1, q.2) else if q.1 = E2 then some (2, q.2) else none
    | none => none
def lB (o : Option (Int32 × Hp)) (e : Option (String × Hp)) (a : Nat) (E1 E2 : String) : Option (Int32 × Hp) := match o with
  | some q => gd (ok q.2 a 10) <| gd (inb (0 : Int32) (hN q.2 a)) <| some (0, sJ q.2 a (0 : Int32).toNatClampNeg q.1.toInt64)
  | none => match e with
    | some q => if q.1 = E1 then some (1, q.2) else if q.1 = E2 then some (2, q.2) else none
    | none => none
def BH (D : va_G) (C : C3) (S0 : Hp) (z0 : Nat) (S : Hp) : Nat → State → Prop := fun u t => t.heap.size = u ∧ va_P D vwCl (wP C S) t.heap ∧ va_D (va_A (wP C S0) z0) (wP C S)
def QhW (D : va_G) (C : C3) (S0 : Hp) (z0 : Nat) (r : Int32) (S : Hp) : Array Value → State → Outcome → State → Prop := va_Qi (fun x (_ : Nat) => x = r) (BH D C S0 z0 S) (va_A (wP C S0) z0)
def XnH : String → State → State → Prop := vx_X (fun (_ : Unit) => False) (fun _ _ _ => True) (fun _ => False)
abbrev MetH (l : Launch) (y : MethodName) (ws : List Cond) (rm : Room) (D : va_G) (C : C3) (S : Hp) (z : Nat) (av : List Value) (r : Int32) (S1 : Hp) (mc ms : Nat) : Prop := vx_Met l y ws rm (PcT D C S z av) (QhW D C S z r S1) XnH mc ms (va_A (wP C S) z)
section
variable {p : Program} {l : Launch} {e : Env} {R : Room} {s : State} {m : MethodId} {args : Array Value} {below : List Frame} {meth : Method} {c : Code} {H : Heap} {locs : List Loc} {cells slots : Nat} {Q : State → Prop}
variable {cc : ByteArray} {pc : Nat} {ls : Array Slot} {rest st0 : List Value} {D : va_G} {C : C3} {A : Nat → Prop} {a : Nat} {H0 : Heap} {S S0 S1 : Hp} {z z0 z1 mc ms : Nat} {av : Array Value}
theorem wd_thrOk (hw : Wd D C A H0 S z H locs s) (h : ThrOk A s H0) : ThrOk (va_A (wP C S) z) s H := (h.kept (fun q h1 h2 => hw.2.2.2.1.2.1 q h1 h2)).narrow (wd_free hw)
theorem wd_preVT {K : String} {T : u_T} {N ci b : Nat} {fs : List Value} {As : List Value} (hw : Wd D C A H0 S z H locs s) (h : ThrOk A s H0) (hok : ok S b ci) (hfs : wF C S b = .inr (ci, fs)) (hc : vwCl[ci]? = some (K, T, N)) : PreV s H K b (PcT D C S z (.ref b :: As)) As := by
  have ht := wd_thrOk hw h
  obtain ⟨hP, hD, hK, hS, hA, hz, hn⟩ := hw
  obtain ⟨q0, hq⟩ := wP_at (C := C) hok.1
  rw [hfs] at hq
  exact ⟨PcT_blind, va_recv (q := (K, T, N)) hK hP hc hq, fun U hU hW => ⟨rfl, ⟨by rw [hU]; exact hz, by rw [hU]; exact hP, va_K.moved hW.alike hK, hD.weaken (fun _ _ _ _ => trivial), hn.moved hW⟩, by rw [hU]; exact ht.warm hW⟩⟩
theorem wd_preST {As : List Value} (hw : Wd D C A H0 S z H locs s) (h : ThrOk A s H0) : PreS s H (PcT D C S z As) As := by
  have ht := wd_thrOk hw h
  obtain ⟨hP, hD, hK, hS, hA, hz, hn⟩ := hw
  exact ⟨PcT_blind, fun U hU hW => ⟨rfl, ⟨by rw [hU]; exact hz, by rw [hU]; exact hP, va_K.moved hW.alike hK, hD.weaken (fun _ _ _ _ => trivial), hn.moved hW⟩, by rw [hU]; exact ht.warm hW⟩⟩
/-- behind a call that throws, as the caller sees it -/
theorem wr_thrown {E : String} (hr : vx_Run p l e R s m args below meth c H locs cells slots mc ms (F0 m pc ls st0) rest (QnT av) (XcT D C S z E S1) (va_A (wP C S) z)) (hw : Wd D C A H0 S z H locs s)
    (kk : ∀ (ce : Cell) (q9 z9 : Nat) (H1 : Heap) (locs1 : List Loc), Wd D C A H0 S1 z9 H1 locs1 s → H1[q9]? = some ce → ce.vm = .none → s.vm.findClass E = some ce.cls → vx_W p l e R s m args below meth c H1 locs1 (cells + mc) (slots + ms) Q (F0 m pc ls rest) q9) : W p l e R s m args below meth c H locs cells slots Q (F0 m pc ls st0) := by
  have hF := wd_free hw
  refine vx_calli (post := fun (_ : Int32) (_ : Unit) => False) (B := fun _ _ => True) (A1 := fun _ => False) (px := fun (_ : Unit) => True) (BX := BT D C S z E S1) (AX := va_A (wP C S) z) hr hw.2.2.2.1 (fun _ _ h => h.elim) hF (fun q _ h => hF q h) (fun E' ce q9 u t H1 locs1 ht hvm _ hB hz1 hk1 hS hce hcv hcl => ?_) (fun _ _ _ _ _ _ _ hf _ _ _ _ => hf.elim)
  obtain ⟨hE, hP1, hD1⟩ := hB
  subst hE
  obtain ⟨hP, hD, hK, hS0, hA, hz, hn⟩ := hw
  rw [ht] at hP1
  exact kk ce q9 H1.size H1 locs1 ⟨hP1, hD1.weaken (fun k q _ h => hF q.1 h), hK, hS, hA, rfl, hn⟩ hce hcv hcl
theorem wr_hret {r : Int32} {XC : String → State → State → Prop} (hx : p.tables.exec = Jvm.exec) (hb : c.code = cc) (hr : meth.sig.returnType = some .int) (hw : Wd D C (va_A (wP C S0) z0) s.heap S z H locs s) (hdg : decode cc pc = .ok (.ireturn, 1)) (hlocks : meth.locks = false) : W p l e R s m args below meth c H locs cells slots (vx_MQ below (QhW D C S0 z0 r S) XC args s cells slots (va_A (wP C S0) z0)) (F0 m pc ls [.int r]) := by
  obtain ⟨hP, hD, hK, hS, hA, hz, hn⟩ := hw
  exact vx_ret (W.iret (v := r) hx hb hr (fun t ht hW => ⟨⟨r, z, rfl, rfl, by rw [ht]; exact hz, by rw [ht]; exact hP, hD⟩, hS.F ht⟩) hS.2.2 hdg hlocks)
/-- a call of one of the law's own methods -/
theorem wr_ch {r : Int32} (hr : vx_Run p l e R s m args below meth c H locs cells slots mc ms (F0 m pc ls st0) rest (QhW D C S z r S1 av) XnH (va_A (wP C S) z)) (hw : Wd D C A H0 S z H locs s)
    (kk : ∀ (z9 : Nat) (H1 : Heap) (locs1 : List Loc), Wd D C A H0 S1 z9 H1 locs1 s → W p l e R s m args below meth c H1 locs1 (cells + mc) (slots + ms) Q (F0 m (pc + 3) ls (.int r :: rest))) : W p l e R s m args below meth c H locs cells slots Q (F0 m pc ls st0) := by
  have hF := wd_free hw
  refine vx_calli (post := fun x (_ : Nat) => x = r) (B := BH D C S z S1) (A1 := va_A (wP C S) z) (px := fun (_ : Unit) => False) (BX := fun _ _ _ => True) (AX := fun _ => False) hr hw.2.2.2.1 (fun q _ h => hF q h) hF (fun _ _ h => h.elim) (fun _ _ _ _ _ _ _ _ _ hf _ _ _ _ _ _ _ => hf.elim) (fun x u t H1 locs1 ht hvm hx hB hz1 hk1 hS => ?_)
  subst hx
  obtain ⟨g1, g2, g3⟩ := hB
  obtain ⟨hP, hD, hK, hS0, hA, hz, hn⟩ := hw
  rw [ht] at g1 g2
  exact kk u H1 locs1 ⟨g2, g3.weaken (fun k q _ h => hF q.1 h), hK, hS, hA, g1, hn⟩
end
theorem hw_ofW {l : Launch} {y : MethodName} {ws ws' : List Cond} {rm : Room} {D : va_G} {C : C3} {S : Hp} {z : Nat} {av : List Value} {Qc : Array Value → State → Outcome → State → Prop} {XC : String → State → State → Prop} {mc ms : Nat} {cc : ByteArray} {maxL : Nat} {ret : Option FieldType} {lv : List (Nat × Value)} {hh : List (Nat × Nat × Nat × Nat)}
    (hy : plainName y.cls = true) (hws : ws = Cond.codeWith y cc maxL ret hh :: ws') (hlen : (lg_sl av).length ≤ maxL) (hlv : lv_args 0 av = lv)
    (body : ∀ (p : Program) (e : Env) (s : State) (m : MethodId) (below : List Frame) (meth : Method) (c : Code) (ls : Array Slot), p.tables.exec = Jvm.exec → c.code = cc → meth.sig.returnType = ret → (∀ w ∈ ws, w.before av.toArray s = true) → s.vm.findClass y.cls = some m.cls → meth.locks = false → c.maxLocals = maxL → c.exceptionTable.toList = tableOf hh → ThrOk (va_A (wP C S) z) s s.heap → lv_has ls maxL lv → Wd D C (va_A (wP C S) z) s.heap S z s.heap [] s →
      W p l e rm s m av.toArray below meth c s.heap [] 0 0 (vx_MQ below Qc XC av.toArray s mc ms (va_A (wP C S) z)) (F0 m 0 ls [])) : vx_Met l y ws rm (PcT D C S z av) Qc XC mc ms (va_A (wP C S) z) := by
  refine vx_ofWH (cc := cc) (maxL := maxL) (ret := ret) hy hws ?_
  intro p e s m args below meth c s₁ B hml hv
  obtain ⟨rfl, ⟨hsz, hP, hK, hD0, hn⟩, hthr⟩ := hv
  have hts := atoms_spec (ws := ws) B.pre
  have htab := vx_table (x := y) B (hts (Cond.codeWith y cc maxL ret hh) (by rw [hws]; exact List.mem_cons_self))
  have hown : s.vm.findClass y.cls = some m.cls := findClass_of_methodNamed B.named
  have hl := lv_entry av (n := maxL) hlen
  rw [lg_entry_eq]
  generalize (lg_sl av ++ List.replicate (maxL - (lg_sl av).length) Slot.unset).toArray = ls at hl ⊢
  rw [hlv] at hl
  exact body p e s m below meth c ls B.exec B.bytes B.returns hts hown B.notSynchronized hml htab hthr hl
    ⟨hP, hD0.self, hK, va_S.rf, fun q h => Or.inr (by rw [← hsz]; exact h), hsz, hn⟩
def f_L_begin (N : Nat) (S : Hp) (z : Nat) (a0 : Nat) (x1 : Int32) (a2 : Nat) : Option (Int32 × Hp) := gd (ok S a0 6) <| lA (f_X6_begin N S z a0 x1) (e_X6_begin N S a0 x1) a2 "java/lang/IllegalArgumentException" "java/lang/IllegalArgumentException"
abbrev rm_L_begin : Room := { frames := 7, cells := 3, slots := 28, locals := 112 }
set_option maxHeartbeats 4000000 in
set_option maxRecDepth 100000 in
theorem h_L_begin (l : Launch) (hlt : l.stackTraces = false) (D : va_G) (C : C3) (N : Nat) (S : Hp) (z : Nat) (a0 : Nat) (x1 : Int32) (a2 : Nat) (r : Int32) (S9 : Hp) (hg : f_L_begin N S z a0 x1 a2 = some (r, S9)) : MetH l yL_begin wsL_begin rm_L_begin D C S z [.ref a0, .int x1, .ref a2] r S9 3 28 := by
  refine hw_ofW (cc := cL_begin) (maxL := 4) (ret := some .int) (hh := [(0, 9, 12, 13)]) (lv := [(0, .ref a0), (1, .int x1), (2, .ref a2)]) (by decide) rfl (Nat.le_of_ble_eq_true rfl) rfl ?_
  intro p e s m below meth c ls hx hb hr hts hown hlk hml htab hthr hl hw
  have hown : s.vm.findClass RL = some m.cls := hown
  unfold f_L_begin at hg
  obtain ⟨hok0, hg⟩ := gd_some hg
  refine lv_aload_n hx hb dL_begin_0 rfl (lv_at hl 2 rfl) ?_
  refine lv_iconst (v := (0 : Int32)) hx hb dL_begin_1 (by decide) ?_
  refine lv_aload_n hx hb dL_begin_2 rfl (lv_at hl 0 rfl) ?_
  refine lv_iload_n hx hb dL_begin_3 rfl (lv_at hl 1 rfl) ?_
  rcases hf : f_X6_begin N S z a0 x1 with _ | ⟨v, S1, z1⟩
  · rcases he : e_X6_begin N S a0 x1 with _ | ⟨E, S1⟩
    · exact absurd hg (by simp [lA, hf, he])
    · have hg2 : (if E = "java/lang/IllegalArgumentException" then some ((1 : Int32), S1) else if E = "java/lang/IllegalArgumentException" then some (2, S1) else none) = some (r, S9) := by
        have h9 := hg; simp only [lA, hf, he] at h9; exact h9
      by_cases c1 : E = "java/lang/IllegalArgumentException"
      · have hg3 := it_pos hg2 c1
        subst c1
        cases hg3
        refine wr_thrown (vx_runV (As := [.int x1]) (rest := [.int (0 : Int32), .ref a2]) ⟨hx, hb, hml, hown, hts⟩ (t_X6_begin l hlt D C N S z a0 x1 _ _ he) (cwV 1 hts gL_begin_X6_begin rfl rfl rfl (by decide +kernel) ⟨Nat.le_of_ble_eq_true rfl, Nat.le_of_ble_eq_true rfl⟩) (wd_preVT hw hthr hok0 (wF_6 (S := S) hok0.2) rfl) rfl rfl hl.1 rfl (lv_room (Nat.le_of_ble_eq_true rfl)) dL_begin_4 ⟨Nat.le_of_ble_eq_true rfl, Nat.le_of_ble_eq_true rfl⟩) hw (fun ce q9 z9 H locs hw hce hcv hcl => ?_)
        refine vx_catch (own := RL) (name := "java/lang/IllegalArgumentException") (E := "java/lang/IllegalArgumentException") hown [] ⟨0, 9, 12, 13⟩ [] (by rw [htab]; rfl) (fun z hz => by cases hz) (by decide) (by decide) (hts _ (List.mem_of_getElem? (i := 1) rfl)) (va_Nw.use rfl (hthr.2.2.2.2.2.2 "java/lang/IllegalArgumentException" (by decide) _ (List.mem_of_getElem? (i := 3) rfl))) hce hcv hcl ?_
        refine lv_astore_n (lv' := [(3, .ref q9), (0, .ref a0), (1, .int x1), (2, .ref a2)]) hx hb dL_begin_12 rfl hl (by decide) rfl (fun ls hl => ?_)
        refine lv_iconst (v := (1 : Int32)) hx hb dL_begin_13 (by decide) ?_
        refine W.widen (k := 3) (n := 28) (Nat.le_of_ble_eq_true rfl) (Nat.le_of_ble_eq_true rfl) ?_
        exact wr_hret hx hb hr hw dL_begin_14 hlk
      · have hg3 := it_neg hg2 c1
        have hg3 := it_neg hg3 c1; cases hg3
  · have hg2 : (gd (ok S1 a2 10) <| gd (inb (0 : Int32) (hN S1 a2)) <| some ((0 : Int32), sJ S1 a2 (0 : Int32).toNatClampNeg v.toInt64)) = some (r, S9) := by
      have h9 := hg; simp only [lA, hf] at h9; exact h9
    obtain ⟨hok1, hg2⟩ := gd_some hg2
    obtain ⟨hin1, hg2⟩ := gd_some hg2
    refine wr_ci (va_runV (As := [.int x1]) (rest := [.int (0 : Int32), .ref a2]) ⟨hx, hb, hml, hown, hts⟩ (c_X6_begin l D C N S z a0 x1 v S1 z1 hf) (cwV 1 hts gL_begin_X6_begin rfl rfl rfl (by decide +kernel) ⟨Nat.le_of_ble_eq_true rfl, Nat.le_of_ble_eq_true rfl⟩) (wd_preV hw hok0 (wF_6 (S := S) hok0.2) rfl) rfl rfl hl.1 rfl (lv_room (Nat.le_of_ble_eq_true rfl)) dL_begin_4 ⟨Nat.le_of_ble_eq_true rfl, Nat.le_of_ble_eq_true rfl⟩) hw (fun H locs hw => ?_)
    refine lv_i2l (v := v.toInt64) hx hb dL_begin_7 rfl ?_
    refine wr_last hx hb hw hok1 (inb_vp hin1) dL_begin_8 (fun H locs hw => ?_)
    refine lv_goto (tgt := 15) hx hb dL_begin_9 (by decide) ?_
    refine lv_iconst (v := (0 : Int32)) hx hb dL_begin_15 (by decide) ?_
    cases hg2
    refine W.widen (k := 3) (n := 28) (Nat.le_of_ble_eq_true rfl) (Nat.le_of_ble_eq_true rfl) ?_
    exact wr_hret hx hb hr hw dL_begin_16 hlk
def f_L_addLine (N : Nat) (S : Hp) (z : Nat) (a0 : Nat) (x1 : Int32) (a2 : Nat) : Option (Int32 × Hp) := gd (ok S a0 6) <| lA (f_X6_addLine N S z a0 x1) (e_X6_addLine N S a0 x1) a2 "java/lang/IllegalArgumentException" "java/lang/IllegalStateException"
abbrev rm_L_addLine : Room := { frames := 7, cells := 3, slots := 28, locals := 111 }
set_option maxHeartbeats 4000000 in
set_option maxRecDepth 100000 in
theorem h_L_addLine (l : Launch) (hlt : l.stackTraces = false) (D : va_G) (C : C3) (N : Nat) (S : Hp) (z : Nat) (a0 : Nat) (x1 : Int32) (a2 : Nat) (r : Int32) (S9 : Hp) (hg : f_L_addLine N S z a0 x1 a2 = some (r, S9)) : MetH l yL_addLine wsL_addLine rm_L_addLine D C S z [.ref a0, .int x1, .ref a2] r S9 3 28 := by
  refine hw_ofW (cc := cL_addLine) (maxL := 4) (ret := some .int) (hh := [(0, 9, 12, 13), (0, 9, 15, 18)]) (lv := [(0, .ref a0), (1, .int x1), (2, .ref a2)]) (by decide) rfl (Nat.le_of_ble_eq_true rfl) rfl ?_
  intro p e s m below meth c ls hx hb hr hts hown hlk hml htab hthr hl hw
  have hown : s.vm.findClass RL = some m.cls := hown
  unfold f_L_addLine at hg
  obtain ⟨hok0, hg⟩ := gd_some hg
  refine lv_aload_n hx hb dL_addLine_0 rfl (lv_at hl 2 rfl) ?_
  refine lv_iconst (v := (0 : Int32)) hx hb dL_addLine_1 (by decide) ?_
  refine lv_aload_n hx hb dL_addLine_2 rfl (lv_at hl 0 rfl) ?_
  refine lv_iload_n hx hb dL_addLine_3 rfl (lv_at hl 1 rfl) ?_
  rcases hf : f_X6_addLine N S z a0 x1 with _ | ⟨v, S1, z1⟩
  · rcases he : e_X6_addLine N S a0 x1 with _ | ⟨E, S1⟩
    · exact absurd hg (by simp [lA, hf, he])
    · have hg2 : (if E = "java/lang/IllegalArgumentException" then some ((1 : Int32), S1) else if E = "java/lang/IllegalStateException" then some (2, S1) else none) = some (r, S9) := by
        have h9 := hg; simp only [lA, hf, he] at h9; exact h9
      by_cases c1 : E = "java/lang/IllegalArgumentException"
      · have hg3 := it_pos hg2 c1
        subst c1
        cases hg3
        refine wr_thrown (vx_runV (As := [.int x1]) (rest := [.int (0 : Int32), .ref a2]) ⟨hx, hb, hml, hown, hts⟩ (t_X6_addLine l hlt D C N S z a0 x1 _ _ he) (cwV 1 hts gL_addLine_X6_addLine rfl rfl rfl (by decide +kernel) ⟨Nat.le_of_ble_eq_true rfl, Nat.le_of_ble_eq_true rfl⟩) (wd_preVT hw hthr hok0 (wF_6 (S := S) hok0.2) rfl) rfl rfl hl.1 rfl (lv_room (Nat.le_of_ble_eq_true rfl)) dL_addLine_4 ⟨Nat.le_of_ble_eq_true rfl, Nat.le_of_ble_eq_true rfl⟩) hw (fun ce q9 z9 H locs hw hce hcv hcl => ?_)
        refine vx_catch (own := RL) (name := "java/lang/IllegalArgumentException") (E := "java/lang/IllegalArgumentException") hown [] ⟨0, 9, 12, 13⟩ [⟨0, 9, 15, 18⟩] (by rw [htab]; rfl) (fun z hz => by cases hz) (by decide) (by decide) (hts _ (List.mem_of_getElem? (i := 1) rfl)) (va_Nw.use rfl (hthr.2.2.2.2.2.2 "java/lang/IllegalArgumentException" (by decide) _ (List.mem_of_getElem? (i := 3) rfl))) hce hcv hcl ?_
        refine lv_astore_n (lv' := [(3, .ref q9), (0, .ref a0), (1, .int x1), (2, .ref a2)]) hx hb dL_addLine_12 rfl hl (by decide) rfl (fun ls hl => ?_)
        refine lv_iconst (v := (1 : Int32)) hx hb dL_addLine_13 (by decide) ?_
        refine W.widen (k := 3) (n := 28) (Nat.le_of_ble_eq_true rfl) (Nat.le_of_ble_eq_true rfl) ?_
        exact wr_hret hx hb hr hw dL_addLine_14 hlk
      · have hg3 := it_neg hg2 c1
        by_cases c2 : E = "java/lang/IllegalStateException"
        · have hg3 := it_pos hg3 c2
          subst c2
          cases hg3
          refine wr_thrown (vx_runV (As := [.int x1]) (rest := [.int (0 : Int32), .ref a2]) ⟨hx, hb, hml, hown, hts⟩ (t_X6_addLine l hlt D C N S z a0 x1 _ _ he) (cwV 1 hts gL_addLine_X6_addLine rfl rfl rfl (by decide +kernel) ⟨Nat.le_of_ble_eq_true rfl, Nat.le_of_ble_eq_true rfl⟩) (wd_preVT hw hthr hok0 (wF_6 (S := S) hok0.2) rfl) rfl rfl hl.1 rfl (lv_room (Nat.le_of_ble_eq_true rfl)) dL_addLine_4 ⟨Nat.le_of_ble_eq_true rfl, Nat.le_of_ble_eq_true rfl⟩) hw (fun ce q9 z9 H locs hw hce hcv hcl => ?_)
          refine vx_catch (own := RL) (name := "java/lang/IllegalStateException") (E := "java/lang/IllegalStateException") hown [⟨0, 9, 12, 13⟩] ⟨0, 9, 15, 18⟩ [] (by rw [htab]; rfl) (fun z hz => by rcases List.mem_singleton.mp hz with rfl; exact Or.inr ⟨by decide, "java/lang/IllegalArgumentException", (hts _ (List.mem_of_getElem? (i := 1) rfl)), hthr.2.2.2.1⟩) (by decide) (by decide) (hts _ (List.mem_of_getElem? (i := 2) rfl)) (va_Nw.use rfl (hthr.2.2.2.2.2.2 "java/lang/IllegalStateException" (by decide) _ (List.mem_of_getElem? (i := 3) rfl))) hce hcv hcl ?_
          refine lv_astore_n (lv' := [(3, .ref q9), (0, .ref a0), (1, .int x1), (2, .ref a2)]) hx hb dL_addLine_15 rfl hl (by decide) rfl (fun ls hl => ?_)
          refine lv_iconst (v := (2 : Int32)) hx hb dL_addLine_16 (by decide) ?_
          refine W.widen (k := 3) (n := 28) (Nat.le_of_ble_eq_true rfl) (Nat.le_of_ble_eq_true rfl) ?_
          exact wr_hret hx hb hr hw dL_addLine_17 hlk
        · have hg3 := it_neg hg3 c2; cases hg3
  · have hg2 : (gd (ok S1 a2 10) <| gd (inb (0 : Int32) (hN S1 a2)) <| some ((0 : Int32), sJ S1 a2 (0 : Int32).toNatClampNeg v.toInt64)) = some (r, S9) := by
      have h9 := hg; simp only [lA, hf] at h9; exact h9
    obtain ⟨hok1, hg2⟩ := gd_some hg2
    obtain ⟨hin1, hg2⟩ := gd_some hg2
    refine wr_ci (va_runV (As := [.int x1]) (rest := [.int (0 : Int32), .ref a2]) ⟨hx, hb, hml, hown, hts⟩ (c_X6_addLine l D C N S z a0 x1 v S1 z1 hf) (cwV 1 hts gL_addLine_X6_addLine rfl rfl rfl (by decide +kernel) ⟨Nat.le_of_ble_eq_true rfl, Nat.le_of_ble_eq_true rfl⟩) (wd_preV hw hok0 (wF_6 (S := S) hok0.2) rfl) rfl rfl hl.1 rfl (lv_room (Nat.le_of_ble_eq_true rfl)) dL_addLine_4 ⟨Nat.le_of_ble_eq_true rfl, Nat.le_of_ble_eq_true rfl⟩) hw (fun H locs hw => ?_)
    refine lv_i2l (v := v.toInt64) hx hb dL_addLine_7 rfl ?_
    refine wr_last hx hb hw hok1 (inb_vp hin1) dL_addLine_8 (fun H locs hw => ?_)
    refine lv_goto (tgt := 18) hx hb dL_addLine_9 (by decide) ?_
    refine lv_iconst (v := (0 : Int32)) hx hb dL_addLine_18 (by decide) ?_
    cases hg2
    refine W.widen (k := 3) (n := 28) (Nat.le_of_ble_eq_true rfl) (Nat.le_of_ble_eq_true rfl) ?_
    exact wr_hret hx hb hr hw dL_addLine_19 hlk
def f_L_removeLine (N : Nat) (S : Hp) (z : Nat) (a0 : Nat) (x1 : Int32) (a2 : Nat) : Option (Int32 × Hp) := gd (ok S a0 6) <| lA (f_X6_removeLine N S z a0 x1) (e_X6_removeLine N S a0 x1) a2 "java/lang/IndexOutOfBoundsException" "java/lang/IndexOutOfBoundsException"
abbrev rm_L_removeLine : Room := { frames := 7, cells := 3, slots := 28, locals := 112 }
set_option maxHeartbeats 4000000 in
set_option maxRecDepth 100000 in
theorem h_L_removeLine (l : Launch) (hlt : l.stackTraces = false) (D : va_G) (C : C3) (N : Nat) (S : Hp) (z : Nat) (a0 : Nat) (x1 : Int32) (a2 : Nat) (r : Int32) (S9 : Hp) (hg : f_L_removeLine N S z a0 x1 a2 = some (r, S9)) : MetH l yL_removeLine wsL_removeLine rm_L_removeLine D C S z [.ref a0, .int x1, .ref a2] r S9 3 28 := by
  refine hw_ofW (cc := cL_removeLine) (maxL := 4) (ret := some .int) (hh := [(0, 9, 12, 23)]) (lv := [(0, .ref a0), (1, .int x1), (2, .ref a2)]) (by decide) rfl (Nat.le_of_ble_eq_true rfl) rfl ?_
  intro p e s m below meth c ls hx hb hr hts hown hlk hml htab hthr hl hw
  have hown : s.vm.findClass RL = some m.cls := hown
  unfold f_L_removeLine at hg
  obtain ⟨hok0, hg⟩ := gd_some hg
  refine lv_aload_n hx hb dL_removeLine_0 rfl (lv_at hl 2 rfl) ?_
  refine lv_iconst (v := (0 : Int32)) hx hb dL_removeLine_1 (by decide) ?_
  refine lv_aload_n hx hb dL_removeLine_2 rfl (lv_at hl 0 rfl) ?_
  refine lv_iload_n hx hb dL_removeLine_3 rfl (lv_at hl 1 rfl) ?_
  rcases hf : f_X6_removeLine N S z a0 x1 with _ | ⟨v, S1, z1⟩
  · rcases he : e_X6_removeLine N S a0 x1 with _ | ⟨E, S1⟩
    · exact absurd hg (by simp [lA, hf, he])
    · have hg2 : (if E = "java/lang/IndexOutOfBoundsException" then some ((1 : Int32), S1) else if E = "java/lang/IndexOutOfBoundsException" then some (2, S1) else none) = some (r, S9) := by
        have h9 := hg; simp only [lA, hf, he] at h9; exact h9
      by_cases c1 : E = "java/lang/IndexOutOfBoundsException"
      · have hg3 := it_pos hg2 c1
        subst c1
        cases hg3
        refine wr_thrown (vx_runV (As := [.int x1]) (rest := [.int (0 : Int32), .ref a2]) ⟨hx, hb, hml, hown, hts⟩ (t_X6_removeLine l hlt D C N S z a0 x1 _ _ he) (cwV 1 hts gL_removeLine_X6_removeLine rfl rfl rfl (by decide +kernel) ⟨Nat.le_of_ble_eq_true rfl, Nat.le_of_ble_eq_true rfl⟩) (wd_preVT hw hthr hok0 (wF_6 (S := S) hok0.2) rfl) rfl rfl hl.1 rfl (lv_room (Nat.le_of_ble_eq_true rfl)) dL_removeLine_4 ⟨Nat.le_of_ble_eq_true rfl, Nat.le_of_ble_eq_true rfl⟩) hw (fun ce q9 z9 H locs hw hce hcv hcl => ?_)
        refine vx_catch (own := RL) (name := "java/lang/IndexOutOfBoundsException") (E := "java/lang/IndexOutOfBoundsException") hown [] ⟨0, 9, 12, 23⟩ [] (by rw [htab]; rfl) (fun z hz => by cases hz) (by decide) (by decide) (hts _ (List.mem_of_getElem? (i := 1) rfl)) (va_Nw.use rfl (hthr.2.2.2.2.2.2 "java/lang/IndexOutOfBoundsException" (by decide) _ (List.mem_of_getElem? (i := 3) rfl))) hce hcv hcl ?_
        refine lv_astore_n (lv' := [(3, .ref q9), (0, .ref a0), (1, .int x1), (2, .ref a2)]) hx hb dL_removeLine_12 rfl hl (by decide) rfl (fun ls hl => ?_)
        refine lv_iconst (v := (1 : Int32)) hx hb dL_removeLine_13 (by decide) ?_
        refine W.widen (k := 3) (n := 28) (Nat.le_of_ble_eq_true rfl) (Nat.le_of_ble_eq_true rfl) ?_
        exact wr_hret hx hb hr hw dL_removeLine_14 hlk
      · have hg3 := it_neg hg2 c1
        have hg3 := it_neg hg3 c1; cases hg3
  · have hg2 : (gd (ok S1 a2 10) <| gd (inb (0 : Int32) (hN S1 a2)) <| some ((0 : Int32), sJ S1 a2 (0 : Int32).toNatClampNeg v.toInt64)) = some (r, S9) := by
      have h9 := hg; simp only [lA, hf] at h9; exact h9
    obtain ⟨hok1, hg2⟩ := gd_some hg2
    obtain ⟨hin1, hg2⟩ := gd_some hg2
    refine wr_ci (va_runV (As := [.int x1]) (rest := [.int (0 : Int32), .ref a2]) ⟨hx, hb, hml, hown, hts⟩ (c_X6_removeLine l D C N S z a0 x1 v S1 z1 hf) (cwV 1 hts gL_removeLine_X6_removeLine rfl rfl rfl (by decide +kernel) ⟨Nat.le_of_ble_eq_true rfl, Nat.le_of_ble_eq_true rfl⟩) (wd_preV hw hok0 (wF_6 (S := S) hok0.2) rfl) rfl rfl hl.1 rfl (lv_room (Nat.le_of_ble_eq_true rfl)) dL_removeLine_4 ⟨Nat.le_of_ble_eq_true rfl, Nat.le_of_ble_eq_true rfl⟩) hw (fun H locs hw => ?_)
    refine lv_i2l (v := v.toInt64) hx hb dL_removeLine_7 rfl ?_
    refine wr_last hx hb hw hok1 (inb_vp hin1) dL_removeLine_8 (fun H locs hw => ?_)
    refine lv_goto (tgt := 15) hx hb dL_removeLine_9 (by decide) ?_
    refine lv_iconst (v := (0 : Int32)) hx hb dL_removeLine_15 (by decide) ?_
    cases hg2
    refine W.widen (k := 3) (n := 28) (Nat.le_of_ble_eq_true rfl) (Nat.le_of_ble_eq_true rfl) ?_
    exact wr_hret hx hb hr hw dL_removeLine_16 hlk
def f_L_move (N : Nat) (S : Hp) (z : Nat) (a0 : Nat) (x1 : Int32) (a2 : Nat) : Option (Int32 × Hp) := gd (ok S a0 6) <| lA (f_X6_move N S z a0 x1) (e_X6_move N S a0 x1) a2 "java/lang/IndexOutOfBoundsException" "java/lang/IllegalStateException"
abbrev rm_L_move : Room := { frames := 34, cells := 3, slots := 28, locals := 1586 }
set_option maxHeartbeats 4000000 in
set_option maxRecDepth 100000 in
theorem h_L_move (l : Launch) (hlt : l.stackTraces = false) (D : va_G) (C : C3) (N : Nat) (S : Hp) (z : Nat) (a0 : Nat) (x1 : Int32) (a2 : Nat) (r : Int32) (S9 : Hp) (hg : f_L_move N S z a0 x1 a2 = some (r, S9)) : MetH l yL_move wsL_move rm_L_move D C S z [.ref a0, .int x1, .ref a2] r S9 3 28 := by
  refine hw_ofW (cc := cL_move) (maxL := 4) (ret := some .int) (hh := [(0, 9, 12, 23), (0, 9, 15, 18)]) (lv := [(0, .ref a0), (1, .int x1), (2, .ref a2)]) (by decide) rfl (Nat.le_of_ble_eq_true rfl) rfl ?_
  intro p e s m below meth c ls hx hb hr hts hown hlk hml htab hthr hl hw
  have hown : s.vm.findClass RL = some m.cls := hown
  unfold f_L_move at hg
  obtain ⟨hok0, hg⟩ := gd_some hg
  refine lv_aload_n hx hb dL_move_0 rfl (lv_at hl 2 rfl) ?_
  refine lv_iconst (v := (0 : Int32)) hx hb dL_move_1 (by decide) ?_
  refine lv_aload_n hx hb dL_move_2 rfl (lv_at hl 0 rfl) ?_
  refine lv_iload_n hx hb dL_move_3 rfl (lv_at hl 1 rfl) ?_
  rcases hf : f_X6_move N S z a0 x1 with _ | ⟨v, S1, z1⟩
  · rcases he : e_X6_move N S a0 x1 with _ | ⟨E, S1⟩
    · exact absurd hg (by simp [lA, hf, he])
    · have hg2 : (if E = "java/lang/IndexOutOfBoundsException" then some ((1 : Int32), S1) else if E = "java/lang/IllegalStateException" then some (2, S1) else none) = some (r, S9) := by
        have h9 := hg; simp only [lA, hf, he] at h9; exact h9
      by_cases c1 : E = "java/lang/IndexOutOfBoundsException"
      · have hg3 := it_pos hg2 c1
        subst c1
        cases hg3
        refine wr_thrown (vx_runV (As := [.int x1]) (rest := [.int (0 : Int32), .ref a2]) ⟨hx, hb, hml, hown, hts⟩ (t_X6_move l hlt D C N S z a0 x1 _ _ he) (cwV 1 hts gL_move_X6_move rfl rfl rfl (by decide +kernel) ⟨Nat.le_of_ble_eq_true rfl, Nat.le_of_ble_eq_true rfl⟩) (wd_preVT hw hthr hok0 (wF_6 (S := S) hok0.2) rfl) rfl rfl hl.1 rfl (lv_room (Nat.le_of_ble_eq_true rfl)) dL_move_4 ⟨Nat.le_of_ble_eq_true rfl, Nat.le_of_ble_eq_true rfl⟩) hw (fun ce q9 z9 H locs hw hce hcv hcl => ?_)
        refine vx_catch (own := RL) (name := "java/lang/IndexOutOfBoundsException") (E := "java/lang/IndexOutOfBoundsException") hown [] ⟨0, 9, 12, 23⟩ [⟨0, 9, 15, 18⟩] (by rw [htab]; rfl) (fun z hz => by cases hz) (by decide) (by decide) (hts _ (List.mem_of_getElem? (i := 1) rfl)) (va_Nw.use rfl (hthr.2.2.2.2.2.2 "java/lang/IndexOutOfBoundsException" (by decide) _ (List.mem_of_getElem? (i := 3) rfl))) hce hcv hcl ?_
        refine lv_astore_n (lv' := [(3, .ref q9), (0, .ref a0), (1, .int x1), (2, .ref a2)]) hx hb dL_move_12 rfl hl (by decide) rfl (fun ls hl => ?_)
        refine lv_iconst (v := (1 : Int32)) hx hb dL_move_13 (by decide) ?_
        refine W.widen (k := 3) (n := 28) (Nat.le_of_ble_eq_true rfl) (Nat.le_of_ble_eq_true rfl) ?_
        exact wr_hret hx hb hr hw dL_move_14 hlk
      · have hg3 := it_neg hg2 c1
        by_cases c2 : E = "java/lang/IllegalStateException"
        · have hg3 := it_pos hg3 c2
          subst c2
          cases hg3
          refine wr_thrown (vx_runV (As := [.int x1]) (rest := [.int (0 : Int32), .ref a2]) ⟨hx, hb, hml, hown, hts⟩ (t_X6_move l hlt D C N S z a0 x1 _ _ he) (cwV 1 hts gL_move_X6_move rfl rfl rfl (by decide +kernel) ⟨Nat.le_of_ble_eq_true rfl, Nat.le_of_ble_eq_true rfl⟩) (wd_preVT hw hthr hok0 (wF_6 (S := S) hok0.2) rfl) rfl rfl hl.1 rfl (lv_room (Nat.le_of_ble_eq_true rfl)) dL_move_4 ⟨Nat.le_of_ble_eq_true rfl, Nat.le_of_ble_eq_true rfl⟩) hw (fun ce q9 z9 H locs hw hce hcv hcl => ?_)
          refine vx_catch (own := RL) (name := "java/lang/IllegalStateException") (E := "java/lang/IllegalStateException") hown [⟨0, 9, 12, 23⟩] ⟨0, 9, 15, 18⟩ [] (by rw [htab]; rfl) (fun z hz => by rcases List.mem_singleton.mp hz with rfl; exact Or.inr ⟨by decide, "java/lang/IndexOutOfBoundsException", (hts _ (List.mem_of_getElem? (i := 1) rfl)), hthr.2.2.2.2.1⟩) (by decide) (by decide) (hts _ (List.mem_of_getElem? (i := 2) rfl)) (va_Nw.use rfl (hthr.2.2.2.2.2.2 "java/lang/IllegalStateException" (by decide) _ (List.mem_of_getElem? (i := 3) rfl))) hce hcv hcl ?_
          refine lv_astore_n (lv' := [(3, .ref q9), (0, .ref a0), (1, .int x1), (2, .ref a2)]) hx hb dL_move_15 rfl hl (by decide) rfl (fun ls hl => ?_)
          refine lv_iconst (v := (2 : Int32)) hx hb dL_move_16 (by decide) ?_
          refine W.widen (k := 3) (n := 28) (Nat.le_of_ble_eq_true rfl) (Nat.le_of_ble_eq_true rfl) ?_
          exact wr_hret hx hb hr hw dL_move_17 hlk
        · have hg3 := it_neg hg3 c2; cases hg3
  · have hg2 : (gd (ok S1 a2 10) <| gd (inb (0 : Int32) (hN S1 a2)) <| some ((0 : Int32), sJ S1 a2 (0 : Int32).toNatClampNeg v.toInt64)) = some (r, S9) := by
      have h9 := hg; simp only [lA, hf] at h9; exact h9
    obtain ⟨hok1, hg2⟩ := gd_some hg2
    obtain ⟨hin1, hg2⟩ := gd_some hg2
    refine wr_ci (va_runV (As := [.int x1]) (rest := [.int (0 : Int32), .ref a2]) ⟨hx, hb, hml, hown, hts⟩ (c_X6_move l D C N S z a0 x1 v S1 z1 hf) (cwV 1 hts gL_move_X6_move rfl rfl rfl (by decide +kernel) ⟨Nat.le_of_ble_eq_true rfl, Nat.le_of_ble_eq_true rfl⟩) (wd_preV hw hok0 (wF_6 (S := S) hok0.2) rfl) rfl rfl hl.1 rfl (lv_room (Nat.le_of_ble_eq_true rfl)) dL_move_4 ⟨Nat.le_of_ble_eq_true rfl, Nat.le_of_ble_eq_true rfl⟩) hw (fun H locs hw => ?_)
    refine lv_i2l (v := v.toInt64) hx hb dL_move_7 rfl ?_
    refine wr_last hx hb hw hok1 (inb_vp hin1) dL_move_8 (fun H locs hw => ?_)
    refine lv_goto (tgt := 18) hx hb dL_move_9 (by decide) ?_
    refine lv_iconst (v := (0 : Int32)) hx hb dL_move_18 (by decide) ?_
    cases hg2
    refine W.widen (k := 3) (n := 28) (Nat.le_of_ble_eq_true rfl) (Nat.le_of_ble_eq_true rfl) ?_
    exact wr_hret hx hb hr hw dL_move_19 hlk
def f_L_skip (N : Nat) (S : Hp) (z : Nat) (a0 : Nat) (a1 : Nat) : Option (Int32 × Hp) := gd (ok S a0 6) <| lA (f_X6_skip N S z a0) (e_X6_skip N S a0) a1 "java/lang/IllegalStateException" "java/lang/IllegalStateException"
abbrev rm_L_skip : Room := { frames := 7, cells := 3, slots := 28, locals := 110 }
set_option maxHeartbeats 4000000 in
set_option maxRecDepth 100000 in
theorem h_L_skip (l : Launch) (hlt : l.stackTraces = false) (D : va_G) (C : C3) (N : Nat) (S : Hp) (z : Nat) (a0 : Nat) (a1 : Nat) (r : Int32) (S9 : Hp) (hg : f_L_skip N S z a0 a1 = some (r, S9)) : MetH l yL_skip wsL_skip rm_L_skip D C S z [.ref a0, .ref a1] r S9 3 28 := by
  refine hw_ofW (cc := cL_skip) (maxL := 3) (ret := some .int) (hh := [(0, 8, 11, 18)]) (lv := [(0, .ref a0), (1, .ref a1)]) (by decide) rfl (Nat.le_of_ble_eq_true rfl) rfl ?_
  intro p e s m below meth c ls hx hb hr hts hown hlk hml htab hthr hl hw
  have hown : s.vm.findClass RL = some m.cls := hown
  unfold f_L_skip at hg
  obtain ⟨hok0, hg⟩ := gd_some hg
  refine lv_aload_n hx hb dL_skip_0 rfl (lv_at hl 1 rfl) ?_
  refine lv_iconst (v := (0 : Int32)) hx hb dL_skip_1 (by decide) ?_
  refine lv_aload_n hx hb dL_skip_2 rfl (lv_at hl 0 rfl) ?_
  rcases hf : f_X6_skip N S z a0 with _ | ⟨v, S1, z1⟩
  · rcases he : e_X6_skip N S a0 with _ | ⟨E, S1⟩
    · exact absurd hg (by simp [lA, hf, he])
    · have hg2 : (if E = "java/lang/IllegalStateException" then some ((1 : Int32), S1) else if E = "java/lang/IllegalStateException" then some (2, S1) else none) = some (r, S9) := by
        have h9 := hg; simp only [lA, hf, he] at h9; exact h9
      by_cases c1 : E = "java/lang/IllegalStateException"
      · have hg3 := it_pos hg2 c1
        subst c1
        cases hg3
        refine wr_thrown (vx_runV (As := []) (rest := [.int (0 : Int32), .ref a1]) ⟨hx, hb, hml, hown, hts⟩ (t_X6_skip l hlt D C N S z a0 _ _ he) (cwV 0 hts gL_skip_X6_skip rfl rfl rfl (by decide +kernel) ⟨Nat.le_of_ble_eq_true rfl, Nat.le_of_ble_eq_true rfl⟩) (wd_preVT hw hthr hok0 (wF_6 (S := S) hok0.2) rfl) rfl rfl hl.1 rfl (lv_room (Nat.le_of_ble_eq_true rfl)) dL_skip_3 ⟨Nat.le_of_ble_eq_true rfl, Nat.le_of_ble_eq_true rfl⟩) hw (fun ce q9 z9 H locs hw hce hcv hcl => ?_)
        refine vx_catch (own := RL) (name := "java/lang/IllegalStateException") (E := "java/lang/IllegalStateException") hown [] ⟨0, 8, 11, 18⟩ [] (by rw [htab]; rfl) (fun z hz => by cases hz) (by decide) (by decide) (hts _ (List.mem_of_getElem? (i := 1) rfl)) (va_Nw.use rfl (hthr.2.2.2.2.2.2 "java/lang/IllegalStateException" (by decide) _ (List.mem_of_getElem? (i := 3) rfl))) hce hcv hcl ?_
        refine lv_astore_n (lv' := [(2, .ref q9), (0, .ref a0), (1, .ref a1)]) hx hb dL_skip_11 rfl hl (by decide) rfl (fun ls hl => ?_)
        refine lv_iconst (v := (1 : Int32)) hx hb dL_skip_12 (by decide) ?_
        refine W.widen (k := 3) (n := 28) (Nat.le_of_ble_eq_true rfl) (Nat.le_of_ble_eq_true rfl) ?_
        exact wr_hret hx hb hr hw dL_skip_13 hlk
      · have hg3 := it_neg hg2 c1
        have hg3 := it_neg hg3 c1; cases hg3
  · have hg2 : (gd (ok S1 a1 10) <| gd (inb (0 : Int32) (hN S1 a1)) <| some ((0 : Int32), sJ S1 a1 (0 : Int32).toNatClampNeg v.toInt64)) = some (r, S9) := by
      have h9 := hg; simp only [lA, hf] at h9; exact h9
    obtain ⟨hok1, hg2⟩ := gd_some hg2
    obtain ⟨hin1, hg2⟩ := gd_some hg2
    refine wr_ci (va_runV (As := []) (rest := [.int (0 : Int32), .ref a1]) ⟨hx, hb, hml, hown, hts⟩ (c_X6_skip l D C N S z a0 v S1 z1 hf) (cwV 0 hts gL_skip_X6_skip rfl rfl rfl (by decide +kernel) ⟨Nat.le_of_ble_eq_true rfl, Nat.le_of_ble_eq_true rfl⟩) (wd_preV hw hok0 (wF_6 (S := S) hok0.2) rfl) rfl rfl hl.1 rfl (lv_room (Nat.le_of_ble_eq_true rfl)) dL_skip_3 ⟨Nat.le_of_ble_eq_true rfl, Nat.le_of_ble_eq_true rfl⟩) hw (fun H locs hw => ?_)
    refine lv_i2l (v := v.toInt64) hx hb dL_skip_6 rfl ?_
    refine wr_last hx hb hw hok1 (inb_vp hin1) dL_skip_7 (fun H locs hw => ?_)
    refine lv_goto (tgt := 14) hx hb dL_skip_8 (by decide) ?_
    refine lv_iconst (v := (0 : Int32)) hx hb dL_skip_14 (by decide) ?_
    cases hg2
    refine W.widen (k := 3) (n := 28) (Nat.le_of_ble_eq_true rfl) (Nat.le_of_ble_eq_true rfl) ?_
    exact wr_hret hx hb hr hw dL_skip_15 hlk
def f_L_play (N : Nat) (S : Hp) (z : Nat) (a0 : Nat) (x1 : Int32) (x2 : Int32) (x3 : Int32) (a4 : Nat) : Option (Int32 × Hp) := gd (ok S a0 6) <| lA (f_X6_play N S z a0 x1 x2 x3) (e_X6_play N S a0 x1 x2 x3) a4 "java/lang/IllegalArgumentException" "java/lang/IllegalStateException"
abbrev rm_L_play : Room := { frames := 34, cells := 3, slots := 28, locals := 1593 }
set_option maxHeartbeats 4000000 in
set_option maxRecDepth 100000 in
theorem h_L_play (l : Launch) (hlt : l.stackTraces = false) (D : va_G) (C : C3) (N : Nat) (S : Hp) (z : Nat) (a0 : Nat) (x1 : Int32) (x2 : Int32) (x3 : Int32) (a4 : Nat) (r : Int32) (S9 : Hp) (hg : f_L_play N S z a0 x1 x2 x3 a4 = some (r, S9)) : MetH l yL_play wsL_play rm_L_play D C S z [.ref a0, .int x1, .int x2, .int x3, .ref a4] r S9 3 28 := by
  refine hw_ofW (cc := cL_play) (maxL := 6) (ret := some .int) (hh := [(0, 12, 15, 13), (0, 12, 19, 18)]) (lv := [(0, .ref a0), (1, .int x1), (2, .int x2), (3, .int x3), (4, .ref a4)]) (by decide) rfl (Nat.le_of_ble_eq_true rfl) rfl ?_
  intro p e s m below meth c ls hx hb hr hts hown hlk hml htab hthr hl hw
  have hown : s.vm.findClass RL = some m.cls := hown
  unfold f_L_play at hg
  obtain ⟨hok0, hg⟩ := gd_some hg
  refine lv_aload hx hb dL_play_0 (lv_at hl 4 rfl) ?_
  refine lv_iconst (v := (0 : Int32)) hx hb dL_play_2 (by decide) ?_
  refine lv_aload_n hx hb dL_play_3 rfl (lv_at hl 0 rfl) ?_
  refine lv_iload_n hx hb dL_play_4 rfl (lv_at hl 1 rfl) ?_
  refine lv_iload_n hx hb dL_play_5 rfl (lv_at hl 2 rfl) ?_
  refine lv_iload_n hx hb dL_play_6 rfl (lv_at hl 3 rfl) ?_
  rcases hf : f_X6_play N S z a0 x1 x2 x3 with _ | ⟨v, S1, z1⟩
  · rcases he : e_X6_play N S a0 x1 x2 x3 with _ | ⟨E, S1⟩
    · exact absurd hg (by simp [lA, hf, he])
    · have hg2 : (if E = "java/lang/IllegalArgumentException" then some ((1 : Int32), S1) else if E = "java/lang/IllegalStateException" then some (2, S1) else none) = some (r, S9) := by
        have h9 := hg; simp only [lA, hf, he] at h9; exact h9
      by_cases c1 : E = "java/lang/IllegalArgumentException"
      · have hg3 := it_pos hg2 c1
        subst c1
        cases hg3
        refine wr_thrown (vx_runV (As := [.int x1, .int x2, .int x3]) (rest := [.int (0 : Int32), .ref a4]) ⟨hx, hb, hml, hown, hts⟩ (t_X6_play l hlt D C N S z a0 x1 x2 x3 _ _ he) (cwV 3 hts gL_play_X6_play rfl rfl rfl (by decide +kernel) ⟨Nat.le_of_ble_eq_true rfl, Nat.le_of_ble_eq_true rfl⟩) (wd_preVT hw hthr hok0 (wF_6 (S := S) hok0.2) rfl) rfl rfl hl.1 rfl (lv_room (Nat.le_of_ble_eq_true rfl)) dL_play_7 ⟨Nat.le_of_ble_eq_true rfl, Nat.le_of_ble_eq_true rfl⟩) hw (fun ce q9 z9 H locs hw hce hcv hcl => ?_)
        refine vx_catch (own := RL) (name := "java/lang/IllegalArgumentException") (E := "java/lang/IllegalArgumentException") hown [] ⟨0, 12, 15, 13⟩ [⟨0, 12, 19, 18⟩] (by rw [htab]; rfl) (fun z hz => by cases hz) (by decide) (by decide) (hts _ (List.mem_of_getElem? (i := 1) rfl)) (va_Nw.use rfl (hthr.2.2.2.2.2.2 "java/lang/IllegalArgumentException" (by decide) _ (List.mem_of_getElem? (i := 3) rfl))) hce hcv hcl ?_
        refine lv_astore (lv' := [(5, .ref q9), (0, .ref a0), (1, .int x1), (2, .int x2), (3, .int x3), (4, .ref a4)]) hx hb dL_play_15 hl (by decide) rfl (fun ls hl => ?_)
        refine lv_iconst (v := (1 : Int32)) hx hb dL_play_17 (by decide) ?_
        refine W.widen (k := 3) (n := 28) (Nat.le_of_ble_eq_true rfl) (Nat.le_of_ble_eq_true rfl) ?_
        exact wr_hret hx hb hr hw dL_play_18 hlk
      · have hg3 := it_neg hg2 c1
        by_cases c2 : E = "java/lang/IllegalStateException"
        · have hg3 := it_pos hg3 c2
          subst c2
          cases hg3
          refine wr_thrown (vx_runV (As := [.int x1, .int x2, .int x3]) (rest := [.int (0 : Int32), .ref a4]) ⟨hx, hb, hml, hown, hts⟩ (t_X6_play l hlt D C N S z a0 x1 x2 x3 _ _ he) (cwV 3 hts gL_play_X6_play rfl rfl rfl (by decide +kernel) ⟨Nat.le_of_ble_eq_true rfl, Nat.le_of_ble_eq_true rfl⟩) (wd_preVT hw hthr hok0 (wF_6 (S := S) hok0.2) rfl) rfl rfl hl.1 rfl (lv_room (Nat.le_of_ble_eq_true rfl)) dL_play_7 ⟨Nat.le_of_ble_eq_true rfl, Nat.le_of_ble_eq_true rfl⟩) hw (fun ce q9 z9 H locs hw hce hcv hcl => ?_)
          refine vx_catch (own := RL) (name := "java/lang/IllegalStateException") (E := "java/lang/IllegalStateException") hown [⟨0, 12, 15, 13⟩] ⟨0, 12, 19, 18⟩ [] (by rw [htab]; rfl) (fun z hz => by rcases List.mem_singleton.mp hz with rfl; exact Or.inr ⟨by decide, "java/lang/IllegalArgumentException", (hts _ (List.mem_of_getElem? (i := 1) rfl)), hthr.2.2.2.1⟩) (by decide) (by decide) (hts _ (List.mem_of_getElem? (i := 2) rfl)) (va_Nw.use rfl (hthr.2.2.2.2.2.2 "java/lang/IllegalStateException" (by decide) _ (List.mem_of_getElem? (i := 3) rfl))) hce hcv hcl ?_
          refine lv_astore (lv' := [(5, .ref q9), (0, .ref a0), (1, .int x1), (2, .int x2), (3, .int x3), (4, .ref a4)]) hx hb dL_play_19 hl (by decide) rfl (fun ls hl => ?_)
          refine lv_iconst (v := (2 : Int32)) hx hb dL_play_21 (by decide) ?_
          refine W.widen (k := 3) (n := 28) (Nat.le_of_ble_eq_true rfl) (Nat.le_of_ble_eq_true rfl) ?_
          exact wr_hret hx hb hr hw dL_play_22 hlk
        · have hg3 := it_neg hg3 c2; cases hg3
  · have hg2 : (gd (ok S1 a4 10) <| gd (inb (0 : Int32) (hN S1 a4)) <| some ((0 : Int32), sJ S1 a4 (0 : Int32).toNatClampNeg v.toInt64)) = some (r, S9) := by
      have h9 := hg; simp only [lA, hf] at h9; exact h9
    obtain ⟨hok1, hg2⟩ := gd_some hg2
    obtain ⟨hin1, hg2⟩ := gd_some hg2
    refine wr_ci (va_runV (As := [.int x1, .int x2, .int x3]) (rest := [.int (0 : Int32), .ref a4]) ⟨hx, hb, hml, hown, hts⟩ (c_X6_play l D C N S z a0 x1 x2 x3 v S1 z1 hf) (cwV 3 hts gL_play_X6_play rfl rfl rfl (by decide +kernel) ⟨Nat.le_of_ble_eq_true rfl, Nat.le_of_ble_eq_true rfl⟩) (wd_preV hw hok0 (wF_6 (S := S) hok0.2) rfl) rfl rfl hl.1 rfl (lv_room (Nat.le_of_ble_eq_true rfl)) dL_play_7 ⟨Nat.le_of_ble_eq_true rfl, Nat.le_of_ble_eq_true rfl⟩) hw (fun H locs hw => ?_)
    refine lv_i2l (v := v.toInt64) hx hb dL_play_10 rfl ?_
    refine wr_last hx hb hw hok1 (inb_vp hin1) dL_play_11 (fun H locs hw => ?_)
    refine lv_goto (tgt := 23) hx hb dL_play_12 (by decide) ?_
    refine lv_iconst (v := (0 : Int32)) hx hb dL_play_23 (by decide) ?_
    cases hg2
    refine W.widen (k := 3) (n := 28) (Nat.le_of_ble_eq_true rfl) (Nat.le_of_ble_eq_true rfl) ?_
    exact wr_hret hx hb hr hw dL_play_24 hlk
def f_L_append (N : Nat) (S : Hp) (z : Nat) (a0 : Nat) (x1 : Int32) (a2 : Nat) : Option (Int32 × Hp) := gd (ok S a0 6) <| lB (f_X6_append N S a0 x1) (e_X6_append N S a0 x1) a2 "java/lang/IllegalArgumentException" "java/lang/IllegalStateException"
abbrev rm_L_append : Room := { frames := 7, cells := 1, slots := 6, locals := 111 }
set_option maxHeartbeats 4000000 in
set_option maxRecDepth 100000 in
theorem h_L_append (l : Launch) (hlt : l.stackTraces = false) (D : va_G) (C : C3) (N : Nat) (S : Hp) (z : Nat) (a0 : Nat) (x1 : Int32) (a2 : Nat) (r : Int32) (S9 : Hp) (hg : f_L_append N S z a0 x1 a2 = some (r, S9)) : MetH l yL_append wsL_append rm_L_append D C S z [.ref a0, .int x1, .ref a2] r S9 1 6 := by
  refine hw_ofW (cc := cL_append) (maxL := 4) (ret := some .int) (hh := [(0, 9, 12, 13), (0, 9, 15, 18)]) (lv := [(0, .ref a0), (1, .int x1), (2, .ref a2)]) (by decide) rfl (Nat.le_of_ble_eq_true rfl) rfl ?_
  intro p e s m below meth c ls hx hb hr hts hown hlk hml htab hthr hl hw
  have hown : s.vm.findClass RL = some m.cls := hown
  unfold f_L_append at hg
  obtain ⟨hok0, hg⟩ := gd_some hg
  refine lv_aload_n hx hb dL_append_0 rfl (lv_at hl 2 rfl) ?_
  refine lv_iconst (v := (0 : Int32)) hx hb dL_append_1 (by decide) ?_
  refine lv_aload_n hx hb dL_append_2 rfl (lv_at hl 0 rfl) ?_
  refine lv_iload_n hx hb dL_append_3 rfl (lv_at hl 1 rfl) ?_
  rcases hf : f_X6_append N S a0 x1 with _ | ⟨v, S1⟩
  · rcases he : e_X6_append N S a0 x1 with _ | ⟨E, S1⟩
    · exact absurd hg (by simp [lB, hf, he])
    · have hg2 : (if E = "java/lang/IllegalArgumentException" then some ((1 : Int32), S1) else if E = "java/lang/IllegalStateException" then some (2, S1) else none) = some (r, S9) := by
        have h9 := hg; simp only [lB, hf, he] at h9; exact h9
      by_cases c1 : E = "java/lang/IllegalArgumentException"
      · have hg3 := it_pos hg2 c1
        subst c1
        cases hg3
        refine wr_thrown (vx_runV (As := [.int x1]) (rest := [.int (0 : Int32), .ref a2]) ⟨hx, hb, hml, hown, hts⟩ (t_X6_append l hlt D C N S z a0 x1 _ _ he) (cwV 1 hts gL_append_X6_append rfl rfl rfl (by decide +kernel) ⟨Nat.le_of_ble_eq_true rfl, Nat.le_of_ble_eq_true rfl⟩) (wd_preVT hw hthr hok0 (wF_6 (S := S) hok0.2) rfl) rfl rfl hl.1 rfl (lv_room (Nat.le_of_ble_eq_true rfl)) dL_append_4 ⟨Nat.le_of_ble_eq_true rfl, Nat.le_of_ble_eq_true rfl⟩) hw (fun ce q9 z9 H locs hw hce hcv hcl => ?_)
        refine vx_catch (own := RL) (name := "java/lang/IllegalArgumentException") (E := "java/lang/IllegalArgumentException") hown [] ⟨0, 9, 12, 13⟩ [⟨0, 9, 15, 18⟩] (by rw [htab]; rfl) (fun z hz => by cases hz) (by decide) (by decide) (hts _ (List.mem_of_getElem? (i := 1) rfl)) (va_Nw.use rfl (hthr.2.2.2.2.2.2 "java/lang/IllegalArgumentException" (by decide) _ (List.mem_of_getElem? (i := 3) rfl))) hce hcv hcl ?_
        refine lv_astore_n (lv' := [(3, .ref q9), (0, .ref a0), (1, .int x1), (2, .ref a2)]) hx hb dL_append_12 rfl hl (by decide) rfl (fun ls hl => ?_)
        refine lv_iconst (v := (1 : Int32)) hx hb dL_append_13 (by decide) ?_
        refine W.widen (k := 1) (n := 6) (Nat.le_of_ble_eq_true rfl) (Nat.le_of_ble_eq_true rfl) ?_
        exact wr_hret hx hb hr hw dL_append_14 hlk
      · have hg3 := it_neg hg2 c1
        by_cases c2 : E = "java/lang/IllegalStateException"
        · have hg3 := it_pos hg3 c2
          subst c2
          cases hg3
          refine wr_thrown (vx_runV (As := [.int x1]) (rest := [.int (0 : Int32), .ref a2]) ⟨hx, hb, hml, hown, hts⟩ (t_X6_append l hlt D C N S z a0 x1 _ _ he) (cwV 1 hts gL_append_X6_append rfl rfl rfl (by decide +kernel) ⟨Nat.le_of_ble_eq_true rfl, Nat.le_of_ble_eq_true rfl⟩) (wd_preVT hw hthr hok0 (wF_6 (S := S) hok0.2) rfl) rfl rfl hl.1 rfl (lv_room (Nat.le_of_ble_eq_true rfl)) dL_append_4 ⟨Nat.le_of_ble_eq_true rfl, Nat.le_of_ble_eq_true rfl⟩) hw (fun ce q9 z9 H locs hw hce hcv hcl => ?_)
          refine vx_catch (own := RL) (name := "java/lang/IllegalStateException") (E := "java/lang/IllegalStateException") hown [⟨0, 9, 12, 13⟩] ⟨0, 9, 15, 18⟩ [] (by rw [htab]; rfl) (fun z hz => by rcases List.mem_singleton.mp hz with rfl; exact Or.inr ⟨by decide, "java/lang/IllegalArgumentException", (hts _ (List.mem_of_getElem? (i := 1) rfl)), hthr.2.2.2.1⟩) (by decide) (by decide) (hts _ (List.mem_of_getElem? (i := 2) rfl)) (va_Nw.use rfl (hthr.2.2.2.2.2.2 "java/lang/IllegalStateException" (by decide) _ (List.mem_of_getElem? (i := 3) rfl))) hce hcv hcl ?_
          refine lv_astore_n (lv' := [(3, .ref q9), (0, .ref a0), (1, .int x1), (2, .ref a2)]) hx hb dL_append_15 rfl hl (by decide) rfl (fun ls hl => ?_)
          refine lv_iconst (v := (2 : Int32)) hx hb dL_append_16 (by decide) ?_
          refine W.widen (k := 1) (n := 6) (Nat.le_of_ble_eq_true rfl) (Nat.le_of_ble_eq_true rfl) ?_
          exact wr_hret hx hb hr hw dL_append_17 hlk
        · have hg3 := it_neg hg3 c2; cases hg3
  · have hg2 : (gd (ok S1 a2 10) <| gd (inb (0 : Int32) (hN S1 a2)) <| some ((0 : Int32), sJ S1 a2 (0 : Int32).toNatClampNeg v.toInt64)) = some (r, S9) := by
      have h9 := hg; simp only [lB, hf] at h9; exact h9
    obtain ⟨hok1, hg2⟩ := gd_some hg2
    obtain ⟨hin1, hg2⟩ := gd_some hg2
    refine wr_ci (va_runV (As := [.int x1]) (rest := [.int (0 : Int32), .ref a2]) ⟨hx, hb, hml, hown, hts⟩ (c_X6_append l D C N S z a0 x1 v S1 hf) (cwV 1 hts gL_append_X6_append rfl rfl rfl (by decide +kernel) ⟨Nat.le_of_ble_eq_true rfl, Nat.le_of_ble_eq_true rfl⟩) (wd_preV hw hok0 (wF_6 (S := S) hok0.2) rfl) rfl rfl hl.1 rfl (lv_room (Nat.le_of_ble_eq_true rfl)) dL_append_4 ⟨Nat.le_of_ble_eq_true rfl, Nat.le_of_ble_eq_true rfl⟩) hw (fun H locs hw => ?_)
    refine lv_i2l (v := v.toInt64) hx hb dL_append_7 rfl ?_
    refine wr_last hx hb hw hok1 (inb_vp hin1) dL_append_8 (fun H locs hw => ?_)
    refine lv_goto (tgt := 18) hx hb dL_append_9 (by decide) ?_
    refine lv_iconst (v := (0 : Int32)) hx hb dL_append_18 (by decide) ?_
    cases hg2
    refine W.widen (k := 1) (n := 6) (Nat.le_of_ble_eq_true rfl) (Nat.le_of_ble_eq_true rfl) ?_
    exact wr_hret hx hb hr hw dL_append_19 hlk
def f_L_read (N : Nat) (S : Hp) (z : Nat) (a0 : Nat) (a1 : Nat) : Option (Int32 × Hp) := gd (ok S a0 6) <| lA (f_X6_read N S z a0) (e_X6_read N S a0) a1 "java/lang/IllegalArgumentException" "java/lang/IllegalStateException"
abbrev rm_L_read : Room := { frames := 7, cells := 3, slots := 28, locals := 110 }
set_option maxHeartbeats 4000000 in
set_option maxRecDepth 100000 in
theorem h_L_read (l : Launch) (hlt : l.stackTraces = false) (D : va_G) (C : C3) (N : Nat) (S : Hp) (z : Nat) (a0 : Nat) (a1 : Nat) (r : Int32) (S9 : Hp) (hg : f_L_read N S z a0 a1 = some (r, S9)) : MetH l yL_read wsL_read rm_L_read D C S z [.ref a0, .ref a1] r S9 3 28 := by
  refine hw_ofW (cc := cL_read) (maxL := 3) (ret := some .int) (hh := [(0, 8, 11, 13), (0, 8, 14, 18)]) (lv := [(0, .ref a0), (1, .ref a1)]) (by decide) rfl (Nat.le_of_ble_eq_true rfl) rfl ?_
  intro p e s m below meth c ls hx hb hr hts hown hlk hml htab hthr hl hw
  have hown : s.vm.findClass RL = some m.cls := hown
  unfold f_L_read at hg
  obtain ⟨hok0, hg⟩ := gd_some hg
  refine lv_aload_n hx hb dL_read_0 rfl (lv_at hl 1 rfl) ?_
  refine lv_iconst (v := (0 : Int32)) hx hb dL_read_1 (by decide) ?_
  refine lv_aload_n hx hb dL_read_2 rfl (lv_at hl 0 rfl) ?_
  rcases hf : f_X6_read N S z a0 with _ | ⟨v, S1, z1⟩
  · rcases he : e_X6_read N S a0 with _ | ⟨E, S1⟩
    · exact absurd hg (by simp [lA, hf, he])
    · have hg2 : (if E = "java/lang/IllegalArgumentException" then some ((1 : Int32), S1) else if E = "java/lang/IllegalStateException" then some (2, S1) else none) = some (r, S9) := by
        have h9 := hg; simp only [lA, hf, he] at h9; exact h9
      by_cases c1 : E = "java/lang/IllegalArgumentException"
      · have hg3 := it_pos hg2 c1
        subst c1
        cases hg3
        refine wr_thrown (vx_runV (As := []) (rest := [.int (0 : Int32), .ref a1]) ⟨hx, hb, hml, hown, hts⟩ (t_X6_read l hlt D C N S z a0 _ _ he) (cwV 0 hts gL_read_X6_read rfl rfl rfl (by decide +kernel) ⟨Nat.le_of_ble_eq_true rfl, Nat.le_of_ble_eq_true rfl⟩) (wd_preVT hw hthr hok0 (wF_6 (S := S) hok0.2) rfl) rfl rfl hl.1 rfl (lv_room (Nat.le_of_ble_eq_true rfl)) dL_read_3 ⟨Nat.le_of_ble_eq_true rfl, Nat.le_of_ble_eq_true rfl⟩) hw (fun ce q9 z9 H locs hw hce hcv hcl => ?_)
        refine vx_catch (own := RL) (name := "java/lang/IllegalArgumentException") (E := "java/lang/IllegalArgumentException") hown [] ⟨0, 8, 11, 13⟩ [⟨0, 8, 14, 18⟩] (by rw [htab]; rfl) (fun z hz => by cases hz) (by decide) (by decide) (hts _ (List.mem_of_getElem? (i := 1) rfl)) (va_Nw.use rfl (hthr.2.2.2.2.2.2 "java/lang/IllegalArgumentException" (by decide) _ (List.mem_of_getElem? (i := 3) rfl))) hce hcv hcl ?_
        refine lv_astore_n (lv' := [(2, .ref q9), (0, .ref a0), (1, .ref a1)]) hx hb dL_read_11 rfl hl (by decide) rfl (fun ls hl => ?_)
        refine lv_iconst (v := (1 : Int32)) hx hb dL_read_12 (by decide) ?_
        refine W.widen (k := 3) (n := 28) (Nat.le_of_ble_eq_true rfl) (Nat.le_of_ble_eq_true rfl) ?_
        exact wr_hret hx hb hr hw dL_read_13 hlk
      · have hg3 := it_neg hg2 c1
        by_cases c2 : E = "java/lang/IllegalStateException"
        · have hg3 := it_pos hg3 c2
          subst c2
          cases hg3
          refine wr_thrown (vx_runV (As := []) (rest := [.int (0 : Int32), .ref a1]) ⟨hx, hb, hml, hown, hts⟩ (t_X6_read l hlt D C N S z a0 _ _ he) (cwV 0 hts gL_read_X6_read rfl rfl rfl (by decide +kernel) ⟨Nat.le_of_ble_eq_true rfl, Nat.le_of_ble_eq_true rfl⟩) (wd_preVT hw hthr hok0 (wF_6 (S := S) hok0.2) rfl) rfl rfl hl.1 rfl (lv_room (Nat.le_of_ble_eq_true rfl)) dL_read_3 ⟨Nat.le_of_ble_eq_true rfl, Nat.le_of_ble_eq_true rfl⟩) hw (fun ce q9 z9 H locs hw hce hcv hcl => ?_)
          refine vx_catch (own := RL) (name := "java/lang/IllegalStateException") (E := "java/lang/IllegalStateException") hown [⟨0, 8, 11, 13⟩] ⟨0, 8, 14, 18⟩ [] (by rw [htab]; rfl) (fun z hz => by rcases List.mem_singleton.mp hz with rfl; exact Or.inr ⟨by decide, "java/lang/IllegalArgumentException", (hts _ (List.mem_of_getElem? (i := 1) rfl)), hthr.2.2.2.1⟩) (by decide) (by decide) (hts _ (List.mem_of_getElem? (i := 2) rfl)) (va_Nw.use rfl (hthr.2.2.2.2.2.2 "java/lang/IllegalStateException" (by decide) _ (List.mem_of_getElem? (i := 3) rfl))) hce hcv hcl ?_
          refine lv_astore_n (lv' := [(2, .ref q9), (0, .ref a0), (1, .ref a1)]) hx hb dL_read_14 rfl hl (by decide) rfl (fun ls hl => ?_)
          refine lv_iconst (v := (2 : Int32)) hx hb dL_read_15 (by decide) ?_
          refine W.widen (k := 3) (n := 28) (Nat.le_of_ble_eq_true rfl) (Nat.le_of_ble_eq_true rfl) ?_
          exact wr_hret hx hb hr hw dL_read_16 hlk
        · have hg3 := it_neg hg3 c2; cases hg3
  · have hg2 : (gd (ok S1 a1 10) <| gd (inb (0 : Int32) (hN S1 a1)) <| some ((0 : Int32), sJ S1 a1 (0 : Int32).toNatClampNeg v.toInt64)) = some (r, S9) := by
      have h9 := hg; simp only [lA, hf] at h9; exact h9
    obtain ⟨hok1, hg2⟩ := gd_some hg2
    obtain ⟨hin1, hg2⟩ := gd_some hg2
    refine wr_ci (va_runV (As := []) (rest := [.int (0 : Int32), .ref a1]) ⟨hx, hb, hml, hown, hts⟩ (c_X6_read l D C N S z a0 v S1 z1 hf) (cwV 0 hts gL_read_X6_read rfl rfl rfl (by decide +kernel) ⟨Nat.le_of_ble_eq_true rfl, Nat.le_of_ble_eq_true rfl⟩) (wd_preV hw hok0 (wF_6 (S := S) hok0.2) rfl) rfl rfl hl.1 rfl (lv_room (Nat.le_of_ble_eq_true rfl)) dL_read_3 ⟨Nat.le_of_ble_eq_true rfl, Nat.le_of_ble_eq_true rfl⟩) hw (fun H locs hw => ?_)
    refine lv_i2l (v := v.toInt64) hx hb dL_read_6 rfl ?_
    refine wr_last hx hb hw hok1 (inb_vp hin1) dL_read_7 (fun H locs hw => ?_)
    refine lv_goto (tgt := 17) hx hb dL_read_8 (by decide) ?_
    refine lv_iconst (v := (0 : Int32)) hx hb dL_read_17 (by decide) ?_
    cases hg2
    refine W.widen (k := 3) (n := 28) (Nat.le_of_ble_eq_true rfl) (Nat.le_of_ble_eq_true rfl) ?_
    exact wr_hret hx hb hr hw dL_read_18 hlk
def f_L_take (N : Nat) (S : Hp) (z : Nat) (a0 : Nat) (x1 : Int32) (a2 : Nat) : Option (Int32 × Hp) := gd (ok S a0 6) <| lA (f_X6_take N S z a0 x1) (e_X6_take N S a0 x1) a2 "java/lang/IndexOutOfBoundsException" "java/lang/IndexOutOfBoundsException"
abbrev rm_L_take : Room := { frames := 7, cells := 3, slots := 28, locals := 112 }
set_option maxHeartbeats 4000000 in
set_option maxRecDepth 100000 in
theorem h_L_take (l : Launch) (hlt : l.stackTraces = false) (D : va_G) (C : C3) (N : Nat) (S : Hp) (z : Nat) (a0 : Nat) (x1 : Int32) (a2 : Nat) (r : Int32) (S9 : Hp) (hg : f_L_take N S z a0 x1 a2 = some (r, S9)) : MetH l yL_take wsL_take rm_L_take D C S z [.ref a0, .int x1, .ref a2] r S9 3 28 := by
  refine hw_ofW (cc := cL_take) (maxL := 4) (ret := some .int) (hh := [(0, 9, 12, 23)]) (lv := [(0, .ref a0), (1, .int x1), (2, .ref a2)]) (by decide) rfl (Nat.le_of_ble_eq_true rfl) rfl ?_
  intro p e s m below meth c ls hx hb hr hts hown hlk hml htab hthr hl hw
  have hown : s.vm.findClass RL = some m.cls := hown
  unfold f_L_take at hg
  obtain ⟨hok0, hg⟩ := gd_some hg
  refine lv_aload_n hx hb dL_take_0 rfl (lv_at hl 2 rfl) ?_
  refine lv_iconst (v := (0 : Int32)) hx hb dL_take_1 (by decide) ?_
  refine lv_aload_n hx hb dL_take_2 rfl (lv_at hl 0 rfl) ?_
  refine lv_iload_n hx hb dL_take_3 rfl (lv_at hl 1 rfl) ?_
  rcases hf : f_X6_take N S z a0 x1 with _ | ⟨v, S1, z1⟩
  · rcases he : e_X6_take N S a0 x1 with _ | ⟨E, S1⟩
    · exact absurd hg (by simp [lA, hf, he])
    · have hg2 : (if E = "java/lang/IndexOutOfBoundsException" then some ((1 : Int32), S1) else if E = "java/lang/IndexOutOfBoundsException" then some (2, S1) else none) = some (r, S9) := by
        have h9 := hg; simp only [lA, hf, he] at h9; exact h9
      by_cases c1 : E = "java/lang/IndexOutOfBoundsException"
      · have hg3 := it_pos hg2 c1
        subst c1
        cases hg3
        refine wr_thrown (vx_runV (As := [.int x1]) (rest := [.int (0 : Int32), .ref a2]) ⟨hx, hb, hml, hown, hts⟩ (t_X6_take l hlt D C N S z a0 x1 _ _ he) (cwV 1 hts gL_take_X6_take rfl rfl rfl (by decide +kernel) ⟨Nat.le_of_ble_eq_true rfl, Nat.le_of_ble_eq_true rfl⟩) (wd_preVT hw hthr hok0 (wF_6 (S := S) hok0.2) rfl) rfl rfl hl.1 rfl (lv_room (Nat.le_of_ble_eq_true rfl)) dL_take_4 ⟨Nat.le_of_ble_eq_true rfl, Nat.le_of_ble_eq_true rfl⟩) hw (fun ce q9 z9 H locs hw hce hcv hcl => ?_)
        refine vx_catch (own := RL) (name := "java/lang/IndexOutOfBoundsException") (E := "java/lang/IndexOutOfBoundsException") hown [] ⟨0, 9, 12, 23⟩ [] (by rw [htab]; rfl) (fun z hz => by cases hz) (by decide) (by decide) (hts _ (List.mem_of_getElem? (i := 1) rfl)) (va_Nw.use rfl (hthr.2.2.2.2.2.2 "java/lang/IndexOutOfBoundsException" (by decide) _ (List.mem_of_getElem? (i := 3) rfl))) hce hcv hcl ?_
        refine lv_astore_n (lv' := [(3, .ref q9), (0, .ref a0), (1, .int x1), (2, .ref a2)]) hx hb dL_take_12 rfl hl (by decide) rfl (fun ls hl => ?_)
        refine lv_iconst (v := (1 : Int32)) hx hb dL_take_13 (by decide) ?_
        refine W.widen (k := 3) (n := 28) (Nat.le_of_ble_eq_true rfl) (Nat.le_of_ble_eq_true rfl) ?_
        exact wr_hret hx hb hr hw dL_take_14 hlk
      · have hg3 := it_neg hg2 c1
        have hg3 := it_neg hg3 c1; cases hg3
  · have hg2 : (gd (ok S1 a2 10) <| gd (inb (0 : Int32) (hN S1 a2)) <| some ((0 : Int32), sJ S1 a2 (0 : Int32).toNatClampNeg v.toInt64)) = some (r, S9) := by
      have h9 := hg; simp only [lA, hf] at h9; exact h9
    obtain ⟨hok1, hg2⟩ := gd_some hg2
    obtain ⟨hin1, hg2⟩ := gd_some hg2
    refine wr_ci (va_runV (As := [.int x1]) (rest := [.int (0 : Int32), .ref a2]) ⟨hx, hb, hml, hown, hts⟩ (c_X6_take l D C N S z a0 x1 v S1 z1 hf) (cwV 1 hts gL_take_X6_take rfl rfl rfl (by decide +kernel) ⟨Nat.le_of_ble_eq_true rfl, Nat.le_of_ble_eq_true rfl⟩) (wd_preV hw hok0 (wF_6 (S := S) hok0.2) rfl) rfl rfl hl.1 rfl (lv_room (Nat.le_of_ble_eq_true rfl)) dL_take_4 ⟨Nat.le_of_ble_eq_true rfl, Nat.le_of_ble_eq_true rfl⟩) hw (fun H locs hw => ?_)
    refine lv_i2l (v := v.toInt64) hx hb dL_take_7 rfl ?_
    refine wr_last hx hb hw hok1 (inb_vp hin1) dL_take_8 (fun H locs hw => ?_)
    refine lv_goto (tgt := 15) hx hb dL_take_9 (by decide) ?_
    refine lv_iconst (v := (0 : Int32)) hx hb dL_take_15 (by decide) ?_
    cases hg2
    refine W.widen (k := 3) (n := 28) (Nat.le_of_ble_eq_true rfl) (Nat.le_of_ble_eq_true rfl) ?_
    exact wr_hret hx hb hr hw dL_take_16 hlk
def f_L_restore (N : Nat) (S : Hp) (z : Nat) (a0 : Nat) (x1 : Int32) (a2 : Nat) : Option (Int32 × Hp) := gd (ok S a0 6) <| lA (f_X6_restore N S z a0 x1) (e_X6_restore N S a0 x1) a2 "java/lang/IndexOutOfBoundsException" "java/lang/IllegalStateException"
abbrev rm_L_restore : Room := { frames := 7, cells := 3, slots := 28, locals := 112 }
set_option maxHeartbeats 4000000 in
set_option maxRecDepth 100000 in
theorem h_L_restore (l : Launch) (hlt : l.stackTraces = false) (D : va_G) (C : C3) (N : Nat) (S : Hp) (z : Nat) (a0 : Nat) (x1 : Int32) (a2 : Nat) (r : Int32) (S9 : Hp) (hg : f_L_restore N S z a0 x1 a2 = some (r, S9)) : MetH l yL_restore wsL_restore rm_L_restore D C S z [.ref a0, .int x1, .ref a2] r S9 3 28 := by
  refine hw_ofW (cc := cL_restore) (maxL := 4) (ret := some .int) (hh := [(0, 9, 12, 23), (0, 9, 15, 18)]) (lv := [(0, .ref a0), (1, .int x1), (2, .ref a2)]) (by decide) rfl (Nat.le_of_ble_eq_true rfl) rfl ?_
  intro p e s m below meth c ls hx hb hr hts hown hlk hml htab hthr hl hw
  have hown : s.vm.findClass RL = some m.cls := hown
  unfold f_L_restore at hg
  obtain ⟨hok0, hg⟩ := gd_some hg
  refine lv_aload_n hx hb dL_restore_0 rfl (lv_at hl 2 rfl) ?_
  refine lv_iconst (v := (0 : Int32)) hx hb dL_restore_1 (by decide) ?_
  refine lv_aload_n hx hb dL_restore_2 rfl (lv_at hl 0 rfl) ?_
  refine lv_iload_n hx hb dL_restore_3 rfl (lv_at hl 1 rfl) ?_
  rcases hf : f_X6_restore N S z a0 x1 with _ | ⟨v, S1, z1⟩
  · rcases he : e_X6_restore N S a0 x1 with _ | ⟨E, S1⟩
    · exact absurd hg (by simp [lA, hf, he])
    · have hg2 : (if E = "java/lang/IndexOutOfBoundsException" then some ((1 : Int32), S1) else if E = "java/lang/IllegalStateException" then some (2, S1) else none) = some (r, S9) := by
        have h9 := hg; simp only [lA, hf, he] at h9; exact h9
      by_cases c1 : E = "java/lang/IndexOutOfBoundsException"
      · have hg3 := it_pos hg2 c1
        subst c1
        cases hg3
        refine wr_thrown (vx_runV (As := [.int x1]) (rest := [.int (0 : Int32), .ref a2]) ⟨hx, hb, hml, hown, hts⟩ (t_X6_restore l hlt D C N S z a0 x1 _ _ he) (cwV 1 hts gL_restore_X6_restore rfl rfl rfl (by decide +kernel) ⟨Nat.le_of_ble_eq_true rfl, Nat.le_of_ble_eq_true rfl⟩) (wd_preVT hw hthr hok0 (wF_6 (S := S) hok0.2) rfl) rfl rfl hl.1 rfl (lv_room (Nat.le_of_ble_eq_true rfl)) dL_restore_4 ⟨Nat.le_of_ble_eq_true rfl, Nat.le_of_ble_eq_true rfl⟩) hw (fun ce q9 z9 H locs hw hce hcv hcl => ?_)
        refine vx_catch (own := RL) (name := "java/lang/IndexOutOfBoundsException") (E := "java/lang/IndexOutOfBoundsException") hown [] ⟨0, 9, 12, 23⟩ [⟨0, 9, 15, 18⟩] (by rw [htab]; rfl) (fun z hz => by cases hz) (by decide) (by decide) (hts _ (List.mem_of_getElem? (i := 1) rfl)) (va_Nw.use rfl (hthr.2.2.2.2.2.2 "java/lang/IndexOutOfBoundsException" (by decide) _ (List.mem_of_getElem? (i := 3) rfl))) hce hcv hcl ?_
        refine lv_astore_n (lv' := [(3, .ref q9), (0, .ref a0), (1, .int x1), (2, .ref a2)]) hx hb dL_restore_12 rfl hl (by decide) rfl (fun ls hl => ?_)
        refine lv_iconst (v := (1 : Int32)) hx hb dL_restore_13 (by decide) ?_
        refine W.widen (k := 3) (n := 28) (Nat.le_of_ble_eq_true rfl) (Nat.le_of_ble_eq_true rfl) ?_
        exact wr_hret hx hb hr hw dL_restore_14 hlk
      · have hg3 := it_neg hg2 c1
        by_cases c2 : E = "java/lang/IllegalStateException"
        · have hg3 := it_pos hg3 c2
          subst c2
          cases hg3
          refine wr_thrown (vx_runV (As := [.int x1]) (rest := [.int (0 : Int32), .ref a2]) ⟨hx, hb, hml, hown, hts⟩ (t_X6_restore l hlt D C N S z a0 x1 _ _ he) (cwV 1 hts gL_restore_X6_restore rfl rfl rfl (by decide +kernel) ⟨Nat.le_of_ble_eq_true rfl, Nat.le_of_ble_eq_true rfl⟩) (wd_preVT hw hthr hok0 (wF_6 (S := S) hok0.2) rfl) rfl rfl hl.1 rfl (lv_room (Nat.le_of_ble_eq_true rfl)) dL_restore_4 ⟨Nat.le_of_ble_eq_true rfl, Nat.le_of_ble_eq_true rfl⟩) hw (fun ce q9 z9 H locs hw hce hcv hcl => ?_)
          refine vx_catch (own := RL) (name := "java/lang/IllegalStateException") (E := "java/lang/IllegalStateException") hown [⟨0, 9, 12, 23⟩] ⟨0, 9, 15, 18⟩ [] (by rw [htab]; rfl) (fun z hz => by rcases List.mem_singleton.mp hz with rfl; exact Or.inr ⟨by decide, "java/lang/IndexOutOfBoundsException", (hts _ (List.mem_of_getElem? (i := 1) rfl)), hthr.2.2.2.2.1⟩) (by decide) (by decide) (hts _ (List.mem_of_getElem? (i := 2) rfl)) (va_Nw.use rfl (hthr.2.2.2.2.2.2 "java/lang/IllegalStateException" (by decide) _ (List.mem_of_getElem? (i := 3) rfl))) hce hcv hcl ?_
          refine lv_astore_n (lv' := [(3, .ref q9), (0, .ref a0), (1, .int x1), (2, .ref a2)]) hx hb dL_restore_15 rfl hl (by decide) rfl (fun ls hl => ?_)
          refine lv_iconst (v := (2 : Int32)) hx hb dL_restore_16 (by decide) ?_
          refine W.widen (k := 3) (n := 28) (Nat.le_of_ble_eq_true rfl) (Nat.le_of_ble_eq_true rfl) ?_
          exact wr_hret hx hb hr hw dL_restore_17 hlk
        · have hg3 := it_neg hg3 c2; cases hg3
  · have hg2 : (gd (ok S1 a2 10) <| gd (inb (0 : Int32) (hN S1 a2)) <| some ((0 : Int32), sJ S1 a2 (0 : Int32).toNatClampNeg v.toInt64)) = some (r, S9) := by
      have h9 := hg; simp only [lA, hf] at h9; exact h9
    obtain ⟨hok1, hg2⟩ := gd_some hg2
    obtain ⟨hin1, hg2⟩ := gd_some hg2
    refine wr_ci (va_runV (As := [.int x1]) (rest := [.int (0 : Int32), .ref a2]) ⟨hx, hb, hml, hown, hts⟩ (c_X6_restore l D C N S z a0 x1 v S1 z1 hf) (cwV 1 hts gL_restore_X6_restore rfl rfl rfl (by decide +kernel) ⟨Nat.le_of_ble_eq_true rfl, Nat.le_of_ble_eq_true rfl⟩) (wd_preV hw hok0 (wF_6 (S := S) hok0.2) rfl) rfl rfl hl.1 rfl (lv_room (Nat.le_of_ble_eq_true rfl)) dL_restore_4 ⟨Nat.le_of_ble_eq_true rfl, Nat.le_of_ble_eq_true rfl⟩) hw (fun H locs hw => ?_)
    refine lv_i2l (v := v.toInt64) hx hb dL_restore_7 rfl ?_
    refine wr_last hx hb hw hok1 (inb_vp hin1) dL_restore_8 (fun H locs hw => ?_)
    refine lv_goto (tgt := 18) hx hb dL_restore_9 (by decide) ?_
    refine lv_iconst (v := (0 : Int32)) hx hb dL_restore_18 (by decide) ?_
    cases hg2
    refine W.widen (k := 3) (n := 28) (Nat.le_of_ble_eq_true rfl) (Nat.le_of_ble_eq_true rfl) ?_
    exact wr_hret hx hb hr hw dL_restore_19 hlk
def f_L_undo (N : Nat) (S : Hp) (z : Nat) (a0 : Nat) (a1 : Nat) : Option (Int32 × Hp) := gd (ok S a0 6) <| lB (f_X6_undo N S a0) (e_X6_undo N S a0) a1 "java/lang/IllegalStateException" "java/lang/IllegalStateException"
abbrev rm_L_undo : Room := { frames := 7, cells := 1, slots := 6, locals := 110 }
set_option maxHeartbeats 4000000 in
set_option maxRecDepth 100000 in
theorem h_L_undo (l : Launch) (hlt : l.stackTraces = false) (D : va_G) (C : C3) (N : Nat) (S : Hp) (z : Nat) (a0 : Nat) (a1 : Nat) (r : Int32) (S9 : Hp) (hg : f_L_undo N S z a0 a1 = some (r, S9)) : MetH l yL_undo wsL_undo rm_L_undo D C S z [.ref a0, .ref a1] r S9 1 6 := by
  refine hw_ofW (cc := cL_undo) (maxL := 3) (ret := some .int) (hh := [(0, 8, 11, 18)]) (lv := [(0, .ref a0), (1, .ref a1)]) (by decide) rfl (Nat.le_of_ble_eq_true rfl) rfl ?_
  intro p e s m below meth c ls hx hb hr hts hown hlk hml htab hthr hl hw
  have hown : s.vm.findClass RL = some m.cls := hown
  unfold f_L_undo at hg
  obtain ⟨hok0, hg⟩ := gd_some hg
  refine lv_aload_n hx hb dL_undo_0 rfl (lv_at hl 1 rfl) ?_
  refine lv_iconst (v := (0 : Int32)) hx hb dL_undo_1 (by decide) ?_
  refine lv_aload_n hx hb dL_undo_2 rfl (lv_at hl 0 rfl) ?_
  rcases hf : f_X6_undo N S a0 with _ | ⟨v, S1⟩
  · rcases he : e_X6_undo N S a0 with _ | ⟨E, S1⟩
    · exact absurd hg (by simp [lB, hf, he])
    · have hg2 : (if E = "java/lang/IllegalStateException" then some ((1 : Int32), S1) else if E = "java/lang/IllegalStateException" then some (2, S1) else none) = some (r, S9) := by
        have h9 := hg; simp only [lB, hf, he] at h9; exact h9
      by_cases c1 : E = "java/lang/IllegalStateException"
      · have hg3 := it_pos hg2 c1
        subst c1
        cases hg3
        refine wr_thrown (vx_runV (As := []) (rest := [.int (0 : Int32), .ref a1]) ⟨hx, hb, hml, hown, hts⟩ (t_X6_undo l hlt D C N S z a0 _ _ he) (cwV 0 hts gL_undo_X6_undo rfl rfl rfl (by decide +kernel) ⟨Nat.le_of_ble_eq_true rfl, Nat.le_of_ble_eq_true rfl⟩) (wd_preVT hw hthr hok0 (wF_6 (S := S) hok0.2) rfl) rfl rfl hl.1 rfl (lv_room (Nat.le_of_ble_eq_true rfl)) dL_undo_3 ⟨Nat.le_of_ble_eq_true rfl, Nat.le_of_ble_eq_true rfl⟩) hw (fun ce q9 z9 H locs hw hce hcv hcl => ?_)
        refine vx_catch (own := RL) (name := "java/lang/IllegalStateException") (E := "java/lang/IllegalStateException") hown [] ⟨0, 8, 11, 18⟩ [] (by rw [htab]; rfl) (fun z hz => by cases hz) (by decide) (by decide) (hts _ (List.mem_of_getElem? (i := 1) rfl)) (va_Nw.use rfl (hthr.2.2.2.2.2.2 "java/lang/IllegalStateException" (by decide) _ (List.mem_of_getElem? (i := 3) rfl))) hce hcv hcl ?_
        refine lv_astore_n (lv' := [(2, .ref q9), (0, .ref a0), (1, .ref a1)]) hx hb dL_undo_11 rfl hl (by decide) rfl (fun ls hl => ?_)
        refine lv_iconst (v := (1 : Int32)) hx hb dL_undo_12 (by decide) ?_
        refine W.widen (k := 1) (n := 6) (Nat.le_of_ble_eq_true rfl) (Nat.le_of_ble_eq_true rfl) ?_
        exact wr_hret hx hb hr hw dL_undo_13 hlk
      · have hg3 := it_neg hg2 c1
        have hg3 := it_neg hg3 c1; cases hg3
  · have hg2 : (gd (ok S1 a1 10) <| gd (inb (0 : Int32) (hN S1 a1)) <| some ((0 : Int32), sJ S1 a1 (0 : Int32).toNatClampNeg v.toInt64)) = some (r, S9) := by
      have h9 := hg; simp only [lB, hf] at h9; exact h9
    obtain ⟨hok1, hg2⟩ := gd_some hg2
    obtain ⟨hin1, hg2⟩ := gd_some hg2
    refine wr_ci (va_runV (As := []) (rest := [.int (0 : Int32), .ref a1]) ⟨hx, hb, hml, hown, hts⟩ (c_X6_undo l D C N S z a0 v S1 hf) (cwV 0 hts gL_undo_X6_undo rfl rfl rfl (by decide +kernel) ⟨Nat.le_of_ble_eq_true rfl, Nat.le_of_ble_eq_true rfl⟩) (wd_preV hw hok0 (wF_6 (S := S) hok0.2) rfl) rfl rfl hl.1 rfl (lv_room (Nat.le_of_ble_eq_true rfl)) dL_undo_3 ⟨Nat.le_of_ble_eq_true rfl, Nat.le_of_ble_eq_true rfl⟩) hw (fun H locs hw => ?_)
    refine lv_i2l (v := v.toInt64) hx hb dL_undo_6 rfl ?_
    refine wr_last hx hb hw hok1 (inb_vp hin1) dL_undo_7 (fun H locs hw => ?_)
    refine lv_goto (tgt := 14) hx hb dL_undo_8 (by decide) ?_
    refine lv_iconst (v := (0 : Int32)) hx hb dL_undo_14 (by decide) ?_
    cases hg2
    refine W.widen (k := 1) (n := 6) (Nat.le_of_ble_eq_true rfl) (Nat.le_of_ble_eq_true rfl) ?_
    exact wr_hret hx hb hr hw dL_undo_15 hlk
def f_L_line (N : Nat) (S : Hp) (z : Nat) (a0 : Nat) (x1 : Int32) (x2 : Int32) (a3 : Nat) : Option (Int32 × Hp) := gd (ok S a0 6) <| lB (f_X6_line N S a0 x1 x2) (e_X6_line N S a0 x1 x2) a3 "java/lang/IndexOutOfBoundsException" "java/lang/IllegalArgumentException"
abbrev rm_L_line : Room := { frames := 7, cells := 1, slots := 6, locals := 115 }
set_option maxHeartbeats 4000000 in
set_option maxRecDepth 100000 in
theorem h_L_line (l : Launch) (hlt : l.stackTraces = false) (D : va_G) (C : C3) (N : Nat) (S : Hp) (z : Nat) (a0 : Nat) (x1 : Int32) (x2 : Int32) (a3 : Nat) (r : Int32) (S9 : Hp) (hg : f_L_line N S z a0 x1 x2 a3 = some (r, S9)) : MetH l yL_line wsL_line rm_L_line D C S z [.ref a0, .int x1, .int x2, .ref a3] r S9 1 6 := by
  refine hw_ofW (cc := cL_line) (maxL := 5) (ret := some .int) (hh := [(0, 10, 13, 23), (0, 10, 17, 13)]) (lv := [(0, .ref a0), (1, .int x1), (2, .int x2), (3, .ref a3)]) (by decide) rfl (Nat.le_of_ble_eq_true rfl) rfl ?_
  intro p e s m below meth c ls hx hb hr hts hown hlk hml htab hthr hl hw
  have hown : s.vm.findClass RL = some m.cls := hown
  unfold f_L_line at hg
  obtain ⟨hok0, hg⟩ := gd_some hg
  refine lv_aload_n hx hb dL_line_0 rfl (lv_at hl 3 rfl) ?_
  refine lv_iconst (v := (0 : Int32)) hx hb dL_line_1 (by decide) ?_
  refine lv_aload_n hx hb dL_line_2 rfl (lv_at hl 0 rfl) ?_
  refine lv_iload_n hx hb dL_line_3 rfl (lv_at hl 1 rfl) ?_
  refine lv_iload_n hx hb dL_line_4 rfl (lv_at hl 2 rfl) ?_
  rcases hf : f_X6_line N S a0 x1 x2 with _ | ⟨v, S1⟩
  · rcases he : e_X6_line N S a0 x1 x2 with _ | ⟨E, S1⟩
    · exact absurd hg (by simp [lB, hf, he])
    · have hg2 : (if E = "java/lang/IndexOutOfBoundsException" then some ((1 : Int32), S1) else if E = "java/lang/IllegalArgumentException" then some (2, S1) else none) = some (r, S9) := by
        have h9 := hg; simp only [lB, hf, he] at h9; exact h9
      by_cases c1 : E = "java/lang/IndexOutOfBoundsException"
      · have hg3 := it_pos hg2 c1
        subst c1
        cases hg3
        refine wr_thrown (vx_runV (As := [.int x1, .int x2]) (rest := [.int (0 : Int32), .ref a3]) ⟨hx, hb, hml, hown, hts⟩ (t_X6_line l hlt D C N S z a0 x1 x2 _ _ he) (cwV 2 hts gL_line_X6_line rfl rfl rfl (by decide +kernel) ⟨Nat.le_of_ble_eq_true rfl, Nat.le_of_ble_eq_true rfl⟩) (wd_preVT hw hthr hok0 (wF_6 (S := S) hok0.2) rfl) rfl rfl hl.1 rfl (lv_room (Nat.le_of_ble_eq_true rfl)) dL_line_5 ⟨Nat.le_of_ble_eq_true rfl, Nat.le_of_ble_eq_true rfl⟩) hw (fun ce q9 z9 H locs hw hce hcv hcl => ?_)
        refine vx_catch (own := RL) (name := "java/lang/IndexOutOfBoundsException") (E := "java/lang/IndexOutOfBoundsException") hown [] ⟨0, 10, 13, 23⟩ [⟨0, 10, 17, 13⟩] (by rw [htab]; rfl) (fun z hz => by cases hz) (by decide) (by decide) (hts _ (List.mem_of_getElem? (i := 1) rfl)) (va_Nw.use rfl (hthr.2.2.2.2.2.2 "java/lang/IndexOutOfBoundsException" (by decide) _ (List.mem_of_getElem? (i := 3) rfl))) hce hcv hcl ?_
        refine lv_astore (lv' := [(4, .ref q9), (0, .ref a0), (1, .int x1), (2, .int x2), (3, .ref a3)]) hx hb dL_line_13 hl (by decide) rfl (fun ls hl => ?_)
        refine lv_iconst (v := (1 : Int32)) hx hb dL_line_15 (by decide) ?_
        refine W.widen (k := 1) (n := 6) (Nat.le_of_ble_eq_true rfl) (Nat.le_of_ble_eq_true rfl) ?_
        exact wr_hret hx hb hr hw dL_line_16 hlk
      · have hg3 := it_neg hg2 c1
        by_cases c2 : E = "java/lang/IllegalArgumentException"
        · have hg3 := it_pos hg3 c2
          subst c2
          cases hg3
          refine wr_thrown (vx_runV (As := [.int x1, .int x2]) (rest := [.int (0 : Int32), .ref a3]) ⟨hx, hb, hml, hown, hts⟩ (t_X6_line l hlt D C N S z a0 x1 x2 _ _ he) (cwV 2 hts gL_line_X6_line rfl rfl rfl (by decide +kernel) ⟨Nat.le_of_ble_eq_true rfl, Nat.le_of_ble_eq_true rfl⟩) (wd_preVT hw hthr hok0 (wF_6 (S := S) hok0.2) rfl) rfl rfl hl.1 rfl (lv_room (Nat.le_of_ble_eq_true rfl)) dL_line_5 ⟨Nat.le_of_ble_eq_true rfl, Nat.le_of_ble_eq_true rfl⟩) hw (fun ce q9 z9 H locs hw hce hcv hcl => ?_)
          refine vx_catch (own := RL) (name := "java/lang/IllegalArgumentException") (E := "java/lang/IllegalArgumentException") hown [⟨0, 10, 13, 23⟩] ⟨0, 10, 17, 13⟩ [] (by rw [htab]; rfl) (fun z hz => by rcases List.mem_singleton.mp hz with rfl; exact Or.inr ⟨by decide, "java/lang/IndexOutOfBoundsException", (hts _ (List.mem_of_getElem? (i := 1) rfl)), hthr.2.2.2.2.2.1⟩) (by decide) (by decide) (hts _ (List.mem_of_getElem? (i := 2) rfl)) (va_Nw.use rfl (hthr.2.2.2.2.2.2 "java/lang/IllegalArgumentException" (by decide) _ (List.mem_of_getElem? (i := 3) rfl))) hce hcv hcl ?_
          refine lv_astore (lv' := [(4, .ref q9), (0, .ref a0), (1, .int x1), (2, .int x2), (3, .ref a3)]) hx hb dL_line_17 hl (by decide) rfl (fun ls hl => ?_)
          refine lv_iconst (v := (2 : Int32)) hx hb dL_line_19 (by decide) ?_
          refine W.widen (k := 1) (n := 6) (Nat.le_of_ble_eq_true rfl) (Nat.le_of_ble_eq_true rfl) ?_
          exact wr_hret hx hb hr hw dL_line_20 hlk
        · have hg3 := it_neg hg3 c2; cases hg3
  · have hg2 : (gd (ok S1 a3 10) <| gd (inb (0 : Int32) (hN S1 a3)) <| some ((0 : Int32), sJ S1 a3 (0 : Int32).toNatClampNeg v.toInt64)) = some (r, S9) := by
      have h9 := hg; simp only [lB, hf] at h9; exact h9
    obtain ⟨hok1, hg2⟩ := gd_some hg2
    obtain ⟨hin1, hg2⟩ := gd_some hg2
    refine wr_ci (va_runV (As := [.int x1, .int x2]) (rest := [.int (0 : Int32), .ref a3]) ⟨hx, hb, hml, hown, hts⟩ (c_X6_line l D C N S z a0 x1 x2 v S1 hf) (cwV 2 hts gL_line_X6_line rfl rfl rfl (by decide +kernel) ⟨Nat.le_of_ble_eq_true rfl, Nat.le_of_ble_eq_true rfl⟩) (wd_preV hw hok0 (wF_6 (S := S) hok0.2) rfl) rfl rfl hl.1 rfl (lv_room (Nat.le_of_ble_eq_true rfl)) dL_line_5 ⟨Nat.le_of_ble_eq_true rfl, Nat.le_of_ble_eq_true rfl⟩) hw (fun H locs hw => ?_)
    refine lv_i2l (v := v.toInt64) hx hb dL_line_8 rfl ?_
    refine wr_last hx hb hw hok1 (inb_vp hin1) dL_line_9 (fun H locs hw => ?_)
    refine lv_goto (tgt := 21) hx hb dL_line_10 (by decide) ?_
    refine lv_iconst (v := (0 : Int32)) hx hb dL_line_21 (by decide) ?_
    cases hg2
    refine W.widen (k := 1) (n := 6) (Nat.le_of_ble_eq_true rfl) (Nat.le_of_ble_eq_true rfl) ?_
    exact wr_hret hx hb hr hw dL_line_22 hlk
def f_L_cell (N : Nat) (S : Hp) (z : Nat) (a0 : Nat) (x1 : Int32) (x2 : Int32) (a3 : Nat) : Option (Int32 × Hp) := gd (ok S a0 6) <| lB (f_X6_cell N S a0 x1 x2) (e_X6_cell N S a0 x1 x2) a3 "java/lang/IndexOutOfBoundsException" "java/lang/IllegalArgumentException"
abbrev rm_L_cell : Room := { frames := 34, cells := 1, slots := 6, locals := 1587 }
set_option maxHeartbeats 4000000 in
set_option maxRecDepth 100000 in
theorem h_L_cell (l : Launch) (hlt : l.stackTraces = false) (D : va_G) (C : C3) (N : Nat) (S : Hp) (z : Nat) (a0 : Nat) (x1 : Int32) (x2 : Int32) (a3 : Nat) (r : Int32) (S9 : Hp) (hg : f_L_cell N S z a0 x1 x2 a3 = some (r, S9)) : MetH l yL_cell wsL_cell rm_L_cell D C S z [.ref a0, .int x1, .int x2, .ref a3] r S9 1 6 := by
  refine hw_ofW (cc := cL_cell) (maxL := 5) (ret := some .int) (hh := [(0, 10, 13, 23), (0, 10, 17, 13)]) (lv := [(0, .ref a0), (1, .int x1), (2, .int x2), (3, .ref a3)]) (by decide) rfl (Nat.le_of_ble_eq_true rfl) rfl ?_
  intro p e s m below meth c ls hx hb hr hts hown hlk hml htab hthr hl hw
  have hown : s.vm.findClass RL = some m.cls := hown
  unfold f_L_cell at hg
  obtain ⟨hok0, hg⟩ := gd_some hg
  refine lv_aload_n hx hb dL_cell_0 rfl (lv_at hl 3 rfl) ?_
  refine lv_iconst (v := (0 : Int32)) hx hb dL_cell_1 (by decide) ?_
  refine lv_aload_n hx hb dL_cell_2 rfl (lv_at hl 0 rfl) ?_
  refine lv_iload_n hx hb dL_cell_3 rfl (lv_at hl 1 rfl) ?_
  refine lv_iload_n hx hb dL_cell_4 rfl (lv_at hl 2 rfl) ?_
  rcases hf : f_X6_cell N S a0 x1 x2 with _ | ⟨v, S1⟩
  · rcases he : e_X6_cell N S a0 x1 x2 with _ | ⟨E, S1⟩
    · exact absurd hg (by simp [lB, hf, he])
    · have hg2 : (if E = "java/lang/IndexOutOfBoundsException" then some ((1 : Int32), S1) else if E = "java/lang/IllegalArgumentException" then some (2, S1) else none) = some (r, S9) := by
        have h9 := hg; simp only [lB, hf, he] at h9; exact h9
      by_cases c1 : E = "java/lang/IndexOutOfBoundsException"
      · have hg3 := it_pos hg2 c1
        subst c1
        cases hg3
        refine wr_thrown (vx_runV (As := [.int x1, .int x2]) (rest := [.int (0 : Int32), .ref a3]) ⟨hx, hb, hml, hown, hts⟩ (t_X6_cell l hlt D C N S z a0 x1 x2 _ _ he) (cwV 2 hts gL_cell_X6_cell rfl rfl rfl (by decide +kernel) ⟨Nat.le_of_ble_eq_true rfl, Nat.le_of_ble_eq_true rfl⟩) (wd_preVT hw hthr hok0 (wF_6 (S := S) hok0.2) rfl) rfl rfl hl.1 rfl (lv_room (Nat.le_of_ble_eq_true rfl)) dL_cell_5 ⟨Nat.le_of_ble_eq_true rfl, Nat.le_of_ble_eq_true rfl⟩) hw (fun ce q9 z9 H locs hw hce hcv hcl => ?_)
        refine vx_catch (own := RL) (name := "java/lang/IndexOutOfBoundsException") (E := "java/lang/IndexOutOfBoundsException") hown [] ⟨0, 10, 13, 23⟩ [⟨0, 10, 17, 13⟩] (by rw [htab]; rfl) (fun z hz => by cases hz) (by decide) (by decide) (hts _ (List.mem_of_getElem? (i := 1) rfl)) (va_Nw.use rfl (hthr.2.2.2.2.2.2 "java/lang/IndexOutOfBoundsException" (by decide) _ (List.mem_of_getElem? (i := 3) rfl))) hce hcv hcl ?_
        refine lv_astore (lv' := [(4, .ref q9), (0, .ref a0), (1, .int x1), (2, .int x2), (3, .ref a3)]) hx hb dL_cell_13 hl (by decide) rfl (fun ls hl => ?_)
        refine lv_iconst (v := (1 : Int32)) hx hb dL_cell_15 (by decide) ?_
        refine W.widen (k := 1) (n := 6) (Nat.le_of_ble_eq_true rfl) (Nat.le_of_ble_eq_true rfl) ?_
        exact wr_hret hx hb hr hw dL_cell_16 hlk
      · have hg3 := it_neg hg2 c1
        by_cases c2 : E = "java/lang/IllegalArgumentException"
        · have hg3 := it_pos hg3 c2
          subst c2
          cases hg3
          refine wr_thrown (vx_runV (As := [.int x1, .int x2]) (rest := [.int (0 : Int32), .ref a3]) ⟨hx, hb, hml, hown, hts⟩ (t_X6_cell l hlt D C N S z a0 x1 x2 _ _ he) (cwV 2 hts gL_cell_X6_cell rfl rfl rfl (by decide +kernel) ⟨Nat.le_of_ble_eq_true rfl, Nat.le_of_ble_eq_true rfl⟩) (wd_preVT hw hthr hok0 (wF_6 (S := S) hok0.2) rfl) rfl rfl hl.1 rfl (lv_room (Nat.le_of_ble_eq_true rfl)) dL_cell_5 ⟨Nat.le_of_ble_eq_true rfl, Nat.le_of_ble_eq_true rfl⟩) hw (fun ce q9 z9 H locs hw hce hcv hcl => ?_)
          refine vx_catch (own := RL) (name := "java/lang/IllegalArgumentException") (E := "java/lang/IllegalArgumentException") hown [⟨0, 10, 13, 23⟩] ⟨0, 10, 17, 13⟩ [] (by rw [htab]; rfl) (fun z hz => by rcases List.mem_singleton.mp hz with rfl; exact Or.inr ⟨by decide, "java/lang/IndexOutOfBoundsException", (hts _ (List.mem_of_getElem? (i := 1) rfl)), hthr.2.2.2.2.2.1⟩) (by decide) (by decide) (hts _ (List.mem_of_getElem? (i := 2) rfl)) (va_Nw.use rfl (hthr.2.2.2.2.2.2 "java/lang/IllegalArgumentException" (by decide) _ (List.mem_of_getElem? (i := 3) rfl))) hce hcv hcl ?_
          refine lv_astore (lv' := [(4, .ref q9), (0, .ref a0), (1, .int x1), (2, .int x2), (3, .ref a3)]) hx hb dL_cell_17 hl (by decide) rfl (fun ls hl => ?_)
          refine lv_iconst (v := (2 : Int32)) hx hb dL_cell_19 (by decide) ?_
          refine W.widen (k := 1) (n := 6) (Nat.le_of_ble_eq_true rfl) (Nat.le_of_ble_eq_true rfl) ?_
          exact wr_hret hx hb hr hw dL_cell_20 hlk
        · have hg3 := it_neg hg3 c2; cases hg3
  · have hg2 : (gd (ok S1 a3 10) <| gd (inb (0 : Int32) (hN S1 a3)) <| some ((0 : Int32), sJ S1 a3 (0 : Int32).toNatClampNeg v.toInt64)) = some (r, S9) := by
      have h9 := hg; simp only [lB, hf] at h9; exact h9
    obtain ⟨hok1, hg2⟩ := gd_some hg2
    obtain ⟨hin1, hg2⟩ := gd_some hg2
    refine wr_ci (va_runV (As := [.int x1, .int x2]) (rest := [.int (0 : Int32), .ref a3]) ⟨hx, hb, hml, hown, hts⟩ (c_X6_cell l D C N S z a0 x1 x2 v S1 hf) (cwV 2 hts gL_cell_X6_cell rfl rfl rfl (by decide +kernel) ⟨Nat.le_of_ble_eq_true rfl, Nat.le_of_ble_eq_true rfl⟩) (wd_preV hw hok0 (wF_6 (S := S) hok0.2) rfl) rfl rfl hl.1 rfl (lv_room (Nat.le_of_ble_eq_true rfl)) dL_cell_5 ⟨Nat.le_of_ble_eq_true rfl, Nat.le_of_ble_eq_true rfl⟩) hw (fun H locs hw => ?_)
    refine lv_i2l (v := v.toInt64) hx hb dL_cell_8 rfl ?_
    refine wr_last hx hb hw hok1 (inb_vp hin1) dL_cell_9 (fun H locs hw => ?_)
    refine lv_goto (tgt := 21) hx hb dL_cell_10 (by decide) ?_
    refine lv_iconst (v := (0 : Int32)) hx hb dL_cell_21 (by decide) ?_
    cases hg2
    refine W.widen (k := 1) (n := 6) (Nat.le_of_ble_eq_true rfl) (Nat.le_of_ble_eq_true rfl) ?_
    exact wr_hret hx hb hr hw dL_cell_22 hlk
def f_L_reply (N : Nat) (S : Hp) (z : Nat) (a0 : Nat) (x1 : Int32) (a2 : Nat) : Option (Int32 × Hp) := gd (ok S a0 6) <| lB (f_X6_reply N S a0 x1) (e_X6_reply N S a0 x1) a2 "java/lang/IllegalArgumentException" "java/lang/IllegalArgumentException"
abbrev rm_L_reply : Room := { frames := 32, cells := 1, slots := 6, locals := 1496 }
set_option maxHeartbeats 4000000 in
set_option maxRecDepth 100000 in
theorem h_L_reply (l : Launch) (hlt : l.stackTraces = false) (D : va_G) (C : C3) (N : Nat) (S : Hp) (z : Nat) (a0 : Nat) (x1 : Int32) (a2 : Nat) (r : Int32) (S9 : Hp) (hg : f_L_reply N S z a0 x1 a2 = some (r, S9)) : MetH l yL_reply wsL_reply rm_L_reply D C S z [.ref a0, .int x1, .ref a2] r S9 1 6 := by
  refine hw_ofW (cc := cL_reply) (maxL := 4) (ret := some .int) (hh := [(0, 9, 12, 13)]) (lv := [(0, .ref a0), (1, .int x1), (2, .ref a2)]) (by decide) rfl (Nat.le_of_ble_eq_true rfl) rfl ?_
  intro p e s m below meth c ls hx hb hr hts hown hlk hml htab hthr hl hw
  have hown : s.vm.findClass RL = some m.cls := hown
  unfold f_L_reply at hg
  obtain ⟨hok0, hg⟩ := gd_some hg
  refine lv_aload_n hx hb dL_reply_0 rfl (lv_at hl 2 rfl) ?_
  refine lv_iconst (v := (0 : Int32)) hx hb dL_reply_1 (by decide) ?_
  refine lv_aload_n hx hb dL_reply_2 rfl (lv_at hl 0 rfl) ?_
  refine lv_iload_n hx hb dL_reply_3 rfl (lv_at hl 1 rfl) ?_
  rcases hf : f_X6_reply N S a0 x1 with _ | ⟨v, S1⟩
  · rcases he : e_X6_reply N S a0 x1 with _ | ⟨E, S1⟩
    · exact absurd hg (by simp [lB, hf, he])
    · have hg2 : (if E = "java/lang/IllegalArgumentException" then some ((1 : Int32), S1) else if E = "java/lang/IllegalArgumentException" then some (2, S1) else none) = some (r, S9) := by
        have h9 := hg; simp only [lB, hf, he] at h9; exact h9
      by_cases c1 : E = "java/lang/IllegalArgumentException"
      · have hg3 := it_pos hg2 c1
        subst c1
        cases hg3
        refine wr_thrown (vx_runV (As := [.int x1]) (rest := [.int (0 : Int32), .ref a2]) ⟨hx, hb, hml, hown, hts⟩ (t_X6_reply l hlt D C N S z a0 x1 _ _ he) (cwV 1 hts gL_reply_X6_reply rfl rfl rfl (by decide +kernel) ⟨Nat.le_of_ble_eq_true rfl, Nat.le_of_ble_eq_true rfl⟩) (wd_preVT hw hthr hok0 (wF_6 (S := S) hok0.2) rfl) rfl rfl hl.1 rfl (lv_room (Nat.le_of_ble_eq_true rfl)) dL_reply_4 ⟨Nat.le_of_ble_eq_true rfl, Nat.le_of_ble_eq_true rfl⟩) hw (fun ce q9 z9 H locs hw hce hcv hcl => ?_)
        refine vx_catch (own := RL) (name := "java/lang/IllegalArgumentException") (E := "java/lang/IllegalArgumentException") hown [] ⟨0, 9, 12, 13⟩ [] (by rw [htab]; rfl) (fun z hz => by cases hz) (by decide) (by decide) (hts _ (List.mem_of_getElem? (i := 1) rfl)) (va_Nw.use rfl (hthr.2.2.2.2.2.2 "java/lang/IllegalArgumentException" (by decide) _ (List.mem_of_getElem? (i := 3) rfl))) hce hcv hcl ?_
        refine lv_astore_n (lv' := [(3, .ref q9), (0, .ref a0), (1, .int x1), (2, .ref a2)]) hx hb dL_reply_12 rfl hl (by decide) rfl (fun ls hl => ?_)
        refine lv_iconst (v := (1 : Int32)) hx hb dL_reply_13 (by decide) ?_
        refine W.widen (k := 1) (n := 6) (Nat.le_of_ble_eq_true rfl) (Nat.le_of_ble_eq_true rfl) ?_
        exact wr_hret hx hb hr hw dL_reply_14 hlk
      · have hg3 := it_neg hg2 c1
        have hg3 := it_neg hg3 c1; cases hg3
  · have hg2 : (gd (ok S1 a2 10) <| gd (inb (0 : Int32) (hN S1 a2)) <| some ((0 : Int32), sJ S1 a2 (0 : Int32).toNatClampNeg v.toInt64)) = some (r, S9) := by
      have h9 := hg; simp only [lB, hf] at h9; exact h9
    obtain ⟨hok1, hg2⟩ := gd_some hg2
    obtain ⟨hin1, hg2⟩ := gd_some hg2
    refine wr_ci (va_runV (As := [.int x1]) (rest := [.int (0 : Int32), .ref a2]) ⟨hx, hb, hml, hown, hts⟩ (c_X6_reply l D C N S z a0 x1 v S1 hf) (cwV 1 hts gL_reply_X6_reply rfl rfl rfl (by decide +kernel) ⟨Nat.le_of_ble_eq_true rfl, Nat.le_of_ble_eq_true rfl⟩) (wd_preV hw hok0 (wF_6 (S := S) hok0.2) rfl) rfl rfl hl.1 rfl (lv_room (Nat.le_of_ble_eq_true rfl)) dL_reply_4 ⟨Nat.le_of_ble_eq_true rfl, Nat.le_of_ble_eq_true rfl⟩) hw (fun H locs hw => ?_)
    refine lv_i2l (v := v.toInt64) hx hb dL_reply_7 rfl ?_
    refine wr_last hx hb hw hok1 (inb_vp hin1) dL_reply_8 (fun H locs hw => ?_)
    refine lv_goto (tgt := 15) hx hb dL_reply_9 (by decide) ?_
    refine lv_iconst (v := (0 : Int32)) hx hb dL_reply_15 (by decide) ?_
    cases hg2
    refine W.widen (k := 1) (n := 6) (Nat.le_of_ble_eq_true rfl) (Nat.le_of_ble_eq_true rfl) ?_
    exact wr_hret hx hb hr hw dL_reply_16 hlk
def f_L_solved (N : Nat) (S : Hp) (z : Nat) (a0 : Nat) (x1 : Int32) (a2 : Nat) : Option (Int32 × Hp) := gd (ok S a0 6) <| lB (f_X6_solved N S a0 x1) (e_X6_solved N S a0 x1) a2 "java/lang/IllegalArgumentException" "java/lang/IllegalArgumentException"
abbrev rm_L_solved : Room := { frames := 31, cells := 1, slots := 6, locals := 1466 }
set_option maxHeartbeats 4000000 in
set_option maxRecDepth 100000 in
theorem h_L_solved (l : Launch) (hlt : l.stackTraces = false) (D : va_G) (C : C3) (N : Nat) (S : Hp) (z : Nat) (a0 : Nat) (x1 : Int32) (a2 : Nat) (r : Int32) (S9 : Hp) (hg : f_L_solved N S z a0 x1 a2 = some (r, S9)) : MetH l yL_solved wsL_solved rm_L_solved D C S z [.ref a0, .int x1, .ref a2] r S9 1 6 := by
  refine hw_ofW (cc := cL_solved) (maxL := 4) (ret := some .int) (hh := [(0, 9, 12, 13)]) (lv := [(0, .ref a0), (1, .int x1), (2, .ref a2)]) (by decide) rfl (Nat.le_of_ble_eq_true rfl) rfl ?_
  intro p e s m below meth c ls hx hb hr hts hown hlk hml htab hthr hl hw
  have hown : s.vm.findClass RL = some m.cls := hown
  unfold f_L_solved at hg
  obtain ⟨hok0, hg⟩ := gd_some hg
  refine lv_aload_n hx hb dL_solved_0 rfl (lv_at hl 2 rfl) ?_
  refine lv_iconst (v := (0 : Int32)) hx hb dL_solved_1 (by decide) ?_
  refine lv_aload_n hx hb dL_solved_2 rfl (lv_at hl 0 rfl) ?_
  refine lv_iload_n hx hb dL_solved_3 rfl (lv_at hl 1 rfl) ?_
  rcases hf : f_X6_solved N S a0 x1 with _ | ⟨v, S1⟩
  · rcases he : e_X6_solved N S a0 x1 with _ | ⟨E, S1⟩
    · exact absurd hg (by simp [lB, hf, he])
    · have hg2 : (if E = "java/lang/IllegalArgumentException" then some ((1 : Int32), S1) else if E = "java/lang/IllegalArgumentException" then some (2, S1) else none) = some (r, S9) := by
        have h9 := hg; simp only [lB, hf, he] at h9; exact h9
      by_cases c1 : E = "java/lang/IllegalArgumentException"
      · have hg3 := it_pos hg2 c1
        subst c1
        cases hg3
        refine wr_thrown (vx_runV (As := [.int x1]) (rest := [.int (0 : Int32), .ref a2]) ⟨hx, hb, hml, hown, hts⟩ (t_X6_solved l hlt D C N S z a0 x1 _ _ he) (cwV 1 hts gL_solved_X6_solved rfl rfl rfl (by decide +kernel) ⟨Nat.le_of_ble_eq_true rfl, Nat.le_of_ble_eq_true rfl⟩) (wd_preVT hw hthr hok0 (wF_6 (S := S) hok0.2) rfl) rfl rfl hl.1 rfl (lv_room (Nat.le_of_ble_eq_true rfl)) dL_solved_4 ⟨Nat.le_of_ble_eq_true rfl, Nat.le_of_ble_eq_true rfl⟩) hw (fun ce q9 z9 H locs hw hce hcv hcl => ?_)
        refine vx_catch (own := RL) (name := "java/lang/IllegalArgumentException") (E := "java/lang/IllegalArgumentException") hown [] ⟨0, 9, 12, 13⟩ [] (by rw [htab]; rfl) (fun z hz => by cases hz) (by decide) (by decide) (hts _ (List.mem_of_getElem? (i := 1) rfl)) (va_Nw.use rfl (hthr.2.2.2.2.2.2 "java/lang/IllegalArgumentException" (by decide) _ (List.mem_of_getElem? (i := 3) rfl))) hce hcv hcl ?_
        refine lv_astore_n (lv' := [(3, .ref q9), (0, .ref a0), (1, .int x1), (2, .ref a2)]) hx hb dL_solved_12 rfl hl (by decide) rfl (fun ls hl => ?_)
        refine lv_iconst (v := (1 : Int32)) hx hb dL_solved_13 (by decide) ?_
        refine W.widen (k := 1) (n := 6) (Nat.le_of_ble_eq_true rfl) (Nat.le_of_ble_eq_true rfl) ?_
        exact wr_hret hx hb hr hw dL_solved_14 hlk
      · have hg3 := it_neg hg2 c1
        have hg3 := it_neg hg3 c1; cases hg3
  · have hg2 : (gd (ok S1 a2 10) <| gd (inb (0 : Int32) (hN S1 a2)) <| some ((0 : Int32), sJ S1 a2 (0 : Int32).toNatClampNeg v.toInt64)) = some (r, S9) := by
      have h9 := hg; simp only [lB, hf] at h9; exact h9
    obtain ⟨hok1, hg2⟩ := gd_some hg2
    obtain ⟨hin1, hg2⟩ := gd_some hg2
    refine wr_ci (va_runV (As := [.int x1]) (rest := [.int (0 : Int32), .ref a2]) ⟨hx, hb, hml, hown, hts⟩ (c_X6_solved l D C N S z a0 x1 v S1 hf) (cwV 1 hts gL_solved_X6_solved rfl rfl rfl (by decide +kernel) ⟨Nat.le_of_ble_eq_true rfl, Nat.le_of_ble_eq_true rfl⟩) (wd_preV hw hok0 (wF_6 (S := S) hok0.2) rfl) rfl rfl hl.1 rfl (lv_room (Nat.le_of_ble_eq_true rfl)) dL_solved_4 ⟨Nat.le_of_ble_eq_true rfl, Nat.le_of_ble_eq_true rfl⟩) hw (fun H locs hw => ?_)
    refine lv_i2l (v := v.toInt64) hx hb dL_solved_7 rfl ?_
    refine wr_last hx hb hw hok1 (inb_vp hin1) dL_solved_8 (fun H locs hw => ?_)
    refine lv_goto (tgt := 15) hx hb dL_solved_9 (by decide) ?_
    refine lv_iconst (v := (0 : Int32)) hx hb dL_solved_15 (by decide) ?_
    cases hg2
    refine W.widen (k := 1) (n := 6) (Nat.le_of_ble_eq_true rfl) (Nat.le_of_ble_eq_true rfl) ?_
    exact wr_hret hx hb hr hw dL_solved_16 hlk
def f_L_ifMoved (N : Nat) (S : Hp) (z : Nat) (a0 : Nat) (x1 : Int32) (a2 : Nat) : Option (Int32 × Hp) := gd (ok S a0 6) <| lB (f_X6_ifMoved N S a0 x1) (e_X6_ifMoved N S a0 x1) a2 "java/lang/IndexOutOfBoundsException" "java/lang/IndexOutOfBoundsException"
abbrev rm_L_ifMoved : Room := { frames := 31, cells := 1, slots := 6, locals := 1464 }
set_option maxHeartbeats 4000000 in
set_option maxRecDepth 100000 in
theorem h_L_ifMoved (l : Launch) (hlt : l.stackTraces = false) (D : va_G) (C : C3) (N : Nat) (S : Hp) (z : Nat) (a0 : Nat) (x1 : Int32) (a2 : Nat) (r : Int32) (S9 : Hp) (hg : f_L_ifMoved N S z a0 x1 a2 = some (r, S9)) : MetH l yL_ifMoved wsL_ifMoved rm_L_ifMoved D C S z [.ref a0, .int x1, .ref a2] r S9 1 6 := by
  refine hw_ofW (cc := cL_ifMoved) (maxL := 4) (ret := some .int) (hh := [(0, 9, 12, 23)]) (lv := [(0, .ref a0), (1, .int x1), (2, .ref a2)]) (by decide) rfl (Nat.le_of_ble_eq_true rfl) rfl ?_
  intro p e s m below meth c ls hx hb hr hts hown hlk hml htab hthr hl hw
  have hown : s.vm.findClass RL = some m.cls := hown
  unfold f_L_ifMoved at hg
  obtain ⟨hok0, hg⟩ := gd_some hg
  refine lv_aload_n hx hb dL_ifMoved_0 rfl (lv_at hl 2 rfl) ?_
  refine lv_iconst (v := (0 : Int32)) hx hb dL_ifMoved_1 (by decide) ?_
  refine lv_aload_n hx hb dL_ifMoved_2 rfl (lv_at hl 0 rfl) ?_
  refine lv_iload_n hx hb dL_ifMoved_3 rfl (lv_at hl 1 rfl) ?_
  rcases hf : f_X6_ifMoved N S a0 x1 with _ | ⟨v, S1⟩
  · rcases he : e_X6_ifMoved N S a0 x1 with _ | ⟨E, S1⟩
    · exact absurd hg (by simp [lB, hf, he])
    · have hg2 : (if E = "java/lang/IndexOutOfBoundsException" then some ((1 : Int32), S1) else if E = "java/lang/IndexOutOfBoundsException" then some (2, S1) else none) = some (r, S9) := by
        have h9 := hg; simp only [lB, hf, he] at h9; exact h9
      by_cases c1 : E = "java/lang/IndexOutOfBoundsException"
      · have hg3 := it_pos hg2 c1
        subst c1
        cases hg3
        refine wr_thrown (vx_runV (As := [.int x1]) (rest := [.int (0 : Int32), .ref a2]) ⟨hx, hb, hml, hown, hts⟩ (t_X6_ifMoved l hlt D C N S z a0 x1 _ _ he) (cwV 1 hts gL_ifMoved_X6_ifMoved rfl rfl rfl (by decide +kernel) ⟨Nat.le_of_ble_eq_true rfl, Nat.le_of_ble_eq_true rfl⟩) (wd_preVT hw hthr hok0 (wF_6 (S := S) hok0.2) rfl) rfl rfl hl.1 rfl (lv_room (Nat.le_of_ble_eq_true rfl)) dL_ifMoved_4 ⟨Nat.le_of_ble_eq_true rfl, Nat.le_of_ble_eq_true rfl⟩) hw (fun ce q9 z9 H locs hw hce hcv hcl => ?_)
        refine vx_catch (own := RL) (name := "java/lang/IndexOutOfBoundsException") (E := "java/lang/IndexOutOfBoundsException") hown [] ⟨0, 9, 12, 23⟩ [] (by rw [htab]; rfl) (fun z hz => by cases hz) (by decide) (by decide) (hts _ (List.mem_of_getElem? (i := 1) rfl)) (va_Nw.use rfl (hthr.2.2.2.2.2.2 "java/lang/IndexOutOfBoundsException" (by decide) _ (List.mem_of_getElem? (i := 3) rfl))) hce hcv hcl ?_
        refine lv_astore_n (lv' := [(3, .ref q9), (0, .ref a0), (1, .int x1), (2, .ref a2)]) hx hb dL_ifMoved_12 rfl hl (by decide) rfl (fun ls hl => ?_)
        refine lv_iconst (v := (1 : Int32)) hx hb dL_ifMoved_13 (by decide) ?_
        refine W.widen (k := 1) (n := 6) (Nat.le_of_ble_eq_true rfl) (Nat.le_of_ble_eq_true rfl) ?_
        exact wr_hret hx hb hr hw dL_ifMoved_14 hlk
      · have hg3 := it_neg hg2 c1
        have hg3 := it_neg hg3 c1; cases hg3
  · have hg2 : (gd (ok S1 a2 10) <| gd (inb (0 : Int32) (hN S1 a2)) <| some ((0 : Int32), sJ S1 a2 (0 : Int32).toNatClampNeg v.toInt64)) = some (r, S9) := by
      have h9 := hg; simp only [lB, hf] at h9; exact h9
    obtain ⟨hok1, hg2⟩ := gd_some hg2
    obtain ⟨hin1, hg2⟩ := gd_some hg2
    refine wr_ci (va_runV (As := [.int x1]) (rest := [.int (0 : Int32), .ref a2]) ⟨hx, hb, hml, hown, hts⟩ (c_X6_ifMoved l D C N S z a0 x1 v S1 hf) (cwV 1 hts gL_ifMoved_X6_ifMoved rfl rfl rfl (by decide +kernel) ⟨Nat.le_of_ble_eq_true rfl, Nat.le_of_ble_eq_true rfl⟩) (wd_preV hw hok0 (wF_6 (S := S) hok0.2) rfl) rfl rfl hl.1 rfl (lv_room (Nat.le_of_ble_eq_true rfl)) dL_ifMoved_4 ⟨Nat.le_of_ble_eq_true rfl, Nat.le_of_ble_eq_true rfl⟩) hw (fun H locs hw => ?_)
    refine lv_i2l (v := v.toInt64) hx hb dL_ifMoved_7 rfl ?_
    refine wr_last hx hb hw hok1 (inb_vp hin1) dL_ifMoved_8 (fun H locs hw => ?_)
    refine lv_goto (tgt := 15) hx hb dL_ifMoved_9 (by decide) ?_
    refine lv_iconst (v := (0 : Int32)) hx hb dL_ifMoved_15 (by decide) ?_
    cases hg2
    refine W.widen (k := 1) (n := 6) (Nat.le_of_ble_eq_true rfl) (Nat.le_of_ble_eq_true rfl) ?_
    exact wr_hret hx hb hr hw dL_ifMoved_16 hlk
def f_L_ifPlayed (N : Nat) (S : Hp) (z : Nat) (a0 : Nat) (x1 : Int32) (x2 : Int32) (a3 : Nat) : Option (Int32 × Hp) := gd (ok S a0 6) <| lB (f_X6_ifPlayed N S a0 x1 x2) (e_X6_ifPlayed N S a0 x1 x2) a3 "java/lang/IllegalArgumentException" "java/lang/IllegalArgumentException"
abbrev rm_L_ifPlayed : Room := { frames := 34, cells := 1, slots := 6, locals := 1592 }
set_option maxHeartbeats 4000000 in
set_option maxRecDepth 100000 in
theorem h_L_ifPlayed (l : Launch) (hlt : l.stackTraces = false) (D : va_G) (C : C3) (N : Nat) (S : Hp) (z : Nat) (a0 : Nat) (x1 : Int32) (x2 : Int32) (a3 : Nat) (r : Int32) (S9 : Hp) (hg : f_L_ifPlayed N S z a0 x1 x2 a3 = some (r, S9)) : MetH l yL_ifPlayed wsL_ifPlayed rm_L_ifPlayed D C S z [.ref a0, .int x1, .int x2, .ref a3] r S9 1 6 := by
  refine hw_ofW (cc := cL_ifPlayed) (maxL := 5) (ret := some .int) (hh := [(0, 10, 13, 13)]) (lv := [(0, .ref a0), (1, .int x1), (2, .int x2), (3, .ref a3)]) (by decide) rfl (Nat.le_of_ble_eq_true rfl) rfl ?_
  intro p e s m below meth c ls hx hb hr hts hown hlk hml htab hthr hl hw
  have hown : s.vm.findClass RL = some m.cls := hown
  unfold f_L_ifPlayed at hg
  obtain ⟨hok0, hg⟩ := gd_some hg
  refine lv_aload_n hx hb dL_ifPlayed_0 rfl (lv_at hl 3 rfl) ?_
  refine lv_iconst (v := (0 : Int32)) hx hb dL_ifPlayed_1 (by decide) ?_
  refine lv_aload_n hx hb dL_ifPlayed_2 rfl (lv_at hl 0 rfl) ?_
  refine lv_iload_n hx hb dL_ifPlayed_3 rfl (lv_at hl 1 rfl) ?_
  refine lv_iload_n hx hb dL_ifPlayed_4 rfl (lv_at hl 2 rfl) ?_
  rcases hf : f_X6_ifPlayed N S a0 x1 x2 with _ | ⟨v, S1⟩
  · rcases he : e_X6_ifPlayed N S a0 x1 x2 with _ | ⟨E, S1⟩
    · exact absurd hg (by simp [lB, hf, he])
    · have hg2 : (if E = "java/lang/IllegalArgumentException" then some ((1 : Int32), S1) else if E = "java/lang/IllegalArgumentException" then some (2, S1) else none) = some (r, S9) := by
        have h9 := hg; simp only [lB, hf, he] at h9; exact h9
      by_cases c1 : E = "java/lang/IllegalArgumentException"
      · have hg3 := it_pos hg2 c1
        subst c1
        cases hg3
        refine wr_thrown (vx_runV (As := [.int x1, .int x2]) (rest := [.int (0 : Int32), .ref a3]) ⟨hx, hb, hml, hown, hts⟩ (t_X6_ifPlayed l hlt D C N S z a0 x1 x2 _ _ he) (cwV 2 hts gL_ifPlayed_X6_ifPlayed rfl rfl rfl (by decide +kernel) ⟨Nat.le_of_ble_eq_true rfl, Nat.le_of_ble_eq_true rfl⟩) (wd_preVT hw hthr hok0 (wF_6 (S := S) hok0.2) rfl) rfl rfl hl.1 rfl (lv_room (Nat.le_of_ble_eq_true rfl)) dL_ifPlayed_5 ⟨Nat.le_of_ble_eq_true rfl, Nat.le_of_ble_eq_true rfl⟩) hw (fun ce q9 z9 H locs hw hce hcv hcl => ?_)
        refine vx_catch (own := RL) (name := "java/lang/IllegalArgumentException") (E := "java/lang/IllegalArgumentException") hown [] ⟨0, 10, 13, 13⟩ [] (by rw [htab]; rfl) (fun z hz => by cases hz) (by decide) (by decide) (hts _ (List.mem_of_getElem? (i := 1) rfl)) (va_Nw.use rfl (hthr.2.2.2.2.2.2 "java/lang/IllegalArgumentException" (by decide) _ (List.mem_of_getElem? (i := 3) rfl))) hce hcv hcl ?_
        refine lv_astore (lv' := [(4, .ref q9), (0, .ref a0), (1, .int x1), (2, .int x2), (3, .ref a3)]) hx hb dL_ifPlayed_13 hl (by decide) rfl (fun ls hl => ?_)
        refine lv_iconst (v := (1 : Int32)) hx hb dL_ifPlayed_15 (by decide) ?_
        refine W.widen (k := 1) (n := 6) (Nat.le_of_ble_eq_true rfl) (Nat.le_of_ble_eq_true rfl) ?_
        exact wr_hret hx hb hr hw dL_ifPlayed_16 hlk
      · have hg3 := it_neg hg2 c1
        have hg3 := it_neg hg3 c1; cases hg3
  · have hg2 : (gd (ok S1 a3 10) <| gd (inb (0 : Int32) (hN S1 a3)) <| some ((0 : Int32), sJ S1 a3 (0 : Int32).toNatClampNeg v.toInt64)) = some (r, S9) := by
      have h9 := hg; simp only [lB, hf] at h9; exact h9
    obtain ⟨hok1, hg2⟩ := gd_some hg2
    obtain ⟨hin1, hg2⟩ := gd_some hg2
    refine wr_ci (va_runV (As := [.int x1, .int x2]) (rest := [.int (0 : Int32), .ref a3]) ⟨hx, hb, hml, hown, hts⟩ (c_X6_ifPlayed l D C N S z a0 x1 x2 v S1 hf) (cwV 2 hts gL_ifPlayed_X6_ifPlayed rfl rfl rfl (by decide +kernel) ⟨Nat.le_of_ble_eq_true rfl, Nat.le_of_ble_eq_true rfl⟩) (wd_preV hw hok0 (wF_6 (S := S) hok0.2) rfl) rfl rfl hl.1 rfl (lv_room (Nat.le_of_ble_eq_true rfl)) dL_ifPlayed_5 ⟨Nat.le_of_ble_eq_true rfl, Nat.le_of_ble_eq_true rfl⟩) hw (fun H locs hw => ?_)
    refine lv_i2l (v := v.toInt64) hx hb dL_ifPlayed_8 rfl ?_
    refine wr_last hx hb hw hok1 (inb_vp hin1) dL_ifPlayed_9 (fun H locs hw => ?_)
    refine lv_goto (tgt := 17) hx hb dL_ifPlayed_10 (by decide) ?_
    refine lv_iconst (v := (0 : Int32)) hx hb dL_ifPlayed_17 (by decide) ?_
    cases hg2
    refine W.widen (k := 1) (n := 6) (Nat.le_of_ble_eq_true rfl) (Nat.le_of_ble_eq_true rfl) ?_
    exact wr_hret hx hb hr hw dL_ifPlayed_18 hlk
def f_L_count (N : Nat) (S : Hp) (z : Nat) (a0 : Nat) (x1 : Int32) (a2 : Nat) : Option (Int32 × Hp) := gd (ok S a0 6) <| lB (f_X6_count N S a0 x1) (e_X6_count N S a0 x1) a2 "java/lang/IllegalArgumentException" "java/lang/IllegalArgumentException"
abbrev rm_L_count : Room := { frames := 34, cells := 1, slots := 6, locals := 1586 }
set_option maxHeartbeats 4000000 in
set_option maxRecDepth 100000 in
theorem h_L_count (l : Launch) (hlt : l.stackTraces = false) (D : va_G) (C : C3) (N : Nat) (S : Hp) (z : Nat) (a0 : Nat) (x1 : Int32) (a2 : Nat) (r : Int32) (S9 : Hp) (hg : f_L_count N S z a0 x1 a2 = some (r, S9)) : MetH l yL_count wsL_count rm_L_count D C S z [.ref a0, .int x1, .ref a2] r S9 1 6 := by
  refine hw_ofW (cc := cL_count) (maxL := 4) (ret := some .int) (hh := [(0, 9, 12, 13)]) (lv := [(0, .ref a0), (1, .int x1), (2, .ref a2)]) (by decide) rfl (Nat.le_of_ble_eq_true rfl) rfl ?_
  intro p e s m below meth c ls hx hb hr hts hown hlk hml htab hthr hl hw
  have hown : s.vm.findClass RL = some m.cls := hown
  unfold f_L_count at hg
  obtain ⟨hok0, hg⟩ := gd_some hg
  refine lv_aload_n hx hb dL_count_0 rfl (lv_at hl 2 rfl) ?_
  refine lv_iconst (v := (0 : Int32)) hx hb dL_count_1 (by decide) ?_
  refine lv_aload_n hx hb dL_count_2 rfl (lv_at hl 0 rfl) ?_
  refine lv_iload_n hx hb dL_count_3 rfl (lv_at hl 1 rfl) ?_
  rcases hf : f_X6_count N S a0 x1 with _ | ⟨v, S1⟩
  · rcases he : e_X6_count N S a0 x1 with _ | ⟨E, S1⟩
    · exact absurd hg (by simp [lB, hf, he])
    · have hg2 : (if E = "java/lang/IllegalArgumentException" then some ((1 : Int32), S1) else if E = "java/lang/IllegalArgumentException" then some (2, S1) else none) = some (r, S9) := by
        have h9 := hg; simp only [lB, hf, he] at h9; exact h9
      by_cases c1 : E = "java/lang/IllegalArgumentException"
      · have hg3 := it_pos hg2 c1
        subst c1
        cases hg3
        refine wr_thrown (vx_runV (As := [.int x1]) (rest := [.int (0 : Int32), .ref a2]) ⟨hx, hb, hml, hown, hts⟩ (t_X6_count l hlt D C N S z a0 x1 _ _ he) (cwV 1 hts gL_count_X6_count rfl rfl rfl (by decide +kernel) ⟨Nat.le_of_ble_eq_true rfl, Nat.le_of_ble_eq_true rfl⟩) (wd_preVT hw hthr hok0 (wF_6 (S := S) hok0.2) rfl) rfl rfl hl.1 rfl (lv_room (Nat.le_of_ble_eq_true rfl)) dL_count_4 ⟨Nat.le_of_ble_eq_true rfl, Nat.le_of_ble_eq_true rfl⟩) hw (fun ce q9 z9 H locs hw hce hcv hcl => ?_)
        refine vx_catch (own := RL) (name := "java/lang/IllegalArgumentException") (E := "java/lang/IllegalArgumentException") hown [] ⟨0, 9, 12, 13⟩ [] (by rw [htab]; rfl) (fun z hz => by cases hz) (by decide) (by decide) (hts _ (List.mem_of_getElem? (i := 1) rfl)) (va_Nw.use rfl (hthr.2.2.2.2.2.2 "java/lang/IllegalArgumentException" (by decide) _ (List.mem_of_getElem? (i := 3) rfl))) hce hcv hcl ?_
        refine lv_astore_n (lv' := [(3, .ref q9), (0, .ref a0), (1, .int x1), (2, .ref a2)]) hx hb dL_count_12 rfl hl (by decide) rfl (fun ls hl => ?_)
        refine lv_iconst (v := (1 : Int32)) hx hb dL_count_13 (by decide) ?_
        refine W.widen (k := 1) (n := 6) (Nat.le_of_ble_eq_true rfl) (Nat.le_of_ble_eq_true rfl) ?_
        exact wr_hret hx hb hr hw dL_count_14 hlk
      · have hg3 := it_neg hg2 c1
        have hg3 := it_neg hg3 c1; cases hg3
  · have hg2 : (gd (ok S1 a2 10) <| gd (inb (0 : Int32) (hN S1 a2)) <| some ((0 : Int32), sJ S1 a2 (0 : Int32).toNatClampNeg v.toInt64)) = some (r, S9) := by
      have h9 := hg; simp only [lB, hf] at h9; exact h9
    obtain ⟨hok1, hg2⟩ := gd_some hg2
    obtain ⟨hin1, hg2⟩ := gd_some hg2
    refine wr_ci (va_runV (As := [.int x1]) (rest := [.int (0 : Int32), .ref a2]) ⟨hx, hb, hml, hown, hts⟩ (c_X6_count l D C N S z a0 x1 v S1 hf) (cwV 1 hts gL_count_X6_count rfl rfl rfl (by decide +kernel) ⟨Nat.le_of_ble_eq_true rfl, Nat.le_of_ble_eq_true rfl⟩) (wd_preV hw hok0 (wF_6 (S := S) hok0.2) rfl) rfl rfl hl.1 rfl (lv_room (Nat.le_of_ble_eq_true rfl)) dL_count_4 ⟨Nat.le_of_ble_eq_true rfl, Nat.le_of_ble_eq_true rfl⟩) hw (fun H locs hw => ?_)
    refine lv_i2l (v := v.toInt64) hx hb dL_count_7 rfl ?_
    refine wr_last hx hb hw hok1 (inb_vp hin1) dL_count_8 (fun H locs hw => ?_)
    refine lv_goto (tgt := 15) hx hb dL_count_9 (by decide) ?_
    refine lv_iconst (v := (0 : Int32)) hx hb dL_count_15 (by decide) ?_
    cases hg2
    refine W.widen (k := 1) (n := 6) (Nat.le_of_ble_eq_true rfl) (Nat.le_of_ble_eq_true rfl) ?_
    exact wr_hret hx hb hr hw dL_count_16 hlk
