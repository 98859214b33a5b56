def gd {α : Type} (c : Prop) [Decidable c] (x : Option α) : Option α := if c then x else none
theorem gd_some {α : Type} {c : Prop} [Decidable c] {x : Option α} {r : α} (h : gd c x = some r) : c ∧ x = some r := by
  unfold gd at h
  split at h
  · exact ⟨by assumption, h⟩
  · cases h
theorem gd_pos {α : Type} {c : Prop} [Decidable c] {x : Option α} (h : c) : gd c x = x := if_pos h
def nn {α : Type} (o : Option Nat) (f : Nat → Option α) : Option α := match o with
  | none => none
  | some a => f a
theorem nn_some {α : Type} {o : Option Nat} {f : Nat → Option α} {r : α} (h : nn o f = some r) : ∃ a, o = some a ∧ f a = some r := by
  cases o with
  | none => cases h
  | some a => exact ⟨a, rfl, h⟩
/-- a reference that may be null: what is done where it is, and where it isn't -/
def nz {α : Type} (o : Option Nat) (x : Option α) (f : Nat → Option α) : Option α := match o with
  | none => x
  | some a => f a
def cl {α β : Type} (o : Option (α × Hp)) (f : α → Hp → Option β) : Option β := match o with
  | none => none
  | some q => f q.1 q.2
theorem cl_some {α β : Type} {o : Option (α × Hp)} {f : α → Hp → Option β} {r : β} (h : cl o f = some r) : ∃ a S, o = some (a, S) ∧ f a S = some r := by
  cases o with
  | none => cases h
  | some q => exact ⟨q.1, q.2, rfl, h⟩
abbrev nanok (r : UInt64) : Prop := r &&& 0x7fffffffffffffff ≤ 0x7ff0000000000000
def bd {α β : Type} (x : α) (f : α → Option β) : Option β := f x
theorem bd_some {α β : Type} {x : α} {f : α → Option β} {r : β} (h : bd x f = some r) : ∃ y, y = x ∧ f y = some r := ⟨x, rfl, h⟩
abbrev inb (i : Int32) (n : Nat) : Prop := 0 ≤ i.toInt ∧ i.toInt < (n : Int)
theorem inb_vp {i : Int32} {n : Nat} (h : inb i n) : vp_in i n := vp_in_iff.mpr h
abbrev isB (v : Int32) : Prop := v = 0 ∨ v = 1
theorem isB_nar {v : Int32} (h : isB v) : narrow .boolean (.int v) = .int v := by
  rcases h with rfl | rfl <;> rfl
theorem isB_fit {v : Int32} (h : isB v) : fits .boolean (.int v) = true := by
  rcases h with rfl | rfl <;> rfl
theorem sw_out {x : Int32} (n : Nat) (hn : n < 2 ^ 31) (h : ∀ j : Nat, j ≤ n → ¬ x = nI j) : x.toInt < 0 ∨ (n : Int) < x.toInt := by
  by_cases h0 : x.toInt < 0
  · exact Or.inl h0
  · refine Or.inr ?_
    apply Classical.byContradiction
    intro hc
    obtain ⟨j, hj, rfl⟩ := nI_of (x := x) (by rw [Int32.lt_iff_toInt_lt]; simpa using h0)
    rw [nI_toInt hj] at hc
    exact h j (by omega) rfl
def PcW (D : va_G) (C : C3) (S : Hp) (z : Nat) (av : List Value) : Array Value → State → Prop := va_Pc av (fun U => U.heap.size = z ∧ va_P D vwCl (wP C S) U.heap ∧ va_K D vwCl (tysC C) U ∧ va_D (fun _ => True) (wP C S) ∧ nestOk U)
def BW (D : va_G) (C : C3) (S0 : Hp) (z0 : Nat) (S : Hp) (z : Nat) : Unit → State → Prop := fun _ t => t.heap.size = z ∧ va_P D vwCl (wP C S) t.heap ∧ va_D (va_A (wP C S0) z0) (wP C S)
def QiW (D : va_G) (C : C3) (S0 : Hp) (z0 : Nat) (r : Int32) (S : Hp) (z : Nat) : Array Value → State → Outcome → State → Prop := va_Qi (fun x (_ : Unit) => x = r) (BW D C S0 z0 S z) (va_A (wP C S0) z0)
def QlW (D : va_G) (C : C3) (S0 : Hp) (z0 : Nat) (r : Int64) (S : Hp) (z : Nat) : Array Value → State → Outcome → State → Prop := va_Ql (fun x (_ : Unit) => x = r) (BW D C S0 z0 S z) (va_A (wP C S0) z0)
def QdW (D : va_G) (C : C3) (S0 : Hp) (z0 : Nat) (r : UInt64) (S : Hp) (z : Nat) : Array Value → State → Outcome → State → Prop := va_Qd (fun x (_ : Unit) => x = r) (BW D C S0 z0 S z) (va_A (wP C S0) z0)
def QvW (D : va_G) (C : C3) (S0 : Hp) (z0 : Nat) (_ : Unit) (S : Hp) (z : Nat) : Array Value → State → Outcome → State → Prop := va_Qv (fun (_ : Unit) => True) (BW D C S0 z0 S z) (va_A (wP C S0) z0)
/-- a contract: in the pool S (z cells), with the arguments av, the method returns r, and the pool is S1 (z1 cells) -/
abbrev MetI (l : Launch) (y : MethodName) (ws : List Cond) (rm : Room) (D : va_G) (C : C3) (S : Hp) (z : Nat) (av : List Value) (r : Int32) (S1 : Hp) (z1 mc ms : Nat) : Prop := Met l y ws rm (PcW D C S z av) (QiW D C S z r S1 z1) mc ms (va_A (wP C S) z)
abbrev MetL (l : Launch) (y : MethodName) (ws : List Cond) (rm : Room) (D : va_G) (C : C3) (S : Hp) (z : Nat) (av : List Value) (r : Int64) (S1 : Hp) (z1 mc ms : Nat) : Prop := Met l y ws rm (PcW D C S z av) (QlW D C S z r S1 z1) mc ms (va_A (wP C S) z)
abbrev MetF (l : Launch) (y : MethodName) (ws : List Cond) (rm : Room) (D : va_G) (C : C3) (S : Hp) (z : Nat) (av : List Value) (r : UInt64) (S1 : Hp) (z1 mc ms : Nat) : Prop := Met l y ws rm (PcW D C S z av) (QdW D C S z r S1 z1) mc ms (va_A (wP C S) z)
abbrev MetV (l : Launch) (y : MethodName) (ws : List Cond) (rm : Room) (D : va_G) (C : C3) (S : Hp) (z : Nat) (av : List Value) (r : Unit) (S1 : Hp) (z1 mc ms : Nat) : Prop := Met l y ws rm (PcW D C S z av) (QvW D C S z r S1 z1) mc ms (va_A (wP C S) z)
theorem PcW_blind {D : va_G} {C : C3} {S : Hp} {z : Nat} {av : List Value} : FrameBlind (PcW D C S z av) := fun a U g mk q => by
  obtain ⟨q0, q1, qP, qK, qD, qn⟩ := q
  exact ⟨q0, q1, qP, va_K.moved (u := U) (U := U.calling g mk a) (Vm.Alike.refl U.vm) qK, qD, fun x hx => va_Nw.same (U := U.calling g mk a) rfl rfl (qn.1 x hx), va_AO.moved (u := U) (U := U.calling g mk a) (Vm.Alike.refl U.vm) qn.2⟩
section
variable {p : Program} {l : Launch} {e : Env} {R : Room} {s : State} {m : MethodId} {args : Array Value} {below : List Frame} {meth : Method} {c : Code} {H : Heap} {locs : List Loc} {cells slots : Nat} {Q : State → Prop}
variable {cc : ByteArray} {pc : Nat} {ls : Array Slot} {rest st0 : List Value} {D : va_G} {C : C3} {A : Nat → Prop} {a : Nat} {H0 : Heap} {S S0 S1 : Hp} {z z0 z1 mc ms : Nat} {av : Array Value}
theorem wd_preV {K : String} {T : u_T} {N ci b : Nat} {fs : List Value} {As : List Value} (hw : Wd D C A H0 S z H locs s) (hok : ok S b ci) (hfs : wF C S b = .inr (ci, fs)) (hc : vwCl[ci]? = some (K, T, N)) : PreV s H K b (PcW D C S z (.ref b :: As)) As := by
  obtain ⟨hP, hD, hK, hS, hA, hz, hn⟩ := hw
  obtain ⟨q0, hq⟩ := wP_at (C := C) hok.1
  rw [hfs] at hq
  exact ⟨PcW_blind, va_recv (q := (K, T, N)) hK hP hc hq, fun U hU hW => ⟨rfl, by rw [hU]; exact hz, by rw [hU]; exact hP, va_K.moved hW.alike hK, hD.weaken (fun _ _ _ _ => trivial), hn.moved hW⟩⟩
theorem wd_preS {As : List Value} (hw : Wd D C A H0 S z H locs s) : PreS s H (PcW D C S z As) As := by
  obtain ⟨hP, hD, hK, hS, hA, hz, hn⟩ := hw
  exact ⟨PcW_blind, fun U hU hW => ⟨rfl, by rw [hU]; exact hz, by rw [hU]; exact hP, va_K.moved hW.alike hK, hD.weaken (fun _ _ _ _ => trivial), hn.moved hW⟩⟩
theorem wd_free (hw : Wd D C A H0 S z H locs s) : ∀ q, va_A (wP C S) z q → A q := by
  obtain ⟨hP, hD, hK, hS, hA, hz, hn⟩ := hw
  intro q h
  rcases h with ⟨k, e, h⟩ | h
  · exact hD.2 k _ h
  · exact hA q (Nat.le_trans hS.1 (by rw [hz]; exact h))
theorem wd_back {H1 : Heap} {locs1 : List Loc} {t : State} (hw : Wd D C A H0 S z H locs s) (ht : t.heap = H1) (hB : BW D C S z S1 z1 () t) (hS : va_S A H0 H1 locs1) : Wd D C A H0 S1 z1 H1 locs1 s := by
  have hF := wd_free hw
  obtain ⟨hP, hD, hK, hS0, hA, hz, hn⟩ := hw
  obtain ⟨g1, g2, g3⟩ := hB
  rw [ht] at g1 g2
  exact ⟨g2, g3.weaken (fun k q _ h => hF q.1 h), hK, hS, hA, g1, hn⟩
theorem wr_ci {r : Int32} (hr : va_Run p l e R s m args below meth c H locs cells slots mc ms (F0 m pc ls st0) rest (QiW D C S z r S1 z1 av) (va_A (wP C S) z)) (hw : Wd D C A H0 S z H locs s)
    (kk : ∀ (H1 : Heap) (locs1 : List Loc), Wd D C A H0 S1 z1 H1 locs1 s → W p l e R s m args below meth c H1 locs1 (cells + mc) (slots + ms) Q (F0 m (pc + 3) ls (.int r :: rest))) : W p l e R s m args below meth c H locs cells slots Q (F0 m pc ls st0) := by
  have hF := wd_free hw
  refine va_calli (post := fun x (_ : Unit) => x = r) (B := BW D C S z S1 z1) (A1 := va_A (wP C S) z) hr hw.2.2.2.1 (fun q _ h => hF q h) hF (fun x u t H1 locs1 ht hvm hx hB hz1 hk1 hS => ?_)
  subst hx
  exact kk H1 locs1 (wd_back hw ht hB hS)
theorem wr_cl {r : Int64} (hr : va_Run p l e R s m args below meth c H locs cells slots mc ms (F0 m pc ls st0) rest (QlW D C S z r S1 z1 av) (va_A (wP C S) z)) (hw : Wd D C A H0 S z H locs s)
    (kk : ∀ (H1 : Heap) (locs1 : List Loc), Wd D C A H0 S1 z1 H1 locs1 s → W p l e R s m args below meth c H1 locs1 (cells + mc) (slots + ms) Q (F0 m (pc + 3) ls (.long r :: rest))) : W p l e R s m args below meth c H locs cells slots Q (F0 m pc ls st0) := by
  have hF := wd_free hw
  refine va_calll (post := fun x (_ : Unit) => x = r) (B := BW D C S z S1 z1) (A1 := va_A (wP C S) z) hr hw.2.2.2.1 (fun q _ h => hF q h) hF (fun x u t H1 locs1 ht hvm hx hB hz1 hk1 hS => ?_)
  subst hx
  exact kk H1 locs1 (wd_back hw ht hB hS)
theorem wr_cd {r : UInt64} (hr : va_Run p l e R s m args below meth c H locs cells slots mc ms (F0 m pc ls st0) rest (QdW D C S z r S1 z1 av) (va_A (wP C S) z)) (hw : Wd D C A H0 S z H locs s)
    (kk : ∀ (H1 : Heap) (locs1 : List Loc), Wd D C A H0 S1 z1 H1 locs1 s → W p l e R s m args below meth c H1 locs1 (cells + mc) (slots + ms) Q (F0 m (pc + 3) ls (.double r :: rest))) : W p l e R s m args below meth c H locs cells slots Q (F0 m pc ls st0) := by
  have hF := wd_free hw
  refine va_calld (post := fun x (_ : Unit) => x = r) (B := BW D C S z S1 z1) (A1 := va_A (wP C S) z) hr hw.2.2.2.1 (fun q _ h => hF q h) hF (fun x u t H1 locs1 ht hvm hx hB hz1 hk1 hS => ?_)
  subst hx
  exact kk H1 locs1 (wd_back hw ht hB hS)
theorem wr_cv {r : Unit} (hr : va_Run p l e R s m args below meth c H locs cells slots mc ms (F0 m pc ls st0) rest (QvW D C S z r S1 z1 av) (va_A (wP C S) z)) (hw : Wd D C A H0 S z H locs s)
    (kk : ∀ (H1 : Heap) (locs1 : List Loc), Wd D C A H0 S1 z1 H1 locs1 s → W p l e R s m args below meth c H1 locs1 (cells + mc) (slots + ms) Q (F0 m (pc + 3) ls rest)) : W p l e R s m args below meth c H locs cells slots Q (F0 m pc ls st0) := by
  have hF := wd_free hw
  refine va_callv (post := fun (_ : Unit) => True) (B := BW D C S z S1 z1) (A1 := va_A (wP C S) z) hr hw.2.2.2.1 (fun q _ h => hF q h) hF (fun u t H1 locs1 ht hvm hx hB hz1 hk1 hS => ?_)
  exact kk H1 locs1 (wd_back hw ht hB hS)
theorem wr_iret {r : Int32} (hx : p.tables.exec = Jvm.exec) (hb : c.code = cc) (hr : meth.sig.returnType = some .int) (hw : Wd D C (va_A (wP C S0) z0) s.heap S z H locs s) (hdg : decode cc pc = .ok (.ireturn, 1)) (hlocks : meth.locks = false) : W p l e R s m args below meth c H locs cells slots (MQ below (QiW D C S0 z0 r S z) args s cells slots (va_A (wP C S0) z0)) (F0 m pc ls [.int r]) := by
  obtain ⟨hP, hD, hK, hS, hA, hz, hn⟩ := hw
  exact W.iret (v := r) hx hb hr (fun t ht hW => ⟨⟨r, (), rfl, rfl, by rw [ht]; exact hz, by rw [ht]; exact hP, hD⟩, hS.F ht⟩) hS.2.2 hdg hlocks
theorem wr_zret {r : Int32} (hx : p.tables.exec = Jvm.exec) (hb : c.code = cc) (hr : meth.sig.returnType = some .boolean) (hB : isB r) (hw : Wd D C (va_A (wP C S0) z0) s.heap S z H locs s) (hdg : decode cc pc = .ok (.ireturn, 1)) (hlocks : meth.locks = false) : W p l e R s m args below meth c H locs cells slots (MQ below (QiW D C S0 z0 r S z) args s cells slots (va_A (wP C S0) z0)) (F0 m pc ls [.int r]) := by
  obtain ⟨hP, hD, hK, hS, hA, hz, hn⟩ := hw
  exact W.zret (v := r) (ty := .boolean) hx hb hr (isB_nar hB) (fun t ht hW => ⟨⟨r, (), rfl, rfl, by rw [ht]; exact hz, by rw [ht]; exact hP, hD⟩, hS.F ht⟩) hS.2.2 hdg hlocks
theorem wr_lret {r : Int64} (hx : p.tables.exec = Jvm.exec) (hb : c.code = cc) (hr : meth.sig.returnType = some .long) (hw : Wd D C (va_A (wP C S0) z0) s.heap S z H locs s) (hdg : decode cc pc = .ok (.lreturn, 1)) (hlocks : meth.locks = false) : W p l e R s m args below meth c H locs cells slots (MQ below (QlW D C S0 z0 r S z) args s cells slots (va_A (wP C S0) z0)) (F0 m pc ls [.long r]) := by
  obtain ⟨hP, hD, hK, hS, hA, hz, hn⟩ := hw
  exact W.lret (v := r) hx hb hr (fun t ht hW => ⟨⟨r, (), rfl, rfl, by rw [ht]; exact hz, by rw [ht]; exact hP, hD⟩, hS.F ht⟩) hS.2.2 hdg hlocks
theorem wr_dret {r : UInt64} (hx : p.tables.exec = Jvm.exec) (hb : c.code = cc) (hr : meth.sig.returnType = some .double) (hw : Wd D C (va_A (wP C S0) z0) s.heap S z H locs s) (hdg : decode cc pc = .ok (.dreturn, 1)) (hlocks : meth.locks = false) : W p l e R s m args below meth c H locs cells slots (MQ below (QdW D C S0 z0 r S z) args s cells slots (va_A (wP C S0) z0)) (F0 m pc ls [.double r]) := by
  obtain ⟨hP, hD, hK, hS, hA, hz, hn⟩ := hw
  exact W.dret (v := r) hx hb hr (fun t ht hW => ⟨⟨r, (), rfl, rfl, by rw [ht]; exact hz, by rw [ht]; exact hP, hD⟩, hS.F ht⟩) hS.2.2 hdg hlocks
theorem wr_vret {r : Unit} (hx : p.tables.exec = Jvm.exec) (hb : c.code = cc) (hr : meth.sig.returnType = none) (hw : Wd D C (va_A (wP C S0) z0) s.heap S z H locs s) (hdg : decode cc pc = .ok (.return_, 1)) (hlocks : meth.locks = false) : W p l e R s m args below meth c H locs cells slots (MQ below (QvW D C S0 z0 r S z) args s cells slots (va_A (wP C S0) z0)) (F0 m pc ls []) := by
  obtain ⟨hP, hD, hK, hS, hA, hz, hn⟩ := hw
  exact W.vret hx hb hr (fun t ht hW => ⟨⟨(), rfl, trivial, by rw [ht]; exact hz, by rw [ht]; exact hP, hD⟩, hS.F ht⟩) hS.2.2 hdg hlocks
end
/-- a method's body: from its entry, over the pool -/
theorem mw_ofW {l : Launch} {y : MethodName} {ws ws' : List Cond} {rm : Room} {D : va_G} {C : C3} {S : Hp} {z : Nat} {av : List Value} {Qc : Array Value → State → Outcome → State → Prop} {mc ms : Nat} {cc : ByteArray} {maxL : Nat} {ret : Option FieldType} {lv : List (Nat × Value)}
    (hy : plainName y.cls = true) (hws : ws = Cond.code y cc maxL ret :: ws') (hlen : (lg_sl av).length ≤ maxL) (hlv : lv_args 0 av = lv)
    (body : ∀ (p : Program) (e : Env) (s : State) (m : MethodId) (below : List Frame) (meth : Method) (c : Code) (ls : Array Slot), p.tables.exec = Jvm.exec → c.code = cc → meth.sig.returnType = ret → (∀ w ∈ ws, w.before av.toArray s = true) → s.vm.findClass y.cls = some m.cls → meth.locks = false → c.maxLocals = maxL → meth.name = y.name → lv_has ls maxL lv → Wd D C (va_A (wP C S) z) s.heap S z s.heap [] s →
      W p l e rm s m av.toArray below meth c s.heap [] 0 0 (MQ below Qc av.toArray s mc ms (va_A (wP C S) z)) (F0 m 0 ls [])) : Met l y ws rm (PcW D C S z av) Qc mc ms (va_A (wP C S) z) := by
  refine Met.ofW (cc := cc) (maxL := maxL) (ret := ret) hy hws ?_
  intro p e s m args below meth c s₁ B hml hv
  obtain ⟨rfl, hsz, hP, hK, hD0, hn⟩ := hv
  have hts := atoms_spec (ws := ws) B.pre
  have hown : s.vm.findClass y.cls = some m.cls := findClass_of_methodNamed B.named
  have hl := lv_entry av (n := maxL) hlen
  rw [lg_entry_eq]
  generalize (lg_sl av ++ List.replicate (maxL - (lg_sl av).length) Slot.unset).toArray = ls at hl ⊢
  rw [hlv] at hl
  exact body p e s m below meth c ls B.exec B.bytes B.returns hts hown B.notSynchronized hml (name_of_methodNamed B.named B.method).1 hl
    ⟨hP, hD0.self, hK, va_S.rf, fun q h => Or.inr (by rw [← hsz]; exact h), hsz, hn⟩
