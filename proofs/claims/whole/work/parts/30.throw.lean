abbrev exN : List String := ["java/lang/RuntimeException", "java/lang/Exception"]
def exL : List String := ["java/lang/IllegalArgumentException", "java/lang/IllegalStateException", "java/lang/IndexOutOfBoundsException"]
def thrB (E : String) : List Cond := [Cond.declares (Bundle.initS "java/lang/RuntimeException"), Cond.declares (Bundle.initS "java/lang/Exception"), Cond.declares (Bundle.initS Bundle.tN), Cond.castable E E]
theorem thrB_t {E : String} {w : Cond} (h : w ∈ thrB E) : w.onTables = true := by
  simp only [thrB, List.mem_cons, List.not_mem_nil, or_false] at h
  rcases h with rfl | rfl | rfl | rfl <;> rfl
theorem thrB_w {E : String} {w : Cond} {s U : State} (hW : s.WarmedH U.vm) (h : w ∈ thrB E) (hZ : va_Nw w s) : va_Nw w U := by
  simp only [thrB, List.mem_cons, List.not_mem_nil, or_false] at h
  rcases h with rfl | rfl | rfl | rfl
  · exact va_Nw.warmD hW hZ
  · exact va_Nw.warmD hW hZ
  · exact va_Nw.warmD hW hZ
  · exact va_Nw.warmC hW hZ
def strL : List (Nat × String) := [(53, "a board has 2 to 10 cells"), (83, "a line has one or more cells of the board"), (87, "there are 12 lines"), (100, "there is no such line"), (124, "there is no such cell"), (132, "the game is not open, or the cell is not free"), (141, "the game is not open"), (156, "a rule is 0 to 3, and moves are 1 to 10"), (162, "a character code is 33 to 126"), (165, "the buffer has 60 characters"), (174, "the buffer is not a complete row of lines"), (179, "there would be more than 12 lines"), (188, "a snapshot is 0 or 1"), (193, "the snapshot was not taken"), (196, "there is no saved state"), (201, "a property of a line is 0 to 4"), (206, "a property of a cell is 0 to 3"), (218, "a rule is 0 to 3"), (224, "what is told is 0 or 1"), (230, "what is counted is 0 to 15")]
/-- what a throw asks of the machine: two statics of Throwable's, the texts, who can't be cast to whom -/
def ThrOk (A : Nat → Prop) (U : State) (H : Heap) : Prop := vx_Zq Bundle.tN "UNASSIGNED_STACK" Bundle.steD A U H ∧ vx_Zq Bundle.tN "SUPPRESSED_SENTINEL" Bundle.listD A U H ∧ (∀ q ∈ strL, ∃ sa, vk_R RX6 q.1 q.2 sa U) ∧ va_Nc "java/lang/IllegalStateException" "java/lang/IllegalArgumentException" U ∧ va_Nc "java/lang/IllegalStateException" "java/lang/IndexOutOfBoundsException" U ∧ va_Nc "java/lang/IllegalArgumentException" "java/lang/IndexOutOfBoundsException" U ∧ ∀ E ∈ exL, ∀ w ∈ thrB E, va_Nw w U
theorem ThrOk.warm {A : Nat → Prop} {s U : State} {H : Heap} (hW : s.WarmedH U.vm) (h : ThrOk A s H) : ThrOk A U H := ⟨vx_Zq.moved hW.alike h.1, vx_Zq.moved hW.alike h.2.1, fun q hq => by obtain ⟨sa, hs⟩ := h.2.2.1 q hq; exact ⟨sa, vk_R.warm hW hs⟩, va_Nc.moved hW.alike h.2.2.2.1, va_Nc.moved hW.alike h.2.2.2.2.1, va_Nc.moved hW.alike h.2.2.2.2.2.1, fun E hE w hw => thrB_w hW hw (h.2.2.2.2.2.2 E hE w hw)⟩
theorem ThrOk.calls {A : Nat → Prop} {U : State} {H : Heap} {g : JFrame} {mk : MethodId} {a : Array Value} (h : ThrOk A U H) : ThrOk A (U.calling g mk a) H := ⟨vx_Zq.moved (U := U.calling g mk a) (Vm.Alike.refl U.vm) h.1, vx_Zq.moved (U := U.calling g mk a) (Vm.Alike.refl U.vm) h.2.1, fun q hq => by obtain ⟨sa, hs⟩ := h.2.2.1 q hq; exact ⟨sa, vk_R.same (u := U) rfl hs⟩, va_Nc.moved (U := U.calling g mk a) (Vm.Alike.refl U.vm) h.2.2.2.1, va_Nc.moved (U := U.calling g mk a) (Vm.Alike.refl U.vm) h.2.2.2.2.1, va_Nc.moved (U := U.calling g mk a) (Vm.Alike.refl U.vm) h.2.2.2.2.2.1, fun E hE w hw => va_Nw.same (u := U) (thrB_t hw) rfl (h.2.2.2.2.2.2 E hE w hw)⟩
theorem ThrOk.kept {A : Nat → Prop} {U : State} {H H1 : Heap} (h : ThrOk A U H) (hq : ∀ a : Nat, a < H.size → ¬ A a → H1[a]? = H[a]?) : ThrOk A U H1 := ⟨h.1.kept hq, h.2.1.kept hq, h.2.2⟩
theorem ThrOk.narrow {A B : Nat → Prop} {U : State} {H : Heap} (h : ThrOk A U H) (hAB : ∀ q, B q → A q) : ThrOk B U H := ⟨h.1.narrow hAB, h.2.1.narrow hAB, h.2.2⟩
def PcT (D : va_G) (C : C3) (S : Hp) (z : Nat) (av : List Value) : Array Value → State → Prop := va_Pc av (fun U => (U.heap.size = z ∧ va_P D vwCl (wP C S) U.heap ∧ va_K D vwCl (tysC C) U ∧ va_D (fun _ => True) (wP C S) ∧ nestOk U) ∧ ThrOk (va_A (wP C S) z) U U.heap)
theorem PcT_blind {D : va_G} {C : C3} {S : Hp} {z : Nat} {av : List Value} : FrameBlind (PcT D C S z av) := fun a U g mk q => by
  obtain ⟨q0, ⟨q1, qP, qK, qD, qn⟩, qt⟩ := q
  exact ⟨q0, ⟨q1, qP, va_K.moved (u := U) (U := U.calling g mk a) (Vm.Alike.refl U.vm) qK, qD, fun x hx => va_Nw.same (U := U.calling g mk a) rfl rfl (qn.1 x hx), va_AO.moved (u := U) (U := U.calling g mk a) (Vm.Alike.refl U.vm) qn.2⟩, qt.calls⟩
def BT (D : va_G) (C : C3) (S0 : Hp) (z0 : Nat) (E : String) (S : Hp) : String → Unit → State → Prop := fun E' _ t => E' = E ∧ va_P D vwCl (wP C S) t.heap ∧ va_D (va_A (wP C S0) z0) (wP C S)
def XcT (D : va_G) (C : C3) (S0 : Hp) (z0 : Nat) (E : String) (S : Hp) : String → State → State → Prop := vx_X (fun (_ : Unit) => True) (BT D C S0 z0 E S) (va_A (wP C S0) z0)
def QnT : Array Value → State → Outcome → State → Prop := va_Qi (fun (_ : Int32) (_ : Unit) => False) (fun _ _ => True) (fun _ => False)
/-- a contract of a call that throws: E, the pool then is S1 -/
abbrev MetT (l : Launch) (y : MethodName) (ws : List Cond) (rm : Room) (D : va_G) (C : C3) (S : Hp) (z : Nat) (av : List Value) (E : String) (S1 : Hp) : Prop := vx_Met l y ws rm (PcT D C S z av) QnT (XcT D C S z E S1) 1 6 (va_A (wP C S) z)
theorem tw_ofW {l : Launch} {y : MethodName} {ws ws' : List Cond} {rm : Room} {D : va_G} {C : C3} {S : Hp} {z : Nat} {av : List Value} {Qc : Array Value → State → Outcome → State → Prop} {XC : String → State → State → Prop} {mc ms : Nat} {cc : ByteArray} {maxL : Nat} {ret : Option FieldType} {lv : List (Nat × Value)}
    (hy : plainName y.cls = true) (hws : ws = Cond.code y cc maxL ret :: ws') (hlen : (lg_sl av).length ≤ maxL) (hlv : lv_args 0 av = lv)
    (body : ∀ (p : Program) (e : Env) (s : State) (m : MethodId) (below : List Frame) (meth : Method) (c : Code) (ls : Array Slot), p.tables.exec = Jvm.exec → c.code = cc → meth.sig.returnType = ret → (∀ w ∈ ws, w.before av.toArray s = true) → s.vm.findClass y.cls = some m.cls → meth.locks = false → c.maxLocals = maxL → (∀ x ∈ c.exceptionTable.toList, False) → ThrOk (va_A (wP C S) z) s s.heap → lv_has ls maxL lv → Wd D C (va_A (wP C S) z) s.heap S z s.heap [] s →
      W p l e rm s m av.toArray below meth c s.heap [] 0 0 (vx_MQ below Qc XC av.toArray s mc ms (va_A (wP C S) z)) (F0 m 0 ls [])) : vx_Met l y ws rm (PcT D C S z av) Qc XC mc ms (va_A (wP C S) z) := by
  refine vx_ofW (cc := cc) (maxL := maxL) (ret := ret) hy hws ?_
  intro p e s m args below meth c s₁ B hml htab hv
  obtain ⟨rfl, ⟨hsz, hP, hK, hD0, hn⟩, hthr⟩ := hv
  have hts := atoms_spec (ws := ws) B.pre
  have hown : s.vm.findClass y.cls = some m.cls := findClass_of_methodNamed B.named
  have hl := lv_entry av (n := maxL) hlen
  rw [lg_entry_eq]
  generalize (lg_sl av ++ List.replicate (maxL - (lg_sl av).length) Slot.unset).toArray = ls at hl ⊢
  rw [hlv] at hl
  exact body p e s m below meth c ls B.exec B.bytes B.returns hts hown B.notSynchronized hml htab hthr hl
    ⟨hP, hD0.self, hK, va_S.rf, fun q h => Or.inr (by rw [← hsz]; exact h), hsz, hn⟩
theorem wd_thr {D : va_G} {C : C3} {S0 S : Hp} {z0 z : Nat} {E : String} {s t : State} {H : Heap} {locs : List Loc} (hw : Wd D C (va_A (wP C S0) z0) s.heap S z H locs s) (hz : H.size ≤ t.heap.size) (hq : ∀ q : Nat, q < H.size → t.heap[q]? = H[q]?) : XcT D C S0 z0 E S E s t := by
  obtain ⟨hP, hD, hK, hS, hA, hz0, hn⟩ := hw
  exact ⟨(), trivial, ⟨rfl, hP.kept (fun k x hx => hq x.1 (hP k x hx).lt), hD⟩, Nat.le_trans hS.1 hz, fun q h1 h2 => (hq q (Nat.lt_of_lt_of_le h1 hS.1)).trans (hS.2.1 q h1 h2)⟩
theorem vg_IAE : ∀ w ∈ Cond.classLink RX6 51 "java/lang/IllegalArgumentException" :: Cond.initialized "java/lang/IllegalArgumentException" :: vx_atS RX6 55 "java/lang/IllegalArgumentException" exN, vx_ot w = true := by decide +kernel
theorem vb_IAE : (vx_atS RX6 55 "java/lang/IllegalArgumentException" exN).filter (fun w => !goodWord w) = thrB "java/lang/IllegalArgumentException" := by decide +kernel
theorem vg_ISE : ∀ w ∈ Cond.classLink RX6 85 "java/lang/IllegalStateException" :: Cond.initialized "java/lang/IllegalStateException" :: vx_atS RX6 89 "java/lang/IllegalStateException" exN, vx_ot w = true := by decide +kernel
theorem vb_ISE : (vx_atS RX6 89 "java/lang/IllegalStateException" exN).filter (fun w => !goodWord w) = thrB "java/lang/IllegalStateException" := by decide +kernel
theorem vg_IOE : ∀ w ∈ Cond.classLink RX6 98 "java/lang/IndexOutOfBoundsException" :: Cond.initialized "java/lang/IndexOutOfBoundsException" :: vx_atS RX6 102 "java/lang/IndexOutOfBoundsException" exN, vx_ot w = true := by decide +kernel
theorem vb_IOE : (vx_atS RX6 102 "java/lang/IndexOutOfBoundsException" exN).filter (fun w => !goodWord w) = thrB "java/lang/IndexOutOfBoundsException" := by decide +kernel
