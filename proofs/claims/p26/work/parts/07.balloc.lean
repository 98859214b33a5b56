def cz {α β : Type} (o : Option (α × Hp × Nat)) (f : α → Hp → Nat → Option β) : Option β := match o with
  | none => none
  | some q => f q.1 q.2.1 q.2.2
theorem cz_some {α β : Type} {o : Option (α × Hp × Nat)} {f : α → Hp → Nat → Option β} {r : β} (h : cz o f = some r) : ∃ a S z, o = some (a, S, z) ∧ f a S z = some r := by
  cases o with
  | none => cases h
  | some q => exact ⟨q.1, q.2.1, q.2.2, rfl, h⟩
section
variable {p : Program} {l : Launch} {e : Env} {R : Room} {s : State} {m : MethodId} {args : Array Value} {below : List Frame} {meth : Method} {c : Code} {H : Heap} {locs : List Loc} {cells slots : Nat} {Q : State → Prop}
variable {cc : ByteArray} {pc : Nat} {ls : Array Slot} {rest : List Value} {D : va_G} {C : C3} {A : Nat → Prop} {H0 : Heap} {S : Hp} {z : Nat}
theorem wd_push {kd n : Nat} {en : va_E} {H1 : Heap} (hw : Wd D C A H0 S z H locs s) (hF : wF C (sNew S z kd n) z = en) (he : va_at D vwCl (z, en) H1) (z1 : H1.size = z + 1) (o1 : ∀ q, q < z → H1[q]? = H[q]?) : Wd D C A H0 (sNew S z kd n) (z + 1) H1 locs s := by
  have hout : z ∉ hL S := wd_out hw (Nat.le_refl z)
  obtain ⟨hP, hD, hK, hS, hA, hz, hn⟩ := hw
  have hk : ∀ (k : Nat) (x : Nat × va_E), (wP C S)[k]? = some x → H1[x.1]? = H[x.1]? := fun k x hx => o1 x.1 (by rw [← hz]; exact (hP k x hx).lt)
  have hp := wP_push (C := C) hout hF
  have hP1 : va_P D vwCl (wP C S ++ [(z, en)]) H1 := (hP.kept hk).app (fun k x hx => by
    have hq : k < 1 := (List.getElem?_eq_some_iff.mp hx).1
    rw [show k = 0 by omega] at hx
    cases hx
    exact he)
  have hD1 : va_D A (wP C S ++ [(z, en)]) := hD.push hP hz.symm (hA _ (by rw [← hz]; exact hS.1))
  rw [hp] at hP1 hD1
  exact ⟨hP1, hD1, hK, ⟨Nat.le_trans hS.1 (by omega), fun x h1 h2 => (o1 x (by rw [← hz]; exact Nat.lt_of_lt_of_le h1 hS.1)).trans (hS.2.1 x h1 h2), hS.2.2⟩, hA, z1, hn⟩
theorem wr_new {own K : String} {T : u_T} {N ci index : Nat} {Ts : List Cond} {fs : List Value} (hx : p.tables.exec = Jvm.exec) (hb : c.code = cc) (hts : ∀ w ∈ Ts, w.before args s = true) (hin : ∀ w ∈ u_ws K T N, w ∈ Ts) (ty : Nat → FieldType) (hty : ∀ k, k < N → parseFieldDescriptor (T k).2.2.1 = some (ty k)) (hown : s.vm.findClass own = some m.cls) (hcl : (Cond.classLink own index K).before args s = true) (hinst : (Cond.instantiable K N).before args s = true) (hini : (Cond.initialized K).before args s = true)
    (hw : Wd D C A H0 S z H locs s) (hc : vwCl[ci]? = some (K, T, N)) (hF : wF C (sNew S z ci 0) z = .inr (ci, fs)) (hfs : ∀ j, j < N → defaultValue (ty j) = vp_V fs j) (hcells : cells + 1 ≤ R.cells) (hslots : slots + N ≤ R.slots) (hdg : decode cc pc = .ok (.new index, 3))
    (kk : ∀ (H1 : Heap), Wd D C A H0 (sNew S z ci 0) (z + 1) H1 locs s → W p l e R s m args below meth c H1 locs (cells + 1) (slots + N) Q (F0 m (pc + 3) ls (.ref z :: rest))) : W p l e R s m args below meth c H locs cells slots Q (F0 m pc ls rest) := by
  have hz := hw.2.2.2.2.2.1
  have hKn := hw.2.2.1.1 ci _ hc
  refine W.newcK hx hb hown hcl hinst hini rfl hdg hcells hslots hKn.2.1 hz fun H1 kC hkC e1 z1 o1 => ?_
  exact kk H1 (wd_push hw hF ⟨_, hc, (u_born ty hts hin hKn hkC e1 hty).to hfs⟩ z1 o1)
theorem wr_newI {n : Int32} {N' : Nat} (hx : p.tables.exec = Jvm.exec) (hb : c.code = cc) (harr : (Cond.arrayClass .int).before args s = true) (hw : Wd D C A H0 S z H locs s) (hn : ¬ n < 0) (hN : n.toNatClampNeg = N') (hbytes : N' * componentBytes .int ≤ 536870912) (hcells : cells + 1 ≤ R.cells) (hslots : slots + N' ≤ R.slots) (hdg : decode cc pc = .ok (.newarray .int, 2))
    (kk : ∀ (H1 : Heap), Wd D C A H0 (sNew S z 8 N') (z + 1) H1 locs s → W p l e R s m args below meth c H1 locs (cells + 1) (slots + N') Q (F0 m (pc + 2) ls (.ref z :: rest))) : W p l e R s m args below meth c H locs cells slots Q (F0 m pc ls (.int n :: rest)) := by
  have hz := hw.2.2.2.2.2.1
  have hR := (hw.2.2.1.2 0 (C.1, .int) rfl).2
  refine va_newaK (atype := .int) hx hb harr rfl hdg rfl hn hN hbytes hcells hslots hz fun H1 cA e1 z1 o1 hAr hNm => ?_
  have hA : cA = C.1 := Option.some.inj (hNm.symm.trans hR)
  subst hA
  exact kk H1 (wd_push hw wn_8 (by show H1[z]? = some (vp_cell _ _); rw [e1]; rfl) z1 o1)
theorem wr_newQ {own : String} {index : Nat} {n : Int32} {N' : Nat} (hx : p.tables.exec = Jvm.exec) (hb : c.code = cc) (hown : s.vm.findClass own = some m.cls) (hclink : (Cond.classLink own index RX4).before args s = true) (hw : Wd D C A H0 S z H locs s) (hn : ¬ n < 0) (hN : n.toNatClampNeg = N') (hbytes : N' * 4 ≤ 536870912) (hcells : cells + 1 ≤ R.cells) (hslots : slots + N' ≤ R.slots) (hdg : decode cc pc = .ok (.anewarray index, 3))
    (kk : ∀ (H1 : Heap), Wd D C A H0 (sNew S z 9 N') (z + 1) H1 locs s → W p l e R s m args below meth c H1 locs (cells + 1) (slots + N') Q (F0 m (pc + 3) ls (.ref z :: rest))) : W p l e R s m args below meth c H locs cells slots Q (F0 m pc ls (.int n :: rest)) := by
  have hz := hw.2.2.2.2.2.1
  have hover := hw.2.2.2.2.2.2.2
  obtain ⟨kA9, comp9, -, -, -, hR⟩ := (hw.2.2.1.2 1 (C.2.1, .object RX4) rfl).2
  subst hN
  refine W.anew hx hb hown hclink (va_AO.use hover) rfl hdg rfl hn hbytes hcells hslots fun cA kA comp f1 f2 f3 f4 => ?_
  have hA : cA = C.2.1 := Option.some.inj (f1.symm.trans hR)
  subst hA
  have h := kk (H.push ({ cls := C.2.1, slots := Array.replicate n.toNatClampNeg .null, vm := .none } : Cell)) (wd_push hw wn_9 (by
    show (H.push _)[z]? = some (vp_cell _ _)
    rw [← hz, Array.getElem?_push_size, vp_cell_q]
    exact congrArg some (arrV_new _ _ _)) (by rw [Array.size_push, hz]) (fun q hq => by rw [Array.getElem?_push, if_neg (by omega)]))
  rw [← hz] at h
  exact h
end
