section
variable {p : Program} {l : Launch} {e : Env} {R : Room} {s : State} {m : MethodId} {args : Array Value} {below : List Frame} {meth : Method} {c : Code} {H : Heap} {locs : List Loc} {cells slots : Nat} {Q : State → Prop}
variable {cc : ByteArray} {pc : Nat} {ls : Array Slot} {rest : List Value} {D : va_G} {C : C3} {A : Nat → Prop} {a : Nat} {H0 : Heap} {S : Hp} {z : Nat}
/-- a field is read -/
theorem wr_get {own ref K : String} {T : u_T} {N ci index : Nat} {Ts : List Cond} {v : Value} {fs : List Value} (hx : p.tables.exec = Jvm.exec) (hb : c.code = cc) (hts : ∀ w ∈ Ts, w.before args s = true) (hin : ∀ w ∈ u_ws K T N, w ∈ Ts) (hown : s.vm.findClass own = some m.cls) (hw : Wd D C A H0 S z H locs s) (hok : ok S a ci) (hfs : wF C S a = .inr (ci, fs)) (hc : vwCl[ci]? = some (K, T, N)) (k : Nat) (hk : k < N) (hlink : (Cond.fieldLink own index ref (T k).2.1 (T k).2.2.1).before args s = true) (hsame : ∀ x, s.fieldFound? (T k).1 (T k).2.1 (T k).2.2.1 = some x → s.fieldFound? ref (T k).2.1 (T k).2.2.1 = some x) (hv : fs[k]? = some v) (hdg : decode cc pc = .ok (.getfield index, 3))
    (kk : W p l e R s m args below meth c H locs cells slots Q (F0 m (pc + 3) ls (v :: rest))) : W p l e R s m args below meth c H locs cells slots Q (F0 m pc ls (.ref a :: rest)) := by
  obtain ⟨q0, hq⟩ := wP_at (C := C) hok.1
  rw [hfs] at hq
  exact va_get (D := D) (v := v) hx hb hts hin hown hw.2.2.1 hw.1 q0 hq hc k hk hlink hsame hv hdg kk
/-- a field is written -/
theorem wr_put {own ref K : String} {T : u_T} {N ci index : Nat} {Ts : List Cond} {v : Value} {fs : List Value} {ty : FieldType} {S1 : Hp} (hx : p.tables.exec = Jvm.exec) (hb : c.code = cc) (hts : ∀ w ∈ Ts, w.before args s = true) (hin : ∀ w ∈ u_ws K T N, w ∈ Ts) (ty0 : Nat → FieldType) (hty : ∀ k, k < N → parseFieldDescriptor (T k).2.2.1 = some (ty0 k)) (hnm : ∀ a, a < N → ∀ b, b < N → a ≠ b → (T a).2.1 ≠ (T b).2.1) (hown : s.vm.findClass own = some m.cls) (hw : Wd D C A H0 S z H locs s) (hok : ok S a ci) (hfs : wF C S a = .inr (ci, fs)) (hL1 : hL S1 = hL S) (h1 : ∀ b, ¬ b = a → wF C S1 b = wF C S b) (k : Nat) (h2 : wF C S1 a = .inr (ci, fs.set k v)) (hc : vwCl[ci]? = some (K, T, N)) (hk : k < N) (hlink : (Cond.fieldLink own index ref (T k).2.1 (T k).2.2.1).before args s = true) (hsame : ∀ x, s.fieldFound? (T k).1 (T k).2.1 (T k).2.2.1 = some x → s.fieldFound? ref (T k).2.1 (T k).2.2.1 = some x) (hfin : (T k).2.2.2 = false) (hd : parseFieldDescriptor (T k).2.2.1 = some ty) (hn : narrow ty v = v) (hfit : fits ty v = true) (hl : k < fs.length)
    (hdg : decode cc pc = .ok (.putfield index, 3)) (kk : ∀ (H1 : Heap) (locs1 : List Loc), Wd D C A H0 S1 z H1 locs1 s → W p l e R s m args below meth c H1 locs1 cells slots Q (F0 m (pc + 3) ls rest)) : W p l e R s m args below meth c H locs cells slots Q (F0 m pc ls (v :: .ref a :: rest)) := by
  obtain ⟨hP, hD, hK, hS0, hA, hz, hn0⟩ := hw
  obtain ⟨q0, hq⟩ := wP_at (C := C) hok.1
  have hset := wP_set hD hok.1 hq hL1 h1 h2
  rw [hfs] at hq
  have hap := va_apart (own := own) hts hin ty0 hty hnm hK hc
  obtain ⟨r, g1, cell, q1, q2, q3, q4⟩ := hP q0 _ hq
  have hr : r = (K, T, N) := Option.some.inj (g1.symm.trans hc)
  subst hr
  obtain ⟨hSl, hfc, kC, hkC, hkind⟩ := hK.1 ci _ hc
  obtain ⟨cf, kf, fi, f, hi, hsl⟩ := hSl k hk
  have hlay := hts _ (hin _ (u_in_lay hk))
  unfold u_lay at hlay
  rw [if_neg (by rw [hfin]; decide)] at hlay
  have hst := (u_facts hfc hkC (u_lays hts hin hk) hi).1
  have h6 := u_store hfc hkC hkind hlay hi hd hn hfit
  refine W.putK hx hb (f := f) ⟨hown, hlink, ⟨_, _, _, hsame _ hi⟩, hst⟩ (by rw [q2]; exact h6) q1 q3 (by rw [hsl]; exact k2_hasslot (q4 k hk)) rfl rfl hdg fun H' e1 e2 e3 => ?_
  rw [hsl] at e1 ⊢
  have hP1 := hP.set (H1 := H') (e := .inr (ci, fs.set k v)) hD hq ⟨(K, T, N), hc, t_OB.to (V := updV (vp_V fs) k v) ⟨_, e1, q2, q3, t_set q4 hap hk v⟩ (fun j _ => vp_updV_set hl v j)⟩ e3
  have hD1 := hD.set (e := .inr (ci, fs.set k v)) hq
  rw [hset] at hP1 hD1
  exact kk H' _ ⟨hP1, hD1, hK, hS0.put e2 e3 (hD.2 q0 _ hq), hA, by rw [e2]; exact hz, hn0⟩
/-- a final field is written in its constructor -/
theorem wr_putF {own ref K : String} {T : u_T} {N ci index : Nat} {Ts : List Cond} {v : Value} {fs : List Value} {ty : FieldType} {S1 : Hp} (hx : p.tables.exec = Jvm.exec) (hb : c.code = cc) (hts : ∀ w ∈ Ts, w.before args s = true) (hin : ∀ w ∈ u_ws K T N, w ∈ Ts) (ty0 : Nat → FieldType) (hty : ∀ k, k < N → parseFieldDescriptor (T k).2.2.1 = some (ty0 k)) (hnm : ∀ a, a < N → ∀ b, b < N → a ≠ b → (T a).2.1 ≠ (T b).2.1) (hown : s.vm.findClass own = some m.cls) (hw : Wd D C A H0 S z H locs s) (hok : ok S a ci) (hfs : wF C S a = .inr (ci, fs)) (hL1 : hL S1 = hL S) (h1 : ∀ b, ¬ b = a → wF C S1 b = wF C S b) (k : Nat) (h2 : wF C S1 a = .inr (ci, fs.set k v)) (hc : vwCl[ci]? = some (K, T, N)) (hk : k < N) (hlink : (Cond.fieldLink own index ref (T k).2.1 (T k).2.2.1).before args s = true) (hsame : ∀ x, s.fieldFound? (T k).1 (T k).2.1 (T k).2.2.1 = some x → s.fieldFound? ref (T k).2.1 (T k).2.2.1 = some x) (hfin : (T k).2.2.2 = true) (hin2 : meth.name = "<init>") (hdecl : (T k).1 = own) (hd : parseFieldDescriptor (T k).2.2.1 = some ty) (hn : narrow ty v = v) (hfit : fits ty v = true) (hl : k < fs.length)
    (hdg : decode cc pc = .ok (.putfield index, 3)) (kk : ∀ (H1 : Heap) (locs1 : List Loc), Wd D C A H0 S1 z H1 locs1 s → W p l e R s m args below meth c H1 locs1 cells slots Q (F0 m (pc + 3) ls rest)) : W p l e R s m args below meth c H locs cells slots Q (F0 m pc ls (v :: .ref a :: rest)) := by
  obtain ⟨hP, hD, hK, hS0, hA, hz, hn0⟩ := hw
  obtain ⟨q0, hq⟩ := wP_at (C := C) hok.1
  have hset := wP_set hD hok.1 hq hL1 h1 h2
  rw [hfs] at hq
  have hap := va_apart (own := own) hts hin ty0 hty hnm hK hc
  obtain ⟨r, g1, cell, q1, q2, q3, q4⟩ := hP q0 _ hq
  have hr : r = (K, T, N) := Option.some.inj (g1.symm.trans hc)
  subst hr
  obtain ⟨hSl, hfc, kC, hkC, hkind⟩ := hK.1 ci _ hc
  obtain ⟨cf, kf, fi, f, hi, hsl⟩ := hSl k hk
  have hlay := hts _ (hin _ (u_in_lay hk))
  unfold u_lay at hlay
  rw [if_pos hfin] at hlay
  have hst := (u_facts hfc hkC (u_lays hts hin hk) hi).1
  have hcf : m.cls = cf := by
    obtain ⟨_, _, c', _, _, _, -, -, hf', -, -, -, hown2, -⟩ := Cond.laysFinal_spec hlay
    have e1 : c' = cf := by have := hi.symm.trans hf'; simp at this; exact this.1.symm
    rw [hdecl] at hown2
    rw [← e1]; exact Option.some.inj (hown.symm.trans hown2)
  have h6 := u_fits hfc hkC hkind (Or.inr hlay) hi hd hn hfit
  refine W.putFinK hx hb hown hlink (hsame _ hi) hst hcf hin2 (by rw [q2]; exact h6) q1 q3 (by rw [hsl]; exact k2_hasslot (q4 k hk)) rfl rfl hdg fun H' e1 e2 e3 => ?_
  rw [hsl] at e1 ⊢
  have hP1 := hP.set (H1 := H') (e := .inr (ci, fs.set k v)) hD hq ⟨(K, T, N), hc, t_OB.to (V := updV (vp_V fs) k v) ⟨_, e1, q2, q3, t_set q4 hap hk v⟩ (fun j _ => vp_updV_set hl v j)⟩ e3
  have hD1 := hD.set (e := .inr (ci, fs.set k v)) hq
  rw [hset] at hP1 hD1
  exact kk H' _ ⟨hP1, hD1, hK, hS0.put e2 e3 (hD.2 q0 _ hq), hA, by rw [e2]; exact hz, hn0⟩
theorem wr_iald {i : Int32} (hx : p.tables.exec = Jvm.exec) (hb : c.code = cc) (hw : Wd D C A H0 S z H locs s) (hok : ok S a 8) (hin : vp_in i (hN S a)) (hdg : decode cc pc = .ok (.iaload, 1))
    (kk : W p l e R s m args below meth c H locs cells slots Q (F0 m (pc + 1) ls (.int (hI S a i.toNatClampNeg) :: rest))) : W p l e R s m args below meth c H locs cells slots Q (F0 m pc ls (.int i :: .ref a :: rest)) := by
  obtain ⟨q0, hq⟩ := wP_at (C := C) hok.1
  rw [wF_8 hok.2] at hq
  exact va_iald hx hb hw.2.2.1 hw.1 q0 0 hq rfl hin hdg kk
theorem wr_aald {i : Int32} {v : Value} (hx : p.tables.exec = Jvm.exec) (hb : c.code = cc) (hw : Wd D C A H0 S z H locs s) (hok : ok S a 9) (hin : vp_in i (hN S a)) (hv : va_rf (hR S a i.toNatClampNeg) = v) (hdg : decode cc pc = .ok (.aaload, 1))
    (kk : W p l e R s m args below meth c H locs cells slots Q (F0 m (pc + 1) ls (v :: rest))) : W p l e R s m args below meth c H locs cells slots Q (F0 m pc ls (.int i :: .ref a :: rest)) := by
  obtain ⟨q0, hq⟩ := wP_at (C := C) hok.1
  rw [wF_9 hok.2] at hq
  subst hv
  exact va_aldq hx hb hw.2.2.1 hw.1 q0 1 hq rfl hin hdg kk
theorem wr_alen8 (hx : p.tables.exec = Jvm.exec) (hb : c.code = cc) (hw : Wd D C A H0 S z H locs s) (hok : ok S a 8) (hdg : decode cc pc = .ok (.arraylength, 1))
    (kk : W p l e R s m args below meth c H locs cells slots Q (F0 m (pc + 1) ls (.int (nI (hN S a)) :: rest))) : W p l e R s m args below meth c H locs cells slots Q (F0 m pc ls (.ref a :: rest)) := by
  obtain ⟨q0, hq⟩ := wP_at (C := C) hok.1
  rw [wF_8 hok.2] at hq
  exact va_alen (v := nI (hN S a)) hx hb hw.2.2.1 hw.1 q0 0 hq (ty := .int) rfl rfl hdg kk
theorem wr_alen9 (hx : p.tables.exec = Jvm.exec) (hb : c.code = cc) (hw : Wd D C A H0 S z H locs s) (hok : ok S a 9) (hdg : decode cc pc = .ok (.arraylength, 1))
    (kk : W p l e R s m args below meth c H locs cells slots Q (F0 m (pc + 1) ls (.int (nI (hN S a)) :: rest))) : W p l e R s m args below meth c H locs cells slots Q (F0 m pc ls (.ref a :: rest)) := by
  obtain ⟨q0, hq⟩ := wP_at (C := C) hok.1
  rw [wF_9 hok.2] at hq
  exact va_alen (v := nI (hN S a)) hx hb hw.2.2.1 hw.1 q0 1 hq (ty := .object RX4) rfl rfl hdg kk
theorem wr_iast {i x : Int32} (hx : p.tables.exec = Jvm.exec) (hb : c.code = cc) (hw : Wd D C A H0 S z H locs s) (hok : ok S a 8) (hin : vp_in i (hN S a)) (hdg : decode cc pc = .ok (.iastore, 1))
    (kk : ∀ (H1 : Heap) (locs1 : List Loc), Wd D C A H0 (sI S a i.toNatClampNeg x) z H1 locs1 s → W p l e R s m args below meth c H1 locs1 cells slots Q (F0 m (pc + 1) ls rest)) : W p l e R s m args below meth c H locs cells slots Q (F0 m pc ls (.int x :: .int i :: .ref a :: rest)) := by
  obtain ⟨hP, hD, hK, hS0, hA, hz, hn0⟩ := hw
  obtain ⟨q0, hq⟩ := wP_at (C := C) hok.1
  have hset := wP_set (T := sI S a i.toNatClampNeg x) hD hok.1 hq rfl (fun b hb => wF_sI_ne hb) (wq_8 hok.2 _ _)
  rw [wF_8 hok.2] at hq
  refine W.iast hx hb (hP q0 _ hq) ((hK.2 0 _ rfl).1 (hN S a) (fun j => .int (hI S a j))) (fun q => by cases q) (by show ¬ (i < 0 ∨ (arrV _ _ _).slots.size ≤ _); rw [arrV_size]; exact hin) rfl rfl hdg fun H1 e z1 oq => ?_
  have hP1 := hP.set (e := .inl (C.1, hN S a, .inl (upd (hI S a) i.toNatClampNeg x))) hD hq (by
    show H1[a]? = some (vp_cell _ _)
    rw [e]
    show some ((vp_cell _ _).setSlot _ _) = _
    rw [vp_cell_i, vp_cell_i, arrV_store]
    congr 2
    funext q
    by_cases hq : q = i.toNatClampNeg
    · subst hq
      simp [updV, upd]
    · simp [updV, upd, hq]) oq
  have hD1 := hD.set (e := .inl (C.1, hN S a, .inl (upd (hI S a) i.toNatClampNeg x))) hq
  rw [hset] at hP1 hD1
  exact kk H1 _ ⟨hP1, hD1, hK, hS0.put z1 oq (hD.2 q0 _ hq), hA, by rw [z1]; exact hz, hn0⟩
theorem wr_aast {i : Int32} {v : Nat} (hx : p.tables.exec = Jvm.exec) (hb : c.code = cc) (hw : Wd D C A H0 S z H locs s) (hok : ok S a 9) (hv : ok S v 4) (hin : vp_in i (hN S a)) (hdg : decode cc pc = .ok (.aastore, 1))
    (kk : ∀ (H1 : Heap) (locs1 : List Loc), Wd D C A H0 (sR S a i.toNatClampNeg (some v)) z H1 locs1 s → W p l e R s m args below meth c H1 locs1 cells slots Q (F0 m (pc + 1) ls rest)) : W p l e R s m args below meth c H locs cells slots Q (F0 m pc ls (.ref v :: .int i :: .ref a :: rest)) := by
  obtain ⟨hP, hD, hK, hS0, hA, hz, hn0⟩ := hw
  obtain ⟨q0, hq⟩ := wP_at (C := C) hok.1
  have hset := wP_set (T := sR S a i.toNatClampNeg (some v)) hD hok.1 hq rfl (fun b hb => wF_sR_ne hb) (wq_9 hok.2 _ _)
  rw [wF_9 hok.2] at hq
  obtain ⟨qk, hqk⟩ := wP_at (C := C) hv.1
  rw [wF_4 hv.2] at hqk
  have hlt : i.toNatClampNeg < hN S a := Nat.not_le.mp fun q => hin (Or.inr q)
  have h0 : ¬ i < 0 := fun q => hin (Or.inl q)
  obtain ⟨r', hr', cellV, g1, g2, g3, -⟩ := hP qk _ hqk
  have hcls := (hK.1 4 (RX4, TX4, 10) rfl).2
  obtain ⟨kA, comp, k1, k2, k3, -⟩ := (hK.2 1 _ rfl).2
  have hcomp : comp = D.1 4 := Option.some.inj (k3.symm.trans hcls.1)
  subst hcomp
  obtain ⟨kC, hkC, -⟩ := hcls.2
  refine W.aast hx hb (hP q0 _ hq) (fun q h => by cases h) (fun h => by cases h) k1 k2 rfl hkC ⟨h0, by show _ < (arrV _ _ _).slots.size; rw [arrV_size]; exact hlt⟩ g1 (fun q h => by rw [g3] at h; cases h) (by rw [g2]; exact hkC) (by rw [g2]; exact va_assign hcls) rfl rfl hdg fun H1 e z1 oq => ?_
  have hP1 := hP.set (e := .inl (C.2.1, hN S a, .inr (.inr (.inr (.inr (va_up (hR S a) i.toNatClampNeg (some v))))))) hD hq (by
    show H1[a]? = some (vp_cell _ _)
    rw [e]
    show some ((vp_cell _ _).setSlot _ _) = _
    rw [vp_cell_q, vp_cell_q, arrV_store]
    congr 2
    funext q
    by_cases hq : q = i.toNatClampNeg
    · subst hq
      simp [updV, va_up, va_rf]
    · simp [updV, va_up, hq]) oq
  have hD1 := hD.set (e := .inl (C.2.1, hN S a, .inr (.inr (.inr (.inr (va_up (hR S a) i.toNatClampNeg (some v))))))) hq
  rw [hset] at hP1 hD1
  exact kk H1 _ ⟨hP1, hD1, hK, hS0.put z1 oq (hD.2 q0 _ hq), hA, by rw [z1]; exact hz, hn0⟩
theorem wd_out (hw : Wd D C A H0 S z H locs s) {q : Nat} (h : z ≤ q) : q ∉ hL S := by
  intro hq
  obtain ⟨k, hk⟩ := wP_at (C := C) hq
  have := (hw.1 k _ hk).lt
  rw [hw.2.2.2.2.2.1] at this
  exact absurd this (Nat.not_lt.mpr h)
end
