/-- the law's 'cell': it reads the script, which is no cell of the pool -/
def PcX (D : va_G) (C : C3) (S : Hp) (z b L : Nat) (xs : Nat → Int32) (av : List Value) : Array Value → State → Prop := va_Pc av (fun U => (U.heap.size = z ∧ va_P D vwCl (wP C S) U.heap ∧ va_K D vwCl (tysC C) U ∧ va_D (fun _ => True) (wP C S) ∧ nestOk U) ∧ va_X b L xs U U.heap ∧ ¬ va_A (wP C S) z b)
theorem PcX_blind {D : va_G} {C : C3} {S : Hp} {z b L : Nat} {xs : Nat → Int32} {av : List Value} : FrameBlind (PcX D C S z b L xs av) := fun a U g mk q => by
  obtain ⟨q0, ⟨q1, qP, qK, qD, qn⟩, qx, qa⟩ := q
  exact ⟨q0, ⟨q1, qP, va_K.moved (u := U) (U := U.calling g mk a) (Vm.Alike.refl U.vm) qK, qD, fun x hx => va_Nw.same (U := U.calling g mk a) rfl rfl (qn.1 x hx), va_AO.moved (u := U) (U := U.calling g mk a) (Vm.Alike.refl U.vm) qn.2⟩, va_X.moved (u := U) (U := U.calling g mk a) (Vm.Alike.refl U.vm) qx, qa⟩
theorem wd_preX {D : va_G} {C : C3} {A : Nat → Prop} {H0 H : Heap} {S : Hp} {z b L : Nat} {xs : Nat → Int32} {locs : List Loc} {s : State} {As : List Value} (hw : Wd D C A H0 S z H locs s) (hX : va_X b L xs s H0) (hbl : b < H0.size) (hbA : ¬ A b) : PreS s H (PcX D C S z b L xs As) As := by
  have hF := wd_free hw
  obtain ⟨hP, hD, hK, hS, hA, hz, hn⟩ := hw
  exact ⟨PcX_blind, fun U hU hW => ⟨rfl, ⟨by rw [hU]; exact hz, by rw [hU]; exact hP, va_K.moved hW.alike hK, hD.weaken (fun _ _ _ _ => trivial), hn.moved hW⟩, by rw [hU]; exact (hX.kept (hS.2.1 b hbl hbA)).moved hW.alike, fun w => hbA (hF b w)⟩⟩
def cellV (xs : Nat → Int32) (L : Nat) (k : Int32) : Int32 := if Int32.ofNat L ≤ k then (1291169091 : Int32) * (k + (271 : Int32)) else xs k.toNatClampNeg
abbrev rm_L_cell : Room := { frames := 0, cells := 0, slots := 0, locals := 0 }
set_option maxHeartbeats 4000000 in
set_option maxRecDepth 100000 in
theorem c_L_cell (l : Launch) (D : va_G) (C : C3) (S0 : Hp) (z b L : Nat) (xs : Nat → Int32) (k : Int32) (hL : L ≤ 260) {j : Nat} (hk : k = nI j) (hj : j < 1000) : Met l yL_cell wsL_cell rm_L_cell (PcX D C S0 z b L xs [.ref b, .int k]) (QiW D C S0 z (cellV xs L k) S0 z) 0 0 (va_A (wP C S0) z) := by
  refine Met.ofW (cc := cL_cell) (maxL := 2) (ret := (some .int)) (by decide) rfl ?_
  intro p e s m args below meth c s₁ B hml hv
  obtain ⟨rfl, ⟨hsz, hP, hK, hD0, hn⟩, hX, hbA⟩ := hv
  have hts := atoms_spec (ws := wsL_cell) B.pre
  have hown : s.vm.findClass RL = some m.cls := findClass_of_methodNamed B.named
  have hl := lv_entry ([.ref b, .int k]) (n := 2) (Nat.le_of_ble_eq_true rfl)
  rw [lg_entry_eq]
  generalize (lg_sl ([.ref b, .int k]) ++ List.replicate (2 - (lg_sl ([.ref b, .int k])).length) Slot.unset).toArray = ls at hl ⊢
  have hl : lv_has ls 2 [(0, .ref b), (1, .int k)] := hl
  have hx := B.exec
  have hb := B.bytes
  have hr := B.returns
  have hlk := B.notSynchronized
  have hbl : b < s.heap.size := by
    obtain ⟨scr, h1, -⟩ := hX
    exact (Array.getElem?_eq_some_iff.mp h1).1
  have hw : Wd D C (va_A (wP C S0) z) s.heap S0 z s.heap [] s := ⟨hP, hD0.self, hK, va_S.rf, fun q h => Or.inr (by rw [← hsz]; exact h), hsz, hn⟩
  unfold cellV
  refine lv_iload_n hx hb dL_cell_0 rfl (lv_at hl 1 rfl) ?_
  refine lv_aload_n hx hb dL_cell_1 rfl (lv_at hl 0 rfl) ?_
  refine va_slen hx hb hX hbl hbA hw.2.2.2.1 dL_cell_2 ?_
  refine lv_icmp_ge (tgt := 12) hx hb dL_cell_3 (by decide) (fun q => ?_) (fun q => ?_)
  · rw [if_pos q]
    refine lv_ldc (own := RL) (index := 7) (v := (1291169091 : Int32)) hx hb hown (hts _ (List.mem_of_getElem? (i := 1) rfl)) dL_cell_12 ?_
    refine lv_iload_n hx hb dL_cell_14 rfl (lv_at hl 1 rfl) ?_
    refine lv_sipush (v := (271 : Int32)) hx hb dL_cell_15 (by decide) ?_
    refine lv_iadd hx hb dL_cell_18 ?_
    refine lv_imul hx hb dL_cell_19 ?_
    exact wr_iret hx hb hr hw dL_cell_20 hlk
  · rw [if_neg q]
    have hin : vp_in k L := by
      subst hk
      have q2 : j < L := Nat.not_le.mp (fun h => q (nI_le h (by omega)))
      exact vp_in_iff.mpr ⟨by rw [nI_toInt (by omega)]; omega, by rw [nI_toInt (by omega)]; omega⟩
    refine lv_aload_n hx hb dL_cell_6 rfl (lv_at hl 0 rfl) ?_
    refine lv_iload_n hx hb dL_cell_7 rfl (lv_at hl 1 rfl) ?_
    refine va_sld hx hb hX hbl hbA hw.2.2.2.1 hin dL_cell_8 ?_
    refine lv_goto (tgt := 20) hx hb dL_cell_9 (by decide) ?_
    exact wr_iret hx hb hr hw dL_cell_20 hlk
