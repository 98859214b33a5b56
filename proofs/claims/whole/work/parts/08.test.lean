def f_X0_dropOldest_b17 (N : Nat) (a0 : Nat) (K17 : Hp → Nat → Int32 → Option (Unit × Hp)) (S : Hp) (p1 : Nat) (v2 : Int32) : Option (Unit × Hp) :=
  gd (ok S a0 0) <| nn (hR S a0 0) fun r8 => gd (ok S r8 9) <| if (nI (hN S r8)) ≤ v2 then (gd (inb ((nI (hN S r8)) - (1 : Int32)) (hN S r8)) <| gd (ok S p1 4) <| nn (hR ((sR S r8 ((nI (hN S r8)) - (1 : Int32)).toNatClampNeg (some p1))) a0 0) fun r13 => gd (ok ((sR S r8 ((nI (hN S r8)) - (1 : Int32)).toNatClampNeg (some p1))) r13 9) <| some ((), (sI (sR S r8 ((nI (hN S r8)) - (1 : Int32)).toNatClampNeg (some p1)) a0 1 ((nI (hN ((sR S r8 ((nI (hN S r8)) - (1 : Int32)).toNatClampNeg (some p1))) r13)) - (1 : Int32))))) else (gd (inb v2 (hN S r8)) <| nn (hR S r8 v2.toNatClampNeg) fun r16 => gd (inb (v2 - (1 : Int32)) (hN S r8)) <| gd (ok S r16 4) <| K17 ((sR S r8 (v2 - (1 : Int32)).toNatClampNeg (some r16))) p1 ((v2 + (1 : Int32))))
def f_X0_dropOldest_l17 (N : Nat) (a0 : Nat) : Nat → Hp → Nat → Int32 → Option (Unit × Hp)
  | 0, _, _, _ => none
  | k + 1, S, p1, v2 => f_X0_dropOldest_b17 N a0 (f_X0_dropOldest_l17 N a0 k) S p1 v2
def f_X0_dropOldest (N : Nat) (S : Hp) (a0 : Nat) : Option (Unit × Hp) :=
  gd (ok S a0 0) <| nn (hR S a0 0) fun r2 => gd (ok S r2 9) <| if (nI (hN S r2)) ≤ 0 then (some ((), S)) else (gd (inb (0 : Int32) (hN S r2)) <| nn (hR S r2 (0 : Int32).toNatClampNeg) fun r6 => f_X0_dropOldest_l17 N a0 N S r6 ((1 : Int32)))
theorem hi_X0_dropOldest_X0 : ∀ w ∈ wsX00, w ∈ wsX0_dropOldest := fun _ h => List.mem_cons_of_mem _ (List.mem_append_right _ (h))
abbrev rm_X0_dropOldest : Room := { frames := 0, cells := 0, slots := 0, locals := 0 }
set_option maxHeartbeats 4000000 in
set_option maxRecDepth 100000 in
theorem c_X0_dropOldest (l : Launch) (D : va_G) (C : C3) (N : Nat) (S0 : Hp) (z : Nat) (a0 : Nat) (r : Unit) (S9 : Hp) (hg : f_X0_dropOldest N S0 a0 = some (r, S9)) : MetV l yX0_dropOldest wsX0_dropOldest rm_X0_dropOldest D C S0 z [.ref a0] r S9 z 0 0 := by
  refine mw_ofW (cc := cX0_dropOldest) (maxL := 3) (ret := none) (lv := [(0, .ref a0)]) (by decide) rfl (Nat.le_of_ble_eq_true rfl) rfl ?_
  intro p e s m below meth c ls hx hb hr hts hown hlk hml hnm hl hw
  have hown : s.vm.findClass RX0 = some m.cls := hown
  have B17 : ∀ (K17 : Hp → Nat → Int32 → Option (Unit × Hp)) (hK17 : ∀ (S : Hp) (p1 : Nat) (v2 : Int32) (H : Heap) (locs : List Loc) (ls : Array Slot), K17 S p1 v2 = some (r, S9) → Wd D C (va_A (wP C S0) z) s.heap S z H locs s → lv_has ls 3 [(0, .ref a0), (1, .ref p1), (2, .int v2)] → W p l e rm_X0_dropOldest s m ([.ref a0] : List Value).toArray below meth c H locs 0 0 (MQ below (QvW D C S0 z r S9 z) ([.ref a0] : List Value).toArray s 0 0 (va_A (wP C S0) z)) (F0 m 17 ls [])) (S : Hp) (p1 : Nat) (v2 : Int32) (H : Heap) (locs : List Loc) (ls : Array Slot), f_X0_dropOldest_b17 N a0 K17 S p1 v2 = some (r, S9) → Wd D C (va_A (wP C S0) z) s.heap S z H locs s → lv_has ls 3 [(0, .ref a0), (1, .ref p1), (2, .int v2)] → W p l e rm_X0_dropOldest s m ([.ref a0] : List Value).toArray below meth c H locs 0 0 (MQ below (QvW D C S0 z r S9 z) ([.ref a0] : List Value).toArray s 0 0 (va_A (wP C S0) z)) (F0 m 17 ls []) := by
    intro K17 hK17 S p1 v2 H locs ls hg hw hl
    unfold f_X0_dropOldest_b17 at hg
    refine lv_iload_n hx hb dX0_dropOldest_17 rfl (lv_at hl 2 rfl) ?_
    refine lv_aload_n hx hb dX0_dropOldest_18 rfl (lv_at hl 0 rfl) ?_
    obtain ⟨hok7, hg⟩ := gd_some hg
    obtain ⟨r8, hr8, hg⟩ := nn_some hg
    refine wr_get (K := RX0) (T := TX0) (N := 2) (index := 11) (ref := "MakerLines$History") (v := .ref r8) hx hb hts hi_X0_dropOldest_X0 hown hw hok7 (wF_0 (S := S) hok7.2) rfl 0 (by decide) (hts _ (List.mem_of_getElem? (i := 1) rfl)) (fun _ h9 => h9) (congrArg (fun o => some (va_rf o)) hr8) dX0_dropOldest_19 ?_
    obtain ⟨hok9, hg⟩ := gd_some hg
    refine wr_alen9 hx hb hw hok9 dX0_dropOldest_22 ?_
    refine lv_icmp_ge (tgt := 46) hx hb dX0_dropOldest_23 (by decide) (fun c10 => ?_) (fun c10 => ?_)
    · have hg := it_pos hg c10
      refine lv_aload_n hx hb dX0_dropOldest_46 rfl (lv_at hl 0 rfl) ?_
      refine wr_get (K := RX0) (T := TX0) (N := 2) (index := 11) (ref := "MakerLines$History") (v := .ref r8) hx hb hts hi_X0_dropOldest_X0 hown hw hok7 (wF_0 (S := S) hok7.2) rfl 0 (by decide) (hts _ (List.mem_of_getElem? (i := 1) rfl)) (fun _ h9 => h9) (congrArg (fun o => some (va_rf o)) hr8) dX0_dropOldest_47 ?_
      refine lv_aload_n hx hb dX0_dropOldest_50 rfl (lv_at hl 0 rfl) ?_
      refine wr_get (K := RX0) (T := TX0) (N := 2) (index := 11) (ref := "MakerLines$History") (v := .ref r8) hx hb hts hi_X0_dropOldest_X0 hown hw hok7 (wF_0 (S := S) hok7.2) rfl 0 (by decide) (hts _ (List.mem_of_getElem? (i := 1) rfl)) (fun _ h9 => h9) (congrArg (fun o => some (va_rf o)) hr8) dX0_dropOldest_51 ?_
      refine wr_alen9 hx hb hw hok9 dX0_dropOldest_54 ?_
      refine lv_iconst (v := (1 : Int32)) hx hb dX0_dropOldest_55 (by decide) ?_
      refine lv_isub hx hb dX0_dropOldest_56 ?_
      refine lv_aload_n hx hb dX0_dropOldest_57 rfl (lv_at hl 1 rfl) ?_
      obtain ⟨hin11, hg⟩ := gd_some hg
      obtain ⟨hok12, hg⟩ := gd_some hg
      refine wr_aast hx hb hw hok9 hok12 (inb_vp hin11) dX0_dropOldest_58 (fun H locs hw => ?_)
      refine lv_aload_n hx hb dX0_dropOldest_59 rfl (lv_at hl 0 rfl) ?_
      refine lv_aload_n hx hb dX0_dropOldest_60 rfl (lv_at hl 0 rfl) ?_
      obtain ⟨r13, hr13, hg⟩ := nn_some hg
      refine wr_get (K := RX0) (T := TX0) (N := 2) (index := 11) (ref := "MakerLines$History") (v := .ref r13) hx hb hts hi_X0_dropOldest_X0 hown hw hok7 (wF_0 (S := (sR S r8 ((nI (hN S r8)) - (1 : Int32)).toNatClampNeg (some p1))) hok7.2) rfl 0 (by decide) (hts _ (List.mem_of_getElem? (i := 1) rfl)) (fun _ h9 => h9) (congrArg (fun o => some (va_rf o)) hr13) dX0_dropOldest_61 ?_
      obtain ⟨hok14, hg⟩ := gd_some hg
      refine wr_alen9 hx hb hw hok14 dX0_dropOldest_64 ?_
      refine lv_iconst (v := (1 : Int32)) hx hb dX0_dropOldest_65 (by decide) ?_
      refine lv_isub hx hb dX0_dropOldest_66 ?_
      refine wr_put (K := RX0) (T := TX0) (N := 2) (index := 17) (ref := "MakerLines$History") (ty := .int) (S1 := (sI (sR S r8 ((nI (hN S r8)) - (1 : Int32)).toNatClampNeg (some p1)) a0 1 ((nI (hN ((sR S r8 ((nI (hN S r8)) - (1 : Int32)).toNatClampNeg (some p1))) r13)) - (1 : Int32)))) hx hb hts hi_X0_dropOldest_X0 tyX0 tyX0_ok nmX0 hown hw hok7 (wF_0 (S := (sR S r8 ((nI (hN S r8)) - (1 : Int32)).toNatClampNeg (some p1))) hok7.2) rfl (fun b hb9 => wF_sI_ne hb9) 1 (wq_0_1 (S := (sR S r8 ((nI (hN S r8)) - (1 : Int32)).toNatClampNeg (some p1))) hok7.2 _) rfl (by decide) (hts _ (List.mem_of_getElem? (i := 2) rfl)) (fun _ h9 => h9) rfl (by decide +kernel) rfl rfl (by decide) dX0_dropOldest_67 (fun H locs hw => ?_)
      cases hg
      exact wr_vret hx hb hr hw dX0_dropOldest_70 hlk
    · have hg := it_neg hg c10
      refine lv_aload_n hx hb dX0_dropOldest_26 rfl (lv_at hl 0 rfl) ?_
      refine wr_get (K := RX0) (T := TX0) (N := 2) (index := 11) (ref := "MakerLines$History") (v := .ref r8) hx hb hts hi_X0_dropOldest_X0 hown hw hok7 (wF_0 (S := S) hok7.2) rfl 0 (by decide) (hts _ (List.mem_of_getElem? (i := 1) rfl)) (fun _ h9 => h9) (congrArg (fun o => some (va_rf o)) hr8) dX0_dropOldest_27 ?_
      refine lv_iload_n hx hb dX0_dropOldest_30 rfl (lv_at hl 2 rfl) ?_
      refine lv_iconst (v := (1 : Int32)) hx hb dX0_dropOldest_31 (by decide) ?_
      refine lv_isub hx hb dX0_dropOldest_32 ?_
      refine lv_aload_n hx hb dX0_dropOldest_33 rfl (lv_at hl 0 rfl) ?_
      refine wr_get (K := RX0) (T := TX0) (N := 2) (index := 11) (ref := "MakerLines$History") (v := .ref r8) hx hb hts hi_X0_dropOldest_X0 hown hw hok7 (wF_0 (S := S) hok7.2) rfl 0 (by decide) (hts _ (List.mem_of_getElem? (i := 1) rfl)) (fun _ h9 => h9) (congrArg (fun o => some (va_rf o)) hr8) dX0_dropOldest_34 ?_
      refine lv_iload_n hx hb dX0_dropOldest_37 rfl (lv_at hl 2 rfl) ?_
      obtain ⟨hin15, hg⟩ := gd_some hg
      obtain ⟨r16, hr16, hg⟩ := nn_some hg
      refine wr_aald (v := .ref r16) hx hb hw hok9 (inb_vp hin15) (congrArg va_rf hr16) dX0_dropOldest_38 ?_
      obtain ⟨hin17, hg⟩ := gd_some hg
      obtain ⟨hok18, hg⟩ := gd_some hg
      refine wr_aast hx hb hw hok9 hok18 (inb_vp hin17) dX0_dropOldest_39 (fun H locs hw => ?_)
      refine lv_iinc (v := (v2 + (1 : Int32))) (lv' := [(2, .int (v2 + (1 : Int32))), (0, .ref a0), (1, .ref p1)]) hx hb dX0_dropOldest_40 hl (k := 2) rfl rfl (by decide) rfl (fun ls hl => ?_)
      refine lv_goto (tgt := 17) hx hb dX0_dropOldest_43 (by decide) ?_
      exact hK17 _ _ _ _ _ _ hg hw (lv_sub hl [1, 2, 0] rfl)
  have L17 : ∀ (k : Nat) (S : Hp) (p1 : Nat) (v2 : Int32) (H : Heap) (locs : List Loc) (ls : Array Slot), f_X0_dropOldest_l17 N a0 k S p1 v2 = some (r, S9) → Wd D C (va_A (wP C S0) z) s.heap S z H locs s → lv_has ls 3 [(0, .ref a0), (1, .ref p1), (2, .int v2)] → W p l e rm_X0_dropOldest s m ([.ref a0] : List Value).toArray below meth c H locs 0 0 (MQ below (QvW D C S0 z r S9 z) ([.ref a0] : List Value).toArray s 0 0 (va_A (wP C S0) z)) (F0 m 17 ls []) := by
    intro k
    induction k with
    | zero => intro S p1 v2 H locs ls hg hw hl; exact absurd (show (none : Option (Unit × Hp)) = some (r, S9) from hg) (by simp)
    | succ k ih => intro S p1 v2 H locs ls hg hw hl; exact B17 (f_X0_dropOldest_l17 N a0 k) ih S p1 v2 H locs ls hg hw hl
  unfold f_X0_dropOldest at hg
  refine lv_aload_n hx hb dX0_dropOldest_0 rfl (lv_at hl 0 rfl) ?_
  obtain ⟨hok1, hg⟩ := gd_some hg
  obtain ⟨r2, hr2, hg⟩ := nn_some hg
  refine wr_get (K := RX0) (T := TX0) (N := 2) (index := 11) (ref := "MakerLines$History") (v := .ref r2) hx hb hts hi_X0_dropOldest_X0 hown hw hok1 (wF_0 (S := S) hok1.2) rfl 0 (by decide) (hts _ (List.mem_of_getElem? (i := 1) rfl)) (fun _ h9 => h9) (congrArg (fun o => some (va_rf o)) hr2) dX0_dropOldest_1 ?_
  obtain ⟨hok3, hg⟩ := gd_some hg
  refine wr_alen9 hx hb hw hok3 dX0_dropOldest_4 ?_
  refine lv_if_le (tgt := 70) hx hb dX0_dropOldest_5 (by decide) (fun c4 => ?_) (fun c4 => ?_)
  · have hg := it_pos hg c4
    cases hg
    exact wr_vret hx hb hr hw dX0_dropOldest_70 hlk
  · have hg := it_neg hg c4
    refine lv_aload_n hx hb dX0_dropOldest_8 rfl (lv_at hl 0 rfl) ?_
    refine wr_get (K := RX0) (T := TX0) (N := 2) (index := 11) (ref := "MakerLines$History") (v := .ref r2) hx hb hts hi_X0_dropOldest_X0 hown hw hok1 (wF_0 (S := S) hok1.2) rfl 0 (by decide) (hts _ (List.mem_of_getElem? (i := 1) rfl)) (fun _ h9 => h9) (congrArg (fun o => some (va_rf o)) hr2) dX0_dropOldest_9 ?_
    refine lv_iconst (v := (0 : Int32)) hx hb dX0_dropOldest_12 (by decide) ?_
    obtain ⟨hin5, hg⟩ := gd_some hg
    obtain ⟨r6, hr6, hg⟩ := nn_some hg
    refine wr_aald (v := .ref r6) hx hb hw hok3 (inb_vp hin5) (congrArg va_rf hr6) dX0_dropOldest_13 ?_
    refine lv_astore_n (lv' := [(1, .ref r6), (0, .ref a0)]) hx hb dX0_dropOldest_14 rfl hl (by decide) rfl (fun ls hl => ?_)
    refine lv_iconst (v := (1 : Int32)) hx hb dX0_dropOldest_15 (by decide) ?_
    refine lv_istore_n (lv' := [(2, .int (1 : Int32)), (1, .ref r6), (0, .ref a0)]) hx hb dX0_dropOldest_16 rfl hl (by decide) rfl (fun ls hl => ?_)
    exact L17 N _ _ _ _ _ _ hg hw (lv_sub hl [2, 1, 0] rfl)
def f_X1_copy_b46 (N : Nat) (a0 : Nat) (a1 : Nat) (S : Hp) : Option (Unit × Hp) :=
  gd (ok S a1 1) <| gd (ok S a0 1) <| some ((), (sI S a0 1 (hI S a1 1)))
def f_X1_copy_b2 (N : Nat) (a0 : Nat) (a1 : Nat) (K2 : Hp → Int32 → Option (Unit × Hp)) (S : Hp) (v2 : Int32) : Option (Unit × Hp) :=
  gd (ok S a1 1) <| if (hI S a1 1) ≤ v2 then (f_X1_copy_b46 N a0 a1 S) else (nn (hR S a1 0) fun r3 => gd (ok S r3 8) <| if (nI (hN S r3)) ≤ v2 then (f_X1_copy_b46 N a0 a1 S) else (gd (ok S a0 1) <| nn (hR S a0 0) fun r7 => gd (ok S r7 8) <| if (nI (hN S r7)) ≤ v2 then (f_X1_copy_b46 N a0 a1 S) else (gd (inb v2 (hN S r3)) <| gd (inb v2 (hN S r7)) <| K2 ((sI S r7 v2.toNatClampNeg (hI S r3 v2.toNatClampNeg))) ((v2 + (1 : Int32))))))
def f_X1_copy_l2 (N : Nat) (a0 : Nat) (a1 : Nat) : Nat → Hp → Int32 → Option (Unit × Hp)
  | 0, _, _ => none
  | k + 1, S, v2 => f_X1_copy_b2 N a0 a1 (f_X1_copy_l2 N a0 a1 k) S v2
def f_X1_copy (N : Nat) (S : Hp) (a0 : Nat) (a1 : Nat) : Option (Unit × Hp) :=
  f_X1_copy_l2 N a0 a1 N S ((0 : Int32))
theorem hi_X1_copy_X1 : ∀ w ∈ wsX10, w ∈ wsX1_copy := fun _ h => List.mem_cons_of_mem _ (List.mem_append_right _ (h))
abbrev rm_X1_copy : Room := { frames := 0, cells := 0, slots := 0, locals := 0 }
set_option maxHeartbeats 4000000 in
set_option maxRecDepth 100000 in
theorem c_X1_copy (l : Launch) (D : va_G) (C : C3) (N : Nat) (S0 : Hp) (z : Nat) (a0 : Nat) (a1 : Nat) (r : Unit) (S9 : Hp) (hg : f_X1_copy N S0 a0 a1 = some (r, S9)) : MetV l yX1_copy wsX1_copy rm_X1_copy D C S0 z [.ref a0, .ref a1] r S9 z 0 0 := by
  refine mw_ofW (cc := cX1_copy) (maxL := 3) (ret := none) (lv := [(0, .ref a0), (1, .ref a1)]) (by decide) rfl (Nat.le_of_ble_eq_true rfl) rfl ?_
  intro p e s m below meth c ls hx hb hr hts hown hlk hml hnm hl hw
  have hown : s.vm.findClass RX1 = some m.cls := hown
  have B46 : ∀ (S : Hp) (H : Heap) (locs : List Loc) (ls : Array Slot), f_X1_copy_b46 N a0 a1 S = some (r, S9) → Wd D C (va_A (wP C S0) z) s.heap S z H locs s → lv_has ls 3 [(0, .ref a0), (1, .ref a1)] → W p l e rm_X1_copy s m ([.ref a0, .ref a1] : List Value).toArray below meth c H locs 0 0 (MQ below (QvW D C S0 z r S9 z) ([.ref a0, .ref a1] : List Value).toArray s 0 0 (va_A (wP C S0) z)) (F0 m 46 ls []) := by
    intro S H locs ls hg hw hl
    unfold f_X1_copy_b46 at hg
    refine lv_aload_n hx hb dX1_copy_46 rfl (lv_at hl 0 rfl) ?_
    refine lv_aload_n hx hb dX1_copy_47 rfl (lv_at hl 1 rfl) ?_
    obtain ⟨hok12, hg⟩ := gd_some hg
    refine wr_get (K := RX1) (T := TX1) (N := 6) (index := 15) (ref := "MakerLines$Lines") (v := .int (hI S a1 1)) hx hb hts hi_X1_copy_X1 hown hw hok12 (wF_1 (S := S) hok12.2) rfl 1 (by decide) (hts _ (List.mem_of_getElem? (i := 1) rfl)) (fun _ h9 => h9) rfl dX1_copy_48 ?_
    obtain ⟨hok13, hg⟩ := gd_some hg
    refine wr_put (K := RX1) (T := TX1) (N := 6) (index := 15) (ref := "MakerLines$Lines") (ty := .int) (S1 := (sI S a0 1 (hI S a1 1))) hx hb hts hi_X1_copy_X1 tyX1 tyX1_ok nmX1 hown hw hok13 (wF_1 (S := S) hok13.2) rfl (fun b hb9 => wF_sI_ne hb9) 1 (wq_1_1 (S := S) hok13.2 _) rfl (by decide) (hts _ (List.mem_of_getElem? (i := 1) rfl)) (fun _ h9 => h9) rfl (by decide +kernel) rfl rfl (by decide) dX1_copy_51 (fun H locs hw => ?_)
    cases hg
    exact wr_vret hx hb hr hw dX1_copy_54 hlk
  have B2 : ∀ (K2 : Hp → Int32 → Option (Unit × Hp)) (hK2 : ∀ (S : Hp) (v2 : Int32) (H : Heap) (locs : List Loc) (ls : Array Slot), K2 S v2 = some (r, S9) → Wd D C (va_A (wP C S0) z) s.heap S z H locs s → lv_has ls 3 [(0, .ref a0), (1, .ref a1), (2, .int v2)] → W p l e rm_X1_copy s m ([.ref a0, .ref a1] : List Value).toArray below meth c H locs 0 0 (MQ below (QvW D C S0 z r S9 z) ([.ref a0, .ref a1] : List Value).toArray s 0 0 (va_A (wP C S0) z)) (F0 m 2 ls [])) (S : Hp) (v2 : Int32) (H : Heap) (locs : List Loc) (ls : Array Slot), f_X1_copy_b2 N a0 a1 K2 S v2 = some (r, S9) → Wd D C (va_A (wP C S0) z) s.heap S z H locs s → lv_has ls 3 [(0, .ref a0), (1, .ref a1), (2, .int v2)] → W p l e rm_X1_copy s m ([.ref a0, .ref a1] : List Value).toArray below meth c H locs 0 0 (MQ below (QvW D C S0 z r S9 z) ([.ref a0, .ref a1] : List Value).toArray s 0 0 (va_A (wP C S0) z)) (F0 m 2 ls []) := by
    intro K2 hK2 S v2 H locs ls hg hw hl
    unfold f_X1_copy_b2 at hg
    refine lv_iload_n hx hb dX1_copy_2 rfl (lv_at hl 2 rfl) ?_
    refine lv_aload_n hx hb dX1_copy_3 rfl (lv_at hl 1 rfl) ?_
    obtain ⟨hok1, hg⟩ := gd_some hg
    refine wr_get (K := RX1) (T := TX1) (N := 6) (index := 15) (ref := "MakerLines$Lines") (v := .int (hI S a1 1)) hx hb hts hi_X1_copy_X1 hown hw hok1 (wF_1 (S := S) hok1.2) rfl 1 (by decide) (hts _ (List.mem_of_getElem? (i := 1) rfl)) (fun _ h9 => h9) rfl dX1_copy_4 ?_
    refine lv_icmp_ge (tgt := 46) hx hb dX1_copy_7 (by decide) (fun c2 => ?_) (fun c2 => ?_)
    · have hg := it_pos hg c2
      exact B46 _ _ _ _ hg hw (lv_sub hl [0, 1] rfl)
    · have hg := it_neg hg c2
      refine lv_iload_n hx hb dX1_copy_10 rfl (lv_at hl 2 rfl) ?_
      refine lv_aload_n hx hb dX1_copy_11 rfl (lv_at hl 1 rfl) ?_
      obtain ⟨r3, hr3, hg⟩ := nn_some hg
      refine wr_get (K := RX1) (T := TX1) (N := 6) (index := 9) (ref := "MakerLines$Lines") (v := .ref r3) hx hb hts hi_X1_copy_X1 hown hw hok1 (wF_1 (S := S) hok1.2) rfl 0 (by decide) (hts _ (List.mem_of_getElem? (i := 2) rfl)) (fun _ h9 => h9) (congrArg (fun o => some (va_rf o)) hr3) dX1_copy_12 ?_
      obtain ⟨hok4, hg⟩ := gd_some hg
      refine wr_alen8 hx hb hw hok4 dX1_copy_15 ?_
      refine lv_icmp_ge (tgt := 46) hx hb dX1_copy_16 (by decide) (fun c5 => ?_) (fun c5 => ?_)
      · have hg := it_pos hg c5
        exact B46 _ _ _ _ hg hw (lv_sub hl [0, 1] rfl)
      · have hg := it_neg hg c5
        refine lv_iload_n hx hb dX1_copy_19 rfl (lv_at hl 2 rfl) ?_
        refine lv_aload_n hx hb dX1_copy_20 rfl (lv_at hl 0 rfl) ?_
        obtain ⟨hok6, hg⟩ := gd_some hg
        obtain ⟨r7, hr7, hg⟩ := nn_some hg
        refine wr_get (K := RX1) (T := TX1) (N := 6) (index := 9) (ref := "MakerLines$Lines") (v := .ref r7) hx hb hts hi_X1_copy_X1 hown hw hok6 (wF_1 (S := S) hok6.2) rfl 0 (by decide) (hts _ (List.mem_of_getElem? (i := 2) rfl)) (fun _ h9 => h9) (congrArg (fun o => some (va_rf o)) hr7) dX1_copy_21 ?_
        obtain ⟨hok8, hg⟩ := gd_some hg
        refine wr_alen8 hx hb hw hok8 dX1_copy_24 ?_
        refine lv_icmp_ge (tgt := 46) hx hb dX1_copy_25 (by decide) (fun c9 => ?_) (fun c9 => ?_)
        · have hg := it_pos hg c9
          exact B46 _ _ _ _ hg hw (lv_sub hl [0, 1] rfl)
        · have hg := it_neg hg c9
          refine lv_aload_n hx hb dX1_copy_28 rfl (lv_at hl 0 rfl) ?_
          refine wr_get (K := RX1) (T := TX1) (N := 6) (index := 9) (ref := "MakerLines$Lines") (v := .ref r7) hx hb hts hi_X1_copy_X1 hown hw hok6 (wF_1 (S := S) hok6.2) rfl 0 (by decide) (hts _ (List.mem_of_getElem? (i := 2) rfl)) (fun _ h9 => h9) (congrArg (fun o => some (va_rf o)) hr7) dX1_copy_29 ?_
          refine lv_iload_n hx hb dX1_copy_32 rfl (lv_at hl 2 rfl) ?_
          refine lv_aload_n hx hb dX1_copy_33 rfl (lv_at hl 1 rfl) ?_
          refine wr_get (K := RX1) (T := TX1) (N := 6) (index := 9) (ref := "MakerLines$Lines") (v := .ref r3) hx hb hts hi_X1_copy_X1 hown hw hok1 (wF_1 (S := S) hok1.2) rfl 0 (by decide) (hts _ (List.mem_of_getElem? (i := 2) rfl)) (fun _ h9 => h9) (congrArg (fun o => some (va_rf o)) hr3) dX1_copy_34 ?_
          refine lv_iload_n hx hb dX1_copy_37 rfl (lv_at hl 2 rfl) ?_
          obtain ⟨hin10, hg⟩ := gd_some hg
          refine wr_iald hx hb hw hok4 (inb_vp hin10) dX1_copy_38 ?_
          obtain ⟨hin11, hg⟩ := gd_some hg
          refine wr_iast hx hb hw hok8 (inb_vp hin11) dX1_copy_39 (fun H locs hw => ?_)
          refine lv_iinc (v := (v2 + (1 : Int32))) (lv' := [(2, .int (v2 + (1 : Int32))), (0, .ref a0), (1, .ref a1)]) hx hb dX1_copy_40 hl (k := 2) rfl rfl (by decide) rfl (fun ls hl => ?_)
          refine lv_goto (tgt := 2) hx hb dX1_copy_43 (by decide) ?_
          exact hK2 _ _ _ _ _ hg hw (lv_sub hl [1, 2, 0] rfl)
  have L2 : ∀ (k : Nat) (S : Hp) (v2 : Int32) (H : Heap) (locs : List Loc) (ls : Array Slot), f_X1_copy_l2 N a0 a1 k S v2 = some (r, S9) → Wd D C (va_A (wP C S0) z) s.heap S z H locs s → lv_has ls 3 [(0, .ref a0), (1, .ref a1), (2, .int v2)] → W p l e rm_X1_copy s m ([.ref a0, .ref a1] : List Value).toArray below meth c H locs 0 0 (MQ below (QvW D C S0 z r S9 z) ([.ref a0, .ref a1] : List Value).toArray s 0 0 (va_A (wP C S0) z)) (F0 m 2 ls []) := by
    intro k
    induction k with
    | zero => intro S v2 H locs ls hg hw hl; exact absurd (show (none : Option (Unit × Hp)) = some (r, S9) from hg) (by simp)
    | succ k ih => intro S v2 H locs ls hg hw hl; exact B2 (f_X1_copy_l2 N a0 a1 k) ih S v2 H locs ls hg hw hl
  unfold f_X1_copy at hg
  refine lv_iconst (v := (0 : Int32)) hx hb dX1_copy_0 (by decide) ?_
  refine lv_istore_n (lv' := [(2, .int (0 : Int32)), (0, .ref a0), (1, .ref a1)]) hx hb dX1_copy_1 rfl hl (by decide) rfl (fun ls hl => ?_)
  exact L2 N _ _ _ _ _ hg hw (lv_sub hl [1, 2, 0] rfl)
def f_X4_copyBoard (N : Nat) (S : Hp) (a0 : Nat) (a1 : Nat) : Option (Unit × Hp) :=
  gd (ok S a0 4) <| nn (hR S a0 0) fun r2 => gd (ok S a1 4) <| nn (hR S a1 0) fun r4 => gd (ok S r2 1) <| cl (f_X1_copy N S r2 r4) fun _ S6 => gd (ok S6 a1 4) <| gd (ok S6 a0 4) <| gd (isB (hI ((sI (sI (sI S6 a0 1 (hI S6 a1 1)) a0 2 (hI ((sI S6 a0 1 (hI S6 a1 1))) a1 2)) a0 3 (hI ((sI (sI S6 a0 1 (hI S6 a1 1)) a0 2 (hI ((sI S6 a0 1 (hI S6 a1 1))) a1 2))) a1 3))) a1 4)) <| some ((), (sI (sI (sI (sI (sI (sI S6 a0 1 (hI S6 a1 1)) a0 2 (hI ((sI S6 a0 1 (hI S6 a1 1))) a1 2)) a0 3 (hI ((sI (sI S6 a0 1 (hI S6 a1 1)) a0 2 (hI ((sI S6 a0 1 (hI S6 a1 1))) a1 2))) a1 3)) a0 4 (hI ((sI (sI (sI S6 a0 1 (hI S6 a1 1)) a0 2 (hI ((sI S6 a0 1 (hI S6 a1 1))) a1 2)) a0 3 (hI ((sI (sI S6 a0 1 (hI S6 a1 1)) a0 2 (hI ((sI S6 a0 1 (hI S6 a1 1))) a1 2))) a1 3))) a1 4)) a0 5 (hI ((sI (sI (sI (sI S6 a0 1 (hI S6 a1 1)) a0 2 (hI ((sI S6 a0 1 (hI S6 a1 1))) a1 2)) a0 3 (hI ((sI (sI S6 a0 1 (hI S6 a1 1)) a0 2 (hI ((sI S6 a0 1 (hI S6 a1 1))) a1 2))) a1 3)) a0 4 (hI ((sI (sI (sI S6 a0 1 (hI S6 a1 1)) a0 2 (hI ((sI S6 a0 1 (hI S6 a1 1))) a1 2)) a0 3 (hI ((sI (sI S6 a0 1 (hI S6 a1 1)) a0 2 (hI ((sI S6 a0 1 (hI S6 a1 1))) a1 2))) a1 3))) a1 4))) a1 5)) a0 6 (hI ((sI (sI (sI (sI (sI S6 a0 1 (hI S6 a1 1)) a0 2 (hI ((sI S6 a0 1 (hI S6 a1 1))) a1 2)) a0 3 (hI ((sI (sI S6 a0 1 (hI S6 a1 1)) a0 2 (hI ((sI S6 a0 1 (hI S6 a1 1))) a1 2))) a1 3)) a0 4 (hI ((sI (sI (sI S6 a0 1 (hI S6 a1 1)) a0 2 (hI ((sI S6 a0 1 (hI S6 a1 1))) a1 2)) a0 3 (hI ((sI (sI S6 a0 1 (hI S6 a1 1)) a0 2 (hI ((sI S6 a0 1 (hI S6 a1 1))) a1 2))) a1 3))) a1 4)) a0 5 (hI ((sI (sI (sI (sI S6 a0 1 (hI S6 a1 1)) a0 2 (hI ((sI S6 a0 1 (hI S6 a1 1))) a1 2)) a0 3 (hI ((sI (sI S6 a0 1 (hI S6 a1 1)) a0 2 (hI ((sI S6 a0 1 (hI S6 a1 1))) a1 2))) a1 3)) a0 4 (hI ((sI (sI (sI S6 a0 1 (hI S6 a1 1)) a0 2 (hI ((sI S6 a0 1 (hI S6 a1 1))) a1 2)) a0 3 (hI ((sI (sI S6 a0 1 (hI S6 a1 1)) a0 2 (hI ((sI S6 a0 1 (hI S6 a1 1))) a1 2))) a1 3))) a1 4))) a1 5))) a1 6)))
theorem hi_X4_copyBoard_X4 : ∀ w ∈ wsX40, w ∈ wsX4_copyBoard := fun _ h => List.mem_cons_of_mem _ (List.mem_append_left _ (List.mem_append_right _ (h)))
abbrev rm_X4_copyBoard : Room := { frames := 1, cells := 0, slots := 0, locals := 22 }
set_option maxHeartbeats 4000000 in
set_option maxRecDepth 100000 in
theorem c_X4_copyBoard (l : Launch) (D : va_G) (C : C3) (N : Nat) (S0 : Hp) (z : Nat) (a0 : Nat) (a1 : Nat) (r : Unit) (S9 : Hp) (hg : f_X4_copyBoard N S0 a0 a1 = some (r, S9)) : MetV l yX4_copyBoard wsX4_copyBoard rm_X4_copyBoard D C S0 z [.ref a0, .ref a1] r S9 z 0 0 := by
  refine mw_ofW (cc := cX4_copyBoard) (maxL := 2) (ret := none) (lv := [(0, .ref a0), (1, .ref a1)]) (by decide) rfl (Nat.le_of_ble_eq_true rfl) rfl ?_
  intro p e s m below meth c ls hx hb hr hts hown hlk hml hnm hl hw
  have hown : s.vm.findClass RX4 = some m.cls := hown
  unfold f_X4_copyBoard at hg
  refine lv_aload_n hx hb dX4_copyBoard_0 rfl (lv_at hl 0 rfl) ?_
  obtain ⟨hok1, hg⟩ := gd_some hg
  obtain ⟨r2, hr2, hg⟩ := nn_some hg
  refine wr_get (K := RX4) (T := TX4) (N := 10) (index := 12) (ref := "MakerLines$State") (v := .ref r2) hx hb hts hi_X4_copyBoard_X4 hown hw hok1 (wF_4 (S := S) hok1.2) rfl 0 (by decide) (hts _ (List.mem_of_getElem? (i := 1) rfl)) (fun _ h9 => h9) (congrArg (fun o => some (va_rf o)) hr2) dX4_copyBoard_1 ?_
  refine lv_aload_n hx hb dX4_copyBoard_4 rfl (lv_at hl 1 rfl) ?_
  obtain ⟨hok3, hg⟩ := gd_some hg
  obtain ⟨r4, hr4, hg⟩ := nn_some hg
  refine wr_get (K := RX4) (T := TX4) (N := 10) (index := 12) (ref := "MakerLines$State") (v := .ref r4) hx hb hts hi_X4_copyBoard_X4 hown hw hok3 (wF_4 (S := S) hok3.2) rfl 0 (by decide) (hts _ (List.mem_of_getElem? (i := 1) rfl)) (fun _ h9 => h9) (congrArg (fun o => some (va_rf o)) hr4) dX4_copyBoard_5 ?_
  obtain ⟨hok5, hg⟩ := gd_some hg
  obtain ⟨⟨⟩, S6, hc6, hg⟩ := cl_some hg
  refine wr_cv (va_runV (As := [.ref r4]) (rest := []) ⟨hx, hb, hml, hown, hts⟩ (c_X1_copy l D C N S z r2 r4 () S6 hc6) (cwV 1 hts gX4_copyBoard_X1_copy rfl rfl rfl (by decide +kernel) ⟨Nat.le_of_ble_eq_true rfl, Nat.le_of_ble_eq_true rfl⟩) (wd_preV hw hok5 (wF_1 (S := S) hok5.2) rfl) rfl rfl hl.1 rfl (lv_room (Nat.le_of_ble_eq_true rfl)) dX4_copyBoard_8 ⟨Nat.le_of_ble_eq_true rfl, Nat.le_of_ble_eq_true rfl⟩) hw (fun H locs hw => ?_)
  refine lv_aload_n hx hb dX4_copyBoard_11 rfl (lv_at hl 0 rfl) ?_
  refine lv_aload_n hx hb dX4_copyBoard_12 rfl (lv_at hl 1 rfl) ?_
  obtain ⟨hok7, hg⟩ := gd_some hg
  refine wr_get (K := RX4) (T := TX4) (N := 10) (index := 18) (ref := "MakerLines$State") (v := .int (hI S6 a1 1)) hx hb hts hi_X4_copyBoard_X4 hown hw hok7 (wF_4 (S := S6) hok7.2) rfl 1 (by decide) (hts _ (List.mem_of_getElem? (i := 2) rfl)) (fun _ h9 => h9) rfl dX4_copyBoard_13 ?_
  obtain ⟨hok8, hg⟩ := gd_some hg
  refine wr_put (K := RX4) (T := TX4) (N := 10) (index := 18) (ref := "MakerLines$State") (ty := .int) (S1 := (sI S6 a0 1 (hI S6 a1 1))) hx hb hts hi_X4_copyBoard_X4 tyX4 tyX4_ok nmX4 hown hw hok8 (wF_4 (S := S6) hok8.2) rfl (fun b hb9 => wF_sI_ne hb9) 1 (wq_4_1 (S := S6) hok8.2 _) rfl (by decide) (hts _ (List.mem_of_getElem? (i := 2) rfl)) (fun _ h9 => h9) rfl (by decide +kernel) rfl rfl (by decide) dX4_copyBoard_16 (fun H locs hw => ?_)
  refine lv_aload_n hx hb dX4_copyBoard_19 rfl (lv_at hl 0 rfl) ?_
  refine lv_aload_n hx hb dX4_copyBoard_20 rfl (lv_at hl 1 rfl) ?_
  refine wr_get (K := RX4) (T := TX4) (N := 10) (index := 22) (ref := "MakerLines$State") (v := .int (hI ((sI S6 a0 1 (hI S6 a1 1))) a1 2)) hx hb hts hi_X4_copyBoard_X4 hown hw hok7 (wF_4 (S := (sI S6 a0 1 (hI S6 a1 1))) hok7.2) rfl 2 (by decide) (hts _ (List.mem_of_getElem? (i := 3) rfl)) (fun _ h9 => h9) rfl dX4_copyBoard_21 ?_
  refine wr_put (K := RX4) (T := TX4) (N := 10) (index := 22) (ref := "MakerLines$State") (ty := .int) (S1 := (sI (sI S6 a0 1 (hI S6 a1 1)) a0 2 (hI ((sI S6 a0 1 (hI S6 a1 1))) a1 2))) hx hb hts hi_X4_copyBoard_X4 tyX4 tyX4_ok nmX4 hown hw hok8 (wF_4 (S := (sI S6 a0 1 (hI S6 a1 1))) hok8.2) rfl (fun b hb9 => wF_sI_ne hb9) 2 (wq_4_2 (S := (sI S6 a0 1 (hI S6 a1 1))) hok8.2 _) rfl (by decide) (hts _ (List.mem_of_getElem? (i := 3) rfl)) (fun _ h9 => h9) rfl (by decide +kernel) rfl rfl (by decide) dX4_copyBoard_24 (fun H locs hw => ?_)
  refine lv_aload_n hx hb dX4_copyBoard_27 rfl (lv_at hl 0 rfl) ?_
  refine lv_aload_n hx hb dX4_copyBoard_28 rfl (lv_at hl 1 rfl) ?_
  refine wr_get (K := RX4) (T := TX4) (N := 10) (index := 25) (ref := "MakerLines$State") (v := .int (hI ((sI (sI S6 a0 1 (hI S6 a1 1)) a0 2 (hI ((sI S6 a0 1 (hI S6 a1 1))) a1 2))) a1 3)) hx hb hts hi_X4_copyBoard_X4 hown hw hok7 (wF_4 (S := (sI (sI S6 a0 1 (hI S6 a1 1)) a0 2 (hI ((sI S6 a0 1 (hI S6 a1 1))) a1 2))) hok7.2) rfl 3 (by decide) (hts _ (List.mem_of_getElem? (i := 4) rfl)) (fun _ h9 => h9) rfl dX4_copyBoard_29 ?_
  refine wr_put (K := RX4) (T := TX4) (N := 10) (index := 25) (ref := "MakerLines$State") (ty := .int) (S1 := (sI (sI (sI S6 a0 1 (hI S6 a1 1)) a0 2 (hI ((sI S6 a0 1 (hI S6 a1 1))) a1 2)) a0 3 (hI ((sI (sI S6 a0 1 (hI S6 a1 1)) a0 2 (hI ((sI S6 a0 1 (hI S6 a1 1))) a1 2))) a1 3))) hx hb hts hi_X4_copyBoard_X4 tyX4 tyX4_ok nmX4 hown hw hok8 (wF_4 (S := (sI (sI S6 a0 1 (hI S6 a1 1)) a0 2 (hI ((sI S6 a0 1 (hI S6 a1 1))) a1 2))) hok8.2) rfl (fun b hb9 => wF_sI_ne hb9) 3 (wq_4_3 (S := (sI (sI S6 a0 1 (hI S6 a1 1)) a0 2 (hI ((sI S6 a0 1 (hI S6 a1 1))) a1 2))) hok8.2 _) rfl (by decide) (hts _ (List.mem_of_getElem? (i := 4) rfl)) (fun _ h9 => h9) rfl (by decide +kernel) rfl rfl (by decide) dX4_copyBoard_32 (fun H locs hw => ?_)
  refine lv_aload_n hx hb dX4_copyBoard_35 rfl (lv_at hl 0 rfl) ?_
  refine lv_aload_n hx hb dX4_copyBoard_36 rfl (lv_at hl 1 rfl) ?_
  refine wr_get (K := RX4) (T := TX4) (N := 10) (index := 28) (ref := "MakerLines$State") (v := .int (hI ((sI (sI (sI S6 a0 1 (hI S6 a1 1)) a0 2 (hI ((sI S6 a0 1 (hI S6 a1 1))) a1 2)) a0 3 (hI ((sI (sI S6 a0 1 (hI S6 a1 1)) a0 2 (hI ((sI S6 a0 1 (hI S6 a1 1))) a1 2))) a1 3))) a1 4)) hx hb hts hi_X4_copyBoard_X4 hown hw hok7 (wF_4 (S := (sI (sI (sI S6 a0 1 (hI S6 a1 1)) a0 2 (hI ((sI S6 a0 1 (hI S6 a1 1))) a1 2)) a0 3 (hI ((sI (sI S6 a0 1 (hI S6 a1 1)) a0 2 (hI ((sI S6 a0 1 (hI S6 a1 1))) a1 2))) a1 3))) hok7.2) rfl 4 (by decide) (hts _ (List.mem_of_getElem? (i := 5) rfl)) (fun _ h9 => h9) rfl dX4_copyBoard_37 ?_
  obtain ⟨hz9, hg⟩ := gd_some hg
  refine wr_put (K := RX4) (T := TX4) (N := 10) (index := 28) (ref := "MakerLines$State") (ty := .boolean) (S1 := (sI (sI (sI (sI S6 a0 1 (hI S6 a1 1)) a0 2 (hI ((sI S6 a0 1 (hI S6 a1 1))) a1 2)) a0 3 (hI ((sI (sI S6 a0 1 (hI S6 a1 1)) a0 2 (hI ((sI S6 a0 1 (hI S6 a1 1))) a1 2))) a1 3)) a0 4 (hI ((sI (sI (sI S6 a0 1 (hI S6 a1 1)) a0 2 (hI ((sI S6 a0 1 (hI S6 a1 1))) a1 2)) a0 3 (hI ((sI (sI S6 a0 1 (hI S6 a1 1)) a0 2 (hI ((sI S6 a0 1 (hI S6 a1 1))) a1 2))) a1 3))) a1 4))) hx hb hts hi_X4_copyBoard_X4 tyX4 tyX4_ok nmX4 hown hw hok8 (wF_4 (S := (sI (sI (sI S6 a0 1 (hI S6 a1 1)) a0 2 (hI ((sI S6 a0 1 (hI S6 a1 1))) a1 2)) a0 3 (hI ((sI (sI S6 a0 1 (hI S6 a1 1)) a0 2 (hI ((sI S6 a0 1 (hI S6 a1 1))) a1 2))) a1 3))) hok8.2) rfl (fun b hb9 => wF_sI_ne hb9) 4 (wq_4_4 (S := (sI (sI (sI S6 a0 1 (hI S6 a1 1)) a0 2 (hI ((sI S6 a0 1 (hI S6 a1 1))) a1 2)) a0 3 (hI ((sI (sI S6 a0 1 (hI S6 a1 1)) a0 2 (hI ((sI S6 a0 1 (hI S6 a1 1))) a1 2))) a1 3))) hok8.2 _) rfl (by decide) (hts _ (List.mem_of_getElem? (i := 5) rfl)) (fun _ h9 => h9) rfl (by decide +kernel) (isB_nar hz9) rfl (by decide) dX4_copyBoard_40 (fun H locs hw => ?_)
  refine lv_aload_n hx hb dX4_copyBoard_43 rfl (lv_at hl 0 rfl) ?_
  refine lv_aload_n hx hb dX4_copyBoard_44 rfl (lv_at hl 1 rfl) ?_
  refine wr_get (K := RX4) (T := TX4) (N := 10) (index := 32) (ref := "MakerLines$State") (v := .int (hI ((sI (sI (sI (sI S6 a0 1 (hI S6 a1 1)) a0 2 (hI ((sI S6 a0 1 (hI S6 a1 1))) a1 2)) a0 3 (hI ((sI (sI S6 a0 1 (hI S6 a1 1)) a0 2 (hI ((sI S6 a0 1 (hI S6 a1 1))) a1 2))) a1 3)) a0 4 (hI ((sI (sI (sI S6 a0 1 (hI S6 a1 1)) a0 2 (hI ((sI S6 a0 1 (hI S6 a1 1))) a1 2)) a0 3 (hI ((sI (sI S6 a0 1 (hI S6 a1 1)) a0 2 (hI ((sI S6 a0 1 (hI S6 a1 1))) a1 2))) a1 3))) a1 4))) a1 5)) hx hb hts hi_X4_copyBoard_X4 hown hw hok7 (wF_4 (S := (sI (sI (sI (sI S6 a0 1 (hI S6 a1 1)) a0 2 (hI ((sI S6 a0 1 (hI S6 a1 1))) a1 2)) a0 3 (hI ((sI (sI S6 a0 1 (hI S6 a1 1)) a0 2 (hI ((sI S6 a0 1 (hI S6 a1 1))) a1 2))) a1 3)) a0 4 (hI ((sI (sI (sI S6 a0 1 (hI S6 a1 1)) a0 2 (hI ((sI S6 a0 1 (hI S6 a1 1))) a1 2)) a0 3 (hI ((sI (sI S6 a0 1 (hI S6 a1 1)) a0 2 (hI ((sI S6 a0 1 (hI S6 a1 1))) a1 2))) a1 3))) a1 4))) hok7.2) rfl 5 (by decide) (hts _ (List.mem_of_getElem? (i := 6) rfl)) (fun _ h9 => h9) rfl dX4_copyBoard_45 ?_
  refine wr_put (K := RX4) (T := TX4) (N := 10) (index := 32) (ref := "MakerLines$State") (ty := .int) (S1 := (sI (sI (sI (sI (sI S6 a0 1 (hI S6 a1 1)) a0 2 (hI ((sI S6 a0 1 (hI S6 a1 1))) a1 2)) a0 3 (hI ((sI (sI S6 a0 1 (hI S6 a1 1)) a0 2 (hI ((sI S6 a0 1 (hI S6 a1 1))) a1 2))) a1 3)) a0 4 (hI ((sI (sI (sI S6 a0 1 (hI S6 a1 1)) a0 2 (hI ((sI S6 a0 1 (hI S6 a1 1))) a1 2)) a0 3 (hI ((sI (sI S6 a0 1 (hI S6 a1 1)) a0 2 (hI ((sI S6 a0 1 (hI S6 a1 1))) a1 2))) a1 3))) a1 4)) a0 5 (hI ((sI (sI (sI (sI S6 a0 1 (hI S6 a1 1)) a0 2 (hI ((sI S6 a0 1 (hI S6 a1 1))) a1 2)) a0 3 (hI ((sI (sI S6 a0 1 (hI S6 a1 1)) a0 2 (hI ((sI S6 a0 1 (hI S6 a1 1))) a1 2))) a1 3)) a0 4 (hI ((sI (sI (sI S6 a0 1 (hI S6 a1 1)) a0 2 (hI ((sI S6 a0 1 (hI S6 a1 1))) a1 2)) a0 3 (hI ((sI (sI S6 a0 1 (hI S6 a1 1)) a0 2 (hI ((sI S6 a0 1 (hI S6 a1 1))) a1 2))) a1 3))) a1 4))) a1 5))) hx hb hts hi_X4_copyBoard_X4 tyX4 tyX4_ok nmX4 hown hw hok8 (wF_4 (S := (sI (sI (sI (sI S6 a0 1 (hI S6 a1 1)) a0 2 (hI ((sI S6 a0 1 (hI S6 a1 1))) a1 2)) a0 3 (hI ((sI (sI S6 a0 1 (hI S6 a1 1)) a0 2 (hI ((sI S6 a0 1 (hI S6 a1 1))) a1 2))) a1 3)) a0 4 (hI ((sI (sI (sI S6 a0 1 (hI S6 a1 1)) a0 2 (hI ((sI S6 a0 1 (hI S6 a1 1))) a1 2)) a0 3 (hI ((sI (sI S6 a0 1 (hI S6 a1 1)) a0 2 (hI ((sI S6 a0 1 (hI S6 a1 1))) a1 2))) a1 3))) a1 4))) hok8.2) rfl (fun b hb9 => wF_sI_ne hb9) 5 (wq_4_5 (S := (sI (sI (sI (sI S6 a0 1 (hI S6 a1 1)) a0 2 (hI ((sI S6 a0 1 (hI S6 a1 1))) a1 2)) a0 3 (hI ((sI (sI S6 a0 1 (hI S6 a1 1)) a0 2 (hI ((sI S6 a0 1 (hI S6 a1 1))) a1 2))) a1 3)) a0 4 (hI ((sI (sI (sI S6 a0 1 (hI S6 a1 1)) a0 2 (hI ((sI S6 a0 1 (hI S6 a1 1))) a1 2)) a0 3 (hI ((sI (sI S6 a0 1 (hI S6 a1 1)) a0 2 (hI ((sI S6 a0 1 (hI S6 a1 1))) a1 2))) a1 3))) a1 4))) hok8.2 _) rfl (by decide) (hts _ (List.mem_of_getElem? (i := 6) rfl)) (fun _ h9 => h9) rfl (by decide +kernel) rfl rfl (by decide) dX4_copyBoard_48 (fun H locs hw => ?_)
  refine lv_aload_n hx hb dX4_copyBoard_51 rfl (lv_at hl 0 rfl) ?_
  refine lv_aload_n hx hb dX4_copyBoard_52 rfl (lv_at hl 1 rfl) ?_
  refine wr_get (K := RX4) (T := TX4) (N := 10) (index := 35) (ref := "MakerLines$State") (v := .int (hI ((sI (sI (sI (sI (sI S6 a0 1 (hI S6 a1 1)) a0 2 (hI ((sI S6 a0 1 (hI S6 a1 1))) a1 2)) a0 3 (hI ((sI (sI S6 a0 1 (hI S6 a1 1)) a0 2 (hI ((sI S6 a0 1 (hI S6 a1 1))) a1 2))) a1 3)) a0 4 (hI ((sI (sI (sI S6 a0 1 (hI S6 a1 1)) a0 2 (hI ((sI S6 a0 1 (hI S6 a1 1))) a1 2)) a0 3 (hI ((sI (sI S6 a0 1 (hI S6 a1 1)) a0 2 (hI ((sI S6 a0 1 (hI S6 a1 1))) a1 2))) a1 3))) a1 4)) a0 5 (hI ((sI (sI (sI (sI S6 a0 1 (hI S6 a1 1)) a0 2 (hI ((sI S6 a0 1 (hI S6 a1 1))) a1 2)) a0 3 (hI ((sI (sI S6 a0 1 (hI S6 a1 1)) a0 2 (hI ((sI S6 a0 1 (hI S6 a1 1))) a1 2))) a1 3)) a0 4 (hI ((sI (sI (sI S6 a0 1 (hI S6 a1 1)) a0 2 (hI ((sI S6 a0 1 (hI S6 a1 1))) a1 2)) a0 3 (hI ((sI (sI S6 a0 1 (hI S6 a1 1)) a0 2 (hI ((sI S6 a0 1 (hI S6 a1 1))) a1 2))) a1 3))) a1 4))) a1 5))) a1 6)) hx hb hts hi_X4_copyBoard_X4 hown hw hok7 (wF_4 (S := (sI (sI (sI (sI (sI S6 a0 1 (hI S6 a1 1)) a0 2 (hI ((sI S6 a0 1 (hI S6 a1 1))) a1 2)) a0 3 (hI ((sI (sI S6 a0 1 (hI S6 a1 1)) a0 2 (hI ((sI S6 a0 1 (hI S6 a1 1))) a1 2))) a1 3)) a0 4 (hI ((sI (sI (sI S6 a0 1 (hI S6 a1 1)) a0 2 (hI ((sI S6 a0 1 (hI S6 a1 1))) a1 2)) a0 3 (hI ((sI (sI S6 a0 1 (hI S6 a1 1)) a0 2 (hI ((sI S6 a0 1 (hI S6 a1 1))) a1 2))) a1 3))) a1 4)) a0 5 (hI ((sI (sI (sI (sI S6 a0 1 (hI S6 a1 1)) a0 2 (hI ((sI S6 a0 1 (hI S6 a1 1))) a1 2)) a0 3 (hI ((sI (sI S6 a0 1 (hI S6 a1 1)) a0 2 (hI ((sI S6 a0 1 (hI S6 a1 1))) a1 2))) a1 3)) a0 4 (hI ((sI (sI (sI S6 a0 1 (hI S6 a1 1)) a0 2 (hI ((sI S6 a0 1 (hI S6 a1 1))) a1 2)) a0 3 (hI ((sI (sI S6 a0 1 (hI S6 a1 1)) a0 2 (hI ((sI S6 a0 1 (hI S6 a1 1))) a1 2))) a1 3))) a1 4))) a1 5))) hok7.2) rfl 6 (by decide) (hts _ (List.mem_of_getElem? (i := 7) rfl)) (fun _ h9 => h9) rfl dX4_copyBoard_53 ?_
  refine wr_put (K := RX4) (T := TX4) (N := 10) (index := 35) (ref := "MakerLines$State") (ty := .int) (S1 := (sI (sI (sI (sI (sI (sI S6 a0 1 (hI S6 a1 1)) a0 2 (hI ((sI S6 a0 1 (hI S6 a1 1))) a1 2)) a0 3 (hI ((sI (sI S6 a0 1 (hI S6 a1 1)) a0 2 (hI ((sI S6 a0 1 (hI S6 a1 1))) a1 2))) a1 3)) a0 4 (hI ((sI (sI (sI S6 a0 1 (hI S6 a1 1)) a0 2 (hI ((sI S6 a0 1 (hI S6 a1 1))) a1 2)) a0 3 (hI ((sI (sI S6 a0 1 (hI S6 a1 1)) a0 2 (hI ((sI S6 a0 1 (hI S6 a1 1))) a1 2))) a1 3))) a1 4)) a0 5 (hI ((sI (sI (sI (sI S6 a0 1 (hI S6 a1 1)) a0 2 (hI ((sI S6 a0 1 (hI S6 a1 1))) a1 2)) a0 3 (hI ((sI (sI S6 a0 1 (hI S6 a1 1)) a0 2 (hI ((sI S6 a0 1 (hI S6 a1 1))) a1 2))) a1 3)) a0 4 (hI ((sI (sI (sI S6 a0 1 (hI S6 a1 1)) a0 2 (hI ((sI S6 a0 1 (hI S6 a1 1))) a1 2)) a0 3 (hI ((sI (sI S6 a0 1 (hI S6 a1 1)) a0 2 (hI ((sI S6 a0 1 (hI S6 a1 1))) a1 2))) a1 3))) a1 4))) a1 5)) a0 6 (hI ((sI (sI (sI (sI (sI S6 a0 1 (hI S6 a1 1)) a0 2 (hI ((sI S6 a0 1 (hI S6 a1 1))) a1 2)) a0 3 (hI ((sI (sI S6 a0 1 (hI S6 a1 1)) a0 2 (hI ((sI S6 a0 1 (hI S6 a1 1))) a1 2))) a1 3)) a0 4 (hI ((sI (sI (sI S6 a0 1 (hI S6 a1 1)) a0 2 (hI ((sI S6 a0 1 (hI S6 a1 1))) a1 2)) a0 3 (hI ((sI (sI S6 a0 1 (hI S6 a1 1)) a0 2 (hI ((sI S6 a0 1 (hI S6 a1 1))) a1 2))) a1 3))) a1 4)) a0 5 (hI ((sI (sI (sI (sI S6 a0 1 (hI S6 a1 1)) a0 2 (hI ((sI S6 a0 1 (hI S6 a1 1))) a1 2)) a0 3 (hI ((sI (sI S6 a0 1 (hI S6 a1 1)) a0 2 (hI ((sI S6 a0 1 (hI S6 a1 1))) a1 2))) a1 3)) a0 4 (hI ((sI (sI (sI S6 a0 1 (hI S6 a1 1)) a0 2 (hI ((sI S6 a0 1 (hI S6 a1 1))) a1 2)) a0 3 (hI ((sI (sI S6 a0 1 (hI S6 a1 1)) a0 2 (hI ((sI S6 a0 1 (hI S6 a1 1))) a1 2))) a1 3))) a1 4))) a1 5))) a1 6))) hx hb hts hi_X4_copyBoard_X4 tyX4 tyX4_ok nmX4 hown hw hok8 (wF_4 (S := (sI (sI (sI (sI (sI S6 a0 1 (hI S6 a1 1)) a0 2 (hI ((sI S6 a0 1 (hI S6 a1 1))) a1 2)) a0 3 (hI ((sI (sI S6 a0 1 (hI S6 a1 1)) a0 2 (hI ((sI S6 a0 1 (hI S6 a1 1))) a1 2))) a1 3)) a0 4 (hI ((sI (sI (sI S6 a0 1 (hI S6 a1 1)) a0 2 (hI ((sI S6 a0 1 (hI S6 a1 1))) a1 2)) a0 3 (hI ((sI (sI S6 a0 1 (hI S6 a1 1)) a0 2 (hI ((sI S6 a0 1 (hI S6 a1 1))) a1 2))) a1 3))) a1 4)) a0 5 (hI ((sI (sI (sI (sI S6 a0 1 (hI S6 a1 1)) a0 2 (hI ((sI S6 a0 1 (hI S6 a1 1))) a1 2)) a0 3 (hI ((sI (sI S6 a0 1 (hI S6 a1 1)) a0 2 (hI ((sI S6 a0 1 (hI S6 a1 1))) a1 2))) a1 3)) a0 4 (hI ((sI (sI (sI S6 a0 1 (hI S6 a1 1)) a0 2 (hI ((sI S6 a0 1 (hI S6 a1 1))) a1 2)) a0 3 (hI ((sI (sI S6 a0 1 (hI S6 a1 1)) a0 2 (hI ((sI S6 a0 1 (hI S6 a1 1))) a1 2))) a1 3))) a1 4))) a1 5))) hok8.2) rfl (fun b hb9 => wF_sI_ne hb9) 6 (wq_4_6 (S := (sI (sI (sI (sI (sI S6 a0 1 (hI S6 a1 1)) a0 2 (hI ((sI S6 a0 1 (hI S6 a1 1))) a1 2)) a0 3 (hI ((sI (sI S6 a0 1 (hI S6 a1 1)) a0 2 (hI ((sI S6 a0 1 (hI S6 a1 1))) a1 2))) a1 3)) a0 4 (hI ((sI (sI (sI S6 a0 1 (hI S6 a1 1)) a0 2 (hI ((sI S6 a0 1 (hI S6 a1 1))) a1 2)) a0 3 (hI ((sI (sI S6 a0 1 (hI S6 a1 1)) a0 2 (hI ((sI S6 a0 1 (hI S6 a1 1))) a1 2))) a1 3))) a1 4)) a0 5 (hI ((sI (sI (sI (sI S6 a0 1 (hI S6 a1 1)) a0 2 (hI ((sI S6 a0 1 (hI S6 a1 1))) a1 2)) a0 3 (hI ((sI (sI S6 a0 1 (hI S6 a1 1)) a0 2 (hI ((sI S6 a0 1 (hI S6 a1 1))) a1 2))) a1 3)) a0 4 (hI ((sI (sI (sI S6 a0 1 (hI S6 a1 1)) a0 2 (hI ((sI S6 a0 1 (hI S6 a1 1))) a1 2)) a0 3 (hI ((sI (sI S6 a0 1 (hI S6 a1 1)) a0 2 (hI ((sI S6 a0 1 (hI S6 a1 1))) a1 2))) a1 3))) a1 4))) a1 5))) hok8.2 _) rfl (by decide) (hts _ (List.mem_of_getElem? (i := 7) rfl)) (fun _ h9 => h9) rfl (by decide +kernel) rfl rfl (by decide) dX4_copyBoard_56 (fun H locs hw => ?_)
  cases hg
  exact wr_vret hx hb hr hw dX4_copyBoard_59 hlk
def f_X4_copyAll (N : Nat) (S : Hp) (a0 : Nat) (a1 : Nat) : Option (Unit × Hp) :=
  gd (ok S a0 4) <| cl (f_X4_copyBoard N S a0 a1) fun _ S2 => gd (ok S2 a1 4) <| gd (ok S2 a0 4) <| some ((), (sI (sI (sI S2 a0 7 (hI S2 a1 7)) a0 8 (hI ((sI S2 a0 7 (hI S2 a1 7))) a1 8)) a0 9 (hI ((sI (sI S2 a0 7 (hI S2 a1 7)) a0 8 (hI ((sI S2 a0 7 (hI S2 a1 7))) a1 8))) a1 9)))
theorem hi_X4_copyAll_X4 : ∀ w ∈ wsX40, w ∈ wsX4_copyAll := fun _ h => List.mem_cons_of_mem _ (List.mem_append_left _ (List.mem_append_right _ (h)))
abbrev rm_X4_copyAll : Room := { frames := 2, cells := 0, slots := 0, locals := 43 }
set_option maxHeartbeats 4000000 in
set_option maxRecDepth 100000 in
theorem c_X4_copyAll (l : Launch) (D : va_G) (C : C3) (N : Nat) (S0 : Hp) (z : Nat) (a0 : Nat) (a1 : Nat) (r : Unit) (S9 : Hp) (hg : f_X4_copyAll N S0 a0 a1 = some (r, S9)) : MetV l yX4_copyAll wsX4_copyAll rm_X4_copyAll D C S0 z [.ref a0, .ref a1] r S9 z 0 0 := by
  refine mw_ofW (cc := cX4_copyAll) (maxL := 2) (ret := none) (lv := [(0, .ref a0), (1, .ref a1)]) (by decide) rfl (Nat.le_of_ble_eq_true rfl) rfl ?_
  intro p e s m below meth c ls hx hb hr hts hown hlk hml hnm hl hw
  have hown : s.vm.findClass RX4 = some m.cls := hown
  unfold f_X4_copyAll at hg
  refine lv_aload_n hx hb dX4_copyAll_0 rfl (lv_at hl 0 rfl) ?_
  refine lv_aload_n hx hb dX4_copyAll_1 rfl (lv_at hl 1 rfl) ?_
  obtain ⟨hok1, hg⟩ := gd_some hg
  obtain ⟨⟨⟩, S2, hc2, hg⟩ := cl_some hg
  refine wr_cv (va_runV (As := [.ref a1]) (rest := []) ⟨hx, hb, hml, hown, hts⟩ (c_X4_copyBoard l D C N S z a0 a1 () S2 hc2) (cwV 1 hts gX4_copyAll_X4_copyBoard rfl rfl rfl (by decide +kernel) ⟨Nat.le_of_ble_eq_true rfl, Nat.le_of_ble_eq_true rfl⟩) (wd_preV hw hok1 (wF_4 (S := S) hok1.2) rfl) rfl rfl hl.1 rfl (lv_room (Nat.le_of_ble_eq_true rfl)) dX4_copyAll_2 ⟨Nat.le_of_ble_eq_true rfl, Nat.le_of_ble_eq_true rfl⟩) hw (fun H locs hw => ?_)
  refine lv_aload_n hx hb dX4_copyAll_5 rfl (lv_at hl 0 rfl) ?_
  refine lv_aload_n hx hb dX4_copyAll_6 rfl (lv_at hl 1 rfl) ?_
  obtain ⟨hok3, hg⟩ := gd_some hg
  refine wr_get (K := RX4) (T := TX4) (N := 10) (index := 38) (ref := "MakerLines$State") (v := .int (hI S2 a1 7)) hx hb hts hi_X4_copyAll_X4 hown hw hok3 (wF_4 (S := S2) hok3.2) rfl 7 (by decide) (hts _ (List.mem_of_getElem? (i := 1) rfl)) (fun _ h9 => h9) rfl dX4_copyAll_7 ?_
  obtain ⟨hok4, hg⟩ := gd_some hg
  refine wr_put (K := RX4) (T := TX4) (N := 10) (index := 38) (ref := "MakerLines$State") (ty := .int) (S1 := (sI S2 a0 7 (hI S2 a1 7))) hx hb hts hi_X4_copyAll_X4 tyX4 tyX4_ok nmX4 hown hw hok4 (wF_4 (S := S2) hok4.2) rfl (fun b hb9 => wF_sI_ne hb9) 7 (wq_4_7 (S := S2) hok4.2 _) rfl (by decide) (hts _ (List.mem_of_getElem? (i := 1) rfl)) (fun _ h9 => h9) rfl (by decide +kernel) rfl rfl (by decide) dX4_copyAll_10 (fun H locs hw => ?_)
  refine lv_aload_n hx hb dX4_copyAll_13 rfl (lv_at hl 0 rfl) ?_
  refine lv_aload_n hx hb dX4_copyAll_14 rfl (lv_at hl 1 rfl) ?_
  refine wr_get (K := RX4) (T := TX4) (N := 10) (index := 41) (ref := "MakerLines$State") (v := .int (hI ((sI S2 a0 7 (hI S2 a1 7))) a1 8)) hx hb hts hi_X4_copyAll_X4 hown hw hok3 (wF_4 (S := (sI S2 a0 7 (hI S2 a1 7))) hok3.2) rfl 8 (by decide) (hts _ (List.mem_of_getElem? (i := 2) rfl)) (fun _ h9 => h9) rfl dX4_copyAll_15 ?_
  refine wr_put (K := RX4) (T := TX4) (N := 10) (index := 41) (ref := "MakerLines$State") (ty := .int) (S1 := (sI (sI S2 a0 7 (hI S2 a1 7)) a0 8 (hI ((sI S2 a0 7 (hI S2 a1 7))) a1 8))) hx hb hts hi_X4_copyAll_X4 tyX4 tyX4_ok nmX4 hown hw hok4 (wF_4 (S := (sI S2 a0 7 (hI S2 a1 7))) hok4.2) rfl (fun b hb9 => wF_sI_ne hb9) 8 (wq_4_8 (S := (sI S2 a0 7 (hI S2 a1 7))) hok4.2 _) rfl (by decide) (hts _ (List.mem_of_getElem? (i := 2) rfl)) (fun _ h9 => h9) rfl (by decide +kernel) rfl rfl (by decide) dX4_copyAll_18 (fun H locs hw => ?_)
  refine lv_aload_n hx hb dX4_copyAll_21 rfl (lv_at hl 0 rfl) ?_
  refine lv_aload_n hx hb dX4_copyAll_22 rfl (lv_at hl 1 rfl) ?_
  refine wr_get (K := RX4) (T := TX4) (N := 10) (index := 44) (ref := "MakerLines$State") (v := .int (hI ((sI (sI S2 a0 7 (hI S2 a1 7)) a0 8 (hI ((sI S2 a0 7 (hI S2 a1 7))) a1 8))) a1 9)) hx hb hts hi_X4_copyAll_X4 hown hw hok3 (wF_4 (S := (sI (sI S2 a0 7 (hI S2 a1 7)) a0 8 (hI ((sI S2 a0 7 (hI S2 a1 7))) a1 8))) hok3.2) rfl 9 (by decide) (hts _ (List.mem_of_getElem? (i := 3) rfl)) (fun _ h9 => h9) rfl dX4_copyAll_23 ?_
  refine wr_put (K := RX4) (T := TX4) (N := 10) (index := 44) (ref := "MakerLines$State") (ty := .int) (S1 := (sI (sI (sI S2 a0 7 (hI S2 a1 7)) a0 8 (hI ((sI S2 a0 7 (hI S2 a1 7))) a1 8)) a0 9 (hI ((sI (sI S2 a0 7 (hI S2 a1 7)) a0 8 (hI ((sI S2 a0 7 (hI S2 a1 7))) a1 8))) a1 9))) hx hb hts hi_X4_copyAll_X4 tyX4 tyX4_ok nmX4 hown hw hok4 (wF_4 (S := (sI (sI S2 a0 7 (hI S2 a1 7)) a0 8 (hI ((sI S2 a0 7 (hI S2 a1 7))) a1 8))) hok4.2) rfl (fun b hb9 => wF_sI_ne hb9) 9 (wq_4_9 (S := (sI (sI S2 a0 7 (hI S2 a1 7)) a0 8 (hI ((sI S2 a0 7 (hI S2 a1 7))) a1 8))) hok4.2 _) rfl (by decide) (hts _ (List.mem_of_getElem? (i := 3) rfl)) (fun _ h9 => h9) rfl (by decide +kernel) rfl rfl (by decide) dX4_copyAll_26 (fun H locs hw => ?_)
  cases hg
  exact wr_vret hx hb hr hw dX4_copyAll_29 hlk
def f_X0_goBack (N : Nat) (S : Hp) (a0 : Nat) (a1 : Nat) : Option (Unit × Hp) :=
  gd (ok S a0 0) <| if (hI S a0 1) ≤ 0 then (some ((), S)) else (nn (hR S a0 0) fun r3 => gd (ok S r3 9) <| if (nI (hN S r3)) < (hI S a0 1) then (some ((), S)) else (gd (inb (hI ((sI S a0 1 ((hI S a0 1) - (1 : Int32)))) a0 1) (hN ((sI S a0 1 ((hI S a0 1) - (1 : Int32)))) r3)) <| nz (hR ((sI S a0 1 ((hI S a0 1) - (1 : Int32)))) r3 (hI ((sI S a0 1 ((hI S a0 1) - (1 : Int32)))) a0 1).toNatClampNeg) (some ((), (sI S a0 1 ((hI S a0 1) - (1 : Int32))))) fun r7 => gd (ok ((sI S a0 1 ((hI S a0 1) - (1 : Int32)))) a1 4) <| cl (f_X4_copyAll N ((sI S a0 1 ((hI S a0 1) - (1 : Int32)))) a1 r7) fun _ S9 => some ((), S9)))
theorem hi_X0_goBack_X0 : ∀ w ∈ wsX00, w ∈ wsX0_goBack := fun _ h => List.mem_cons_of_mem _ (List.mem_append_left _ (List.mem_append_left _ (List.mem_append_right _ (h))))
abbrev rm_X0_goBack : Room := { frames := 3, cells := 0, slots := 0, locals := 64 }
set_option maxHeartbeats 4000000 in
set_option maxRecDepth 100000 in
theorem c_X0_goBack (l : Launch) (D : va_G) (C : C3) (N : Nat) (S0 : Hp) (z : Nat) (a0 : Nat) (a1 : Nat) (r : Unit) (S9 : Hp) (hg : f_X0_goBack N S0 a0 a1 = some (r, S9)) : MetV l yX0_goBack wsX0_goBack rm_X0_goBack D C S0 z [.ref a0, .ref a1] r S9 z 0 0 := by
  refine mw_ofW (cc := cX0_goBack) (maxL := 3) (ret := none) (lv := [(0, .ref a0), (1, .ref a1)]) (by decide) rfl (Nat.le_of_ble_eq_true rfl) rfl ?_
  intro p e s m below meth c ls hx hb hr hts hown hlk hml hnm hl hw
  have hown : s.vm.findClass RX0 = some m.cls := hown
  unfold f_X0_goBack at hg
  refine lv_aload_n hx hb dX0_goBack_0 rfl (lv_at hl 0 rfl) ?_
  obtain ⟨hok1, hg⟩ := gd_some hg
  refine wr_get (K := RX0) (T := TX0) (N := 2) (index := 17) (ref := "MakerLines$History") (v := .int (hI S a0 1)) hx hb hts hi_X0_goBack_X0 hown hw hok1 (wF_0 (S := S) hok1.2) rfl 1 (by decide) (hts _ (List.mem_of_getElem? (i := 1) rfl)) (fun _ h9 => h9) rfl dX0_goBack_1 ?_
  refine lv_if_le (tgt := 48) hx hb dX0_goBack_4 (by decide) (fun c2 => ?_) (fun c2 => ?_)
  · have hg := it_pos hg c2
    cases hg
    exact wr_vret hx hb hr hw dX0_goBack_48 hlk
  · have hg := it_neg hg c2
    refine lv_aload_n hx hb dX0_goBack_7 rfl (lv_at hl 0 rfl) ?_
    refine wr_get (K := RX0) (T := TX0) (N := 2) (index := 17) (ref := "MakerLines$History") (v := .int (hI S a0 1)) hx hb hts hi_X0_goBack_X0 hown hw hok1 (wF_0 (S := S) hok1.2) rfl 1 (by decide) (hts _ (List.mem_of_getElem? (i := 1) rfl)) (fun _ h9 => h9) rfl dX0_goBack_8 ?_
    refine lv_aload_n hx hb dX0_goBack_11 rfl (lv_at hl 0 rfl) ?_
    obtain ⟨r3, hr3, hg⟩ := nn_some hg
    refine wr_get (K := RX0) (T := TX0) (N := 2) (index := 11) (ref := "MakerLines$History") (v := .ref r3) hx hb hts hi_X0_goBack_X0 hown hw hok1 (wF_0 (S := S) hok1.2) rfl 0 (by decide) (hts _ (List.mem_of_getElem? (i := 2) rfl)) (fun _ h9 => h9) (congrArg (fun o => some (va_rf o)) hr3) dX0_goBack_12 ?_
    obtain ⟨hok4, hg⟩ := gd_some hg
    refine wr_alen9 hx hb hw hok4 dX0_goBack_15 ?_
    refine lv_icmp_gt (tgt := 48) hx hb dX0_goBack_16 (by decide) (fun c5 => ?_) (fun c5 => ?_)
    · have hg := it_pos hg c5
      cases hg
      exact wr_vret hx hb hr hw dX0_goBack_48 hlk
    · have hg := it_neg hg c5
      refine lv_aload_n hx hb dX0_goBack_19 rfl (lv_at hl 0 rfl) ?_
      refine lv_dup hx hb dX0_goBack_20 rfl ?_
      refine wr_get (K := RX0) (T := TX0) (N := 2) (index := 17) (ref := "MakerLines$History") (v := .int (hI S a0 1)) hx hb hts hi_X0_goBack_X0 hown hw hok1 (wF_0 (S := S) hok1.2) rfl 1 (by decide) (hts _ (List.mem_of_getElem? (i := 1) rfl)) (fun _ h9 => h9) rfl dX0_goBack_21 ?_
      refine lv_iconst (v := (1 : Int32)) hx hb dX0_goBack_24 (by decide) ?_
      refine lv_isub hx hb dX0_goBack_25 ?_
      refine wr_put (K := RX0) (T := TX0) (N := 2) (index := 17) (ref := "MakerLines$History") (ty := .int) (S1 := (sI S a0 1 ((hI S a0 1) - (1 : Int32)))) hx hb hts hi_X0_goBack_X0 tyX0 tyX0_ok nmX0 hown hw hok1 (wF_0 (S := S) hok1.2) rfl (fun b hb9 => wF_sI_ne hb9) 1 (wq_0_1 (S := S) hok1.2 _) rfl (by decide) (hts _ (List.mem_of_getElem? (i := 1) rfl)) (fun _ h9 => h9) rfl (by decide +kernel) rfl rfl (by decide) dX0_goBack_26 (fun H locs hw => ?_)
      refine lv_aload_n hx hb dX0_goBack_29 rfl (lv_at hl 0 rfl) ?_
      refine wr_get (K := RX0) (T := TX0) (N := 2) (index := 11) (ref := "MakerLines$History") (v := .ref r3) hx hb hts hi_X0_goBack_X0 hown hw hok1 (wF_0 (S := (sI S a0 1 ((hI S a0 1) - (1 : Int32)))) hok1.2) rfl 0 (by decide) (hts _ (List.mem_of_getElem? (i := 2) rfl)) (fun _ h9 => h9) (congrArg (fun o => some (va_rf o)) hr3) dX0_goBack_30 ?_
      refine lv_aload_n hx hb dX0_goBack_33 rfl (lv_at hl 0 rfl) ?_
      refine wr_get (K := RX0) (T := TX0) (N := 2) (index := 17) (ref := "MakerLines$History") (v := .int (hI ((sI S a0 1 ((hI S a0 1) - (1 : Int32)))) a0 1)) hx hb hts hi_X0_goBack_X0 hown hw hok1 (wF_0 (S := (sI S a0 1 ((hI S a0 1) - (1 : Int32)))) hok1.2) rfl 1 (by decide) (hts _ (List.mem_of_getElem? (i := 1) rfl)) (fun _ h9 => h9) rfl dX0_goBack_34 ?_
      obtain ⟨hin6, hg⟩ := gd_some hg
      rcases ho7 : (hR ((sI S a0 1 ((hI S a0 1) - (1 : Int32)))) r3 (hI ((sI S a0 1 ((hI S a0 1) - (1 : Int32)))) a0 1).toNatClampNeg) with _ | r7
      · rw [ho7] at hg; have hg := nz_none hg
        refine wr_aald (v := .null) hx hb hw hok4 (inb_vp hin6) (congrArg va_rf ho7) dX0_goBack_37 ?_
        refine lv_astore_nN (lv' := [(2, .null), (0, .ref a0), (1, .ref a1)]) hx hb dX0_goBack_38 rfl hl (by decide) rfl (fun ls hl => ?_)
        refine lv_aload_nN hx hb dX0_goBack_39 rfl (lv_at hl 0 rfl) ?_
        refine lv_ifnullN (tgt := 48) hx hb dX0_goBack_40 (by decide) ?_
        cases hg
        exact wr_vret hx hb hr hw dX0_goBack_48 hlk
      · rw [ho7] at hg; have hg := nz_one hg
        refine wr_aald (v := .ref r7) hx hb hw hok4 (inb_vp hin6) (congrArg va_rf ho7) dX0_goBack_37 ?_
        refine lv_astore_n (lv' := [(2, .ref r7), (0, .ref a0), (1, .ref a1)]) hx hb dX0_goBack_38 rfl hl (by decide) rfl (fun ls hl => ?_)
        refine lv_aload_n hx hb dX0_goBack_39 rfl (lv_at hl 0 rfl) ?_
        refine lv_ifnull hx hb dX0_goBack_40 ?_
        refine lv_aload_n hx hb dX0_goBack_43 rfl (lv_at hl 2 rfl) ?_
        refine lv_aload_n hx hb dX0_goBack_44 rfl (lv_at hl 0 rfl) ?_
        obtain ⟨hok8, hg⟩ := gd_some hg
        obtain ⟨⟨⟩, S9, hc9, hg⟩ := cl_some hg
        refine wr_cv (va_runV (As := [.ref r7]) (rest := []) ⟨hx, hb, hml, hown, hts⟩ (c_X4_copyAll l D C N ((sI S a0 1 ((hI S a0 1) - (1 : Int32)))) z a1 r7 () S9 hc9) (cwV 1 hts gX0_goBack_X4_copyAll rfl rfl rfl (by decide +kernel) ⟨Nat.le_of_ble_eq_true rfl, Nat.le_of_ble_eq_true rfl⟩) (wd_preV hw hok8 (wF_4 (S := (sI S a0 1 ((hI S a0 1) - (1 : Int32)))) hok8.2) rfl) rfl rfl hl.1 rfl (lv_room (Nat.le_of_ble_eq_true rfl)) dX0_goBack_45 ⟨Nat.le_of_ble_eq_true rfl, Nat.le_of_ble_eq_true rfl⟩) hw (fun H locs hw => ?_)
        cases hg
        exact wr_vret hx hb hr hw dX0_goBack_48 hlk
def f_X1_has (N : Nat) (S : Hp) (a0 : Nat) (x1 : Int32) : Option (Int32 × Hp) :=
  if x1 < 0 then (some ((0 : Int32), S)) else (gd (ok S a0 1) <| if (hI S a0 1) ≤ x1 then (some ((0 : Int32), S)) else (nn (hR S a0 0) fun r4 => gd (ok S r4 8) <| if (nI (hN S r4)) ≤ x1 then (some ((0 : Int32), S)) else (some ((1 : Int32), S))))
theorem hi_X1_has_X1 : ∀ w ∈ wsX10, w ∈ wsX1_has := fun _ h => List.mem_cons_of_mem _ (List.mem_append_right _ (h))
abbrev rm_X1_has : Room := { frames := 0, cells := 0, slots := 0, locals := 0 }
set_option maxHeartbeats 4000000 in
set_option maxRecDepth 100000 in
theorem c_X1_has (l : Launch) (D : va_G) (C : C3) (N : Nat) (S0 : Hp) (z : Nat) (a0 : Nat) (x1 : Int32) (r : Int32) (S9 : Hp) (hg : f_X1_has N S0 a0 x1 = some (r, S9)) : MetI l yX1_has wsX1_has rm_X1_has D C S0 z [.ref a0, .int x1] r S9 z 0 0 := by
  refine mw_ofW (cc := cX1_has) (maxL := 2) (ret := (some .boolean)) (lv := [(0, .ref a0), (1, .int x1)]) (by decide) rfl (Nat.le_of_ble_eq_true rfl) rfl ?_
  intro p e s m below meth c ls hx hb hr hts hown hlk hml hnm hl hw
  have hown : s.vm.findClass RX1 = some m.cls := hown
  unfold f_X1_has at hg
  refine lv_iload_n hx hb dX1_has_0 rfl (lv_at hl 1 rfl) ?_
  refine lv_if_lt (tgt := 25) hx hb dX1_has_1 (by decide) (fun c1 => ?_) (fun c1 => ?_)
  · have hg := it_pos hg c1
    refine lv_iconst (v := (0 : Int32)) hx hb dX1_has_25 (by decide) ?_
    cases hg
    exact wr_zret hx hb hr (by decide) hw dX1_has_26 hlk
  · have hg := it_neg hg c1
    refine lv_iload_n hx hb dX1_has_4 rfl (lv_at hl 1 rfl) ?_
    refine lv_aload_n hx hb dX1_has_5 rfl (lv_at hl 0 rfl) ?_
    obtain ⟨hok2, hg⟩ := gd_some hg
    refine wr_get (K := RX1) (T := TX1) (N := 6) (index := 15) (ref := "MakerLines$Lines") (v := .int (hI S a0 1)) hx hb hts hi_X1_has_X1 hown hw hok2 (wF_1 (S := S) hok2.2) rfl 1 (by decide) (hts _ (List.mem_of_getElem? (i := 1) rfl)) (fun _ h9 => h9) rfl dX1_has_6 ?_
    refine lv_icmp_ge (tgt := 25) hx hb dX1_has_9 (by decide) (fun c3 => ?_) (fun c3 => ?_)
    · have hg := it_pos hg c3
      refine lv_iconst (v := (0 : Int32)) hx hb dX1_has_25 (by decide) ?_
      cases hg
      exact wr_zret hx hb hr (by decide) hw dX1_has_26 hlk
    · have hg := it_neg hg c3
      refine lv_iload_n hx hb dX1_has_12 rfl (lv_at hl 1 rfl) ?_
      refine lv_aload_n hx hb dX1_has_13 rfl (lv_at hl 0 rfl) ?_
      obtain ⟨r4, hr4, hg⟩ := nn_some hg
      refine wr_get (K := RX1) (T := TX1) (N := 6) (index := 9) (ref := "MakerLines$Lines") (v := .ref r4) hx hb hts hi_X1_has_X1 hown hw hok2 (wF_1 (S := S) hok2.2) rfl 0 (by decide) (hts _ (List.mem_of_getElem? (i := 2) rfl)) (fun _ h9 => h9) (congrArg (fun o => some (va_rf o)) hr4) dX1_has_14 ?_
      obtain ⟨hok5, hg⟩ := gd_some hg
      refine wr_alen8 hx hb hw hok5 dX1_has_17 ?_
      refine lv_icmp_ge (tgt := 25) hx hb dX1_has_18 (by decide) (fun c6 => ?_) (fun c6 => ?_)
      · have hg := it_pos hg c6
        refine lv_iconst (v := (0 : Int32)) hx hb dX1_has_25 (by decide) ?_
        cases hg
        exact wr_zret hx hb hr (by decide) hw dX1_has_26 hlk
      · have hg := it_neg hg c6
        refine lv_iconst (v := (1 : Int32)) hx hb dX1_has_21 (by decide) ?_
        refine lv_goto (tgt := 26) hx hb dX1_has_22 (by decide) ?_
        cases hg
        exact wr_zret hx hb hr (by decide) hw dX1_has_26 hlk
def f_X1_maskOf (N : Nat) (S : Hp) (a0 : Nat) (x1 : Int32) : Option (Int32 × Hp) :=
  if x1 < 0 then (some ((0 : Int32), S)) else (gd (ok S a0 1) <| if (hI S a0 1) ≤ x1 then (some ((0 : Int32), S)) else (nn (hR S a0 0) fun r4 => gd (ok S r4 8) <| if (nI (hN S r4)) ≤ x1 then (some ((0 : Int32), S)) else (gd (inb x1 (hN S r4)) <| some ((hI S r4 x1.toNatClampNeg), S))))
theorem hi_X1_maskOf_X1 : ∀ w ∈ wsX10, w ∈ wsX1_maskOf := fun _ h => List.mem_cons_of_mem _ (List.mem_append_right _ (h))
abbrev rm_X1_maskOf : Room := { frames := 0, cells := 0, slots := 0, locals := 0 }
set_option maxHeartbeats 4000000 in
set_option maxRecDepth 100000 in
theorem c_X1_maskOf (l : Launch) (D : va_G) (C : C3) (N : Nat) (S0 : Hp) (z : Nat) (a0 : Nat) (x1 : Int32) (r : Int32) (S9 : Hp) (hg : f_X1_maskOf N S0 a0 x1 = some (r, S9)) : MetI l yX1_maskOf wsX1_maskOf rm_X1_maskOf D C S0 z [.ref a0, .int x1] r S9 z 0 0 := by
  refine mw_ofW (cc := cX1_maskOf) (maxL := 2) (ret := (some .int)) (lv := [(0, .ref a0), (1, .int x1)]) (by decide) rfl (Nat.le_of_ble_eq_true rfl) rfl ?_
  intro p e s m below meth c ls hx hb hr hts hown hlk hml hnm hl hw
  have hown : s.vm.findClass RX1 = some m.cls := hown
  unfold f_X1_maskOf at hg
  refine lv_iload_n hx hb dX1_maskOf_0 rfl (lv_at hl 1 rfl) ?_
  refine lv_if_lt (tgt := 30) hx hb dX1_maskOf_1 (by decide) (fun c1 => ?_) (fun c1 => ?_)
  · have hg := it_pos hg c1
    refine lv_iconst (v := (0 : Int32)) hx hb dX1_maskOf_30 (by decide) ?_
    cases hg
    exact wr_iret hx hb hr hw dX1_maskOf_31 hlk
  · have hg := it_neg hg c1
    refine lv_iload_n hx hb dX1_maskOf_4 rfl (lv_at hl 1 rfl) ?_
    refine lv_aload_n hx hb dX1_maskOf_5 rfl (lv_at hl 0 rfl) ?_
    obtain ⟨hok2, hg⟩ := gd_some hg
    refine wr_get (K := RX1) (T := TX1) (N := 6) (index := 15) (ref := "MakerLines$Lines") (v := .int (hI S a0 1)) hx hb hts hi_X1_maskOf_X1 hown hw hok2 (wF_1 (S := S) hok2.2) rfl 1 (by decide) (hts _ (List.mem_of_getElem? (i := 1) rfl)) (fun _ h9 => h9) rfl dX1_maskOf_6 ?_
    refine lv_icmp_ge (tgt := 30) hx hb dX1_maskOf_9 (by decide) (fun c3 => ?_) (fun c3 => ?_)
    · have hg := it_pos hg c3
      refine lv_iconst (v := (0 : Int32)) hx hb dX1_maskOf_30 (by decide) ?_
      cases hg
      exact wr_iret hx hb hr hw dX1_maskOf_31 hlk
    · have hg := it_neg hg c3
      refine lv_iload_n hx hb dX1_maskOf_12 rfl (lv_at hl 1 rfl) ?_
      refine lv_aload_n hx hb dX1_maskOf_13 rfl (lv_at hl 0 rfl) ?_
      obtain ⟨r4, hr4, hg⟩ := nn_some hg
      refine wr_get (K := RX1) (T := TX1) (N := 6) (index := 9) (ref := "MakerLines$Lines") (v := .ref r4) hx hb hts hi_X1_maskOf_X1 hown hw hok2 (wF_1 (S := S) hok2.2) rfl 0 (by decide) (hts _ (List.mem_of_getElem? (i := 2) rfl)) (fun _ h9 => h9) (congrArg (fun o => some (va_rf o)) hr4) dX1_maskOf_14 ?_
      obtain ⟨hok5, hg⟩ := gd_some hg
      refine wr_alen8 hx hb hw hok5 dX1_maskOf_17 ?_
      refine lv_icmp_ge (tgt := 30) hx hb dX1_maskOf_18 (by decide) (fun c6 => ?_) (fun c6 => ?_)
      · have hg := it_pos hg c6
        refine lv_iconst (v := (0 : Int32)) hx hb dX1_maskOf_30 (by decide) ?_
        cases hg
        exact wr_iret hx hb hr hw dX1_maskOf_31 hlk
      · have hg := it_neg hg c6
        refine lv_aload_n hx hb dX1_maskOf_21 rfl (lv_at hl 0 rfl) ?_
        refine wr_get (K := RX1) (T := TX1) (N := 6) (index := 9) (ref := "MakerLines$Lines") (v := .ref r4) hx hb hts hi_X1_maskOf_X1 hown hw hok2 (wF_1 (S := S) hok2.2) rfl 0 (by decide) (hts _ (List.mem_of_getElem? (i := 2) rfl)) (fun _ h9 => h9) (congrArg (fun o => some (va_rf o)) hr4) dX1_maskOf_22 ?_
        refine lv_iload_n hx hb dX1_maskOf_25 rfl (lv_at hl 1 rfl) ?_
        obtain ⟨hin7, hg⟩ := gd_some hg
        refine wr_iald hx hb hw hok5 (inb_vp hin7) dX1_maskOf_26 ?_
        refine lv_goto (tgt := 31) hx hb dX1_maskOf_27 (by decide) ?_
        cases hg
        exact wr_iret hx hb hr hw dX1_maskOf_31 hlk
def f_X1_put (N : Nat) (S : Hp) (a0 : Nat) (x1 : Int32) : Option (Unit × Hp) :=
  gd (ok S a0 1) <| if (hI S a0 1) < 0 then (some ((), S)) else (nn (hR S a0 0) fun r3 => gd (ok S r3 8) <| if (nI (hN S r3)) ≤ (hI S a0 1) then (some ((), S)) else (gd (inb (hI S a0 1) (hN S r3)) <| some ((), (sI (sI S r3 (hI S a0 1).toNatClampNeg x1) a0 1 ((hI ((sI S r3 (hI S a0 1).toNatClampNeg x1)) a0 1) + (1 : Int32))))))
theorem hi_X1_put_X1 : ∀ w ∈ wsX10, w ∈ wsX1_put := fun _ h => List.mem_cons_of_mem _ (List.mem_append_right _ (h))
abbrev rm_X1_put : Room := { frames := 0, cells := 0, slots := 0, locals := 0 }
set_option maxHeartbeats 4000000 in
set_option maxRecDepth 100000 in
theorem c_X1_put (l : Launch) (D : va_G) (C : C3) (N : Nat) (S0 : Hp) (z : Nat) (a0 : Nat) (x1 : Int32) (r : Unit) (S9 : Hp) (hg : f_X1_put N S0 a0 x1 = some (r, S9)) : MetV l yX1_put wsX1_put rm_X1_put D C S0 z [.ref a0, .int x1] r S9 z 0 0 := by
  refine mw_ofW (cc := cX1_put) (maxL := 2) (ret := none) (lv := [(0, .ref a0), (1, .int x1)]) (by decide) rfl (Nat.le_of_ble_eq_true rfl) rfl ?_
  intro p e s m below meth c ls hx hb hr hts hown hlk hml hnm hl hw
  have hown : s.vm.findClass RX1 = some m.cls := hown
  unfold f_X1_put at hg
  refine lv_aload_n hx hb dX1_put_0 rfl (lv_at hl 0 rfl) ?_
  obtain ⟨hok1, hg⟩ := gd_some hg
  refine wr_get (K := RX1) (T := TX1) (N := 6) (index := 15) (ref := "MakerLines$Lines") (v := .int (hI S a0 1)) hx hb hts hi_X1_put_X1 hown hw hok1 (wF_1 (S := S) hok1.2) rfl 1 (by decide) (hts _ (List.mem_of_getElem? (i := 1) rfl)) (fun _ h9 => h9) rfl dX1_put_1 ?_
  refine lv_if_lt (tgt := 39) hx hb dX1_put_4 (by decide) (fun c2 => ?_) (fun c2 => ?_)
  · have hg := it_pos hg c2
    cases hg
    exact wr_vret hx hb hr hw dX1_put_39 hlk
  · have hg := it_neg hg c2
    refine lv_aload_n hx hb dX1_put_7 rfl (lv_at hl 0 rfl) ?_
    refine wr_get (K := RX1) (T := TX1) (N := 6) (index := 15) (ref := "MakerLines$Lines") (v := .int (hI S a0 1)) hx hb hts hi_X1_put_X1 hown hw hok1 (wF_1 (S := S) hok1.2) rfl 1 (by decide) (hts _ (List.mem_of_getElem? (i := 1) rfl)) (fun _ h9 => h9) rfl dX1_put_8 ?_
    refine lv_aload_n hx hb dX1_put_11 rfl (lv_at hl 0 rfl) ?_
    obtain ⟨r3, hr3, hg⟩ := nn_some hg
    refine wr_get (K := RX1) (T := TX1) (N := 6) (index := 9) (ref := "MakerLines$Lines") (v := .ref r3) hx hb hts hi_X1_put_X1 hown hw hok1 (wF_1 (S := S) hok1.2) rfl 0 (by decide) (hts _ (List.mem_of_getElem? (i := 2) rfl)) (fun _ h9 => h9) (congrArg (fun o => some (va_rf o)) hr3) dX1_put_12 ?_
    obtain ⟨hok4, hg⟩ := gd_some hg
    refine wr_alen8 hx hb hw hok4 dX1_put_15 ?_
    refine lv_icmp_ge (tgt := 39) hx hb dX1_put_16 (by decide) (fun c5 => ?_) (fun c5 => ?_)
    · have hg := it_pos hg c5
      cases hg
      exact wr_vret hx hb hr hw dX1_put_39 hlk
    · have hg := it_neg hg c5
      refine lv_aload_n hx hb dX1_put_19 rfl (lv_at hl 0 rfl) ?_
      refine wr_get (K := RX1) (T := TX1) (N := 6) (index := 9) (ref := "MakerLines$Lines") (v := .ref r3) hx hb hts hi_X1_put_X1 hown hw hok1 (wF_1 (S := S) hok1.2) rfl 0 (by decide) (hts _ (List.mem_of_getElem? (i := 2) rfl)) (fun _ h9 => h9) (congrArg (fun o => some (va_rf o)) hr3) dX1_put_20 ?_
      refine lv_aload_n hx hb dX1_put_23 rfl (lv_at hl 0 rfl) ?_
      refine wr_get (K := RX1) (T := TX1) (N := 6) (index := 15) (ref := "MakerLines$Lines") (v := .int (hI S a0 1)) hx hb hts hi_X1_put_X1 hown hw hok1 (wF_1 (S := S) hok1.2) rfl 1 (by decide) (hts _ (List.mem_of_getElem? (i := 1) rfl)) (fun _ h9 => h9) rfl dX1_put_24 ?_
      refine lv_iload_n hx hb dX1_put_27 rfl (lv_at hl 1 rfl) ?_
      obtain ⟨hin6, hg⟩ := gd_some hg
      refine wr_iast hx hb hw hok4 (inb_vp hin6) dX1_put_28 (fun H locs hw => ?_)
      refine lv_aload_n hx hb dX1_put_29 rfl (lv_at hl 0 rfl) ?_
      refine lv_dup hx hb dX1_put_30 rfl ?_
      refine wr_get (K := RX1) (T := TX1) (N := 6) (index := 15) (ref := "MakerLines$Lines") (v := .int (hI ((sI S r3 (hI S a0 1).toNatClampNeg x1)) a0 1)) hx hb hts hi_X1_put_X1 hown hw hok1 (wF_1 (S := (sI S r3 (hI S a0 1).toNatClampNeg x1)) hok1.2) rfl 1 (by decide) (hts _ (List.mem_of_getElem? (i := 1) rfl)) (fun _ h9 => h9) rfl dX1_put_31 ?_
      refine lv_iconst (v := (1 : Int32)) hx hb dX1_put_34 (by decide) ?_
      refine lv_iadd hx hb dX1_put_35 ?_
      refine wr_put (K := RX1) (T := TX1) (N := 6) (index := 15) (ref := "MakerLines$Lines") (ty := .int) (S1 := (sI (sI S r3 (hI S a0 1).toNatClampNeg x1) a0 1 ((hI ((sI S r3 (hI S a0 1).toNatClampNeg x1)) a0 1) + (1 : Int32)))) hx hb hts hi_X1_put_X1 tyX1 tyX1_ok nmX1 hown hw hok1 (wF_1 (S := (sI S r3 (hI S a0 1).toNatClampNeg x1)) hok1.2) rfl (fun b hb9 => wF_sI_ne hb9) 1 (wq_1_1 (S := (sI S r3 (hI S a0 1).toNatClampNeg x1)) hok1.2 _) rfl (by decide) (hts _ (List.mem_of_getElem? (i := 1) rfl)) (fun _ h9 => h9) rfl (by decide +kernel) rfl rfl (by decide) dX1_put_36 (fun H locs hw => ?_)
      cases hg
      exact wr_vret hx hb hr hw dX1_put_39 hlk
def f_X1_drop_b49 (N : Nat) (a0 : Nat) (x1 : Int32) (S : Hp) : Option (Unit × Hp) :=
  gd (ok S a0 1) <| some ((), (sI S a0 1 ((hI S a0 1) - (1 : Int32))))
def f_X1_drop_b12 (N : Nat) (a0 : Nat) (x1 : Int32) (K12 : Hp → Int32 → Option (Unit × Hp)) (S : Hp) (v2 : Int32) : Option (Unit × Hp) :=
  gd (ok S a0 1) <| if (hI S a0 1) ≤ v2 then (f_X1_drop_b49 N a0 x1 S) else (nn (hR S a0 0) fun r6 => gd (ok S r6 8) <| if (nI (hN S r6)) ≤ v2 then (f_X1_drop_b49 N a0 x1 S) else (gd (inb v2 (hN S r6)) <| gd (inb (v2 - (1 : Int32)) (hN S r6)) <| K12 ((sI S r6 (v2 - (1 : Int32)).toNatClampNeg (hI S r6 v2.toNatClampNeg))) ((v2 + (1 : Int32)))))
def f_X1_drop_l12 (N : Nat) (a0 : Nat) (x1 : Int32) : Nat → Hp → Int32 → Option (Unit × Hp)
  | 0, _, _ => none
  | k + 1, S, v2 => f_X1_drop_b12 N a0 x1 (f_X1_drop_l12 N a0 x1 k) S v2
def f_X1_drop (N : Nat) (S : Hp) (a0 : Nat) (x1 : Int32) : Option (Unit × Hp) :=
  gd (ok S a0 1) <| cl (f_X1_has N S a0 x1) fun r2 S2 => if r2 = 0 then (some ((), S2)) else (f_X1_drop_l12 N a0 x1 N S2 ((x1 + (1 : Int32))))
theorem hi_X1_drop_X1 : ∀ w ∈ wsX10, w ∈ wsX1_drop := fun _ h => List.mem_cons_of_mem _ (List.mem_append_right _ (h))
abbrev rm_X1_drop : Room := { frames := 1, cells := 0, slots := 0, locals := 21 }
set_option maxHeartbeats 4000000 in
set_option maxRecDepth 100000 in
theorem c_X1_drop (l : Launch) (D : va_G) (C : C3) (N : Nat) (S0 : Hp) (z : Nat) (a0 : Nat) (x1 : Int32) (r : Unit) (S9 : Hp) (hg : f_X1_drop N S0 a0 x1 = some (r, S9)) : MetV l yX1_drop wsX1_drop rm_X1_drop D C S0 z [.ref a0, .int x1] r S9 z 0 0 := by
  refine mw_ofW (cc := cX1_drop) (maxL := 3) (ret := none) (lv := [(0, .ref a0), (1, .int x1)]) (by decide) rfl (Nat.le_of_ble_eq_true rfl) rfl ?_
  intro p e s m below meth c ls hx hb hr hts hown hlk hml hnm hl hw
  have hown : s.vm.findClass RX1 = some m.cls := hown
  have B49 : ∀ (S : Hp) (H : Heap) (locs : List Loc) (ls : Array Slot), f_X1_drop_b49 N a0 x1 S = some (r, S9) → Wd D C (va_A (wP C S0) z) s.heap S z H locs s → lv_has ls 3 [(0, .ref a0)] → W p l e rm_X1_drop s m ([.ref a0, .int x1] : List Value).toArray below meth c H locs 0 0 (MQ below (QvW D C S0 z r S9 z) ([.ref a0, .int x1] : List Value).toArray s 0 0 (va_A (wP C S0) z)) (F0 m 49 ls []) := by
    intro S H locs ls hg hw hl
    unfold f_X1_drop_b49 at hg
    refine lv_aload_n hx hb dX1_drop_49 rfl (lv_at hl 0 rfl) ?_
    refine lv_dup hx hb dX1_drop_50 rfl ?_
    obtain ⟨hok11, hg⟩ := gd_some hg
    refine wr_get (K := RX1) (T := TX1) (N := 6) (index := 15) (ref := "MakerLines$Lines") (v := .int (hI S a0 1)) hx hb hts hi_X1_drop_X1 hown hw hok11 (wF_1 (S := S) hok11.2) rfl 1 (by decide) (hts _ (List.mem_of_getElem? (i := 1) rfl)) (fun _ h9 => h9) rfl dX1_drop_51 ?_
    refine lv_iconst (v := (1 : Int32)) hx hb dX1_drop_54 (by decide) ?_
    refine lv_isub hx hb dX1_drop_55 ?_
    refine wr_put (K := RX1) (T := TX1) (N := 6) (index := 15) (ref := "MakerLines$Lines") (ty := .int) (S1 := (sI S a0 1 ((hI S a0 1) - (1 : Int32)))) hx hb hts hi_X1_drop_X1 tyX1 tyX1_ok nmX1 hown hw hok11 (wF_1 (S := S) hok11.2) rfl (fun b hb9 => wF_sI_ne hb9) 1 (wq_1_1 (S := S) hok11.2 _) rfl (by decide) (hts _ (List.mem_of_getElem? (i := 1) rfl)) (fun _ h9 => h9) rfl (by decide +kernel) rfl rfl (by decide) dX1_drop_56 (fun H locs hw => ?_)
    cases hg
    exact wr_vret hx hb hr hw dX1_drop_59 hlk
  have B12 : ∀ (K12 : Hp → Int32 → Option (Unit × Hp)) (hK12 : ∀ (S : Hp) (v2 : Int32) (H : Heap) (locs : List Loc) (ls : Array Slot), K12 S v2 = some (r, S9) → Wd D C (va_A (wP C S0) z) s.heap S z H locs s → lv_has ls 3 [(0, .ref a0), (2, .int v2)] → W p l e rm_X1_drop s m ([.ref a0, .int x1] : List Value).toArray below meth c H locs 0 0 (MQ below (QvW D C S0 z r S9 z) ([.ref a0, .int x1] : List Value).toArray s 0 0 (va_A (wP C S0) z)) (F0 m 12 ls [])) (S : Hp) (v2 : Int32) (H : Heap) (locs : List Loc) (ls : Array Slot), f_X1_drop_b12 N a0 x1 K12 S v2 = some (r, S9) → Wd D C (va_A (wP C S0) z) s.heap S z H locs s → lv_has ls 3 [(0, .ref a0), (2, .int v2)] → W p l e rm_X1_drop s m ([.ref a0, .int x1] : List Value).toArray below meth c H locs 0 0 (MQ below (QvW D C S0 z r S9 z) ([.ref a0, .int x1] : List Value).toArray s 0 0 (va_A (wP C S0) z)) (F0 m 12 ls []) := by
    intro K12 hK12 S v2 H locs ls hg hw hl
    unfold f_X1_drop_b12 at hg
    refine lv_iload_n hx hb dX1_drop_12 rfl (lv_at hl 1 rfl) ?_
    refine lv_aload_n hx hb dX1_drop_13 rfl (lv_at hl 0 rfl) ?_
    obtain ⟨hok4, hg⟩ := gd_some hg
    refine wr_get (K := RX1) (T := TX1) (N := 6) (index := 15) (ref := "MakerLines$Lines") (v := .int (hI S a0 1)) hx hb hts hi_X1_drop_X1 hown hw hok4 (wF_1 (S := S) hok4.2) rfl 1 (by decide) (hts _ (List.mem_of_getElem? (i := 1) rfl)) (fun _ h9 => h9) rfl dX1_drop_14 ?_
    refine lv_icmp_ge (tgt := 49) hx hb dX1_drop_17 (by decide) (fun c5 => ?_) (fun c5 => ?_)
    · have hg := it_pos hg c5
      exact B49 _ _ _ _ hg hw (lv_sub hl [0] rfl)
    · have hg := it_neg hg c5
      refine lv_iload_n hx hb dX1_drop_20 rfl (lv_at hl 1 rfl) ?_
      refine lv_aload_n hx hb dX1_drop_21 rfl (lv_at hl 0 rfl) ?_
      obtain ⟨r6, hr6, hg⟩ := nn_some hg
      refine wr_get (K := RX1) (T := TX1) (N := 6) (index := 9) (ref := "MakerLines$Lines") (v := .ref r6) hx hb hts hi_X1_drop_X1 hown hw hok4 (wF_1 (S := S) hok4.2) rfl 0 (by decide) (hts _ (List.mem_of_getElem? (i := 2) rfl)) (fun _ h9 => h9) (congrArg (fun o => some (va_rf o)) hr6) dX1_drop_22 ?_
      obtain ⟨hok7, hg⟩ := gd_some hg
      refine wr_alen8 hx hb hw hok7 dX1_drop_25 ?_
      refine lv_icmp_ge (tgt := 49) hx hb dX1_drop_26 (by decide) (fun c8 => ?_) (fun c8 => ?_)
      · have hg := it_pos hg c8
        exact B49 _ _ _ _ hg hw (lv_sub hl [0] rfl)
      · have hg := it_neg hg c8
        refine lv_aload_n hx hb dX1_drop_29 rfl (lv_at hl 0 rfl) ?_
        refine wr_get (K := RX1) (T := TX1) (N := 6) (index := 9) (ref := "MakerLines$Lines") (v := .ref r6) hx hb hts hi_X1_drop_X1 hown hw hok4 (wF_1 (S := S) hok4.2) rfl 0 (by decide) (hts _ (List.mem_of_getElem? (i := 2) rfl)) (fun _ h9 => h9) (congrArg (fun o => some (va_rf o)) hr6) dX1_drop_30 ?_
        refine lv_iload_n hx hb dX1_drop_33 rfl (lv_at hl 1 rfl) ?_
        refine lv_iconst (v := (1 : Int32)) hx hb dX1_drop_34 (by decide) ?_
        refine lv_isub hx hb dX1_drop_35 ?_
        refine lv_aload_n hx hb dX1_drop_36 rfl (lv_at hl 0 rfl) ?_
        refine wr_get (K := RX1) (T := TX1) (N := 6) (index := 9) (ref := "MakerLines$Lines") (v := .ref r6) hx hb hts hi_X1_drop_X1 hown hw hok4 (wF_1 (S := S) hok4.2) rfl 0 (by decide) (hts _ (List.mem_of_getElem? (i := 2) rfl)) (fun _ h9 => h9) (congrArg (fun o => some (va_rf o)) hr6) dX1_drop_37 ?_
        refine lv_iload_n hx hb dX1_drop_40 rfl (lv_at hl 1 rfl) ?_
        obtain ⟨hin9, hg⟩ := gd_some hg
        refine wr_iald hx hb hw hok7 (inb_vp hin9) dX1_drop_41 ?_
        obtain ⟨hin10, hg⟩ := gd_some hg
        refine wr_iast hx hb hw hok7 (inb_vp hin10) dX1_drop_42 (fun H locs hw => ?_)
        refine lv_iinc (v := (v2 + (1 : Int32))) (lv' := [(2, .int (v2 + (1 : Int32))), (0, .ref a0)]) hx hb dX1_drop_43 hl (k := 1) rfl rfl (by decide) rfl (fun ls hl => ?_)
        refine lv_goto (tgt := 12) hx hb dX1_drop_46 (by decide) ?_
        exact hK12 _ _ _ _ _ hg hw (lv_sub hl [1, 0] rfl)
  have L12 : ∀ (k : Nat) (S : Hp) (v2 : Int32) (H : Heap) (locs : List Loc) (ls : Array Slot), f_X1_drop_l12 N a0 x1 k S v2 = some (r, S9) → Wd D C (va_A (wP C S0) z) s.heap S z H locs s → lv_has ls 3 [(0, .ref a0), (2, .int v2)] → W p l e rm_X1_drop s m ([.ref a0, .int x1] : List Value).toArray below meth c H locs 0 0 (MQ below (QvW D C S0 z r S9 z) ([.ref a0, .int x1] : List Value).toArray s 0 0 (va_A (wP C S0) z)) (F0 m 12 ls []) := by
    intro k
    induction k with
    | zero => intro S v2 H locs ls hg hw hl; exact absurd (show (none : Option (Unit × Hp)) = some (r, S9) from hg) (by simp)
    | succ k ih => intro S v2 H locs ls hg hw hl; exact B12 (f_X1_drop_l12 N a0 x1 k) ih S v2 H locs ls hg hw hl
  unfold f_X1_drop at hg
  refine lv_aload_n hx hb dX1_drop_0 rfl (lv_at hl 0 rfl) ?_
  refine lv_iload_n hx hb dX1_drop_1 rfl (lv_at hl 1 rfl) ?_
  obtain ⟨hok1, hg⟩ := gd_some hg
  obtain ⟨r2, S2, hc2, hg⟩ := cl_some hg
  refine wr_ci (va_runV (As := [.int x1]) (rest := []) ⟨hx, hb, hml, hown, hts⟩ (c_X1_has l D C N S z a0 x1 r2 S2 hc2) (cwV 1 hts gX1_drop_X1_has rfl rfl rfl (by decide +kernel) ⟨Nat.le_of_ble_eq_true rfl, Nat.le_of_ble_eq_true rfl⟩) (wd_preV hw hok1 (wF_1 (S := S) hok1.2) rfl) rfl rfl hl.1 rfl (lv_room (Nat.le_of_ble_eq_true rfl)) dX1_drop_2 ⟨Nat.le_of_ble_eq_true rfl, Nat.le_of_ble_eq_true rfl⟩) hw (fun H locs hw => ?_)
  refine lv_if_eq (tgt := 59) hx hb dX1_drop_5 (by decide) (fun c3 => ?_) (fun c3 => ?_)
  · have hg := it_pos hg c3
    cases hg
    exact wr_vret hx hb hr hw dX1_drop_59 hlk
  · have hg := it_neg hg c3
    refine lv_iload_n hx hb dX1_drop_8 rfl (lv_at hl 1 rfl) ?_
    refine lv_iconst (v := (1 : Int32)) hx hb dX1_drop_9 (by decide) ?_
    refine lv_iadd hx hb dX1_drop_10 ?_
    refine lv_istore_n (lv' := [(2, .int (x1 + (1 : Int32))), (0, .ref a0), (1, .int x1)]) hx hb dX1_drop_11 rfl hl (by decide) rfl (fun ls hl => ?_)
    exact L12 N _ _ _ _ _ hg hw (lv_sub hl [1, 0] rfl)
def f_X1_areSame_b15 (N : Nat) (a0 : Nat) (a1 : Nat) (K15 : Hp → Int32 → Option (Int32 × Hp)) (S : Hp) (v2 : Int32) : Option (Int32 × Hp) :=
  gd (ok S a0 1) <| if (hI S a0 1) ≤ v2 then (some ((1 : Int32), S)) else (nn (hR S a0 0) fun r6 => gd (ok S r6 8) <| if (nI (hN S r6)) ≤ v2 then (some ((1 : Int32), S)) else (gd (ok S a1 1) <| nn (hR S a1 0) fun r10 => gd (ok S r10 8) <| if (nI (hN S r10)) ≤ v2 then (some ((1 : Int32), S)) else (gd (inb v2 (hN S r6)) <| gd (inb v2 (hN S r10)) <| if (hI S r6 v2.toNatClampNeg) = (hI S r10 v2.toNatClampNeg) then (K15 S ((v2 + (1 : Int32)))) else (some ((0 : Int32), S)))))
def f_X1_areSame_l15 (N : Nat) (a0 : Nat) (a1 : Nat) : Nat → Hp → Int32 → Option (Int32 × Hp)
  | 0, _, _ => none
  | k + 1, S, v2 => f_X1_areSame_b15 N a0 a1 (f_X1_areSame_l15 N a0 a1 k) S v2
def f_X1_areSame (N : Nat) (S : Hp) (a0 : Nat) (a1 : Nat) : Option (Int32 × Hp) :=
  gd (ok S a0 1) <| gd (ok S a1 1) <| if (hI S a0 1) = (hI S a1 1) then (f_X1_areSame_l15 N a0 a1 N S ((0 : Int32))) else (some ((0 : Int32), S))
theorem hi_X1_areSame_X1 : ∀ w ∈ wsX10, w ∈ wsX1_areSame := fun _ h => List.mem_cons_of_mem _ (List.mem_append_right _ (h))
abbrev rm_X1_areSame : Room := { frames := 0, cells := 0, slots := 0, locals := 0 }
set_option maxHeartbeats 4000000 in
set_option maxRecDepth 100000 in
theorem c_X1_areSame (l : Launch) (D : va_G) (C : C3) (N : Nat) (S0 : Hp) (z : Nat) (a0 : Nat) (a1 : Nat) (r : Int32) (S9 : Hp) (hg : f_X1_areSame N S0 a0 a1 = some (r, S9)) : MetI l yX1_areSame wsX1_areSame rm_X1_areSame D C S0 z [.ref a0, .ref a1] r S9 z 0 0 := by
  refine mw_ofW (cc := cX1_areSame) (maxL := 3) (ret := (some .boolean)) (lv := [(0, .ref a0), (1, .ref a1)]) (by decide) rfl (Nat.le_of_ble_eq_true rfl) rfl ?_
  intro p e s m below meth c ls hx hb hr hts hown hlk hml hnm hl hw
  have hown : s.vm.findClass RX1 = some m.cls := hown
  have B15 : ∀ (K15 : Hp → Int32 → Option (Int32 × Hp)) (hK15 : ∀ (S : Hp) (v2 : Int32) (H : Heap) (locs : List Loc) (ls : Array Slot), K15 S v2 = some (r, S9) → Wd D C (va_A (wP C S0) z) s.heap S z H locs s → lv_has ls 3 [(0, .ref a0), (1, .ref a1), (2, .int v2)] → W p l e rm_X1_areSame s m ([.ref a0, .ref a1] : List Value).toArray below meth c H locs 0 0 (MQ below (QiW D C S0 z r S9 z) ([.ref a0, .ref a1] : List Value).toArray s 0 0 (va_A (wP C S0) z)) (F0 m 15 ls [])) (S : Hp) (v2 : Int32) (H : Heap) (locs : List Loc) (ls : Array Slot), f_X1_areSame_b15 N a0 a1 K15 S v2 = some (r, S9) → Wd D C (va_A (wP C S0) z) s.heap S z H locs s → lv_has ls 3 [(0, .ref a0), (1, .ref a1), (2, .int v2)] → W p l e rm_X1_areSame s m ([.ref a0, .ref a1] : List Value).toArray below meth c H locs 0 0 (MQ below (QiW D C S0 z r S9 z) ([.ref a0, .ref a1] : List Value).toArray s 0 0 (va_A (wP C S0) z)) (F0 m 15 ls []) := by
    intro K15 hK15 S v2 H locs ls hg hw hl
    unfold f_X1_areSame_b15 at hg
    refine lv_iload_n hx hb dX1_areSame_15 rfl (lv_at hl 2 rfl) ?_
    refine lv_aload_n hx hb dX1_areSame_16 rfl (lv_at hl 0 rfl) ?_
    obtain ⟨hok4, hg⟩ := gd_some hg
    refine wr_get (K := RX1) (T := TX1) (N := 6) (index := 15) (ref := "MakerLines$Lines") (v := .int (hI S a0 1)) hx hb hts hi_X1_areSame_X1 hown hw hok4 (wF_1 (S := S) hok4.2) rfl 1 (by decide) (hts _ (List.mem_of_getElem? (i := 1) rfl)) (fun _ h9 => h9) rfl dX1_areSame_17 ?_
    refine lv_icmp_ge (tgt := 64) hx hb dX1_areSame_20 (by decide) (fun c5 => ?_) (fun c5 => ?_)
    · have hg := it_pos hg c5
      refine lv_iconst (v := (1 : Int32)) hx hb dX1_areSame_64 (by decide) ?_
      cases hg
      exact wr_zret hx hb hr (by decide) hw dX1_areSame_65 hlk
    · have hg := it_neg hg c5
      refine lv_iload_n hx hb dX1_areSame_23 rfl (lv_at hl 2 rfl) ?_
      refine lv_aload_n hx hb dX1_areSame_24 rfl (lv_at hl 0 rfl) ?_
      obtain ⟨r6, hr6, hg⟩ := nn_some hg
      refine wr_get (K := RX1) (T := TX1) (N := 6) (index := 9) (ref := "MakerLines$Lines") (v := .ref r6) hx hb hts hi_X1_areSame_X1 hown hw hok4 (wF_1 (S := S) hok4.2) rfl 0 (by decide) (hts _ (List.mem_of_getElem? (i := 2) rfl)) (fun _ h9 => h9) (congrArg (fun o => some (va_rf o)) hr6) dX1_areSame_25 ?_
      obtain ⟨hok7, hg⟩ := gd_some hg
      refine wr_alen8 hx hb hw hok7 dX1_areSame_28 ?_
      refine lv_icmp_ge (tgt := 64) hx hb dX1_areSame_29 (by decide) (fun c8 => ?_) (fun c8 => ?_)
      · have hg := it_pos hg c8
        refine lv_iconst (v := (1 : Int32)) hx hb dX1_areSame_64 (by decide) ?_
        cases hg
        exact wr_zret hx hb hr (by decide) hw dX1_areSame_65 hlk
      · have hg := it_neg hg c8
        refine lv_iload_n hx hb dX1_areSame_32 rfl (lv_at hl 2 rfl) ?_
        refine lv_aload_n hx hb dX1_areSame_33 rfl (lv_at hl 1 rfl) ?_
        obtain ⟨hok9, hg⟩ := gd_some hg
        obtain ⟨r10, hr10, hg⟩ := nn_some hg
        refine wr_get (K := RX1) (T := TX1) (N := 6) (index := 9) (ref := "MakerLines$Lines") (v := .ref r10) hx hb hts hi_X1_areSame_X1 hown hw hok9 (wF_1 (S := S) hok9.2) rfl 0 (by decide) (hts _ (List.mem_of_getElem? (i := 2) rfl)) (fun _ h9 => h9) (congrArg (fun o => some (va_rf o)) hr10) dX1_areSame_34 ?_
        obtain ⟨hok11, hg⟩ := gd_some hg
        refine wr_alen8 hx hb hw hok11 dX1_areSame_37 ?_
        refine lv_icmp_ge (tgt := 64) hx hb dX1_areSame_38 (by decide) (fun c12 => ?_) (fun c12 => ?_)
        · have hg := it_pos hg c12
          refine lv_iconst (v := (1 : Int32)) hx hb dX1_areSame_64 (by decide) ?_
          cases hg
          exact wr_zret hx hb hr (by decide) hw dX1_areSame_65 hlk
        · have hg := it_neg hg c12
          refine lv_aload_n hx hb dX1_areSame_41 rfl (lv_at hl 0 rfl) ?_
          refine wr_get (K := RX1) (T := TX1) (N := 6) (index := 9) (ref := "MakerLines$Lines") (v := .ref r6) hx hb hts hi_X1_areSame_X1 hown hw hok4 (wF_1 (S := S) hok4.2) rfl 0 (by decide) (hts _ (List.mem_of_getElem? (i := 2) rfl)) (fun _ h9 => h9) (congrArg (fun o => some (va_rf o)) hr6) dX1_areSame_42 ?_
          refine lv_iload_n hx hb dX1_areSame_45 rfl (lv_at hl 2 rfl) ?_
          obtain ⟨hin13, hg⟩ := gd_some hg
          refine wr_iald hx hb hw hok7 (inb_vp hin13) dX1_areSame_46 ?_
          refine lv_aload_n hx hb dX1_areSame_47 rfl (lv_at hl 1 rfl) ?_
          refine wr_get (K := RX1) (T := TX1) (N := 6) (index := 9) (ref := "MakerLines$Lines") (v := .ref r10) hx hb hts hi_X1_areSame_X1 hown hw hok9 (wF_1 (S := S) hok9.2) rfl 0 (by decide) (hts _ (List.mem_of_getElem? (i := 2) rfl)) (fun _ h9 => h9) (congrArg (fun o => some (va_rf o)) hr10) dX1_areSame_48 ?_
          refine lv_iload_n hx hb dX1_areSame_51 rfl (lv_at hl 2 rfl) ?_
          obtain ⟨hin14, hg⟩ := gd_some hg
          refine wr_iald hx hb hw hok11 (inb_vp hin14) dX1_areSame_52 ?_
          refine lv_icmp_eq (tgt := 58) hx hb dX1_areSame_53 (by decide) (fun c15 => ?_) (fun c15 => ?_)
          · have hg := it_pos hg c15
            refine lv_iinc (v := (v2 + (1 : Int32))) (lv' := [(2, .int (v2 + (1 : Int32))), (0, .ref a0), (1, .ref a1)]) hx hb dX1_areSame_58 hl (k := 2) rfl rfl (by decide) rfl (fun ls hl => ?_)
            refine lv_goto (tgt := 15) hx hb dX1_areSame_61 (by decide) ?_
            exact hK15 _ _ _ _ _ hg hw (lv_sub hl [1, 2, 0] rfl)
          · have hg := it_neg hg c15
            refine lv_iconst (v := (0 : Int32)) hx hb dX1_areSame_56 (by decide) ?_
            cases hg
            exact wr_zret hx hb hr (by decide) hw dX1_areSame_57 hlk
  have L15 : ∀ (k : Nat) (S : Hp) (v2 : Int32) (H : Heap) (locs : List Loc) (ls : Array Slot), f_X1_areSame_l15 N a0 a1 k S v2 = some (r, S9) → Wd D C (va_A (wP C S0) z) s.heap S z H locs s → lv_has ls 3 [(0, .ref a0), (1, .ref a1), (2, .int v2)] → W p l e rm_X1_areSame s m ([.ref a0, .ref a1] : List Value).toArray below meth c H locs 0 0 (MQ below (QiW D C S0 z r S9 z) ([.ref a0, .ref a1] : List Value).toArray s 0 0 (va_A (wP C S0) z)) (F0 m 15 ls []) := by
    intro k
    induction k with
    | zero => intro S v2 H locs ls hg hw hl; exact absurd (show (none : Option (Int32 × Hp)) = some (r, S9) from hg) (by simp)
    | succ k ih => intro S v2 H locs ls hg hw hl; exact B15 (f_X1_areSame_l15 N a0 a1 k) ih S v2 H locs ls hg hw hl
  unfold f_X1_areSame at hg
  refine lv_aload_n hx hb dX1_areSame_0 rfl (lv_at hl 0 rfl) ?_
  obtain ⟨hok1, hg⟩ := gd_some hg
  refine wr_get (K := RX1) (T := TX1) (N := 6) (index := 15) (ref := "MakerLines$Lines") (v := .int (hI S a0 1)) hx hb hts hi_X1_areSame_X1 hown hw hok1 (wF_1 (S := S) hok1.2) rfl 1 (by decide) (hts _ (List.mem_of_getElem? (i := 1) rfl)) (fun _ h9 => h9) rfl dX1_areSame_1 ?_
  refine lv_aload_n hx hb dX1_areSame_4 rfl (lv_at hl 1 rfl) ?_
  obtain ⟨hok2, hg⟩ := gd_some hg
  refine wr_get (K := RX1) (T := TX1) (N := 6) (index := 15) (ref := "MakerLines$Lines") (v := .int (hI S a1 1)) hx hb hts hi_X1_areSame_X1 hown hw hok2 (wF_1 (S := S) hok2.2) rfl 1 (by decide) (hts _ (List.mem_of_getElem? (i := 1) rfl)) (fun _ h9 => h9) rfl dX1_areSame_5 ?_
  refine lv_icmp_eq (tgt := 13) hx hb dX1_areSame_8 (by decide) (fun c3 => ?_) (fun c3 => ?_)
  · have hg := it_pos hg c3
    refine lv_iconst (v := (0 : Int32)) hx hb dX1_areSame_13 (by decide) ?_
    refine lv_istore_n (lv' := [(2, .int (0 : Int32)), (0, .ref a0), (1, .ref a1)]) hx hb dX1_areSame_14 rfl hl (by decide) rfl (fun ls hl => ?_)
    exact L15 N _ _ _ _ _ hg hw (lv_sub hl [1, 2, 0] rfl)
  · have hg := it_neg hg c3
    refine lv_iconst (v := (0 : Int32)) hx hb dX1_areSame_11 (by decide) ?_
    cases hg
    exact wr_zret hx hb hr (by decide) hw dX1_areSame_12 hlk
def f_X1_survey_b167 (N : Nat) (a0 : Nat) (x1 : Int32) (x2 : Int32) (S : Hp) (s0 : Int32) (s1 : Nat) : Option (Unit × Hp) :=
  gd (ok S s1 1) <| some ((), (sI S s1 2 s0))
def f_X1_survey_b151 (N : Nat) (a0 : Nat) (x1 : Int32) (x2 : Int32) (S : Hp) (v3 : Int32) (s0 : Int32) (s1 : Nat) : Option (Unit × Hp) :=
  gd (ok S s1 1) <| if v3 = 0 then (gd (ok ((sI S s1 2 s0)) a0 1) <| f_X1_survey_b167 N a0 x1 x2 ((sI S s1 2 s0)) ((hI ((sI S s1 2 s0)) a0 2)) a0) else (f_X1_survey_b167 N a0 x1 x2 ((sI S s1 2 s0)) ((1 : Int32)) a0)
def f_X1_survey_b138 (N : Nat) (a0 : Nat) (x1 : Int32) (x2 : Int32) (S : Hp) (v3 : Int32) : Option (Unit × Hp) :=
  gd (ok S a0 1) <| if ¬ (hI S a0 3) = 0 then (f_X1_survey_b151 N a0 x1 x2 S v3 ((0 : Int32)) a0) else (f_X1_survey_b151 N a0 x1 x2 S v3 ((2 : Int32)) a0)
def f_X1_survey_b128 (N : Nat) (a0 : Nat) (x1 : Int32) (x2 : Int32) (K20 : Hp → Int32 → Int32 → Option (Unit × Hp)) (S : Hp) (v3 : Int32) (v4 : Int32) (s0 : Int32) (s1 : Int32) (s2 : Nat) : Option (Unit × Hp) :=
  gd (ok S s2 1) <| K20 ((sI S s2 5 (s1 ||| s0))) v3 ((v4 + (1 : Int32)))
def f_X1_survey_b110 (N : Nat) (a0 : Nat) (x1 : Int32) (x2 : Int32) (K20 : Hp → Int32 → Int32 → Option (Unit × Hp)) (S : Hp) (v4 : Int32) (v5 : Int32) (v6 : Int32) (s0 : Int32) : Option (Unit × Hp) :=
  gd (ok S a0 1) <| if ¬ v6 = (1 : Int32) then (f_X1_survey_b128 N a0 x1 x2 K20 S s0 v4 ((0 : Int32)) ((hI S a0 5)) a0) else (f_X1_survey_b128 N a0 x1 x2 K20 S s0 v4 v5 ((hI S a0 5)) a0)
def f_X1_survey_b105 (N : Nat) (a0 : Nat) (x1 : Int32) (x2 : Int32) (K20 : Hp → Int32 → Int32 → Option (Unit × Hp)) (S : Hp) (v4 : Int32) (v5 : Int32) (v6 : Int32) : Option (Unit × Hp) :=
  f_X1_survey_b110 N a0 x1 x2 K20 S v4 v5 v6 ((1 : Int32))
def f_X1_survey_b20 (N : Nat) (a0 : Nat) (x1 : Int32) (x2 : Int32) (K20 : Hp → Int32 → Int32 → Option (Unit × Hp)) (S : Hp) (v3 : Int32) (v4 : Int32) : Option (Unit × Hp) :=
  gd (ok S a0 1) <| if (hI S a0 1) ≤ v4 then (f_X1_survey_b138 N a0 x1 x2 S v3) else (nn (hR S a0 0) fun r4 => gd (ok S r4 8) <| if (nI (hN S r4)) ≤ v4 then (f_X1_survey_b138 N a0 x1 x2 S v3) else (gd (inb v4 (hN S r4)) <| if ¬ ((hI S r4 v4.toNatClampNeg) &&& x2) = 0 then (K20 S v3 ((v4 + (1 : Int32)))) else (if ¬ v3 = 0 then (f_X1_survey_b105 N a0 x1 x2 K20 ((sI (sI S a0 3 ((hI S a0 3) + (1 : Int32))) a0 4 ((hI ((sI S a0 3 ((hI S a0 3) + (1 : Int32)))) a0 4) + ((1024 : Int32) >>> ((bitc (((hI S r4 v4.toNatClampNeg) &&& (x1 ^^^ (-1 : Int32))))) &&& 31))))) v4 (((hI S r4 v4.toNatClampNeg) &&& (x1 ^^^ (-1 : Int32)))) ((bitc (((hI S r4 v4.toNatClampNeg) &&& (x1 ^^^ (-1 : Int32))))))) else (if ¬ (bitc (((hI S r4 v4.toNatClampNeg) &&& (x1 ^^^ (-1 : Int32))))) = 0 then (f_X1_survey_b110 N a0 x1 x2 K20 ((sI (sI S a0 3 ((hI S a0 3) + (1 : Int32))) a0 4 ((hI ((sI S a0 3 ((hI S a0 3) + (1 : Int32)))) a0 4) + ((1024 : Int32) >>> ((bitc (((hI S r4 v4.toNatClampNeg) &&& (x1 ^^^ (-1 : Int32))))) &&& 31))))) v4 (((hI S r4 v4.toNatClampNeg) &&& (x1 ^^^ (-1 : Int32)))) ((bitc (((hI S r4 v4.toNatClampNeg) &&& (x1 ^^^ (-1 : Int32)))))) ((0 : Int32))) else (f_X1_survey_b105 N a0 x1 x2 K20 ((sI (sI S a0 3 ((hI S a0 3) + (1 : Int32))) a0 4 ((hI ((sI S a0 3 ((hI S a0 3) + (1 : Int32)))) a0 4) + ((1024 : Int32) >>> ((bitc (((hI S r4 v4.toNatClampNeg) &&& (x1 ^^^ (-1 : Int32))))) &&& 31))))) v4 (((hI S r4 v4.toNatClampNeg) &&& (x1 ^^^ (-1 : Int32)))) ((bitc (((hI S r4 v4.toNatClampNeg) &&& (x1 ^^^ (-1 : Int32)))))))))))
def f_X1_survey_l20 (N : Nat) (a0 : Nat) (x1 : Int32) (x2 : Int32) : Nat → Hp → Int32 → Int32 → Option (Unit × Hp)
  | 0, _, _, _ => none
  | k + 1, S, v3, v4 => f_X1_survey_b20 N a0 x1 x2 (f_X1_survey_l20 N a0 x1 x2 k) S v3 v4
def f_X1_survey (N : Nat) (S : Hp) (a0 : Nat) (x1 : Int32) (x2 : Int32) : Option (Unit × Hp) :=
  gd (ok S a0 1) <| f_X1_survey_l20 N a0 x1 x2 N ((sI (sI (sI S a0 3 (0 : Int32)) a0 4 (0 : Int32)) a0 5 (0 : Int32))) ((0 : Int32)) ((0 : Int32))
theorem hi_X1_survey_X1 : ∀ w ∈ wsX10, w ∈ wsX1_survey := fun _ h => List.mem_cons_of_mem _ (List.mem_append_right _ (h))
abbrev rm_X1_survey : Room := { frames := 1, cells := 0, slots := 0, locals := 20 }
set_option maxHeartbeats 4000000 in
set_option maxRecDepth 100000 in
theorem c_X1_survey (l : Launch) (D : va_G) (C : C3) (N : Nat) (S0 : Hp) (z : Nat) (a0 : Nat) (x1 : Int32) (x2 : Int32) (r : Unit) (S9 : Hp) (hg : f_X1_survey N S0 a0 x1 x2 = some (r, S9)) : MetV l yX1_survey wsX1_survey rm_X1_survey D C S0 z [.ref a0, .int x1, .int x2] r S9 z 0 0 := by
  refine mw_ofW (cc := cX1_survey) (maxL := 7) (ret := none) (lv := [(0, .ref a0), (1, .int x1), (2, .int x2)]) (by decide) rfl (Nat.le_of_ble_eq_true rfl) rfl ?_
  intro p e s m below meth c ls hx hb hr hts hown hlk hml hnm hl hw
  have hown : s.vm.findClass RX1 = some m.cls := hown
  have B167 : ∀ (S : Hp) (s0 : Int32) (s1 : Nat) (H : Heap) (locs : List Loc) (ls : Array Slot), f_X1_survey_b167 N a0 x1 x2 S s0 s1 = some (r, S9) → Wd D C (va_A (wP C S0) z) s.heap S z H locs s → lv_has ls 7 [] → W p l e rm_X1_survey s m ([.ref a0, .int x1, .int x2] : List Value).toArray below meth c H locs 0 0 (MQ below (QvW D C S0 z r S9 z) ([.ref a0, .int x1, .int x2] : List Value).toArray s 0 0 (va_A (wP C S0) z)) (F0 m 167 ls [.int s0, .ref s1]) := by
    intro S s0 s1 H locs ls hg hw hl
    unfold f_X1_survey_b167 at hg
    obtain ⟨hok19, hg⟩ := gd_some hg
    refine wr_put (K := RX1) (T := TX1) (N := 6) (index := 19) (ref := "MakerLines$Lines") (ty := .int) (S1 := (sI S s1 2 s0)) hx hb hts hi_X1_survey_X1 tyX1 tyX1_ok nmX1 hown hw hok19 (wF_1 (S := S) hok19.2) rfl (fun b hb9 => wF_sI_ne hb9) 2 (wq_1_2 (S := S) hok19.2 _) rfl (by decide) (hts _ (List.mem_of_getElem? (i := 6) rfl)) (fun _ h9 => h9) rfl (by decide +kernel) rfl rfl (by decide) dX1_survey_167 (fun H locs hw => ?_)
    cases hg
    exact wr_vret hx hb hr hw dX1_survey_170 hlk
  have B151 : ∀ (S : Hp) (v3 : Int32) (s0 : Int32) (s1 : Nat) (H : Heap) (locs : List Loc) (ls : Array Slot), f_X1_survey_b151 N a0 x1 x2 S v3 s0 s1 = some (r, S9) → Wd D C (va_A (wP C S0) z) s.heap S z H locs s → lv_has ls 7 [(0, .ref a0), (3, .int v3)] → W p l e rm_X1_survey s m ([.ref a0, .int x1, .int x2] : List Value).toArray below meth c H locs 0 0 (MQ below (QvW D C S0 z r S9 z) ([.ref a0, .int x1, .int x2] : List Value).toArray s 0 0 (va_A (wP C S0) z)) (F0 m 151 ls [.int s0, .ref s1]) := by
    intro S v3 s0 s1 H locs ls hg hw hl
    unfold f_X1_survey_b151 at hg
    obtain ⟨hok15, hg⟩ := gd_some hg
    refine wr_put (K := RX1) (T := TX1) (N := 6) (index := 19) (ref := "MakerLines$Lines") (ty := .int) (S1 := (sI S s1 2 s0)) hx hb hts hi_X1_survey_X1 tyX1 tyX1_ok nmX1 hown hw hok15 (wF_1 (S := S) hok15.2) rfl (fun b hb9 => wF_sI_ne hb9) 2 (wq_1_2 (S := S) hok15.2 _) rfl (by decide) (hts _ (List.mem_of_getElem? (i := 6) rfl)) (fun _ h9 => h9) rfl (by decide +kernel) rfl rfl (by decide) dX1_survey_151 (fun H locs hw => ?_)
    refine lv_aload_n hx hb dX1_survey_154 rfl (lv_at hl 0 rfl) ?_
    refine lv_iload_n hx hb dX1_survey_155 rfl (lv_at hl 1 rfl) ?_
    refine lv_if_eq (tgt := 163) hx hb dX1_survey_156 (by decide) (fun c16 => ?_) (fun c16 => ?_)
    · have hg := it_pos hg c16
      refine lv_aload_n hx hb dX1_survey_163 rfl (lv_at hl 0 rfl) ?_
      obtain ⟨hok17, hg⟩ := gd_some hg
      refine wr_get (K := RX1) (T := TX1) (N := 6) (index := 19) (ref := "MakerLines$Lines") (v := .int (hI ((sI S s1 2 s0)) a0 2)) hx hb hts hi_X1_survey_X1 hown hw hok17 (wF_1 (S := (sI S s1 2 s0)) hok17.2) rfl 2 (by decide) (hts _ (List.mem_of_getElem? (i := 6) rfl)) (fun _ h9 => h9) rfl dX1_survey_164 ?_
      exact B167 _ _ _ _ _ _ hg hw (lv_sub hl [] rfl)
    · have hg := it_neg hg c16
      refine lv_iconst (v := (1 : Int32)) hx hb dX1_survey_159 (by decide) ?_
      refine lv_goto (tgt := 167) hx hb dX1_survey_160 (by decide) ?_
      exact B167 _ _ _ _ _ _ hg hw (lv_sub hl [] rfl)
  have B138 : ∀ (S : Hp) (v3 : Int32) (H : Heap) (locs : List Loc) (ls : Array Slot), f_X1_survey_b138 N a0 x1 x2 S v3 = some (r, S9) → Wd D C (va_A (wP C S0) z) s.heap S z H locs s → lv_has ls 7 [(0, .ref a0), (3, .int v3)] → W p l e rm_X1_survey s m ([.ref a0, .int x1, .int x2] : List Value).toArray below meth c H locs 0 0 (MQ below (QvW D C S0 z r S9 z) ([.ref a0, .int x1, .int x2] : List Value).toArray s 0 0 (va_A (wP C S0) z)) (F0 m 138 ls []) := by
    intro S v3 H locs ls hg hw hl
    unfold f_X1_survey_b138 at hg
    refine lv_aload_n hx hb dX1_survey_138 rfl (lv_at hl 0 rfl) ?_
    refine lv_aload_n hx hb dX1_survey_139 rfl (lv_at hl 0 rfl) ?_
    obtain ⟨hok11, hg⟩ := gd_some hg
    refine wr_get (K := RX1) (T := TX1) (N := 6) (index := 22) (ref := "MakerLines$Lines") (v := .int (hI S a0 3)) hx hb hts hi_X1_survey_X1 hown hw hok11 (wF_1 (S := S) hok11.2) rfl 3 (by decide) (hts _ (List.mem_of_getElem? (i := 1) rfl)) (fun _ h9 => h9) rfl dX1_survey_140 ?_
    refine lv_if_ne (tgt := 150) hx hb dX1_survey_143 (by decide) (fun c12 => ?_) (fun c12 => ?_)
    · have hg := it_pos hg c12
      refine lv_iconst (v := (0 : Int32)) hx hb dX1_survey_150 (by decide) ?_
      exact B151 _ _ _ _ _ _ _ hg hw (lv_sub hl [0, 1] rfl)
    · have hg := it_neg hg c12
      refine lv_iconst (v := (2 : Int32)) hx hb dX1_survey_146 (by decide) ?_
      refine lv_goto (tgt := 151) hx hb dX1_survey_147 (by decide) ?_
      exact B151 _ _ _ _ _ _ _ hg hw (lv_sub hl [0, 1] rfl)
  have B128 : ∀ (K20 : Hp → Int32 → Int32 → Option (Unit × Hp)) (hK20 : ∀ (S : Hp) (v3 : Int32) (v4 : Int32) (H : Heap) (locs : List Loc) (ls : Array Slot), K20 S v3 v4 = some (r, S9) → Wd D C (va_A (wP C S0) z) s.heap S z H locs s → lv_has ls 7 [(0, .ref a0), (1, .int x1), (2, .int x2), (3, .int v3), (4, .int v4)] → W p l e rm_X1_survey s m ([.ref a0, .int x1, .int x2] : List Value).toArray below meth c H locs 0 0 (MQ below (QvW D C S0 z r S9 z) ([.ref a0, .int x1, .int x2] : List Value).toArray s 0 0 (va_A (wP C S0) z)) (F0 m 20 ls [])) (S : Hp) (v3 : Int32) (v4 : Int32) (s0 : Int32) (s1 : Int32) (s2 : Nat) (H : Heap) (locs : List Loc) (ls : Array Slot), f_X1_survey_b128 N a0 x1 x2 K20 S v3 v4 s0 s1 s2 = some (r, S9) → Wd D C (va_A (wP C S0) z) s.heap S z H locs s → lv_has ls 7 [(0, .ref a0), (1, .int x1), (2, .int x2), (3, .int v3), (4, .int v4)] → W p l e rm_X1_survey s m ([.ref a0, .int x1, .int x2] : List Value).toArray below meth c H locs 0 0 (MQ below (QvW D C S0 z r S9 z) ([.ref a0, .int x1, .int x2] : List Value).toArray s 0 0 (va_A (wP C S0) z)) (F0 m 128 ls [.int s0, .int s1, .ref s2]) := by
    intro K20 hK20 S v3 v4 s0 s1 s2 H locs ls hg hw hl
    unfold f_X1_survey_b128 at hg
    refine lv_ior hx hb dX1_survey_128 ?_
    obtain ⟨hok18, hg⟩ := gd_some hg
    refine wr_put (K := RX1) (T := TX1) (N := 6) (index := 28) (ref := "MakerLines$Lines") (ty := .int) (S1 := (sI S s2 5 (s1 ||| s0))) hx hb hts hi_X1_survey_X1 tyX1 tyX1_ok nmX1 hown hw hok18 (wF_1 (S := S) hok18.2) rfl (fun b hb9 => wF_sI_ne hb9) 5 (wq_1_5 (S := S) hok18.2 _) rfl (by decide) (hts _ (List.mem_of_getElem? (i := 3) rfl)) (fun _ h9 => h9) rfl (by decide +kernel) rfl rfl (by decide) dX1_survey_129 (fun H locs hw => ?_)
    refine lv_iinc (v := (v4 + (1 : Int32))) (lv' := [(4, .int (v4 + (1 : Int32))), (0, .ref a0), (1, .int x1), (2, .int x2), (3, .int v3)]) hx hb dX1_survey_132 hl (k := 4) rfl rfl (by decide) rfl (fun ls hl => ?_)
    refine lv_goto (tgt := 20) hx hb dX1_survey_135 (by decide) ?_
    exact hK20 _ _ _ _ _ _ hg hw (lv_sub hl [1, 2, 3, 4, 0] rfl)
  have B110 : ∀ (K20 : Hp → Int32 → Int32 → Option (Unit × Hp)) (hK20 : ∀ (S : Hp) (v3 : Int32) (v4 : Int32) (H : Heap) (locs : List Loc) (ls : Array Slot), K20 S v3 v4 = some (r, S9) → Wd D C (va_A (wP C S0) z) s.heap S z H locs s → lv_has ls 7 [(0, .ref a0), (1, .int x1), (2, .int x2), (3, .int v3), (4, .int v4)] → W p l e rm_X1_survey s m ([.ref a0, .int x1, .int x2] : List Value).toArray below meth c H locs 0 0 (MQ below (QvW D C S0 z r S9 z) ([.ref a0, .int x1, .int x2] : List Value).toArray s 0 0 (va_A (wP C S0) z)) (F0 m 20 ls [])) (S : Hp) (v4 : Int32) (v5 : Int32) (v6 : Int32) (s0 : Int32) (H : Heap) (locs : List Loc) (ls : Array Slot), f_X1_survey_b110 N a0 x1 x2 K20 S v4 v5 v6 s0 = some (r, S9) → Wd D C (va_A (wP C S0) z) s.heap S z H locs s → lv_has ls 7 [(0, .ref a0), (1, .int x1), (2, .int x2), (4, .int v4), (5, .int v5), (6, .int v6)] → W p l e rm_X1_survey s m ([.ref a0, .int x1, .int x2] : List Value).toArray below meth c H locs 0 0 (MQ below (QvW D C S0 z r S9 z) ([.ref a0, .int x1, .int x2] : List Value).toArray s 0 0 (va_A (wP C S0) z)) (F0 m 110 ls [.int s0]) := by
    intro K20 hK20 S v4 v5 v6 s0 H locs ls hg hw hl
    unfold f_X1_survey_b110 at hg
    refine lv_istore_n (lv' := [(3, .int s0), (0, .ref a0), (1, .int x1), (2, .int x2), (4, .int v4), (5, .int v5), (6, .int v6)]) hx hb dX1_survey_110 rfl hl (by decide) rfl (fun ls hl => ?_)
    refine lv_aload_n hx hb dX1_survey_111 rfl (lv_at hl 1 rfl) ?_
    refine lv_dup hx hb dX1_survey_112 rfl ?_
    obtain ⟨hok13, hg⟩ := gd_some hg
    refine wr_get (K := RX1) (T := TX1) (N := 6) (index := 28) (ref := "MakerLines$Lines") (v := .int (hI S a0 5)) hx hb hts hi_X1_survey_X1 hown hw hok13 (wF_1 (S := S) hok13.2) rfl 5 (by decide) (hts _ (List.mem_of_getElem? (i := 3) rfl)) (fun _ h9 => h9) rfl dX1_survey_113 ?_
    refine lv_iload hx hb dX1_survey_116 (lv_at hl 6 rfl) ?_
    refine lv_iconst (v := (1 : Int32)) hx hb dX1_survey_118 (by decide) ?_
    refine lv_icmp_ne (tgt := 127) hx hb dX1_survey_119 (by decide) (fun c14 => ?_) (fun c14 => ?_)
    · have hg := it_pos hg c14
      refine lv_iconst (v := (0 : Int32)) hx hb dX1_survey_127 (by decide) ?_
      exact B128 K20 hK20 _ _ _ _ _ _ _ _ _ hg hw (lv_sub hl [1, 2, 3, 0, 4] rfl)
    · have hg := it_neg hg c14
      refine lv_iload hx hb dX1_survey_122 (lv_at hl 5 rfl) ?_
      refine lv_goto (tgt := 128) hx hb dX1_survey_124 (by decide) ?_
      exact B128 K20 hK20 _ _ _ _ _ _ _ _ _ hg hw (lv_sub hl [1, 2, 3, 0, 4] rfl)
  have B105 : ∀ (K20 : Hp → Int32 → Int32 → Option (Unit × Hp)) (hK20 : ∀ (S : Hp) (v3 : Int32) (v4 : Int32) (H : Heap) (locs : List Loc) (ls : Array Slot), K20 S v3 v4 = some (r, S9) → Wd D C (va_A (wP C S0) z) s.heap S z H locs s → lv_has ls 7 [(0, .ref a0), (1, .int x1), (2, .int x2), (3, .int v3), (4, .int v4)] → W p l e rm_X1_survey s m ([.ref a0, .int x1, .int x2] : List Value).toArray below meth c H locs 0 0 (MQ below (QvW D C S0 z r S9 z) ([.ref a0, .int x1, .int x2] : List Value).toArray s 0 0 (va_A (wP C S0) z)) (F0 m 20 ls [])) (S : Hp) (v4 : Int32) (v5 : Int32) (v6 : Int32) (H : Heap) (locs : List Loc) (ls : Array Slot), f_X1_survey_b105 N a0 x1 x2 K20 S v4 v5 v6 = some (r, S9) → Wd D C (va_A (wP C S0) z) s.heap S z H locs s → lv_has ls 7 [(0, .ref a0), (1, .int x1), (2, .int x2), (4, .int v4), (5, .int v5), (6, .int v6)] → W p l e rm_X1_survey s m ([.ref a0, .int x1, .int x2] : List Value).toArray below meth c H locs 0 0 (MQ below (QvW D C S0 z r S9 z) ([.ref a0, .int x1, .int x2] : List Value).toArray s 0 0 (va_A (wP C S0) z)) (F0 m 105 ls []) := by
    intro K20 hK20 S v4 v5 v6 H locs ls hg hw hl
    unfold f_X1_survey_b105 at hg
    refine lv_iconst (v := (1 : Int32)) hx hb dX1_survey_105 (by decide) ?_
    refine lv_goto (tgt := 110) hx hb dX1_survey_106 (by decide) ?_
    exact B110 K20 hK20 _ _ _ _ _ _ _ _ hg hw (lv_sub hl [0, 1, 2, 3, 4, 5] rfl)
  have B20 : ∀ (K20 : Hp → Int32 → Int32 → Option (Unit × Hp)) (hK20 : ∀ (S : Hp) (v3 : Int32) (v4 : Int32) (H : Heap) (locs : List Loc) (ls : Array Slot), K20 S v3 v4 = some (r, S9) → Wd D C (va_A (wP C S0) z) s.heap S z H locs s → lv_has ls 7 [(0, .ref a0), (1, .int x1), (2, .int x2), (3, .int v3), (4, .int v4)] → W p l e rm_X1_survey s m ([.ref a0, .int x1, .int x2] : List Value).toArray below meth c H locs 0 0 (MQ below (QvW D C S0 z r S9 z) ([.ref a0, .int x1, .int x2] : List Value).toArray s 0 0 (va_A (wP C S0) z)) (F0 m 20 ls [])) (S : Hp) (v3 : Int32) (v4 : Int32) (H : Heap) (locs : List Loc) (ls : Array Slot), f_X1_survey_b20 N a0 x1 x2 K20 S v3 v4 = some (r, S9) → Wd D C (va_A (wP C S0) z) s.heap S z H locs s → lv_has ls 7 [(0, .ref a0), (1, .int x1), (2, .int x2), (3, .int v3), (4, .int v4)] → W p l e rm_X1_survey s m ([.ref a0, .int x1, .int x2] : List Value).toArray below meth c H locs 0 0 (MQ below (QvW D C S0 z r S9 z) ([.ref a0, .int x1, .int x2] : List Value).toArray s 0 0 (va_A (wP C S0) z)) (F0 m 20 ls []) := by
    intro K20 hK20 S v3 v4 H locs ls hg hw hl
    unfold f_X1_survey_b20 at hg
    refine lv_iload hx hb dX1_survey_20 (lv_at hl 4 rfl) ?_
    refine lv_aload_n hx hb dX1_survey_22 rfl (lv_at hl 0 rfl) ?_
    obtain ⟨hok2, hg⟩ := gd_some hg
    refine wr_get (K := RX1) (T := TX1) (N := 6) (index := 15) (ref := "MakerLines$Lines") (v := .int (hI S a0 1)) hx hb hts hi_X1_survey_X1 hown hw hok2 (wF_1 (S := S) hok2.2) rfl 1 (by decide) (hts _ (List.mem_of_getElem? (i := 4) rfl)) (fun _ h9 => h9) rfl dX1_survey_23 ?_
    refine lv_icmp_ge (tgt := 138) hx hb dX1_survey_26 (by decide) (fun c3 => ?_) (fun c3 => ?_)
    · have hg := it_pos hg c3
      exact B138 _ _ _ _ _ hg hw (lv_sub hl [0, 3] rfl)
    · have hg := it_neg hg c3
      refine lv_iload hx hb dX1_survey_29 (lv_at hl 4 rfl) ?_
      refine lv_aload_n hx hb dX1_survey_31 rfl (lv_at hl 0 rfl) ?_
      obtain ⟨r4, hr4, hg⟩ := nn_some hg
      refine wr_get (K := RX1) (T := TX1) (N := 6) (index := 9) (ref := "MakerLines$Lines") (v := .ref r4) hx hb hts hi_X1_survey_X1 hown hw hok2 (wF_1 (S := S) hok2.2) rfl 0 (by decide) (hts _ (List.mem_of_getElem? (i := 5) rfl)) (fun _ h9 => h9) (congrArg (fun o => some (va_rf o)) hr4) dX1_survey_32 ?_
      obtain ⟨hok5, hg⟩ := gd_some hg
      refine wr_alen8 hx hb hw hok5 dX1_survey_35 ?_
      refine lv_icmp_ge (tgt := 138) hx hb dX1_survey_36 (by decide) (fun c6 => ?_) (fun c6 => ?_)
      · have hg := it_pos hg c6
        exact B138 _ _ _ _ _ hg hw (lv_sub hl [0, 3] rfl)
      · have hg := it_neg hg c6
        refine lv_aload_n hx hb dX1_survey_39 rfl (lv_at hl 0 rfl) ?_
        refine wr_get (K := RX1) (T := TX1) (N := 6) (index := 9) (ref := "MakerLines$Lines") (v := .ref r4) hx hb hts hi_X1_survey_X1 hown hw hok2 (wF_1 (S := S) hok2.2) rfl 0 (by decide) (hts _ (List.mem_of_getElem? (i := 5) rfl)) (fun _ h9 => h9) (congrArg (fun o => some (va_rf o)) hr4) dX1_survey_40 ?_
        refine lv_iload hx hb dX1_survey_43 (lv_at hl 4 rfl) ?_
        obtain ⟨hin7, hg⟩ := gd_some hg
        refine wr_iald hx hb hw hok5 (inb_vp hin7) dX1_survey_45 ?_
        refine lv_iload_n hx hb dX1_survey_46 rfl (lv_at hl 2 rfl) ?_
        refine lv_iand hx hb dX1_survey_47 ?_
        refine lv_if_ne (tgt := 132) hx hb dX1_survey_48 (by decide) (fun c8 => ?_) (fun c8 => ?_)
        · have hg := it_pos hg c8
          refine lv_iinc (v := (v4 + (1 : Int32))) (lv' := [(4, .int (v4 + (1 : Int32))), (0, .ref a0), (1, .int x1), (2, .int x2), (3, .int v3)]) hx hb dX1_survey_132 hl (k := 4) rfl rfl (by decide) rfl (fun ls hl => ?_)
          refine lv_goto (tgt := 20) hx hb dX1_survey_135 (by decide) ?_
          exact hK20 _ _ _ _ _ _ hg hw (lv_sub hl [1, 2, 3, 4, 0] rfl)
        · have hg := it_neg hg c8
          refine lv_aload_n hx hb dX1_survey_51 rfl (lv_at hl 0 rfl) ?_
          refine wr_get (K := RX1) (T := TX1) (N := 6) (index := 9) (ref := "MakerLines$Lines") (v := .ref r4) hx hb hts hi_X1_survey_X1 hown hw hok2 (wF_1 (S := S) hok2.2) rfl 0 (by decide) (hts _ (List.mem_of_getElem? (i := 5) rfl)) (fun _ h9 => h9) (congrArg (fun o => some (va_rf o)) hr4) dX1_survey_52 ?_
          refine lv_iload hx hb dX1_survey_55 (lv_at hl 4 rfl) ?_
          refine wr_iald hx hb hw hok5 (inb_vp hin7) dX1_survey_57 ?_
          refine lv_iload_n hx hb dX1_survey_58 rfl (lv_at hl 1 rfl) ?_
          refine lv_iconst (v := (-1 : Int32)) hx hb dX1_survey_59 (by decide) ?_
          refine lv_ixor hx hb dX1_survey_60 ?_
          refine lv_iand hx hb dX1_survey_61 ?_
          refine lv_istore (lv' := [(5, .int ((hI S r4 v4.toNatClampNeg) &&& (x1 ^^^ (-1 : Int32)))), (0, .ref a0), (1, .int x1), (2, .int x2), (3, .int v3), (4, .int v4)]) hx hb dX1_survey_62 hl (by decide) rfl (fun ls hl => ?_)
          refine lv_iload hx hb dX1_survey_64 (lv_at hl 0 rfl) ?_
          refine wr_ci (va_runS (As := [.int ((hI S r4 v4.toNatClampNeg) &&& (x1 ^^^ (-1 : Int32)))]) (rest := []) ⟨hx, hb, hml, hown, hts⟩ (c_bitc l D C S z (((hI S r4 v4.toNatClampNeg) &&& (x1 ^^^ (-1 : Int32))))) (va_cwS 1 hts gX1_survey_J6_bitCount_0f7a4 rfl rfl rfl (by decide +kernel) ⟨Nat.le_of_ble_eq_true rfl, Nat.le_of_ble_eq_true rfl⟩) (wd_preS hw) rfl rfl hl.1 rfl (lv_room (Nat.le_of_ble_eq_true rfl)) dX1_survey_66 ⟨Nat.le_of_ble_eq_true rfl, Nat.le_of_ble_eq_true rfl⟩) hw (fun H locs hw => ?_)
          refine lv_istore (lv' := [(6, .int (bitc (((hI S r4 v4.toNatClampNeg) &&& (x1 ^^^ (-1 : Int32)))))), (5, .int ((hI S r4 v4.toNatClampNeg) &&& (x1 ^^^ (-1 : Int32)))), (0, .ref a0), (1, .int x1), (2, .int x2), (3, .int v3), (4, .int v4)]) hx hb dX1_survey_69 hl (by decide) rfl (fun ls hl => ?_)
          refine lv_aload_n hx hb dX1_survey_71 rfl (lv_at hl 2 rfl) ?_
          refine lv_dup hx hb dX1_survey_72 rfl ?_
          refine wr_get (K := RX1) (T := TX1) (N := 6) (index := 22) (ref := "MakerLines$Lines") (v := .int (hI S a0 3)) hx hb hts hi_X1_survey_X1 hown hw hok2 (wF_1 (S := S) hok2.2) rfl 3 (by decide) (hts _ (List.mem_of_getElem? (i := 1) rfl)) (fun _ h9 => h9) rfl dX1_survey_73 ?_
          refine lv_iconst (v := (1 : Int32)) hx hb dX1_survey_76 (by decide) ?_
          refine lv_iadd hx hb dX1_survey_77 ?_
          refine wr_put (K := RX1) (T := TX1) (N := 6) (index := 22) (ref := "MakerLines$Lines") (ty := .int) (S1 := (sI S a0 3 ((hI S a0 3) + (1 : Int32)))) hx hb hts hi_X1_survey_X1 tyX1 tyX1_ok nmX1 hown hw hok2 (wF_1 (S := S) hok2.2) rfl (fun b hb9 => wF_sI_ne hb9) 3 (wq_1_3 (S := S) hok2.2 _) rfl (by decide) (hts _ (List.mem_of_getElem? (i := 1) rfl)) (fun _ h9 => h9) rfl (by decide +kernel) rfl rfl (by decide) dX1_survey_78 (fun H locs hw => ?_)
          refine lv_aload_n hx hb dX1_survey_81 rfl (lv_at hl 2 rfl) ?_
          refine lv_dup hx hb dX1_survey_82 rfl ?_
          refine wr_get (K := RX1) (T := TX1) (N := 6) (index := 25) (ref := "MakerLines$Lines") (v := .int (hI ((sI S a0 3 ((hI S a0 3) + (1 : Int32)))) a0 4)) hx hb hts hi_X1_survey_X1 hown hw hok2 (wF_1 (S := (sI S a0 3 ((hI S a0 3) + (1 : Int32)))) hok2.2) rfl 4 (by decide) (hts _ (List.mem_of_getElem? (i := 2) rfl)) (fun _ h9 => h9) rfl dX1_survey_83 ?_
          refine lv_sipush (v := (1024 : Int32)) hx hb dX1_survey_86 (by decide) ?_
          refine lv_iload hx hb dX1_survey_89 (lv_at hl 0 rfl) ?_
          refine lv_ishr hx hb dX1_survey_91 ?_
          refine lv_iadd hx hb dX1_survey_92 ?_
          refine wr_put (K := RX1) (T := TX1) (N := 6) (index := 25) (ref := "MakerLines$Lines") (ty := .int) (S1 := (sI (sI S a0 3 ((hI S a0 3) + (1 : Int32))) a0 4 ((hI ((sI S a0 3 ((hI S a0 3) + (1 : Int32)))) a0 4) + ((1024 : Int32) >>> ((bitc (((hI S r4 v4.toNatClampNeg) &&& (x1 ^^^ (-1 : Int32))))) &&& 31))))) hx hb hts hi_X1_survey_X1 tyX1 tyX1_ok nmX1 hown hw hok2 (wF_1 (S := (sI S a0 3 ((hI S a0 3) + (1 : Int32)))) hok2.2) rfl (fun b hb9 => wF_sI_ne hb9) 4 (wq_1_4 (S := (sI S a0 3 ((hI S a0 3) + (1 : Int32)))) hok2.2 _) rfl (by decide) (hts _ (List.mem_of_getElem? (i := 2) rfl)) (fun _ h9 => h9) rfl (by decide +kernel) rfl rfl (by decide) dX1_survey_93 (fun H locs hw => ?_)
          refine lv_iload_n hx hb dX1_survey_96 rfl (lv_at hl 5 rfl) ?_
          refine lv_if_ne (tgt := 105) hx hb dX1_survey_97 (by decide) (fun c9 => ?_) (fun c9 => ?_)
          · have hg := it_pos hg c9
            exact B105 K20 hK20 _ _ _ _ _ _ _ hg hw (lv_sub hl [2, 3, 4, 6, 1, 0] rfl)
          · have hg := it_neg hg c9
            refine lv_iload hx hb dX1_survey_100 (lv_at hl 0 rfl) ?_
            refine lv_if_ne (tgt := 109) hx hb dX1_survey_102 (by decide) (fun c10 => ?_) (fun c10 => ?_)
            · have hg := it_pos hg c10
              refine lv_iconst (v := (0 : Int32)) hx hb dX1_survey_109 (by decide) ?_
              exact B110 K20 hK20 _ _ _ _ _ _ _ _ hg hw (lv_sub hl [2, 3, 4, 6, 1, 0] rfl)
            · have hg := it_neg hg c10
              exact B105 K20 hK20 _ _ _ _ _ _ _ hg hw (lv_sub hl [2, 3, 4, 6, 1, 0] rfl)
  have L20 : ∀ (k : Nat) (S : Hp) (v3 : Int32) (v4 : Int32) (H : Heap) (locs : List Loc) (ls : Array Slot), f_X1_survey_l20 N a0 x1 x2 k S v3 v4 = some (r, S9) → Wd D C (va_A (wP C S0) z) s.heap S z H locs s → lv_has ls 7 [(0, .ref a0), (1, .int x1), (2, .int x2), (3, .int v3), (4, .int v4)] → W p l e rm_X1_survey s m ([.ref a0, .int x1, .int x2] : List Value).toArray below meth c H locs 0 0 (MQ below (QvW D C S0 z r S9 z) ([.ref a0, .int x1, .int x2] : List Value).toArray s 0 0 (va_A (wP C S0) z)) (F0 m 20 ls []) := by
    intro k
    induction k with
    | zero => intro S v3 v4 H locs ls hg hw hl; exact absurd (show (none : Option (Unit × Hp)) = some (r, S9) from hg) (by simp)
    | succ k ih => intro S v3 v4 H locs ls hg hw hl; exact B20 (f_X1_survey_l20 N a0 x1 x2 k) ih S v3 v4 H locs ls hg hw hl
  unfold f_X1_survey at hg
  refine lv_iconst (v := (0 : Int32)) hx hb dX1_survey_0 (by decide) ?_
  refine lv_istore_n (lv' := [(3, .int (0 : Int32)), (0, .ref a0), (1, .int x1), (2, .int x2)]) hx hb dX1_survey_1 rfl hl (by decide) rfl (fun ls hl => ?_)
  refine lv_aload_n hx hb dX1_survey_2 rfl (lv_at hl 1 rfl) ?_
  refine lv_iconst (v := (0 : Int32)) hx hb dX1_survey_3 (by decide) ?_
  obtain ⟨hok1, hg⟩ := gd_some hg
  refine wr_put (K := RX1) (T := TX1) (N := 6) (index := 22) (ref := "MakerLines$Lines") (ty := .int) (S1 := (sI S a0 3 (0 : Int32))) hx hb hts hi_X1_survey_X1 tyX1 tyX1_ok nmX1 hown hw hok1 (wF_1 (S := S) hok1.2) rfl (fun b hb9 => wF_sI_ne hb9) 3 (wq_1_3 (S := S) hok1.2 _) rfl (by decide) (hts _ (List.mem_of_getElem? (i := 1) rfl)) (fun _ h9 => h9) rfl (by decide +kernel) rfl rfl (by decide) dX1_survey_4 (fun H locs hw => ?_)
  refine lv_aload_n hx hb dX1_survey_7 rfl (lv_at hl 1 rfl) ?_
  refine lv_iconst (v := (0 : Int32)) hx hb dX1_survey_8 (by decide) ?_
  refine wr_put (K := RX1) (T := TX1) (N := 6) (index := 25) (ref := "MakerLines$Lines") (ty := .int) (S1 := (sI (sI S a0 3 (0 : Int32)) a0 4 (0 : Int32))) hx hb hts hi_X1_survey_X1 tyX1 tyX1_ok nmX1 hown hw hok1 (wF_1 (S := (sI S a0 3 (0 : Int32))) hok1.2) rfl (fun b hb9 => wF_sI_ne hb9) 4 (wq_1_4 (S := (sI S a0 3 (0 : Int32))) hok1.2 _) rfl (by decide) (hts _ (List.mem_of_getElem? (i := 2) rfl)) (fun _ h9 => h9) rfl (by decide +kernel) rfl rfl (by decide) dX1_survey_9 (fun H locs hw => ?_)
  refine lv_aload_n hx hb dX1_survey_12 rfl (lv_at hl 1 rfl) ?_
  refine lv_iconst (v := (0 : Int32)) hx hb dX1_survey_13 (by decide) ?_
  refine wr_put (K := RX1) (T := TX1) (N := 6) (index := 28) (ref := "MakerLines$Lines") (ty := .int) (S1 := (sI (sI (sI S a0 3 (0 : Int32)) a0 4 (0 : Int32)) a0 5 (0 : Int32))) hx hb hts hi_X1_survey_X1 tyX1 tyX1_ok nmX1 hown hw hok1 (wF_1 (S := (sI (sI S a0 3 (0 : Int32)) a0 4 (0 : Int32))) hok1.2) rfl (fun b hb9 => wF_sI_ne hb9) 5 (wq_1_5 (S := (sI (sI S a0 3 (0 : Int32)) a0 4 (0 : Int32))) hok1.2 _) rfl (by decide) (hts _ (List.mem_of_getElem? (i := 3) rfl)) (fun _ h9 => h9) rfl (by decide +kernel) rfl rfl (by decide) dX1_survey_14 (fun H locs hw => ?_)
  refine lv_iconst (v := (0 : Int32)) hx hb dX1_survey_17 (by decide) ?_
  refine lv_istore (lv' := [(4, .int (0 : Int32)), (3, .int (0 : Int32)), (0, .ref a0), (1, .int x1), (2, .int x2)]) hx hb dX1_survey_18 hl (by decide) rfl (fun ls hl => ?_)
  exact L20 N _ _ _ _ _ _ hg hw (lv_sub hl [2, 3, 4, 1, 0] rfl)
def f_X1_weightWith_b6 (N : Nat) (a0 : Nat) (x1 : Int32) (x2 : Int32) (x3 : Int32) (K6 : Hp → Int32 → Int32 → Option (Int32 × Hp)) (S : Hp) (v4 : Int32) (v5 : Int32) : Option (Int32 × Hp) :=
  gd (ok S a0 1) <| if (hI S a0 1) ≤ v5 then (some (v4, S)) else (nn (hR S a0 0) fun r3 => gd (ok S r3 8) <| if (nI (hN S r3)) ≤ v5 then (some (v4, S)) else (gd (inb v5 (hN S r3)) <| if ((hI S r3 v5.toNatClampNeg) &&& ((1 : Int32) <<< (x1 &&& 31))) = 0 then (K6 S v4 ((v5 + (1 : Int32)))) else (if ¬ ((hI S r3 v5.toNatClampNeg) &&& x3) = 0 then (K6 S v4 ((v5 + (1 : Int32)))) else (K6 S ((v4 + ((1024 : Int32) >>> ((bitc (((hI S r3 v5.toNatClampNeg) &&& (x2 ^^^ (-1 : Int32))))) &&& 31)))) ((v5 + (1 : Int32)))))))
def f_X1_weightWith_l6 (N : Nat) (a0 : Nat) (x1 : Int32) (x2 : Int32) (x3 : Int32) : Nat → Hp → Int32 → Int32 → Option (Int32 × Hp)
  | 0, _, _, _ => none
  | k + 1, S, v4, v5 => f_X1_weightWith_b6 N a0 x1 x2 x3 (f_X1_weightWith_l6 N a0 x1 x2 x3 k) S v4 v5
def f_X1_weightWith (N : Nat) (S : Hp) (a0 : Nat) (x1 : Int32) (x2 : Int32) (x3 : Int32) : Option (Int32 × Hp) :=
  f_X1_weightWith_l6 N a0 x1 x2 x3 N S ((0 : Int32)) ((0 : Int32))
theorem hi_X1_weightWith_X1 : ∀ w ∈ wsX10, w ∈ wsX1_weightWith := fun _ h => List.mem_cons_of_mem _ (List.mem_append_right _ (h))
abbrev rm_X1_weightWith : Room := { frames := 1, cells := 0, slots := 0, locals := 20 }
set_option maxHeartbeats 4000000 in
set_option maxRecDepth 100000 in
theorem c_X1_weightWith (l : Launch) (D : va_G) (C : C3) (N : Nat) (S0 : Hp) (z : Nat) (a0 : Nat) (x1 : Int32) (x2 : Int32) (x3 : Int32) (r : Int32) (S9 : Hp) (hg : f_X1_weightWith N S0 a0 x1 x2 x3 = some (r, S9)) : MetI l yX1_weightWith wsX1_weightWith rm_X1_weightWith D C S0 z [.ref a0, .int x1, .int x2, .int x3] r S9 z 0 0 := by
  refine mw_ofW (cc := cX1_weightWith) (maxL := 6) (ret := (some .int)) (lv := [(0, .ref a0), (1, .int x1), (2, .int x2), (3, .int x3)]) (by decide) rfl (Nat.le_of_ble_eq_true rfl) rfl ?_
  intro p e s m below meth c ls hx hb hr hts hown hlk hml hnm hl hw
  have hown : s.vm.findClass RX1 = some m.cls := hown
  have B6 : ∀ (K6 : Hp → Int32 → Int32 → Option (Int32 × Hp)) (hK6 : ∀ (S : Hp) (v4 : Int32) (v5 : Int32) (H : Heap) (locs : List Loc) (ls : Array Slot), K6 S v4 v5 = some (r, S9) → Wd D C (va_A (wP C S0) z) s.heap S z H locs s → lv_has ls 6 [(0, .ref a0), (1, .int x1), (2, .int x2), (3, .int x3), (4, .int v4), (5, .int v5)] → W p l e rm_X1_weightWith s m ([.ref a0, .int x1, .int x2, .int x3] : List Value).toArray below meth c H locs 0 0 (MQ below (QiW D C S0 z r S9 z) ([.ref a0, .int x1, .int x2, .int x3] : List Value).toArray s 0 0 (va_A (wP C S0) z)) (F0 m 6 ls [])) (S : Hp) (v4 : Int32) (v5 : Int32) (H : Heap) (locs : List Loc) (ls : Array Slot), f_X1_weightWith_b6 N a0 x1 x2 x3 K6 S v4 v5 = some (r, S9) → Wd D C (va_A (wP C S0) z) s.heap S z H locs s → lv_has ls 6 [(0, .ref a0), (1, .int x1), (2, .int x2), (3, .int x3), (4, .int v4), (5, .int v5)] → W p l e rm_X1_weightWith s m ([.ref a0, .int x1, .int x2, .int x3] : List Value).toArray below meth c H locs 0 0 (MQ below (QiW D C S0 z r S9 z) ([.ref a0, .int x1, .int x2, .int x3] : List Value).toArray s 0 0 (va_A (wP C S0) z)) (F0 m 6 ls []) := by
    intro K6 hK6 S v4 v5 H locs ls hg hw hl
    unfold f_X1_weightWith_b6 at hg
    refine lv_iload hx hb dX1_weightWith_6 (lv_at hl 5 rfl) ?_
    refine lv_aload_n hx hb dX1_weightWith_8 rfl (lv_at hl 0 rfl) ?_
    obtain ⟨hok1, hg⟩ := gd_some hg
    refine wr_get (K := RX1) (T := TX1) (N := 6) (index := 15) (ref := "MakerLines$Lines") (v := .int (hI S a0 1)) hx hb hts hi_X1_weightWith_X1 hown hw hok1 (wF_1 (S := S) hok1.2) rfl 1 (by decide) (hts _ (List.mem_of_getElem? (i := 1) rfl)) (fun _ h9 => h9) rfl dX1_weightWith_9 ?_
    refine lv_icmp_ge (tgt := 80) hx hb dX1_weightWith_12 (by decide) (fun c2 => ?_) (fun c2 => ?_)
    · have hg := it_pos hg c2
      refine lv_iload hx hb dX1_weightWith_80 (lv_at hl 4 rfl) ?_
      cases hg
      exact wr_iret hx hb hr hw dX1_weightWith_82 hlk
    · have hg := it_neg hg c2
      refine lv_iload hx hb dX1_weightWith_15 (lv_at hl 5 rfl) ?_
      refine lv_aload_n hx hb dX1_weightWith_17 rfl (lv_at hl 0 rfl) ?_
      obtain ⟨r3, hr3, hg⟩ := nn_some hg
      refine wr_get (K := RX1) (T := TX1) (N := 6) (index := 9) (ref := "MakerLines$Lines") (v := .ref r3) hx hb hts hi_X1_weightWith_X1 hown hw hok1 (wF_1 (S := S) hok1.2) rfl 0 (by decide) (hts _ (List.mem_of_getElem? (i := 2) rfl)) (fun _ h9 => h9) (congrArg (fun o => some (va_rf o)) hr3) dX1_weightWith_18 ?_
      obtain ⟨hok4, hg⟩ := gd_some hg
      refine wr_alen8 hx hb hw hok4 dX1_weightWith_21 ?_
      refine lv_icmp_ge (tgt := 80) hx hb dX1_weightWith_22 (by decide) (fun c5 => ?_) (fun c5 => ?_)
      · have hg := it_pos hg c5
        refine lv_iload hx hb dX1_weightWith_80 (lv_at hl 4 rfl) ?_
        cases hg
        exact wr_iret hx hb hr hw dX1_weightWith_82 hlk
      · have hg := it_neg hg c5
        refine lv_aload_n hx hb dX1_weightWith_25 rfl (lv_at hl 0 rfl) ?_
        refine wr_get (K := RX1) (T := TX1) (N := 6) (index := 9) (ref := "MakerLines$Lines") (v := .ref r3) hx hb hts hi_X1_weightWith_X1 hown hw hok1 (wF_1 (S := S) hok1.2) rfl 0 (by decide) (hts _ (List.mem_of_getElem? (i := 2) rfl)) (fun _ h9 => h9) (congrArg (fun o => some (va_rf o)) hr3) dX1_weightWith_26 ?_
        refine lv_iload hx hb dX1_weightWith_29 (lv_at hl 5 rfl) ?_
        obtain ⟨hin6, hg⟩ := gd_some hg
        refine wr_iald hx hb hw hok4 (inb_vp hin6) dX1_weightWith_31 ?_
        refine lv_iconst (v := (1 : Int32)) hx hb dX1_weightWith_32 (by decide) ?_
        refine lv_iload_n hx hb dX1_weightWith_33 rfl (lv_at hl 1 rfl) ?_
        refine lv_ishl hx hb dX1_weightWith_34 ?_
        refine lv_iand hx hb dX1_weightWith_35 ?_
        refine lv_if_eq (tgt := 74) hx hb dX1_weightWith_36 (by decide) (fun c7 => ?_) (fun c7 => ?_)
        · have hg := it_pos hg c7
          refine lv_iinc (v := (v5 + (1 : Int32))) (lv' := [(5, .int (v5 + (1 : Int32))), (0, .ref a0), (1, .int x1), (2, .int x2), (3, .int x3), (4, .int v4)]) hx hb dX1_weightWith_74 hl (k := 5) rfl rfl (by decide) rfl (fun ls hl => ?_)
          refine lv_goto (tgt := 6) hx hb dX1_weightWith_77 (by decide) ?_
          exact hK6 _ _ _ _ _ _ hg hw (lv_sub hl [1, 2, 3, 4, 5, 0] rfl)
        · have hg := it_neg hg c7
          refine lv_aload_n hx hb dX1_weightWith_39 rfl (lv_at hl 0 rfl) ?_
          refine wr_get (K := RX1) (T := TX1) (N := 6) (index := 9) (ref := "MakerLines$Lines") (v := .ref r3) hx hb hts hi_X1_weightWith_X1 hown hw hok1 (wF_1 (S := S) hok1.2) rfl 0 (by decide) (hts _ (List.mem_of_getElem? (i := 2) rfl)) (fun _ h9 => h9) (congrArg (fun o => some (va_rf o)) hr3) dX1_weightWith_40 ?_
          refine lv_iload hx hb dX1_weightWith_43 (lv_at hl 5 rfl) ?_
          refine wr_iald hx hb hw hok4 (inb_vp hin6) dX1_weightWith_45 ?_
          refine lv_iload_n hx hb dX1_weightWith_46 rfl (lv_at hl 3 rfl) ?_
          refine lv_iand hx hb dX1_weightWith_47 ?_
          refine lv_if_ne (tgt := 74) hx hb dX1_weightWith_48 (by decide) (fun c8 => ?_) (fun c8 => ?_)
          · have hg := it_pos hg c8
            refine lv_iinc (v := (v5 + (1 : Int32))) (lv' := [(5, .int (v5 + (1 : Int32))), (0, .ref a0), (1, .int x1), (2, .int x2), (3, .int x3), (4, .int v4)]) hx hb dX1_weightWith_74 hl (k := 5) rfl rfl (by decide) rfl (fun ls hl => ?_)
            refine lv_goto (tgt := 6) hx hb dX1_weightWith_77 (by decide) ?_
            exact hK6 _ _ _ _ _ _ hg hw (lv_sub hl [1, 2, 3, 4, 5, 0] rfl)
          · have hg := it_neg hg c8
            refine lv_iload hx hb dX1_weightWith_51 (lv_at hl 4 rfl) ?_
            refine lv_sipush (v := (1024 : Int32)) hx hb dX1_weightWith_53 (by decide) ?_
            refine lv_aload_n hx hb dX1_weightWith_56 rfl (lv_at hl 0 rfl) ?_
            refine wr_get (K := RX1) (T := TX1) (N := 6) (index := 9) (ref := "MakerLines$Lines") (v := .ref r3) hx hb hts hi_X1_weightWith_X1 hown hw hok1 (wF_1 (S := S) hok1.2) rfl 0 (by decide) (hts _ (List.mem_of_getElem? (i := 2) rfl)) (fun _ h9 => h9) (congrArg (fun o => some (va_rf o)) hr3) dX1_weightWith_57 ?_
            refine lv_iload hx hb dX1_weightWith_60 (lv_at hl 5 rfl) ?_
            refine wr_iald hx hb hw hok4 (inb_vp hin6) dX1_weightWith_62 ?_
            refine lv_iload_n hx hb dX1_weightWith_63 rfl (lv_at hl 2 rfl) ?_
            refine lv_iconst (v := (-1 : Int32)) hx hb dX1_weightWith_64 (by decide) ?_
            refine lv_ixor hx hb dX1_weightWith_65 ?_
            refine lv_iand hx hb dX1_weightWith_66 ?_
            refine wr_ci (va_runS (As := [.int ((hI S r3 v5.toNatClampNeg) &&& (x2 ^^^ (-1 : Int32)))]) (rest := [.int (1024 : Int32), .int v4]) ⟨hx, hb, hml, hown, hts⟩ (c_bitc l D C S z (((hI S r3 v5.toNatClampNeg) &&& (x2 ^^^ (-1 : Int32))))) (va_cwS 1 hts gX1_weightWith_J6_bitCount_0f7a4 rfl rfl rfl (by decide +kernel) ⟨Nat.le_of_ble_eq_true rfl, Nat.le_of_ble_eq_true rfl⟩) (wd_preS hw) rfl rfl hl.1 rfl (lv_room (Nat.le_of_ble_eq_true rfl)) dX1_weightWith_67 ⟨Nat.le_of_ble_eq_true rfl, Nat.le_of_ble_eq_true rfl⟩) hw (fun H locs hw => ?_)
            refine lv_ishr hx hb dX1_weightWith_70 ?_
            refine lv_iadd hx hb dX1_weightWith_71 ?_
            refine lv_istore (lv' := [(4, .int (v4 + ((1024 : Int32) >>> ((bitc (((hI S r3 v5.toNatClampNeg) &&& (x2 ^^^ (-1 : Int32))))) &&& 31)))), (0, .ref a0), (1, .int x1), (2, .int x2), (3, .int x3), (5, .int v5)]) hx hb dX1_weightWith_72 hl (by decide) rfl (fun ls hl => ?_)
            refine lv_iinc (v := (v5 + (1 : Int32))) (lv' := [(5, .int (v5 + (1 : Int32))), (4, .int (v4 + ((1024 : Int32) >>> ((bitc (((hI S r3 v5.toNatClampNeg) &&& (x2 ^^^ (-1 : Int32))))) &&& 31)))), (0, .ref a0), (1, .int x1), (2, .int x2), (3, .int x3)]) hx hb dX1_weightWith_74 hl (k := 5) rfl rfl (by decide) rfl (fun ls hl => ?_)
            refine lv_goto (tgt := 6) hx hb dX1_weightWith_77 (by decide) ?_
            exact hK6 _ _ _ _ _ _ hg hw (lv_sub hl [2, 3, 4, 5, 1, 0] rfl)
  have L6 : ∀ (k : Nat) (S : Hp) (v4 : Int32) (v5 : Int32) (H : Heap) (locs : List Loc) (ls : Array Slot), f_X1_weightWith_l6 N a0 x1 x2 x3 k S v4 v5 = some (r, S9) → Wd D C (va_A (wP C S0) z) s.heap S z H locs s → lv_has ls 6 [(0, .ref a0), (1, .int x1), (2, .int x2), (3, .int x3), (4, .int v4), (5, .int v5)] → W p l e rm_X1_weightWith s m ([.ref a0, .int x1, .int x2, .int x3] : List Value).toArray below meth c H locs 0 0 (MQ below (QiW D C S0 z r S9 z) ([.ref a0, .int x1, .int x2, .int x3] : List Value).toArray s 0 0 (va_A (wP C S0) z)) (F0 m 6 ls []) := by
    intro k
    induction k with
    | zero => intro S v4 v5 H locs ls hg hw hl; exact absurd (show (none : Option (Int32 × Hp)) = some (r, S9) from hg) (by simp)
    | succ k ih => intro S v4 v5 H locs ls hg hw hl; exact B6 (f_X1_weightWith_l6 N a0 x1 x2 x3 k) ih S v4 v5 H locs ls hg hw hl
  unfold f_X1_weightWith at hg
  refine lv_iconst (v := (0 : Int32)) hx hb dX1_weightWith_0 (by decide) ?_
  refine lv_istore (lv' := [(4, .int (0 : Int32)), (0, .ref a0), (1, .int x1), (2, .int x2), (3, .int x3)]) hx hb dX1_weightWith_1 hl (by decide) rfl (fun ls hl => ?_)
  refine lv_iconst (v := (0 : Int32)) hx hb dX1_weightWith_3 (by decide) ?_
  refine lv_istore (lv' := [(5, .int (0 : Int32)), (4, .int (0 : Int32)), (0, .ref a0), (1, .int x1), (2, .int x2), (3, .int x3)]) hx hb dX1_weightWith_4 hl (by decide) rfl (fun ls hl => ?_)
  exact L6 N _ _ _ _ _ _ hg hw (lv_sub hl [2, 3, 4, 5, 1, 0] rfl)
def f_X1_aliveWith_b5 (N : Nat) (a0 : Nat) (x1 : Int32) (x2 : Int32) (K5 : Hp → Int32 → Int32 → Option (Int32 × Hp)) (S : Hp) (v3 : Int32) (v4 : Int32) : Option (Int32 × Hp) :=
  gd (ok S a0 1) <| if (hI S a0 1) ≤ v4 then (some (v3, S)) else (nn (hR S a0 0) fun r3 => gd (ok S r3 8) <| if (nI (hN S r3)) ≤ v4 then (some (v3, S)) else (gd (inb v4 (hN S r3)) <| if ((hI S r3 v4.toNatClampNeg) &&& ((1 : Int32) <<< (x1 &&& 31))) = 0 then (K5 S v3 ((v4 + (1 : Int32)))) else (if ¬ ((hI S r3 v4.toNatClampNeg) &&& x2) = 0 then (K5 S v3 ((v4 + (1 : Int32)))) else (K5 S ((v3 + (1 : Int32))) ((v4 + (1 : Int32)))))))
def f_X1_aliveWith_l5 (N : Nat) (a0 : Nat) (x1 : Int32) (x2 : Int32) : Nat → Hp → Int32 → Int32 → Option (Int32 × Hp)
  | 0, _, _, _ => none
  | k + 1, S, v3, v4 => f_X1_aliveWith_b5 N a0 x1 x2 (f_X1_aliveWith_l5 N a0 x1 x2 k) S v3 v4
def f_X1_aliveWith (N : Nat) (S : Hp) (a0 : Nat) (x1 : Int32) (x2 : Int32) : Option (Int32 × Hp) :=
  f_X1_aliveWith_l5 N a0 x1 x2 N S ((0 : Int32)) ((0 : Int32))
theorem hi_X1_aliveWith_X1 : ∀ w ∈ wsX10, w ∈ wsX1_aliveWith := fun _ h => List.mem_cons_of_mem _ (List.mem_append_right _ (h))
abbrev rm_X1_aliveWith : Room := { frames := 0, cells := 0, slots := 0, locals := 0 }
set_option maxHeartbeats 4000000 in
set_option maxRecDepth 100000 in
theorem c_X1_aliveWith (l : Launch) (D : va_G) (C : C3) (N : Nat) (S0 : Hp) (z : Nat) (a0 : Nat) (x1 : Int32) (x2 : Int32) (r : Int32) (S9 : Hp) (hg : f_X1_aliveWith N S0 a0 x1 x2 = some (r, S9)) : MetI l yX1_aliveWith wsX1_aliveWith rm_X1_aliveWith D C S0 z [.ref a0, .int x1, .int x2] r S9 z 0 0 := by
  refine mw_ofW (cc := cX1_aliveWith) (maxL := 5) (ret := (some .int)) (lv := [(0, .ref a0), (1, .int x1), (2, .int x2)]) (by decide) rfl (Nat.le_of_ble_eq_true rfl) rfl ?_
  intro p e s m below meth c ls hx hb hr hts hown hlk hml hnm hl hw
  have hown : s.vm.findClass RX1 = some m.cls := hown
  have B5 : ∀ (K5 : Hp → Int32 → Int32 → Option (Int32 × Hp)) (hK5 : ∀ (S : Hp) (v3 : Int32) (v4 : Int32) (H : Heap) (locs : List Loc) (ls : Array Slot), K5 S v3 v4 = some (r, S9) → Wd D C (va_A (wP C S0) z) s.heap S z H locs s → lv_has ls 5 [(0, .ref a0), (1, .int x1), (2, .int x2), (3, .int v3), (4, .int v4)] → W p l e rm_X1_aliveWith s m ([.ref a0, .int x1, .int x2] : List Value).toArray below meth c H locs 0 0 (MQ below (QiW D C S0 z r S9 z) ([.ref a0, .int x1, .int x2] : List Value).toArray s 0 0 (va_A (wP C S0) z)) (F0 m 5 ls [])) (S : Hp) (v3 : Int32) (v4 : Int32) (H : Heap) (locs : List Loc) (ls : Array Slot), f_X1_aliveWith_b5 N a0 x1 x2 K5 S v3 v4 = some (r, S9) → Wd D C (va_A (wP C S0) z) s.heap S z H locs s → lv_has ls 5 [(0, .ref a0), (1, .int x1), (2, .int x2), (3, .int v3), (4, .int v4)] → W p l e rm_X1_aliveWith s m ([.ref a0, .int x1, .int x2] : List Value).toArray below meth c H locs 0 0 (MQ below (QiW D C S0 z r S9 z) ([.ref a0, .int x1, .int x2] : List Value).toArray s 0 0 (va_A (wP C S0) z)) (F0 m 5 ls []) := by
    intro K5 hK5 S v3 v4 H locs ls hg hw hl
    unfold f_X1_aliveWith_b5 at hg
    refine lv_iload hx hb dX1_aliveWith_5 (lv_at hl 4 rfl) ?_
    refine lv_aload_n hx hb dX1_aliveWith_7 rfl (lv_at hl 0 rfl) ?_
    obtain ⟨hok1, hg⟩ := gd_some hg
    refine wr_get (K := RX1) (T := TX1) (N := 6) (index := 15) (ref := "MakerLines$Lines") (v := .int (hI S a0 1)) hx hb hts hi_X1_aliveWith_X1 hown hw hok1 (wF_1 (S := S) hok1.2) rfl 1 (by decide) (hts _ (List.mem_of_getElem? (i := 1) rfl)) (fun _ h9 => h9) rfl dX1_aliveWith_8 ?_
    refine lv_icmp_ge (tgt := 59) hx hb dX1_aliveWith_11 (by decide) (fun c2 => ?_) (fun c2 => ?_)
    · have hg := it_pos hg c2
      refine lv_iload_n hx hb dX1_aliveWith_59 rfl (lv_at hl 3 rfl) ?_
      cases hg
      exact wr_iret hx hb hr hw dX1_aliveWith_60 hlk
    · have hg := it_neg hg c2
      refine lv_iload hx hb dX1_aliveWith_14 (lv_at hl 4 rfl) ?_
      refine lv_aload_n hx hb dX1_aliveWith_16 rfl (lv_at hl 0 rfl) ?_
      obtain ⟨r3, hr3, hg⟩ := nn_some hg
      refine wr_get (K := RX1) (T := TX1) (N := 6) (index := 9) (ref := "MakerLines$Lines") (v := .ref r3) hx hb hts hi_X1_aliveWith_X1 hown hw hok1 (wF_1 (S := S) hok1.2) rfl 0 (by decide) (hts _ (List.mem_of_getElem? (i := 2) rfl)) (fun _ h9 => h9) (congrArg (fun o => some (va_rf o)) hr3) dX1_aliveWith_17 ?_
      obtain ⟨hok4, hg⟩ := gd_some hg
      refine wr_alen8 hx hb hw hok4 dX1_aliveWith_20 ?_
      refine lv_icmp_ge (tgt := 59) hx hb dX1_aliveWith_21 (by decide) (fun c5 => ?_) (fun c5 => ?_)
      · have hg := it_pos hg c5
        refine lv_iload_n hx hb dX1_aliveWith_59 rfl (lv_at hl 3 rfl) ?_
        cases hg
        exact wr_iret hx hb hr hw dX1_aliveWith_60 hlk
      · have hg := it_neg hg c5
        refine lv_aload_n hx hb dX1_aliveWith_24 rfl (lv_at hl 0 rfl) ?_
        refine wr_get (K := RX1) (T := TX1) (N := 6) (index := 9) (ref := "MakerLines$Lines") (v := .ref r3) hx hb hts hi_X1_aliveWith_X1 hown hw hok1 (wF_1 (S := S) hok1.2) rfl 0 (by decide) (hts _ (List.mem_of_getElem? (i := 2) rfl)) (fun _ h9 => h9) (congrArg (fun o => some (va_rf o)) hr3) dX1_aliveWith_25 ?_
        refine lv_iload hx hb dX1_aliveWith_28 (lv_at hl 4 rfl) ?_
        obtain ⟨hin6, hg⟩ := gd_some hg
        refine wr_iald hx hb hw hok4 (inb_vp hin6) dX1_aliveWith_30 ?_
        refine lv_iconst (v := (1 : Int32)) hx hb dX1_aliveWith_31 (by decide) ?_
        refine lv_iload_n hx hb dX1_aliveWith_32 rfl (lv_at hl 1 rfl) ?_
        refine lv_ishl hx hb dX1_aliveWith_33 ?_
        refine lv_iand hx hb dX1_aliveWith_34 ?_
        refine lv_if_eq (tgt := 53) hx hb dX1_aliveWith_35 (by decide) (fun c7 => ?_) (fun c7 => ?_)
        · have hg := it_pos hg c7
          refine lv_iinc (v := (v4 + (1 : Int32))) (lv' := [(4, .int (v4 + (1 : Int32))), (0, .ref a0), (1, .int x1), (2, .int x2), (3, .int v3)]) hx hb dX1_aliveWith_53 hl (k := 4) rfl rfl (by decide) rfl (fun ls hl => ?_)
          refine lv_goto (tgt := 5) hx hb dX1_aliveWith_56 (by decide) ?_
          exact hK5 _ _ _ _ _ _ hg hw (lv_sub hl [1, 2, 3, 4, 0] rfl)
        · have hg := it_neg hg c7
          refine lv_aload_n hx hb dX1_aliveWith_38 rfl (lv_at hl 0 rfl) ?_
          refine wr_get (K := RX1) (T := TX1) (N := 6) (index := 9) (ref := "MakerLines$Lines") (v := .ref r3) hx hb hts hi_X1_aliveWith_X1 hown hw hok1 (wF_1 (S := S) hok1.2) rfl 0 (by decide) (hts _ (List.mem_of_getElem? (i := 2) rfl)) (fun _ h9 => h9) (congrArg (fun o => some (va_rf o)) hr3) dX1_aliveWith_39 ?_
          refine lv_iload hx hb dX1_aliveWith_42 (lv_at hl 4 rfl) ?_
          refine wr_iald hx hb hw hok4 (inb_vp hin6) dX1_aliveWith_44 ?_
          refine lv_iload_n hx hb dX1_aliveWith_45 rfl (lv_at hl 2 rfl) ?_
          refine lv_iand hx hb dX1_aliveWith_46 ?_
          refine lv_if_ne (tgt := 53) hx hb dX1_aliveWith_47 (by decide) (fun c8 => ?_) (fun c8 => ?_)
          · have hg := it_pos hg c8
            refine lv_iinc (v := (v4 + (1 : Int32))) (lv' := [(4, .int (v4 + (1 : Int32))), (0, .ref a0), (1, .int x1), (2, .int x2), (3, .int v3)]) hx hb dX1_aliveWith_53 hl (k := 4) rfl rfl (by decide) rfl (fun ls hl => ?_)
            refine lv_goto (tgt := 5) hx hb dX1_aliveWith_56 (by decide) ?_
            exact hK5 _ _ _ _ _ _ hg hw (lv_sub hl [1, 2, 3, 4, 0] rfl)
          · have hg := it_neg hg c8
            refine lv_iinc (v := (v3 + (1 : Int32))) (lv' := [(3, .int (v3 + (1 : Int32))), (0, .ref a0), (1, .int x1), (2, .int x2), (4, .int v4)]) hx hb dX1_aliveWith_50 hl (k := 3) rfl rfl (by decide) rfl (fun ls hl => ?_)
            refine lv_iinc (v := (v4 + (1 : Int32))) (lv' := [(4, .int (v4 + (1 : Int32))), (3, .int (v3 + (1 : Int32))), (0, .ref a0), (1, .int x1), (2, .int x2)]) hx hb dX1_aliveWith_53 hl (k := 4) rfl rfl (by decide) rfl (fun ls hl => ?_)
            refine lv_goto (tgt := 5) hx hb dX1_aliveWith_56 (by decide) ?_
            exact hK5 _ _ _ _ _ _ hg hw (lv_sub hl [2, 3, 4, 1, 0] rfl)
  have L5 : ∀ (k : Nat) (S : Hp) (v3 : Int32) (v4 : Int32) (H : Heap) (locs : List Loc) (ls : Array Slot), f_X1_aliveWith_l5 N a0 x1 x2 k S v3 v4 = some (r, S9) → Wd D C (va_A (wP C S0) z) s.heap S z H locs s → lv_has ls 5 [(0, .ref a0), (1, .int x1), (2, .int x2), (3, .int v3), (4, .int v4)] → W p l e rm_X1_aliveWith s m ([.ref a0, .int x1, .int x2] : List Value).toArray below meth c H locs 0 0 (MQ below (QiW D C S0 z r S9 z) ([.ref a0, .int x1, .int x2] : List Value).toArray s 0 0 (va_A (wP C S0) z)) (F0 m 5 ls []) := by
    intro k
    induction k with
    | zero => intro S v3 v4 H locs ls hg hw hl; exact absurd (show (none : Option (Int32 × Hp)) = some (r, S9) from hg) (by simp)
    | succ k ih => intro S v3 v4 H locs ls hg hw hl; exact B5 (f_X1_aliveWith_l5 N a0 x1 x2 k) ih S v3 v4 H locs ls hg hw hl
  unfold f_X1_aliveWith at hg
  refine lv_iconst (v := (0 : Int32)) hx hb dX1_aliveWith_0 (by decide) ?_
  refine lv_istore_n (lv' := [(3, .int (0 : Int32)), (0, .ref a0), (1, .int x1), (2, .int x2)]) hx hb dX1_aliveWith_1 rfl hl (by decide) rfl (fun ls hl => ?_)
  refine lv_iconst (v := (0 : Int32)) hx hb dX1_aliveWith_2 (by decide) ?_
  refine lv_istore (lv' := [(4, .int (0 : Int32)), (3, .int (0 : Int32)), (0, .ref a0), (1, .int x1), (2, .int x2)]) hx hb dX1_aliveWith_3 hl (by decide) rfl (fun ls hl => ?_)
  exact L5 N _ _ _ _ _ _ hg hw (lv_sub hl [2, 3, 4, 1, 0] rfl)
def f_X6_lowestOf_b2 (N : Nat) (x0 : Int32) (K2 : Hp → Int32 → Option (Int32 × Hp)) (S : Hp) (v1 : Int32) : Option (Int32 × Hp) :=
  if (10 : Int32) ≤ v1 then (some ((-1 : Int32), S)) else (if (x0 &&& ((1 : Int32) <<< (v1 &&& 31))) = 0 then (K2 S ((v1 + (1 : Int32)))) else (some (v1, S)))
def f_X6_lowestOf_l2 (N : Nat) (x0 : Int32) : Nat → Hp → Int32 → Option (Int32 × Hp)
  | 0, _, _ => none
  | k + 1, S, v1 => f_X6_lowestOf_b2 N x0 (f_X6_lowestOf_l2 N x0 k) S v1
def f_X6_lowestOf (N : Nat) (S : Hp) (x0 : Int32) : Option (Int32 × Hp) :=
  f_X6_lowestOf_l2 N x0 N S ((0 : Int32))
abbrev rm_X6_lowestOf : Room := { frames := 0, cells := 0, slots := 0, locals := 0 }
set_option maxHeartbeats 4000000 in
set_option maxRecDepth 100000 in
theorem c_X6_lowestOf (l : Launch) (D : va_G) (C : C3) (N : Nat) (S0 : Hp) (z : Nat) (x0 : Int32) (r : Int32) (S9 : Hp) (hg : f_X6_lowestOf N S0 x0 = some (r, S9)) : MetI l yX6_lowestOf wsX6_lowestOf rm_X6_lowestOf D C S0 z [.int x0] r S9 z 0 0 := by
  refine mw_ofW (cc := cX6_lowestOf) (maxL := 2) (ret := (some .int)) (lv := [(0, .int x0)]) (by decide) rfl (Nat.le_of_ble_eq_true rfl) rfl ?_
  intro p e s m below meth c ls hx hb hr hts hown hlk hml hnm hl hw
  have hown : s.vm.findClass RX6 = some m.cls := hown
  have B2 : ∀ (K2 : Hp → Int32 → Option (Int32 × Hp)) (hK2 : ∀ (S : Hp) (v1 : Int32) (H : Heap) (locs : List Loc) (ls : Array Slot), K2 S v1 = some (r, S9) → Wd D C (va_A (wP C S0) z) s.heap S z H locs s → lv_has ls 2 [(0, .int x0), (1, .int v1)] → W p l e rm_X6_lowestOf s m ([.int x0] : List Value).toArray below meth c H locs 0 0 (MQ below (QiW D C S0 z r S9 z) ([.int x0] : List Value).toArray s 0 0 (va_A (wP C S0) z)) (F0 m 2 ls [])) (S : Hp) (v1 : Int32) (H : Heap) (locs : List Loc) (ls : Array Slot), f_X6_lowestOf_b2 N x0 K2 S v1 = some (r, S9) → Wd D C (va_A (wP C S0) z) s.heap S z H locs s → lv_has ls 2 [(0, .int x0), (1, .int v1)] → W p l e rm_X6_lowestOf s m ([.int x0] : List Value).toArray below meth c H locs 0 0 (MQ below (QiW D C S0 z r S9 z) ([.int x0] : List Value).toArray s 0 0 (va_A (wP C S0) z)) (F0 m 2 ls []) := by
    intro K2 hK2 S v1 H locs ls hg hw hl
    unfold f_X6_lowestOf_b2 at hg
    refine lv_iload_n hx hb dX6_lowestOf_2 rfl (lv_at hl 1 rfl) ?_
    refine lv_bipush (v := (10 : Int32)) hx hb dX6_lowestOf_3 (by decide) ?_
    refine lv_icmp_ge (tgt := 24) hx hb dX6_lowestOf_5 (by decide) (fun c1 => ?_) (fun c1 => ?_)
    · have hg := it_pos hg c1
      refine lv_iconst (v := (-1 : Int32)) hx hb dX6_lowestOf_24 (by decide) ?_
      cases hg
      exact wr_iret hx hb hr hw dX6_lowestOf_25 hlk
    · have hg := it_neg hg c1
      refine lv_iload_n hx hb dX6_lowestOf_8 rfl (lv_at hl 0 rfl) ?_
      refine lv_iconst (v := (1 : Int32)) hx hb dX6_lowestOf_9 (by decide) ?_
      refine lv_iload_n hx hb dX6_lowestOf_10 rfl (lv_at hl 1 rfl) ?_
      refine lv_ishl hx hb dX6_lowestOf_11 ?_
      refine lv_iand hx hb dX6_lowestOf_12 ?_
      refine lv_if_eq (tgt := 18) hx hb dX6_lowestOf_13 (by decide) (fun c2 => ?_) (fun c2 => ?_)
      · have hg := it_pos hg c2
        refine lv_iinc (v := (v1 + (1 : Int32))) (lv' := [(1, .int (v1 + (1 : Int32))), (0, .int x0)]) hx hb dX6_lowestOf_18 hl (k := 1) rfl rfl (by decide) rfl (fun ls hl => ?_)
        refine lv_goto (tgt := 2) hx hb dX6_lowestOf_21 (by decide) ?_
        exact hK2 _ _ _ _ _ hg hw (lv_sub hl [1, 0] rfl)
      · have hg := it_neg hg c2
        refine lv_iload_n hx hb dX6_lowestOf_16 rfl (lv_at hl 1 rfl) ?_
        cases hg
        exact wr_iret hx hb hr hw dX6_lowestOf_17 hlk
  have L2 : ∀ (k : Nat) (S : Hp) (v1 : Int32) (H : Heap) (locs : List Loc) (ls : Array Slot), f_X6_lowestOf_l2 N x0 k S v1 = some (r, S9) → Wd D C (va_A (wP C S0) z) s.heap S z H locs s → lv_has ls 2 [(0, .int x0), (1, .int v1)] → W p l e rm_X6_lowestOf s m ([.int x0] : List Value).toArray below meth c H locs 0 0 (MQ below (QiW D C S0 z r S9 z) ([.int x0] : List Value).toArray s 0 0 (va_A (wP C S0) z)) (F0 m 2 ls []) := by
    intro k
    induction k with
    | zero => intro S v1 H locs ls hg hw hl; exact absurd (show (none : Option (Int32 × Hp)) = some (r, S9) from hg) (by simp)
    | succ k ih => intro S v1 H locs ls hg hw hl; exact B2 (f_X6_lowestOf_l2 N x0 k) ih S v1 H locs ls hg hw hl
  unfold f_X6_lowestOf at hg
  refine lv_iconst (v := (0 : Int32)) hx hb dX6_lowestOf_0 (by decide) ?_
  refine lv_istore_n (lv' := [(1, .int (0 : Int32)), (0, .int x0)]) hx hb dX6_lowestOf_1 rfl hl (by decide) rfl (fun ls hl => ?_)
  exact L2 N _ _ _ _ _ hg hw (lv_sub hl [1, 0] rfl)
def f_X2_otherOf_b2 (N : Nat) (a0 : Nat) (x1 : Int32) (K2 : Hp → Int32 → Option (Int32 × Hp)) (S : Hp) (v2 : Int32) : Option (Int32 × Hp) :=
  gd (ok S a0 2) <| if (hI S a0 4) ≤ v2 then (some ((-1 : Int32), S)) else (nn (hR S a0 3) fun r3 => gd (ok S r3 8) <| if (nI (hN S r3)) ≤ v2 then (some ((-1 : Int32), S)) else (gd (inb v2 (hN S r3)) <| if ((hI S r3 v2.toNatClampNeg) &&& ((1 : Int32) <<< (x1 &&& 31))) = 0 then (K2 S ((v2 + (1 : Int32)))) else (cl (f_X6_lowestOf N S (((hI S r3 v2.toNatClampNeg) &&& (((1 : Int32) <<< (x1 &&& 31)) ^^^ (-1 : Int32))))) fun r8 S8 => some (r8, S8))))
def f_X2_otherOf_l2 (N : Nat) (a0 : Nat) (x1 : Int32) : Nat → Hp → Int32 → Option (Int32 × Hp)
  | 0, _, _ => none
  | k + 1, S, v2 => f_X2_otherOf_b2 N a0 x1 (f_X2_otherOf_l2 N a0 x1 k) S v2
def f_X2_otherOf (N : Nat) (S : Hp) (a0 : Nat) (x1 : Int32) : Option (Int32 × Hp) :=
  f_X2_otherOf_l2 N a0 x1 N S ((0 : Int32))
theorem hi_X2_otherOf_X2 : ∀ w ∈ wsX20, w ∈ wsX2_otherOf := fun _ h => List.mem_cons_of_mem _ (List.mem_append_right _ (h))
abbrev rm_X2_otherOf : Room := { frames := 1, cells := 0, slots := 0, locals := 21 }
set_option maxHeartbeats 4000000 in
set_option maxRecDepth 100000 in
theorem c_X2_otherOf (l : Launch) (D : va_G) (C : C3) (N : Nat) (S0 : Hp) (z : Nat) (a0 : Nat) (x1 : Int32) (r : Int32) (S9 : Hp) (hg : f_X2_otherOf N S0 a0 x1 = some (r, S9)) : MetI l yX2_otherOf wsX2_otherOf rm_X2_otherOf D C S0 z [.ref a0, .int x1] r S9 z 0 0 := by
  refine mw_ofW (cc := cX2_otherOf) (maxL := 3) (ret := (some .int)) (lv := [(0, .ref a0), (1, .int x1)]) (by decide) rfl (Nat.le_of_ble_eq_true rfl) rfl ?_
  intro p e s m below meth c ls hx hb hr hts hown hlk hml hnm hl hw
  have hown : s.vm.findClass RX2 = some m.cls := hown
  have B2 : ∀ (K2 : Hp → Int32 → Option (Int32 × Hp)) (hK2 : ∀ (S : Hp) (v2 : Int32) (H : Heap) (locs : List Loc) (ls : Array Slot), K2 S v2 = some (r, S9) → Wd D C (va_A (wP C S0) z) s.heap S z H locs s → lv_has ls 3 [(0, .ref a0), (1, .int x1), (2, .int v2)] → W p l e rm_X2_otherOf s m ([.ref a0, .int x1] : List Value).toArray below meth c H locs 0 0 (MQ below (QiW D C S0 z r S9 z) ([.ref a0, .int x1] : List Value).toArray s 0 0 (va_A (wP C S0) z)) (F0 m 2 ls [])) (S : Hp) (v2 : Int32) (H : Heap) (locs : List Loc) (ls : Array Slot), f_X2_otherOf_b2 N a0 x1 K2 S v2 = some (r, S9) → Wd D C (va_A (wP C S0) z) s.heap S z H locs s → lv_has ls 3 [(0, .ref a0), (1, .int x1), (2, .int v2)] → W p l e rm_X2_otherOf s m ([.ref a0, .int x1] : List Value).toArray below meth c H locs 0 0 (MQ below (QiW D C S0 z r S9 z) ([.ref a0, .int x1] : List Value).toArray s 0 0 (va_A (wP C S0) z)) (F0 m 2 ls []) := by
    intro K2 hK2 S v2 H locs ls hg hw hl
    unfold f_X2_otherOf_b2 at hg
    refine lv_iload_n hx hb dX2_otherOf_2 rfl (lv_at hl 2 rfl) ?_
    refine lv_aload_n hx hb dX2_otherOf_3 rfl (lv_at hl 0 rfl) ?_
    obtain ⟨hok1, hg⟩ := gd_some hg
    refine wr_get (K := RX2) (T := TX2) (N := 6) (index := 29) (ref := "MakerLines$Pairing") (v := .int (hI S a0 4)) hx hb hts hi_X2_otherOf_X2 hown hw hok1 (wF_2 (S := S) hok1.2) rfl 4 (by decide) (hts _ (List.mem_of_getElem? (i := 1) rfl)) (fun _ h9 => h9) rfl dX2_otherOf_4 ?_
    refine lv_icmp_ge (tgt := 54) hx hb dX2_otherOf_7 (by decide) (fun c2 => ?_) (fun c2 => ?_)
    · have hg := it_pos hg c2
      refine lv_iconst (v := (-1 : Int32)) hx hb dX2_otherOf_54 (by decide) ?_
      cases hg
      exact wr_iret hx hb hr hw dX2_otherOf_55 hlk
    · have hg := it_neg hg c2
      refine lv_iload_n hx hb dX2_otherOf_10 rfl (lv_at hl 2 rfl) ?_
      refine lv_aload_n hx hb dX2_otherOf_11 rfl (lv_at hl 0 rfl) ?_
      obtain ⟨r3, hr3, hg⟩ := nn_some hg
      refine wr_get (K := RX2) (T := TX2) (N := 6) (index := 25) (ref := "MakerLines$Pairing") (v := .ref r3) hx hb hts hi_X2_otherOf_X2 hown hw hok1 (wF_2 (S := S) hok1.2) rfl 3 (by decide) (hts _ (List.mem_of_getElem? (i := 2) rfl)) (fun _ h9 => h9) (congrArg (fun o => some (va_rf o)) hr3) dX2_otherOf_12 ?_
      obtain ⟨hok4, hg⟩ := gd_some hg
      refine wr_alen8 hx hb hw hok4 dX2_otherOf_15 ?_
      refine lv_icmp_ge (tgt := 54) hx hb dX2_otherOf_16 (by decide) (fun c5 => ?_) (fun c5 => ?_)
      · have hg := it_pos hg c5
        refine lv_iconst (v := (-1 : Int32)) hx hb dX2_otherOf_54 (by decide) ?_
        cases hg
        exact wr_iret hx hb hr hw dX2_otherOf_55 hlk
      · have hg := it_neg hg c5
        refine lv_aload_n hx hb dX2_otherOf_19 rfl (lv_at hl 0 rfl) ?_
        refine wr_get (K := RX2) (T := TX2) (N := 6) (index := 25) (ref := "MakerLines$Pairing") (v := .ref r3) hx hb hts hi_X2_otherOf_X2 hown hw hok1 (wF_2 (S := S) hok1.2) rfl 3 (by decide) (hts _ (List.mem_of_getElem? (i := 2) rfl)) (fun _ h9 => h9) (congrArg (fun o => some (va_rf o)) hr3) dX2_otherOf_20 ?_
        refine lv_iload_n hx hb dX2_otherOf_23 rfl (lv_at hl 2 rfl) ?_
        obtain ⟨hin6, hg⟩ := gd_some hg
        refine wr_iald hx hb hw hok4 (inb_vp hin6) dX2_otherOf_24 ?_
        refine lv_iconst (v := (1 : Int32)) hx hb dX2_otherOf_25 (by decide) ?_
        refine lv_iload_n hx hb dX2_otherOf_26 rfl (lv_at hl 1 rfl) ?_
        refine lv_ishl hx hb dX2_otherOf_27 ?_
        refine lv_iand hx hb dX2_otherOf_28 ?_
        refine lv_if_eq (tgt := 48) hx hb dX2_otherOf_29 (by decide) (fun c7 => ?_) (fun c7 => ?_)
        · have hg := it_pos hg c7
          refine lv_iinc (v := (v2 + (1 : Int32))) (lv' := [(2, .int (v2 + (1 : Int32))), (0, .ref a0), (1, .int x1)]) hx hb dX2_otherOf_48 hl (k := 2) rfl rfl (by decide) rfl (fun ls hl => ?_)
          refine lv_goto (tgt := 2) hx hb dX2_otherOf_51 (by decide) ?_
          exact hK2 _ _ _ _ _ hg hw (lv_sub hl [1, 2, 0] rfl)
        · have hg := it_neg hg c7
          refine lv_aload_n hx hb dX2_otherOf_32 rfl (lv_at hl 0 rfl) ?_
          refine wr_get (K := RX2) (T := TX2) (N := 6) (index := 25) (ref := "MakerLines$Pairing") (v := .ref r3) hx hb hts hi_X2_otherOf_X2 hown hw hok1 (wF_2 (S := S) hok1.2) rfl 3 (by decide) (hts _ (List.mem_of_getElem? (i := 2) rfl)) (fun _ h9 => h9) (congrArg (fun o => some (va_rf o)) hr3) dX2_otherOf_33 ?_
          refine lv_iload_n hx hb dX2_otherOf_36 rfl (lv_at hl 2 rfl) ?_
          refine wr_iald hx hb hw hok4 (inb_vp hin6) dX2_otherOf_37 ?_
          refine lv_iconst (v := (1 : Int32)) hx hb dX2_otherOf_38 (by decide) ?_
          refine lv_iload_n hx hb dX2_otherOf_39 rfl (lv_at hl 1 rfl) ?_
          refine lv_ishl hx hb dX2_otherOf_40 ?_
          refine lv_iconst (v := (-1 : Int32)) hx hb dX2_otherOf_41 (by decide) ?_
          refine lv_ixor hx hb dX2_otherOf_42 ?_
          refine lv_iand hx hb dX2_otherOf_43 ?_
          obtain ⟨r8, S8, hc8, hg⟩ := cl_some hg
          refine wr_ci (va_runSN (As := [.int ((hI S r3 v2.toNatClampNeg) &&& (((1 : Int32) <<< (x1 &&& 31)) ^^^ (-1 : Int32)))]) (rest := []) ⟨hx, hb, hml, hown, hts⟩ (c_X6_lowestOf l D C N S z (((hI S r3 v2.toNatClampNeg) &&& (((1 : Int32) <<< (x1 &&& 31)) ^^^ (-1 : Int32)))) r8 S8 hc8) ⟨va_cnB (own := RX2) (index := 53) (host := RX6) 1 hts gX2_otherOf_X6_lowestOf_n53 rfl rfl rfl (hw.2.2.2.2.2.2 _ (List.mem_of_getElem? (i := 0) rfl)) (hts _ (List.mem_of_getElem? (i := 4) rfl)) (by decide +kernel) ⟨Nat.le_of_ble_eq_true rfl, Nat.le_of_ble_eq_true rfl⟩, (hts _ (List.mem_of_getElem? (i := 3) rfl)), trivial⟩ (wd_preS hw) rfl rfl hl.1 rfl (lv_room (Nat.le_of_ble_eq_true rfl)) dX2_otherOf_44 ⟨Nat.le_of_ble_eq_true rfl, Nat.le_of_ble_eq_true rfl⟩) hw (fun H locs hw => ?_)
          cases hg
          exact wr_iret hx hb hr hw dX2_otherOf_47 hlk
  have L2 : ∀ (k : Nat) (S : Hp) (v2 : Int32) (H : Heap) (locs : List Loc) (ls : Array Slot), f_X2_otherOf_l2 N a0 x1 k S v2 = some (r, S9) → Wd D C (va_A (wP C S0) z) s.heap S z H locs s → lv_has ls 3 [(0, .ref a0), (1, .int x1), (2, .int v2)] → W p l e rm_X2_otherOf s m ([.ref a0, .int x1] : List Value).toArray below meth c H locs 0 0 (MQ below (QiW D C S0 z r S9 z) ([.ref a0, .int x1] : List Value).toArray s 0 0 (va_A (wP C S0) z)) (F0 m 2 ls []) := by
    intro k
    induction k with
    | zero => intro S v2 H locs ls hg hw hl; exact absurd (show (none : Option (Int32 × Hp)) = some (r, S9) from hg) (by simp)
    | succ k ih => intro S v2 H locs ls hg hw hl; exact B2 (f_X2_otherOf_l2 N a0 x1 k) ih S v2 H locs ls hg hw hl
  unfold f_X2_otherOf at hg
  refine lv_iconst (v := (0 : Int32)) hx hb dX2_otherOf_0 (by decide) ?_
  refine lv_istore_n (lv' := [(2, .int (0 : Int32)), (0, .ref a0), (1, .int x1)]) hx hb dX2_otherOf_1 rfl hl (by decide) rfl (fun ls hl => ?_)
  exact L2 N _ _ _ _ _ hg hw (lv_sub hl [1, 2, 0] rfl)
def f_X4_allCells (N : Nat) (S : Hp) (a0 : Nat) : Option (Int32 × Hp) :=
  gd (ok S a0 4) <| some ((((1 : Int32) <<< ((hI S a0 1) &&& 31)) - (1 : Int32)), S)
theorem hi_X4_allCells_X4 : ∀ w ∈ wsX40, w ∈ wsX4_allCells := fun _ h => List.mem_cons_of_mem _ (List.mem_append_right _ (h))
abbrev rm_X4_allCells : Room := { frames := 0, cells := 0, slots := 0, locals := 0 }
set_option maxHeartbeats 4000000 in
set_option maxRecDepth 100000 in
theorem c_X4_allCells (l : Launch) (D : va_G) (C : C3) (N : Nat) (S0 : Hp) (z : Nat) (a0 : Nat) (r : Int32) (S9 : Hp) (hg : f_X4_allCells N S0 a0 = some (r, S9)) : MetI l yX4_allCells wsX4_allCells rm_X4_allCells D C S0 z [.ref a0] r S9 z 0 0 := by
  refine mw_ofW (cc := cX4_allCells) (maxL := 1) (ret := (some .int)) (lv := [(0, .ref a0)]) (by decide) rfl (Nat.le_of_ble_eq_true rfl) rfl ?_
  intro p e s m below meth c ls hx hb hr hts hown hlk hml hnm hl hw
  have hown : s.vm.findClass RX4 = some m.cls := hown
  unfold f_X4_allCells at hg
  refine lv_iconst (v := (1 : Int32)) hx hb dX4_allCells_0 (by decide) ?_
  refine lv_aload_n hx hb dX4_allCells_1 rfl (lv_at hl 0 rfl) ?_
  obtain ⟨hok1, hg⟩ := gd_some hg
  refine wr_get (K := RX4) (T := TX4) (N := 10) (index := 18) (ref := "MakerLines$State") (v := .int (hI S a0 1)) hx hb hts hi_X4_allCells_X4 hown hw hok1 (wF_4 (S := S) hok1.2) rfl 1 (by decide) (hts _ (List.mem_of_getElem? (i := 1) rfl)) (fun _ h9 => h9) rfl dX4_allCells_2 ?_
  refine lv_ishl hx hb dX4_allCells_5 ?_
  refine lv_iconst (v := (1 : Int32)) hx hb dX4_allCells_6 (by decide) ?_
  refine lv_isub hx hb dX4_allCells_7 ?_
  cases hg
  exact wr_iret hx hb hr hw dX4_allCells_8 hlk
def f_X4_freeCells (N : Nat) (S : Hp) (a0 : Nat) : Option (Int32 × Hp) :=
  gd (ok S a0 4) <| cl (f_X4_allCells N S a0) fun r2 S2 => gd (ok S2 a0 4) <| some ((r2 &&& (((hI S2 a0 2) ||| (hI S2 a0 3)) ^^^ (-1 : Int32))), S2)
theorem hi_X4_freeCells_X4 : ∀ w ∈ wsX40, w ∈ wsX4_freeCells := fun _ h => List.mem_cons_of_mem _ (List.mem_append_right _ (h))
abbrev rm_X4_freeCells : Room := { frames := 1, cells := 0, slots := 0, locals := 20 }
set_option maxHeartbeats 4000000 in
set_option maxRecDepth 100000 in
theorem c_X4_freeCells (l : Launch) (D : va_G) (C : C3) (N : Nat) (S0 : Hp) (z : Nat) (a0 : Nat) (r : Int32) (S9 : Hp) (hg : f_X4_freeCells N S0 a0 = some (r, S9)) : MetI l yX4_freeCells wsX4_freeCells rm_X4_freeCells D C S0 z [.ref a0] r S9 z 0 0 := by
  refine mw_ofW (cc := cX4_freeCells) (maxL := 1) (ret := (some .int)) (lv := [(0, .ref a0)]) (by decide) rfl (Nat.le_of_ble_eq_true rfl) rfl ?_
  intro p e s m below meth c ls hx hb hr hts hown hlk hml hnm hl hw
  have hown : s.vm.findClass RX4 = some m.cls := hown
  unfold f_X4_freeCells at hg
  refine lv_aload_n hx hb dX4_freeCells_0 rfl (lv_at hl 0 rfl) ?_
  obtain ⟨hok1, hg⟩ := gd_some hg
  obtain ⟨r2, S2, hc2, hg⟩ := cl_some hg
  refine wr_ci (va_runV (As := []) (rest := []) ⟨hx, hb, hml, hown, hts⟩ (c_X4_allCells l D C N S z a0 r2 S2 hc2) (cwV 0 hts gX4_freeCells_X4_allCells rfl rfl rfl (by decide +kernel) ⟨Nat.le_of_ble_eq_true rfl, Nat.le_of_ble_eq_true rfl⟩) (wd_preV hw hok1 (wF_4 (S := S) hok1.2) rfl) rfl rfl hl.1 rfl (lv_room (Nat.le_of_ble_eq_true rfl)) dX4_freeCells_1 ⟨Nat.le_of_ble_eq_true rfl, Nat.le_of_ble_eq_true rfl⟩) hw (fun H locs hw => ?_)
  refine lv_aload_n hx hb dX4_freeCells_4 rfl (lv_at hl 0 rfl) ?_
  obtain ⟨hok3, hg⟩ := gd_some hg
  refine wr_get (K := RX4) (T := TX4) (N := 10) (index := 22) (ref := "MakerLines$State") (v := .int (hI S2 a0 2)) hx hb hts hi_X4_freeCells_X4 hown hw hok3 (wF_4 (S := S2) hok3.2) rfl 2 (by decide) (hts _ (List.mem_of_getElem? (i := 1) rfl)) (fun _ h9 => h9) rfl dX4_freeCells_5 ?_
  refine lv_aload_n hx hb dX4_freeCells_8 rfl (lv_at hl 0 rfl) ?_
  refine wr_get (K := RX4) (T := TX4) (N := 10) (index := 25) (ref := "MakerLines$State") (v := .int (hI S2 a0 3)) hx hb hts hi_X4_freeCells_X4 hown hw hok3 (wF_4 (S := S2) hok3.2) rfl 3 (by decide) (hts _ (List.mem_of_getElem? (i := 2) rfl)) (fun _ h9 => h9) rfl dX4_freeCells_9 ?_
  refine lv_ior hx hb dX4_freeCells_12 ?_
  refine lv_iconst (v := (-1 : Int32)) hx hb dX4_freeCells_13 (by decide) ?_
  refine lv_ixor hx hb dX4_freeCells_14 ?_
  refine lv_iand hx hb dX4_freeCells_15 ?_
  cases hg
  exact wr_iret hx hb hr hw dX4_freeCells_16 hlk
def f_X4_winner (N : Nat) (S : Hp) (a0 : Nat) : Option (Int32 × Hp) :=
  gd (ok S a0 4) <| nn (hR S a0 0) fun r2 => gd (ok S r2 1) <| cl (f_X1_survey N S r2 ((hI S a0 2)) ((hI S a0 3))) fun _ S4 => gd (ok S4 a0 4) <| nn (hR S4 a0 0) fun r6 => gd (ok S4 r6 1) <| some ((hI S4 r6 2), S4)
theorem hi_X4_winner_X1 : ∀ w ∈ wsX10, w ∈ wsX4_winner := fun _ h => List.mem_cons_of_mem _ (List.mem_append_right _ (h))
theorem hi_X4_winner_X4 : ∀ w ∈ wsX40, w ∈ wsX4_winner := fun _ h => List.mem_cons_of_mem _ (List.mem_append_left _ (List.mem_append_right _ (h)))
abbrev rm_X4_winner : Room := { frames := 2, cells := 0, slots := 0, locals := 46 }
set_option maxHeartbeats 4000000 in
set_option maxRecDepth 100000 in
theorem c_X4_winner (l : Launch) (D : va_G) (C : C3) (N : Nat) (S0 : Hp) (z : Nat) (a0 : Nat) (r : Int32) (S9 : Hp) (hg : f_X4_winner N S0 a0 = some (r, S9)) : MetI l yX4_winner wsX4_winner rm_X4_winner D C S0 z [.ref a0] r S9 z 0 0 := by
  refine mw_ofW (cc := cX4_winner) (maxL := 1) (ret := (some .int)) (lv := [(0, .ref a0)]) (by decide) rfl (Nat.le_of_ble_eq_true rfl) rfl ?_
  intro p e s m below meth c ls hx hb hr hts hown hlk hml hnm hl hw
  have hown : s.vm.findClass RX4 = some m.cls := hown
  unfold f_X4_winner at hg
  refine lv_aload_n hx hb dX4_winner_0 rfl (lv_at hl 0 rfl) ?_
  obtain ⟨hok1, hg⟩ := gd_some hg
  obtain ⟨r2, hr2, hg⟩ := nn_some hg
  refine wr_get (K := RX4) (T := TX4) (N := 10) (index := 12) (ref := "MakerLines$State") (v := .ref r2) hx hb hts hi_X4_winner_X4 hown hw hok1 (wF_4 (S := S) hok1.2) rfl 0 (by decide) (hts _ (List.mem_of_getElem? (i := 1) rfl)) (fun _ h9 => h9) (congrArg (fun o => some (va_rf o)) hr2) dX4_winner_1 ?_
  refine lv_aload_n hx hb dX4_winner_4 rfl (lv_at hl 0 rfl) ?_
  refine wr_get (K := RX4) (T := TX4) (N := 10) (index := 22) (ref := "MakerLines$State") (v := .int (hI S a0 2)) hx hb hts hi_X4_winner_X4 hown hw hok1 (wF_4 (S := S) hok1.2) rfl 2 (by decide) (hts _ (List.mem_of_getElem? (i := 2) rfl)) (fun _ h9 => h9) rfl dX4_winner_5 ?_
  refine lv_aload_n hx hb dX4_winner_8 rfl (lv_at hl 0 rfl) ?_
  refine wr_get (K := RX4) (T := TX4) (N := 10) (index := 25) (ref := "MakerLines$State") (v := .int (hI S a0 3)) hx hb hts hi_X4_winner_X4 hown hw hok1 (wF_4 (S := S) hok1.2) rfl 3 (by decide) (hts _ (List.mem_of_getElem? (i := 3) rfl)) (fun _ h9 => h9) rfl dX4_winner_9 ?_
  obtain ⟨hok3, hg⟩ := gd_some hg
  obtain ⟨⟨⟩, S4, hc4, hg⟩ := cl_some hg
  refine wr_cv (va_runV (As := [.int (hI S a0 2), .int (hI S a0 3)]) (rest := []) ⟨hx, hb, hml, hown, hts⟩ (c_X1_survey l D C N S z r2 ((hI S a0 2)) ((hI S a0 3)) () S4 hc4) (cwV 2 hts gX4_winner_X1_survey rfl rfl rfl (by decide +kernel) ⟨Nat.le_of_ble_eq_true rfl, Nat.le_of_ble_eq_true rfl⟩) (wd_preV hw hok3 (wF_1 (S := S) hok3.2) rfl) rfl rfl hl.1 rfl (lv_room (Nat.le_of_ble_eq_true rfl)) dX4_winner_12 ⟨Nat.le_of_ble_eq_true rfl, Nat.le_of_ble_eq_true rfl⟩) hw (fun H locs hw => ?_)
  refine lv_aload_n hx hb dX4_winner_15 rfl (lv_at hl 0 rfl) ?_
  obtain ⟨hok5, hg⟩ := gd_some hg
  obtain ⟨r6, hr6, hg⟩ := nn_some hg
  refine wr_get (K := RX4) (T := TX4) (N := 10) (index := 12) (ref := "MakerLines$State") (v := .ref r6) hx hb hts hi_X4_winner_X4 hown hw hok5 (wF_4 (S := S4) hok5.2) rfl 0 (by decide) (hts _ (List.mem_of_getElem? (i := 1) rfl)) (fun _ h9 => h9) (congrArg (fun o => some (va_rf o)) hr6) dX4_winner_16 ?_
  obtain ⟨hok7, hg⟩ := gd_some hg
  refine wr_get (K := RX1) (T := TX1) (N := 6) (index := 76) (ref := "MakerLines$Lines") (v := .int (hI S4 r6 2)) hx hb hts hi_X4_winner_X1 hown hw hok7 (wF_1 (S := S4) hok7.2) rfl 2 (by decide) (hts _ (List.mem_of_getElem? (i := 4) rfl)) (fun _ h9 => h9) rfl dX4_winner_19 ?_
  cases hg
  exact wr_iret hx hb hr hw dX4_winner_22 hlk
def f_X4_occupy_b109 (N : Nat) (a0 : Nat) (x1 : Int32) (x2 : Int32) (S : Hp) (s0 : Int32) (s1 : Int32) (s2 : Nat) : Option (Unit × Hp) :=
  gd (ok S s2 4) <| some ((), (sI S s2 9 (s1 + s0)))
def f_X4_occupy_b90 (N : Nat) (a0 : Nat) (x1 : Int32) (x2 : Int32) (S : Hp) (v3 : Int32) (s0 : Int32) (s1 : Int32) (s2 : Nat) : Option (Unit × Hp) :=
  gd (ok S s2 4) <| gd (ok ((sI S s2 8 (s1 + s0))) a0 4) <| if ¬ v3 = (2 : Int32) then (f_X4_occupy_b109 N a0 x1 x2 ((sI S s2 8 (s1 + s0))) ((0 : Int32)) ((hI ((sI S s2 8 (s1 + s0))) a0 9)) a0) else (f_X4_occupy_b109 N a0 x1 x2 ((sI S s2 8 (s1 + s0))) ((1 : Int32)) ((hI ((sI S s2 8 (s1 + s0))) a0 9)) a0)
def f_X4_occupy_b47 (N : Nat) (a0 : Nat) (x1 : Int32) (x2 : Int32) (S : Hp) (s0 : Int32) (s1 : Nat) : Option (Unit × Hp) :=
  gd (ok S s1 4) <| gd (isB s0) <| gd (ok ((sI S s1 4 s0)) a0 4) <| cl (f_X4_winner N ((sI (sI (sI (sI S s1 4 s0) a0 5 x1) a0 6 x2) a0 7 ((hI ((sI (sI (sI S s1 4 s0) a0 5 x1) a0 6 x2)) a0 7) + (1 : Int32)))) a0) fun r8 S8 => gd (ok S8 a0 4) <| if ¬ r8 = (1 : Int32) then (f_X4_occupy_b90 N a0 x1 x2 S8 r8 ((0 : Int32)) ((hI S8 a0 8)) a0) else (f_X4_occupy_b90 N a0 x1 x2 S8 r8 ((1 : Int32)) ((hI S8 a0 8)) a0)
def f_X4_occupy_b34 (N : Nat) (a0 : Nat) (x1 : Int32) (x2 : Int32) (S : Hp) : Option (Unit × Hp) :=
  gd (ok S a0 4) <| if ¬ (hI S a0 4) = 0 then (f_X4_occupy_b47 N a0 x1 x2 S ((0 : Int32)) a0) else (f_X4_occupy_b47 N a0 x1 x2 S ((1 : Int32)) a0)
def f_X4_occupy (N : Nat) (S : Hp) (a0 : Nat) (x1 : Int32) (x2 : Int32) : Option (Unit × Hp) :=
  gd (ok S a0 4) <| if (hI S a0 4) = 0 then (f_X4_occupy_b34 N a0 x1 x2 ((sI S a0 3 ((hI S a0 3) ||| ((1 : Int32) <<< (x1 &&& 31)))))) else (f_X4_occupy_b34 N a0 x1 x2 ((sI S a0 2 ((hI S a0 2) ||| ((1 : Int32) <<< (x1 &&& 31))))))
theorem hi_X4_occupy_X4 : ∀ w ∈ wsX40, w ∈ wsX4_occupy := fun _ h => List.mem_cons_of_mem _ (List.mem_append_left _ (List.mem_append_right _ (h)))
abbrev rm_X4_occupy : Room := { frames := 3, cells := 0, slots := 0, locals := 66 }
set_option maxHeartbeats 4000000 in
set_option maxRecDepth 100000 in
theorem c_X4_occupy (l : Launch) (D : va_G) (C : C3) (N : Nat) (S0 : Hp) (z : Nat) (a0 : Nat) (x1 : Int32) (x2 : Int32) (r : Unit) (S9 : Hp) (hg : f_X4_occupy N S0 a0 x1 x2 = some (r, S9)) : MetV l yX4_occupy wsX4_occupy rm_X4_occupy D C S0 z [.ref a0, .int x1, .int x2] r S9 z 0 0 := by
  refine mw_ofW (cc := cX4_occupy) (maxL := 4) (ret := none) (lv := [(0, .ref a0), (1, .int x1), (2, .int x2)]) (by decide) rfl (Nat.le_of_ble_eq_true rfl) rfl ?_
  intro p e s m below meth c ls hx hb hr hts hown hlk hml hnm hl hw
  have hown : s.vm.findClass RX4 = some m.cls := hown
  have B109 : ∀ (S : Hp) (s0 : Int32) (s1 : Int32) (s2 : Nat) (H : Heap) (locs : List Loc) (ls : Array Slot), f_X4_occupy_b109 N a0 x1 x2 S s0 s1 s2 = some (r, S9) → Wd D C (va_A (wP C S0) z) s.heap S z H locs s → lv_has ls 4 [] → W p l e rm_X4_occupy s m ([.ref a0, .int x1, .int x2] : List Value).toArray below meth c H locs 0 0 (MQ below (QvW D C S0 z r S9 z) ([.ref a0, .int x1, .int x2] : List Value).toArray s 0 0 (va_A (wP C S0) z)) (F0 m 109 ls [.int s0, .int s1, .ref s2]) := by
    intro S s0 s1 s2 H locs ls hg hw hl
    unfold f_X4_occupy_b109 at hg
    refine lv_iadd hx hb dX4_occupy_109 ?_
    obtain ⟨hok14, hg⟩ := gd_some hg
    refine wr_put (K := RX4) (T := TX4) (N := 10) (index := 44) (ref := "MakerLines$State") (ty := .int) (S1 := (sI S s2 9 (s1 + s0))) hx hb hts hi_X4_occupy_X4 tyX4 tyX4_ok nmX4 hown hw hok14 (wF_4 (S := S) hok14.2) rfl (fun b hb9 => wF_sI_ne hb9) 9 (wq_4_9 (S := S) hok14.2 _) rfl (by decide) (hts _ (List.mem_of_getElem? (i := 8) rfl)) (fun _ h9 => h9) rfl (by decide +kernel) rfl rfl (by decide) dX4_occupy_110 (fun H locs hw => ?_)
    cases hg
    exact wr_vret hx hb hr hw dX4_occupy_113 hlk
  have B90 : ∀ (S : Hp) (v3 : Int32) (s0 : Int32) (s1 : Int32) (s2 : Nat) (H : Heap) (locs : List Loc) (ls : Array Slot), f_X4_occupy_b90 N a0 x1 x2 S v3 s0 s1 s2 = some (r, S9) → Wd D C (va_A (wP C S0) z) s.heap S z H locs s → lv_has ls 4 [(0, .ref a0), (3, .int v3)] → W p l e rm_X4_occupy s m ([.ref a0, .int x1, .int x2] : List Value).toArray below meth c H locs 0 0 (MQ below (QvW D C S0 z r S9 z) ([.ref a0, .int x1, .int x2] : List Value).toArray s 0 0 (va_A (wP C S0) z)) (F0 m 90 ls [.int s0, .int s1, .ref s2]) := by
    intro S v3 s0 s1 s2 H locs ls hg hw hl
    unfold f_X4_occupy_b90 at hg
    refine lv_iadd hx hb dX4_occupy_90 ?_
    obtain ⟨hok11, hg⟩ := gd_some hg
    refine wr_put (K := RX4) (T := TX4) (N := 10) (index := 41) (ref := "MakerLines$State") (ty := .int) (S1 := (sI S s2 8 (s1 + s0))) hx hb hts hi_X4_occupy_X4 tyX4 tyX4_ok nmX4 hown hw hok11 (wF_4 (S := S) hok11.2) rfl (fun b hb9 => wF_sI_ne hb9) 8 (wq_4_8 (S := S) hok11.2 _) rfl (by decide) (hts _ (List.mem_of_getElem? (i := 7) rfl)) (fun _ h9 => h9) rfl (by decide +kernel) rfl rfl (by decide) dX4_occupy_91 (fun H locs hw => ?_)
    refine lv_aload_n hx hb dX4_occupy_94 rfl (lv_at hl 0 rfl) ?_
    refine lv_dup hx hb dX4_occupy_95 rfl ?_
    obtain ⟨hok12, hg⟩ := gd_some hg
    refine wr_get (K := RX4) (T := TX4) (N := 10) (index := 44) (ref := "MakerLines$State") (v := .int (hI ((sI S s2 8 (s1 + s0))) a0 9)) hx hb hts hi_X4_occupy_X4 hown hw hok12 (wF_4 (S := (sI S s2 8 (s1 + s0))) hok12.2) rfl 9 (by decide) (hts _ (List.mem_of_getElem? (i := 8) rfl)) (fun _ h9 => h9) rfl dX4_occupy_96 ?_
    refine lv_iload_n hx hb dX4_occupy_99 rfl (lv_at hl 1 rfl) ?_
    refine lv_iconst (v := (2 : Int32)) hx hb dX4_occupy_100 (by decide) ?_
    refine lv_icmp_ne (tgt := 108) hx hb dX4_occupy_101 (by decide) (fun c13 => ?_) (fun c13 => ?_)
    · have hg := it_pos hg c13
      refine lv_iconst (v := (0 : Int32)) hx hb dX4_occupy_108 (by decide) ?_
      exact B109 _ _ _ _ _ _ _ hg hw (lv_sub hl [] rfl)
    · have hg := it_neg hg c13
      refine lv_iconst (v := (1 : Int32)) hx hb dX4_occupy_104 (by decide) ?_
      refine lv_goto (tgt := 109) hx hb dX4_occupy_105 (by decide) ?_
      exact B109 _ _ _ _ _ _ _ hg hw (lv_sub hl [] rfl)
  have B47 : ∀ (S : Hp) (s0 : Int32) (s1 : Nat) (H : Heap) (locs : List Loc) (ls : Array Slot), f_X4_occupy_b47 N a0 x1 x2 S s0 s1 = some (r, S9) → Wd D C (va_A (wP C S0) z) s.heap S z H locs s → lv_has ls 4 [(0, .ref a0), (1, .int x1), (2, .int x2)] → W p l e rm_X4_occupy s m ([.ref a0, .int x1, .int x2] : List Value).toArray below meth c H locs 0 0 (MQ below (QvW D C S0 z r S9 z) ([.ref a0, .int x1, .int x2] : List Value).toArray s 0 0 (va_A (wP C S0) z)) (F0 m 47 ls [.int s0, .ref s1]) := by
    intro S s0 s1 H locs ls hg hw hl
    unfold f_X4_occupy_b47 at hg
    obtain ⟨hok5, hg⟩ := gd_some hg
    obtain ⟨hz6, hg⟩ := gd_some hg
    refine wr_put (K := RX4) (T := TX4) (N := 10) (index := 28) (ref := "MakerLines$State") (ty := .boolean) (S1 := (sI S s1 4 s0)) hx hb hts hi_X4_occupy_X4 tyX4 tyX4_ok nmX4 hown hw hok5 (wF_4 (S := S) hok5.2) rfl (fun b hb9 => wF_sI_ne hb9) 4 (wq_4_4 (S := S) hok5.2 _) rfl (by decide) (hts _ (List.mem_of_getElem? (i := 1) rfl)) (fun _ h9 => h9) rfl (by decide +kernel) (isB_nar hz6) rfl (by decide) dX4_occupy_47 (fun H locs hw => ?_)
    refine lv_aload_n hx hb dX4_occupy_50 rfl (lv_at hl 0 rfl) ?_
    refine lv_iload_n hx hb dX4_occupy_51 rfl (lv_at hl 1 rfl) ?_
    obtain ⟨hok7, hg⟩ := gd_some hg
    refine wr_put (K := RX4) (T := TX4) (N := 10) (index := 32) (ref := "MakerLines$State") (ty := .int) (S1 := (sI (sI S s1 4 s0) a0 5 x1)) hx hb hts hi_X4_occupy_X4 tyX4 tyX4_ok nmX4 hown hw hok7 (wF_4 (S := (sI S s1 4 s0)) hok7.2) rfl (fun b hb9 => wF_sI_ne hb9) 5 (wq_4_5 (S := (sI S s1 4 s0)) hok7.2 _) rfl (by decide) (hts _ (List.mem_of_getElem? (i := 4) rfl)) (fun _ h9 => h9) rfl (by decide +kernel) rfl rfl (by decide) dX4_occupy_52 (fun H locs hw => ?_)
    refine lv_aload_n hx hb dX4_occupy_55 rfl (lv_at hl 0 rfl) ?_
    refine lv_iload_n hx hb dX4_occupy_56 rfl (lv_at hl 2 rfl) ?_
    refine wr_put (K := RX4) (T := TX4) (N := 10) (index := 35) (ref := "MakerLines$State") (ty := .int) (S1 := (sI (sI (sI S s1 4 s0) a0 5 x1) a0 6 x2)) hx hb hts hi_X4_occupy_X4 tyX4 tyX4_ok nmX4 hown hw hok7 (wF_4 (S := (sI (sI S s1 4 s0) a0 5 x1)) hok7.2) rfl (fun b hb9 => wF_sI_ne hb9) 6 (wq_4_6 (S := (sI (sI S s1 4 s0) a0 5 x1)) hok7.2 _) rfl (by decide) (hts _ (List.mem_of_getElem? (i := 5) rfl)) (fun _ h9 => h9) rfl (by decide +kernel) rfl rfl (by decide) dX4_occupy_57 (fun H locs hw => ?_)
    refine lv_aload_n hx hb dX4_occupy_60 rfl (lv_at hl 0 rfl) ?_
    refine lv_dup hx hb dX4_occupy_61 rfl ?_
    refine wr_get (K := RX4) (T := TX4) (N := 10) (index := 38) (ref := "MakerLines$State") (v := .int (hI ((sI (sI (sI S s1 4 s0) a0 5 x1) a0 6 x2)) a0 7)) hx hb hts hi_X4_occupy_X4 hown hw hok7 (wF_4 (S := (sI (sI (sI S s1 4 s0) a0 5 x1) a0 6 x2)) hok7.2) rfl 7 (by decide) (hts _ (List.mem_of_getElem? (i := 6) rfl)) (fun _ h9 => h9) rfl dX4_occupy_62 ?_
    refine lv_iconst (v := (1 : Int32)) hx hb dX4_occupy_65 (by decide) ?_
    refine lv_iadd hx hb dX4_occupy_66 ?_
    refine wr_put (K := RX4) (T := TX4) (N := 10) (index := 38) (ref := "MakerLines$State") (ty := .int) (S1 := (sI (sI (sI (sI S s1 4 s0) a0 5 x1) a0 6 x2) a0 7 ((hI ((sI (sI (sI S s1 4 s0) a0 5 x1) a0 6 x2)) a0 7) + (1 : Int32)))) hx hb hts hi_X4_occupy_X4 tyX4 tyX4_ok nmX4 hown hw hok7 (wF_4 (S := (sI (sI (sI S s1 4 s0) a0 5 x1) a0 6 x2)) hok7.2) rfl (fun b hb9 => wF_sI_ne hb9) 7 (wq_4_7 (S := (sI (sI (sI S s1 4 s0) a0 5 x1) a0 6 x2)) hok7.2 _) rfl (by decide) (hts _ (List.mem_of_getElem? (i := 6) rfl)) (fun _ h9 => h9) rfl (by decide +kernel) rfl rfl (by decide) dX4_occupy_67 (fun H locs hw => ?_)
    refine lv_aload_n hx hb dX4_occupy_70 rfl (lv_at hl 0 rfl) ?_
    obtain ⟨r8, S8, hc8, hg⟩ := cl_some hg
    refine wr_ci (va_runV (As := []) (rest := []) ⟨hx, hb, hml, hown, hts⟩ (c_X4_winner l D C N ((sI (sI (sI (sI S s1 4 s0) a0 5 x1) a0 6 x2) a0 7 ((hI ((sI (sI (sI S s1 4 s0) a0 5 x1) a0 6 x2)) a0 7) + (1 : Int32)))) z a0 r8 S8 hc8) (cwV 0 hts gX4_occupy_X4_winner rfl rfl rfl (by decide +kernel) ⟨Nat.le_of_ble_eq_true rfl, Nat.le_of_ble_eq_true rfl⟩) (wd_preV hw hok7 (wF_4 (S := (sI (sI (sI (sI S s1 4 s0) a0 5 x1) a0 6 x2) a0 7 ((hI ((sI (sI (sI S s1 4 s0) a0 5 x1) a0 6 x2)) a0 7) + (1 : Int32)))) hok7.2) rfl) rfl rfl hl.1 rfl (lv_room (Nat.le_of_ble_eq_true rfl)) dX4_occupy_71 ⟨Nat.le_of_ble_eq_true rfl, Nat.le_of_ble_eq_true rfl⟩) hw (fun H locs hw => ?_)
    refine lv_istore_n (lv' := [(3, .int r8), (0, .ref a0), (1, .int x1), (2, .int x2)]) hx hb dX4_occupy_74 rfl hl (by decide) rfl (fun ls hl => ?_)
    refine lv_aload_n hx hb dX4_occupy_75 rfl (lv_at hl 1 rfl) ?_
    refine lv_dup hx hb dX4_occupy_76 rfl ?_
    obtain ⟨hok9, hg⟩ := gd_some hg
    refine wr_get (K := RX4) (T := TX4) (N := 10) (index := 41) (ref := "MakerLines$State") (v := .int (hI S8 a0 8)) hx hb hts hi_X4_occupy_X4 hown hw hok9 (wF_4 (S := S8) hok9.2) rfl 8 (by decide) (hts _ (List.mem_of_getElem? (i := 7) rfl)) (fun _ h9 => h9) rfl dX4_occupy_77 ?_
    refine lv_iload_n hx hb dX4_occupy_80 rfl (lv_at hl 0 rfl) ?_
    refine lv_iconst (v := (1 : Int32)) hx hb dX4_occupy_81 (by decide) ?_
    refine lv_icmp_ne (tgt := 89) hx hb dX4_occupy_82 (by decide) (fun c10 => ?_) (fun c10 => ?_)
    · have hg := it_pos hg c10
      refine lv_iconst (v := (0 : Int32)) hx hb dX4_occupy_89 (by decide) ?_
      exact B90 _ _ _ _ _ _ _ _ hg hw (lv_sub hl [1, 0] rfl)
    · have hg := it_neg hg c10
      refine lv_iconst (v := (1 : Int32)) hx hb dX4_occupy_85 (by decide) ?_
      refine lv_goto (tgt := 90) hx hb dX4_occupy_86 (by decide) ?_
      exact B90 _ _ _ _ _ _ _ _ hg hw (lv_sub hl [1, 0] rfl)
  have B34 : ∀ (S : Hp) (H : Heap) (locs : List Loc) (ls : Array Slot), f_X4_occupy_b34 N a0 x1 x2 S = some (r, S9) → Wd D C (va_A (wP C S0) z) s.heap S z H locs s → lv_has ls 4 [(0, .ref a0), (1, .int x1), (2, .int x2)] → W p l e rm_X4_occupy s m ([.ref a0, .int x1, .int x2] : List Value).toArray below meth c H locs 0 0 (MQ below (QvW D C S0 z r S9 z) ([.ref a0, .int x1, .int x2] : List Value).toArray s 0 0 (va_A (wP C S0) z)) (F0 m 34 ls []) := by
    intro S H locs ls hg hw hl
    unfold f_X4_occupy_b34 at hg
    refine lv_aload_n hx hb dX4_occupy_34 rfl (lv_at hl 0 rfl) ?_
    refine lv_aload_n hx hb dX4_occupy_35 rfl (lv_at hl 0 rfl) ?_
    obtain ⟨hok3, hg⟩ := gd_some hg
    refine wr_get (K := RX4) (T := TX4) (N := 10) (index := 28) (ref := "MakerLines$State") (v := .int (hI S a0 4)) hx hb hts hi_X4_occupy_X4 hown hw hok3 (wF_4 (S := S) hok3.2) rfl 4 (by decide) (hts _ (List.mem_of_getElem? (i := 1) rfl)) (fun _ h9 => h9) rfl dX4_occupy_36 ?_
    refine lv_if_ne (tgt := 46) hx hb dX4_occupy_39 (by decide) (fun c4 => ?_) (fun c4 => ?_)
    · have hg := it_pos hg c4
      refine lv_iconst (v := (0 : Int32)) hx hb dX4_occupy_46 (by decide) ?_
      exact B47 _ _ _ _ _ _ hg hw (lv_sub hl [0, 1, 2] rfl)
    · have hg := it_neg hg c4
      refine lv_iconst (v := (1 : Int32)) hx hb dX4_occupy_42 (by decide) ?_
      refine lv_goto (tgt := 47) hx hb dX4_occupy_43 (by decide) ?_
      exact B47 _ _ _ _ _ _ hg hw (lv_sub hl [0, 1, 2] rfl)
  unfold f_X4_occupy at hg
  refine lv_aload_n hx hb dX4_occupy_0 rfl (lv_at hl 0 rfl) ?_
  obtain ⟨hok1, hg⟩ := gd_some hg
  refine wr_get (K := RX4) (T := TX4) (N := 10) (index := 28) (ref := "MakerLines$State") (v := .int (hI S a0 4)) hx hb hts hi_X4_occupy_X4 hown hw hok1 (wF_4 (S := S) hok1.2) rfl 4 (by decide) (hts _ (List.mem_of_getElem? (i := 1) rfl)) (fun _ h9 => h9) rfl dX4_occupy_1 ?_
  refine lv_if_eq (tgt := 22) hx hb dX4_occupy_4 (by decide) (fun c2 => ?_) (fun c2 => ?_)
  · have hg := it_pos hg c2
    refine lv_aload_n hx hb dX4_occupy_22 rfl (lv_at hl 0 rfl) ?_
    refine lv_dup hx hb dX4_occupy_23 rfl ?_
    refine wr_get (K := RX4) (T := TX4) (N := 10) (index := 25) (ref := "MakerLines$State") (v := .int (hI S a0 3)) hx hb hts hi_X4_occupy_X4 hown hw hok1 (wF_4 (S := S) hok1.2) rfl 3 (by decide) (hts _ (List.mem_of_getElem? (i := 3) rfl)) (fun _ h9 => h9) rfl dX4_occupy_24 ?_
    refine lv_iconst (v := (1 : Int32)) hx hb dX4_occupy_27 (by decide) ?_
    refine lv_iload_n hx hb dX4_occupy_28 rfl (lv_at hl 1 rfl) ?_
    refine lv_ishl hx hb dX4_occupy_29 ?_
    refine lv_ior hx hb dX4_occupy_30 ?_
    refine wr_put (K := RX4) (T := TX4) (N := 10) (index := 25) (ref := "MakerLines$State") (ty := .int) (S1 := (sI S a0 3 ((hI S a0 3) ||| ((1 : Int32) <<< (x1 &&& 31))))) hx hb hts hi_X4_occupy_X4 tyX4 tyX4_ok nmX4 hown hw hok1 (wF_4 (S := S) hok1.2) rfl (fun b hb9 => wF_sI_ne hb9) 3 (wq_4_3 (S := S) hok1.2 _) rfl (by decide) (hts _ (List.mem_of_getElem? (i := 3) rfl)) (fun _ h9 => h9) rfl (by decide +kernel) rfl rfl (by decide) dX4_occupy_31 (fun H locs hw => ?_)
    exact B34 _ _ _ _ hg hw (lv_sub hl [0, 1, 2] rfl)
  · have hg := it_neg hg c2
    refine lv_aload_n hx hb dX4_occupy_7 rfl (lv_at hl 0 rfl) ?_
    refine lv_dup hx hb dX4_occupy_8 rfl ?_
    refine wr_get (K := RX4) (T := TX4) (N := 10) (index := 22) (ref := "MakerLines$State") (v := .int (hI S a0 2)) hx hb hts hi_X4_occupy_X4 hown hw hok1 (wF_4 (S := S) hok1.2) rfl 2 (by decide) (hts _ (List.mem_of_getElem? (i := 2) rfl)) (fun _ h9 => h9) rfl dX4_occupy_9 ?_
    refine lv_iconst (v := (1 : Int32)) hx hb dX4_occupy_12 (by decide) ?_
    refine lv_iload_n hx hb dX4_occupy_13 rfl (lv_at hl 1 rfl) ?_
    refine lv_ishl hx hb dX4_occupy_14 ?_
    refine lv_ior hx hb dX4_occupy_15 ?_
    refine wr_put (K := RX4) (T := TX4) (N := 10) (index := 22) (ref := "MakerLines$State") (ty := .int) (S1 := (sI S a0 2 ((hI S a0 2) ||| ((1 : Int32) <<< (x1 &&& 31))))) hx hb hts hi_X4_occupy_X4 tyX4 tyX4_ok nmX4 hown hw hok1 (wF_4 (S := S) hok1.2) rfl (fun b hb9 => wF_sI_ne hb9) 2 (wq_4_2 (S := S) hok1.2 _) rfl (by decide) (hts _ (List.mem_of_getElem? (i := 2) rfl)) (fun _ h9 => h9) rfl (by decide +kernel) rfl rfl (by decide) dX4_occupy_16 (fun H locs hw => ?_)
    refine lv_goto (tgt := 34) hx hb dX4_occupy_19 (by decide) ?_
    exact B34 _ _ _ _ hg hw (lv_sub hl [0, 1, 2] rfl)
def f_X5_hashOnto_b15 (N : Nat) (a0 : Nat) (y1 : Int64) (K15 : Hp → Int64 → Int32 → Option (Int64 × Hp)) (S : Hp) (l3 : Int64) (v5 : Int32) : Option (Int64 × Hp) :=
  gd (ok S a0 5) <| if (hI S a0 1) ≤ v5 then (some (l3, S)) else (nn (hR S a0 0) fun r4 => gd (ok S r4 8) <| if (nI (hN S r4)) ≤ v5 then (some (l3, S)) else (gd (inb v5 (hN S r4)) <| K15 S ((((31 : Int64) * l3) + (Int32.toInt64 (hI S r4 v5.toNatClampNeg)))) ((v5 + (1 : Int32)))))
def f_X5_hashOnto_l15 (N : Nat) (a0 : Nat) (y1 : Int64) : Nat → Hp → Int64 → Int32 → Option (Int64 × Hp)
  | 0, _, _, _ => none
  | k + 1, S, l3, v5 => f_X5_hashOnto_b15 N a0 y1 (f_X5_hashOnto_l15 N a0 y1 k) S l3 v5
def f_X5_hashOnto (N : Nat) (S : Hp) (a0 : Nat) (y1 : Int64) : Option (Int64 × Hp) :=
  gd (ok S a0 5) <| f_X5_hashOnto_l15 N a0 y1 N S ((((31 : Int64) * y1) + (Int32.toInt64 (hI S a0 1)))) ((0 : Int32))
theorem hi_X5_hashOnto_X5 : ∀ w ∈ wsX50, w ∈ wsX5_hashOnto := fun _ h => List.mem_cons_of_mem _ (List.mem_append_right _ (h))
abbrev rm_X5_hashOnto : Room := { frames := 0, cells := 0, slots := 0, locals := 0 }
set_option maxHeartbeats 4000000 in
set_option maxRecDepth 100000 in
theorem c_X5_hashOnto (l : Launch) (D : va_G) (C : C3) (N : Nat) (S0 : Hp) (z : Nat) (a0 : Nat) (y1 : Int64) (r : Int64) (S9 : Hp) (hg : f_X5_hashOnto N S0 a0 y1 = some (r, S9)) : MetL l yX5_hashOnto wsX5_hashOnto rm_X5_hashOnto D C S0 z [.ref a0, .long y1] r S9 z 0 0 := by
  refine mw_ofW (cc := cX5_hashOnto) (maxL := 6) (ret := (some .long)) (lv := [(0, .ref a0), (1, .long y1)]) (by decide) rfl (Nat.le_of_ble_eq_true rfl) rfl ?_
  intro p e s m below meth c ls hx hb hr hts hown hlk hml hnm hl hw
  have hown : s.vm.findClass RX5 = some m.cls := hown
  have B15 : ∀ (K15 : Hp → Int64 → Int32 → Option (Int64 × Hp)) (hK15 : ∀ (S : Hp) (l3 : Int64) (v5 : Int32) (H : Heap) (locs : List Loc) (ls : Array Slot), K15 S l3 v5 = some (r, S9) → Wd D C (va_A (wP C S0) z) s.heap S z H locs s → lv_has ls 6 [(0, .ref a0), (3, .long l3), (5, .int v5)] → W p l e rm_X5_hashOnto s m ([.ref a0, .long y1] : List Value).toArray below meth c H locs 0 0 (MQ below (QlW D C S0 z r S9 z) ([.ref a0, .long y1] : List Value).toArray s 0 0 (va_A (wP C S0) z)) (F0 m 15 ls [])) (S : Hp) (l3 : Int64) (v5 : Int32) (H : Heap) (locs : List Loc) (ls : Array Slot), f_X5_hashOnto_b15 N a0 y1 K15 S l3 v5 = some (r, S9) → Wd D C (va_A (wP C S0) z) s.heap S z H locs s → lv_has ls 6 [(0, .ref a0), (3, .long l3), (5, .int v5)] → W p l e rm_X5_hashOnto s m ([.ref a0, .long y1] : List Value).toArray below meth c H locs 0 0 (MQ below (QlW D C S0 z r S9 z) ([.ref a0, .long y1] : List Value).toArray s 0 0 (va_A (wP C S0) z)) (F0 m 15 ls []) := by
    intro K15 hK15 S l3 v5 H locs ls hg hw hl
    unfold f_X5_hashOnto_b15 at hg
    refine lv_iload hx hb dX5_hashOnto_15 (lv_at hl 2 rfl) ?_
    refine lv_aload_n hx hb dX5_hashOnto_17 rfl (lv_at hl 0 rfl) ?_
    obtain ⟨hok2, hg⟩ := gd_some hg
    refine wr_get (K := RX5) (T := TX5) (N := 2) (index := 15) (ref := "MakerLines$Text") (v := .int (hI S a0 1)) hx hb hts hi_X5_hashOnto_X5 hown hw hok2 (wF_5 (S := S) hok2.2) rfl 1 (by decide) (hts _ (List.mem_of_getElem? (i := 2) rfl)) (fun _ h9 => h9) rfl dX5_hashOnto_18 ?_
    refine lv_icmp_ge (tgt := 55) hx hb dX5_hashOnto_21 (by decide) (fun c3 => ?_) (fun c3 => ?_)
    · have hg := it_pos hg c3
      refine lv_lload_n hx hb dX5_hashOnto_55 rfl (lv_at hl 1 rfl) ?_
      cases hg
      exact wr_lret hx hb hr hw dX5_hashOnto_56 hlk
    · have hg := it_neg hg c3
      refine lv_iload hx hb dX5_hashOnto_24 (lv_at hl 2 rfl) ?_
      refine lv_aload_n hx hb dX5_hashOnto_26 rfl (lv_at hl 0 rfl) ?_
      obtain ⟨r4, hr4, hg⟩ := nn_some hg
      refine wr_get (K := RX5) (T := TX5) (N := 2) (index := 9) (ref := "MakerLines$Text") (v := .ref r4) hx hb hts hi_X5_hashOnto_X5 hown hw hok2 (wF_5 (S := S) hok2.2) rfl 0 (by decide) (hts _ (List.mem_of_getElem? (i := 3) rfl)) (fun _ h9 => h9) (congrArg (fun o => some (va_rf o)) hr4) dX5_hashOnto_27 ?_
      obtain ⟨hok5, hg⟩ := gd_some hg
      refine wr_alen8 hx hb hw hok5 dX5_hashOnto_30 ?_
      refine lv_icmp_ge (tgt := 55) hx hb dX5_hashOnto_31 (by decide) (fun c6 => ?_) (fun c6 => ?_)
      · have hg := it_pos hg c6
        refine lv_lload_n hx hb dX5_hashOnto_55 rfl (lv_at hl 1 rfl) ?_
        cases hg
        exact wr_lret hx hb hr hw dX5_hashOnto_56 hlk
      · have hg := it_neg hg c6
        refine lv_ldc2 (own := RX5) (index := 29) (v := (31 : Int64)) hx hb hown (hts _ (List.mem_of_getElem? (i := 1) rfl)) dX5_hashOnto_34 ?_
        refine lv_lload_n hx hb dX5_hashOnto_37 rfl (lv_at hl 1 rfl) ?_
        refine lv_lmul hx hb dX5_hashOnto_38 ?_
        refine lv_aload_n hx hb dX5_hashOnto_39 rfl (lv_at hl 0 rfl) ?_
        refine wr_get (K := RX5) (T := TX5) (N := 2) (index := 9) (ref := "MakerLines$Text") (v := .ref r4) hx hb hts hi_X5_hashOnto_X5 hown hw hok2 (wF_5 (S := S) hok2.2) rfl 0 (by decide) (hts _ (List.mem_of_getElem? (i := 3) rfl)) (fun _ h9 => h9) (congrArg (fun o => some (va_rf o)) hr4) dX5_hashOnto_40 ?_
        refine lv_iload hx hb dX5_hashOnto_43 (lv_at hl 2 rfl) ?_
        obtain ⟨hin7, hg⟩ := gd_some hg
        refine wr_iald hx hb hw hok5 (inb_vp hin7) dX5_hashOnto_45 ?_
        refine lv_i2l (v := (Int32.toInt64 (hI S r4 v5.toNatClampNeg))) hx hb dX5_hashOnto_46 rfl ?_
        refine lv_ladd hx hb dX5_hashOnto_47 ?_
        refine lv_lstore_n (lv' := [(3, .long (((31 : Int64) * l3) + (Int32.toInt64 (hI S r4 v5.toNatClampNeg)))), (0, .ref a0), (5, .int v5)]) hx hb dX5_hashOnto_48 rfl hl (by decide) rfl (fun ls hl => ?_)
        refine lv_iinc (v := (v5 + (1 : Int32))) (lv' := [(5, .int (v5 + (1 : Int32))), (3, .long (((31 : Int64) * l3) + (Int32.toInt64 (hI S r4 v5.toNatClampNeg)))), (0, .ref a0)]) hx hb dX5_hashOnto_49 hl (k := 2) rfl rfl (by decide) rfl (fun ls hl => ?_)
        refine lv_goto (tgt := 15) hx hb dX5_hashOnto_52 (by decide) ?_
        exact hK15 _ _ _ _ _ _ hg hw (lv_sub hl [2, 1, 0] rfl)
  have L15 : ∀ (k : Nat) (S : Hp) (l3 : Int64) (v5 : Int32) (H : Heap) (locs : List Loc) (ls : Array Slot), f_X5_hashOnto_l15 N a0 y1 k S l3 v5 = some (r, S9) → Wd D C (va_A (wP C S0) z) s.heap S z H locs s → lv_has ls 6 [(0, .ref a0), (3, .long l3), (5, .int v5)] → W p l e rm_X5_hashOnto s m ([.ref a0, .long y1] : List Value).toArray below meth c H locs 0 0 (MQ below (QlW D C S0 z r S9 z) ([.ref a0, .long y1] : List Value).toArray s 0 0 (va_A (wP C S0) z)) (F0 m 15 ls []) := by
    intro k
    induction k with
    | zero => intro S l3 v5 H locs ls hg hw hl; exact absurd (show (none : Option (Int64 × Hp)) = some (r, S9) from hg) (by simp)
    | succ k ih => intro S l3 v5 H locs ls hg hw hl; exact B15 (f_X5_hashOnto_l15 N a0 y1 k) ih S l3 v5 H locs ls hg hw hl
  unfold f_X5_hashOnto at hg
  refine lv_ldc2 (own := RX5) (index := 29) (v := (31 : Int64)) hx hb hown (hts _ (List.mem_of_getElem? (i := 1) rfl)) dX5_hashOnto_0 ?_
  refine lv_lload_n hx hb dX5_hashOnto_3 rfl (lv_at hl 1 rfl) ?_
  refine lv_lmul hx hb dX5_hashOnto_4 ?_
  refine lv_aload_n hx hb dX5_hashOnto_5 rfl (lv_at hl 0 rfl) ?_
  obtain ⟨hok1, hg⟩ := gd_some hg
  refine wr_get (K := RX5) (T := TX5) (N := 2) (index := 15) (ref := "MakerLines$Text") (v := .int (hI S a0 1)) hx hb hts hi_X5_hashOnto_X5 hown hw hok1 (wF_5 (S := S) hok1.2) rfl 1 (by decide) (hts _ (List.mem_of_getElem? (i := 2) rfl)) (fun _ h9 => h9) rfl dX5_hashOnto_6 ?_
  refine lv_i2l (v := (Int32.toInt64 (hI S a0 1))) hx hb dX5_hashOnto_9 rfl ?_
  refine lv_ladd hx hb dX5_hashOnto_10 ?_
  refine lv_lstore_n (lv' := [(3, .long (((31 : Int64) * y1) + (Int32.toInt64 (hI S a0 1)))), (0, .ref a0), (1, .long y1)]) hx hb dX5_hashOnto_11 rfl hl (by decide) rfl (fun ls hl => ?_)
  refine lv_iconst (v := (0 : Int32)) hx hb dX5_hashOnto_12 (by decide) ?_
  refine lv_istore (lv' := [(5, .int (0 : Int32)), (3, .long (((31 : Int64) * y1) + (Int32.toInt64 (hI S a0 1)))), (0, .ref a0), (1, .long y1)]) hx hb dX5_hashOnto_13 hl (by decide) rfl (fun ls hl => ?_)
  exact L15 N _ _ _ _ _ _ hg hw (lv_sub hl [2, 1, 0] rfl)
