theorem lw_bm (a : Int) (h1 : -2147483648 ≤ a) (h2 : a < 2147483648) : Int.bmod a (2 ^ 32) = a := Int.bmod_eq_of_le (by omega) (by omega)
theorem lw_gt {L n : Nat} (hLL : L ≤ 2048) (hn : n ≤ 2052) : (Int32.ofNat L - 4 < nI n) ↔ L < n + 4 := by
  rw [Int32.lt_iff_toInt_lt, Int32.toInt_sub, nI_toInt (by omega), show (Int32.ofNat L).toInt = (L : Int) from nI_toInt (n := L) (by omega), show (4 : Int32).toInt = 4 from rfl, lw_bm _ (by omega) (by omega)]
  omega
theorem lw_vp {a L : Nat} (h : a < L) (hLL : L ≤ 2048) : vp_in (nI a) L := vp_in_iff.mpr ⟨by rw [nI_toInt (by omega)]; omega, by rw [nI_toInt (by omega)]; omega⟩
theorem lw_add (n j : Nat) : nI n + Int32.ofNat j = nI (n + j) := (Int32.ofNat_add n j).symm
set_option maxHeartbeats 4000000 in
set_option maxRecDepth 100000 in
theorem lw_loop {p : Program} (l : Launch) (hlt : l.stackTraces = false) {e : Env} {s : State} {m : MethodId} {b : Nat} {below : List Frame} {meth : Method} {c : Code} {D : va_G} {C : C3} {L : Nat} {xs : Nat → Int32} {I : Nat → Nat → Nat → Nat → Hp → Prop} {N x mm o : Nat} (hLL : L ≤ 2048) (CF : CallFix p m c cL_law 9 s #[Value.ref b] wsL_law RL) (hr : meth.sig.returnType = ret) (hlk : meth.locks = false) (hX : va_X b L xs s s.heap) (hbl : b < s.heap.size) (hthr : ThrOk (fun q : Nat => s.heap.size ≤ q) s s.heap) (hI9 : ∀ k S z, I (k + 1) x mm o S → (∀ a ∈ hL S, a < z) → LawStep N (I k) x mm o S z) (hM9 : ∀ k S, I (k + 1) x mm o S → I k x mm o S) :
    ∀ (k n : Nat) (S : Hp) (z : Nat) (H : Heap) (locs : List Loc) (cells slots : Nat) (ls : Array Slot), L ≤ n + 4 * k → n ≤ 2048 → I k x mm o S → Wd D C (fun q : Nat => s.heap.size ≤ q) s.heap S z H locs s → lv_has ls 9 [(4, .int (nI n)), (3, .ref o), (2, .ref mm), (1, .ref x), (0, .ref b)] → cells + 4 * k ≤ 601024 → slots + 64 * k ≤ 7293034 → W p l e room_1 s m #[Value.ref b] below meth c H locs cells slots (lw_Z below #[Value.ref b] s) (F0 m 23 ls []) := by
  have CF0 := CF
  obtain ⟨hx, hb, hml, hown, hts⟩ := CF
  have hbA : ¬ (fun q : Nat => s.heap.size ≤ q) b := Nat.not_le.mpr hbl
  intro k
  induction k with
  | zero =>
    intro n S z H locs cells slots ls hk hn hI hw hl hc hs
    refine lv_iload hx hb dL_law_23 (lv_at hl 0 rfl) ?_
    refine lv_aload_n hx hb dL_law_25 rfl (lv_at hl 4 rfl) ?_
    refine va_slen hx hb hX hbl hbA hw.2.2.2.1 dL_law_26 ?_
    refine lv_iconst (v := (4 : Int32)) hx hb dL_law_27 (by decide) ?_
    refine lv_isub hx hb dL_law_28 ?_
    refine lv_icmp_gt (tgt := 1304) hx hb dL_law_29 (by decide) (fun q => ?_) (fun q => ?_)
    · refine lv_iconst (v := (1 : Int32)) hx hb dL_law_1304 (by decide) ?_
      refine va_forget hw.2.2.2.1.2.2 ?_
      refine W.widen (k := 601024) (n := 7293034) (by omega) (by omega) ?_
      exact W.base (lw_ret (Drawn.sameBut.refl s.drawn lw_cs) hx hb hr hlk dL_law_1305)
    · exact absurd ((lw_gt hLL (by omega)).mpr (by omega)) q
  | succ k ih =>
    intro n S z H locs cells slots ls hk hn hI hw hl hc hs
    refine lv_iload hx hb dL_law_23 (lv_at hl 0 rfl) ?_
    refine lv_aload_n hx hb dL_law_25 rfl (lv_at hl 4 rfl) ?_
    refine va_slen hx hb hX hbl hbA hw.2.2.2.1 dL_law_26 ?_
    refine lv_iconst (v := (4 : Int32)) hx hb dL_law_27 (by decide) ?_
    refine lv_isub hx hb dL_law_28 ?_
    refine lv_icmp_gt (tgt := 1304) hx hb dL_law_29 (by decide) (fun q => ?_) (fun q => ?_)
    · refine lv_iconst (v := (1 : Int32)) hx hb dL_law_1304 (by decide) ?_
      refine va_forget hw.2.2.2.1.2.2 ?_
      refine W.widen (k := 601024) (n := 7293034) (by omega) (by omega) ?_
      exact W.base (lw_ret (Drawn.sameBut.refl s.drawn lw_cs) hx hb hr hlk dL_law_1305)
    · have hn4 : n + 4 ≤ L := Nat.not_lt.mp (fun h => q ((lw_gt hLL (by omega)).mpr h))
      refine lv_aload_n hx hb dL_law_32 rfl (lv_at hl 4 rfl) ?_
      refine lv_iload hx hb dL_law_33 (lv_at hl 0 rfl) ?_
      refine va_sld hx hb hX hbl hbA hw.2.2.2.1 (lw_vp (by omega) hLL) dL_law_35 ?_
      refine lv_bipush (v := (31 : Int32)) hx hb dL_law_36 (by decide) ?_
      refine lv_iand hx hb dL_law_38 ?_
      have hst := hI9 k S z hI (fun a ha => Nat.not_le.mp (fun h => wd_out hw h ha))
      obtain ⟨h0, h1, h2, h3, h4, h5, h6, h7, h8, h9, h10, h11, h12, h13, h14, h15, h16, h17, h18, h19, h20, h21, h22⟩ := hst
      have hi1 : vp_in (nI n + (1 : Int32)) L := by
          rw [show nI n + (1 : Int32) = nI (n + 1) from lw_add n 1]
          exact lw_vp (by omega) hLL
      have hi2 : vp_in (nI n + (2 : Int32)) L := by
          rw [show nI n + (2 : Int32) = nI (n + 2) from lw_add n 2]
          exact lw_vp (by omega) hLL
      have hi3 : vp_in (nI n + (3 : Int32)) L := by
          rw [show nI n + (3 : Int32) = nI (n + 3) from lw_add n 3]
          exact lw_vp (by omega) hLL
      have kk : ∀ (S9 : Hp) (z9 : Nat) (H9 : Heap) (locs9 : List Loc) (cs ss : Nat) (ls9 : Array Slot), cs ≤ cells + 4 → ss ≤ slots + 64 → I k x mm o S9 → Wd D C (fun q : Nat => s.heap.size ≤ q) s.heap S9 z9 H9 locs9 s → lv_has ls9 9 [(4, .int (nI n)), (3, .ref o), (2, .ref mm), (1, .ref x), (0, .ref b)] → W p l e room_1 s m #[Value.ref b] below meth c H9 locs9 cs ss (lw_Z below #[Value.ref b] s) (F0 m 1298 ls9 []) := by
          intro S9 z9 H9 locs9 cs ss ls9 hcs hss hI hw hl
          refine lv_iinc (v := nI (n + 4)) (lv' := [(4, .int (nI (n + 4))), (3, .ref o), (2, .ref mm), (1, .ref x), (0, .ref b)]) hx hb dL_law_1298 hl (k := 0) rfl (lw_add n 4) (by decide) rfl (fun ls hl => ?_)
          refine lv_goto (tgt := 23) hx hb dL_law_1301 (by decide) ?_
          exact ih (n + 4) S9 z9 H9 locs9 cs ss ls (by omega) (by omega) hI hw hl (by omega) (by omega)
      generalize xs (nI n).toNatClampNeg &&& 31 = v
      by_cases c0 : v = 0
      · refine lv_tableIn (tgt := 144) hx hb dL_law_39 (by rw [c0]; decide) (by rw [c0]; decide) (off := 105) (by rw [c0]; rfl) (by decide) ?_
        exact lwc_0 l hlt CF0 hX hbl hbA hi1 (h0 _) hthr hw hl (by omega) (by omega) kk
      by_cases c1 : v = 1
      · refine lv_tableIn (tgt := 200) hx hb dL_law_39 (by rw [c1]; decide) (by rw [c1]; decide) (off := 161) (by rw [c1]; rfl) (by decide) ?_
        exact lwc_1 l hlt CF0 hX hbl hbA hi1 (h1 _) hthr hw hl (by omega) (by omega) kk
      by_cases c2 : v = 2
      · refine lv_tableIn (tgt := 256) hx hb dL_law_39 (by rw [c2]; decide) (by rw [c2]; decide) (off := 217) (by rw [c2]; rfl) (by decide) ?_
        exact lwc_2 l hlt CF0 hX hbl hbA hi1 (h2 _) hthr hw hl (by omega) (by omega) kk
      by_cases c3 : v = 3
      · refine lv_tableIn (tgt := 312) hx hb dL_law_39 (by rw [c3]; decide) (by rw [c3]; decide) (off := 273) (by rw [c3]; rfl) (by decide) ?_
        exact lwc_3 l hlt CF0 hX hbl hbA hi1 h3 hthr hw hl (by omega) (by omega) kk
      by_cases c4 : v = 4
      · refine lv_tableIn (tgt := 353) hx hb dL_law_39 (by rw [c4]; decide) (by rw [c4]; decide) (off := 314) (by rw [c4]; rfl) (by decide) ?_
        exact lwc_4 l hlt CF0 hX hbl hbA hi1 (h4 _) hthr hw hl (by omega) (by omega) kk
      by_cases c5 : v = 5
      · refine lv_tableIn (tgt := 409) hx hb dL_law_39 (by rw [c5]; decide) (by rw [c5]; decide) (off := 370) (by rw [c5]; rfl) (by decide) ?_
        exact lwc_5 l hlt CF0 hX hbl hbA h5 hthr hw hl (by omega) (by omega) kk
      by_cases c6 : v = 6
      · refine lv_tableIn (tgt := 453) hx hb dL_law_39 (by rw [c6]; decide) (by rw [c6]; decide) (off := 414) (by rw [c6]; rfl) (by decide) ?_
        exact lwc_6 l hlt CF0 hX hbl hbA hi1 hi2 hi3 (h6 _ _ _) hthr hw hl (by omega) (by omega) kk
      by_cases c7 : v = 7
      · refine lv_tableIn (tgt := 533) hx hb dL_law_39 (by rw [c7]; decide) (by rw [c7]; decide) (off := 494) (by rw [c7]; rfl) (by decide) ?_
        exact lwc_7 l hlt CF0 hX hbl hbA hi1 (h7 _) hthr hw hl (by omega) (by omega) kk
      by_cases c8 : v = 8
      · refine lv_tableIn (tgt := 589) hx hb dL_law_39 (by rw [c8]; decide) (by rw [c8]; decide) (off := 550) (by rw [c8]; rfl) (by decide) ?_
        exact lwc_8 l hlt CF0 hX hbl hbA h8 hthr hw hl (by omega) (by omega) kk
      by_cases c9 : v = 9
      · refine lv_tableIn (tgt := 602) hx hb dL_law_39 (by rw [c9]; decide) (by rw [c9]; decide) (off := 563) (by rw [c9]; rfl) (by decide) ?_
        exact lwc_9 l hlt CF0 hX hbl hbA h9 hthr hw hl (by omega) (by omega) kk
      by_cases c10 : v = 10
      · refine lv_tableIn (tgt := 615) hx hb dL_law_39 (by rw [c10]; decide) (by rw [c10]; decide) (off := 576) (by rw [c10]; rfl) (by decide) ?_
        exact lwc_10 l hlt CF0 hX hbl hbA h10 hthr hw hl (by omega) (by omega) kk
      by_cases c11 : v = 11
      · refine lv_tableIn (tgt := 659) hx hb dL_law_39 (by rw [c11]; decide) (by rw [c11]; decide) (off := 620) (by rw [c11]; rfl) (by decide) ?_
        exact lwc_11 l hlt CF0 hX hbl hbA hi1 (h11 _) hthr hw hl (by omega) (by omega) kk
      by_cases c12 : v = 12
      · refine lv_tableIn (tgt := 715) hx hb dL_law_39 (by rw [c12]; decide) (by rw [c12]; decide) (off := 676) (by rw [c12]; rfl) (by decide) ?_
        exact lwc_12 l hlt CF0 hX hbl hbA hi1 (h12 _) hthr hw hl (by omega) (by omega) kk
      by_cases c13 : v = 13
      · refine lv_tableIn (tgt := 771) hx hb dL_law_39 (by rw [c13]; decide) (by rw [c13]; decide) (off := 732) (by rw [c13]; rfl) (by decide) ?_
        exact lwc_13 l hlt CF0 hX hbl hbA h13 hthr hw hl (by omega) (by omega) kk
      by_cases c14 : v = 14
      · refine lv_tableIn (tgt := 815) hx hb dL_law_39 (by rw [c14]; decide) (by rw [c14]; decide) (off := 776) (by rw [c14]; rfl) (by decide) ?_
        exact lwc_14 l hlt CF0 hX hbl hbA hi1 hi2 (h14 _ _) hthr hw hl (by omega) (by omega) kk
      by_cases c15 : v = 15
      · refine lv_tableIn (tgt := 883) hx hb dL_law_39 (by rw [c15]; decide) (by rw [c15]; decide) (off := 844) (by rw [c15]; rfl) (by decide) ?_
        exact lwc_15 l hlt CF0 hX hbl hbA hi1 hi2 (h15 _ _) hthr hw hl (by omega) (by omega) kk
      by_cases c16 : v = 16
      · refine lv_tableIn (tgt := 951) hx hb dL_law_39 (by rw [c16]; decide) (by rw [c16]; decide) (off := 912) (by rw [c16]; rfl) (by decide) ?_
        exact lwc_16 l hlt CF0 hX hbl hbA hi1 (h16 _) hthr hw hl (by omega) (by omega) kk
      by_cases c17 : v = 17
      · refine lv_tableIn (tgt := 1007) hx hb dL_law_39 (by rw [c17]; decide) (by rw [c17]; decide) (off := 968) (by rw [c17]; rfl) (by decide) ?_
        exact lwc_17 l hlt CF0 hX hbl hbA hi1 (h17 _) hthr hw hl (by omega) (by omega) kk
      by_cases c18 : v = 18
      · refine lv_tableIn (tgt := 1063) hx hb dL_law_39 (by rw [c18]; decide) (by rw [c18]; decide) (off := 1024) (by rw [c18]; rfl) (by decide) ?_
        exact lwc_18 l hlt CF0 hX hbl hbA hi1 (h18 _) hthr hw hl (by omega) (by omega) kk
      by_cases c19 : v = 19
      · refine lv_tableIn (tgt := 1119) hx hb dL_law_39 (by rw [c19]; decide) (by rw [c19]; decide) (off := 1080) (by rw [c19]; rfl) (by decide) ?_
        exact lwc_19 l hlt CF0 hX hbl hbA hi1 hi2 (h19 _ _) hthr hw hl (by omega) (by omega) kk
      by_cases c20 : v = 20
      · refine lv_tableIn (tgt := 1187) hx hb dL_law_39 (by rw [c20]; decide) (by rw [c20]; decide) (off := 1148) (by rw [c20]; rfl) (by decide) ?_
        exact lwc_20 l hlt CF0 hX hbl hbA hi1 (h20 _) hthr hw hl (by omega) (by omega) kk
      by_cases c21 : v = 21
      · refine lv_tableIn (tgt := 1243) hx hb dL_law_39 (by rw [c21]; decide) (by rw [c21]; decide) (off := 1204) (by rw [c21]; rfl) (by decide) ?_
        exact lwc_21 l hlt CF0 hX hbl hbA h21 hthr hw hl (by omega) (by omega) kk
      by_cases c22 : v = 22
      · refine lv_tableIn (tgt := 1284) hx hb dL_law_39 (by rw [c22]; decide) (by rw [c22]; decide) (off := 1245) (by rw [c22]; rfl) (by decide) ?_
        exact lwc_22 l hlt CF0 hX hbl hbA h22 hthr hw hl (by omega) (by omega) kk
      refine lv_tableOut (tgt := 1298) hx hb dL_law_39 (sw_out 22 (by decide) (fun j hj => ?_)) (by decide) ?_
      · rcases (show j = 0 ∨ j = 1 ∨ j = 2 ∨ j = 3 ∨ j = 4 ∨ j = 5 ∨ j = 6 ∨ j = 7 ∨ j = 8 ∨ j = 9 ∨ j = 10 ∨ j = 11 ∨ j = 12 ∨ j = 13 ∨ j = 14 ∨ j = 15 ∨ j = 16 ∨ j = 17 ∨ j = 18 ∨ j = 19 ∨ j = 20 ∨ j = 21 ∨ j = 22 by omega) with rfl | rfl | rfl | rfl | rfl | rfl | rfl | rfl | rfl | rfl | rfl | rfl | rfl | rfl | rfl | rfl | rfl | rfl | rfl | rfl | rfl | rfl | rfl
        · exact c0
        · exact c1
        · exact c2
        · exact c3
        · exact c4
        · exact c5
        · exact c6
        · exact c7
        · exact c8
        · exact c9
        · exact c10
        · exact c11
        · exact c12
        · exact c13
        · exact c14
        · exact c15
        · exact c16
        · exact c17
        · exact c18
        · exact c19
        · exact c20
        · exact c21
        · exact c22
      exact kk S z H locs cells slots ls (by omega) (by omega) (hM9 k S hI) hw hl
