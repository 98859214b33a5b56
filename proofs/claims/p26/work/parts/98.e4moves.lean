/-! the law's numbers tell the board B, with hh saved states -/
def LZ (S : Hp) (zz li : Nat) (B : Bd) (hh : Nat) : Prop := LB S zz li (bc B) (bn B) (bk B) (bb B) (bM B) ∧ hI S zz 1 = nI (bv B) ∧ hI S zz 5 = bl B ∧ hI S zz 6 = bp B ∧ hI S zz 7 = bo B ∧ hI S zz 8 = bx B ∧ hI S zz 9 = by_ B ∧ hI S zz 10 = nI hh
theorem LZ.fr {E : List Nat} {S T : Hp} {zz li hh : Nat} {B : Bd} (h : LZ S zz li B hh) (f : Fr E S T) (h1 : zz ∉ E) (h2 : li ∉ E) : LZ T zz li B hh := by
  obtain ⟨a, b⟩ := h
  refine ⟨a.fr f h1 h2, ?_⟩
  rw [f.I h1]
  exact b
/-- T is S with the ints of the cell a as f tells -/
def HZ (S : Hp) (a : Nat) (T : Hp) (f : Nat → Int32) : Prop := Fr [a] S T ∧ ∀ j, hI T a j = f j
theorem HZ.rf {S : Hp} {a : Nat} : HZ S a S (hI S a) := ⟨Fr.rf, fun _ => rfl⟩
theorem HZ.put {S T : Hp} {a : Nat} {f : Nat → Int32} (h : HZ S a T f) (k : Nat) (v : Int32) : HZ S a (sI T a k v) (fun j => if j = k then v else f j) := ⟨h.1.sI (by simp), fun j => by
  show _ = if j = k then v else f j
  by_cases e : j = k
  · subst e; rw [hI_same, if_pos rfl]
  · rw [hI_k e, if_neg e]; exact h.2 j⟩
theorem HZ.n {S T : Hp} {a m : Nat} {f : Nat → Int32} (h : HZ S a T f) (g : hN S a = m) : hN T a = m := by rw [h.1.N]; exact g
theorem HZ.lb {S T : Hp} {zz li c n mk br c' n' mk' br' : Nat} {M : Nat → Nat} {f : Nat → Int32} (h : HZ S zz T f) (b : LB S zz li c n mk br M) (hne : li ≠ zz) (f0 : f 0 = nI c') (f2 : f 2 = nI n') (f3 : f 3 = nI mk') (f4 : f 4 = nI br') (lc : c' ≤ 5) (ln : n' ≤ n) (l1 : mk' < 1024) (l2 : br' < 1024) : LB T zz li c' n' mk' br' M := by
  obtain ⟨⟨a1, a2, a3, a4⟩, ⟨b1, b2, b3, b4, b5⟩, c1, c2, c3, c4, c5⟩ := b
  exact ⟨⟨h.1.ok a1, h.n a2, h.1.ok a3, by rw [h.1.N]; exact a4⟩, ⟨(h.2 0).trans f0, (h.2 2).trans f2, (h.2 3).trans f3, (h.2 4).trans f4, fun j hj => by rw [h.1.I (fun w => hne (List.mem_singleton.mp w))]; exact b5 j (by omega)⟩, lc, by omega, l1, l2, fun j hj => c5 j (by omega)⟩
/-- b is the lowest one of the most dangerous free cells from i on -/
def isMd (B : Bd) (i b : Nat) : Prop := i ≤ b ∧ (bfre B).testBit b = true ∧ ∀ j, i ≤ j → (bfre B).testBit j = true → bdg B j ≤ bdg B b ∧ (j < b → bdg B j < bdg B b)
def MdI (B : Bd) (i : Nat) (v : Int32) : Prop := (v = -1 ∧ ∀ j, i ≤ j → (bfre B).testBit j = false) ∨ ∃ b, v = nI b ∧ isMd B i b
def mdQ (B : Bd) (i : Nat) (o : Option Nat) : Prop := match o with
  | none => ∀ j, j < i → (bfre B).testBit j = false
  | some b => b < i ∧ (bfre B).testBit b = true ∧ ∀ j, j < i → (bfre B).testBit j = true → bdg B j ≤ bdg B b ∧ (j < b → bdg B j < bdg B b)
theorem mdS_is {B : Bd} : ∀ i, mdQ B i (mdS B i)
  | 0 => fun j hj => absurd hj (Nat.not_lt_zero j)
  | i + 1 => by
    have ih := mdS_is (B := B) i
    rw [mdS]
    by_cases g : (bfre B).testBit i = true
    · rw [if_pos g]
      cases m : mdS B i with
      | none =>
        rw [m] at ih
        refine ⟨Nat.lt_succ_self i, g, fun j hj hf => ?_⟩
        by_cases e : j = i
        · subst e; exact ⟨Nat.le_refl _, fun w => absurd w (Nat.lt_irrefl _)⟩
        · rw [ih j (by omega)] at hf; cases hf
      | some b =>
        rw [m] at ih
        obtain ⟨i1, i2, i3⟩ := ih
        by_cases e : bdg B b < bdg B i
        · show mdQ B (i + 1) (if bdg B b < bdg B i then some i else some b)
          rw [if_pos e]
          refine ⟨Nat.lt_succ_self i, g, fun j hj hf => ?_⟩
          by_cases e2 : j = i
          · subst e2; exact ⟨Nat.le_refl _, fun w => absurd w (Nat.lt_irrefl _)⟩
          · have := i3 j (by omega) hf
            exact ⟨by omega, fun _ => by omega⟩
        · show mdQ B (i + 1) (if bdg B b < bdg B i then some i else some b)
          rw [if_neg e]
          refine ⟨by omega, i2, fun j hj hf => ?_⟩
          by_cases e2 : j = i
          · subst e2; exact ⟨by omega, fun w => absurd w (by omega)⟩
          · exact i3 j (by omega) hf
    · rw [if_neg g]
      cases m : mdS B i with
      | none =>
        rw [m] at ih
        intro j hj
        by_cases e2 : j = i
        · subst e2; simpa using g
        · exact ih j (by omega)
      | some b =>
        rw [m] at ih
        obtain ⟨i1, i2, i3⟩ := ih
        refine ⟨by omega, i2, fun j hj hf => ?_⟩
        by_cases e2 : j = i
        · subst e2; exact absurd hf g
        · exact i3 j (by omega) hf
theorem MdI.fin {B : Bd} (hw : Wf B) {v : Int32} (h : MdI B 0 v) : v = opI (mdS B 10) := by
  have q := mdS_is (B := B) 10
  rcases h with ⟨rfl, h⟩ | ⟨b, rfl, -, hb, hm⟩
  · cases m : mdS B 10 with
    | none => rfl
    | some b =>
      rw [m] at q
      have := h b (Nat.zero_le b)
      rw [q.2.1] at this; cases this
  · have hc := hw.c10
    have b10 := fr_lt hc hb
    cases m : mdS B 10 with
    | none =>
      rw [m] at q
      rw [q b (by omega)] at hb; cases hb
    | some a =>
      rw [m] at q
      obtain ⟨q1, q2, q3⟩ := q
      have p1 := q3 b (by omega) hb
      have p2 := hm a (Nat.zero_le a) q2
      rcases Nat.lt_trichotomy a b with e | e | e
      · have := p2.2 e; omega
      · rw [e]; rfl
      · have := p1.2 e; omega
theorem m1_sub (x : Int32) : x + (-1 : Int32) = x - 1 := (Int32.sub_eq_add_neg x 1).symm
section
variable {N : Nat} {S : Hp} {zz li pa hh : Nat} {B : Bd}
theorem l_reply_l (h : LB S zz li (bc B) (bn B) (bk B) (bb B) (bM B)) (hw : Wf B) (hN : 12 < N) {x2 : Int32} : ∀ i k v, i < k → i ≤ 10 → MdI B i v → f_L_reply_l65 N zz li x2 k S v (nI i - 1) = some (opI (mdS B 10), S) := by
  intro i
  induction i with
  | zero =>
    intro k v hk _ hv
    obtain ⟨k, rfl⟩ : ∃ q, k = q + 1 := ⟨k - 1, by omega⟩
    rw [f_L_reply_l65, f_L_reply_b65, if_pos (show nI 0 - 1 < 0 by decide), hv.fin hw]
  | succ i ih =>
    intro k v hk hi hv
    obtain ⟨k, rfl⟩ : ∃ q, k = q + 1 := ⟨k - 1, by omega⟩
    have fl := fre_lt (mk := bk B) (br := bb B) hw.c10
    rw [f_L_reply_l65, f_L_reply_b65, nI_m1, if_neg (nI_pos (by omega)), l_free h, cl_s, nI_has (a := fre (bc B) (bk B) (bb B)) (i := i) (by omega) (by omega), m1_sub]
    by_cases g : (fre (bc B) (bk B) (bb B)).testBit i = true
    · rw [if_pos (has_one.mpr g)]
      rcases hv with ⟨rfl, hno⟩ | ⟨b, rfl, hb0, hb, hm⟩
      · rw [if_pos (show (-1 : Int32) < 0 by decide)]
        refine ih k _ (by omega) (by omega) (Or.inr ⟨i, rfl, Nat.le_refl i, g, fun j hj hf => ?_⟩)
        by_cases e : j = i
        · subst e; exact ⟨Nat.le_refl _, fun w => absurd w (Nat.lt_irrefl _)⟩
        · rw [hno j (by omega)] at hf; cases hf
      · have b10 := fr_lt hw.c10 hb
        have hc := hw.c10
        have d1 := bdg_lt hw b
        have d2 := bdg_lt hw i
        have ed : ∀ j, j < 31 → f_L_danger N S zz li (nI j) = some (nI (bdg B j), S) := fun j hj => l_danger h hN hj
        rw [if_neg (nI_pos (by omega)), ed i (by omega), cl_s, ed b (by omega), cl_s]
        by_cases e : bdg B i < bdg B b
        · rw [if_pos ((nI_lt_iff d2 d1).mpr e)]
          refine ih k _ (by omega) (by omega) (Or.inr ⟨b, rfl, by omega, hb, fun j hj hf => ?_⟩)
          by_cases e2 : j = i
          · subst e2; exact ⟨by omega, fun _ => e⟩
          · exact hm j (by omega) hf
        · rw [if_neg (fun w => e ((nI_lt_iff d2 d1).mp w))]
          refine ih k _ (by omega) (by omega) (Or.inr ⟨i, rfl, Nat.le_refl i, g, fun j hj hf => ?_⟩)
          by_cases e2 : j = i
          · subst e2; exact ⟨Nat.le_refl _, fun w => absurd w (Nat.lt_irrefl _)⟩
          · have := hm j (by omega) hf
            exact ⟨by omega, fun w => absurd w (by omega)⟩
    · rw [if_neg (fun w => g (has_one.mp w))]
      refine ih k _ (by omega) (by omega) ?_
      rcases hv with ⟨rfl, hno⟩ | ⟨b, rfl, hb0, hb, hm⟩
      · refine Or.inl ⟨rfl, fun j hj => ?_⟩
        by_cases e2 : j = i
        · subst e2; exact Bool.eq_false_iff.mpr g
        · exact hno j (by omega)
      · refine Or.inr ⟨b, rfl, by omega, hb, fun j hj hf => ?_⟩
        by_cases e2 : j = i
        · subst e2; exact absurd hf g
        · exact hm j (by omega) hf
theorem low_m1 {a : Nat} : lowI a = -1 ↔ a = 0 := by
  constructor
  · intro h
    by_cases g : a = 0
    · exact g
    · unfold lowI at h
      rw [if_neg g] at h
      have := fa_first_le (fun i => a.testBit i) 10
      exact absurd h (nI_nm1 (by omega))
  · rintro rfl
    rfl
theorem l_reply39 (h : LB S zz li (bc B) (bn B) (bk B) (bb B) (bM B)) (hw : Wf B) (hN : 12 < N) {x2 : Int32} : f_L_reply_b39 N zz li x2 S = some ((if lowI (bth B) = -1 then opI (mdS B 10) else lowI (bth B)), S) := by
  have e1 := l_threats (N := N) h hN
  have tl := bth_lt hw
  have e2 := l_low (N := N) (S := S) (by omega : 10 < N) tl
  have hc := hw.c10
  have e3 := l_reply_l (x2 := x2) h hw hN (bc B) N (-1) (by omega) hc (Or.inl ⟨rfl, fun j hj => by
    cases q : (bfre B).testBit j with
    | false => rfl
    | true => have := fr_lt hc q; omega⟩)
  unfold f_L_reply_b39
  rw [e1, cl_s]
  by_cases g : bth B = 0
  · rw [if_pos ((nI_eq0 (show thP (bM B) (bn B) (bc B) (bk B) (bb B) < 2 ^ 31 from Nat.lt_trans tl (by decide))).mpr g), if_pos (low_m1.mpr g), gd_pos h.1.1, gd_pos (zq h.1.2.1 (i := (0 : Int32)) (k := 0) rfl (by decide)), tn0, h.2.1.1, bd_d]
    exact e3
  · rw [if_neg (fun w => g ((nI_eq0 (show thP (bM B) (bn B) (bc B) (bk B) (bb B) < 2 ^ 31 from Nat.lt_trans tl (by decide))).mp w)), if_neg (fun w => g (low_m1.mp w)), e1, cl_s]
    show cl (f_L_low N S (nI (bth B))) _ = _
    rw [e2, cl_s]
theorem l_reply (h : LZ S zz li B hh) (hw : Wf B) (hN : 12 < N) {r : Nat} (hr : r < 3) : f_L_reply N S zz li (nI r) = some (rplB B r, S) := by
  have e1 := l_winner (N := N) h.1 hN
  have e2 := l_free (N := N) h.1
  have e3 := l_low (N := N) (S := S) (by omega : 10 < N) (fre_lt (mk := bk B) (br := bb B) hw.c10)
  have e4 := l_reply39 (N := N) (x2 := nI r) h.1 hw hN
  have w2 := bwin_le B
  have z6 := h.2.2.2.1
  unfold f_L_reply
  rw [e1, cl_s]
  show (if nI (bwin B) ≤ 0 then _ else _) = _
  unfold rplB
  by_cases g : bwin B = 0
  · rw [if_pos g, if_pos ((le_c 0 (n := 0) rfl (by omega) (by decide)).mpr (by omega))]
    unfold rpB
    rcases (show r = 0 ∨ r = 1 ∨ r = 2 by omega) with rfl | rfl | rfl
    · rw [if_pos (show nI 0 = 0 from rfl), if_pos rfl, e2, cl_s, e3, cl_s]
      rfl
    · rw [if_neg (show ¬ nI 1 = 0 by decide), if_neg (show ¬ nI 1 = (2 : Int32) by decide), e4, if_neg (show ¬ (1 : Nat) = 0 by decide), if_neg (show ¬ (1 : Nat) = 3 by decide), if_neg (show ¬ ((1 : Nat) = 2 ∧ bp B ≠ -1) from fun w => absurd w.1 (by decide))]
    · rw [if_neg (show ¬ nI 2 = 0 by decide), if_pos (show nI 2 = (2 : Int32) from rfl), if_neg (show ¬ (2 : Nat) = 0 by decide), if_neg (show ¬ (2 : Nat) = 3 by decide), gd_pos h.1.1.1, gd_pos (zq h.1.1.2.1 (i := (6 : Int32)) (k := 6) rfl (by decide)), tn6, z6]
      rcases hw.2.2.2 with q | ⟨i, q, qi⟩
      · rw [q, if_pos (show (-1 : Int32) < 0 by decide), e4, if_neg (show ¬ ((2 : Nat) = 2 ∧ (-1 : Int32) ≠ -1) from fun w => absurd rfl w.2)]
      · have := fr_lt hw.c10 qi
        have := hw.c10
        rw [q, if_neg (nI_pos (by omega)), if_pos ⟨rfl, nI_nm1 (by omega)⟩]
  · rw [if_neg g, if_neg (fun w => g (by have := (le_c 0 (n := 0) rfl (by omega) (by decide)).mp w; omega))]
/-- one move, behind the look for a pairing -/
theorem l_moves_b (h : LZ S zz li B hh) (hw : Wf B) (hB : 12 < N) (hne : li ≠ zz) {i : Nat} {p : Int32} (hf : (bfre B).testBit i = true) : ∃ T, f_L_moves_b19 N zz li pa (nI i) S p 6 zz = some ((), T) ∧ Fr [zz] S T ∧ LZ T zz li (occB B i p) hh := by
  obtain ⟨hb, z1, z5, z6, z7, z8, z9, z10⟩ := h
  have hk := hb.1.1
  have hn := hb.1.2.1
  obtain ⟨z0, z2, z3, z4, -⟩ := hb.2.1
  have hc := hw.c10
  have ic := fr_lt hc hf
  have od := occ_d hw hf
  have p10 := pw10 hc
  have v12 := hw.2.2.1
  have t1 := (HZ.rf (S := S) (a := zz)).put 6 p
  have key : ∃ T2, HZ S zz T2 (fun j => if j = 3 then nI (occK B i) else if j = 4 then nI (occR B i) else if j = 6 then p else hI S zz j) ∧ T2 = sI (sI S zz 6 p) zz ((2 : Int32) + nI (bv B)).toNatClampNeg (hI (sI S zz 6 p) zz ((2 : Int32) + nI (bv B)).toNatClampNeg ||| ((1 : Int32) <<< (nI i &&& 31))) ∧ inb ((2 : Int32) + nI (bv B)) (hN (sI S zz 6 p) zz) := by
    rw [nI_bit i (by omega)]
    rcases v12 with v | v
    · rw [v, show (2 : Int32) + nI 1 = nI 3 from rfl, show (nI 3).toNatClampNeg = 3 from rfl]
      refine ⟨_, ?_, rfl, zq (t1.n hn) (i := nI 3) (k := 3) rfl (by decide)⟩
      have e3 : hI (sI S zz 6 p) zz 3 = nI (bk B) := (t1.2 3).trans z3
      rw [e3, nI_or]
      refine ⟨(t1.put 3 _).1, fun j => ((t1.put 3 _).2 j).trans ?_⟩
      unfold occK occR
      rw [if_pos v, if_pos v]
      dsimp only
      by_cases j3 : j = 3
      · rw [if_pos j3, if_pos j3]
      · rw [if_neg j3, if_neg j3]
        by_cases j4 : j = 4
        · subst j4
          exact z4
        · rw [if_neg j4]
    · rw [v, show (2 : Int32) + nI 2 = nI 4 from rfl, show (nI 4).toNatClampNeg = 4 from rfl]
      refine ⟨_, ?_, rfl, zq (t1.n hn) (i := nI 4) (k := 4) rfl (by decide)⟩
      have e3 : hI (sI S zz 6 p) zz 4 = nI (bb B) := (t1.2 4).trans z4
      have nv : ¬ bv B = 1 := by omega
      rw [e3, nI_or]
      refine ⟨(t1.put 4 _).1, fun j => ((t1.put 4 _).2 j).trans ?_⟩
      unfold occK occR
      rw [if_neg nv, if_neg nv]
      dsimp only
      by_cases j4 : j = 4
      · subst j4
        rfl
      · rw [if_neg j4]
        by_cases j3 : j = 3
        · subst j3
          exact z3
        · rw [if_neg j3]
  obtain ⟨T2, t2, e2, i2⟩ := key
  have t3 := t2.put 5 (nI i)
  have e31 : hI (sI T2 zz 5 (nI i)) zz 1 = nI (bv B) := (t3.2 1).trans z1
  have m3 : (3 : Int32) - nI (bv B) = nI (3 - bv B) := nI_minus (a := 3) (by omega)
  have t4 := t3.put 1 (nI (3 - bv B))
  have e47 : hI (sI (sI T2 zz 5 (nI i)) zz 1 (nI (3 - bv B))) zz 7 = bo B := (t4.2 7).trans z7
  have t5 := t4.put 7 (bo B + 1)
  have lb5 := t5.lb hb hne (mk' := occK B i) (br' := occR B i) z0 z2 rfl rfl hb.2.2.1 (Nat.le_refl _) (by omega) (by omega)
  have win := l_winner (N := N) lb5 hB
  have wle := winP_le (bM B) (bn B) (occK B i) (occR B i)
  unfold f_L_moves_b19
  rw [gd_pos hk, gd_pos (zq hn (i := (6 : Int32)) (k := 6) rfl (by decide)), tn6, gd_pos (ok_sI hk), gd_pos (zq (t1.n hn) (i := (1 : Int32)) (k := 1) rfl (by decide)), tn1, show hI (sI S zz 6 p) zz 1 = nI (bv B) from (t1.2 1).trans z1, gd_pos i2, bd_d, ← e2, gd_pos (zq (t2.n hn) (i := (5 : Int32)) (k := 5) rfl (by decide)), tn5, bd_d, e31, m3, gd_pos (zq (t4.n hn) (i := (7 : Int32)) (k := 7) rfl (by decide)), tn7, bd_d, e47, win, cl_s]
  by_cases g : winP (bM B) (bn B) (occK B i) (occR B i) = 0
  · rw [if_pos ((le_c 0 (n := 0) rfl (by omega) (by decide)).mpr (by omega))]
    refine ⟨_, rfl, t5.1, lb5, t5.2 1, t5.2 5, t5.2 6, t5.2 7, ?_, ?_, (t5.2 10).trans z10⟩
    · refine (t5.2 8).trans ?_
      show hI S zz 8 = bx B + (if winP (bM B) (bn B) (occK B i) (occR B i) = 1 then 1 else 0)
      rw [g, if_neg (by decide), Int32.add_zero]; exact z8
    · refine (t5.2 9).trans ?_
      show hI S zz 9 = by_ B + (if winP (bM B) (bn B) (occK B i) (occR B i) = 2 then 1 else 0)
      rw [g, if_neg (by decide), Int32.add_zero]; exact z9
  · rw [if_neg (fun w => g (by have := (le_c 0 (n := 0) rfl (by omega) (by decide)).mp w; omega))]
    rcases (show winP (bM B) (bn B) (occK B i) (occR B i) = 1 ∨ winP (bM B) (bn B) (occK B i) (occR B i) = 2 by omega) with w | w
    · have t6 := t5.put 8 (bx B + 1)
      have lb6 := t6.lb hb hne (mk' := occK B i) (br' := occR B i) z0 z2 rfl rfl hb.2.2.1 (Nat.le_refl _) (by omega) (by omega)
      rw [w, show (7 : Int32) + nI 1 = nI 8 from rfl, gd_pos (t5.1.ok hk), gd_pos (zq (t5.n hn) (i := nI 8) (k := 8) rfl (by decide)), show (nI 8).toNatClampNeg = 8 from rfl, bd_d, (t5.2 8).trans (show _ = bx B from z8)]
      refine ⟨_, rfl, t6.1, lb6, t6.2 1, t6.2 5, t6.2 6, t6.2 7, ?_, ?_, (t6.2 10).trans z10⟩
      · refine (t6.2 8).trans ?_
        show bx B + 1 = bx B + (if winP (bM B) (bn B) (occK B i) (occR B i) = 1 then 1 else 0)
        rw [w, if_pos rfl]
      · refine (t6.2 9).trans ?_
        show hI S zz 9 = by_ B + (if winP (bM B) (bn B) (occK B i) (occR B i) = 2 then 1 else 0)
        rw [w, if_neg (by decide), Int32.add_zero]; exact z9
    · have t6 := t5.put 9 (by_ B + 1)
      have lb6 := t6.lb hb hne (mk' := occK B i) (br' := occR B i) z0 z2 rfl rfl hb.2.2.1 (Nat.le_refl _) (by omega) (by omega)
      rw [w, show (7 : Int32) + nI 2 = nI 9 from rfl, gd_pos (t5.1.ok hk), gd_pos (zq (t5.n hn) (i := nI 9) (k := 9) rfl (by decide)), show (nI 9).toNatClampNeg = 9 from rfl, bd_d, (t5.2 9).trans (show _ = by_ B from z9)]
      refine ⟨_, rfl, t6.1, lb6, t6.2 1, t6.2 5, t6.2 6, t6.2 7, ?_, ?_, (t6.2 10).trans z10⟩
      · refine (t6.2 8).trans ?_
        show hI S zz 8 = bx B + (if winP (bM B) (bn B) (occK B i) (occR B i) = 1 then 1 else 0)
        rw [w, if_neg (by decide), Int32.add_zero]; exact z8
      · refine (t6.2 9).trans ?_
        show by_ B + 1 = by_ B + (if winP (bM B) (bn B) (occK B i) (occR B i) = 2 then 1 else 0)
        rw [w, if_pos rfl]
theorem par_5 {r : Int32} (e : (DB B = none ∧ r = 0) ∨ ∃ q, DB B = some q ∧ r = 1 ∧ LPq S pa q.1 q.2 ∧ goodQ (bfre B) q.1 q.2) {i : Nat} (hi : i < 5) : (r = 0 ∧ parB B i = -1) ∨ (r = 1 ∧ hI S pa i = parB B i) := by
  unfold parB
  rcases e with ⟨e1, e2⟩ | ⟨q, e1, e2, e3, e4⟩
  · rw [e1]; exact Or.inl ⟨e2, rfl⟩
  · rw [e1]; exact Or.inr ⟨e2, e3.2 i hi⟩
theorem l_moves (h : LZ S zz li B hh) (hw : Wf B) (hB : 2000 < N) (hp : ok S pa 8 ∧ hN S pa = 5) (hpa : pa ≠ zz ∧ pa ≠ li) (hne : li ≠ zz) {i : Nat} (hf : (bfre B).testBit i = true) : ∃ T, f_L_moves N S zz li pa (nI i) = some ((), T) ∧ Fr [zz, pa] S T ∧ LZ T zz li (occB B i (parB B i)) hh := by
  obtain ⟨r, S1, e1, e2, e3⟩ := l_pairing (N := N) hw hB h.1 hp hpa
  have h1 := h.fr e2 (fun w => hpa.1 (List.mem_singleton.mp w).symm) (fun w => hpa.2 (List.mem_singleton.mp w).symm)
  have i5 : i < 5 := fre5 h.1.2.2.1 hf
  have mo1 : ∀ {U : Hp}, Fr [zz] S1 U → Fr [zz, pa] S U := fun f => (e2.mono (fun a ha => by rw [List.mem_singleton.mp ha]; simp)).tr (f.mono (fun a ha => by rw [List.mem_singleton.mp ha]; simp))
  unfold f_L_moves
  rw [e1, cl_s]
  rcases par_5 e3 i5 with ⟨r0, pr⟩ | ⟨r1, pr⟩
  · obtain ⟨T, t1, t2, t3⟩ := l_moves_b (N := N) (pa := pa) (p := -1) h1 hw (by omega) hne hf
    rw [r0, if_pos rfl, pr]
    exact ⟨T, t1, mo1 t2, t3⟩
  · obtain ⟨T, t1, t2, t3⟩ := l_moves_b (N := N) (pa := pa) (p := parB B i) h1 hw (by omega) hne hf
    rw [r1, if_neg (by decide), gd_pos (e2.ok hp.1), gd_pos (pq (by rw [e2.N]; exact hp.2) i5), nI_clamp (by omega), pr]
    exact ⟨T, t1, mo1 t2, t3⟩
end
