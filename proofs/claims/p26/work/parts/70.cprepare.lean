theorem winP_congM {M M' : Nat → Nat} {n : Nat} (h : ∀ j, j < n → M j = M' j) (mk br : Nat) : winP M n mk br = winP M' n mk br := by
  unfold winP
  rw [anyN_cong (q := fun j => decide (dif (M' j) mk = 0)) (fun j hj => by rw [h j hj]), anyN_cong (p := isAl M br) (q := isAl M' br) (fun j hj => by unfold isAl; rw [h j hj])]
theorem VF_congM {M M' : Nat → Nat} {c n : Nat} (h : ∀ j, j < n → M j = M' j) : ∀ (d a b v : Nat), VF c n M d a b v = VF c n M' d a b v
  | 0, _, _, _ => rfl
  | d + 1, a, b, v => by
    rw [VF, VF, winP_congM h]
    have e : (fun i => VF c n M d (chK v a i) (chB v b i) (3 - v)) = fun i => VF c n M' d (chK v a i) (chB v b i) (3 - v) := by
      funext i
      exact VF_congM h d _ _ _
    rw [e]
theorem Lv_congM {M M' : Nat → Nat} {c n : Nat} (h : ∀ j, j < n → M j = M' j) (a b v : Nat) : Lv c n M a b v = Lv c n M' a b v := by
  unfold Lv VV
  rw [VF_congM h]
/-- whether it is the maker's turn with an even number of cells taken -/
def bev (B : Bd) : Bool := decide (bv B = 1) == decide (pop (bk B ||| bb B) % 2 = 0)
theorem mvr_bev {B : Bd} (hw : Wf B) : mvr (bev B) (bk B) (bb B) = bv B := by
  unfold mvr bev
  rcases hw.2.2.1 with q | q
  · rw [q]
    cases decide (pop (bk B ||| bb B) % 2 = 0) <;> rfl
  · rw [q]
    cases decide (pop (bk B ||| bb B) % 2 = 0) <;> rfl
theorem Wf.lns {B : Bd} (h : Wf B) : Lns (bc B) (bn B) (bM B) := ⟨h.c10, h.1.2.2.2⟩
theorem Wf.pos {B : Bd} (h : Wf B) : Pos (bc B) (bk B) (bb B) := h.2.1
/-- the solver's object, whatever board it knows; nb: a bound of its boards' number -/
def SolV (S : Hp) (so Ls as_ kn pw nb : Nat) : Prop := ∃ (c n : Nat) (M : Nat → Nat) (e : Bool) (b : Nat), b ≤ nb ∧ Lns c n M ∧ SP S so Ls as_ kn pw c n M e b
theorem SolV.fr {E : List Nat} {S T : Hp} {so Ls as_ kn pw nb : Nat} (h : SolV S so Ls as_ kn pw nb) (f : Fr E S T) (h1 : so ∉ E) (h2 : Ls ∉ E) (h3 : as_ ∉ E) (h4 : kn ∉ E) (h5 : pw ∉ E) : SolV T so Ls as_ kn pw nb := by
  obtain ⟨c, n, M, e, b, hb, hl, ⟨⟨a1, a2, a3, a4⟩, b1, ⟨c1, c2, c3⟩, ⟨d1, d2, d3, d4⟩, e1⟩, m1, m2⟩ := h
  refine ⟨c, n, M, e, b, hb, hl, ⟨⟨f.ok a1, by rw [f.R]; exact a2, by rw [f.R]; exact a3, by rw [f.R]; exact a4⟩, b1.fr f (by rw [f.I h2]) h3, ⟨f.ok c1, by rw [f.N]; exact c2, c3⟩, ⟨f.ok d1, by rw [f.N]; exact d2, d3, by rw [f.I h5]; exact d4⟩, by rw [f.I h1]; exact e1⟩, ?_, ?_⟩
  · unfold TagOk
    rw [f.I h4]
    exact m1
  · rw [f.I h4]
    exact m2
theorem pow2_inj {a c : Nat} (h : 2 ^ a - 1 = 2 ^ c - 1) : a = c := by
  have p1 := Nat.two_pow_pos a
  have p2 := Nat.two_pow_pos c
  rcases Nat.lt_trichotomy a c with q | q | q
  · have := Nat.pow_lt_pow_right (a := 2) (by decide) q; omega
  · exact q
  · have := Nat.pow_lt_pow_right (a := 2) (by decide) q; omega
section
variable {N : Nat} {S : Hp} {s L a so Ls as_ kn pw nb : Nat} {B : Bd}
theorem c_prep82 (h : StV S s L a B) (hw : Wf B) (hN0 : 12 < N) {c n b : Nat} {M : Nat → Nat} {e : Bool} (h0 : SP S so Ls as_ kn pw c n M e b) (hb : b + 1 < 2 ^ 27) (d1 : Ls ≠ L) (d2 : as_ ≠ a) (d3 : kn ≠ a) (d4 : pw ≠ a) (d5 : pw ≠ as_) : ∃ T, f_X3_prepare_b82 N so s S (if bev B = true then 1 else 0) = some ((), T) ∧ Fr [so, Ls, as_, kn] S T ∧ StV T s L a B ∧ SP T so Ls as_ kn pw (bc B) (bn B) (bM B) (bev B) (b + 1) := by
  obtain ⟨⟨⟨a1, a2, a3, a4⟩, b1, ⟨c1, c2, c3⟩, ⟨f1, f2, f3, f4⟩, e1, e2, e3⟩, m1, m2⟩ := h0
  have o1 : s ≠ so := ok_ne h.1.1 a1 (by decide)
  have o2 : s ≠ Ls := ok_ne h.1.1 b1.1.1 (by decide)
  have o3 : s ≠ as_ := ok_ne h.1.1 b1.1.2.2.1 (by decide)
  have o4 : s ≠ kn := ok_ne h.1.1 c1 (by decide)
  have p1 : L ≠ so := ok_ne h.2.1.1.1 a1 (by decide)
  have p3 : L ≠ as_ := ok_ne h.2.1.1.1 b1.1.2.2.1 (by decide)
  have p4 : L ≠ kn := ok_ne h.2.1.1.1 c1 (by decide)
  have q1 : a ≠ so := ok_ne h.2.1.1.2.2.1 a1 (by decide)
  have q2 : a ≠ Ls := ok_ne h.2.1.1.2.2.1 b1.1.1 (by decide)
  have r1 : so ≠ Ls := ok_ne a1 b1.1.1 (by decide)
  have r2 : so ≠ as_ := ok_ne a1 b1.1.2.2.1 (by decide)
  have r3 : as_ ≠ so := r2.symm
  have r4 : kn ≠ so := ok_ne c1 a1 (by decide)
  have r5 : kn ≠ Ls := ok_ne c1 b1.1.1 (by decide)
  have r6 : pw ≠ so := ok_ne f1 a1 (by decide)
  have r7 : pw ≠ Ls := ok_ne f1 b1.1.1 (by decide)
  obtain ⟨U, u1, u2, u3⟩ := c_copy h.2.1 hN0 b1.sh d1 d2
  have hU : StV U s L a B := h.fr u2 (by simp [o2, o3]) (by simp [d1.symm, p3]) (by simp [q2, d2.symm])
  have eso : hI U so = hI S so := u2.I (by simp [r1, r2])
  have ib : isB (if bev B = true then (1 : Int32) else 0) := by
    by_cases q : bev B = true
    · rw [if_pos q]; exact Or.inr rfl
    · rw [if_neg q]; exact Or.inl rfl
  unfold f_X3_prepare_b82
  rw [gd_pos a1, a2, nn_s, gd_pos h.1.1, h.1.2, nn_s, gd_pos b1.1.1, u1, cl_s, gd_pos hU.1.1, c_allCells hU hw, cl_s, gd_pos (u2.ok a1), gd_pos ib, bd_d, hI_k (show (4 : Nat) ≠ 2 by decide), hI_k (show (4 : Nat) ≠ 1 by decide), eso, e3, nI_p1]
  have f : Fr [so] U (sI (sI (sI U so 1 (nI (2 ^ bc B - 1))) so 2 (if bev B = true then (1 : Int32) else 0)) so 4 (nI (b + 1))) := ((Fr.rf.sI (by simp)).sI (by simp)).sI (by simp)
  have fT : Fr [so, Ls, as_, kn] S (sI (sI (sI U so 1 (nI (2 ^ bc B - 1))) so 2 (if bev B = true then (1 : Int32) else 0)) so 4 (nI (b + 1))) := (u2.mono (by simp)).tr (f.mono (by simp))
  have kk : hI (sI (sI (sI U so 1 (nI (2 ^ bc B - 1))) so 2 (if bev B = true then (1 : Int32) else 0)) so 4 (nI (b + 1))) kn = hI S kn := by rw [f.I (n1 r4), u2.I (by simp [r5, c3])]
  refine ⟨_, rfl, fT, h.fr fT (by simp [o1, o2, o3, o4]) (by simp [p1, d1.symm, p3, p4]) (by simp [q1, q2, d2.symm, d3.symm]), ⟨⟨fT.ok a1, by rw [fT.R]; exact a2, by rw [fT.R]; exact a3, by rw [fT.R]; exact a4⟩, u3.fr f (by rw [f.I (n1 r1.symm)]) (n1 r3), ⟨fT.ok c1, by rw [fT.N]; exact c2, c3⟩, ⟨fT.ok f1, by rw [fT.N]; exact f2, f3, ?_⟩, ?_, ?_, hI_same _ _ _ _⟩, ?_, ?_⟩
  · rw [fT.I (by simp [r6, r7, d5, f3])]; exact f4
  · rw [hI_k (by decide), hI_k (by decide), hI_same]
  · rw [hI_k (by decide), hI_same]
  · intro x hx
    rw [kk]
    obtain ⟨t, w, t1, t2, t3⟩ := m1 x hx
    exact ⟨t, w, by omega, t2, t3⟩
  · intro x y hp ht
    rw [kk] at ht
    obtain ⟨t, w, t1, t2, t3⟩ := m1 (plV 10 x y) pl_lt
    have et : hI S kn (plV 10 x y) >>> ((4 : Int32) &&& 31) = nI t := by
      rw [t3, show ((4 : Int32) &&& 31) = (nI 4 &&& 31) from rfl, nI_shr (by omega) (by decide), Nat.shiftRight_eq_div_pow]
      congr 1
      omega
    rw [et] at ht
    have := (nI_eq_iff (by omega) (by omega)).mp ht
    omega
theorem c_prepare (h : StV S s L a B) (hw : Wf B) (hN0 : 12 < N) (h0 : SolV S so Ls as_ kn pw nb) (hb : nb + 1 < 2 ^ 27) (d1 : Ls ≠ L) (d2 : as_ ≠ a) (d3 : kn ≠ a) (d4 : pw ≠ a) (d5 : pw ≠ as_) : ∃ T b', f_X3_prepare N S so s = some ((), T) ∧ Fr [so, Ls, as_, kn] S T ∧ StV T s L a B ∧ b' ≤ nb + 1 ∧ SP T so Ls as_ kn pw (bc B) (bn B) (bM B) (bev B) b' := by
  obtain ⟨c, n, M, e, b, hbn, hl, hsp⟩ := h0
  obtain ⟨U, u1, u2, u3, u4⟩ := c_prep82 (N := N) h hw hN0 hsp (by omega) d1 d2 d3 d4 d5
  have done : ∃ T b', f_X3_prepare_b82 N so s S (if bev B = true then 1 else 0) = some ((), T) ∧ Fr [so, Ls, as_, kn] S T ∧ StV T s L a B ∧ b' ≤ nb + 1 ∧ SP T so Ls as_ kn pw (bc B) (bn B) (bM B) (bev B) b' := ⟨U, b + 1, u1, u2, u3, by omega, u4⟩
  have hk := hw.k10
  have hbb := hw.b10
  have hc := hw.c10
  have pl := pop_le (bk B ||| bb B)
  have al := all_lt hc
  have al2 := all_lt hl.1
  have key : ∃ T b', f_X3_prepare_b36 N so s S (if bev B = true then 1 else 0) = some ((), T) ∧ Fr [so, Ls, as_, kn] S T ∧ StV T s L a B ∧ b' ≤ nb + 1 ∧ SP T so Ls as_ kn pw (bc B) (bn B) (bM B) (bev B) b' := by
    have hs := hsp.1
    unfold f_X3_prepare_b36
    rw [gd_pos hs.1.1, gd_pos h.1.1, c_allCells h hw, cl_s, hs.2.2.2.2.1]
    by_cases g1 : c = bc B
    · rw [if_pos (by rw [g1]), gd_pos hs.1.1, hs.2.2.2.2.2.1]
      by_cases g2 : e = bev B
      · rw [if_pos (by rw [g2])]
        unfold f_X3_prepare_b61
        rw [if_neg (by decide), gd_pos hs.1.1, hs.1.2.1, nn_s, gd_pos h.1.1, h.1.2, nn_s, gd_pos hs.2.1.1.1, c_areSame hs.2.1 h.2.1 hN0, cl_s]
        by_cases g3 : sameB n (bn B) M (bM B) = true
        · rw [if_pos g3, if_neg (by decide)]
          unfold sameB at g3
          rw [Bool.and_eq_true, decide_eq_true_eq, Bool.not_eq_true', anyN_not] at g3
          have eM : ∀ j, j < n → M j = bM B j := fun j hj => by simpa using g3.2 j hj
          subst g1
          subst g2
          obtain ⟨rfl, -⟩ := g3
          refine ⟨S, b, rfl, Fr.rf, h, by omega, ⟨hs.1, hs.2.1.cong eM, hs.2.2⟩, hsp.2.1, fun x y hp ht => ?_⟩
          rw [← Lv_congM eM]
          exact hsp.2.2 x y hp ht
        · rw [if_neg g3, if_pos rfl]
          exact done
      · rw [if_neg (fun q => g2 (by
          revert q
          cases e <;> cases bev B <;> simp))]
        unfold f_X3_prepare_b60 f_X3_prepare_b61
        rw [if_pos rfl]
        exact done
    · rw [if_neg (fun q => g1 (pow2_inj ((nI_eq_iff (by omega) (by omega)).mp q)))]
      unfold f_X3_prepare_b60 f_X3_prepare_b61
      rw [if_pos rfl]
      exact done
  unfold f_X3_prepare
  rw [gd_pos h.1.1, bd_d, h.2.2.2.1, h.2.2.2.2.1, nI_or, bitc_pop _ (or_lt hk hbb), h.2.2.2.2.2.1, show (1 : Int32) = nI (2 ^ 1 - 1) from rfl, fa_mask]
  have e0 : nI (pop (bk B ||| bb B) % 2 ^ 1) = 0 ↔ pop (bk B ||| bb B) % 2 = 0 := nI_eq0 (by omega)
  unfold f_X3_prepare_b28
  by_cases g : pop (bk B ||| bb B) % 2 = 0
  · rw [if_pos (e0.mpr g)]
    rcases hw.2.2.1 with q | q
    · have eb : bev B = true := by unfold bev; rw [q, decide_eq_true g]; rfl
      have eb' : (if bev B = true then (1 : Int32) else 0) = 1 := by rw [eb]; rfl
      rw [q, if_pos (show (if 1 = 1 then nI (2 ^ 1 - 1) else 0) = nI (2 ^ 1 - 1) from rfl)]
      rw [eb'] at key
      exact key
    · have eb : bev B = false := by unfold bev; rw [q, decide_eq_true g]; rfl
      have eb' : (if bev B = true then (1 : Int32) else 0) = 0 := by rw [eb]; rfl
      rw [q, if_neg (show ¬ ((if 2 = 1 then nI (2 ^ 1 - 1) else 0) = nI (2 ^ 1 - 1)) by decide)]
      rw [eb'] at key
      exact key
  · rw [if_neg (fun w => g (e0.mp w))]
    rcases hw.2.2.1 with q | q
    · have eb : bev B = false := by unfold bev; rw [q, decide_eq_false g]; rfl
      have eb' : (if bev B = true then (1 : Int32) else 0) = 0 := by rw [eb]; rfl
      rw [q, if_neg (show ¬ ((if 1 = 1 then nI (2 ^ 1 - 1) else 0) = 0) by decide)]
      rw [eb'] at key
      exact key
    · have eb : bev B = true := by unfold bev; rw [q, decide_eq_false g]; rfl
      have eb' : (if bev B = true then (1 : Int32) else 0) = 1 := by rw [eb]; rfl
      rw [q, if_pos (show (if 2 = 1 then nI (2 ^ 1 - 1) else 0) = (0 : Int32) from rfl)]
      rw [eb'] at key
      exact key
/-- the length that the class tells of a board -/
def bLv (B : Bd) : Int32 := Lv (bc B) (bn B) (bM B) (bk B) (bb B) (bv B)
theorem c_lengthOf (h : StV S s L a B) (hw : Wf B) (hN0 : 12 < N) (h0 : SolV S so Ls as_ kn pw nb) (hb : nb + 1 < 2 ^ 27) (d1 : Ls ≠ L) (d2 : as_ ≠ a) (d3 : kn ≠ a) (d4 : pw ≠ a) (d5 : pw ≠ as_) : ∃ T, f_X3_lengthOf N S so s = some (bLv B, T) ∧ Fr [so, Ls, as_, kn] S T ∧ StV T s L a B ∧ SolV T so Ls as_ kn pw (nb + 1) := by
  obtain ⟨T, b', t1, t2, t3, t4, t5⟩ := c_prepare (N := N) h hw hN0 h0 hb d1 d2 d3 d4 d5
  have pf := pop_le (bfre B)
  obtain ⟨U, u1, u2, u3, u4⟩ := c_searchD (N := N) hN0 (by omega) hw.lns 13 (bk B) (bb B) 0 T hw.pos (by unfold bfre at pf; omega) (Nat.zero_le _) t5
  rw [mvr_bev hw] at u1
  have so_s : so ≠ s := ok_ne t5.1.1.1 t3.1.1 (by decide)
  have o2 : s ≠ Ls := ok_ne t3.1.1 t5.1.2.1.1.1 (by decide)
  have o4 : s ≠ kn := ok_ne t3.1.1 t5.1.2.2.1.1 (by decide)
  have p4 : L ≠ kn := ok_ne t3.2.1.1.1 t5.1.2.2.1.1 (by decide)
  have q2 : a ≠ Ls := ok_ne t3.2.1.1.2.2.1 t5.1.2.1.1.1 (by decide)
  refine ⟨U, ?_, t2.tr (u2.mono (by simp)), t3.fr u2 (by simp [o2, o4]) (by simp [d1.symm, p4]) (by simp [q2, d3.symm]), ⟨_, _, _, _, b', t4, hw.lns, t5.1.fr u2 u3, u4⟩⟩
  have u1' : f_X3_search N T so (nI (bk B)) (nI (bb B)) (if bv B = 1 then 1 else 0) 0 = some (bLv B, U) := u1
  unfold f_X3_lengthOf
  rw [gd_pos (by
    obtain ⟨_, _, _, _, _, _, _, q⟩ := h0
    exact q.1.1.1), t1, cl_s, gd_pos t3.1.1, gd_pos t5.1.1.1, t3.2.2.2.1, t3.2.2.2.2.1, t3.2.2.2.2.2.1, u1', cl_s]
end
