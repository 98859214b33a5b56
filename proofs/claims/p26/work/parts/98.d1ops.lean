section
variable {S T : Hp} {x z : Nat} {d : Nat → Nat} {q : Nat → Option (Nat × Nat × Nat)} {A : Ab} {nb N : Nat}
/-- a call that ends with b, the state A' -/
def CA (S : Hp) (x : Nat) (d : Nat → Nat) (q : Nat → Option (Nat × Nat × Nat)) (A : Ab) (nb : Nat) (b : Int32) (run : Option (Int32 × Hp × Nat)) : Prop := ∃ T z' q', run = some (b, T, z') ∧ CG S x d q q' A nb T
theorem x_begin (h : CX S x d q A nb) (hd : CD x d q) (hw : WfA A) (hN0 : 12 < N) (hz : ∀ a, a ∈ hL S → a < z) {n : Nat} (h2 : 2 ≤ n) (h10 : n ≤ 10) : CA S x d q (nowA (svA A) (begB (aN A) n)) nb (nI (bc (aN A))) (f_X6_begin N S z x (nI n)) := by
  obtain ⟨T, z', q', t1, t2, -⟩ := x_save (N := N) h hd hw hN0 hz
  have hd' := t2.2.2.1
  have c := t2.2.2.2.2
  have st := c.2.1
  have n01 : d 0 ≠ d 1 := hd.1 0 1 (by decide) (by decide) (by decide)
  have n21 : d 2 ≠ d 1 := hd.1 2 1 (by decide) (by decide) (by decide)
  have n20 : d 2 ≠ d 0 := hd.1 2 0 (by decide) (by decide) (by decide)
  obtain ⟨s1, s2, s3, s4, s5, s6, s7, s8, s9⟩ := st.2.2
  have f : Fr ([0, 1].map d) T (sI (sI T (d 0) 1 (nI n)) (d 1) 1 0) := (Fr.rf.sI (by simp)).sI (by simp)
  have st2 : StV (sI (sI T (d 0) 1 (nI n)) (d 1) 1 0) (d 0) (d 1) (d 2) (cutB (aN A) n) := by
    refine ⟨⟨f.ok st.1.1, by rw [f.R]; exact st.1.2⟩, ⟨LnS.fr st.2.1.1 f, ⟨hI_same _ _ _ _, fun j hj => absurd hj (Nat.not_lt_zero j)⟩, Nat.zero_le _, fun j hj => absurd hj (Nat.not_lt_zero j)⟩, ?_⟩
    rw [hI_a n01]
    exact ⟨hI_same _ _ _ _, by rw [hI_k (by decide)]; exact s2, by rw [hI_k (by decide)]; exact s3, by rw [hI_k (by decide)]; exact s4, by rw [hI_k (by decide)]; exact s5, by rw [hI_k (by decide)]; exact s6, by rw [hI_k (by decide)]; exact s7, by rw [hI_k (by decide)]; exact s8, by rw [hI_k (by decide)]; exact s9⟩
  obtain ⟨U, u1, u2, u3⟩ := c_freeAll (N := N) st2 (x := 1) (Or.inr rfl)
  have f2 : Fr ([0, 1].map d) T U := f.tr (u2.mono (fun a ha => by rw [List.mem_singleton.mp ha]; simp))
  have cn := c.st1 [0, 1] hd' f2 (by decide) u3
  refine ⟨U, z', q', ?_, t2.tr (cn.g hd')⟩
  unfold f_X6_begin
  rw [if_neg (fun w => absurd ((lt_c 2 (n := 2) rfl (by omega) (by decide)).mp w) (by omega)), if_pos ((le_c 10 (n := 10) rfl (by omega) (by decide)).mpr h10), gd_pos h.1.1.1, h.1.1.2.2.2.1, nn_s, h.1.1.2.1, nn_s, gd_pos h.1.2.2.1.1, t1, cz_s, gd_pos c.1.1.1, c.1.1.2.1, nn_s, gd_pos st.1.1, hR_sI, st.1.2, nn_s, gd_pos (ok_sI st.2.1.1.1), u1, cl_s]
  show some (hI T (d 0) 1, U, z') = _
  rw [s1]
  rfl
theorem x_lines {B : Bd} (c : CX S x d q A nb) (hd : CD x d q) {n : Nat} {M : Nat → Nat} (f : Fr [d 1, d 2] S T) (hl : LnV T (d 1) (d 2) n M) (hB : bn B = n ∧ bM B = M ∧ B.2.1.2 = (aN A).2.1.2 ∧ B.2.2 = (aN A).2.2) : CN S x d q (nowA A B) nb T := by
  have f' : Fr ([1, 2].map d) S T := f
  have st := c.2.1
  have e0 := f'.I (hd.out (k := 0) (by decide) (by decide))
  obtain ⟨b1, b2, b3, b4⟩ := hB
  refine c.st1 [1, 2] hd f' (by decide) ⟨⟨f.ok st.1.1, by rw [f.R]; exact st.1.2⟩, by rw [b1, b2]; exact hl, ?_⟩
  rw [e0]
  have := st.2.2
  unfold bc bk bb bv bl bp bo bx by_ at this ⊢
  rw [b3, b4]
  exact this
theorem x_addLine (h : CX S x d q A nb) (hd : CD x d q) (hw : WfA A) (hN0 : 12 < N) (hz : ∀ a, a ∈ hL S → a < z) {v : Nat} (h0 : v ≠ 0) (hv : v < 2 ^ bc (aN A)) (hn : bn (aN A) < 12) : CA S x d q (nowA (svA A) (addB (aN A) v)) nb (nI (bn (aN A))) (f_X6_addLine N S z x (nI v)) := by
  obtain ⟨T, z', q', t1, t2, -⟩ := x_save (N := N) h hd hw hN0 hz
  have hd' := t2.2.2.1
  have c := t2.2.2.2.2
  have st := c.2.1
  have st0 := h.2.1
  have hc := hw.1.c10
  have v10 : v < 1024 := Nat.lt_of_lt_of_le hv (pw10 hc)
  obtain ⟨U, u1, u2, u3⟩ := c_put (N := N) st.2.1 hn v10
  have cn := x_lines (B := addB (aN A) v) c hd' u2 u3 ⟨rfl, rfl, rfl, rfl⟩
  have cu := cn.2.2
  have e0 : dif v (2 ^ bc (aN A) - 1) = 0 := by
    refine Nat.eq_of_testBit_eq (fun i => ?_)
    rw [tb_dif v10, tb_all, Nat.zero_testBit]
    by_cases g : i < bc (aN A)
    · simp [g]
    · rw [Nat.testBit_lt_two_pow (Nat.lt_of_lt_of_le hv (Nat.pow_le_pow_right (by decide) (by omega)))]
      rfl
  refine ⟨U, z', q', ?_, t2.tr (cn.g hd')⟩
  unfold f_X6_addLine
  rw [if_neg (fun w => h0 ((nI_eq0 (by omega)).mp w)), gd_pos h.1.1.1, h.1.1.2.1, nn_s, gd_pos st0.1.1, c_allCells st0 hw.1, cl_s, nI_dif v10, e0, if_pos (by rfl), gd_pos h.1.1.1, h.1.1.2.1, nn_s, gd_pos st0.1.1, st0.1.2, nn_s, gd_pos st0.2.1.1.1, st0.2.1.2.1.1, if_pos ((lt_c 12 (n := 12) rfl (by omega) (by decide)).mpr hn), h.1.1.2.2.2.1, nn_s, gd_pos h.1.2.2.1.1, t1, cz_s, gd_pos c.1.1.1, c.1.1.2.1, nn_s, gd_pos st.1.1, st.1.2, nn_s, gd_pos st.2.1.1.1, u1, cl_s, gd_pos cu.1.1.1, cu.1.1.2.1, nn_s, gd_pos cu.2.1.1.1, cu.2.1.1.2, nn_s, gd_pos cu.2.1.2.1.1.1, u3.2.1.1]
  show some (nI (bn (aN A) + 1) - 1, U, z') = _
  rw [nI_m1]
theorem x_removeLine (h : CX S x d q A nb) (hd : CD x d q) (hw : WfA A) (hN0 : 12 < N) (hz : ∀ a, a ∈ hL S → a < z) {i : Nat} (hi : i < bn (aN A)) : CA S x d q (nowA (svA A) (remB (aN A) i)) nb (nI (bM (aN A) i)) (f_X6_removeLine N S z x (nI i)) := by
  obtain ⟨T, z', q', t1, t2, -⟩ := x_save (N := N) h hd hw hN0 hz
  have hd' := t2.2.2.1
  have c := t2.2.2.2.2
  have st := c.2.1
  have st0 := h.2.1
  have hn := hw.1.1.2.2.1
  obtain ⟨U, u1, u2, u3⟩ := c_drop (N := N) st.2.1 hN0 (i := i) hi
  have cn := x_lines (B := remB (aN A) i) c hd' u2 u3 ⟨rfl, rfl, rfl, rfl⟩
  have em := c_maskOf (N := N) st.2.1 (j := i) (by omega)
  rw [if_pos (show i < bn (aN (svA A)) from hi)] at em
  refine ⟨U, z', q', ?_, t2.tr (cn.g hd')⟩
  unfold f_X6_removeLine
  rw [gd_pos h.1.1.1, h.1.1.2.1, nn_s, gd_pos st0.1.1, st0.1.2, nn_s, gd_pos st0.2.1.1.1, c_has st0.2.1, cl_s, if_pos (in0 hi (by omega)), if_neg (by decide), gd_pos h.1.1.1, h.1.1.2.2.2.1, nn_s, h.1.1.2.1, nn_s, gd_pos h.1.2.2.1.1, t1, cz_s, gd_pos c.1.1.1, c.1.1.2.1, nn_s, gd_pos st.1.1, st.1.2, nn_s, gd_pos st.2.1.1.1, em, cl_s, gd_pos c.1.1.1, c.1.1.2.1, nn_s, gd_pos st.1.1, st.1.2, nn_s, gd_pos st.2.1.1.1, u1, cl_s]
  rfl
theorem x_clear (h : CX S x d q A nb) (hd : CD x d q) (hw : WfA A) (hN0 : 12 < N) (hz : ∀ a, a ∈ hL S → a < z) {p : Int32} (hp : isB p) : CA S x d q (nowA (svA A) (clrB (aN A) (if p = 0 then 2 else 1))) nb (nI (pop (bk (aN A) ||| bb (aN A)))) (f_X6_clear N S z x p) := by
  obtain ⟨T, z', q', t1, t2, -⟩ := x_save (N := N) h hd hw hN0 hz
  have hd' := t2.2.2.1
  have c := t2.2.2.2.2
  have st := c.2.1
  obtain ⟨U, u1, u2, u3⟩ := c_freeAll (N := N) st hp
  have u2' : Fr ([0].map d) T U := u2
  have cn := c.st1 [0] hd' u2' (by decide) u3
  have e2 : hI T (d 0) 2 = nI (bk (aN A)) := st.2.2.2.1
  have e3 : hI T (d 0) 3 = nI (bb (aN A)) := st.2.2.2.2.1
  refine ⟨U, z', q', ?_, t2.tr (cn.g hd')⟩
  unfold f_X6_clear
  rw [gd_pos h.1.1.1, h.1.1.2.2.2.1, nn_s, h.1.1.2.1, nn_s, gd_pos h.1.2.2.1.1, t1, cz_s, gd_pos c.1.1.1, c.1.1.2.1, nn_s, gd_pos st.1.1, bd_d, e2, e3, nI_or, bitc_pop _ (or_lt hw.1.k10 hw.1.b10), u1, cl_s]
theorem x_move (h : CX S x d q A nb) (hd : CD x d q) (hw : WfA A) (hN0 : 12 < N) (hz : ∀ a, a ∈ hL S → a < z) {i : Nat} (g0 : bwin (aN A) = 0) (hf : (bfre (aN A)).testBit i = true) : CA S x d q (nowA (svA A) (occB (aN A) i (parB (aN A) i))) nb (nI (bwin (occB (aN A) i (parB (aN A) i)))) (f_X6_move N S z x (nI i)) := by
  have hc := hw.1.c10
  have hi := fr_lt hc hf
  obtain ⟨R, r1, r2, -⟩ := x_win (N := N) h hd hw hN0
  have cr := r2.2.2
  obtain ⟨T, z', q', t1, t2, -⟩ := x_save (N := N) cr hd hw hN0 (z := z) (fun a ha => hz a (by rw [← r2.2.1]; exact ha))
  have hd' := t2.2.2.1
  have c := t2.2.2.2.2
  obtain ⟨U, u1, u2⟩ := x_other (N := N) c hd' (svA_wf hw) hN0 (i := i) (by omega)
  have cu := u2.2.2
  obtain ⟨V, v1, v2, v3⟩ := c_occupy (N := N) cu.2.1 hw.1 hN0 (p := parB (aN A) i) hf (par_ok hw.1 i)
  have v2' : Fr ([0, 1].map d) U V := v2
  have cn := cu.st1 [0, 1] hd' v2' (by decide) v3
  have wv : WfA (nowA (svA A) (occB (aN A) i (parB (aN A) i))) := nowA_wf (svA_wf hw) (occB_wf hw.1 hf (par_ok hw.1 i))
  have cv := cn.2.2
  obtain ⟨W, w1, w2, -⟩ := x_win (N := N) cv hd' wv hN0
  refine ⟨W, z', q', ?_, ((r2.g hd).tr t2).tr (((u2.tr cn).tr w2).g hd')⟩
  have e1 : f_X6_otherInPairing N T x (nI i) = some (parB (aN A) i, U) := u1
  unfold f_X6_move
  rw [gd_pos h.1.1.1, h.1.1.2.1, nn_s, gd_pos h.2.1.1.1, c_hasCell h.2.1, cl_s, if_pos (in0 hi (by omega)), if_neg (by decide), gd_pos h.1.1.1, h.1.1.2.1, nn_s, gd_pos h.2.1.1.1, r1, cl_s, if_pos (by rw [g0]; rfl), gd_pos cr.1.1.1, cr.1.1.2.1, nn_s, gd_pos cr.2.1.1.1, c_isFree cr.2.1 hw.1 (by omega), cl_s, if_pos hf, if_neg (by decide), gd_pos cr.1.1.1, cr.1.1.2.2.2.1, nn_s, cr.1.1.2.1, nn_s, gd_pos cr.1.2.2.1.1, t1, cz_s, gd_pos c.1.1.1, c.1.1.2.1, nn_s, e1, cl_s, gd_pos cu.2.1.1.1, v1, cl_s, gd_pos cv.1.1.1, cv.1.1.2.1, nn_s, gd_pos cv.2.1.1.1, w1, cl_s]
  rfl
end
