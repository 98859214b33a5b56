theorem VV_brk {c n : Nat} {M : Nat → Nat} {mk br v : Nat} (hc : c ≤ 10) (h : (VV c n M mk br v).1 = 2) : (VV c n M mk br v).2 = pop (fre c mk br) := by
  by_cases h0 : winP M n mk br = 0
  · rw [VV_open hc h0] at h ⊢
    unfold stepV at h ⊢
    generalize (if v = 1 then anyN (canV (fre c mk br) fun i => VV c n M (chK v mk i) (chB v br i) (3 - v)) c else !anyN (brkV (fre c mk br) fun i => VV c n M (chK v mk i) (chB v br i) (3 - v)) c) = g at h ⊢
    cases g
    · rfl
    · exact absurd (show (1 : Nat) = 2 from h) (by decide)
  · rw [VV_won h0] at h ⊢
    have h' : winP M n mk br = 2 := h
    show (if winP M n mk br = 1 then 0 else pop (fre c mk br)) = pop (fre c mk br)
    rw [h', if_neg (by decide)]
/-! what is counted is no matter for how a game goes on -/
theorem bmS_cnt (B : Bd) (o x y : Int32) : ∀ i, bmS (cntB B o x y) i = bmS B i
  | 0 => rfl
  | i + 1 => by
    rw [bmS, bmS, bmS_cnt B o x y i]
    rfl
theorem mdS_cnt (B : Bd) (o x y : Int32) : ∀ i, mdS (cntB B o x y) i = mdS B i
  | 0 => rfl
  | i + 1 => by
    rw [mdS, mdS, mdS_cnt B o x y i]
    rfl
theorem rpB_cnt (B : Bd) (o x y : Int32) (r : Nat) : rpB (cntB B o x y) r = rpB B r := by
  unfold rpB
  rw [bmS_cnt, mdS_cnt]
  rfl
theorem parB_cnt (B : Bd) (o x y : Int32) (i : Nat) : parB (cntB B o x y) i = parB B i := rfl
theorem stp_cnt (B : Bd) (o x y : Int32) (r1 r2 : Nat) : ∃ o' x' y', stpB (cntB B o x y) r1 r2 = cntB (stpB B r1 r2) o' x' y' := by
  unfold stpB
  rw [rpB_cnt, parB_cnt]
  exact ⟨_, _, _, rfl⟩
theorem it_cnt (r1 r2 : Nat) : ∀ (k : Nat) (B : Bd) (o x y : Int32), bwin (itB r1 r2 k (cntB B o x y)).1 = bwin (itB r1 r2 k B).1
  | 0, B, o, x, y => rfl
  | k + 1, B, o, x, y => by
    rw [itB, itB]
    by_cases g : bwin B = 0
    · have g' : bwin (cntB B o x y) = 0 := g
      rw [if_pos g, if_pos g']
      obtain ⟨o', x', y', e⟩ := stp_cnt B o x y r1 r2
      show bwin (itB r1 r2 k (stpB (cntB B o x y) r1 r2)).1 = bwin (itB r1 r2 k (stpB B r1 r2)).1
      rw [e]
      exact it_cnt r1 r2 k _ o' x' y'
    · have g' : ¬ bwin (cntB B o x y) = 0 := g
      rw [if_neg g, if_neg g']
      rfl
theorem lt_le {x a b : Int32} (h : a.toInt + 1 = b.toInt) : x < b ↔ x ≤ a := by
  rw [Int32.lt_iff_toInt_lt, Int32.le_iff_toInt_le]
  omega
theorem nlt0 {n : Nat} (h : n < 2 ^ 31) : ¬ nI n < 0 := fun q => absurd ((lt_c 0 (n := 0) rfl h (by decide)).mp q) (Nat.not_lt_zero n)
section
variable {S T : Hp} {x : Nat} {d : Nat → Nat} {q : Nat → Option (Nat × Nat × Nat)} {A : Ab} {nb : Nat} {N : Nat}
/-- a call that throws E, and changes nothing -/
def CB (S : Hp) (x : Nat) (d : Nat → Nat) (q : Nat → Option (Nat × Nat × Nat)) (A : Ab) (nb : Nat) (E : String) {α : Type} (f : Option α) (e : Option (String × Hp)) : Prop := f = none ∧ ∃ T, e = some (E, T) ∧ CN S x d q A nb T
theorem c_isRule {p : Int32} : f_X6_isRule N S p = some ((if 0 ≤ p ∧ p ≤ 3 then (1 : Int32) else 0), S) := by
  unfold f_X6_isRule
  by_cases h1 : p < 0
  · rw [if_pos h1, if_neg (fun w => absurd h1 (Int32.not_lt.mpr w.1))]
  · rw [if_neg h1]
    by_cases h2 : (3 : Int32) < p
    · rw [if_pos h2, if_neg (fun w => absurd h2 (Int32.not_lt.mpr w.2))]
    · rw [if_neg h2, if_pos ⟨Int32.not_lt.mp h1, Int32.not_lt.mp h2⟩]
theorem x_line (h : CX S x d q A nb) (hd : CD x d q) (hw : WfA A) {j w : Nat} (hj : j < bn (aN A)) (hw5 : w < 5) : f_X6_line N S x (nI j) (nI w) = some (lkL (aN A) j w, S) := by
  have hn := hw.1.1.2.2.1
  have st := h.2.1
  have hl := st.2.1
  have hM := hl.2.2.2 j hj
  have hM' : bM (aN A) j < 1024 := hM
  have e3 : hI S (d 0) 3 = nI (bb (aN A)) := st.2.2.2.2.1
  have e2 : hI S (d 0) 2 = nI (bk (aN A)) := st.2.2.2.1
  have e72 : ∀ s0 : Int32, s0 = (if isAl (bM (aN A)) (bb (aN A)) j = true then 0 else 1) → f_X6_line_b72 N x (nI j) (nI w) S (nI (bM (aN A) j)) s0 = some (lkL (aN A) j w, S) := by
    intro s0 hs
    have b0 : bitc (nI (bM (aN A) j) &&& nI (bfre (aN A))) = nI (pop (bM (aN A) j &&& bfre (aN A))) := by rw [nI_and, bitc_pop _ (and_lt hM')]
    unfold f_X6_line_b72 lkL
    rw [gd_pos h.1.1.1, h.1.1.2.1, nn_s, gd_pos st.1.1, c_freeCells st hw.1, cl_s]
    by_cases w0 : w = 0
    · rw [if_pos (by rw [w0]; rfl), if_pos w0]
    · rw [if_neg (fun u => w0 ((nI_eq0 (by omega)).mp u)), if_neg w0]
      by_cases w1 : w = 1
      · rw [if_pos (by rw [w1]; rfl), if_pos w1]
        by_cases al : isAl (bM (aN A)) (bb (aN A)) j = true
        · rw [if_pos al] at hs ⊢
          rw [if_pos hs]
        · rw [if_neg al] at hs ⊢
          rw [if_neg (by rw [hs]; decide)]
      · rw [if_neg (fun u => w1 ((nI_eq1 (by omega)).mp u)), if_neg w1]
        by_cases w2 : w = 2
        · rw [if_pos (by rw [w2]; rfl), if_pos w2, b0]
        · rw [if_neg (fun u => w2 ((nI_eq2 (by omega)).mp u)), if_neg w2]
          by_cases w3 : w = 3
          · rw [if_pos (by rw [w3]; rfl), if_pos w3]
            unfold wtP
            by_cases al : isAl (bM (aN A)) (bb (aN A)) j = true
            · rw [if_pos al] at hs ⊢
              rw [if_pos hs, b0, i1024 (pop_le _)]
              rfl
            · rw [if_neg al] at hs ⊢
              rw [if_neg (by rw [hs]; decide)]
              rfl
          · rw [if_neg (fun u => w3 ((eq_c 3 rfl (by omega) (by decide)).mp u)), if_neg w3, gd_pos h.1.1.1, h.1.1.2.1, nn_s, gd_pos st.1.1, e2, nI_and, bitc_pop _ (and_lt hM')]
  unfold f_X6_line
  rw [gd_pos h.1.1.1, h.1.1.2.1, nn_s, gd_pos st.1.1, st.1.2, nn_s, gd_pos hl.1.1, c_has hl, cl_s, if_pos (in0 hj (by omega)), if_neg (by decide), if_neg (nlt0 (by omega)), if_pos ((lt_c 5 (n := 5) rfl (by omega) (by decide)).mpr hw5), gd_pos h.1.1.1, h.1.1.2.1, nn_s, gd_pos st.1.1, st.1.2, nn_s, gd_pos hl.1.1, c_maskOf hl (by omega), if_pos hj, cl_s, gd_pos h.1.1.1, h.1.1.2.1, nn_s, gd_pos st.1.1, e3, nI_and]
  have q0 : nI (bM (aN A) j &&& bb (aN A)) = 0 ↔ bM (aN A) j &&& bb (aN A) = 0 := nI_eq0 (by have := and_lt (b := bb (aN A)) hM'; omega)
  by_cases al : bM (aN A) j &&& bb (aN A) = 0
  · rw [if_pos (q0.mpr al)]
    exact e72 0 (by rw [if_pos (by simpa [isAl] using al)])
  · rw [if_neg (fun u => al (q0.mp u))]
    exact e72 1 (by rw [if_neg (by simpa [isAl] using al)])
theorem x_line_bad1 (h : CX S x d q A nb) {p w : Int32} (hp : ¬ (0 ≤ p ∧ p < nI (bn (aN A)))) : CB S x d q A nb "java/lang/IndexOutOfBoundsException" (f_X6_line N S x p w) (e_X6_line N S x p w) := by
  have st := h.2.1
  have hl := st.2.1
  refine ⟨?_, S, ?_, CN.rf h⟩
  · unfold f_X6_line
    rw [gd_pos h.1.1.1, h.1.1.2.1, nn_s, gd_pos st.1.1, st.1.2, nn_s, gd_pos hl.1.1, c_has hl, cl_s, if_neg hp, if_pos rfl]
  · unfold e_X6_line
    rw [gd_pos h.1.1.1, h.1.1.2.1, nn_s, gd_pos st.1.1, st.1.2, nn_s, gd_pos hl.1.1, c_has hl, cl_s, if_neg hp, if_pos rfl]
theorem x_line_bad2 (h : CX S x d q A nb) {p w : Int32} (hp : 0 ≤ p ∧ p < nI (bn (aN A))) (hq : ¬ ((0 : Int32) ≤ w ∧ w ≤ 4)) : CB S x d q A nb "java/lang/IllegalArgumentException" (f_X6_line N S x p w) (e_X6_line N S x p w) := by
  have st := h.2.1
  have hl := st.2.1
  refine ⟨?_, S, ?_, CN.rf h⟩
  · unfold f_X6_line f_X6_line_b33
    rw [gd_pos h.1.1.1, h.1.1.2.1, nn_s, gd_pos st.1.1, st.1.2, nn_s, gd_pos hl.1.1, c_has hl, cl_s, if_pos hp, if_neg (by decide)]
    by_cases w0 : w < 0
    · rw [if_pos w0]
    · rw [if_neg w0, if_neg (fun u => hq ⟨Int32.not_lt.mp w0, (lt_le (a := 4) (by decide)).mp u⟩)]
  · unfold e_X6_line e_X6_line_b33
    rw [gd_pos h.1.1.1, h.1.1.2.1, nn_s, gd_pos st.1.1, st.1.2, nn_s, gd_pos hl.1.1, c_has hl, cl_s, if_pos hp, if_neg (by decide)]
    by_cases w0 : w < 0
    · rw [if_pos w0]
    · rw [if_neg w0, if_neg (fun u => hq ⟨Int32.not_lt.mp w0, (lt_le (a := 4) (by decide)).mp u⟩)]
theorem x_cell (h : CX S x d q A nb) (hd : CD x d q) (hw : WfA A) (hN0 : 12 < N) {i w : Nat} (hi : i < bc (aN A)) (hw4 : w < 4) : ∃ T, f_X6_cell N S x (nI i) (nI w) = some (lkC (aN A) i w, T) ∧ CN S x d q A nb T := by
  have hc := hw.1.c10
  have st := h.2.1
  have hl := st.2.1
  have e3 : hI S (d 0) 3 = nI (bb (aN A)) := st.2.2.2.2.1
  unfold f_X6_cell lkC
  rw [gd_pos h.1.1.1, h.1.1.2.1, nn_s, gd_pos st.1.1, c_hasCell st, cl_s, if_pos (in0 hi (by omega)), if_neg (by decide), if_neg (nlt0 (by omega)), if_pos ((lt_c 4 (n := 4) rfl (by omega) (by decide)).mpr hw4)]
  by_cases w0 : w = 0
  · rw [if_pos (by rw [w0]; rfl), if_pos w0, gd_pos h.1.1.1, h.1.1.2.1, nn_s, gd_pos st.1.1, c_ownerOf st hw.1 hi, cl_s]
    exact ⟨S, rfl, CN.rf h⟩
  · rw [if_neg (fun u => w0 ((nI_eq0 (by omega)).mp u)), if_neg w0]
    by_cases w1 : w = 1
    · rw [if_pos (by rw [w1]; rfl), if_pos w1, gd_pos h.1.1.1, h.1.1.2.1, nn_s, gd_pos st.1.1, c_dangerOf st hw.1 hN0 hi, cl_s]
      refine ⟨S, ?_, CN.rf h⟩
      cases g : (bfre (aN A)).testBit i
      · rw [if_neg (by decide), bdg_0 g]
      · rw [if_pos rfl]
    · rw [if_neg (fun u => w1 ((nI_eq1 (by omega)).mp u)), if_neg w1]
      by_cases w2 : w = 2
      · obtain ⟨T, t1, t2⟩ := x_other (N := N) h hd hw hN0 (i := i) (by omega)
        rw [if_pos (by rw [w2]; rfl), if_pos w2, gd_pos h.1.1.1, t1, cl_s]
        exact ⟨T, rfl, t2⟩
      · rw [if_neg (fun u => w2 ((nI_eq2 (by omega)).mp u)), if_neg w2, gd_pos h.1.1.1, h.1.1.2.1, nn_s, gd_pos st.1.1, st.1.2, nn_s, gd_pos hl.1.1, e3, c_aliveWith hl hN0 (by omega), cl_s]
        exact ⟨S, rfl, CN.rf h⟩
theorem x_cell_bad1 (h : CX S x d q A nb) {p w : Int32} (hp : ¬ (0 ≤ p ∧ p < nI (bc (aN A)))) : CB S x d q A nb "java/lang/IndexOutOfBoundsException" (f_X6_cell N S x p w) (e_X6_cell N S x p w) := by
  have st := h.2.1
  refine ⟨?_, S, ?_, CN.rf h⟩
  · unfold f_X6_cell
    rw [gd_pos h.1.1.1, h.1.1.2.1, nn_s, gd_pos st.1.1, c_hasCell st, cl_s, if_neg hp, if_pos rfl]
  · unfold e_X6_cell
    rw [gd_pos h.1.1.1, h.1.1.2.1, nn_s, gd_pos st.1.1, c_hasCell st, cl_s, if_neg hp, if_pos rfl]
theorem x_cell_bad2 (h : CX S x d q A nb) {p w : Int32} (hp : 0 ≤ p ∧ p < nI (bc (aN A))) (hq : ¬ ((0 : Int32) ≤ w ∧ w ≤ 3)) : CB S x d q A nb "java/lang/IllegalArgumentException" (f_X6_cell N S x p w) (e_X6_cell N S x p w) := by
  have st := h.2.1
  refine ⟨?_, S, ?_, CN.rf h⟩
  · unfold f_X6_cell f_X6_cell_b30
    rw [gd_pos h.1.1.1, h.1.1.2.1, nn_s, gd_pos st.1.1, c_hasCell st, cl_s, if_pos hp, if_neg (by decide)]
    by_cases w0 : w < 0
    · rw [if_pos w0]
    · rw [if_neg w0, if_neg (fun u => hq ⟨Int32.not_lt.mp w0, (lt_le (a := 3) (by decide)).mp u⟩)]
  · unfold e_X6_cell e_X6_cell_b30
    rw [gd_pos h.1.1.1, h.1.1.2.1, nn_s, gd_pos st.1.1, c_hasCell st, cl_s, if_pos hp, if_neg (by decide)]
    by_cases w0 : w < 0
    · rw [if_pos w0]
    · rw [if_neg w0, if_neg (fun u => hq ⟨Int32.not_lt.mp w0, (lt_le (a := 3) (by decide)).mp u⟩)]
theorem x_reply (h : CX S x d q A nb) (hd : CD x d q) (hw : WfA A) (hN0 : 12 < N) (hb : nb + 1 < 2 ^ 27) {r : Nat} (hr : r < 4) : ∃ T, f_X6_reply N S x (nI r) = some (rplB (aN A) r, T) ∧ CN S x d q A (nb + 1) T := by
  obtain ⟨T, t1, t2, -⟩ := x_win (N := N) h hd hw hN0
  have c := t2.2.2
  have wl := bwin_le (aN A)
  unfold f_X6_reply rplB
  rw [c_isRule, cl_s, if_pos (in03 hr), if_neg (by decide), gd_pos h.1.1.1, h.1.1.2.1, nn_s, gd_pos h.2.1.1.1, t1, cl_s]
  by_cases g0 : bwin (aN A) = 0
  · obtain ⟨U, u1, u2, u3, u4⟩ := c_cellBy (N := N) (e := 0) hd (Or.inl rfl) hN0 c.2.1 hw.1 c.cr hb hr
    rw [if_pos (by rw [g0]; rfl), if_pos g0, gd_pos c.1.1.1, c.1.1.2.1, nn_s, u1, cl_s]
    exact ⟨U, rfl, t2.tr (c.rr hd u2 (by decide) u3 u4)⟩
  · rw [if_neg (fun w => g0 ((nI_eq0 (by omega)).mp w)), if_neg g0]
    exact ⟨T, rfl, t2.mono (Nat.le_succ _)⟩
theorem x_reply_bad (h : CX S x d q A nb) {p : Int32} (hp : ¬ ((0 : Int32) ≤ p ∧ p ≤ 3)) : CB S x d q A nb "java/lang/IllegalArgumentException" (f_X6_reply N S x p) (e_X6_reply N S x p) := by
  refine ⟨?_, S, ?_, CN.rf h⟩
  · unfold f_X6_reply
    rw [c_isRule, cl_s, if_neg hp, if_pos rfl]
  · unfold e_X6_reply
    rw [c_isRule, cl_s, if_neg hp, if_pos rfl]
theorem x_len (h : CX S x d q A nb) (hd : CD x d q) (hw : WfA A) (hN0 : 12 < N) (hb : nb + 1 < 2 ^ 27) : ∃ T, f_X3_lengthOf N S (d 15) (d 0) = some (bLv (aN A), T) ∧ CN S x d q A (nb + 1) T := by
  obtain ⟨T, t1, t2, t3, t4⟩ := c_lengthOf (N := N) h.2.1 hw.1 hN0 h.cr.2.2 hb (hd.1 16 1 (by decide) (by decide) (by decide)) (hd.1 17 2 (by decide) (by decide) (by decide)) (hd.1 18 2 (by decide) (by decide) (by decide)) (hd.1 19 2 (by decide) (by decide) (by decide)) (hd.1 19 17 (by decide) (by decide) (by decide))
  have t2' : Fr ([15, 16, 17, 18].map d) S T := t2
  exact ⟨T, t1, h.st [15, 16, 17, 18] hd t2' (by decide) t3 (h.cr.2.1.fr hd t2' (by decide)) t4⟩
theorem x_solved (h : CX S x d q A nb) (hd : CD x d q) (hw : WfA A) (hN0 : 12 < N) (hb : nb + 1 < 2 ^ 27) {w : Nat} (hw2 : w < 2) : ∃ T, f_X6_solved N S x (nI w) = some (nI (svB (aN A) w), T) ∧ CN S x d q A (nb + 1) T := by
  obtain ⟨T, t1, t2, -⟩ := x_win (N := N) h hd hw hN0
  have c := t2.2.2
  have wl := bwin_le (aN A)
  have hc := hw.1.c10
  have e0 : nI w = 0 ↔ w = 0 := nI_eq0 (by omega)
  unfold f_X6_solved svB
  rw [if_neg (nlt0 (by omega)), if_pos ((lt_c 2 (n := 2) rfl (by omega) (by decide)).mpr hw2), gd_pos h.1.1.1, h.1.1.2.1, nn_s, gd_pos h.2.1.1.1, t1, cl_s]
  by_cases g0 : bwin (aN A) = 0
  · obtain ⟨U, u1, u2⟩ := x_len (N := N) c hd hw hN0 hb
    have cu := u2.2.2
    rw [if_pos (by rw [g0]; rfl), if_neg (fun u => u g0), gd_pos c.1.1.1, c.cr.1.2.2, nn_s, c.1.1.2.1, nn_s, gd_pos c.cr.2.2.ok3, u1, cl_s]
    have st := t2.tr u2
    unfold bLv Lv
    rcases VV_12 (n := bn (aN A)) (M := bM (aN A)) (mk := bk (aN A)) (br := bb (aN A)) (v := bv (aN A)) hc with v | v
    · have len := VV_len hw.1.lns _ (bk (aN A)) (bb (aN A)) (bv (aN A)) (Nat.le_refl _) v
      have p10 := pop_le (fre (bc (aN A)) (bk (aN A)) (bb (aN A)))
      rw [if_pos v]
      have nm : ¬ nI (VV (bc (aN A)) (bn (aN A)) (bM (aN A)) (bk (aN A)) (bb (aN A)) (bv (aN A))).2 = -1 := nI_nm1 (by omega)
      by_cases w0 : w = 0
      · rw [if_pos (e0.mpr w0), if_neg nm, if_pos w0, v]
        exact ⟨U, rfl, st⟩
      · rw [if_neg (fun u => w0 (e0.mp u)), if_neg nm, if_neg w0]
        exact ⟨U, rfl, st⟩
    · have len := VV_brk hc v
      have nv : ¬ (VV (bc (aN A)) (bn (aN A)) (bM (aN A)) (bk (aN A)) (bb (aN A)) (bv (aN A))).1 = 1 := by rw [v]; decide
      rw [if_neg nv]
      by_cases w0 : w = 0
      · rw [if_pos (e0.mpr w0), if_pos rfl, if_pos w0, v]
        exact ⟨U, rfl, st⟩
      · rw [if_neg (fun u => w0 (e0.mp u)), if_pos rfl, if_neg w0, gd_pos cu.1.1.1, cu.1.1.2.1, nn_s, gd_pos cu.2.1.1.1, c_freeCells cu.2.1 hw.1, cl_s, bitc_pop (bfre (aN A)) (fre_lt hc), len]
        exact ⟨U, rfl, st⟩
  · rw [if_neg (fun w => g0 ((nI_eq0 (by omega)).mp w)), if_pos g0]
    have st := t2.mono (Nat.le_succ nb)
    by_cases w0 : w = 0
    · rw [if_pos (e0.mpr w0), if_pos w0]
      exact ⟨T, rfl, st⟩
    · rw [if_neg (fun u => w0 (e0.mp u)), if_neg w0]
      exact ⟨T, rfl, st⟩
theorem x_solved_bad (h : CX S x d q A nb) {p : Int32} (hp : ¬ ((0 : Int32) ≤ p ∧ p ≤ 1)) : CB S x d q A nb "java/lang/IllegalArgumentException" (f_X6_solved N S x p) (e_X6_solved N S x p) := by
  refine ⟨?_, S, ?_, CN.rf h⟩
  · unfold f_X6_solved f_X6_solved_b9
    by_cases w0 : p < 0
    · rw [if_pos w0]
    · rw [if_neg w0, if_neg (fun u => hp ⟨Int32.not_lt.mp w0, (lt_le (a := 1) (by decide)).mp u⟩)]
  · unfold e_X6_solved e_X6_solved_b9
    by_cases w0 : p < 0
    · rw [if_pos w0]
    · rw [if_neg w0, if_neg (fun u => hp ⟨Int32.not_lt.mp w0, (lt_le (a := 1) (by decide)).mp u⟩)]
end
