theorem nlt0 {n : Nat} (h : n < 2 ^ 31) : ¬ nI n < 0 := fun q => absurd ((lt_c 0 (n := 0) rfl h (by decide)).mp q) (Nat.not_lt_zero n)
section
variable {S T : Hp} {x : Nat} {d : Nat → Nat} {q : Nat → Option (Nat × Nat × Nat)} {A : Ab} {nb : Nat} {N : Nat}
theorem c_isRule {p : Int32} : f_X6_isRule N S p = some ((if 0 ≤ p ∧ p ≤ 3 then (1 : Int32) else 0), S) := by
  unfold f_X6_isRule
  by_cases h1 : p < 0
  · rw [if_pos h1, if_neg (fun w => absurd h1 (Int32.not_lt.mpr w.1))]
  · rw [if_neg h1]
    by_cases h2 : (3 : Int32) < p
    · rw [if_pos h2, if_neg (fun w => absurd h2 (Int32.not_lt.mpr w.2))]
    · rw [if_neg h2, if_pos ⟨Int32.not_lt.mp h1, Int32.not_lt.mp h2⟩]
theorem x_line (h : CX S x d q A nb) (hd : CD x d q) (hw : WfA A) {j w : Nat} (hj : j < bn (aN A)) (hw5 : w < 5) : f_X6_line N S x (nI j) (nI w) = some (lkL (aN A) j w, S) := by
  have hn := hw.1.1.2.2.1
  have st := h.2.1
  have hl := st.2.1
  have hM := hl.2.2.2 j hj
  have hM' : bM (aN A) j < 1024 := hM
  have e3 : hI S (d 0) 3 = nI (bb (aN A)) := st.2.2.2.2.1
  have e2 : hI S (d 0) 2 = nI (bk (aN A)) := st.2.2.2.1
  have e72 : ∀ s0 : Int32, s0 = (if isAl (bM (aN A)) (bb (aN A)) j = true then 0 else 1) → f_X6_line_b72 N x (nI j) (nI w) S (nI (bM (aN A) j)) s0 = some (lkL (aN A) j w, S) := by
    intro s0 hs
    have b0 : bitc (nI (bM (aN A) j) &&& nI (bfre (aN A))) = nI (pop (bM (aN A) j &&& bfre (aN A))) := by rw [nI_and, bitc_pop _ (and_lt hM')]
    unfold f_X6_line_b72 lkL
    rw [gd_pos h.1.1.1, h.1.1.2.1, nn_s, gd_pos st.1.1, c_freeCells st hw.1, cl_s]
    by_cases w0 : w = 0
    · rw [if_pos (by rw [w0]; rfl), if_pos w0]
    · rw [if_neg (fun u => w0 ((nI_eq0 (by omega)).mp u)), if_neg w0]
      by_cases w1 : w = 1
      · rw [if_pos (by rw [w1]; rfl), if_pos w1]
        by_cases al : isAl (bM (aN A)) (bb (aN A)) j = true
        · rw [if_pos al] at hs ⊢
          rw [if_pos hs]
        · rw [if_neg al] at hs ⊢
          rw [if_neg (by rw [hs]; decide)]
      · rw [if_neg (fun u => w1 ((nI_eq1 (by omega)).mp u)), if_neg w1]
        by_cases w2 : w = 2
        · rw [if_pos (by rw [w2]; rfl), if_pos w2, b0]
        · rw [if_neg (fun u => w2 ((nI_eq2 (by omega)).mp u)), if_neg w2]
          by_cases w3 : w = 3
          · rw [if_pos (by rw [w3]; rfl), if_pos w3]
            unfold wtP
            by_cases al : isAl (bM (aN A)) (bb (aN A)) j = true
            · rw [if_pos al] at hs ⊢
              rw [if_pos hs, b0, i1024 (pop_le _)]
              rfl
            · rw [if_neg al] at hs ⊢
              rw [if_neg (by rw [hs]; decide)]
              rfl
          · rw [if_neg (fun u => w3 ((eq_c 3 rfl (by omega) (by decide)).mp u)), if_neg w3, gd_pos h.1.1.1, h.1.1.2.1, nn_s, gd_pos st.1.1, e2, nI_and, bitc_pop _ (and_lt hM')]
  unfold f_X6_line
  rw [gd_pos h.1.1.1, h.1.1.2.1, nn_s, gd_pos st.1.1, st.1.2, nn_s, gd_pos hl.1.1, c_has hl, cl_s, if_pos (in0 hj (by omega)), if_neg (by decide), if_neg (nlt0 (by omega)), if_pos ((lt_c 5 (n := 5) rfl (by omega) (by decide)).mpr hw5), gd_pos h.1.1.1, h.1.1.2.1, nn_s, gd_pos st.1.1, st.1.2, nn_s, gd_pos hl.1.1, c_maskOf hl (by omega), if_pos hj, cl_s, gd_pos h.1.1.1, h.1.1.2.1, nn_s, gd_pos st.1.1, e3, nI_and]
  have q0 : nI (bM (aN A) j &&& bb (aN A)) = 0 ↔ bM (aN A) j &&& bb (aN A) = 0 := nI_eq0 (by have := and_lt (b := bb (aN A)) hM'; omega)
  by_cases al : bM (aN A) j &&& bb (aN A) = 0
  · rw [if_pos (q0.mpr al)]
    exact e72 0 (by rw [if_pos (by simpa [isAl] using al)])
  · rw [if_neg (fun u => al (q0.mp u))]
    exact e72 1 (by rw [if_neg (by simpa [isAl] using al)])
theorem x_cell (h : CX S x d q A nb) (hd : CD x d q) (hw : WfA A) (hN0 : 12 < N) {i w : Nat} (hi : i < bc (aN A)) (hw4 : w < 4) : ∃ T, f_X6_cell N S x (nI i) (nI w) = some (lkC (aN A) i w, T) ∧ CN S x d q A nb T := by
  have hc := hw.1.c10
  have st := h.2.1
  have hl := st.2.1
  have e3 : hI S (d 0) 3 = nI (bb (aN A)) := st.2.2.2.2.1
  unfold f_X6_cell lkC
  rw [gd_pos h.1.1.1, h.1.1.2.1, nn_s, gd_pos st.1.1, c_hasCell st, cl_s, if_pos (in0 hi (by omega)), if_neg (by decide), if_neg (nlt0 (by omega)), if_pos ((lt_c 4 (n := 4) rfl (by omega) (by decide)).mpr hw4)]
  by_cases w0 : w = 0
  · rw [if_pos (by rw [w0]; rfl), if_pos w0, gd_pos h.1.1.1, h.1.1.2.1, nn_s, gd_pos st.1.1, c_ownerOf st hw.1 hi, cl_s]
    exact ⟨S, rfl, CN.rf h⟩
  · rw [if_neg (fun u => w0 ((nI_eq0 (by omega)).mp u)), if_neg w0]
    by_cases w1 : w = 1
    · rw [if_pos (by rw [w1]; rfl), if_pos w1, gd_pos h.1.1.1, h.1.1.2.1, nn_s, gd_pos st.1.1, c_dangerOf st hw.1 hN0 hi, cl_s]
      refine ⟨S, ?_, CN.rf h⟩
      cases g : (bfre (aN A)).testBit i
      · rw [if_neg (by decide), bdg_0 g]
      · rw [if_pos rfl]
    · rw [if_neg (fun u => w1 ((nI_eq1 (by omega)).mp u)), if_neg w1]
      by_cases w2 : w = 2
      · obtain ⟨T, t1, t2⟩ := x_other (N := N) h hd hw hN0 (i := i) (by omega)
        rw [if_pos (by rw [w2]; rfl), if_pos w2, gd_pos h.1.1.1, t1, cl_s]
        exact ⟨T, rfl, t2⟩
      · rw [if_neg (fun u => w2 ((nI_eq2 (by omega)).mp u)), if_neg w2, gd_pos h.1.1.1, h.1.1.2.1, nn_s, gd_pos st.1.1, st.1.2, nn_s, gd_pos hl.1.1, e3, c_aliveWith hl hN0 (by omega), cl_s]
        exact ⟨S, rfl, CN.rf h⟩
theorem x_reply (h : CX S x d q A nb) (hd : CD x d q) (hw : WfA A) (hN0 : 12 < N) (hb : nb + 1 < 2 ^ 27) {r : Nat} (hr : r < 4) : ∃ T, f_X6_reply N S x (nI r) = some (rplB (aN A) r, T) ∧ CN S x d q A (nb + 1) T := by
  obtain ⟨T, t1, t2, -⟩ := x_win (N := N) h hd hw hN0
  have c := t2.2.2
  have wl := bwin_le (aN A)
  unfold f_X6_reply rplB
  rw [c_isRule, cl_s, if_pos (in03 hr), if_neg (by decide), gd_pos h.1.1.1, h.1.1.2.1, nn_s, gd_pos h.2.1.1.1, t1, cl_s]
  by_cases g0 : bwin (aN A) = 0
  · obtain ⟨U, u1, u2, u3, u4⟩ := c_cellBy (N := N) (e := 0) hd (Or.inl rfl) hN0 c.2.1 hw.1 c.cr hb hr
    rw [if_pos (by rw [g0]; rfl), if_pos g0, gd_pos c.1.1.1, c.1.1.2.1, nn_s, u1, cl_s]
    exact ⟨U, rfl, t2.tr (c.rr hd u2 (by decide) u3 u4)⟩
  · rw [if_neg (fun w => g0 ((nI_eq0 (by omega)).mp w)), if_neg g0]
    exact ⟨T, rfl, t2.mono (Nat.le_succ _)⟩
end
