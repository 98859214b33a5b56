section
variable {S T : Hp} {x z : Nat} {d : Nat → Nat} {q : Nat → Option (Nat × Nat × Nat)} {A : Ab} {nb N : Nat}
theorem x_skip (h : CX S x d q A nb) (hd : CD x d q) (hw : WfA A) (hN0 : 12 < N) (hz : ∀ a, a ∈ hL S → a < z) (g0 : bwin (aN A) = 0) : CA S x d q (nowA (svA A) (skpB (aN A))) nb (nI (3 - bv (aN A))) (f_X6_skip N S z x) := by
  obtain ⟨R, r1, r2, -⟩ := x_win (N := N) h hd hw hN0
  have cr := r2.2.2
  obtain ⟨T, z', q', t1, t2, -⟩ := x_save (N := N) cr hd hw hN0 (z := z) (fun a ha => hz a (by rw [← r2.2.1]; exact ha))
  have hd' := t2.2.2.1
  have c := t2.2.2.2.2
  have st := c.2.1
  have n01 : d 0 ≠ d 1 := hd.1 0 1 (by decide) (by decide) (by decide)
  have n02 : d 0 ≠ d 2 := hd.1 0 2 (by decide) (by decide) (by decide)
  obtain ⟨s1, s2, s3, s4, s5, s6, s7, s8, s9⟩ := st.2.2
  have s4' : hI T (d 0) 4 = (if bv (aN A) = 1 then (1 : Int32) else 0) := s4
  have key : ∀ s0 : Int32, isB s0 → s0 = (if 3 - bv (aN A) = 1 then (1 : Int32) else 0) → ∃ V, f_X6_skip_b50 N x T z' s0 (d 0) = some (nI (3 - bv (aN A)), V, z') ∧ CN T x d q' (nowA (svA A) (skpB (aN A))) nb V := by
    intro s0 hb hs
    have f : Fr ([0].map d) T (sI (sI (sI T (d 0) 4 s0) (d 0) 5 (-1)) (d 0) 6 (-1)) := ((Fr.rf.sI (by simp)).sI (by simp)).sI (by simp)
    have sv : StV (sI (sI (sI T (d 0) 4 s0) (d 0) 5 (-1)) (d 0) 6 (-1)) (d 0) (d 1) (d 2) (skpB (aN A)) := by
      refine ⟨⟨f.ok st.1.1, by rw [f.R]; exact st.1.2⟩, st.2.1.fr f (by rw [hI_a n01.symm, hI_a n01.symm, hI_a n01.symm]) (hd.out (by decide) (by decide)), ?_⟩
      refine ⟨?_, ?_, ?_, ?_, ?_, ?_, ?_, ?_, ?_⟩
      · rw [hI_k (by decide), hI_k (by decide), hI_k (by decide)]; exact s1
      · rw [hI_k (by decide), hI_k (by decide), hI_k (by decide)]; exact s2
      · rw [hI_k (by decide), hI_k (by decide), hI_k (by decide)]; exact s3
      · rw [hI_k (by decide), hI_k (by decide), hI_same]; exact hs
      · rw [hI_k (by decide), hI_same]; rfl
      · rw [hI_same]; rfl
      · rw [hI_k (by decide), hI_k (by decide), hI_k (by decide)]; exact s7
      · rw [hI_k (by decide), hI_k (by decide), hI_k (by decide)]; exact s8
      · rw [hI_k (by decide), hI_k (by decide), hI_k (by decide)]; exact s9
    have cn := c.st1 [0] hd' f (by decide) sv
    have cv := cn.2.2
    have em := c_mover (N := N) sv (skpB_wf hw.1)
    refine ⟨_, ?_, cn⟩
    unfold f_X6_skip_b50 f_X4_forgetLatest
    rw [gd_pos st.1.1, gd_pos hb, gd_pos (ok_sI c.1.1.1), hR_sI, c.1.1.2.1, nn_s, gd_pos (ok_sI st.1.1), gd_pos (ok_sI st.1.1), bd_d, cl_s, gd_pos cv.1.1.1, cv.1.1.2.1, nn_s, gd_pos cv.2.1.1.1, em, cl_s]
    rfl
  have fin : ∀ s0 : Int32, isB s0 → s0 = (if 3 - bv (aN A) = 1 then (1 : Int32) else 0) → f_X6_skip N S z x = f_X6_skip_b50 N x T z' s0 (d 0) → CA S x d q (nowA (svA A) (skpB (aN A))) nb (nI (3 - bv (aN A))) (f_X6_skip N S z x) := by
    intro s0 hb hs e
    obtain ⟨V, v1, v2⟩ := key s0 hb hs
    exact ⟨V, z', q', e.trans v1, ((r2.g hd).tr t2).tr (v2.g hd')⟩
  have e : f_X6_skip N S z x = if hI T (d 0) 4 = 0 then (f_X6_skip_b50 N x T z' ((1 : Int32)) (d 0)) else (f_X6_skip_b50 N x T z' ((0 : Int32)) (d 0)) := by
    unfold f_X6_skip
    rw [gd_pos h.1.1.1, h.1.1.2.1, nn_s, gd_pos h.2.1.1.1, r1, cl_s, if_pos (by rw [g0]; rfl), gd_pos cr.1.1.1, cr.1.1.2.2.2.1, nn_s, cr.1.1.2.1, nn_s, gd_pos cr.1.2.2.1.1, t1, cz_s, gd_pos c.1.1.1, c.1.1.2.1, nn_s, gd_pos st.1.1]
  rcases hw.1.2.2.1 with v | v
  · refine fin 0 (Or.inl rfl) (by rw [v]; rfl) ?_
    rw [e, s4', if_pos v, if_neg (by decide)]
  · refine fin 1 (Or.inr rfl) (by rw [v]; rfl) ?_
    rw [e, s4', if_neg (show ¬ bv (aN A) = 1 by rw [v]; decide), if_pos rfl]
theorem x_play (h : CX S x d q A nb) (hd : CD x d q) (hw : WfA A) (hN0 : 12 < N) (hb : nb + 10 < 2 ^ 27) (hz : ∀ a, a ∈ hL S → a < z) {r1 r2 m : Nat} (h1 : r1 < 4) (h2 : r2 < 4) (h3 : 1 ≤ m) (h4 : m ≤ 10) (g0 : bwin (aN A) = 0) : CA S x d q (nowA (svA A) (itB r1 r2 m (aN A)).1) (nb + 10) (nI (itB r1 r2 m (aN A)).2) (f_X6_play N S z x (nI r1) (nI r2) (nI m)) := by
  obtain ⟨R, e1, e2, -⟩ := x_win (N := N) h hd hw hN0
  have cr := e2.2.2
  obtain ⟨T, z', q', t1, t2, -⟩ := x_save (N := N) cr hd hw hN0 (z := z) (fun a ha => hz a (by rw [← e2.2.1]; exact ha))
  have hd' := t2.2.2.1
  have c := t2.2.2.2.2
  obtain ⟨U, u1, u2, u3, u4⟩ := c_goOn (N := N) (e := 0) hd' (Or.inl rfl) hN0 h1 h2 h4 c.2.1 hw.1 c.cr hb
  have cn := c.rr hd' u2 (by decide) u3 u4
  refine ⟨U, z', q', ?_, ((e2.g hd).tr t2).tr (cn.g hd')⟩
  unfold f_X6_play
  rw [c_isRule, cl_s, if_pos (in03 h1), if_neg (by decide), c_isRule, cl_s, if_pos (in03 h2), if_neg (by decide), if_neg (fun w => absurd ((lt_c 1 (n := 1) rfl (by omega) (by decide)).mp w) (by omega)), if_pos (in110 h3 h4).2, gd_pos h.1.1.1, h.1.1.2.1, nn_s, gd_pos h.2.1.1.1, e1, cl_s, if_pos (by rw [g0]; rfl), gd_pos cr.1.1.1, cr.1.1.2.2.2.1, nn_s, cr.1.1.2.1, nn_s, gd_pos cr.1.2.2.1.1, t1, cz_s, gd_pos c.1.1.1, c.1.1.2.1, nn_s, u1, cl_s]
  rfl
end
