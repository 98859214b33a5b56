section
variable {S T : Hp} {x z : Nat} {d : Nat → Nat} {q : Nat → Option (Nat × Nat × Nat)} {A : Ab} {nb N : Nat}
theorem x_skip (h : CX S x d q A nb) (hd : CD x d q) (hw : WfA A) (hN0 : 12 < N) (hz : ∀ a, a ∈ hL S → a < z) (g0 : bwin (aN A) = 0) : CA S x d q (nowA (svA A) (skpB (aN A))) nb (nI (3 - bv (aN A))) (f_X6_skip N S z x) := by
  obtain ⟨R, r1, r2, -⟩ := x_win (N := N) h hd hw hN0
  have cr := r2.2.2
  obtain ⟨T, z', q', t1, t2, -⟩ := x_save (N := N) cr hd hw hN0 (z := z) (fun a ha => hz a (by rw [← r2.2.1]; exact ha))
  have hd' := t2.2.2.1
  have c := t2.2.2.2.2
  have st := c.2.1
  have n01 : d 0 ≠ d 1 := hd.1 0 1 (by decide) (by decide) (by decide)
  have n02 : d 0 ≠ d 2 := hd.1 0 2 (by decide) (by decide) (by decide)
  obtain ⟨s1, s2, s3, s4, s5, s6, s7, s8, s9⟩ := st.2.2
  have s4' : hI T (d 0) 4 = (if bv (aN A) = 1 then (1 : Int32) else 0) := s4
  have key : ∀ s0 : Int32, isB s0 → s0 = (if 3 - bv (aN A) = 1 then (1 : Int32) else 0) → ∃ V, f_X6_skip_b50 N x T z' s0 (d 0) = some (nI (3 - bv (aN A)), V, z') ∧ CN T x d q' (nowA (svA A) (skpB (aN A))) nb V := by
    intro s0 hb hs
    have f : Fr ([0].map d) T (sI (sI (sI T (d 0) 4 s0) (d 0) 5 (-1)) (d 0) 6 (-1)) := ((Fr.rf.sI (by simp)).sI (by simp)).sI (by simp)
    have sv : StV (sI (sI (sI T (d 0) 4 s0) (d 0) 5 (-1)) (d 0) 6 (-1)) (d 0) (d 1) (d 2) (skpB (aN A)) := by
      refine ⟨⟨f.ok st.1.1, by rw [f.R]; exact st.1.2⟩, st.2.1.fr f (by rw [hI_a n01.symm, hI_a n01.symm, hI_a n01.symm]) (hd.out (by decide) (by decide)), ?_⟩
      refine ⟨?_, ?_, ?_, ?_, ?_, ?_, ?_, ?_, ?_⟩
      · rw [hI_k (by decide), hI_k (by decide), hI_k (by decide)]; exact s1
      · rw [hI_k (by decide), hI_k (by decide), hI_k (by decide)]; exact s2
      · rw [hI_k (by decide), hI_k (by decide), hI_k (by decide)]; exact s3
      · rw [hI_k (by decide), hI_k (by decide), hI_same]; exact hs
      · rw [hI_k (by decide), hI_same]; rfl
      · rw [hI_same]; rfl
      · rw [hI_k (by decide), hI_k (by decide), hI_k (by decide)]; exact s7
      · rw [hI_k (by decide), hI_k (by decide), hI_k (by decide)]; exact s8
      · rw [hI_k (by decide), hI_k (by decide), hI_k (by decide)]; exact s9
    have cn := c.st1 [0] hd' f (by decide) sv
    have cv := cn.2.2
    have em := c_mover (N := N) sv (skpB_wf hw.1)
    refine ⟨_, ?_, cn⟩
    unfold f_X6_skip_b50 f_X4_forgetLatest
    rw [gd_pos st.1.1, gd_pos hb, gd_pos (ok_sI c.1.1.1), hR_sI, c.1.1.2.1, nn_s, gd_pos (ok_sI st.1.1), gd_pos (ok_sI st.1.1), bd_d, cl_s, gd_pos cv.1.1.1, cv.1.1.2.1, nn_s, gd_pos cv.2.1.1.1, em, cl_s]
    rfl
  have fin : ∀ s0 : Int32, isB s0 → s0 = (if 3 - bv (aN A) = 1 then (1 : Int32) else 0) → f_X6_skip N S z x = f_X6_skip_b50 N x T z' s0 (d 0) → CA S x d q (nowA (svA A) (skpB (aN A))) nb (nI (3 - bv (aN A))) (f_X6_skip N S z x) := by
    intro s0 hb hs e
    obtain ⟨V, v1, v2⟩ := key s0 hb hs
    exact ⟨V, z', q', e.trans v1, ((r2.g hd).tr t2).tr (v2.g hd')⟩
  have e : f_X6_skip N S z x = if hI T (d 0) 4 = 0 then (f_X6_skip_b50 N x T z' ((1 : Int32)) (d 0)) else (f_X6_skip_b50 N x T z' ((0 : Int32)) (d 0)) := by
    unfold f_X6_skip
    rw [gd_pos h.1.1.1, h.1.1.2.1, nn_s, gd_pos h.2.1.1.1, r1, cl_s, if_pos (by rw [g0]; rfl), gd_pos cr.1.1.1, cr.1.1.2.2.2.1, nn_s, cr.1.1.2.1, nn_s, gd_pos cr.1.2.2.1.1, t1, cz_s, gd_pos c.1.1.1, c.1.1.2.1, nn_s, gd_pos st.1.1]
  rcases hw.1.2.2.1 with v | v
  · refine fin 0 (Or.inl rfl) (by rw [v]; rfl) ?_
    rw [e, s4', if_pos v, if_neg (by decide)]
  · refine fin 1 (Or.inr rfl) (by rw [v]; rfl) ?_
    rw [e, s4', if_neg (show ¬ bv (aN A) = 1 by rw [v]; decide), if_pos rfl]
theorem x_skip_bad (h : CX S x d q A nb) (hd : CD x d q) (hw : WfA A) (hN0 : 12 < N) (g0 : bwin (aN A) ≠ 0) : CB S x d q A nb "java/lang/IllegalStateException" (f_X6_skip N S z x) (e_X6_skip N S x) := by
  have wl := bwin_le (aN A)
  obtain ⟨R, r1, r2, -⟩ := x_win (N := N) h hd hw hN0
  refine ⟨?_, R, ?_, r2⟩
  · unfold f_X6_skip
    rw [gd_pos h.1.1.1, h.1.1.2.1, nn_s, gd_pos h.2.1.1.1, r1, cl_s, if_neg (fun w => g0 ((nI_eq0 (by omega)).mp w))]
  · unfold e_X6_skip
    rw [gd_pos h.1.1.1, h.1.1.2.1, nn_s, gd_pos h.2.1.1.1, r1, cl_s, if_neg (fun w => g0 ((nI_eq0 (by omega)).mp w))]
theorem x_play (h : CX S x d q A nb) (hd : CD x d q) (hw : WfA A) (hN0 : 12 < N) (hb : nb + 10 < 2 ^ 27) (hz : ∀ a, a ∈ hL S → a < z) {r1 r2 m : Nat} (h1 : r1 < 4) (h2 : r2 < 4) (h3 : 1 ≤ m) (h4 : m ≤ 10) (g0 : bwin (aN A) = 0) : CA S x d q (nowA (svA A) (itB r1 r2 m (aN A)).1) (nb + 10) (nI (itB r1 r2 m (aN A)).2) (f_X6_play N S z x (nI r1) (nI r2) (nI m)) := by
  obtain ⟨R, e1, e2, -⟩ := x_win (N := N) h hd hw hN0
  have cr := e2.2.2
  obtain ⟨T, z', q', t1, t2, -⟩ := x_save (N := N) cr hd hw hN0 (z := z) (fun a ha => hz a (by rw [← e2.2.1]; exact ha))
  have hd' := t2.2.2.1
  have c := t2.2.2.2.2
  obtain ⟨U, u1, u2, u3, u4⟩ := c_goOn (N := N) (e := 0) hd' (Or.inl rfl) hN0 h1 h2 h4 c.2.1 hw.1 c.cr hb
  have cn := c.rr hd' u2 (by decide) u3 u4
  refine ⟨U, z', q', ?_, ((e2.g hd).tr t2).tr (cn.g hd')⟩
  unfold f_X6_play
  rw [c_isRule, cl_s, if_pos (in03 h1), if_neg (by decide), c_isRule, cl_s, if_pos (in03 h2), if_neg (by decide), if_neg (fun w => absurd ((lt_c 1 (n := 1) rfl (by omega) (by decide)).mp w) (by omega)), if_pos (in110 h3 h4).2, gd_pos h.1.1.1, h.1.1.2.1, nn_s, gd_pos h.2.1.1.1, e1, cl_s, if_pos (by rw [g0]; rfl), gd_pos cr.1.1.1, cr.1.1.2.2.2.1, nn_s, cr.1.1.2.1, nn_s, gd_pos cr.1.2.2.1.1, t1, cz_s, gd_pos c.1.1.1, c.1.1.2.1, nn_s, u1, cl_s]
  rfl
theorem x_play_bad1 (h : CX S x d q A nb) {p1 p2 p3 : Int32} (hp : ¬ ((0 ≤ p1 ∧ p1 ≤ 3) ∧ (0 ≤ p2 ∧ p2 ≤ 3) ∧ 1 ≤ p3 ∧ p3 ≤ 10)) : CB S x d q A nb "java/lang/IllegalArgumentException" (f_X6_play N S z x p1 p2 p3) (e_X6_play N S x p1 p2 p3) := by
  refine ⟨?_, S, ?_, CN.rf h⟩
  · unfold f_X6_play f_X6_play_b25
    rw [c_isRule, cl_s]
    by_cases h1 : 0 ≤ p1 ∧ p1 ≤ 3
    · rw [if_pos h1, if_neg (by decide), c_isRule, cl_s]
      by_cases h2 : 0 ≤ p2 ∧ p2 ≤ 3
      · rw [if_pos h2, if_neg (by decide)]
        by_cases w0 : p3 < 1
        · rw [if_pos w0]
        · rw [if_neg w0, if_neg (fun u => hp ⟨h1, h2, Int32.not_lt.mp w0, u⟩)]
      · rw [if_neg h2, if_pos rfl]
    · rw [if_neg h1, if_pos rfl]
  · unfold e_X6_play e_X6_play_b25
    rw [c_isRule, cl_s]
    by_cases h1 : 0 ≤ p1 ∧ p1 ≤ 3
    · rw [if_pos h1, if_neg (by decide), c_isRule, cl_s]
      by_cases h2 : 0 ≤ p2 ∧ p2 ≤ 3
      · rw [if_pos h2, if_neg (by decide)]
        by_cases w0 : p3 < 1
        · rw [if_pos w0]
        · rw [if_neg w0, if_neg (fun u => hp ⟨h1, h2, Int32.not_lt.mp w0, u⟩)]
      · rw [if_neg h2, if_pos rfl]
    · rw [if_neg h1, if_pos rfl]
theorem x_play_bad2 (h : CX S x d q A nb) (hd : CD x d q) (hw : WfA A) (hN0 : 12 < N) {r1 r2 m : Nat} (h1 : r1 < 4) (h2 : r2 < 4) (h3 : 1 ≤ m) (h4 : m ≤ 10) (g0 : bwin (aN A) ≠ 0) : CB S x d q A nb "java/lang/IllegalStateException" (f_X6_play N S z x (nI r1) (nI r2) (nI m)) (e_X6_play N S x (nI r1) (nI r2) (nI m)) := by
  have wl := bwin_le (aN A)
  obtain ⟨R, e1, e2, -⟩ := x_win (N := N) h hd hw hN0
  refine ⟨?_, R, ?_, e2⟩
  · unfold f_X6_play
    rw [c_isRule, cl_s, if_pos (in03 h1), if_neg (by decide), c_isRule, cl_s, if_pos (in03 h2), if_neg (by decide), if_neg (fun w => absurd ((lt_c 1 (n := 1) rfl (by omega) (by decide)).mp w) (by omega)), if_pos (in110 h3 h4).2, gd_pos h.1.1.1, h.1.1.2.1, nn_s, gd_pos h.2.1.1.1, e1, cl_s, if_neg (fun w => g0 ((nI_eq0 (by omega)).mp w))]
  · unfold e_X6_play
    rw [c_isRule, cl_s, if_pos (in03 h1), if_neg (by decide), c_isRule, cl_s, if_pos (in03 h2), if_neg (by decide), if_neg (fun w => absurd ((lt_c 1 (n := 1) rfl (by omega) (by decide)).mp w) (by omega)), if_pos (in110 h3 h4).2, gd_pos h.1.1.1, h.1.1.2.1, nn_s, gd_pos h.2.1.1.1, e1, cl_s, if_neg (fun w => g0 ((nI_eq0 (by omega)).mp w))]
theorem x_isSnap (h : CX S x d q A nb) {p : Int32} : f_X6_isSnapshot N S x p = some ((if 0 ≤ p ∧ p ≤ 1 then (1 : Int32) else 0), S) := by
  unfold f_X6_isSnapshot
  by_cases h1 : p < 0
  · rw [if_pos h1, if_neg (fun w => absurd h1 (Int32.not_lt.mpr w.1))]
  · rw [if_neg h1, gd_pos h.1.1.1, h.1.1.2.2.2.2.1, nn_s, gd_pos h.1.2.2.2.1.1, h.1.2.2.2.1.2]
    by_cases h2 : nI 2 ≤ p
    · rw [if_pos h2, if_neg (fun w => absurd h2 (Int32.not_le.mpr ((lt_le (a := 1) (b := nI 2) (by decide)).mpr w.2)))]
    · rw [if_neg h2, if_pos ⟨Int32.not_lt.mp h1, (lt_le (a := 1) (b := nI 2) (by decide)).mp (Int32.not_le.mp h2)⟩]
theorem x_restore (h : CX S x d q A nb) (hd : CD x d q) (hw : WfA A) (hN0 : 12 < N) (hz : ∀ a, a ∈ hL S → a < z) {i : Nat} (hi : i < 2) {B : Bd} (hs : aS A i = some B) : CA S x d q (nowA (svA A) (cntB B (bo (aN A)) (bx (aN A)) (by_ (aN A)))) nb (nI (bn B)) (f_X6_restore N S z x (nI i)) := by
  obtain ⟨T, z', q', t1, t2, t3⟩ := x_save (N := N) h hd hw hN0 hz
  have hd' := t2.2.2.1
  have c := t2.2.2.2.2
  obtain ⟨b1, b2, b3⟩ := h.2.2.2.1 i hi
  obtain ⟨t, o1, o2, o3, w1, -⟩ := b3 B hs
  obtain ⟨b1', b2', b3'⟩ := c.2.2.2.1 i hi
  obtain ⟨t', p1, p2, p3, v1, v2⟩ := b3' B hs
  rw [t3 _ (by omega), w1] at v1
  cases v1
  have w1' : q' (6 + i) = some t := by rw [t3 _ (by omega), w1]
  have e1 : hR S (d 8) i = some t.1 := by rw [b1.1, w1]; rfl
  have n8 : 6 + i < 8 := by omega
  obtain ⟨U, u1, u2, u3⟩ := c_copyBoard (N := N) v2 c.2.1.sh hN0 ((hd'.2.2.1 _ n8 _ (in1S w1')).2 0 (by decide)) ((hd'.2.2.1 _ n8 _ (in2S w1')).2 1 (by decide)) ((hd'.2.2.1 _ n8 _ (in3S w1')).2 2 (by decide))
  have u2' : Fr ([0, 1, 2].map d) T U := u2
  obtain ⟨s1, s2, s3, s4, s5, s6, s7, s8, s9⟩ := c.2.1.2.2
  have e7 : hI T (d 0) 7 = bo (aN A) := s7
  have e8 : hI T (d 0) 8 = bx (aN A) := s8
  have e9 : hI T (d 0) 9 = by_ (aN A) := s9
  rw [e7, e8, e9] at u3
  have u3' : StV U (d 0) (d 1) (d 2) (cntB B (bo (aN A)) (bx (aN A)) (by_ (aN A))) := u3
  have cn := c.st1 [0, 1, 2] hd' u2' (by decide) u3'
  have cu := cn.2.2
  refine ⟨U, z', q', ?_, t2.tr (cn.g hd')⟩
  unfold f_X6_restore
  rw [gd_pos h.1.1.1, x_isSnap h, cl_s, if_pos (in01 hi), if_neg (by decide), gd_pos h.1.1.1, h.1.1.2.2.2.2.1, nn_s, gd_pos h.1.2.2.2.1.1, gd_pos (inN h.1.2.2.2.1.2 hi (by decide)), nI_clamp (by omega), e1, nz_s, h.1.1.2.2.2.1, nn_s, h.1.1.2.1, nn_s, gd_pos h.1.2.2.1.1, t1, cz_s, gd_pos c.1.1.1, c.1.1.2.1, nn_s, gd_pos c.2.1.1.1, u1, cl_s, gd_pos cu.1.1.1, cu.1.1.2.1, nn_s, gd_pos cu.2.1.1.1, cu.2.1.1.2, nn_s, gd_pos cu.2.1.2.1.1.1, cu.2.1.2.1.2.1.1]
  rfl
theorem x_restore_bad1 (h : CX S x d q A nb) {p : Int32} (hp : ¬ (0 ≤ p ∧ p ≤ 1)) : CB S x d q A nb "java/lang/IndexOutOfBoundsException" (f_X6_restore N S z x p) (e_X6_restore N S x p) := by
  refine ⟨?_, S, ?_, CN.rf h⟩
  · unfold f_X6_restore
    rw [gd_pos h.1.1.1, x_isSnap h, cl_s, if_neg hp, if_pos rfl]
  · unfold e_X6_restore
    rw [gd_pos h.1.1.1, x_isSnap h, cl_s, if_neg hp, if_pos rfl]
theorem x_restore_bad2 (h : CX S x d q A nb) {i : Nat} (hi : i < 2) (hs : aS A i = none) : CB S x d q A nb "java/lang/IllegalStateException" (f_X6_restore N S z x (nI i)) (e_X6_restore N S x (nI i)) := by
  obtain ⟨b1, b2, b3⟩ := h.2.2.2.1 i hi
  have e1 : hR S (d 8) i = none := by rw [b1.1, b2 hs]; rfl
  refine ⟨?_, S, ?_, CN.rf h⟩
  · unfold f_X6_restore
    rw [gd_pos h.1.1.1, x_isSnap h, cl_s, if_pos (in01 hi), if_neg (by decide), gd_pos h.1.1.1, h.1.1.2.2.2.2.1, nn_s, gd_pos h.1.2.2.2.1.1, gd_pos (inN h.1.2.2.2.1.2 hi (by decide)), nI_clamp (by omega), e1, nz_n]
  · unfold e_X6_restore
    rw [gd_pos h.1.1.1, x_isSnap h, cl_s, if_pos (in01 hi), if_neg (by decide), gd_pos h.1.1.1, h.1.1.2.2.2.2.1, nn_s, gd_pos h.1.2.2.2.1.1, gd_pos (inN h.1.2.2.2.1.2 hi (by decide)), nI_clamp (by omega), e1, nz_n]
theorem x_undo (h : CX S x d q A nb) (hd : CD x d q) (hw : WfA A) (hN0 : 12 < N) (h0 : aH A ≠ 0) : ∃ T, f_X6_undo N S x = some (nI (aH A - 1), T) ∧ CN S x d q (undA A) nb T := by
  have h66 := hw.2.1.1
  have shp := h.1.2.2.1
  have f : Fr ([6].map d) S (sI S (d 6) 1 (nI (aH A - 1))) := Fr.rf.sI (by simp)
  have k : Kee (fun a => a ≠ d 6) S (sI S (d 6) 1 (nI (aH A - 1))) := kee_I (fun w => w rfl)
  have A1 : CX (sI S (d 6) 1 (nI (aH A - 1))) x d q (aN A, (aH A - 1, aHs A), A.2.2) nb := by
    have ps : ∀ i, i < 8 → ∀ a, inS (q i) a → a ≠ d 6 := fun i hi a ha => ((hd.2.2.1 i hi a ha).2 6 (by decide)).symm
    exact h.re k (hd.2.1 6 (by decide)) (fun i h1 h2 => hd.1 i 6 h1 (by decide) (by omega)) ⟨shp.1, shp.2.1, shp.2.2.1, shp.2.2.2⟩ h.1.2.2.2.1 ⟨hI_same _ _ _ _, h.2.2.1.2.kp (A' := (aN A, (aH A - 1, aHs A), A.2.2)) k shp.2.2.1.1 (hd.1 7 6 (by decide) (by decide) (by decide)) (fun i hi => ps i (by omega)) (by show aH A - 1 ≤ aH A; omega) (fun _ _ => rfl)⟩ (h.2.2.2.1.kp k h.1.2.2.2.1.1.1 (hd.1 8 6 (by decide) (by decide) (by decide)) (fun i hi => ps (6 + i) (by omega)) (fun _ _ => rfl) rfl) rfl rfl h.2.2.2.2.2.2
  have cn1 : CN S x d q (aN A, (aH A - 1, aHs A), A.2.2) nb (sI S (d 6) 1 (nI (aH A - 1))) := ⟨k.mono (fun a ha e => ha (e ▸ PA.d0 (by decide))), rfl, A1⟩
  obtain ⟨b1, b2⟩ := h.2.2.1.2 (aH A - 1) (by omega)
  obtain ⟨t, w1, w2⟩ := b2 (by omega)
  have i1 := hd.2.2.1 (aH A - 1) (by omega) _ (in1S w1)
  have i2 := hd.2.2.1 (aH A - 1) (by omega) _ (in2S w1)
  have i3 := hd.2.2.1 (aH A - 1) (by omega) _ (in3S w1)
  have w2' := w2.fr f (by intro e; exact i1.2 6 (by decide) (List.mem_singleton.mp e).symm) (by intro e; exact i2.2 6 (by decide) (List.mem_singleton.mp e).symm) (by intro e; exact i3.2 6 (by decide) (List.mem_singleton.mp e).symm)
  obtain ⟨U, u1, u2, u3⟩ := c_copyAll (N := N) w2' A1.2.1.sh hN0 (i1.2 0 (by decide)) (i2.2 1 (by decide)) (i3.2 2 (by decide))
  have u2' : Fr ([0, 1, 2].map d) (sI S (d 6) 1 (nI (aH A - 1))) U := u2
  have cn := A1.st1 [0, 1, 2] hd u2' (by decide) u3
  have cu := cn.2.2
  refine ⟨U, ?_, cn1.tr cn⟩
  have em : hI S (d 6) 1 - (1 : Int32) = nI (aH A - 1) := by rw [h.2.2.1.1]; exact nI_minus (b := 1) (by omega)
  have eg : f_X0_goBack N S (d 6) (d 0) = some ((), U) := by
    unfold f_X0_goBack
    rw [gd_pos shp.1, h.2.2.1.1, if_neg (fun w => h0 ((nI_le0 (by omega)).mp w)), shp.2.1, nn_s, gd_pos shp.2.2.1, shp.2.2.2, if_neg (show ¬ nI 6 < nI (aH A) from fun w => absurd ((nI_lt_iff (by decide) (by omega)).mp w) (by omega)), show nI (aH A) - (1 : Int32) = nI (aH A - 1) from nI_minus (b := 1) (by omega), hI_same, hN_sI, shp.2.2.2, gd_pos (by rw [← shp.2.2.2]; exact inN shp.2.2.2 (show aH A - 1 < 6 by omega) (by decide)), nI_clamp (by omega), hR_sI, b1.1, w1]
    show nz (some t.1) _ _ = _
    rw [nz_s, gd_pos A1.2.1.1.1, u1, cl_s]
  unfold f_X6_undo
  rw [gd_pos h.1.1.1, h.1.1.2.2.2.1, nn_s, gd_pos shp.1, h.2.2.1.1, if_pos ((c_lt 0 (n := 0) rfl (by omega) (by decide)).mpr (by omega)), h.1.1.2.1, nn_s, eg, cl_s, gd_pos cu.1.1.1, cu.1.1.2.2.2.1, nn_s, gd_pos cu.1.2.2.1.1, cu.2.2.1.1]
  rfl
theorem x_undo_bad (h : CX S x d q A nb) (h0 : aH A = 0) : CB S x d q A nb "java/lang/IllegalStateException" (f_X6_undo N S x) (e_X6_undo N S x) := by
  refine ⟨?_, S, ?_, CN.rf h⟩
  · unfold f_X6_undo
    rw [gd_pos h.1.1.1, h.1.1.2.2.2.1, nn_s, gd_pos h.1.2.2.1.1, h.2.2.1.1, h0, if_neg (by decide)]
  · unfold e_X6_undo
    rw [gd_pos h.1.1.1, h.1.1.2.2.2.1, nn_s, gd_pos h.1.2.2.1.1, h.2.2.1.1, h0, if_neg (by decide)]
end
