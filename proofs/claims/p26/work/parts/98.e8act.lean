section
variable {N : Nat} {S : Hp} {x zz li pa z : Nat} {d : Nat → Nat} {q : Nat → Option (Nat × Nat × Nat)} {A : Ab} {nb : Nat} {x1 x2 : Int32}
theorem act_clear_b (hN : 2000 < N) (h : KA S x zz li pa d q A nb) (lz : LZ S zz li (aN A) (aH A)) (hz : ∀ a, a ∈ hL S → a < z) {p : Int32} (hp : isB p) {v : Nat} (hv : v = if p = 0 then 2 else 1) : GA x zz li pa (nb + 10) (f_L_act_b329 N x x1 x2 zz li pa S z (nI (pop (bk (aN A) ||| bb (aN A)))) p (nI v) zz) := by
  obtain ⟨lb, z1, z5, z6, z7, z8, z9, z10⟩ := lz
  have hk := lb.1.1
  have hn := lb.1.2.1
  have hne := h.2.2.2.2.1.2.2
  obtain ⟨z0, z2, z3, z4, -⟩ := lb.2.1
  have hA6 := h.2.2.1.2.1.1
  obtain ⟨U, u1, u2⟩ := l_empty (N := N) (HZ.rf (S := S) (a := zz)) hk hn (nI v)
  unfold f_L_act_b329
  rw [u1, cl_s, gd_pos (u2.1.ok hk), gd_pos (zq (u2.n hn) (i := (10 : Int32)) (k := 10) rfl (by decide))]
  refine l_bump (F := fun S184 => f_L_act_b349 N x x1 x2 zz li pa S184 z (nI (pop (bk (aN A) ||| bb (aN A)))) p) u2 (hh := aH A) z10 hA6 (fun T t => ?_)
  have hT := h.fr t.1 (fun a ha => Or.inl (List.mem_singleton.mp ha))
  obtain ⟨V, z', q', v1, v2⟩ := x_clear (N := N) hT.1 hT.2.1 hT.2.2.1 (by omega) (hz_mo (z0 := 0) t.1 hz) hp
  rw [← hv] at v2
  have lbT : LB T zz li (bc (aN A)) (bn (aN A)) 0 0 (bM (aN A)) := t.lb lb hne z0 z2 rfl rfl lb.2.2.1 (Nat.le_refl _) (by decide) (by decide)
  have lzT : LZ T zz li (clrB (aN A) v) (bmp (aH A)) := ⟨lbT, t.2 1, t.2 5, t.2 6, (t.2 7).trans z7, (t.2 8).trans z8, (t.2 9).trans z9, t.2 10⟩
  have v12 : v = 1 ∨ v = 2 := by
    by_cases e : p = 0
    · rw [if_pos e] at hv; exact Or.inr hv
    · rw [if_neg e] at hv; exact Or.inl hv
  show GA x zz li pa (nb + 10) (f_L_act_b349 N x x1 x2 zz li pa T z (nI (pop (bk (aN A) ||| bb (aN A)))) p)
  unfold f_L_act_b349
  rw [gd_pos hT.ok6, v1, cz_s, if_pos rfl]
  refine ga_end hT v2 (nowA_wf (svA_wf h.2.2.1) (clrB_wf h.2.2.1.1 v12)) ?_ (by omega)
  rw [aN_now, aH_now, bmp_sv]
  exact lzT
/-- clear -/
theorem act_clear (hN : 2000 < N) (h : KA S x zz li pa d q A nb) (lz : LZ S zz li (aN A) (aH A)) (hz : ∀ a, a ∈ hL S → a < z) : GA x zz li pa (nb + 10) (f_L_act_b291 N x x1 x2 zz li pa S z) := by
  have lb := lz.1
  have hk := lb.1.1
  have hn := lb.1.2.1
  obtain ⟨z0, z2, z3, z4, -⟩ := lb.2.1
  have e0 := l_ones (N := N) (S := S) (by omega) (or_lt lb.2.2.2.2.1 lb.2.2.2.2.2.1)
  obtain ⟨r, hr, e1⟩ := l_at (N := N) (S := S) x2 (n := 2) (by decide) (by decide)
  unfold f_L_act_b291
  rw [gd_pos hk, gd_pos (zq hn (i := (3 : Int32)) (k := 3) rfl (by decide)), gd_pos (zq hn (i := (4 : Int32)) (k := 4) rfl (by decide)), tn3, tn4, z3, z4, nI_or, e0, cl_s, show (2 : Int32) = nI 2 from rfl, e1, cl_s]
  by_cases g : r = 0
  · subst g
    rw [if_pos (show nI 0 = 0 from rfl)]
    unfold f_L_act_b316
    rw [if_neg (show ¬ (1 : Int32) = 0 by decide)]
    exact act_clear_b (x1 := x1) (x2 := x2) hN h lz hz (p := 1) (Or.inr rfl) (v := 1) (by decide)
  · rw [if_neg (fun w => g ((nI_eq0 (by omega)).mp w))]
    unfold f_L_act_b316
    rw [if_pos rfl]
    exact act_clear_b (x1 := x1) (x2 := x2) hN h lz hz (p := 0) (Or.inl rfl) (v := 2) (by decide)
theorem bit_w {a i : Nat} (ha : a < 1024) (hi : i < 31) : ((nI a >>> (nI i &&& 31)) &&& (1 : Int32) = 0) ↔ a.testBit i = false := by
  rw [nI_has (by omega) (by omega), has_zero]
  cases a.testBit i <;> simp
/-- a cell's turn: taken, or not free -/
theorem act_move (hN : 2000 < N) (hb : nb + 10 < 2 ^ 27) (h : KA S x zz li pa d q A nb) (lz : LZ S zz li (aN A) (aH A)) (hz : ∀ a, a ∈ hL S → a < z) (g0 : bwin (aN A) = 0) {v : Nat} (h6 : 6 ≤ v) (h10 : v < 10) : GA x zz li pa (nb + 10) (f_L_act_b279 N x x1 x2 zz li pa S z (nI v) 1) := by
  have lb := lz.1
  have hk := lb.1.1
  have hn := lb.1.2.1
  have hne := h.2.2.2.2.1.2.2
  have wf := h.2.2.1.1
  have c5 := lb.2.2.1
  have c2 := wf.1.1
  have hA6 := h.2.2.1.2.1.1
  obtain ⟨z0, z2, z3, z4, -⟩ := lb.2.1
  have ef := l_free (N := N) lb
  have fl := fre_lt (mk := bk (aN A)) (br := bb (aN A)) wf.c10
  obtain ⟨i, hi, e1⟩ := l_at (N := N) (S := S) x2 (n := bc (aN A)) (by omega) (by omega)
  unfold f_L_act_b279
  rw [if_neg (fun w => absurd ((lt_c 6 (n := 6) rfl (by omega) (by decide)).mp w) (by omega)), if_neg (show ¬ (1 : Int32) = 0 by decide), if_neg (nle_c 10 (n := 10) rfl h10 (by decide)), gd_pos hk, gd_pos (zq hn (i := (0 : Int32)) (k := 0) rfl (by decide)), tn0, z0, e1, cl_s, ef, cl_s]
  by_cases g : (fre (bc (aN A)) (bk (aN A)) (bb (aN A))).testBit i = true
  · rw [if_neg (fun w => by rw [(bit_w fl (by omega)).mp w] at g; cases g)]
    obtain ⟨T, t1, t2, t3⟩ := l_moves (N := N) lz wf hN h.2.2.2.1 ⟨h.2.2.2.2.1.1, h.2.2.2.2.1.2.1⟩ hne g
    have hT := h.fr t2 (fun a ha => by
      simp only [List.mem_cons, List.not_mem_nil, or_false] at ha
      rcases ha with w | w
      · exact Or.inl w
      · exact Or.inr (Or.inr w))
    rw [t1, cl_s, gd_pos t3.1.1.1, gd_pos (zq t3.1.1.2.1 (i := (10 : Int32)) (k := 10) rfl (by decide))]
    refine l_bump (F := fun S111 => f_L_act_b437 N x x1 x2 zz li pa S111 z (nI i)) (HZ.rf (S := T) (a := zz)) (hh := aH A) t3.2.2.2.2.2.2.2 hA6 (fun U u => ?_)
    have hU := hT.fr u.1 (fun a ha => Or.inl (List.mem_singleton.mp ha))
    obtain ⟨V, z', q', v1, v2⟩ := x_move (N := N) hU.1 hU.2.1 hU.2.2.1 (by omega) (hz_mo (z0 := 0) (u.1) (hz_mo (z0 := 0) t2 hz)) g0 g
    obtain ⟨lb3, y1, y5, y6, y7, y8, y9, y10⟩ := t3
    obtain ⟨y0, y2, y3, y4, -⟩ := lb3.2.1
    have lbU := u.lb lb3 hne ((if_neg (by decide)).trans y0) ((if_neg (by decide)).trans y2) ((if_neg (by decide)).trans y3) ((if_neg (by decide)).trans y4) lb3.2.2.1 (Nat.le_refl _) lb3.2.2.2.2.1 lb3.2.2.2.2.2.1
    have lzU : LZ U zz li (occB (aN A) i (parB (aN A) i)) (bmp (aH A)) := ⟨lbU, (u.2 1).trans y1, (u.2 5).trans y5, (u.2 6).trans y6, (u.2 7).trans y7, (u.2 8).trans y8, (u.2 9).trans y9, u.2 10⟩
    have wfA := nowA_wf (svA_wf h.2.2.1) (occB_wf wf g (par_ok wf i))
    have lzV := (hU.cls v2 wfA lzU).2.1
    have ew : f_L_winner N V zz li = some (nI (bwin (occB (aN A) i (parB (aN A) i))), V) := l_winner (N := N) lzV.1 (by omega)
    show GA x zz li pa (nb + 10) (f_L_act_b437 N x x1 x2 zz li pa U z (nI i))
    unfold f_L_act_b437
    rw [gd_pos hU.ok6, v1, cz_s, ew, cl_s, if_pos rfl]
    refine ga_end hU v2 wfA ?_ (by omega)
    rw [aN_now, aH_now, bmp_sv]
    exact lzU
  · obtain ⟨T, t1, t2⟩ := x_ifMoved (N := N) h.1 h.2.1 h.2.2.1 (by omega) (by omega) hi
    have im : imB (aN A) i = -1 := if_neg (fun w => g w.2)
    rw [im] at t1
    rw [if_pos ((bit_w fl (by omega)).mpr (by simpa using g)), gd_pos h.ok6, t1, cl_s, if_pos rfl]
    obtain ⟨a1, a2, -⟩ := h.look t2 lz
    exact ⟨T, z, d, q, A, rfl, ⟨a1.1.mono (by omega), a1.2⟩, a2⟩
theorem act_skip (hN : 2000 < N) (h : KA S x zz li pa d q A nb) {hh : Nat} (lz : LZ S zz li (aN A) hh) (hh6 : hh = bmp (aH A)) (hz : ∀ a, a ∈ hL S → a < z) (g0 : bwin (aN A) = 0) : GA x zz li pa (nb + 10) (f_L_act_b475 N x x1 x2 zz li pa S z 10) := by
  obtain ⟨lb, z1, z5, z6, z7, z8, z9, z10⟩ := lz
  have hk := lb.1.1
  have hn := lb.1.2.1
  have hne := h.2.2.2.2.1.2.2
  have wf := h.2.2.1.1
  have v12 := wf.2.2.1
  obtain ⟨z0, z2, z3, z4, -⟩ := lb.2.1
  have m3 : (3 : Int32) - nI (bv (aN A)) = nI (3 - bv (aN A)) := nI_minus (a := 3) (by omega)
  have t := (((HZ.rf (S := S) (a := zz)).put 1 (nI (3 - bv (aN A)))).put 5 (-1)).put 6 (-1)
  have hT := h.fr t.1 (fun a ha => Or.inl (List.mem_singleton.mp ha))
  have lbT := t.lb lb hne z0 z2 z3 z4 lb.2.2.1 (Nat.le_refl _) lb.2.2.2.2.1 lb.2.2.2.2.2.1
  have lzT : LZ (sI (sI (sI S zz 1 (nI (3 - bv (aN A)))) zz 5 (-1)) zz 6 (-1)) zz li (skpB (aN A)) hh := ⟨lbT, t.2 1, t.2 5, t.2 6, (t.2 7).trans z7, (t.2 8).trans z8, (t.2 9).trans z9, (t.2 10).trans z10⟩
  obtain ⟨V, z', q', v1, v2⟩ := x_skip (N := N) hT.1 hT.2.1 hT.2.2.1 (by omega) (hz_mo (z0 := 0) t.1 hz) g0
  have wfA := nowA_wf (svA_wf h.2.2.1) (skpB_wf wf)
  have lzV := (hT.cls v2 wfA lzT).2.1
  unfold f_L_act_b475
  rw [if_pos rfl, gd_pos hk, gd_pos (zq hn (i := (1 : Int32)) (k := 1) rfl (by decide)), tn1, z1, m3, bd_d, hN_sI, gd_pos (zq hn (i := (5 : Int32)) (k := 5) rfl (by decide)), tn5, bd_d, hN_sI, hN_sI, gd_pos (zq hn (i := (6 : Int32)) (k := 6) rfl (by decide)), tn6, bd_d, gd_pos hT.ok6, v1, cz_s, gd_pos lzV.1.1.1, gd_pos (zq lzV.1.1.2.1 (i := (1 : Int32)) (k := 1) rfl (by decide)), lzV.2.1, if_pos (show nI (3 - bv (aN A)) = nI (bv (skpB (aN A))) from rfl)]
  refine ga_end hT v2 wfA ?_ (by omega)
  rw [aN_now, aH_now, bmp_sv, ← hh6]
  exact lzT
theorem play_l (hN : 2000 < N) {hh r1 r2 m : Nat} (h1 : r1 < 3) (h2 : r2 < 3) (hm : m ≤ 10) : ∀ D k j S B, j + D = m → D < k → KA S x zz li pa d q A nb → LZ S zz li B hh → Wf B → ∃ T, f_L_act_l546 N x x1 x2 zz li pa k S z (nI r1) (nI r2) (nI m) (nI j) = f_L_act_b596 N x x1 x2 zz li pa T z (nI r1) (nI r2) (nI m) (nI (j + (itB r1 r2 D B).2)) ∧ Fr [zz, pa] S T ∧ LZ T zz li (itB r1 r2 D B).1 hh := by
  intro D
  induction D with
  | zero =>
    intro k j S B hj hk' h hz hw
    obtain ⟨k, rfl⟩ : ∃ q, k = q + 1 := ⟨k - 1, by omega⟩
    obtain rfl : j = m := by omega
    refine ⟨S, ?_, Fr.rf, hz⟩
    rw [f_L_act_l546, f_L_act_b546, if_pos (Int32.le_refl _)]
    rfl
  | succ D ih =>
    intro k j S B hj hk' h hz hw
    obtain ⟨k, rfl⟩ : ∃ q, k = q + 1 := ⟨k - 1, by omega⟩
    have hk := hz.1.1.1
    have hn := hz.1.1.2.1
    have wle := bwin_le B
    have e1 : f_L_winner N S zz li = some (nI (bwin B), S) := l_winner (N := N) hz.1 (by omega)
    have hne := h.2.2.2.2.1.2.2
    rw [f_L_act_l546, f_L_act_b546, if_neg (fun w => absurd ((nI_le_iff (by omega) (by omega)).mp w) (by omega)), e1, cl_s]
    by_cases g : bwin B = 0
    · have one : ∀ r, r < 3 → r = (if bv B = 1 then r1 else r2) → ∃ T, f_L_act_b584 N x x1 x2 zz li pa (f_L_act_l546 N x x1 x2 zz li pa k) S z (nI r1) (nI r2) (nI m) (nI j) (nI r) li zz pa li zz = f_L_act_b596 N x x1 x2 zz li pa T z (nI r1) (nI r2) (nI m) (nI (j + (itB r1 r2 (D + 1) B).2)) ∧ Fr [zz, pa] S T ∧ LZ T zz li (itB r1 r2 (D + 1) B).1 hh := by
        intro r hr er
        have e2 := l_reply (N := N) hz hw (by omega) hr
        obtain ⟨i, e3, e4⟩ := rp_free hw g r
        have e5 : rplB B r = nI i := by unfold rplB; rw [if_pos g, e3]
        obtain ⟨T, t1, t2, t3⟩ := l_moves (N := N) hz hw hN h.2.2.2.1 ⟨h.2.2.2.2.1.1, h.2.2.2.2.1.2.1⟩ hne e4
        have i10 := fr_lt hw.c10 e4
        have c10 := hw.c10
        have es : stpB B r1 r2 = occB B i (parB B i) := by
          unfold stpB
          rw [← er, e3, nI_clamp (by omega)]
        have hT := h.fr t2 (fun a ha => by
          simp only [List.mem_cons, List.not_mem_nil, or_false] at ha
          rcases ha with w | w
          · exact Or.inl w
          · exact Or.inr (Or.inr w))
        have it : itB r1 r2 (D + 1) B = ((itB r1 r2 D (occB B i (parB B i))).1, (itB r1 r2 D (occB B i (parB B i))).2 + 1) := by
          rw [itB, if_pos g, es]
        obtain ⟨U, u1, u2, u3⟩ := ih k (j + 1) T (occB B i (parB B i)) (by omega) (by omega) hT t3 (occB_wf hw e4 (par_ok hw i))
        rw [it]
        refine ⟨U, ?_, t2.tr u2, u3⟩
        unfold f_L_act_b584
        rw [e2, cl_s, e5, t1, cl_s, nI_p1, u1, show j + 1 + (itB r1 r2 D (occB B i (parB B i))).2 = j + ((itB r1 r2 D (occB B i (parB B i))).2 + 1) by omega]
      rw [if_pos ((nI_eq0 (by omega)).mpr g), gd_pos hk, gd_pos (zq hn (i := (1 : Int32)) (k := 1) rfl (by decide)), tn1, hz.2.1]
      have v12 := hw.2.2.1
      by_cases v : bv B = 1
      · rw [if_pos ((nI_eq1 (by omega)).mpr v)]
        exact one r1 h1 (by rw [if_pos v])
      · rw [if_neg (fun w => v ((nI_eq1 (by omega)).mp w))]
        exact one r2 h2 (by rw [if_neg v])
    · have it : itB r1 r2 (D + 1) B = (B, 0) := by rw [itB, if_neg g]
      rw [it, if_neg (fun w => g ((nI_eq0 (by omega)).mp w))]
      exact ⟨S, rfl, Fr.rf, hz⟩
theorem act_play (hN : 2000 < N) (hb : nb + 10 < 2 ^ 27) (h : KA S x zz li pa d q A nb) {hh v : Nat} (lz : LZ S zz li (aN A) hh) (hh6 : hh = bmp (aH A)) (hz : ∀ a, a ∈ hL S → a < z) (g0 : bwin (aN A) = 0) (hv : v < 1000) (hv10 : v ≠ 10) : GA x zz li pa (nb + 10) (f_L_act_b475 N x x1 x2 zz li pa S z (nI v)) := by
  have wf := h.2.2.1.1
  obtain ⟨r1, h1, e1⟩ := l_at (N := N) (S := S) x2 (n := 3) (by decide) (by decide)
  obtain ⟨r2, h2, e2⟩ := l_at (N := N) (S := S) (x2 >>> ((2 : Int32) &&& 31)) (n := 3) (by decide) (by decide)
  obtain ⟨m, h3, e3⟩ := l_at (N := N) (S := S) (x2 >>> ((4 : Int32) &&& 31)) (n := 10) (by decide) (by decide)
  have e1' : f_L_at N S x2 3 = some (nI r1, S) := e1
  have e2' : f_L_at N S (x2 >>> ((2 : Int32) &&& 31)) 3 = some (nI r2, S) := e2
  have e3' : f_L_at N S (x2 >>> ((4 : Int32) &&& 31)) 10 = some (nI m, S) := e3
  obtain ⟨T, t1, t2, t3⟩ := play_l (N := N) (z := z) (x1 := x1) (x2 := x2) hN h1 h2 (show 1 + m ≤ 10 by omega) (1 + m) N 0 S (aN A) (by omega) (by omega) h lz wf
  have hT := h.fr t2 (fun a ha => by
    simp only [List.mem_cons, List.not_mem_nil, or_false] at ha
    rcases ha with w | w
    · exact Or.inl w
    · exact Or.inr (Or.inr w))
  obtain ⟨V, z', q', v1, v2⟩ := x_play (N := N) hT.1 hT.2.1 hT.2.2.1 (by omega) hb (hz_mo (z0 := 0) t2 hz) (r1 := r1) (r2 := r2) (m := 1 + m) (by omega) (by omega) (by omega) (by omega) g0
  unfold f_L_act_b475
  rw [if_neg (fun w => hv10 ((nI_eq10 (by omega)).mp w)), e1', cl_s, e2', cl_s, e3', cl_s, show (1 : Int32) + nI m = nI (1 + m) from nI_plus 1 m]
  rw [show f_L_act_l546 N x x1 x2 zz li pa N S z (nI r1) (nI r2) (nI (1 + m)) 0 = _ from t1, Nat.zero_add]
  unfold f_L_act_b596
  rw [gd_pos hT.ok6, v1, cz_s, if_pos rfl]
  refine ga_end hT v2 (nowA_wf (svA_wf h.2.2.1) (it_wf wf)) ?_ (Nat.le_refl _)
  rw [aN_now, aH_now, bmp_sv, ← hh6]
  exact t3
theorem act_279 (hN : 2000 < N) (hb : nb + 10 < 2 ^ 27) (h : KA S x zz li pa d q A nb) (lz : LZ S zz li (aN A) (aH A)) (hz : ∀ a, a ∈ hL S → a < z) {v : Nat} (hv : v < 14) : GA x zz li pa (nb + 10) (f_L_act_b279 N x x1 x2 zz li pa S z (nI v) (if bwin (aN A) = 0 then (1 : Int32) else 0)) := by
  have hA6 := h.2.2.1.2.1.1
  have lb := lz.1
  by_cases v6 : v < 6
  · unfold f_L_act_b279
    rw [if_pos ((lt_c 6 (n := 6) rfl (by omega) (by decide)).mpr v6)]
    exact act_clear hN h lz hz
  · by_cases g : bwin (aN A) = 0
    · rw [if_pos g]
      by_cases v10 : v < 10
      · exact act_move hN hb h lz hz g (by omega) v10
      · unfold f_L_act_b279
        rw [if_neg (fun w => absurd ((lt_c 6 (n := 6) rfl (by omega) (by decide)).mp w) (by omega)), if_neg (show ¬ (1 : Int32) = 0 by decide), if_pos ((ge_c 10 (n := 10) rfl (by omega) (by decide)).mpr (by omega)), gd_pos lb.1.1, gd_pos (zq lb.1.2.1 (i := (10 : Int32)) (k := 10) rfl (by decide))]
        refine l_bump (F := fun S99 => f_L_act_b475 N x x1 x2 zz li pa S99 z (nI v)) (HZ.rf (S := S) (a := zz)) (hh := aH A) lz.2.2.2.2.2.2.2 hA6 (fun U u => ?_)
        have hU := h.fr u.1 (fun a ha => Or.inl (List.mem_singleton.mp ha))
        obtain ⟨-, y1, y5, y6, y7, y8, y9, y10⟩ := lz
        obtain ⟨y0, y2, y3, y4, -⟩ := lb.2.1
        have lbU := u.lb lb h.2.2.2.2.1.2.2 ((if_neg (by decide)).trans y0) ((if_neg (by decide)).trans y2) ((if_neg (by decide)).trans y3) ((if_neg (by decide)).trans y4) lb.2.2.1 (Nat.le_refl _) lb.2.2.2.2.1 lb.2.2.2.2.2.1
        have lzU : LZ U zz li (aN A) (bmp (aH A)) := ⟨lbU, (u.2 1).trans y1, (u.2 5).trans y5, (u.2 6).trans y6, (u.2 7).trans y7, (u.2 8).trans y8, (u.2 9).trans y9, u.2 10⟩
        show GA x zz li pa (nb + 10) (f_L_act_b475 N x x1 x2 zz li pa U z (nI v))
        by_cases e : v = 10
        · subst e
          exact act_skip hN hU lzU rfl (hz_mo (z0 := 0) u.1 hz) g
        · exact act_play hN hb hU lzU rfl (hz_mo (z0 := 0) u.1 hz) g (by omega) e
    · rw [if_neg g]
      unfold f_L_act_b279
      rw [if_neg (fun w => absurd ((lt_c 6 (n := 6) rfl (by omega) (by decide)).mp w) (by omega)), if_pos rfl]
      exact act_clear hN h lz hz
theorem act_ok (hN : 2000 < N) (hb : nb + 10 < 2 ^ 27) (h : KA S x zz li pa d q A nb) (lz : LZ S zz li (aN A) (aH A)) (hz : ∀ a, a ∈ hL S → a < z) : GA x zz li pa (nb + 10) (f_L_act N S z x x1 x2 zz li pa) := by
  have lb := lz.1
  have wle := bwin_le (aN A)
  obtain ⟨v, hv, e1⟩ := l_at (N := N) (S := S) (x1 >>> ((20 : Int32) &&& 31)) (n := 14) (by decide) (by decide)
  have e1' : f_L_at N S (x1 >>> ((20 : Int32) &&& 31)) 14 = some (nI v, S) := e1
  have e2 : f_L_winner N S zz li = some (nI (bwin (aN A)), S) := l_winner (N := N) lb (by omega)
  have n3 := lb.2.2.2.1
  have key : GA x zz li pa (nb + 10) (f_L_act_b25 N x x1 x2 zz li pa S z (nI v) (if bwin (aN A) = 0 then (1 : Int32) else 0)) := by
    by_cases v0 : v = 0
    · subst v0
      exact act_begin hN h lz hz
    · unfold f_L_act_b25
      rw [if_neg (fun w => v0 ((nI_eq0 (by omega)).mp w)), gd_pos lb.1.1, gd_pos (zq lb.1.2.1 (i := (2 : Int32)) (k := 2) rfl (by decide)), tn2, lb.2.1.2.1]
      have b179 : bn (aN A) ≠ 0 → GA x zz li pa (nb + 10) (f_L_act_b179 N x x1 x2 zz li pa S z (nI v) (if bwin (aN A) = 0 then (1 : Int32) else 0)) := by
        intro n0
        by_cases v4 : v = 4
        · subst v4
          by_cases n1 : bn (aN A) ≤ 1
          · unfold f_L_act_b179
            rw [if_pos (show nI 4 = (4 : Int32) from rfl), gd_pos lb.1.1, gd_pos (zq lb.1.2.1 (i := (2 : Int32)) (k := 2) rfl (by decide)), tn2, lb.2.1.2.1, if_pos ((le_c 1 (n := 1) rfl (by omega) (by decide)).mpr n1)]
            exact act_279 hN hb h lz hz hv
          · exact act_rem hN h lz hz (by omega)
        · unfold f_L_act_b179
          rw [if_neg (fun w => v4 ((eq_c 4 (n := 4) rfl (by omega) (by decide)).mp w))]
          exact act_279 hN hb h lz hz hv
      by_cases n0 : bn (aN A) = 0
      · rw [if_pos ((nI_eq0 (by omega)).mpr n0)]
        exact act_add hN h lz hz (by omega)
      · rw [if_neg (fun w => n0 ((nI_eq0 (by omega)).mp w))]
        by_cases v4 : 4 ≤ v
        · rw [if_pos ((ge_c 4 (n := 4) rfl (by omega) (by decide)).mpr v4)]
          exact b179 n0
        · rw [if_neg (nle_c 4 (n := 4) rfl (by omega) (by decide))]
          by_cases n33 : 3 ≤ bn (aN A)
          · rw [if_pos ((ge_c 3 (n := 3) rfl (by omega) (by decide)).mpr n33)]
            exact b179 n0
          · rw [if_neg (nle_c 3 (n := 3) rfl (by omega) (by decide))]
            exact act_add hN h lz hz (by omega)
  unfold f_L_act
  rw [e1', cl_s, e2, cl_s]
  by_cases g : bwin (aN A) = 0
  · rw [if_pos g] at key
    rw [if_pos ((nI_eq0 (by omega)).mpr g)]
    exact key
  · rw [if_neg g] at key
    rw [if_neg (fun w => g ((nI_eq0 (by omega)).mp w))]
    exact key
end
