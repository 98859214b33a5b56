section
variable {S T : Hp} {x : Nat} {d : Nat → Nat} {q : Nat → Option (Nat × Nat × Nat)} {A : Ab} {nb : Nat} {N e r : Nat} {B : Bd}
theorem c_pl (hd : CD x d q) (he : e = 0 ∨ e = 3) (hN0 : 12 < N) (h : StV S (d e) (d (e + 1)) (d (e + 2)) B) (hw : Wf B) (hr : CR S x d nb) : ∃ T, f_X2_lookAt N S (d 11) (d e) = some ((), T) ∧ Fr ([11, 12, 13, 14].map d) S T ∧ StV T (d e) (d (e + 1)) (d (e + 2)) B ∧ PairIs T (d 11) (d 12) (d 13) (d 14) B ∧ CR T x d nb := by
  obtain ⟨⟨a1, a2, a3⟩, ⟨B0, b1, b2⟩, c⟩ := hr
  obtain ⟨T, t1, t2, t3, t4⟩ := c_lookAt (N := N) h hw hN0 b1 b2 (hd.1 12 (e + 1) (by decide) (by omega) (by omega)) (hd.1 13 (e + 2) (by decide) (by omega) (by omega)) (hd.1 14 (e + 2) (by decide) (by omega) (by omega))
  have t2' : Fr ([11, 12, 13, 14].map d) S T := t2
  refine ⟨T, t1, t2', t3, t4, ⟨t2.ok a1, by rw [t2.R]; exact a2, by rw [t2.R]; exact a3⟩, ⟨B, t4, hw.k10⟩, c.fr hd t2' (by decide)⟩
theorem c_goOn_b (hd : CD x d q) (he : e = 0 ∨ e = 3) (hN0 : 12 < N) {p1 p2 p3 : Int32} {K : Hp → Int32 → Option (Int32 × Hp)} (h : StV S (d e) (d (e + 1)) (d (e + 2)) B) (hw : Wf B) (h0 : bwin B = 0) (hr : CR S x d nb) (hb : nb + 1 < 2 ^ 27) (hr4 : r < 4) {v : Int32} : ∃ T, f_X6_goOn_b30 N x (d e) p1 p2 p3 K S v (nI r) x = K T (v + 1) ∧ Fr ([e, e + 1, 11, 12, 13, 14, 15, 16, 17, 18].map d) S T ∧ StV T (d e) (d (e + 1)) (d (e + 2)) (occB B (rpB B r).toNatClampNeg (parB B (rpB B r).toNatClampNeg)) ∧ CR T x d (nb + 1) := by
  obtain ⟨i, p1', p2'⟩ := rp_free hw h0 r
  have i10 := fr_lt hw.c10 p2'
  have c10 := hw.c10
  obtain ⟨T, t1, t2, t3, t4⟩ := c_cellBy (N := N) hd he hN0 h hw hr hb hr4
  obtain ⟨U, u1, u2, u3, u4, u5⟩ := c_pl (N := N) hd he hN0 t3 hw t4
  have u6 := c_otherOf (N := N) u4 hN0 (x := i) (by omega)
  obtain ⟨V, v1, v2, v3⟩ := c_occupy (N := N) u3 hw hN0 (p := parB B i) p2' (par_ok hw i)
  have v2' : Fr ([e, e + 1].map d) U V := v2
  have sub : ∀ l : List Nat, (∀ k, k ∈ l → k ∈ [e, e + 1, 11, 12, 13, 14, 15, 16, 17, 18]) → ∀ a, a ∈ l.map d → a ∈ [e, e + 1, 11, 12, 13, 14, 15, 16, 17, 18].map d := by
    intro l hl a ha
    obtain ⟨j, hj, w⟩ := List.mem_map.mp ha
    exact List.mem_map.mpr ⟨j, hl j hj, w⟩
  refine ⟨V, ?_, ((t2.mono (sub _ (by simp))).tr (u2.mono (sub _ (by simp)))).tr (v2'.mono (sub _ (by simp))), ?_, u5.fr1 hd v2' (fun k hk => by simp only [List.mem_cons, List.not_mem_nil, or_false] at hk; omega)⟩
  · unfold f_X6_goOn_b30
    rw [gd_pos hr.1.1, t1, cl_s, gd_pos t4.1.1, t4.1.2.1, nn_s, gd_pos t4.2.1.ok2, u1, cl_s, gd_pos u5.1.1, u5.1.2.1, nn_s, gd_pos u5.2.1.ok2, p1', u6, cl_s, gd_pos u3.1.1, v1, cl_s]
  · rw [p1', nI_clamp (by omega)]
    exact v3
theorem c_goOn_l (hd : CD x d q) (he : e = 0 ∨ e = 3) (hN0 : 12 < N) {r1 r2 m : Nat} (h1 : r1 < 4) (h2 : r2 < 4) (hm : m ≤ 10) : ∀ D k j S nb B, StV S (d e) (d (e + 1)) (d (e + 2)) B → Wf B → CR S x d nb → nb + D < 2 ^ 27 → j + D = m → D < k → ∃ T, f_X6_goOn_l3 N x (d e) (nI r1) (nI r2) (nI m) k S (nI j) = some (nI (j + (itB r1 r2 D B).2), T) ∧ Fr ([e, e + 1, 11, 12, 13, 14, 15, 16, 17, 18].map d) S T ∧ StV T (d e) (d (e + 1)) (d (e + 2)) (itB r1 r2 D B).1 ∧ CR T x d (nb + D) := by
  intro D
  induction D with
  | zero =>
    intro k j S nb B h hw hr hb hj hk
    obtain ⟨k, rfl⟩ : ∃ u, k = u + 1 := ⟨k - 1, by omega⟩
    unfold f_X6_goOn_l3 f_X6_goOn_b3
    rw [if_pos (by rw [show j = m by omega]; exact Int32.le_refl _)]
    exact ⟨S, rfl, Fr.rf, h, hr⟩
  | succ D ih =>
    intro k j S nb B h hw hr hb hj hk
    obtain ⟨k, rfl⟩ : ∃ u, k = u + 1 := ⟨k - 1, by omega⟩
    obtain ⟨T, t1, t2, t3, -⟩ := c_winner (N := N) h hw hN0
    have t2' : Fr ([e + 1].map d) S T := t2
    have cr := hr.fr1 hd t2' (fun k hk => by simp only [List.mem_cons, List.not_mem_nil, or_false] at hk; omega)
    have wl := bwin_le B
    have sub : ∀ a, a ∈ [e + 1].map d → a ∈ [e, e + 1, 11, 12, 13, 14, 15, 16, 17, 18].map d := by
      intro a ha
      obtain ⟨j, hj, w⟩ := List.mem_map.mp ha
      rw [List.mem_singleton.mp hj] at w
      exact List.mem_map.mpr ⟨e + 1, by simp, w⟩
    unfold f_X6_goOn_l3 f_X6_goOn_b3
    rw [if_neg (nle_i (by omega) (by omega)), gd_pos h.1.1, t1, cl_s]
    by_cases g0 : bwin B = 0
    · rw [if_pos (by rw [g0]; rfl), gd_pos t3.1.1, t3.2.2.2.2.2.1]
      have key : ∀ r, r < 4 → (if bv B = 1 then r1 else r2) = r → ∃ U, f_X6_goOn_b30 N x (d e) (nI r1) (nI r2) (nI m) (f_X6_goOn_l3 N x (d e) (nI r1) (nI r2) (nI m) k) T (nI j) (nI r) x = some (nI (j + (itB r1 r2 (D + 1) B).2), U) ∧ Fr ([e, e + 1, 11, 12, 13, 14, 15, 16, 17, 18].map d) S U ∧ StV U (d e) (d (e + 1)) (d (e + 2)) (itB r1 r2 (D + 1) B).1 ∧ CR U x d (nb + (D + 1)) := by
        intro r hr4 er
        obtain ⟨U, u1, u2, u3, u4⟩ := c_goOn_b (N := N) (p1 := nI r1) (p2 := nI r2) (p3 := nI m) (K := f_X6_goOn_l3 N x (d e) (nI r1) (nI r2) (nI m) k) (v := nI j) hd he hN0 t3 hw g0 cr (by omega) hr4
        have es : stpB B r1 r2 = occB B (rpB B r).toNatClampNeg (parB B (rpB B r).toNatClampNeg) := by
          unfold stpB
          rw [er]
        rw [← es] at u3
        obtain ⟨V, v1, v2, v3, v4⟩ := ih k (j + 1) U (nb + 1) _ u3 (stp_wf hw g0 r1 r2) u4 (by omega) (by omega) (by omega)
        have e9 : (itB r1 r2 (D + 1) B) = ((itB r1 r2 D (stpB B r1 r2)).1, (itB r1 r2 D (stpB B r1 r2)).2 + 1) := by
          rw [itB, if_pos g0]
        rw [u1, nI_p1, v1, e9]
        refine ⟨V, ?_, ((t2'.mono sub).tr u2).tr v2, v3, ?_⟩
        · show some (nI (j + 1 + _), V) = some (nI (j + (_ + 1)), V)
          rw [show ∀ x, j + 1 + x = j + (x + 1) from fun x => by omega]
        · rw [show nb + (D + 1) = nb + 1 + D by omega]
          exact v4
      rcases hw.2.2.1 with v | v
      · rw [if_pos v, if_neg (by decide)]
        exact key r1 h1 (if_pos v)
      · rw [if_neg (show ¬ bv B = 1 by rw [v]; decide), if_pos rfl]
        exact key r2 h2 (if_neg (by rw [v]; decide))
    · rw [if_neg (fun w => g0 ((nI_eq0 (by omega)).mp w))]
      rw [itB, if_neg g0]
      exact ⟨T, rfl, t2'.mono sub, t3, cr.1, cr.2.1, cr.2.2.mono (by omega)⟩
theorem c_goOn (hd : CD x d q) (he : e = 0 ∨ e = 3) (hN0 : 12 < N) {r1 r2 m : Nat} (h1 : r1 < 4) (h2 : r2 < 4) (hm : m ≤ 10) (h : StV S (d e) (d (e + 1)) (d (e + 2)) B) (hw : Wf B) (hr : CR S x d nb) (hb : nb + 10 < 2 ^ 27) : ∃ T, f_X6_goOn N S x (d e) (nI r1) (nI r2) (nI m) = some (nI (itB r1 r2 m B).2, T) ∧ Fr ([e, e + 1, 11, 12, 13, 14, 15, 16, 17, 18].map d) S T ∧ StV T (d e) (d (e + 1)) (d (e + 2)) (itB r1 r2 m B).1 ∧ CR T x d (nb + 10) := by
  obtain ⟨T, t1, t2, t3, t4⟩ := c_goOn_l hd he hN0 h1 h2 hm m N 0 S nb B h hw hr (by omega) (by omega) (by omega)
  rw [Nat.zero_add] at t1
  exact ⟨T, t1, t2, t3, t4.1, t4.2.1, t4.2.2.mono (by omega)⟩
/-- a look that writes on the board's lines alone -/
theorem CX.l1 (h : CX S x d q A nb) (hd : CD x d q) (f : Fr [d 1] S T) (h1 : StV T (d 0) (d 1) (d 2) (aN A)) : CN S x d q A nb T := by
  have r := CX.st1 (T := T) [1] h hd f (by decide) h1
  exact r
theorem CX.rr (h : CX S x d q A nb) (hd : CD x d q) {n2 : Nat} {l : List Nat} (f : Fr (l.map d) S T) (hl : ∀ k, k ∈ l → k < 20 ∧ (k < 6 ∨ 10 < k)) (h1 : StV T (d 0) (d 1) (d 2) B) (hr : CR T x d n2) : CN S x d q (nowA A B) n2 T := h.st l hd f hl h1 hr.2.1 hr.2.2
theorem x_win (h : CX S x d q A nb) (hd : CD x d q) (hw : WfA A) (hN0 : 12 < N) : ∃ T, f_X4_winner N S (d 0) = some (nI (bwin (aN A)), T) ∧ CN S x d q A nb T ∧ hI T (d 1) 3 = nI (bal (aN A)) ∧ hI T (d 1) 4 = nI (bws (aN A)) ∧ hI T (d 1) 5 = nI (bth (aN A)) := by
  obtain ⟨T, t1, t2, t3, t4, t5, t6, t7⟩ := c_winner (N := N) h.2.1 hw.1 hN0
  exact ⟨T, t1, h.l1 hd t2 t3, t5, t6, t7⟩
theorem x_other (h : CX S x d q A nb) (hd : CD x d q) (hw : WfA A) (hN0 : 12 < N) {i : Nat} (hi : i < 10) : ∃ T, f_X6_otherInPairing N S x (nI i) = some (parB (aN A) i, T) ∧ CN S x d q A nb T := by
  obtain ⟨T, t1, t2, t3, t4, t5⟩ := c_pl (N := N) (e := 0) hd (Or.inl rfl) hN0 h.2.1 hw.1 h.cr
  have cn := h.rr hd t2 (by decide) t3 t5
  refine ⟨T, ?_, cn⟩
  have c := cn.2.2
  unfold f_X6_otherInPairing
  rw [gd_pos h.1.1.1, h.cr.1.2.1, nn_s, h.1.1.2.1, nn_s, gd_pos h.cr.2.1.ok2, t1, cl_s, gd_pos t5.1.1, t5.1.2.1, nn_s, gd_pos t5.2.1.ok2, c_otherOf t4 hN0 hi, cl_s]
theorem x_pairs (h : CX S x d q A nb) (hd : CD x d q) (hw : WfA A) (hN0 : 12 < N) : ∃ T, f_X6_pairsInPairing N S x = some (npB (aN A), T) ∧ CN S x d q A nb T := by
  obtain ⟨T, t1, t2, t3, t4, t5⟩ := c_pl (N := N) (e := 0) hd (Or.inl rfl) hN0 h.2.1 hw.1 h.cr
  have cn := h.rr hd t2 (by decide) t3 t5
  refine ⟨T, ?_, cn⟩
  unfold f_X6_pairsInPairing
  rw [gd_pos h.1.1.1, h.cr.1.2.1, nn_s, h.1.1.2.1, nn_s, gd_pos h.cr.2.1.ok2, t1, cl_s, gd_pos t5.1.1, t5.1.2.1, nn_s, gd_pos t5.2.1.ok2]
  obtain ⟨-, -, w⟩ := t4
  unfold npB
  rcases w with ⟨w1, w2, w3⟩ | ⟨r, w1, w2, w3, w4⟩
  · rw [w1, w2, if_pos rfl]
  · rw [w1, w2, if_neg (by decide), w3.1]
end
