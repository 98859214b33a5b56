theorem rows_step {a k : Nat} (h : a + (k + 1) = 10) : rows a (k + 1) = row a (a + 1) (10 - (a + 1)) ++ rows (a + 1) k := by
  rw [rows, show 9 - a = 10 - (a + 1) by omega]
theorem tryL_cons {α : Type} {lo : Nat → Bool} {f : Nat × Nat → Option α} {p : Nat × Nat} {t : List (Nat × Nat)} : tryL lo f (p :: t) = if (lo p.1 && lo p.2) = true then (match f p with
    | some r => some r
    | none => tryL lo f t) else tryL lo f t := rfl
theorem rows_all : rows 0 10 = restP 0 0 := rfl
section
variable {N : Nat} {S : Hp} {pr Lp ap pp n mk br s u : Nat} {M : Nat → Nat} {Q : Nat → Nat × Nat}
/-- what the search knows as it goes on -/
def CQ (S : Hp) (pr Lp ap pp n mk br : Nat) (M : Nat → Nat) (s u : Nat) (Q : Nat → Nat × Nat) : Prop := CP S pr Lp ap pp n br M ∧ PQ S pr pp s Q ∧ goodQ (fre 10 mk br) s Q ∧ usedQ mk br s Q u
theorem c_pairBy (h : CQ S pr Lp ap pp n mk br M s u Q) {pf : Hp → Nat → Int32 → Int32 → Option (Int32 × Hp)} {j q : Nat} (hj : j < 12) {p : Nat × Nat} (hp : p.1 < p.2 ∧ p.2 < 10) (g1 : looQ M (fre 10 mk br) j s Q p.1 = true) (g2 : looQ M (fre 10 mk br) j s Q p.2 = true)
    (ih : ∀ (S : Hp) (s u : Nat) (Q : Nat → Nat × Nat), CQ S pr Lp ap pp n mk br M s u Q → CEnd pr pp mk br (DQ M br (fre 10 mk br) q (j + 1) s Q) S s Q (pf S pr (nI (j + 1)) (nI u))) :
    CEnd pr pp mk br (DQ M br (fre 10 mk br) q (j + 1) (s + 1) (updQ Q s p)) S s Q (f_X2_pairBy pf N S pr (nI (prC p)) (nI j) (nI u)) := by
  obtain ⟨hc, hq, hg, hu⟩ := h
  have hg2 := good_push hg hp g1 g2
  have s5 := good_le hg2
  obtain ⟨⟨a1, a2, a3⟩, b, ⟨c1, c2, c3⟩, d1, e1⟩ := id hc
  have np : pp ≠ pr := ok_ne c1 a1 (by decide)
  have f : Fr [pr, pp] S (sI (sI S pp s (nI (prC p))) pr 4 (nI (s + 1))) := (Fr.rf.sI (by simp)).sI (by simp)
  have kq : Kq pr S (sI (sI S pp s (nI (prC p))) pr 4 (nI (s + 1))) := fun k hk => by rw [hI_k hk, hI_a np.symm]
  have pq : PQ (sI (sI S pp s (nI (prC p))) pr 4 (nI (s + 1))) pr pp (s + 1) (updQ Q s p) := by
    refine ⟨hI_same _ _ _ _, fun i hi => ?_⟩
    rw [hI_a np]
    by_cases e : i = s
    · rw [e, hI_same, upd_at]
    · rw [hI_k e, show updQ Q s p i = Q i from if_neg e]; exact hq.2 i (by omega)
  obtain ⟨T, t1, t2, t3⟩ := ih _ (s + 1) (u ||| prC p) (updQ Q s p) ⟨hc.fr f kq, pq, hg2, used_push hu hp⟩
  unfold f_X2_pairBy
  rw [gd_pos a1, hq.1, if_neg (nI_pos (by omega)), a3, nn_s, gd_pos c1, c2, if_pos (show nI s < nI 5 from nI_lt (by omega) (by decide)), ← c2, gd_pos (inN c2 (show s < 5 by omega) (by decide)), bd_d, nI_clamp (by omega), hI_a np.symm, hq.1, nI_p1, nI_p1, nI_or]
  rcases t3 with ⟨s', Q', r1, r2, r3, r4⟩ | ⟨r1, r2, r3⟩
  · rw [r2, cl_s, if_neg (by decide)]
    exact ⟨T, f.tr t1, kq.tr t2, Or.inl ⟨s', Q', r1, rfl, r3, r4⟩⟩
  · rw [r2, cl_s, if_pos rfl, gd_pos (t1.ok a1), r3.1, nI_m1]
    refine ⟨_, (f.tr t1).sI (by simp), (kq.tr t2).tr (fun k hk => by rw [hI_k hk]), Or.inr ⟨r1, rfl, hI_same _ _ _ _, fun i hi => ?_⟩⟩
    rw [hI_a np, r3.2 i (by omega), show updQ Q s p i = Q i from if_neg (by omega)]
theorem c_l73 {pf : Hp → Nat → Int32 → Int32 → Option (Int32 × Hp)} {j q : Nat} (hj : j < n) (hn : n ≤ 12) (hM : ∀ j, j < n → M j < 1024)
    (ih : ∀ (S : Hp) (s u : Nat) (Q : Nat → Nat × Nat), CQ S pr Lp ap pp n mk br M s u Q → CEnd pr pp mk br (DQ M br (fre 10 mk br) q (j + 1) s Q) S s Q (pf S pr (nI (j + 1)) (nI u)))
    {K : Hp → Int32 → Int32 → Option (Int32 × Hp)} {lw r : Nat} (hlw : lw + (r + 1) = 10)
    (hK : ∀ S, CQ S pr Lp ap pp n mk br M s u Q → CEnd pr pp mk br (tryL (looQ M (fre 10 mk br) j s Q) (fun p => DQ M br (fre 10 mk br) q (j + 1) (s + 1) (updQ Q s p)) (rows (lw + 1) r)) S s Q (K S (nI (dif (M j) u)) (nI (lw + 1)))) :
    ∀ d k hh S, hh + d = 10 → lw < hh → d < k → CQ S pr Lp ap pp n mk br M s u Q → CEnd pr pp mk br (tryL (looQ M (fre 10 mk br) j s Q) (fun p => DQ M br (fre 10 mk br) q (j + 1) (s + 1) (updQ Q s p)) (row lw hh d ++ rows (lw + 1) r)) S s Q (f_X2_pairFromB_l73 pf N pr (nI j) (nI u) K k S (nI (dif (M j) u)) (nI lw) (nI hh)) := by
  intro d
  induction d with
  | zero =>
    intro k hh S hd hlt hk h
    obtain ⟨k, rfl⟩ : ∃ x, k = x + 1 := ⟨k - 1, by omega⟩
    obtain rfl : hh = 10 := by omega
    unfold f_X2_pairFromB_l73 f_X2_pairFromB_b73
    rw [if_pos (show (10 : Int32) ≤ nI 10 by decide), nI_p1]
    exact hK S h
  | succ d ihd =>
    intro k hh S hd hlt hk h
    obtain ⟨k, rfl⟩ : ∃ x, k = x + 1 := ⟨k - 1, by omega⟩
    have hp : (lw, hh).1 < (lw, hh).2 ∧ (lw, hh).2 < 10 := ⟨hlt, by show hh < 10; omega⟩
    have on := fun S (h : CQ S pr Lp ap pp n mk br M s u Q) => ihd k (hh + 1) S (by omega) (by omega) (by omega) h
    have mj := hM j hj
    have pl := prC_lt hp
    have dl := dif_lt (b := u) mj
    have al := and_lt (b := prC (lw, hh)) dl
    unfold f_X2_pairFromB_l73 f_X2_pairFromB_b73
    rw [if_neg (nle10 (by omega)), bd_d, nI_bit lw (by omega), nI_bit hh (by omega), nI_or, show (2 ^ lw ||| 2 ^ hh) = prC (lw, hh) from rfl, nI_and, nI_p1, show row lw hh (d + 1) ++ rows (lw + 1) r = (lw, hh) :: (row lw (hh + 1) d ++ rows (lw + 1) r) from rfl, tryL_cons]
    have op := prC_sub hp (e := dif (M j) u)
    rw [open_loo h.2.2.2 mj, open_loo h.2.2.2 mj] at op
    by_cases g : (looQ M (fre 10 mk br) j s Q (lw, hh).1 && looQ M (fre 10 mk br) j s Q (lw, hh).2) = true
    · rw [if_pos g, if_pos (by rw [op.mpr g]), gd_pos h.1.1.1]
      rw [Bool.and_eq_true] at g
      obtain ⟨T, t1, t2, t3⟩ := c_pairBy (N := N) h (show j < 12 by omega) hp g.1 g.2 ih
      rcases t3 with ⟨s', Q', r1, r2, r3, r4⟩ | ⟨r1, r2, r3⟩
      · rw [r2, cl_s, if_neg (by decide), r1]
        exact ⟨T, t1, t2, Or.inl ⟨s', Q', rfl, rfl, r3, r4⟩⟩
      · rw [r2, cl_s, if_pos rfl, r1]
        exact (on T ⟨h.1.fr t1 t2, r3, h.2.2.1, h.2.2.2⟩).after t1 t2
    · rw [if_neg g, if_neg (fun w => g (op.mp ((nI_eq_iff (by omega) (by omega)).mp w)))]
      exact on S h
theorem c_l60 {pf : Hp → Nat → Int32 → Int32 → Option (Int32 × Hp)} {j q : Nat} (hN : 12 < N) (hj : j < n) (hn : n ≤ 12) (hM : ∀ j, j < n → M j < 1024)
    (ih : ∀ (S : Hp) (s u : Nat) (Q : Nat → Nat × Nat), CQ S pr Lp ap pp n mk br M s u Q → CEnd pr pp mk br (DQ M br (fre 10 mk br) q (j + 1) s Q) S s Q (pf S pr (nI (j + 1)) (nI u))) :
    ∀ d k lw S, lw + d = 10 → d < k → CQ S pr Lp ap pp n mk br M s u Q → CEnd pr pp mk br (tryL (looQ M (fre 10 mk br) j s Q) (fun p => DQ M br (fre 10 mk br) q (j + 1) (s + 1) (updQ Q s p)) (rows lw d)) S s Q (f_X2_pairFromB_l60 pf N pr (nI j) (nI u) k S (nI (dif (M j) u)) (nI lw)) := by
  intro d
  induction d with
  | zero =>
    intro k lw S hd hk h
    obtain ⟨k, rfl⟩ : ∃ x, k = x + 1 := ⟨k - 1, by omega⟩
    obtain rfl : lw = 10 := by omega
    unfold f_X2_pairFromB_l60 f_X2_pairFromB_b60
    rw [if_pos (show (10 : Int32) ≤ nI 10 by decide)]
    exact ⟨S, Fr.rf, Kq.rf, Or.inr ⟨rfl, rfl, h.2.1⟩⟩
  | succ d ihd =>
    intro k lw S hd hk h
    obtain ⟨k, rfl⟩ : ∃ x, k = x + 1 := ⟨k - 1, by omega⟩
    unfold f_X2_pairFromB_l60 f_X2_pairFromB_b60
    rw [if_neg (nle10 (by omega)), nI_p1, rows_step hd]
    exact c_l73 hj hn hM ih hd (fun S h => ihd k (lw + 1) S (by omega) (by omega) h) (10 - (lw + 1)) N (lw + 1) S (by omega) (by omega) (by omega) h
theorem c_pairFromD (hN : 12 < N) (hn : n ≤ 12) (hM : ∀ j, j < n → M j < 1024) (hM0 : ∀ j, j < n → M j ≠ 0) : ∀ (q j d : Nat) (S : Hp) (s u : Nat) (Q : Nat → Nat × Nat), j + q = n → q < d → CQ S pr Lp ap pp n mk br M s u Q → CEnd pr pp mk br (DQ M br (fre 10 mk br) q j s Q) S s Q (f_X2_pairFromD N d S pr (nI j) (nI u)) := by
  intro q
  induction q with
  | zero =>
    intro j d S s u Q hj hd h
    obtain ⟨d, rfl⟩ : ∃ x, d = x + 1 := ⟨d - 1, by omega⟩
    obtain rfl : j = n := by omega
    unfold f_X2_pairFromD f_X2_pairFromB
    rw [gd_pos h.1.1.1, h.1.1.2.1, nn_s, gd_pos h.1.2.1.1.1, c_has h.1.2.1, cl_s, if_pos (i01.mpr (fun q => absurd q.2 (nI_nlt (Nat.le_refl j) (by omega))))]
    exact ⟨S, Fr.rf, Kq.rf, Or.inl ⟨s, Q, rfl, rfl, h.2.1, h.2.2.1⟩⟩
  | succ q ih =>
    intro j d S s u Q hj hd h
    obtain ⟨d, rfl⟩ : ∃ x, d = x + 1 := ⟨d - 1, by omega⟩
    have hjn : j < n := by omega
    have ihp : ∀ (S : Hp) (s u : Nat) (Q : Nat → Nat × Nat), CQ S pr Lp ap pp n mk br M s u Q → CEnd pr pp mk br (DQ M br (fre 10 mk br) q (j + 1) s Q) S s Q (f_X2_pairFromD N d S pr (nI (j + 1)) (nI u)) := fun S s u Q h => ih (j + 1) d S s u Q (by omega) (by omega) h
    have e1 := c_has (N := N) h.1.2.1 (x := nI j)
    rw [if_pos ⟨nI_pos' (by omega), nI_lt hjn (by omega)⟩] at e1
    have e2 := c_maskOf (N := N) h.1.2.1 (show j < 2 ^ 31 by omega)
    rw [if_pos hjn] at e2
    unfold f_X2_pairFromD f_X2_pairFromB
    rw [gd_pos h.1.1.1, h.1.1.2.1, nn_s, gd_pos h.1.2.1.1.1, e1, cl_s, if_neg (by decide), gd_pos h.1.1.1, h.1.1.2.1, nn_s, gd_pos h.1.2.1.1.1, e2, cl_s, gd_pos h.1.1.1, c_needsPair h.1 hN h.2.1 h.2.2.1 hjn, cl_s]
    by_cases g : needQ M br j s Q = true
    · rw [if_pos g, if_neg (by decide), gd_pos h.1.1.1]
      obtain ⟨r, r1, r2⟩ := c_isHopeless_l (y := nI j) h.1 hN hM0 h.2.1 h.2.2.1 h.2.2.2 hj (12 - j) N j (by omega) (by omega) (Nat.le_refl j)
      have r1' : f_X2_isHopeless N S pr (nI j) (nI u) = some (r, S) := r1
      rw [r1', cl_s]
      rcases r2 with rfl | ⟨rfl, r3⟩
      · rw [if_pos rfl, bd_d, nI_dif (hM j hjn), DQ, if_pos g, ← rows_all]
        exact c_l60 hN hjn hn hM ihp 10 N 0 S rfl (by omega) h
      · rw [if_neg (by decide), r3]
        exact ⟨S, Fr.rf, Kq.rf, Or.inr ⟨rfl, rfl, h.2.1⟩⟩
    · rw [if_neg g, if_pos rfl, gd_pos h.1.1.1, nI_p1, DQ, if_neg g]
      obtain ⟨T, t1, t2, t3⟩ := ihp S s u Q h
      refine ⟨T, t1, t2, ?_⟩
      rcases t3 with ⟨s', Q', r1, r2, r3, r4⟩ | ⟨r1, r2, r3⟩
      · rw [r2, cl_s, gd_pos (show isB (1 : Int32) from Or.inr rfl)]
        exact Or.inl ⟨s', Q', r1, rfl, r3, r4⟩
      · rw [r2, cl_s, gd_pos (show isB (0 : Int32) from Or.inl rfl)]
        exact Or.inr ⟨r1, rfl, r3⟩
end
