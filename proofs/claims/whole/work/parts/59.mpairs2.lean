section
variable {N : Nat} {S : Hp} {m z pa lo up c n mk br s : Nat} {M : Nat → Nat} {Q : Nat → Nat × Nat}
/-- all that is written in the model's three arrays for lines ahead of j stays -/
def Kp (lo up j : Nat) (S T : Hp) : Prop := ∀ l, l < j → hI T lo l = hI S lo l ∧ hI T up l = hI S up l
theorem Kp.rf {lo up j : Nat} {S : Hp} : Kp lo up j S S := fun _ _ => ⟨rfl, rfl⟩
theorem Kp.tr {lo up j : Nat} {S T U : Hp} (h : Kp lo up j S T) (g : Kp lo up j T U) : Kp lo up j S U := fun l hl => ⟨(g l hl).1.trans (h l hl).1, (g l hl).2.trans (h l hl).2⟩
theorem Kp.le {lo up i j : Nat} {S T : Hp} (h : Kp lo up j S T) (hij : i ≤ j) : Kp lo up i S T := fun l hl => h l (by omega)
/-- the search for the next pair of line j, behind (a, b) -/
theorem m_pn_l (h0 : MC S m z pa lo up c n mk br M) (hp : PR S pa s Q) (hg : goodQ (fre c mk br) s Q) {j : Nat} (hj : j < n) : ∀ d k a b, (10 - a) * 11 + (10 - b) ≤ d → d < k → a ≤ b → b < 10 →
    (nxt (looQ M (fre c mk br) j s Q) (restP a b) = none ∧ ∃ T, f_X7_pairNext_l47 N m (nI j) k S (nI a) (nI b) = some (0, T) ∧ Fr [pa, lo, up] S T ∧ Kp lo up j S T ∧ hI T lo j = -1 ∧ PR T pa s Q) ∨
    (∃ p, nxt (looQ M (fre c mk br) j s Q) (restP a b) = some (p, restP p.1 p.2) ∧ p.1 < p.2 ∧ p.2 < 10 ∧ goodQ (fre c mk br) (s + 1) (updQ Q s p) ∧ ∃ T, f_X7_pairNext_l47 N m (nI j) k S (nI a) (nI b) = some (1, T) ∧ Fr [pa, lo, up] S T ∧ Kp lo up j S T ∧ hI T lo j = nI p.1 ∧ hI T up j = nI p.2 ∧ PR T pa (s + 1) (updQ Q s p)) := by
  have hL := fun i (hi : i < 10) => m_isLoose (N := N) h0 hp hg hj hi
  obtain ⟨⟨⟨hm, hz, hk, hn⟩, ⟨z0, h2, h3, h4, hM⟩, hc, hn12, hmk, hbr, hM1⟩, ⟨p1, p2, p3⟩, ⟨l1, l2, l3⟩, ⟨u1, u2, u3⟩, d1, d2, d3, d4, d5, d6⟩ := h0
  intro d
  induction d with
  | zero => intro k a b hd hk' hab hb; omega
  | succ d ih =>
    intro k a b hd hk' hab hb
    obtain ⟨k, rfl⟩ : ∃ q, k = q + 1 := ⟨k - 1, by omega⟩
    simp only [f_X7_pairNext_l47, f_X7_pairNext_b47, gd_pos hm, hz, nn_s, gd_pos hk, gd_pos (zin hn (i := (0 : Int32)) (k := 0) rfl (by decide)), tn0, z0, nI_p1]
    by_cases c1 : c ≤ a
    · rw [if_pos (nI_le c1 (by omega)), l1, nn_s, gd_pos l2, gd_pos (inN l3 (show j < 12 by omega) (by decide)), nI_clamp (by omega)]
      refine Or.inl ⟨nxt_none (fun p hp' => ?_), _, rfl, Fr.rf.sI (by simp), fun l hl => ⟨by rw [hI_k (by omega)], by rw [hI_a d3.symm]⟩, by rw [hI_same], fun i hi => by rw [hI_a d1]; exact hp i hi⟩
      have g := rest_ge hp'
      cases e : looQ M (fre c mk br) j s Q p.1
      · rfl
      · exact absurd (looQ_lt hc e) (by omega)
    · rw [if_neg (nle_i (by omega) (by omega))]
      by_cases c2 : b + 1 < c
      · rw [if_pos (nI_lt c2 (by omega)), if_neg (nle_i (by omega) (by omega)), hL a (by omega), cl_s]
        have goOn := ih k a (b + 1) (by omega) (by omega) (by omega) (by omega)
        have sk : (looQ M (fre c mk br) j s Q a && looQ M (fre c mk br) j s Q (b + 1)) = false → nxt (looQ M (fre c mk br) j s Q) (restP a b) = nxt (looQ M (fre c mk br) j s Q) (restP a (b + 1)) := by
          intro q
          rw [rest_step (show b < 9 by omega), nxt, if_neg (by
            show ¬ (looQ M (fre c mk br) j s Q a && looQ M (fre c mk br) j s Q (b + 1)) = true
            rw [q]; decide)]
        cases e1 : looQ M (fre c mk br) j s Q a
        · rw [if_pos (i01.mpr (by decide)), sk (by rw [e1]; rfl)]
          exact goOn
        · rw [if_neg (by decide), gd_pos hm, hL (b + 1) (by omega), cl_s]
          cases e2 : looQ M (fre c mk br) j s Q (b + 1)
          · rw [if_pos (i01.mpr (by decide)), sk (by rw [e2, Bool.and_false])]
            exact goOn
          · rw [if_neg (by decide), gd_pos hm, l1, nn_s, gd_pos l2, gd_pos (inN l3 (show j < 12 by omega) (by decide)), hR_sI, u1, nn_s, gd_pos (ok_sI u2), hN_sI, gd_pos (inN u3 (show j < 12 by omega) (by decide)), bd_d, hR_sI, hR_sI, p1, nn_s, gd_pos (ok_sI (ok_sI p2)), hN_sI, hN_sI, gd_pos (inN p3 (show a < 10 by omega) (by decide)), bd_d, hN_sI, hN_sI, hN_sI, gd_pos (inN p3 (show b + 1 < 10 by omega) (by decide)), bd_d]
            simp only [nI_clamp (show j < 2 ^ 31 by omega), nI_clamp (show a < 2 ^ 31 by omega), nI_clamp (show b + 1 < 2 ^ 31 by omega)]
            refine Or.inr ⟨(a, b + 1), (by rw [rest_step (show b < 9 by omega), nxt, if_pos (by show (looQ M (fre c mk br) j s Q a && looQ M (fre c mk br) j s Q (b + 1)) = true; rw [e1, e2]; rfl)]), by show a < b + 1; omega, by show b + 1 < 10; omega, good_push hg (show a < b + 1 ∧ b + 1 < 10 by omega) e1 e2, _, rfl, (((Fr.rf.sI (by simp)).sI (by simp)).sI (by simp)).sI (by simp), fun l hl => ⟨?_, ?_⟩, ?_, ?_, fun i hi => ?_⟩
            · rw [hI_a d1.symm, hI_a d1.symm, hI_a d3, hI_k (by omega)]
            · rw [hI_a d2.symm, hI_a d2.symm, hI_k (by omega), hI_a d3.symm]
            · rw [hI_a d1.symm, hI_a d1.symm, hI_a d3, hI_same]
            · rw [hI_a d2.symm, hI_a d2.symm, hI_same]
            · rw [parOf_push]
              show _ = if i = a then nI (b + 1) else if i = b + 1 then nI a else parOf s Q i
              by_cases x1 : i = b + 1
              · rw [x1, hI_same, if_neg (by omega), if_pos rfl]
              · rw [hI_k x1]
                by_cases x2 : i = a
                · rw [x2, hI_same, if_pos rfl]
                · rw [hI_k x2, if_neg x2, if_neg x1, hI_a d2, hI_a d1]; exact hp i hi
      · rw [if_neg (fun q => absurd ((nI_lt_iff (by omega) (by omega)).mp q) c2)]
        have e : nxt (looQ M (fre c mk br) j s Q) (restP a b) = nxt (looQ M (fre c mk br) j s Q) (restP (a + 1) (a + 1)) := by
          rw [← rows_rest a]
          show nxt _ (row a (b + 1) (9 - b) ++ _) = _
          refine nxt_skip (fun p hp' => ?_)
          have g := mem_row hp'
          cases e : looQ M (fre c mk br) j s Q p.2
          · rw [Bool.and_false]
          · exact absurd (looQ_lt hc e) (by omega)
        rw [e]
        by_cases c3 : a + 1 < 10
        · exact ih k (a + 1) (a + 1) (by omega) (by omega) (Nat.le_refl _) c3
        · obtain rfl : a = 9 := by omega
          obtain ⟨k, rfl⟩ : ∃ q, k = q + 1 := ⟨k - 1, by omega⟩
          simp only [f_X7_pairNext_l47, f_X7_pairNext_b47, gd_pos hm, hz, nn_s, gd_pos hk, gd_pos (zin hn (i := (0 : Int32)) (k := 0) rfl (by decide)), tn0, z0]
          rw [if_pos (nI_le (b := 9 + 1) (by omega) (by decide)), l1, nn_s, gd_pos l2, gd_pos (inN l3 (show j < 12 by omega) (by decide)), nI_clamp (by omega)]
          exact Or.inl ⟨rfl, _, rfl, Fr.rf.sI (by simp), fun l hl => ⟨by rw [hI_k (by omega)], by rw [hI_a d3.symm]⟩, by rw [hI_same], fun i hi => by rw [hI_a d1]; exact hp i hi⟩
/-- the first pair of a line for which none is tried -/
theorem m_pn0 (h0 : MC S m z pa lo up c n mk br M) (hN : 200 < N) (hp : PR S pa s Q) (hg : goodQ (fre c mk br) s Q) {j : Nat} (hj : j < n) (hl : hI S lo j = -1) :
    (nxt (looQ M (fre c mk br) j s Q) (restP 0 0) = none ∧ ∃ T, f_X7_pairNext N S m (nI j) = some (0, T) ∧ Fr [pa, lo, up] S T ∧ Kp lo up j S T ∧ hI T lo j = -1 ∧ PR T pa s Q) ∨
    (∃ p, nxt (looQ M (fre c mk br) j s Q) (restP 0 0) = some (p, restP p.1 p.2) ∧ p.1 < p.2 ∧ p.2 < 10 ∧ goodQ (fre c mk br) (s + 1) (updQ Q s p) ∧ ∃ T, f_X7_pairNext N S m (nI j) = some (1, T) ∧ Fr [pa, lo, up] S T ∧ Kp lo up j S T ∧ hI T lo j = nI p.1 ∧ hI T up j = nI p.2 ∧ PR T pa (s + 1) (updQ Q s p)) := by
  have w := m_pn_l (N := N) h0 hp hg hj 120 N 0 0 (by decide) (by omega) (Nat.le_refl 0) (by decide)
  obtain ⟨⟨⟨hm, hz, hk, hn⟩, ⟨z0, h2, h3, h4, hM⟩, hc, hn12, hmk, hbr, hM1⟩, ⟨p1, p2, p3⟩, ⟨l1, l2, l3⟩, ⟨u1, u2, u3⟩, d1, d2, d3, d4, d5, d6⟩ := h0
  have il := inN l3 (show j < 12 by omega) (by decide)
  have cj : (nI j).toNatClampNeg = j := nI_clamp (by omega)
  have e : f_X7_pairNext N S m (nI j) = f_X7_pairNext_l47 N m (nI j) N S (nI 0) (nI 0) := by
    simp only [f_X7_pairNext, f_X7_pairNext_b20, f_X7_pairNext_b41, f_X7_unpair, gd_pos hm, l1, nn_s, gd_pos l2, gd_pos il, cj, hl, if_true, cl_s]
    rfl
  rw [e]
  exact w
/-- the next pair of a line for which p is tried -/
theorem m_pn1 (h0 : MC S m z pa lo up c n mk br M) (hN : 200 < N) {p : Nat × Nat} (hp : PR S pa (s + 1) (updQ Q s p)) (hg : goodQ (fre c mk br) (s + 1) (updQ Q s p)) {j : Nat} (hj : j < n) (hl : hI S lo j = nI p.1) (hu : hI S up j = nI p.2) :
    (nxt (looQ M (fre c mk br) j s Q) (restP p.1 p.2) = none ∧ ∃ T, f_X7_pairNext N S m (nI j) = some (0, T) ∧ Fr [pa, lo, up] S T ∧ Kp lo up j S T ∧ hI T lo j = -1 ∧ PR T pa s Q) ∨
    (∃ p', nxt (looQ M (fre c mk br) j s Q) (restP p.1 p.2) = some (p', restP p'.1 p'.2) ∧ p'.1 < p'.2 ∧ p'.2 < 10 ∧ goodQ (fre c mk br) (s + 1) (updQ Q s p') ∧ ∃ T, f_X7_pairNext N S m (nI j) = some (1, T) ∧ Fr [pa, lo, up] S T ∧ Kp lo up j S T ∧ hI T lo j = nI p'.1 ∧ hI T up j = nI p'.2 ∧ PR T pa (s + 1) (updQ Q s p')) := by
  have gs := hg s (by omega)
  rw [upd_at, cov_upd (Nat.le_refl s), cov_upd (Nat.le_refl s)] at gs
  have hg0 : goodQ (fre c mk br) s Q := by
    intro i hi
    have q := hg i (by omega)
    rw [show updQ Q s p i = Q i from if_neg (by omega), cov_upd (by omega), cov_upd (by omega)] at q
    exact q
  have f : Fr [pa, lo, up] S (sI (sI S pa p.1 (-1)) pa p.2 (-1)) := (Fr.rf.sI (by simp)).sI (by simp)
  have hc0 := h0.fr f
  have hp0 : PR (sI (sI S pa p.1 (-1)) pa p.2 (-1)) pa s Q := by
    intro i hi
    by_cases x1 : i = p.2
    · rw [x1, hI_same]; exact ((parOf_no hg0).mpr gs.2.2.2.1).symm
    · rw [hI_k x1]
      by_cases x2 : i = p.1
      · rw [x2, hI_same]; exact ((parOf_no hg0).mpr gs.2.2.1).symm
      · rw [hI_k x2, hp i hi, parOf_push, if_neg x2, if_neg x1]
  have w := m_pn_l (N := N) hc0 hp0 hg0 hj 120 N p.1 p.2 (by omega) (by omega) (by omega) gs.2.1
  obtain ⟨⟨⟨hm, hz, hk, hn⟩, ⟨z0, h2, h3, h4, hM⟩, hc, hn12, hmk, hbr, hM1⟩, ⟨p1, p2, p3⟩, ⟨l1, l2, l3⟩, ⟨u1, u2, u3⟩, d1, d2, d3, d4, d5, d6⟩ := h0
  have il := inN l3 (show j < 12 by omega) (by decide)
  have iu := inN u3 (show j < 12 by omega) (by decide)
  have ia := inN p3 (show p.1 < 10 by omega) (by decide)
  have ib := inN p3 (show p.2 < 10 by omega) (by decide)
  have cj : (nI j).toNatClampNeg = j := nI_clamp (by omega)
  have ca : (nI p.1).toNatClampNeg = p.1 := nI_clamp (by omega)
  have cb : (nI p.2).toNatClampNeg = p.2 := nI_clamp (by omega)
  have e : f_X7_pairNext N S m (nI j) = f_X7_pairNext_l47 N m (nI j) N (sI (sI S pa p.1 (-1)) pa p.2 (-1)) (nI p.1) (nI p.2) := by
    have nm : ¬ nI p.1 = (-1 : Int32) := nI_nm1 (by omega)
    have u2' : ok (sI S pa p.1 (-1)) up 8 := u2
    simp only [f_X7_pairNext, f_X7_pairNext_b20, f_X7_pairNext_b41, f_X7_unpair, gd_pos hm, l1, nn_s, gd_pos l2, gd_pos il, cj, hl, if_neg nm, u1, gd_pos u2, gd_pos iu, hu, p1, gd_pos p2, gd_pos ia, ca, bd_d, hR_sI, gd_pos u2', hN_sI, hI_a d2.symm, gd_pos ib, cb, cl_s]
  rw [e]
  have kp0 : Kp lo up j S (sI (sI S pa p.1 (-1)) pa p.2 (-1)) := fun l _ => ⟨by rw [hI_a d1.symm, hI_a d1.symm], by rw [hI_a d2.symm, hI_a d2.symm]⟩
  rcases w with ⟨w1, T, t1, t2, t3, t4⟩ | ⟨p', w1, w2, w3, w4, T, t1, t2, t3, t4⟩
  · exact Or.inl ⟨w1, T, t1, f.tr t2, kp0.tr t3, t4⟩
  · exact Or.inr ⟨p', w1, w2, w3, w4, T, t1, f.tr t2, kp0.tr t3, t4⟩
end
