/-- the line ahead of j for which a pair is tried -/
def taI (S : Hp) (lo : Nat) : Nat → Int32
  | 0 => -1
  | j + 1 => if hI S lo j = -1 then taI S lo j else nI j
def c45 : Nat := (restP 0 0).length
def TT : Nat → Nat
  | 0 => 1
  | q + 1 => 1 + c45 * TT q + TT q
theorem TT_pos : ∀ q, 1 ≤ TT q
  | 0 => Nat.le_refl 1
  | q + 1 => by unfold TT; omega
section
variable {N : Nat} {S : Hp} {m z pa lo up c n mk br s : Nat} {M : Nat → Nat} {Q : Nat → Nat × Nat}
theorem m_ta_l (h0 : MC S m z pa lo up c n mk br M) {x : Int32} : ∀ j k, j ≤ 12 → j < k → f_X7_triedAhead_l4 N m x k S (nI j - 1) = some (taI S lo j, S)
  | 0, k, _, hk => by
    obtain ⟨k, rfl⟩ : ∃ q, k = q + 1 := ⟨k - 1, by omega⟩
    unfold f_X7_triedAhead_l4 f_X7_triedAhead_b4
    rw [if_pos (by decide)]
    rfl
  | j + 1, k, hj, hk => by
    obtain ⟨k, rfl⟩ : ∃ q, k = q + 1 := ⟨k - 1, by omega⟩
    have ih := m_ta_l h0 (x := x) j k (by omega) (by omega)
    obtain ⟨⟨⟨hm, -⟩, -⟩, -, ⟨l1, l2, l3⟩, -⟩ := h0
    unfold f_X7_triedAhead_l4 f_X7_triedAhead_b4
    rw [nI_m1, if_neg (nI_pos (by omega)), gd_pos hm, l1, nn_s, gd_pos l2, gd_pos (inN l3 (show j < 12 by omega) (by decide)), nI_clamp (by omega), taI]
    by_cases g : hI S lo j = -1
    · rw [if_pos g, if_pos g, show nI j + (-1 : Int32) = nI j - 1 from (Int32.sub_eq_add_neg _ _).symm]
      exact ih
    · rw [if_neg g, if_neg g]
theorem m_ta (h0 : MC S m z pa lo up c n mk br M) (hN : 12 < N) {j : Nat} (hj : j ≤ 12) : f_X7_triedAhead N S m (nI j) = some (taI S lo j, S) := m_ta_l h0 j N hj (by omega)
/-- back ahead of a line without a pair -/
theorem m_back (h0 : MC S m z pa lo up c n mk br M) (hN : 12 < N) {K : Hp → Int32 → Option (Int32 × Hp)} {kb j : Nat} (hj : j < 12) (hl : hI S lo j = -1) : f_X7_layPairing_l70 N m K (kb + 1) S (nI (j + 1)) 0 = f_X7_layPairing_l70 N m K (kb + 1) S (nI j) 0 := by
  unfold f_X7_layPairing_l70 f_X7_layPairing_b70
  rw [m_ta h0 hN (by omega), m_ta h0 hN (show j ≤ 12 by omega), taI, if_pos hl, if_pos rfl, if_pos rfl]
/-- back to a line with a pair -/
theorem m_backAt (h0 : MC S m z pa lo up c n mk br M) (hN : 12 < N) {K : Hp → Int32 → Option (Int32 × Hp)} {kb j a : Nat} (hj : j < 12) (ha : a < 10) (hl : hI S lo j = nI a) : f_X7_layPairing_l70 N m K (kb + 1) S (nI (j + 1)) 0 = cl (f_X7_pairNext N S m (nI j)) fun r T => f_X7_layPairing_l70 N m K kb T (nI j) r := by
  have hm := h0.1.1.1
  show f_X7_layPairing_b70 N m K (f_X7_layPairing_l70 N m K kb) S (nI (j + 1)) 0 = _
  unfold f_X7_layPairing_b70
  have et : taI S lo (j + 1) = nI j := by rw [taI, if_neg (by rw [hl]; exact nI_nm1 (by omega))]
  rw [if_pos rfl, gd_pos hm, m_ta h0 hN (by omega), cl_s, et, if_pos (nI_pos' (by omega)), gd_pos hm]
theorem m_on {K : Hp → Int32 → Option (Int32 × Hp)} {kb j : Nat} {T : Hp} : f_X7_layPairing_l70 N m K (kb + 1) T (nI j) 1 = K T (nI (j + 1)) := by
  show f_X7_layPairing_b70 N m K (f_X7_layPairing_l70 N m K kb) T (nI j) 1 = _
  unfold f_X7_layPairing_b70
  rw [if_neg (by decide), nI_p1]
/-- how a search from line j on ends: with a pairing, or back ahead of j as it was -/
def LayEnd (N m pa lo up : Nat) (M : Nat → Nat) (F br n : Nat) (R : Option (Nat × (Nat → Nat × Nat))) (S : Hp) (j k q : Nat) (t s : Nat) (Q : Nat → Nat × Nat) (run : Option (Int32 × Hp)) : Prop :=
  ∃ T, Fr [pa, lo, up] S T ∧ Kp lo up j S T ∧ ((∃ s' Q', R = some (s', Q') ∧ run = some (1, T) ∧ PR T pa s' Q' ∧ goodQ F s' Q') ∨
    (R = none ∧ PR T pa s Q ∧ ∃ k' kb, k ≤ k' + t ∧ N ≤ kb + q ∧ run = f_X7_layPairing_l70 N m (f_X7_layPairing_l23 N m k') kb T (nI j) 0))
theorem m_layB (hN : 200 < N) {j q : Nat} (hj : j < n) (hq : q ≤ 12)
    (ihA : ∀ (k : Nat) (S : Hp) (s : Nat) (Q : Nat → Nat × Nat), TT q ≤ k → MC S m z pa lo up c n mk br M → PR S pa s Q → goodQ (fre c mk br) s Q → LayEnd N m pa lo up M (fre c mk br) br n (DQ M br (fre c mk br) q (j + 1) s Q) S (j + 1) k q (TT q) s Q (f_X7_layPairing_l23 N m k S (nI (j + 1)))) :
    ∀ (len : Nat) (p : Nat × Nat) (k kb : Nat) (S : Hp), (restP p.1 p.2).length ≤ len → MC S m z pa lo up c n mk br M → PR S pa (s + 1) (updQ Q s p) → goodQ (fre c mk br) (s + 1) (updQ Q s p) → hI S lo j = nI p.1 → hI S up j = nI p.2 → (restP p.1 p.2).length * TT q ≤ k → N ≤ kb + q →
      LayEnd N m pa lo up M (fre c mk br) br n (tryL (looQ M (fre c mk br) j s Q) (fun p => DQ M br (fre c mk br) q (j + 1) (s + 1) (updQ Q s p)) (restP p.1 p.2)) S j k (q + 1) ((restP p.1 p.2).length * TT q) s Q (f_X7_layPairing_l70 N m (f_X7_layPairing_l23 N m k) kb S (nI (j + 1)) 0) := by
  intro len
  induction len with
  | zero =>
    intro p k kb S hlen h0 hp hg hl hu hk hkb
    have hn12 := h0.1.2.2.2.1
    have gs := hg s (by omega)
    rw [upd_at] at gs
    obtain ⟨kb, rfl⟩ : ∃ x, kb = x + 1 := ⟨kb - 1, by omega⟩
    have e0 : restP p.1 p.2 = [] := List.length_eq_zero_iff.mp (by omega)
    rw [m_backAt h0 (by omega) (by omega) (show p.1 < 10 by omega) hl]
    rcases m_pn1 h0 hN hp hg hj hl hu with ⟨w1, T, t1, t2, t3, t4, t5⟩ | ⟨p', w1, -⟩
    · rw [t1, cl_s]
      refine ⟨T, t2, t3, Or.inr ⟨?_, t5, k, kb, by omega, by omega, rfl⟩⟩
      rw [tryL_nxt, w1]
    · rw [e0] at w1; cases w1
  | succ len ih =>
    intro p k kb S hlen h0 hp hg hl hu hk hkb
    have hn12 := h0.1.2.2.2.1
    have gs := hg s (by omega)
    rw [upd_at] at gs
    obtain ⟨kb, rfl⟩ : ∃ x, kb = x + 1 := ⟨kb - 1, by omega⟩
    rw [m_backAt h0 (by omega) (by omega) (show p.1 < 10 by omega) hl]
    rcases m_pn1 h0 hN hp hg hj hl hu with ⟨w1, T, t1, t2, t3, t4, t5⟩ | ⟨p', w1, w2, w3, w4, T, t1, t2, t3, t4, t5, t6⟩
    · rw [t1, cl_s]
      refine ⟨T, t2, t3, Or.inr ⟨?_, t5, k, kb, by omega, by omega, rfl⟩⟩
      rw [tryL_nxt, w1]
    · rw [t1, cl_s]
      obtain ⟨kb, rfl⟩ : ∃ x, kb = x + 1 := ⟨kb - 1, by omega⟩
      rw [m_on]
      have ll := nxt_len w1
      have lt : (restP p'.1 p'.2).length * TT q + TT q ≤ (restP p.1 p.2).length * TT q := by
        rw [← Nat.succ_mul]
        exact Nat.mul_le_mul_right _ ll
      have hcT := h0.fr t2
      obtain ⟨U, u1, u2, u3⟩ := ihA k T (s + 1) (updQ Q s p') (by omega) hcT t6 w4
      rcases u3 with ⟨s', Q', r1, r2, r3, r4⟩ | ⟨r1, r2, k', kb', r3, r4, r5⟩
      · refine ⟨U, t2.tr u1, t3.tr (u2.le (by omega)), Or.inl ⟨s', Q', ?_, r2, r3, r4⟩⟩
        rw [tryL_nxt, w1]
        simp [r1]
      · rw [r5]
        have kj := u2 j (by omega)
        obtain ⟨V, v1, v2, v3⟩ := ih p' k' kb' U (by omega) (hcT.fr u1) r2 w4 (by rw [kj.1]; exact t4) (by rw [kj.2]; exact t5) (by omega) r4
        have et : tryL (looQ M (fre c mk br) j s Q) (fun p => DQ M br (fre c mk br) q (j + 1) (s + 1) (updQ Q s p)) (restP p.1 p.2) = tryL (looQ M (fre c mk br) j s Q) (fun p => DQ M br (fre c mk br) q (j + 1) (s + 1) (updQ Q s p)) (restP p'.1 p'.2) := by
          rw [tryL_nxt (l := restP p.1 p.2), w1]
          simp [r1]
        refine ⟨V, (t2.tr u1).tr v1, (t3.tr (u2.le (by omega))).tr v2, ?_⟩
        rw [et]
        rcases v3 with x | ⟨x1, x2, k2, kb2, x3, x4, x5⟩
        · exact Or.inl x
        · exact Or.inr ⟨x1, x2, k2, kb2, by omega, x4, x5⟩
theorem m_layA (hN : 200 < N) : ∀ (q j : Nat), j + q = n → ∀ (k : Nat) (S : Hp) (s : Nat) (Q : Nat → Nat × Nat), TT q ≤ k → MC S m z pa lo up c n mk br M → PR S pa s Q → goodQ (fre c mk br) s Q → LayEnd N m pa lo up M (fre c mk br) br n (DQ M br (fre c mk br) q j s Q) S j k q (TT q) s Q (f_X7_layPairing_l23 N m k S (nI j)) := by
  intro q
  induction q with
  | zero =>
    intro j hj k S s Q hk h0 hp hg
    obtain ⟨k, rfl⟩ : ∃ x, k = x + 1 := ⟨k - 1, by unfold TT at hk; omega⟩
    obtain rfl : j = n := by omega
    obtain ⟨⟨⟨hm, hz, hk, hn⟩, ⟨z0, h2, h3, h4, hM⟩, -⟩, -⟩ := h0
    refine ⟨S, Fr.rf, Kp.rf, Or.inl ⟨s, Q, rfl, ?_, hp, hg⟩⟩
    simp only [f_X7_layPairing_l23, f_X7_layPairing_b23, gd_pos hm, hz, nn_s, gd_pos hk, gd_pos (zin hn (i := (2 : Int32)) (k := 2) rfl (by decide)), tn2, h2]
    rw [if_pos (Int32.le_refl _)]
  | succ q ih =>
    intro j hj k S s Q hk h0 hp hg
    have hjn : j < n := by omega
    have hn12 := h0.1.2.2.2.1
    have tp := TT_pos q
    unfold TT at hk
    obtain ⟨k, rfl⟩ : ∃ x, k = x + 1 := ⟨k - 1, by omega⟩
    have ihA := ih (j + 1) (by omega)
    -- the line's place is emptied
    have d1 := h0.2.2.2.2
    have f : Fr [pa, lo, up] S (sI S lo j (-1)) := Fr.rf.sI (by simp)
    have hc1 := h0.fr f
    have hp1 : PR (sI S lo j (-1)) pa s Q := fun i hi => by rw [hI_a d1.1]; exact hp i hi
    have kp1 : Kp lo up j S (sI S lo j (-1)) := fun l hl => ⟨by rw [hI_k (by omega)], by rw [hI_a d1.2.2.1.symm]⟩
    have e1 := m_isDead (N := N) hc1.1 hjn
    have e2 := m_hasPair (N := N) hc1 (by omega) hp1 hg hjn
    have un : f_X7_layPairing_l23 N m (k + 1) S (nI j) = (if isAl M br j = true then (if inQ (M j) s Q = true then f_X7_layPairing_l70 N m (f_X7_layPairing_l23 N m k) N (sI S lo j (-1)) (nI j) 1 else cl (f_X7_pairNext N (sI S lo j (-1)) m (nI j)) fun r29 S29 => if r29 = 0 then f_X7_layPairing_l70 N m (f_X7_layPairing_l23 N m k) N S29 (nI j) 0 else f_X7_layPairing_l70 N m (f_X7_layPairing_l23 N m k) N S29 (nI j) 1) else f_X7_layPairing_l70 N m (f_X7_layPairing_l23 N m k) N (sI S lo j (-1)) (nI j) 1) := by
      obtain ⟨⟨⟨hm, hz, hk, hn⟩, ⟨z0, h2, h3, h4, hM⟩, -⟩, -, ⟨l1, l2, l3⟩, -⟩ := h0
      have hm' : ok (sI S lo j (-1)) m 7 := hm
      simp only [f_X7_layPairing_l23, f_X7_layPairing_b23, gd_pos hm, hz, nn_s, gd_pos hk, gd_pos (zin hn (i := (2 : Int32)) (k := 2) rfl (by decide)), tn2, h2]
      rw [if_neg (nle_i hjn (by omega)), l1, nn_s, gd_pos l2, gd_pos (inN l3 (show j < 12 by omega) (by decide)), nI_clamp (by omega), e1, cl_s]
      by_cases a1 : isAl M br j = true
      · rw [if_pos a1, if_pos a1, if_pos rfl, gd_pos hm', e2, cl_s]
        by_cases a2 : inQ (M j) s Q = true
        · rw [if_pos a2, if_pos a2, if_neg (by decide)]
        · rw [if_neg a2, if_neg a2, if_pos rfl, gd_pos hm']
      · rw [if_neg a1, if_neg a1, if_neg (by decide)]
    rw [un]
    obtain ⟨N', rfl⟩ : ∃ x, N = x + 1 := ⟨N - 1, by omega⟩
    -- no pair is wanted
    have skip : needQ M br j s Q = false → LayEnd (N' + 1) m pa lo up M (fre c mk br) br n (DQ M br (fre c mk br) (q + 1) j s Q) S j (k + 1) (q + 1) (TT (q + 1)) s Q (f_X7_layPairing_l70 (N' + 1) m (f_X7_layPairing_l23 (N' + 1) m k) (N' + 1) (sI S lo j (-1)) (nI j) 1) := by
      intro nd
      rw [m_on]
      obtain ⟨T, t1, t2, t3⟩ := ihA k (sI S lo j (-1)) s Q (by omega) hc1 hp1 hg
      refine ⟨T, f.tr t1, kp1.tr (t2.le (by omega)), ?_⟩
      rw [DQ, if_neg (by rw [nd]; decide)]
      rcases t3 with x | ⟨x1, x2, k', kb, x3, x4, x5⟩
      · exact Or.inl x
      · refine Or.inr ⟨x1, x2, k', kb, by unfold TT; omega, by omega, ?_⟩
        obtain ⟨kb, rfl⟩ : ∃ x, kb = x + 1 := ⟨kb - 1, by omega⟩
        rw [x5, m_back (hc1.fr t1) (by omega) (by omega) (by rw [(t2 j (by omega)).1, hI_same])]
    by_cases a1 : isAl M br j = true
    · rw [if_pos a1]
      by_cases a2 : inQ (M j) s Q = true
      · rw [if_pos a2]
        exact skip (by unfold needQ; rw [a2]; simp)
      · rw [if_neg a2]
        have a2' : inQ (M j) s Q = false := by simpa using a2
        have nd : needQ M br j s Q = true := by unfold needQ; rw [a1, a2']; rfl
        rcases m_pn0 hc1 hN hp1 hg hjn (hI_same _ _ _ _) with ⟨w1, T, t1, t2, t3, t4, t5⟩ | ⟨p, w1, w2, w3, w4, T, t1, t2, t3, t4, t5, t6⟩
        · rw [t1, cl_s, if_pos rfl]
          refine ⟨T, f.tr t2, kp1.tr t3, Or.inr ⟨?_, t5, k, N' + 1, by unfold TT; omega, by omega, rfl⟩⟩
          rw [DQ, if_pos nd, tryL_nxt, w1]
        · rw [t1, cl_s, if_neg (by decide), m_on]
          have hcT := hc1.fr t2
          obtain ⟨U, u1, u2, u3⟩ := ihA k T (s + 1) (updQ Q s p) (by omega) hcT t6 w4
          have kj := u2 j (by omega)
          rcases u3 with ⟨s', Q', r1, r2, r3, r4⟩ | ⟨r1, r2, k', kb', r3, r4, r5⟩
          · refine ⟨U, (f.tr t2).tr u1, (kp1.tr t3).tr (u2.le (by omega)), Or.inl ⟨s', Q', ?_, r2, r3, r4⟩⟩
            rw [DQ, if_pos nd, tryL_nxt, w1]
            simp [r1]
          · rw [r5]
            have ll : (restP p.1 p.2).length < c45 := nxt_len w1
            have lt : (restP p.1 p.2).length * TT q ≤ c45 * TT q := Nat.mul_le_mul_right _ (by omega)
            obtain ⟨V, v1, v2, v3⟩ := m_layB (s := s) (Q := Q) hN hjn (by omega) ihA (restP p.1 p.2).length p k' kb' U (Nat.le_refl _) (hcT.fr u1) r2 w4 (by rw [kj.1]; exact t4) (by rw [kj.2]; exact t5) (by omega) r4
            refine ⟨V, ((f.tr t2).tr u1).tr v1, ((kp1.tr t3).tr (u2.le (by omega))).tr v2, ?_⟩
            have et : DQ M br (fre c mk br) (q + 1) j s Q = tryL (looQ M (fre c mk br) j s Q) (fun p => DQ M br (fre c mk br) q (j + 1) (s + 1) (updQ Q s p)) (restP p.1 p.2) := by
              rw [DQ, if_pos nd, tryL_nxt, w1]
              simp [r1]
            rw [et]
            rcases v3 with x | ⟨x1, x2, k2, kb2, x3, x4, x5⟩
            · exact Or.inl x
            · exact Or.inr ⟨x1, x2, k2, kb2, by unfold TT; omega, x4, x5⟩
    · rw [if_neg a1]
      exact skip (by unfold needQ; simp [a1])
theorem m_lay_l2 (hm : ok S m 7) (h8 : hR S m 8 = some pa) (ha : ok S pa 8) (hn : hN S pa = 10) : ∀ d k i T, Fr [pa, lo, up] S T → (∀ l, l < i → hI T pa l = -1) → i + d = 10 → d < k → ∃ U, f_X7_layPairing_l2 N m k T (nI i) = f_X7_layPairing_l23 N m N U 0 ∧ Fr [pa, lo, up] S U ∧ ∀ l, l < 10 → hI U pa l = -1 := by
  intro d
  induction d with
  | zero =>
    intro k i T f hi e hk
    obtain ⟨k, rfl⟩ : ∃ x, k = x + 1 := ⟨k - 1, by omega⟩
    obtain rfl : i = 10 := by omega
    refine ⟨T, ?_, f, hi⟩
    unfold f_X7_layPairing_l2 f_X7_layPairing_b2
    rw [if_pos (show (10 : Int32) ≤ nI 10 by decide)]
  | succ d ih =>
    intro k i T f hi e hk
    obtain ⟨k, rfl⟩ : ∃ x, k = x + 1 := ⟨k - 1, by omega⟩
    unfold f_X7_layPairing_l2 f_X7_layPairing_b2
    have hn' : hN T pa = 10 := by rw [f.N]; exact hn
    rw [if_neg (nle10 (by omega)), gd_pos (f.ok hm), f.R, h8, nn_s, gd_pos (f.ok ha), gd_pos (inN hn' (show i < 10 by omega) (by decide)), nI_clamp (by omega), nI_p1]
    refine ih k (i + 1) _ (f.sI (by simp)) (fun l hl => ?_) (by omega) (by omega)
    by_cases x : l = i
    · rw [x, hI_same]
    · rw [hI_k x]; exact hi l (by omega)
/-- the model's pairing is the search's -/
theorem m_layPairing (h0 : MC S m z pa lo up c n mk br M) (hN : 200 < N) (hT : TT 12 ≤ N) (hmono : TT n ≤ N) : ∃ T, Fr [pa, lo, up] S T ∧ ((∃ s Q, DQ M br (fre c mk br) n 0 0 (fun _ => (0, 0)) = some (s, Q) ∧ f_X7_layPairing N S m = some (1, T) ∧ PR T pa s Q ∧ goodQ (fre c mk br) s Q) ∨ (DQ M br (fre c mk br) n 0 0 (fun _ => (0, 0)) = none ∧ f_X7_layPairing N S m = some (0, T))) := by
  obtain ⟨U, u1, u2, u3⟩ := m_lay_l2 (N := N) (lo := lo) (up := up) h0.1.1.1 h0.2.1.1 h0.2.1.2.1 h0.2.1.2.2 10 N 0 S Fr.rf (fun l hl => absurd hl (Nat.not_lt_zero l)) (by omega) (by omega)
  have hc := h0.fr u2
  obtain ⟨T, t1, t2, t3⟩ := m_layA hN n 0 (by omega) N U 0 (fun _ => (0, 0)) hmono hc (fun i hi => u3 i hi) (fun i hi => absurd hi (Nat.not_lt_zero i))
  refine ⟨T, u2.tr t1, ?_⟩
  have e : f_X7_layPairing N S m = f_X7_layPairing_l23 N m N U (nI 0) := u1
  rw [e]
  rcases t3 with ⟨s, Q, r1, r2, r3, r4⟩ | ⟨r1, r2, k', kb, r3, r4, r5⟩
  · exact Or.inl ⟨s, Q, r1, r2, r3, r4⟩
  · refine Or.inr ⟨r1, ?_⟩
    have hn12 := h0.1.2.2.2.1
    obtain ⟨kb, rfl⟩ : ∃ x, kb = x + 1 := ⟨kb - 1, by omega⟩
    have hcT := hc.fr t1
    rw [r5]
    show f_X7_layPairing_b70 N m _ _ T (nI 0) 0 = _
    unfold f_X7_layPairing_b70
    rw [if_pos rfl, gd_pos hcT.1.1.1, m_ta hcT (by omega) (show 0 ≤ 12 by omega), cl_s, taI, if_neg (by decide)]
end
