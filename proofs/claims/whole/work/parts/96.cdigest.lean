section
variable {S T : Hp} {x : Nat} {d : Nat → Nat} {q : Nat → Option (Nat × Nat × Nat)} {A : Ab} {nb : Nat} {N : Nat}
theorem CX.tx (h : CX S x d q A nb) : (ok S (d 9) 5 ∧ hR S (d 9) 0 = some (d 10) ∧ ok S (d 10) 8 ∧ hN S (d 10) = 60) ∧ TxO S d A := ⟨h.1.2.2.2.2, h.2.2.2.2.1⟩
theorem c_hash_l (h : CX S x d q A nb) (hw : WfA A) {y : Int64} : ∀ D k i, i + D = aL A → D < k → f_X5_hashOnto_l15 N (d 9) y k S (hs6 A i) (nI i) = some (dgA A, S) := by
  obtain ⟨⟨a1, a2, a3, a4⟩, b1, b2⟩ := h.tx
  have h60 := hw.2.2.2.1
  intro D
  induction D with
  | zero =>
    intro k i hi hk
    obtain ⟨k, rfl⟩ : ∃ u, k = u + 1 := ⟨k - 1, by omega⟩
    obtain rfl : i = aL A := by omega
    unfold f_X5_hashOnto_l15 f_X5_hashOnto_b15
    rw [gd_pos a1, b1, if_pos (Int32.le_refl _)]
    rfl
  | succ D ih =>
    intro k i hi hk
    obtain ⟨k, rfl⟩ : ∃ u, k = u + 1 := ⟨k - 1, by omega⟩
    have il : i < aL A := by omega
    have r := ih k (i + 1) (by omega) (by omega)
    unfold f_X5_hashOnto_l15 f_X5_hashOnto_b15
    rw [gd_pos a1, b1, if_neg (nle_i il (by omega)), a2, nn_s, gd_pos a3, if_neg (by rw [a4]; exact nle_i (by omega) (by decide)), gd_pos (inN a4 (show i < 60 by omega) (by decide)), bd_d, nI_clamp (by omega), b2 i il, nI_p1]
    exact r
theorem c_hash (h : CX S x d q A nb) (hw : WfA A) (hN0 : 60 < N) : f_X5_hashOnto N S (d 9) (hs5 A 7) = some (dgA A, S) := by
  obtain ⟨⟨a1, a2, a3, a4⟩, b1, b2⟩ := h.tx
  have h60 := hw.2.2.2.1
  unfold f_X5_hashOnto
  rw [gd_pos a1, bd_d, b1]
  exact c_hash_l h hw (aL A) N 0 (by omega) (by omega)
def XE (x : Nat) (d : Nat → Nat) (q : Nat → Option (Nat × Nat × Nat)) (A : Ab) (M : Nat) (S : Hp) (run : Option (Int64 × Hp)) : Prop := ∃ T, run = some (dgA A, T) ∧ CN S x d q A M T
theorem XE.af {M n : Nat} {run : Option (Int64 × Hp)} (h : CN S x d q A n T) (k : XE x d q A M T run) : XE x d q A M S run := by
  obtain ⟨U, u1, u2⟩ := k
  exact ⟨U, u1, h.tr u2⟩
theorem x_dg147e (h : CX S x d q A nb) (hd : CD x d q) (hw : WfA A) (hN0 : 60 < N) {M : Nat} (hM : M < 2 ^ 27) (hb : nb + 42 ≤ M) {k : Nat} : XE x d q A M S (f_X6_digest_l147 N x (k + 1) S (hs4 A 4) (nI 4)) := by
  obtain ⟨T1, a1, a2⟩ := x_solved (N := N) h hd hw (by omega) (by omega) (w := 0) (by decide)
  obtain ⟨T2, b1, b2⟩ := x_solved (N := N) a2.2.2 hd hw (by omega) (by omega) (w := 1) (by decide)
  obtain ⟨T3, c1, c2⟩ := x_ifPlayed (N := N) b2.2.2 hd hw (by omega) (by omega) (r1 := 1) (r2 := 1) (by decide) (by decide)
  obtain ⟨T4, d1, d2⟩ := x_ifPlayed (N := N) c2.2.2 hd hw (by omega) (by omega) (r1 := 1) (r2 := 2) (by decide) (by decide)
  obtain ⟨T5, e1, e2⟩ := x_ifPlayed (N := N) d2.2.2 hd hw (by omega) (by omega) (r1 := 2) (r2 := 3) (by decide) (by decide)
  obtain ⟨T6, f1, f2⟩ := x_ifPlayed (N := N) e2.2.2 hd hw (by omega) (by omega) (r1 := 3) (r2 := 1) (by decide) (by decide)
  obtain ⟨T7, g1, g2⟩ := x_weight (N := N) f2.2.2 hd hw (by omega)
  have cf := f2.2.2
  have cg := g2.2.2
  have hh := c_hash (N := N) cg hw hN0
  have r0 : (0 : Int32) = nI 0 := rfl
  have r1 : (1 : Int32) = nI 1 := rfl
  have r2 : (2 : Int32) = nI 2 := rfl
  have r3 : (3 : Int32) = nI 3 := rfl
  unfold f_X6_digest_l147 f_X6_digest_b147
  rw [if_pos (show (3 : Int32) < nI 4 by decide), gd_pos h.1.1.1, r0, a1, cl_s, bd_d, gd_pos a2.2.2.1.1.1, r1, b1, cl_s, bd_d, gd_pos b2.2.2.1.1.1, c1, cl_s, bd_d, gd_pos c2.2.2.1.1.1, r2, d1, cl_s, bd_d, gd_pos d2.2.2.1.1.1, r3, e1, cl_s, bd_d, gd_pos e2.2.2.1.1.1, f1, cl_s, bd_d, gd_pos cf.1.1.1, cf.1.1.2.1, nn_s, gd_pos cf.2.1.1.1, g1, cl_s, c_share (by omega), cl_s, bd_d, gd_pos cg.1.1.1, cg.1.1.2.2.2.2.2.1, nn_s, gd_pos cg.tx.1.1]
  have e5 : hs5 A 7 = 31 * (31 * (31 * (31 * (31 * (31 * (31 * hs4 A 4 + (nI (svB (aN A) 0)).toInt64) + (nI (svB (aN A) 1)).toInt64) + (nI (plB (aN A) 1 1)).toInt64) + (nI (plB (aN A) 1 2)).toInt64) + (nI (plB (aN A) 2 3)).toInt64) + (nI (plB (aN A) 3 1)).toInt64) + shB (bws (aN A)) := rfl
  rw [← e5, hh, cl_s]
  exact ⟨T7, rfl, ((((((a2.tr b2).tr c2).tr d2).tr e2).tr f2).tr g2).mono (by omega)⟩
theorem x_dg147 (hd : CD x d q) (hw : WfA A) (hN0 : 60 < N) {M : Nat} (hM : M < 2 ^ 27) : ∀ D k r S nb, CX S x d q A nb → r + D = 4 → D < k → nb + D + 42 ≤ M → XE x d q A M S (f_X6_digest_l147 N x k S (hs4 A r) (nI r)) := by
  intro D
  induction D with
  | zero =>
    intro k r S nb h hr hk hb
    obtain ⟨k, rfl⟩ : ∃ u, k = u + 1 := ⟨k - 1, by omega⟩
    obtain rfl : r = 4 := by omega
    exact x_dg147e h hd hw hN0 hM (by omega)
  | succ D ih =>
    intro k r S nb h hr hk hb
    obtain ⟨k, rfl⟩ : ∃ u, k = u + 1 := ⟨k - 1, by omega⟩
    obtain ⟨T, t1, t2⟩ := x_reply (N := N) h hd hw (by omega) (by omega) (r := r) (by omega)
    unfold f_X6_digest_l147 f_X6_digest_b147
    rw [if_neg (fun u => absurd ((c_lt 3 (n := 3) rfl (by omega) (by decide)).mp u) (by omega)), gd_pos h.1.1.1, t1, cl_s, bd_d, nI_p1]
    exact XE.af t2 (ih k (r + 1) T (nb + 1) t2.2.2 (by omega) (by omega) (by omega))
theorem x_dg99 (hd : CD x d q) (hw : WfA A) (hN0 : 60 < N) {M : Nat} (hM : M < 2 ^ 27) {K : Hp → Int64 → Int32 → Option (Int64 × Hp)} {i B0 : Nat} (hi : i < bc (aN A)) (hb : B0 + 1 ≤ M) (hK : ∀ T, CX T x d q A (B0 + 1) → XE x d q A M T (K T (hs3 A (i + 1)) (nI (i + 1)))) : ∀ D k w S, CX S x d q A B0 → w + D = 4 → D < k → XE x d q A M S (f_X6_digest_l99 N x K k S (foN (fun w => (lkC (aN A) i w).toInt64) w (hs3 A i)) (nI i) (nI w)) := by
  intro D
  induction D with
  | zero =>
    intro k w S h hr hk
    obtain ⟨k, rfl⟩ : ∃ u, k = u + 1 := ⟨k - 1, by omega⟩
    obtain rfl : w = 4 := by omega
    obtain ⟨T, t1, t2⟩ := x_ifMoved (N := N) h hd hw (by omega) (by omega) hi
    unfold f_X6_digest_l99 f_X6_digest_b99
    rw [if_pos (show (4 : Int32) ≤ nI 4 by decide), gd_pos h.1.1.1, t1, cl_s, bd_d, nI_p1]
    exact XE.af t2 (hK T t2.2.2)
  | succ D ih =>
    intro k w S h hr hk
    obtain ⟨k, rfl⟩ : ∃ u, k = u + 1 := ⟨k - 1, by omega⟩
    obtain ⟨T, t1, t2⟩ := x_cell (N := N) h hd hw (by omega) hi (w := w) (by omega)
    unfold f_X6_digest_l99 f_X6_digest_b99
    rw [if_neg (nle_c 4 (n := 4) rfl (by omega) (by decide)), gd_pos h.1.1.1, t1, cl_s, bd_d, nI_p1]
    exact XE.af t2 (ih k (w + 1) T t2.2.2 (by omega) (by omega))
theorem x_dg85 (hd : CD x d q) (hw : WfA A) (hN0 : 60 < N) {M : Nat} (hM : M < 2 ^ 27) : ∀ D k i S nb, CX S x d q A nb → i + D = bc (aN A) → D < k → nb + D + 46 ≤ M → XE x d q A M S (f_X6_digest_l85 N x k S (hs3 A i) (nI i)) := by
  have hc := hw.1.c10
  intro D
  induction D with
  | zero =>
    intro k i S nb h hr hk hb
    obtain ⟨k, rfl⟩ : ∃ u, k = u + 1 := ⟨k - 1, by omega⟩
    obtain rfl : i = bc (aN A) := by omega
    unfold f_X6_digest_l85 f_X6_digest_b85
    rw [gd_pos h.1.1.1, h.1.1.2.1, nn_s, gd_pos h.2.1.1.1, h.2.1.2.2.1, if_pos (Int32.le_refl _)]
    exact x_dg147 hd hw hN0 hM 4 N 0 S nb h rfl (by omega) (by omega)
  | succ D ih =>
    intro k i S nb h hr hk hb
    obtain ⟨k, rfl⟩ : ∃ u, k = u + 1 := ⟨k - 1, by omega⟩
    unfold f_X6_digest_l85 f_X6_digest_b85
    rw [gd_pos h.1.1.1, h.1.1.2.1, nn_s, gd_pos h.2.1.1.1, h.2.1.2.2.1, if_neg (nle_i (by omega) (by omega))]
    exact x_dg99 hd hw hN0 hM (by omega) (by omega) (fun T hT => ih k (i + 1) T (nb + 1) hT (by omega) (by omega) (by omega)) 4 N 0 S h rfl (by omega)
theorem x_dg50 (hw : WfA A) (hd : CD x d q) {K : Hp → Int64 → Int32 → Option (Int64 × Hp)} {j : Nat} (hj : j < bn (aN A)) (h : CX S x d q A nb) : ∀ D k w, w + D = 5 → D < k → f_X6_digest_l50 N x K k S (hs2 A (5 * j + w)) (nI j) (nI w) = K S (hs2 A (5 * (j + 1))) (nI (j + 1)) := by
  intro D
  induction D with
  | zero =>
    intro k w hr hk
    obtain ⟨k, rfl⟩ : ∃ u, k = u + 1 := ⟨k - 1, by omega⟩
    obtain rfl : w = 5 := by omega
    unfold f_X6_digest_l50 f_X6_digest_b50
    rw [if_pos (show (5 : Int32) ≤ nI 5 by decide), nI_p1, show 5 * (j + 1) = 5 * j + 5 by omega]
  | succ D ih =>
    intro k w hr hk
    obtain ⟨k, rfl⟩ : ∃ u, k = u + 1 := ⟨k - 1, by omega⟩
    have r := ih k (w + 1) (by omega) (by omega)
    unfold f_X6_digest_l50 f_X6_digest_b50
    rw [if_neg (nle_c 5 (n := 5) rfl (by omega) (by decide)), gd_pos h.1.1.1, x_line h hd hw hj (by omega), cl_s, bd_d, nI_p1, ← r]
    have e : hs2 A (5 * j + (w + 1)) = 31 * hs2 A (5 * j + w) + (lkL (aN A) j w).toInt64 := by
      have e0 : hs2 A (5 * j + w + 1) = 31 * hs2 A (5 * j + w) + (lkL (aN A) ((5 * j + w) / 5) ((5 * j + w) % 5)).toInt64 := rfl
      rw [show (5 * j + w) / 5 = j by omega, show (5 * j + w) % 5 = w by omega] at e0
      exact e0
    rw [e]
theorem x_dg33 (hd : CD x d q) (hw : WfA A) (hN0 : 60 < N) {M : Nat} (hM : M < 2 ^ 27) (h : CX S x d q A nb) (hb : nb + 56 ≤ M) : ∀ D k j, j + D = bn (aN A) → D < k → XE x d q A M S (f_X6_digest_l33 N x k S (hs2 A (5 * j)) (nI j)) := by
  have hc := hw.1.c10
  have hn := hw.1.1.2.2.1
  intro D
  induction D with
  | zero =>
    intro k j hr hk
    obtain ⟨k, rfl⟩ : ∃ u, k = u + 1 := ⟨k - 1, by omega⟩
    obtain rfl : j = bn (aN A) := by omega
    unfold f_X6_digest_l33 f_X6_digest_b33
    rw [gd_pos h.1.1.1, h.1.1.2.1, nn_s, gd_pos h.2.1.1.1, h.2.1.1.2, nn_s, gd_pos h.2.1.2.1.1.1, h.2.1.2.1.2.1.1, if_pos (Int32.le_refl _)]
    exact x_dg85 hd hw hN0 hM (bc (aN A)) N 0 S nb h (by omega) (by omega) (by omega)
  | succ D ih =>
    intro k j hr hk
    obtain ⟨k, rfl⟩ : ∃ u, k = u + 1 := ⟨k - 1, by omega⟩
    unfold f_X6_digest_l33 f_X6_digest_b33
    rw [gd_pos h.1.1.1, h.1.1.2.1, nn_s, gd_pos h.2.1.1.1, h.2.1.1.2, nn_s, gd_pos h.2.1.2.1.1.1, h.2.1.2.1.2.1.1, if_neg (nle_i (by omega) (by omega)), show hs2 A (5 * j) = hs2 A (5 * j + 0) from rfl, show (0 : Int32) = nI 0 from rfl, x_dg50 hw hd (by omega) h 5 N 0 rfl (by omega)]
    exact ih k (j + 1) (by omega) (by omega)
theorem x_dg6 (hd : CD x d q) (hw : WfA A) (hN0 : 60 < N) {M : Nat} (hM : M < 2 ^ 27) (hb : nb + 56 ≤ M) : ∀ D k w S, CX S x d q A nb → w + D = 16 → D < k → XE x d q A M S (f_X6_digest_l6 N x k S (foN (fun w => (ctA A w).toInt64) w 2503) (nI w)) := by
  have hn := hw.1.1.2.2.1
  intro D
  induction D with
  | zero =>
    intro k w S h hr hk
    obtain ⟨k, rfl⟩ : ∃ u, k = u + 1 := ⟨k - 1, by omega⟩
    obtain rfl : w = 16 := by omega
    unfold f_X6_digest_l6 f_X6_digest_b6
    rw [if_pos (show (16 : Int32) ≤ nI 16 by decide)]
    exact x_dg33 hd hw hN0 hM h hb (bn (aN A)) N 0 (by omega) (by omega)
  | succ D ih =>
    intro k w S h hr hk
    obtain ⟨k, rfl⟩ : ∃ u, k = u + 1 := ⟨k - 1, by omega⟩
    obtain ⟨T, t1, t2⟩ := x_count (N := N) h hd hw (by omega) w (by omega)
    unfold f_X6_digest_l6 f_X6_digest_b6
    rw [if_neg (nle_c 16 (n := 16) rfl (by omega) (by decide)), gd_pos h.1.1.1, t1, cl_s, bd_d, nI_p1]
    exact XE.af t2 (ih k (w + 1) T t2.2.2 (by omega) (by omega))
theorem x_digest (h : CX S x d q A nb) (hd : CD x d q) (hw : WfA A) (hN0 : 60 < N) (hb : nb + 56 < 2 ^ 27) : ∃ T, f_X6_digest N S x = some (dgA A, T) ∧ CN S x d q A (nb + 56) T :=
  x_dg6 hd hw hN0 hb (Nat.le_refl _) 16 N 0 S h rfl (by omega)
end
