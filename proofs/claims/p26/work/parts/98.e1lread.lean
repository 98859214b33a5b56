/-! the law's own reads: its numbers zz (11 of them), its lines li (3) -/
def LB (S : Hp) (zz li c n mk br : Nat) (M : Nat → Nat) : Prop := (ok S zz 8 ∧ hN S zz = 11 ∧ ok S li 8 ∧ hN S li = 3) ∧ (hI S zz 0 = nI c ∧ hI S zz 2 = nI n ∧ hI S zz 3 = nI mk ∧ hI S zz 4 = nI br ∧ ∀ j, j < n → hI S li j = nI (M j)) ∧ c ≤ 5 ∧ n ≤ 3 ∧ mk < 1024 ∧ br < 1024 ∧ ∀ j, j < n → M j < 1024
theorem zq {S : Hp} {z : Nat} (h : hN S z = 11) {i : Int32} {k : Nat} (e : i = nI k) (hk : k < 11) : inb i (hN S z) := by
  rw [h, e]
  unfold inb
  rw [nI_toInt (by omega)]
  omega
theorem lq {S : Hp} {a : Nat} (h : hN S a = 3) {j : Nat} (hj : j < 3) : inb (nI j) (hN S a) := by
  rw [h]
  unfold inb
  rw [nI_toInt (by omega)]
  omega
theorem tn10 : (10 : Int32).toNatClampNeg = 10 := rfl
theorem tn8 : (8 : Int32).toNatClampNeg = 8 := rfl
theorem tn9 : (9 : Int32).toNatClampNeg = 9 := rfl
theorem pop_step : ∀ a, a < 1024 → a ≠ 0 → pop (a &&& (a - 1)) + 1 = pop a := by decide +kernel
theorem l_ones_l {N : Nat} {S : Hp} {x0 : Int32} : ∀ k b v, b < 1024 → pop b < k → f_L_ones_l4 N x0 k S (nI v) (nI b) = some (nI (v + pop b), S) := by
  intro k
  induction k with
  | zero => intro b v hb h; exact absurd h (Nat.not_lt_zero _)
  | succ k ih =>
    intro b v hb h
    unfold f_L_ones_l4 f_L_ones_b4
    by_cases g : b = 0
    · subst g
      rw [if_pos (show nI 0 = 0 from rfl), (pop_0 (by decide)).mpr rfl, Nat.add_zero]
    · have e : nI b &&& (nI b - (1 : Int32)) = nI (b &&& (b - 1)) := by
        rw [show (1 : Int32) = nI 1 from rfl, nI_minus (by omega), nI_and]
      have p := pop_step b hb g
      rw [if_neg (fun q => g ((nI_eq0 (by omega)).mp q)), bd_d, e, nI_p1, ih (b &&& (b - 1)) (v + 1) (and_lt hb) (by omega), show v + 1 + pop (b &&& (b - 1)) = v + pop b by omega]
theorem l_ones {N a : Nat} {S : Hp} (hN : 10 < N) (ha : a < 1024) : f_L_ones N S (nI a) = some (nI (pop a), S) := by
  have q := l_ones_l (N := N) (S := S) (x0 := nI a) N a 0 ha (by have := pop_le a; omega)
  rw [Nat.zero_add] at q
  exact q
theorem l_at {N : Nat} {S : Hp} (x : Int32) {n : Nat} (h0 : 0 < n) (hn : n < 2 ^ 31) : ∃ r, r < n ∧ f_L_at N S x (nI n) = some (nI r, S) := by
  obtain ⟨m, hm, e⟩ : ∃ m, m < 2 ^ 31 ∧ (x.toUInt32 >>> ((1 : Int32).toUInt32 &&& Int32.toUInt32 31)).toInt32 = nI m := by
    have q := pk_ushr x (1 : Int32) 1 (by decide)
    have l := x.toBitVec.isLt
    refine ⟨x.toBitVec.toNat / 2, by omega, ?_⟩
    apply Int32.toBitVec_inj.mp
    apply BitVec.eq_of_toNat_eq
    rw [q]
    show _ = (BitVec.ofNat 32 (x.toBitVec.toNat / 2)).toNat
    rw [BitVec.toNat_ofNat, Nat.mod_eq_of_lt (by omega)]
  refine ⟨m % n, Nat.mod_lt _ h0, ?_⟩
  unfold f_L_at
  rw [gd_pos (nI_ne0 h0 hn), e, pk_rem hm h0 hn]
theorem has_one {p : Prop} [Decidable p] : (nI (if p then 1 else 0) = (1 : Int32)) ↔ p := by
  by_cases h : p
  · rw [if_pos h]; exact ⟨fun _ => h, fun _ => rfl⟩
  · rw [if_neg h]; exact ⟨fun q => absurd q (by decide), fun q => absurd q h⟩
theorem has_zero {p : Prop} [Decidable p] : (nI (if p then 1 else 0) = (0 : Int32)) ↔ ¬ p := by
  by_cases h : p
  · rw [if_pos h]; exact ⟨fun q => absurd q (by decide), fun q => absurd h q⟩
  · rw [if_neg h]; exact ⟨fun _ => h, fun _ => rfl⟩
theorem l_low_l {N a : Nat} {S : Hp} (ha : a < 1024) : ∀ d k i, i + d = 10 → d < k → (∀ q, q < i → a.testBit q = false) → f_L_low_l2 N (nI a) k S (nI i) = some (lowI a, S) := by
  intro d
  induction d with
  | zero =>
    intro k i hi hk' hno
    obtain ⟨k, rfl⟩ : ∃ q, k = q + 1 := ⟨k - 1, by omega⟩
    obtain rfl : i = 10 := by omega
    have a0 : a = 0 := by
      refine Nat.eq_of_testBit_eq (fun q => ?_)
      rw [Nat.zero_testBit]
      by_cases hq : q < 10
      · exact hno q hq
      · exact tb_hi ha (by omega)
    unfold f_L_low_l2 f_L_low_b2
    rw [if_pos (show (10 : Int32) ≤ nI 10 by decide)]
    unfold lowI
    rw [if_pos a0]
  | succ d ih =>
    intro k i hi hk' hno
    obtain ⟨k, rfl⟩ : ∃ q, k = q + 1 := ⟨k - 1, by omega⟩
    unfold f_L_low_l2 f_L_low_b2
    rw [if_neg (nle10 (by omega)), nI_has (by omega) (by omega)]
    by_cases g : a.testBit i = true
    · rw [if_pos (has_one.mpr g), lowI_at (by omega) hno g]
    · rw [if_neg (fun q => g (has_one.mp q)), nI_p1]
      refine ih k (i + 1) (by omega) (by omega) (fun q hq => ?_)
      by_cases e : q = i
      · subst e; simpa using g
      · exact hno q (by omega)
theorem l_low {N a : Nat} {S : Hp} (hN : 10 < N) (ha : a < 1024) : f_L_low N S (nI a) = some (lowI a, S) := l_low_l ha 10 N 0 rfl hN (fun q hq => absurd hq (Nat.not_lt_zero q))
section
variable {N : Nat} {S : Hp} {zz li c n mk br : Nat} {M : Nat → Nat}
theorem l_winner_l (h : LB S zz li c n mk br M) : ∀ d k j, j + d = n → d < k → anyN (fun j => decide (dif (M j) mk = 0)) j = false → f_L_winner_l4 N zz li k S (if anyN (isAl M br) j = true then 1 else 0) (nI j) = some (nI (winP M n mk br), S) := by
  obtain ⟨⟨hk, hn, hl, hm⟩, ⟨h0, h2, h3, h4, hM⟩, hc, hn3, hmk, hbr, hM1⟩ := h
  intro d
  induction d with
  | zero =>
    intro k j hj hk' hno
    obtain ⟨k, rfl⟩ : ∃ q, k = q + 1 := ⟨k - 1, by omega⟩
    obtain rfl : j = n := by omega
    simp only [f_L_winner_l4, f_L_winner_b4, gd_pos hk, gd_pos (zq hn (i := (2 : Int32)) (k := 2) rfl (by decide)), tn2, h2]
    rw [if_pos (Int32.le_refl _)]
    simp only [i01, winP, hno]
    by_cases g : anyN (isAl M br) j = true
    · simp [g]; rfl
    · simp [g]; rfl
  | succ d ih =>
    intro k j hj hk' hno
    obtain ⟨k, rfl⟩ : ∃ q, k = q + 1 := ⟨k - 1, by omega⟩
    have hjn : j < n := by omega
    have b1 := dif_lt (b := mk) (hM1 j hjn)
    have b2 := and_lt (b := br) (hM1 j hjn)
    simp only [f_L_winner_l4, f_L_winner_b4, gd_pos hk, gd_pos (zq hn (i := (2 : Int32)) (k := 2) rfl (by decide)), tn2, h2]
    rw [if_neg (fun q => absurd ((nI_le_iff (by omega) (by omega)).mp q) (by omega))]
    simp only [gd_pos hl, gd_pos (lq hm (j := j) (by omega)), gd_pos (zq hn (i := (3 : Int32)) (k := 3) rfl (by decide)), gd_pos (zq hn (i := (4 : Int32)) (k := 4) rfl (by decide)), tn3, tn4, h3, h4, nI_clamp (show j < 2 ^ 31 by omega), hM j hjn, nI_dif (hM1 j hjn), nI_and, nI_p1]
    by_cases g1 : dif (M j) mk = 0
    · rw [if_pos ((nI_eq0 (by omega)).mpr g1)]
      have q : anyN (fun j => decide (dif (M j) mk = 0)) n = true := anyN_iff.mpr ⟨j, hjn, by simp [g1]⟩
      simp [winP, q]; rfl
    · rw [if_neg (fun q => g1 ((nI_eq0 (by omega)).mp q))]
      have hno' : anyN (fun j => decide (dif (M j) mk = 0)) (j + 1) = false := by rw [anyN, hno]; simp [g1]
      have ih' := ih k (j + 1) (by omega) (by omega) hno'
      by_cases g3 : M j &&& br = 0
      · rw [if_pos ((nI_eq0 (by omega)).mpr g3)]
        rw [show anyN (isAl M br) (j + 1) = true by rw [anyN]; simp [isAl, g3]] at ih'
        simpa using ih'
      · rw [if_neg (fun q => g3 ((nI_eq0 (by omega)).mp q))]
        rw [show anyN (isAl M br) (j + 1) = anyN (isAl M br) j by rw [anyN]; simp [isAl, g3]] at ih'
        exact ih'
theorem l_winner (h : LB S zz li c n mk br M) (hN : 12 < N) : f_L_winner N S zz li = some (nI (winP M n mk br), S) := l_winner_l h n N 0 (by omega) (by have := h.2.2.2.1; omega) rfl
theorem l_free (h : LB S zz li c n mk br M) : f_L_free N S zz = some (nI (fre c mk br), S) := by
  obtain ⟨⟨hk, hn, hl, hm⟩, ⟨h0, h2, h3, h4, hM⟩, hc, hn3, hmk, hbr, hM1⟩ := h
  simp only [f_L_free, gd_pos hk, gd_pos (zq hn (i := (0 : Int32)) (k := 0) rfl (by decide)), gd_pos (zq hn (i := (3 : Int32)) (k := 3) rfl (by decide)), gd_pos (zq hn (i := (4 : Int32)) (k := 4) rfl (by decide)), tn0, tn3, tn4, h0, h3, h4, nI_all c (by omega), nI_dif (all_lt (show c ≤ 10 by omega)), nI_dif (dif_lt (all_lt (show c ≤ 10 by omega))), fre]
theorem l_weight (h : LB S zz li c n mk br M) (hN : 10 < N) {j : Nat} (hj : j < n) : f_L_weight N S zz li (nI j) = some (nI (wtP M c mk br j), S) := by
  have e1 := l_free (N := N) h
  obtain ⟨⟨hk, hn, hl, hm⟩, ⟨h0, h2, h3, h4, hM⟩, hc, hn3, hmk, hbr, hM1⟩ := h
  have b2 := and_lt (b := br) (hM1 j hj)
  have e3 := l_ones (S := S) hN (and_lt (b := fre c mk br) (hM1 j hj))
  simp only [f_L_weight, gd_pos hl, gd_pos (lq hm (j := j) (by omega)), gd_pos hk, gd_pos (zq hn (i := (4 : Int32)) (k := 4) rfl (by decide)), tn4, h4, nI_clamp (show j < 2 ^ 31 by omega), hM j hj, nI_and]
  by_cases g : M j &&& br = 0
  · rw [if_pos ((nI_eq0 (by omega)).mpr g), e1, cl_s, nI_and, e3, cl_s, i1024 (pop_le _)]
    unfold wtP
    rw [if_pos (show isAl M br j = true by simp [isAl, g])]
  · rw [if_neg (fun q => g ((nI_eq0 (by omega)).mp q))]
    unfold wtP
    rw [if_neg (show ¬ isAl M br j = true by simp [isAl, g])]
    rfl
theorem l_danger_l (h : LB S zz li c n mk br M) (hN : 12 < N) {i : Nat} (hi : i < 31) : ∀ d k j, j + d = n → d < k → f_L_danger_l5 N zz li (nI i) k S (nI (fb_sm (fun j => if (M j &&& fre c mk br).testBit i = true then wtP M c mk br j else 0) j)) (nI j) = some (nI (dgP M n c mk br i), S) := by
  have e := fun j (hj : j < n) => l_weight h (by omega : 10 < N) hj
  have e2 := l_free (N := N) h
  obtain ⟨⟨hk, hn, hl, hm⟩, ⟨h0, h2, h3, h4, hM⟩, hc, hn3, hmk, hbr, hM1⟩ := h
  intro d
  induction d with
  | zero =>
    intro k j hj hk'
    obtain ⟨k, rfl⟩ : ∃ q, k = q + 1 := ⟨k - 1, by omega⟩
    obtain rfl : j = n := by omega
    simp only [f_L_danger_l5, f_L_danger_b5, gd_pos hk, gd_pos (zq hn (i := (2 : Int32)) (k := 2) rfl (by decide)), tn2, h2]
    rw [if_pos (Int32.le_refl _)]
    rfl
  | succ d ih =>
    intro k j hj hk'
    obtain ⟨k, rfl⟩ : ∃ q, k = q + 1 := ⟨k - 1, by omega⟩
    have b1 := and_lt (b := fre c mk br) (hM1 j (by omega))
    simp only [f_L_danger_l5, f_L_danger_b5, gd_pos hk, gd_pos (zq hn (i := (2 : Int32)) (k := 2) rfl (by decide)), tn2, h2]
    rw [if_neg (fun q => absurd ((nI_le_iff (by omega) (by omega)).mp q) (by omega)), gd_pos hl, gd_pos (lq hm (j := j) (by omega)), e2, cl_s, nI_clamp (show j < 2 ^ 31 by omega), hM j (by omega), nI_and]
    have ih' := ih k (j + 1) (by omega) (by omega)
    rw [fb_sm_succ] at ih'
    by_cases g : (M j &&& fre c mk br).testBit i = true
    · rw [if_pos g] at ih'
      rw [if_neg (fun q => by rw [(nI_mbit hi).mp q] at g; cases g), e j (by omega), cl_s, nI_plus, nI_p1]
      exact ih'
    · rw [if_neg g, Nat.add_zero] at ih'
      rw [if_pos ((nI_mbit hi).mpr (by simpa using g)), nI_p1]
      exact ih'
theorem l_danger (h : LB S zz li c n mk br M) (hN : 12 < N) {i : Nat} (hi : i < 31) : f_L_danger N S zz li (nI i) = some (nI (dgP M n c mk br i), S) := l_danger_l h hN hi n N 0 (by omega) (by have := h.2.2.2.1; omega)
theorem l_threats_l (h : LB S zz li c n mk br M) (hN : 12 < N) : ∀ d k j, j + d = n → d < k → f_L_threats_l4 N zz li k S (nI (orN (fun j => if isAl M br j = true ∧ pop (M j &&& fre c mk br) = 1 then M j &&& fre c mk br else 0) j)) (nI j) = some (nI (thP M n c mk br), S) := by
  have e2 := l_free (N := N) h
  obtain ⟨⟨hk, hn, hl, hm⟩, ⟨h0, h2, h3, h4, hM⟩, hc, hn3, hmk, hbr, hM1⟩ := h
  intro d
  induction d with
  | zero =>
    intro k j hj hk'
    obtain ⟨k, rfl⟩ : ∃ q, k = q + 1 := ⟨k - 1, by omega⟩
    obtain rfl : j = n := by omega
    simp only [f_L_threats_l4, f_L_threats_b4, gd_pos hk, gd_pos (zq hn (i := (2 : Int32)) (k := 2) rfl (by decide)), tn2, h2]
    rw [if_pos (Int32.le_refl _)]
    rfl
  | succ d ih =>
    intro k j hj hk'
    obtain ⟨k, rfl⟩ : ∃ q, k = q + 1 := ⟨k - 1, by omega⟩
    have b1 := and_lt (b := fre c mk br) (hM1 j (by omega))
    have b2 := pop_le (M j &&& fre c mk br)
    have b3 := and_lt (b := br) (hM1 j (by omega))
    simp only [f_L_threats_l4, f_L_threats_b4, gd_pos hk, gd_pos (zq hn (i := (2 : Int32)) (k := 2) rfl (by decide)), tn2, h2]
    rw [if_neg (fun q => absurd ((nI_le_iff (by omega) (by omega)).mp q) (by omega)), gd_pos hl, gd_pos (lq hm (j := j) (by omega)), gd_pos (zq hn (i := (4 : Int32)) (k := 4) rfl (by decide)), tn4, h4, nI_clamp (show j < 2 ^ 31 by omega), hM j (by omega), nI_and]
    have ih' := ih k (j + 1) (by omega) (by omega)
    rw [orN] at ih'
    by_cases g : M j &&& br = 0
    · have ga : isAl M br j = true := by simp [isAl, g]
      rw [if_pos ((nI_eq0 (by omega)).mpr g), e2, cl_s, nI_and, l_ones (by omega) b1, cl_s]
      by_cases g2 : pop (M j &&& fre c mk br) = 1
      · rw [if_pos (by rw [g2]; rfl), gd_pos hl, gd_pos (lq hm (j := j) (by omega)), e2, cl_s, hM j (by omega), nI_and, bd_d, nI_or, nI_p1]
        rw [if_pos ⟨ga, g2⟩] at ih'
        exact ih'
      · rw [if_neg (fun q => g2 ((nI_eq1 (by omega)).mp q)), nI_p1]
        rw [if_neg (fun q => g2 q.2), Nat.or_zero] at ih'
        exact ih'
    · have ga : ¬ isAl M br j = true := by simp [isAl, g]
      rw [if_neg (fun q => g ((nI_eq0 (by omega)).mp q)), nI_p1]
      rw [if_neg (fun q => ga q.1), Nat.or_zero] at ih'
      exact ih'
theorem l_threats (h : LB S zz li c n mk br M) (hN : 12 < N) : f_L_threats N S zz li = some (nI (thP M n c mk br), S) := l_threats_l h hN n N 0 (by omega) (by have := h.2.2.2.1; omega)
end
