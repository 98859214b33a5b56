theorem first_at {p : Nat → Bool} {n j : Nat} (hj : j < n) (h1 : ∀ i, i < j → p i = false) (h2 : p j = true) : fa_first p n = j := by
  rcases Nat.lt_trichotomy (fa_first p n) j with h | h | h
  · have q := fa_first_yes p n (by omega)
    rw [h1 _ h] at q; cases q
  · exact h
  · have q := fa_first_no p n j h
    rw [h2] at q; cases q
theorem first_none {p : Nat → Bool} {n : Nat} (h : ∀ i, i < n → p i = false) : fa_first p n = n := by
  have a := fa_first_le p n
  rcases Nat.lt_or_ge (fa_first p n) n with q | q
  · have r := fa_first_yes p n q
    rw [h _ q] at r; cases r
  · omega
def anyN (p : Nat → Bool) : Nat → Bool
  | 0 => false
  | n + 1 => anyN p n || p n
theorem anyN_iff {p : Nat → Bool} : ∀ {n : Nat}, anyN p n = true ↔ ∃ j, j < n ∧ p j = true
  | 0 => ⟨fun h => (by cases h), fun ⟨_, h, _⟩ => absurd h (Nat.not_lt_zero _)⟩
  | n + 1 => by
    unfold anyN
    rw [Bool.or_eq_true, anyN_iff (n := n)]
    constructor
    · rintro (⟨j, hj, h⟩ | h)
      · exact ⟨j, by omega, h⟩
      · exact ⟨n, by omega, h⟩
    · rintro ⟨j, hj, h⟩
      by_cases e : j = n
      · subst e; exact Or.inr h
      · exact Or.inl ⟨j, by omega, h⟩
theorem anyN_not {p : Nat → Bool} {n : Nat} : anyN p n = false ↔ ∀ j, j < n → p j = false := by
  rw [← Bool.not_eq_true, anyN_iff]
  constructor
  · intro h j hj
    rw [← Bool.not_eq_true]
    exact fun q => h ⟨j, hj, q⟩
  · rintro h ⟨j, hj, q⟩
    rw [h j hj] at q; cases q
theorem anyN_cong {p q : Nat → Bool} : ∀ {n : Nat}, (∀ k, k < n → p k = q k) → anyN p n = anyN q n
  | 0, _ => rfl
  | n + 1, h => by rw [anyN, anyN, anyN_cong (fun k hk => h k (Nat.lt_succ_of_lt hk)), h n (Nat.lt_succ_self n)]
def orN (f : Nat → Nat) : Nat → Nat
  | 0 => 0
  | n + 1 => orN f n ||| f n
theorem orN_lt {f : Nat → Nat} : ∀ {n : Nat}, (∀ k, k < n → f k < 1024) → orN f n < 1024
  | 0, _ => Nat.zero_lt_succ 1023
  | n + 1, h => or_lt (orN_lt (fun k hk => h k (Nat.lt_succ_of_lt hk))) (h n (Nat.lt_succ_self n))
theorem orN_cong {f g : Nat → Nat} : ∀ {n : Nat}, (∀ k, k < n → f k = g k) → orN f n = orN g n
  | 0, _ => rfl
  | n + 1, h => by rw [orN, orN, orN_cong (fun k hk => h k (Nat.lt_succ_of_lt hk)), h n (Nat.lt_succ_self n)]
theorem tb_orN {f : Nat → Nat} (i : Nat) : ∀ {n : Nat}, (orN f n).testBit i = anyN (fun j => (f j).testBit i) n
  | 0 => Nat.zero_testBit i
  | n + 1 => by rw [orN, Nat.testBit_or, tb_orN i (n := n), anyN]
/-- the free cells -/
def fre (c mk br : Nat) : Nat := dif (dif (2 ^ c - 1) mk) br
theorem all_lt {c : Nat} (hc : c ≤ 10) : 2 ^ c - 1 < 1024 := by
  have q : 2 ^ c ≤ 2 ^ 10 := Nat.pow_le_pow_right (by decide) hc
  have r := Nat.two_pow_pos c
  omega
theorem fre_lt {c mk br : Nat} (hc : c ≤ 10) : fre c mk br < 1024 := dif_lt (dif_lt (all_lt hc))
theorem tb_all (c i : Nat) : (2 ^ c - 1).testBit i = decide (i < c) := Nat.testBit_two_pow_sub_one c i
theorem tb_fre {c mk br : Nat} (hc : c ≤ 10) (i : Nat) : (fre c mk br).testBit i = (decide (i < c) && !mk.testBit i && !br.testBit i) := by
  unfold fre
  rw [tb_dif (dif_lt (all_lt hc)), tb_dif (all_lt hc), tb_all]
def isAl (M : Nat → Nat) (br j : Nat) : Bool := decide (M j &&& br = 0)
def wtP (M : Nat → Nat) (c mk br j : Nat) : Nat := if isAl M br j = true then 1024 >>> pop (M j &&& fre c mk br) else 0
def wsP (M : Nat → Nat) (n c mk br : Nat) : Nat := fb_sm (wtP M c mk br) n
def dgP (M : Nat → Nat) (n c mk br i : Nat) : Nat := fb_sm (fun j => if (M j &&& fre c mk br).testBit i = true then wtP M c mk br j else 0) n
def thP (M : Nat → Nat) (n c mk br : Nat) : Nat := orN (fun j => if isAl M br j = true ∧ pop (M j &&& fre c mk br) = 1 then M j &&& fre c mk br else 0) n
def winP (M : Nat → Nat) (n mk br : Nat) : Nat := if anyN (fun j => decide (dif (M j) mk = 0)) n = true then 1 else if anyN (isAl M br) n = true then 0 else 2
def lowI (a : Nat) : Int32 := if a = 0 then -1 else nI (fa_first (fun i => a.testBit i) 10)
theorem winP_le (M : Nat → Nat) (n mk br : Nat) : winP M n mk br ≤ 2 := by
  unfold winP
  split
  · decide
  · split <;> decide
/-- the model's board: c cells, n lines M, the cells mk and br -/
def Mz (S : Hp) (m z c n mk br : Nat) (M : Nat → Nat) : Prop :=
  (ok S m 7 ∧ hR S m 0 = some z ∧ ok S z 8 ∧ hN S z = 22) ∧ (hI S z 0 = nI c ∧ hI S z 2 = nI n ∧ hI S z 3 = nI mk ∧ hI S z 4 = nI br ∧ ∀ j, j < n → hI S z (10 + j) = nI (M j)) ∧ c ≤ 10 ∧ n ≤ 12 ∧ mk < 1024 ∧ br < 1024 ∧ ∀ j, j < n → M j < 1024
theorem zin {S : Hp} {z : Nat} (h : hN S z = 22) {i : Int32} {k : Nat} (e : i = nI k) (hk : k < 22) : inb i (hN S z) := by
  rw [h, e]
  unfold inb
  rw [nI_toInt (by omega)]
  omega
theorem ix10 {j : Nat} (hj : j < 1000) : ((10 : Int32) + nI j).toNatClampNeg = 10 + j := by rw [nI_10, nI_clamp (by omega)]
theorem tn0 : (0 : Int32).toNatClampNeg = 0 := rfl
theorem tn1 : (1 : Int32).toNatClampNeg = 1 := rfl
theorem tn2 : (2 : Int32).toNatClampNeg = 2 := rfl
theorem tn3 : (3 : Int32).toNatClampNeg = 3 := rfl
theorem tn4 : (4 : Int32).toNatClampNeg = 4 := rfl
theorem tn5 : (5 : Int32).toNatClampNeg = 5 := rfl
theorem tn6 : (6 : Int32).toNatClampNeg = 6 := rfl
theorem tn7 : (7 : Int32).toNatClampNeg = 7 := rfl
theorem m_within {N : Nat} {S : Hp} {x l h : Int32} : f_X7_within N S x l h = some ((if l ≤ x ∧ x ≤ h then (1 : Int32) else 0), S) := by
  unfold f_X7_within
  by_cases h1 : x < l
  · rw [if_pos h1, if_neg (fun q => absurd h1 (by rw [Int32.not_lt]; exact q.1))]
  · by_cases h2 : h < x
    · rw [if_neg h1, if_pos h2, if_neg (fun q => absurd h2 (by rw [Int32.not_lt]; exact q.2))]
    · rw [if_neg h1, if_neg h2, if_pos ⟨Int32.not_lt.mp h1, Int32.not_lt.mp h2⟩]
theorem m_has {N : Nat} {S : Hp} {a i : Nat} (ha : a < 2 ^ 31) (hi : i < 32) : f_X7_has N S (nI a) (nI i) = some ((if a.testBit i = true then (1 : Int32) else 0), S) := by
  unfold f_X7_has
  rw [nI_has ha hi]
  by_cases h : a.testBit i = true
  · simp only [h, if_true]; rfl
  · simp only [h, if_false]; rfl
theorem m_ones_l {N a : Nat} {S : Hp} (ha : a < 1024) : ∀ d k i, i + d = 10 → d < k → f_X7_ones_l4 N (nI a) k S (nI (fb_ct (fun i => a.testBit i) i)) (nI i) = some (nI (pop a), S) := by
  intro d
  induction d with
  | zero =>
    intro k i hi hk
    obtain ⟨k, rfl⟩ : ∃ q, k = q + 1 := ⟨k - 1, by omega⟩
    obtain rfl : i = 10 := by omega
    unfold f_X7_ones_l4 f_X7_ones_b4
    rw [if_pos (show (10 : Int32) ≤ nI 10 by decide)]
    rfl
  | succ d ih =>
    intro k i hi hk
    obtain ⟨k, rfl⟩ : ∃ q, k = q + 1 := ⟨k - 1, by omega⟩
    unfold f_X7_ones_l4 f_X7_ones_b4
    rw [if_neg (nle10 (by omega)), bd_d, nI_has (by omega) (by omega), nI_plus, nI_p1]
    exact ih k (i + 1) (by omega) (by omega)
theorem m_ones {N a : Nat} {S : Hp} (hN : 10 < N) (ha : a < 1024) : f_X7_ones N S (nI a) = some (nI (pop a), S) := m_ones_l ha 10 N 0 rfl hN
section
variable {N : Nat} {S : Hp} {m z c n mk br : Nat} {M : Nat → Nat}
theorem m_maker (h : Mz S m z c n mk br M) : f_X7_maker N S m = some (nI mk, S) := by
  obtain ⟨⟨hm, hz, hk, hn⟩, ⟨h0, h2, h3, h4, hM⟩, hc, hn12, hmk, hbr, hM1⟩ := h
  simp only [f_X7_maker, gd_pos hm, hz, nn_s, gd_pos hk, gd_pos (zin hn (i := (3 : Int32)) (k := 3) rfl (by decide)), tn3, h3]
theorem m_breaker (h : Mz S m z c n mk br M) : f_X7_breaker N S m = some (nI br, S) := by
  obtain ⟨⟨hm, hz, hk, hn⟩, ⟨h0, h2, h3, h4, hM⟩, hc, hn12, hmk, hbr, hM1⟩ := h
  simp only [f_X7_breaker, gd_pos hm, hz, nn_s, gd_pos hk, gd_pos (zin hn (i := (4 : Int32)) (k := 4) rfl (by decide)), tn4, h4]
theorem m_free (h : Mz S m z c n mk br M) : f_X7_free N S m = some (nI (fre c mk br), S) := by
  have e1 := m_maker (N := N) h
  have e2 := m_breaker (N := N) h
  obtain ⟨⟨hm, hz, hk, hn⟩, ⟨h0, h2, h3, h4, hM⟩, hc, hn12, hmk, hbr, hM1⟩ := h
  simp only [f_X7_free, gd_pos hm, hz, nn_s, gd_pos hk, gd_pos (zin hn (i := (0 : Int32)) (k := 0) rfl (by decide)), tn0, h0, e1, e2, cl_s, nI_all c (by omega), nI_dif (all_lt hc), nI_dif (dif_lt (all_lt hc)), fre]
theorem m_isDead (h : Mz S m z c n mk br M) {j : Nat} (hj : j < n) : f_X7_isDead N S m (nI j) = some ((if isAl M br j = true then (0 : Int32) else 1), S) := by
  have e2 := m_breaker (N := N) h
  obtain ⟨⟨hm, hz, hk, hn⟩, ⟨h0, h2, h3, h4, hM⟩, hc, hn12, hmk, hbr, hM1⟩ := h
  simp only [f_X7_isDead, gd_pos hm, hz, nn_s, gd_pos hk, gd_pos (zin hn (i := (10 : Int32) + nI j) (k := 10 + j) (nI_10 j) (by omega)), ix10 (show j < 1000 by omega), hM j hj, e2, cl_s, nI_and, isAl, decide_eq_true_eq]
  have q : nI (M j &&& br) = 0 ↔ M j &&& br = 0 := nI_eq0 (by have := and_lt (b := br) (hM1 j hj); omega)
  by_cases g : M j &&& br = 0
  · rw [if_pos (q.mpr g), if_pos g]
  · rw [if_neg (fun w => g (q.mp w)), if_neg g]
theorem m_freeOf (h : Mz S m z c n mk br M) {j : Nat} (hj : j < n) : f_X7_freeOf N S m (nI j) = some (nI (M j &&& fre c mk br), S) := by
  have e2 := m_free (N := N) h
  obtain ⟨⟨hm, hz, hk, hn⟩, ⟨h0, h2, h3, h4, hM⟩, hc, hn12, hmk, hbr, hM1⟩ := h
  simp only [f_X7_freeOf, gd_pos hm, hz, nn_s, gd_pos hk, gd_pos (zin hn (i := (10 : Int32) + nI j) (k := 10 + j) (nI_10 j) (by omega)), ix10 (show j < 1000 by omega), hM j hj, e2, cl_s, nI_and]
theorem i01 {p : Prop} [Decidable p] : ((if p then (1 : Int32) else 0) = 0) ↔ ¬ p := by
  by_cases h : p <;> simp [h]
theorem i10 {p : Prop} [Decidable p] : ((if p then (0 : Int32) else 1) = 0) ↔ p := by
  by_cases h : p <;> simp [h]
theorem m_weightOf (h : Mz S m z c n mk br M) (hN : 10 < N) {j : Nat} (hj : j < n) : f_X7_weightOf N S m (nI j) = some (nI (wtP M c mk br j), S) := by
  have e1 := m_isDead (N := N) h hj
  have e2 := m_freeOf (N := N) h hj
  obtain ⟨⟨hm, hz, hk, hn⟩, ⟨h0, h2, h3, h4, hM⟩, hc, hn12, hmk, hbr, hM1⟩ := h
  have e3 := m_ones (S := S) hN (and_lt (b := fre c mk br) (hM1 j hj))
  simp only [f_X7_weightOf, gd_pos hm, e1, e2, e3, cl_s, i10, wtP]
  by_cases g : isAl M br j = true
  · rw [if_pos g, if_pos g, i1024 (pop_le _)]
  · rw [if_neg g, if_neg g]; rfl
theorem m_winner_l (h : Mz S m z c n mk br M) {a b : Nat} (ha : a < 1024) (hb : b < 1024) : ∀ d k j, j + d = n → d < k → anyN (fun j => decide (dif (M j) a = 0)) j = false → f_X7_winner_l5 N m (nI a) (nI b) k S (if anyN (isAl M b) j = true then 1 else 0) (nI j) = some (nI (winP M n a b), S) := by
  obtain ⟨⟨hm, hz, hk, hn⟩, ⟨h0, h2, h3, h4, hM⟩, hc, hn12, hmk, hbr, hM1⟩ := h
  intro d
  induction d with
  | zero =>
    intro k j hj hk' hno
    obtain ⟨k, rfl⟩ : ∃ q, k = q + 1 := ⟨k - 1, by omega⟩
    obtain rfl : j = n := by omega
    simp only [f_X7_winner_l5, f_X7_winner_b5, gd_pos hm, hz, nn_s, gd_pos hk, gd_pos (zin hn (i := (2 : Int32)) (k := 2) rfl (by decide)), tn2, h2]
    rw [if_pos (Int32.le_refl _)]
    simp only [i01, winP, hno]
    by_cases g : anyN (isAl M b) j = true
    · simp [g]; rfl
    · simp [g]; rfl
  | succ d ih =>
    intro k j hj hk' hno
    obtain ⟨k, rfl⟩ : ∃ q, k = q + 1 := ⟨k - 1, by omega⟩
    have hjn : j < n := by omega
    have b1 := dif_lt (b := a) (hM1 j hjn)
    have b2 := and_lt (b := b) (hM1 j hjn)
    simp only [f_X7_winner_l5, f_X7_winner_b5, gd_pos hm, hz, nn_s, gd_pos hk, gd_pos (zin hn (i := (2 : Int32)) (k := 2) rfl (by decide)), tn2, h2]
    rw [if_neg (fun q => absurd ((nI_le_iff (by omega) (by omega)).mp q) (by omega))]
    simp only [gd_pos (zin hn (i := (10 : Int32) + nI j) (k := 10 + j) (nI_10 j) (by omega)), ix10 (show j < 1000 by omega), hM j hjn, bd_d, nI_dif (hM1 j hjn), nI_and, nI_p1]
    by_cases g1 : dif (M j) a = 0
    · rw [if_pos ((nI_eq0 (by omega)).mpr g1)]
      have q : anyN (fun j => decide (dif (M j) a = 0)) n = true := anyN_iff.mpr ⟨j, hjn, by simp [g1]⟩
      simp [winP, q]; rfl
    · rw [if_neg (fun q => g1 ((nI_eq0 (by omega)).mp q))]
      have hno' : anyN (fun j => decide (dif (M j) a = 0)) (j + 1) = false := by rw [anyN, hno]; simp [g1]
      have ih' := ih k (j + 1) (by omega) (by omega) hno'
      by_cases g2 : anyN (isAl M b) j = true
      · rw [show anyN (isAl M b) (j + 1) = true by rw [anyN, g2]; rfl] at ih'
        simp only [g2, if_true] at ih' ⊢
        rw [if_neg (by decide)]
        exact ih'
      · have g2' : anyN (isAl M b) j = false := by simpa using g2
        rw [show anyN (isAl M b) (j + 1) = isAl M b j by rw [anyN, g2']; rfl] at ih'
        rw [if_neg g2, if_pos rfl]
        by_cases g3 : M j &&& b = 0
        · rw [if_pos ((nI_eq0 (by omega)).mpr g3)]
          simpa [isAl, g3] using ih'
        · rw [if_neg (fun q => g3 ((nI_eq0 (by omega)).mp q))]
          simpa [isAl, g3] using ih'
theorem m_winner (h : Mz S m z c n mk br M) (hN : 12 < N) {a b : Nat} (ha : a < 1024) (hb : b < 1024) : f_X7_winner N S m (nI a) (nI b) = some (nI (winP M n a b), S) := m_winner_l h ha hb n N 0 (by omega) (by have := h.2.2.2.1; omega) rfl
theorem m_winnerNow (h : Mz S m z c n mk br M) (hN : 12 < N) : f_X7_winnerNow N S m = some (nI (winP M n mk br), S) := by
  have e1 := m_maker (N := N) h
  have e2 := m_breaker (N := N) h
  have e3 := m_winner h hN h.2.2.2.2.1 h.2.2.2.2.2.1
  simp only [f_X7_winnerNow, gd_pos h.1.1, e1, e2, e3, cl_s]
theorem m_weight_l (h : Mz S m z c n mk br M) (hN : 12 < N) : ∀ d k j, j + d = n → d < k → f_X7_weight_l4 N m k S (nI (fb_sm (wtP M c mk br) j)) (nI j) = some (nI (wsP M n c mk br), S) := by
  have e := fun j (hj : j < n) => m_weightOf h (by omega : 10 < N) hj
  obtain ⟨⟨hm, hz, hk, hn⟩, ⟨h0, h2, h3, h4, hM⟩, hc, hn12, hmk, hbr, hM1⟩ := h
  intro d
  induction d with
  | zero =>
    intro k j hj hk'
    obtain ⟨k, rfl⟩ : ∃ q, k = q + 1 := ⟨k - 1, by omega⟩
    obtain rfl : j = n := by omega
    simp only [f_X7_weight_l4, f_X7_weight_b4, gd_pos hm, hz, nn_s, gd_pos hk, gd_pos (zin hn (i := (2 : Int32)) (k := 2) rfl (by decide)), tn2, h2]
    rw [if_pos (Int32.le_refl _)]
    rfl
  | succ d ih =>
    intro k j hj hk'
    obtain ⟨k, rfl⟩ : ∃ q, k = q + 1 := ⟨k - 1, by omega⟩
    simp only [f_X7_weight_l4, f_X7_weight_b4, gd_pos hm, hz, nn_s, gd_pos hk, gd_pos (zin hn (i := (2 : Int32)) (k := 2) rfl (by decide)), tn2, h2]
    rw [if_neg (fun q => absurd ((nI_le_iff (by omega) (by omega)).mp q) (by omega)), e j (by omega), cl_s, nI_plus, nI_p1]
    exact ih k (j + 1) (by omega) (by omega)
theorem m_weight (h : Mz S m z c n mk br M) (hN : 12 < N) : f_X7_weight N S m = some (nI (wsP M n c mk br), S) := m_weight_l h hN n N 0 (by omega) (by have := h.2.2.2.1; omega)
theorem m_danger_l (h : Mz S m z c n mk br M) (hN : 12 < N) {i : Nat} (hi : i < 32) : ∀ d k j, j + d = n → d < k → f_X7_danger_l4 N m (nI i) k S (nI (fb_sm (fun j => if (M j &&& fre c mk br).testBit i = true then wtP M c mk br j else 0) j)) (nI j) = some (nI (dgP M n c mk br i), S) := by
  have e := fun j (hj : j < n) => m_weightOf h (by omega : 10 < N) hj
  have e2 := fun j (hj : j < n) => m_freeOf (N := N) h hj
  obtain ⟨⟨hm, hz, hk, hn⟩, ⟨h0, h2, h3, h4, hM⟩, hc, hn12, hmk, hbr, hM1⟩ := h
  intro d
  induction d with
  | zero =>
    intro k j hj hk'
    obtain ⟨k, rfl⟩ : ∃ q, k = q + 1 := ⟨k - 1, by omega⟩
    obtain rfl : j = n := by omega
    simp only [f_X7_danger_l4, f_X7_danger_b4, gd_pos hm, hz, nn_s, gd_pos hk, gd_pos (zin hn (i := (2 : Int32)) (k := 2) rfl (by decide)), tn2, h2]
    rw [if_pos (Int32.le_refl _)]
    rfl
  | succ d ih =>
    intro k j hj hk'
    obtain ⟨k, rfl⟩ : ∃ q, k = q + 1 := ⟨k - 1, by omega⟩
    have b1 := and_lt (b := fre c mk br) (hM1 j (by omega))
    simp only [f_X7_danger_l4, f_X7_danger_b4, gd_pos hm, hz, nn_s, gd_pos hk, gd_pos (zin hn (i := (2 : Int32)) (k := 2) rfl (by decide)), tn2, h2]
    rw [if_neg (fun q => absurd ((nI_le_iff (by omega) (by omega)).mp q) (by omega)), e2 j (by omega), cl_s, m_has (by omega) hi, cl_s]
    have ih' := ih k (j + 1) (by omega) (by omega)
    rw [fb_sm_succ] at ih'
    by_cases g : (M j &&& fre c mk br).testBit i = true
    · simp only [g, if_true] at ih' ⊢
      rw [if_neg (by decide), gd_pos hm, e j (by omega), cl_s, nI_plus, nI_p1]
      exact ih'
    · simp only [g, if_false] at ih' ⊢
      rw [if_pos (show (if false = true then (1 : Int32) else 0) = 0 from rfl), nI_p1, show (0 : Int32) = nI 0 from rfl, nI_plus]
      exact ih'
theorem m_danger (h : Mz S m z c n mk br M) (hN : 12 < N) {i : Nat} (hi : i < 32) : f_X7_danger N S m (nI i) = some (nI (dgP M n c mk br i), S) := m_danger_l h hN hi n N 0 (by omega) (by have := h.2.2.2.1; omega)
theorem m_threats_l (h : Mz S m z c n mk br M) (hN : 12 < N) : ∀ d k j, j + d = n → d < k → f_X7_threats_l4 N m k S (nI (orN (fun j => if isAl M br j = true ∧ pop (M j &&& fre c mk br) = 1 then M j &&& fre c mk br else 0) j)) (nI j) = some (nI (thP M n c mk br), S) := by
  have e := fun j (hj : j < n) => m_isDead (N := N) h hj
  have e2 := fun j (hj : j < n) => m_freeOf (N := N) h hj
  obtain ⟨⟨hm, hz, hk, hn⟩, ⟨h0, h2, h3, h4, hM⟩, hc, hn12, hmk, hbr, hM1⟩ := h
  intro d
  induction d with
  | zero =>
    intro k j hj hk'
    obtain ⟨k, rfl⟩ : ∃ q, k = q + 1 := ⟨k - 1, by omega⟩
    obtain rfl : j = n := by omega
    simp only [f_X7_threats_l4, f_X7_threats_b4, gd_pos hm, hz, nn_s, gd_pos hk, gd_pos (zin hn (i := (2 : Int32)) (k := 2) rfl (by decide)), tn2, h2]
    rw [if_pos (Int32.le_refl _)]
    rfl
  | succ d ih =>
    intro k j hj hk'
    obtain ⟨k, rfl⟩ : ∃ q, k = q + 1 := ⟨k - 1, by omega⟩
    have b1 := and_lt (b := fre c mk br) (hM1 j (by omega))
    have b2 := pop_le (M j &&& fre c mk br)
    simp only [f_X7_threats_l4, f_X7_threats_b4, gd_pos hm, hz, nn_s, gd_pos hk, gd_pos (zin hn (i := (2 : Int32)) (k := 2) rfl (by decide)), tn2, h2]
    rw [if_neg (fun q => absurd ((nI_le_iff (by omega) (by omega)).mp q) (by omega)), e j (by omega), cl_s]
    have ih' := ih k (j + 1) (by omega) (by omega)
    rw [orN] at ih'
    by_cases g : isAl M br j = true
    · rw [if_pos (i10.mpr g), gd_pos hm, e2 j (by omega), cl_s, m_ones (by omega) b1, cl_s]
      by_cases g2 : pop (M j &&& fre c mk br) = 1
      · rw [if_pos (by rw [g2]; rfl), gd_pos hm, e2 j (by omega), cl_s, nI_or, nI_p1]
        rw [if_pos ⟨g, g2⟩] at ih'
        exact ih'
      · rw [if_neg (fun q => g2 ((nI_eq1 (by omega)).mp q)), nI_p1, show (0 : Int32) = nI 0 from rfl, nI_or]
        rw [if_neg (fun q => g2 q.2)] at ih'
        exact ih'
    · rw [if_neg (fun q => g (i10.mp q)), nI_p1, show (0 : Int32) = nI 0 from rfl, nI_or]
      rw [if_neg (fun q => g q.1)] at ih'
      exact ih'
theorem m_threats (h : Mz S m z c n mk br M) (hN : 12 < N) : f_X7_threats N S m = some (nI (thP M n c mk br), S) := m_threats_l h hN n N 0 (by omega) (by have := h.2.2.2.1; omega)
theorem lowI_at {a j : Nat} (hj : j < 10) (h1 : ∀ i, i < j → a.testBit i = false) (h2 : a.testBit j = true) : lowI a = nI j := by
  unfold lowI
  rw [if_neg (fun q => by rw [q, Nat.zero_testBit] at h2; cases h2), first_at hj h1 h2]
theorem m_lowest_l {a : Nat} (ha : a < 1024) : ∀ d k i, i + d = 10 → d < k → (∀ q, q < i → a.testBit q = false) → f_X7_lowest_l2 N m (nI a) k S (nI i) = some (lowI a, S) := by
  intro d
  induction d with
  | zero =>
    intro k i hi hk' hno
    obtain ⟨k, rfl⟩ : ∃ q, k = q + 1 := ⟨k - 1, by omega⟩
    obtain rfl : i = 10 := by omega
    have a0 : a = 0 := by
      refine Nat.eq_of_testBit_eq (fun q => ?_)
      rw [Nat.zero_testBit]
      by_cases hq : q < 10
      · exact hno q hq
      · exact tb_hi ha (by omega)
    unfold f_X7_lowest_l2 f_X7_lowest_b2 f_X7_lowest_b22
    rw [if_pos (show (10 : Int32) ≤ nI 10 by decide), if_pos (show nI 10 = (10 : Int32) from rfl)]
    unfold lowI
    rw [if_pos a0]
  | succ d ih =>
    intro k i hi hk' hno
    obtain ⟨k, rfl⟩ : ∃ q, k = q + 1 := ⟨k - 1, by omega⟩
    unfold f_X7_lowest_l2 f_X7_lowest_b2
    rw [if_neg (nle10 (by omega)), m_has (by omega) (by omega), cl_s]
    by_cases g : a.testBit i = true
    · rw [if_neg (fun q => (i01.mp q) g)]
      unfold f_X7_lowest_b22
      rw [if_neg (fun q => absurd ((nI_eq10 (by omega)).mp q) (by omega)), lowI_at (by omega) hno g]
    · rw [if_pos (i01.mpr g), nI_p1]
      refine ih k (i + 1) (by omega) (by omega) (fun q hq => ?_)
      by_cases e : q = i
      · subst e; simpa using g
      · exact hno q (by omega)
theorem m_lowest (hN : 10 < N) {a : Nat} (ha : a < 1024) : f_X7_lowest N S m (nI a) = some (lowI a, S) := m_lowest_l ha 10 N 0 rfl hN (fun q hq => absurd hq (Nat.not_lt_zero q))
theorem thP_lt (hc : c ≤ 10) (hM1 : ∀ j, j < n → M j < 1024) : thP M n c mk br < 1024 := orN_lt (fun j hj => by
  split
  · exact and_lt (hM1 j hj)
  · decide)
def fcI (M : Nat → Nat) (n c mk br : Nat) : Int32 := if winP M n mk br = 0 then lowI (thP M n c mk br) else -1
theorem m_forced (h : Mz S m z c n mk br M) (hN : 12 < N) : f_X7_forced N S m = some (fcI M n c mk br, S) := by
  have e1 := m_winnerNow h hN
  have e2 := m_threats h hN
  have e3 := m_lowest (N := N) (S := S) (m := m) (by omega) (thP_lt (mk := mk) (br := br) h.2.2.1 h.2.2.2.2.2.2)
  have w := winP_le M n mk br
  simp only [f_X7_forced, gd_pos h.1.1, e1, e2, e3, cl_s, fcI]
  by_cases g : winP M n mk br = 0
  · rw [if_pos ((nI_eq0 (by omega)).mpr g), if_pos g]
  · rw [if_neg (fun q => g ((nI_eq0 (by omega)).mp q)), if_neg g]
end
