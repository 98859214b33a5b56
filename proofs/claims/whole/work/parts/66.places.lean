/-! PLACES: a sharing of the cells as a number of base 3 -/
def dgt (mk br i : Nat) : Nat := if mk.testBit i = true then 1 else if br.testBit i = true then 2 else 0
def plV (c mk br : Nat) : Nat := fb_sm (fun i => dgt mk br i * 3 ^ i) c
theorem dgt_le (mk br i : Nat) : dgt mk br i ≤ 2 := by
  unfold dgt
  split
  · decide
  · split <;> decide
theorem sum3_lt {f : Nat → Nat} (h : ∀ i, f i ≤ 2) : ∀ c, fb_sm (fun i => f i * 3 ^ i) c < 3 ^ c
  | 0 => Nat.zero_lt_one
  | c + 1 => by
    have ih := sum3_lt h c
    have q := h c
    have m : f c * 3 ^ c ≤ 2 * 3 ^ c := Nat.mul_le_mul_right _ q
    rw [fb_sm_succ, Nat.pow_succ]
    omega
theorem pow3_split {j c : Nat} (h : j < c) : 3 ^ c = 3 ^ j * (3 * 3 ^ (c - j - 1)) := by
  rw [show (3 : Nat) * 3 ^ (c - j - 1) = 3 ^ (c - j) by rw [Nat.mul_comm, ← Nat.pow_succ]; congr 1; omega, ← Nat.pow_add]
  congr 1; omega
theorem add_dgt {x j c v : Nat} (h : j < c) : (x + v * 3 ^ c) / 3 ^ j % 3 = x / 3 ^ j % 3 := by
  rw [pow3_split h, show v * (3 ^ j * (3 * 3 ^ (c - j - 1))) = 3 ^ j * (3 * (v * 3 ^ (c - j - 1))) by rw [Nat.mul_left_comm, Nat.mul_left_comm v 3]]
  rw [Nat.add_mul_div_left _ _ (Nat.pow_pos (by decide)), Nat.add_mul_mod_self_left]
theorem sum3_dgt {f : Nat → Nat} (h : ∀ i, f i ≤ 2) {j : Nat} : ∀ {c : Nat}, j < c → fb_sm (fun i => f i * 3 ^ i) c / 3 ^ j % 3 = f j
  | 0, q => absurd q (Nat.not_lt_zero j)
  | c + 1, q => by
    rw [fb_sm_succ]
    by_cases e : j = c
    · subst e
      rw [Nat.add_mul_div_right _ _ (Nat.pow_pos (by decide)), Nat.div_eq_of_lt (sum3_lt h j), Nat.zero_add, Nat.mod_eq_of_lt (by have := h j; omega)]
    · rw [add_dgt (by omega)]
      exact sum3_dgt h (by omega)
theorem plV_lt (c mk br : Nat) : plV c mk br < 3 ^ c := sum3_lt (dgt_le mk br) c
theorem plV_dgt {c mk br j : Nat} (h : j < c) : plV c mk br / 3 ^ j % 3 = dgt mk br j := sum3_dgt (dgt_le mk br) h
/-- a place tells the sharing -/
theorem plV_inj {c mk br mk' br' : Nat} (h : Pos c mk br) (h' : Pos c mk' br') (e : plV c mk br = plV c mk' br') : mk = mk' ∧ br = br' := by
  have d : ∀ j, j < c → dgt mk br j = dgt mk' br' j := fun j hj => by rw [← plV_dgt hj, e, plV_dgt hj]
  have b1 : ∀ j, (mk.testBit j && br.testBit j) = false := fun j => by
    have q := congrArg (fun w => w.testBit j) h.2.2
    simpa using q
  have b2 : ∀ j, (mk'.testBit j && br'.testBit j) = false := fun j => by
    have q := congrArg (fun w => w.testBit j) h'.2.2
    simpa using q
  have hi : ∀ a j, a < 2 ^ c → c ≤ j → a.testBit j = false := fun a j ha hj => Nat.testBit_lt_two_pow (Nat.lt_of_lt_of_le ha (Nat.pow_le_pow_right (by decide) hj))
  have both : ∀ j, mk.testBit j = mk'.testBit j ∧ br.testBit j = br'.testBit j := by
    intro j
    by_cases hj : j < c
    · have q := d j hj
      have q1 := b1 j
      have q2 := b2 j
      unfold dgt at q
      revert q q1 q2
      cases mk.testBit j <;> cases br.testBit j <;> cases mk'.testBit j <;> cases br'.testBit j <;> simp
    · rw [hi mk j h.1 (by omega), hi mk' j h'.1 (by omega), hi br j h.2.1 (by omega), hi br' j h'.2.1 (by omega)]
      exact ⟨rfl, rfl⟩
  exact ⟨Nat.eq_of_testBit_eq (fun j => (both j).1), Nat.eq_of_testBit_eq (fun j => (both j).2)⟩
/-- the powers that the class adds up -/
def P3 (a : Nat) : Nat := fb_sm (fun i => (if a.testBit i = true then 1 else 0) * 3 ^ i) 10
theorem P3_sum {c mk br : Nat} (hc : c ≤ 10) (h : Pos c mk br) : P3 mk + 2 * P3 br = plV 10 mk br := by
  unfold P3 plV
  rw [Nat.two_mul, ← fb_sm_add, ← fb_sm_add]
  refine fb_sm_cong (fun i hi => ?_)
  have q := congrArg (fun w => w.testBit i) h.2.2
  simp only [Nat.testBit_and, Nat.zero_testBit] at q
  unfold dgt
  cases x : mk.testBit i
  · cases y : br.testBit i
    · simp
    · simp
      omega
  · cases y : br.testBit i
    · simp
    · rw [x, y] at q; cases q
theorem Pos.up {c mk br : Nat} (hc : c ≤ 10) (h : Pos c mk br) : Pos 10 mk br := ⟨Nat.lt_of_lt_of_le h.1 (pw10 hc), Nat.lt_of_lt_of_le h.2.1 (pw10 hc), h.2.2⟩
theorem P3_lt (a : Nat) : P3 a < 59049 := sum3_lt (f := fun i => if a.testBit i = true then 1 else 0) (fun i => by split <;> decide) 10
theorem pl_lt {mk br : Nat} : plV 10 mk br < 59049 := plV_lt 10 mk br
/-! a place's own masks -/
def mkC (c x : Nat) : Nat := orN (fun i => if x / 3 ^ i % 3 = 1 then 2 ^ i else 0) c
def brC (c x : Nat) : Nat := orN (fun i => if x / 3 ^ i % 3 = 2 then 2 ^ i else 0) c
theorem tb_orB {p : Nat → Bool} {c j : Nat} : (orN (fun i => if p i = true then 2 ^ i else 0) c).testBit j = (decide (j < c) && p j) := by
  rw [tb_orN, Bool.eq_iff_iff, anyN_iff, Bool.and_eq_true, decide_eq_true_eq]
  constructor
  · rintro ⟨i, hi, e⟩
    by_cases q : p i = true
    · rw [if_pos q, tb_bit] at e
      have e : i = j := by simpa using e
      rw [← e]; exact ⟨hi, q⟩
    · rw [if_neg q, Nat.zero_testBit] at e; cases e
  · rintro ⟨hj, e⟩
    exact ⟨j, hj, by rw [if_pos e, tb_bit]; simp⟩
theorem tb_mkC (c x j : Nat) : (mkC c x).testBit j = (decide (j < c) && decide (x / 3 ^ j % 3 = 1)) := by
  have e : mkC c x = orN (fun i => if decide (x / 3 ^ i % 3 = 1) = true then 2 ^ i else 0) c := orN_cong (fun i _ => by simp)
  rw [e, tb_orB]
theorem tb_brC (c x j : Nat) : (brC c x).testBit j = (decide (j < c) && decide (x / 3 ^ j % 3 = 2)) := by
  have e : brC c x = orN (fun i => if decide (x / 3 ^ i % 3 = 2) = true then 2 ^ i else 0) c := orN_cong (fun i _ => by simp)
  rw [e, tb_orB]
theorem lt_of_bits {a c : Nat} (h : ∀ j, c ≤ j → a.testBit j = false) : a < 2 ^ c := Nat.lt_pow_two_of_testBit a (fun j hj => h j hj)
theorem posC (c x : Nat) : Pos c (mkC c x) (brC c x) := by
  refine ⟨lt_of_bits (fun j hj => ?_), lt_of_bits (fun j hj => ?_), Nat.eq_of_testBit_eq (fun j => ?_)⟩
  · rw [tb_mkC, decide_eq_false (by omega)]; rfl
  · rw [tb_brC, decide_eq_false (by omega)]; rfl
  · rw [Nat.testBit_and, tb_mkC, tb_brC, Nat.zero_testBit]
    by_cases q : x / 3 ^ j % 3 = 1
    · simp [q]
    · simp [q]
theorem mkC_pl {c mk br : Nat} (h : Pos c mk br) : mkC c (plV c mk br) = mk ∧ brC c (plV c mk br) = br := by
  have hi : ∀ a j, a < 2 ^ c → ¬ j < c → a.testBit j = false := fun a j ha hj => Nat.testBit_lt_two_pow (Nat.lt_of_lt_of_le ha (Nat.pow_le_pow_right (by decide) (by omega)))
  constructor
  · refine Nat.eq_of_testBit_eq (fun j => ?_)
    rw [tb_mkC]
    by_cases hj : j < c
    · rw [plV_dgt hj, decide_eq_true hj, Bool.true_and]
      unfold dgt
      cases mk.testBit j <;> cases br.testBit j <;> simp
    · rw [decide_eq_false hj, hi mk j h.1 hj]; rfl
  · refine Nat.eq_of_testBit_eq (fun j => ?_)
    rw [tb_brC]
    have q := congrArg (fun w => w.testBit j) h.2.2
    simp only [Nat.testBit_and, Nat.zero_testBit] at q
    by_cases hj : j < c
    · rw [plV_dgt hj, decide_eq_true hj, Bool.true_and]
      unfold dgt
      revert q
      cases mk.testBit j <;> cases br.testBit j <;> simp
    · rw [decide_eq_false hj, hi br j h.2.1 hj]; rfl
/-- a cell is taken: the place grows by a power -/
theorem dgt_add {x i j v : Nat} (hv : v ≤ 2) (h : x / 3 ^ i % 3 = 0) : (x + v * 3 ^ i) / 3 ^ j % 3 = if j = i then v else x / 3 ^ j % 3 := by
  rcases Nat.lt_trichotomy j i with q | q | q
  · rw [if_neg (by omega), add_dgt q]
  · subst q
    rw [if_pos rfl, Nat.add_mul_div_right _ _ (Nat.pow_pos (by decide))]
    omega
  · rw [if_neg (by omega)]
    obtain ⟨k, rfl⟩ : ∃ k, j = i + 1 + k := ⟨j - i - 1, by omega⟩
    have e : ∀ y : Nat, y / 3 ^ (i + 1 + k) = y / 3 ^ i / 3 / 3 ^ k := fun y => by
      rw [Nat.div_div_eq_div_mul, Nat.div_div_eq_div_mul, Nat.pow_add, Nat.pow_succ, Nat.mul_assoc]
    rw [e, e, Nat.add_mul_div_right _ _ (Nat.pow_pos (by decide))]
    have w : (x / 3 ^ i + v) / 3 = x / 3 ^ i / 3 := by omega
    rw [w]
theorem add_lt3 {c x i v : Nat} (hv : v ≤ 2) (hx : x < 3 ^ c) (hi : i < c) (h : x / 3 ^ i % 3 = 0) : x + v * 3 ^ i < 3 ^ c := by
  have e := pow3_split hi
  have p0 : 0 < 3 ^ i := Nat.pow_pos (by decide)
  have hd := Nat.div_add_mod x (3 ^ i)
  have hm := Nat.mod_lt x p0
  have hq : x / 3 ^ i < 3 * 3 ^ (c - i - 1) := by
    rw [Nat.div_lt_iff_lt_mul p0, Nat.mul_comm, ← e]; exact hx
  have hq2 : x / 3 ^ i + v + 1 ≤ 3 * 3 ^ (c - i - 1) := by omega
  have hq3 : 3 ^ i * (x / 3 ^ i + v + 1) ≤ 3 ^ c := by rw [e]; exact Nat.mul_le_mul_left _ hq2
  rw [Nat.mul_add, Nat.mul_add, Nat.mul_one, Nat.mul_comm (3 ^ i) v] at hq3
  omega
theorem mkC_add {c x i v : Nat} (hv : v = 1 ∨ v = 2) (hi : i < c) (h : x / 3 ^ i % 3 = 0) : mkC c (x + v * 3 ^ i) = chK v (mkC c x) i ∧ brC c (x + v * 3 ^ i) = chB v (brC c x) i := by
  constructor
  · refine Nat.eq_of_testBit_eq (fun j => ?_)
    rw [tb_mkC, dgt_add (by omega) h]
    unfold chK
    rcases hv with rfl | rfl
    · rw [if_pos rfl, Nat.testBit_or, tb_mkC, tb_bit]
      by_cases e : j = i
      · rw [if_pos e, e]; simp [hi]
      · have e2 : ¬ i = j := fun q => e q.symm
        rw [if_neg e]; simp [e2]
    · rw [if_neg (show ¬ (2 = 1) by decide), tb_mkC]
      by_cases e : j = i
      · rw [if_pos e, e, h]; simp
      · rw [if_neg e]
  · refine Nat.eq_of_testBit_eq (fun j => ?_)
    rw [tb_brC, dgt_add (by omega) h]
    unfold chB
    rcases hv with rfl | rfl
    · rw [if_pos rfl, tb_brC]
      by_cases e : j = i
      · rw [if_pos e, e, h]; simp
      · rw [if_neg e]
    · rw [if_neg (show ¬ (2 = 1) by decide), Nat.testBit_or, tb_brC, tb_bit]
      by_cases e : j = i
      · rw [if_pos e, e]; simp [hi]
      · have e2 : ¬ i = j := fun q => e q.symm
        rw [if_neg e]; simp [e2]
theorem dgt_free {c x i : Nat} (hc : c ≤ 10) : (fre c (mkC c x) (brC c x)).testBit i = true ↔ i < c ∧ x / 3 ^ i % 3 = 0 := by
  rw [tb_fre hc, tb_mkC, tb_brC]
  have := Nat.mod_lt (x / 3 ^ i) (show 0 < 3 by decide)
  by_cases hi : i < c
  · simp only [hi, decide_true, Bool.true_and, Bool.and_eq_true, Bool.not_eq_true', decide_eq_false_iff_not, true_and]
    omega
  · simp [hi]
