/-! PLACES: a sharing of the cells as a number of base 3 -/
def dgt (mk br i : Nat) : Nat := if mk.testBit i = true then 1 else if br.testBit i = true then 2 else 0
def plV (c mk br : Nat) : Nat := fb_sm (fun i => dgt mk br i * 3 ^ i) c
theorem dgt_le (mk br i : Nat) : dgt mk br i ≤ 2 := by
  unfold dgt
  split
  · decide
  · split <;> decide
theorem sum3_lt {f : Nat → Nat} (h : ∀ i, f i ≤ 2) : ∀ c, fb_sm (fun i => f i * 3 ^ i) c < 3 ^ c
  | 0 => Nat.zero_lt_one
  | c + 1 => by
    have ih := sum3_lt h c
    have q := h c
    have m : f c * 3 ^ c ≤ 2 * 3 ^ c := Nat.mul_le_mul_right _ q
    rw [fb_sm_succ, Nat.pow_succ]
    omega
theorem pow3_split {j c : Nat} (h : j < c) : 3 ^ c = 3 ^ j * (3 * 3 ^ (c - j - 1)) := by
  rw [show (3 : Nat) * 3 ^ (c - j - 1) = 3 ^ (c - j) by rw [Nat.mul_comm, ← Nat.pow_succ]; congr 1; omega, ← Nat.pow_add]
  congr 1; omega
theorem add_dgt {x j c v : Nat} (h : j < c) : (x + v * 3 ^ c) / 3 ^ j % 3 = x / 3 ^ j % 3 := by
  rw [pow3_split h, show v * (3 ^ j * (3 * 3 ^ (c - j - 1))) = 3 ^ j * (3 * (v * 3 ^ (c - j - 1))) by rw [Nat.mul_left_comm, Nat.mul_left_comm v 3]]
  rw [Nat.add_mul_div_left _ _ (Nat.pow_pos (by decide)), Nat.add_mul_mod_self_left]
theorem sum3_dgt {f : Nat → Nat} (h : ∀ i, f i ≤ 2) {j : Nat} : ∀ {c : Nat}, j < c → fb_sm (fun i => f i * 3 ^ i) c / 3 ^ j % 3 = f j
  | 0, q => absurd q (Nat.not_lt_zero j)
  | c + 1, q => by
    rw [fb_sm_succ]
    by_cases e : j = c
    · subst e
      rw [Nat.add_mul_div_right _ _ (Nat.pow_pos (by decide)), Nat.div_eq_of_lt (sum3_lt h j), Nat.zero_add, Nat.mod_eq_of_lt (by have := h j; omega)]
    · rw [add_dgt (by omega)]
      exact sum3_dgt h (by omega)
theorem plV_lt (c mk br : Nat) : plV c mk br < 3 ^ c := sum3_lt (dgt_le mk br) c
theorem plV_dgt {c mk br j : Nat} (h : j < c) : plV c mk br / 3 ^ j % 3 = dgt mk br j := sum3_dgt (dgt_le mk br) h
/-- a place tells the sharing -/
theorem plV_inj {c mk br mk' br' : Nat} (h : Pos c mk br) (h' : Pos c mk' br') (e : plV c mk br = plV c mk' br') : mk = mk' ∧ br = br' := by
  have d : ∀ j, j < c → dgt mk br j = dgt mk' br' j := fun j hj => by rw [← plV_dgt hj, e, plV_dgt hj]
  have b1 : ∀ j, (mk.testBit j && br.testBit j) = false := fun j => by
    have q := congrArg (fun w => w.testBit j) h.2.2
    simpa using q
  have b2 : ∀ j, (mk'.testBit j && br'.testBit j) = false := fun j => by
    have q := congrArg (fun w => w.testBit j) h'.2.2
    simpa using q
  have hi : ∀ a j, a < 2 ^ c → c ≤ j → a.testBit j = false := fun a j ha hj => Nat.testBit_lt_two_pow (Nat.lt_of_lt_of_le ha (Nat.pow_le_pow_right (by decide) hj))
  have both : ∀ j, mk.testBit j = mk'.testBit j ∧ br.testBit j = br'.testBit j := by
    intro j
    by_cases hj : j < c
    · have q := d j hj
      have q1 := b1 j
      have q2 := b2 j
      unfold dgt at q
      revert q q1 q2
      cases mk.testBit j <;> cases br.testBit j <;> cases mk'.testBit j <;> cases br'.testBit j <;> simp
    · rw [hi mk j h.1 (by omega), hi mk' j h'.1 (by omega), hi br j h.2.1 (by omega), hi br' j h'.2.1 (by omega)]
      exact ⟨rfl, rfl⟩
  exact ⟨Nat.eq_of_testBit_eq (fun j => (both j).1), Nat.eq_of_testBit_eq (fun j => (both j).2)⟩
/-- the powers that the class adds up -/
def P3 (a : Nat) : Nat := fb_sm (fun i => (if a.testBit i = true then 1 else 0) * 3 ^ i) 10
theorem P3_sum {c mk br : Nat} (hc : c ≤ 10) (h : Pos c mk br) : P3 mk + 2 * P3 br = plV 10 mk br := by
  unfold P3 plV
  rw [Nat.two_mul, ← fb_sm_add, ← fb_sm_add]
  refine fb_sm_cong (fun i hi => ?_)
  have q := congrArg (fun w => w.testBit i) h.2.2
  simp only [Nat.testBit_and, Nat.zero_testBit] at q
  unfold dgt
  cases x : mk.testBit i
  · cases y : br.testBit i
    · simp
    · simp
      omega
  · cases y : br.testBit i
    · simp
    · rw [x, y] at q; cases q
theorem Pos.up {c mk br : Nat} (hc : c ≤ 10) (h : Pos c mk br) : Pos 10 mk br := ⟨Nat.lt_of_lt_of_le h.1 (pw10 hc), Nat.lt_of_lt_of_le h.2.1 (pw10 hc), h.2.2⟩
theorem pl_lt {mk br : Nat} : plV 10 mk br < 59049 := plV_lt 10 mk br
