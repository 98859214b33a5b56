theorem first_at {p : Nat → Bool} {n j : Nat} (hj : j < n) (h1 : ∀ i, i < j → p i = false) (h2 : p j = true) : fa_first p n = j := by
  rcases Nat.lt_trichotomy (fa_first p n) j with h | h | h
  · have q := fa_first_yes p n (by omega)
    rw [h1 _ h] at q; cases q
  · exact h
  · have q := fa_first_no p n j h
    rw [h2] at q; cases q
theorem first_none {p : Nat → Bool} {n : Nat} (h : ∀ i, i < n → p i = false) : fa_first p n = n := by
  have a := fa_first_le p n
  rcases Nat.lt_or_ge (fa_first p n) n with q | q
  · have r := fa_first_yes p n q
    rw [h _ q] at r; cases r
  · omega
def anyN (p : Nat → Bool) : Nat → Bool
  | 0 => false
  | n + 1 => anyN p n || p n
theorem anyN_iff {p : Nat → Bool} : ∀ {n : Nat}, anyN p n = true ↔ ∃ j, j < n ∧ p j = true
  | 0 => ⟨fun h => (by cases h), fun ⟨_, h, _⟩ => absurd h (Nat.not_lt_zero _)⟩
  | n + 1 => by
    unfold anyN
    rw [Bool.or_eq_true, anyN_iff (n := n)]
    constructor
    · rintro (⟨j, hj, h⟩ | h)
      · exact ⟨j, by omega, h⟩
      · exact ⟨n, by omega, h⟩
    · rintro ⟨j, hj, h⟩
      by_cases e : j = n
      · subst e; exact Or.inr h
      · exact Or.inl ⟨j, by omega, h⟩
theorem anyN_not {p : Nat → Bool} {n : Nat} : anyN p n = false ↔ ∀ j, j < n → p j = false := by
  rw [← Bool.not_eq_true, anyN_iff]
  constructor
  · intro h j hj
    rw [← Bool.not_eq_true]
    exact fun q => h ⟨j, hj, q⟩
  · rintro h ⟨j, hj, q⟩
    rw [h j hj] at q; cases q
theorem anyN_cong {p q : Nat → Bool} : ∀ {n : Nat}, (∀ k, k < n → p k = q k) → anyN p n = anyN q n
  | 0, _ => rfl
  | n + 1, h => by rw [anyN, anyN, anyN_cong (fun k hk => h k (Nat.lt_succ_of_lt hk)), h n (Nat.lt_succ_self n)]
def orN (f : Nat → Nat) : Nat → Nat
  | 0 => 0
  | n + 1 => orN f n ||| f n
theorem orN_lt {f : Nat → Nat} : ∀ {n : Nat}, (∀ k, k < n → f k < 1024) → orN f n < 1024
  | 0, _ => Nat.zero_lt_succ 1023
  | n + 1, h => or_lt (orN_lt (fun k hk => h k (Nat.lt_succ_of_lt hk))) (h n (Nat.lt_succ_self n))
theorem tb_orN {f : Nat → Nat} (i : Nat) : ∀ {n : Nat}, (orN f n).testBit i = anyN (fun j => (f j).testBit i) n
  | 0 => Nat.zero_testBit i
  | n + 1 => by rw [orN, Nat.testBit_or, tb_orN i (n := n), anyN]
/-- the free cells -/
def fre (c mk br : Nat) : Nat := dif (dif (2 ^ c - 1) mk) br
theorem all_lt {c : Nat} (hc : c ≤ 10) : 2 ^ c - 1 < 1024 := by
  have q : 2 ^ c ≤ 2 ^ 10 := Nat.pow_le_pow_right (by decide) hc
  have r := Nat.two_pow_pos c
  omega
theorem fre_lt {c mk br : Nat} (hc : c ≤ 10) : fre c mk br < 1024 := dif_lt (dif_lt (all_lt hc))
theorem tb_all (c i : Nat) : (2 ^ c - 1).testBit i = decide (i < c) := Nat.testBit_two_pow_sub_one c i
theorem tb_fre {c mk br : Nat} (hc : c ≤ 10) (i : Nat) : (fre c mk br).testBit i = (decide (i < c) && !mk.testBit i && !br.testBit i) := by
  unfold fre
  rw [tb_dif (dif_lt (all_lt hc)), tb_dif (all_lt hc), tb_all]
def isAl (M : Nat → Nat) (br j : Nat) : Bool := decide (M j &&& br = 0)
def wtP (M : Nat → Nat) (c mk br j : Nat) : Nat := if isAl M br j = true then 1024 >>> pop (M j &&& fre c mk br) else 0
def wsP (M : Nat → Nat) (n c mk br : Nat) : Nat := fb_sm (wtP M c mk br) n
def dgP (M : Nat → Nat) (n c mk br i : Nat) : Nat := fb_sm (fun j => if (M j &&& fre c mk br).testBit i = true then wtP M c mk br j else 0) n
def thP (M : Nat → Nat) (n c mk br : Nat) : Nat := orN (fun j => if isAl M br j = true ∧ pop (M j &&& fre c mk br) = 1 then M j &&& fre c mk br else 0) n
def winP (M : Nat → Nat) (n mk br : Nat) : Nat := if anyN (fun j => decide (dif (M j) mk = 0)) n = true then 1 else if anyN (isAl M br) n = true then 0 else 2
def lowI (a : Nat) : Int32 := if a = 0 then -1 else nI (fa_first (fun i => a.testBit i) 10)
theorem winP_le (M : Nat → Nat) (n mk br : Nat) : winP M n mk br ≤ 2 := by
  unfold winP
  split
  · decide
  · split <;> decide
/-- the model's board: c cells, n lines M, the cells mk and br -/
def Mz (S : Hp) (m z c n mk br : Nat) (M : Nat → Nat) : Prop :=
  (ok S m 7 ∧ hR S m 0 = some z ∧ ok S z 8 ∧ hN S z = 22) ∧ (hI S z 0 = nI c ∧ hI S z 2 = nI n ∧ hI S z 3 = nI mk ∧ hI S z 4 = nI br ∧ ∀ j, j < n → hI S z (10 + j) = nI (M j)) ∧ c ≤ 10 ∧ n ≤ 12 ∧ mk < 1024 ∧ br < 1024 ∧ ∀ j, j < n → M j < 1024
theorem tn0 : (0 : Int32).toNatClampNeg = 0 := rfl
theorem tn1 : (1 : Int32).toNatClampNeg = 1 := rfl
theorem tn2 : (2 : Int32).toNatClampNeg = 2 := rfl
theorem tn3 : (3 : Int32).toNatClampNeg = 3 := rfl
theorem tn4 : (4 : Int32).toNatClampNeg = 4 := rfl
theorem tn5 : (5 : Int32).toNatClampNeg = 5 := rfl
theorem tn6 : (6 : Int32).toNatClampNeg = 6 := rfl
theorem tn7 : (7 : Int32).toNatClampNeg = 7 := rfl
section
variable {N : Nat} {S : Hp} {m z c n mk br : Nat} {M : Nat → Nat}
theorem i01 {p : Prop} [Decidable p] : ((if p then (1 : Int32) else 0) = 0) ↔ ¬ p := by
  by_cases h : p <;> simp [h]
theorem i10 {p : Prop} [Decidable p] : ((if p then (0 : Int32) else 1) = 0) ↔ p := by
  by_cases h : p <;> simp [h]
theorem lowI_at {a j : Nat} (hj : j < 10) (h1 : ∀ i, i < j → a.testBit i = false) (h2 : a.testBit j = true) : lowI a = nI j := by
  unfold lowI
  rw [if_neg (fun q => by rw [q, Nat.zero_testBit] at h2; cases h2), first_at hj h1 h2]
theorem thP_lt (hc : c ≤ 10) (hM1 : ∀ j, j < n → M j < 1024) : thP M n c mk br < 1024 := orN_lt (fun j hj => by
  split
  · exact and_lt (hM1 j hj)
  · decide)
end
