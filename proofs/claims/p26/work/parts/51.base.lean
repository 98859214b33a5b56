theorem cl_s {α β : Type} {a : α} {S : Hp} {f : α → Hp → Option β} : cl (some (a, S)) f = f a S := rfl
theorem cz_s {α β : Type} {a : α} {S : Hp} {z : Nat} {f : α → Hp → Nat → Option β} : cz (some (a, S, z)) f = f a S z := rfl
theorem nn_s {α : Type} {a : Nat} {f : Nat → Option α} : nn (some a) f = f a := rfl
theorem nz_s {α : Type} {a : Nat} {x : Option α} {f : Nat → Option α} : nz (some a) x f = f a := rfl
theorem nz_n {α : Type} {x : Option α} {f : Nat → Option α} : nz none x f = x := rfl
theorem bd_d {α β : Type} {x : α} {f : α → Option β} : bd x f = f x := rfl
theorem nI_le_iff {a b : Nat} (ha : a < 2 ^ 31) (hb : b < 2 ^ 31) : nI a ≤ nI b ↔ a ≤ b := by
  rw [Int32.le_iff_toInt_le, nI_toInt ha, nI_toInt hb]; omega
theorem nI_lt_iff {a b : Nat} (ha : a < 2 ^ 31) (hb : b < 2 ^ 31) : nI a < nI b ↔ a < b := by
  rw [Int32.lt_iff_toInt_lt, nI_toInt ha, nI_toInt hb]; omega
theorem nI_eq_iff {a b : Nat} (ha : a < 2 ^ 31) (hb : b < 2 ^ 31) : nI a = nI b ↔ a = b := by
  refine ⟨fun h => ?_, fun h => by rw [h]⟩
  have q := congrArg Int32.toInt h
  rw [nI_toInt ha, nI_toInt hb] at q
  omega
theorem nI_eq0 {a : Nat} (ha : a < 2 ^ 31) : nI a = 0 ↔ a = 0 := nI_eq_iff (b := 0) ha (by decide)
theorem nI_plus (a b : Nat) : nI a + nI b = nI (a + b) := (Int32.ofNat_add a b).symm
theorem nI_p1 (a : Nat) : nI a + (1 : Int32) = nI (a + 1) := nI_plus a 1
theorem nI_m1 (a : Nat) : nI (a + 1) - (1 : Int32) = nI a := nI_pred a
theorem nI_minus {a b : Nat} (h : b ≤ a) : nI a - nI b = nI (a - b) := by
  have q : nI a = nI (a - b) + nI b := by rw [nI_plus, Nat.sub_add_cancel h]
  rw [q, Int32.add_sub_cancel]
theorem bt_nI {a i : Nat} (hi : i < 32) : bt (nI a) i = a.testBit i := by
  unfold bt nI
  show (BitVec.ofNat 32 a).getLsbD i = _
  rw [BitVec.getLsbD_ofNat]
  simp [hi]
theorem tb_hi {a i : Nat} (ha : a < 1024) (hi : 10 ≤ i) : a.testBit i = false := Nat.testBit_lt_two_pow (Nat.lt_of_lt_of_le ha (show 2 ^ 10 ≤ 2 ^ i from Nat.pow_le_pow_right (by decide) hi))
theorem tb_1023 (i : Nat) : (1023 : Nat).testBit i = decide (i < 10) := Nat.testBit_two_pow_sub_one 10 i
/-- the cells of a that are not of b -/
def dif (a b : Nat) : Nat := a &&& (1023 ^^^ b)
theorem tb_dif {a b : Nat} (ha : a < 1024) (i : Nat) : (dif a b).testBit i = (a.testBit i && !b.testBit i) := by
  unfold dif
  rw [Nat.testBit_and, Nat.testBit_xor, tb_1023]
  by_cases h : i < 10
  · simp [h]
  · rw [tb_hi ha (by omega)]; rfl
theorem dif_lt {a b : Nat} (ha : a < 1024) : dif a b < 1024 := Nat.lt_of_le_of_lt Nat.and_le_left ha
theorem and_lt {a b : Nat} (ha : a < 1024) : a &&& b < 1024 := Nat.lt_of_le_of_lt Nat.and_le_left ha
theorem or_lt {a b : Nat} (ha : a < 1024) (hb : b < 1024) : a ||| b < 1024 := Nat.or_lt_two_pow (n := 10) ha hb
theorem nI_dif {a b : Nat} (ha : a < 1024) : nI a &&& (nI b ^^^ (-1 : Int32)) = nI (dif a b) := by
  refine b_ext (fun i hi => ?_)
  rw [b_and, b_xor, b_m1 i hi, bt_nI hi, bt_nI hi, bt_nI hi, tb_dif ha]
  simp
theorem nI_and (a b : Nat) : nI a &&& nI b = nI (a &&& b) := fa_and a b
theorem nI_or (a b : Nat) : nI a ||| nI b = nI (a ||| b) := fa_or a b
theorem nI_all : ∀ c, c < 11 → ((1 : Int32) <<< (nI c &&& 31)) - 1 = nI (2 ^ c - 1) := by decide +kernel
theorem nI_bit : ∀ c, c < 31 → (1 : Int32) <<< (nI c &&& 31) = nI (2 ^ c) := by decide +kernel
theorem nI_shr {a i : Nat} (ha : a < 2 ^ 31) (hi : i < 32) : nI a >>> (nI i &&& 31) = nI (a >>> i) := by
  refine b_ext (fun j hj => ?_)
  rw [b_sshr i hi _ hj, bt_nI hj, Nat.testBit_shiftRight]
  have q : ∀ k, 31 ≤ k → a.testBit k = false := fun k hk => Nat.testBit_lt_two_pow (Nat.lt_of_lt_of_le ha (Nat.pow_le_pow_right (by decide) hk))
  by_cases h : i + j < 32
  · rw [if_pos h, bt_nI h]
  · rw [if_neg h, bt_nI (by decide), q 31 (by decide), q (i + j) (by omega)]
theorem nI_mbit {a i : Nat} (hi : i < 31) : (nI a &&& ((1 : Int32) <<< (nI i &&& 31)) = 0) ↔ a.testBit i = false := by
  rw [nI_bit i hi]
  exact fa_bit hi
/-- how many cells -/
def pop (a : Nat) : Nat := fb_ct (fun i => a.testBit i) 10
theorem pop_le (a : Nat) : pop a ≤ 10 := fb_ct_le _ 10
theorem bitc_pop : ∀ a, a < 1024 → bitc (nI a) = nI (pop a) := by decide +kernel
theorem pop_0 {a : Nat} (ha : a < 1024) : pop a = 0 ↔ a = 0 := by
  refine ⟨fun h => ?_, fun h => by rw [h]; rfl⟩
  refine Nat.eq_of_testBit_eq (fun i => ?_)
  rw [Nat.zero_testBit]
  by_cases hi : i < 10
  · exact fb_ct_zero.mp h i hi
  · exact tb_hi ha (by omega)
theorem i1024 {n : Nat} (h : n ≤ 10) : (1024 : Int32) >>> (nI n &&& 31) = nI (1024 >>> n) := nI_shr (a := 1024) (by decide) (by omega)
theorem nle10 {i : Nat} (h : i < 10) : ¬ (10 : Int32) ≤ nI i := fun q => absurd ((nI_le_iff (a := 10) (by decide) (by omega)).mp q) (by omega)
theorem nI_eq1 {a : Nat} (ha : a < 2 ^ 31) : nI a = (1 : Int32) ↔ a = 1 := nI_eq_iff (b := 1) ha (by decide)
theorem nI_eq2 {a : Nat} (ha : a < 2 ^ 31) : nI a = (2 : Int32) ↔ a = 2 := nI_eq_iff (b := 2) ha (by decide)
