/-! the share and its bits -/
def shT (x : Int32) : Nat → Int32
  | 0 => 0
  | i + 1 => if x >>> (nI (i + 1) &&& 31) = 0 then shT x i else nI (i + 1)
def shB (n : Nat) : Int64 := if 0 < nI n then ((Int32.toInt64 (((1023 : Int32) + shT (nI n) 13) - (10 : Int32))) <<< (Int32.toInt64 (52 : Int32) &&& 63)) + ((Int32.toInt64 (nI n - ((1 : Int32) <<< (shT (nI n) 13 &&& 31)))) <<< (Int32.toInt64 ((52 : Int32) - shT (nI n) 13) &&& 63)) else 0
def shF (n : Nat) : UInt64 := FP.ddiv (FP.i2d (nI n)) (4652218415073722368 : UInt64)
abbrev shOk (n : Nat) : Prop := nanok (shF n) ∧ FP.dcmp (shF n) (shF n) = some .eq ∧ UInt64.toInt64 (shF n) = shB n
theorem sh_all1 : ∀ a, a < 48 → ∀ b, b < 128 → shOk (128 * a + b) := by decide +kernel
theorem sh_all2 : ∀ a, a < 49 → ∀ b, b < 128 → shOk (128 * (48 + a) + b) := by decide +kernel
theorem sh_ok {n : Nat} (h : n ≤ 12288) : shOk n := by
  have e : 128 * (n / 128) + n % 128 = n := Nat.div_add_mod n 128
  have l : n % 128 < 128 := Nat.mod_lt n (by decide)
  by_cases q : n / 128 < 48
  · have r := sh_all1 _ q _ l
    rw [e] at r
    exact r
  · have r := sh_all2 (n / 128 - 48) (by omega) _ l
    rw [show 48 + (n / 128 - 48) = n / 128 by omega, e] at r
    exact r
theorem sm_le {f : Nat → Nat} {b : Nat} : ∀ {n : Nat}, (∀ j, j < n → f j ≤ b) → fb_sm f n ≤ n * b
  | 0, _ => by show 0 ≤ _; exact Nat.zero_le _
  | n + 1, h => by
    have q := sm_le (n := n) (fun j hj => h j (by omega))
    have r := h n (by omega)
    show fb_sm f n + f n ≤ _
    rw [Nat.succ_mul]
    omega
theorem bws_le {B : Bd} (hw : Wf B) : bws B ≤ 12288 := by
  have q : bws B ≤ bn B * 1024 := sm_le (fun j _ => by
    unfold wtP
    split
    · exact Nat.shiftRight_le _ _
    · exact Nat.zero_le _)
  have := hw.1.2.2.1
  omega
theorem c_share_l {N : Nat} {x : Int32} : ∀ d k i S, d + (i + 1) = 14 → d < k → f_X6_shareBits_l10 N x k S (shT x i) (nI (i + 1)) = some (((Int32.toInt64 (((1023 : Int32) + shT x 13) - (10 : Int32))) <<< (Int32.toInt64 (52 : Int32) &&& 63)) + ((Int32.toInt64 (x - ((1 : Int32) <<< (shT x 13 &&& 31)))) <<< (Int32.toInt64 ((52 : Int32) - shT x 13) &&& 63)), S) := by
  intro d
  induction d with
  | zero =>
    intro k i S hi hk
    obtain ⟨k, rfl⟩ : ∃ u, k = u + 1 := ⟨k - 1, by omega⟩
    obtain rfl : i = 13 := by omega
    unfold f_X6_shareBits_l10 f_X6_shareBits_b10
    rw [if_pos (show (14 : Int32) ≤ nI (13 + 1) by decide)]
    rfl
  | succ d ih =>
    intro k i S hi hk
    obtain ⟨k, rfl⟩ : ∃ u, k = u + 1 := ⟨k - 1, by omega⟩
    unfold f_X6_shareBits_l10 f_X6_shareBits_b10
    rw [if_neg (nle_c 14 (n := 14) rfl (by omega) (by decide))]
    have r := ih k (i + 1) S (by omega) (by omega)
    rw [shT] at r
    by_cases q : x >>> (nI (i + 1) &&& 31) = 0
    · rw [if_pos q] at r
      rw [if_pos q, nI_p1]
      exact r
    · rw [if_neg q] at r
      rw [if_neg q, nI_p1]
      exact r
theorem c_share {N n : Nat} {S : Hp} (hN0 : 14 < N) : f_X6_shareBits N S (nI n) = some (shB n, S) := by
  unfold f_X6_shareBits shB
  by_cases q : 0 < nI n
  · rw [if_pos q, if_pos q]
    exact c_share_l 13 N 0 S rfl (by omega)
  · rw [if_neg q, if_neg q]
theorem d_bits {N n : Nat} {S : Hp} (h : n ≤ 12288) : f_Jxe99ae_doubleToLongBits_ccdee N S (shF n) = some (shB n, S) := by
  obtain ⟨h1, h2, h3⟩ := sh_ok h
  unfold f_Jxe99ae_doubleToLongBits_ccdee f_Jxe99ae_isNaN_b9ae7
  rw [h2, if_pos (by rfl), cl_s, if_pos rfl, h3]
/-! the hash: a list's values, one after the other -/
def foN (f : Nat → Int64) : Nat → Int64 → Int64
  | 0, h => h
  | n + 1, h => 31 * foN f n h + f n
theorem foN_add (f : Nat → Int64) (a : Nat) (h : Int64) : ∀ b, foN f (a + b) h = foN (fun k => f (a + k)) b (foN f a h)
  | 0 => rfl
  | b + 1 => by
    show 31 * foN f (a + b) h + f (a + b) = 31 * foN (fun k => f (a + k)) b (foN f a h) + f (a + b)
    rw [foN_add f a h b]
theorem foN_cong {f g : Nat → Int64} {h : Int64} : ∀ {n : Nat}, (∀ k, k < n → f k = g k) → foN f n h = foN g n h
  | 0, _ => rfl
  | n + 1, e => by
    show 31 * foN f n h + f n = 31 * foN g n h + g n
    rw [foN_cong (fun k hk => e k (by omega)), e n (by omega)]
def hs1 (A : Ab) : Int64 := foN (fun w => (ctA A w).toInt64) 16 2503
def hs2 (A : Ab) (j : Nat) : Int64 := foN (fun v => (lkL (aN A) (v / 5) (v % 5)).toInt64) j (hs1 A)
def hs3 (A : Ab) : Nat → Int64
  | 0 => hs2 A (5 * bn (aN A))
  | i + 1 => 31 * foN (fun w => (lkC (aN A) i w).toInt64) 4 (hs3 A i) + (imB (aN A) i).toInt64
def hs4 (A : Ab) (r : Nat) : Int64 := foN (fun r => (rplB (aN A) r).toInt64) r (hs3 A (bc (aN A)))
def tl9 (A : Ab) : Nat → Int64
  | 0 => (nI (svB (aN A) 0)).toInt64
  | 1 => (nI (svB (aN A) 1)).toInt64
  | 2 => (nI (plB (aN A) 1 1)).toInt64
  | 3 => (nI (plB (aN A) 1 2)).toInt64
  | 4 => (nI (plB (aN A) 2 3)).toInt64
  | 5 => (nI (plB (aN A) 3 1)).toInt64
  | 6 => shB (bws (aN A))
  | _ => (nI (aL A)).toInt64
def hs5 (A : Ab) (k : Nat) : Int64 := foN (tl9 A) k (hs4 A 4)
def hs6 (A : Ab) (k : Nat) : Int64 := foN (fun k => (nI (aT A k)).toInt64) k (hs5 A 8)
def dgA (A : Ab) : Int64 := hs6 A (aL A)
