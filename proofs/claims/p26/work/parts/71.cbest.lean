/-- the value behind a move at i -/
def bWV (B : Bd) (i : Nat) : Nat × Nat := VV (bc B) (bn B) (bM B) (chK (bv B) (bk B) i) (chB (bv B) (bb B) i) (3 - bv B)
/-- how good it is for the mover -/
def rkB (B : Bd) (i : Nat) : Nat := if bv B = 1 then (if (bWV B i).1 = 1 then 100 - (bWV B i).2 else 0) else (if (bWV B i).1 = 1 then (bWV B i).2 else 100)
/-- the lowest one of the best free cells below i -/
def bmS (B : Bd) : Nat → Option Nat
  | 0 => none
  | i + 1 => if (bfre B).testBit i = true then (match bmS B i with
    | none => some i
    | some b => if rkB B b < rkB B i then some i else some b) else bmS B i
theorem bmS_lt {B : Bd} : ∀ {i b : Nat}, bmS B i = some b → b < i ∧ (bfre B).testBit b = true
  | 0, b, h => by cases h
  | i + 1, b, h => by
    unfold bmS at h
    split at h
    · rename_i g
      split at h
      · cases h; exact ⟨by omega, g⟩
      · rename_i b' hb
        split at h
        · cases h; exact ⟨by omega, g⟩
        · cases h; have := bmS_lt hb; exact ⟨by omega, this.2⟩
    · have := bmS_lt h; exact ⟨by omega, this.2⟩
theorem bWV_len {B : Bd} (hw : Wf B) (i : Nat) (h : (bWV B i).1 = 1) : (bWV B i).2 ≤ 10 := by
  have q := VV_len hw.lns _ (chK (bv B) (bk B) i) (chB (bv B) (bb B) i) (3 - bv B) (Nat.le_refl _) h
  have p := pop_le (fre (bc B) (chK (bv B) (bk B) i) (chB (bv B) (bb B) i))
  unfold bWV
  omega
theorem rkB_le {B : Bd} (hw : Wf B) (i : Nat) : rkB B i ≤ 100 := by
  have q := bWV_len hw i
  unfold rkB
  split
  · split <;> omega
  · split
    · rename_i h; have := q h; omega
    · omega
theorem and_bit {a i : Nat} : a &&& 2 ^ i = if a.testBit i = true then 2 ^ i else 0 := by
  refine Nat.eq_of_testBit_eq (fun j => ?_)
  rw [Nat.testBit_and, tb_bit]
  by_cases e : i = j
  · rw [← e]
    cases h : a.testBit i
    · simp
    · simp
  · cases h : a.testBit i
    · simp [e]
    · rw [if_pos rfl, tb_bit]; simp [e]
section
variable {N : Nat} {S : Hp} {s L a so Ls as_ kn pw nb b : Nat} {B : Bd}
theorem c_rank (hw : Wf B) (i : Nat) : f_X3_rankOf N S (Lv (bc B) (bn B) (bM B) (chK (bv B) (bk B) i) (chB (bv B) (bb B) i) (3 - bv B)) (if bv B = 1 then 1 else 0) = some (nI (rkB B i), S) := by
  have q := bWV_len hw i
  have el : Lv (bc B) (bn B) (bM B) (chK (bv B) (bk B) i) (chB (bv B) (bb B) i) (3 - bv B) = if (bWV B i).1 = 1 then nI (bWV B i).2 else -1 := rfl
  rw [el]
  unfold f_X3_rankOf rkB
  rcases hw.2.2.1 with v | v
  · rw [v, if_neg (show ¬ ((if 1 = 1 then (1 : Int32) else 0) = 0) by decide), if_pos rfl]
    by_cases g : (bWV B i).1 = 1
    · have := q g
      rw [if_pos g, if_pos g, if_neg (nI_nm1 (by omega)), show (100 : Int32) = nI 100 from rfl, nI_minus (by omega)]
    · rw [if_neg g, if_neg g, if_pos rfl]; rfl
  · rw [v, if_pos (show (if 2 = 1 then (1 : Int32) else 0) = 0 from rfl), if_neg (show ¬ (2 = 1) by decide)]
    by_cases g : (bWV B i).1 = 1
    · have := q g
      rw [if_pos g, if_pos g, if_neg (nI_nm1 (by omega))]
    · rw [if_neg g, if_neg g, if_pos rfl]; rfl
theorem c_best_l (hw : Wf B) (hN : 12 < N) (hb : b < 2 ^ 27) (d1 : Ls ≠ L) (d3 : kn ≠ a) : ∀ d k i S, i + d = 10 → d < k → StV S s L a B → SP S so Ls as_ kn pw (bc B) (bn B) (bM B) (bev B) b →
    ∃ T, f_X3_bestMove_l24 N so s k S (if bv B = 1 then 1 else 0) (nI (bfre B)) (opI (bmS B i)) (match bmS B i with | none => (-1 : Int32) | some x => nI (rkB B x)) (nI i) = some (opI (bmS B 10), T) ∧ Fr [Ls, kn] S T ∧ StV T s L a B ∧ SP T so Ls as_ kn pw (bc B) (bn B) (bM B) (bev B) b := by
  intro d
  induction d with
  | zero =>
    intro k i S hi hk h hs
    obtain ⟨k, rfl⟩ : ∃ x, k = x + 1 := ⟨k - 1, by omega⟩
    obtain rfl : i = 10 := by omega
    unfold f_X3_bestMove_l24 f_X3_bestMove_b24
    rw [if_pos (show (10 : Int32) ≤ nI 10 by decide)]
    exact ⟨S, rfl, Fr.rf, h, hs⟩
  | succ d ih =>
    intro k i S hi hk h hs
    obtain ⟨k, rfl⟩ : ∃ x, k = x + 1 := ⟨k - 1, by omega⟩
    have on := fun S => ih k (i + 1) S (by omega) (by omega)
    unfold f_X3_bestMove_l24 f_X3_bestMove_b24
    rw [if_neg (nle10 (by omega)), bd_d, nI_p1, nI_bit i (by omega), nI_and, and_bit]
    cases g : (bfre B).testBit i
    · rw [if_neg (show ¬ (false = true) by decide), if_pos (show nI 0 = 0 from rfl)]
      have e : bmS B (i + 1) = bmS B i := by rw [bmS, if_neg (by rw [g]; decide)]
      rw [← e]
      exact on S h hs
    · rw [if_pos rfl, if_neg (nI_ne0 (Nat.two_pow_pos i) (Nat.pow_lt_pow_right (by decide) (by omega)))]
      have po := pop_or_ch (v := bv B) hw.c10 g
      have pf := pop_le (fre (bc B) (chK (bv B) (bk B) i) (chB (bv B) (bb B) i))
      obtain ⟨T, t1, t2, t3, t4⟩ := c_searchD (N := N) hN hb hw.lns 13 (chK (bv B) (bk B) i) (chB (bv B) (bb B) i) 1 S (hw.pos.ch hw.c10 g) (by omega) (by omega) hs
      rw [mvr_ch hw.c10 g, mvr_bev hw] at t1
      have o2 : s ≠ Ls := ok_ne h.1.1 hs.1.2.1.1.1 (by decide)
      have o4 : s ≠ kn := ok_ne h.1.1 hs.1.2.2.1.1 (by decide)
      have p4 : L ≠ kn := ok_ne h.2.1.1.1 hs.1.2.2.1.1 (by decide)
      have q2 : a ≠ Ls := ok_ne h.2.1.1.2.2.1 hs.1.2.1.1.1 (by decide)
      have hT : StV T s L a B := h.fr t2 (by simp [o2, o4]) (by simp [d1.symm, p4]) (by simp [q2, d3.symm])
      have sT : SP T so Ls as_ kn pw (bc B) (bn B) (bM B) (bev B) b := ⟨hs.1.fr t2 t3, t4⟩
      have tail : ∃ U, f_X3_bestMove_b98 N so s (f_X3_bestMove_l24 N so s k) S (if bv B = 1 then 1 else 0) (nI (bfre B)) (opI (bmS B i)) (match bmS B i with | none => (-1 : Int32) | some x => nI (rkB B x)) (nI i) (if 3 - bv B = 1 then 1 else 0) (nI (chB (bv B) (bb B) i)) (nI (chK (bv B) (bk B) i)) so = some (opI (bmS B 10), U) ∧ Fr [Ls, kn] S U ∧ StV U s L a B ∧ SP U so Ls as_ kn pw (bc B) (bn B) (bM B) (bev B) b := by
        have t1' : f_X3_search N S so (nI (chK (bv B) (bk B) i)) (nI (chB (bv B) (bb B) i)) (if 3 - bv B = 1 then 1 else 0) 1 = some (Lv (bc B) (bn B) (bM B) (chK (bv B) (bk B) i) (chB (bv B) (bb B) i) (3 - bv B), T) := t1
        obtain ⟨U, u1, u2, u3⟩ := on T hT sT
        unfold f_X3_bestMove_b98
        rw [gd_pos hs.1.1.1, t1', cl_s, c_rank hw, cl_s, nI_p1]
        refine ⟨U, ?_, t2.tr u2, u3⟩
        have r1 := rkB_le hw i
        cases m : bmS B i with
        | none =>
          rw [show bmS B (i + 1) = some i by rw [bmS, if_pos g, m]] at u1
          rw [if_neg (fun q => absurd q (by
            rw [Int32.le_iff_toInt_le, nI_toInt (by omega), show (-1 : Int32).toInt = -1 from rfl]; omega))]
          exact u1
        | some x =>
          have r2 := rkB_le hw x
          by_cases c1 : rkB B x < rkB B i
          · rw [show bmS B (i + 1) = some i by rw [bmS, if_pos g, m]; simp [c1]] at u1
            simp only
            rw [if_neg (nle_i c1 (by omega))]
            exact u1
          · rw [show bmS B (i + 1) = some x by rw [bmS, if_pos g, m]; simp [c1]] at u1
            simp only
            rw [if_pos (nI_le (by omega) (by omega))]
            exact u1
      rcases hw.2.2.1 with v | v
      · rw [v] at tail ⊢
        rw [if_neg (show ¬ ((if 1 = 1 then (1 : Int32) else 0) = 0) by decide), gd_pos h.1.1, h.2.2.2.1, nI_or]
        unfold f_X3_bestMove_b62 f_X3_bestMove_b82
        rw [if_neg (show ¬ ((if 1 = 1 then (1 : Int32) else 0) = 0) by decide), gd_pos h.1.1, h.2.2.2.2.1, if_neg (show ¬ ((if 1 = 1 then (1 : Int32) else 0) = 0) by decide)]
        exact tail
      · rw [v] at tail ⊢
        rw [if_pos (show (if 2 = 1 then (1 : Int32) else 0) = 0 from rfl), gd_pos h.1.1, h.2.2.2.1]
        unfold f_X3_bestMove_b62 f_X3_bestMove_b82
        rw [if_pos (show (if 2 = 1 then (1 : Int32) else 0) = 0 from rfl), gd_pos h.1.1, h.2.2.2.2.1, nI_or, if_pos (show (if 2 = 1 then (1 : Int32) else 0) = 0 from rfl)]
        exact tail
theorem c_bestMove (h : StV S s L a B) (hw : Wf B) (hN0 : 12 < N) (h0 : SolV S so Ls as_ kn pw nb) (hb : nb + 1 < 2 ^ 27) (d1 : Ls ≠ L) (d2 : as_ ≠ a) (d3 : kn ≠ a) (d4 : pw ≠ a) (d5 : pw ≠ as_) : ∃ T, f_X3_bestMove N S so s = some (opI (bmS B 10), T) ∧ Fr [so, Ls, as_, kn] S T ∧ StV T s L a B ∧ SolV T so Ls as_ kn pw (nb + 1) := by
  obtain ⟨T, b', t1, t2, t3, t4, t5⟩ := c_prepare (N := N) h hw hN0 h0 hb d1 d2 d3 d4 d5
  obtain ⟨U, u1, u2, u3, u4⟩ := c_best_l (N := N) hw hN0 (by omega) d1 d3 10 N 0 T rfl (by omega) t3 t5
  refine ⟨U, ?_, t2.tr (u2.mono (by simp)), u3, ⟨_, _, _, _, b', t4, hw.lns, u4⟩⟩
  unfold f_X3_bestMove
  rw [gd_pos (by
    obtain ⟨_, _, _, _, _, _, _, q⟩ := h0
    exact q.1.1.1), t1, cl_s, gd_pos t3.1.1, c_freeCells t3 hw, cl_s, t3.2.2.2.2.2.1]
  exact u1
end
