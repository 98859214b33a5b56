theorem tryL_some {α : Type} {lo : Nat → Bool} {f : Nat × Nat → Option α} {r : α} : ∀ {l : List (Nat × Nat)}, tryL lo f l = some r → ∃ p, p ∈ l ∧ lo p.1 = true ∧ lo p.2 = true ∧ f p = some r
  | [], h => by cases h
  | p :: t, h => by
    rw [tryL_cons] at h
    by_cases g : (lo p.1 && lo p.2) = true
    · rw [if_pos g] at h
      rw [Bool.and_eq_true] at g
      cases e : f p with
      | some r' => rw [e] at h; cases h; exact ⟨p, List.mem_cons_self, g.1, g.2, e⟩
      | none =>
        rw [e] at h
        obtain ⟨q, q1, q2⟩ := tryL_some h
        exact ⟨q, List.mem_cons_of_mem _ q1, q2⟩
    · rw [if_neg g] at h
      obtain ⟨q, q1, q2⟩ := tryL_some h
      exact ⟨q, List.mem_cons_of_mem _ q1, q2⟩
theorem DQ_good {M : Nat → Nat} {br F : Nat} {r : Nat × (Nat → Nat × Nat)} : ∀ (q j s : Nat) (Q : Nat → Nat × Nat), goodQ F s Q → DQ M br F q j s Q = some r → goodQ F r.1 r.2
  | 0, j, s, Q, hg, h => by cases h; exact hg
  | q + 1, j, s, Q, hg, h => by
    rw [DQ] at h
    split at h
    · obtain ⟨p, p1, p2, p3, p4⟩ := tryL_some h
      exact DQ_good q (j + 1) (s + 1) _ (good_push hg (mem_rest (by omega) (Nat.le_refl 0) p1) p2 p3) p4
    · exact DQ_good q (j + 1) s Q hg h
theorem par_ok {B : Bd} (hw : Wf B) (i : Nat) : parOk B i (parB B i) := by
  unfold parB
  cases h : DB B with
  | none => exact Or.inl rfl
  | some r =>
    have hg : goodQ (fre (bc B) (bk B) (bb B)) r.1 r.2 := by
      rw [← DB_c hw] at h
      exact DQ_good _ _ _ _ (fun i hi => absurd hi (Nat.not_lt_zero i)) h
    by_cases e : parOf r.1 r.2 i = -1
    · exact Or.inl e
    · obtain ⟨k, hk, ⟨e1, e2⟩ | ⟨e1, e2⟩⟩ := parOf_is hg e
      · have g := hg k hk
        exact Or.inr ⟨_, e2, g.2.2.2.2.2, by omega⟩
      · have g := hg k hk
        exact Or.inr ⟨_, e2, g.2.2.2.2.1, by omega⟩
/-- the reply that a rule tells, in an open game -/
def rpB (B : Bd) (r : Nat) : Int32 := if r = 0 then lowI (bfre B) else if r = 3 then opI (bmS B 10) else if r = 2 ∧ bp B ≠ -1 then bp B else if lowI (bth B) = -1 then opI (mdS B 10) else lowI (bth B)
theorem lowI_free {a : Nat} (ha : a < 1024) (h : a ≠ 0) : ∃ i, i < 10 ∧ lowI a = nI i ∧ a.testBit i = true := by
  unfold lowI
  rw [if_neg h]
  have l := fa_first_le (fun i => a.testBit i) 10
  have lt : fa_first (fun i => a.testBit i) 10 < 10 := by
    rcases Nat.lt_or_ge (fa_first (fun i => a.testBit i) 10) 10 with q | q
    · exact q
    · exfalso
      apply h
      refine Nat.eq_of_testBit_eq (fun i => ?_)
      rw [Nat.zero_testBit]
      by_cases hi : i < 10
      · exact fa_first_no (fun i => a.testBit i) 10 i (by omega)
      · exact tb_hi ha (by omega)
  exact ⟨_, lt, rfl, fa_first_yes (fun i => a.testBit i) 10 lt⟩
theorem opI_bm {B : Bd} (hw : Wf B) {i : Nat} (hi : (bfre B).testBit i = true) : ∃ b, bmS B 10 = some b := by
  have i10 := fr_lt hw.c10 hi
  have hc := hw.c10
  have up : ∀ d, ∃ b, bmS B (i + 1 + d) = some b := by
    intro d
    induction d with
    | zero =>
      show ∃ b, bmS B (i + 1) = some b
      rw [bmS, if_pos hi]
      cases bmS B i with
      | none => exact ⟨i, rfl⟩
      | some x => simp only; split <;> exact ⟨_, rfl⟩
    | succ d ih =>
      obtain ⟨b, hb⟩ := ih
      show ∃ b, bmS B (i + 1 + d + 1) = some b
      rw [bmS, hb]
      split
      · simp only; split <;> exact ⟨_, rfl⟩
      · exact ⟨b, rfl⟩
  obtain ⟨b, hb⟩ := up (9 - i)
  rw [show i + 1 + (9 - i) = 10 by omega] at hb
  exact ⟨b, hb⟩
theorem opI_md {B : Bd} (hw : Wf B) {i : Nat} (hi : (bfre B).testBit i = true) : ∃ b, mdS B 10 = some b := by
  have i10 := fr_lt hw.c10 hi
  have hc := hw.c10
  have up : ∀ d, ∃ b, mdS B (i + 1 + d) = some b := by
    intro d
    induction d with
    | zero =>
      show ∃ b, mdS B (i + 1) = some b
      rw [mdS, if_pos hi]
      cases mdS B i with
      | none => exact ⟨i, rfl⟩
      | some x => simp only; split <;> exact ⟨_, rfl⟩
    | succ d ih =>
      obtain ⟨b, hb⟩ := ih
      show ∃ b, mdS B (i + 1 + d + 1) = some b
      rw [mdS, hb]
      split
      · simp only; split <;> exact ⟨_, rfl⟩
      · exact ⟨b, rfl⟩
  obtain ⟨b, hb⟩ := up (9 - i)
  rw [show i + 1 + (9 - i) = 10 by omega] at hb
  exact ⟨b, hb⟩
/-- in an open game every rule tells a free cell -/
theorem rp_free {B : Bd} (hw : Wf B) (h0 : bwin B = 0) (r : Nat) : ∃ i, rpB B r = nI i ∧ (bfre B).testBit i = true := by
  obtain ⟨f, hf⟩ := open_free hw.lns h0
  have hF : bfre B < 1024 := fre_lt hw.c10
  have f0 : bfre B ≠ 0 := fun q => by rw [show fre (bc B) (bk B) (bb B) = bfre B from rfl, q, Nat.zero_testBit] at hf; cases hf
  unfold rpB
  by_cases r0 : r = 0
  · rw [if_pos r0]
    obtain ⟨i, -, e, t⟩ := lowI_free hF f0
    exact ⟨i, e, t⟩
  · rw [if_neg r0]
    by_cases r3 : r = 3
    · rw [if_pos r3]
      obtain ⟨b, hb⟩ := opI_bm hw hf
      rw [hb]
      exact ⟨b, rfl, (bmS_lt hb).2⟩
    · rw [if_neg r3]
      by_cases r2 : r = 2 ∧ bp B ≠ -1
      · rw [if_pos r2]
        rcases hw.2.2.2 with q | ⟨i, e, t⟩
        · exact absurd q r2.2
        · exact ⟨i, e, t⟩
      · rw [if_neg r2]
        by_cases t : lowI (bth B) = -1
        · rw [if_pos t]
          obtain ⟨b, hb⟩ := opI_md hw hf
          rw [hb]
          exact ⟨b, rfl, (mdS_lt hb).2⟩
        · rw [if_neg t]
          have n0 : bth B ≠ 0 := fun q => t (by unfold lowI; rw [if_pos q])
          obtain ⟨i, -, e, u⟩ := lowI_free (bth_lt hw) n0
          exact ⟨i, e, th_free u⟩
/-- one move by rules -/
def stpB (B : Bd) (r1 r2 : Nat) : Bd := occB B (rpB B (if bv B = 1 then r1 else r2)).toNatClampNeg (parB B (rpB B (if bv B = 1 then r1 else r2)).toNatClampNeg)
/-- moves by rules: the board behind them, and how many -/
def itB (r1 r2 : Nat) : Nat → Bd → Bd × Nat
  | 0, B => (B, 0)
  | k + 1, B => if bwin B = 0 then ((itB r1 r2 k (stpB B r1 r2)).1, (itB r1 r2 k (stpB B r1 r2)).2 + 1) else (B, 0)
theorem stp_wf {B : Bd} (hw : Wf B) (h0 : bwin B = 0) (r1 r2 : Nat) : Wf (stpB B r1 r2) := by
  obtain ⟨i, e, t⟩ := rp_free hw h0 (if bv B = 1 then r1 else r2)
  have hi := fr_lt hw.c10 t
  have hc := hw.c10
  unfold stpB
  rw [e, nI_clamp (by omega)]
  exact occB_wf hw t (par_ok hw i)
theorem it_wf {r1 r2 : Nat} : ∀ {k : Nat} {B : Bd}, Wf B → Wf (itB r1 r2 k B).1
  | 0, _, h => h
  | k + 1, B, h => by
    unfold itB
    split
    · rename_i g
      exact it_wf (stp_wf h g r1 r2)
    · exact h
