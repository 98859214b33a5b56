section
variable {N : Nat} {S : Hp} {so Ls as_ kn pw c n b mk br : Nat} {M : Nat → Nat} {e : Bool}
def bestS (F : Nat) (W : Nat → Nat × Nat) (i : Nat) : Int32 := if anyN (canV F W) i = true then nI (1 + shN (canV F W) (fun i => (W i).2) i) else -1
def bestL (F : Nat) (W : Nat → Nat × Nat) (i : Nat) : Int32 := if anyN (canV F W) i = true then nI (1 + loN (canV F W) (fun i => (W i).2) i) else 0
def resL (X : Nat) (W : Nat → Nat × Nat) : Int32 := if anyN (brkV X W) 10 = true then -1 else bestL X W 10
/-- a position, the solver's state about it -/
def SP (S : Hp) (so Ls as_ kn pw c n : Nat) (M : Nat → Nat) (e : Bool) (b : Nat) : Prop := SV S so Ls as_ kn pw c n M e b ∧ Memo S kn c n M e b
/-- how a search ends -/
def SEnd (Ls kn c n : Nat) (M : Nat → Nat) (e : Bool) (b : Nat) (S : Hp) (r : Int32) (run : Option (Int32 × Hp)) : Prop := ∃ T, run = some (r, T) ∧ Fr [Ls, kn] S T ∧ hI T Ls 1 = hI S Ls 1 ∧ Memo T kn c n M e b
theorem SEnd.after {r : Int32} {T : Hp} {run : Option (Int32 × Hp)} (f : Fr [Ls, kn] S T) (h1 : hI T Ls 1 = hI S Ls 1) (h : SEnd Ls kn c n M e b T r run) : SEnd Ls kn c n M e b S r run := by
  obtain ⟨U, u1, u2, u3, u4⟩ := h
  exact ⟨U, u1, f.tr u2, u3.trans h1, u4⟩
/-- the maker's moves, one after another -/
theorem c_short_l (hl : Lns c n M) (hp : Pos c mk br) {se : Hp → Nat → Int32 → Int32 → Int32 → Int32 → Option (Int32 × Hp)} {dep : Nat}
    (ih : ∀ (S : Hp) (i : Nat), SP S so Ls as_ kn pw c n M e b → (fre c mk br).testBit i = true → SEnd Ls kn c n M e b S (Lv c n M (chK 1 mk i) (chB 1 br i) 2) (se S so (nI (chK 1 mk i)) (nI (chB 1 br i)) 0 (nI (dep + 1))))
    {W : Nat → Nat × Nat} (hW : ∀ i, W i = VV c n M (chK 1 mk i) (chB 1 br i) 2) :
    ∀ d k i S, i + d = 10 → d < k → SP S so Ls as_ kn pw c n M e b → SEnd Ls kn c n M e b S (bestS (fre c mk br) W 10) (f_X3_shortest_l30 se N so (nI mk) (nI br) (nI dep) k S (nI (fre c mk br)) (bestS (fre c mk br) W i) (nI i)) := by
  intro d
  induction d with
  | zero =>
    intro k i S hi hk h
    obtain ⟨k, rfl⟩ : ∃ x, k = x + 1 := ⟨k - 1, by omega⟩
    obtain rfl : i = 10 := by omega
    unfold f_X3_shortest_l30 f_X3_shortest_b30
    rw [if_pos (show (10 : Int32) ≤ nI 10 by decide)]
    exact ⟨S, rfl, Fr.rf, rfl, h.2⟩
  | succ d ihd =>
    intro k i S hi hk h
    obtain ⟨k, rfl⟩ : ∃ x, k = x + 1 := ⟨k - 1, by omega⟩
    have on := fun S h => ihd k (i + 1) S (by omega) (by omega) h
    unfold f_X3_shortest_l30 f_X3_shortest_b30
    rw [if_neg (nle10 (by omega)), nI_p1]
    cases t : (fre c mk br).testBit i
    · rw [if_pos ((nI_mbit (by omega)).mpr t)]
      have cn : canV (fre c mk br) W i = false := by unfold canV; rw [t]; rfl
      have eb : bestS (fre c mk br) W (i + 1) = bestS (fre c mk br) W i := by
        unfold bestS
        rw [anyN, shN, cn, Bool.or_false, if_neg (show ¬ (false = true ∧ _) from fun q => by cases q.1)]
      rw [← eb]
      exact on S h
    · rw [if_neg (fun q => by rw [(nI_mbit (by omega)).mp q] at t; cases t), gd_pos h.1.1.1, nI_bit i (by omega), nI_or, nI_p1]
      obtain ⟨T, t1, t2, t3, t4⟩ := ih S i h t
      have t1' : se S so (nI (mk ||| 2 ^ i)) (nI br) 0 (nI (dep + 1)) = some (Lv c n M (chK 1 mk i) (chB 1 br i) 2, T) := t1
      rw [t1', cl_s]
      have hT : SP T so Ls as_ kn pw c n M e b := ⟨h.1.fr t2 t3, t4⟩
      have go : ∀ v, v = bestS (fre c mk br) W (i + 1) → SEnd Ls kn c n M e b S (bestS (fre c mk br) W 10) (f_X3_shortest_l30 se N so (nI mk) (nI br) (nI dep) k T (nI (fre c mk br)) v (nI (i + 1))) := fun v hv => by
        rw [hv]
        exact (on T hT).after t2 t3
      have hpc := hp.ch (v := 1) hl.1 t
      by_cases g : (W i).1 = 1
      · have cn : canV (fre c mk br) W i = true := canV_iff.mpr ⟨t, g⟩
        have len := VV_len hl _ (chK 1 mk i) (chB 1 br i) 2 (Nat.le_refl _) (by rw [← hW]; exact g)
        have p10 := pop_le (fre c (chK 1 mk i) (chB 1 br i))
        rw [← hW] at len
        have el : Lv c n M (chK 1 mk i) (chB 1 br i) 2 = nI (W i).2 := by unfold Lv; rw [← hW, if_pos g]
        rw [el, if_neg (nI_nm1 (by omega)), nI_p1]
        cases a : anyN (canV (fre c mk br) W) i
        · rw [if_pos (by unfold bestS; rw [a]; rfl)]
          refine go _ ?_
          unfold bestS
          rw [anyN, cn, Bool.or_true, if_pos rfl, shN, shN_none a, if_pos ⟨cn, by omega⟩, Nat.add_comm]
        · have s22 : shN (canV (fre c mk br) W) (fun i => (W i).2) i ≤ 22 := by
            clear go on
            exact (fun (g : Nat → Bool) (l : Nat → Nat) => Nat.rec (motive := fun i => shN g l i ≤ 22) (Nat.le_refl 22) (fun i ihi => by
              show (if g i = true ∧ l i < shN g l i then l i else shN g l i) ≤ 22
              split
              · rename_i q; omega
              · exact ihi) i) _ _
          have eb : bestS (fre c mk br) W i = nI (1 + shN (canV (fre c mk br) W) (fun i => (W i).2) i) := by unfold bestS; rw [a, if_pos rfl]
          rw [eb, if_neg (nI_nm1 (by omega))]
          by_cases q : shN (canV (fre c mk br) W) (fun i => (W i).2) i ≤ (W i).2
          · rw [if_pos (nI_le (by omega) (by omega))]
            refine go _ ?_
            unfold bestS
            rw [anyN, cn, Bool.or_true, if_pos rfl, shN, if_neg (fun w => absurd w.2 (by omega))]
          · rw [if_neg (nle_i (by omega) (by omega))]
            refine go _ ?_
            unfold bestS
            rw [anyN, cn, Bool.or_true, if_pos rfl, shN, if_pos ⟨cn, by omega⟩, Nat.add_comm]
      · have cn : canV (fre c mk br) W i = false := by
          cases z : canV (fre c mk br) W i
          · rfl
          · exact absurd (canV_iff.mp z).2 g
        have el : Lv c n M (chK 1 mk i) (chB 1 br i) 2 = -1 := by unfold Lv; rw [← hW, if_neg g]
        rw [el, if_pos rfl]
        refine go _ ?_
        unfold bestS
        rw [anyN, shN, cn, Bool.or_false, if_neg (show ¬ (false = true ∧ _) from fun q => by cases q.1)]
/-- the breaker's moves, one after another, of the cells X -/
theorem c_long_l (hl : Lns c n M) (hp : Pos c mk br) {X : Nat} (hX : ∀ i, X.testBit i = true → (fre c mk br).testBit i = true) {se : Hp → Nat → Int32 → Int32 → Int32 → Int32 → Option (Int32 × Hp)} {dep : Nat}
    (ih : ∀ (S : Hp) (i : Nat), SP S so Ls as_ kn pw c n M e b → (fre c mk br).testBit i = true → SEnd Ls kn c n M e b S (Lv c n M (chK 2 mk i) (chB 2 br i) 1) (se S so (nI (chK 2 mk i)) (nI (chB 2 br i)) 1 (nI (dep + 1))))
    {W : Nat → Nat × Nat} (hW : ∀ i, W i = VV c n M (chK 2 mk i) (chB 2 br i) 1) :
    ∀ d k i S, i + d = 10 → d < k → SP S so Ls as_ kn pw c n M e b → anyN (brkV X W) i = false → SEnd Ls kn c n M e b S (resL X W) (f_X3_longest_l63 se N so (nI mk) (nI br) (nI dep) k S (nI X) (bestL X W i) (nI i)) := by
  intro d
  induction d with
  | zero =>
    intro k i S hi hk h hno
    obtain ⟨k, rfl⟩ : ∃ x, k = x + 1 := ⟨k - 1, by omega⟩
    obtain rfl : i = 10 := by omega
    unfold f_X3_longest_l63 f_X3_longest_b63
    rw [if_pos (show (10 : Int32) ≤ nI 10 by decide), show resL X W = bestL X W 10 by unfold resL; rw [hno, if_neg (by decide)]]
    exact ⟨S, rfl, Fr.rf, rfl, h.2⟩
  | succ d ihd =>
    intro k i S hi hk h hno
    obtain ⟨k, rfl⟩ : ∃ x, k = x + 1 := ⟨k - 1, by omega⟩
    have on := fun S h => ihd k (i + 1) S (by omega) (by omega) h
    unfold f_X3_longest_l63 f_X3_longest_b63
    rw [if_neg (nle10 (by omega)), nI_p1]
    cases t : X.testBit i
    · rw [if_pos ((nI_mbit (by omega)).mpr t)]
      have cn : canV X W i = false := by unfold canV; rw [t]; rfl
      have bn : brkV X W i = false := by unfold brkV; rw [t]; rfl
      have eb : bestL X W (i + 1) = bestL X W i := by
        unfold bestL
        rw [anyN, loN, cn, Bool.or_false, if_neg (show ¬ (false = true ∧ _) from fun q => by cases q.1)]
      rw [← eb]
      exact on S h (by rw [anyN, hno, bn]; rfl)
    · have tf := hX i t
      rw [if_neg (fun q => by rw [(nI_mbit (by omega)).mp q] at t; cases t), gd_pos h.1.1.1, nI_bit i (by omega), nI_or, nI_p1]
      obtain ⟨T, t1, t2, t3, t4⟩ := ih S i h tf
      have t1' : se S so (nI mk) (nI (br ||| 2 ^ i)) 1 (nI (dep + 1)) = some (Lv c n M (chK 2 mk i) (chB 2 br i) 1, T) := t1
      rw [t1', cl_s]
      have hT : SP T so Ls as_ kn pw c n M e b := ⟨h.1.fr t2 t3, t4⟩
      have e12 := VV_12 (n := n) (M := M) (mk := chK 2 mk i) (br := chB 2 br i) (v := 1) hl.1
      rw [← hW] at e12
      by_cases g : (W i).1 = 1
      · have cn : canV X W i = true := canV_iff.mpr ⟨t, g⟩
        have bn : brkV X W i = false := by
          cases z : brkV X W i
          · rfl
          · have := (brkV_iff.mp z).2; omega
        have len := VV_len hl _ (chK 2 mk i) (chB 2 br i) 1 (Nat.le_refl _) (by rw [← hW]; exact g)
        have p10 := pop_le (fre c (chK 2 mk i) (chB 2 br i))
        rw [← hW] at len
        have el : Lv c n M (chK 2 mk i) (chB 2 br i) 1 = nI (W i).2 := by unfold Lv; rw [← hW, if_pos g]
        have lb : loN (canV X W) (fun i => (W i).2) i ≤ 10 := loN_le (fun k hk q => by
          have g2 := canV_iff.mp q
          have l2 := VV_len hl _ (chK 2 mk k) (chB 2 br k) 1 (Nat.le_refl _) (by rw [← hW]; exact g2.2)
          have p2 := pop_le (fre c (chK 2 mk k) (chB 2 br k))
          rw [← hW] at l2
          show (W k).2 ≤ 10
          omega)
        rw [el, if_neg (nI_nm1 (by omega)), bd_d, nI_p1]
        have eb : imax (bestL X W i) (nI ((W i).2 + 1)) = bestL X W (i + 1) := by
          unfold bestL
          rw [anyN, cn, Bool.or_true, if_pos rfl, loN]
          unfold imax
          cases a : anyN (canV X W) i
          · rw [if_neg (show ¬ (false = true) by decide), if_pos (show (0 : Int32) < nI ((W i).2 + 1) from nI_lt (a := 0) (by omega) (by omega))]
            have l0 : loN (canV X W) (fun i => (W i).2) i = 0 := Nat.le_zero.mp (loN_le (fun k hk q => by
              rw [anyN_not.mp a k hk] at q; cases q))
            rw [l0]
            by_cases q : 0 < (W i).2
            · rw [if_pos ⟨cn, q⟩, Nat.add_comm]
            · rw [if_neg (fun w => q w.2), show (W i).2 = 0 by omega]
          · rw [if_pos rfl]
            by_cases q : loN (canV X W) (fun i => (W i).2) i < (W i).2
            · rw [if_pos (nI_lt (by omega) (by omega)), if_pos ⟨cn, q⟩, Nat.add_comm]
            · rw [if_neg (nI_nlt (by omega) (by omega)), if_neg (fun w => q w.2)]
        rw [eb]
        exact (on T hT (by rw [anyN, hno, bn]; rfl)).after t2 t3
      · have g2 : (W i).1 = 2 := by omega
        have el : Lv c n M (chK 2 mk i) (chB 2 br i) 1 = -1 := by unfold Lv; rw [← hW, if_neg g]
        rw [el, if_pos rfl, show resL X W = -1 by unfold resL; rw [if_pos (anyN_iff.mpr ⟨i, by omega, brkV_iff.mpr ⟨t, g2⟩⟩)]]
        exact ⟨T, rfl, t2, t3, t4⟩
end
