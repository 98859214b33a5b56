/-- two cells a pair, no cell twice -/
theorem good_ct {F : Nat} {Q : Nat → Nat × Nat} : ∀ {s : Nat}, goodQ F s Q → fb_ct (covQ s Q) 10 = 2 * s
  | 0, _ => by
    rw [fb_ct_cong (p := covQ 0 Q) (q := fun _ => false) (fun k _ => rfl)]
    rfl
  | s + 1, h => by
    have ih := good_ct (good_pop h)
    have g := h s (by omega)
    have e : fb_ct (covQ (s + 1) Q) 10 = fb_ct (fun k => if k = (Q s).2 then true else (if k = (Q s).1 then true else covQ s Q k)) 10 := fb_ct_cong (fun k hk => by
      show (covQ s Q k || (decide ((Q s).1 = k) || decide ((Q s).2 = k))) = _
      by_cases x1 : k = (Q s).2
      · simp [x1]
      · by_cases x2 : k = (Q s).1
        · simp [x2]
        · have y1 : ¬ (Q s).2 = k := fun q => x1 q.symm
          have y2 : ¬ (Q s).1 = k := fun q => x2 q.symm
          simp [x1, x2, y1, y2])
    have hx : (if (Q s).2 = (Q s).1 then true else covQ s Q (Q s).2) = false := by rw [if_neg (by omega)]; exact g.2.2.2.1
    have u2 : fb_ct (fun k => if k = (Q s).2 then true else (if k = (Q s).1 then true else covQ s Q k)) 10 + (if (if (Q s).2 = (Q s).1 then true else covQ s Q (Q s).2) = true then 1 else 0) = fb_ct (fun k => if k = (Q s).1 then true else covQ s Q k) 10 + (if true = true then 1 else 0) := fb_ct_upd (fun k => if k = (Q s).1 then true else covQ s Q k) true (i := (Q s).2) (n := 10) g.2.1
    have u1 : fb_ct (fun k => if k = (Q s).1 then true else covQ s Q k) 10 + (if covQ s Q (Q s).1 = true then 1 else 0) = fb_ct (covQ s Q) 10 + (if true = true then 1 else 0) := fb_ct_upd (covQ s Q) true (i := (Q s).1) (n := 10) (by omega)
    rw [hx, if_neg (by decide), if_pos rfl] at u2
    rw [g.2.2.1, if_neg (by decide), if_pos rfl] at u1
    rw [e]
    omega
theorem good_le {F s : Nat} {Q : Nat → Nat × Nat} (h : goodQ F s Q) : s ≤ 5 := by
  have a := good_ct h
  have b := fb_ct_le (covQ s Q) 10
  omega
theorem DQ_cong {M : Nat → Nat} {br F G : Nat} : ∀ (q j s : Nat) (Q : Nat → Nat × Nat), (∀ l, j ≤ l → l < j + q → M l &&& F = M l &&& G) → DQ M br F q j s Q = DQ M br G q j s Q
  | 0, _, _, _, _ => rfl
  | q + 1, j, s, Q, h => by
    have e : looQ M F j s Q = looQ M G j s Q := by
      funext x
      unfold looQ
      rw [h j (Nat.le_refl j) (by omega)]
    have r := fun s' Q' => DQ_cong (br := br) q (j + 1) s' Q' (fun l h1 h2 => h l (by omega) (by omega))
    rw [DQ, DQ, e, r s Q]
    simp only [r]
theorem fre_10 {a c mk br : Nat} (hc : c ≤ 10) (ha : a < 2 ^ c) : a &&& fre c mk br = a &&& fre 10 mk br := by
  refine Nat.eq_of_testBit_eq (fun i => ?_)
  rw [Nat.testBit_and, Nat.testBit_and, tb_fre hc, tb_fre (by decide)]
  by_cases h : i < c
  · have : i < 10 := by omega
    simp [h, this]
  · rw [Nat.testBit_lt_two_pow (Nat.lt_of_lt_of_le ha (Nat.pow_le_pow_right (by decide) (by omega)))]
    rfl
theorem pop_two {a x y : Nat} (hx : x < 10) (hy : y < 10) (hxy : x ≠ y) (h1 : a.testBit x = true) (h2 : a.testBit y = true) : 2 ≤ pop a := by
  have u1 : fb_ct (fun k => if k = x then false else a.testBit k) 10 + (if a.testBit x = true then 1 else 0) = fb_ct (fun i => a.testBit i) 10 + (if false = true then 1 else 0) := fb_ct_upd (fun i => a.testBit i) false (i := x) (n := 10) hx
  have u2 : fb_ct (fun k => if k = y then false else (if k = x then false else a.testBit k)) 10 + (if (if y = x then false else a.testBit y) = true then 1 else 0) = fb_ct (fun k => if k = x then false else a.testBit k) 10 + (if false = true then 1 else 0) := fb_ct_upd (fun k => if k = x then false else a.testBit k) false (i := y) (n := 10) hy
  rw [if_pos h1, if_neg (by decide)] at u1
  have hz : (if y = x then false else a.testBit y) = true := by rw [if_neg (fun q => hxy q.symm)]; exact h2
  rw [hz, if_pos rfl, if_neg (by decide)] at u2
  unfold pop
  omega
/-- the class's pairing object: its lines, the breaker's cells, the array of pairs -/
def CP (S : Hp) (pr Lp ap pp n br : Nat) (M : Nat → Nat) : Prop := (ok S pr 2 ∧ hR S pr 0 = some Lp ∧ hR S pr 3 = some pp) ∧ LnV S Lp ap n M ∧ (ok S pp 8 ∧ hN S pp = 5 ∧ pp ≠ ap) ∧ hI S pr 2 = nI br ∧ br < 1024
def Kq (pr : Nat) (S T : Hp) : Prop := ∀ k, k ≠ 4 → hI T pr k = hI S pr k
theorem CP.fr {S T : Hp} {pr Lp ap pp n br : Nat} {M : Nat → Nat} (h : CP S pr Lp ap pp n br M) (f : Fr [pr, pp] S T) (k : Kq pr S T) : CP T pr Lp ap pp n br M := by
  obtain ⟨⟨a1, a2, a3⟩, b, ⟨c1, c2, c3⟩, d, e⟩ := h
  have n1 : Lp ≠ pr := ok_ne b.1.1 a1 (by decide)
  have n2 : Lp ≠ pp := ok_ne b.1.1 c1 (by decide)
  have n3 : ap ≠ pr := ok_ne b.1.2.2.1 a1 (by decide)
  exact ⟨⟨f.ok a1, by rw [f.R]; exact a2, by rw [f.R]; exact a3⟩, b.fr f (by rw [f.I (by simp [n1, n2])]) (by simp [n3, c3.symm]), ⟨f.ok c1, by rw [f.N]; exact c2, c3⟩, by rw [k 2 (by decide)]; exact d, e⟩
def PQ (S : Hp) (pr pp s : Nat) (Q : Nat → Nat × Nat) : Prop := hI S pr 4 = nI s ∧ ∀ i, i < s → hI S pp i = nI (prC (Q i))
/-- the cells that are used -/
def usedQ (mk br s : Nat) (Q : Nat → Nat × Nat) (u : Nat) : Prop := u < 1024 ∧ ∀ x, x < 10 → u.testBit x = (mk.testBit x || br.testBit x || covQ s Q x)
theorem prC_lt {p : Nat × Nat} (h : p.1 < p.2 ∧ p.2 < 10) : prC p < 1024 := or_lt (show 2 ^ p.1 < 2 ^ 10 from Nat.pow_lt_pow_right (by decide) (by omega)) (show 2 ^ p.2 < 2 ^ 10 from Nat.pow_lt_pow_right (by decide) h.2)
theorem tb_prC (p : Nat × Nat) (x : Nat) : (prC p).testBit x = (decide (p.1 = x) || decide (p.2 = x)) := by unfold prC; rw [Nat.testBit_or, tb_bit, tb_bit]
theorem prC_in {p : Nat × Nat} (h : p.1 < p.2 ∧ p.2 < 10) (a : Nat) : dif (prC p) a = 0 ↔ (a.testBit p.1 && a.testBit p.2) = true := by
  have hl := prC_lt h
  constructor
  · intro e
    have q1 := congrArg (fun w => w.testBit p.1) e
    have q2 := congrArg (fun w => w.testBit p.2) e
    simp only [tb_dif hl, tb_prC, Nat.zero_testBit] at q1 q2
    simp at q1 q2
    rw [q1, q2]; rfl
  · intro e
    rw [Bool.and_eq_true] at e
    refine Nat.eq_of_testBit_eq (fun i => ?_)
    rw [tb_dif hl, tb_prC, Nat.zero_testBit]
    by_cases x1 : p.1 = i
    · rw [← x1, e.1]; simp
    · by_cases x2 : p.2 = i
      · rw [← x2, e.2]; simp
      · simp [x1, x2]
theorem prC_sub {p : Nat × Nat} (h : p.1 < p.2 ∧ p.2 < 10) {e : Nat} : e &&& prC p = prC p ↔ (e.testBit p.1 && e.testBit p.2) = true := by
  constructor
  · intro w
    have q1 := congrArg (fun w => w.testBit p.1) w
    have q2 := congrArg (fun w => w.testBit p.2) w
    simp only [Nat.testBit_and, tb_prC] at q1 q2
    simp at q1 q2
    rw [q1, q2]; rfl
  · intro w
    rw [Bool.and_eq_true] at w
    refine Nat.eq_of_testBit_eq (fun i => ?_)
    rw [Nat.testBit_and, tb_prC]
    by_cases x1 : p.1 = i
    · rw [← x1, w.1]; simp
    · by_cases x2 : p.2 = i
      · rw [← x2, w.2]; simp
      · simp [x1, x2]
section
variable {N : Nat} {S : Hp} {pr Lp ap pp n mk br s u : Nat} {M : Nat → Nat} {Q : Nat → Nat × Nat}
theorem open_loo (hu : usedQ mk br s Q u) {j : Nat} (hM : M j < 1024) (x : Nat) : (dif (M j) u).testBit x = looQ M (fre 10 mk br) j s Q x := by
  unfold looQ
  rw [tb_dif hM, Nat.testBit_and, tb_fre (by decide)]
  by_cases hx : x < 10
  · rw [hu.2 x hx]
    cases (M j).testBit x <;> cases mk.testBit x <;> cases br.testBit x <;> cases covQ s Q x <;> simp [hx]
  · rw [tb_hi hM (by omega)]; rfl
theorem used_push {p : Nat × Nat} (hu : usedQ mk br s Q u) (hp : p.1 < p.2 ∧ p.2 < 10) : usedQ mk br (s + 1) (updQ Q s p) (u ||| prC p) := by
  refine ⟨or_lt hu.1 (prC_lt hp), fun x hx => ?_⟩
  rw [Nat.testBit_or, hu.2 x hx, cov_push, tb_prC]
  cases mk.testBit x <;> cases br.testBit x <;> cases covQ s Q x <;> simp
theorem c_needsPair_l (h : CP S pr Lp ap pp n br M) (hq : PQ S pr pp s Q) (hg : goodQ (fre 10 mk br) s Q) {a : Nat} (ha : a < 1024) : ∀ d k i, i + d = s → d < k → inQ a i Q = false → f_X2_needsPair_l2 N pr (nI a) k S (nI i) = some ((if (decide (a &&& br = 0) && !inQ a s Q) = true then (1 : Int32) else 0), S) := by
  have s5 := good_le hg
  obtain ⟨⟨a1, a2, a3⟩, b, ⟨c1, c2, c3⟩, d1, e1⟩ := h
  intro d
  induction d with
  | zero =>
    intro k i hi hk hno
    obtain ⟨k, rfl⟩ : ∃ x, k = x + 1 := ⟨k - 1, by omega⟩
    obtain rfl : i = s := by omega
    simp only [f_X2_needsPair_l2, f_X2_needsPair_b2, f_X2_needsPair_b40, gd_pos a1, hq.1]
    rw [if_pos (Int32.le_refl _), d1, nI_and, hno]
    have := and_lt (b := br) ha
    by_cases g : a &&& br = 0
    · rw [if_pos ((nI_eq0 (by omega)).mpr g), if_pos (by simp [g])]
    · rw [if_neg (fun q => g ((nI_eq0 (by omega)).mp q)), if_neg (by simp [g])]
  | succ d ih =>
    intro k i hi hk hno
    obtain ⟨k, rfl⟩ : ∃ x, k = x + 1 := ⟨k - 1, by omega⟩
    have gi := hg i (by omega)
    have pl := prC_lt ⟨gi.1, gi.2.1⟩
    simp only [f_X2_needsPair_l2, f_X2_needsPair_b2, gd_pos a1, hq.1]
    rw [if_neg (nle_i (by omega) (by omega)), a3, nn_s, gd_pos c1, c2, if_neg (nle_i (a := 5) (by omega) (by decide)), ← c2, gd_pos (inN c2 (show i < 5 by omega) (by decide)), nI_clamp (by omega), hq.2 i (by omega), nI_dif pl, nI_p1]
    have dl := dif_lt (b := a) pl
    by_cases g : (a.testBit (Q i).1 && a.testBit (Q i).2) = true
    · rw [if_pos ((nI_eq0 (by omega)).mpr ((prC_in ⟨gi.1, gi.2.1⟩ a).mpr g))]
      have w : inQ a s Q = true := anyN_iff.mpr ⟨i, by omega, g⟩
      rw [w, Bool.not_true, Bool.and_false]; rfl
    · rw [if_neg (fun q => g ((prC_in ⟨gi.1, gi.2.1⟩ a).mp ((nI_eq0 (by omega)).mp q)))]
      refine ih k (i + 1) (by omega) (by omega) ?_
      show (inQ a i Q || (a.testBit (Q i).1 && a.testBit (Q i).2)) = false
      rw [hno]
      simpa using g
theorem c_needsPair (h : CP S pr Lp ap pp n br M) (hN : 12 < N) (hq : PQ S pr pp s Q) (hg : goodQ (fre 10 mk br) s Q) {j : Nat} (hj : j < n) : f_X2_needsPair N S pr (nI (M j)) = some ((if needQ M br j s Q = true then (1 : Int32) else 0), S) := c_needsPair_l h hq hg (h.2.1.2.2.2 j hj) s N 0 (by omega) (by have := good_le hg; omega) rfl
theorem c_isHopeless_l (h : CP S pr Lp ap pp n br M) (hN : 12 < N) (hM0 : ∀ j, j < n → M j ≠ 0) (hq : PQ S pr pp s Q) (hg : goodQ (fre 10 mk br) s Q) (hu : usedQ mk br s Q u) {j q : Nat} (hj : j + q = n) {y : Int32} : ∀ d k i, i + d = 12 → d < k → j ≤ i → ∃ r, f_X2_isHopeless_l2 N pr y (nI u) k S (nI i) = some (r, S) ∧ (r = 0 ∨ (r = 1 ∧ DQ M br (fre 10 mk br) q j s Q = none)) := by
  have n12 := h.2.1.2.2.1
  intro d
  induction d with
  | zero =>
    intro k i hi hk hij
    obtain ⟨k, rfl⟩ : ∃ x, k = x + 1 := ⟨k - 1, by omega⟩
    obtain rfl : i = 12 := by omega
    unfold f_X2_isHopeless_l2 f_X2_isHopeless_b2
    rw [if_pos (show (12 : Int32) ≤ nI 12 by decide)]
    exact ⟨0, rfl, Or.inl rfl⟩
  | succ d ih =>
    intro k i hi hk hij
    obtain ⟨k, rfl⟩ : ∃ x, k = x + 1 := ⟨k - 1, by omega⟩
    have ih' := ih k (i + 1) (by omega) (by omega) (by omega)
    unfold f_X2_isHopeless_l2 f_X2_isHopeless_b2
    rw [if_neg (show ¬ (12 : Int32) ≤ nI i from nle_i (a := 12) (by omega) (by decide)), gd_pos h.1.1, h.1.2.1, nn_s, gd_pos h.2.1.1.1, c_maskOf h.2.1 (by omega), cl_s, nI_p1]
    by_cases c1 : i < n
    · rw [if_pos c1]
      have mi := h.2.1.2.2.2 i c1
      have dl := dif_lt (b := u) mi
      have pl := pop_le (dif (M i) u)
      rw [if_neg (fun q => hM0 i c1 ((nI_eq0 (by omega)).mp q)), nI_dif mi, bitc_pop _ dl]
      by_cases c2 : 2 ≤ pop (dif (M i) u)
      · rw [if_pos (show (2 : Int32) ≤ nI (pop (dif (M i) u)) from nI_le (a := 2) c2 (by omega))]
        exact ih'
      · rw [if_neg (show ¬ (2 : Int32) ≤ nI (pop (dif (M i) u)) from fun q => c2 ((nI_le_iff (a := 2) (by decide) (by omega)).mp q)), gd_pos h.1.1, c_needsPair h hN hq hg c1, cl_s]
        by_cases c3 : needQ M br i s Q = true
        · rw [if_pos c3, if_neg (by decide)]
          refine ⟨1, rfl, Or.inr ⟨rfl, hopeless q j s i Q hij (by omega) c3 (fun x y hxy g1 g2 => ?_)⟩⟩
          rw [← open_loo hu mi] at g1 g2
          have hx : x < 10 := by
            rcases Nat.lt_or_ge x 10 with w | w
            · exact w
            · rw [tb_hi dl w] at g1; cases g1
          have hy : y < 10 := by
            rcases Nat.lt_or_ge y 10 with w | w
            · exact w
            · rw [tb_hi dl w] at g2; cases g2
          exact c2 (pop_two hx hy hxy g1 g2)
        · rw [if_neg c3, if_pos rfl]
          exact ih'
    · rw [if_neg c1, if_pos rfl]
      exact ih'
/-- how the class's search ends -/
def CEnd (pr pp mk br : Nat) (R : Option (Nat × (Nat → Nat × Nat))) (S : Hp) (s : Nat) (Q : Nat → Nat × Nat) (run : Option (Int32 × Hp)) : Prop :=
  ∃ T, Fr [pr, pp] S T ∧ Kq pr S T ∧ ((∃ s' Q', R = some (s', Q') ∧ run = some (1, T) ∧ PQ T pr pp s' Q' ∧ goodQ (fre 10 mk br) s' Q') ∨ (R = none ∧ run = some (0, T) ∧ PQ T pr pp s Q))
theorem Kq.rf : Kq pr S S := fun _ _ => rfl
theorem Kq.tr {T U : Hp} (h : Kq pr S T) (g : Kq pr T U) : Kq pr S U := fun k hk => (g k hk).trans (h k hk)
theorem CEnd.after {R : Option (Nat × (Nat → Nat × Nat))} {T : Hp} {run : Option (Int32 × Hp)} (f : Fr [pr, pp] S T) (k : Kq pr S T) (h : CEnd pr pp mk br R T s Q run) : CEnd pr pp mk br R S s Q run := by
  obtain ⟨U, u1, u2, u3⟩ := h
  exact ⟨U, f.tr u1, k.tr u2, u3⟩
end
