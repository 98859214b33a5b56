theorem shN_le {g : Nat → Bool} {l : Nat → Nat} : ∀ {n i : Nat}, i < n → g i = true → shN g l n ≤ l i
  | 0, i, h, _ => absurd h (Nat.not_lt_zero i)
  | n + 1, i, h, hg => by
    unfold shN
    by_cases e : i = n
    · subst e
      by_cases q : l i < shN g l i
      · rw [if_pos ⟨hg, q⟩]; exact Nat.le_refl _
      · rw [if_neg (fun w => q w.2)]; omega
    · have ih := shN_le (g := g) (l := l) (n := n) (i := i) (by omega) hg
      by_cases q : g n = true ∧ l n < shN g l n
      · rw [if_pos q]; omega
      · rw [if_neg q]; exact ih
theorem shN_none {g : Nat → Bool} {l : Nat → Nat} : ∀ {n : Nat}, anyN g n = false → shN g l n = 22
  | 0, _ => rfl
  | n + 1, h => by
    have q := anyN_not.mp h
    unfold shN
    rw [if_neg (fun w => by rw [q n (by omega)] at w; cases w.1)]
    exact shN_none (anyN_not.mpr (fun j hj => q j (by omega)))
theorem loN_le {g : Nat → Bool} {l : Nat → Nat} {b : Nat} : ∀ {n : Nat}, (∀ i, i < n → g i = true → l i ≤ b) → loN g l n ≤ b
  | 0, _ => Nat.zero_le b
  | n + 1, h => by
    have ih := loN_le (g := g) (l := l) (b := b) (n := n) (fun i hi => h i (by omega))
    unfold loN
    split
    · rename_i q
      exact h n (by omega) q.1
    · exact ih
theorem loN_ge {g : Nat → Bool} {l : Nat → Nat} : ∀ {n i : Nat}, i < n → g i = true → l i ≤ loN g l n
  | 0, i, h, _ => absurd h (Nat.not_lt_zero i)
  | n + 1, i, h, hg => by
    unfold loN
    by_cases e : i = n
    · subst e
      by_cases q : loN g l i < l i
      · rw [if_pos ⟨hg, q⟩]; exact Nat.le_refl _
      · rw [if_neg (fun w => q w.2)]; omega
    · have ih := loN_ge (g := g) (l := l) (n := n) (i := i) (by omega) hg
      by_cases q : g n = true ∧ loN g l n < l n
      · rw [if_pos q]; omega
      · rw [if_neg q]; exact ih
section
variable {c n : Nat} {M : Nat → Nat} {mk br v i : Nat}
/-- the maker has a threat at i, with line j -/
theorem th_line (h : (thP M n c mk br).testBit i = true) : ∃ j, j < n ∧ isAl M br j = true ∧ pop (M j &&& fre c mk br) = 1 ∧ (M j &&& fre c mk br).testBit i = true := by
  unfold thP at h
  rw [tb_orN, anyN_iff] at h
  obtain ⟨j, hj, e⟩ := h
  by_cases q : isAl M br j = true ∧ pop (M j &&& fre c mk br) = 1
  · rw [if_pos q] at e
    exact ⟨j, hj, q.1, q.2, e⟩
  · rw [if_neg q, Nat.zero_testBit] at e; cases e
theorem th_of {j : Nat} (hj : j < n) (h1 : isAl M br j = true) (h2 : pop (M j &&& fre c mk br) = 1) (h3 : (M j &&& fre c mk br).testBit i = true) : (thP M n c mk br).testBit i = true := by
  unfold thP
  rw [tb_orN, anyN_iff]
  refine ⟨j, hj, ?_⟩
  rw [if_pos ⟨h1, h2⟩]
  exact h3
theorem th_free (h : (thP M n c mk br).testBit i = true) : (fre c mk br).testBit i = true := by
  obtain ⟨j, -, -, -, e⟩ := th_line h
  rw [Nat.testBit_and, Bool.and_eq_true] at e
  exact e.2
theorem pop1 {a x y : Nat} (ha : a < 1024) (h : pop a = 1) (hx : a.testBit x = true) (hy : a.testBit y = true) : x = y := by
  have lt : ∀ z, a.testBit z = true → z < 10 := fun z hz => by
    rcases Nat.lt_or_ge z 10 with w | w
    · exact w
    · rw [tb_hi ha w] at hz; cases hz
  by_cases e : x = y
  · exact e
  · have := pop_two (lt x hx) (lt y hy) e hx hy
    omega
/-- a threat is taken -/
theorem th_won (hl : Lns c n M) (h : (thP M n c mk br).testBit i = true) : winP M n (mk ||| 2 ^ i) br = 1 := by
  obtain ⟨j, hj, al, p1, e⟩ := th_line h
  have mj := hl.m10 hj
  have al' : M j &&& br = 0 := by simpa [isAl] using al
  have d0 : dif (M j) (mk ||| 2 ^ i) = 0 := by
    refine Nat.eq_of_testBit_eq (fun k => ?_)
    rw [tb_dif mj, Nat.testBit_or, tb_bit, Nat.zero_testBit]
    by_cases x : i = k
    · simp [x]
    · have w : (M j &&& fre c mk br).testBit k = false := by
        cases z : (M j &&& fre c mk br).testBit k
        · rfl
        · exact absurd (pop1 (and_lt mj) p1 e z) x
      rw [al_fre hl.1 mj (and_all (hl.2 j hj).1) al', tb_dif mj] at w
      simp only [x, decide_false, Bool.or_false]
      exact w
  unfold winP
  rw [if_pos (anyN_iff.mpr ⟨j, hj, by simp [d0]⟩)]
theorem canV_iff {F : Nat} {W : Nat → Nat × Nat} {i : Nat} : canV F W i = true ↔ F.testBit i = true ∧ (W i).1 = 1 := by
  unfold canV
  rw [Bool.and_eq_true, decide_eq_true_eq]
theorem brkV_iff {F : Nat} {W : Nat → Nat × Nat} {i : Nat} : brkV F W i = true ↔ F.testBit i = true ∧ (W i).1 = 2 := by
  unfold brkV
  rw [Bool.and_eq_true, decide_eq_true_eq]
theorem brkV_no {F c : Nat} {W : Nat → Nat × Nat} (h : ∀ i, F.testBit i = true → (W i).1 ≠ 2) : anyN (brkV F W) c = false := anyN_not.mpr (fun k _ => by
  cases z : brkV F W k
  · rfl
  · have q := brkV_iff.mp z
    exact absurd q.2 (h k q.1))
theorem VV_th1 (hl : Lns c n M) (h0 : winP M n mk br = 0) (h : (thP M n c mk br).testBit i = true) : VV c n M mk br 1 = (1, 1) := by
  have hf := th_free h
  have hi := fr_lt hl.1 hf
  have w1 : winP M n (chK 1 mk i) (chB 1 br i) = 1 := th_won hl h
  have v1 : VV c n M (chK 1 mk i) (chB 1 br i) (3 - 1) = (1, 0) := by
    rw [VV_won (by rw [w1]; decide), w1]; rfl
  rw [VV_open hl.1 h0]
  generalize hW : (fun i => VV c n M (chK 1 mk i) (chB 1 br i) (3 - 1)) = W
  have v2 : W i = (1, 0) := by rw [← hW]; exact v1
  have cn : canV (fre c mk br) W i = true := canV_iff.mpr ⟨hf, by rw [v2]⟩
  have s0 : shN (canV (fre c mk br) W) (fun i => (W i).2) c ≤ (W i).2 := shN_le (l := fun i => (W i).2) hi cn
  rw [v2] at s0
  have s1 : shN (canV (fre c mk br) W) (fun i => (W i).2) c = 0 := Nat.le_zero.mp s0
  unfold stepV
  rw [if_pos rfl, if_pos (anyN_iff.mpr ⟨i, hi, cn⟩), if_pos rfl, s1]
/-- a reply elsewhere leaves the threat, and the game open -/
theorem th_stays (hl : Lns c n M) (h0 : winP M n mk br = 0) (h : (thP M n c mk br).testBit i = true) {k : Nat} (hk : (fre c mk br).testBit k = true) (hik : i ≠ k) : winP M n mk (br ||| 2 ^ k) = 0 ∧ (thP M n c mk (br ||| 2 ^ k)).testBit i = true := by
  obtain ⟨j, hj, al, p1, e⟩ := th_line h
  have mj := hl.m10 hj
  have al' : M j &&& br = 0 := by simpa [isAl] using al
  have nk : (M j).testBit k = false := by
    cases z : (M j).testBit k
    · rfl
    · exact absurd (pop1 (and_lt mj) p1 e (by rw [Nat.testBit_and, z, hk]; rfl)) hik
  have a2 : M j &&& (br ||| 2 ^ k) = 0 := by
    refine Nat.eq_of_testBit_eq (fun x => ?_)
    have w := congrArg (fun w => w.testBit x) al'
    simp only [Nat.testBit_and, Nat.testBit_or, tb_bit, Nat.zero_testBit] at w ⊢
    by_cases y : k = x
    · rw [← y, nk]; rfl
    · simp [y]; simpa using w
  have a3 : M j &&& fre c mk (br ||| 2 ^ k) = M j &&& fre c mk br := by
    refine Nat.eq_of_testBit_eq (fun x => ?_)
    rw [Nat.testBit_and, Nat.testBit_and, tb_fre hl.1, tb_fre hl.1, Nat.testBit_or, tb_bit]
    by_cases y : k = x
    · rw [← y, nk]; rfl
    · simp [y]
  have al2 : isAl M (br ||| 2 ^ k) j = true := by simpa [isAl] using a2
  refine ⟨?_, th_of hj al2 (by rw [a3]; exact p1) (by rw [a3]; exact e)⟩
  unfold winP at h0 ⊢
  by_cases g : anyN (fun j => decide (dif (M j) mk = 0)) n = true
  · rw [if_pos g] at h0; cases h0
  · rw [if_neg g, if_pos (anyN_iff.mpr ⟨j, hj, al2⟩)]
theorem VV_len (hl : Lns c n M) : ∀ (d mk br v : Nat), pop (fre c mk br) ≤ d → (VV c n M mk br v).1 = 1 → (VV c n M mk br v).2 ≤ pop (fre c mk br) := by
  intro d
  induction d with
  | zero =>
    intro mk br v hd h
    by_cases h0 : winP M n mk br = 0
    · obtain ⟨i, hi⟩ := open_free hl h0
      have := pop_ch (v := 1) hl.1 hi
      omega
    · rw [VV_won h0] at h ⊢
      have h' : winP M n mk br = 1 := h
      rw [h']
      exact Nat.zero_le _
  | succ d ih =>
    intro mk br v hd h
    by_cases h0 : winP M n mk br = 0
    · rw [VV_open hl.1 h0] at h ⊢
      have kid : ∀ i, (fre c mk br).testBit i = true → (VV c n M (chK v mk i) (chB v br i) (3 - v)).1 = 1 → (VV c n M (chK v mk i) (chB v br i) (3 - v)).2 + 1 ≤ pop (fre c mk br) := by
        intro i hi hw
        have q := pop_ch (v := v) hl.1 hi
        have := ih _ _ _ (by omega) hw
        omega
      unfold stepV at h ⊢
      by_cases e : v = 1
      · rw [if_pos e] at h ⊢
        by_cases g : anyN (canV (fre c mk br) fun i => VV c n M (chK v mk i) (chB v br i) (3 - v)) c = true
        · rw [if_pos g, if_pos e]
          obtain ⟨i, hi, q⟩ := anyN_iff.mp g
          have s := shN_le (l := fun i => (VV c n M (chK v mk i) (chB v br i) (3 - v)).2) hi q
          unfold canV at q
          rw [Bool.and_eq_true, decide_eq_true_eq] at q
          have := kid i q.1 q.2
          dsimp only at s ⊢
          omega
        · rw [if_neg g] at h; cases h
      · rw [if_neg e] at h ⊢
        by_cases g : (!anyN (brkV (fre c mk br) fun i => VV c n M (chK v mk i) (chB v br i) (3 - v)) c) = true
        · rw [if_pos g, if_neg e]
          obtain ⟨i, hi⟩ := open_free hl h0
          have p1 := pop_ch (v := v) hl.1 hi
          have s := loN_le (g := canV (fre c mk br) fun i => VV c n M (chK v mk i) (chB v br i) (3 - v)) (l := fun i => (VV c n M (chK v mk i) (chB v br i) (3 - v)).2) (b := pop (fre c mk br) - 1) (n := c) (fun k hk q => by
            unfold canV at q
            rw [Bool.and_eq_true, decide_eq_true_eq] at q
            have := kid k q.1 q.2
            omega)
          dsimp only at s ⊢
          omega
        · rw [if_neg g] at h; cases h
    · rw [VV_won h0] at h ⊢
      have h' : winP M n mk br = 1 := h
      rw [h']
      exact Nat.zero_le _
/-- the length that the class tells: -1 if it is the breaker who wins -/
def Lv (c n : Nat) (M : Nat → Nat) (mk br v : Nat) : Int32 := if (VV c n M mk br v).1 = 1 then nI (VV c n M mk br v).2 else -1
theorem VV_no1 (hl : Lns c n M) (h0 : winP M n mk br = 0) : ∀ i, (fre c mk br).testBit i = true → winP M n mk (br ||| 2 ^ i) ≠ 1 := by
  intro i hi h
  unfold winP at h0 h
  by_cases g : anyN (fun j => decide (dif (M j) mk = 0)) n = true
  · rw [if_pos g] at h0; cases h0
  · rw [if_neg g] at h
    split at h <;> cases h
/-- an open position that the maker wins takes a move or more -/
theorem VV_pos (hl : Lns c n M) (h0 : winP M n mk br ≠ 1) (h : (VV c n M mk br v).1 = 1) : 1 ≤ (VV c n M mk br v).2 := by
  by_cases h1 : winP M n mk br = 0
  · rw [VV_open hl.1 h1] at h ⊢
    unfold stepV at h ⊢
    generalize (if v = 1 then anyN (canV (fre c mk br) fun i => VV c n M (chK v mk i) (chB v br i) (3 - v)) c else !anyN (brkV (fre c mk br) fun i => VV c n M (chK v mk i) (chB v br i) (3 - v)) c) = q at h ⊢
    cases q
    · cases h
    · show 1 ≤ 1 + _
      omega
  · rw [VV_won h1] at h
    exact absurd h h0
/-- the breaker to move, two threats -/
theorem VV_th2 (hl : Lns c n M) (h0 : winP M n mk br = 0) {t u : Nat} (ht : (thP M n c mk br).testBit t = true) (hu : (thP M n c mk br).testBit u = true) (htu : t ≠ u) : VV c n M mk br 2 = (1, 2) := by
  have kid : ∀ i, (fre c mk br).testBit i = true → VV c n M (chK 2 mk i) (chB 2 br i) (3 - 2) = (1, 1) := by
    intro i hi
    by_cases e : t = i
    · have q := th_stays hl h0 hu hi (by rw [← e]; exact htu.symm)
      exact VV_th1 hl q.1 q.2
    · have q := th_stays hl h0 ht hi e
      exact VV_th1 hl q.1 q.2
  have hf := th_free ht
  have hi := fr_lt hl.1 hf
  rw [VV_open hl.1 h0]
  generalize hW : (fun i => VV c n M (chK 2 mk i) (chB 2 br i) (3 - 2)) = W
  have kd : ∀ i, (fre c mk br).testBit i = true → W i = (1, 1) := fun i hi => by rw [← hW]; exact kid i hi
  have nb : anyN (brkV (fre c mk br) W) c = false := brkV_no (fun k hk => by rw [kd k hk]; decide)
  have l1 : loN (canV (fre c mk br) W) (fun i => (W i).2) c = 1 := by
    have a : loN (canV (fre c mk br) W) (fun i => (W i).2) c ≤ 1 := loN_le (fun k _ q => by
      show (W k).2 ≤ 1
      rw [kd k (canV_iff.mp q).1]
      exact Nat.le_refl 1)
    have b : (W t).2 ≤ loN (canV (fre c mk br) W) (fun i => (W i).2) c := loN_ge (l := fun i => (W i).2) hi (canV_iff.mpr ⟨hf, by rw [kd t hf]⟩)
    rw [kd t hf] at b
    omega
  unfold stepV
  rw [if_neg (show ¬ (2 = 1) by decide), nb, if_pos (show (!false) = true from rfl), if_neg (show ¬ (2 = 1) by decide), l1]
/-- the breaker to move, one threat: he has to take it -/
theorem VV_th3 (hl : Lns c n M) (h0 : winP M n mk br = 0) {t : Nat} (ht : (thP M n c mk br).testBit t = true) : VV c n M mk br 2 = if (VV c n M mk (br ||| 2 ^ t) 1).1 = 1 then (1, 1 + (VV c n M mk (br ||| 2 ^ t) 1).2) else (2, pop (fre c mk br)) := by
  have hf := th_free ht
  have hi := fr_lt hl.1 hf
  have kid : ∀ i, (fre c mk br).testBit i = true → t ≠ i → VV c n M (chK 2 mk i) (chB 2 br i) (3 - 2) = (1, 1) := fun i hi e => by
    have q := th_stays hl h0 ht hi e
    exact VV_th1 hl q.1 q.2
  have e12 := VV_12 (n := n) (M := M) (mk := mk) (br := br ||| 2 ^ t) (v := 1) hl.1
  have nw := VV_no1 hl h0 t hf
  have kt : VV c n M (chK 2 mk t) (chB 2 br t) (3 - 2) = VV c n M mk (br ||| 2 ^ t) 1 := rfl
  rw [VV_open hl.1 h0]
  generalize hW : (fun i => VV c n M (chK 2 mk i) (chB 2 br i) (3 - 2)) = W
  have kd : ∀ i, (fre c mk br).testBit i = true → t ≠ i → W i = (1, 1) := fun i hi e => by rw [← hW]; exact kid i hi e
  have kt' : W t = VV c n M mk (br ||| 2 ^ t) 1 := by rw [← hW]; exact kt
  unfold stepV
  by_cases g : (VV c n M mk (br ||| 2 ^ t) 1).1 = 1
  · have len := VV_pos hl nw g
    have nb : anyN (brkV (fre c mk br) W) c = false := brkV_no (fun k hk => by
      by_cases e : t = k
      · rw [← e, kt', g]; decide
      · rw [kd k hk e]; decide)
    have l1 : loN (canV (fre c mk br) W) (fun i => (W i).2) c = (VV c n M mk (br ||| 2 ^ t) 1).2 := by
      have a : loN (canV (fre c mk br) W) (fun i => (W i).2) c ≤ (VV c n M mk (br ||| 2 ^ t) 1).2 := loN_le (fun k hk q => by
        show (W k).2 ≤ _
        by_cases e : t = k
        · rw [← e, kt']; exact Nat.le_refl _
        · rw [kd k (canV_iff.mp q).1 e]
          exact len)
      have b : (W t).2 ≤ loN (canV (fre c mk br) W) (fun i => (W i).2) c := loN_ge (l := fun i => (W i).2) hi (canV_iff.mpr ⟨hf, by rw [kt', g]⟩)
      rw [kt'] at b
      omega
    rw [if_neg (show ¬ (2 = 1) by decide), nb, if_pos (show (!false) = true from rfl), if_neg (show ¬ (2 = 1) by decide), l1, if_pos g]
  · have g2 : (VV c n M mk (br ||| 2 ^ t) 1).1 = 2 := by omega
    have yb : anyN (brkV (fre c mk br) W) c = true := anyN_iff.mpr ⟨t, hi, brkV_iff.mpr ⟨hf, by rw [kt', g2]⟩⟩
    rw [if_neg (show ¬ (2 = 1) by decide), yb, if_neg (by decide), if_neg g]
end
