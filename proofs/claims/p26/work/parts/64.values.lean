/-! THE VALUES OF POSITIONS: who wins by best play, in how many moves -/
def chK (v mk i : Nat) : Nat := if v = 1 then mk ||| 2 ^ i else mk
def chB (v br i : Nat) : Nat := if v = 1 then br else br ||| 2 ^ i
def shN (g : Nat → Bool) (l : Nat → Nat) : Nat → Nat
  | 0 => 22
  | i + 1 => if g i = true ∧ l i < shN g l i then l i else shN g l i
def loN (g : Nat → Bool) (l : Nat → Nat) : Nat → Nat
  | 0 => 0
  | i + 1 => if g i = true ∧ loN g l i < l i then l i else loN g l i
def canV (F : Nat) (W : Nat → Nat × Nat) (i : Nat) : Bool := F.testBit i && decide ((W i).1 = 1)
def brkV (F : Nat) (W : Nat → Nat × Nat) (i : Nat) : Bool := F.testBit i && decide ((W i).1 = 2)
def stepV (c F v : Nat) (W : Nat → Nat × Nat) : Nat × Nat :=
  if (if v = 1 then anyN (canV F W) c else !anyN (brkV F W) c) = true then (1, 1 + (if v = 1 then shN (canV F W) (fun i => (W i).2) c else loN (canV F W) (fun i => (W i).2) c)) else (2, pop F)
def VF (c n : Nat) (M : Nat → Nat) : Nat → Nat → Nat → Nat → Nat × Nat
  | 0, _, _, _ => (2, 0)
  | d + 1, a, b, v => if winP M n a b = 0 then stepV c (fre c a b) v (fun i => VF c n M d (chK v a i) (chB v b i) (3 - v)) else (winP M n a b, if winP M n a b = 1 then 0 else pop (fre c a b))
def VV (c n : Nat) (M : Nat → Nat) (mk br v : Nat) : Nat × Nat := VF c n M (pop (fre c mk br) + 1) mk br v
theorem shN_cong {g g' : Nat → Bool} {l l' : Nat → Nat} : ∀ {n : Nat}, (∀ i, i < n → g i = g' i ∧ (g i = true → l i = l' i)) → shN g l n = shN g' l' n
  | 0, _ => rfl
  | n + 1, h => by
    have q := h n (by omega)
    rw [shN, shN, shN_cong (fun i hi => h i (by omega)), ← q.1]
    cases e : g n
    · simp
    · rw [q.2 e]
theorem loN_cong {g g' : Nat → Bool} {l l' : Nat → Nat} : ∀ {n : Nat}, (∀ i, i < n → g i = g' i ∧ (g i = true → l i = l' i)) → loN g l n = loN g' l' n
  | 0, _ => rfl
  | n + 1, h => by
    have q := h n (by omega)
    rw [loN, loN, loN_cong (fun i hi => h i (by omega)), ← q.1]
    cases e : g n
    · simp
    · rw [q.2 e]
theorem stepV_cong {c F v : Nat} {W W' : Nat → Nat × Nat} (h : ∀ i, i < c → F.testBit i = true → W i = W' i) : stepV c F v W = stepV c F v W' := by
  have e1 : ∀ i, i < c → canV F W i = canV F W' i ∧ (canV F W i = true → (W i).2 = (W' i).2) := by
    intro i hi
    unfold canV
    cases t : F.testBit i
    · exact ⟨rfl, fun q => by simp at q⟩
    · rw [h i hi t]; exact ⟨rfl, fun _ => rfl⟩
  have e2 : ∀ i, i < c → brkV F W i = brkV F W' i := by
    intro i hi
    unfold brkV
    cases t : F.testBit i
    · rfl
    · rw [h i hi t]
  unfold stepV
  rw [anyN_cong (fun i hi => (e1 i hi).1), anyN_cong e2, shN_cong e1, loN_cong e1]
theorem tb_ch {c mk br v i : Nat} (hc : c ≤ 10) (j : Nat) : (fre c (chK v mk i) (chB v br i)).testBit j = ((fre c mk br).testBit j && !decide (i = j)) := by
  rw [tb_fre hc, tb_fre hc]
  unfold chK chB
  by_cases e : v = 1
  · rw [if_pos e, if_pos e, Nat.testBit_or, tb_bit]
    cases decide (j < c) <;> cases mk.testBit j <;> cases br.testBit j <;> cases decide (i = j) <;> rfl
  · rw [if_neg e, if_neg e, Nat.testBit_or, tb_bit]
    cases decide (j < c) <;> cases mk.testBit j <;> cases br.testBit j <;> cases decide (i = j) <;> rfl
theorem pop_off {a b i : Nat} (hi : i < 10) (h : a.testBit i = true) (e : ∀ j, j < 10 → b.testBit j = (a.testBit j && !decide (i = j))) : pop b + 1 = pop a := by
  have u : fb_ct (fun k => if k = i then false else a.testBit k) 10 + (if a.testBit i = true then 1 else 0) = fb_ct (fun k => a.testBit k) 10 + (if false = true then 1 else 0) := fb_ct_upd (fun k => a.testBit k) false (i := i) (n := 10) hi
  rw [if_pos h, if_neg (by decide)] at u
  have w : fb_ct (fun k => b.testBit k) 10 = fb_ct (fun k => if k = i then false else a.testBit k) 10 := fb_ct_cong (fun k hk => by
    rw [e k hk]
    by_cases x : k = i
    · rw [if_pos x, x]; simp
    · rw [if_neg x]
      have : ¬ i = k := fun q => x q.symm
      simp [this])
  unfold pop
  omega
theorem pop_ch {c mk br v i : Nat} (hc : c ≤ 10) (h : (fre c mk br).testBit i = true) : pop (fre c (chK v mk i) (chB v br i)) + 1 = pop (fre c mk br) :=
  pop_off (by have := fr_lt hc h; omega) h (fun j _ => tb_ch hc j)
theorem VV_open {c n : Nat} {M : Nat → Nat} {mk br v : Nat} (hc : c ≤ 10) (h : winP M n mk br = 0) : VV c n M mk br v = stepV c (fre c mk br) v (fun i => VV c n M (chK v mk i) (chB v br i) (3 - v)) := by
  unfold VV
  rw [VF, if_pos h]
  refine stepV_cong (fun i hi hf => ?_)
  have q := pop_ch (v := v) hc hf
  rw [← q]
theorem VV_won {c n : Nat} {M : Nat → Nat} {mk br v : Nat} (h : winP M n mk br ≠ 0) : VV c n M mk br v = (winP M n mk br, if winP M n mk br = 1 then 0 else pop (fre c mk br)) := by
  unfold VV
  rw [VF, if_neg h]
theorem VV_12 {c n : Nat} {M : Nat → Nat} {mk br v : Nat} (hc : c ≤ 10) : (VV c n M mk br v).1 = 1 ∨ (VV c n M mk br v).1 = 2 := by
  by_cases h : winP M n mk br = 0
  · rw [VV_open hc h]
    unfold stepV
    generalize (if v = 1 then anyN (canV (fre c mk br) fun i => VV c n M (chK v mk i) (chB v br i) (3 - v)) c else !anyN (brkV (fre c mk br) fun i => VV c n M (chK v mk i) (chB v br i) (3 - v)) c) = q
    cases q
    · exact Or.inr rfl
    · exact Or.inl rfl
  · rw [VV_won h]
    have := winP_le M n mk br
    show winP M n mk br = 1 ∨ winP M n mk br = 2
    omega
/-- a position: cells of both, none twice, on the board -/
def Pos (c mk br : Nat) : Prop := mk < 2 ^ c ∧ br < 2 ^ c ∧ mk &&& br = 0
theorem Pos.ch {c mk br v i : Nat} (hc : c ≤ 10) (h : Pos c mk br) (hf : (fre c mk br).testBit i = true) : Pos c (chK v mk i) (chB v br i) := by
  have q := fre_bits hc hf
  unfold chK chB
  by_cases e : v = 1
  · rw [if_pos e, if_pos e]
    exact ⟨or_bit_lt h.1 q.1, h.2.1, or_bit_and h.2.2 q.2.2⟩
  · rw [if_neg e, if_neg e]
    exact ⟨h.1, or_bit_lt h.2.1 q.1, by rw [Nat.and_comm]; exact or_bit_and (by rw [Nat.and_comm]; exact h.2.2) q.2.1⟩
/-- lines of a board of c cells -/
def Lns (c n : Nat) (M : Nat → Nat) : Prop := c ≤ 10 ∧ ∀ j, j < n → M j < 2 ^ c ∧ M j ≠ 0
theorem Lns.m10 {c n : Nat} {M : Nat → Nat} (h : Lns c n M) {j : Nat} (hj : j < n) : M j < 1024 := Nat.lt_of_lt_of_le (h.2 j hj).1 (pw10 h.1)
section
variable {c n : Nat} {M : Nat → Nat} {mk br i : Nat}
theorem wt_brk (hl : Lns c n M) (hf : (fre c mk br).testBit i = true) {j : Nat} (hj : j < n) : wtP M c mk (br ||| 2 ^ i) j + (if (M j &&& fre c mk br).testBit i = true then wtP M c mk br j else 0) = wtP M c mk br j := by
  rw [tb_an hf]
  have mj := hl.m10 hj
  cases t : (M j).testBit i
  · rw [if_neg (by decide), Nat.add_zero]
    have e1 : M j &&& (br ||| 2 ^ i) = M j &&& br := by
      refine Nat.eq_of_testBit_eq (fun k => ?_)
      rw [Nat.testBit_and, Nat.testBit_and, Nat.testBit_or, tb_bit]
      by_cases x : i = k
      · rw [← x, t]; rfl
      · simp [x]
    have e2 : M j &&& fre c mk (br ||| 2 ^ i) = M j &&& fre c mk br := by
      refine Nat.eq_of_testBit_eq (fun k => ?_)
      rw [Nat.testBit_and, Nat.testBit_and, tb_fre hl.1, tb_fre hl.1, Nat.testBit_or, tb_bit]
      by_cases x : i = k
      · rw [← x, t]; rfl
      · simp [x]
    unfold wtP isAl
    rw [e1, e2]
  · rw [if_pos rfl]
    have e1 : ¬ (M j &&& (br ||| 2 ^ i) = 0) := fun q => by
      have w := congrArg (fun w => w.testBit i) q
      simp only [Nat.testBit_and, Nat.testBit_or, tb_bit, Nat.zero_testBit, t] at w
      simp at w
    have e3 : wtP M c mk (br ||| 2 ^ i) j = 0 := by
      unfold wtP isAl
      rw [if_neg (by simpa using e1)]
    rw [e3, Nat.zero_add]
theorem sh_half : ∀ p, p < 10 → 1024 >>> p = 1024 >>> (p + 1) + 1024 >>> (p + 1) := by decide
theorem wt_mk (hl : Lns c n M) (hf : (fre c mk br).testBit i = true) {j : Nat} (hj : j < n) : wtP M c (mk ||| 2 ^ i) br j = wtP M c mk br j + (if (M j &&& fre c mk br).testBit i = true then wtP M c mk br j else 0) := by
  have hi := fr_lt hl.1 hf
  have hc := hl.1
  cases t : (M j &&& fre c mk br).testBit i
  · rw [if_neg (by decide), Nat.add_zero]
    have t' : (M j).testBit i = false := by rw [tb_an hf] at t; exact t
    have e2 : M j &&& fre c (mk ||| 2 ^ i) br = M j &&& fre c mk br := by
      refine Nat.eq_of_testBit_eq (fun k => ?_)
      rw [Nat.testBit_and, Nat.testBit_and, tb_fre hl.1, tb_fre hl.1, Nat.testBit_or, tb_bit]
      by_cases x : i = k
      · rw [← x, t']; rfl
      · simp [x]
    unfold wtP
    rw [e2]
  · rw [if_pos rfl]
    unfold wtP
    by_cases al : isAl M br j = true
    · rw [if_pos al, if_pos al]
      have q : pop (M j &&& fre c (mk ||| 2 ^ i) br) + 1 = pop (M j &&& fre c mk br) := pop_off (i := i) (by omega) t (fun k _ => by
        rw [Nat.testBit_and, Nat.testBit_and, tb_fre hl.1, tb_fre hl.1, Nat.testBit_or, tb_bit]
        cases (M j).testBit k <;> cases decide (k < c) <;> cases mk.testBit k <;> cases br.testBit k <;> cases decide (i = k) <;> rfl)
      have pl := pop_le (M j &&& fre c mk br)
      rw [← q]
      exact sh_half _ (by omega)
    · rw [if_neg al, if_neg al]
theorem ws_brk (hl : Lns c n M) (hf : (fre c mk br).testBit i = true) : wsP M n c mk (br ||| 2 ^ i) + dgP M n c mk br i = wsP M n c mk br := by
  unfold wsP dgP
  rw [← fb_sm_add]
  exact fb_sm_cong (fun j hj => wt_brk hl hf hj)
theorem ws_mk (hl : Lns c n M) (hf : (fre c mk br).testBit i = true) : wsP M n c (mk ||| 2 ^ i) br = wsP M n c mk br + dgP M n c mk br i := by
  unfold wsP dgP
  rw [← fb_sm_add]
  exact fb_sm_cong (fun j hj => wt_mk hl hf hj)
/-- a danger doesn't grow as the breaker takes a cell -/
theorem dg_brk (hl : Lns c n M) {k : Nat} (hf : (fre c mk br).testBit i = true) : dgP M n c mk (br ||| 2 ^ i) k ≤ dgP M n c mk br k := by
  unfold dgP
  refine fb_sm_le (fun j hj => ?_)
  have w := wt_brk hl hf hj
  have s : (M j &&& fre c mk (br ||| 2 ^ i)).testBit k = true → (M j &&& fre c mk br).testBit k = true := by
    rw [Nat.testBit_and, Nat.testBit_and, tb_fre hl.1, tb_fre hl.1, Nat.testBit_or]
    cases (M j).testBit k <;> cases decide (k < c) <;> cases mk.testBit k <;> cases br.testBit k <;> simp
  by_cases g : (M j &&& fre c mk (br ||| 2 ^ i)).testBit k = true
  · rw [if_pos g, if_pos (s g)]
    omega
  · rw [if_neg g]
    exact Nat.zero_le _
theorem win1 (hl : Lns c n M) (hp : Pos c mk br) (h : winP M n mk br = 1) : 1024 ≤ wsP M n c mk br := by
  unfold winP at h
  by_cases g : anyN (fun j => decide (dif (M j) mk = 0)) n = true
  · obtain ⟨j, hj, e⟩ := anyN_iff.mp g
    have e : dif (M j) mk = 0 := by simpa using e
    have al := full_al (hl.m10 hj) hp.2.2 e
    have q := fb_sm_part (wtP M c mk br) hj
    have w : wtP M c mk br j = 1024 := by
      unfold wtP isAl
      rw [if_pos (by simpa using al), al_fre hl.1 (hl.m10 hj) (and_all (hl.2 j hj).1) al, e]
      rfl
    unfold wsP
    omega
  · rw [if_neg g] at h
    split at h <;> cases h
/-- in an open position there is a free cell -/
theorem open_free (hl : Lns c n M) (h : winP M n mk br = 0) : ∃ i, (fre c mk br).testBit i = true := by
  unfold winP at h
  by_cases g : anyN (fun j => decide (dif (M j) mk = 0)) n = true
  · rw [if_pos g] at h; cases h
  · rw [if_neg g] at h
    by_cases g2 : anyN (isAl M br) n = true
    · obtain ⟨j, hj, e⟩ := anyN_iff.mp g2
      have al : M j &&& br = 0 := by simpa [isAl] using e
      have nf : ¬ dif (M j) mk = 0 := fun q => g (anyN_iff.mpr ⟨j, hj, by simp [q]⟩)
      rw [← al_fre hl.1 (hl.m10 hj) (and_all (hl.2 j hj).1) al] at nf
      obtain ⟨i, hi⟩ := Nat.exists_testBit_of_ne_zero nf
      rw [Nat.testBit_and, Bool.and_eq_true] at hi
      exact ⟨i, hi.2⟩
    · rw [if_neg g2] at h; cases h
/-- the breaker moves, and the weights are less than a won line's: he holds the board -/
theorem holds_board (hl : Lns c n M) : ∀ (d mk br : Nat), pop (fre c mk br) ≤ d → Pos c mk br → wsP M n c mk br < 1024 → (VV c n M mk br 2).1 = 2 := by
  intro d
  induction d with
  | zero =>
    intro mk br hd hp hw
    have hne : winP M n mk br ≠ 1 := fun q => absurd (win1 hl hp q) (by omega)
    have h0 : winP M n mk br ≠ 0 := by
      intro q
      obtain ⟨i, hi⟩ := open_free hl q
      have := pop_ch (v := 1) hl.1 hi
      omega
    have := winP_le M n mk br
    rw [VV_won h0]
    show winP M n mk br = 2
    omega
  | succ d ih =>
    intro mk br hd hp hw
    have hne : winP M n mk br ≠ 1 := fun q => absurd (win1 hl hp q) (by omega)
    have wl := winP_le M n mk br
    by_cases h0 : winP M n mk br = 0
    · obtain ⟨b, hb1, hb2, -⟩ := fb_best (fun i => if (fre c mk br).testBit i = true then (dgP M n c mk br i : Int) else -1) (n := 10) (by decide)
      have hfb : (fre c mk br).testBit b = true := by
        obtain ⟨i, hi⟩ := open_free hl h0
        have q := hb2 i (by have := fr_lt hl.1 hi; have := hl.1; omega)
        simp only [hi, if_true] at q
        cases t : (fre c mk br).testBit b
        · rw [t] at q; simp at q; omega
        · rfl
      have best : ∀ k, (fre c mk br).testBit k = true → dgP M n c mk br k ≤ dgP M n c mk br b := by
        intro k hk
        have q := hb2 k (by have := fr_lt hl.1 hk; have := hl.1; omega)
        simp only [hk, hfb, if_true] at q
        omega
      have hpb : Pos c mk (br ||| 2 ^ b) := by
        have := hp.ch (v := 2) hl.1 hfb
        exact this
      have pb : pop (fre c mk (br ||| 2 ^ b)) + 1 = pop (fre c mk br) := pop_ch (v := 2) hl.1 hfb
      have wb := ws_brk hl hfb
      -- behind the breaker's best reply the maker does not win
      have key : (VV c n M mk (br ||| 2 ^ b) 1).1 = 2 := by
        by_cases h1 : winP M n mk (br ||| 2 ^ b) = 0
        · rw [VV_open hl.1 h1]
          unfold stepV
          have nc : anyN (canV (fre c mk (br ||| 2 ^ b)) (fun i => VV c n M (chK 1 mk i) (chB 1 (br ||| 2 ^ b) i) (3 - 1))) c = false := by
            rw [anyN_not]
            intro k hk
            unfold canV
            cases t : (fre c mk (br ||| 2 ^ b)).testBit k
            · rfl
            · have hfk : (fre c mk br).testBit k = true := by
                have q := tb_ch (mk := mk) (br := br) (v := 2) (i := b) hl.1 k
                have q' : (fre c mk (br ||| 2 ^ b)).testBit k = ((fre c mk br).testBit k && !decide (b = k)) := q
                rw [t] at q'
                cases z : (fre c mk br).testBit k
                · rw [z] at q'; simp at q'
                · rfl
              have w2 := ws_mk hl t
              have w3 := dg_brk (k := k) hl hfb
              have w4 := best k hfk
              have pk : pop (fre c (mk ||| 2 ^ k) (br ||| 2 ^ b)) + 1 = pop (fre c mk (br ||| 2 ^ b)) := pop_ch (v := 1) hl.1 t
              have v2 := ih (mk ||| 2 ^ k) (br ||| 2 ^ b) (by omega) (hpb.ch (v := 1) hl.1 t) (by omega)
              have v2' : (VV c n M (chK 1 mk k) (chB 1 (br ||| 2 ^ b) k) (3 - 1)).1 = 2 := v2
              rw [v2']
              rfl
          rw [if_pos rfl, nc, if_neg (by decide)]
        · have w1 : winP M n mk (br ||| 2 ^ b) ≠ 1 := fun q => absurd (win1 hl hpb q) (by omega)
          have := winP_le M n mk (br ||| 2 ^ b)
          rw [VV_won h1]
          show winP M n mk (br ||| 2 ^ b) = 2
          omega
      rw [VV_open hl.1 h0]
      unfold stepV
      have yb : anyN (brkV (fre c mk br) (fun i => VV c n M (chK 2 mk i) (chB 2 br i) (3 - 2))) c = true := by
        refine anyN_iff.mpr ⟨b, fr_lt hl.1 hfb, ?_⟩
        unfold brkV
        have k2 : (VV c n M (chK 2 mk b) (chB 2 br b) (3 - 2)).1 = 2 := key
        rw [hfb, k2]
        rfl
      rw [if_neg (show ¬ (2 = 1) by decide), yb, if_neg (by decide)]
    · rw [VV_won h0]
      show winP M n mk br = 2
      omega
end
