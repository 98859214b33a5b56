theorem Mz.fr {E : List Nat} {S T : Hp} {m z c n mk br : Nat} {M : Nat → Nat} (h : Mz S m z c n mk br M) (f : Fr E S T) (hz : z ∉ E) : Mz T m z c n mk br M := by
  obtain ⟨⟨g1, g2, g3, g4⟩, ⟨g5, g6, g7, g8, g9⟩, g10⟩ := h
  exact ⟨⟨f.ok g1, by rw [f.R]; exact g2, f.ok g3, by rw [f.N]; exact g4⟩, by rw [f.I hz]; exact ⟨g5, g6, g7, g8, g9⟩, g10⟩
/-- the model's board and the three arrays of its pairing -/
def MC (S : Hp) (m z pa lo up c n mk br : Nat) (M : Nat → Nat) : Prop := Mz S m z c n mk br M ∧ (hR S m 8 = some pa ∧ ok S pa 8 ∧ hN S pa = 10) ∧ (hR S m 9 = some lo ∧ ok S lo 8 ∧ hN S lo = 12) ∧ (hR S m 10 = some up ∧ ok S up 8 ∧ hN S up = 12) ∧ (pa ≠ lo ∧ pa ≠ up ∧ lo ≠ up ∧ z ≠ pa ∧ z ≠ lo ∧ z ≠ up)
theorem MC.fr {S T : Hp} {m z pa lo up c n mk br : Nat} {M : Nat → Nat} (h : MC S m z pa lo up c n mk br M) (f : Fr [pa, lo, up] S T) : MC T m z pa lo up c n mk br M := by
  obtain ⟨h1, ⟨a1, a2, a3⟩, ⟨b1, b2, b3⟩, ⟨c1, c2, c3⟩, d1, d2, d3, d4, d5, d6⟩ := h
  exact ⟨h1.fr f (by simp [d4, d5, d6]), ⟨by rw [f.R]; exact a1, f.ok a2, by rw [f.N]; exact a3⟩, ⟨by rw [f.R]; exact b1, f.ok b2, by rw [f.N]; exact b3⟩, ⟨by rw [f.R]; exact c1, f.ok c2, by rw [f.N]; exact c3⟩, d1, d2, d3, d4, d5, d6⟩
theorem inN {S : Hp} {a L j : Nat} (h : hN S a = L) (hj : j < L) (hL : L < 2 ^ 31) : inb (nI j) (hN S a) := by
  rw [h]
  unfold inb
  rw [nI_toInt (by omega)]
  omega
/-- the partners' array -/
def PR (S : Hp) (pa s : Nat) (Q : Nat → Nat × Nat) : Prop := ∀ i, i < 10 → hI S pa i = parOf s Q i
def nxt (lo : Nat → Bool) : List (Nat × Nat) → Option ((Nat × Nat) × List (Nat × Nat))
  | [] => none
  | p :: t => if (lo p.1 && lo p.2) = true then some (p, t) else nxt lo t
theorem tryL_nxt {α : Type} {lo : Nat → Bool} {f : Nat × Nat → Option α} : ∀ {l : List (Nat × Nat)}, tryL lo f l = match nxt lo l with
    | none => none
    | some (p, t) => (match f p with
      | some r => some r
      | none => tryL lo f t)
  | [] => rfl
  | p :: t => by
    rw [tryL, nxt]
    by_cases g : (lo p.1 && lo p.2) = true
    · rw [if_pos g, if_pos g]
      cases h : f p <;> simp [h]
    · rw [if_neg g, if_neg g]
      exact tryL_nxt
theorem nxt_none {lo : Nat → Bool} : ∀ {l : List (Nat × Nat)}, (∀ p, p ∈ l → (lo p.1 && lo p.2) = false) → nxt lo l = none
  | [], _ => rfl
  | p :: t, h => by
    unfold nxt
    rw [if_neg (by rw [h p List.mem_cons_self]; decide)]
    exact nxt_none (fun q hq => h q (List.mem_cons_of_mem _ hq))
theorem nxt_skip {lo : Nat → Bool} {r : List (Nat × Nat)} : ∀ {l : List (Nat × Nat)}, (∀ p, p ∈ l → (lo p.1 && lo p.2) = false) → nxt lo (l ++ r) = nxt lo r
  | [], _ => rfl
  | p :: t, h => by
    show nxt lo (p :: (t ++ r)) = _
    rw [nxt, if_neg (by rw [h p List.mem_cons_self]; decide)]
    exact nxt_skip (fun q hq => h q (List.mem_cons_of_mem _ hq))
theorem nxt_len {lo : Nat → Bool} : ∀ {l t : List (Nat × Nat)} {p : Nat × Nat}, nxt lo l = some (p, t) → t.length < l.length
  | [], t, p, h => by cases h
  | q :: l, t, p, h => by
    unfold nxt at h
    split at h
    · cases h; exact Nat.lt_succ_self _
    · have := nxt_len h; simp; omega
theorem rest_step {a b : Nat} (h : b < 9) : restP a b = (a, b + 1) :: restP a (b + 1) := by
  unfold restP
  obtain ⟨k, hk⟩ : ∃ k, 9 - b = k + 1 := ⟨8 - b, by omega⟩
  rw [hk, row, show 9 - (b + 1) = k by omega]
  rfl
theorem rows_rest (a : Nat) : rows (a + 1) (9 - a) = restP (a + 1) (a + 1) := by
  unfold restP
  by_cases h : a ≤ 8
  · obtain ⟨k, hk⟩ : ∃ k, 9 - a = k + 1 := ⟨8 - a, by omega⟩
    rw [hk, rows, show 9 - (a + 1) = k by omega]
  · rw [show 9 - a = 0 by omega, show 9 - (a + 1) = 0 by omega]
    rfl
theorem rows_ge {p : Nat × Nat} : ∀ {k a : Nat}, p ∈ rows a k → a ≤ p.1
  | 0, a, h => by cases h
  | k + 1, a, h => by
    unfold rows at h
    rcases List.mem_append.mp h with h | h
    · have q := mem_row h
      omega
    · have := rows_ge h; omega
theorem rest_ge {p : Nat × Nat} {a b : Nat} (h : p ∈ restP a b) : a ≤ p.1 := by
  unfold restP at h
  rcases List.mem_append.mp h with h | h
  · have q := mem_row h
    omega
  · have := rows_ge h; omega
theorem looQ_lt {M : Nat → Nat} {c mk br j s x : Nat} {Q : Nat → Nat × Nat} (hc : c ≤ 10) (h : looQ M (fre c mk br) j s Q x = true) : x < c := by
  unfold looQ at h
  rw [Bool.and_eq_true, Nat.testBit_and, Bool.and_eq_true] at h
  exact fr_lt hc h.1.2
section
variable {N : Nat} {S : Hp} {m z pa lo up c n mk br s : Nat} {M : Nat → Nat} {Q : Nat → Nat × Nat}
def hpB (M : Nat → Nat) (j s : Nat) (Q : Nat → Nat × Nat) (i : Nat) : Bool := (M j).testBit i && (decide (parOf s Q i ≠ -1) && (M j).testBit (parOf s Q i).toNatClampNeg)
theorem hp_in (hg : goodQ (fre c mk br) s Q) (hc : c ≤ 10) (j : Nat) : anyN (hpB M j s Q) c = inQ (M j) s Q := by
  rw [Bool.eq_iff_iff, anyN_iff]
  unfold inQ
  rw [anyN_iff]
  constructor
  · rintro ⟨i, hi, h⟩
    unfold hpB at h
    rw [Bool.and_eq_true, Bool.and_eq_true, decide_eq_true_eq] at h
    obtain ⟨q, hq, ⟨e1, e2⟩ | ⟨e1, e2⟩⟩ := parOf_is hg h.2.1
    · have g := hg q hq
      rw [e2, nI_clamp (by omega)] at h
      exact ⟨q, hq, by rw [← e1, h.1, h.2.2]; rfl⟩
    · have g := hg q hq
      rw [e2, nI_clamp (by omega)] at h
      exact ⟨q, hq, by rw [← e1, h.1, h.2.2]; rfl⟩
  · rintro ⟨q, hq, h⟩
    have g := hg q hq
    rw [Bool.and_eq_true] at h
    refine ⟨(Q q).1, fr_lt hc g.2.2.2.2.1, ?_⟩
    unfold hpB
    rw [(parOf_at hg hq).1, nI_clamp (by omega), h.1, h.2]
    simp [nI_nm1 (show (Q q).2 < 2 ^ 31 by omega)]
theorem m_hasPair_l (h : MC S m z pa lo up c n mk br M) (hp : PR S pa s Q) (hg : goodQ (fre c mk br) s Q) {j : Nat} (hj : j < n) : ∀ d k i, i + d = c → d < k → f_X7_hasPair_l4 N m (nI j) k S (if anyN (hpB M j s Q) i = true then 1 else 0) (nI i) = some ((if inQ (M j) s Q = true then (1 : Int32) else 0), S) := by
  obtain ⟨⟨⟨hm, hz, hk, hn⟩, ⟨h0, h2, h3, h4, hM⟩, hc, hn12, hmk, hbr, hM1⟩, ⟨p1, p2, p3⟩, -⟩ := h
  intro d
  induction d with
  | zero =>
    intro k i hi hk'
    obtain ⟨k, rfl⟩ : ∃ q, k = q + 1 := ⟨k - 1, by omega⟩
    obtain rfl : i = c := by omega
    simp only [f_X7_hasPair_l4, f_X7_hasPair_b4, gd_pos hm, hz, nn_s, gd_pos hk, gd_pos (zin hn (i := (0 : Int32)) (k := 0) rfl (by decide)), tn0, h0]
    rw [if_pos (Int32.le_refl _), hp_in hg hc]
    have ib : isB (if inQ (M j) s Q = true then (1 : Int32) else 0) := by
      by_cases q : inQ (M j) s Q = true
      · rw [if_pos q]; exact Or.inr rfl
      · rw [if_neg q]; exact Or.inl rfl
    rw [gd_pos ib]
  | succ d ih =>
    intro k i hi hk'
    obtain ⟨k, rfl⟩ : ∃ q, k = q + 1 := ⟨k - 1, by omega⟩
    have ih' := ih k (i + 1) (by omega) (by omega)
    rw [anyN] at ih'
    have mj := hM1 j hj
    simp only [f_X7_hasPair_l4, f_X7_hasPair_b4, gd_pos hm, hz, nn_s, gd_pos hk, gd_pos (zin hn (i := (0 : Int32)) (k := 0) rfl (by decide)), tn0, h0]
    rw [if_neg (nle_i (by omega) (by omega))]
    cases a0 : anyN (hpB M j s Q) i
    · rw [a0] at ih'
      rw [if_pos (i01.mpr (by decide))]
      simp only [gd_pos (zin hn (i := (10 : Int32) + nI j) (k := 10 + j) (nI_10 j) (by omega)), ix10 (show j < 1000 by omega), hM j hj]
      rw [m_has (by omega) (by omega), cl_s, nI_p1]
      cases t : (M j).testBit i
      · rw [if_pos (i01.mpr (by decide))]
        have e : hpB M j s Q i = false := by unfold hpB; rw [t]; rfl
        rw [e] at ih'
        exact ih'
      · rw [if_neg (by decide), gd_pos hm, p1, nn_s, gd_pos p2, gd_pos (inN p3 (show i < 10 by omega) (by decide)), nI_clamp (by omega), hp i (by omega)]
        by_cases e1 : parOf s Q i = -1
        · rw [if_pos e1]
          have e : hpB M j s Q i = false := by unfold hpB; rw [e1]; simp
          rw [e] at ih'
          exact ih'
        · rw [if_neg e1, hz, nn_s, gd_pos hk, gd_pos (zin hn (i := (10 : Int32) + nI j) (k := 10 + j) (nI_10 j) (by omega)), hM j hj]
          have hy : ∃ y, y < 10 ∧ parOf s Q i = nI y := by
            obtain ⟨q, hq, ⟨e1, e2⟩ | ⟨e1, e2⟩⟩ := parOf_is hg e1
            · have g := hg q hq
              exact ⟨_, g.2.1, e2⟩
            · have g := hg q hq
              exact ⟨_, by omega, e2⟩
          obtain ⟨y, hy, ey⟩ := hy
          have eh : hpB M j s Q i = (M j).testBit y := by unfold hpB; rw [ey, nI_clamp (by omega), t]; simp [nI_nm1 (show y < 2 ^ 31 by omega)]
          rw [eh] at ih'
          rw [ey, m_has (by omega) (by omega), cl_s]
          cases t2 : (M j).testBit y
          · rw [if_pos (i01.mpr (by decide))]
            rw [t2] at ih'
            exact ih'
          · rw [if_neg (by decide)]
            rw [t2] at ih'
            exact ih'
    · rw [a0] at ih'
      rw [if_neg (by decide), nI_p1]
      exact ih'
theorem m_hasPair (h : MC S m z pa lo up c n mk br M) (hN : 12 < N) (hp : PR S pa s Q) (hg : goodQ (fre c mk br) s Q) {j : Nat} (hj : j < n) : f_X7_hasPair N S m (nI j) = some ((if inQ (M j) s Q = true then (1 : Int32) else 0), S) := m_hasPair_l h hp hg hj c N 0 (by omega) (by have := h.1.2.2.1; omega)
theorem m_isLoose (h : MC S m z pa lo up c n mk br M) (hp : PR S pa s Q) (hg : goodQ (fre c mk br) s Q) {j i : Nat} (hj : j < n) (hi : i < 10) : f_X7_isLoose N S m (nI j) (nI i) = some ((if looQ M (fre c mk br) j s Q i = true then (1 : Int32) else 0), S) := by
  have e2 := m_freeOf (N := N) h.1 hj
  obtain ⟨⟨⟨hm, hz, hk, hn⟩, ⟨h0, h2, h3, h4, hM⟩, hc, hn12, hmk, hbr, hM1⟩, ⟨p1, p2, p3⟩, -⟩ := h
  have b1 := and_lt (b := fre c mk br) (hM1 j hj)
  simp only [f_X7_isLoose, gd_pos hm, hz, nn_s, gd_pos hk, gd_pos (zin hn (i := (0 : Int32)) (k := 0) rfl (by decide)), tn0, h0]
  by_cases c1 : c ≤ i
  · rw [if_pos (nI_le c1 (by omega)), if_neg (fun q => absurd (looQ_lt hc q) (by omega))]
  · rw [if_neg (nle_i (by omega) (by omega)), e2, cl_s, m_has (by omega) (by omega), cl_s]
    unfold looQ
    cases t : (M j &&& fre c mk br).testBit i
    · rw [if_pos (i01.mpr (by decide))]; rfl
    · rw [if_neg (by decide), gd_pos hm, p1, nn_s, gd_pos p2, gd_pos (inN p3 hi (by decide)), nI_clamp (by omega), hp i hi]
      have q := parOf_no (x := i) hg
      cases e : covQ s Q i
      · rw [if_pos (q.mpr e)]; rfl
      · rw [if_neg (fun w => by rw [q.mp w] at e; cases e)]; rfl
end
