theorem nle_c (c : Int32) {n b : Nat} (hc : c = nI n) (h : b < n) (hn : n < 2 ^ 31) : ¬ c ≤ nI b := by subst hc; exact nle_i h hn
theorem eq_c (c : Int32) {n a : Nat} (hc : c = nI n) (ha : a < 2 ^ 31) (hn : n < 2 ^ 31) : nI a = c ↔ a = n := by subst hc; exact nI_eq_iff ha hn
theorem i22 (s i : Nat) : (22 : Int32) * nI s + nI i = nI (22 * s + i) := by
  rw [show (22 : Int32) = nI 22 from rfl, nI_mul, nI_plus]
section
variable {N : Nat} {S : Hp} {m : Nat} {g : Nat → Nat} {A : Ab}
theorem m_save_l12 (h : MSh S m g) : ∀ d k i T, Fr [g 2] S T → (∀ j, j + 22 < i → hI T (g 2) j = hI S (g 2) (j + 22)) → (∀ j, i ≤ j + 22 → hI T (g 2) j = hI S (g 2) j) → 22 ≤ i → i + d = 132 → d < k → ∃ U, f_X7_save_l12 N m k T (nI i) = f_X7_save_l52 N m N (sI U m 1 (hI U m 1 - 1)) 0 ∧ Fr [g 2] S U ∧ ∀ j, j < 110 → hI U (g 2) j = hI S (g 2) (j + 22) := by
  have hm := h.1
  have hh := h.2.1 2 (by decide)
  intro d
  induction d with
  | zero =>
    intro k i T f a1 a2 hi0 hi hk
    obtain ⟨k, rfl⟩ : ∃ q, k = q + 1 := ⟨k - 1, by omega⟩
    obtain rfl : i = 132 := by omega
    unfold f_X7_save_l12 f_X7_save_b12
    rw [if_pos (show (132 : Int32) ≤ nI 132 by decide), gd_pos (f.ok hm)]
    exact ⟨T, rfl, f, fun j hj => a1 j (by omega)⟩
  | succ d ih =>
    intro k i T f a1 a2 hi0 hi hk
    obtain ⟨k, rfl⟩ : ∃ q, k = q + 1 := ⟨k - 1, by omega⟩
    unfold f_X7_save_l12 f_X7_save_b12
    have em : nI i - (22 : Int32) = nI (i - 22) := nI_minus (b := 22) hi0
    have hn : hN T (g 2) = 132 := by rw [f.N]; exact hh.2.2
    rw [if_neg (nle_c 132 (n := 132) rfl (by omega) (by decide)), gd_pos (f.ok hm), f.R, hh.1, nn_s, gd_pos (f.ok hh.2.1), em, gd_pos (inN hn (show i < 132 by omega) (by decide)), gd_pos (inN hn (show i - 22 < 132 by omega) (by decide)), bd_d, nI_p1, nI_clamp (by omega), nI_clamp (by omega)]
    refine ih k (i + 1) _ (f.sI (by simp)) (fun j hj => ?_) (fun j hj => ?_) (by omega) (by omega) (by omega)
    · by_cases e : j = i - 22
      · rw [e, hI_same, a2 i (by omega)]
        congr 1; omega
      · rw [hI_k e]
        exact a1 j (by omega)
    · rw [hI_k (by omega)]
      exact a2 j (by omega)
theorem m_save_l52 (h : MSh S m g) {s : Nat} (hs : s ≤ 5) (h1 : hI S m 1 = nI s) : ∀ d k i T, Fr [g 2] S T → (∀ j, j < i → hI T (g 2) (22 * s + j) = hI S (g 0) j) → (∀ j, j < 22 * s → hI T (g 2) j = hI S (g 2) j) → i + d = 22 → d < k → ∃ U, f_X7_save_l52 N m k T (nI i) = some ((), sI U m 1 (nI (s + 1))) ∧ Fr [g 2] S U ∧ (∀ j, j < 22 → hI U (g 2) (22 * s + j) = hI S (g 0) j) ∧ ∀ j, j < 22 * s → hI U (g 2) j = hI S (g 2) j := by
  have hm := h.1
  have hh := h.2.1 2 (by decide)
  have hz := h.2.1 0 (by decide)
  have n1 : m ∉ [g 2] := h.outm (l := [2]) (by decide)
  have n2 : g 0 ∉ [g 2] := h.out (l := [2]) (by decide) (by decide)
  intro d
  induction d with
  | zero =>
    intro k i T f a1 a2 hi hk
    obtain ⟨k, rfl⟩ : ∃ q, k = q + 1 := ⟨k - 1, by omega⟩
    obtain rfl : i = 22 := by omega
    unfold f_X7_save_l52 f_X7_save_b52
    rw [if_pos (show (22 : Int32) ≤ nI 22 by decide), gd_pos (f.ok hm), f.I n1, h1, nI_p1]
    exact ⟨T, rfl, f, a1, a2⟩
  | succ d ih =>
    intro k i T f a1 a2 hi hk
    obtain ⟨k, rfl⟩ : ∃ q, k = q + 1 := ⟨k - 1, by omega⟩
    unfold f_X7_save_l52 f_X7_save_b52
    have hn : hN T (g 2) = 132 := by rw [f.N]; exact hh.2.2
    have hn0 : hN T (g 0) = 22 := by rw [f.N]; exact hz.2.2
    rw [if_neg (nle_c 22 (n := 22) rfl (by omega) (by decide)), gd_pos (f.ok hm), f.R, hh.1, nn_s, hz.1, nn_s, gd_pos (f.ok hz.2.1), gd_pos (inN hn0 (show i < 22 by omega) (by decide)), gd_pos (f.ok hh.2.1), f.I n1, h1, i22, gd_pos (inN hn (show 22 * s + i < 132 by omega) (by decide)), bd_d, nI_p1, nI_clamp (by omega), nI_clamp (by omega)]
    refine ih k (i + 1) _ (f.sI (by simp)) (fun j hj => ?_) (fun j hj => ?_) (by omega) (by omega)
    · by_cases e : j = i
      · rw [e, hI_same, f.I n2]
      · rw [hI_k (by omega)]
        exact a1 j (by omega)
    · rw [hI_k (by omega)]
      exact a2 j hj
/-- what is left to show behind a save -/
theorem m_save_end (h : MX S m g A) (hw : WfA A) {U : Hp} (f : Fr [m, g 2] S U) (hm : ∀ k, k ≠ 1 → hI U m k = hI S m k) (h1 : hI U m 1 = nI (svH A).1) (hr : ∀ j, j < (svH A).1 → RowF (fun k => hI U (g 2) (22 * j + k)) ((svH A).2 j)) : MStep S m g (svA A) U ∧ Fr [m, g 2] S U ∧ ∀ k, k ≠ 1 → hI U m k = hI S m k := by
  have o : ∀ i, i ∈ [0, 3, 4, 6, 13, 14, 15] → hI U (g i) = hI S (g i) := by
    intro i hi
    refine f.I ?_
    have hi' : i ∈ FS ∧ i ≠ 2 := by
      simp only [List.mem_cons, List.not_mem_nil, or_false] at hi
      rcases hi with rfl | rfl | rfl | rfl | rfl | rfl | rfl <;> decide
    simp only [List.mem_cons, List.not_mem_nil, or_false, not_or]
    exact ⟨fun e => h.1.m hi'.1 e.symm, h.1.2.2 i 2 hi'.1 (by decide) hi'.2⟩
  obtain ⟨a1, ⟨a2, a2'⟩, a3, a4, a5, a6, a7⟩ := h
  refine ⟨⟨f.mono (fun a ha => ?_), ⟨a1.fr f, ⟨h1, by rw [hm 5 (by decide)]; exact a2'⟩, ?_, hr, ?_, ?_, ?_⟩, hm 7 (by decide)⟩, f, hm⟩
  · simp only [List.mem_cons, List.not_mem_nil, or_false] at ha
    rcases ha with rfl | rfl
    · exact mls_m
    · exact mls_g (by decide)
  · unfold Zr
    rw [o 0 (by decide)]
    exact a3
  · intro i hi
    simp only [o 3 (by decide), o 4 (by decide)]
    exact a5 i hi
  · intro q hq
    rw [o 6 (by decide)]
    exact a6 q hq
  · exact a7.cong (hm 11 (by decide)) (hm 12 (by decide)) (o 13 (by decide)) (o 14 (by decide)) (o 15 (by decide))
theorem m_save2 (h : MX S m g A) (hw : WfA A) (hB : Big N) : ∃ T, f_X7_save N S m = some ((), T) ∧ MStep S m g (svA A) T ∧ Fr [m, g 2] S T ∧ ∀ k, k ≠ 1 → hI T m k = hI S m k := by
  have hN0 : 200 < N := by have := hB.1; omega
  have hm := h.1.1
  have nm : m ≠ g 2 := h.1.m (by decide)
  have n0 : g 0 ≠ g 2 := h.1.2.2 0 2 (by decide) (by decide) (by decide)
  have hs := hw.2.1.1
  have hrow := h.2.2.2.1
  have hz : RowF (hI S (g 0)) (aN A) := h.2.2.1
  have row0 : ∀ (U : Hp) (s : Nat), (∀ j, j < 22 → hI U (g 2) (22 * s + j) = hI S (g 0) j) → RowF (fun k => hI U (g 2) (22 * s + k)) (aN A) := fun U s e => hz.cong hw.1.1.2.2.1 e
  unfold f_X7_save
  rw [gd_pos hm, h.2.1.1]
  by_cases g6 : aH A = 6
  · rw [if_pos (by rw [g6]; rfl)]
    obtain ⟨U, u1, u2, u3⟩ := m_save_l12 (N := N) h.1 110 N 22 S Fr.rf (fun j hj => absurd hj (by omega)) (fun j _ => rfl) (by omega) rfl (by omega)
    have e1 : hI U m 1 - 1 = nI 5 := by rw [u2.I (by simpa using nm), h.2.1.1, g6]; rfl
    have f2 : Fr [m, g 2] S (sI U m 1 (nI 5)) := (u2.mono (by simp)).sI (by simp)
    obtain ⟨V, v1, v2, v3, v4⟩ := m_save_l52 (N := N) (h.1.fr f2) (s := 5) (by decide) (hI_same _ _ _ _) 22 N 0 _ Fr.rf (fun j hj => absurd hj (by omega)) (fun j _ => rfl) rfl (by omega)
    rw [e1] at u1
    refine ⟨_, u1.trans v1, ?_⟩
    have f3 : Fr [m, g 2] S (sI V m 1 (nI 6)) := (f2.tr (v2.mono (by simp))).sI (by simp)
    have em : ∀ k, hI V m k = hI (sI U m 1 (nI 5)) m k := fun k => by rw [v2.I (by simpa using nm)]
    refine m_save_end h hw f3 (fun k hk => ?_) ?_ ?_
    · rw [hI_k hk, em, hI_k hk, u2.I (by simpa using nm)]
    · rw [hI_same, svH, if_pos g6]
    · have e0 : hI (sI V m 1 (nI 6)) (g 2) = hI V (g 2) := hI_a nm.symm
      have e00 : hI (sI U m 1 (nI 5)) (g 2) = hI U (g 2) := hI_a nm.symm
      have ez : hI (sI U m 1 (nI 5)) (g 0) = hI S (g 0) := by rw [hI_a (h.1.m (i := 0) (by decide)).symm]; exact u2.I (by simpa using n0)
      rw [svH, if_pos g6]
      intro j hj
      simp only [e0]
      show RowF _ (if j = 5 then aN A else aHs A (j + 1))
      by_cases j5 : j = 5
      · rw [if_pos j5, j5]
        exact row0 V 5 (fun q hq => by rw [v3 q hq, ez])
      · have hj' : j < 6 := hj
        rw [if_neg j5]
        refine (hrow (j + 1) (by omega)).cong ((hw.2.1.2 (j + 1) (by omega)).1.2.2.1) (fun q hq => ?_)
        rw [v4 _ (by omega), e00, u3 _ (by omega)]
        congr 1; omega
  · rw [if_neg (fun q : nI (aH A) = 6 => g6 ((nI_eq_iff (b := 6) (by omega) (by decide)).mp q))]
    obtain ⟨V, v1, v2, v3, v4⟩ := m_save_l52 (N := N) h.1 (s := aH A) (by omega) h.2.1.1 22 N 0 S Fr.rf (fun j hj => absurd hj (by omega)) (fun j _ => rfl) rfl (by omega)
    refine ⟨_, v1, ?_⟩
    have f3 : Fr [m, g 2] S (sI V m 1 (nI (aH A + 1))) := (v2.mono (by simp)).sI (by simp)
    refine m_save_end h hw f3 (fun k hk => ?_) ?_ ?_
    · rw [hI_k hk, v2.I (by simpa using nm)]
    · rw [hI_same, svH, if_neg g6]
    · have e0 : hI (sI V m 1 (nI (aH A + 1))) (g 2) = hI V (g 2) := hI_a nm.symm
      rw [svH, if_neg g6]
      intro j hj
      simp only [e0]
      have hj' : j < aH A + 1 := hj
      show RowF _ (if j = aH A then aN A else aHs A j)
      by_cases js : j = aH A
      · rw [if_pos js, js]
        exact row0 V (aH A) v3
      · rw [if_neg js]
        refine (hrow j (by omega)).cong ((hw.2.1.2 j (by omega)).1.2.2.1) (fun q hq => ?_)
        rw [v4 _ (by omega)]
theorem m_save (h : MX S m g A) (hw : WfA A) (hB : Big N) : ∃ T, f_X7_save N S m = some ((), T) ∧ MStep S m g (svA A) T := by
  obtain ⟨T, t1, t2, -⟩ := m_save2 (N := N) h hw hB
  exact ⟨T, t1, t2⟩
end
