section
variable {N : Nat} {S : Hp} {m z sm wi le : Nat} {B : Bd}
theorem MB.fr {E : List Nat} {T : Hp} (h : MB S m z sm wi le B) (f : Fr E S T) (hz : z ∉ E) : MB T m z sm wi le B := ⟨h.1.fr f hz, by rw [f.I hz]; exact h.2⟩
theorem bmS_c (hw : Wf B) : bmS B 10 = bmS B (bc B) := by
  have f0 : ∀ i, bc B ≤ i → (bfre B).testBit i = false := fun i hi => by
    cases z : (bfre B).testBit i
    · rfl
    · have := fr_lt hw.c10 z; omega
  have ext : ∀ d, bmS B (bc B + d) = bmS B (bc B) := by
    intro d
    induction d with
    | zero => rfl
    | succ d ih =>
      show bmS B (bc B + d + 1) = _
      rw [bmS, if_neg (by rw [f0 _ (by omega)]; decide)]
      exact ih
  have := hw.c10
  rw [show 10 = bc B + (10 - bc B) by omega, ext]
theorem mdS_c (hw : Wf B) : mdS B 10 = mdS B (bc B) := by
  have f0 : ∀ i, bc B ≤ i → (bfre B).testBit i = false := fun i hi => by
    cases z : (bfre B).testBit i
    · rfl
    · have := fr_lt hw.c10 z; omega
  have ext : ∀ d, mdS B (bc B + d) = mdS B (bc B) := by
    intro d
    induction d with
    | zero => rfl
    | succ d ih =>
      show mdS B (bc B + d + 1) = _
      rw [mdS, if_neg (by rw [f0 _ (by omega)]; decide)]
      exact ih
  have := hw.c10
  rw [show 10 = bc B + (10 - bc B) by omega, ext]
theorem m_best_l (h0 : MB S m z sm wi le B) (hw : Wf B) (hN0 : 12 < N) (ht : Tab S wi le (bc B) (bn B) (bM B) 0) : ∀ d k i, i + d = bc B → d < k → f_X7_bestMove_l8 N m k S (opI (bmS B i)) (nI i) = some (opI (bmS B (bc B)), S) := by
  have hb := fun i x hi hx => m_isBetter (N := N) (i := i) (b := x) h0 hw hN0 ht hi hx
  have ef := m_free (N := N) h0.1.1
  have hc := hw.c10
  have hF : bfre B < 1024 := fre_lt hc
  obtain ⟨⟨⟨hm, hz, hk, hn⟩, ⟨z0, -⟩, -⟩, -⟩ := h0.1
  intro d
  induction d with
  | zero =>
    intro k i hi hk'
    obtain ⟨k, rfl⟩ : ∃ q, k = q + 1 := ⟨k - 1, by omega⟩
    obtain rfl : i = bc B := by omega
    simp only [f_X7_bestMove_l8, f_X7_bestMove_b8, gd_pos hm, hz, nn_s, gd_pos hk, gd_pos (zin hn (i := (0 : Int32)) (k := 0) rfl (by decide)), tn0, z0]
    rw [if_pos (Int32.le_refl _)]
  | succ d ih =>
    intro k i hi hk'
    obtain ⟨k, rfl⟩ : ∃ q, k = q + 1 := ⟨k - 1, by omega⟩
    have ih' := ih k (i + 1) (by omega) (by omega)
    simp only [f_X7_bestMove_l8, f_X7_bestMove_b8, gd_pos hm, hz, nn_s, gd_pos hk, gd_pos (zin hn (i := (0 : Int32)) (k := 0) rfl (by decide)), tn0, z0]
    rw [if_neg (nle_i (by omega) (by omega)), ef, cl_s, m_has (show fre (bc B) (bk B) (bb B) < 2 ^ 31 by have : fre (bc B) (bk B) (bb B) < 1024 := hF; omega) (by omega), cl_s, nI_p1]
    have eF : fre (bc B) (bk B) (bb B) = bfre B := rfl
    rw [eF]
    cases g : (bfre B).testBit i
    · rw [show bmS B (i + 1) = bmS B i by rw [bmS, if_neg (by rw [g]; decide)]] at ih'
      rw [if_pos (i01.mpr (by decide))]
      exact ih'
    · rw [if_neg (by decide)]
      cases q : bmS B i with
      | none =>
        rw [show bmS B (i + 1) = some i by rw [bmS, if_pos g, q]] at ih'
        rw [if_pos (show opI none = (-1 : Int32) from rfl)]
        exact ih'
      | some x =>
        have xl := bmS_lt q
        rw [if_neg (show ¬ opI (some x) = (-1 : Int32) from nI_nm1 (by omega)), gd_pos hm, show opI (some x) = nI x from rfl, hb i x g xl.2, cl_s]
        by_cases c1 : rkB B x < rkB B i
        · rw [show bmS B (i + 1) = some i by rw [bmS, if_pos g, q]; simp [c1]] at ih'
          rw [if_pos c1, if_neg (by decide)]
          exact ih'
        · rw [show bmS B (i + 1) = some x by rw [bmS, if_pos g, q]; simp [c1]] at ih'
          rw [if_neg c1, if_pos rfl]
          exact ih'
theorem m_bestMove (h0 : MB S m z sm wi le B) (hmz : m ≠ z ∧ m ≠ sm ∧ m ≠ wi ∧ m ≠ le) (hw : Wf B) (hN0 : 12 < N) (hN9 : 59050 < N) (ht : TabS S m sm wi le) : ∃ T, f_X7_bestMove N S m = some (opI (bmS B 10), T) ∧ Fr [m, sm, wi, le] S T ∧ (∀ k, k ≠ 11 → k ≠ 12 → hI T m k = hI S m k) ∧ TabS T m sm wi le := by
  obtain ⟨T, t1, t2, t3, t4, t5⟩ := m_solveAll (N := N) h0.1 hmz hN0 hN9 hw.lns hw.1.1 ht
  have d := h0.1.2.2.2.2
  have hT := h0.fr t2 (by simp [hmz.1.symm, d.1, d.2.1, d.2.2.1])
  have q := m_best_l (N := N) hT hw hN0 t5 (bc B) N 0 (by omega) (by have := hw.c10; omega)
  refine ⟨T, ?_, t2, t3, t4⟩
  unfold f_X7_bestMove
  rw [gd_pos h0.1.1.1.1, t1, cl_s, bmS_c hw]
  exact q
/-- what is told of a board that is solved: 0 who wins, 1 in how many moves -/
def svB (B : Bd) (w : Nat) : Nat := if bwin B ≠ 0 then (if w = 0 then bwin B else 0) else (if w = 0 then (VV (bc B) (bn B) (bM B) (bk B) (bb B) (bv B)).1 else (VV (bc B) (bn B) (bM B) (bk B) (bb B) (bv B)).2)
theorem m_solvedNow (h0 : MB S m z sm wi le B) (hmz : m ≠ z ∧ m ≠ sm ∧ m ≠ wi ∧ m ≠ le) (hw : Wf B) (hN0 : 12 < N) (hN9 : 59050 < N) (ht : TabS S m sm wi le) {w : Nat} (hw2 : w < 2) : ∃ T, f_X7_solvedNow N S m (nI w) = some (nI (svB B w), T) ∧ Fr [m, sm, wi, le] S T ∧ (∀ k, k ≠ 11 → k ≠ 12 → hI T m k = hI S m k) ∧ TabS T m sm wi le := by
  have ew := m_winnerNow (N := N) h0.1.1 (by omega)
  have hm := h0.1.1.1.1
  have e0 : nI w = 0 ↔ w = 0 := nI_eq0 (by omega)
  have wl : bwin B ≤ 2 := winP_le _ _ _ _
  unfold f_X7_solvedNow
  rw [gd_pos hm, ew, cl_s, show winP (bM B) (bn B) (bk B) (bb B) = bwin B from rfl]
  by_cases g : bwin B = 0
  · obtain ⟨T, t1, t2, t3, t4, t5⟩ := m_solveAll (N := N) h0.1 hmz hN0 hN9 hw.lns hw.1.1 ht
    have d := h0.1.2.2.2.2
    have hT := h0.fr t2 (by simp [hmz.1.symm, d.1, d.2.1, d.2.2.1])
    refine ⟨T, ?_, t2, t3, t4⟩
    have tb := tab_at (S := T) hw.c10 t5 hw.pos hw.2.2.1
    have e1 := m_maker (N := N) hT.1.1
    have e2 := m_breaker (N := N) hT.1.1
    have e3 := m_placeOf (N := N) hT.1.1 hN0 hw.k10 hw.b10 hw.2.2.1
    have hz1 := hT.2
    obtain ⟨⟨⟨hm', hz, hk, hn⟩, -⟩, -, ⟨a1, a2, a3⟩, ⟨b1, b2, b3⟩, -⟩ := hT.1
    rw [if_pos (by rw [g]; decide), gd_pos hm, t1, cl_s, gd_pos hm', e1, cl_s, gd_pos hm', e2, cl_s, gd_pos hm', hz, nn_s, gd_pos hk, gd_pos (zin hn (i := (1 : Int32)) (k := 1) rfl (by decide)), tn1, hz1, e3, cl_s]
    have es : svB B w = if w = 0 then (VV (bc B) (bn B) (bM B) (bk B) (bb B) (bv B)).1 else (VV (bc B) (bn B) (bM B) (bk B) (bb B) (bv B)).2 := by
      unfold svB
      rw [if_neg (fun q => q g)]
    by_cases q : w = 0
    · rw [if_pos q] at es
      rw [if_pos (e0.mpr q), gd_pos hm', a1, nn_s, gd_pos a2, gd_pos (inN a3 tb.1 (by decide)), nI_clamp (by omega), tb.2.1, es]
    · rw [if_neg q] at es
      rw [if_neg (fun x => q (e0.mp x)), gd_pos hm', b1, nn_s, gd_pos b2, gd_pos (inN b3 tb.1 (by decide)), nI_clamp (by omega), tb.2.2, es]
  · refine ⟨S, ?_, Fr.rf, fun _ _ _ => rfl, ht⟩
    have es : svB B w = if w = 0 then bwin B else 0 := by
      unfold svB
      rw [if_pos g]
    rw [if_neg (nI_nle (by omega) (by omega))]
    by_cases q : w = 0
    · rw [if_pos q] at es
      rw [if_pos (e0.mpr q), gd_pos hm, ew, cl_s, es]; rfl
    · rw [if_neg q] at es
      rw [if_neg (fun x => q (e0.mp x)), es]; rfl
/-- who wins behind a move -/
def imB (B : Bd) (i : Nat) : Int32 := if bwin B = 0 ∧ (bfre B).testBit i = true then nI (bWV B i).1 else -1
theorem m_movedThen (h0 : MB S m z sm wi le B) (hmz : m ≠ z ∧ m ≠ sm ∧ m ≠ wi ∧ m ≠ le) (hw : Wf B) (hN0 : 12 < N) (hN9 : 59050 < N) (ht : TabS S m sm wi le) {i : Nat} (hi : i < 10) : ∃ T, f_X7_movedThen N S m (nI i) = some (imB B i, T) ∧ Fr [m, sm, wi, le] S T ∧ (∀ k, k ≠ 11 → k ≠ 12 → hI T m k = hI S m k) ∧ TabS T m sm wi le := by
  have ew := m_winnerNow (N := N) h0.1.1 (by omega)
  have ef := m_free (N := N) h0.1.1
  have hm := h0.1.1.1.1
  have wl : bwin B ≤ 2 := winP_le _ _ _ _
  have hF : bfre B < 1024 := fre_lt hw.c10
  unfold f_X7_movedThen imB
  rw [gd_pos hm, ew, cl_s, show winP (bM B) (bn B) (bk B) (bb B) = bwin B from rfl]
  by_cases g : bwin B = 0
  · rw [if_neg (show ¬ (0 : Int32) < nI (bwin B) by rw [g]; decide), gd_pos hm, ef, cl_s, show fre (bc B) (bk B) (bb B) = bfre B from rfl, m_has (by omega) (by omega), cl_s]
    cases q : (bfre B).testBit i
    · rw [if_pos (i01.mpr (by decide)), if_neg (fun x => by cases x.2)]
      exact ⟨S, rfl, Fr.rf, fun _ _ _ => rfl, ht⟩
    · obtain ⟨T, t1, t2, t3, t4, t5⟩ := m_solveAll (N := N) h0.1 hmz hN0 hN9 hw.lns hw.1.1 ht
      have d := h0.1.2.2.2.2
      have hT := h0.fr t2 (by simp [hmz.1.symm, d.1, d.2.1, d.2.2.1])
      have pb := m_placeBehind (N := N) hT hw hN0 q
      have tb := tab_at (S := T) hw.c10 t5 (hw.pos.ch (v := bv B) hw.c10 q) (show 3 - bv B = 1 ∨ 3 - bv B = 2 by have := hw.2.2.1; omega)
      obtain ⟨⟨⟨hm', hz, hk, hn⟩, -⟩, -, ⟨a1, a2, a3⟩, -⟩ := hT.1
      rw [if_neg (by decide), gd_pos hm, t1, cl_s, gd_pos hm', a1, nn_s, pb, cl_s, gd_pos a2, gd_pos (inN a3 tb.1 (by decide)), nI_clamp (by omega), tb.2.1, if_pos ⟨g, rfl⟩]
      exact ⟨T, rfl, t2, t3, t4⟩
  · rw [if_pos (show (0 : Int32) < nI (bwin B) from nI_lt (a := 0) (by omega) (by omega)), if_neg (fun x => g x.1)]
    exact ⟨S, rfl, Fr.rf, fun _ _ _ => rfl, ht⟩
end
