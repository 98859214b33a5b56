/-- the model's row of numbers is B's -/
def Zr (S : Hp) (z : Nat) (B : Bd) : Prop := (hI S z 0 = nI (bc B) ∧ hI S z 1 = nI (bv B) ∧ hI S z 2 = nI (bn B) ∧ hI S z 3 = nI (bk B) ∧ hI S z 4 = nI (bb B) ∧ hI S z 5 = bl B ∧ hI S z 6 = bp B ∧ hI S z 7 = bo B ∧ hI S z 8 = bx B ∧ hI S z 9 = by_ B) ∧ ∀ j, j < bn B → hI S z (10 + j) = nI (bM B j)
def ZM (S : Hp) (m z : Nat) (B : Bd) : Prop := (ok S m 7 ∧ hR S m 0 = some z ∧ ok S z 8 ∧ hN S z = 22) ∧ Zr S z B
theorem ZM.mz {S : Hp} {m z : Nat} {B : Bd} (h : ZM S m z B) (hw : Wf B) : Mz S m z (bc B) (bn B) (bk B) (bb B) (bM B) :=
  ⟨h.1, ⟨h.2.1.1, h.2.1.2.2.1, h.2.1.2.2.2.1, h.2.1.2.2.2.2.1, h.2.2⟩, hw.c10, hw.1.2.2.1, hw.k10, hw.b10, fun j hj => Nat.lt_of_lt_of_le (hw.1.2.2.2 j hj).1 (pw10 hw.c10)⟩
theorem ZM.fr {E : List Nat} {S T : Hp} {m z : Nat} {B : Bd} (h : ZM S m z B) (f : Fr E S T) (hz : z ∉ E) : ZM T m z B := by
  obtain ⟨⟨a1, a2, a3, a4⟩, b⟩ := h
  refine ⟨⟨f.ok a1, by rw [f.R]; exact a2, f.ok a3, by rw [f.N]; exact a4⟩, ?_⟩
  unfold Zr
  rw [f.I hz]
  exact b
/-- the shapes of the model's arrays -/
def PS (S : Hp) (m pa lo up : Nat) : Prop := (hR S m 8 = some pa ∧ ok S pa 8 ∧ hN S pa = 10) ∧ (hR S m 9 = some lo ∧ ok S lo 8 ∧ hN S lo = 12) ∧ (hR S m 10 = some up ∧ ok S up 8 ∧ hN S up = 12)
def SS (S : Hp) (m sm wi le : Nat) : Prop := (hR S m 13 = some sm ∧ ok S sm 8 ∧ hN S sm = 12) ∧ (hR S m 14 = some wi ∧ ok S wi 8 ∧ hN S wi = 118098) ∧ (hR S m 15 = some le ∧ ok S le 8 ∧ hN S le = 118098)
theorem PS.fr {E : List Nat} {S T : Hp} {m pa lo up : Nat} (h : PS S m pa lo up) (f : Fr E S T) : PS T m pa lo up := by
  obtain ⟨⟨a1, a2, a3⟩, ⟨b1, b2, b3⟩, c1, c2, c3⟩ := h
  exact ⟨⟨by rw [f.R]; exact a1, f.ok a2, by rw [f.N]; exact a3⟩, ⟨by rw [f.R]; exact b1, f.ok b2, by rw [f.N]; exact b3⟩, by rw [f.R]; exact c1, f.ok c2, by rw [f.N]; exact c3⟩
theorem SS.fr {E : List Nat} {S T : Hp} {m sm wi le : Nat} (h : SS S m sm wi le) (f : Fr E S T) : SS T m sm wi le := by
  obtain ⟨⟨a1, a2, a3⟩, ⟨b1, b2, b3⟩, c1, c2, c3⟩ := h
  exact ⟨⟨by rw [f.R]; exact a1, f.ok a2, by rw [f.N]; exact a3⟩, ⟨by rw [f.R]; exact b1, f.ok b2, by rw [f.N]; exact b3⟩, by rw [f.R]; exact c1, f.ok c2, by rw [f.N]; exact c3⟩
section
variable {N : Nat} {S : Hp} {m z pa lo up : Nat} {B : Bd}
theorem m_moves (h : ZM S m z B) (hw : Wf B) (hp : PS S m pa lo up) (hd : pa ≠ lo ∧ pa ≠ up ∧ lo ≠ up ∧ z ≠ pa ∧ z ≠ lo ∧ z ≠ up) (hN0 : 200 < N) (hT : TT 12 ≤ N) (hT2 : TT (bn B) ≤ N) {i : Nat} (hf : (bfre B).testBit i = true) : ∃ T, f_X7_moves N S m (nI i) = some ((), T) ∧ Fr [z, pa, lo, up] S T ∧ ZM T m z (occB B i (parB B i)) := by
  have hi := fr_lt hw.c10 hf
  have hc := hw.c10
  obtain ⟨T, t1, t2⟩ := m_partnerOf (N := N) (i := i) ⟨h.mz hw, hp.1, hp.2.1, hp.2.2, hd⟩ hw hN0 hT hT2 (by omega)
  have hz1 : z ∉ [pa, lo, up] := by simp [hd.2.2.2.1, hd.2.2.2.2.1, hd.2.2.2.2.2]
  have hZ := h.fr t2 hz1
  obtain ⟨⟨m1, m2, m3, m4⟩, ⟨z0, z1, z2, z3, z4, z5, z6, z7, z8, z9⟩, zM⟩ := hZ
  have hm := h.1.1
  have hr := h.1.2.1
  have ii : ∀ k, k < 22 → inb (nI k) (hN T z) := fun k hk => zin m4 rfl hk
  have wok := occ0_wf hw hf (par_ok hw i)
  have wl := winP_le (bM B) (bn B) (occK B i) (occR B i)
  -- behind the move, but for the wins
  have rest : ∀ U : Hp, Fr [z] T U → Zr U z (occ0 B i (parB B i)) → ∃ V, (cl (f_X7_winnerNow N U m) fun r49 S49 => if r49 ≤ 0 then (some ((), S49)) else (gd (ok S49 m 7) <| nn (hR S49 m 0) fun r52 => gd (ok S49 r52 8) <| gd (inb ((7 : Int32) + r49) (hN S49 r52)) <| bd (sI S49 r52 ((7 : Int32) + r49).toNatClampNeg ((hI S49 r52 ((7 : Int32) + r49).toNatClampNeg) + (1 : Int32))) fun S55 => some ((), S55))) = some ((), V) ∧ Fr [z, pa, lo, up] S V ∧ ZM V m z (occB B i (parB B i)) := by
    intro U f hU
    have zU : ZM U m z (occ0 B i (parB B i)) := ⟨⟨f.ok m1, by rw [f.R]; exact m2, f.ok m3, by rw [f.N]; exact m4⟩, hU⟩
    have ew := m_winnerNow (N := N) (zU.mz wok) (by omega)
    have ew' : f_X7_winnerNow N U m = some (nI (winP (bM B) (bn B) (occK B i) (occR B i)), U) := ew
    have fU : Fr [z, pa, lo, up] S U := (t2.mono (by simp)).tr (f.mono (by simp))
    rw [ew', cl_s]
    by_cases g : winP (bM B) (bn B) (occK B i) (occR B i) = 0
    · rw [if_pos (by rw [g]; decide)]
      refine ⟨U, rfl, fU, zU.1, ?_, hU.2⟩
      obtain ⟨⟨u0, u1, u2, u3, u4, u5, u6, u7, u8, u9⟩, -⟩ := hU
      refine ⟨u0, u1, u2, u3, u4, u5, u6, u7, ?_, ?_⟩
      · rw [u8]
        show bx B = bx B + (if winP (bM B) (bn B) (occK B i) (occR B i) = 1 then 1 else 0)
        rw [g]; simp
      · rw [u9]
        show by_ B = by_ B + (if winP (bM B) (bn B) (occK B i) (occR B i) = 2 then 1 else 0)
        rw [g]; simp
    · have e7 : (7 : Int32) + nI (winP (bM B) (bn B) (occK B i) (occR B i)) = nI (7 + winP (bM B) (bn B) (occK B i) (occR B i)) := nI_plus 7 _
      rw [if_neg (nI_nle (by omega) (by omega)), gd_pos zU.1.1, zU.1.2.1, nn_s, gd_pos zU.1.2.2.1, e7, gd_pos (zin zU.1.2.2.2 (k := 7 + winP (bM B) (bn B) (occK B i) (occR B i)) rfl (by omega)), bd_d, nI_clamp (by omega)]
      have f2 : Fr [z] U (sI U z (7 + winP (bM B) (bn B) (occK B i) (occR B i)) (hI U z (7 + winP (bM B) (bn B) (occK B i) (occR B i)) + 1)) := Fr.rf.sI (by simp)
      refine ⟨_, rfl, fU.tr (f2.mono (by simp)), ⟨f2.ok zU.1.1, by rw [f2.R]; exact zU.1.2.1, f2.ok zU.1.2.2.1, by rw [f2.N]; exact zU.1.2.2.2⟩, ?_, fun j hj => by rw [hI_k (by omega)]; exact hU.2 j hj⟩
      obtain ⟨⟨u0, u1, u2, u3, u4, u5, u6, u7, u8, u9⟩, -⟩ := hU
      have w12 : winP (bM B) (bn B) (occK B i) (occR B i) = 1 ∨ winP (bM B) (bn B) (occK B i) (occR B i) = 2 := by omega
      refine ⟨by rw [hI_k (by omega)]; exact u0, by rw [hI_k (by omega)]; exact u1, by rw [hI_k (by omega)]; exact u2, by rw [hI_k (by omega)]; exact u3, by rw [hI_k (by omega)]; exact u4, by rw [hI_k (by omega)]; exact u5, by rw [hI_k (by omega)]; exact u6, by rw [hI_k (by omega)]; exact u7, ?_, ?_⟩
      · show _ = bx B + (if winP (bM B) (bn B) (occK B i) (occR B i) = 1 then 1 else 0)
        rcases w12 with w | w
        · rw [w, hI_same, u8]; rfl
        · rw [w, hI_k (by decide), u8]
          show bx B = _
          simp
      · show _ = by_ B + (if winP (bM B) (bn B) (occK B i) (occR B i) = 2 then 1 else 0)
        rcases w12 with w | w
        · rw [w, hI_k (by decide), u9]
          show by_ B = _
          simp
        · rw [w, hI_same, u9]; rfl
  unfold f_X7_moves
  rw [gd_pos hm, hr, nn_s, t1, cl_s, gd_pos m3, gd_pos (zin m4 (i := (6 : Int32)) (k := 6) rfl (by decide)), gd_pos (ok_sI m1)]
  simp only [hR_sI, m2, nn_s, gd_pos (ok_sI m3), hN_sI, gd_pos (zin m4 (i := (1 : Int32)) (k := 1) rfl (by decide)), gd_pos (zin m4 (i := (5 : Int32)) (k := 5) rfl (by decide)), gd_pos (zin m4 (i := (7 : Int32)) (k := 7) rfl (by decide)), tn1, tn5, tn6, tn7, hI_k (show (1 : Nat) ≠ 6 by decide), z1, bd_d, nI_bit i (by omega)]
  rcases hw.2.2.1 with v | v
  · have e2 : (2 : Int32) + nI (bv B) = nI 3 := by rw [v]; rfl
    have c3 : (nI 3).toNatClampNeg = 3 := rfl
    rw [e2, gd_pos (ii 3 (by decide)), c3]
    refine rest _ ((((((Fr.rf.sI (by simp)).sI (by simp)).sI (by simp)).sI (by simp))).sI (by simp)) ?_
    refine ⟨⟨?_, ?_, ?_, ?_, ?_, ?_, ?_, ?_, ?_, ?_⟩, fun j hj => ?_⟩
    · simp only [hI_k (show (0 : Nat) ≠ 7 by decide), hI_k (show (0 : Nat) ≠ 1 by decide), hI_k (show (0 : Nat) ≠ 5 by decide), hI_k (show (0 : Nat) ≠ 3 by decide), hI_k (show (0 : Nat) ≠ 6 by decide), z0]; rfl
    · simp only [hI_k (show (1 : Nat) ≠ 7 by decide), hI_same, hI_k (show (1 : Nat) ≠ 5 by decide), hI_k (show (1 : Nat) ≠ 3 by decide), hI_k (show (1 : Nat) ≠ 6 by decide), z1, v]; show _ = nI (3 - bv B); rw [v]; rfl
    · simp only [hI_k (show (2 : Nat) ≠ 7 by decide), hI_k (show (2 : Nat) ≠ 1 by decide), hI_k (show (2 : Nat) ≠ 5 by decide), hI_k (show (2 : Nat) ≠ 3 by decide), hI_k (show (2 : Nat) ≠ 6 by decide), z2]; rfl
    · simp only [hI_k (show (3 : Nat) ≠ 7 by decide), hI_k (show (3 : Nat) ≠ 1 by decide), hI_k (show (3 : Nat) ≠ 5 by decide), hI_same, hI_k (show (3 : Nat) ≠ 6 by decide), z3, nI_or]; show _ = nI (occK B i); rw [occK, if_pos v]
    · simp only [hI_k (show (4 : Nat) ≠ 7 by decide), hI_k (show (4 : Nat) ≠ 1 by decide), hI_k (show (4 : Nat) ≠ 5 by decide), hI_k (show (4 : Nat) ≠ 3 by decide), hI_k (show (4 : Nat) ≠ 6 by decide), z4]; show _ = nI (occR B i); rw [occR, if_pos v]
    · simp only [hI_k (show (5 : Nat) ≠ 7 by decide), hI_k (show (5 : Nat) ≠ 1 by decide), hI_same]; rfl
    · simp only [hI_k (show (6 : Nat) ≠ 7 by decide), hI_k (show (6 : Nat) ≠ 1 by decide), hI_k (show (6 : Nat) ≠ 5 by decide), hI_k (show (6 : Nat) ≠ 3 by decide), hI_same]; rfl
    · simp only [hI_same, hI_k (show (7 : Nat) ≠ 1 by decide), hI_k (show (7 : Nat) ≠ 5 by decide), hI_k (show (7 : Nat) ≠ 3 by decide), hI_k (show (7 : Nat) ≠ 6 by decide), z7]; rfl
    · simp only [hI_k (show (8 : Nat) ≠ 7 by decide), hI_k (show (8 : Nat) ≠ 1 by decide), hI_k (show (8 : Nat) ≠ 5 by decide), hI_k (show (8 : Nat) ≠ 3 by decide), hI_k (show (8 : Nat) ≠ 6 by decide), z8]; rfl
    · simp only [hI_k (show (9 : Nat) ≠ 7 by decide), hI_k (show (9 : Nat) ≠ 1 by decide), hI_k (show (9 : Nat) ≠ 5 by decide), hI_k (show (9 : Nat) ≠ 3 by decide), hI_k (show (9 : Nat) ≠ 6 by decide), z9]; rfl
    · rw [hI_k (by omega), hI_k (by omega), hI_k (by omega), hI_k (by omega), hI_k (by omega)]; exact zM j hj
  · have e2 : (2 : Int32) + nI (bv B) = nI 4 := by rw [v]; rfl
    have c4 : (nI 4).toNatClampNeg = 4 := rfl
    rw [e2, gd_pos (ii 4 (by decide)), c4]
    refine rest _ ((((((Fr.rf.sI (by simp)).sI (by simp)).sI (by simp)).sI (by simp))).sI (by simp)) ?_
    refine ⟨⟨?_, ?_, ?_, ?_, ?_, ?_, ?_, ?_, ?_, ?_⟩, fun j hj => ?_⟩
    · simp only [hI_k (show (0 : Nat) ≠ 7 by decide), hI_k (show (0 : Nat) ≠ 1 by decide), hI_k (show (0 : Nat) ≠ 5 by decide), hI_k (show (0 : Nat) ≠ 4 by decide), hI_k (show (0 : Nat) ≠ 6 by decide), z0]; rfl
    · simp only [hI_k (show (1 : Nat) ≠ 7 by decide), hI_same, hI_k (show (1 : Nat) ≠ 5 by decide), hI_k (show (1 : Nat) ≠ 4 by decide), hI_k (show (1 : Nat) ≠ 6 by decide), z1, v]; show _ = nI (3 - bv B); rw [v]; rfl
    · simp only [hI_k (show (2 : Nat) ≠ 7 by decide), hI_k (show (2 : Nat) ≠ 1 by decide), hI_k (show (2 : Nat) ≠ 5 by decide), hI_k (show (2 : Nat) ≠ 4 by decide), hI_k (show (2 : Nat) ≠ 6 by decide), z2]; rfl
    · simp only [hI_k (show (3 : Nat) ≠ 7 by decide), hI_k (show (3 : Nat) ≠ 1 by decide), hI_k (show (3 : Nat) ≠ 5 by decide), hI_k (show (3 : Nat) ≠ 4 by decide), hI_k (show (3 : Nat) ≠ 6 by decide), z3]; show _ = nI (occK B i); rw [occK, if_neg (by rw [v]; decide)]
    · simp only [hI_k (show (4 : Nat) ≠ 7 by decide), hI_k (show (4 : Nat) ≠ 1 by decide), hI_k (show (4 : Nat) ≠ 5 by decide), hI_same, hI_k (show (4 : Nat) ≠ 6 by decide), z4, nI_or]; show _ = nI (occR B i); rw [occR, if_neg (by rw [v]; decide)]
    · simp only [hI_k (show (5 : Nat) ≠ 7 by decide), hI_k (show (5 : Nat) ≠ 1 by decide), hI_same]; rfl
    · simp only [hI_k (show (6 : Nat) ≠ 7 by decide), hI_k (show (6 : Nat) ≠ 1 by decide), hI_k (show (6 : Nat) ≠ 5 by decide), hI_k (show (6 : Nat) ≠ 4 by decide), hI_same]; rfl
    · simp only [hI_same, hI_k (show (7 : Nat) ≠ 1 by decide), hI_k (show (7 : Nat) ≠ 5 by decide), hI_k (show (7 : Nat) ≠ 4 by decide), hI_k (show (7 : Nat) ≠ 6 by decide), z7]; rfl
    · simp only [hI_k (show (8 : Nat) ≠ 7 by decide), hI_k (show (8 : Nat) ≠ 1 by decide), hI_k (show (8 : Nat) ≠ 5 by decide), hI_k (show (8 : Nat) ≠ 4 by decide), hI_k (show (8 : Nat) ≠ 6 by decide), z8]; rfl
    · simp only [hI_k (show (9 : Nat) ≠ 7 by decide), hI_k (show (9 : Nat) ≠ 1 by decide), hI_k (show (9 : Nat) ≠ 5 by decide), hI_k (show (9 : Nat) ≠ 4 by decide), hI_k (show (9 : Nat) ≠ 6 by decide), z9]; rfl
    · rw [hI_k (by omega), hI_k (by omega), hI_k (by omega), hI_k (by omega), hI_k (by omega)]; exact zM j hj
end
