def tlV (f : Nat → Nat) : Nat → Nat → Nat
  | _, 0 => 0
  | i, e + 1 => f i + 3 * tlV f (i + 1) e
theorem sm_mul (h : Nat → Nat) : ∀ e, fb_sm (fun k => 3 * h k) e = 3 * fb_sm h e
  | 0 => rfl
  | e + 1 => by rw [fb_sm_succ, fb_sm_succ, sm_mul h e, Nat.mul_add]
theorem tl_sum (f : Nat → Nat) : ∀ (e i : Nat), tlV f i e = fb_sm (fun k => f (i + k) * 3 ^ k) e
  | 0, _ => rfl
  | e + 1, i => by
    have q := fb_sm_split (fun k => f (i + k) * 3 ^ k) 1 e
    rw [tlV, tl_sum f e (i + 1), Nat.add_comm e 1, q, ← sm_mul]
    congr 1
    · show _ = 0 + f (i + 0) * 3 ^ 0
      simp
    · refine fb_sm_cong (fun k _ => ?_)
      rw [show i + 1 + k = i + (1 + k) by omega, Nat.pow_add, Nat.pow_one]
      rw [Nat.mul_left_comm]
theorem tl_pl (c mk br : Nat) : tlV (dgt mk br) 0 c = plV c mk br := by
  rw [tl_sum]
  unfold plV
  exact fb_sm_cong (fun k _ => by rw [Nat.zero_add])
theorem tl_lt (mk br e i : Nat) : tlV (dgt mk br) i e < 3 ^ e := by
  rw [tl_sum]
  exact sum3_lt (fun k => dgt_le mk br (i + k)) e
section
variable {N : Nat} {S : Hp} {m z sm wi le c n mk br : Nat} {M : Nat → Nat}
theorem m_placeOf_l {a d : Nat} (ha : a < 1024) (hd : d < 1024) (hc : c ≤ 10) {y : Int32} : ∀ i k, i ≤ c → i < k → f_X7_placeOf_l13 N m (nI a) (nI d) y k S (nI (tlV (dgt a d) i (c - i))) (nI i - 1) = some (nI (plV c a d) + (59049 : Int32) * (y - (1 : Int32)), S)
  | 0, k, _, hk => by
    obtain ⟨k, rfl⟩ : ∃ q, k = q + 1 := ⟨k - 1, by omega⟩
    unfold f_X7_placeOf_l13 f_X7_placeOf_b13
    rw [if_pos (by decide), Nat.sub_zero, tl_pl]
  | i + 1, k, hi, hk => by
    obtain ⟨k, rfl⟩ : ∃ q, k = q + 1 := ⟨k - 1, by omega⟩
    have ih := m_placeOf_l (y := y) ha hd hc i k (by omega) (by omega)
    obtain ⟨e, he⟩ : ∃ e, c - i = e + 1 := ⟨c - i - 1, by omega⟩
    have he' : c - (i + 1) = e := by omega
    rw [he, tlV] at ih
    unfold f_X7_placeOf_l13 f_X7_placeOf_b13
    rw [nI_m1, if_neg (nI_pos (by omega)), m_has (by omega) (by omega), cl_s, he', show nI i + (-1 : Int32) = nI i - 1 from (Int32.sub_eq_add_neg _ _).symm, show (3 : Int32) = nI 3 from rfl, nI_mul]
    cases t : a.testBit i
    · rw [if_pos (i01.mpr (by decide)), m_has (by omega) (by omega), cl_s]
      cases u : d.testBit i
      · have ed : dgt a d i = 0 := by unfold dgt; rw [t, u]; rfl
        rw [ed] at ih
        rw [if_pos (i01.mpr (by decide)), bd_d, show (0 : Int32) = nI 0 from rfl, nI_plus, Nat.add_comm]
        exact ih
      · have ed : dgt a d i = 2 := by unfold dgt; rw [t, u]; rfl
        rw [ed] at ih
        rw [if_neg (by decide), bd_d, show (2 : Int32) = nI 2 from rfl, nI_plus, Nat.add_comm]
        exact ih
    · have ed : dgt a d i = 1 := by unfold dgt; rw [t]; rfl
      rw [ed] at ih
      rw [if_neg (by decide), bd_d, show (1 : Int32) = nI 1 from rfl, nI_plus, Nat.add_comm]
      exact ih
theorem m_placeOf (h0 : Mz S m z c n mk br M) (hN0 : 12 < N) {a d v : Nat} (ha : a < 1024) (hd : d < 1024) (hv : v = 1 ∨ v = 2) : f_X7_placeOf N S m (nI a) (nI d) (nI v) = some (nI (plV c a d + 59049 * (v - 1)), S) := by
  obtain ⟨⟨hm, hz, hk, hn⟩, ⟨z0, h2, h3, h4, hM⟩, hc, hn12, hmk, hbr, hM1⟩ := h0
  have q := m_placeOf_l (N := N) (S := S) (m := m) (y := nI v) ha hd hc c N (Nat.le_refl c) (by omega)
  rw [Nat.sub_self] at q
  have e : (59049 : Int32) * (nI v - (1 : Int32)) = nI (59049 * (v - 1)) := by
    rw [show (59049 : Int32) = nI 59049 from rfl, show (1 : Int32) = nI 1 from rfl, nI_minus (by omega), nI_mul]
  rw [e, nI_plus] at q
  simp only [f_X7_placeOf, gd_pos hm, hz, nn_s, gd_pos hk, gd_pos (zin hn (i := (0 : Int32)) (k := 0) rfl (by decide)), tn0, z0, bd_d]
  exact q
end
/-- the model's board is B, as far as its solver looks -/
def MB (S : Hp) (m z sm wi le : Nat) (B : Bd) : Prop := MS S m z sm wi le (bc B) (bn B) (bk B) (bb B) (bM B) ∧ hI S z 1 = nI (bv B)
section
variable {N : Nat} {S : Hp} {m z sm wi le : Nat} {B : Bd}
theorem m_placeBehind (h0 : MB S m z sm wi le B) (hw : Wf B) (hN0 : 12 < N) {i : Nat} (hf : (bfre B).testBit i = true) : f_X7_placeBehind N S m (nI i) = some (nI (plV (bc B) (chK (bv B) (bk B) i) (chB (bv B) (bb B) i) + 59049 * (3 - bv B - 1)), S) := by
  have hp := hw.pos.ch (v := bv B) hw.c10 hf
  have hi := fr_lt hw.c10 hf
  have hc := hw.c10
  have m1 : chK (bv B) (bk B) i < 1024 := Nat.lt_of_lt_of_le hp.1 (pw10 hc)
  have m2 : chB (bv B) (bb B) i < 1024 := Nat.lt_of_lt_of_le hp.2.1 (pw10 hc)
  have e1 := m_maker (N := N) h0.1.1
  have e2 := m_breaker (N := N) h0.1.1
  have e3 := m_placeOf (N := N) h0.1.1 hN0 m1 m2 (show 3 - bv B = 1 ∨ 3 - bv B = 2 by have := hw.2.2.1; omega)
  have hz1 := h0.2
  obtain ⟨⟨hm, hz, hk, hn⟩, -⟩ := h0.1.1
  unfold f_X7_placeBehind
  rw [bd_d, nI_bit i (by omega), gd_pos hm, e1, cl_s, gd_pos hm, hz, nn_s, gd_pos hk, gd_pos (zin hn (i := (1 : Int32)) (k := 1) rfl (by decide)), tn1, hz1]
  unfold f_X7_placeBehind_b24 f_X7_placeBehind_b44
  rcases hw.2.2.1 with v | v
  · rw [v] at e3 hz1 ⊢
    rw [if_pos (show nI 1 = (1 : Int32) from rfl), gd_pos hm, e2, cl_s, gd_pos hm, hz, nn_s, gd_pos hk, gd_pos (zin hn (i := (1 : Int32)) (k := 1) rfl (by decide)), tn1, hz1, if_neg (show ¬ nI 1 = (2 : Int32) by decide), gd_pos hm, nn_s, gd_pos hk, gd_pos (zin hn (i := (1 : Int32)) (k := 1) rfl (by decide)), gd_pos hm, nI_or, show (0 : Int32) = nI 0 from rfl, nI_or, Nat.or_zero, hz1, show (3 : Int32) - nI 1 = nI (3 - 1) from rfl]
    have e3' : f_X7_placeOf N S m (nI (bk B ||| 2 ^ i)) (nI (bb B)) (nI (3 - 1)) = _ := e3
    rw [e3', cl_s]
  · rw [v] at e3 hz1 ⊢
    rw [if_neg (show ¬ nI 2 = (1 : Int32) by decide), gd_pos hm, e2, cl_s, gd_pos hm, hz, nn_s, gd_pos hk, gd_pos (zin hn (i := (1 : Int32)) (k := 1) rfl (by decide)), tn1, hz1, if_pos (show nI 2 = (2 : Int32) from rfl), gd_pos hm, nn_s, gd_pos hk, gd_pos (zin hn (i := (1 : Int32)) (k := 1) rfl (by decide)), gd_pos hm, nI_or, show (0 : Int32) = nI 0 from rfl, nI_or, Nat.or_zero, hz1, show (3 : Int32) - nI 2 = nI (3 - 2) from rfl]
    have e3' : f_X7_placeOf N S m (nI (bk B)) (nI (bb B ||| 2 ^ i)) (nI (3 - 2)) = _ := e3
    rw [e3', cl_s]
/-- what the tables tell of a position -/
theorem tab_at {c n a d v : Nat} {M : Nat → Nat} (hc : c ≤ 10) (ht : Tab S wi le c n M 0) (hp : Pos c a d) (hv : v = 1 ∨ v = 2) : plV c a d + 59049 * (v - 1) < 118098 ∧ hI S wi (plV c a d + 59049 * (v - 1)) = nI (VV c n M a d v).1 ∧ hI S le (plV c a d + 59049 * (v - 1)) = nI (VV c n M a d v).2 := by
  have l := plV_lt c a d
  have p := pow3_le hc
  have q := ht (plV c a d) v (Nat.zero_le _) l hv
  rw [(mkC_pl hp).1, (mkC_pl hp).2] at q
  exact ⟨by omega, q⟩
theorem m_isBetter (h0 : MB S m z sm wi le B) (hw : Wf B) (hN0 : 12 < N) (ht : Tab S wi le (bc B) (bn B) (bM B) 0) {i b : Nat} (hi : (bfre B).testBit i = true) (hb : (bfre B).testBit b = true) : f_X7_isBetter N S m (nI i) (nI b) = some ((if rkB B b < rkB B i then (1 : Int32) else 0), S) := by
  have p1 := m_placeBehind (N := N) h0 hw hN0 hi
  have p2 := m_placeBehind (N := N) h0 hw hN0 hb
  have hv3 : 3 - bv B = 1 ∨ 3 - bv B = 2 := by have := hw.2.2.1; omega
  have t1 := tab_at (S := S) hw.c10 ht (hw.pos.ch (v := bv B) hw.c10 hi) hv3
  have t2 := tab_at (S := S) hw.c10 ht (hw.pos.ch (v := bv B) hw.c10 hb) hv3
  have w1 : (bWV B i).1 = 1 ∨ (bWV B i).1 = 2 := VV_12 hw.c10
  have w2 : (bWV B b).1 = 1 ∨ (bWV B b).1 = 2 := VV_12 hw.c10
  have l1 := bWV_len hw i
  have l2 := bWV_len hw b
  rw [show VV (bc B) (bn B) (bM B) (chK (bv B) (bk B) i) (chB (bv B) (bb B) i) (3 - bv B) = bWV B i from rfl] at t1
  rw [show VV (bc B) (bn B) (bM B) (chK (bv B) (bk B) b) (chB (bv B) (bb B) b) (3 - bv B) = bWV B b from rfl] at t2
  generalize plV (bc B) (chK (bv B) (bk B) i) (chB (bv B) (bb B) i) + 59049 * (3 - bv B - 1) = x at p1 t1
  generalize plV (bc B) (chK (bv B) (bk B) b) (chB (bv B) (bb B) b) + 59049 * (3 - bv B - 1) = y at p2 t2
  have hz1 := h0.2
  obtain ⟨⟨⟨hm, hz, hk, hn⟩, -⟩, -, ⟨a1, a2, a3⟩, ⟨b1, b2, b3⟩, -⟩ := h0.1
  have ix := inN a3 t1.1 (by decide)
  have iy := inN a3 t2.1 (by decide)
  have jx := inN b3 t1.1 (by decide)
  have jy := inN b3 t2.1 (by decide)
  have cx : (nI x).toNatClampNeg = x := nI_clamp (by omega)
  have cy : (nI y).toNatClampNeg = y := nI_clamp (by omega)
  have i1 := zin hn (i := (1 : Int32)) (k := 1) rfl (by decide)
  simp only [f_X7_isBetter, f_X7_isBetter_b33, f_X7_isBetter_b56, gd_pos hm, p1, p2, cl_s, a1, nn_s, gd_pos a2, gd_pos ix, hz, gd_pos hk, gd_pos i1, cx, tn1, t1.2.1, hz1, gd_pos iy, cy, t2.2.1, b1, gd_pos b2, gd_pos jx, gd_pos jy, t1.2.2, t2.2.2]
  unfold rkB
  have n12 : ¬ nI 1 = nI 2 := by decide
  have n21 : ¬ nI 2 = nI 1 := by decide
  have k1 : nI 1 = (1 : Int32) := rfl
  have k2 : ¬ nI 2 = (1 : Int32) := by decide
  have z1 : ¬ (1 : Int32) = 0 := by decide
  have z0 : ¬ (0 : Int32) = 1 := by decide
  have B1 : isB (1 : Int32) := Or.inr rfl
  have B0 : isB (0 : Int32) := Or.inl rfl
  rcases hw.2.2.1 with v | v
  · rcases w1 with e1 | e1
    · have q1 := l1 e1
      rcases w2 with e2 | e2
      · have q2 := l2 e2
        by_cases g : (bWV B b).2 ≤ (bWV B i).2
        · have g2 : ¬ (100 - (bWV B b).2 < 100 - (bWV B i).2) := by omega
          simp [v, e1, e2, k1, z1, nI_le g (show (bWV B i).2 < 2 ^ 31 by omega), g2]
        · have g2 : 100 - (bWV B b).2 < 100 - (bWV B i).2 := by omega
          simp [v, e1, e2, k1, z1, nle_i (show (bWV B i).2 < (bWV B b).2 by omega) (by omega), g2]
      · have g2 : 0 < 100 - (bWV B i).2 := by omega
        simp [v, e1, e2, k1, k2, n21, z0, z1, gd_pos B1, g2]
    · rcases w2 with e2 | e2
      · simp [v, e1, e2, k1, k2, n21, z0, z1, gd_pos B0]
      · simp [v, e1, e2, k1, k2, n21, z0]
  · rcases w1 with e1 | e1
    · have q1 := l1 e1
      rcases w2 with e2 | e2
      · have q2 := l2 e2
        by_cases g : (bWV B i).2 ≤ (bWV B b).2
        · have g2 : ¬ ((bWV B b).2 < (bWV B i).2) := by omega
          simp [v, e1, e2, k2, n12, z0, nI_le g (show (bWV B b).2 < 2 ^ 31 by omega), g2]
        · have g2 : (bWV B b).2 < (bWV B i).2 := by omega
          simp [v, e1, e2, k2, n12, z0, nle_i g2 (by omega), g2]
      · have g2 : ¬ (100 < (bWV B i).2) := by omega
        simp [v, e1, e2, k2, n12, z0, gd_pos B0, g2]
    · rcases w2 with e2 | e2
      · have q2 := l2 e2
        have g2 : (bWV B b).2 < 100 := by omega
        simp [v, e1, e2, k2, n12, z1, gd_pos B1, g2]
      · simp [v, e1, e2, k2, z1]
end
