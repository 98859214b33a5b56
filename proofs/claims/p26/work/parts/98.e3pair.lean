/-! the law's pairing -/
def LPq (S : Hp) (pa s : Nat) (Q : Nat → Nat × Nat) : Prop := (ok S pa 8 ∧ hN S pa = 5) ∧ ∀ x, x < 5 → hI S pa x = parOf s Q x
theorem pq {S : Hp} {a : Nat} (h : hN S a = 5) {j : Nat} (hj : j < 5) : inb (nI j) (hN S a) := by
  rw [h]
  unfold inb
  rw [nI_toInt (by omega)]
  omega
theorem LB.fr {E : List Nat} {S T : Hp} {zz li c n mk br : Nat} {M : Nat → Nat} (h : LB S zz li c n mk br M) (f : Fr E S T) (h1 : zz ∉ E) (h2 : li ∉ E) : LB T zz li c n mk br M := by
  obtain ⟨⟨a1, a2, a3, a4⟩, b1, c1⟩ := h
  refine ⟨⟨f.ok a1, by rw [f.N]; exact a2, f.ok a3, by rw [f.N]; exact a4⟩, ?_, c1⟩
  rw [f.I h1, f.I h2]
  exact b1
def cvB (a s : Nat) (Q : Nat → Nat × Nat) (x : Nat) : Bool := !(decide (parOf s Q x = -1)) && (a.testBit x && a.testBit (parOf s Q x).toNatClampNeg)
theorem cv_in {F s : Nat} {Q : Nat → Nat × Nat} (hg : goodQ F s Q) (h5 : ∀ i, F.testBit i = true → i < 5) (a : Nat) : anyN (cvB a s Q) 5 = inQ a s Q := by
  rw [Bool.eq_iff_iff, anyN_iff]
  unfold inQ
  rw [anyN_iff]
  constructor
  · rintro ⟨x, hx, h⟩
    unfold cvB at h
    rw [Bool.and_eq_true, Bool.and_eq_true, Bool.not_eq_true', decide_eq_false_iff_not] at h
    obtain ⟨i, hi, ⟨e1, e2⟩ | ⟨e1, e2⟩⟩ := parOf_is hg h.1
    · have g := hg i hi
      have hh := h.2
      rw [e2, nI_clamp (by omega)] at hh
      refine ⟨i, hi, ?_⟩
      rw [← e1]
      exact Bool.and_eq_true_iff.mpr hh
    · have g := hg i hi
      have hh := h.2
      rw [e2, nI_clamp (by omega)] at hh
      refine ⟨i, hi, ?_⟩
      rw [← e1]
      exact Bool.and_eq_true_iff.mpr ⟨hh.2, hh.1⟩
  · rintro ⟨i, hi, h⟩
    have g := hg i hi
    have h' := Bool.and_eq_true_iff.mp h
    have p := (parOf_at hg hi).1
    refine ⟨(Q i).1, h5 _ g.2.2.2.2.1, ?_⟩
    unfold cvB
    rw [p, nI_clamp (by omega), h'.1, h'.2, decide_eq_false (nI_nm1 (by omega))]
    rfl
section
variable {N : Nat} {S : Hp} {zz li pa c n mk br s : Nat} {M : Nat → Nat} {Q : Nat → Nat × Nat} {K2 : Hp → Int32 → Option (Int32 × Hp)} {K38 : Hp → Int32 → Int32 → Int32 → Int32 → Option (Int32 × Hp)} {v3 v5 v6 v7 s0 : Int32}
theorem fre5 (hc : c ≤ 5) {i : Nat} (h : (fre c mk br).testBit i = true) : i < 5 := by
  have := fr_lt (show c ≤ 10 by omega) h
  omega
theorem l_need_0 {k x : Nat} (hk : 0 < k) : f_L_pairing_l115 N zz li pa K2 K38 k S v3 v5 v6 v7 (0 : Int32) (nI x) = f_L_pairing_b170 N zz li pa K2 K38 S v3 v5 v6 v7 (0 : Int32) := by
  obtain ⟨k, rfl⟩ : ∃ q, k = q + 1 := ⟨k - 1, by omega⟩
  unfold f_L_pairing_l115 f_L_pairing_b115
  by_cases g : (5 : Int32) ≤ nI x
  · rw [if_pos g]
  · rw [if_neg g, if_pos rfl]
theorem l_need_l (h : LB S zz li c n mk br M) (hp : LPq S pa s Q) (hg : goodQ (fre c mk br) s Q) {j : Nat} (hj : j < n) : ∀ d k x, x + d = 5 → d < k → anyN (cvB (M j) s Q) x = false → f_L_pairing_l115 N zz li pa K2 K38 k S v3 v5 (nI j) v7 (1 : Int32) (nI x) = f_L_pairing_b170 N zz li pa K2 K38 S v3 v5 (nI j) v7 (if inQ (M j) s Q = true then (0 : Int32) else 1) := by
  obtain ⟨⟨hk, hn, hl, hm⟩, ⟨h0, h2, h3, h4, hM⟩, hc, hn3, hmk, hbr, hM1⟩ := h
  have cv := cv_in hg (fun i hi => fre5 hc hi) (M j)
  have mj := hM1 j hj
  intro d
  induction d with
  | zero =>
    intro k x hx hk' hno
    obtain ⟨k, rfl⟩ : ∃ q, k = q + 1 := ⟨k - 1, by omega⟩
    obtain rfl : x = 5 := by omega
    unfold f_L_pairing_l115 f_L_pairing_b115
    rw [← cv, hno, if_pos (show (5 : Int32) ≤ nI 5 by decide)]
    rfl
  | succ d ih =>
    intro k x hx hk' hno
    obtain ⟨k, rfl⟩ : ∃ q, k = q + 1 := ⟨k - 1, by omega⟩
    have hx5 : x < 5 := by omega
    rw [f_L_pairing_l115, f_L_pairing_b115, if_neg (nle_c 5 (n := 5) rfl hx5 (by decide)), if_neg (show ¬ (1 : Int32) = 0 by decide), gd_pos hp.1.1, gd_pos (pq hp.1.2 hx5), nI_clamp (show x < 2 ^ 31 by omega), hp.2 x hx5]
    by_cases g : parOf s Q x = -1
    · rw [g, if_pos (show (-1 : Int32) < 0 by decide), nI_p1]
      refine ih k (x + 1) (by omega) (by omega) ?_
      rw [anyN, hno]
      simp [cvB, g]
    · obtain ⟨p, p5, pe⟩ : ∃ p, p < 5 ∧ parOf s Q x = nI p := by
        obtain ⟨i, hi, ⟨e1, e2⟩ | ⟨e1, e2⟩⟩ := parOf_is hg g
        · exact ⟨_, fre5 hc (hg i hi).2.2.2.2.2, e2⟩
        · exact ⟨_, fre5 hc (hg i hi).2.2.2.2.1, e2⟩
      have cx : cvB (M j) s Q x = ((M j).testBit x && (M j).testBit p) := by
        unfold cvB
        rw [decide_eq_false g, pe, nI_clamp (by omega)]
        rfl
      rw [pe, if_neg (nI_pos (by omega)), gd_pos hl, gd_pos (lq hm (j := j) (by omega)), nI_clamp (show j < 2 ^ 31 by omega), hM j hj, nI_has (a := M j) (i := x) (by omega) (by omega), nI_has (a := M j) (i := p) (by omega) (by omega), nI_p1]
      by_cases g1 : (M j).testBit x = true
      · rw [if_pos (has_one.mpr g1)]
        by_cases g2 : (M j).testBit p = true
        · rw [if_pos (has_one.mpr g2), l_need_0 (by omega), if_pos]
          rw [← cv]
          exact anyN_iff.mpr ⟨x, hx5, by rw [cx, g1, g2]; rfl⟩
        · rw [if_neg (fun w => g2 (has_one.mp w))]
          refine ih k (x + 1) (by omega) (by omega) ?_
          rw [anyN, hno, cx]
          simp [g2]
      · rw [if_neg (fun w => g1 (has_one.mp w))]
        refine ih k (x + 1) (by omega) (by omega) ?_
        rw [anyN, hno, cx]
        simp [g1]
theorem l_84 (h : LB S zz li c n mk br M) (hp : LPq S pa s Q) (hg : goodQ (fre c mk br) s Q) (hN : 12 < N) {j : Nat} (hj : j < 3) : f_L_pairing_b84 N zz li pa K2 K38 S v3 v5 (nI j) s0 = f_L_pairing_b170 N zz li pa K2 K38 S v3 v5 (nI j) s0 (if j < n ∧ needQ M br j s Q = true then (1 : Int32) else 0) := by
  have e := fun (w : j < n) => l_need_l (N := N) (K2 := K2) (K38 := K38) (v3 := v3) (v5 := v5) (v7 := s0) h hp hg w 5 N 0 rfl (by omega) rfl
  obtain ⟨⟨hk, hn, hl, hm⟩, ⟨h0, h2, h3, h4, hM⟩, hc, hn3, hmk, hbr, hM1⟩ := h
  unfold f_L_pairing_b84
  rw [gd_pos hk, gd_pos (zq hn (i := (2 : Int32)) (k := 2) rfl (by decide)), tn2, h2]
  by_cases w : j < n
  · have b3 := and_lt (b := br) (hM1 j w)
    rw [if_neg (fun q => absurd ((nI_le_iff (by omega) (by omega)).mp q) (by omega)), gd_pos hl, gd_pos (lq hm (j := j) (by omega)), gd_pos (zq hn (i := (4 : Int32)) (k := 4) rfl (by decide)), tn4, h4, nI_clamp (show j < 2 ^ 31 by omega), hM j w, nI_and]
    by_cases g : M j &&& br = 0
    · rw [if_pos ((nI_eq0 (by omega)).mpr g)]
      refine Eq.trans (e w) ?_
      by_cases g2 : inQ (M j) s Q = true
      · rw [if_pos g2, if_neg (fun q => by unfold needQ at q; rw [g2] at q; simp at q)]
      · rw [if_neg g2, if_pos ⟨w, by unfold needQ isAl; simp [g, g2]⟩]
    · rw [if_neg (fun q => g ((nI_eq0 (by omega)).mp q)), if_neg (fun q => by have := q.2; unfold needQ isAl at this; simp [g] at this)]
      exact l_need_0 (x := 0) (by omega)
  · rw [if_pos ((nI_le_iff (by omega) (by omega)).mpr (by omega)), if_neg (fun q => w q.1)]
    exact l_need_0 (x := 0) (by omega)
theorem l_sel {ch : Nat} (h : ch < 11) : f_L_pairing_b170 N zz li pa K2 K38 S v3 v5 v6 (nI ch) (1 : Int32) = f_L_pairing_b269 N zz li pa K2 K38 S v3 v5 v6 (nI ch) (nI (P10 ch).1) (nI (P10 ch).2) := by
  unfold f_L_pairing_b170 f_L_pairing_b225
  rw [if_neg (show ¬ (1 : Int32) = 0 by decide)]
  rcases (show ch = 0 ∨ ch = 1 ∨ ch = 2 ∨ ch = 3 ∨ ch = 4 ∨ ch = 5 ∨ ch = 6 ∨ ch = 7 ∨ ch = 8 ∨ ch = 9 ∨ ch = 10 by omega) with rfl | rfl | rfl | rfl | rfl | rfl | rfl | rfl | rfl | rfl | rfl
  · rw [if_neg (show ¬ (4 : Int32) ≤ nI 0 by decide), if_neg (show ¬ (4 : Int32) ≤ nI 0 by decide), show nI (P10 0).1 = (0 : Int32) from by decide, show nI (P10 0).2 = nI 0 + (1 : Int32) from by decide]
  · rw [if_neg (show ¬ (4 : Int32) ≤ nI 1 by decide), if_neg (show ¬ (4 : Int32) ≤ nI 1 by decide), show nI (P10 1).1 = (0 : Int32) from by decide, show nI (P10 1).2 = nI 1 + (1 : Int32) from by decide]
  · rw [if_neg (show ¬ (4 : Int32) ≤ nI 2 by decide), if_neg (show ¬ (4 : Int32) ≤ nI 2 by decide), show nI (P10 2).1 = (0 : Int32) from by decide, show nI (P10 2).2 = nI 2 + (1 : Int32) from by decide]
  · rw [if_neg (show ¬ (4 : Int32) ≤ nI 3 by decide), if_neg (show ¬ (4 : Int32) ≤ nI 3 by decide), show nI (P10 3).1 = (0 : Int32) from by decide, show nI (P10 3).2 = nI 3 + (1 : Int32) from by decide]
  · rw [if_pos (show (4 : Int32) ≤ nI 4 by decide), if_neg (show ¬ (7 : Int32) ≤ nI 4 by decide), if_pos (show (4 : Int32) ≤ nI 4 by decide), if_neg (show ¬ (7 : Int32) ≤ nI 4 by decide), show nI (P10 4).1 = (1 : Int32) from by decide, show nI (P10 4).2 = nI 4 - (2 : Int32) from by decide]
  · rw [if_pos (show (4 : Int32) ≤ nI 5 by decide), if_neg (show ¬ (7 : Int32) ≤ nI 5 by decide), if_pos (show (4 : Int32) ≤ nI 5 by decide), if_neg (show ¬ (7 : Int32) ≤ nI 5 by decide), show nI (P10 5).1 = (1 : Int32) from by decide, show nI (P10 5).2 = nI 5 - (2 : Int32) from by decide]
  · rw [if_pos (show (4 : Int32) ≤ nI 6 by decide), if_neg (show ¬ (7 : Int32) ≤ nI 6 by decide), if_pos (show (4 : Int32) ≤ nI 6 by decide), if_neg (show ¬ (7 : Int32) ≤ nI 6 by decide), show nI (P10 6).1 = (1 : Int32) from by decide, show nI (P10 6).2 = nI 6 - (2 : Int32) from by decide]
  · rw [if_pos (show (4 : Int32) ≤ nI 7 by decide), if_pos (show (7 : Int32) ≤ nI 7 by decide), if_neg (show ¬ (9 : Int32) ≤ nI 7 by decide), if_pos (show (4 : Int32) ≤ nI 7 by decide), if_pos (show (7 : Int32) ≤ nI 7 by decide), if_neg (show ¬ (9 : Int32) ≤ nI 7 by decide), show nI (P10 7).1 = (2 : Int32) from by decide, show nI (P10 7).2 = nI 7 - (4 : Int32) from by decide]
  · rw [if_pos (show (4 : Int32) ≤ nI 8 by decide), if_pos (show (7 : Int32) ≤ nI 8 by decide), if_neg (show ¬ (9 : Int32) ≤ nI 8 by decide), if_pos (show (4 : Int32) ≤ nI 8 by decide), if_pos (show (7 : Int32) ≤ nI 8 by decide), if_neg (show ¬ (9 : Int32) ≤ nI 8 by decide), show nI (P10 8).1 = (2 : Int32) from by decide, show nI (P10 8).2 = nI 8 - (4 : Int32) from by decide]
  · rw [if_pos (show (4 : Int32) ≤ nI 9 by decide), if_pos (show (7 : Int32) ≤ nI 9 by decide), if_pos (show (9 : Int32) ≤ nI 9 by decide), if_pos (show (4 : Int32) ≤ nI 9 by decide), if_pos (show (7 : Int32) ≤ nI 9 by decide), if_pos (show (9 : Int32) ≤ nI 9 by decide), show nI (P10 9).1 = (3 : Int32) from by decide, show nI (P10 9).2 = (4 : Int32) from by decide]
  · rw [if_pos (show (4 : Int32) ≤ nI 10 by decide), if_pos (show (7 : Int32) ≤ nI 10 by decide), if_pos (show (9 : Int32) ≤ nI 10 by decide), if_pos (show (4 : Int32) ≤ nI 10 by decide), if_pos (show (7 : Int32) ≤ nI 10 by decide), if_pos (show (9 : Int32) ≤ nI 10 by decide), show nI (P10 10).1 = (3 : Int32) from by decide, show nI (P10 10).2 = (4 : Int32) from by decide]
theorem l_330 {j : Nat} {x y : Int32} : f_L_pairing_b330 N zz li pa K2 K38 S v3 v5 (nI j) x y = K38 S v3 0 v5 (nI (j + 1)) := by
  unfold f_L_pairing_b330 f_L_pairing_b331
  rw [if_pos rfl, nI_p1]
theorem l_269 (h : LB S zz li c n mk br M) (hp : LPq S pa s Q) (hg : goodQ (fre c mk br) s Q) {j ch : Nat} (hj : j < n) (hch : ch < 10) {a b : Nat} (ha : a < 5) (hb : b < 5) : f_L_pairing_b269 N zz li pa K2 K38 S v3 v5 (nI j) (nI ch) (nI a) (nI b) = if (looQ M (fre c mk br) j s Q a && looQ M (fre c mk br) j s Q b) = true then K38 (sI (sI S pa a (nI b)) pa b (nI a)) v3 1 v5 (nI (j + 1)) else K38 S v3 0 v5 (nI (j + 1)) := by
  have e2 := l_free (N := N) h
  obtain ⟨⟨hk, hn, hl, hm⟩, ⟨h0, h2, h3, h4, hM⟩, hc, hn3, hmk, hbr, hM1⟩ := h
  have b1 := and_lt (b := fre c mk br) (hM1 j hj)
  have pos : ∀ x, x < 5 → ¬ parOf s Q x = -1 → ∃ p, p < 5 ∧ parOf s Q x = nI p := fun x _ g => by
    obtain ⟨i, hi, ⟨e1, e2⟩ | ⟨e1, e2⟩⟩ := parOf_is hg g
    · exact ⟨_, fre5 hc (hg i hi).2.2.2.2.2, e2⟩
    · exact ⟨_, fre5 hc (hg i hi).2.2.2.2.1, e2⟩
  unfold f_L_pairing_b269
  rw [if_neg (nle_c 10 (n := 10) rfl hch (by decide)), gd_pos hl, gd_pos (lq hm (j := j) (by omega)), e2, cl_s, nI_clamp (show j < 2 ^ 31 by omega), hM j hj, nI_and]
  by_cases g1 : (M j &&& fre c mk br).testBit a = true
  · rw [if_neg (fun w => by rw [(nI_mbit (by omega)).mp w] at g1; cases g1), gd_pos hl, gd_pos (lq hm (j := j) (by omega)), e2, cl_s, nI_and]
    by_cases g2 : (M j &&& fre c mk br).testBit b = true
    · rw [if_neg (fun w => by rw [(nI_mbit (by omega)).mp w] at g2; cases g2), gd_pos hp.1.1, gd_pos (pq hp.1.2 ha), nI_clamp (show a < 2 ^ 31 by omega), hp.2 a ha]
      by_cases g3 : parOf s Q a = -1
      · have l3 : looQ M (fre c mk br) j s Q a = true := by unfold looQ; rw [g1, (parOf_no hg).mp g3]; rfl
        rw [g3, if_neg (show ¬ (0 : Int32) ≤ -1 by decide), gd_pos (pq hp.1.2 hb), nI_clamp (show b < 2 ^ 31 by omega), hp.2 b hb]
        by_cases g4 : parOf s Q b = -1
        · have l4 : looQ M (fre c mk br) j s Q b = true := by unfold looQ; rw [g2, (parOf_no hg).mp g4]; rfl
          rw [g4, if_neg (show ¬ (0 : Int32) ≤ -1 by decide), if_pos (show (looQ M (fre c mk br) j s Q a && looQ M (fre c mk br) j s Q b) = true by rw [l3, l4]; rfl)]
          unfold f_L_pairing_b331
          rw [if_neg (show ¬ (1 : Int32) = 0 by decide), gd_pos hp.1.1, gd_pos (pq hp.1.2 ha), hN_sI, gd_pos (pq hp.1.2 hb), bd_d, nI_clamp (show a < 2 ^ 31 by omega), nI_clamp (show b < 2 ^ 31 by omega), nI_p1]
        · obtain ⟨p, p5, pe⟩ := pos b hb g4
          have l4 : looQ M (fre c mk br) j s Q b = false := by
            unfold looQ
            cases q : covQ s Q b with
            | false => exact absurd ((parOf_no hg).mpr q) g4
            | true => rw [Bool.not_true, Bool.and_false]
          rw [pe, if_pos (nI_pos' (by omega)), l_330, if_neg (by rw [l4, Bool.and_false]; decide)]
      · obtain ⟨p, p5, pe⟩ := pos a ha g3
        have l3 : looQ M (fre c mk br) j s Q a = false := by
          unfold looQ
          cases q : covQ s Q a with
          | false => exact absurd ((parOf_no hg).mpr q) g3
          | true => rw [Bool.not_true, Bool.and_false]
        rw [pe, if_pos (nI_pos' (by omega)), l_330, if_neg (by rw [l3, Bool.false_and]; decide)]
    · have l2 : looQ M (fre c mk br) j s Q b = false := by unfold looQ; rw [show (M j &&& fre c mk br).testBit b = false by simpa using g2, Bool.false_and]
      rw [if_pos ((nI_mbit (by omega)).mpr (by simpa using g2)), l_330, if_neg (by rw [l2, Bool.and_false]; decide)]
  · have l1 : looQ M (fre c mk br) j s Q a = false := by unfold looQ; rw [show (M j &&& fre c mk br).testBit a = false by simpa using g1, Bool.false_and]
    rw [if_pos ((nI_mbit (by omega)).mpr (by simpa using g1)), l_330, if_neg (by rw [l1, Bool.false_and]; decide)]
theorem LPq.push (hp : LPq S pa s Q) {a b : Nat} : LPq (sI (sI S pa a (nI b)) pa b (nI a)) pa (s + 1) (updQ Q s (a, b)) ∨ a = b := by
  by_cases hab : a = b
  · exact Or.inr hab
  refine Or.inl ⟨⟨ok_sI (ok_sI hp.1.1), hp.1.2⟩, fun x hx => ?_⟩
  rw [parOf_push]
  show hI (sI (sI S pa a (nI b)) pa b (nI a)) pa x = if x = a then nI b else if x = b then nI a else parOf s Q x
  by_cases e : x = b
  · subst e
    rw [hI_same, if_neg (fun w => hab w.symm), if_pos rfl]
  · rw [hI_k e, if_neg e]
    by_cases e2 : x = a
    · subst e2
      rw [hI_same, if_pos rfl]
    · rw [hI_k e2, if_neg e2]
      exact hp.2 x hx
/-- one line's choice, as the law makes it -/
theorem l_step (h : LB S zz li c n mk br M) (hp : LPq S pa s Q) (hg : goodQ (fre c mk br) s Q) (hN : 12 < N) {j ch : Nat} (hj : j < 3) (hch : ch < 11) : (∃ r S', VS M br (fre c mk br) n j s Q ch = some r ∧ f_L_pairing_b84 N zz li pa K2 K38 S v3 v5 (nI j) (nI ch) = K38 S' v3 1 v5 (nI (j + 1)) ∧ Fr [pa] S S' ∧ LPq S' pa r.1 r.2 ∧ goodQ (fre c mk br) r.1 r.2) ∨ (VS M br (fre c mk br) n j s Q ch = none ∧ f_L_pairing_b84 N zz li pa K2 K38 S v3 v5 (nI j) (nI ch) = K38 S v3 0 v5 (nI (j + 1))) := by
  rw [l_84 h hp hg hN hj]
  by_cases w : j < n ∧ needQ M br j s Q = true
  · rw [if_pos w, l_sel hch]
    have lt := P10_lt ch
    by_cases c10 : ch < 10
    · rw [l_269 h hp hg w.1 c10 (by omega) lt.2]
      by_cases g : (looQ M (fre c mk br) j s Q (P10 ch).1 && looQ M (fre c mk br) j s Q (P10 ch).2) = true
      · rw [if_pos g]
        have g' := Bool.and_eq_true_iff.mp g
        refine Or.inl ⟨(s + 1, updQ Q s (P10 ch)), _, ?_, rfl, (Fr.rf.sI (by simp)).sI (by simp), ?_, good_push hg ⟨lt.1, by omega⟩ g'.1 g'.2⟩
        · unfold VS
          rw [if_pos w, if_pos ⟨c10, g⟩]
        · exact (LPq.push hp).resolve_right (by omega)
      · rw [if_neg g]
        refine Or.inr ⟨?_, rfl⟩
        unfold VS
        rw [if_pos w, if_neg (fun q => g q.2)]
    · refine Or.inr ⟨?_, ?_⟩
      · unfold VS
        rw [if_pos w, if_neg (fun q => c10 q.1)]
      · obtain rfl : ch = 10 := by omega
        unfold f_L_pairing_b269
        rw [if_pos (show (10 : Int32) ≤ nI 10 by decide), l_330]
  · rw [if_neg w]
    unfold f_L_pairing_b170
    rw [if_pos rfl]
    by_cases e : ch = 10
    · subst e
      refine Or.inl ⟨(s, Q), S, ?_, ?_, Fr.rf, hp, hg⟩
      · unfold VS
        rw [if_neg w, if_pos rfl]
      · rw [if_pos (show nI 10 = (10 : Int32) from rfl), nI_p1]
    · refine Or.inr ⟨?_, ?_⟩
      · unfold VS
        rw [if_neg w, if_neg e]
      · rw [if_neg (fun q => e ((nI_eq10 (by omega)).mp q)), nI_p1]
theorem l_38_0 {k j code : Nat} (hk : 0 < k) : f_L_pairing_l38 N zz li pa K2 k S (nI code) (0 : Int32) v5 (nI j) = K2 S (nI (code + 1)) := by
  obtain ⟨k, rfl⟩ : ∃ q, k = q + 1 := ⟨k - 1, by omega⟩
  unfold f_L_pairing_l38 f_L_pairing_b38 f_L_pairing_b356
  rw [if_pos (show (0 : Int32) = 0 from rfl), nI_p1]
  by_cases g : (3 : Int32) ≤ nI j
  · rw [if_pos g]
  · rw [if_neg g, if_pos rfl]
theorem l_38_c {k j code : Nat} (hj : j < 3) (hcode : code < 1331) : f_L_pairing_l38 N zz li pa K2 (k + 1) S (nI code) (1 : Int32) (nI code) (nI j) = f_L_pairing_b84 N zz li pa K2 (f_L_pairing_l38 N zz li pa K2 k) S (nI code) (nI code) (nI j) (nI (dg11 code j)) := by
  rw [f_L_pairing_l38, f_L_pairing_b38, if_neg (nle_c 3 (n := 3) rfl hj (by decide)), if_neg (show ¬ (1 : Int32) = 0 by decide)]
  have d1 : nI code / (121 : Int32) = nI (code / 121) := pk_div (d := 121) (by omega) (by decide) (by decide)
  have d2 : nI code / (11 : Int32) = nI (code / 11) := pk_div (d := 11) (by omega) (by decide) (by decide)
  have d3 : nI (code / 11) - nI (code / 11) / (11 : Int32) * (11 : Int32) = nI (code / 11 % 11) := pk_rem (d := 11) (by omega) (by decide) (by decide)
  have d4 : nI code - nI code / (11 : Int32) * (11 : Int32) = nI (code % 11) := pk_rem (d := 11) (by omega) (by decide) (by decide)
  rcases (show j = 0 ∨ j = 1 ∨ j = 2 by omega) with rfl | rfl | rfl
  · rw [if_pos (show nI 0 = 0 from rfl), d1]
    rfl
  · rw [if_neg (show ¬ nI 1 = 0 by decide), if_pos (show nI 1 = (1 : Int32) from rfl), d2, d3]
    rfl
  · rw [if_neg (show ¬ nI 2 = 0 by decide), if_neg (show ¬ nI 2 = (1 : Int32) by decide), d4]
    rfl
theorem l_38 (hpa : pa ≠ zz ∧ pa ≠ li) (hN : 12 < N) {code : Nat} (hcode : code < 1331) : ∀ d k j s Q S, j + d = 3 → d < k → LB S zz li c n mk br M → LPq S pa s Q → goodQ (fre c mk br) s Q → (∃ r S', rnV M br (fre c mk br) n code d j s Q = some r ∧ f_L_pairing_l38 N zz li pa K2 k S (nI code) (1 : Int32) (nI code) (nI j) = some (1, S') ∧ Fr [pa] S S' ∧ LPq S' pa r.1 r.2 ∧ goodQ (fre c mk br) r.1 r.2) ∨ (∃ S', rnV M br (fre c mk br) n code d j s Q = none ∧ f_L_pairing_l38 N zz li pa K2 k S (nI code) (1 : Int32) (nI code) (nI j) = K2 S' (nI (code + 1)) ∧ Fr [pa] S S') := by
  intro d
  induction d with
  | zero =>
    intro k j s Q S hj hk h hp hg
    obtain ⟨k, rfl⟩ : ∃ q, k = q + 1 := ⟨k - 1, by omega⟩
    obtain rfl : j = 3 := by omega
    refine Or.inl ⟨(s, Q), S, rfl, ?_, Fr.rf, hp, hg⟩
    unfold f_L_pairing_l38 f_L_pairing_b38 f_L_pairing_b356
    rw [if_pos (show (3 : Int32) ≤ nI 3 by decide), if_neg (show ¬ (1 : Int32) = 0 by decide)]
  | succ d ih =>
    intro k j s Q S hj hk h hp hg
    obtain ⟨k, rfl⟩ : ∃ q, k = q + 1 := ⟨k - 1, by omega⟩
    have hd : dg11 code j < 11 := by
      rcases (show j = 0 ∨ j = 1 ∨ j = 2 by omega) with rfl | rfl | rfl
      · show code / 121 < 11
        omega
      · show code / 11 % 11 < 11
        omega
      · show code % 11 < 11
        omega
    rw [l_38_c (by omega) hcode, rnV]
    rcases l_step (K2 := K2) (K38 := f_L_pairing_l38 N zz li pa K2 k) (v3 := nI code) (v5 := nI code) h hp hg hN (show j < 3 by omega) hd with ⟨r, S1, e1, e2, e3, e4, e5⟩ | ⟨e1, e2⟩
    · have h1 := h.fr e3 (fun w => hpa.1 (List.mem_singleton.mp w).symm) (fun w => hpa.2 (List.mem_singleton.mp w).symm)
      rw [e1, e2]
      rcases ih k (j + 1) r.1 r.2 S1 (by omega) (by omega) h1 e4 e5 with ⟨r', S', q1, q2, q3, q4⟩ | ⟨S', q1, q2, q3⟩
      · exact Or.inl ⟨r', S', q1, q2, e3.tr q3, q4⟩
      · exact Or.inr ⟨S', q1, q2, e3.tr q3⟩
    · rw [e1, e2]
      exact Or.inr ⟨S, rfl, l_38_0 (by omega), Fr.rf⟩
theorem l_12 : ∀ d k x S, x + d = 5 → d < k → ok S pa 8 ∧ hN S pa = 5 → (∀ y, y < x → hI S pa y = -1) → ∃ S', f_L_pairing_l12 N zz li pa K2 k S v3 (nI x) = f_L_pairing_l38 N zz li pa K2 N S' v3 (1 : Int32) v3 (0 : Int32) ∧ Fr [pa] S S' ∧ LPq S' pa 0 (fun _ => (0, 0)) := by
  intro d
  induction d with
  | zero =>
    intro k x S hx hk hp hy
    obtain ⟨k, rfl⟩ : ∃ q, k = q + 1 := ⟨k - 1, by omega⟩
    obtain rfl : x = 5 := by omega
    refine ⟨S, ?_, Fr.rf, hp, fun y h => hy y h⟩
    unfold f_L_pairing_l12 f_L_pairing_b12
    rw [if_pos (show (5 : Int32) ≤ nI 5 by decide)]
  | succ d ih =>
    intro k x S hx hk hp hy
    obtain ⟨k, rfl⟩ : ∃ q, k = q + 1 := ⟨k - 1, by omega⟩
    rw [f_L_pairing_l12, f_L_pairing_b12, if_neg (nle_c 5 (n := 5) rfl (show x < 5 by omega) (by decide)), gd_pos hp.1, gd_pos (pq hp.2 (show x < 5 by omega)), nI_clamp (show x < 2 ^ 31 by omega), nI_p1]
    obtain ⟨S', e1, e2, e3⟩ := ih k (x + 1) (sI S pa x (-1)) (by omega) (by omega) ⟨ok_sI hp.1, hp.2⟩ (fun y h => by
      by_cases e : y = x
      · subst e; exact hI_same _ _ _ _
      · rw [hI_k e]; exact hy y (by omega))
    exact ⟨S', e1, (Fr.rf.sI (by simp)).tr e2, e3⟩
theorem good_0 {F : Nat} {Q : Nat → Nat × Nat} : goodQ F 0 Q := fun i hi => absurd hi (Nat.not_lt_zero i)
theorem l_2 (hpa : pa ≠ zz ∧ pa ≠ li) (hB : 12 < N) : ∀ d k code S, code + d = 1331 → d < k → LB S zz li c n mk br M → ok S pa 8 ∧ hN S pa = 5 → (∀ i, i < code → rnV M br (fre c mk br) n i 3 0 0 (fun _ => (0, 0)) = none) → ∃ r S', f_L_pairing_l2 N zz li pa k S (nI code) = some (r, S') ∧ Fr [pa] S S' ∧ ((D3 M br (fre c mk br) n 3 0 0 (fun _ => (0, 0)) = none ∧ r = 0) ∨ ∃ q, D3 M br (fre c mk br) n 3 0 0 (fun _ => (0, 0)) = some q ∧ r = 1 ∧ LPq S' pa q.1 q.2 ∧ goodQ (fre c mk br) q.1 q.2) := by
  intro d
  induction d with
  | zero =>
    intro k code S hc hk h hp hno
    obtain ⟨k, rfl⟩ : ∃ q, k = q + 1 := ⟨k - 1, by omega⟩
    obtain rfl : code = 1331 := by omega
    refine ⟨0, S, ?_, Fr.rf, Or.inl ⟨?_, rfl⟩⟩
    · rw [f_L_pairing_l2, f_L_pairing_b2, if_pos (show (1331 : Int32) ≤ nI 1331 by decide)]
    · rw [← rn_D3]; exact frs_none hno
  | succ d ih =>
    intro k code S hc hk h hp hno
    obtain ⟨k, rfl⟩ : ∃ q, k = q + 1 := ⟨k - 1, by omega⟩
    rw [f_L_pairing_l2, f_L_pairing_b2, if_neg (nle_c 1331 (n := 1331) rfl (show code < 1331 by omega) (by decide))]
    have n1 : zz ∉ [pa] := fun w => hpa.1 (List.mem_singleton.mp w).symm
    have n2 : li ∉ [pa] := fun w => hpa.2 (List.mem_singleton.mp w).symm
    obtain ⟨S1, e1, e2, e3⟩ := l_12 (N := N) (zz := zz) (li := li) (K2 := f_L_pairing_l2 N zz li pa k) (v3 := nI code) 5 N 0 S rfl (by omega) hp (fun y h => absurd h (Nat.not_lt_zero y))
    rw [show (0 : Int32) = nI 0 from rfl, e1]
    rcases l_38 (K2 := f_L_pairing_l2 N zz li pa k) hpa hB (show code < 1331 by omega) 3 N 0 0 (fun _ => (0, 0)) S1 rfl (by omega) (h.fr e2 n1 n2) e3 good_0 with ⟨r, S', q1, q2, q3, q4, q5⟩ | ⟨S', q1, q2, q3⟩
    · refine ⟨1, S', q2, e2.tr q3, Or.inr ⟨r, ?_, rfl, q4, q5⟩⟩
      rw [← rn_D3]
      exact frs_at hno q1 (by omega)
    · have f := e2.tr q3
      obtain ⟨r, S2, w1, w2, w3⟩ := ih k (code + 1) S' (by omega) (by omega) (h.fr f n1 n2) ⟨f.ok hp.1, by rw [f.N]; exact hp.2⟩ (fun i hi => by
        by_cases e : i = code
        · subst e; exact q1
        · exact hno i (by omega))
      exact ⟨r, S2, q2.trans w1, f.tr w2, w3⟩
end
/-- the law's pairing of a board -/
theorem l_pairing {N : Nat} {S : Hp} {zz li pa : Nat} {B : Bd} (hw : Wf B) (hB : 2000 < N) (h : LB S zz li (bc B) (bn B) (bk B) (bb B) (bM B)) (hp : ok S pa 8 ∧ hN S pa = 5) (hpa : pa ≠ zz ∧ pa ≠ li) : ∃ r S', f_L_pairing N S zz li pa = some (r, S') ∧ Fr [pa] S S' ∧ ((DB B = none ∧ r = 0) ∨ ∃ q, DB B = some q ∧ r = 1 ∧ LPq S' pa q.1 q.2 ∧ goodQ (bfre B) q.1 q.2) := by
  obtain ⟨r, S', e1, e2, e3⟩ := l_2 (N := N) hpa (by omega) 1331 N 0 S rfl (by omega) h hp (fun i hi => absurd hi (Nat.not_lt_zero i))
  have c5 := h.2.2.1
  have n3 := h.2.2.2.1
  rw [D3_DQ (fun x hx => fre5 c5 hx) (bn B) 3 0 0 _ (by omega) n3, DB_c hw] at e3
  exact ⟨r, S', e1, e2, e3⟩
