/-- the pairing of a board -/
def DB (B : Bd) : Option (Nat × (Nat → Nat × Nat)) := DQ (bM B) (bb B) (fre 10 (bk B) (bb B)) (bn B) 0 0 (fun _ => (0, 0))
def parB (B : Bd) (i : Nat) : Int32 := match DB B with
  | none => -1
  | some r => parOf r.1 r.2 i
def npB (B : Bd) : Int32 := match DB B with
  | none => -1
  | some r => nI r.1
theorem DQ_congM {M M' : Nat → Nat} {br F : Nat} : ∀ (q j s : Nat) (Q : Nat → Nat × Nat), (∀ l, j ≤ l → l < j + q → M l = M' l) → DQ M br F q j s Q = DQ M' br F q j s Q
  | 0, _, _, _, _ => rfl
  | q + 1, j, s, Q, h => by
    have hj := h j (Nat.le_refl j) (by omega)
    have e : looQ M F j s Q = looQ M' F j s Q := by
      funext x
      unfold looQ
      rw [hj]
    have e2 : needQ M br j s Q = needQ M' br j s Q := by unfold needQ isAl; rw [hj]
    have r := fun s' Q' => DQ_congM (br := br) (F := F) q (j + 1) s' Q' (fun l h1 h2 => h l (by omega) (by omega))
    rw [DQ, DQ, e, e2, r s Q]
    simp only [r]
/-- the class's pairing object holds what was found for B -/
def PairIs (S : Hp) (pr Lp ap pp : Nat) (B : Bd) : Prop := CP S pr Lp ap pp (bn B) (bb B) (bM B) ∧ hI S pr 1 = nI (bk B) ∧ ((DB B = none ∧ hI S pr 5 = 0 ∧ hI S pr 4 = 0) ∨ ∃ r, DB B = some r ∧ hI S pr 5 = 1 ∧ PQ S pr pp r.1 r.2 ∧ goodQ (fre 10 (bk B) (bb B)) r.1 r.2)
theorem LnV.cong {S : Hp} {L a n : Nat} {M M' : Nat → Nat} (h : LnV S L a n M) (e : ∀ j, j < n → M j = M' j) : LnV S L a n M' := ⟨h.1, ⟨h.2.1.1, fun j hj => by rw [← e j hj]; exact h.2.1.2 j hj⟩, h.2.2.1, fun j hj => by rw [← e j hj]; exact h.2.2.2 j hj⟩
theorem PairIs.cong {S : Hp} {pr Lp ap pp : Nat} {B B' : Bd} (h : PairIs S pr Lp ap pp B) (hn : bn B = bn B') (hM : ∀ j, j < bn B → bM B j = bM B' j) (hk : bk B = bk B') (hb : bb B = bb B') : PairIs S pr Lp ap pp B' := by
  have e : DB B = DB B' := by
    unfold DB
    rw [← hn, ← hk, ← hb]
    exact DQ_congM _ 0 0 _ (fun l _ h2 => hM l (by omega))
  obtain ⟨⟨a1, b, c1, d1, e1⟩, g, h3⟩ := h
  refine ⟨⟨a1, ?_, c1, by rw [← hb]; exact d1, by rw [← hb]; exact e1⟩, by rw [← hk]; exact g, ?_⟩
  · rw [← hn]; exact b.cong hM
  · rw [← e, ← hk, ← hb]; exact h3
theorem PairIs.fr {E : List Nat} {S T : Hp} {pr Lp ap pp : Nat} {B : Bd} (h : PairIs S pr Lp ap pp B) (f : Fr E S T) (h1 : pr ∉ E) (h2 : Lp ∉ E) (h3 : ap ∉ E) (h4 : pp ∉ E) : PairIs T pr Lp ap pp B := by
  obtain ⟨⟨⟨a1, a2, a3⟩, b, ⟨c1, c2, c3⟩, d1, e1⟩, g, i⟩ := h
  refine ⟨⟨⟨f.ok a1, by rw [f.R]; exact a2, by rw [f.R]; exact a3⟩, b.fr f (by rw [f.I h2]) h3, ⟨f.ok c1, by rw [f.N]; exact c2, c3⟩, by rw [f.I h1]; exact d1, e1⟩, by rw [f.I h1]; exact g, ?_⟩
  unfold PQ
  rw [f.I h1, f.I h4]
  exact i
section
variable {N : Nat} {S : Hp} {s L a pr Lp ap pp : Nat} {B B0 : Bd}
theorem c_look36 (h : StV S s L a B) (hw : Wf B) (hN0 : 12 < N) (hs : ok S pr 2 ∧ hR S pr 0 = some Lp ∧ hR S pr 3 = some pp) (hLs : LnS S Lp ap) (hpp : ok S pp 8 ∧ hN S pp = 5 ∧ pp ≠ ap) (d1 : Lp ≠ L) (d2 : ap ≠ a) (d3 : pp ≠ a) : ∃ T, f_X2_lookAt_b36 N pr s S = some ((), T) ∧ Fr [pr, Lp, ap, pp] S T ∧ StV T s L a B ∧ PairIs T pr Lp ap pp B := by
  obtain ⟨a1, a2, a3⟩ := hs
  obtain ⟨c1, c2, c3⟩ := hpp
  have o1 : s ≠ pr := ok_ne h.1.1 a1 (by decide)
  have o2 : s ≠ Lp := ok_ne h.1.1 hLs.1 (by decide)
  have o3 : s ≠ ap := ok_ne h.1.1 hLs.2.2.1 (by decide)
  have o4 : s ≠ pp := ok_ne h.1.1 c1 (by decide)
  have p1 : L ≠ pr := ok_ne h.2.1.1.1 a1 (by decide)
  have p3 : L ≠ ap := ok_ne h.2.1.1.1 hLs.2.2.1 (by decide)
  have p4 : L ≠ pp := ok_ne h.2.1.1.1 c1 (by decide)
  have q1 : a ≠ pr := ok_ne h.2.1.1.2.2.1 a1 (by decide)
  have q2 : a ≠ Lp := ok_ne h.2.1.1.2.2.1 hLs.1 (by decide)
  have r1 : Lp ≠ pr := ok_ne hLs.1 a1 (by decide)
  have r2 : ap ≠ pr := ok_ne hLs.2.2.1 a1 (by decide)
  have r3 : pp ≠ pr := ok_ne c1 a1 (by decide)
  have r4 : Lp ≠ pp := ok_ne hLs.1 c1 (by decide)
  obtain ⟨U, u1, u2, u3⟩ := c_copy h.2.1 hN0 hLs d1 d2
  have es : hI U s = hI S s := u2.I (by simp [o2, o3])
  have f : Fr [pr] U (sI (sI (sI U pr 1 (nI (bk B))) pr 2 (nI (bb B))) pr 4 0) := ((Fr.rf.sI (by simp)).sI (by simp)).sI (by simp)
  have V : LnV (sI (sI (sI U pr 1 (nI (bk B))) pr 2 (nI (bb B))) pr 4 0) Lp ap (bn B) (bM B) := u3.fr f (by rw [f.I (n1 r1)]) (n1 r2)
  have hw' := hw.b10
  have cp : CP (sI (sI (sI U pr 1 (nI (bk B))) pr 2 (nI (bb B))) pr 4 0) pr Lp ap pp (bn B) (bb B) (bM B) := by
    refine ⟨⟨f.ok (u2.ok a1), by rw [f.R, u2.R]; exact a2, by rw [f.R, u2.R]; exact a3⟩, V, ⟨f.ok (u2.ok c1), by rw [f.N, u2.N]; exact c2, c3⟩, ?_, hw'⟩
    rw [hI_k (by decide), hI_same]
  have cq : CQ (sI (sI (sI U pr 1 (nI (bk B))) pr 2 (nI (bb B))) pr 4 0) pr Lp ap pp (bn B) (bk B) (bb B) (bM B) 0 (bk B ||| bb B) (fun _ => (0, 0)) := by
    refine ⟨cp, ⟨hI_same _ _ _ _, fun i hi => absurd hi (Nat.not_lt_zero i)⟩, fun i hi => absurd hi (Nat.not_lt_zero i), or_lt hw.k10 hw', fun x _ => ?_⟩
    rw [Nat.testBit_or]
    show _ = (_ || _ || false)
    rw [Bool.or_false]
  obtain ⟨T, t1, t2, t3⟩ := c_pairFromD (N := N) hN0 hw.1.2.2.1 h.2.1.2.2.2 (fun j hj => (hw.1.2.2.2 j hj).2) (bn B) 0 14 _ 0 (bk B ||| bb B) (fun _ => (0, 0)) (by omega) (by have := hw.1.2.2.1; omega) cq
  have fT : Fr [pr, Lp, ap, pp] S T := ((u2.mono (by simp)).tr (f.mono (by simp))).tr (t1.mono (by simp))
  have cpT := cp.fr t1 t2
  have k1 : hI T pr 1 = nI (bk B) := by rw [t2 1 (by decide), hI_k (by decide), hI_k (by decide), hI_same]
  have run : f_X2_lookAt_b36 N pr s S = cl (f_X2_pairFromD N 14 (sI (sI (sI U pr 1 (nI (bk B))) pr 2 (nI (bb B))) pr 4 0) pr (nI 0) (nI (bk B ||| bb B))) fun r30 S30 => gd (ok S30 pr 2) <| gd (isB r30) <| some ((), sI S30 pr 5 r30) := by
    unfold f_X2_lookAt_b36
    rw [gd_pos a1, a2, nn_s, gd_pos h.1.1, h.1.2, nn_s, gd_pos hLs.1, u1, cl_s, gd_pos (u2.ok h.1.1), gd_pos (u2.ok a1), bd_d, hI_a o1, es, h.2.2.2.1, h.2.2.2.2.1, hI_k (show (1 : Nat) ≠ 4 by decide), hI_k (show (1 : Nat) ≠ 2 by decide), hI_same, hI_k (show (2 : Nat) ≠ 4 by decide), hI_same, nI_or]
    rfl
  have fin : ∀ r : Int32, isB r → Fr [pr, Lp, ap, pp] S (sI T pr 5 r) ∧ StV (sI T pr 5 r) s L a B ∧ CP (sI T pr 5 r) pr Lp ap pp (bn B) (bb B) (bM B) ∧ hI (sI T pr 5 r) pr 1 = nI (bk B) ∧ hI (sI T pr 5 r) pr 5 = r := by
    intro r _
    have f5 : Fr [pr, pp] T (sI T pr 5 r) := Fr.rf.sI (by simp)
    have fS : Fr [pr, Lp, ap, pp] S (sI T pr 5 r) := fT.tr (Fr.rf.sI (by simp))
    refine ⟨fS, h.fr fS (by simp [o1, o2, o3, o4]) (by simp [p1, d1.symm, p3, p4]) (by simp [q1, q2, d2.symm, d3.symm]), ?_, by rw [hI_k (by decide)]; exact k1, hI_same _ _ _ _⟩
    obtain ⟨⟨x1, x2, x3⟩, x4, ⟨x5, x6, x7⟩, x8, x9⟩ := cpT
    exact ⟨⟨x1, x2, x3⟩, x4.fr f5 (by rw [hI_a r1]) (by simp [r2, c3.symm]), ⟨x5, x6, x7⟩, by rw [hI_k (by decide)]; exact x8, x9⟩
  rw [run]
  rcases t3 with ⟨s', Q', y1, y2, y3, y4⟩ | ⟨y1, y2, y3⟩
  · rw [y2, cl_s, gd_pos (t1.ok (f.ok (u2.ok a1))), gd_pos (show isB (1 : Int32) from Or.inr rfl)]
    obtain ⟨z1, z2, z3, z4, z5⟩ := fin 1 (Or.inr rfl)
    refine ⟨_, rfl, z1, z2, z3, z4, Or.inr ⟨(s', Q'), y1, z5, ⟨by rw [hI_k (by decide)]; exact y3.1, fun i hi => by rw [hI_a r3]; exact y3.2 i hi⟩, y4⟩⟩
  · rw [y2, cl_s, gd_pos (t1.ok (f.ok (u2.ok a1))), gd_pos (show isB (0 : Int32) from Or.inl rfl)]
    obtain ⟨z1, z2, z3, z4, z5⟩ := fin 0 (Or.inl rfl)
    exact ⟨_, rfl, z1, z2, z3, z4, Or.inl ⟨y1, z5, by rw [hI_k (by decide)]; exact y3.1⟩⟩
theorem c_lookAt (h : StV S s L a B) (hw : Wf B) (hN : 12 < N) (hp : PairIs S pr Lp ap pp B0) (hk0 : bk B0 < 1024) (d1 : Lp ≠ L) (d2 : ap ≠ a) (d3 : pp ≠ a) : ∃ T, f_X2_lookAt N S pr s = some ((), T) ∧ Fr [pr, Lp, ap, pp] S T ∧ StV T s L a B ∧ PairIs T pr Lp ap pp B := by
  obtain ⟨U, u1, u2, u3, u4⟩ := c_look36 h hw hN hp.1.1 hp.1.2.1.sh hp.1.2.2.1 d1 d2 d3
  have wk := hw.k10
  have wb := hw.b10
  have wb0 := hp.1.2.2.2.2
  unfold f_X2_lookAt
  rw [gd_pos hp.1.1.1, gd_pos h.1.1, hp.2.1, h.2.2.2.1]
  by_cases e1 : bk B0 = bk B
  · rw [if_pos (by rw [e1]), hp.1.2.2.2.1, h.2.2.2.2.1]
    by_cases e2 : bb B0 = bb B
    · rw [if_pos (by rw [e2]), hp.1.1.2.1, nn_s, h.1.2, nn_s, gd_pos hp.1.2.1.1.1, c_areSame hp.1.2.1 h.2.1 hN, cl_s]
      by_cases e3 : sameB (bn B0) (bn B) (bM B0) (bM B) = true
      · rw [if_pos e3, if_neg (by decide)]
        unfold sameB at e3
        rw [Bool.and_eq_true, decide_eq_true_eq, Bool.not_eq_true', anyN_not] at e3
        refine ⟨S, rfl, Fr.rf, h, hp.cong e3.1 (fun j hj => ?_) e1 e2⟩
        simpa using e3.2 j hj
      · rw [if_neg e3, if_pos rfl]
        exact ⟨U, u1, u2, u3, u4⟩
    · rw [if_neg (fun q => e2 ((nI_eq_iff (by omega) (by omega)).mp q))]
      exact ⟨U, u1, u2, u3, u4⟩
  · rw [if_neg (fun q => e1 ((nI_eq_iff (by omega) (by omega)).mp q))]
    exact ⟨U, u1, u2, u3, u4⟩
theorem low_other {p : Nat × Nat} (hp : p.1 < p.2 ∧ p.2 < 10) : lowI (dif (prC p) (2 ^ p.1)) = nI p.2 ∧ lowI (dif (prC p) (2 ^ p.2)) = nI p.1 := by
  have pl := prC_lt hp
  constructor
  · refine lowI_at hp.2 (fun i hi => ?_) ?_
    · rw [tb_dif pl, tb_prC, tb_bit]
      have : ¬ p.2 = i := by omega
      cases x : decide (p.1 = i) <;> simp [this, x]
    · rw [tb_dif pl, tb_prC, tb_bit]
      have : ¬ p.1 = p.2 := by omega
      simp [this]
  · refine lowI_at (by omega) (fun i hi => ?_) ?_
    · rw [tb_dif pl, tb_prC, tb_bit]
      have h1 : ¬ p.1 = i := by omega
      have h2 : ¬ p.2 = i := by omega
      simp [h1, h2]
    · rw [tb_dif pl, tb_prC, tb_bit]
      have : ¬ p.2 = p.1 := by omega
      simp [this]
theorem c_otherOf_l {F q : Nat} {Q : Nat → Nat × Nat} (h1 : ok S pr 2) (h2 : hR S pr 3 = some pp) (h3 : ok S pp 8) (h4 : hN S pp = 5) (hq : PQ S pr pp q Q) (hg : goodQ F q Q) (hN : 12 < N) {x : Nat} (hx : x < 10) : ∀ d k i, i + d = q → d < k → covQ i Q x = false → f_X2_otherOf_l2 N pr (nI x) k S (nI i) = some (parOf q Q x, S) := by
  have s5 := good_le hg
  intro d
  induction d with
  | zero =>
    intro k i hi hk hno
    obtain ⟨k, rfl⟩ : ∃ x, k = x + 1 := ⟨k - 1, by omega⟩
    obtain rfl : i = q := by omega
    unfold f_X2_otherOf_l2 f_X2_otherOf_b2
    rw [gd_pos h1, hq.1, if_pos (Int32.le_refl _), (parOf_no hg).mpr hno]
  | succ d ih =>
    intro k i hi hk hno
    obtain ⟨k, rfl⟩ : ∃ x, k = x + 1 := ⟨k - 1, by omega⟩
    have gi := hg i (by omega)
    have pl := prC_lt ⟨gi.1, gi.2.1⟩
    have lo := low_other ⟨gi.1, gi.2.1⟩
    have pa := parOf_at hg (show i < q by omega)
    unfold f_X2_otherOf_l2 f_X2_otherOf_b2
    rw [gd_pos h1, hq.1, if_neg (nle_i (by omega) (by omega)), h2, nn_s, gd_pos h3, h4, if_neg (show ¬ nI 5 ≤ nI i from nle_i (by omega) (by decide)), ← h4, gd_pos (inN h4 (show i < 5 by omega) (by decide)), nI_clamp (by omega), hq.2 i (by omega), nI_p1]
    by_cases e1 : (Q i).1 = x
    · rw [if_neg (fun w => by
        have := (nI_mbit (show x < 31 by omega)).mp w
        rw [tb_prC, e1] at this; simp at this), nI_bit x (by omega), nI_dif pl, c_lowestOf (by omega) (dif_lt pl), cl_s, ← e1, lo.1, pa.1]
    · by_cases e2 : (Q i).2 = x
      · rw [if_neg (fun w => by
          have := (nI_mbit (show x < 31 by omega)).mp w
          rw [tb_prC, e2] at this; simp at this), nI_bit x (by omega), nI_dif pl, c_lowestOf (by omega) (dif_lt pl), cl_s, ← e2, lo.2, pa.2]
      · rw [if_pos ((nI_mbit (show x < 31 by omega)).mpr (by rw [tb_prC]; simp [e1, e2]))]
        refine ih k (i + 1) (by omega) (by omega) ?_
        show (covQ i Q x || (decide ((Q i).1 = x) || decide ((Q i).2 = x))) = false
        rw [hno]; simp [e1, e2]
theorem c_otherOf (hp : PairIs S pr Lp ap pp B) (hN : 12 < N) {x : Nat} (hx : x < 10) : f_X2_otherOf N S pr (nI x) = some (parB B x, S) := by
  obtain ⟨⟨⟨a1, a2, a3⟩, b, ⟨c1, c2, c3⟩, d1, e1⟩, g, i⟩ := hp
  unfold parB
  rcases i with ⟨i1, i2, i3⟩ | ⟨r, i1, i2, i3, i4⟩
  · rw [i1]
    obtain ⟨k, rfl⟩ : ∃ x, N = x + 1 := ⟨N - 1, by omega⟩
    unfold f_X2_otherOf f_X2_otherOf_l2 f_X2_otherOf_b2
    rw [gd_pos a1, i3, if_pos (Int32.le_refl _)]
  · rw [i1]
    exact c_otherOf_l a1 a3 c1 c2 i3 i4 hN hx r.1 N 0 (by omega) (by have := good_le i4; omega) rfl
end
section
variable {N : Nat} {S : Hp} {m z pa lo up : Nat} {B : Bd}
theorem DB_c (hw : Wf B) : DQ (bM B) (bb B) (fre (bc B) (bk B) (bb B)) (bn B) 0 0 (fun _ => (0, 0)) = DB B := DQ_cong _ _ _ _ (fun l _ h2 => fre_10 hw.c10 (hw.1.2.2.2 l (by omega)).1)
def lowQ (s : Nat) (Q : Nat → Nat × Nat) (i : Nat) : Bool := anyN (fun k => decide ((Q k).1 = i)) s
theorem low_ct {F : Nat} {Q : Nat → Nat × Nat} : ∀ {s : Nat}, goodQ F s Q → fb_ct (lowQ s Q) 10 = s
  | 0, _ => by
    rw [fb_ct_cong (p := lowQ 0 Q) (q := fun _ => false) (fun k _ => rfl)]
    rfl
  | s + 1, h => by
    have ih := low_ct (good_pop h)
    have g := h s (by omega)
    have nl : lowQ s Q (Q s).1 = false := by
      unfold lowQ
      rw [anyN_not]
      intro k hk
      have q := anyN_not.mp g.2.2.1 k hk
      simp at q
      simp [q.1]
    have e : fb_ct (lowQ (s + 1) Q) 10 = fb_ct (fun k => if k = (Q s).1 then true else lowQ s Q k) 10 := fb_ct_cong (fun k hk => by
      show (lowQ s Q k || decide ((Q s).1 = k)) = _
      by_cases x1 : k = (Q s).1
      · simp [x1]
      · have y1 : ¬ (Q s).1 = k := fun q => x1 q.symm
        simp [x1, y1])
    have u1 : fb_ct (fun k => if k = (Q s).1 then true else lowQ s Q k) 10 + (if lowQ s Q (Q s).1 = true then 1 else 0) = fb_ct (lowQ s Q) 10 + (if true = true then 1 else 0) := fb_ct_upd (lowQ s Q) true (i := (Q s).1) (n := 10) (by omega)
    rw [nl, if_neg (by decide), if_pos rfl] at u1
    rw [e]
    omega
theorem par_low {F s : Nat} {Q : Nat → Nat × Nat} (hg : goodQ F s Q) {i : Nat} (hi : i < 10) : parOf s Q i ≤ nI i ↔ lowQ s Q i = false := by
  have m1 : (-1 : Int32) ≤ nI i := by rw [Int32.le_iff_toInt_le, nI_toInt (by omega), show (-1 : Int32).toInt = -1 from rfl]; omega
  by_cases e : parOf s Q i = -1
  · rw [e]
    refine ⟨fun _ => ?_, fun _ => m1⟩
    unfold lowQ
    rw [anyN_not]
    intro k hk
    have q := anyN_not.mp ((parOf_no hg).mp e) k hk
    simp at q
    simp [q.1]
  · obtain ⟨k, hk, ⟨e1, e2⟩ | ⟨e1, e2⟩⟩ := parOf_is hg e
    · have g := hg k hk
      rw [e2]
      refine ⟨fun q => absurd ((nI_le_iff (by omega) (by omega)).mp q) (by omega), fun q => ?_⟩
      have w : lowQ s Q i = true := anyN_iff.mpr ⟨k, hk, by simp [e1]⟩
      rw [w] at q; cases q
    · have g := hg k hk
      rw [e2]
      refine ⟨fun _ => ?_, fun _ => nI_le (by omega) (by omega)⟩
      unfold lowQ
      rw [anyN_not]
      intro k2 hk2
      cases w : decide ((Q k2).1 = i)
      · rfl
      · have w1 : (Q k2).1 = i := by simpa using w
        have g2 := hg k2 hk2
        have p1 := (parOf_at hg hk2).1
        rw [w1, e2] at p1
        have := (nI_eq_iff (by omega) (by omega)).mp p1
        omega
end
