theorem hI_same (S : Hp) (a k : Nat) (v : Int32) : hI (sI S a k v) a k = v := by rw [hI_sI, if_pos ⟨rfl, rfl⟩]
theorem hI_k {S : Hp} {a k j : Nat} {v : Int32} (h : j ≠ k) : hI (sI S a k v) a j = hI S a j := by rw [hI_sI, if_neg (fun q => h q.2)]
theorem hI_a {S : Hp} {a b k : Nat} {v : Int32} (h : b ≠ a) : hI (sI S a k v) b = hI S b := by
  funext j
  rw [hI_sI, if_neg (fun q => h q.1)]
/-- T is S but for the ints of the cells of E -/
def Fr (E : List Nat) (S T : Hp) : Prop := hL T = hL S ∧ hK T = hK S ∧ hN T = hN S ∧ hR T = hR S ∧ hJ T = hJ S ∧ ∀ a, a ∉ E → hI T a = hI S a
theorem Fr.rf {E : List Nat} {S : Hp} : Fr E S S := ⟨rfl, rfl, rfl, rfl, rfl, fun _ _ => rfl⟩
theorem Fr.tr {E : List Nat} {S T U : Hp} (h : Fr E S T) (g : Fr E T U) : Fr E S U := by
  obtain ⟨a1, a2, a3, a4, a5, a6⟩ := h
  obtain ⟨b1, b2, b3, b4, b5, b6⟩ := g
  exact ⟨b1.trans a1, b2.trans a2, b3.trans a3, b4.trans a4, b5.trans a5, fun a ha => (b6 a ha).trans (a6 a ha)⟩
theorem Fr.mono {E G : List Nat} {S T : Hp} (h : Fr E S T) (hs : ∀ a, a ∈ E → a ∈ G) : Fr G S T := ⟨h.1, h.2.1, h.2.2.1, h.2.2.2.1, h.2.2.2.2.1, fun a ha => h.2.2.2.2.2 a (fun q => ha (hs a q))⟩
theorem Fr.sI {E : List Nat} {S T : Hp} (h : Fr E S T) {a k : Nat} {v : Int32} (ha : a ∈ E) : Fr E S (sI T a k v) := ⟨h.1, h.2.1, h.2.2.1, h.2.2.2.1, h.2.2.2.2.1, fun b hb => (hI_a (fun q => hb (by rw [q]; exact ha))).trans (h.2.2.2.2.2 b hb)⟩
theorem Fr.ok {E : List Nat} {S T : Hp} (h : Fr E S T) {a k : Nat} (g : ok S a k) : ok T a k := ⟨by rw [h.1]; exact g.1, by rw [h.2.1]; exact g.2⟩
theorem Fr.I {E : List Nat} {S T : Hp} (h : Fr E S T) {a : Nat} (ha : a ∉ E) : hI T a = hI S a := h.2.2.2.2.2 a ha
theorem Fr.R {E : List Nat} {S T : Hp} (h : Fr E S T) : hR T = hR S := h.2.2.2.1
theorem Fr.N {E : List Nat} {S T : Hp} (h : Fr E S T) : hN T = hN S := h.2.2.1
theorem ok_ne {S : Hp} {a b i j : Nat} (h : ok S a i) (g : ok S b j) (hij : i ≠ j) : a ≠ b := fun q => hij (by rw [← h.2, ← g.2, q])
theorem n1 {L a : Nat} (h : a ≠ L) : a ∉ [L] := fun q => h (List.mem_singleton.mp q)
theorem ok_sI {S : Hp} {a k b j : Nat} {v : Int32} (h : ok S b j) : ok (sI S a k v) b j := h
/-- the class's lines: n of them, M -/
def LnV (S : Hp) (L a n : Nat) (M : Nat → Nat) : Prop :=
  (ok S L 1 ∧ hR S L 0 = some a ∧ ok S a 8 ∧ hN S a = 12) ∧ (hI S L 1 = nI n ∧ ∀ j, j < n → hI S a j = nI (M j)) ∧ n ≤ 12 ∧ ∀ j, j < n → M j < 1024
theorem LnV.fr {E : List Nat} {S T : Hp} {L a n : Nat} {M : Nat → Nat} (h : LnV S L a n M) (f : Fr E S T) (h1 : hI T L 1 = hI S L 1) (ha : a ∉ E) : LnV T L a n M := by
  obtain ⟨⟨g1, g2, g3, g4⟩, ⟨g5, g6⟩, g7⟩ := h
  exact ⟨⟨f.ok g1, by rw [f.R]; exact g2, f.ok g3, by rw [f.N]; exact g4⟩, ⟨h1.trans g5, fun j hj => by rw [f.I ha]; exact g6 j hj⟩, g7⟩
theorem al_fre {c a mk br : Nat} (hc : c ≤ 10) (ha : a < 1024) (hs : a &&& (2 ^ c - 1) = a) (h : a &&& br = 0) : a &&& fre c mk br = dif a mk := by
  refine Nat.eq_of_testBit_eq (fun i => ?_)
  rw [Nat.testBit_and, tb_fre hc, tb_dif ha]
  have q := congrArg (fun w => w.testBit i) h
  have r := congrArg (fun w => w.testBit i) hs
  simp only [Nat.testBit_and, Nat.zero_testBit, tb_all] at q r
  cases h1 : a.testBit i
  · rfl
  · rw [h1] at q r
    simp only [Bool.true_and] at q r
    simp [q, r]
/-- a complete line is alive -/
theorem full_al {a mk br : Nat} (ha : a < 1024) (hd : mk &&& br = 0) (h : dif a mk = 0) : a &&& br = 0 := by
  refine Nat.eq_of_testBit_eq (fun i => ?_)
  have q := congrArg (fun w => w.testBit i) h
  have r := congrArg (fun w => w.testBit i) hd
  simp only [tb_dif ha, Nat.testBit_and, Nat.zero_testBit] at q r ⊢
  revert q r
  cases a.testBit i <;> cases mk.testBit i <;> cases br.testBit i <;> simp
theorem nlin {S : Hp} {a j n : Nat} (h : hN S a = 12) (hj : j < n) (hn : n ≤ 12) : inb (nI j) (hN S a) := by
  rw [h]
  unfold inb
  rw [nI_toInt (by omega)]
  omega
theorem nle_i {a b : Nat} (h : b < a) (ha : a < 2 ^ 31) : ¬ nI a ≤ nI b := fun q => absurd ((nI_le_iff ha (by omega)).mp q) (by omega)
section
variable {N : Nat} {S : Hp} {L a n c mk br : Nat} {M : Nat → Nat}
theorem c_survey_l (h : LnV S L a n M) (hc : c ≤ 10) (hsub : ∀ j, j < n → M j &&& (2 ^ c - 1) = M j) (hd : mk &&& br = 0) (hmk : mk < 1024) (hbr : br < 1024) : ∀ d k j S', Fr [L] S S' → hI S' L 1 = nI n → hI S' L 3 = nI (fb_ct (isAl M br) j) → hI S' L 4 = nI (fb_sm (wtP M c mk br) j) → hI S' L 5 = nI (orN (fun j => if isAl M br j = true ∧ pop (M j &&& fre c mk br) = 1 then M j &&& fre c mk br else 0) j) → j + d = n → d < k →
    ∃ T, f_X1_survey_l20 N L (nI mk) (nI br) k S' (if anyN (fun j => decide (dif (M j) mk = 0)) j = true then 1 else 0) (nI j) = some ((), T) ∧ Fr [L] S T ∧ hI T L 1 = nI n ∧ hI T L 2 = nI (winP M n mk br) ∧ hI T L 3 = nI (fb_ct (isAl M br) n) ∧ hI T L 4 = nI (wsP M n c mk br) ∧ hI T L 5 = nI (thP M n c mk br) := by
  obtain ⟨⟨g1, g2, g3, g4⟩, ⟨g5, g6⟩, hn, hM1⟩ := h
  have hne : a ≠ L := ok_ne g3 g1 (by decide)
  intro d
  induction d with
  | zero =>
    intro k j S' f e1 e3 e4 e5 hj hk
    obtain ⟨k, rfl⟩ : ∃ q, k = q + 1 := ⟨k - 1, by omega⟩
    obtain rfl : j = n := by omega
    have okL := f.ok g1
    simp only [f_X1_survey_l20, f_X1_survey_b20, gd_pos okL, e1]
    rw [if_pos (Int32.le_refl _)]
    simp only [f_X1_survey_b138, gd_pos okL, e3, f_X1_survey_b151, f_X1_survey_b167]
    have k0 : nI (fb_ct (isAl M br) j) = 0 ↔ anyN (isAl M br) j = false := by
      rw [nI_eq0 (by have := fb_ct_le (isAl M br) j; omega), fb_ct_zero, anyN_not]
    have ex : ∀ w : Int32, ∀ S2 : Hp, S2 = sI S' L 2 w ∨ (∃ u, S2 = sI (sI S' L 2 u) L 2 w) → w = nI (winP M j mk br) → ∃ T, some ((), S2) = some ((), T) ∧ Fr [L] S T ∧ hI T L 1 = nI j ∧ hI T L 2 = nI (winP M j mk br) ∧ hI T L 3 = nI (fb_ct (isAl M br) j) ∧ hI T L 4 = nI (wsP M j c mk br) ∧ hI T L 5 = nI (thP M j c mk br) := by
      intro w S2 hS hw
      rcases hS with rfl | ⟨u, rfl⟩
      · exact ⟨_, rfl, f.sI List.mem_cons_self, by rw [hI_k (by decide)]; exact e1, by rw [hI_same]; exact hw, by rw [hI_k (by decide)]; exact e3, by rw [hI_k (by decide)]; exact e4, by rw [hI_k (by decide)]; exact e5⟩
      · exact ⟨_, rfl, (f.sI List.mem_cons_self).sI List.mem_cons_self, by rw [hI_k (by decide), hI_k (by decide)]; exact e1, by rw [hI_same]; exact hw, by rw [hI_k (by decide), hI_k (by decide)]; exact e3, by rw [hI_k (by decide), hI_k (by decide)]; exact e4, by rw [hI_k (by decide), hI_k (by decide)]; exact e5⟩
    by_cases w1 : anyN (fun j => decide (dif (M j) mk = 0)) j = true
    · have wn : winP M j mk br = 1 := by unfold winP; rw [if_pos w1]
      rw [if_pos w1]
      split
      · rw [if_neg (by decide), gd_pos (ok_sI okL)]
        exact ex 1 _ (Or.inr ⟨2, rfl⟩) (by rw [wn]; rfl)
      · rw [if_neg (by decide), gd_pos (ok_sI okL)]
        exact ex 1 _ (Or.inr ⟨0, rfl⟩) (by rw [wn]; rfl)
    · rw [if_neg w1]
      by_cases w2 : anyN (isAl M br) j = false
      · have wn : winP M j mk br = 2 := by unfold winP; rw [if_neg w1, if_neg (by rw [w2]; decide)]
        rw [if_pos (k0.mpr w2), if_pos rfl, gd_pos (ok_sI okL), gd_pos (ok_sI okL), hI_same]
        exact ex 2 _ (Or.inr ⟨2, rfl⟩) (by rw [wn]; rfl)
      · have wn : winP M j mk br = 0 := by unfold winP; rw [if_neg w1, if_pos (by simpa using w2)]
        rw [if_neg (fun q => w2 (k0.mp q)), if_pos rfl, gd_pos (ok_sI okL), gd_pos (ok_sI okL), hI_same]
        exact ex 0 _ (Or.inr ⟨0, rfl⟩) (by rw [wn]; rfl)
  | succ d ih =>
    intro k j S' f e1 e3 e4 e5 hj hk
    obtain ⟨k, rfl⟩ : ∃ q, k = q + 1 := ⟨k - 1, by omega⟩
    have hjn : j < n := by omega
    have okL := f.ok g1
    have b1 := dif_lt (b := mk) (hM1 j hjn)
    have b2 := and_lt (b := br) (hM1 j hjn)
    simp only [f_X1_survey_l20, f_X1_survey_b20, gd_pos okL, e1]
    rw [if_neg (nle_i hjn (by omega))]
    have hn' : hN S' a = 12 := by rw [f.N]; exact g4
    simp only [f.R, g2, nn_s, gd_pos (f.ok g3), hn']
    rw [if_neg (nle_i (a := 12) (show j < 12 by omega) (by decide)), ← hn', gd_pos (nlin hn' hjn hn), nI_clamp (by omega), f.I (n1 hne), g6 j hjn, nI_and, nI_dif (hM1 j hjn)]
    have ex : ∀ (x y w : Int32) (b : Bool), x = nI (fb_ct (isAl M br) (j + 1)) → y = nI (fb_sm (wtP M c mk br) (j + 1)) → w = nI (orN (fun j => if isAl M br j = true ∧ pop (M j &&& fre c mk br) = 1 then M j &&& fre c mk br else 0) (j + 1)) → ∃ T, f_X1_survey_l20 N L (nI mk) (nI br) k (sI (sI (sI S' L 3 x) L 4 y) L 5 w) (if anyN (fun j => decide (dif (M j) mk = 0)) (j + 1) = true then 1 else 0) (nI (j + 1)) = some ((), T) ∧ Fr [L] S T ∧ hI T L 1 = nI n ∧ hI T L 2 = nI (winP M n mk br) ∧ hI T L 3 = nI (fb_ct (isAl M br) n) ∧ hI T L 4 = nI (wsP M n c mk br) ∧ hI T L 5 = nI (thP M n c mk br) := by
      intro x y w b hx hy hw
      refine ih k (j + 1) _ (((f.sI List.mem_cons_self).sI List.mem_cons_self).sI List.mem_cons_self) ?_ ?_ ?_ ?_ (by omega) (by omega)
      · rw [hI_k (by decide), hI_k (by decide), hI_k (by decide)]; exact e1
      · rw [hI_k (by decide), hI_k (by decide), hI_same]; exact hx
      · rw [hI_k (by decide), hI_same]; exact hy
      · rw [hI_same]; exact hw
    by_cases al : M j &&& br = 0
    · have al' : isAl M br j = true := by simp [isAl, al]
      have fd := al_fre (mk := mk) hc (hM1 j hjn) (hsub j hjn) al
      have pl := pop_le (dif (M j) mk)
      rw [if_pos ((nI_eq0 (by omega)).mpr al)]
      simp only [bd_d, bitc_pop _ b1, hI_k (show (4 : Nat) ≠ 3 by decide), e3, e4, i1024 pl, nI_p1, nI_plus]
      have X : fb_ct (isAl M br) j + 1 = fb_ct (isAl M br) (j + 1) := by rw [fb_ct_succ, if_pos al']
      have Y : fb_sm (wtP M c mk br) j + 1024 >>> pop (dif (M j) mk) = fb_sm (wtP M c mk br) (j + 1) := by rw [fb_sm_succ, wtP, if_pos al', fd]
      have okS : ok (sI (sI S' L 3 (nI (fb_ct (isAl M br) j + 1))) L 4 (nI (fb_sm (wtP M c mk br) j + 1024 >>> pop (dif (M j) mk)))) L 1 := okL
      have p0 := pop_0 b1
      have z0 : nI (pop (dif (M j) mk)) = 0 ↔ dif (M j) mk = 0 := (nI_eq0 (by omega)).trans p0
      have fin : ∀ v3 : Int32, v3 = (if anyN (fun j => decide (dif (M j) mk = 0)) (j + 1) = true then 1 else 0) → ∃ T, f_X1_survey_b110 N L (nI mk) (nI br) (f_X1_survey_l20 N L (nI mk) (nI br) k) (sI (sI S' L 3 (nI (fb_ct (isAl M br) j + 1))) L 4 (nI (fb_sm (wtP M c mk br) j + 1024 >>> pop (dif (M j) mk)))) (nI j) (nI (dif (M j) mk)) (nI (pop (dif (M j) mk))) v3 = some ((), T) ∧ Fr [L] S T ∧ hI T L 1 = nI n ∧ hI T L 2 = nI (winP M n mk br) ∧ hI T L 3 = nI (fb_ct (isAl M br) n) ∧ hI T L 4 = nI (wsP M n c mk br) ∧ hI T L 5 = nI (thP M n c mk br) := by
        intro v3 hv
        simp only [f_X1_survey_b110, f_X1_survey_b128, gd_pos okS, hI_k (show (5 : Nat) ≠ 4 by decide), hI_k (show (5 : Nat) ≠ 3 by decide), e5, nI_p1, hv]
        by_cases p1 : pop (dif (M j) mk) = 1
        · rw [if_pos (by rw [p1]; rfl), nI_or]
          exact ex _ _ _ true (by rw [X]) (by rw [Y]) (by rw [orN, if_pos ⟨al', by rw [fd]; exact p1⟩, fd])
        · rw [if_neg (fun q => p1 ((nI_eq1 (by omega)).mp q)), show (0 : Int32) = nI 0 from rfl, nI_or]
          exact ex _ _ _ true (by rw [X]) (by rw [Y]) (by rw [orN, if_neg (fun q => p1 (by rw [← fd]; exact q.2))])
      by_cases w1 : anyN (fun j => decide (dif (M j) mk = 0)) j = true
      · rw [if_pos w1, if_neg (by decide)]
        exact fin 1 (by rw [if_pos (by rw [anyN, w1]; rfl)])
      · rw [if_neg w1, if_pos rfl]
        have w1' : anyN (fun j => decide (dif (M j) mk = 0)) j = false := by simpa using w1
        by_cases w2 : dif (M j) mk = 0
        · rw [if_pos (z0.mpr w2)]
          exact fin 1 (by rw [if_pos (by rw [anyN, w1']; simp [w2])])
        · rw [if_neg (fun q => w2 (z0.mp q))]
          exact fin 0 (by rw [if_neg (by rw [anyN, w1']; simp [w2])])
    · have al' : isAl M br j = false := by simp [isAl, al]
      rw [if_neg (fun q => al ((nI_eq0 (by omega)).mp q)), nI_p1]
      have nf : ¬ dif (M j) mk = 0 := fun q => al (full_al (hM1 j hjn) hd q)
      have w3 : anyN (fun j => decide (dif (M j) mk = 0)) (j + 1) = anyN (fun j => decide (dif (M j) mk = 0)) j := by rw [anyN]; simp [nf]
      rw [← w3]
      refine ih k (j + 1) S' f e1 ?_ ?_ ?_ (by omega) (by omega)
      · rw [fb_ct_succ, if_neg (by rw [al']; decide)]; exact e3
      · rw [fb_sm_succ, wtP, if_neg (by rw [al']; decide)]; exact e4
      · rw [orN, if_neg (fun q => by rw [al'] at q; cases q.1), Nat.or_zero]; exact e5
theorem c_survey (h : LnV S L a n M) (hN : 12 < N) (hc : c ≤ 10) (hsub : ∀ j, j < n → M j &&& (2 ^ c - 1) = M j) (hd : mk &&& br = 0) (hmk : mk < 1024) (hbr : br < 1024) :
    ∃ T, f_X1_survey N S L (nI mk) (nI br) = some ((), T) ∧ Fr [L] S T ∧ hI T L 1 = nI n ∧ hI T L 2 = nI (winP M n mk br) ∧ hI T L 3 = nI (fb_ct (isAl M br) n) ∧ hI T L 4 = nI (wsP M n c mk br) ∧ hI T L 5 = nI (thP M n c mk br) := by
  have g1 := h.1.1
  simp only [f_X1_survey, gd_pos g1, bd_d]
  refine c_survey_l h hc hsub hd hmk hbr n N 0 _ (((Fr.rf.sI List.mem_cons_self).sI List.mem_cons_self).sI List.mem_cons_self) ?_ ?_ ?_ ?_ (by omega) (by have := h.2.2.1; omega)
  · rw [hI_k (by decide), hI_k (by decide), hI_k (by decide)]; exact h.2.1.1
  · rw [hI_k (by decide), hI_k (by decide), hI_same]; rfl
  · rw [hI_k (by decide), hI_same]; rfl
  · rw [hI_same]; rfl
end
