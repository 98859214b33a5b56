theorem anyN_ext {p : Nat → Bool} {c : Nat} (h : ∀ i, c ≤ i → p i = false) : ∀ d, anyN p (c + d) = anyN p c
  | 0 => rfl
  | d + 1 => by
    show (anyN p (c + d) || p (c + d)) = _
    rw [h (c + d) (by omega), Bool.or_false]
    exact anyN_ext h d
theorem shN_ext {g : Nat → Bool} {l : Nat → Nat} {c : Nat} (h : ∀ i, c ≤ i → g i = false) : ∀ d, shN g l (c + d) = shN g l c
  | 0 => rfl
  | d + 1 => by
    show (if g (c + d) = true ∧ _ then _ else shN g l (c + d)) = _
    rw [if_neg (fun q => by rw [h (c + d) (by omega)] at q; cases q.1)]
    exact shN_ext h d
theorem loN_ext {g : Nat → Bool} {l : Nat → Nat} {c : Nat} (h : ∀ i, c ≤ i → g i = false) : ∀ d, loN g l (c + d) = loN g l c
  | 0 => rfl
  | d + 1 => by
    show (if g (c + d) = true ∧ _ then _ else loN g l (c + d)) = _
    rw [if_neg (fun q => by rw [h (c + d) (by omega)] at q; cases q.1)]
    exact loN_ext h d
theorem stepV_10 {c mk br v : Nat} {W : Nat → Nat × Nat} (hc : c ≤ 10) : stepV c (fre c mk br) v W = stepV 10 (fre c mk br) v W := by
  have f0 : ∀ i, c ≤ i → (fre c mk br).testBit i = false := fun i hi => by
    cases z : (fre c mk br).testBit i
    · rfl
    · have := fr_lt hc z; omega
  have h1 : ∀ i, c ≤ i → canV (fre c mk br) W i = false := fun i hi => by unfold canV; rw [f0 i hi]; rfl
  have h2 : ∀ i, c ≤ i → brkV (fre c mk br) W i = false := fun i hi => by unfold brkV; rw [f0 i hi]; rfl
  obtain ⟨d, hd⟩ : ∃ d, 10 = c + d := ⟨10 - c, by omega⟩
  unfold stepV
  rw [hd, anyN_ext h1, anyN_ext h2, shN_ext h1, loN_ext h1]
/-- who moves at a position, where it is the maker's turn with an even number of cells taken (e), or not -/
def mvr (e : Bool) (mk br : Nat) : Nat := if e = decide (pop (mk ||| br) % 2 = 0) then 1 else 2
theorem mvr_12 (e : Bool) (mk br : Nat) : mvr e mk br = 1 ∨ mvr e mk br = 2 := by
  unfold mvr
  by_cases h : e = decide (pop (mk ||| br) % 2 = 0)
  · rw [if_pos h]; exact Or.inl rfl
  · rw [if_neg h]; exact Or.inr rfl
theorem pop_or_ch {c mk br v i : Nat} (hc : c ≤ 10) (hf : (fre c mk br).testBit i = true) : pop (chK v mk i ||| chB v br i) = pop (mk ||| br) + 1 := by
  have q := fre_bits hc hf
  refine (pop_off (i := i) (by omega) ?_ (fun j _ => ?_)).symm
  · unfold chK chB
    by_cases e : v = 1
    · rw [if_pos e, if_pos e, Nat.testBit_or, Nat.testBit_or, tb_bit]; simp
    · rw [if_neg e, if_neg e, Nat.testBit_or, Nat.testBit_or, tb_bit]; simp
  · unfold chK chB
    by_cases e : v = 1
    · rw [if_pos e, if_pos e, Nat.testBit_or, Nat.testBit_or, Nat.testBit_or, tb_bit]
      by_cases x : i = j
      · rw [← x, q.2.1, q.2.2]; simp
      · simp [x]
    · rw [if_neg e, if_neg e, Nat.testBit_or, Nat.testBit_or, Nat.testBit_or, tb_bit]
      by_cases x : i = j
      · rw [← x, q.2.1, q.2.2]; simp
      · simp [x]
theorem mvr_ch {c mk br i : Nat} {e : Bool} (hc : c ≤ 10) (hf : (fre c mk br).testBit i = true) (v : Nat) : mvr e (chK v mk i) (chB v br i) = 3 - mvr e mk br := by
  unfold mvr
  rw [pop_or_ch hc hf]
  by_cases h : pop (mk ||| br) % 2 = 0
  · have h2 : ¬ ((pop (mk ||| br) + 1) % 2 = 0) := by omega
    cases e <;> simp [h, h2]
  · have h2 : (pop (mk ||| br) + 1) % 2 = 0 := by omega
    cases e <;> simp [h, h2]
/-- the solver's object: its lines, the array of what is known, the powers -/
def SV (S : Hp) (so Ls as_ kn pw c n : Nat) (M : Nat → Nat) (e : Bool) (b : Nat) : Prop :=
  (ok S so 3 ∧ hR S so 0 = some Ls ∧ hR S so 3 = some kn ∧ hR S so 5 = some pw) ∧ LnV S Ls as_ n M ∧ (ok S kn 8 ∧ hN S kn = 59049 ∧ kn ≠ as_) ∧ (ok S pw 8 ∧ hN S pw = 1024 ∧ pw ≠ kn ∧ ∀ a, a < 1024 → hI S pw a = nI (P3 a)) ∧ hI S so 1 = nI (2 ^ c - 1) ∧ hI S so 2 = (if e = true then 1 else 0) ∧ hI S so 4 = nI b
theorem SV.fr {S T : Hp} {so Ls as_ kn pw c n b : Nat} {M : Nat → Nat} {e : Bool} (h : SV S so Ls as_ kn pw c n M e b) (f : Fr [Ls, kn] S T) (h1 : hI T Ls 1 = hI S Ls 1) : SV T so Ls as_ kn pw c n M e b := by
  obtain ⟨⟨a1, a2, a3, a4⟩, b1, ⟨c1, c2, c3⟩, ⟨d1, d2, d3, d4⟩, e1⟩ := h
  have n1 : so ≠ Ls := ok_ne a1 b1.1.1 (by decide)
  have n2 : so ≠ kn := ok_ne a1 c1 (by decide)
  have n3 : as_ ≠ Ls := ok_ne b1.1.2.2.1 b1.1.1 (by decide)
  have n4 : pw ≠ Ls := ok_ne d1 b1.1.1 (by decide)
  refine ⟨⟨f.ok a1, by rw [f.R]; exact a2, by rw [f.R]; exact a3, by rw [f.R]; exact a4⟩, b1.fr f h1 (by simp [n3, c3.symm]), ⟨f.ok c1, by rw [f.N]; exact c2, c3⟩, ⟨f.ok d1, by rw [f.N]; exact d2, d3, ?_⟩, ?_⟩
  · rw [f.I (by simp [n4, d3])]; exact d4
  · rw [f.I (by simp [n1, n2])]; exact e1
/-- what is known of this board is right -/
def TagOk (S : Hp) (kn b : Nat) : Prop := ∀ x, x < 59049 → ∃ t w, t ≤ b ∧ w < 16 ∧ hI S kn x = nI (2 ^ 4 * t + w)
def Memo (S : Hp) (kn c n : Nat) (M : Nat → Nat) (e : Bool) (b : Nat) : Prop := TagOk S kn b ∧ ∀ a d, Pos c a d → hI S kn (plV 10 a d) >>> ((4 : Int32) &&& 31) = nI b → (hI S kn (plV 10 a d) &&& (15 : Int32)) - (1 : Int32) = Lv c n M a d (mvr e a d)
theorem sh4 (b : Nat) : nI b <<< ((4 : Int32) &&& 31) = nI (2 ^ 4 * b) := by
  refine b_ext (fun i hi => ?_)
  have q := b_shl 4 (by decide) (nI b) hi
  rw [show ((4 : Int32) &&& 31) = (nI 4 &&& 31) from rfl, q, bt_nI hi, Nat.testBit_two_pow_mul]
  by_cases h : 4 ≤ i
  · rw [bt_nI (by omega)]
  · simp [h]
theorem enc_lo {b w : Nat} (hw : w < 16) : ((nI b <<< ((4 : Int32) &&& 31)) ||| nI w) &&& (15 : Int32) = nI w := by
  rw [sh4, fa_or_sum b (show w < 2 ^ 4 by omega), show (15 : Int32) = nI (2 ^ 4 - 1) from rfl, fa_mask]
  congr 1
  omega
theorem Lv_enc {c n : Nat} {M : Nat → Nat} (hl : Lns c n M) (mk br v : Nat) : ∃ w, w < 16 ∧ (Lv c n M mk br v + (1 : Int32)) &&& (15 : Int32) = nI w ∧ nI w - (1 : Int32) = Lv c n M mk br v := by
  unfold Lv
  by_cases h : (VV c n M mk br v).1 = 1
  · have q := VV_len hl _ mk br v (Nat.le_refl _) h
    have p := pop_le (fre c mk br)
    rw [if_pos h, nI_p1]
    refine ⟨(VV c n M mk br v).2 + 1, by omega, ?_, nI_m1 _⟩
    rw [show (15 : Int32) = nI (2 ^ 4 - 1) from rfl, fa_mask, Nat.mod_eq_of_lt (by omega)]
  · rw [if_neg h]
    exact ⟨0, by decide, by decide, by decide⟩
theorem Lv_ne2 {c n : Nat} {M : Nat → Nat} (hl : Lns c n M) (mk br v : Nat) : Lv c n M mk br v ≠ (-2 : Int32) := by
  unfold Lv
  by_cases h : (VV c n M mk br v).1 = 1
  · have q := VV_len hl _ mk br v (Nat.le_refl _) h
    have p := pop_le (fre c mk br)
    rw [if_pos h]
    intro w
    have r := congrArg Int32.toInt w
    rw [nI_toInt (by omega), show (-2 : Int32).toInt = -2 from rfl] at r
    omega
  · rw [if_neg h]; decide
theorem nI_mul (a b : Nat) : nI a * nI b = nI (a * b) := (Int32.ofNat_mul a b).symm
section
variable {N : Nat} {S : Hp} {so Ls as_ kn pw c n b mk br : Nat} {M : Nat → Nat} {e : Bool}
theorem c_placeOf (h : SV S so Ls as_ kn pw c n M e b) (hc : c ≤ 10) (hp : Pos c mk br) : f_X3_placeOf N S so (nI mk) (nI br) = some (nI (plV 10 mk br), S) := by
  obtain ⟨⟨a1, a2, a3, a4⟩, b1, c1, ⟨d1, d2, d3, d4⟩, e1⟩ := h
  have m1 : mk < 1024 := Nat.lt_of_lt_of_le hp.1 (pw10 hc)
  have m2 : br < 1024 := Nat.lt_of_lt_of_le hp.2.1 (pw10 hc)
  unfold f_X3_placeOf f_X3_placeOf_b31
  rw [if_neg (nI_pos (by omega)), gd_pos a1, a4, nn_s, gd_pos d1, d2, if_neg (nle_i (a := 1024) m1 (by decide)), if_neg (nI_pos (by omega)), if_neg (nle_i (a := 1024) m2 (by decide)), if_neg (by decide), gd_pos a1, nn_s, gd_pos d1, gd_pos (inN d2 m1 (by decide)), gd_pos (inN d2 m2 (by decide)), nI_clamp (by omega), nI_clamp (by omega), d4 mk m1, d4 br m2, show (2 : Int32) = nI 2 from rfl, nI_mul, nI_plus, P3_sum hc hp]
theorem c_recall (h : SV S so Ls as_ kn pw c n M e b) {x : Nat} (hx : x < 59049) : f_X3_recall N S so (nI x) = some ((if hI S kn x >>> ((4 : Int32) &&& 31) = nI b then (hI S kn x &&& (15 : Int32)) - (1 : Int32) else -2), S) := by
  obtain ⟨⟨a1, a2, a3, a4⟩, b1, ⟨c1, c2, c3⟩, d, e1, e2, e3⟩ := h
  unfold f_X3_recall f_X3_recall_b18
  rw [if_neg (nI_pos (by omega)), gd_pos a1, a3, nn_s, gd_pos c1, c2, if_neg (nle_i (a := 59049) hx (by decide)), if_neg (show ¬ (1 : Int32) = 0 by decide), gd_pos a1, nn_s, gd_pos c1, gd_pos (inN c2 hx (by decide)), nI_clamp (by omega), e3]
  by_cases g : hI S kn x >>> ((4 : Int32) &&& 31) = nI b
  · rw [if_pos g, if_pos g]
  · rw [if_neg g, if_neg g]
theorem c_keep (h : SV S so Ls as_ kn pw c n M e b) (hm : Memo S kn c n M e b) (hb : b < 2 ^ 27) (hl : Lns c n M) (hp : Pos c mk br) : ∃ T, f_X3_keep N S so (nI (plV 10 mk br)) (Lv c n M mk br (mvr e mk br)) = some ((), T) ∧ Fr [Ls, kn] S T ∧ hI T Ls 1 = hI S Ls 1 ∧ Memo T kn c n M e b := by
  obtain ⟨⟨a1, a2, a3, a4⟩, b1, ⟨c1, c2, c3⟩, d, e1, e2, e3⟩ := h
  have n2 : Ls ≠ kn := ok_ne b1.1.1 c1 (by decide)
  have hx := pl_lt (mk := mk) (br := br)
  obtain ⟨w, w1, w2, w3⟩ := Lv_enc hl mk br (mvr e mk br)
  unfold f_X3_keep
  rw [if_neg (nI_pos (by omega)), gd_pos a1, a3, nn_s, gd_pos c1, c2, if_neg (nle_i (a := 59049) hx (by decide)), ← c2, gd_pos (inN c2 hx (by decide)), bd_d, nI_clamp (by omega), e3, w2]
  refine ⟨_, rfl, Fr.rf.sI (by simp), by rw [hI_a n2], fun x hx => ?_, ?_⟩
  · by_cases g : x = plV 10 mk br
    · exact ⟨b, w, Nat.le_refl b, w1, by rw [g, hI_same, sh4, fa_or_sum b (show w < 2 ^ 4 by omega)]⟩
    · rw [hI_k g]; exact hm.1 x hx
  intro a d' hpa ht
  by_cases g : plV 10 a d' = plV 10 mk br
  · obtain ⟨rfl, rfl⟩ := plV_inj (hpa.up hl.1) (hp.up hl.1) g
    rw [hI_same, enc_lo w1, w3]
  · rw [hI_k g] at ht ⊢
    exact hm.2 a d' hpa ht
end
