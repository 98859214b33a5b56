section
variable {N z : Nat}
theorem x0_init (S : Hp) : ∃ T, f_X0_init N (sNew S z 0 0) (z + 1) z = some ((), T, z + 2) ∧ (∀ a, a ∈ hL S → a ∈ hL T) ∧ Kee (fun a => a < z) S T ∧ (ok T z 0 ∧ hR T z 0 = some (z + 1) ∧ ok T (z + 1) 9 ∧ hN T (z + 1) = 6) ∧ hI T z 1 = 0 ∧ ∀ j, hR T (z + 1) j = none := by
  unfold f_X0_init
  rw [gd_pos (show ok (sNew (sNew S z 0 0) (z + 1) 9 6) z 0 from ⟨by simp [hL_sNew], by simp [hK_sNew]⟩), bd_d]
  have n0 : ¬ (fun a => a < z) z := Nat.lt_irrefl z
  have n1 : ¬ (fun a => a < z) (z + 1) := by simp
  refine ⟨_, rfl, fun a ha => by simp [hL_sNew, hL_sI, hL_sR, ha], ((((kee_New (P := fun a => a < z) n0).tr (kee_New n1)).tr (kee_R n0)).tr (kee_I n0)), ⟨⟨by simp [hL_sNew, hL_sI, hL_sR], by simp [hK_sNew, hK_sI, hK_sR]⟩, by simp [hR_sNew, hR_sI, hR_sR], ⟨by simp [hL_sNew, hL_sI, hL_sR], by simp [hK_sNew, hK_sI, hK_sR]⟩, by simp [hN_sNew, hN_sI, hN_sR]⟩, hI_same _ _ _ _, fun j => by simp [hR_sNew, hR_sI, hR_sR]⟩
theorem x5_init (S : Hp) : ∃ T, f_X5_init N (sNew S z 5 0) (z + 1) z = some ((), T, z + 2) ∧ (∀ a, a ∈ hL S → a ∈ hL T) ∧ Kee (fun a => a < z) S T ∧ (ok T z 5 ∧ hR T z 0 = some (z + 1) ∧ ok T (z + 1) 8 ∧ hN T (z + 1) = 60) ∧ hI T z 1 = 0 := by
  unfold f_X5_init
  rw [gd_pos (show ok (sNew (sNew S z 5 0) (z + 1) 8 60) z 5 from ⟨by simp [hL_sNew], by simp [hK_sNew]⟩), bd_d]
  have n0 : ¬ (fun a => a < z) z := Nat.lt_irrefl z
  have n1 : ¬ (fun a => a < z) (z + 1) := by simp
  refine ⟨_, rfl, fun a ha => by simp [hL_sNew, hL_sI, hL_sR, ha], ((((kee_New (P := fun a => a < z) n0).tr (kee_New n1)).tr (kee_R n0)).tr (kee_I n0)), ⟨⟨by simp [hL_sNew, hL_sI, hL_sR], by simp [hK_sNew, hK_sI, hK_sR]⟩, by simp [hR_sNew, hR_sI, hR_sR], ⟨by simp [hL_sNew, hL_sI, hL_sR], by simp [hK_sNew, hK_sI, hK_sR]⟩, by simp [hN_sNew, hN_sI, hN_sR]⟩, hI_same _ _ _ _⟩
theorem x2_init (S : Hp) : ∃ T, f_X2_init N (sNew S z 2 0) (z + 1) z = some ((), T, z + 4) ∧ (∀ a, a ∈ hL S → a ∈ hL T) ∧ Kee (fun a => a < z) S T ∧ PairIs T z (z + 1) (z + 2) (z + 3) nwB := by
  obtain ⟨T, t1, t2, t3, t4⟩ := x1_init (N := N) (z := z + 1) (sNew S z 2 0)
  have t1' : f_X1_init N (sNew (sNew S z 2 0) (z + 1) 1 0) (z + 1 + 1) (z + 1) = some ((), T, z + 3) := t1
  have t4' : LnV T (z + 1) (z + 2) 0 (fun _ => 0) := t4
  have okz : ok T z 2 := t3.ok ⟨by simp [hL_sNew], by simp [hK_sNew]⟩ (Nat.lt_succ_self z)
  have n0 : ¬ (fun a => a < z) z := Nat.lt_irrefl z
  have n3 : ¬ (fun a => a < z) (z + 3) := by simp
  have m0 : ¬ (fun a => a < z + 3 ∧ a ≠ z) z := fun w => w.2 rfl
  have m3 : ¬ (fun a => a < z + 3 ∧ a ≠ z) (z + 3) := fun w => Nat.lt_irrefl _ w.1
  unfold f_X2_init
  rw [t1', cz_s, gd_pos okz, bd_d, gd_pos (show ok (sNew (sI (sI (sR T z 0 (some (z + 1))) z 1 0) z 2 0) (z + 3) 8 5) z 2 from ⟨by rw [hL_sNew]; exact List.mem_append_left _ okz.1, by rw [hK_sNew, if_neg (by omega)]; exact okz.2⟩), bd_d]
  have kk : Kee (fun a => a < z + 3 ∧ a ≠ z) T (sI (sI (sR (sNew (sI (sI (sR T z 0 (some (z + 1))) z 1 0) z 2 0) (z + 3) 8 5) z 3 (some (z + 3))) z 4 0) z 5 1) := ((((((kee_R (P := fun a => a < z + 3 ∧ a ≠ z) m0).tr (kee_I m0)).tr (kee_I m0)).tr (kee_New m3)).tr (kee_R m0)).tr (kee_I m0)).tr (kee_I m0)
  have k2 : Kee (fun a => a < z) T (sI (sI (sR (sNew (sI (sI (sR T z 0 (some (z + 1))) z 1 0) z 2 0) (z + 3) 8 5) z 3 (some (z + 3))) z 4 0) z 5 1) := kk.mono (fun a ha => ⟨by omega, by omega⟩)
  refine ⟨_, rfl, fun a ha => ?_, ((kee_New (P := fun a => a < z) n0).tr (t3.mono (fun a ha => by show a < z + 1; have : a < z := ha; omega))).tr k2, ⟨⟨⟨⟨?_, ?_⟩, ?_, ?_⟩, t4'.kp kk ⟨by omega, by omega⟩ ⟨by omega, by omega⟩, ⟨⟨?_, ?_⟩, ?_, by omega⟩, ?_, by decide⟩, ?_, ?_⟩⟩
  · simp [hL_sNew, hL_sI, hL_sR, t2, ha]
  · simp [hL_sNew, hL_sI, hL_sR, t2]
  · simp only [hK_sI, hK_sR, hK_sNew]
    rw [if_neg (by omega)]
    exact okz.2
  · simp [hR_sI, hR_sR, hR_sNew]
  · simp [hR_sI, hR_sR, hR_sNew]
  · simp [hL_sNew, hL_sI, hL_sR]
  · simp [hK_sI, hK_sR, hK_sNew]
  · simp [hN_sI, hN_sR, hN_sNew]
  · rw [hI_k (by decide), hI_k (by decide), hI_sR]
    show hI (sNew _ (z + 3) 8 5) z 2 = nI 0
    rw [hI_sNew, if_neg (by omega), hI_same]
    rfl
  · rw [hI_k (by decide), hI_k (by decide), hI_sR]
    show hI (sNew _ (z + 3) 8 5) z 1 = nI 0
    rw [hI_sNew, if_neg (by omega), hI_k (by decide), hI_same]
    rfl
  · refine Or.inr ⟨(0, fun _ => (0, 0)), rfl, hI_same _ _ _ _, ⟨?_, fun i hi => absurd hi (Nat.not_lt_zero i)⟩, fun i hi => absurd hi (Nat.not_lt_zero i)⟩
    rw [hI_k (by decide), hI_same]
    rfl
def P3p (i a : Nat) : Nat := fb_sm (fun k => (if a.testBit k = true then 1 else 0) * 3 ^ k) i
variable {S : Hp} {so pw : Nat}
theorem x3_l59 (h : ok S so 3 ∧ hR S so 5 = some pw ∧ ok S pw 8 ∧ hN S pw = 1024) {K : Hp → Nat → Int32 → Int32 → Option (Unit × Hp × Nat)} {i : Nat} (hi : i < 10) : ∀ D k a T, Fr [pw] S T → (∀ b, b < 1024 → hI T pw b = nI (if b < a then P3p (i + 1) b else P3p i b)) → a + D = 1024 → D < k → ∃ U, f_X3_init_l59 N so K k T z (nI (3 ^ i)) (nI i) (nI a) = K U z (nI (3 ^ (i + 1))) (nI (i + 1)) ∧ Fr [pw] S U ∧ ∀ b, b < 1024 → hI U pw b = nI (P3p (i + 1) b) := by
  obtain ⟨a1, a2, a3, a4⟩ := h
  intro D
  induction D with
  | zero =>
    intro k a T f hb ha hk
    obtain ⟨k, rfl⟩ : ∃ u, k = u + 1 := ⟨k - 1, by omega⟩
    obtain rfl : a = 1024 := by omega
    have n4 : hN T pw = 1024 := by rw [f.N]; exact a4
    unfold f_X3_init_l59 f_X3_init_b59
    rw [gd_pos (f.ok a1), f.R, a2, nn_s, gd_pos (f.ok a3), n4, if_pos (Int32.le_refl _), nI_p1, show nI (3 ^ i) * (3 : Int32) = nI (3 ^ (i + 1)) from nI_mul _ 3]
    refine ⟨T, rfl, f, fun b h1 => ?_⟩
    rw [hb b h1, if_pos h1]
  | succ D ih =>
    intro k a T f hb ha hk
    obtain ⟨k, rfl⟩ : ∃ u, k = u + 1 := ⟨k - 1, by omega⟩
    have n4 : hN T pw = 1024 := by rw [f.N]; exact a4
    have al : a < 1024 := by omega
    have e0 : hI T pw a = nI (P3p i a) := by rw [hb a al, if_neg (Nat.lt_irrefl a)]
    have es : ∀ s0, nI (P3p i a) + s0 = nI (P3p (i + 1) a) → ∃ U, f_X3_init_b88 N so K (f_X3_init_l59 N so K k) T z (nI (3 ^ i)) (nI i) (nI a) s0 (nI (P3p i a)) (nI a) pw = K U z (nI (3 ^ (i + 1))) (nI (i + 1)) ∧ Fr [pw] S U ∧ ∀ b, b < 1024 → hI U pw b = nI (P3p (i + 1) b) := by
      intro s0 hs
      unfold f_X3_init_b88
      rw [gd_pos (f.ok a3), gd_pos (inN n4 al (by decide)), nI_clamp (by omega), hs, nI_p1]
      refine ih k (a + 1) _ (fr_s1 f) (fun b h1 => ?_) (by omega) (by omega)
      by_cases e : b = a
      · rw [e, hI_same, if_pos (Nat.lt_succ_self a)]
      · rw [hI_k e, hb b h1]
        by_cases l : b < a
        · rw [if_pos l, if_pos (by omega)]
        · rw [if_neg l, if_neg (by omega)]
    have ep : P3p (i + 1) a = P3p i a + (if a.testBit i = true then 1 else 0) * 3 ^ i := rfl
    unfold f_X3_init_l59 f_X3_init_b59
    rw [gd_pos (f.ok a1), f.R, a2, nn_s, gd_pos (f.ok a3), n4, if_neg (nle_i al (by decide)), gd_pos (by rw [← n4]; exact inN n4 al (by decide)), nI_clamp (by omega), e0]
    cases t : a.testBit i
    · rw [if_pos ((nI_mbit (by omega)).mpr t)]
      refine es 0 ?_
      rw [ep, t, if_neg (by decide), Nat.zero_mul]
      exact nI_plus _ 0
    · rw [if_neg (fun w => by rw [(nI_mbit (by omega)).mp w] at t; cases t)]
      refine es _ ?_
      rw [ep, t, if_pos rfl, Nat.one_mul, nI_plus]
theorem x3_l51 (h : ok S so 3 ∧ hR S so 5 = some pw ∧ ok S pw 8 ∧ hN S pw = 1024) (hB : 2000 < N) : ∀ D k i T, Fr [pw] S T → (∀ b, b < 1024 → hI T pw b = nI (P3p i b)) → i + D = 10 → D < k → ∃ U, f_X3_init_l51 N so k T z (nI (3 ^ i)) (nI i) = some ((), U, z) ∧ Fr [pw] S U ∧ ∀ b, b < 1024 → hI U pw b = nI (P3p 10 b) := by
  intro D
  induction D with
  | zero =>
    intro k i T f hb hi hk
    obtain ⟨k, rfl⟩ : ∃ u, k = u + 1 := ⟨k - 1, by omega⟩
    obtain rfl : i = 10 := by omega
    unfold f_X3_init_l51 f_X3_init_b51
    rw [if_pos (show (10 : Int32) ≤ nI 10 by decide)]
    exact ⟨T, rfl, f, hb⟩
  | succ D ih =>
    intro k i T f hb hi hk
    obtain ⟨k, rfl⟩ : ∃ u, k = u + 1 := ⟨k - 1, by omega⟩
    have hT : ok T so 3 ∧ hR T so 5 = some pw ∧ ok T pw 8 ∧ hN T pw = 1024 := ⟨f.ok h.1, by rw [f.R]; exact h.2.1, f.ok h.2.2.1, by rw [f.N]; exact h.2.2.2⟩
    obtain ⟨U, u1, u2, u3⟩ := x3_l59 (N := N) (z := z) (K := f_X3_init_l51 N so k) hT (show i < 10 by omega) 1024 N 0 T Fr.rf (fun b h1 => by rw [if_neg (Nat.not_lt_zero b)]; exact hb b h1) (by omega) (by omega)
    obtain ⟨V, v1, v2, v3⟩ := ih k (i + 1) U (f.tr u2) u3 (by omega) (by omega)
    unfold f_X3_init_l51 f_X3_init_b51
    rw [if_neg (nle_c 10 (n := 10) rfl (by omega) (by decide))]
    exact ⟨V, u1.trans v1, v2, v3⟩
theorem x3_init (S : Hp) (hB : 2000 < N) : ∃ T, f_X3_init N (sNew S z 3 0) (z + 1) z = some ((), T, z + 5) ∧ (∀ a, a ∈ hL S → a ∈ hL T) ∧ Kee (fun a => a < z) S T ∧ SolV T z (z + 1) (z + 2) (z + 3) (z + 4) 1 := by
  obtain ⟨T, t1, t2, t3, t4⟩ := x1_init (N := N) (z := z + 1) (sNew S z 3 0)
  have t1' : f_X1_init N (sNew (sNew S z 3 0) (z + 1) 1 0) (z + 1 + 1) (z + 1) = some ((), T, z + 3) := t1
  have t4' : LnV T (z + 1) (z + 2) 0 (fun _ => 0) := t4
  have okz : ok T z 3 := t3.ok ⟨by simp [hL_sNew], by simp [hK_sNew]⟩ (Nat.lt_succ_self z)
  have n0 : ¬ (fun a => a < z) z := Nat.lt_irrefl z
  have m0 : ¬ (fun a => a < z + 3 ∧ a ≠ z) z := fun w => w.2 rfl
  have m3 : ¬ (fun a => a < z + 3 ∧ a ≠ z) (z + 3) := fun w => Nat.lt_irrefl _ w.1
  have m4 : ¬ (fun a => a < z + 3 ∧ a ≠ z) (z + 4) := fun w => by have := w.1; omega
  have ex : ∃ U, U = sR (sNew (sI (sR (sNew (sI (sI (sR T z 0 (some (z + 1))) z 1 0) z 2 1) (z + 3) 8 59049) z 3 (some (z + 3))) z 4 1) (z + 4) 8 1024) z 5 (some (z + 4)) := ⟨_, rfl⟩
  obtain ⟨U, hU⟩ := ex
  have kk : Kee (fun a => a < z + 3 ∧ a ≠ z) T U := by
    rw [hU]
    exact (((((((kee_R (P := fun a => a < z + 3 ∧ a ≠ z) m0).tr (kee_I m0)).tr (kee_I m0)).tr (kee_New m3)).tr (kee_R m0)).tr (kee_I m0)).tr (kee_New m4)).tr (kee_R m0)
  have oz : ok U z 3 := by
    rw [hU]
    exact ⟨by simp [hL_sNew, hL_sI, hL_sR, okz.1], by simp only [hK_sI, hK_sR, hK_sNew]; rw [if_neg (by omega), if_neg (by omega)]; exact okz.2⟩
  have r0 : hR U z 0 = some (z + 1) ∧ hR U z 3 = some (z + 3) ∧ hR U z 5 = some (z + 4) := by
    rw [hU]
    refine ⟨?_, ?_, ?_⟩ <;> simp [hR_sI, hR_sR, hR_sNew]
  have o3 : ok U (z + 3) 8 ∧ hN U (z + 3) = 59049 := by
    rw [hU]
    exact ⟨⟨by simp [hL_sNew, hL_sI, hL_sR], by simp [hK_sI, hK_sR, hK_sNew]⟩, by simp [hN_sI, hN_sR, hN_sNew]⟩
  have o4 : ok U (z + 4) 8 ∧ hN U (z + 4) = 1024 := by
    rw [hU]
    exact ⟨⟨by simp [hL_sNew, hL_sI, hL_sR], by simp [hK_sI, hK_sR, hK_sNew]⟩, by simp [hN_sI, hN_sR, hN_sNew]⟩
  have i3 : ∀ j, hI U (z + 3) j = 0 := by
    intro j
    rw [hU]
    simp [hI_sI, hI_sR, hI_sNew]
  have i4 : ∀ j, hI U (z + 4) j = 0 := by
    intro j
    rw [hU]
    simp [hI_sI, hI_sR, hI_sNew]
  have iz : hI U z 1 = 0 ∧ hI U z 2 = 1 ∧ hI U z 4 = 1 := by
    rw [hU]
    refine ⟨?_, ?_, ?_⟩ <;> simp [hI_sI, hI_sR, hI_sNew]
  obtain ⟨V, v1, v2, v3⟩ := x3_l51 (N := N) (z := z + 5) ⟨oz, r0.2.2, o4.1, o4.2⟩ hB 10 N 0 U Fr.rf (fun b _ => by rw [i4]; rfl) rfl (by omega)
  have hLU : ∀ a, a ∈ hL S → a ∈ hL V := by
    intro a ha
    rw [v2.1, hU]
    simp [hL_sNew, hL_sI, hL_sR, t2, ha]
  have nz : z ∉ [z + 4] := n1 (by omega)
  have n1' : z + 1 ∉ [z + 4] := n1 (by omega)
  have n2' : z + 2 ∉ [z + 4] := n1 (by omega)
  have n3' : z + 3 ∉ [z + 4] := n1 (by omega)
  have lv : LnV V (z + 1) (z + 2) 0 (fun _ => 0) := (t4'.kp kk ⟨by omega, by omega⟩ ⟨by omega, by omega⟩).fr v2 (by rw [v2.I n1']) n2'
  have kT : Kee (fun a => a < z) S V := (((kee_New (P := fun a => a < z) n0).tr (t3.mono (fun a ha => by show a < z + 1; have : a < z := ha; omega))).tr (kk.mono (fun a ha => by have : a < z := ha; exact ⟨by omega, by omega⟩))).tr (v2.kee (fun a ha w => by have := List.mem_singleton.mp w; omega))
  refine ⟨V, ?_, hLU, kT, 0, 0, fun _ => 0, true, 1, Nat.le_refl 1, ⟨Nat.zero_le _, fun j hj => absurd hj (Nat.not_lt_zero j)⟩, ⟨⟨v2.ok oz, by rw [v2.R]; exact r0.1, by rw [v2.R]; exact r0.2.1, by rw [v2.R]; exact r0.2.2⟩, lv, ⟨v2.ok o3.1, by rw [v2.N]; exact o3.2, by omega⟩, ⟨v2.ok o4.1, by rw [v2.N]; exact o4.2, by omega, v3⟩, ?_, ?_, ?_⟩, ?_, ?_⟩
  · have v1' : f_X3_init_l51 N z N U (z + 3 + 1 + 1) 1 0 = some ((), V, z + 5) := v1
    rw [hU] at v1' oz
    unfold f_X3_init
    rw [t1', cz_s, gd_pos okz, bd_d, gd_pos (show ok (sNew (sI (sI (sR T z 0 (some (z + 1))) z 1 0) z 2 1) (z + 3) 8 59049) z 3 from ⟨by rw [hL_sNew]; exact List.mem_append_left _ okz.1, by rw [hK_sNew, if_neg (by omega)]; exact okz.2⟩), bd_d, gd_pos (show ok (sNew (sI (sR (sNew (sI (sI (sR T z 0 (some (z + 1))) z 1 0) z 2 1) (z + 3) 8 59049) z 3 (some (z + 3))) z 4 1) (z + 3 + 1) 8 1024) z 3 from oz), bd_d]
    exact v1'
  · rw [v2.I nz, iz.1]
    rfl
  · rw [v2.I nz, iz.2.1]
    rfl
  · rw [v2.I nz, iz.2.2]
    rfl
  · intro y hy
    refine ⟨0, 0, by decide, by decide, ?_⟩
    rw [v2.I n3', i3]
    rfl
  · intro a e hp w
    rw [v2.I n3', i3] at w
    exact absurd w (by decide)
end
