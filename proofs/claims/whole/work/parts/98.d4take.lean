section
variable {P : Nat → Prop} {S T : Hp} {x z : Nat} {d : Nat → Nat} {q q' : Nat → Option (Nat × Nat × Nat)} {A A' : Ab} {nb N : Nat}
/-- the picture stands where nothing of it is written -/
theorem CX.kp (h : CX S x d q A nb) (k : Kee P S T) (hp : ∀ a, PA x d q a → P a) (up : ∀ a, a ∈ hL S → a ∈ hL T) : CX T x d q A nb := by
  have shp := h.1.2.2.1
  have pd : ∀ i, i < 20 → P (d i) := fun i hi => hp _ (PA.d0 hi)
  have ps : ∀ i, i < 8 → ∀ a, inS (q i) a → P a := fun i hi a ha => hp _ (PA.s0 hi ha)
  exact h.re k (hp x PA.x0) (fun i hi _ => pd i hi) ⟨k.ok shp.1 (pd 6 (by decide)), by rw [k.R shp.1.1 (pd 6 (by decide))]; exact shp.2.1, k.ok shp.2.2.1 (pd 7 (by decide)), by rw [k.N shp.2.2.1.1 (pd 7 (by decide))]; exact shp.2.2.2⟩ ⟨k.ok h.1.2.2.2.1.1 (pd 8 (by decide)), by rw [k.N h.1.2.2.2.1.1.1 (pd 8 (by decide))]; exact h.1.2.2.2.1.2⟩ ⟨by rw [k.I shp.1.1 (pd 6 (by decide))]; exact h.2.2.1.1, h.2.2.1.2.kp k shp.2.2.1.1 (pd 7 (by decide)) (fun i hi => ps i (by omega)) (Nat.le_refl _) (fun _ _ => rfl)⟩ (h.2.2.2.1.kp k h.1.2.2.2.1.1.1 (pd 8 (by decide)) (fun i hi => ps (6 + i) (by omega)) (fun _ _ => rfl) rfl) rfl rfl (fun a ha => up a (h.2.2.2.2.2.2 a ha))
/-- a snapshot laid down in the place t -/
theorem x_put8 (h : CX S x d q A nb) (k : Kee P S T) {i : Nat} (hi : i < 2) {t : Nat × Nat × Nat} (px : P x) (pd : ∀ j, j < 20 → j ≠ 8 → P (d j)) (ps : ∀ j, j < 8 → j ≠ 6 + i → ∀ a, inS (q j) a → P a) (e8 : ok T (d 8) 9 ∧ hN T (d 8) = 2) (r8 : hR T (d 8) i = some t.1) (r8' : ∀ j, j < 2 → j ≠ i → hR T (d 8) j = hR S (d 8) j) (qi : q' (6 + i) = some t) (qo : ∀ j, j < 8 → j ≠ 6 + i → q' j = q j) {o1 o2 o3 : Int32} (sv : StV T t.1 t.2.1 t.2.2 (cntB (aN A) o1 o2 o3)) (hl : ∀ a, PA x d q' a → a ∈ hL T) : CX T x d q' (takA A i) nb := by
  have shp := h.1.2.2.1
  refine h.re k px (fun j hj w => pd j hj (by omega)) ⟨k.ok shp.1 (pd 6 (by decide) (by decide)), by rw [k.R shp.1.1 (pd 6 (by decide) (by decide))]; exact shp.2.1, k.ok shp.2.2.1 (pd 7 (by decide) (by decide)), by rw [k.N shp.2.2.1.1 (pd 7 (by decide) (by decide))]; exact shp.2.2.2⟩ e8 ⟨by rw [k.I shp.1.1 (pd 6 (by decide) (by decide))]; exact h.2.2.1.1, fun j hj => ?_⟩ (fun j hj => ?_) rfl rfl hl
  · have r := (h.2.2.1.2.kp (A' := A) k shp.2.2.1.1 (pd 7 (by decide) (by decide)) (fun i hi => ps i (by omega) (by omega)) (Nat.le_refl _) (fun _ _ => rfl)) j hj
    rw [qo j (by omega) (by omega)]
    exact r
  · show Pl T (d 8) j (q' (6 + j)) ∧ ((if j = i then some (aN A) else aS A j) = none → q' (6 + j) = none) ∧ ∀ B, (if j = i then some (aN A) else aS A j) = some B → ∃ t o1 o2 o3, q' (6 + j) = some t ∧ StV T t.1 t.2.1 t.2.2 (cntB B o1 o2 o3)
    by_cases e : j = i
    · rw [if_pos e, e]
      refine ⟨⟨by rw [r8, qi]; rfl, fun t' ht' => ?_⟩, fun w => (by cases w), fun B hB => ?_⟩
      · rw [qi] at ht'
        cases ht'
        exact sv.sh
      · cases hB
        exact ⟨t, o1, o2, o3, qi, sv⟩
    · obtain ⟨b1, b2, b3⟩ := h.2.2.2.1 j hj
      have pj := ps (6 + j) (by omega) (by omega)
      rw [if_neg e, qo (6 + j) (by omega) (by omega)]
      refine ⟨⟨by rw [r8' j hj e]; exact b1.1, fun t' ht' => (b1.2 t' ht').kp k (pj _ (in1S ht')) (pj _ (in2S ht')) (pj _ (in3S ht'))⟩, b2, fun B hB => ?_⟩
      obtain ⟨t', p1, p2, p3, w1, w2⟩ := b3 B hB
      exact ⟨t', p1, p2, p3, w1, w2.kp k (pj _ (in1S w1)) (pj _ (in2S w1)) (pj _ (in3S w1))⟩
theorem x_tk44 {S1 U : Hp} {p : Nat} {pi : Int32} (hx : ok S1 x 6) (h0 : hR S1 x 0 = some (d 0)) (hp : ok S1 p 4) (e : f_X4_copyBoard N S1 p (d 0) = some ((), U)) (c : CX U x d q A nb) : f_X6_take_b44 N x pi S1 z p = some (nI (bn (aN A)), U, z) := by
  unfold f_X6_take_b44
  rw [gd_pos hx, h0, nn_s, gd_pos hp, e, cl_s, gd_pos c.1.1.1, c.1.1.2.1, nn_s, gd_pos c.2.1.1.1, c.2.1.1.2, nn_s, gd_pos c.2.1.2.1.1.1, c.2.1.2.1.2.1.1]
theorem x_take (h : CX S x d q A nb) (hd : CD x d q) (hN0 : 12 < N) (hz : ∀ a, a ∈ hL S → a < z) {i : Nat} (hi : i < 2) : CA S x d q (takA A i) nb (nI (bn (aN A))) (f_X6_take N S z x (nI i)) := by
  have hs8 := h.1.2.2.2.1
  obtain ⟨b1, b2, b3⟩ := h.2.2.2.1 i hi
  have n8 : 6 + i < 8 := by omega
  unfold f_X6_take
  rw [gd_pos h.1.1.1, x_isSnap h, cl_s, if_pos (in01 hi), if_neg (by decide), gd_pos h.1.1.1, h.1.1.2.2.2.2.1, nn_s, gd_pos hs8.1, gd_pos (inN hs8.2 hi (by decide)), nI_clamp (by omega), b1.1]
  cases g : q (6 + i) with
  | some t =>
    have o := fun (a : Nat) (ha : inS (q (6 + i)) a) => hd.2.2.1 _ n8 a ha
    have i1 := o _ (in1S g)
    have i2 := o _ (in2S g)
    have i3 := o _ (in3S g)
    have ss := b1.2 t g
    obtain ⟨T, t1, t2, t3⟩ := c_copyBoard (N := N) h.2.1 ss hN0 (i1.2 0 (by decide)).symm (i2.2 1 (by decide)).symm (i3.2 2 (by decide)).symm
    have k : Kee (fun a => ¬ inS (q (6 + i)) a) S T := by
      refine t2.kee (fun a ha w => ?_)
      simp only [List.mem_cons, List.not_mem_nil, or_false] at w
      rcases w with w | w | w
      · exact ha (w ▸ in1S g)
      · exact ha (w ▸ in2S g)
      · exact ha (w ▸ in3S g)
    have hLT : hL T = hL S := t2.1
    have c : CX T x d q (takA A i) nb := x_put8 h k hi (fun w => (o _ w).1 rfl) (fun j hj _ w => (o _ w).2 j hj rfl) (fun j hj ne a ha => hd.2.2.2 j _ hj n8 ne a ha) ⟨t2.ok hs8.1, by rw [t2.N]; exact hs8.2⟩ (by rw [t2.R, b1.1, g]; rfl) (fun j hj _ => by rw [t2.R]) g (fun _ _ _ => rfl) t3 (fun a ha => by rw [hLT]; exact h.2.2.2.2.2.2 a ha)
    have e := x_tk44 (A := takA A i) (z := z) (pi := nI i) h.1.1.1 h.1.1.2.1 ss.1.1 t1 c
    refine ⟨T, z, q, ?_, k.mono (fun a ha w => ha (PA.s0 n8 w)), fun a ha => by rw [hLT]; exact ha, hd, fun a ha => Or.inl ha, c⟩
    show nz (some t.1) _ _ = _
    rw [nz_s]
    exact e
  | none =>
    obtain ⟨T, t1, t2, t3, t4⟩ := x4_init (N := N) (z := z) S
    have hl : ∀ a, PA x d q a → a < z := fun a ha => hz a (h.2.2.2.2.2.2 a ha)
    have pl : ∀ i, i < 20 → d i < z := fun i hi => hl _ (PA.d0 hi)
    have hz8 : d 8 < z := pl 8 (by decide)
    have k1 : Kee (fun a => a < z ∧ a ≠ d 8) S (sR T (d 8) i (some z)) := (t3.mono (fun a ha => ha.1)).tr (kee_R (fun w => w.2 rfl))
    have pd : ∀ j, j < 20 → j ≠ 8 → d j < z ∧ d j ≠ d 8 := fun j hj ne => ⟨pl j hj, hd.1 j 8 hj (by decide) ne⟩
    have px : x < z ∧ x ≠ d 8 := ⟨hl x PA.x0, hd.2.1 8 (by decide)⟩
    have sz : StS (sR T (d 8) i (some z)) z (z + 1) (z + 2) := t4.sh.kp (kee_R (P := fun a => a ≠ d 8) (fun w => w rfl)) (by show z ≠ d 8; omega) (by show z + 1 ≠ d 8; omega) (by show z + 2 ≠ d 8; omega)
    have s0 : StV (sR T (d 8) i (some z)) (d 0) (d 1) (d 2) (aN A) := h.2.1.kp k1 (pd 0 (by decide) (by decide)) (pd 1 (by decide) (by decide)) (pd 2 (by decide) (by decide))
    have l0 := pl 0 (by decide)
    have l1 := pl 1 (by decide)
    have l2 := pl 2 (by decide)
    obtain ⟨U, u1, u2, u3⟩ := c_copyBoard (N := N) s0 sz hN0 (by omega) (by omega) (by omega)
    have k : Kee (fun a => a < z ∧ a ≠ d 8) S U := k1.tr (u2.kee (fun a ha w => by
      simp only [List.mem_cons, List.not_mem_nil, or_false] at w
      have := ha.1
      omega))
    have hLU : hL U = hL S ++ [z] ++ [z + 1] ++ [z + 2] := by rw [u2.1, hL_sR, t2]
    have up : ∀ a, a ∈ hL S → a ∈ hL U := fun a ha => by rw [hLU]; simp [ha]
    have upz : z ∈ hL U ∧ z + 1 ∈ hL U ∧ z + 2 ∈ hL U := by rw [hLU]; simp
    have ok8 : ok U (d 8) 9 ∧ hN U (d 8) = 2 := ⟨u2.ok (t3.ok hs8.1 hz8), by rw [u2.N, hN_sR, t3.N hs8.1.1 hz8]; exact hs8.2⟩
    have c : CX U x d (newQ q (6 + i) z) (takA A i) nb := by
      refine x_put8 (t := (z, z + 1, z + 2)) h k hi px pd (fun j hj ne a ha => ⟨hl a (PA.s0 hj ha), ((hd.2.2.1 j hj a ha).2 8 (by decide)).symm⟩) ok8 (by rw [u2.R, hR_same]) (fun j hj ne => by rw [u2.R, hR_k ne, t3.R hs8.1.1 hz8]) (if_pos rfl) (fun j hj ne => if_neg ne) u3 (fun a ha => ?_)
      rcases new_pa ha with w | w | w | w
      · exact up a (h.2.2.2.2.2.2 a w)
      · rw [w]; exact upz.1
      · rw [w]; exact upz.2.1
      · rw [w]; exact upz.2.2
    have e := x_tk44 (A := takA A i) (z := z + 3) (pi := nI i) (k1.ok h.1.1.1 px) (by rw [k1.R h.1.1.1.1 px]; exact h.1.1.2.1) sz.1.1 u1 c
    refine ⟨U, z + 3, newQ q (6 + i) z, ?_, fun a ha hp => k a ha ⟨hz a ha, fun w => hp (w ▸ PA.d0 (by decide))⟩, up, new_cd hd hl, fun a ha => ?_, c⟩
    · show nz none _ _ = _
      rw [nz_n, t1, cz_s, gd_pos (t3.ok h.1.1.1 px.1), t3.R h.1.1.1.1 px.1, h.1.1.2.2.2.2.1, nn_s, gd_pos (t3.ok hs8.1 hz8), t3.N hs8.1.1 hz8, gd_pos (inN hs8.2 hi (by decide)), gd_pos t4.1.1]
      exact e
    · rcases new_pa ha with w | w
      · exact Or.inl w
      · exact Or.inr (fun ha' => by have := hz a ha'; omega)
theorem x_take_bad (h : CX S x d q A nb) {p : Int32} (hp : ¬ (0 ≤ p ∧ p ≤ 1)) : CB S x d q A nb "java/lang/IndexOutOfBoundsException" (f_X6_take N S z x p) (e_X6_take N S x p) := by
  refine ⟨?_, S, ?_, CN.rf h⟩
  · unfold f_X6_take
    rw [gd_pos h.1.1.1, x_isSnap h, cl_s, if_neg hp, if_pos rfl]
  · unfold e_X6_take
    rw [gd_pos h.1.1.1, x_isSnap h, cl_s, if_neg hp, if_pos rfl]
end
