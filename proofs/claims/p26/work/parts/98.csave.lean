section
variable {S T : Hp} {x z : Nat} {d : Nat → Nat} {q : Nat → Option (Nat × Nat × Nat)} {A : Ab} {nb N : Nat}
/-- only what r points to has changed -/
def FrR (r : Nat) (S T : Hp) : Prop := hL T = hL S ∧ hK T = hK S ∧ hN T = hN S ∧ hI T = hI S ∧ hJ T = hJ S ∧ ∀ a, a ≠ r → hR T a = hR S a
theorem FrR.rf {r : Nat} : FrR r S S := ⟨rfl, rfl, rfl, rfl, rfl, fun _ _ => rfl⟩
theorem FrR.ok {r a k : Nat} (f : FrR r S T) (h : ok S a k) : ok T a k := ⟨by rw [f.1]; exact h.1, by rw [f.2.1]; exact h.2⟩
theorem FrR.R {r k : Nat} {v : Option Nat} (f : FrR r S T) : FrR r S (sR T r k v) := by
  obtain ⟨a1, a2, a3, a4, a5, a6⟩ := f
  refine ⟨a1, a2, a3, a4, a5, fun a ha => ?_⟩
  rw [← a6 a ha]
  funext j
  rw [hR_sR, if_neg (fun w => ha w.1)]
theorem hR_same (S : Hp) (a k : Nat) (v : Option Nat) : hR (sR S a k v) a k = v := by rw [hR_sR, if_pos ⟨rfl, rfl⟩]
theorem hR_k {S : Hp} {a k j : Nat} {v : Option Nat} (h : j ≠ k) : hR (sR S a k v) a j = hR S a j := by rw [hR_sR, if_neg (fun w => h w.2)]
theorem x_drop_l (h6 : ok S (d 6) 0 ∧ hR S (d 6) 0 = some (d 7) ∧ ok S (d 7) 9 ∧ hN S (d 7) = 6) (ne : d 6 ≠ d 7) {p : Nat} (hp : ok S p 4) (hs : ∀ i, i < 6 → ∃ s, hR S (d 7) i = some s ∧ ok S s 4) : ∀ D k v T, FrR (d 7) S T → (∀ j, j + 1 < v → hR T (d 7) j = hR S (d 7) (j + 1)) → (∀ j, v ≤ j + 1 → hR T (d 7) j = hR S (d 7) j) → 1 ≤ v → v + D = 6 → D < k → ∃ U, f_X0_dropOldest_l17 N (d 6) k T p (nI v) = some ((), sI U (d 6) 1 (nI 5)) ∧ FrR (d 7) S U ∧ (∀ j, j < 5 → hR U (d 7) j = hR S (d 7) (j + 1)) ∧ hR U (d 7) 5 = some p := by
  obtain ⟨a1, a2, a3, a4⟩ := h6
  intro D
  induction D with
  | zero =>
    intro k v T f b1 b2 hv hD hk
    obtain ⟨k, rfl⟩ : ∃ u, k = u + 1 := ⟨k - 1, by omega⟩
    obtain rfl : v = 6 := by omega
    have n4 : hN T (d 7) = 6 := by rw [f.2.2.1]; exact a4
    have e5 : nI 6 - (1 : Int32) = nI 5 := rfl
    have f2 := f.R (k := 5) (v := some p)
    have r6 : ∀ W, FrR (d 7) S W → hR W (d 6) 0 = some (d 7) := fun W g => by rw [g.2.2.2.2.2 _ ne]; exact a2
    unfold f_X0_dropOldest_l17 f_X0_dropOldest_b17
    rw [gd_pos (f.ok a1), r6 T f, nn_s, gd_pos (f.ok a3), n4, if_pos (Int32.le_refl _), e5, gd_pos (by rw [← n4]; exact inN n4 (show 5 < 6 by decide) (by decide)), gd_pos (f.ok hp), bd_d, nI_clamp (by decide), r6 _ f2, nn_s, gd_pos (f2.ok a3), hN_sR, n4, e5, bd_d]
    refine ⟨_, rfl, f2, fun j hj => ?_, hR_same _ _ _ _⟩
    rw [hR_k (by omega)]
    exact b1 j (by omega)
  | succ D ih =>
    intro k v T f b1 b2 hv hD hk
    obtain ⟨k, rfl⟩ : ∃ u, k = u + 1 := ⟨k - 1, by omega⟩
    have n4 : hN T (d 7) = 6 := by rw [f.2.2.1]; exact a4
    obtain ⟨s, s1, s2⟩ := hs v (by omega)
    have em : nI v - (1 : Int32) = nI (v - 1) := nI_minus (b := 1) hv
    have i1 : inb (nI v) 6 := by rw [← n4]; exact inN n4 (show v < 6 by omega) (by decide)
    have i2 : inb (nI (v - 1)) 6 := by rw [← n4]; exact inN n4 (show v - 1 < 6 by omega) (by decide)
    unfold f_X0_dropOldest_l17 f_X0_dropOldest_b17
    rw [gd_pos (f.ok a1), f.2.2.2.2.2 _ ne, a2, nn_s, gd_pos (f.ok a3), n4, if_neg (nle_i (by omega) (by decide)), gd_pos i1, nI_clamp (by omega), b2 v (by omega), s1, nn_s, em, gd_pos i2, gd_pos (f.ok s2), bd_d, nI_clamp (by omega), nI_p1]
    refine ih k (v + 1) _ f.R (fun j hj => ?_) (fun j hj => ?_) (by omega) (by omega) (by omega)
    · by_cases e : j = v - 1
      · rw [e, hR_same, show v - 1 + 1 = v by omega, s1]
      · rw [hR_k e]
        exact b1 j (by omega)
    · rw [hR_k (by omega)]
      exact b2 j (by omega)
def rotQ (q : Nat → Option (Nat × Nat × Nat)) : Nat → Option (Nat × Nat × Nat) := fun i => if i < 5 then q (i + 1) else if i = 5 then q 0 else q i
/-- where a place comes from -/
theorem rot_at (q : Nat → Option (Nat × Nat × Nat)) {i : Nat} (hi : i < 8) : ∃ j, j < 8 ∧ rotQ q i = q j ∧ ((i < 5 ∧ j = i + 1) ∨ (i = 5 ∧ j = 0) ∨ (5 < i ∧ j = i)) := by
  unfold rotQ
  by_cases h1 : i < 5
  · exact ⟨i + 1, by omega, by rw [if_pos h1], Or.inl ⟨h1, rfl⟩⟩
  · by_cases h2 : i = 5
    · exact ⟨0, by omega, by rw [if_neg h1, if_pos h2], Or.inr (Or.inl ⟨h2, rfl⟩)⟩
    · exact ⟨i, hi, by rw [if_neg h1, if_neg h2], Or.inr (Or.inr ⟨by omega, rfl⟩)⟩
theorem rot_cd (hd : CD x d q) : CD x d (rotQ q) := by
  refine ⟨hd.1, hd.2.1, fun i hi a ha => ?_, fun i j hi hj hij a ha hb => ?_⟩
  · obtain ⟨k, hk, e, -⟩ := rot_at q hi
    rw [e] at ha
    exact hd.2.2.1 k hk a ha
  · obtain ⟨k, hk, e, ck⟩ := rot_at q hi
    obtain ⟨l, hl, e', cl⟩ := rot_at q hj
    rw [e] at ha
    rw [e'] at hb
    exact hd.2.2.2 k l hk hl (by omega) a ha hb
theorem rot_pa {a : Nat} (h : PA x d (rotQ q) a) : PA x d q a := by
  rcases h with w | w | ⟨i, hi, w⟩
  · exact Or.inl w
  · exact Or.inr (Or.inl w)
  · obtain ⟨k, hk, e, -⟩ := rot_at q hi
    rw [e] at w
    exact Or.inr (Or.inr ⟨k, hk, w⟩)
def drpA (A : Ab) : Ab := (aN A, (5, fun j => aHs A (j + 1)), A.2.2)
theorem x_drop (h : CX S x d q A nb) (hd : CD x d q) (hN0 : 12 < N) (h6 : aH A = 6) : ∃ T, f_X0_dropOldest N S (d 6) = some ((), T) ∧ hL T = hL S ∧ CG S x d q (rotQ q) (drpA A) nb T := by
  have hist := h.2.2.1
  have shp := h.1.2.2.1
  have ne : d 6 ≠ d 7 := hd.1 6 7 (by decide) (by decide) (by decide)
  have at_ : ∀ i, i < 6 → ∃ t, q i = some t ∧ hR S (d 7) i = some t.1 ∧ StV S t.1 t.2.1 t.2.2 (aHs A i) := by
    intro i hi
    obtain ⟨⟨b1, b2⟩, b3⟩ := hist.2 i hi
    obtain ⟨t, t1, t2⟩ := b3 (by omega)
    exact ⟨t, t1, by rw [b1, t1]; rfl, t2⟩
  obtain ⟨t0, t1, t2, t3⟩ := at_ 0 (by decide)
  obtain ⟨U, u1, u2, u3, u4⟩ := x_drop_l (N := N) shp ne t3.1.1 (fun i hi => by obtain ⟨t, w1, w2, w3⟩ := at_ i hi; exact ⟨t.1, w2, w3.1.1⟩) 5 N 1 S FrR.rf (fun j hj => absurd hj (by omega)) (fun _ _ => rfl) (by decide) rfl (by omega)
  have k : Kee (fun a => a ≠ d 6 ∧ a ≠ d 7) S (sI U (d 6) 1 (nI 5)) := by
    intro a ha hp
    obtain ⟨f1, f2, f3, f4, f5, f6⟩ := u2
    exact ⟨by rw [hL_sI, f1]; exact ha, by rw [hK_sI, f2], by rw [hN_sI, f3], by rw [hI_a hp.1, f4], by rw [hR_sI]; exact f6 a hp.2, by rw [hJ_sI, f5]⟩
  have hLU : hL (sI U (d 6) 1 (nI 5)) = hL S := u2.1
  have pd : ∀ i, i < 20 → (i < 6 ∨ 8 < i) → d i ≠ d 6 ∧ d i ≠ d 7 := fun i h1 h2 => ⟨hd.1 i 6 h1 (by decide) (by omega), hd.1 i 7 h1 (by decide) (by omega)⟩
  have ps : ∀ i, i < 8 → ∀ a, inS (q i) a → a ≠ d 6 ∧ a ≠ d 7 := fun i hi a ha => ⟨((hd.2.2.1 i hi a ha).2 6 (by decide)).symm, ((hd.2.2.1 i hi a ha).2 7 (by decide)).symm⟩
  refine ⟨sI U (d 6) 1 (nI 5), ?_, hLU, k.mono (fun a ha => ⟨fun e => ha (e ▸ PA.d0 (by decide)), fun e => ha (e ▸ PA.d0 (by decide))⟩), fun a ha => by rw [hLU]; exact ha, rot_cd hd, fun a ha => Or.inl (rot_pa ha), ?_⟩
  · unfold f_X0_dropOldest
    rw [gd_pos shp.1, shp.2.1, nn_s, gd_pos shp.2.2.1, shp.2.2.2, if_neg (by decide), gd_pos (by rw [← shp.2.2.2]; exact (show inb (0 : Int32) (hN S (d 7)) from inN shp.2.2.2 (show 0 < 6 by decide) (by decide))), tn0, t2, nn_s]
    exact u1
  · refine h.re k ⟨hd.2.1 6 (by decide), hd.2.1 7 (by decide)⟩ pd ⟨u2.ok shp.1, by rw [hR_sI, u2.2.2.2.2.2 _ ne]; exact shp.2.1, u2.ok shp.2.2.1, by rw [hN_sI, u2.2.2.1]; exact shp.2.2.2⟩ ⟨u2.ok h.1.2.2.2.1.1, by rw [hN_sI, u2.2.2.1]; exact h.1.2.2.2.1.2⟩ ⟨hI_same _ _ _ _, fun i hi => ?_⟩ (h.2.2.2.1.kp k h.1.2.2.2.1.1.1 ⟨hd.1 8 6 (by decide) (by decide) (by decide), hd.1 8 7 (by decide) (by decide) (by decide)⟩ (fun i hi => ps (6 + i) (by omega)) (fun i hi => by unfold rotQ; rw [if_neg (by omega), if_neg (by omega)]) rfl) rfl rfl (fun a ha => by rw [hLU]; exact h.2.2.2.2.2.2 a (rot_pa ha))
    obtain ⟨j, hj, e, c⟩ := rot_at q (show i < 8 by omega)
    have hj6 : j < 6 := by omega
    obtain ⟨t, w1, w2, w3⟩ := at_ j hj6
    have w4 : StV (sI U (d 6) 1 (nI 5)) t.1 t.2.1 t.2.2 (aHs A j) := w3.kp k (ps j hj _ (in1S w1)) (ps j hj _ (in2S w1)) (ps j hj _ (in3S w1))
    rw [e]
    refine ⟨⟨?_, fun t' ht' => ?_⟩, fun ih => ⟨t, w1, ?_⟩⟩
    · rw [hR_sI, w1]
      rcases c with c | c | c
      · rw [u3 i c.1, ← c.2, w2]
        rfl
      · rw [c.2] at w1
        rw [t1] at w1
        cases w1
        rw [c.1, u4]
        rfl
      · omega
    · rw [w1] at ht'
      cases ht'
      exact w4.sh
    · have ih' : i < 5 := ih
      have ej : j = i + 1 := by omega
      show StV _ _ _ _ (aHs A (i + 1))
      rw [← ej]
      exact w4
def putA (A : Ab) : Ab := (aN A, (aH A + 1, fun j => if j = aH A then aN A else aHs A j), A.2.2)
theorem x_put (h : CX S x d q A nb) (hd : CD x d q) (hN0 : 12 < N) (h6 : aH A < 6) {t : Nat × Nat × Nat} (ht : q (aH A) = some t) {z : Nat} : ∃ T, f_X0_save_b67 N (d 6) (d 0) S z t.1 = some ((), T, z) ∧ CN S x d q (putA A) nb T := by
  have hist := h.2.2.1
  have shp := h.1.2.2.1
  have h8' : aH A < 8 := by omega
  have o := fun (a : Nat) (ha : inS (q (aH A)) a) => hd.2.2.1 _ h8' a ha
  have i1 := o _ (in1S ht)
  have i2 := o _ (in2S ht)
  have i3 := o _ (in3S ht)
  have ss := (hist.2 _ h6).1.2 t ht
  obtain ⟨T, t1, t2, t3⟩ := c_copyAll (N := N) h.2.1 ss hN0 (i1.2 0 (by decide)).symm (i2.2 1 (by decide)).symm (i3.2 2 (by decide)).symm
  have f : Fr [t.1, t.2.1, t.2.2, d 6] S (sI T (d 6) 1 (nI (aH A + 1))) := (t2.mono (fun a ha => by simp only [List.mem_cons, List.not_mem_nil, or_false] at ha ⊢; omega)).sI (by simp)
  have e6 : hI T (d 6) 1 = nI (aH A) := by
    rw [t2.I (by simp only [List.mem_cons, List.not_mem_nil, or_false, not_or]; exact ⟨i1.2 6 (by decide), i2.2 6 (by decide), i3.2 6 (by decide)⟩)]
    exact hist.1
  have k : Kee (fun a => a ≠ d 6 ∧ ¬ inS (q (aH A)) a) S (sI T (d 6) 1 (nI (aH A + 1))) := by
    refine f.kee (fun a ha w => ?_)
    simp only [List.mem_cons, List.not_mem_nil, or_false] at w
    rcases w with w | w | w | w
    · exact ha.2 (w ▸ in1S ht)
    · exact ha.2 (w ▸ in2S ht)
    · exact ha.2 (w ▸ in3S ht)
    · exact ha.1 w
  have hLU : hL (sI T (d 6) 1 (nI (aH A + 1))) = hL S := f.1
  have pd : ∀ i, i < 20 → (i < 6 ∨ 8 < i) → d i ≠ d 6 ∧ ¬ inS (q (aH A)) (d i) := fun i h1 h2 => ⟨hd.1 i 6 h1 (by decide) (by omega), fun w => (o _ w).2 i h1 rfl⟩
  have ps : ∀ i, i < 8 → i ≠ aH A → ∀ a, inS (q i) a → a ≠ d 6 ∧ ¬ inS (q (aH A)) a := fun i hi ne a ha => ⟨((hd.2.2.1 i hi a ha).2 6 (by decide)).symm, hd.2.2.2 i _ hi h8' ne a ha⟩
  refine ⟨_, ?_, k.mono (fun a ha => ⟨fun e => ha (e ▸ PA.d0 (by decide)), fun w => ha (PA.s0 h8' w)⟩), hLU, ?_⟩
  · unfold f_X0_save_b67
    rw [gd_pos ss.1.1, t1, cl_s, gd_pos (t2.ok shp.1), e6, nI_p1]
  · refine h.re k ⟨hd.2.1 6 (by decide), fun w => (o _ w).1 rfl⟩ pd ⟨f.ok shp.1, by rw [f.R]; exact shp.2.1, f.ok shp.2.2.1, by rw [f.N]; exact shp.2.2.2⟩ ⟨f.ok h.1.2.2.2.1.1, by rw [f.N]; exact h.1.2.2.2.1.2⟩ ⟨hI_same _ _ _ _, fun i hi => ?_⟩ (h.2.2.2.1.kp k h.1.2.2.2.1.1.1 ⟨hd.1 8 6 (by decide) (by decide) (by decide), fun w => (o _ w).2 8 (by decide) rfl⟩ (fun i hi => ps (6 + i) (by omega) (by omega)) (fun i hi => rfl) rfl) rfl rfl (fun a ha => by rw [hLU]; exact h.2.2.2.2.2.2 a ha)
    obtain ⟨b1, b2⟩ := hist.2 i hi
    refine ⟨b1.fr f, fun ih => ?_⟩
    have ih' : i < aH A + 1 := ih
    show ∃ t, q i = some t ∧ StV _ t.1 t.2.1 t.2.2 (if i = aH A then aN A else aHs A i)
    by_cases e : i = aH A
    · rw [if_pos e, e]
      refine ⟨t, ht, t3.fr (Fr.rf.sI (E := [d 6]) (by simp)) ?_ ?_ ?_⟩
      · simp only [List.mem_singleton]; exact (i1.2 6 (by decide)).symm
      · simp only [List.mem_singleton]; exact (i2.2 6 (by decide)).symm
      · simp only [List.mem_singleton]; exact (i3.2 6 (by decide)).symm
    · rw [if_neg e]
      obtain ⟨t', w1, w2⟩ := b2 (by omega)
      exact ⟨t', w1, w2.kp k (ps i (by omega) e _ (in1S w1)) (ps i (by omega) e _ (in2S w1)) (ps i (by omega) e _ (in3S w1))⟩
/-! new places -/
def newQ (q : Nat → Option (Nat × Nat × Nat)) (s z : Nat) : Nat → Option (Nat × Nat × Nat) := fun i => if i = s then some (z, z + 1, z + 2) else q i
theorem new_pa {s a : Nat} (h : PA x d (newQ q s z) a) : PA x d q a ∨ a = z ∨ a = z + 1 ∨ a = z + 2 := by
  rcases h with w | w | ⟨i, hi, w⟩
  · exact Or.inl (Or.inl w)
  · exact Or.inl (Or.inr (Or.inl w))
  · unfold newQ at w
    by_cases e : i = s
    · rw [if_pos e] at w
      exact Or.inr w
    · rw [if_neg e] at w
      exact Or.inl (Or.inr (Or.inr ⟨i, hi, w⟩))
theorem new_cd (hd : CD x d q) {s : Nat} (hl : ∀ a, PA x d q a → a < z) : CD x d (newQ q s z) := by
  have big : ∀ i a, inS (newQ q s z i) a → (i = s ∧ z ≤ a) ∨ (i ≠ s ∧ inS (q i) a) := by
    intro i a ha
    unfold newQ at ha
    by_cases e : i = s
    · rw [if_pos e] at ha
      have ha' : a = z ∨ a = z + 1 ∨ a = z + 2 := ha
      exact Or.inl ⟨e, by omega⟩
    · rw [if_neg e] at ha
      exact Or.inr ⟨e, ha⟩
  refine ⟨hd.1, hd.2.1, fun i hi a ha => ?_, fun i j hi hj hij a ha hb => ?_⟩
  · rcases big i a ha with w | w
    · have hx := hl x PA.x0
      exact ⟨by omega, fun k hk => by have := hl (d k) (PA.d0 hk); omega⟩
    · exact hd.2.2.1 i hi a w.2
  · rcases big i a ha with w | w
    · rcases big j a hb with v | v
      · omega
      · have := hl a (PA.s0 hj v.2)
        omega
    · rcases big j a hb with v | v
      · have := hl a (PA.s0 hi w.2)
        omega
      · exact hd.2.2.2 i j hi hj hij a w.2 v.2
theorem x_new7 (h : CX S x d q A nb) (hd : CD x d q) (hz : ∀ a, a ∈ hL S → a < z) {s : Nat} (hs : s < 6) (hA : aH A ≤ s) : ∃ T, f_X4_init N (sNew S z 4 0) (z + 1) z = some ((), T, z + 3) ∧ CX T x d q A nb ∧ ok T z 4 ∧ CG S x d q (newQ q s z) A nb (sR T (d 7) s (some z)) := by
  obtain ⟨T, t1, t2, t3, t4⟩ := x4_init (N := N) (z := z) S
  have hl : ∀ a, PA x d q a → a < z := fun a ha => hz a (h.2.2.2.2.2.2 a ha)
  have pl : ∀ i, i < 20 → d i < z := fun i hi => hl _ (PA.d0 hi)
  have sl : ∀ i, i < 8 → ∀ a, inS (q i) a → a < z := fun i hi a ha => hl _ (PA.s0 hi ha)
  have shp := h.1.2.2.1
  have k7 : Kee (fun a => a < z ∧ a ≠ d 7) S (sR T (d 7) s (some z)) := (t3.mono (fun a ha => ha.1)).tr (kee_R (fun w => w.2 rfl))
  have up : ∀ a, a ∈ hL S → a ∈ hL T := fun a ha => by rw [t2]; simp [ha]
  have upz : z ∈ hL T ∧ z + 1 ∈ hL T ∧ z + 2 ∈ hL T := by rw [t2]; simp
  have h0 : CX T x d q A nb := h.re t3 (hl _ PA.x0) (fun i hi _ => pl i hi) ⟨t3.ok shp.1 (pl 6 (by decide)), by rw [t3.R shp.1.1 (pl 6 (by decide))]; exact shp.2.1, t3.ok shp.2.2.1 (pl 7 (by decide)), by rw [t3.N shp.2.2.1.1 (pl 7 (by decide))]; exact shp.2.2.2⟩ ⟨t3.ok h.1.2.2.2.1.1 (pl 8 (by decide)), by rw [t3.N h.1.2.2.2.1.1.1 (pl 8 (by decide))]; exact h.1.2.2.2.1.2⟩ ⟨by rw [t3.I shp.1.1 (pl 6 (by decide))]; exact h.2.2.1.1, h.2.2.1.2.kp t3 shp.2.2.1.1 (pl 7 (by decide)) (fun i hi => sl i (by omega)) (Nat.le_refl _) (fun _ _ => rfl)⟩ (h.2.2.2.1.kp t3 h.1.2.2.2.1.1.1 (pl 8 (by decide)) (fun i hi => sl (6 + i) (by omega)) (fun _ _ => rfl) rfl) rfl rfl (fun a ha => up a (h.2.2.2.2.2.2 a ha))
  have n67 : d 6 ≠ d 7 := hd.1 6 7 (by decide) (by decide) (by decide)
  have ps : ∀ i, i < 8 → ∀ a, inS (q i) a → a < z ∧ a ≠ d 7 := fun i hi a ha => ⟨sl i hi a ha, ((hd.2.2.1 i hi a ha).2 7 (by decide)).symm⟩
  have pd : ∀ i, i < 20 → i ≠ 7 → d i < z ∧ d i ≠ d 7 := fun i h1 h2 => ⟨pl i h1, hd.1 i 7 h1 (by decide) h2⟩
  refine ⟨T, t1, h0, t4.1.1, fun a ha hp => k7 a ha ⟨hz a ha, fun e => hp (e ▸ PA.d0 (by decide))⟩, up, new_cd hd hl, fun a ha => ?_, ?_⟩
  · rcases new_pa ha with w | w
    · exact Or.inl w
    · exact Or.inr (fun ha' => by have := hz a ha'; omega)
  · have z7 : ∀ j, j ≤ 2 → z + j ≠ d 7 := fun j _ => by have := pl 7 (by decide); omega
    refine h.re k7 ⟨hl x PA.x0, hd.2.1 7 (by decide)⟩ (fun i hi w => pd i hi (by omega)) ⟨k7.ok shp.1 (pd 6 (by decide) (by decide)), by rw [k7.R shp.1.1 (pd 6 (by decide) (by decide))]; exact shp.2.1, t3.ok shp.2.2.1 (pl 7 (by decide)), by rw [hN_sR, t3.N shp.2.2.1.1 (pl 7 (by decide))]; exact shp.2.2.2⟩ ⟨k7.ok h.1.2.2.2.1.1 (pd 8 (by decide) (by decide)), by rw [k7.N h.1.2.2.2.1.1.1 (pd 8 (by decide) (by decide))]; exact h.1.2.2.2.1.2⟩ ⟨by rw [k7.I shp.1.1 (pd 6 (by decide) (by decide))]; exact h.2.2.1.1, fun i hi => ?_⟩ (h.2.2.2.1.kp k7 h.1.2.2.2.1.1.1 (pd 8 (by decide) (by decide)) (fun i hi => ps (6 + i) (by omega)) (fun i hi => by unfold newQ; rw [if_neg (by omega)]) rfl) rfl rfl (fun a ha => ?_)
    · obtain ⟨b1, b2⟩ := h.2.2.1.2 i hi
      unfold newQ
      by_cases e : i = s
      · rw [if_pos e, e]
        refine ⟨⟨hR_same _ _ _ _, fun t ht => ?_⟩, fun ih => absurd ih (by omega)⟩
        cases ht
        exact t4.sh.kp (kee_R (P := fun a => a ≠ d 7) (fun w => w rfl)) (z7 0 (by decide)) (z7 1 (by decide)) (z7 2 (by decide))
      · rw [if_neg e]
        refine ⟨⟨by rw [hR_k e, t3.R shp.2.2.1.1 (pl 7 (by decide))]; exact b1.1, fun t ht => (b1.2 t ht).kp k7 (ps i (by omega) _ (in1S ht)) (ps i (by omega) _ (in2S ht)) (ps i (by omega) _ (in3S ht))⟩, fun ih => ?_⟩
        obtain ⟨t, w1, w2⟩ := b2 ih
        exact ⟨t, w1, w2.kp k7 (ps i (by omega) _ (in1S w1)) (ps i (by omega) _ (in2S w1)) (ps i (by omega) _ (in3S w1))⟩
    · rcases new_pa ha with w | w | w | w
      · exact up a (h.2.2.2.2.2.2 a w)
      · rw [w]; exact upz.1
      · rw [w]; exact upz.2.1
      · rw [w]; exact upz.2.2
theorem x_b16 (h : CX S x d q A nb) (hd : CD x d q) (hN0 : 12 < N) (hz : ∀ a, a ∈ hL S → a < z) (h6 : aH A < 6) : ∃ T z' q', f_X0_save_b16 N (d 6) (d 0) S z = some ((), T, z') ∧ CG S x d q q' (putA A) nb T ∧ ∀ i, 6 ≤ i → q' i = q i := by
  have shp := h.1.2.2.1
  have b1 := (h.2.2.1.2 _ h6).1
  unfold f_X0_save_b16
  rw [gd_pos shp.1, h.2.2.1.1, if_neg (nlt0 (by omega)), shp.2.1, nn_s, gd_pos shp.2.2.1, shp.2.2.2, if_neg (nle_i h6 (by decide)), gd_pos (by rw [← shp.2.2.2]; exact inN shp.2.2.2 h6 (by decide)), nI_clamp (by omega), b1.1]
  cases g : q (aH A) with
  | none =>
    obtain ⟨T, t1, t2, t3, t4⟩ := x_new7 (N := N) h hd hz h6 (Nat.le_refl _)
    have shq := t2.1.2.2.1
    obtain ⟨U, u1, u2⟩ := x_put (N := N) t4.2.2.2.2 t4.2.2.1 hN0 h6 (t := (z, z + 1, z + 2)) (if_pos rfl) (z := z + 3)
    show ∃ T z' q', nz none _ _ = _ ∧ _
    rw [nz_n, t1, cz_s, gd_pos shq.1, shq.2.1, nn_s, gd_pos shq.2.2.1, t2.2.2.1.1, shq.2.2.2, gd_pos (by rw [← shq.2.2.2]; exact inN shq.2.2.2 h6 (by decide)), gd_pos t3, bd_d, nI_clamp (by omega)]
    exact ⟨U, _, _, u1, t4.tr (u2.g t4.2.2.1), fun i hi => by unfold newQ; rw [if_neg (by omega)]⟩
  | some t =>
    obtain ⟨U, u1, u2⟩ := x_put (N := N) h hd hN0 h6 g (z := z)
    show ∃ T z' q', nz (some t.1) _ _ = _ ∧ _
    rw [nz_s]
    exact ⟨U, _, _, u1, u2.g hd, fun _ _ => rfl⟩
theorem x_save (h : CX S x d q A nb) (hd : CD x d q) (hw : WfA A) (hN0 : 12 < N) (hz : ∀ a, a ∈ hL S → a < z) : ∃ T z' q', f_X0_save N S z (d 6) (d 0) = some ((), T, z') ∧ CG S x d q q' (svA A) nb T ∧ ∀ i, 6 ≤ i → q' i = q i := by
  have shp := h.1.2.2.1
  have h66 := hw.2.1.1
  unfold f_X0_save
  rw [gd_pos shp.1, shp.2.1, nn_s, gd_pos shp.2.2.1, shp.2.2.2, h.2.2.1.1]
  by_cases g : aH A = 6
  · obtain ⟨T, t1, t0, t2⟩ := x_drop (N := N) h hd hN0 g
    obtain ⟨U, z', q', u1, u2, u3⟩ := x_b16 (N := N) t2.2.2.2.2 t2.2.2.1 hN0 (z := z) (fun a ha => hz a (by rw [← t0]; exact ha)) (by decide : 5 < 6)
    have e : svA A = putA (drpA A) := by
      unfold svA svH putA
      rw [if_pos g]
      rfl
    rw [if_neg (by rw [g]; decide), t1, cl_s, u1, e]
    exact ⟨U, z', q', rfl, t2.tr u2, fun i hi => by rw [u3 i hi]; unfold rotQ; rw [if_neg (by omega), if_neg (by omega)]⟩
  · obtain ⟨T, z', q', t1, t2, t3⟩ := x_b16 (N := N) h hd hN0 hz (by omega)
    have e : svA A = putA A := by
      unfold svA svH putA
      rw [if_neg g]
    rw [if_pos (lt_i (b := 6) (show aH A < 6 by omega) (by decide)), t1, e]
    exact ⟨T, z', q', rfl, t2, t3⟩
end
