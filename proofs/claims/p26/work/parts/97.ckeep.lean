section
variable {P : Nat → Prop} {S T : Hp}
theorem LnS.kp {L a : Nat} (h : LnS S L a) (k : Kee P S T) (h1 : P L) (h2 : P a) : LnS T L a := by
  obtain ⟨b1, b2, b3, b4⟩ := h
  exact ⟨k.ok b1 h1, by rw [k.R b1.1 h1]; exact b2, k.ok b3 h2, by rw [k.N b3.1 h2]; exact b4⟩
theorem LnV.kp {L a n : Nat} {M : Nat → Nat} (h : LnV S L a n M) (k : Kee P S T) (h1 : P L) (h2 : P a) : LnV T L a n M := by
  obtain ⟨b, ⟨c1, c2⟩, c3⟩ := h
  exact ⟨LnS.kp b k h1 h2, ⟨by rw [k.I b.1.1 h1]; exact c1, fun j hj => by rw [k.I b.2.2.1.1 h2]; exact c2 j hj⟩, c3⟩
theorem StS.kp {s L a : Nat} (h : StS S s L a) (k : Kee P S T) (h1 : P s) (h2 : P L) (h3 : P a) : StS T s L a := ⟨⟨k.ok h.1.1 h1, by rw [k.R h.1.1.1 h1]; exact h.1.2⟩, LnS.kp h.2 k h2 h3⟩
theorem StV.kp {s L a : Nat} {B : Bd} (h : StV S s L a B) (k : Kee P S T) (h1 : P s) (h2 : P L) (h3 : P a) : StV T s L a B := ⟨⟨k.ok h.1.1 h1, by rw [k.R h.1.1.1 h1]; exact h.1.2⟩, LnV.kp h.2.1 k h2 h3, by rw [k.I h.1.1.1 h1]; exact h.2.2⟩
theorem PairIs.kp {pr Lp ap pp : Nat} {B : Bd} (h : PairIs S pr Lp ap pp B) (k : Kee P S T) (h1 : P pr) (h2 : P Lp) (h3 : P ap) (h4 : P pp) : PairIs T pr Lp ap pp B := by
  obtain ⟨⟨⟨a1, a2, a3⟩, b, ⟨c1, c2, c3⟩, e1, e2⟩, g, w⟩ := h
  have er := k.I a1.1 h1
  have ep := k.I c1.1 h4
  refine ⟨⟨⟨k.ok a1 h1, by rw [k.R a1.1 h1]; exact a2, by rw [k.R a1.1 h1]; exact a3⟩, LnV.kp b k h2 h3, ⟨k.ok c1 h4, by rw [k.N c1.1 h4]; exact c2, c3⟩, by rw [er]; exact e1, e2⟩, by rw [er]; exact g, ?_⟩
  rw [er]
  unfold PQ at w ⊢
  rw [er, ep]
  exact w
theorem SolV.kp {so Ls as_ kn pw nb : Nat} (h : SolV S so Ls as_ kn pw nb) (k : Kee P S T) (h1 : P so) (h2 : P Ls) (h3 : P as_) (h4 : P kn) (h5 : P pw) : SolV T so Ls as_ kn pw nb := by
  obtain ⟨c, n, M, e, b, hb, hl, ⟨⟨a1, a2, a3, a4⟩, b1, ⟨c1, c2, c3⟩, ⟨d1, d2, d3, d4⟩, e1⟩, m1, m2⟩ := h
  have e4 := k.I c1.1 h4
  refine ⟨c, n, M, e, b, hb, hl, ⟨⟨k.ok a1 h1, by rw [k.R a1.1 h1]; exact a2, by rw [k.R a1.1 h1]; exact a3, by rw [k.R a1.1 h1]; exact a4⟩, LnV.kp b1 k h2 h3, ⟨k.ok c1 h4, by rw [k.N c1.1 h4]; exact c2, c3⟩, ⟨k.ok d1 h5, by rw [k.N d1.1 h5]; exact d2, d3, by rw [k.I d1.1 h5]; exact d4⟩, by rw [k.I a1.1 h1]; exact e1⟩, ?_, ?_⟩
  · unfold TagOk
    rw [e4]
    exact m1
  · rw [e4]
    exact m2
theorem Pl.kp {r i : Nat} {p : Option (Nat × Nat × Nat)} (h : Pl S r i p) (k : Kee P S T) (hr : r ∈ hL S) (h1 : P r) (h2 : ∀ a, inS p a → P a) : Pl T r i p := ⟨by rw [k.R hr h1]; exact h.1, fun t ht => (h.2 t ht).kp k (h2 _ (in1S ht)) (h2 _ (in2S ht)) (h2 _ (in3S ht))⟩
variable {x : Nat} {d : Nat → Nat} {q q' : Nat → Option (Nat × Nat × Nat)} {A A' : Ab} {nb : Nat}
/-- the picture, its history and its snapshots made anew -/
theorem CX.re (h : CX S x d q A nb) (k : Kee P S T) (px : P x) (pd : ∀ i, i < 20 → (i < 6 ∨ 8 < i) → P (d i)) (h6 : ok T (d 6) 0 ∧ hR T (d 6) 0 = some (d 7) ∧ ok T (d 7) 9 ∧ hN T (d 7) = 6) (h8 : ok T (d 8) 9 ∧ hN T (d 8) = 2) (hh : hI T (d 6) 1 = nI (aH A') ∧ CHi T d q' A') (hs : CSn T d q' A') (e1 : aN A' = aN A) (e2 : A'.2.2.2 = A.2.2.2) (hl : ∀ a, PA x d q' a → a ∈ hL T) : CX T x d q' A' nb := by
  obtain ⟨⟨⟨a1, a2⟩, a3, -, -, a6, a7, a8, a9⟩, b, -, -, ⟨g1, g2⟩, ⟨⟨B0, g3, g3'⟩, g4⟩, -⟩ := h
  have p := fun i (h1 : i < 20) (h2 : i < 6 ∨ 8 < i) => pd i h1 h2
  have eL : aL A' = aL A := by unfold aL; rw [e2]
  have eT : aT A' = aT A := by unfold aT; rw [e2]
  refine ⟨⟨⟨k.ok a1 px, by rw [k.R a1.1 px]; exact a2⟩, a3.kp k (p 3 (by decide) (by decide)) (p 4 (by decide) (by decide)) (p 5 (by decide) (by decide)), h6, h8, k.ok a6 (p 9 (by decide) (by decide)), by rw [k.R a6.1 (p 9 (by decide) (by decide))]; exact a7, k.ok a8 (p 10 (by decide) (by decide)), by rw [k.N a8.1 (p 10 (by decide) (by decide))]; exact a9⟩, ?_, hh, hs, ⟨?_, ?_⟩, ⟨⟨B0, g3.kp k (p 11 (by decide) (by decide)) (p 12 (by decide) (by decide)) (p 13 (by decide) (by decide)) (p 14 (by decide) (by decide)), g3'⟩, SolV.kp g4 k (p 15 (by decide) (by decide)) (p 16 (by decide) (by decide)) (p 17 (by decide) (by decide)) (p 18 (by decide) (by decide)) (p 19 (by decide) (by decide))⟩, hl⟩
  · rw [e1]
    exact b.kp k (p 0 (by decide) (by decide)) (p 1 (by decide) (by decide)) (p 2 (by decide) (by decide))
  · rw [k.I a6.1 (p 9 (by decide) (by decide)), eL]
    exact g1
  · intro j hj
    rw [eL] at hj
    rw [k.I a8.1 (p 10 (by decide) (by decide)), eT]
    exact g2 j hj
theorem CHi.kp (h : CHi S d q A) (k : Kee P S T) (h7 : d 7 ∈ hL S) (p7 : P (d 7)) (ps : ∀ i, i < 6 → ∀ a, inS (q i) a → P a) (e : aH A' ≤ aH A) (e2 : ∀ i, i < aH A' → aHs A' i = aHs A i) : CHi T d q A' := by
  intro i hi
  obtain ⟨b1, b2⟩ := h i hi
  refine ⟨b1.kp k h7 p7 (ps i hi), fun ih => ?_⟩
  obtain ⟨t, t1, t2⟩ := b2 (by omega)
  rw [e2 i ih]
  exact ⟨t, t1, t2.kp k (ps i hi _ (in1S t1)) (ps i hi _ (in2S t1)) (ps i hi _ (in3S t1))⟩
theorem CSn.kp (h : CSn S d q A) (k : Kee P S T) (h8 : d 8 ∈ hL S) (p8 : P (d 8)) (ps : ∀ i, i < 2 → ∀ a, inS (q (6 + i)) a → P a) (e : ∀ i, i < 2 → q' (6 + i) = q (6 + i)) (e2 : aS A' = aS A) : CSn T d q' A' := by
  intro i hi
  obtain ⟨b1, b2, b3⟩ := h i hi
  rw [e i hi, e2]
  refine ⟨b1.kp k h8 p8 (ps i hi), b2, fun B hB => ?_⟩
  obtain ⟨t, o1, o2, o3, t1, t2⟩ := b3 B hB
  exact ⟨t, o1, o2, o3, t1, t2.kp k (ps i hi _ (in1S t1)) (ps i hi _ (in2S t1)) (ps i hi _ (in3S t1))⟩
/-- a stretch that may make new states -/
def CG (S : Hp) (x : Nat) (d : Nat → Nat) (q q' : Nat → Option (Nat × Nat × Nat)) (A : Ab) (nb : Nat) (T : Hp) : Prop := Kee (fun a => ¬ PA x d q a) S T ∧ (∀ a, a ∈ hL S → a ∈ hL T) ∧ CD x d q' ∧ (∀ a, PA x d q' a → PA x d q a ∨ a ∉ hL S) ∧ CX T x d q' A nb
theorem CN.g (h : CN S x d q A nb T) (hd : CD x d q) : CG S x d q q A nb T := ⟨h.1, fun a ha => by rw [h.2.1]; exact ha, hd, fun a ha => Or.inl ha, h.2.2⟩
theorem CG.tr {U : Hp} {q2 : Nat → Option (Nat × Nat × Nat)} {A1 A2 : Ab} {n1 n2 : Nat} (h : CG S x d q q' A1 n1 T) (k : CG T x d q' q2 A2 n2 U) : CG S x d q q2 A2 n2 U := by
  obtain ⟨a1, a2, a3, a4, a5⟩ := h
  obtain ⟨b1, b2, b3, b4, b5⟩ := k
  refine ⟨?_, fun a ha => b2 a (a2 a ha), b3, fun a ha => ?_, b5⟩
  · intro a ha hp
    obtain ⟨c1, c2, c3, c4, c5, c6⟩ := a1 a ha hp
    have hp' : ¬ PA x d q' a := fun w => by
      rcases a4 a w with w | w
      · exact hp w
      · exact w ha
    obtain ⟨e1, e2, e3, e4, e5, e6⟩ := b1 a c1 hp'
    exact ⟨e1, e2.trans c2, e3.trans c3, e4.trans c4, e5.trans c5, e6.trans c6⟩
  · rcases b4 a ha with w | w
    · exact a4 a w
    · exact Or.inr (fun ha' => w (a2 a ha'))
theorem CG.mono {n2 : Nat} (h : CG S x d q q' A nb T) (g : nb ≤ n2) : CG S x d q q' A n2 T := ⟨h.1, h.2.1, h.2.2.1, h.2.2.2.1, h.2.2.2.2.mono g⟩
theorem PA.x0 : PA x d q x := Or.inl rfl
theorem PA.d0 {i : Nat} (h : i < 20) : PA x d q (d i) := Or.inr (Or.inl ⟨i, h, rfl⟩)
theorem PA.s0 {i a : Nat} (h : i < 8) (ha : inS (q i) a) : PA x d q a := Or.inr (Or.inr ⟨i, h, ha⟩)
/-! a new state -/
theorem kee_I {a k : Nat} {v : Int32} (h : ¬ P a) : Kee P S (sI S a k v) := fun b hb hp => ⟨hb, rfl, rfl, hI_a (fun e => h (e ▸ hp)), rfl, rfl⟩
theorem kee_R {a k : Nat} {v : Option Nat} (h : ¬ P a) : Kee P S (sR S a k v) := fun b hb hp => ⟨hb, rfl, rfl, rfl, by
  funext j
  rw [hR_sR, if_neg (fun w : b = a ∧ j = k => h (w.1 ▸ hp))], rfl⟩
theorem kee_New {a k n : Nat} (h : ¬ P a) : Kee P S (sNew S a k n) := by
  intro b hb hp
  have e : ¬ b = a := fun w => h (w ▸ hp)
  refine ⟨by rw [hL_sNew]; exact List.mem_append_left _ hb, by rw [hK_sNew, if_neg e], by rw [hN_sNew, if_neg e], ?_, ?_, ?_⟩
  · funext j; rw [hI_sNew, if_neg e]
  · funext j; rw [hR_sNew, if_neg e]
  · funext j; rw [hJ_sNew, if_neg e]
def nwB : Bd := mkB (fun _ => 0) 0 9 0 0 1 (-1) (-1) 0 0 0
theorem x1_init {N z : Nat} (S : Hp) : ∃ T, f_X1_init N (sNew S z 1 0) (z + 1) z = some ((), T, z + 2) ∧ hL T = hL S ++ [z] ++ [z + 1] ∧ Kee (fun a => a < z) S T ∧ LnV T z (z + 1) 0 (fun _ => 0) := by
  unfold f_X1_init
  rw [gd_pos (show ok (sNew (sNew S z 1 0) (z + 1) 8 12) z 1 from ⟨by simp [hL_sNew], by simp [hK_sNew]⟩), bd_d, bd_d, bd_d]
  refine ⟨_, rfl, by simp [hL_sNew, hL_sI, hL_sR], ?_, ?_⟩
  · have n0 : ¬ (fun a => a < z) z := Nat.lt_irrefl z
    have n1 : ¬ (fun a => a < z) (z + 1) := by simp
    exact (((((((kee_New (P := fun a => a < z) n0).tr (kee_New n1)).tr (kee_R n0)).tr (kee_I n0)).tr (kee_I n0)).tr (kee_I n0)).tr (kee_I n0)).tr (kee_I n0)
  · refine ⟨⟨⟨by simp [hL_sNew, hL_sI, hL_sR], by simp [hK_sNew, hK_sI, hK_sR]⟩, by simp [hR_sNew, hR_sI, hR_sR], ⟨by simp [hL_sNew, hL_sI, hL_sR], by simp [hK_sNew, hK_sI, hK_sR]⟩, by simp [hN_sNew, hN_sI, hN_sR]⟩, ⟨by simp [hI_sI]; rfl, fun j hj => absurd hj (Nat.not_lt_zero j)⟩, Nat.zero_le _, fun j hj => absurd hj (Nat.not_lt_zero j)⟩
theorem x4_init {N z : Nat} (S : Hp) : ∃ T, f_X4_init N (sNew S z 4 0) (z + 1) z = some ((), T, z + 3) ∧ hL T = hL S ++ [z] ++ [z + 1] ++ [z + 2] ∧ Kee (fun a => a < z) S T ∧ StV T z (z + 1) (z + 2) nwB := by
  obtain ⟨T, t1, t2, t3, t4⟩ := x1_init (N := N) (z := z + 1) (sNew S z 4 0)
  have okz : ok T z 4 := t3.ok ⟨by simp [hL_sNew], by simp [hK_sNew]⟩ (Nat.lt_succ_self z)
  have nz1 : z + 1 ≠ z := by omega
  have nz2 : z + 2 ≠ z := by omega
  unfold f_X4_init
  rw [t1, cz_s, gd_pos okz, bd_d, bd_d, bd_d, bd_d]
  refine ⟨_, rfl, ?_, ?_, ?_⟩
  · simp only [hL_sI, hL_sR, t2, hL_sNew]
  · have n0 : ¬ (fun a => a < z) z := Nat.lt_irrefl z
    exact (((((((((((kee_New (P := fun a => a < z) n0).tr (t3.mono (fun a ha => Nat.lt_succ_of_lt ha))).tr (kee_R n0)).tr (kee_I n0)).tr (kee_I n0)).tr (kee_I n0)).tr (kee_I n0)).tr (kee_I n0)).tr (kee_I n0)).tr (kee_I n0)).tr (kee_I n0)).tr (kee_I n0)
  · refine ⟨⟨okz, by simp [hR_sI, hR_sR]⟩, ?_, ?_⟩
    · have n0 : ¬ (fun a => a ≠ z) z := fun w => w rfl
      refine LnV.kp t4 ((((((((((kee_R (P := fun a => a ≠ z) n0).tr (kee_I n0)).tr (kee_I n0)).tr (kee_I n0)).tr (kee_I n0)).tr (kee_I n0)).tr (kee_I n0)).tr (kee_I n0)).tr (kee_I n0)).tr (kee_I n0)) nz1 nz2
    · simp [hI_sI, nwB, mkB, bc, bk, bb, bv, bl, bp, bo, bx, by_]
      decide
end
