/-- what holds when k acts are left -/
def II (k x zz li pa : Nat) (S : Hp) : Prop := ∃ d q A nb, KA S x zz li pa d q A nb ∧ LZ S zz li (aN A) (aH A) ∧ nb + 13 * k ≤ 1000
theorem law_step {N k x zz li pa z : Nat} {S : Hp} (hN : 2000 < N) (h : II (k + 1) x zz li pa S) (hz : ∀ a, a ∈ hL S → a < z) : LawStep N (II k x zz li pa) x zz li pa S z := by
  intro a c
  obtain ⟨d, q, A, nb, h1, h2, h3⟩ := h
  obtain ⟨T, z1, d', q', A', t1, t2, t3⟩ := act_ok (N := N) (x1 := a) (x2 := c) hN (by omega) h1 h2 hz
  obtain ⟨U, u1, u2, u3⟩ := agree_ok (N := N) hN (by omega) t2 t3
  exact ⟨T, z1, U, t1, u3, d', q', A', nb + 10 + 3, u1, u2, by omega⟩
theorem law_init {N : Nat} (hB : 2000 < N) : LawInit N II := by
  intro x
  obtain ⟨S1, e1, c1⟩ := x6_init (N := N) hB x
  refine ⟨S1, x + 21, e1, fun hz1 => ?_⟩
  have pl : ∀ a, PA x (fun i => x + 1 + i) (fun _ => none) a → a < x + 21 := by
    intro a ha
    rcases ha with w | ⟨j, hj, w⟩ | ⟨j, hj, w⟩
    · omega
    · have w' : a = x + 1 + j := w
      omega
    · exact absurd w (fun w => w)
  have hd : CD x (fun i => x + 1 + i) (fun _ => none) := ⟨fun i j _ _ ne => by show x + 1 + i ≠ x + 1 + j; omega, fun i _ => by show x ≠ x + 1 + i; omega, fun i _ a ha => absurd ha (fun w => w), fun i j _ _ _ a ha => absurd ha (fun w => w)⟩
  have k1 : Kee (fun a => a < x + 21) S1 (sNew S1 (x + 21) 8 11) := kee_New (by omega)
  have k2 : Kee (fun a => a < x + 21) (sNew S1 (x + 21) 8 11) (sNew (sNew S1 (x + 21) 8 11) (x + 21 + 1) 8 3) := kee_New (by omega)
  have k3 : Kee (fun a => a < x + 21) (sNew (sNew S1 (x + 21) 8 11) (x + 21 + 1) 8 3) (sNew (sNew (sNew S1 (x + 21) 8 11) (x + 21 + 1) 8 3) (x + 21 + 1 + 1) 8 5) := kee_New (by omega)
  have kb := (k1.tr k2).tr k3
  have lb : hL (sNew (sNew (sNew S1 (x + 21) 8 11) (x + 21 + 1) 8 3) (x + 21 + 1 + 1) 8 5) = hL S1 ++ [x + 21] ++ [x + 21 + 1] ++ [x + 21 + 1 + 1] := rfl
  have o1 : ok (sNew (sNew (sNew S1 (x + 21) 8 11) (x + 21 + 1) 8 3) (x + 21 + 1 + 1) 8 5) (x + 21) 8 := ok_old (ok_old (ok_new _ _ _ _) (by omega)) (by omega)
  have o2 : ok (sNew (sNew (sNew S1 (x + 21) 8 11) (x + 21 + 1) 8 3) (x + 21 + 1 + 1) 8 5) (x + 21 + 1) 8 := ok_old (ok_new _ _ _ _) (by omega)
  have o3 : ok (sNew (sNew (sNew S1 (x + 21) 8 11) (x + 21 + 1) 8 3) (x + 21 + 1 + 1) 8 5) (x + 21 + 1 + 1) 8 := ok_new _ _ _ _
  have n1 : hN (sNew (sNew (sNew S1 (x + 21) 8 11) (x + 21 + 1) 8 3) (x + 21 + 1 + 1) 8 5) (x + 21) = 11 := by rw [hN_sNew, if_neg (by omega), hN_sNew, if_neg (by omega), hN_sNew, if_pos rfl]
  have n2 : hN (sNew (sNew (sNew S1 (x + 21) 8 11) (x + 21 + 1) 8 3) (x + 21 + 1 + 1) 8 5) (x + 21 + 1) = 3 := by rw [hN_sNew, if_neg (by omega), hN_sNew, if_pos rfl]
  have n3 : hN (sNew (sNew (sNew S1 (x + 21) 8 11) (x + 21 + 1) 8 3) (x + 21 + 1 + 1) 8 5) (x + 21 + 1 + 1) = 5 := by rw [hN_sNew, if_pos rfl]
  have zz0 : ∀ j, hI (sNew (sNew (sNew S1 (x + 21) 8 11) (x + 21 + 1) 8 3) (x + 21 + 1 + 1) 8 5) (x + 21) j = 0 := fun j => by rw [hI_sNew, if_neg (by omega), hI_sNew, if_neg (by omega), hI_sNew, if_pos rfl]
  generalize hSb : sNew (sNew (sNew S1 (x + 21) 8 11) (x + 21 + 1) 8 3) (x + 21 + 1 + 1) 8 5 = Sb at kb lb o1 o2 o3 n1 n2 n3 zz0
  have upb : ∀ a, a ∈ hL S1 → a ∈ hL Sb := fun a ha => by rw [lb]; exact List.mem_append_left _ (List.mem_append_left _ (List.mem_append_left _ ha))
  have cb : CX Sb x (fun i => x + 1 + i) (fun _ => none) A00 1 := c1.kp kb pl upb
  have hzb : ∀ a, a ∈ hL Sb → a < x + 21 + 1 + 1 + 1 := fun a ha => by
    rw [lb] at ha
    simp only [List.mem_append, List.mem_singleton] at ha
    rcases ha with ((w | w) | w) | w
    · have := hz1 a w; omega
    · omega
    · omega
    · omega
  have t := ((HZ.rf (S := Sb) (a := x + 21)).put 0 5).put 10 1
  obtain ⟨U, u1, u2⟩ := l_empty (N := N) t o1 n1 1
  have lB : LB Sb (x + 21) (x + 21 + 1) 0 0 0 0 (fun _ => 0) := ⟨⟨o1, n1, o2, n2⟩, ⟨zz0 0, zz0 2, zz0 3, zz0 4, fun j hj => absurd hj (Nat.not_lt_zero j)⟩, by decide, by decide, by decide, by decide, fun j hj => absurd hj (Nat.not_lt_zero j)⟩
  have lU : LB U (x + 21) (x + 21 + 1) 5 0 0 0 (fun _ => 0) := u2.lb lB (by omega) rfl (zz0 2) rfl rfl (by decide) (Nat.le_refl _) (by decide) (by decide)
  have lzU : LZ U (x + 21) (x + 21 + 1) (begB nwB 5) 1 := ⟨lU, u2.2 1, u2.2 5, u2.2 6, (u2.2 7).trans (zz0 7), (u2.2 8).trans (zz0 8), (u2.2 9).trans (zz0 9), u2.2 10⟩
  have kU : Kee (fun a => a < x + 21) Sb U := u2.1.kee (fun a ha w => by have := List.mem_singleton.mp w; omega)
  have cU : CX U x (fun i => x + 1 + i) (fun _ => none) A00 1 := cb.kp kU pl (fun a ha => by rw [u2.1.1]; exact ha)
  have KU : KA U x (x + 21) (x + 21 + 1) (x + 21 + 1 + 1) (fun i => x + 1 + i) (fun _ => none) A00 1 := ⟨cU, hd, A00_wf, ⟨u2.1.ok o3, by rw [u2.1.N]; exact n3⟩, ⟨by omega, by omega, by omega⟩, fun w => by have := pl _ w; omega, fun w => by have := pl _ w; omega, fun w => by have := pl _ w; omega⟩
  obtain ⟨V, z', q', v1, v2⟩ := x_begin (N := N) (z := x + 21 + 1 + 1 + 1) KU.1 KU.2.1 KU.2.2.1 (by omega) (fun a ha => hzb a (by rw [← u2.1.1]; exact ha)) (n := 5) (by decide) (by decide)
  have wfA : WfA (nowA (svA A00) (begB (aN A00) 5)) := nowA_wf (svA_wf A00_wf) (begB_wf (by decide) (by decide))
  obtain ⟨KV, lzV, -⟩ := KU.cls v2 wfA lzU
  refine ⟨U, V, z', ?_, KU.ok6, v1, _, _, _, 1, KV, lzV, by omega⟩
  unfold S3a
  rw [hSb]
  exact u1
def NN : Nat := 3000
theorem law_ok : LawOk NN II := ⟨law_init (by decide), fun k x zz li pa S z h hz => law_step (by decide) h hz⟩
