def A00 : Ab := (nwB, (0, fun _ => nwB), (fun _ => none), (0, fun _ => 0))
theorem nwB_wf : Wf nwB := ⟨⟨by decide, by decide, by decide, fun j hj => absurd hj (Nat.not_lt_zero j)⟩, ⟨by decide, by decide, by decide⟩, Or.inl rfl, Or.inl rfl⟩
theorem A00_wf : WfA A00 := ⟨nwB_wf, ⟨Nat.zero_le _, fun j hj => absurd hj (Nat.not_lt_zero j)⟩, fun i B hB => (by cases hB), Nat.zero_le _, fun k hk => absurd hk (Nat.not_lt_zero k)⟩
section
variable {N : Nat}
theorem rstep {H T : Hp} {z x k : Nat} {v : Option Nat} (f : Kee (fun a => a < z) H T) (hx : ok H x 6) (l : x < z) : ok (sR T x k v) x 6 ∧ (∀ j, hR (sR T x k v) x j = if j = k then v else hR H x j) ∧ Kee (fun a => a < z ∧ a ≠ x) H (sR T x k v) := by
  refine ⟨f.ok hx l, fun j => ?_, (f.mono (fun a ha => ha.1)).tr (kee_R (fun w => w.2 rfl))⟩
  rw [hR_sR, f.R hx.1 l]
  by_cases e : j = k
  · rw [if_pos ⟨rfl, e⟩, if_pos e]
  · rw [if_neg (fun w => e w.2), if_neg e]
theorem x6_init (hB : 2000 < N) (x : Nat) : ∃ T, f_X6_init N (sNew S00 x 6 0) (x + 1) x = some ((), T, x + 21) ∧ CX T x (fun i => x + 1 + i) (fun _ => none) A00 1 := by
  have o0 : ok (sNew S00 x 6 0) x 6 := ⟨by simp [hL_sNew], by simp [hK_sNew]⟩
  obtain ⟨T1, a1, a2, a3, a4⟩ := x4_init (N := N) (z := x + 1) (sNew S00 x 6 0)
  obtain ⟨o1, r1, k1⟩ := rstep (k := 0) (v := some (x + 1)) a3 o0 (Nat.lt_succ_self x)
  obtain ⟨T2, b1, b2, b3, b4⟩ := x4_init (N := N) (z := x + 4) (sR T1 x 0 (some (x + 1)))
  obtain ⟨o2, r2, k2⟩ := rstep (k := 1) (v := some (x + 4)) b3 o1 (by omega)
  obtain ⟨T3, c1, c2, c3, c4, c5, c6⟩ := x0_init (N := N) (z := x + 7) (sR T2 x 1 (some (x + 4)))
  obtain ⟨o3, r3, k3⟩ := rstep (k := 2) (v := some (x + 7)) c3 o2 (by omega)
  have k4' : Kee (fun a => a < x + 9) (sR T3 x 2 (some (x + 7))) (sNew (sR T3 x 2 (some (x + 7))) (x + 9) 9 2) := kee_New (Nat.lt_irrefl _)
  obtain ⟨o4, r4, k4⟩ := rstep (k := 3) (v := some (x + 9)) k4' o3 (by omega)
  obtain ⟨T5, e1, e2, e3, e4, e5⟩ := x5_init (N := N) (z := x + 10) (sR (sNew (sR T3 x 2 (some (x + 7))) (x + 9) 9 2) x 3 (some (x + 9)))
  obtain ⟨o5, r5, k5⟩ := rstep (k := 4) (v := some (x + 10)) e3 o4 (by omega)
  obtain ⟨T6, f1, f2, f3, f4⟩ := x2_init (N := N) (z := x + 12) (sR T5 x 4 (some (x + 10)))
  obtain ⟨o6, r6, k6⟩ := rstep (k := 5) (v := some (x + 12)) f3 o5 (by omega)
  obtain ⟨T7, g1, g2, g3, g4⟩ := x3_init (N := N) (z := x + 16) (sR T6 x 5 (some (x + 12))) hB
  obtain ⟨o7, r7, k7⟩ := rstep (k := 6) (v := some (x + 16)) g3 o6 (by omega)
  refine ⟨sR T7 x 6 (some (x + 16)), ?_, ?_⟩
  · have a1' : f_X4_init N (sNew (sNew S00 x 6 0) (x + 1) 4 0) (x + 1 + 1) (x + 1) = some ((), T1, x + 4) := a1
    have b1' : f_X4_init N (sNew (sR T1 x 0 (some (x + 1))) (x + 4) 4 0) (x + 4 + 1) (x + 4) = some ((), T2, x + 7) := b1
    have c1' : f_X0_init N (sNew (sR T2 x 1 (some (x + 4))) (x + 7) 0 0) (x + 7 + 1) (x + 7) = some ((), T3, x + 9) := c1
    have e1' : f_X5_init N (sNew (sR (sNew (sR T3 x 2 (some (x + 7))) (x + 9) 9 2) x 3 (some (x + 9))) (x + 9 + 1) 5 0) (x + 9 + 1 + 1) (x + 9 + 1) = some ((), T5, x + 12) := e1
    have f1' : f_X2_init N (sNew (sR T5 x 4 (some (x + 9 + 1))) (x + 12) 2 0) (x + 12 + 1) (x + 12) = some ((), T6, x + 16) := f1
    have g1' : f_X3_init N (sNew (sR T6 x 5 (some (x + 12))) (x + 16) 3 0) (x + 16 + 1) (x + 16) = some ((), T7, x + 21) := g1
    have p1 : ok T1 x 6 := o1
    have p2 : ok T2 x 6 := o2
    have p3 : ok T3 x 6 := o3
    have p4 : ok (sNew (sR T3 x 2 (some (x + 7))) (x + 9) 9 2) x 6 := o4
    have p5 : ok T5 x 6 := o5
    have p6 : ok T6 x 6 := o6
    have p7 : ok T7 x 6 := o7
    unfold f_X6_init
    rw [a1', cz_s, gd_pos p1, b1', cz_s, gd_pos p2, c1', cz_s, gd_pos p3, gd_pos p4, bd_d, e1', cz_s, gd_pos p5, f1', cz_s, gd_pos p6, g1', cz_s, gd_pos p7]
  · have q6 : Kee (fun a => a < x + 16 ∧ a ≠ x) (sR T6 x 5 (some (x + 12))) (sR T7 x 6 (some (x + 16))) := k7
    have q5 : Kee (fun a => a < x + 12 ∧ a ≠ x) (sR T5 x 4 (some (x + 10))) (sR T7 x 6 (some (x + 16))) := k6.tr (q6.mono (fun a ha => ⟨by omega, ha.2⟩))
    have q4 : Kee (fun a => a < x + 10 ∧ a ≠ x) (sR (sNew (sR T3 x 2 (some (x + 7))) (x + 9) 9 2) x 3 (some (x + 9))) (sR T7 x 6 (some (x + 16))) := k5.tr (q5.mono (fun a ha => ⟨by omega, ha.2⟩))
    have q3 : Kee (fun a => a < x + 9 ∧ a ≠ x) (sR T3 x 2 (some (x + 7))) (sR T7 x 6 (some (x + 16))) := k4.tr (q4.mono (fun a ha => ⟨by omega, ha.2⟩))
    have q2 : Kee (fun a => a < x + 7 ∧ a ≠ x) (sR T2 x 1 (some (x + 4))) (sR T7 x 6 (some (x + 16))) := k3.tr (q3.mono (fun a ha => ⟨by omega, ha.2⟩))
    have q1 : Kee (fun a => a < x + 4 ∧ a ≠ x) (sR T1 x 0 (some (x + 1))) (sR T7 x 6 (some (x + 16))) := k2.tr (q2.mono (fun a ha => ⟨by omega, ha.2⟩))
    have nx : ∀ (S : Hp) (k : Nat) (v : Option Nat), Kee (fun a => a ≠ x) S (sR S x k v) := fun S k v => kee_R (fun w => w rfl)
    have now : StV (sR T7 x 6 (some (x + 16))) (x + 1) (x + 2) (x + 3) nwB := (StV.kp a4 (nx _ _ _) (by omega) (by omega) (by omega)).kp q1 ⟨by omega, by omega⟩ ⟨by omega, by omega⟩ ⟨by omega, by omega⟩
    have tri : StV (sR T7 x 6 (some (x + 16))) (x + 4) (x + 5) (x + 6) nwB := (StV.kp b4 (nx _ _ _) (by omega) (by omega) (by omega)).kp q2 ⟨by omega, by omega⟩ ⟨by omega, by omega⟩ ⟨by omega, by omega⟩
    have h7 : ok (sR T3 x 2 (some (x + 7))) (x + 7) 0 := c4.1
    have h8 : ok (sR T3 x 2 (some (x + 7))) (x + 8) 9 := c4.2.2.1
    have h7r : ∀ j, hR (sR T3 x 2 (some (x + 7))) (x + 7) j = hR T3 (x + 7) j := fun j => by rw [hR_sR, if_neg (fun w => by omega)]
    have h8r : ∀ j, hR (sR T3 x 2 (some (x + 7))) (x + 8) j = hR T3 (x + 8) j := fun j => by rw [hR_sR, if_neg (fun w => by omega)]
    have h9 : ok (sR (sNew (sR T3 x 2 (some (x + 7))) (x + 9) 9 2) x 3 (some (x + 9))) (x + 9) 9 := ⟨by simp [hL_sR, hL_sNew], by simp [hK_sR, hK_sNew]⟩
    have h9n : hN (sR (sNew (sR T3 x 2 (some (x + 7))) (x + 9) 9 2) x 3 (some (x + 9))) (x + 9) = 2 := by simp [hN_sR, hN_sNew]
    have h9r : ∀ j, hR (sR (sNew (sR T3 x 2 (some (x + 7))) (x + 9) 9 2) x 3 (some (x + 9))) (x + 9) j = none := fun j => by rw [hR_sR, if_neg (fun w => by omega), hR_sNew, if_pos rfl]
    have h10 : ok (sR T5 x 4 (some (x + 10))) (x + 10) 5 := e4.1
    have h11 : ok (sR T5 x 4 (some (x + 10))) (x + 11) 8 := e4.2.2.1
    have h10r : hR (sR T5 x 4 (some (x + 10))) (x + 10) 0 = some (x + 11) := by rw [hR_sR, if_neg (fun w => by omega)]; exact e4.2.1
    have par : PairIs (sR T7 x 6 (some (x + 16))) (x + 12) (x + 13) (x + 14) (x + 15) nwB := (PairIs.kp f4 (nx _ _ _) (by omega) (by omega) (by omega) (by omega)).kp q6 ⟨by omega, by omega⟩ ⟨by omega, by omega⟩ ⟨by omega, by omega⟩ ⟨by omega, by omega⟩
    have sol : SolV (sR T7 x 6 (some (x + 16))) (x + 16) (x + 17) (x + 18) (x + 19) (x + 20) 1 := SolV.kp g4 (nx _ _ _) (by omega) (by omega) (by omega) (by omega) (by omega)
    have w7 : (x + 7 < x + 9 ∧ x + 7 ≠ x) := ⟨by omega, by omega⟩
    have w8 : (x + 8 < x + 9 ∧ x + 8 ≠ x) := ⟨by omega, by omega⟩
    have w9 : (x + 9 < x + 10 ∧ x + 9 ≠ x) := ⟨by omega, by omega⟩
    have w10 : (x + 10 < x + 12 ∧ x + 10 ≠ x) := ⟨by omega, by omega⟩
    have w11 : (x + 11 < x + 12 ∧ x + 11 ≠ x) := ⟨by omega, by omega⟩
    refine ⟨⟨⟨o7, ?_, ?_, ?_, ?_, ?_, ?_, ?_⟩, tri.sh, ⟨q3.ok h7 w7, ?_, q3.ok h8 w8, ?_⟩, ⟨q4.ok h9 w9, ?_⟩, q5.ok h10 w10, ?_, q5.ok h11 w11, ?_⟩, now, ⟨?_, fun i hi => ?_⟩, fun i hi => ?_, ⟨?_, fun k hk => absurd hk (Nat.not_lt_zero k)⟩, ⟨⟨nwB, par, by decide⟩, sol⟩, fun a ha => ?_⟩
    · simp [r7, r6, r5, r4, r3, r2, r1]
    · simp [r7, r6, r5, r4, r3, r2, r1]
    · simp [r7, r6, r5, r4, r3, r2, r1]
    · simp [r7, r6, r5, r4, r3, r2, r1]
    · simp [r7, r6, r5, r4, r3, r2, r1]
    · simp [r7, r6, r5, r4, r3, r2, r1]
    · simp [r7, r6, r5, r4, r3, r2, r1]
    · rw [q3.R h7.1 w7, h7r]
      exact c4.2.1
    · rw [q3.N h8.1 w8]
      exact c4.2.2.2
    · rw [q4.N h9.1 w9]
      exact h9n
    · rw [q5.R h10.1 w10]
      exact h10r
    · rw [q5.N h11.1 w11]
      exact e4.2.2.2
    · rw [q3.I h7.1 w7]
      exact c5
    · refine ⟨⟨?_, fun t ht => by cases ht⟩, fun ih => absurd ih (Nat.not_lt_zero i)⟩
      show hR _ (x + 8) i = none
      rw [q3.R h8.1 w8, h8r]
      exact c6 i
    · refine ⟨⟨?_, fun t ht => by cases ht⟩, fun _ => rfl, fun B hB => by cases hB⟩
      show hR _ (x + 9) i = none
      rw [q4.R h9.1 w9]
      exact h9r i
    · rw [q5.I h10.1 w10]
      exact e5
    · rcases ha with w | ⟨k, hk, w⟩ | ⟨i, hi, w⟩
      · rw [w]
        exact o7.1
      · rw [w]
        obtain ⟨sc, sn, sM, se, sb, -, -, sp, -⟩ := sol
        have hk' : k = 0 ∨ k = 1 ∨ k = 2 ∨ k = 3 ∨ k = 4 ∨ k = 5 ∨ k = 6 ∨ k = 7 ∨ k = 8 ∨ k = 9 ∨ k = 10 ∨ k = 11 ∨ k = 12 ∨ k = 13 ∨ k = 14 ∨ k = 15 ∨ k = 16 ∨ k = 17 ∨ k = 18 ∨ k = 19 := by omega
        rcases hk' with rfl | rfl | rfl | rfl | rfl | rfl | rfl | rfl | rfl | rfl | rfl | rfl | rfl | rfl | rfl | rfl | rfl | rfl | rfl | rfl
        · exact now.1.1.1
        · exact now.2.1.1.1.1
        · exact now.2.1.1.2.2.1.1
        · exact tri.1.1.1
        · exact tri.2.1.1.1.1
        · exact tri.2.1.1.2.2.1.1
        · exact (q3.ok h7 w7).1
        · exact (q3.ok h8 w8).1
        · exact (q4.ok h9 w9).1
        · exact (q5.ok h10 w10).1
        · exact (q5.ok h11 w11).1
        · exact par.1.1.1.1
        · exact par.1.2.1.1.1.1
        · exact par.1.2.1.1.2.2.1.1
        · exact par.1.2.2.1.1.1
        · exact sp.1.1.1
        · exact sp.2.1.1.1.1
        · exact sp.2.1.1.2.2.1.1
        · exact sp.2.2.1.1.1
        · exact sp.2.2.2.1.1.1
      · exact absurd w (fun w => w)
end
