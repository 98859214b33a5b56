theorem mres_tr {S T : Hp} {m : Nat} {g : Nat → Nat} {A A' : Ab} {c b : Int32} {run : Option (Int32 × Hp)} (h : MStep S m g A T) (k : MRes T m g A' c b run) : MRes S m g A' c b run := by
  obtain ⟨U, u1, u2, u3⟩ := k
  exact ⟨U, u1, h.1.tr u2, u3⟩
section
variable {N : Nat} {S : Hp} {m : Nat} {g : Nat → Nat} {A : Ab}
theorem m_rd0 (h : MX S m g A) (hw : WfA A) (hB : Big N) : ∃ U, MStep S m g A U ∧ f_X7_read N S m = f_X7_read_b28 N m U (if cmT (bc (aN A)) (aT A) (aL A) then 1 else 0) ∧ (cmT (bc (aN A)) (aT A) (aL A) → TX U m g (aT A) (aL A)) := by
  have h60 := hw.2.2.2.1
  obtain ⟨U, u1, u2, u3⟩ := m_rut (N := N) h hw hB
  have h16 := u2.2.1.1.2.1 16 (by decide)
  have n5 : hN U (g 16) = 32 := h16.2.2
  refine ⟨U, u2, ?_, fun q => u3 q.1⟩
  have le : erT (bc (aN A)) (aT A) (aL A) ≤ aL A := fa_first_le _ _
  unfold f_X7_read
  rw [gd_pos h.1.1, u1, cl_s, gd_pos u2.2.1.1.1, u2.2.1.2.1.2]
  by_cases q : erT (bc (aN A)) (aT A) (aL A) = aL A
  · have hv := rg_inv hw.1.c10 (er_rg q)
    have fl := fT_lt hw.1.c10 hv (pT (aT A) (aL A))
    have e := hv.2.2.2
    have tx := u3 q
    rw [if_pos (by rw [q]), h16.1, nn_s, gd_pos h16.2.1, tx.1, gd_pos (inN n5 (show pT (aT A) (aL A) < 32 by omega) (by decide)), nI_clamp (by omega), tx.2 _ (Nat.le_refl _)]
    by_cases d : dT (aT A) (aL A) = 0
    · rw [if_pos ((nI_le0 (by omega)).mpr ((rg_0 hv).mpr d)), if_neg (fun w => w.2 d)]
      rfl
    · rw [if_neg (fun w => d ((rg_0 hv).mp ((nI_le0 (by omega)).mp w))), if_pos ⟨q, d⟩]
  · rw [if_neg (fun w => q ((nI_eq_iff (by omega) (by omega)).mp w)), if_neg (fun w => q w.1)]
    rfl
theorem m_read_bad1 (h : MX S m g A) (hw : WfA A) (hB : Big N) (hc : ¬ cmT (bc (aN A)) (aT A) (aL A)) : MRes S m g A 1 0 (f_X7_read N S m) := by
  obtain ⟨U, u1, u2, u3⟩ := m_rd0 (N := N) h hw hB
  rw [u2, if_neg hc]
  refine mres_tr u1 ?_
  unfold f_X7_read_b28
  rw [if_pos rfl, f_X7_read_b61, thr_no u1.2.1.1.1 (by decide)]
  exact mres_bad u1.2.1 1
theorem m_rd28 (h : MX S m g A) (hw : WfA A) {T : Nat → Nat} {L : Nat} (ht : TX S m g T L) (hL0 : pT T L < 100) : f_X7_read_b28 N m S 1 = if bn (aN A) + (pT T L + 1) ≤ 12 then f_X7_read_b61 N m S 0 m else f_X7_read_b61 N m S 2 m := by
  have hn := hw.1.1.2.2.1
  obtain ⟨⟨b1, b2, b3, b4⟩, z⟩ := h.zm
  unfold f_X7_read_b28
  rw [if_neg (by decide), gd_pos b1, b2, nn_s, gd_pos b3, gd_pos (zin b4 (i := (2 : Int32)) (k := 2) rfl (by decide)), tn2, z.1.2.2.1, ht.1, nI_plus, nI_p1]
  by_cases q : bn (aN A) + (pT T L + 1) ≤ 12
  · rw [if_pos ((le_c 12 rfl (by omega) (by decide)).mpr (by omega)), if_pos q]
  · rw [if_neg (fun w => q (by have := (le_c 12 rfl (by omega) (by decide)).mp w; omega)), if_neg q]
theorem m_read_bad2 (h : MX S m g A) (hw : WfA A) (hB : Big N) (hc : cmT (bc (aN A)) (aT A) (aL A)) (hn : ¬ bn (aN A) + (pT (aT A) (aL A) + 1) ≤ 12) : MRes S m g A 2 0 (f_X7_read N S m) := by
  obtain ⟨U, u1, u2, u3⟩ := m_rd0 (N := N) h hw hB
  have h60 := hw.2.2.2.1
  have hv := (rg_inv hw.1.c10 (er_rg hc.1)).2.2.2
  rw [u2, if_pos hc]
  refine mres_tr u1 ?_
  rw [m_rd28 u1.2.1 hw (u3 hc) (by omega), if_neg hn, f_X7_read_b61, thr_no u1.2.1.1.1 (by decide)]
  exact mres_bad u1.2.1 2
theorem m_rd_l (h : MSh S m g) {n p : Nat} {F : Nat → Nat} (hp : n + (p + 1) ≤ 12) (h17 : hI S m 17 = nI p) (h16 : ∀ j, j ≤ p → hI S (g 16) j = nI (F j)) : ∀ d k v T, Fr [g 0] S T → hI T (g 0) 2 = nI (n + v) → (∀ j, j < v → hI T (g 0) (10 + (n + j)) = nI (F j)) → (∀ r, r ≠ 2 → r < 10 + n → hI T (g 0) r = hI S (g 0) r) → v + d = p + 1 → d < k → ∃ U, f_X7_read_l84 N m k T (nI v) = some (nI (n + (p + 1)), U) ∧ Fr [g 0] S U ∧ hI U (g 0) 2 = nI (n + (p + 1)) ∧ (∀ j, j < p + 1 → hI U (g 0) (10 + (n + j)) = nI (F j)) ∧ (∀ r, r ≠ 2 → r < 10 + n → hI U (g 0) r = hI S (g 0) r) := by
  have hm := h.1
  have hz := h.2.1 0 (by decide)
  have h6 := h.2.1 16 (by decide)
  have nm : m ∉ [g 0] := h.outm (l := [0]) (by decide)
  have n6 : g 16 ∉ [g 0] := h.out (l := [0]) (by decide) (by decide)
  intro d
  induction d with
  | zero =>
    intro k v T f a1 a2 a3 hv hk
    obtain ⟨k, rfl⟩ : ∃ u, k = u + 1 := ⟨k - 1, by omega⟩
    obtain rfl : v = p + 1 := by omega
    have n4 : hN T (g 0) = 22 := by rw [f.N]; exact hz.2.2
    unfold f_X7_read_l84 f_X7_read_b84
    rw [gd_pos (f.ok hm), f.I nm, h17, if_pos ((nI_lt_iff (by omega) (by omega)).mpr (by omega)), f.R, hz.1, nn_s, gd_pos (f.ok hz.2.1), gd_pos (zin n4 (i := (2 : Int32)) (k := 2) rfl (by decide)), tn2, a1]
    exact ⟨T, rfl, f, a1, a2, a3⟩
  | succ d ih =>
    intro k v T f a1 a2 a3 hv hk
    obtain ⟨k, rfl⟩ : ∃ u, k = u + 1 := ⟨k - 1, by omega⟩
    have n4 : hN T (g 0) = 22 := by rw [f.N]; exact hz.2.2
    have n5 : hN T (g 16) = 32 := by rw [f.N]; exact h6.2.2
    unfold f_X7_read_l84 f_X7_read_b84
    rw [gd_pos (f.ok hm), f.I nm, h17, if_neg (fun q => absurd ((nI_lt_iff (by omega) (by omega)).mp q) (by omega)), f.R, hz.1, nn_s, gd_pos (f.ok hz.2.1), gd_pos (zin n4 (i := (2 : Int32)) (k := 2) rfl (by decide)), h6.1, nn_s, gd_pos (f.ok h6.2.1), gd_pos (inN n5 (show v < 32 by omega) (by decide)), tn2, a1, gd_pos (zin n4 (k := 10 + (n + v)) (nI_10 _) (by omega)), bd_d, bd_d, ix10 (by omega), nI_clamp (by omega), f.I n6, h16 v (by omega), hI_k (by omega), a1, nI_p1, nI_p1]
    refine ih k (v + 1) _ (fr_s1 (fr_s1 f)) ?_ (fun j hj => ?_) (fun r h2 hr => ?_) (by omega) (by omega)
    · rw [hI_same]
      rfl
    · rw [hI_k (by omega)]
      by_cases e : j = v
      · rw [e, hI_same]
      · rw [hI_k (by omega)]
        exact a2 j (by omega)
    · rw [hI_k h2, hI_k (by omega)]
      exact a3 r h2 hr
theorem m_read (h : MX S m g A) (hw : WfA A) (hB : Big N) (hc : cmT (bc (aN A)) (aT A) (aL A)) (hn : bn (aN A) + (pT (aT A) (aL A) + 1) ≤ 12) : MRes S m g (clbA (nowA (svA A) (rdB (aN A) (aT A) (aL A)))) 0 (nI (bn (aN A) + (pT (aT A) (aL A) + 1))) (f_X7_read N S m) := by
  obtain ⟨U, u1, u2, u3⟩ := m_rd0 (N := N) h hw hB
  have h60 := hw.2.2.2.1
  have hv := (rg_inv hw.1.c10 (er_rg hc.1)).2.2.2
  have tx := u3 hc
  have hu := u1.2.1
  have n0m := hu.1.m (i := 0) (by decide)
  have n16m := hu.1.m (i := 16) (by decide)
  have n16 : g 16 ≠ g 2 := hu.1.2.2 16 2 (by decide) (by decide) (by decide)
  have n62 : g 6 ≠ g 2 := hu.1.2.2 6 2 (by decide) (by decide) (by decide)
  rw [u2, if_pos hc]
  refine mres_tr u1 ?_
  rw [m_rd28 hu hw tx (by omega), if_pos hn, f_X7_read_b61, thr_go hu.1.1]
  refine mres_of ?_
  obtain ⟨V, v1, v2, v3, v4⟩ := m_save2 (N := N) (hu.t7 0) hw hB
  have hV := v2.2.1
  have hm := hV.1.1
  have c5 : clbA (svA A) = (aN A, svH A, aS A, (0, aT A)) := rfl
  -- the text cleared
  have f1 : Fr [m] V (sI V m 5 0) := fr_s1 Fr.rf
  have hm5 : ∀ i, i ∈ FS → hI (sI V m 5 0) (g i) = hI V (g i) := fun i hi => hI_a (hV.1.m hi).symm
  have hW : MX (sI V m 5 0) m g (clbA (svA A)) := by
    obtain ⟨a1, ⟨a2, a2'⟩, a3, a4, a5, a6, a7⟩ := hV
    refine MX.of v2.2.1 f1 (hI_k (by decide)) (hI_k (by decide)) (fun i hi => ?_) ?_ ?_ ?_ ?_ ?_ ?_
    · have hi' : i ∈ FS := by
        simp only [List.mem_cons, List.not_mem_nil, or_false] at hi
        rcases hi with rfl | rfl | rfl <;> decide
      simp only [List.mem_cons, List.not_mem_nil, or_false]
      exact fun e => a1.m hi' e.symm
    · rw [hI_k (by decide)]; exact a2
    · exact hI_same _ _ _ _
    · unfold Zr
      rw [hm5 0 (by decide)]
      exact a3
    · intro j hj
      simp only [hm5 2 (by decide)]
      exact a4 j hj
    · intro i hi
      simp only [hm5 3 (by decide), hm5 4 (by decide)]
      exact a5 i hi
    · intro k hk
      exact absurd hk (Nat.not_lt_zero k)
  have h17 : hI (sI V m 5 0) m 17 = nI (pT (aT A) (aL A)) := by rw [hI_k (by decide), v4 17 (by decide), hI_k (by decide)]; exact tx.1
  have h16 : ∀ j, j ≤ pT (aT A) (aL A) → hI (sI V m 5 0) (g 16) j = nI (fT (aT A) (aL A) j) := by
    intro j hj
    rw [hm5 16 (by decide), v3.I (by simp only [List.mem_cons, List.not_mem_nil, or_false, not_or]; exact ⟨n16m.symm, n16⟩), hI_a n16m.symm]
    exact tx.2 j hj
  obtain ⟨⟨z0, z1, z2, z3, z4', z5, z6, z7, z8, z9⟩, zM⟩ := hW.2.2.1
  obtain ⟨X, x1, x2, x3, x4, x5⟩ := m_rd_l (N := N) hW.1 (n := bn (aN A)) (p := pT (aT A) (aL A)) (F := fT (aT A) (aL A)) hn h17 h16 (pT (aT A) (aL A) + 1) N 0 _ Fr.rf (by rw [z2]; rfl) (fun j hj => absurd hj (Nat.not_lt_zero j)) (fun _ _ _ => rfl) (by omega) (by have := hB.1; omega)
  rw [v1, cl_s, gd_pos hm]
  have st := m_zw (B := rdB (aN A) (aT A) (aL A)) hW (x2.mono z4) ⟨⟨by rw [x5 0 (by decide) (by omega)]; exact z0, by rw [x5 1 (by decide) (by omega)]; exact z1, x3, by rw [x5 3 (by decide) (by omega)]; exact z3, by rw [x5 4 (by decide) (by omega)]; exact z4', by rw [x5 5 (by decide) (by omega)]; exact z5, by rw [x5 6 (by decide) (by omega)]; exact z6, by rw [x5 7 (by decide) (by omega)]; exact z7, by rw [x5 8 (by decide) (by omega)]; exact z8, by rw [x5 9 (by decide) (by omega)]; exact z9⟩, fun j hj => ?_⟩
  · refine ⟨X, x1, v2.1.tr ((f1.mono (fun a ha => by rw [List.mem_singleton.mp ha]; exact mls_m)).tr st.1), st.2.1, st.2.2.trans ((hI_k (by decide)).trans v2.2.2)⟩
  · have hj' : j < bn (aN A) + (pT (aT A) (aL A) + 1) := hj
    show hI X (g 0) (10 + j) = nI (if j < bn (aN A) then bM (aN A) j else fT (aT A) (aL A) (j - bn (aN A)))
    by_cases e : j < bn (aN A)
    · rw [if_pos e, x5 (10 + j) (by omega) (by omega)]
      exact zM j e
    · rw [if_neg e]
      have := x4 (j - bn (aN A)) (by omega)
      rw [show bn (aN A) + (j - bn (aN A)) = j by omega] at this
      exact this
end
