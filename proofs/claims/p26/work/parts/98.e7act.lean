theorem ge_c (c : Int32) {n a : Nat} (hc : c = nI n) (ha : a < 2 ^ 31) (hn : n < 2 ^ 31) : c ≤ nI a ↔ n ≤ a := by subst hc; exact nI_le_iff hn ha
/-! an act of the law: the class and the law's arrays go on side by side -/
def GA (x zz li pa nb : Nat) (run : Option (Int32 × Hp × Nat)) : Prop := ∃ T z' d q A, run = some (1, T, z') ∧ KA T x zz li pa d q A nb ∧ LZ T zz li (aN A) (aH A)
def bmp (n : Nat) : Nat := if n = 6 then 6 else n + 1
theorem bmp_sv {A : Ab} : aH (svA A) = bmp (aH A) := aH_sv
/-- the law's count of saved states -/
theorem l_bump {α : Type} {S T : Hp} {zz hh : Nat} {f : Nat → Int32} {P : Option α → Prop} (F : Hp → Option α) (h : HZ S zz T f) (f10 : f 10 = nI hh) (h6 : hh ≤ 6) (k : ∀ T', HZ S zz T' (fun j => if j = 10 then nI (bmp hh) else f j) → P (F T')) : P (if (6 : Int32) ≤ hI T zz (10 : Int32).toNatClampNeg then F T else bd (sI T zz (10 : Int32).toNatClampNeg (hI T zz (10 : Int32).toNatClampNeg + (1 : Int32))) F) := by
  rw [tn10, h.2 10, f10]
  by_cases e : hh = 6
  · subst e
    rw [if_pos (show (6 : Int32) ≤ nI 6 by decide)]
    refine k T ⟨h.1, fun j => ?_⟩
    show hI T zz j = if j = 10 then nI (bmp 6) else f j
    by_cases j10 : j = 10
    · subst j10; rw [if_pos rfl]; exact (h.2 10).trans f10
    · rw [if_neg j10]; exact h.2 j
  · rw [if_neg (nle_c 6 (n := 6) rfl (show hh < 6 by omega) (by decide)), nI_p1]
    have : bmp hh = hh + 1 := if_neg e
    refine k _ ?_
    rw [this]
    exact h.put 10 _
theorem l_empty {N : Nat} {S T : Hp} {zz : Nat} {f : Nat → Int32} (h : HZ S zz T f) (hk : ok S zz 8) (hn : hN S zz = 11) (v : Int32) : ∃ U, f_L_empty N T zz v = some ((), U) ∧ HZ S zz U (fun j => if j = 6 then -1 else if j = 5 then -1 else if j = 4 then 0 else if j = 3 then 0 else if j = 1 then v else f j) := by
  refine ⟨_, ?_, ((((h.put 1 v).put 3 0).put 4 0).put 5 (-1)).put 6 (-1)⟩
  have o := h.1.ok hk
  have n := h.n hn
  unfold f_L_empty
  rw [gd_pos o, gd_pos (zq n (i := (1 : Int32)) (k := 1) rfl (by decide)), tn1, hN_sI, gd_pos (zq n (i := (3 : Int32)) (k := 3) rfl (by decide)), tn3, bd_d, hN_sI, hN_sI, gd_pos (zq n (i := (4 : Int32)) (k := 4) rfl (by decide)), tn4, bd_d, hN_sI, hN_sI, hN_sI, gd_pos (zq n (i := (5 : Int32)) (k := 5) rfl (by decide)), tn5, bd_d, hN_sI, hN_sI, hN_sI, hN_sI, gd_pos (zq n (i := (6 : Int32)) (k := 6) rfl (by decide)), tn6, bd_d]
section
variable {N : Nat} {S : Hp} {x zz li pa z : Nat} {d : Nat → Nat} {q : Nat → Option (Nat × Nat × Nat)} {A : Ab} {nb : Nat} {x1 x2 : Int32}
theorem ga_end {T U : Hp} {z' n2 : Nat} {q' : Nat → Option (Nat × Nat × Nat)} {A' : Ab} (h : KA T x zz li pa d q A nb) (c : CG T x d q q' A' n2 U) (hw : WfA A') (lz : LZ T zz li (aN A') (aH A')) (hn : n2 ≤ nb + 10) : GA x zz li pa (nb + 10) (some (1, U, z')) := by
  obtain ⟨a1, a2, -⟩ := h.cls c hw lz
  exact ⟨U, z', d, q', A', rfl, ⟨a1.1.mono hn, a1.2⟩, a2⟩
theorem hz_mo {E : List Nat} {S T : Hp} {z0 z : Nat} (f : Fr E S T) (hz : ∀ a, a ∈ hL S → a < z) : ∀ a, a ∈ hL T → a < z := fun a ha => hz a (by rw [← f.1]; exact ha)
/-- begin -/
theorem act_begin (hN : 2000 < N) (h : KA S x zz li pa d q A nb) (lz : LZ S zz li (aN A) (aH A)) (hz : ∀ a, a ∈ hL S → a < z) {o : Int32} : GA x zz li pa (nb + 10) (f_L_act_b25 N x x1 x2 zz li pa S z 0 o) := by
  obtain ⟨lb, z1, z5, z6, z7, z8, z9, z10⟩ := lz
  have hk := lb.1.1
  have hn := lb.1.2.1
  have hne := h.2.2.2.2.1.2.2
  obtain ⟨z0, z2, z3, z4, -⟩ := lb.2.1
  have hA6 := h.2.2.1.2.1.1
  obtain ⟨r, hr, e1⟩ := l_at (N := N) (S := S) x2 (n := 4) (by decide) (by decide)
  have t1 := ((HZ.rf (S := S) (a := zz)).put 0 (nI (2 + r))).put 2 0
  obtain ⟨U, u1, u2⟩ := l_empty (N := N) t1 hk hn 1
  have o0 := (HZ.rf (S := S) (a := zz)).put 0 (nI (2 + r))
  unfold f_L_act_b25
  rw [if_pos rfl, gd_pos hk, gd_pos (zq hn (i := (0 : Int32)) (k := 0) rfl (by decide)), bd_d, tn0, z0, show (4 : Int32) = nI 4 from rfl, e1, cl_s, gd_pos hk, gd_pos (zq hn (i := (0 : Int32)) (k := 0) rfl (by decide)), show (2 : Int32) + nI r = nI (2 + r) from nI_plus 2 r, bd_d, gd_pos (zq (o0.n hn) (i := (2 : Int32)) (k := 2) rfl (by decide)), tn2, bd_d, u1, cl_s, gd_pos (u2.1.ok hk), gd_pos (zq (u2.n hn) (i := (10 : Int32)) (k := 10) rfl (by decide))]
  refine l_bump (F := fun S37 => f_L_act_b73 N x x1 x2 zz li pa S37 z (nI (bc (aN A)))) u2 (hh := aH A) z10 hA6 (fun T t => ?_)
  have hT := h.fr t.1 (fun a ha => Or.inl (List.mem_singleton.mp ha))
  obtain ⟨V, z', q', v1, v2⟩ := x_begin (N := N) hT.1 hT.2.1 hT.2.2.1 (by omega) (hz_mo (z0 := 0) t.1 hz) (n := 2 + r) (by omega) (by omega)
  have lbT : LB T zz li (2 + r) 0 0 0 (bM (aN A)) := t.lb lb hne rfl rfl rfl rfl (by omega) (Nat.zero_le _) (by decide) (by decide)
  have lzT : LZ T zz li (begB (aN A) (2 + r)) (bmp (aH A)) := ⟨lbT, t.2 1, t.2 5, t.2 6, (t.2 7).trans z7, (t.2 8).trans z8, (t.2 9).trans z9, t.2 10⟩
  have T0 : hI T zz 0 = nI (2 + r) := t.2 0
  show GA x zz li pa (nb + 10) (f_L_act_b73 N x x1 x2 zz li pa T z (nI (bc (aN A))))
  unfold f_L_act_b73
  rw [gd_pos (t.1.ok hk), gd_pos (zq (t.n hn) (i := (0 : Int32)) (k := 0) rfl (by decide)), tn0, T0, gd_pos hT.ok6, v1, cz_s, if_pos rfl]
  refine ga_end hT v2 (nowA_wf (svA_wf h.2.2.1) (begB_wf (by omega) (by omega))) ?_ (by omega)
  rw [aN_now, aH_now, bmp_sv]
  exact lzT
/-- addLine -/
theorem act_add (hN : 2000 < N) (h : KA S x zz li pa d q A nb) (lz : LZ S zz li (aN A) (aH A)) (hz : ∀ a, a ∈ hL S → a < z) (n3 : bn (aN A) < 3) : GA x zz li pa (nb + 10) (f_L_act_b110 N x x1 x2 zz li pa S z) := by
  obtain ⟨lb, z1, z5, z6, z7, z8, z9, z10⟩ := lz
  have hk := lb.1.1
  have hn := lb.1.2.1
  have hl := lb.1.2.2.1
  have hm := lb.1.2.2.2
  have hne := h.2.2.2.2.1.2.2
  obtain ⟨z0, z2, z3, z4, zM⟩ := lb.2.1
  have hA6 := h.2.2.1.2.1.1
  have c5 := lb.2.2.1
  have c2 := h.2.2.1.1.1.1
  have p4 : 4 ≤ 2 ^ bc (aN A) := Nat.pow_le_pow_right (n := 2) (i := 2) (by decide) c2
  have p32 : 2 ^ bc (aN A) ≤ 32 := Nat.pow_le_pow_right (n := 2) (j := 5) (by decide) c5
  obtain ⟨r, hr, e1⟩ := l_at (N := N) (S := S) x2 (n := 2 ^ bc (aN A) - 1) (by omega) (by omega)
  have fl : Fr [li] S (sI S li (bn (aN A)) (nI (1 + r))) := Fr.rf.sI (by simp)
  have zi : hI (sI S li (bn (aN A)) (nI (1 + r))) zz = hI S zz := hI_a (fun w => hne w.symm)
  have t1 := (HZ.rf (S := sI S li (bn (aN A)) (nI (1 + r))) (a := zz)).put 2 (nI (bn (aN A) + 1))
  unfold f_L_act_b110
  rw [gd_pos hk, gd_pos (zq hn (i := (2 : Int32)) (k := 2) rfl (by decide)), gd_pos (zq hn (i := (0 : Int32)) (k := 0) rfl (by decide)), tn0, z0, nI_all (bc (aN A)) (by omega), e1, cl_s, gd_pos hl, tn2, z2, gd_pos (lq hm n3), nI_clamp (show bn (aN A) < 2 ^ 31 by omega), show (1 : Int32) + nI r = nI (1 + r) from nI_plus 1 r, bd_d, gd_pos (ok_sI hk), hN_sI, gd_pos (zq hn (i := (2 : Int32)) (k := 2) rfl (by decide)), zi, z2, nI_p1, bd_d, hN_sI, hN_sI, gd_pos (zq hn (i := (10 : Int32)) (k := 10) rfl (by decide))]
  refine l_bump (F := fun S58 => f_L_act_b153 N x x1 x2 zz li pa S58 z) t1 (hh := aH A) (by show hI (sI S li (bn (aN A)) (nI (1 + r))) zz 10 = nI (aH A); rw [zi]; exact z10) hA6 (fun T t => ?_)
  have fT : Fr [zz, li] S T := (fl.mono (fun a ha => by rw [List.mem_singleton.mp ha]; simp)).tr (t.1.mono (fun a ha => by rw [List.mem_singleton.mp ha]; simp))
  have hT := h.fr fT (fun a ha => by
    simp only [List.mem_cons, List.not_mem_nil, or_false] at ha
    rcases ha with w | w
    · exact Or.inl w
    · exact Or.inr (Or.inl w))
  obtain ⟨V, z', q', v1, v2⟩ := x_addLine (N := N) hT.1 hT.2.1 hT.2.2.1 (by omega) (hz_mo (z0 := 0) fT hz) (v := 1 + r) (by omega) (by omega) (by omega)
  have zT : ∀ j, ¬ j = 2 → ¬ j = 10 → hI T zz j = hI S zz j := fun j a b => by
    rw [t.2 j]
    dsimp only
    rw [if_neg b, if_neg a, zi]
  have T2 : hI T zz 2 = nI (bn (aN A) + 1) := t.2 2
  have liT : hI T li = hI (sI S li (bn (aN A)) (nI (1 + r))) li := t.1.I (fun w => hne (List.mem_singleton.mp w))
  have lM : ∀ j, j < bn (aN A) + 1 → hI T li j = nI (if j = bn (aN A) then 1 + r else bM (aN A) j) := fun j hj => by
    rw [liT]
    by_cases e : j = bn (aN A)
    · rw [if_pos e, e, hI_same]
    · rw [if_neg e, hI_k e]; exact zM j (by omega)
  have lbT : LB T zz li (bc (aN A)) (bn (aN A) + 1) (bk (aN A)) (bb (aN A)) (fun j => if j = bn (aN A) then 1 + r else bM (aN A) j) := by
    refine ⟨⟨fT.ok hk, by rw [fT.N]; exact hn, fT.ok hl, by rw [fT.N]; exact hm⟩, ⟨(zT 0 (by decide) (by decide)).trans z0, T2, (zT 3 (by decide) (by decide)).trans z3, (zT 4 (by decide) (by decide)).trans z4, lM⟩, c5, by omega, lb.2.2.2.2.1, lb.2.2.2.2.2.1, fun j hj => ?_⟩
    by_cases e : j = bn (aN A)
    · show (if j = bn (aN A) then 1 + r else bM (aN A) j) < 1024
      rw [if_pos e]; omega
    · show (if j = bn (aN A) then 1 + r else bM (aN A) j) < 1024
      rw [if_neg e]; exact lb.2.2.2.2.2.2 j (by omega)
  have lzT : LZ T zz li (addB (aN A) (1 + r)) (bmp (aH A)) := ⟨lbT, (zT 1 (by decide) (by decide)).trans z1, (zT 5 (by decide) (by decide)).trans z5, (zT 6 (by decide) (by decide)).trans z6, (zT 7 (by decide) (by decide)).trans z7, (zT 8 (by decide) (by decide)).trans z8, (zT 9 (by decide) (by decide)).trans z9, t.2 10⟩
  have wfB := addB_wf h.2.2.1.1 (v := 1 + r) (by omega) (by omega) (by omega)
  have g := (hT.cls v2 (nowA_wf (svA_wf h.2.2.1) wfB) lzT).2.1
  have V2 : hI V zz 2 = nI (bn (aN A) + 1) := g.1.2.1.2.1
  show GA x zz li pa (nb + 10) (f_L_act_b153 N x x1 x2 zz li pa T z)
  unfold f_L_act_b153
  have lI : hI T li (bn (aN A)) = nI (1 + r) := by rw [lM _ (Nat.lt_succ_self _), if_pos rfl]
  rw [gd_pos (fT.ok hk), gd_pos (zq (by rw [fT.N]; exact hn) (i := (2 : Int32)) (k := 2) rfl (by decide)), gd_pos (fT.ok hl), tn2, T2, nI_m1, gd_pos (lq (by rw [fT.N]; exact hm) n3), gd_pos hT.ok6, nI_clamp (show bn (aN A) < 2 ^ 31 by omega), lI, v1, cz_s, gd_pos g.1.1.1, gd_pos (zq g.1.1.2.1 (i := (2 : Int32)) (k := 2) rfl (by decide)), V2, nI_m1, if_pos rfl]
  refine ga_end hT v2 (nowA_wf (svA_wf h.2.2.1) wfB) ?_ (by omega)
  rw [aN_now, aH_now, bmp_sv]
  exact lzT
/-- removeLine: the law's lines move up -/
theorem act_rem_l {k n : Nat} {m : Nat → Int32} (S0 : Hp) (hk : ok S0 zz 8) (hn : hN S0 zz = 11) (hl : ok S0 li 8) (hm : hN S0 li = 3) (h2 : hI S0 zz 2 = nI (n - 1)) (hne : li ≠ zz) (hm0 : hI S0 li = m) (n3 : n ≤ 3) (n1 : 1 ≤ n) {v8 v9 : Int32} {P : Option (Int32 × Hp × Nat) → Prop} (fin : ∀ T, Fr [li] S0 T → (∀ j, hI T li j = if k ≤ j ∧ j < n - 1 then m (j + 1) else m j) → P (if (6 : Int32) ≤ hI T zz (10 : Int32).toNatClampNeg then f_L_act_b262 N x x1 x2 zz li pa T z v8 v9 else bd (sI T zz (10 : Int32).toNatClampNeg (hI T zz (10 : Int32).toNatClampNeg + (1 : Int32))) (fun S122 => f_L_act_b262 N x x1 x2 zz li pa S122 z v8 v9))) : ∀ D f i T, i + D = n - 1 → D < f → k ≤ i → Fr [li] S0 T → (∀ j, hI T li j = if k ≤ j ∧ j < i then m (j + 1) else m j) → P (f_L_act_l219 N x x1 x2 zz li pa f T z v8 v9 (nI i)) := by
  intro D
  induction D with
  | zero =>
    intro f i T hi hf hki fr hj
    obtain ⟨f, rfl⟩ : ∃ q, f = q + 1 := ⟨f - 1, by omega⟩
    obtain rfl : i = n - 1 := by omega
    have T2 : hI T zz 2 = nI (n - 1) := by rw [fr.I (fun w => hne (List.mem_singleton.mp w).symm)]; exact h2
    rw [f_L_act_l219, f_L_act_b219, gd_pos (fr.ok hk), gd_pos (zq (by rw [fr.N]; exact hn) (i := (2 : Int32)) (k := 2) rfl (by decide)), tn2, T2, if_pos (Int32.le_refl _), gd_pos (zq (by rw [fr.N]; exact hn) (i := (10 : Int32)) (k := 10) rfl (by decide))]
    exact fin T fr hj
  | succ D ih =>
    intro f i T hi hf hki fr hj
    obtain ⟨f, rfl⟩ : ∃ q, f = q + 1 := ⟨f - 1, by omega⟩
    have T2 : hI T zz 2 = nI (n - 1) := by rw [fr.I (fun w => hne (List.mem_singleton.mp w).symm)]; exact h2
    have mT : hN T li = 3 := by rw [fr.N]; exact hm
    have v : hI T li (i + 1) = m (i + 1) := by rw [hj, if_neg (by omega)]
    rw [f_L_act_l219, f_L_act_b219, gd_pos (fr.ok hk), gd_pos (zq (by rw [fr.N]; exact hn) (i := (2 : Int32)) (k := 2) rfl (by decide)), tn2, T2, if_neg (fun w => absurd ((nI_le_iff (by omega) (by omega)).mp w) (by omega)), gd_pos (fr.ok hl), nI_p1, gd_pos (lq mT (j := i + 1) (by omega)), gd_pos (lq mT (j := i) (by omega)), nI_clamp (show i < 2 ^ 31 by omega), nI_clamp (show i + 1 < 2 ^ 31 by omega), v, bd_d]
    refine ih f (i + 1) _ (by omega) (by omega) (by omega) (fr.sI (by simp)) (fun j => ?_)
    by_cases e : j = i
    · subst e
      rw [hI_same, if_pos ⟨by omega, by omega⟩]
    · rw [hI_k e, hj]
      by_cases e2 : k ≤ j ∧ j < i
      · rw [if_pos e2, if_pos ⟨e2.1, by omega⟩]
      · rw [if_neg e2, if_neg (by omega)]
theorem act_rem (hN : 2000 < N) (h : KA S x zz li pa d q A nb) (lz : LZ S zz li (aN A) (aH A)) (hz : ∀ a, a ∈ hL S → a < z) (n2 : 1 < bn (aN A)) {o : Int32} : GA x zz li pa (nb + 10) (f_L_act_b179 N x x1 x2 zz li pa S z 4 o) := by
  obtain ⟨lb, z1, z5, z6, z7, z8, z9, z10⟩ := lz
  have hk := lb.1.1
  have hn := lb.1.2.1
  have hl := lb.1.2.2.1
  have hm := lb.1.2.2.2
  have hne := h.2.2.2.2.1.2.2
  obtain ⟨z0, z2, z3, z4, zM⟩ := lb.2.1
  have hA6 := h.2.2.1.2.1.1
  have n3 := lb.2.2.2.1
  have c5 := lb.2.2.1
  obtain ⟨k, hkn, e1⟩ := l_at (N := N) (S := S) x2 (n := bn (aN A)) (by omega) (by omega)
  have t1 := (HZ.rf (S := S) (a := zz)).put 2 (nI (bn (aN A) - 1))
  have i2 : hI (sI S zz 2 (nI (bn (aN A) - 1))) li = hI S li := hI_a hne
  have m1 : nI (bn (aN A)) - (1 : Int32) = nI (bn (aN A) - 1) := nI_minus (b := 1) (by omega)
  unfold f_L_act_b179
  rw [if_pos rfl, gd_pos hk, gd_pos (zq hn (i := (2 : Int32)) (k := 2) rfl (by decide)), tn2, z2, if_neg (fun w => absurd ((le_c 1 (n := 1) rfl (by omega) (by decide)).mp w) (by omega)), e1, cl_s, gd_pos hl, gd_pos (lq hm (j := k) (by omega)), nI_clamp (show k < 2 ^ 31 by omega), zM k hkn, bd_d, gd_pos hk, gd_pos (zq hn (i := (2 : Int32)) (k := 2) rfl (by decide)), z2, m1, bd_d]
  refine act_rem_l (N := N) (P := GA x zz li pa (nb + 10)) (k := k) (n := bn (aN A)) (sI S zz 2 (nI (bn (aN A) - 1))) (ok_sI hk) (t1.n hn) (ok_sI hl) hm (t1.2 2) hne i2 n3 (by omega) (fun T0 f0 j0 => ?_) (bn (aN A) - 1 - k) N k _ (by omega) (by omega) (Nat.le_refl k) Fr.rf (fun j => by rw [i2, if_neg (by omega)])
  have zT0 : hI T0 zz = hI (sI S zz 2 (nI (bn (aN A) - 1))) zz := f0.I (fun w => hne (List.mem_singleton.mp w).symm)
  refine l_bump (F := fun S122 => f_L_act_b262 N x x1 x2 zz li pa S122 z (nI k) (nI (bM (aN A) k))) (HZ.rf (S := T0) (a := zz)) (hh := aH A) (by rw [zT0, hI_k (by decide)]; exact z10) hA6 (fun T t => ?_)
  have fT : Fr [zz, li] S T := ((t1.1.mono (fun a ha => by rw [List.mem_singleton.mp ha]; simp)).tr (f0.mono (fun a ha => by rw [List.mem_singleton.mp ha]; simp))).tr (t.1.mono (fun a ha => by rw [List.mem_singleton.mp ha]; simp))
  have hT := h.fr fT (fun a ha => by
    simp only [List.mem_cons, List.not_mem_nil, or_false] at ha
    rcases ha with w | w
    · exact Or.inl w
    · exact Or.inr (Or.inl w))
  obtain ⟨V, z', q', v1, v2⟩ := x_removeLine (N := N) hT.1 hT.2.1 hT.2.2.1 (by omega) (hz_mo (z0 := 0) fT hz) hkn
  have zT : ∀ j, ¬ j = 2 → ¬ j = 10 → hI T zz j = hI S zz j := fun j a b => by
    rw [t.2 j]
    dsimp only
    rw [if_neg b, zT0, hI_k a]
  have T2 : hI T zz 2 = nI (bn (aN A) - 1) := (t.2 2).trans (by
    show hI T0 zz 2 = _
    rw [zT0, hI_same])
  have liT : hI T li = hI T0 li := t.1.I (fun w => hne (List.mem_singleton.mp w))
  have lM : ∀ j, j < bn (aN A) - 1 → hI T li j = nI (if j < k then bM (aN A) j else bM (aN A) (j + 1)) := fun j hj => by
    rw [liT, j0]
    by_cases e : j < k
    · rw [if_neg (by omega), if_pos e]; exact zM j (by omega)
    · rw [if_pos ⟨by omega, hj⟩, if_neg e]; exact zM (j + 1) (by omega)
  have lbT : LB T zz li (bc (aN A)) (bn (aN A) - 1) (bk (aN A)) (bb (aN A)) (fun j => if j < k then bM (aN A) j else bM (aN A) (j + 1)) := by
    refine ⟨⟨fT.ok hk, by rw [fT.N]; exact hn, fT.ok hl, by rw [fT.N]; exact hm⟩, ⟨(zT 0 (by decide) (by decide)).trans z0, T2, (zT 3 (by decide) (by decide)).trans z3, (zT 4 (by decide) (by decide)).trans z4, lM⟩, c5, by omega, lb.2.2.2.2.1, lb.2.2.2.2.2.1, fun j hj => ?_⟩
    show (if j < k then bM (aN A) j else bM (aN A) (j + 1)) < 1024
    by_cases e : j < k
    · rw [if_pos e]; exact lb.2.2.2.2.2.2 j (by omega)
    · rw [if_neg e]; exact lb.2.2.2.2.2.2 (j + 1) (by omega)
  have lzT : LZ T zz li (remB (aN A) k) (bmp (aH A)) := ⟨lbT, (zT 1 (by decide) (by decide)).trans z1, (zT 5 (by decide) (by decide)).trans z5, (zT 6 (by decide) (by decide)).trans z6, (zT 7 (by decide) (by decide)).trans z7, (zT 8 (by decide) (by decide)).trans z8, (zT 9 (by decide) (by decide)).trans z9, t.2 10⟩
  show GA x zz li pa (nb + 10) (f_L_act_b262 N x x1 x2 zz li pa T z (nI k) (nI (bM (aN A) k)))
  unfold f_L_act_b262
  rw [gd_pos hT.ok6, v1, cz_s, if_pos rfl]
  refine ga_end hT v2 (nowA_wf (svA_wf h.2.2.1) (remB_wf h.2.2.1.1 hkn)) ?_ (by omega)
  rw [aN_now, aH_now, bmp_sv]
  exact lzT
end
