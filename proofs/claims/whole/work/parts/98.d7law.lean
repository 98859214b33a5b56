theorem i_rng {p c e : Int32} {a b : Nat} (hc : c = nI a) (he : e = nI b) (ha : a < 2 ^ 31) (hb : b < 2 ^ 31) (h1 : c ≤ p) (h2 : p ≤ e) : ∃ n, p = nI n ∧ a ≤ n ∧ n ≤ b := by
  subst hc he
  have h0 : (0 : Int32) ≤ nI a := (nI_le_iff (a := 0) (by decide) ha).mpr (Nat.zero_le _)
  obtain ⟨n, rfl, h⟩ := i_nat (Int32.le_trans h0 h1) h2 hb
  exact ⟨n, rfl, (nI_le_iff ha (by omega)).mp h1, h⟩
theorem i_lt {p : Int32} {n : Nat} (hn : n < 2 ^ 31) (h : 0 ≤ p ∧ p < nI n) : ∃ j, p = nI j ∧ j < n := by
  obtain ⟨j, rfl, hj⟩ := i_nat h.1 (Int32.le_of_lt h.2) hn
  exact ⟨j, rfl, (nI_lt_iff (by omega) hn).mp h.2⟩
/-- both pictures, side by side -/
def IB (S : Hp) (x mm o : Nat) (d : Nat → Nat) (q : Nat → Option (Nat × Nat × Nat)) (g : Nat → Nat) (A : Ab) (nb : Nat) : Prop := CX S x d q A nb ∧ CD x d q ∧ MX S mm g A ∧ WfA A ∧ (∀ a, PA x d q a → a ∉ MLx mm g) ∧ (ok S o 10 ∧ hN S o = 1) ∧ ¬ PA x d q o
/-- what holds at the start of a call when k calls are left -/
def II (k x mm o : Nat) (S : Hp) : Prop := ∃ d q g A nb, IB S x mm o d q g A nb ∧ nb + 100 * k ≤ 60000
/-- the class has made its step, the model not yet -/
def JB (T : Hp) (x mm o : Nat) (d : Nat → Nat) (q : Nat → Option (Nat × Nat × Nat)) (g : Nat → Nat) (A A' : Ab) (nb : Nat) : Prop := CX T x d q A' nb ∧ CD x d q ∧ MX T mm g A ∧ (∀ a, PA x d q a → a ∉ MLx mm g) ∧ (ok T o 10 ∧ hN T o = 1) ∧ ¬ PA x d q o
section
variable {S T V : Hp} {x mm o z k : Nat} {d g : Nat → Nat} {q q' : Nat → Option (Nat × Nat × Nat)} {A A' : Ab} {nb n2 N : Nat}
theorem mx_live (h : MX S mm g A) {a : Nat} (ha : a ∈ MLx mm g) : a ∈ hL S ∧ hK S a ≠ 10 := by
  simp only [MLx, MLs, List.mem_cons] at ha
  rcases ha with w | w | w
  · have r := (h.1.2.1 18 (by decide)).2.1
    rw [w]
    exact ⟨r.1, by rw [r.2]; decide⟩
  · rw [w]
    exact ⟨h.1.1.1, by rw [h.1.1.2]; decide⟩
  · obtain ⟨j, hj, e⟩ := List.mem_map.mp w
    have sub : ∀ j, j ∈ FT → j ∈ FS := by decide
    have r := (h.1.2.1 j (sub j hj)).2.1
    rw [← e]
    exact ⟨r.1, by rw [r.2]; decide⟩
theorem ib_cls (h : IB S x mm o d q g A nb) (c : CG S x d q q' A' n2 T) : JB T x mm o d q' g A A' n2 := by
  obtain ⟨h1, h2, h3, h4, h5, h6, h7⟩ := h
  obtain ⟨c1, c2, c3, c4, c5⟩ := c
  have np : ∀ a, a ∈ MLx mm g → ¬ PA x d q a := fun a ha w => h5 a w ha
  refine ⟨c5, c3, h3.kp c1 (np _ mlx_m) (fun i hi => np _ ?_), fun a ha w => ?_, ⟨c1.ok h6.1 h7, by rw [c1.N h6.1.1 h7]; exact h6.2⟩, fun w => ?_⟩
  · by_cases e : i = 18
    · rw [e]
      exact List.mem_cons_self
    · have : i ∈ FT := by
        simp only [FS, List.mem_cons, List.not_mem_nil, or_false] at hi
        simp only [FT, List.mem_cons, List.not_mem_nil, or_false]
        omega
      exact List.mem_cons_of_mem _ (mls_g this)
  · rcases c4 a ha with v | v
    · exact h5 a v w
    · exact v (mx_live h3 w).1
  · rcases c4 o w with v | v
    · exact h7 v
    · exact v h6.1.1
theorem ib_mod (h : JB T x mm o d q g A A' n2) (hw : WfA A') (k : Kee (fun a => a ∉ MLx mm g) T V) (up : ∀ a, a ∈ hL T → a ∈ hL V) (m : MX V mm g A') : IB V x mm o d q g A' n2 := by
  obtain ⟨h1, h2, h3, h4, h5, h6⟩ := h
  have oo : o ∉ MLx mm g := fun w => (mx_live h3 w).2 h5.1.2
  exact ⟨h1.kp k h4 up, h2, m, hw, h4, ⟨k.ok h5.1 oo, by rw [k.N h5.1.1 oo]; exact h5.2⟩, h6⟩
theorem mfr {W : Hp} (f : Fr (MLx mm g) T W) : Kee (fun a => a ∉ MLx mm g) T W ∧ ∀ a, a ∈ hL T → a ∈ hL W := ⟨f.kee (fun _ w => w), fun a ha => by rw [f.1]; exact ha⟩
/-- a good call, written down, then the model's -/
theorem lw_fin {b : Int32} {run : Hp → Option (Int32 × Hp)} (J : JB T x mm o d q g A A' n2) (hw : WfA A') (hn : n2 + 100 * k ≤ 60000) (m : ∀ S', MX S' mm g A → MRex S' mm g A' 0 b (run S')) {h : Option (Int32 × Hp)} (eh : h = some (0, sJ T o (0 : Int32).toNatClampNeg b.toInt64)) : LwH (II k) N x mm o h run := by
  have J2 : JB (sJ T o (0 : Int32).toNatClampNeg b.toInt64) x mm o d q g A A' n2 := J
  obtain ⟨V, v1, v2, v3, v4⟩ := m _ J2.2.2.1
  have mf := mfr v2
  have ib := ib_mod J2 hw mf.1 mf.2 v3
  refine ⟨0, _, b, V, V, eh, v1, ?_, J2.2.2.1.1.1, v3.1.1, fun _ => ⟨ib.2.2.2.2.2.1.1, inN ib.2.2.2.2.2.1.2 (show 0 < 1 by decide) (by decide), ?_⟩, d, q, g, A', n2, ib, hn⟩
  · unfold f_X7_thrown
    rw [gd_pos v3.1.1, v4]
  · rw [v2.2.2.2.2.1, hJ_sJ, if_pos ⟨rfl, rfl⟩]
theorem lw_goodA {b : Int32} {f : Option (Int32 × Hp × Nat)} {e : Option (String × Hp)} {E1 E2 : String} {run : Hp → Option (Int32 × Hp)} (ib : IB S x mm o d q g A nb) (c : CA S x d q A' n2 b f) (hw : WfA A') (hn : n2 + 100 * k ≤ 60000) (m : ∀ S', MX S' mm g A → MRex S' mm g A' 0 b (run S')) : LwH (II k) N x mm o (gd (ok S x 6) <| lA f e o E1 E2) run := by
  obtain ⟨T, z', q', e1, cg⟩ := c
  have J := ib_cls ib cg
  refine lw_fin J hw hn m ?_
  rw [gd_pos ib.1.1.1.1, e1]
  show gd (ok T o 10) (gd (inb (0 : Int32) (hN T o)) (some (0, sJ T o (0 : Int32).toNatClampNeg b.toInt64))) = _
  rw [gd_pos J.2.2.2.2.1.1, gd_pos (show inb (0 : Int32) (hN T o) from inN J.2.2.2.2.1.2 (show 0 < 1 by decide) (by decide))]
theorem lw_goodB {b : Int32} {f : Option (Int32 × Hp)} {e : Option (String × Hp)} {E1 E2 : String} {run : Hp → Option (Int32 × Hp)} (ib : IB S x mm o d q g A nb) (c : ∃ T, f = some (b, T) ∧ CN S x d q A' n2 T) (hw : WfA A') (hn : n2 + 100 * k ≤ 60000) (m : ∀ S', MX S' mm g A → MRex S' mm g A' 0 b (run S')) : LwH (II k) N x mm o (gd (ok S x 6) <| lB f e o E1 E2) run := by
  obtain ⟨T, e1, cn⟩ := c
  have J := ib_cls ib (cn.g ib.2.1)
  refine lw_fin J hw hn m ?_
  rw [gd_pos ib.1.1.1.1, e1]
  show gd (ok T o 10) (gd (inb (0 : Int32) (hN T o)) (some (0, sJ T o (0 : Int32).toNatClampNeg b.toInt64))) = _
  rw [gd_pos J.2.2.2.2.1.1, gd_pos (show inb (0 : Int32) (hN T o) from inN J.2.2.2.2.1.2 (show 0 < 1 by decide) (by decide))]
theorem lw_bad {c : Int32} (hc : c ≠ 0) {run : Hp → Option (Int32 × Hp)} (ib : IB S x mm o d q g A nb) (hn : nb + 100 * k ≤ 60000) (cn : CN S x d q A nb T) (m : ∀ S', MX S' mm g A → MRex S' mm g A c 0 (run S')) {h : Option (Int32 × Hp)} (eh : h = some (c, T)) : LwH (II k) N x mm o h run := by
  have J := ib_cls ib (cn.g ib.2.1)
  obtain ⟨V, v1, v2, v3, v4⟩ := m _ J.2.2.1
  have mf := mfr v2
  have ib2 := ib_mod J ib.2.2.2.1 mf.1 mf.2 v3
  refine ⟨c, _, 0, V, V, eh, v1, ?_, J.2.2.1.1.1, v3.1.1, fun w => absurd w hc, d, q, g, A, nb, ib2, hn⟩
  unfold f_X7_thrown
  rw [gd_pos v3.1.1, v4]
theorem lw_badA1 {f : Option (Int32 × Hp × Nat)} {e : Option (String × Hp)} {E1 E2 : String} {run : Hp → Option (Int32 × Hp)} (ib : IB S x mm o d q g A nb) (hn : nb + 100 * k ≤ 60000) (c : CB S x d q A nb E1 f e) (m : ∀ S', MX S' mm g A → MRes S' mm g A 1 0 (run S')) : LwH (II k) N x mm o (gd (ok S x 6) <| lA f e o E1 E2) run := by
  obtain ⟨e1, T, e2, cn⟩ := c
  refine lw_bad (c := 1) (by decide) ib hn cn (fun S' h => (m S' h).x) ?_
  rw [gd_pos ib.1.1.1.1, e1, e2]
  show (if E1 = E1 then some ((1 : Int32), T) else _) = _
  rw [if_pos rfl]
theorem lw_badA2 {f : Option (Int32 × Hp × Nat)} {e : Option (String × Hp)} {E1 E2 : String} {run : Hp → Option (Int32 × Hp)} (ne : E2 ≠ E1) (ib : IB S x mm o d q g A nb) (hn : nb + 100 * k ≤ 60000) (c : CB S x d q A nb E2 f e) (m : ∀ S', MX S' mm g A → MRes S' mm g A 2 0 (run S')) : LwH (II k) N x mm o (gd (ok S x 6) <| lA f e o E1 E2) run := by
  obtain ⟨e1, T, e2, cn⟩ := c
  refine lw_bad (c := 2) (by decide) ib hn cn (fun S' h => (m S' h).x) ?_
  rw [gd_pos ib.1.1.1.1, e1, e2]
  show (if E2 = E1 then some ((1 : Int32), T) else if E2 = E2 then some ((2 : Int32), T) else none) = _
  rw [if_neg ne, if_pos rfl]
theorem lw_badB1 {f : Option (Int32 × Hp)} {e : Option (String × Hp)} {E1 E2 : String} {run : Hp → Option (Int32 × Hp)} (ib : IB S x mm o d q g A nb) (hn : nb + 100 * k ≤ 60000) (c : CB S x d q A nb E1 f e) (m : ∀ S', MX S' mm g A → MRes S' mm g A 1 0 (run S')) : LwH (II k) N x mm o (gd (ok S x 6) <| lB f e o E1 E2) run := by
  obtain ⟨e1, T, e2, cn⟩ := c
  refine lw_bad (c := 1) (by decide) ib hn cn (fun S' h => (m S' h).x) ?_
  rw [gd_pos ib.1.1.1.1, e1, e2]
  show (if E1 = E1 then some ((1 : Int32), T) else _) = _
  rw [if_pos rfl]
theorem lw_badB2 {f : Option (Int32 × Hp)} {e : Option (String × Hp)} {E1 E2 : String} {run : Hp → Option (Int32 × Hp)} (ne : E2 ≠ E1) (ib : IB S x mm o d q g A nb) (hn : nb + 100 * k ≤ 60000) (c : CB S x d q A nb E2 f e) (m : ∀ S', MX S' mm g A → MRes S' mm g A 2 0 (run S')) : LwH (II k) N x mm o (gd (ok S x 6) <| lB f e o E1 E2) run := by
  obtain ⟨e1, T, e2, cn⟩ := c
  refine lw_bad (c := 2) (by decide) ib hn cn (fun S' h => (m S' h).x) ?_
  rw [gd_pos ib.1.1.1.1, e1, e2]
  show (if E2 = E1 then some ((1 : Int32), T) else if E2 = E2 then some ((2 : Int32), T) else none) = _
  rw [if_neg ne, if_pos rfl]
end
