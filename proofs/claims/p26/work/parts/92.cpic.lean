/-! the class's picture: d gives its things by number: 0 now, 1 its lines, 2 their masks; 3 4 5 the trial; 6 the history, 7 its states; 8 the snapshots; 9 the text, 10 its codes; 11 the pairing, 12 13 its lines, 14 its pairs; 15 the solver, 16 17 its lines, 18 what it knows, 19 its powers; q gives the states of the history (0 to 5) and of the snapshots (6, 7) -/
def inS : Option (Nat × Nat × Nat) → Nat → Prop
  | none, _ => False
  | some p, a => a = p.1 ∨ a = p.2.1 ∨ a = p.2.2
def PA (x : Nat) (d : Nat → Nat) (q : Nat → Option (Nat × Nat × Nat)) (a : Nat) : Prop := a = x ∨ (∃ k, k < 20 ∧ a = d k) ∨ ∃ i, i < 8 ∧ inS (q i) a
def CD (x : Nat) (d : Nat → Nat) (q : Nat → Option (Nat × Nat × Nat)) : Prop := (∀ i j, i < 20 → j < 20 → i ≠ j → d i ≠ d j) ∧ (∀ i, i < 20 → x ≠ d i) ∧ (∀ i, i < 8 → ∀ a, inS (q i) a → x ≠ a ∧ ∀ k, k < 20 → d k ≠ a) ∧ ∀ i j, i < 8 → j < 8 → i ≠ j → ∀ a, inS (q i) a → ¬ inS (q j) a
def Pl (S : Hp) (r i : Nat) (p : Option (Nat × Nat × Nat)) : Prop := hR S r i = p.map (fun t => t.1) ∧ ∀ t, p = some t → StS S t.1 t.2.1 t.2.2
def CHi (S : Hp) (d : Nat → Nat) (q : Nat → Option (Nat × Nat × Nat)) (A : Ab) : Prop := ∀ i, i < 6 → Pl S (d 7) i (q i) ∧ (i < aH A → ∃ t, q i = some t ∧ StV S t.1 t.2.1 t.2.2 (aHs A i))
def CSn (S : Hp) (d : Nat → Nat) (q : Nat → Option (Nat × Nat × Nat)) (A : Ab) : Prop := ∀ i, i < 2 → Pl S (d 8) i (q (6 + i)) ∧ (aS A i = none → q (6 + i) = none) ∧ ∀ B, aS A i = some B → ∃ t o1 o2 o3, q (6 + i) = some t ∧ StV S t.1 t.2.1 t.2.2 (cntB B o1 o2 o3)
def CSh (S : Hp) (x : Nat) (d : Nat → Nat) : Prop := (ok S x 6 ∧ hR S x 0 = some (d 0) ∧ hR S x 1 = some (d 3) ∧ hR S x 2 = some (d 6) ∧ hR S x 3 = some (d 8) ∧ hR S x 4 = some (d 9) ∧ hR S x 5 = some (d 11) ∧ hR S x 6 = some (d 15)) ∧ StS S (d 3) (d 4) (d 5) ∧ (ok S (d 6) 0 ∧ hR S (d 6) 0 = some (d 7) ∧ ok S (d 7) 9 ∧ hN S (d 7) = 6) ∧ (ok S (d 8) 9 ∧ hN S (d 8) = 2) ∧ (ok S (d 9) 5 ∧ hR S (d 9) 0 = some (d 10) ∧ ok S (d 10) 8 ∧ hN S (d 10) = 60)
def PrO (S : Hp) (d : Nat → Nat) : Prop := ∃ B0, PairIs S (d 11) (d 12) (d 13) (d 14) B0 ∧ bk B0 < 1024
def SoO (S : Hp) (d : Nat → Nat) (nb : Nat) : Prop := SolV S (d 15) (d 16) (d 17) (d 18) (d 19) nb
def TxO (S : Hp) (d : Nat → Nat) (A : Ab) : Prop := hI S (d 9) 1 = nI (aL A) ∧ ∀ k, k < aL A → hI S (d 10) k = nI (aT A k)
def CX (S : Hp) (x : Nat) (d : Nat → Nat) (q : Nat → Option (Nat × Nat × Nat)) (A : Ab) (nb : Nat) : Prop :=
  CSh S x d ∧ StV S (d 0) (d 1) (d 2) (aN A) ∧ (hI S (d 6) 1 = nI (aH A) ∧ CHi S d q A) ∧ CSn S d q A ∧ TxO S d A ∧ (PrO S d ∧ SoO S d nb) ∧ ∀ a, PA x d q a → a ∈ hL S
theorem Pl.fr {E : List Nat} {S T : Hp} {r i : Nat} {p : Option (Nat × Nat × Nat)} (h : Pl S r i p) (f : Fr E S T) : Pl T r i p := ⟨by rw [f.R]; exact h.1, fun t ht => (h.2 t ht).fr f⟩
theorem CSh.fr {E : List Nat} {S T : Hp} {x : Nat} {d : Nat → Nat} (h : CSh S x d) (f : Fr E S T) : CSh T x d := by
  obtain ⟨⟨a1, a2⟩, b, ⟨c1, c2, c3, c4⟩, ⟨e1, e2⟩, g1, g2, g3, g4⟩ := h
  refine ⟨⟨f.ok a1, by rw [f.R]; exact a2⟩, b.fr f, ⟨f.ok c1, by rw [f.R]; exact c2, f.ok c3, by rw [f.N]; exact c4⟩, ⟨f.ok e1, by rw [f.N]; exact e2⟩, f.ok g1, by rw [f.R]; exact g2, f.ok g3, by rw [f.N]; exact g4⟩
section
variable {S T : Hp} {x : Nat} {d : Nat → Nat} {q : Nat → Option (Nat × Nat × Nat)} {A : Ab} {nb : Nat}
theorem CD.out (hd : CD x d q) {k : Nat} {l : List Nat} (hk : k < 20) (hl : ∀ j, j ∈ l → j < 20 ∧ k ≠ j) : d k ∉ l.map d := by
  intro w
  obtain ⟨j, hj, e⟩ := List.mem_map.mp w
  exact hd.1 k j hk (hl j hj).1 (hl j hj).2 e.symm
theorem CD.outs (hd : CD x d q) {i a : Nat} {l : List Nat} (hi : i < 8) (ha : inS (q i) a) (hl : ∀ j, j ∈ l → j < 20) : a ∉ l.map d := by
  intro w
  obtain ⟨j, hj, e⟩ := List.mem_map.mp w
  exact (hd.2.2.1 i hi a ha).2 j (hl j hj) e
theorem in1S {p : Option (Nat × Nat × Nat)} {t : Nat × Nat × Nat} (h : p = some t) : inS p t.1 := by rw [h]; exact Or.inl rfl
theorem in2S {p : Option (Nat × Nat × Nat)} {t : Nat × Nat × Nat} (h : p = some t) : inS p t.2.1 := by rw [h]; exact Or.inr (Or.inl rfl)
theorem in3S {p : Option (Nat × Nat × Nat)} {t : Nat × Nat × Nat} (h : p = some t) : inS p t.2.2 := by rw [h]; exact Or.inr (Or.inr rfl)
/-- a stretch of the class's run on the same things -/
def CN (S : Hp) (x : Nat) (d : Nat → Nat) (q : Nat → Option (Nat × Nat × Nat)) (A : Ab) (nb : Nat) (T : Hp) : Prop := Kee (fun a => ¬ PA x d q a) S T ∧ hL T = hL S ∧ CX T x d q A nb
theorem CN.rf (h : CX S x d q A nb) : CN S x d q A nb S := ⟨Kee.rf, rfl, h⟩
theorem CN.tr {U : Hp} {A1 A2 : Ab} {n1 n2 : Nat} (h : CN S x d q A1 n1 T) (k : CN T x d q A2 n2 U) : CN S x d q A2 n2 U := ⟨h.1.tr k.1, k.2.1.trans h.2.1, k.2.2⟩
theorem SolV.mono {S : Hp} {so Ls as_ kn pw n1 n2 : Nat} (h : SolV S so Ls as_ kn pw n1) (g : n1 ≤ n2) : SolV S so Ls as_ kn pw n2 := by
  obtain ⟨c, n, M, e, b, hb, r⟩ := h
  exact ⟨c, n, M, e, b, Nat.le_trans hb g, r⟩
theorem CX.mono {n2 : Nat} (h : CX S x d q A nb) (g : nb ≤ n2) : CX S x d q A n2 := ⟨h.1, h.2.1, h.2.2.1, h.2.2.2.1, h.2.2.2.2.1, ⟨h.2.2.2.2.2.1.1, h.2.2.2.2.2.1.2.mono g⟩, h.2.2.2.2.2.2⟩
theorem CN.mono {n2 : Nat} (h : CN S x d q A nb T) (g : nb ≤ n2) : CN S x d q A n2 T := ⟨h.1, h.2.1, h.2.2.mono g⟩
theorem fr_kee {l : List Nat} (f : Fr (l.map d) S T) (hl : ∀ k, k ∈ l → k < 20) : Kee (fun a => ¬ PA x d q a) S T := by
  refine f.kee (fun a ha w => ?_)
  obtain ⟨j, hj, e⟩ := List.mem_map.mp w
  exact ha (Or.inr (Or.inl ⟨j, hl j hj, e.symm⟩))
theorem CX.st {B : Bd} {n2 : Nat} (l : List Nat) (h : CX S x d q A nb) (hd : CD x d q) (f : Fr (l.map d) S T) (hl : ∀ k, k ∈ l → k < 20 ∧ (k < 6 ∨ 10 < k)) (h1 : StV T (d 0) (d 1) (d 2) B) (h2 : PrO T d) (h3 : SoO T d n2) : CN S x d q (nowA A B) n2 T := by
  obtain ⟨a1, a2, ⟨a3, a3'⟩, a4, ⟨a5, a5'⟩, a6, a7⟩ := h
  have hl' : ∀ k, k ∈ l → k < 20 := fun k hk => (hl k hk).1
  have o : ∀ k, 6 ≤ k → k ≤ 10 → d k ∉ l.map d := fun k k1 k2 => hd.out (by omega) (fun j hj => ⟨hl' j hj, by have := hl j hj; omega⟩)
  refine ⟨fr_kee f hl', f.1, a1.fr f, h1, ⟨by rw [f.I (o 6 (by decide) (by decide))]; exact a3, fun i hi => ?_⟩, fun i hi => ?_, ⟨by rw [f.I (o 9 (by decide) (by decide))]; exact a5, fun k hk => by rw [f.I (o 10 (by decide) (by decide))]; exact a5' k hk⟩, ⟨h2, h3⟩, fun a ha => by rw [f.1]; exact a7 a ha⟩
  · obtain ⟨b1, b2⟩ := a3' i hi
    refine ⟨b1.fr f, fun ih => ?_⟩
    obtain ⟨t, t1, t2⟩ := b2 ih
    exact ⟨t, t1, t2.fr f (hd.outs (i := i) (by omega) (in1S t1) hl') (hd.outs (i := i) (by omega) (in2S t1) hl') (hd.outs (i := i) (by omega) (in3S t1) hl')⟩
  · obtain ⟨b1, b2, b3⟩ := a4 i hi
    refine ⟨b1.fr f, b2, fun B' hB' => ?_⟩
    obtain ⟨t, o1, o2, o3, t1, t2⟩ := b3 B' hB'
    exact ⟨t, o1, o2, o3, t1, t2.fr f (hd.outs (i := 6 + i) (by omega) (in1S t1) hl') (hd.outs (i := 6 + i) (by omega) (in2S t1) hl') (hd.outs (i := 6 + i) (by omega) (in3S t1) hl')⟩
theorem PrO.fr {l : List Nat} (h : PrO S d) (hd : CD x d q) (f : Fr (l.map d) S T) (hl : ∀ k, k ∈ l → k < 20 ∧ (k < 11 ∨ 14 < k)) : PrO T d := by
  obtain ⟨B0, h1, h2⟩ := h
  have o : ∀ k, 11 ≤ k → k ≤ 14 → d k ∉ l.map d := fun k k1 k2 => hd.out (by omega) (fun j hj => ⟨(hl j hj).1, by have := hl j hj; omega⟩)
  exact ⟨B0, h1.fr f (o 11 (by decide) (by decide)) (o 12 (by decide) (by decide)) (o 13 (by decide) (by decide)) (o 14 (by decide) (by decide)), h2⟩
theorem SoO.fr {l : List Nat} (h : SoO S d nb) (hd : CD x d q) (f : Fr (l.map d) S T) (hl : ∀ k, k ∈ l → k < 15) : SoO T d nb := by
  have o : ∀ k, 15 ≤ k → k ≤ 19 → d k ∉ l.map d := fun k k1 k2 => hd.out (by omega) (fun j hj => ⟨by have := hl j hj; omega, by have := hl j hj; omega⟩)
  exact SolV.fr h f (o 15 (by decide) (by decide)) (o 16 (by decide) (by decide)) (o 17 (by decide) (by decide)) (o 18 (by decide) (by decide)) (o 19 (by decide) (by decide))
/-- a stretch that writes on the board and on the trial alone -/
theorem CX.st1 {B : Bd} (l : List Nat) (h : CX S x d q A nb) (hd : CD x d q) (f : Fr (l.map d) S T) (hl : ∀ k, k ∈ l → k < 6) (h1 : StV T (d 0) (d 1) (d 2) B) : CN S x d q (nowA A B) nb T :=
  h.st l hd f (fun k hk => by have := hl k hk; omega) h1 (h.2.2.2.2.2.1.1.fr hd f (fun k hk => by have := hl k hk; omega)) (h.2.2.2.2.2.1.2.fr hd f (fun k hk => by have := hl k hk; omega))
/-! what a state, its lines and the helpers need: the state lies at e, e + 1, e + 2 -/
def CR (S : Hp) (x : Nat) (d : Nat → Nat) (nb : Nat) : Prop := (ok S x 6 ∧ hR S x 5 = some (d 11) ∧ hR S x 6 = some (d 15)) ∧ PrO S d ∧ SoO S d nb
theorem CX.cr (h : CX S x d q A nb) : CR S x d nb := ⟨⟨h.1.1.1, h.1.1.2.2.2.2.2.2.1, h.1.1.2.2.2.2.2.2.2⟩, h.2.2.2.2.2.1⟩
theorem CR.fr1 {l : List Nat} (h : CR S x d nb) (hd : CD x d q) (f : Fr (l.map d) S T) (hl : ∀ k, k ∈ l → k < 6) : CR T x d nb := by
  obtain ⟨⟨a1, a2, a3⟩, b, c⟩ := h
  exact ⟨⟨f.ok a1, by rw [f.R]; exact a2, by rw [f.R]; exact a3⟩, b.fr hd f (fun k hk => by have := hl k hk; omega), c.fr hd f (fun k hk => by have := hl k hk; omega)⟩
theorem SoO.ok3 (h : SoO S d nb) : ok S (d 15) 3 := by
  obtain ⟨c, n, M, e, b, hb, hl, r⟩ := h
  exact r.1.1.1
theorem PrO.ok2 (h : PrO S d) : ok S (d 11) 2 := by
  obtain ⟨B0, r, -⟩ := h
  exact r.1.1.1
variable {N e r : Nat} {B : Bd}
theorem c_cellBy (hd : CD x d q) (he : e = 0 ∨ e = 3) (hN0 : 12 < N) (h : StV S (d e) (d (e + 1)) (d (e + 2)) B) (hw : Wf B) (hr : CR S x d nb) (hb : nb + 1 < 2 ^ 27) (hr4 : r < 4) : ∃ T, f_X6_cellBy N S x (nI r) (d e) = some (rpB B r, T) ∧ Fr ([e + 1, 15, 16, 17, 18].map d) S T ∧ StV T (d e) (d (e + 1)) (d (e + 2)) B ∧ CR T x d (nb + 1) := by
  have he6 : e + 2 < 6 := by omega
  have hl : ∀ k, k ∈ [e + 1, 15, 16, 17, 18] → k < 20 := by
    intro k hk
    simp only [List.mem_cons, List.not_mem_nil, or_false] at hk
    omega
  have sub1 : ∀ a, a ∈ [d (e + 1)] → a ∈ [e + 1, 15, 16, 17, 18].map d := by
    intro a ha
    rw [List.mem_singleton.mp ha]
    exact List.mem_map.mpr ⟨e + 1, by simp, rfl⟩
  have up : ∀ {U : Hp}, CR U x d nb → CR U x d (nb + 1) := fun h => ⟨h.1, h.2.1, h.2.2.mono (Nat.le_succ _)⟩
  have e44 : ∃ T, f_X6_cellBy_b44 N x (nI r) (d e) S = some ((if lowI (bth B) = -1 then opI (mdS B 10) else lowI (bth B)), T) ∧ Fr ([e + 1, 15, 16, 17, 18].map d) S T ∧ StV T (d e) (d (e + 1)) (d (e + 2)) B ∧ CR T x d (nb + 1) := by
    obtain ⟨T, t1, t2, t3⟩ := c_forcedReply (N := N) h hw hN0
    have cr := up (hr.fr1 (l := [e + 1]) hd t2 (fun k hk => by rw [List.mem_singleton.mp hk]; omega))
    unfold f_X6_cellBy_b44
    rw [gd_pos h.1.1, t1, cl_s]
    by_cases w : lowI (bth B) = -1
    · rw [if_pos w, if_pos w, gd_pos t3.1.1, c_mostDangerous t3 hw hN0, cl_s]
      exact ⟨T, rfl, t2.mono sub1, t3, cr⟩
    · rw [if_neg w, if_neg w]
      exact ⟨T, rfl, t2.mono sub1, t3, cr⟩
  unfold f_X6_cellBy rpB
  by_cases r0 : r = 0
  · rw [if_pos (by rw [r0]; rfl), if_pos r0, gd_pos h.1.1, c_freeCells h hw, cl_s, c_lowestOf (x := bfre B) (by omega) (fre_lt hw.c10), cl_s]
    exact ⟨S, rfl, Fr.rf, h, up hr⟩
  · rw [if_neg (fun w => r0 ((nI_eq0 (by omega)).mp w)), if_neg r0]
    by_cases r3 : r = 3
    · obtain ⟨T, t1, t2, t3, t4⟩ := c_bestMove (N := N) h hw hN0 hr.2.2 hb (hd.1 16 (e + 1) (by decide) (by omega) (by omega)) (hd.1 17 (e + 2) (by decide) (by omega) (by omega)) (hd.1 18 (e + 2) (by decide) (by omega) (by omega)) (hd.1 19 (e + 2) (by decide) (by omega) (by omega)) (hd.1 19 17 (by decide) (by decide) (by decide))
      have t2' : Fr ([15, 16, 17, 18].map d) S T := t2
      rw [if_pos (by rw [r3]; rfl), if_pos r3, gd_pos hr.1.1, hr.1.2.2, nn_s, gd_pos hr.2.2.ok3, t1, cl_s]
      refine ⟨T, rfl, t2'.mono (fun a ha => ?_), t3, ⟨t2.ok hr.1.1, by rw [t2.R]; exact hr.1.2.1, by rw [t2.R]; exact hr.1.2.2⟩, hr.2.1.fr hd t2' (by decide), t4⟩
      obtain ⟨j, hj, w⟩ := List.mem_map.mp ha
      exact List.mem_map.mpr ⟨j, List.mem_cons_of_mem _ hj, w⟩
    · rw [if_neg (fun w : nI r = (3 : Int32) => r3 ((eq_c 3 rfl (by omega) (by decide)).mp w)), if_neg r3]
      by_cases r2 : r = 2
      · rw [if_pos (by rw [r2]; rfl), gd_pos h.1.1, h.2.2.2.2.2.2.2.1]
        by_cases w : bp B = -1
        · rw [if_pos w, if_neg (fun u => u.2 w)]
          exact e44
        · rw [if_neg w, if_pos ⟨r2, w⟩]
          exact ⟨S, rfl, Fr.rf, h, up hr⟩
      · rw [if_neg (fun w => r2 ((nI_eq2 (by omega)).mp w)), if_neg (fun u => r2 u.1)]
        exact e44
end
