/-! the first pairing of all rows of choices is the search's -/
def frs {α : Type} (f : Nat → Option α) : Nat → Option α
  | 0 => none
  | n + 1 => match frs f n with
    | some r => some r
    | none => f n
theorem frs_none {α : Type} {f : Nat → Option α} : ∀ {n : Nat}, (∀ i, i < n → f i = none) → frs f n = none
  | 0, _ => rfl
  | n + 1, h => by rw [frs, frs_none (n := n) (fun i hi => h i (by omega))]; exact h n (Nat.lt_succ_self n)
theorem frs_at {α : Type} {f : Nat → Option α} {j : Nat} {r : α} (h0 : ∀ i, i < j → f i = none) (h1 : f j = some r) : ∀ {n : Nat}, j < n → frs f n = some r
  | 0, h => absurd h (Nat.not_lt_zero _)
  | n + 1, h => by
    rw [frs]
    by_cases e : j = n
    · subst e
      rw [frs_none h0]; exact h1
    · rw [frs_at h0 h1 (n := n) (by omega)]
theorem frs_cong {α : Type} {f g : Nat → Option α} : ∀ {n : Nat}, (∀ i, i < n → f i = g i) → frs f n = frs g n
  | 0, _ => rfl
  | n + 1, h => by rw [frs, frs, frs_cong (n := n) (fun i hi => h i (by omega)), h n (Nat.lt_succ_self n)]
theorem frs_add {α : Type} {f : Nat → Option α} {m : Nat} : ∀ {n : Nat}, frs f (m + n) = match frs f m with
    | some r => some r
    | none => frs (fun i => f (m + i)) n
  | 0 => by
    show frs f m = _
    cases frs f m <;> rfl
  | n + 1 => by
    show frs f ((m + n) + 1) = _
    rw [frs, frs_add (n := n)]
    cases frs f m with
    | some r => rfl
    | none => rfl
theorem frs_mul {α : Type} {g : Nat → Nat → Option α} {b : Nat} (hb : 0 < b) : ∀ {a : Nat}, frs (fun q => g (q / b) (q % b)) (a * b) = frs (fun x => frs (g x) b) a
  | 0 => by rw [Nat.zero_mul]; rfl
  | a + 1 => by
    rw [Nat.succ_mul, frs_add, frs_mul hb (a := a), frs]
    have e : frs (fun i => g ((a * b + i) / b) ((a * b + i) % b)) b = frs (g a) b := frs_cong (fun i hi => by
      rw [Nat.mul_comm a b, Nat.mul_add_div hb, Nat.mul_add_mod, Nat.div_eq_of_lt hi, Nat.mod_eq_of_lt hi, Nat.add_zero])
    rw [e]
theorem frs_bind {α β : Type} {o : Option β} {h : β → Nat → Option α} {n : Nat} : frs (fun i => o.bind (fun r => h r i)) n = o.bind (fun r => frs (h r) n) := by
  cases o with
  | none => exact frs_none (fun _ _ => rfl)
  | some r => rfl
def P10 : Nat → Nat × Nat
  | 0 => (0, 1)
  | 1 => (0, 2)
  | 2 => (0, 3)
  | 3 => (0, 4)
  | 4 => (1, 2)
  | 5 => (1, 3)
  | 6 => (1, 4)
  | 7 => (2, 3)
  | 8 => (2, 4)
  | _ => (3, 4)
def L10 : Nat → List (Nat × Nat)
  | 0 => []
  | k + 1 => L10 k ++ [P10 k]
theorem P10_lt (k : Nat) : (P10 k).1 < (P10 k).2 ∧ (P10 k).2 < 5 := by
  unfold P10
  split <;> exact ⟨by decide, by decide⟩
theorem tryL_snoc {α : Type} {lo : Nat → Bool} {f : Nat × Nat → Option α} {p : Nat × Nat} : ∀ {l : List (Nat × Nat)}, tryL lo f (l ++ [p]) = match tryL lo f l with
    | some r => some r
    | none => if (lo p.1 && lo p.2) = true then f p else none
  | [] => by
    show tryL lo f [p] = _
    rw [tryL_cons]
    by_cases g : (lo p.1 && lo p.2) = true
    · rw [if_pos g]
      show _ = if (lo p.1 && lo p.2) = true then f p else none
      rw [if_pos g]
      cases f p <;> rfl
    · rw [if_neg g]
      show _ = if (lo p.1 && lo p.2) = true then f p else none
      rw [if_neg g]
      rfl
  | q :: t => by
    show tryL lo f (q :: (t ++ [p])) = _
    rw [tryL_cons, tryL_cons, tryL_snoc (l := t)]
    by_cases g : (lo q.1 && lo q.2) = true
    · rw [if_pos g, if_pos g]
      cases f q <;> rfl
    · rw [if_neg g, if_neg g]
theorem tryL_frs {α : Type} {lo : Nat → Bool} {f : Nat × Nat → Option α} : ∀ {k : Nat}, tryL lo f (L10 k) = frs (fun c => if (lo (P10 c).1 && lo (P10 c).2) = true then f (P10 c) else none) k
  | 0 => rfl
  | k + 1 => by rw [L10, tryL_snoc, frs, tryL_frs (k := k)]
theorem tryL_filter {α : Type} {lo : Nat → Bool} {f : Nat × Nat → Option α} {g : Nat × Nat → Bool} (h : ∀ p, (lo p.1 && lo p.2) = true → g p = true) : ∀ {l : List (Nat × Nat)}, tryL lo f (l.filter g) = tryL lo f l
  | [] => rfl
  | p :: t => by
    by_cases e : g p = true
    · rw [List.filter_cons_of_pos e, tryL_cons, tryL_cons, tryL_filter h (l := t)]
    · rw [List.filter_cons_of_neg e, tryL_cons, tryL_filter h (l := t), if_neg (fun q => e (h p q))]
theorem tryL_cong {α : Type} {lo : Nat → Bool} {f g : Nat × Nat → Option α} : ∀ {l : List (Nat × Nat)}, (∀ p, p ∈ l → lo p.1 = true → lo p.2 = true → f p = g p) → tryL lo f l = tryL lo g l
  | [], _ => rfl
  | p :: t, h => by
    rw [tryL_cons, tryL_cons, tryL_cong (l := t) (fun q hq => h q (List.mem_cons_of_mem _ hq))]
    by_cases e : (lo p.1 && lo p.2) = true
    · have e' := Bool.and_eq_true_iff.mp e
      rw [if_pos e, if_pos e, h p List.mem_cons_self e'.1 e'.2]
    · rw [if_neg e, if_neg e]
theorem rest10 : (restP 0 0).filter (fun p => decide (p.2 < 5)) = L10 10 := by decide
section
variable {M : Nat → Nat} {br F n : Nat}
/-- one line's choice: 10 where it needs none, else a pair of loose cells -/
def VS (M : Nat → Nat) (br F n j s : Nat) (Q : Nat → Nat × Nat) (ch : Nat) : Option (Nat × (Nat → Nat × Nat)) := if j < n ∧ needQ M br j s Q = true then (if ch < 10 ∧ (looQ M F j s Q (P10 ch).1 && looQ M F j s Q (P10 ch).2) = true then some (s + 1, updQ Q s (P10 ch)) else none) else if ch = 10 then some (s, Q) else none
def dg11 (code : Nat) : Nat → Nat
  | 0 => code / 121
  | 1 => code / 11 % 11
  | _ => code % 11
def rnV (M : Nat → Nat) (br F n code : Nat) : Nat → Nat → Nat → (Nat → Nat × Nat) → Option (Nat × (Nat → Nat × Nat))
  | 0, _, s, Q => some (s, Q)
  | d + 1, j, s, Q => (VS M br F n j s Q (dg11 code j)).bind (fun r => rnV M br F n code d (j + 1) r.1 r.2)
def D3 (M : Nat → Nat) (br F n : Nat) : Nat → Nat → Nat → (Nat → Nat × Nat) → Option (Nat × (Nat → Nat × Nat))
  | 0, _, s, Q => some (s, Q)
  | d + 1, j, s, Q => if j < n ∧ needQ M br j s Q = true then tryL (looQ M F j s Q) (fun p => D3 M br F n d (j + 1) (s + 1) (updQ Q s p)) (L10 10) else D3 M br F n d (j + 1) s Q
theorem VS_level {α : Type} {j s : Nat} {Q : Nat → Nat × Nat} {G : Nat × (Nat → Nat × Nat) → Option α} : frs (fun c => (VS M br F n j s Q c).bind G) 11 = if j < n ∧ needQ M br j s Q = true then tryL (looQ M F j s Q) (fun p => G (s + 1, updQ Q s p)) (L10 10) else G (s, Q) := by
  by_cases h : j < n ∧ needQ M br j s Q = true
  · rw [if_pos h, tryL_frs]
    rw [frs]
    have e10 : (VS M br F n j s Q 10).bind G = none := by
      unfold VS
      rw [if_pos h, if_neg (fun q => absurd q.1 (by decide))]
      rfl
    have e : frs (fun c => (VS M br F n j s Q c).bind G) 10 = frs (fun c => if (looQ M F j s Q (P10 c).1 && looQ M F j s Q (P10 c).2) = true then G (s + 1, updQ Q s (P10 c)) else none) 10 := frs_cong (fun c hc => by
      unfold VS
      rw [if_pos h]
      by_cases g : (looQ M F j s Q (P10 c).1 && looQ M F j s Q (P10 c).2) = true
      · rw [if_pos ⟨hc, g⟩, if_pos g]; rfl
      · rw [if_neg (fun q => g q.2), if_neg g]; rfl)
    rw [e, e10]
    cases frs (fun c => if (looQ M F j s Q (P10 c).1 && looQ M F j s Q (P10 c).2) = true then G (s + 1, updQ Q s (P10 c)) else none) 10 <;> rfl
  · rw [if_neg h]
    have e : ∀ c, (VS M br F n j s Q c).bind G = if c = 10 then G (s, Q) else none := fun c => by
      unfold VS
      rw [if_neg h]
      by_cases g : c = 10
      · rw [if_pos g, if_pos g]; rfl
      · rw [if_neg g, if_neg g]; rfl
    rw [frs, frs_none (fun i hi => by rw [e]; exact if_neg (by omega)), e]
    exact if_pos rfl
theorem rn_D3 {Q : Nat → Nat × Nat} {s : Nat} : frs (fun code => rnV M br F n code 3 0 s Q) 1331 = D3 M br F n 3 0 s Q := by
  let g2 : Nat × (Nat → Nat × Nat) → Nat → Option (Nat × (Nat → Nat × Nat)) := fun r c2 => (VS M br F n 2 r.1 r.2 c2).bind (fun r => some (r.1, r.2))
  let g1 : Nat × (Nat → Nat × Nat) → Nat → Option (Nat × (Nat → Nat × Nat)) := fun r y => (VS M br F n 1 r.1 r.2 (y / 11)).bind (fun r => g2 r (y % 11))
  let g0 : Nat → Nat → Option (Nat × (Nat → Nat × Nat)) := fun x y => (VS M br F n 0 s Q x).bind (fun r => g1 r y)
  have e0 : frs (fun code => rnV M br F n code 3 0 s Q) 1331 = frs (fun q => g0 (q / 121) (q % 121)) (11 * 121) := by
    show _ = frs (fun q => g0 (q / 121) (q % 121)) 1331
    refine frs_cong (fun q _ => ?_)
    have a1 : q % 121 / 11 = q / 11 % 11 := by omega
    have a2 : q % 121 % 11 = q % 11 := by omega
    show _ = (VS M br F n 0 s Q (q / 121)).bind (fun r => (VS M br F n 1 r.1 r.2 (q % 121 / 11)).bind (fun r => (VS M br F n 2 r.1 r.2 (q % 121 % 11)).bind (fun r => some (r.1, r.2))))
    rw [a1, a2]
    rfl
  rw [e0, frs_mul (by decide)]
  have e1 : ∀ x, frs (g0 x) 121 = (VS M br F n 0 s Q x).bind (fun r => frs (g1 r) 121) := fun x => frs_bind (h := g1)
  have e2 : ∀ r : Nat × (Nat → Nat × Nat), frs (g1 r) 121 = frs (fun c1 => (VS M br F n 1 r.1 r.2 c1).bind (fun r => frs (g2 r) 11)) 11 := fun r => by
    have q := frs_mul (g := fun c1 c2 => (VS M br F n 1 r.1 r.2 c1).bind (fun r => g2 r c2)) (b := 11) (by decide) (a := 11)
    refine Eq.trans (show frs (g1 r) 121 = _ from q) (frs_cong (fun c1 _ => frs_bind (h := g2)))
  have e3 : ∀ r : Nat × (Nat → Nat × Nat), frs (g2 r) 11 = D3 M br F n 1 2 r.1 r.2 := fun r => VS_level (G := fun r => some (r.1, r.2))
  have e4 : ∀ r : Nat × (Nat → Nat × Nat), frs (g1 r) 121 = D3 M br F n 2 1 r.1 r.2 := fun r => by
    rw [e2, show (fun c1 => (VS M br F n 1 r.1 r.2 c1).bind (fun r => frs (g2 r) 11)) = (fun c1 => (VS M br F n 1 r.1 r.2 c1).bind (fun r => D3 M br F n 1 2 r.1 r.2)) from funext (fun c1 => congrArg _ (funext e3))]
    exact VS_level (G := fun r => D3 M br F n 1 2 r.1 r.2)
  rw [show (fun x => frs (g0 x) 121) = (fun x => (VS M br F n 0 s Q x).bind (fun r => D3 M br F n 2 1 r.1 r.2)) from funext (fun x => (e1 x).trans (congrArg _ (funext e4)))]
  exact VS_level (G := fun r => D3 M br F n 2 1 r.1 r.2)
theorem D3_out : ∀ d j s (Q : Nat → Nat × Nat), n ≤ j → D3 M br F n d j s Q = some (s, Q)
  | 0, _, _, _, _ => rfl
  | d + 1, j, s, Q, h => by rw [D3, if_neg (fun q => absurd q.1 (by omega))]; exact D3_out d (j + 1) s Q (by omega)
theorem D3_DQ (hF : ∀ x, F.testBit x = true → x < 5) : ∀ q d j s (Q : Nat → Nat × Nat), j + q = n → q ≤ d → D3 M br F n d j s Q = DQ M br F q j s Q
  | 0, d, j, s, Q, h, _ => by rw [D3_out d j s Q (by omega)]; rfl
  | q + 1, 0, j, s, Q, _, h => absurd h (by omega)
  | q + 1, d + 1, j, s, Q, h, hd => by
    rw [D3, DQ]
    by_cases g : needQ M br j s Q = true
    · rw [if_pos ⟨by omega, g⟩, if_pos g, ← rest10, tryL_filter (fun p hp => by
        have h2 := (Bool.and_eq_true_iff.mp hp).2
        unfold looQ at h2
        rw [Bool.and_eq_true, Nat.testBit_and, Bool.and_eq_true] at h2
        exact decide_eq_true (hF _ h2.1.2))]
      exact tryL_cong (fun p _ _ _ => D3_DQ hF q d (j + 1) (s + 1) _ (by omega) (by omega))
    · rw [if_neg (fun w => g w.2), if_neg g]
      exact D3_DQ hF q d (j + 1) s Q (by omega) (by omega)
end
