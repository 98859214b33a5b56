/-! the hash: a list's values, one after the other -/
def foN (f : Nat → Int64) : Nat → Int64 → Int64
  | 0, h => h
  | n + 1, h => 31 * foN f n h + f n
def hs1 (A : Ab) : Int64 := foN (fun w => (ctA A w).toInt64) 16 2503
def hs2 (A : Ab) (j : Nat) : Int64 := foN (fun v => (lkL (aN A) (v / 5) (v % 5)).toInt64) j (hs1 A)
