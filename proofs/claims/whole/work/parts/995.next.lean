/-! ROWS IN THEIR ORDER: the class steps from one to the next -/
def trn (l : List Nat) : Nat → Option Nat
  | 0 => none
  | k + 1 => if l.getD (k + 1) 0 < l.getD k 0 then trn l k else some k
def abv (l : List Nat) (t : Nat) : Nat → Nat
  | 0 => 0
  | a + 1 => if t + 1 < a + 1 ∧ l.getD (a + 1) 0 < l.getD t 0 then abv l t a else a + 1
def swp (l : List Nat) (i j : Nat) : List Nat := (l.set i (l.getD j 0)).set j (l.getD i 0)
def rvs : Nat → List Nat → Nat → Nat → List Nat
  | 0, l, _, _ => l
  | f + 1, l, lo, hi => if lo < hi then rvs f (swp l lo hi) (lo + 1) (hi - 1) else l
def nxt (n : Nat) (l : List Nat) : Option (List Nat) := match trn l (n - 1) with
  | none => none
  | some t => some (rvs 8 (swp l t (abv l t (n - 1))) (t + 1) (n - 1))
def chainB (n : Nat) : List (List Nat) → Bool
  | [] => false
  | a :: t => match t with
    | [] => decide (nxt n a = none)
    | b :: _ => decide (nxt n a = some b) && chainB n t
theorem chain7 : ∀ n, n < 7 → chainB n (prm n) = true := by decide +kernel
set_option maxRecDepth 100000 in
theorem chain8 : chainB 7 (prm 7) = true := by decide +kernel
theorem chain_all {n : Nat} (hn : n ≤ 7) : chainB n (prm n) = true := by
  rcases Nat.lt_or_ge n 7 with c | c
  · exact chain7 n c
  · obtain rfl : n = 7 := by omega
    exact chain8
