/-! ROWS OF SHOOTERS: all of them, by numbers -/
abbrev FF : Nat := 2000
def fc5 (n : Nat) : Nat := [1, 1, 2, 6, 24, 120].getD n 0
def pmL : Nat → List Nat → Nat → List Nat
  | 0, _, _ => []
  | m + 1, av, i => av.getD (i / fc5 m) 0 :: pmL m (av.erase (av.getD (i / fc5 m) 0)) (i % fc5 m)
def pm (n i : Nat) : List Nat := pmL n (List.range n) i
def pq (n i k : Nat) : Nat := (pm n i).getD k 0
def enc (l : List Nat) : Nat := l.foldl (fun a d => 10 * a + d) 0
def rkL : Nat → List Nat → List Nat → Nat
  | _, _, [] => 0
  | 0, _, _ => 0
  | m + 1, av, d :: l => av.idxOf d * fc5 m + rkL m (av.erase d) l
def swL (l : List Nat) (a b : Nat) : List Nat := (l.set a (l.getD b 0)).set b (l.getD a 0)
def sx (n i a b : Nat) : Nat := rkL n (List.range n) (swL (pm n i) a b)
theorem row_at : ∀ n, n < 6 → ∀ i, i < fc5 n → K_rowAt FF (wI (i : Nat)) (wI (n : Nat)) = some (wI ((enc (pm n i) : Nat) : Int)) := by decide +kernel
theorem row_dg : ∀ n, n < 6 → ∀ i, i < fc5 n → ∀ k, k < n → K_digitAt (wI ((enc (pm n i) : Nat) : Int)) (wI (k : Nat)) (wI (n : Nat)) = wI ((pq n i k : Nat) : Int) ∧ pq n i k < n := by decide +kernel
theorem row_eb : ∀ n, n < 6 → ∀ i, i < fc5 n → enc (pm n i) < 100000 := by decide +kernel
theorem sx_lt : ∀ n, n < 6 → ∀ i, i < fc5 n → ∀ a, a < n → ∀ b, b < n → b ≤ a ∨ sx n i a b < fc5 n := by decide +kernel
theorem sx_ne : ∀ n, n < 6 → ∀ i, i < fc5 n → ∀ a, a < n → ∀ b, b < n → b ≤ a ∨ ¬ enc (pm n (sx n i a b)) = enc (pm n i) := by decide +kernel
theorem sx_sw : ∀ n, n < 6 → ∀ i, i < fc5 n → ∀ a, a < n → ∀ b, b < n → b ≤ a ∨ K_swapPlaces (wI ((enc (pm n i) : Nat) : Int)) (wI (a : Nat)) (wI (b : Nat)) (wI (n : Nat)) = wI ((enc (pm n (sx n i a b)) : Nat) : Int) := by decide +kernel
theorem sx_q : ∀ n, n < 6 → ∀ i, i < fc5 n → ∀ a, a < n → ∀ b, b < n → b ≤ a ∨ ∀ k, k < n → pq n (sx n i a b) k = if k = a then pq n i b else if k = b then pq n i a else pq n i k := by decide +kernel
def pl5 (n i : Nat) : Pl := fun k => if k < n then wI ((pq n i k : Nat) : Int) else wI (k : Nat)
def nxOk (n i : Nat) : Bool := match M_nextRow FF (fun _ => wI (n : Nat)) (pl5 n i) with
  | none => false
  | some u => if i + 1 < fc5 n then (u.1 == 1) && (List.range 5).all (fun k => u.2 k == pl5 n (i + 1) k) else u.1 == 0
theorem nx_ok : ∀ n, n < 6 → 0 < n → ∀ i, i < fc5 n → nxOk n i = true := by decide +kernel
theorem dg_ok : ∀ n, n < 6 → ∀ i, i < fc5 n → M_digits FF (fun _ => wI (n : Nat)) (pl5 n i) = some (wI ((enc (pm n i) : Nat) : Int)) := by decide +kernel
theorem pq_0 : ∀ n, n < 6 → ∀ k, k < n → pq n 0 k = k := by decide +kernel
theorem fc5_k : ∀ n, n < 6 → K_rowsOf (wI (n : Nat)) = wI ((fc5 n : Nat) : Int) ∧ 0 < fc5 n ∧ fc5 n ≤ 120 := by decide +kernel
theorem fc5_4 : ∀ n, n < 5 → fc5 n ≤ 24 := by decide +kernel
theorem row_lt : ∀ n, n < 6 → ∀ i, i < fc5 n → fc5 n ≤ i + 1 ∨ enc (pm n i) < enc (pm n (i + 1)) := by decide +kernel
