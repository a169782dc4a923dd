/-! ===== the next row, as both sides find it ===== -/
def rg (r : List Nat) (i : Nat) : Nat := r.getD i 0
def rsw (r : List Nat) (i j : Nat) : List Nat := (r.set i (rg r j)).set j (rg r i)
def rdn (r : List Nat) : Nat → Option Nat
  | 0 => none
  | k + 1 => if rg r k ≤ rg r (k + 1) then some k else rdn r k
def rlt (r : List Nat) (i : Nat) : Nat → Nat
  | 0 => 0
  | j + 1 => if j + 1 ≤ i then j + 1 else if rg r i ≤ rg r (j + 1) then j + 1 else rlt r i j
def rrv (r : List Nat) : Nat → Nat → Nat → List Nat
  | 0, _, _ => r
  | d + 1, a, b => if b ≤ a then r else rrv (rsw r a b) d (a + 1) (b - 1)
def rnx (n : Nat) (r : List Nat) : Option (List Nat) :=
  match rdn r (n - 1) with
  | none => none
  | some i => some (rrv (rsw r i (rlt r i (n - 1))) n (i + 1) (n - 1))
/-- the walk has m rows from r on, all rows of n numbers below n -/
def rwk (n : Nat) : Nat → List Nat → Bool
  | 0, _ => false
  | m + 1, r => Nat.beq r.length n && (r.all (fun x => Nat.blt x n) && match rnx n r with
    | none => Nat.beq m 0
    | some r' => rwk n m r')
theorem rwk_1 : rwk 1 1 [0] = true := by decide +kernel
theorem rwk_2 : rwk 2 2 [0, 1] = true := by decide +kernel
theorem rwk_3 : rwk 3 6 [0, 1, 2] = true := by decide +kernel
theorem rwk_4 : rwk 4 24 [0, 1, 2, 3] = true := by decide +kernel
theorem rwk_5 : rwk 5 120 [0, 1, 2, 3, 4] = true := by decide +kernel
theorem rwk_6 : rwk 6 720 [0, 1, 2, 3, 4, 5] = true := by decide +kernel
