/-! PURE: orders: all of them, and the next one -/
/-- each of a list, and the others -/
def pickL : List Nat → List (Nat × List Nat)
  | [] => []
  | x :: l => (x, l) :: (pickL l).map (fun q => (q.1, x :: q.2))
/-- all orders of n of a list, the first by numbers first -/
def permL : Nat → List Nat → List (List Nat)
  | 0, _ => [[]]
  | n + 1, l => (pickL l).flatMap (fun q => (permL n q.2).map (fun o => q.1 :: o))
def nxI (g : Nat → Nat) : Nat → Option Nat
  | 0 => none
  | i + 1 => if g (i + 1) < g i then nxI g i else some i
def nxJ (g : Nat → Nat) (x : Nat) : Nat → Nat
  | 0 => 0
  | j + 1 => if g (j + 1) < x then nxJ g x j else j + 1
def swpG (g : Nat → Nat) (i j : Nat) : Nat → Nat := fun k => if k = j then g i else if k = i then g j else g k
def rvG : Nat → Nat → Nat → (Nat → Nat) → Nat → Nat
  | 0, _, _, g => g
  | k + 1, a, b, g => if a < b then rvG k (a + 1) (b - 1) (swpG g a b) else g
/-- the next order of n, of numbers 0 .. n - 1 -/
def nextG (n : Nat) (g : Nat → Nat) : Option (Nat → Nat) := match nxI g (n - 1) with
  | none => none
  | some i => some (rvG 8 (i + 1) (n - 1) (swpG g i (nxJ g (g i) (n - 1))))
def getL : List Nat → Nat → Nat
  | [], _ => 0
  | x :: _, 0 => x
  | _ :: l, k + 1 => getL l k
def tabL (g : Nat → Nat) : Nat → Nat → List Nat
  | 0, _ => []
  | k + 1, i => g i :: tabL g k (i + 1)
def eqL : List Nat → List Nat → Bool
  | [], [] => true
  | x :: l, y :: m => Nat.beq x y && eqL l m
  | _, _ => false
def nodL : List Nat → Bool
  | [] => true
  | x :: l => !(l.any (fun y => Nat.beq x y)) && nodL l
def okL (n : Nat) (l : List Nat) : Bool := Nat.beq l.length n && (l.all (fun x => Nat.blt x n) && nodL l)
def nxOk (n : Nat) (l : List Nat) (o : Option (List Nat)) : Bool := match nextG n (getL l), o with
  | none, none => true
  | some g, some l' => eqL (tabL g n 0) l'
  | _, _ => false
/-- each is followed by the next one -/
def chN (n : Nat) : List (List Nat) → Bool
  | [] => false
  | [l] => okL n l && nxOk n l none
  | l :: l' :: r => okL n l && (nxOk n l (some l') && chN n (l' :: r))
theorem perm0 : chN 0 (permL 0 (List.range 0)) = true := by decide +kernel
theorem perm1 : chN 1 (permL 1 (List.range 1)) = true := by decide +kernel
theorem perm2 : chN 2 (permL 2 (List.range 2)) = true := by decide +kernel
theorem perm3 : chN 3 (permL 3 (List.range 3)) = true := by decide +kernel
theorem perm4 : chN 4 (permL 4 (List.range 4)) = true := by decide +kernel
theorem perm5 : chN 5 (permL 5 (List.range 5)) = true := by decide +kernel
theorem perm6 : chN 6 (permL 6 (List.range 6)) = true := by decide +kernel
theorem perm7 : chN 7 (permL 7 (List.range 7)) = true := by decide +kernel
