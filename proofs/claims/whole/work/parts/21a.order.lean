/-! order: rows of the BELT, and the best of them -/
section
def bl (m : Nat) : List Nat := (List.range 7).filter fun t => m.testBit t
def LPm : Nat → Nat → List (List Nat)
  | 0, _ => [[]]
  | f + 1, m => (bl m).flatMap fun a => (LPm f (m - 2 ^ a)).map fun p => a :: p
def atI (p : List Nat) : Nat → Option Nat
  | 0 => none
  | k + 1 => if p.getD (k + 1) 0 < p.getD k 0 then atI p k else some k
def byI (p : List Nat) (x : Nat) : Nat → Nat
  | 0 => 0
  | k + 1 => if p.getD k 0 < x then byI p x k else k
def swI (p : List Nat) (i j : Nat) : List Nat := (p.set i (p.getD j 0)).set j (p.getD i 0)
def rvI : Nat → List Nat → Nat → Nat → List Nat
  | 0, p, _, _ => p
  | f + 1, p, lo, hi => if lo < hi then rvI f (swI p lo hi) (lo + 1) (hi - 1) else p
def nxI (p : List Nat) : Option (List Nat) := match atI p (p.length - 1) with
  | none => none
  | some a => some (rvI 4 (swI p a (byI p (p.getD a 0) p.length)) (a + 1) (p.length - 1))
def chI : List (List Nat) → Bool
  | [] => false
  | [p] => (nxI p).isNone
  | p :: q :: r => (nxI p == some q) && chI (q :: r)
def ndB : List Nat → Bool
  | [] => true
  | t :: r => !(r.contains t) && ndB r
def okP (m : Nat) (p : List Nat) : Bool := (List.range 7).all (fun t => m.testBit t == p.contains t) && (ndB p && p.all fun t => decide (t < 7))
theorem perm_tab : ((List.range 128).all fun m => chI (LPm (zpc m) m) && ((LPm (zpc m) m).head? == some (bl m) && (LPm (zpc m) m).all fun p => okP m p)) = true := by decide +kernel
theorem bit_tab : ((List.range 128).all fun m => (List.range 7).all fun a => !(m.testBit a) || ((zpc (m - 2 ^ a) + 1 == zpc m) && ((m ^^^ (m &&& 2 ^ a) == m - 2 ^ a) && (decide (2 ^ a ≤ m) && (List.range 7).all fun t => (m - 2 ^ a).testBit t == (m.testBit t && t != a))))) = true := by decide +kernel
theorem pos_tab : ((List.range 128).all fun m => (decide (zpc m = 0) == decide (m = 0)) && ((bl m).length == zpc m)) = true := by decide +kernel
end
