/-! FROST: the orders, one behind the other -/
def zsw (r : Nat → Nat) (i j : Nat) : Nat → Nat := fun q => if q = j then r i else if q = i then r j else r q
def zfk (r : Nat → Nat) : Nat → Option Nat
  | 0 => none
  | k + 1 => if r k ≤ r (k + 1) then some k else zfk r k
def zfj (r : Nat → Nat) (x : Nat) : Nat → Nat
  | 0 => 0
  | j + 1 => if x ≤ r (j + 1) then j + 1 else zfj r x j
def zrv : Nat → (Nat → Nat) → Nat → Nat → Nat → Nat
  | 0, r, _, _ => r
  | f + 1, r, lo, hi => if hi ≤ lo then r else zrv f (zsw r lo hi) (lo + 1) (hi - 1)
/-- the next order -/
def zfnx (n : Nat) (r : Nat → Nat) : Option (Nat → Nat) := match zfk r (n - 1) with
  | none => none
  | some k => some (zrv n (zsw r k (zfj r (r k) (n - 1))) (k + 1) (n - 1))
def zat (p : List Nat) (i : Nat) : Nat := p.getD i 0
def zls7 (n : Nat) (r : Nat → Nat) : List Nat := (List.range n).map r
def zmem (p : List Nat) (i : Nat) : Bool := p.any (fun x => Nat.beq x i)
def zcat {α : Type} (F : Nat → List α) : Nat → List α
  | 0 => []
  | n + 1 => zcat F n ++ F n
/-- all orders that begin so -/
def zfpl (n : Nat) : Nat → List Nat → List (List Nat)
  | 0, pre => [pre]
  | f + 1, pre => zcat (fun i => if zmem pre i = true then [] else zfpl n f (pre ++ [i])) n
def zchn (n : Nat) : List (List Nat) → Bool
  | [] => true
  | p :: l => (match l with
    | [] => (zfnx n (zat p)).isNone
    | q :: _ => (match zfnx n (zat p) with
      | some r => decide (zls7 n r = q)
      | none => false)) && zchn n l
theorem zchn_1 : zchn 1 (zfpl 1 1 []) = true := by decide +kernel
theorem zchn_2 : zchn 2 (zfpl 2 2 []) = true := by decide +kernel
theorem zchn_3 : zchn 3 (zfpl 3 3 []) = true := by decide +kernel
theorem zchn_4 : zchn 4 (zfpl 4 4 []) = true := by decide +kernel
theorem zchn_5 : zchn 5 (zfpl 5 5 []) = true := by decide +kernel
theorem zchn_6 : zchn 6 (zfpl 6 6 []) = true := by decide +kernel
theorem zchn_7 : zchn 7 (zfpl 7 7 []) = true := by decide +kernel
