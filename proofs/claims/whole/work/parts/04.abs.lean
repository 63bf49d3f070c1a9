/-! THE ABSTRACT MACHINE: bytecode over a heap of cells by numbers, as a pure function. Values: an int, a long, or (tag, length, cell). Tags: 0 null, 1 int[], 2 byte[], 3 boolean[], 4 Law[], 5 State[], 6 a text's constant, 7 the table of powers, 8 the script, 9 a text's bytes, 11 a static of the library's that is null or not, 20 + class: an object, 40 + class: one that is being made. A local that is not set: none. -/
abbrev ai_V : Type := Int32 ⊕ Int64 ⊕ (Nat × Nat × Nat)
/-- ints of fields and elements; the long field; references of fields and elements; kind and length of a cell (kind 0: none); how many were made outside of constructors; cells and slots made -/
abbrev ai_H : Type := (Nat → Nat → Int32) × (Nat → Int64) × (Nat → Nat → Option Nat) × (Nat → Nat × Nat) × Nat × Nat × Nat
abbrev ai_S : Type := Nat × List (Option ai_V) × List ai_V × ai_H
abbrev ai_R : Type := List ai_V × ai_H
abbrev ai_K : Type := ai_S → Option ai_R
abbrev ai_O : Type := Nat → List ai_V → ai_H → Option ai_R
/-- table row of a field: class, slot, kind (0 int, 1 boolean, 2 long, 3 object, 4 array of a length that stands, 5 array, 6 reference that changes, 7 array reference of a Law), its tag or class, its length -/
abbrev ai_Fr : Type := Nat × Nat × Nat × Nat × Nat
/-- table row of a call: kind (0 virtual, 1 static, 2 constructor, 3 max, 4 min, 5 abs, 6 arraycopy, 7 Object's constructor), method, arguments with the receiver, the receiver's tag, answer (0 none, 1 int, 2 reference) -/
abbrev ai_Mr : Type := Nat × Nat × Nat × Nat × Nat
def ai_nth {α : Type} : List α → Nat → Option α
  | [], _ => none
  | a :: _, 0 => some a
  | _ :: l, n + 1 => ai_nth l n
def ai_put {α : Type} : List α → Nat → α → List α
  | [], _, _ => []
  | _ :: l, 0, b => b :: l
  | a :: l, n + 1, b => a :: ai_put l n b
def ai_lk {α : Type} : List (Nat × α) → Nat → Option α
  | [], _ => none
  | (q, v) :: l, n => bif Nat.beq q n then some v else ai_lk l n
def ai_mem : List Nat → Nat → Bool
  | [], _ => false
  | q :: l, n => bif Nat.beq q n then true else ai_mem l n
/-- the texts -/
def ai_txts : List (List Int32) := [[116, 97, 112, 32, 112, 105, 112, 101, 32, 115, 116, 111, 110, 101, 32, 116, 114, 111, 117, 103, 104, 32, 110, 97, 109, 101, 32, 97, 110, 121, 32, 108, 101, 118, 101, 108, 32, 97, 103, 101, 32, 110, 111, 100, 101, 32, 100, 97, 121, 32, 99, 111, 115, 116, 32, 105, 102, 32, 111, 114, 32, 97, 110, 100, 32, 110, 111, 116, 32, 99, 97, 112, 32, 115, 112, 97, 114, 101, 32, 112, 97, 121, 32, 114, 101, 102, 117, 115, 101, 32]]
/-- the kinds of the fields, by class -/
def ai_fkl : List (List (Nat × Nat × Nat)) := [[(0, 0, 0), (0, 0, 0), (0, 0, 0), (0, 0, 0), (0, 0, 0), (0, 0, 0), (4, 1, 24), (4, 1, 24), (4, 1, 24), (4, 1, 24), (4, 1, 24), (4, 1, 24), (4, 1, 24), (4, 1, 30), (4, 1, 20)], [(0, 0, 0), (4, 1, 12), (4, 1, 12), (0, 0, 0), (4, 1, 12), (0, 0, 0), (0, 0, 0), (0, 0, 0)], [(3, 5, 0), (3, 5, 0), (3, 5, 0), (3, 5, 0), (3, 5, 0), (3, 5, 0), (3, 5, 0), (3, 5, 0), (3, 5, 0), (3, 5, 0), (3, 5, 0), (3, 5, 0), (4, 1, 24), (0, 0, 0), (0, 0, 0), (0, 0, 0)], [(0, 0, 0), (4, 1, 40), (4, 1, 40), (4, 1, 40), (4, 1, 40), (4, 1, 40), (4, 1, 40)], [(7, 1, 0), (7, 1, 0), (7, 1, 0), (7, 1, 0)], [(5, 1, 0), (5, 1, 0), (5, 1, 0), (5, 1, 0), (0, 0, 0)], [(0, 0, 0), (4, 1, 24), (4, 1, 24), (4, 1, 288), (4, 1, 20), (4, 1, 240), (4, 1, 20), (0, 0, 0)], [(4, 1, 500), (0, 0, 0), (0, 0, 0), (0, 0, 0), (0, 0, 0), (0, 0, 0), (4, 1, 501), (4, 1, 501), (4, 1, 501), (0, 0, 0), (4, 1, 24), (4, 1, 24), (4, 1, 24), (4, 1, 500)], [(3, 0, 0), (3, 2, 0), (3, 3, 0), (4, 1, 5), (0, 0, 0)], [(0, 0, 0), (4, 1, 5), (4, 4, 5), (0, 0, 0), (4, 1, 6), (4, 1, 6), (4, 1, 6), (4, 1, 5), (0, 0, 0), (0, 0, 0)], [(0, 0, 0), (4, 1, 8), (4, 1, 8), (4, 1, 8), (4, 1, 2048), (4, 1, 24), (4, 1, 8), (4, 1, 8), (0, 0, 0), (0, 0, 0)], [(3, 8, 0), (4, 5, 3), (3, 7, 0), (3, 9, 0), (3, 6, 0), (3, 10, 0), (3, 1, 0), (4, 1, 11), (4, 1, 24), (6, 4, 0), (0, 0, 0), (0, 0, 0)], [(4, 1, 4), (4, 1, 4), (4, 1, 4), (4, 1, 4), (4, 1, 4), (4, 1, 4), (4, 1, 4), (4, 1, 4), (4, 1, 4), (4, 1, 4), (4, 1, 96), (4, 1, 96), (4, 1, 96), (4, 1, 96), (4, 1, 96), (4, 1, 96), (4, 1, 96), (4, 3, 96), (4, 3, 160), (4, 1, 120), (4, 1, 80), (4, 1, 20), (4, 1, 2400), (4, 1, 2400), (4, 1, 2400), (4, 1, 2400), (4, 1, 2400), (4, 1, 160), (4, 1, 160), (4, 1, 160), (4, 1, 160), (4, 1, 160), (0, 0, 0), (0, 0, 0), (0, 0, 0), (1, 0, 0), (4, 1, 7), (4, 1, 5), (4, 3, 168), (4, 1, 168), (4, 1, 168), (4, 1, 168), (0, 0, 0), (4, 1, 20000), (4, 1, 20000), (4, 1, 20000), (4, 1, 20000), (4, 2, 500), (0, 0, 0), (0, 0, 0), (0, 0, 0), (0, 0, 0), (0, 0, 0), (0, 0, 0), (0, 0, 0), (2, 0, 0), (1, 0, 0), (4, 1, 12), (4, 1, 12), (0, 0, 0), (4, 1, 20001), (4, 1, 6), (4, 3, 300), (4, 1, 20), (4, 1, 24), (4, 2, 240), (4, 2, 288), (4, 2, 12), (4, 1, 20), (4, 1, 20), (4, 1, 20), (4, 3, 24), (4, 1, 24), (4, 1, 30), (4, 1, 6), (4, 1, 5), (4, 3, 30), (0, 0, 0), (0, 0, 0), (0, 0, 0), (4, 1, 8), (4, 1, 2048), (4, 1, 8), (4, 1, 8), (4, 1, 24), (4, 1, 20), (4, 1, 24)]]
/-- a path's cell -/
def ai_ch (a j : Nat) : Nat := 128 * a + j + 1
def ai_u (f : Nat → Nat → Int32) (c j : Nat) (v : Int32) : Nat → Nat → Int32 := fun q => if q = c then upd (f c) j v else f q
def ai_uR (f : Nat → Nat → Option Nat) (c j : Nat) (v : Option Nat) : Nat → Nat → Option Nat := fun q i => if q = c ∧ i = j then v else f q i
def ai_uK (f : Nat → Nat × Nat) (c : Nat) (v : Nat × Nat) : Nat → Nat × Nat := fun q => if q = c then v else f q
def ai_st (h : ai_H) (a j : Nat) (v : Int32) : ai_H := (ai_u h.1 a j v, h.2)
def ai_stL (h : ai_H) (a : Nat) (v : Int64) : ai_H := (h.1, fun q => if q = a then v else h.2.1 q, h.2.2)
def ai_stR (h : ai_H) (a j : Nat) (v : Option Nat) : ai_H := (h.1, h.2.1, ai_uR h.2.2.1 a j v, h.2.2.2)
def ai_cpy (h : ai_H) (a : Nat) (sp : Nat) (b : Nat) (dp n : Nat) : ai_H := (fun q => if q = b then va_cpy (h.1 a) (h.1 b) sp dp n else h.1 q, h.2)
def ai_hi (h : ai_H) (a j : Nat) : Int32 := h.1 a j
def ai_hr (h : ai_H) (a j : Nat) : Option Nat := h.2.2.1 a j
def ai_kd (h : ai_H) (a : Nat) : Nat × Nat := h.2.2.2.1 a
/-- the next number for a cell that is made outside of constructors -/
def ai_dn (h : ai_H) : Nat := 128 * h.2.2.2.2.1
def ai_new (h : ai_H) (n : Nat) (kd : Nat × Nat) (slots : Nat) : ai_H :=
  (fun q => if q = n then fun _ => 0 else h.1 q, fun q => if q = n then 0 else h.2.1 q, fun q i => if q = n then none else h.2.2.1 q i, ai_uK h.2.2.2.1 n kd, h.2.2.2.2.1 + 1, h.2.2.2.2.2.1 + 1, h.2.2.2.2.2.2 + slots)
/-- the name of a cell that is made at a place: in a constructor the path of the field that it will stand in, by the place; else the next number -/
def ai_nw (ct : Option (List (Nat × Nat))) (pc : Nat) (L : List (Option ai_V)) (h : ai_H) (f : Nat → Option ai_R) : Option ai_R := match ct with
  | none => f (ai_dn h)
  | some hs => match ai_lk hs pc with
    | none => f (ai_dn h)
    | some j => match L with
      | some (.inr (.inr (_, _, a))) :: _ => bif Nat.blt j 127 then (if h.2.2.2.1 (ai_ch a j) = (0, 0) then f (ai_ch a j) else none) else none
      | _ => none
/-- an index in its row -/
def ai_ix (i : Int32) (n : Nat) (f : Nat → Option ai_R) : Option ai_R := if 0 ≤ i.toInt ∧ i.toInt < n then f i.toNatClampNeg else none
def ai_bi (o : Option ai_R) (f : Int32 → ai_H → Option ai_R) : Option ai_R := match o with
  | some ([.inl v], h) => f v h
  | _ => none
def ai_bv (o : Option ai_R) (f : ai_H → Option ai_R) : Option ai_R := match o with
  | some ([], h) => f h
  | _ => none
def ai_br (o : Option ai_R) (f : Nat → Nat → Nat → ai_H → Option ai_R) : Option ai_R := match o with
  | some ([.inr (.inr (t, n, a))], h) => f t n a h
  | _ => none
def ai_oo (o : Option Nat) (f : Nat → Option ai_R) : Option ai_R := match o with
  | some y => f y
  | none => none
def ai_on (o : Option Nat) (f : Nat → Option ai_R) (g : Option ai_R) : Option ai_R := match o with
  | some y => f y
  | none => g
def ai_max (x y : Int32) : Int32 := if x < y then y else x
def ai_min (x y : Int32) : Int32 := if y < x then y else x
def ai_abs (x : Int32) : Int32 := if 0 ≤ x then x else 0 - x
def ai_rem (x y : Int32) : Int32 := x - x / y * y
def ai_ushr (x y : Int32) : Int32 := (x.toUInt32 >>> (y.toUInt32 &&& Int32.toUInt32 31)).toInt32
def ai_cp (sp dp n : Int32) (n0 n1 : Nat) (o : Option ai_R) : Option ai_R := if ¬ sp < 0 ∧ ¬ dp < 0 ∧ ¬ n < 0 ∧ sp.toNatClampNeg + n.toNatClampNeg ≤ n0 ∧ dp.toNatClampNeg + n.toNatClampNeg ≤ n1 then o else none
def ai_b01 (v : Int32) (a : Option ai_R) : Option ai_R := if v = 0 ∨ v = 1 then a else none
def ai_push (n : Nat) (v : ai_V) (st : ai_S) (k : ai_K) : Option ai_R := match st with
  | (pc, L, S, h) => k (pc + n, L, v :: S, h)
def ai_ild (n i : Nat) (st : ai_S) (k : ai_K) : Option ai_R := match st with
  | (pc, L, S, h) => match ai_nth L i with
    | some (some (.inl v)) => k (pc + n, L, .inl v :: S, h)
    | _ => none
def ai_lld (n i : Nat) (st : ai_S) (k : ai_K) : Option ai_R := match st with
  | (pc, L, S, h) => match ai_nth L i with
    | some (some (.inr (.inl v))) => k (pc + n, L, .inr (.inl v) :: S, h)
    | _ => none
def ai_ald (n i : Nat) (st : ai_S) (k : ai_K) : Option ai_R := match st with
  | (pc, L, S, h) => match ai_nth L i with
    | some (some (.inr (.inr (t, l, a)))) => k (pc + n, L, .inr (.inr (t, l, a)) :: S, h)
    | _ => none
def ai_ist (n i : Nat) (st : ai_S) (k : ai_K) : Option ai_R := match st with
  | (pc, L, .inl v :: S, h) => bif Nat.blt i L.length then k (pc + n, ai_put L i (some (.inl v)), S, h) else none
  | _ => none
def ai_ast (n i : Nat) (st : ai_S) (k : ai_K) : Option ai_R := match st with
  | (pc, L, .inr (.inr (t, l, a)) :: S, h) => bif Nat.blt i L.length then k (pc + n, ai_put L i (some (.inr (.inr (t, l, a)))), S, h) else none
  | _ => none
def ai_iinc (i : Nat) (c : Int) (st : ai_S) (k : ai_K) : Option ai_R := match st with
  | (pc, L, S, h) => match ai_nth L i with
    | some (some (.inl v)) => bif Nat.blt i L.length then k (pc + 3, ai_put L i (some (.inl (v + Int32.ofInt c))), S, h) else none
    | _ => none
def ai_bin (f : Int32 → Int32 → Int32) (st : ai_S) (k : ai_K) : Option ai_R := match st with
  | (pc, L, .inl y :: .inl x :: S, h) => k (pc + 1, L, .inl (f x y) :: S, h)
  | _ => none
def ai_binD (f : Int32 → Int32 → Int32) (st : ai_S) (k : ai_K) : Option ai_R := match st with
  | (pc, L, .inl y :: .inl x :: S, h) => if y = 0 then none else k (pc + 1, L, .inl (f x y) :: S, h)
  | _ => none
def ai_binL (f : Int64 → Int64 → Int64) (st : ai_S) (k : ai_K) : Option ai_R := match st with
  | (pc, L, .inr (.inl y) :: .inr (.inl x) :: S, h) => k (pc + 1, L, .inr (.inl (f x y)) :: S, h)
  | _ => none
def ai_un (f : Int32 → Int32) (st : ai_S) (k : ai_K) : Option ai_R := match st with
  | (pc, L, .inl x :: S, h) => k (pc + 1, L, .inl (f x) :: S, h)
  | _ => none
def ai_i2l (st : ai_S) (k : ai_K) : Option ai_R := match st with
  | (pc, L, .inl x :: S, h) => k (pc + 1, L, .inr (.inl x.toInt64) :: S, h)
  | _ => none
def ai_lcmp (st : ai_S) (k : ai_K) : Option ai_R := match st with
  | (pc, L, .inr (.inl y) :: .inr (.inl x) :: S, h) => k (pc + 1, L, .inl (lg_cmp x y) :: S, h)
  | _ => none
def ai_tg (pc : Nat) (off : Int) : Nat := ((pc : Int) + off).toNat
def ai_if (c : ClassFile.Cond) (x y : Int32) (a b : Option ai_R) : Option ai_R := match c with
  | .eq => if x = y then a else b
  | .ne => if x = y then b else a
  | .lt => if x < y then a else b
  | .ge => if y ≤ x then a else b
  | .gt => if y < x then a else b
  | .le => if x ≤ y then a else b
def ai_icmp (c : ClassFile.Cond) (off : Int) (st : ai_S) (k : ai_K) : Option ai_R := match st with
  | (pc, L, .inl y :: .inl x :: S, h) => ai_if c x y (k (ai_tg pc off, L, S, h)) (k (pc + 3, L, S, h))
  | _ => none
def ai_ifz (c : ClassFile.Cond) (off : Int) (st : ai_S) (k : ai_K) : Option ai_R := match st with
  | (pc, L, .inl x :: S, h) => ai_if c x 0 (k (ai_tg pc off, L, S, h)) (k (pc + 3, L, S, h))
  | _ => none
def ai_ifn (yes : Bool) (off : Int) (st : ai_S) (k : ai_K) : Option ai_R := match st with
  | (pc, L, .inr (.inr (t, _, _)) :: S, h) => if t = 0 then k (bif yes then ai_tg pc off else pc + 3, L, S, h) else bif Nat.beq t 11 then none else k (bif yes then pc + 3 else ai_tg pc off, L, S, h)
  | _ => none
def ai_goto (off : Int) (st : ai_S) (k : ai_K) : Option ai_R := match st with
  | (pc, L, S, h) => k (ai_tg pc off, L, S, h)
def ai_sw (d lo : Int) : List Int → Nat → Int → List (Option ai_V) → List ai_V → ai_H → Int32 → ai_K → Option ai_R
  | [], pc, _, L, S, h, _, k => k (ai_tg pc d, L, S, h)
  | o :: os, pc, q, L, S, h, x, k => if x = Int32.ofInt q then k (ai_tg pc o, L, S, h) else ai_sw d lo os pc (q + 1) L S h x k
def ai_tsw (d lo : Int) (os : Array Int) (st : ai_S) (k : ai_K) : Option ai_R := match st with
  | (pc, L, .inl x :: S, h) => ai_sw d lo os.toList pc lo L S h x k
  | _ => none
/-- getfield's value, by the field's row -/
def ai_gf (r : ai_Fr) (h : ai_H) (a : Nat) (f : ai_V → Option ai_R) : Option ai_R := match r with
  | (_, j, 0, _, _) => f (.inl (h.1 a j))
  | (_, j, 1, _, _) => f (.inl (h.1 a j))
  | (_, _, 2, _, _) => f (.inr (.inl (h.2.1 a)))
  | (_, j, 3, x, _) => f (.inr (.inr (20 + x, 0, ai_ch a j)))
  | (_, j, 4, x, n) => f (.inr (.inr (x, n, ai_ch a j)))
  | (_, j, 5, x, _) => f (.inr (.inr (x, (h.2.2.2.1 (ai_ch a j)).2, ai_ch a j)))
  | (_, j, 6, x, _) => ai_oo (h.2.2.1 a j) (fun y => f (.inr (.inr (20 + x, 0, y))))
  | (_, j, 7, x, _) => ai_oo (h.2.2.1 a j) (fun y => f (.inr (.inr (x, (h.2.2.2.1 y).2, y))))
  | (_, _, 8, _, _) => f (.inr (.inr (9, 0, a)))
  | (_, _, 9, _, _) => f (.inl 0)
  | _ => none
/-- the tag that a field's owner has -/
def ai_ft (r : ai_Fr) : Nat := match r with
  | (_, _, 8, _, _) => 6
  | (_, _, 9, _, _) => 6
  | (ci, _) => 20 + ci
def ai_getf (fl : Nat → Option ai_Fr) (idx : Nat) (st : ai_S) (k : ai_K) : Option ai_R := match st with
  | (pc, L, .inr (.inr (t, _, a)) :: S, h) => match fl idx with
    | some r => bif Nat.beq t (ai_ft r) then ai_gf r h a (fun v => k (pc + 3, L, v :: S, h)) else none
    | none => none
  | _ => none
/-- a reference to a cell -/
def ai_isN (t : Nat) : Bool := (Nat.blt 0 t && Nat.blt t 6) || Nat.ble 20 t
/-- what is stored into an object that is being made, by its row -/
def ai_rawP (h : ai_H) (a : Nat) (r : ai_Fr) (v : ai_V) (f : ai_H → Option ai_R) : Option ai_R := match r, v with
  | (_, j, 0, _, _), .inl x => f (ai_st h a j x)
  | (_, j, 1, _, _), .inl x => ai_b01 x (f (ai_st h a j x))
  | (_, _, 2, _, _), .inr (.inl x) => f (ai_stL h a x)
  | (_, j, 3, _, _), .inr (.inr (t', _, y)) => bif ai_isN t' then f (ai_stR h a j (some y)) else none
  | (_, j, 4, _, _), .inr (.inr (t', _, y)) => bif ai_isN t' then f (ai_stR h a j (some y)) else none
  | (_, j, 5, _, _), .inr (.inr (t', _, y)) => bif ai_isN t' then f (ai_stR h a j (some y)) else none
  | (_, j, 6, _, _), .inr (.inr (t', _, y)) => bif ai_isN t' then f (ai_stR h a j (some y)) else none
  | (_, j, 7, _, _), .inr (.inr (t', _, y)) => bif ai_isN t' then f (ai_stR h a j (some y)) else none
  | _, _ => none
def ai_putf (ct : Option (List (Nat × Nat))) (fl : Nat → Option ai_Fr) (idx : Nat) (st : ai_S) (k : ai_K) : Option ai_R := match st with
  | (pc, L, v :: .inr (.inr (t, _, a)) :: S, h) => match fl idx with
    | some r => bif Nat.beq t (20 + r.1) then (match r, v with
      | (_, j, 0, _, _), .inl x => k (pc + 3, L, S, ai_st h a j x)
      | (_, j, 1, _, _), .inl x => ai_b01 x (k (pc + 3, L, S, ai_st h a j x))
      | (_, _, 2, _, _), .inr (.inl x) => k (pc + 3, L, S, ai_stL h a x)
      | (_, j, 6, x, _), .inr (.inr (t, _, y)) => if t = 20 + x then k (pc + 3, L, S, ai_stR h a j (some y)) else none
      | _, _ => none) else (bif ct.isSome && Nat.beq t (40 + r.1) then (if (h.2.2.2.1 a).1 = t then ai_rawP h a r v (fun h => k (pc + 3, L, S, h)) else none) else none)
    | none => none
  | _ => none
def ai_pow : List Int32 := [1, 6, 36, 216, 1296, 7776]
def ai_iald (sc : Option (Nat × (Nat → Int32))) (st : ai_S) (k : ai_K) : Option ai_R := match st with
  | (pc, L, .inl i :: .inr (.inr (1, n, a)) :: S, h) => ai_ix i n (fun j => k (pc + 1, L, .inl (h.1 a j) :: S, h))
  | (pc, L, .inl i :: .inr (.inr (7, _, _)) :: S, h) => ai_ix i 6 (fun j => k (pc + 1, L, .inl (ai_pow.getD j 0) :: S, h))
  | (pc, L, .inl i :: .inr (.inr (8, _, _)) :: S, h) => match sc with
    | some xs => ai_ix i xs.1 (fun j => k (pc + 1, L, .inl (xs.2 j) :: S, h))
    | none => none
  | _ => none
def ai_bald (st : ai_S) (k : ai_K) : Option ai_R := match st with
  | (pc, L, .inl i :: .inr (.inr (2, n, a)) :: S, h) => ai_ix i n (fun j => k (pc + 1, L, .inl (h.1 a j) :: S, h))
  | (pc, L, .inl i :: .inr (.inr (3, n, a)) :: S, h) => ai_ix i n (fun j => k (pc + 1, L, .inl (h.1 a j) :: S, h))
  | (pc, L, .inl i :: .inr (.inr (9, _, a)) :: S, h) => ai_ix i (ai_txts.getD a []).length (fun j => k (pc + 1, L, .inl ((ai_txts.getD a []).getD j 0) :: S, h))
  | _ => none
def ai_aald (st : ai_S) (k : ai_K) : Option ai_R := match st with
  | (pc, L, .inl i :: .inr (.inr (4, n, a)) :: S, h) => ai_ix i n (fun j => ai_on (h.2.2.1 a j) (fun y => k (pc + 1, L, .inr (.inr (24, 0, y)) :: S, h)) (k (pc + 1, L, .inr (.inr (0, 0, 0)) :: S, h)))
  | (pc, L, .inl i :: .inr (.inr (5, n, a)) :: S, h) => ai_ix i n (fun j => ai_on (h.2.2.1 a j) (fun y => k (pc + 1, L, .inr (.inr (28, 0, y)) :: S, h)) (k (pc + 1, L, .inr (.inr (0, 0, 0)) :: S, h)))
  | _ => none
def ai_iast (st : ai_S) (k : ai_K) : Option ai_R := match st with
  | (pc, L, .inl x :: .inl i :: .inr (.inr (1, n, a)) :: S, h) => ai_ix i n (fun j => k (pc + 1, L, S, ai_st h a j x))
  | _ => none
def ai_bast (st : ai_S) (k : ai_K) : Option ai_R := match st with
  | (pc, L, .inl x :: .inl i :: .inr (.inr (2, n, a)) :: S, h) => ai_ix i n (fun j => k (pc + 1, L, S, ai_st h a j (vp_nar .byte x)))
  | (pc, L, .inl x :: .inl i :: .inr (.inr (3, n, a)) :: S, h) => ai_ix i n (fun j => k (pc + 1, L, S, ai_st h a j (vp_nar .boolean x)))
  | _ => none
def ai_aast (st : ai_S) (k : ai_K) : Option ai_R := match st with
  | (pc, L, .inr (.inr (t, _, y)) :: .inl i :: .inr (.inr (4, n, a)) :: S, h) => if t = 24 then ai_ix i n (fun j => k (pc + 1, L, S, ai_stR h a j (some y))) else none
  | (pc, L, .inr (.inr (t, _, y)) :: .inl i :: .inr (.inr (5, n, a)) :: S, h) => if t = 28 then ai_ix i n (fun j => k (pc + 1, L, S, ai_stR h a j (some y))) else none
  | _ => none
def ai_alen (sc : Option (Nat × (Nat → Int32))) (st : ai_S) (k : ai_K) : Option ai_R := match st with
  | (pc, L, .inr (.inr (8, _, _)) :: S, h) => match sc with
    | some xs => k (pc + 1, L, .inl (nI xs.1) :: S, h)
    | none => none
  | (pc, L, .inr (.inr (9, _, a)) :: S, h) => k (pc + 1, L, .inl (nI (ai_txts.getD a []).length) :: S, h)
  | (pc, L, .inr (.inr (t, n, _)) :: S, h) => bif Nat.blt 0 t && Nat.blt t 6 then k (pc + 1, L, .inl (nI n) :: S, h) else none
  | _ => none
def ai_dup (st : ai_S) (k : ai_K) : Option ai_R := match st with
  | (_, _, .inr (.inl _) :: _, _) => none
  | (pc, L, v :: S, h) => k (pc + 1, L, v :: v :: S, h)
  | _ => none
def ai_dup2 (st : ai_S) (k : ai_K) : Option ai_R := match st with
  | (_, _, .inr (.inl _) :: _, _) => none
  | (_, _, _ :: .inr (.inl _) :: _, _) => none
  | (pc, L, v :: w :: S, h) => k (pc + 1, L, v :: w :: v :: w :: S, h)
  | _ => none
def ai_i2c (x : Int32) : Int32 := (x.toUInt32 % 65536).toInt32
/-- an int answer: of any int (0), of 0 or 1 (1), of a char (2) -/
def ai_ret (b : Nat) (st : ai_S) : Option ai_R := match st with
  | (_, _, [.inl v], h) => match b with
    | 0 => some ([.inl v], h)
    | 1 => ai_b01 v (some ([.inl v], h))
    | _ => if ai_i2c v = v then some ([.inl v], h) else none
  | _ => none
def ai_aret (st : ai_S) : Option ai_R := match st with
  | (_, _, [.inr (.inr (t, n, a))], h) => some ([.inr (.inr (t, n, a))], h)
  | _ => none
def ai_vret (st : ai_S) : Option ai_R := match st with
  | (_, _, [], h) => some ([], h)
  | _ => none
def ai_inv (orc : ai_O) (r : ai_Mr) (pc : Nat) (L : List (Option ai_V)) (As S : List ai_V) (h : ai_H) (k : ai_K) : Option ai_R := match r with
  | (_, mi, _, _, 0) => ai_bv (orc mi As h) (fun h => k (pc + 3, L, S, h))
  | (_, mi, _, _, 1) => ai_bi (orc mi As h) (fun v h => k (pc + 3, L, .inl v :: S, h))
  | (_, mi, _, _, _) => ai_br (orc mi As h) (fun t n a h => k (pc + 3, L, .inr (.inr (t, n, a)) :: S, h))
/-- takes n values off a stack, the deepest first -/
def ai_pops : Nat → List ai_V → List ai_V → Option (List ai_V × List ai_V)
  | 0, S, acc => some (acc, S)
  | n + 1, v :: S, acc => ai_pops n S (v :: acc)
  | _, _, _ => none
def ai_cats : List ai_V → Nat
  | [] => 0
  | .inr (.inl _) :: l => ai_cats l + 2
  | _ :: l => ai_cats l + 1
def ai_rcv (t : Nat) (As : List ai_V) (a : Option ai_R) : Option ai_R := match As with
  | .inr (.inr (t', _, _)) :: _ => if t' = t then a else none
  | _ => none
/-- an int row's copy -/
def ai_dupA (h : ai_H) (a n : Nat) : ai_H := (fun q => if q = ai_dn h then h.1 a else h.1 q, (ai_new h (ai_dn h) (1, n) n).2)
def ai_stK (h : ai_H) (a : Nat) (v : Nat × Nat) : ai_H := (h.1, h.2.1, h.2.2.1, ai_uK h.2.2.2.1 a v, h.2.2.2.2)
/-- whether a field of an object that is whole is well -/
def ai_okb (h : ai_H) (n j : Nat) : Nat × Nat × Nat → Bool
  | (3, x, _) => decide (h.2.2.1 n j = some (ai_ch n j)) && decide (h.2.2.2.1 (ai_ch n j) = (20 + x, 0))
  | (4, x, l) => decide (h.2.2.1 n j = some (ai_ch n j)) && decide (h.2.2.2.1 (ai_ch n j) = (x, l))
  | (5, x, _) => decide (h.2.2.1 n j = some (ai_ch n j)) && decide ((h.2.2.2.1 (ai_ch n j)).1 = x)
  | (6, x, _) => match h.2.2.1 n j with
    | some y => decide ((h.2.2.2.1 y).1 = 20 + x)
    | none => true
  | (7, x, _) => match h.2.2.1 n j with
    | some y => decide ((h.2.2.2.1 y).1 = x)
    | none => true
  | _ => true
def ai_cmpF (h : ai_H) (a : Nat) : Nat → List (Nat × Nat × Nat) → Bool
  | _, [] => true
  | j, q :: l => ai_okb h a j q && ai_cmpF h a (j + 1) l
def ai_cmp (h : ai_H) (a ci : Nat) : Bool := ai_cmpF h a 0 (ai_fkl.getD ci [])
def ai_call (orc : ai_O) (mt : Nat → Option ai_Mr) (kinds : List Nat) (idx : Nat) (st : ai_S) (k : ai_K) : Option ai_R := match st with
  | (pc, L, S, h) => match mt idx with
    | some r => bif ai_mem kinds r.1 && Nat.ble (ai_cats S) 8 then (match r.1 with
      | 0 => match ai_pops r.2.2.1 S [] with
        | some (As, S') => ai_rcv r.2.2.2.1 As (ai_inv orc r pc L As S' h k)
        | none => none
      | 1 => match ai_pops r.2.2.1 S [] with
        | some (As, S') => ai_inv orc r pc L As S' h k
        | none => none
      | 3 => match S with
        | .inl y :: .inl x :: S => k (pc + 3, L, .inl (ai_max x y) :: S, h)
        | _ => none
      | 4 => match S with
        | .inl y :: .inl x :: S => k (pc + 3, L, .inl (ai_min x y) :: S, h)
        | _ => none
      | 5 => match S with
        | .inl x :: S => k (pc + 3, L, .inl (ai_abs x) :: S, h)
        | _ => none
      | 6 => match S with
        | .inl n :: .inl dp :: .inr (.inr (1, n1, b)) :: .inl sp :: .inr (.inr (1, n0, a)) :: S => ai_cp sp dp n n0 n1 (k (pc + 3, L, S, ai_cpy h a sp.toNatClampNeg b dp.toNatClampNeg n.toNatClampNeg))
        | _ => none
      | 7 => match S with
        | .inr (.inr (t, _, _)) :: S => bif ai_isN t then k (pc + 3, L, S, h) else none
        | _ => none
      | 9 => match S with
        | .inr (.inr (1, n, a)) :: S => k (pc + 3, L, .inr (.inr (1, n, ai_dn h)) :: S, ai_dupA h a n)
        | _ => none
      | 10 => match ai_pops r.2.2.1 S [] with
        | some (.inr (.inr (t, l, a)) :: As, .inr (.inr (t', _, a')) :: S') => bif Nat.beq t r.2.2.2.1 && Nat.beq t' t then (if a' = a then ai_bv (orc r.2.1 (.inr (.inr (t, l, a)) :: As) h) (fun h => if (h.2.2.2.1 a).1 = t ∧ ai_cmp h a (t - 40) = true then k (pc + 3, L, .inr (.inr (t - 20, 0, a)) :: S', ai_stK h a (t - 20, 0)) else none) else none) else none
        | _ => none
      | _ => none) else none
    | none => none
def ai_newo (ct : Option (List (Nat × Nat))) (cl : Nat → Option (Nat × Nat)) (idx : Nat) (st : ai_S) (k : ai_K) : Option ai_R := match st with
  | (pc, L, S, h) => match cl idx with
    | some (ci, m) => ai_nw ct pc L h (fun n => k (pc + 3, L, .inr (.inr (40 + ci, 0, n)) :: S, ai_new h n (40 + ci, 0) m))
    | none => none
def ai_mkA (ct : Option (List (Nat × Nat))) (len kk : Nat) (m : Int32) (pc : Nat) (L : List (Option ai_V)) (S : List ai_V) (h : ai_H) (k : ai_K) : Option ai_R := if m < 0 ∨ 30000 < m then none else ai_nw ct pc L h (fun n => k (pc + len, L, .inr (.inr (kk, m.toNatClampNeg, n)) :: S, ai_new h n (kk, m.toNatClampNeg) m.toNatClampNeg))
def ai_newa (ct : Option (List (Nat × Nat))) (kk : Nat) (st : ai_S) (k : ai_K) : Option ai_R := match st with
  | (pc, L, .inl m :: S, h) => ai_mkA ct 2 kk m pc L S h k
  | _ => none
def ai_newA (ct : Option (List (Nat × Nat))) (cl : Nat → Option (Nat × Nat)) (idx : Nat) (st : ai_S) (k : ai_K) : Option ai_R := match st with
  | (pc, L, .inl m :: S, h) => match cl idx with
    | some (ci, _) => bif Nat.beq ci 4 then ai_mkA ct 3 4 m pc L S h k else (bif Nat.beq ci 8 then ai_mkA ct 3 5 m pc L S h k else none)
    | none => none
  | _ => none
def ai_cast (st : ai_S) (k : ai_K) : Option ai_R := match st with
  | (pc, L, .inr (.inr (1, n, a)) :: S, h) => k (pc + 3, L, .inr (.inr (1, n, a)) :: S, h)
  | _ => none
def ai_pop (st : ai_S) (k : ai_K) : Option ai_R := match st with
  | (_, _, .inr (.inl _) :: _, _) => none
  | (pc, L, _ :: S, h) => k (pc + 1, L, S, h)
  | _ => none
/-- a static: the table of powers; a static of the library's that is 1; one that is null or not -/
def ai_gst (o : Option ai_V) (st : ai_S) (k : ai_K) : Option ai_R := match o with
  | some (.inr (.inr (7, _, _))) => ai_push 3 (.inr (.inr (7, 6, 0))) st k
  | some (.inr (.inr (10, _, _))) => ai_push 3 (.inl 1) st k
  | some (.inr (.inr (11, _, _))) => ai_push 3 (.inr (.inr (11, 0, 0))) st k
  | _ => none
def ai_cst (f : ai_V → Bool) (o : Option ai_V) (n : Nat) (st : ai_S) (k : ai_K) : Option ai_R := match o with
  | some v => bif f v then ai_push n v st k else none
  | none => none
def ai_cI : ai_V → Bool
  | .inl _ => true
  | _ => false
def ai_cIS : ai_V → Bool
  | .inl _ => true
  | .inr (.inr (6, _, _)) => true
  | _ => false
def ai_cL : ai_V → Bool
  | .inr (.inl _) => true
  | _ => false
/-- a class's tables: fields, calls, classes made, constants; the script; for a constructor the fields that the cells made in it will stand in, by the place -/
abbrev ai_Tb : Type := (Nat → Option ai_Fr) × (Nat → Option ai_Mr) × (Nat → Option (Nat × Nat)) × (Nat → Option ai_V) × Option (Nat × (Nat → Int32)) × Option (List (Nat × Nat))
def ai_sem (orc : ai_O) (tb : ai_Tb) (rt : Nat) (i : ClassFile.Instr) (st : ai_S) (k : ai_K) : Option ai_R := match i with
  | .iconst n => ai_push 1 (.inl (Int32.ofInt n)) st k
  | .bipush n => ai_push 2 (.inl (Int8.ofInt n).toInt32) st k
  | .sipush n => ai_push 3 (.inl (Int16.ofInt n).toInt32) st k
  | .lconst n => ai_push 1 (.inr (.inl (Int64.ofNat n.val))) st k
  | .aconst_null => ai_push 1 (.inr (.inr (0, 0, 0))) st k
  | .ldc n => ai_cst ai_cIS (tb.2.2.2.1 n) 2 st k
  | .ldc_w n => ai_cst ai_cI (tb.2.2.2.1 n) 3 st k
  | .ldc2_w n => ai_cst ai_cL (tb.2.2.2.1 n) 3 st k
  | .getstatic n => ai_gst (tb.2.2.2.1 n) st k
  | .iload i => ai_ild 2 i st k
  | .iload_n i => ai_ild 1 i.val st k
  | .lload_n i => ai_lld 1 i.val st k
  | .aload i => ai_ald 2 i st k
  | .aload_n i => ai_ald 1 i.val st k
  | .istore i => ai_ist 2 i st k
  | .istore_n i => ai_ist 1 i.val st k
  | .astore i => ai_ast 2 i st k
  | .astore_n i => ai_ast 1 i.val st k
  | .iinc i c => ai_iinc i c st k
  | .iadd => ai_bin (fun x y => x + y) st k
  | .isub => ai_bin (fun x y => x - y) st k
  | .imul => ai_bin (fun x y => x * y) st k
  | .iand => ai_bin (fun x y => x &&& y) st k
  | .ior => ai_bin (fun x y => x ||| y) st k
  | .ixor => ai_bin (fun x y => x ^^^ y) st k
  | .ishl => ai_bin (fun x y => x <<< (y &&& 31)) st k
  | .ishr => ai_bin (fun x y => x >>> (y &&& 31)) st k
  | .iushr => ai_bin ai_ushr st k
  | .idiv => ai_binD (fun x y => x / y) st k
  | .irem => ai_binD ai_rem st k
  | .ineg => ai_un (fun x => -x) st k
  | .i2b => ai_un (fun x => x.toInt8.toInt32) st k
  | .i2l => ai_i2l st k
  | .ladd => ai_binL (fun x y => x + y) st k
  | .lmul => ai_binL (fun x y => x * y) st k
  | .lcmp => ai_lcmp st k
  | .if_icmp c o => ai_icmp c o st k
  | .ifCond c o => ai_ifz c o st k
  | .ifnull o => ai_ifn true o st k
  | .ifnonnull o => ai_ifn false o st k
  | .goto o => ai_goto o st k
  | .tableswitch d lo _ os => ai_tsw d lo os st k
  | .getfield n => ai_getf tb.1 n st k
  | .putfield n => ai_putf tb.2.2.2.2.2 tb.1 n st k
  | .iaload => ai_iald tb.2.2.2.2.1 st k
  | .baload => ai_bald st k
  | .aaload => ai_aald st k
  | .iastore => ai_iast st k
  | .bastore => ai_bast st k
  | .aastore => ai_aast st k
  | .arraylength => ai_alen tb.2.2.2.2.1 st k
  | .dup => ai_dup st k
  | .dup2 => ai_dup2 st k
  | .new n => ai_newo tb.2.2.2.2.2 tb.2.2.1 n st k
  | .newarray .int => ai_newa tb.2.2.2.2.2 1 st k
  | .newarray .byte => ai_newa tb.2.2.2.2.2 2 st k
  | .newarray .boolean => ai_newa tb.2.2.2.2.2 3 st k
  | .anewarray n => ai_newA tb.2.2.2.2.2 tb.2.2.1 n st k
  | .checkcast _ => ai_cast st k
  | .pop => ai_pop st k
  | .i2c => ai_un ai_i2c st k
  | .invokevirtual n => ai_call orc tb.2.1 [0, 9] n st k
  | .invokestatic n => ai_call orc tb.2.1 [1, 3, 4, 5, 6] n st k
  | .invokespecial n => ai_call orc tb.2.1 [7, 10] n st k
  | .ireturn => ai_ret rt st
  | .areturn => ai_aret st
  | .return_ => ai_vret st
  | _ => none
/-- a step of a method's code -/
def ai_step (orc : ai_O) (tb : ai_Tb) (rt : Nat) (cd : List (Nat × ClassFile.Instr)) (st : ai_S) (k : ai_K) : Option ai_R := match ai_lk cd st.1 with
  | some i => ai_sem orc tb rt i st k
  | none => none
def ai_it (orc : ai_O) (tb : ai_Tb) (rt : Nat) (cd : List (Nat × ClassFile.Instr)) : Nat → ai_K
  | 0, _ => none
  | n + 1, st => ai_step orc tb rt cd st (ai_it orc tb rt cd n)
/-- on to the next of the cuts -/
def ai_go (orc : ai_O) (tb : ai_Tb) (rt : Nat) (cd : List (Nat × ClassFile.Instr)) (cut : List Nat) (kont : ai_K) : Nat → ai_K
  | 0, st => kont st
  | n + 1, st => bif ai_mem cut st.1 then kont st else ai_step orc tb rt cd st (ai_go orc tb rt cd cut kont n)
def ai_isSt : ClassFile.Instr → Bool
  | .istore _ => true
  | .istore_n _ => true
  | .astore _ => true
  | .astore_n _ => true
  | .iinc _ _ => true
  | _ => false
def ai_noL : List ai_V → Bool
  | [] => true
  | .inr (.inl _) :: _ => false
  | _ :: l => ai_noL l
def ai_nst : List (Nat × ClassFile.Instr) → Bool
  | [] => true
  | q :: l => bif ai_isSt q.2 then false else ai_nst l
/-- a method by its number: its class's tables, what int it answers (0 any, 1 0 or 1, 2 a char), its locals, its code -/
abbrev ai_Mi : Type := ai_Tb × Nat × Nat × List (Nat × ClassFile.Instr)
/-- locals at a method's entry -/
def ai_ent : Nat → List ai_V → List (Option ai_V)
  | 0, _ => []
  | n + 1, [] => none :: ai_ent n []
  | n + 1, .inl v :: l => some (.inl v) :: ai_ent n l
  | n + 1, .inr (.inr v) :: l => some (.inr (.inr v)) :: ai_ent n l
  | 1, .inr (.inl v) :: _ => [some (.inr (.inl v))]
  | n + 2, .inr (.inl v) :: l => some (.inr (.inl v)) :: none :: ai_ent n l
noncomputable def ai_ex (orc : ai_O) (m : ai_Mi) (st : ai_S) : Option ai_R := @dite _ (∃ n r, ai_it orc m.1 m.2.1 m.2.2.2 n st = some r) (Classical.propDecidable _) (fun h => some (Classical.choose (Classical.choose_spec h))) (fun _ => none)
/-- arguments that a method may have -/
def ai_okA (m : ai_Mi) (As : List ai_V) : Bool := Nat.ble (ai_cats As) m.2.2.1 && (bif ai_noL As then true else ai_nst m.2.2.2)
