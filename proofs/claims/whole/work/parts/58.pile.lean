/-! THE LAW: the pile of a condition as an int -/
def zpl : List Bool → Nat
  | [] => 1
  | b :: s => 2 * zpl s + b.toNat
theorem zpl_lt : ∀ s : List Bool, 1 ≤ zpl s ∧ zpl s < 2 ^ (s.length + 1) := by
  intro s
  induction s with
  | nil => exact ⟨Nat.le_refl _, by decide⟩
  | cons b s ih =>
    have hb : b.toNat ≤ 1 := by cases b <;> decide
    have e : 2 ^ ((b :: s).length + 1) = 2 * 2 ^ (s.length + 1) := by
      show 2 ^ (s.length + 1 + 1) = _
      rw [Nat.pow_succ, Nat.mul_comm]
    rw [e]
    show 1 ≤ 2 * zpl s + b.toNat ∧ 2 * zpl s + b.toNat < _
    omega
theorem zpl_31 {s : List Bool} (h : s.length ≤ 29) : zpl s < 1073741824 := Nat.lt_of_lt_of_le (zpl_lt s).2 (Nat.le_trans (Nat.pow_le_pow_right (by decide) (show s.length + 1 ≤ 30 by omega)) (by decide))
theorem zpl_top {b : Bool} {s : List Bool} : zpl (b :: s) % 2 = b.toNat ∧ zpl (b :: s) / 2 = zpl s := by
  have hb : b.toNat ≤ 1 := by cases b <;> decide
  show (2 * zpl s + b.toNat) % 2 = b.toNat ∧ (2 * zpl s + b.toNat) / 2 = zpl s
  omega
theorem z_sh1 {a : Nat} (ha : a < 2147483648) : nI a >>> ((1 : Int32) &&& 31) = nI (a / 2) := z_shr (i := 1) ha (by decide)
theorem z_sl1 {a : Nat} (ha : a < 1073741824) : nI a <<< ((1 : Int32) &&& 31) = nI (2 * a) := by
  have e : (1 : Int32) &&& 31 = nI 1 := rfl
  rw [e, pk_shlN _ 1 (z_smod 1 (by decide)) (by omega)]
  congr 1
  omega
/-- push -/
theorem zpl_push {b : Bool} {s : List Bool} (h : s.length ≤ 28) : (nI (zpl s) <<< ((1 : Int32) &&& 31)) ||| (if b = true then 1 else 0) = nI (zpl (b :: s)) := by
  rw [z_sl1 (zpl_31 (by omega))]
  cases b with
  | false => rw [if_neg (by decide), Int32.or_zero]; rfl
  | true =>
    rw [if_pos rfl, show (1 : Int32) = nI 1 from rfl, z_or]
    congr 1
    show 2 * zpl s ||| 1 = 2 * zpl s + 1
    apply Nat.eq_of_testBit_eq
    intro i
    cases i with
    | zero => simp
    | succ i =>
      rw [Nat.testBit_or, Nat.testBit_succ, Nat.testBit_succ, Nat.testBit_succ, show 2 * zpl s / 2 = zpl s by omega, show (2 * zpl s + 1) / 2 = zpl s by omega, show 1 / 2 = 0 by decide, Nat.zero_testBit, Bool.or_false]
/-- not -/
theorem zpl_not {b : Bool} {s : List Bool} : nI (zpl (b :: s)) ^^^ 1 = nI (zpl ((!b) :: s)) := by
  rw [show (1 : Int32) = nI 1 from rfl, z_xor]
  congr 1
  show (2 * zpl s + b.toNat) ^^^ 1 = 2 * zpl s + (!b).toNat
  apply Nat.eq_of_testBit_eq
  intro i
  have hb : b.toNat ≤ 1 := by cases b <;> decide
  have hb2 : (!b).toNat ≤ 1 := by cases b <;> decide
  cases i with
  | zero => cases b <;> simp
  | succ i =>
    rw [Nat.testBit_xor, Nat.testBit_succ, Nat.testBit_succ, Nat.testBit_succ, show (2 * zpl s + b.toNat) / 2 = zpl s by omega, show (2 * zpl s + (!b).toNat) / 2 = zpl s by omega, show 1 / 2 = 0 by decide, Nat.zero_testBit, Bool.xor_false]
/-- or -/
theorem zpl_or {b c : Bool} {s : List Bool} (h : s.length ≤ 27) : (nI (zpl (b :: c :: s)) >>> ((1 : Int32) &&& 31)) ||| (nI (zpl (b :: c :: s)) &&& 1) = nI (zpl ((c || b) :: s)) := by
  have l : zpl (b :: c :: s) < 1073741824 := zpl_31 (by show s.length + 1 + 1 ≤ 29; omega)
  obtain ⟨t1, t2⟩ := zpl_top (b := b) (s := c :: s)
  rw [z_sh1 (by omega), z_and1, t1, t2, z_or]
  congr 1
  cases b with
  | false =>
    show zpl (c :: s) ||| 0 = _
    rw [Nat.or_zero, Bool.or_false]
  | true =>
    show (2 * zpl s + c.toNat) ||| 1 = 2 * zpl s + (c || true).toNat
    have hb : c.toNat ≤ 1 := by cases c <;> decide
    apply Nat.eq_of_testBit_eq
    intro i
    cases i with
    | zero => cases c <;> simp
    | succ i =>
      have e : (c || true).toNat = 1 := by cases c <;> rfl
      rw [e, Nat.testBit_or, Nat.testBit_succ, Nat.testBit_succ, Nat.testBit_succ, show (2 * zpl s + c.toNat) / 2 = zpl s by omega, show (2 * zpl s + 1) / 2 = zpl s by omega, show 1 / 2 = 0 by decide, Nat.zero_testBit, Bool.or_false]
/-- and -/
theorem zpl_and {b c : Bool} {s : List Bool} (h : s.length ≤ 27) : (nI (zpl (b :: c :: s)) >>> ((1 : Int32) &&& 31)) &&& ((-2) ||| (nI (zpl (b :: c :: s)) &&& 1)) = nI (zpl ((c && b) :: s)) := by
  have l : zpl (b :: c :: s) < 1073741824 := zpl_31 (by show s.length + 1 + 1 ≤ 29; omega)
  have l2 : zpl (c :: s) < 1073741824 := zpl_31 (by show s.length + 1 ≤ 29; omega)
  obtain ⟨t1, t2⟩ := zpl_top (b := b) (s := c :: s)
  rw [z_sh1 (by omega), z_and1, t1, t2]
  cases b with
  | false =>
    have e : (-2 : Int32) ||| nI (false.toNat) = nI 1 ^^^ (-1) := by decide
    obtain ⟨y, y1, y2, y3⟩ := z_andn (a := zpl (c :: s)) (b := 1) (by omega) (by decide)
    rw [e, y1]
    congr 1
    apply Nat.eq_of_testBit_eq
    intro i
    rw [y3, Bool.and_false]
    show ((2 * zpl s + c.toNat).testBit i && !Nat.testBit 1 i) = (2 * zpl s + 0).testBit i
    have hb : c.toNat ≤ 1 := by cases c <;> decide
    cases i with
    | zero => simp
    | succ i =>
      rw [Nat.testBit_succ, Nat.testBit_succ, Nat.testBit_succ, show (2 * zpl s + c.toNat) / 2 = zpl s by omega, show (2 * zpl s + 0) / 2 = zpl s by omega, show 1 / 2 = 0 by decide, Nat.zero_testBit]
      simp
  | true =>
    have e : (-2 : Int32) ||| nI (true.toNat) = -1 := by decide
    rw [e, Bool.and_true, Int32.and_neg_one]
