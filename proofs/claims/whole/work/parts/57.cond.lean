/-! THE LAW: a condition's step -/
theorem nI_div {a b : Nat} (ha : a < 2147483648) (hb : b < 2147483648) : nI a / nI b = nI (a / b) := by
  have h1 : a / b < 2147483648 := Nat.lt_of_le_of_lt (Nat.div_le_self a b) ha
  rw [z_eq, Int32.toInt_div_of_ne_left, z_T ha, z_T hb, z_T h1, Int.tdiv_eq_ediv_of_nonneg (by omega)]
  · rfl
  · intro q
    rw [z_eq, z_T ha] at q
    have : (Int32.minValue).toInt = -2147483648 := rfl
    omega
theorem nI_rem {a b : Nat} (ha : a < 2147483648) (hb : b < 2147483648) : ai_rem (nI a) (nI b) = nI (a % b) := by
  unfold ai_rem
  have h1 : a / b < 2147483648 := Nat.lt_of_le_of_lt (Nat.div_le_self a b) ha
  have h2 : a / b * b ≤ a := Nat.div_mul_le_self a b
  have h3 : b * (a / b) + a % b = a := Nat.div_add_mod a b
  have h4 : a / b * b = b * (a / b) := Nat.mul_comm _ _
  have e : nI (a / b) * nI b = nI (a / b * b) := by
    have q : ((a / b : Nat) : Int) * (b : Int) = ((a / b * b : Nat) : Int) := (Int.natCast_mul _ _).symm
    rw [z_eq, z_mul] <;> rw [z_T h1, z_T hb, q] <;> (try rw [z_T (show a / b * b < 2147483648 by omega)]) <;> omega
  rw [nI_div ha hb, e, nI_subN h2 ha]
  congr 1
  omega
/-- a step's condition over a tap's facts -/
def zcond (F : Int32) (o v : Nat) : Bool := if o = 0 then decide (F < nI v) else if o = 1 then decide (nI v < F) else decide (F = nI v)
theorem X35 {h : ai_H} {b1 f o v : Nat} (d : Nat) (hf : f < 11) (ho : o < 3) (hv : v < 100000) : ai_X (d + 1) 35 [.inl (nI ((f * 3 + o) * 100000 + v)), .inr (.inr (1, 11, b1))] h = some ([.inl (zb (zcond (h.1 b1 f) o v = true))], h) := by
  have l1 : (100000 : Int32) = nI 100000 := rfl
  have l3 : (3 : Int32) = nI 3 := rfl
  have n1 : ¬ (100000 : Int32) = 0 := by decide
  have n3 : ¬ (3 : Int32) = 0 := by decide
  have e1 : nI ((f * 3 + o) * 100000 + v) / 100000 = nI (f * 3 + o) := by
    rw [l1, nI_div (by omega) (by omega)]
    congr 1
    omega
  have e2 : nI (f * 3 + o) / 3 = nI f := by
    rw [l3, nI_div (by omega) (by omega)]
    congr 1
    omega
  have e3 : ai_rem (nI (f * 3 + o)) 3 = nI o := by
    rw [l3, nI_rem (by omega) (by omega)]
    congr 1
    omega
  have e4 : ai_rem (nI ((f * 3 + o) * 100000 + v)) 100000 = nI v := by
    rw [l1, nI_rem (by omega) (by omega)]
    congr 1
    omega
  have ix : ∀ g : Nat → Option ai_R, ai_ix (nI f) 11 g = g f := fun g => z_ix hf (by decide)
  rw [T35, if_neg n1, if_neg n1, if_neg n3, if_neg n1, if_neg n3]
  simp only [e1, e2, e3, e4, z_b0, z_b1, ix]
  have p1 : ¬ nI f < 0 := nI_pos (by omega)
  have p2 : nI f < nI 11 := by rw [nI_ltI (by omega) (by omega)]; omega
  rw [if_neg p1, if_pos p2]
  unfold zcond
  rcases (show o = 0 ∨ o = 1 ∨ o = 2 by omega) with rfl | rfl | rfl
  · rw [if_pos (show nI 0 = 0 from rfl), if_pos rfl]
    by_cases c : nI v ≤ h.1 b1 f
    · rw [if_pos c, zb_f]
      rw [decide_eq_true_eq, z_lt]
      rw [z_le] at c
      omega
    · rw [if_neg c, zb_t]
      rw [decide_eq_true_eq, z_lt]
      rw [z_le] at c
      omega
  · rw [if_neg (show ¬ nI 1 = 0 by decide), if_pos (show nI 1 = 1 from rfl), if_neg (show ¬ 1 = 0 by decide), if_pos rfl]
    by_cases c : h.1 b1 f ≤ nI v
    · rw [if_pos c, zb_f]
      rw [decide_eq_true_eq, z_lt]
      rw [z_le] at c
      omega
    · rw [if_neg c, zb_t]
      rw [decide_eq_true_eq, z_lt]
      rw [z_le] at c
      omega
  · rw [if_neg (show ¬ nI 2 = 0 by decide), if_neg (show ¬ nI 2 = 1 by decide), if_neg (show ¬ 2 = 0 by decide), if_neg (show ¬ 2 = 1 by decide)]
    by_cases c : h.1 b1 f = nI v
    · rw [if_pos c, zb_t (by rw [decide_eq_true_eq]; exact c)]
    · rw [if_neg c, zb_f (by rw [decide_eq_true_eq]; exact c)]
