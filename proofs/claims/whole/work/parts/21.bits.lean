/-! BITS: sets of small numbers as ints -/
def zB (p : Nat → Prop) [DecidablePred p] : Nat → Nat
  | 0 => 0
  | n + 1 => if p n then zB p n ||| 2 ^ n else zB p n
theorem zB_lt {p : Nat → Prop} [DecidablePred p] : ∀ n, zB p n < 2 ^ n := by
  intro n
  induction n with
  | zero => exact Nat.one_pos
  | succ n ih =>
    have h1 : 2 ^ n < 2 ^ (n + 1) := by rw [Nat.pow_succ]; have := Nat.two_pow_pos n; omega
    unfold zB
    split
    · exact Nat.or_lt_two_pow (by omega) h1
    · omega
theorem zB_tb {p : Nat → Prop} [DecidablePred p] : ∀ n i, (zB p n).testBit i = decide (i < n ∧ p i) := by
  intro n
  induction n with
  | zero => intro i; simp [zB]
  | succ n ih =>
    intro i
    unfold zB
    by_cases hp : p n
    · rw [if_pos hp, Nat.testBit_or, ih, Nat.testBit_two_pow]
      by_cases h1 : n = i
      · subst h1; simp [hp]
      · have : (i < n + 1) ↔ (i < n) := by omega
        simp [h1, this]
    · rw [if_neg hp, ih]
      by_cases h1 : n = i
      · subst h1; simp [hp]
      · have : (i < n + 1) ↔ (i < n) := by omega
        simp [this]
theorem zB_c {p q : Nat → Prop} [DecidablePred p] [DecidablePred q] {n : Nat} (h : ∀ i, i < n → (p i ↔ q i)) : zB p n = zB q n := by
  apply Nat.eq_of_testBit_eq
  intro i
  rw [zB_tb, zB_tb]
  by_cases hi : i < n
  · simp [hi, h i hi]
  · simp [hi]
theorem zB_le {p : Nat → Prop} [DecidablePred p] {n m : Nat} (h : n ≤ m) : zB p n < 2 ^ m := Nat.lt_of_lt_of_le (zB_lt n) (Nat.pow_le_pow_right (by decide) h)
theorem zp31 {n m : Nat} (h : n < 2 ^ m) (hm : m ≤ 31) : n < 2147483648 := Nat.lt_of_lt_of_le h (Nat.le_trans (Nat.pow_le_pow_right (by decide) hm) (by decide))
theorem zB_31 {p : Nat → Prop} [DecidablePred p] {n : Nat} (h : n ≤ 31) : zB p n < 2147483648 := zp31 (zB_lt n) h
theorem z_or (a b : Nat) : nI a ||| nI b = nI (a ||| b) := Int32.toBitVec_inj.mp (by simp [nI])
theorem z_and (a b : Nat) : nI a &&& nI b = nI (a &&& b) := Int32.toBitVec_inj.mp (by simp [nI])
theorem z_xor (a b : Nat) : nI a ^^^ nI b = nI (a ^^^ b) := Int32.toBitVec_inj.mp (by simp [nI])
theorem z_31 {i : Nat} (h : i < 32) : nI i &&& 31 = nI i := by
  rw [pk_andN (by omega) 5 (by decide), Nat.mod_eq_of_lt (by omega)]
theorem z_smod : ∀ i, i < 32 → ((nI i).toBitVec.smod 32).toNat = i := by decide +kernel
/-- a bit -/
theorem z_bit {i : Nat} (h : i < 31) : 1 <<< (nI i &&& 31) = nI (2 ^ i) := by
  have h2 : 2 ^ i < 2 ^ 32 := Nat.pow_lt_pow_right (by decide) (by omega)
  rw [z_31 (by omega), show (1 : Int32) = nI 1 from rfl, pk_shlN _ i (z_smod i (by omega)) (by omega), Nat.one_mul]
theorem z_shr {a i : Nat} (ha : a < 2147483648) (h : i < 32) : nI a >>> (nI i &&& 31) = nI (a / 2 ^ i) := by
  rw [z_31 h, pk_shrN ha _ i (z_smod i h)]
theorem z_and1 (a : Nat) : nI a &&& 1 = nI (a % 2) := by
  rw [show (1 : Int32) = nI 1 from rfl, z_and, show (1 : Nat) = 2 ^ 1 - 1 from rfl, Nat.and_two_pow_sub_one_eq_mod]
theorem z_tbi {a i : Nat} (ha : a < 2147483648) (h : i < 32) : (nI a >>> (nI i &&& 31)) &&& 1 = nI (a.testBit i).toNat := by
  rw [z_shr ha h, z_and1, Nat.testBit_eq_decide_div_mod_eq]
  have : a / 2 ^ i % 2 = 0 ∨ a / 2 ^ i % 2 = 1 := by omega
  rcases this with e | e <;> rw [e] <;> rfl
theorem z_tb0 {a i : Nat} (ha : a < 2147483648) (h : i < 32) : (nI a >>> (nI i &&& 31)) &&& 1 = 0 ↔ a.testBit i = false := by
  rw [z_tbi ha h]
  cases a.testBit i with
  | false => exact ⟨fun _ => rfl, fun _ => rfl⟩
  | true => exact ⟨fun c => absurd c (by decide), fun c => by cases c⟩
/-- the complement -/
theorem z_not {a : Nat} (h : a < 2147483648) : nI a ^^^ (-1) = nI (4294967295 - a) := by
  apply Int32.toBitVec_inj.mp
  apply BitVec.eq_of_getLsbD_eq
  intro i hi
  have h1 : (nI a ^^^ (-1)).toBitVec = (nI a).toBitVec ^^^ (-1 : Int32).toBitVec := Int32.toBitVec_xor _ _
  have h2 : (-1 : Int32).toBitVec = BitVec.allOnes 32 := by decide
  have h3 : (4294967295 - a : Nat) = 2 ^ 32 - (a + 1) := by omega
  rw [h1, h2, h3]
  simp only [nI, Int32.toBitVec_ofNat', BitVec.getLsbD_xor, BitVec.getLsbD_ofNat, BitVec.getLsbD_allOnes]
  rw [Nat.testBit_two_pow_sub_succ (by omega)]
  simp [hi]
theorem z_andn {a b : Nat} (ha : a < 2147483648) (hb : b < 2147483648) : ∃ c, nI a &&& (nI b ^^^ (-1)) = nI c ∧ c ≤ a ∧ ∀ i, c.testBit i = (a.testBit i && !b.testBit i) := by
  refine ⟨a &&& (4294967295 - b), by rw [z_not hb, z_and], Nat.and_le_left, fun i => ?_⟩
  rw [Nat.testBit_and, show (4294967295 - b : Nat) = 2 ^ 32 - (b + 1) by omega, Nat.testBit_two_pow_sub_succ (by omega)]
  by_cases hi : i < 32
  · simp [hi]
  · have : a.testBit i = false := Nat.testBit_lt_two_pow (Nat.lt_of_lt_of_le (show a < 2 ^ 31 from ha) (Nat.pow_le_pow_right (by decide) (by omega)))
    simp [this]
/-- digits of a mask -/
theorem z_dig {k r M d m : Nat} (hd : d < 2 ^ k) (hm : m < 2 ^ k) : (2 ^ k * r + d) &&& (2 ^ k * M + m) = 2 ^ k * (r &&& M) + (d &&& m) := by
  have hdm : d &&& m < 2 ^ k := Nat.and_lt_two_pow _ hm
  apply Nat.eq_of_testBit_eq
  intro i
  rw [Nat.testBit_and, Nat.testBit_two_pow_mul_add _ hd, Nat.testBit_two_pow_mul_add _ hm, Nat.testBit_two_pow_mul_add _ hdm]
  by_cases h : i < k
  · simp [h, Nat.testBit_and]
  · simp [h, Nat.testBit_and]
/-- how many -/
def zcnt (p : Nat → Prop) [DecidablePred p] : Nat → Nat
  | 0 => 0
  | n + 1 => zcnt p n + if p n then 1 else 0
theorem zcnt_le {p : Nat → Prop} [DecidablePred p] : ∀ n, zcnt p n ≤ n := by
  intro n
  induction n with
  | zero => exact Nat.le_refl 0
  | succ n ih => unfold zcnt; split <;> omega
theorem zcnt_c {p q : Nat → Prop} [DecidablePred p] [DecidablePred q] : ∀ {n : Nat}, (∀ i, i < n → (p i ↔ q i)) → zcnt p n = zcnt q n := by
  intro n
  induction n with
  | zero => intro _; rfl
  | succ n ih =>
    intro h
    unfold zcnt
    rw [ih fun i hi => h i (by omega)]
    simp [h n (by omega)]
/-- ones of the lowest n digits -/
def zpc : Nat → Nat → Nat
  | 0, _ => 0
  | n + 1, a => a % 2 + zpc n (a / 2)
theorem zpc_cnt : ∀ n a, zpc n a = zcnt (fun i => a.testBit i = true) n := by
  have K : ∀ n a, zcnt (fun i => a.testBit i = true) (n + 1) = a % 2 + zcnt (fun i => (a / 2).testBit i = true) n := by
    intro n a
    induction n with
    | zero =>
      have : a.testBit 0 = decide (a % 2 = 1) := Nat.testBit_zero ..
      have h2 : a % 2 = 0 ∨ a % 2 = 1 := by omega
      rcases h2 with e | e <;> simp [zcnt, this, e]
    | succ n ih =>
      unfold zcnt
      rw [ih]
      simp only [Nat.testBit_div_two]
      omega
  intro n
  induction n with
  | zero => intro a; rfl
  | succ n ih => intro a; rw [K]; unfold zpc; rw [ih]
def zm5 : Nat → Nat
  | 0 => 0
  | n + 1 => 4 * zm5 n + 1
def zm3 : Nat → Nat
  | 0 => 0
  | n + 1 => 16 * zm3 n + 3
def zmf : Nat → Nat
  | 0 => 0
  | n + 1 => 256 * zmf n + 15
def zs1 : Nat → Nat → Nat
  | 0, _ => 0
  | n + 1, a => 4 * zs1 n (a / 4) + zpc 2 a
def zs2 : Nat → Nat → Nat
  | 0, _ => 0
  | n + 1, a => 16 * zs2 n (a / 16) + zpc 4 a
def zs3 : Nat → Nat → Nat
  | 0, _ => 0
  | n + 1, a => 256 * zs3 n (a / 256) + zpc 8 a
theorem zpc_add : ∀ n m a, zpc (n + m) a = zpc n a + zpc m (a / 2 ^ n) := by
  intro n
  induction n with
  | zero => intro m a; simp [zpc]
  | succ n ih =>
    intro m a
    rw [show n + 1 + m = (n + m) + 1 by omega]
    show a % 2 + zpc (n + m) (a / 2) = a % 2 + zpc n (a / 2) + zpc m (a / 2 ^ (n + 1))
    rw [ih, Nat.div_div_eq_div_mul, Nat.pow_succ, Nat.mul_comm 2]
    omega
theorem zpc_le : ∀ n a, zpc n a ≤ n := fun n a => by rw [zpc_cnt]; exact zcnt_le n
theorem zs1_ok : ∀ n a, (a / 2) &&& zm5 n ≤ a ∧ (a < 4 ^ n → a - ((a / 2) &&& zm5 n) = zs1 n a) := by
  intro n
  induction n with
  | zero =>
    intro a
    refine ⟨by simp [zm5], fun h => ?_⟩
    have : a = 0 := by omega
    subst this; rfl
  | succ n ih =>
    intro a
    obtain ⟨i1, i2⟩ := ih (a / 4)
    have e : (a / 2) &&& zm5 (n + 1) = 4 * ((a / 4 / 2) &&& zm5 n) + a / 2 % 2 := by
      have e1 : a / 2 = 2 ^ 2 * (a / 4 / 2) + a / 2 % 4 := by omega
      rw [e1]
      show _ &&& (2 ^ 2 * zm5 n + 1) = _
      rw [z_dig (by omega) (by decide), ← e1, show (1 : Nat) = 2 ^ 1 - 1 from rfl, Nat.and_two_pow_sub_one_eq_mod]
      omega
    rw [e]
    refine ⟨by omega, fun h => ?_⟩
    have i3 := i2 (by rw [Nat.pow_succ] at h; omega)
    show _ = 4 * zs1 n (a / 4) + zpc 2 a
    simp only [zpc]
    omega
theorem zs2_ok : ∀ n a, (zs1 (2 * n) a &&& zm3 n) + ((zs1 (2 * n) a / 4) &&& zm3 n) = zs2 n a := by
  intro n
  induction n with
  | zero => intro a; simp [zs1, zs2, zm3]
  | succ n ih =>
    intro a
    have h0 := zpc_le 2 a
    have h1 := zpc_le 2 (a / 4)
    have e0 : zs1 (2 * (n + 1)) a = 2 ^ 4 * zs1 (2 * n) (a / 16) + (4 * zpc 2 (a / 4) + zpc 2 a) := by
      show 4 * (4 * zs1 (2 * n) (a / 4 / 4) + zpc 2 (a / 4)) + zpc 2 a = _
      rw [show a / 4 / 4 = a / 16 by omega]
      omega
    have i1 := ih (a / 16)
    rw [e0]
    generalize zs1 (2 * n) (a / 16) = y at *
    have e1 : (2 ^ 4 * y + (4 * zpc 2 (a / 4) + zpc 2 a)) / 4 = 2 ^ 4 * (y / 4) + (4 * (y % 4) + zpc 2 (a / 4)) := by omega
    rw [e1]
    show (_ &&& (2 ^ 4 * zm3 n + 3)) + (_ &&& (2 ^ 4 * zm3 n + 3)) = 16 * zs2 n (a / 16) + zpc 4 a
    rw [z_dig (by omega) (by decide), z_dig (by omega) (by decide), show (3 : Nat) = 2 ^ 2 - 1 from rfl, Nat.and_two_pow_sub_one_eq_mod, Nat.and_two_pow_sub_one_eq_mod, ← i1, zpc_add 2 2 a, show (2 : Nat) ^ 2 = 4 from rfl]
    omega
theorem zs2_m (n a : Nat) : zs2 n a % 16 ≤ 4 := by
  cases n with
  | zero => exact Nat.zero_le _
  | succ n => unfold zs2; have := zpc_le 4 a; omega
theorem zs3_ok : ∀ n a, (zs2 (2 * n) a + zs2 (2 * n) a / 16) &&& zmf n = zs3 n a := by
  intro n
  induction n with
  | zero => intro a; simp [zs2, zs3, zmf]
  | succ n ih =>
    intro a
    have h0 := zpc_le 4 a
    have h1 := zpc_le 4 (a / 16)
    have h2 := zs2_m (2 * n) (a / 256)
    have e0 : zs2 (2 * (n + 1)) a = 256 * zs2 (2 * n) (a / 256) + (16 * zpc 4 (a / 16) + zpc 4 a) := by
      show 16 * (16 * zs2 (2 * n) (a / 16 / 16) + zpc 4 (a / 16)) + zpc 4 a = _
      rw [show a / 16 / 16 = a / 256 by omega]
      omega
    have i1 := ih (a / 256)
    rw [e0]
    generalize zs2 (2 * n) (a / 256) = y at *
    have e1 : 256 * y + (16 * zpc 4 (a / 16) + zpc 4 a) + (256 * y + (16 * zpc 4 (a / 16) + zpc 4 a)) / 16 = 2 ^ 8 * (y + y / 16) + (16 * (zpc 4 (a / 16) + y % 16) + (zpc 4 a + zpc 4 (a / 16))) := by omega
    rw [e1]
    show _ &&& (2 ^ 8 * zmf n + 15) = 256 * zs3 n (a / 256) + zpc 8 a
    rw [z_dig (by omega) (by decide), show (15 : Nat) = 2 ^ 4 - 1 from rfl, Nat.and_two_pow_sub_one_eq_mod, i1, zpc_add 4 4 a, show (2 : Nat) ^ 4 = 16 from rfl]
    omega
theorem z_swar {a : Nat} (h : a < 4294967296) : ∃ v1 v2 v3, (a / 2) &&& 1431655765 ≤ a ∧ v1 = a - ((a / 2) &&& 1431655765) ∧ v1 < 4294967296 ∧ v2 = (v1 &&& 858993459) + ((v1 / 4) &&& 858993459) ∧ v2 < 4294967296 ∧ v3 = (v2 + v2 / 16) &&& 252645135 ∧ v3 < 4294967296 ∧ v2 + v2 / 16 < 4294967296 ∧ v3 + v3 / 256 < 4294967296 ∧ (v3 + v3 / 256 + (v3 + v3 / 256) / 65536) % 64 = zpc 32 a := by
  obtain ⟨a1, a2⟩ := zs1_ok 16 a
  have a3 := a2 h
  have b1 : (zs1 16 a &&& zm3 8) + ((zs1 16 a / 4) &&& zm3 8) = zs2 8 a := zs2_ok 8 a
  have c1 : (zs2 8 a + zs2 8 a / 16) &&& zmf 4 = zs3 4 a := zs3_ok 4 a
  have e3 : zs3 4 a = zpc 8 a + 256 * (zpc 8 (a / 256) + 256 * (zpc 8 (a / 65536) + 256 * zpc 8 (a / 16777216))) := by
    show 256 * (256 * (256 * (256 * 0 + zpc 8 (a / 256 / 256 / 256)) + zpc 8 (a / 256 / 256)) + zpc 8 (a / 256)) + zpc 8 a = _
    simp only [Nat.div_div_eq_div_mul, Nat.reduceMul]
    omega
  have ep : zpc 32 a = zpc 8 a + zpc 8 (a / 256) + zpc 8 (a / 65536) + zpc 8 (a / 16777216) := by
    rw [zpc_add 8 24, zpc_add 8 16, zpc_add 8 8]
    simp only [Nat.div_div_eq_div_mul, Nat.reduceMul, Nat.reducePow]
    omega
  have q0 := zpc_le 8 a
  have q1 := zpc_le 8 (a / 256)
  have q2 := zpc_le 8 (a / 65536)
  have q3 := zpc_le 8 (a / 16777216)
  have m5 : zm5 16 = 1431655765 := rfl
  have m3 : zm3 8 = 858993459 := rfl
  have mf : zmf 4 = 252645135 := rfl
  rw [m5] at a1 a3
  rw [m3] at b1
  rw [mf] at c1
  have l3 : zs1 16 a &&& 858993459 ≤ 858993459 := Nat.and_le_right
  have l4 : zs1 16 a / 4 &&& 858993459 ≤ 858993459 := Nat.and_le_right
  refine ⟨zs1 16 a, zs2 8 a, zs3 4 a, a1, a3.symm, by omega, b1.symm, by omega, c1.symm, by omega, by omega, by omega, ?_⟩
  generalize zpc 8 a = c0 at *
  generalize zpc 8 (a / 256) = c1 at *
  generalize zpc 8 (a / 65536) = c2 at *
  generalize zpc 8 (a / 16777216) = c3 at *
  rw [ep, e3]
  have d1 : (c0 + 256 * (c1 + 256 * (c2 + 256 * c3))) / 256 = c1 + 256 * (c2 + 256 * c3) := by omega
  rw [d1]
  have d2 : (c0 + 256 * (c1 + 256 * (c2 + 256 * c3)) + (c1 + 256 * (c2 + 256 * c3))) / 65536 = (c2 + c3) + 256 * c3 := by omega
  rw [d2]
  omega
