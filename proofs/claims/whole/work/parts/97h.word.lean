/-! WORDS: the class's -/
theorem z_nj {h : ai_H} {a j k : Nat} {v : Int32} (n : k ≠ j) : (ai_st h a j v).1 a k = h.1 a k := by rw [z_st1, if_neg (fun c => n c.2)]
theorem zl41 : (41 : Int32).toInt = 41 := rfl
theorem z_10 : ((1 : Int32) = 0) = False := eq_false (by decide)
theorem z_00 : ((0 : Int32) = 0) = True := eq_true rfl
def z27 (B : Nat → Nat) (s : Nat) : Nat → Nat
  | 0 => 0
  | k + 1 => z27 B s k * 27 + (B (s + k) - 96)
theorem z27_inj {B C : Nat → Nat} {s t : Nat} : ∀ k l, (∀ i, i < k → 97 ≤ B (s + i) ∧ B (s + i) ≤ 122) → (∀ i, i < l → 97 ≤ C (t + i) ∧ C (t + i) ≤ 122) → z27 B s k = z27 C t l → k = l ∧ ∀ i, i < k → B (s + i) = C (t + i) := by
  intro k
  induction k with
  | zero =>
    intro l hB hC e
    cases l with
    | zero => exact ⟨rfl, fun i hi => absurd hi (Nat.not_lt_zero _)⟩
    | succ l =>
      exfalso
      have e : 0 = z27 C t l * 27 + (C (t + l) - 96) := e
      have := hC l (by omega)
      omega
  | succ k ih =>
    intro l hB hC e
    cases l with
    | zero =>
      exfalso
      have e : z27 B s k * 27 + (B (s + k) - 96) = 0 := e
      have := hB k (by omega)
      omega
    | succ l =>
      have e : z27 B s k * 27 + (B (s + k) - 96) = z27 C t l * 27 + (C (t + l) - 96) := e
      have b1 := hB k (by omega)
      have c1 := hC l (by omega)
      obtain ⟨e1, e2⟩ := ih l (fun i hi => hB i (by omega)) (fun i hi => hC i (by omega)) (by omega)
      subst e1
      refine ⟨rfl, fun i hi => ?_⟩
      by_cases c : i = k
      · subst c; omega
      · exact e2 i (by omega)
theorem z27_c {B C : Nat → Nat} {s t : Nat} : ∀ k, (∀ i, i < k → B (s + i) = C (t + i)) → z27 B s k = z27 C t k := by
  intro k
  induction k with
  | zero => intro _; rfl
  | succ k ih =>
    intro h
    show z27 B s k * 27 + (B (s + k) - 96) = z27 C t k * 27 + (C (t + k) - 96)
    rw [ih (fun i hi => h i (by omega)), h k (by omega)]
theorem z27_lt {B : Nat → Nat} {s : Nat} (h : ∀ i, B i < 256) : ∀ k, (∀ i, i < k → B (s + i) ≤ 122) → z27 B s k < 27 ^ k := by
  intro k
  induction k with
  | zero => intro _; exact Nat.one_pos
  | succ k ih =>
    intro hk
    show z27 B s k * 27 + (B (s + k) - 96) < 27 ^ (k + 1)
    have := ih (fun i hi => hk i (by omega))
    have := hk k (by omega)
    rw [Nat.pow_succ]
    omega
theorem zb_if {p : Prop} [Decidable p] {α : Type} {x y : α} : (if zb p = 0 then x else y) = if p then y else x := by
  by_cases c : p
  · rw [zb_t c, if_neg (by decide), if_pos c]
  · rw [zb_f c, if_pos rfl, if_neg c]
/-- the word at hand as a number; 0: none, or too long a one -/
def zwv (B : Nat → Nat) (n s : Nat) : Nat := if zkd B n s = 1 ∧ zte B n s ≤ s + 10 then z27 B s (zte B n s - s) else 0
def zlt (a : Nat) : Nat → Nat := fun i => ((ai_txts.getD a []).getD i 0).toInt.toNat
/-- where the class's words begin in its text, and how long they are -/
def zwo (w : Nat) : Nat × Nat := [(0, 3), (4, 4), (9, 5), (15, 6), (22, 4), (27, 3), (31, 5), (37, 3), (41, 4), (46, 3), (50, 4), (55, 2), (58, 2), (61, 3), (65, 3), (69, 3), (73, 5), (79, 3), (83, 6)].getD w (90, 0)
def zWd (w : Nat) : Nat := [14623, 321926, 10502357, 296854829, 276647, 1132, 6491892, 923, 286610, 2968, 70517, 249, 423, 1111, 10631, 2230, 10413527, 11716, 261071456].getD w 0
/-- a word's symbol -/
def zwqr (v : Nat) : Nat → Nat → Nat
  | 0, _ => 19
  | k + 1, w => if v = zWd w then w else zwqr v k (w + 1)
def zwi (v : Nat) : Nat := zwqr v 19 0
theorem zwq_r {v : Nat} : ∀ k w, k + w = 19 → (zwqr v k w = 19 ∧ ∀ b, w ≤ b → b < 19 → ¬ v = zWd b) ∨ (w ≤ zwqr v k w ∧ zwqr v k w < 19 ∧ v = zWd (zwqr v k w)) := by
  intro k
  induction k with
  | zero => intro w hw; exact Or.inl ⟨rfl, fun b h1 h2 => by omega⟩
  | succ k ih =>
    intro w hw
    unfold zwqr
    by_cases c : v = zWd w
    · rw [if_pos c]; exact Or.inr ⟨Nat.le_refl _, by omega, c⟩
    · rw [if_neg c]
      rcases ih (w + 1) (by omega) with ⟨a1, a2⟩ | ⟨a1, a2, a3⟩
      · refine Or.inl ⟨a1, fun b h1 h2 => ?_⟩
        by_cases e : b = w
        · rw [e]; exact c
        · exact a2 b (by omega) h2
      · exact Or.inr ⟨by omega, a2, a3⟩
theorem zwi_r {v : Nat} : (zwi v = 19 ∧ ∀ b, b < 19 → ¬ v = zWd b) ∨ (zwi v < 19 ∧ v = zWd (zwi v)) := by
  rcases zwq_r (v := v) 19 0 rfl with ⟨a1, a2⟩ | ⟨a1, a2, a3⟩
  · exact Or.inl ⟨a1, fun b hb => a2 b (Nat.zero_le _) hb⟩
  · exact Or.inr ⟨a2, a3⟩
theorem zwi_W : ∀ a, a < 19 → zwi (zWd a) = a ∧ 0 < zWd a := by decide +kernel
theorem zwi_a {v a : Nat} (ha : a < 19) : zwi v = a ↔ v = zWd a := by
  constructor
  · intro h
    rcases zwi_r (v := v) with ⟨q, -⟩ | ⟨-, q⟩
    · omega
    · rw [h] at q; exact q
  · intro h; rw [h]; exact (zwi_W a ha).1
theorem zwo_ok : ∀ w, w < 19 → (1 ≤ (zwo w).2 ∧ (zwo w).2 ≤ 7 ∧ (zwo w).1 + (zwo w).2 < 90 ∧ (zwo w).1 + (zwo w).2 + 1 = (zwo (w + 1)).1 ∧ zlt 0 ((zwo w).1 + (zwo w).2) = 32) ∧ z27 (zlt 0) (zwo w).1 (zwo w).2 = zWd w ∧ ∀ j, j < (zwo w).2 → 97 ≤ zlt 0 ((zwo w).1 + j) ∧ zlt 0 ((zwo w).1 + j) ≤ 122 := by decide +kernel
theorem zlt_ok : ∀ i, i < 90 → (ai_txts.getD 0 []).getD i 0 = nI (zlt 0 i) ∧ ai_i2c (((ai_txts.getD 0 []).getD i 0) &&& 255) = (ai_txts.getD 0 []).getD i 0 ∧ ai_i2c ((ai_txts.getD 0 []).getD i 0) = (ai_txts.getD 0 []).getD i 0 ∧ zlt 0 i ≤ 122 := by decide +kernel
theorem zlt_n : (ai_txts.getD 0 []).length = 90 := rfl
theorem X314 {h : ai_H} (d : Nat) : ai_X (d + 2) 314 [.inr (.inr (6, 0, 0))] h = some ([.inl (nI 90)], h) := by
  have e : nI (ai_txts.getD 0 []).length >>> 0 = nI 90 := by rw [zlt_n]; decide +kernel
  rw [T314, T316, if_neg (by decide), z_b0, ← e]
  rfl
theorem X315 {i : Nat} {h : ai_H} (d : Nat) (hi : i < 90) : ai_X (d + 4) 315 [.inr (.inr (6, 0, 0)), .inl (nI i)] h = some ([.inl (nI (zlt 0 i))], h) := by
  obtain ⟨p1, p2, p3, -⟩ := zlt_ok i hi
  rw [T315, T317, if_neg (by decide), if_pos rfl, z_b1]
  simp only [z_bi]
  rw [if_neg (by decide), T319, T318, T326, zlt_n, if_neg (by rw [show (0 : Int32) = nI 0 from rfl, nI_ltI (by omega) (by omega)]; omega), if_pos (by rw [nI_ltI (by omega) (by omega)]; exact hi)]
  simp only [z_bi, z_bv]
  rw [z_ix hi (by decide), p2, p3, if_pos rfl, z_bi, p3, if_pos rfl, p1]
theorem zwv_is {B : Nat → Nat} {n s w : Nat} (hs : s ≤ n) (hk : zkd B n s = 1) (hw : w < 19) : ((zwo w).2 = zte B n s - s ∧ ∀ j, j < (zwo w).2 → B (s + j) = zlt 0 ((zwo w).1 + j)) ↔ zwv B n s = zWd w := by
  obtain ⟨⟨l1, l2, -⟩, l4, l5⟩ := zwo_ok w hw
  have inn := zte_in (Or.inl rfl) hk
  have let_ : ∀ i, i < zte B n s - s → 97 ≤ B (s + i) ∧ B (s + i) ≤ 122 := fun i hi => (zkd_1.mp (inn (s + i) (by omega) (by omega))).2
  have u1 := zte_le (B := B) hs
  unfold zwv
  rw [← l4]
  constructor
  · rintro ⟨e, h⟩
    rw [if_pos ⟨hk, by omega⟩, ← e]
    exact z27_c _ h
  · intro e
    by_cases c : zte B n s ≤ s + 10
    · rw [if_pos ⟨hk, c⟩] at e
      obtain ⟨e1, e2⟩ := z27_inj _ _ let_ l5 e
      exact ⟨e1.symm, fun j hj => e2 j (by omega)⟩
    · rw [if_neg (fun q => c q.2), l4] at e
      have := (zwi_W w hw).2
      omega
/-- one word of the class's text is tried -/
theorem X64w {h : ai_H} {B : Nat → Nat} {n s w : Nat} (d : Nat) (hb : ∀ i, B i < 256) (hn : n ≤ 500) (hs : s ≤ n) (ht : ∀ i, i < n → h.1 2097537 i = nI (B i)) (hk : zkd B n s = 1) (hw : w < 19) : ∀ q j, j + q = (zwo w).2 → ai_E (d + 4) 64 11 [some (.inr (.inr (27, 0, 16387))), some (.inl (nI s)), some (.inl (nI (zte B n s - s))), some (.inl (nI w)), some (.inl (nI j)), some (.inl (zb (j ≤ zte B n s - s ∧ ∀ i, i < j → B (s + i) = zlt 0 ((zwo w).1 + i)))), some (.inl (nI ((zwo w).1 + j)))] [] h = if zwv B n s = zWd w then some ([.inl (nI w)], h) else ai_E (d + 4) 64 11 [some (.inr (.inr (27, 0, 16387))), some (.inl (nI s)), some (.inl (nI (zte B n s - s))), some (.inl (nI (w + 1))), some (.inl (nI 0)), some (.inl (nI 1)), some (.inl (nI (zwo (w + 1)).1))] [] h := by
  obtain ⟨⟨l1, l2, l3, l0, l6⟩, l4, l5⟩ := zwo_ok w hw
  have iff := zwv_is (B := B) hs hk hw
  have u1 := zte_le (B := B) hs
  intro q
  induction q with
  | zero =>
    intro j hj
    have hj : j = (zwo w).2 := by omega
    rw [T64_11, X314, z_bi, if_neg (by rw [nI_leI (by omega) (by omega)]; omega), X315 d (by omega), z_bi, hj, l6, if_pos (show nI 32 = (32 : Int32) from rfl), zb_if, nI_1, nI_1, l0]
    by_cases c : (zwo w).2 ≤ zte B n s - s ∧ ∀ i, i < (zwo w).2 → B (s + i) = zlt 0 ((zwo w).1 + i)
    · rw [if_pos c]
      by_cases c2 : (zwo w).2 = zte B n s - s
      · rw [if_pos (by rw [c2]), if_pos (iff.mp ⟨c2, c.2⟩)]
      · rw [if_neg (by rw [nI_eq (by omega) (by omega)]; exact c2), if_neg (fun x => c2 (iff.mpr x).1)]
        rfl
    · rw [if_neg c, if_neg (fun x => c ⟨Nat.le_of_eq (iff.mpr x).1, (iff.mpr x).2⟩)]
      rfl
  | succ q ih =>
    intro j hj
    have ih := ih (j + 1) (by omega)
    have lj := l5 j (by omega)
    rw [T64_11, X314, z_bi, if_neg (by rw [nI_leI (by omega) (by omega)]; omega), X315 d (by omega), z_bi, if_neg (by rw [show (32 : Int32) = nI 32 from rfl, nI_eq (by omega) (by omega)]; omega), zb_if, nI_1, nI_1, Nat.add_assoc]
    by_cases c : j ≤ zte B n s - s ∧ ∀ i, i < j → B (s + i) = zlt 0 ((zwo w).1 + i)
    · rw [if_pos c]
      by_cases c2 : zte B n s - s ≤ j
      · rw [if_pos (by rw [nI_leI (by omega) (by omega)]; exact c2)]
        rw [zb_f (show ¬ (j + 1 ≤ zte B n s - s ∧ ∀ i, i < j + 1 → B (s + i) = zlt 0 ((zwo w).1 + i)) by omega)] at ih
        exact ih
      · have bj := hb (s + j)
        rw [if_neg (by rw [nI_leI (by omega) (by omega)]; exact c2), nI_add, z_ix (by omega) (by decide), X315 d (by omega), z_bi, ht (s + j) (by omega)]
        by_cases c3 : B (s + j) = zlt 0 ((zwo w).1 + j)
        · rw [if_pos (by rw [c3])]
          rw [zb_t (show (j + 1 ≤ zte B n s - s ∧ ∀ i, i < j + 1 → B (s + i) = zlt 0 ((zwo w).1 + i)) from ⟨by omega, fun i hi => by
            by_cases e : i = j
            · rw [e]; exact c3
            · exact c.2 i (by omega)⟩)] at ih
          exact ih
        · rw [if_neg (by rw [nI_eq (by omega) (by omega)]; exact c3)]
          rw [zb_f (fun x => c3 (x.2 j (Nat.lt_succ_self j)))] at ih
          exact ih
    · rw [if_neg c]
      rw [zb_f (fun x => c ⟨by omega, fun i hi => x.2 i (by omega)⟩)] at ih
      exact ih
theorem X64 {h : ai_H} {B : Nat → Nat} {n s : Nat} (d : Nat) (hb : ∀ i, B i < 256) (hn : n ≤ 500) (hs : s ≤ n) (ht : ∀ i, i < n → h.1 2097537 i = nI (B i)) (hk : zkd B n s = 1) : ai_X (d + 5) 64 [.inr (.inr (27, 0, 16387)), .inl (nI s), .inl (nI (zte B n s - s))] h = some ([.inl (nI (zwi (zwv B n s)))], h) := by
  have M : ∀ k w, k + w = 19 → ai_E (d + 4) 64 11 [some (.inr (.inr (27, 0, 16387))), some (.inl (nI s)), some (.inl (nI (zte B n s - s))), some (.inl (nI w)), some (.inl (nI 0)), some (.inl (nI 1)), some (.inl (nI (zwo w).1))] [] h = some ([.inl (nI (zwqr (zwv B n s) k w))], h) := by
    intro k
    induction k with
    | zero =>
      intro w hw
      have hw : w = 19 := by omega
      subst hw
      rw [T64_11, X314, z_bi, if_pos (show nI 90 ≤ nI (zwo 19).1 by decide)]
      rfl
    | succ k ih =>
      intro w hw
      have K := X64w d hb hn hs ht hk (show w < 19 by omega) (zwo w).2 0 (Nat.zero_add _)
      rw [zb_t ⟨Nat.zero_le _, fun i hi => absurd hi (Nat.not_lt_zero _)⟩, Nat.add_zero (zwo w).1, show (1 : Int32) = nI 1 from rfl] at K
      rw [K, ih (w + 1) (by omega)]
      unfold zwqr
      by_cases c : zwv B n s = zWd w
      · rw [if_pos c, if_pos c]
      · rw [if_neg c, if_neg c]
        cases k <;> rfl
  rw [T64]
  exact M 19 0 rfl
theorem X66 {h : ai_H} (d : Nat) (x : Int32) : ai_X (d + 1) 66 [.inl x] h = some ([.inl (zb (48 ≤ x.toInt ∧ x.toInt ≤ 57))], h) := by
  rw [T66]
  simp only [z_lt, z_b0, z_b1, zl0, zl1, zl2, zl3, zl4, zl5, zl6, zl7, zl8, zl9, zl10, zl12, zl15, zl16, zl20, zl22, zl23, zl24, zl27, zl30, zl31, zl32, zl40, zl46, zl48, zl50, zl57, zl59, zl60, zl61, zl62, zl63, zl80, zl96, zl97, zl99, zl100, zl122, zl255, zl360, zl500, zl999, zl9999, zl60000, zl99999, zl16777215, zl1073741824, zlm1, zlm2, zlm3]
  by_cases h1 : x.toInt < 48
  · rw [if_pos h1, zb_f (by omega)]
  · rw [if_neg h1]
    by_cases h2 : 57 < x.toInt
    · rw [if_pos h2, zb_f (by omega)]
    · rw [if_neg h2, zb_t (by omega)]
/-- a token's symbol -/
def zsy (B : Nat → Nat) (n s : Nat) : Nat := if zkd B n s = 0 then 21 else if zkd B n s = 1 then zwi (zwv B n s) else if zkd B n s = 2 then 20 else 100 + B s
theorem zwv_k {B : Nat → Nat} {n s : Nat} (h : ¬ zkd B n s = 1) : zwv B n s = 0 := by
  unfold zwv
  rw [if_neg (fun q => h q.1)]
/-- what holds of each word's symbol and of no word holds of the symbol at hand -/
theorem zsy_p {B : Nat → Nat} {n s : Nat} {P : Nat → Nat → Prop} (h1 : ∀ a, a < 19 → P a (zWd a)) (h2 : ∀ a v, 19 ≤ a → (∀ b, b < 19 → ¬ v = zWd b) → P a v) : P (zsy B n s) (zwv B n s) := by
  have z : ∀ b, b < 19 → ¬ 0 = zWd b := fun b hb q => by have := (zwi_W b hb).2; omega
  by_cases c : zkd B n s = 1
  · have e : zsy B n s = zwi (zwv B n s) := by
      unfold zsy
      rw [c, if_neg (by decide), if_pos rfl]
    rw [e]
    rcases zwi_r (v := zwv B n s) with ⟨q1, q2⟩ | ⟨q1, q2⟩
    · rw [q1]; exact h2 19 _ (Nat.le_refl _) q2
    · have := h1 _ q1
      rw [← q2] at this
      exact this
  · rw [zwv_k c]
    refine h2 _ 0 ?_ z
    unfold zsy
    rw [if_neg c]
    repeat' split
    all_goals omega
theorem zsy_lt {B : Nat → Nat} {n s : Nat} (hb : ∀ i, B i < 256) : zsy B n s < 400 := by
  have := hb s
  have z : zwi (zwv B n s) ≤ 19 := by
    rcases zwi_r (v := zwv B n s) with ⟨q1, -⟩ | ⟨q1, -⟩ <;> omega
  unfold zsy
  repeat' split
  all_goals omega
theorem zsy_w {B : Nat → Nat} {n s a : Nat} (ha : a < 19) : zsy B n s = a ↔ zwv B n s = zWd a := by
  refine zsy_p (P := fun x v => x = a ↔ v = zWd a) (fun b hb => ?_) (fun b v h1 h2 => ?_)
  · constructor
    · intro e; rw [e]
    · intro e
      have := (zwi_W a ha).1
      rw [← e, (zwi_W b hb).1] at this
      exact this
  · exact ⟨fun e => by omega, fun e => absurd e (h2 a ha)⟩
theorem zsy_c {B : Nat → Nat} {n s c : Nat} (hc : c = 60 ∨ c = 62 ∨ c = 61 ∨ c = 59 ∨ c = 40 ∨ c = 41) : zsy B n s = 100 + c ↔ zkd B n s = 3 ∧ B s = c := by
  have z : zwi (zwv B n s) ≤ 19 := by
    rcases zwi_r (v := zwv B n s) with ⟨q1, -⟩ | ⟨q1, -⟩ <;> omega
  have kl := zkd_le (B := B) (n := n) (p := s)
  have k0 := zkd_0 (B := B) (n := n) (p := s)
  have k3 := zkd_3 (B := B) (n := n) (p := s)
  unfold zsy
  by_cases c0 : zkd B n s = 0
  · rw [if_pos c0]; omega
  · rw [if_neg c0]
    by_cases c1 : zkd B n s = 1
    · rw [if_pos c1]; omega
    · rw [if_neg c1]
      by_cases c2 : zkd B n s = 2
      · rw [if_pos c2]; omega
      · rw [if_neg c2]; omega
theorem zsy_2 {B : Nat → Nat} {n s : Nat} : zsy B n s = 20 ↔ zkd B n s = 2 := by
  have z : zwi (zwv B n s) ≤ 19 := by
    rcases zwi_r (v := zwv B n s) with ⟨q1, -⟩ | ⟨q1, -⟩ <;> omega
  unfold zsy
  repeat' split
  all_goals omega
theorem zsy_0 {B : Nat → Nat} {n s : Nat} : zsy B n s = 21 ↔ zkd B n s = 0 := by
  have z : zwi (zwv B n s) ≤ 19 := by
    rcases zwi_r (v := zwv B n s) with ⟨q1, -⟩ | ⟨q1, -⟩ <;> omega
  unfold zsy
  repeat' split
  all_goals omega
theorem X63 {h : ai_H} {B : Nat → Nat} {n s : Nat} (d : Nat) (hb : ∀ i, B i < 256) (hn : n ≤ 500) (hs : s < n) (ht : ∀ i, i < n → h.1 2097537 i = nI (B i)) : ai_X (d + 6) 63 [.inr (.inr (27, 0, 16387)), .inl (nI s), .inl (nI (zte B n s - s))] h = some ([.inl (nI (zsy B n s))], h) := by
  have i5 : ∀ f : Nat → Option ai_R, ai_ix (nI s) 500 f = f s := fun f => z_ix (by omega) (by decide)
  have bs := hb s
  have tb : (nI (B s)).toInt = (B s : Int) := z_T (by omega)
  have k0 := zkd_0 (B := B) (n := n) (p := s)
  have k1 := zkd_1 (B := B) (n := n) (p := s)
  have k2 := zkd_2 (B := B) (n := n) (p := s)
  rw [T63]
  simp only [i5, ht s hs, X70, X66, z_bi, zb_if]
  unfold zltr
  rw [tb]
  unfold zsy
  rw [if_neg (show ¬ zkd B n s = 0 by omega)]
  by_cases c1 : zkd B n s = 1
  · rw [if_pos (show (97 : Int) ≤ (B s : Int) ∧ (B s : Int) ≤ 122 by omega), if_pos c1, X64 d hb hn (by omega) ht c1, z_bi]
  · rw [if_neg (show ¬ ((97 : Int) ≤ (B s : Int) ∧ (B s : Int) ≤ 122) by omega), if_neg c1]
    by_cases c2 : zkd B n s = 2
    · rw [if_pos (show (48 : Int) ≤ (B s : Int) ∧ (B s : Int) ≤ 57 by omega), if_pos c2]
      rfl
    · rw [if_neg (show ¬ ((48 : Int) ≤ (B s : Int) ∧ (B s : Int) ≤ 57) by omega), if_neg c2, show (100 : Int32) = nI 100 from rfl, nI_add]
def z10n (B : Nat → Nat) (s : Nat) : Nat → Nat
  | 0 => 0
  | k + 1 => z10n B s k * 10 + (B (s + k) - 48)
theorem z10n_lt {B : Nat → Nat} {s : Nat} : ∀ k, (∀ i, i < k → B (s + i) ≤ 57) → z10n B s k < 10 ^ k := by
  intro k
  induction k with
  | zero => intro _; exact Nat.one_pos
  | succ k ih =>
    intro hk
    show z10n B s k * 10 + (B (s + k) - 48) < 10 ^ (k + 1)
    have := ih (fun i hi => hk i (by omega))
    have := hk k (by omega)
    rw [Nat.pow_succ]
    omega
/-- the number at hand -/
def znu (B : Nat → Nat) (n s : Nat) : Nat := z10n B s (zte B n s - s)
theorem znu_lt {B : Nat → Nat} {n s : Nat} (h : zkd B n s = 2) (he : zte B n s ≤ s + 5) : znu B n s < 100000 := by
  have inn := zte_in (Or.inr rfl) h
  have := z10n_lt (B := B) (s := s) (zte B n s - s) (fun i hi => (zkd_2.mp (inn (s + i) (by omega) (by omega))).2.2)
  have p := Nat.pow_le_pow_right (n := 10) (by decide) (show zte B n s - s ≤ 5 by omega)
  unfold znu
  omega
def zfact (w : Nat) : Int32 := if w = 6491892 then 0 else if w = 923 then 1 else if w = 286610 then 2 else if w = 296854829 then 3 else if w = 2968 then 4 else if w = 70517 then 5 else -1
def zwork (w : Nat) : Int32 := if w = 14623 then 0 else if w = 321926 then 1 else if w = 10502357 then 2 else if w = 296854829 then 3 else if w = 276647 then 4 else if w = 1132 then 5 else -1
def zverd (t : Prop) [Decidable t] (w : Nat) : Int32 := if w = (if t then 11716 else 2230) then 1 else if w = (if t then 261071456 else 10413527) then 0 else -1
