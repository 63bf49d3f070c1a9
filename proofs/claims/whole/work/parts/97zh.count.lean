/-! PACKS: how many steps are kept -/
def zsu (f : Nat → Nat) : Nat → Nat
  | 0 => 0
  | n + 1 => zsu f n + f n
theorem zsu_add {f : Nat → Nat} {n : Nat} : ∀ m, zsu f (n + m) = zsu f n + zsu (fun k => f (n + k)) m := by
  intro m
  induction m with
  | zero => rfl
  | succ m ih =>
    show zsu f (n + m) + f (n + m) = zsu f n + (zsu (fun k => f (n + k)) m + f (n + m))
    rw [ih, Nat.add_assoc]
theorem zsu_le {f g : Nat → Nat} : ∀ n, (∀ i, i < n → f i ≤ g i) → zsu f n ≤ zsu g n := by
  intro n
  induction n with
  | zero => intro _; exact Nat.le_refl _
  | succ n ih =>
    intro h
    have := ih fun i hi => h i (by omega)
    have := h n (Nat.lt_succ_self n)
    show zsu f n + f n ≤ zsu g n + g n
    omega
theorem zsu_cut {f : Nat → Nat} {m : Nat} : ∀ n, m ≤ n → zsu (fun k => if k < m then f k else 0) n = zsu f m := by
  intro n
  induction n with
  | zero => intro h; rw [show m = 0 by omega]; rfl
  | succ n ih =>
    intro h
    by_cases c : m = n + 1
    · subst c
      have : ∀ j, j ≤ n + 1 → zsu (fun k => if k < n + 1 then f k else 0) j = zsu f j := by
        intro j
        induction j with
        | zero => intro _; rfl
        | succ j ih2 =>
          intro hj
          show zsu _ j + (if j < n + 1 then f j else 0) = zsu f j + f j
          rw [ih2 (by omega), if_pos (by omega)]
      exact this (n + 1) (Nat.le_refl _)
    · show zsu _ n + (if n < m then f n else 0) = _
      rw [ih (by omega), if_neg (by omega)]
      rfl
theorem zcnt_or {p q r : Nat → Prop} [DecidablePred p] [DecidablePred q] [DecidablePred r] (h : ∀ a, p a → q a ∨ r a) : ∀ n, zcnt p n ≤ zcnt q n + zcnt r n := by
  intro n
  induction n with
  | zero => exact Nat.zero_le _
  | succ n ih =>
    rw [zcnt_1, zcnt_1, zcnt_1]
    by_cases c : p n
    · rw [if_pos c]
      rcases h n c with w | w
      · rw [if_pos w]; omega
      · rw [if_pos w]; omega
    · rw [if_neg c]; omega
theorem zcnt_iv {c e : Nat} : ∀ n, zcnt (fun a => c ≤ a ∧ a < e) n ≤ min n e - c := by
  intro n
  induction n with
  | zero => exact Nat.zero_le _
  | succ n ih =>
    rw [zcnt_1]
    by_cases q : c ≤ n ∧ n < e
    · rw [if_pos q]; omega
    · rw [if_neg q]; omega
theorem zkt_le {st cf ct : Nat → Nat} (W : Nat) : zkt st cf ct W ≤ zsu (fun i => if i % 24 < st (i / 24) then ct i - cf i else 0) 144 := by
  have K : ∀ N, zcnt (fun a => (List.range N).any (fun i => decide (i % 24 < st (i / 24) ∧ cf i ≤ a ∧ a < ct i)) = true) W ≤ zsu (fun i => if i % 24 < st (i / 24) then ct i - cf i else 0) N := by
    intro N
    induction N with
    | zero =>
      have : ∀ n, zcnt (fun a => (List.range 0).any (fun i => decide (i % 24 < st (i / 24) ∧ cf i ≤ a ∧ a < ct i)) = true) n = 0 := by
        intro n
        induction n with
        | zero => rfl
        | succ n ih => rw [zcnt_1, ih, if_neg (by simp)]
      rw [this]
      exact Nat.zero_le _
    | succ N ih =>
      have h1 := zcnt_or (p := fun a => (List.range (N + 1)).any (fun i => decide (i % 24 < st (i / 24) ∧ cf i ≤ a ∧ a < ct i)) = true) (q := fun a => (List.range N).any (fun i => decide (i % 24 < st (i / 24) ∧ cf i ≤ a ∧ a < ct i)) = true) (r := fun a => N % 24 < st (N / 24) ∧ cf N ≤ a ∧ a < ct N) (fun a ha => by
        obtain ⟨i, hi, hp⟩ := List.any_eq_true.mp ha
        have hi := List.mem_range.mp hi
        have hp := of_decide_eq_true hp
        by_cases c : i = N
        · subst c; exact Or.inr hp
        · exact Or.inl (List.any_eq_true.mpr ⟨i, List.mem_range.mpr (by omega), decide_eq_true hp⟩)) W
      have h2 : zcnt (fun a => N % 24 < st (N / 24) ∧ cf N ≤ a ∧ a < ct N) W ≤ if N % 24 < st (N / 24) then ct N - cf N else 0 := by
        by_cases c : N % 24 < st (N / 24)
        · rw [if_pos c]
          have e := zcnt_c (p := fun a => N % 24 < st (N / 24) ∧ cf N ≤ a ∧ a < ct N) (q := fun a => cf N ≤ a ∧ a < ct N) (n := W) (fun i _ => ⟨fun w => w.2, fun w => ⟨c, w⟩⟩)
          have := zcnt_iv (c := cf N) (e := ct N) W
          omega
        · rw [if_neg c]
          have e := zcnt_c (p := fun a => N % 24 < st (N / 24) ∧ cf N ≤ a ∧ a < ct N) (q := fun a => 1 ≤ a ∧ a < 0) (n := W) (fun i _ => ⟨fun w => absurd w.1 c, fun w => absurd w.2 (Nat.not_lt_zero _)⟩)
          have := zcnt_iv (c := 1) (e := 0) W
          omega
      show _ ≤ zsu _ N + (if N % 24 < st (N / 24) then ct N - cf N else 0)
      omega
  exact K 144
theorem zfl_su {μ : zMu} {a b : Nat → Int32} {c e : Nat → Nat} : ∀ n, (zflat ((List.range n).map (fun i => (a i, b i, zcode μ (c i) (e i))))).length = zsu (fun i => e i - c i) n := by
  intro n
  induction n with
  | zero => rfl
  | succ n ih =>
    unfold zflat at ih ⊢
    rw [List.range_succ, List.map_append, List.flatMap_append, List.length_append, ih]
    show _ + (zcode μ (c n) (e n) ++ []).length = _ + (e n - c n)
    rw [List.append_nil, zcode_len]
/-- at most 3000 -/
theorem zkt_3 {μ : zMu} {st : Nat → Nat} (W : Nat) (hs : ∀ p, p < 6 → st p ≤ 24 ∧ (μ.1 36 p).toInt.toNat = st p) (h5 : ∀ p, p < 6 → (zflat (zlaw μ p)).length ≤ 500) : zkt st (fun i => (μ.1 40 i).toInt.toNat) (fun i => (μ.1 41 i).toInt.toNat) W ≤ 3000 := by
  have k := zkt_le (st := st) (cf := fun i => (μ.1 40 i).toInt.toNat) (ct := fun i => (μ.1 41 i).toInt.toNat) W
  have B : ∀ p, p < 6 → zsu (fun j => if (24 * p + j) % 24 < st ((24 * p + j) / 24) then (μ.1 41 (24 * p + j)).toInt.toNat - (μ.1 40 (24 * p + j)).toInt.toNat else 0) 24 ≤ 500 := fun p hp => by
    have e1 := h5 p hp
    unfold zlaw at e1
    rw [zfl_su, (hs p hp).2] at e1
    have e2 := zsu_cut (f := fun j => (μ.1 41 (24 * p + j)).toInt.toNat - (μ.1 40 (24 * p + j)).toInt.toNat) (m := st p) 24 (hs p hp).1
    have e3 := zsu_le (f := fun j => if (24 * p + j) % 24 < st ((24 * p + j) / 24) then (μ.1 41 (24 * p + j)).toInt.toNat - (μ.1 40 (24 * p + j)).toInt.toNat else 0) (g := fun k => if k < st p then (fun j => (μ.1 41 (24 * p + j)).toInt.toNat - (μ.1 40 (24 * p + j)).toInt.toNat) k else 0) 24 (fun j hj => by
      rw [show (24 * p + j) % 24 = j by omega, show (24 * p + j) / 24 = p by omega]
      exact Nat.le_refl _)
    exact Nat.le_trans e3 (Nat.le_trans (Nat.le_of_eq e2) e1)
  have s : ∀ f : Nat → Nat, zsu f 144 = zsu (fun j => f (24 * 0 + j)) 24 + zsu (fun j => f (24 * 1 + j)) 24 + zsu (fun j => f (24 * 2 + j)) 24 + zsu (fun j => f (24 * 3 + j)) 24 + zsu (fun j => f (24 * 4 + j)) 24 + zsu (fun j => f (24 * 5 + j)) 24 := fun f => by
    have a1 := zsu_add (f := f) (n := 120) 24
    have a2 := zsu_add (f := f) (n := 96) 24
    have a3 := zsu_add (f := f) (n := 72) 24
    have a4 := zsu_add (f := f) (n := 48) 24
    have a5 := zsu_add (f := f) (n := 24) 24
    have a6 : zsu f 24 = zsu (fun j => f (24 * 0 + j)) 24 := by
      have : (fun j => f (24 * 0 + j)) = f := funext fun j => by rw [Nat.mul_zero, Nat.zero_add]
      rw [this]
    rw [a1, a2, a3, a4, a5, a6]
  rw [s] at k
  have b0 := B 0 (by decide)
  have b1 := B 1 (by decide)
  have b2 := B 2 (by decide)
  have b3 := B 3 (by decide)
  have b4 := B 4 (by decide)
  have b5 := B 5 (by decide)
  omega
