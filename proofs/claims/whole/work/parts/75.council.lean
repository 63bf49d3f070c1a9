/-! THE COUNCIL: codes and what they cost -/
def zdg (c i : Nat) : Nat := c / 6 ^ i % 6
theorem zdg_lt {c i : Nat} : zdg c i < 6 := Nat.mod_lt _ (by decide)
theorem zdg_lo {p u r i : Nat} (hi : i < p) : zdg (u * 6 ^ p + r) i = zdg r i := by
  unfold zdg
  obtain ⟨q, rfl⟩ : ∃ q, p = i + (q + 1) := ⟨p - i - 1, by omega⟩
  have e : u * 6 ^ (i + (q + 1)) = 6 ^ i * (6 * (u * 6 ^ q)) := by
    rw [Nat.pow_add, Nat.pow_succ, Nat.mul_comm u, Nat.mul_assoc, Nat.mul_comm (6 ^ q) 6, Nat.mul_assoc, Nat.mul_comm (6 ^ q) u]
  rw [e, Nat.mul_add_div (Nat.pow_pos (by decide)), Nat.mul_add_mod]
theorem zdg_hi {p u r : Nat} (hu : u < 6) (hr : r < 6 ^ p) : zdg (u * 6 ^ p + r) p = u := by
  unfold zdg
  rw [Nat.mul_comm u, Nat.mul_add_div (Nat.pow_pos (by decide)), Nat.div_eq_of_lt hr, Nat.add_zero, Nat.mod_eq_of_lt hu]
/-- the council's part of a code; a trust's -/
def zcw (C : Nat → Nat) (c : Nat) : Nat → Nat
  | 0 => 0
  | k + 1 => zcw C c k + if zdg c k = 0 then C k else 0
def zcld (C : Nat → Nat) (c tr : Nat) : Nat → Nat
  | 0 => 0
  | k + 1 => zcld C c tr k + if zdg c k = tr + 1 then C k else 0
theorem zcw_c {C : Nat → Nat} {c c' : Nat} : ∀ {k : Nat}, (∀ i, i < k → zdg c i = zdg c' i) → zcw C c k = zcw C c' k := by
  intro k
  induction k with
  | zero => intro _; rfl
  | succ k ih =>
    intro h
    unfold zcw
    rw [ih fun i hi => h i (by omega), h k (by omega)]
theorem zcld_c {C : Nat → Nat} {c c' tr : Nat} : ∀ {k : Nat}, (∀ i, i < k → zdg c i = zdg c' i) → zcld C c tr k = zcld C c' tr k := by
  intro k
  induction k with
  | zero => intro _; rfl
  | succ k ih =>
    intro h
    unfold zcld
    rw [ih fun i hi => h i (by omega), h k (by omega)]
theorem zcw_le {C : Nat → Nat} {c B : Nat} : ∀ {k : Nat}, (∀ i, i < k → C i ≤ B) → zcw C c k ≤ B * k := by
  intro k
  induction k with
  | zero => intro _; exact Nat.zero_le _
  | succ k ih =>
    intro h
    have := ih fun i hi => h i (by omega)
    have := h k (by omega)
    unfold zcw
    rw [Nat.mul_succ]
    split <;> omega
abbrev zcok (P : Nat → Nat → Bool) (T c k : Nat) : Prop := ∀ i, i < k → (zdg c i = 0 ∨ (zdg c i ≤ T ∧ P i (zdg c i - 1) = true))
abbrev zcin (C : Nat → Nat) (T : Nat) (L : Nat → Nat) (c k : Nat) : Prop := ∀ tr, tr < T → zcld C c tr k ≤ L tr
def zcv (C : Nat → Nat) (P : Nat → Nat → Bool) (T k : Nat) (L : Nat → Nat) (c : Nat) : Option Nat := if zcok P T c k ∧ zcin C T L c k then some (zcw C c k) else none
def zupN (L : Nat → Nat) (i v : Nat) : Nat → Nat := fun j => if j = i then v else L j
theorem zcv_0 {C : Nat → Nat} {P : Nat → Nat → Bool} {T p : Nat} {L : Nat → Nat} {r : Nat} (hr : r < 6 ^ p) : zcv C P T (p + 1) L (0 * 6 ^ p + r) = (zcv C P T p L r).map (C p + ·) := by
  have hh := zdg_hi (p := p) (u := 0) (r := r) (by decide) hr
  have hl : ∀ i, i < p → zdg (0 * 6 ^ p + r) i = zdg r i := fun i hi => zdg_lo hi
  have ew : zcw C (0 * 6 ^ p + r) (p + 1) = C p + zcw C r p := by
    show zcw C (0 * 6 ^ p + r) p + (if zdg (0 * 6 ^ p + r) p = 0 then C p else 0) = _
    rw [hh, if_pos rfl, zcw_c hl, Nat.add_comm]
  have el : ∀ tr, zcld C (0 * 6 ^ p + r) tr (p + 1) = zcld C r tr p := fun tr => by
    show zcld C (0 * 6 ^ p + r) tr p + (if zdg (0 * 6 ^ p + r) p = tr + 1 then C p else 0) = _
    rw [hh, if_neg (by omega), zcld_c hl, Nat.add_zero]
  have c1 : zcok P T (0 * 6 ^ p + r) (p + 1) ↔ zcok P T r p := by
    refine ⟨fun a i hi => ?_, fun a i hi => ?_⟩
    · have := a i (by omega)
      rw [hl i hi] at this
      exact this
    · by_cases e : i = p
      · rw [e]; exact Or.inl hh
      · rw [hl i (by omega)]; exact a i (by omega)
  have c2 : zcin C T L (0 * 6 ^ p + r) (p + 1) ↔ zcin C T L r p := by
    unfold zcin
    simp only [el]
  unfold zcv
  by_cases c : zcok P T r p ∧ zcin C T L r p
  · rw [if_pos c, if_pos ⟨c1.mpr c.1, c2.mpr c.2⟩, ew]
    rfl
  · rw [if_neg c, if_neg (fun x => c ⟨c1.mp x.1, c2.mp x.2⟩)]
    rfl
theorem zcv_S {C : Nat → Nat} {P : Nat → Nat → Bool} {T p tr : Nat} {L : Nat → Nat} {r : Nat} (hr : r < 6 ^ p) (ht : tr < 5) : zcv C P T (p + 1) L ((tr + 1) * 6 ^ p + r) = if tr < T ∧ P p tr = true ∧ C p ≤ L tr then zcv C P T p (zupN L tr (L tr - C p)) r else none := by
  have hh := zdg_hi (p := p) (u := tr + 1) (r := r) (by omega) hr
  have hl : ∀ i, i < p → zdg ((tr + 1) * 6 ^ p + r) i = zdg r i := fun i hi => zdg_lo hi
  have ew : zcw C ((tr + 1) * 6 ^ p + r) (p + 1) = zcw C r p := by
    show zcw C ((tr + 1) * 6 ^ p + r) p + (if zdg ((tr + 1) * 6 ^ p + r) p = 0 then C p else 0) = _
    rw [hh, if_neg (by omega), zcw_c hl, Nat.add_zero]
  have el : ∀ s, zcld C ((tr + 1) * 6 ^ p + r) s (p + 1) = zcld C r s p + if tr = s then C p else 0 := fun s => by
    show zcld C ((tr + 1) * 6 ^ p + r) s p + (if zdg ((tr + 1) * 6 ^ p + r) p = s + 1 then C p else 0) = _
    rw [hh, zcld_c hl]
    by_cases e : tr = s
    · rw [if_pos e, if_pos (by omega)]
    · rw [if_neg e, if_neg (by omega)]
  have c1 : zcok P T ((tr + 1) * 6 ^ p + r) (p + 1) ↔ zcok P T r p ∧ (tr < T ∧ P p tr = true) := by
    refine ⟨fun a => ⟨fun i hi => ?_, ?_⟩, fun a i hi => ?_⟩
    · have := a i (by omega)
      rw [hl i hi] at this
      exact this
    · have := a p (by omega)
      rw [hh] at this
      rcases this with e | e
      · omega
      · exact ⟨by omega, e.2⟩
    · by_cases e : i = p
      · rw [e, hh]; exact Or.inr ⟨by omega, a.2.2⟩
      · rw [hl i (by omega)]; exact a.1 i (by omega)
  have c2 : tr < T → (zcin C T L ((tr + 1) * 6 ^ p + r) (p + 1) ↔ C p ≤ L tr ∧ zcin C T (zupN L tr (L tr - C p)) r p) := by
    intro hT
    unfold zcin zupN
    simp only [el]
    refine ⟨fun a => ⟨?_, fun s hs => ?_⟩, fun a s hs => ?_⟩
    · have := a tr hT
      rw [if_pos rfl] at this
      omega
    · have := a s hs
      by_cases e : s = tr
      · rw [if_pos e]
        rw [if_pos e.symm, e] at this
        rw [e]
        omega
      · rw [if_neg e]
        rw [if_neg (fun q => e q.symm)] at this
        omega
    · have := a.2 s hs
      by_cases e : s = tr
      · rw [if_pos e] at this
        rw [if_pos e.symm, e]
        rw [e] at this
        have := a.1
        omega
      · rw [if_neg e] at this
        rw [if_neg (fun q => e q.symm)]
        omega
  unfold zcv
  by_cases c : tr < T ∧ P p tr = true ∧ C p ≤ L tr
  · rw [if_pos c, ew]
    by_cases c' : zcok P T r p ∧ zcin C T (zupN L tr (L tr - C p)) r p
    · rw [if_pos c', if_pos ⟨c1.mpr ⟨c'.1, c.1, c.2.1⟩, (c2 c.1).mpr ⟨c.2.2, c'.2⟩⟩]
    · rw [if_neg c', if_neg (fun x => c' ⟨(c1.mp x.1).1, ((c2 c.1).mp x.2).2⟩)]
  · rw [if_neg c, if_neg]
    rintro ⟨x1, x2⟩
    have y := c1.mp x1
    exact c ⟨y.2.1, y.2.2, ((c2 y.2.1).mp x2).1⟩
/-- the first code of the least cost -/
def zstp (V : Nat → Option Nat) (s : Nat × Nat) (c : Nat) : Nat × Nat := match V c with
  | some v => if v < s.1 then (v, c) else s
  | none => s
def zfd (V : Nat → Option Nat) (a : Nat) : Nat → Nat × Nat → Nat × Nat
  | 0, s => s
  | n + 1, s => zstp V (zfd V a n s) (a + n)
theorem zfd_add {V : Nat → Option Nat} {a n : Nat} {s : Nat × Nat} : ∀ k, zfd V a (n + k) s = zfd V (a + n) k (zfd V a n s) := by
  intro k
  induction k with
  | zero => rfl
  | succ k ih =>
    show zstp V (zfd V a (n + k) s) (a + (n + k)) = zstp V (zfd V (a + n) k (zfd V a n s)) (a + n + k)
    rw [ih, Nat.add_assoc]
theorem zfd_no {V : Nat → Option Nat} {a : Nat} {s : Nat × Nat} : ∀ {n : Nat}, (∀ i, i < n → ∀ v, V (a + i) = some v → s.1 ≤ v) → zfd V a n s = s := by
  intro n
  induction n with
  | zero => intro _; rfl
  | succ n ih =>
    intro h
    show zstp V (zfd V a n s) (a + n) = s
    rw [ih fun i hi => h i (by omega)]
    unfold zstp
    cases e : V (a + n) with
    | none => rfl
    | some v =>
      dsimp only
      rw [if_neg (by have := h n (by omega) v e; omega)]
/-- the fold's answer is a code of the range, or what was there before -/
theorem zfd_is {V : Nat → Option Nat} {a : Nat} {s : Nat × Nat} : ∀ {n : Nat}, zfd V a n s = s ∨ ∃ i, i < n ∧ (zfd V a n s).2 = a + i ∧ V (a + i) = some (zfd V a n s).1 := by
  intro n
  induction n with
  | zero => exact Or.inl rfl
  | succ n ih =>
    show zstp V (zfd V a n s) (a + n) = s ∨ ∃ i, i < n + 1 ∧ (zstp V (zfd V a n s) (a + n)).2 = a + i ∧ V (a + i) = some (zstp V (zfd V a n s) (a + n)).1
    have ih' : zfd V a n s = s ∨ ∃ i, i < n + 1 ∧ (zfd V a n s).2 = a + i ∧ V (a + i) = some (zfd V a n s).1 := by
      rcases ih with e | ⟨i, h1, h2, h3⟩
      · exact Or.inl e
      · exact Or.inr ⟨i, by omega, h2, h3⟩
    unfold zstp
    cases e : V (a + n) with
    | none => exact ih'
    | some v =>
      dsimp only
      by_cases c : v < (zfd V a n s).1
      · rw [if_pos c]
        exact Or.inr ⟨n, by omega, rfl, e⟩
      · rw [if_neg c]
        exact ih'
