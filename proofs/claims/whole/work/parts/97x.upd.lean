/-! WHAT A TEXT'S READING LEAVES: the relation -/
theorem zcode_w {μ μ' : zMu} {w a b : Nat} (hb : b ≤ w) (s : ∀ f k, 43 ≤ f → f ≤ 46 → k < w → μ'.1 f k = μ.1 f k) : zcode μ' a b = zcode μ a b := by
  unfold zcode
  refine List.map_congr_left fun k hk => ?_
  have := List.mem_range.mp hk
  unfold zenc
  rw [s 43 _ (by decide) (by decide) (by omega), s 44 _ (by decide) (by decide) (by omega), s 45 _ (by decide) (by decide) (by omega), s 46 _ (by decide) (by decide) (by omega)]
theorem zdep_w {μ μ' : zMu} {w a : Nat} (s : ∀ f k, 43 ≤ f → f ≤ 46 → k < w → μ'.1 f k = μ.1 f k) : ∀ m, a + m ≤ w → zdep μ' a m = zdep μ a m := by
  intro m
  induction m with
  | zero => intro _; rfl
  | succ m ih =>
    intro h
    unfold zdep
    rw [ih (by omega), s 43 _ (by decide) (by decide) (by omega)]
theorem zlaw_w {μ μ' : zMu} {w p : Nat} (hv : zVl μ p) (hw : (μ.2 42).toInt.toNat ≤ w) (e : μ'.1 36 p = μ.1 36 p) (r : ∀ f j, 38 ≤ f → f ≤ 41 → 24 * p ≤ j → j < 24 * p + 24 → μ'.1 f j = μ.1 f j) (s : ∀ f k, 43 ≤ f → f ≤ 46 → k < w → μ'.1 f k = μ.1 f k) : zlaw μ' p = zlaw μ p := by
  obtain ⟨v1, v2, v3⟩ := hv
  unfold zlaw
  rw [e]
  refine List.map_congr_left fun i hi => ?_
  have hi := List.mem_range.mp hi
  have l24 : (μ.1 36 p).toInt.toNat ≤ 24 := by unfold zi at v1; omega
  obtain ⟨-, -, -, u1, u2, -⟩ := v2 i hi
  rw [r 38 _ (by decide) (by decide) (by omega) (by omega), r 39 _ (by decide) (by decide) (by omega) (by omega), r 40 _ (by decide) (by decide) (by omega) (by omega), r 41 _ (by decide) (by decide) (by omega) (by omega), zcode_w (by omega) s]
theorem zVl_w {μ μ' : zMu} {w p : Nat} (hv : zVl μ p) (hw : (μ.2 42).toInt.toNat ≤ w) (h42 : (μ.2 42).toInt ≤ (μ'.2 42).toInt) (e : μ'.1 36 p = μ.1 36 p) (r : ∀ f j, 38 ≤ f → f ≤ 41 → 24 * p ≤ j → j < 24 * p + 24 → μ'.1 f j = μ.1 f j) (s : ∀ f k, 43 ≤ f → f ≤ 46 → k < w → μ'.1 f k = μ.1 f k) : zVl μ' p := by
  have el := zlaw_w hv hw e r s
  obtain ⟨v1, v2, v3⟩ := hv
  have l24 : (μ.1 36 p).toInt.toNat ≤ 24 := by unfold zi at v1; omega
  refine ⟨by rw [e]; exact v1, fun i hi => ?_, by rw [el]; exact v3⟩
  rw [e] at hi
  obtain ⟨u1, u2, u3, u4, u5, u6⟩ := v2 i hi
  rw [r 38 _ (by decide) (by decide) (by omega) (by omega), r 39 _ (by decide) (by decide) (by omega) (by omega), r 40 _ (by decide) (by decide) (by omega) (by omega), r 41 _ (by decide) (by decide) (by omega) (by omega)]
  refine ⟨u1, u2, u3, u4, by omega, ?_⟩
  rw [zdep_w s _ (by omega)]
  exact u6
theorem zR_tx {h h2 : ai_H} (hr : zR h) (dn : ai_dn h ≤ ai_dn h2) (fr : zFree h2)
    (al : ∀ q, zrt h (zroot q) → h2.1 q = h.1 q ∧ h2.2.2.1 q = h.2.2.1 q ∧ h2.2.2.2.1 q = h.2.2.2.1 q)
    (im : ∀ i, i < 3 → h2.2.2.1 16386 i = h.2.2.1 16386 i)
    (a : ∀ f i, f < 32 → (¬ f = 21 ∨ 5 ≤ i) → (zMv h2).1 f i = (zMv h).1 f i) (s2 : (zMv h2).2 32 = (zMv h).2 32)
    (s0 : zS h2 16385 (zg (zMv h2) 33) (zsl (zMv h2) 0)) (t3 : zg (zMv h) 33 ≤ zg (zMv h2) 33)
    (c10 : h2.1 128 10 = h.1 128 10) (c11 : h2.1 128 11 = (zMv h2).2 49) (n : zNm h2 (zMv h2)) (t : zTp h2 (zMv h2)) (u : zTr h2 (zMv h2)) (v : zVmH (zMv h2)) (c21 : ∀ t, t < zg (zMv h2) 33 → zi ((zMv h2).1 21 t) 0 99999) : zR h2 := by
  obtain ⟨r1, r2, r3, r4⟩ := hr
  have g2 : zg (zMv h2) 32 = zg (zMv h) 32 := by unfold zg; rw [s2]
  have i3 : zg (zMv h) 32 ≤ 3 := by have := r2.1.1; unfold zi at this; unfold zg; omega
  have sl : ∀ k f, f < 32 → 0 < k → zsl (zMv h2) k f = zsl (zMv h) k f := fun k f hf hk => funext fun i => by
    unfold zsl
    refine a f _ hf ?_
    by_cases c : f = 21
    · right; subst c; show 5 ≤ 5 * k + i; omega
    · exact Or.inl c
  have e0 : zEqS (zsl (zMv h) 0) (zsl (zMv h2) 0) := fun f i hf h9 hi => by
    by_cases c : f = 21
    · subst c; exact absurd hi (Nat.not_lt_zero _)
    · exact a f _ hf (Or.inl c)
  have m : ∀ q, zrt h q → zrt h2 q := fun q hq => ⟨hq.1, hq.2.1, Nat.lt_of_lt_of_le hq.2.2 dn⟩
  have n9 : ∀ i, (zMv h2).1 9 i = (zMv h).1 9 i := fun i => a 9 i (by decide) (Or.inl (by decide))
  refine ⟨⟨s0, c11, ⟨by rw [c10, s2]; exact r1.2.2.1.1, fun i hi => ?_⟩, n, t, u⟩, ?_, fr, Nat.lt_of_lt_of_le r4 dn⟩
  · rw [g2] at hi
    obtain ⟨y, e1, e2, e3, e4⟩ := r1.2.2.1.2 i hi
    have ey : zroot y = y := zr0 e2.1
    refine ⟨y, by rw [im i (by omega)]; exact e1, m y e2, by rw [(al y (by rw [ey]; exact e2)).1, n9]; exact e3, ?_⟩
    rw [n9]
    refine zS_s (fun f hf => sl (i + 1) f hf (Nat.succ_pos i)) (zS_c2 (fun q hq => (al q (by rw [zbl_root e2.1 hq]; exact e2)).1) (fun q hq => (al q (by rw [zbl_root e2.1 hq]; exact e2)).2.2) e4)
  · obtain ⟨v1, v2, v3, v4, v5, v6, v7⟩ := v
    refine ⟨v1, fun k hk => ?_, fun i hi => ?_, ⟨fun q hq => ⟨c21 q hq, v2 q hq⟩, fun i hi q hq => ?_⟩, v3, v4, v5, v6, v7⟩
    · by_cases c : k = 0
      · subst c; exact zV_e e0 (r2.2.1 0 (Nat.zero_le _))
      · exact zV_s (fun f hf => sl k f hf (by omega)) (r2.2.1 k (by rw [← g2]; exact hk))
    · rw [g2] at hi
      rw [n9]
      have := r2.2.2.1 i hi
      unfold zi at this ⊢
      omega
    · rw [g2] at hi
      rw [n9] at hq
      rw [a 21 _ (by decide) (Or.inr (by omega))]
      exact r2.2.2.2.1.2 i hi q hq
/-- longs don't matter -/
theorem zR_L {h : ai_H} {x : Nat → Int64} (r : zR (h.1, x, h.2.2)) : zR h := r
