/-! A CALL THAT CHANGES WHAT IS NOW: the relation behind it -/
def zin (q : Nat) : Prop := zfp q = 16385 ∨ zfp (zfp q) = 16385 ∨ zfp (zfp (zfp q)) = 16385
theorem zin_r {q : Nat} (hq : zin q) : zroot q = 128 := by
  have k1 : zfp 16385 = 128 := rfl
  have k2 : zfp 128 = 128 := rfl
  unfold zin at hq
  unfold zroot
  rcases hq with hq | hq | hq <;> rw [hq] <;> simp only [k1, k2]
theorem zin_n {q : Nat} (h : q = 128 ∨ q = 16389 ∨ q = 16387 ∨ q = 16388 ∨ q = 2097794 ∨ q = 2097795 ∨ q = 2097796 ∨ q = 2097797 ∨ q = 2097798 ∨ q = 2097537 ∨ q = 2097666) : ¬ zin q := by
  unfold zin
  rcases h with rfl | rfl | rfl | rfl | rfl | rfl | rfl | rfl | rfl | rfl | rfl <;> decide
/-- views that differ in what is now alone -/
def zEq0 (μ μ' : zMu) : Prop := μ'.2 = μ.2 ∧ (∀ f i, 32 ≤ f → μ'.1 f i = μ.1 f i) ∧ ∀ f i, f < 32 → zst f ≤ i → μ'.1 f i = μ.1 f i
theorem zEq0_rf {μ : zMu} : zEq0 μ μ := ⟨rfl, fun _ _ _ => rfl, fun _ _ _ _ => rfl⟩
theorem zEq0_mu {μ μ' : zMu} {f i : Nat} {v : Int32} (a : zEq0 μ μ') (hf : f < 32) (hi : i < zst f) : zEq0 μ (zmu μ' f i v) := by
  refine ⟨a.1, fun g j hg => ?_, fun g j hg hj => ?_⟩
  · show (if g = f ∧ j = i then v else μ'.1 g j) = _
    rw [if_neg (by omega)]
    exact a.2.1 g j hg
  · show (if g = f ∧ j = i then v else μ'.1 g j) = _
    rw [if_neg]
    · exact a.2.2 g j hg hj
    · rintro ⟨rfl, rfl⟩
      omega
theorem zEq0_sl {μ μ' : zMu} (a : zEq0 μ μ') {k : Nat} (hk : 0 < k) : ∀ f i, zsl μ' k f i = zsl μ k f i := by
  intro f i
  unfold zsl
  by_cases h : f < 32
  · refine a.2.2 f _ h ?_
    have : zst f * 1 ≤ zst f * k := Nat.mul_le_mul_left _ hk
    omega
  · exact a.2.1 f _ (by omega)
theorem zlaw_c {μ μ' : zMu} (a : ∀ f i, 32 ≤ f → μ'.1 f i = μ.1 f i) (p : Nat) : zlaw μ' p = zlaw μ p := by
  have e : ∀ k, zenc μ' k = zenc μ k := fun k => by
    unfold zenc
    rw [a 43 k (by decide), a 44 k (by decide), a 45 k (by decide), a 46 k (by decide)]
  unfold zlaw zcode
  simp only [a 36 _ (by decide), a 38 _ (by decide), a 39 _ (by decide), a 40 _ (by decide), a 41 _ (by decide), e]
theorem zdep_c {μ μ' : zMu} (a : ∀ f i, 32 ≤ f → μ'.1 f i = μ.1 f i) (p : Nat) : ∀ k, zdep μ' p k = zdep μ p k := by
  intro k
  induction k with
  | zero => rfl
  | succ k ih =>
    unfold zdep
    rw [ih, a 43 _ (by decide)]
theorem zVl_c {μ μ' : zMu} (b : μ'.2 = μ.2) (a : ∀ f i, 32 ≤ f → μ'.1 f i = μ.1 f i) {p : Nat} (h : zVl μ p) : zVl μ' p := by
  unfold zVl at h ⊢
  rw [zlaw_c a, b]
  simp only [a 36 _ (by decide), a 38 _ (by decide), a 39 _ (by decide), a 40 _ (by decide), a 41 _ (by decide), zdep_c a]
  exact h
theorem zfit_c {μ μ' : zMu} (a : ∀ f i, 32 ≤ f → μ'.1 f i = μ.1 f i) (t d : Nat) : zfit μ' t d = zfit μ t d := by
  unfold zfit
  simp only [a 63 _ (by decide), a 64 _ (by decide), a 65 _ (by decide), a 66 _ (by decide)]
theorem zVm_0 {μ μ' : zMu} (e : zEq0 μ μ') (v : zV (zsl μ' 0)) (c : ∀ t, t < zg μ 33 → zi (μ'.1 21 t) 0 99999) (h : zVm μ) : zVm μ' := by
  have a := e.2.1
  have s : ∀ k, 0 < k → zsl μ' k = zsl μ k := fun k hk => funext fun f => funext fun i => zEq0_sl e hk f i
  have g : ∀ j, zg μ' j = zg μ j := fun j => by unfold zg; rw [e.1]
  have n9 : ∀ i, μ'.1 9 (i + 1) = μ.1 9 (i + 1) := fun i => e.2.2 9 _ (by decide) (by show 1 ≤ i + 1; omega)
  obtain ⟨h1, h2, h3, ⟨h4, h4'⟩, h5, h6, h7, h8, h9⟩ := h
  unfold zVm
  rw [e.1, g 32, g 33, g 34, g 48]
  refine ⟨h1, fun k hk => ?_, fun i hi => by rw [n9]; exact h3 i hi, ⟨fun t ht => ⟨c t ht, by rw [a 37 _ (by decide)]; exact (h4 t ht).2⟩, fun i hi t ht => ?_⟩, ?_, fun i hi => by rw [a 47 _ (by decide)]; exact h6 i hi, ?_, fun t ht => zVl_c e.1 a (h8 t ht), fun hc => zVl_c e.1 a (h9 hc)⟩
  · by_cases hk0 : k = 0
    · subst hk0; exact v
    · rw [s k (by omega)]; exact h2 k hk
  · rw [n9] at ht
    rw [e.2.2 21 _ (by decide) (by show 5 ≤ _; omega)]
    exact h4' i hi t ht
  · simp only [a 63 _ (by decide), a 64 _ (by decide), a 65 _ (by decide), a 66 _ (by decide)]
    exact h5
  · unfold zVs at h7 ⊢
    rw [e.1, g 33]
    simp only [a 36 _ (by decide), a 43 _ (by decide), a 44 _ (by decide), a 45 _ (by decide), a 46 _ (by decide)]
    exact h7
theorem zRx_0 {h h1 : ai_H} {μ μ' : zMu} (e : zEq0 μ μ') (f : (∀ q, ¬ zin q → h1.1 q = h.1 q) ∧ h1.2 = h.2) (s' : zS h1 16385 (zg μ 33) (zsl μ' 0)) (hr : zRx h μ) : zRx h1 μ' := by
  have a := e.2.1
  have g : ∀ j, zg μ' j = zg μ j := fun j => by unfold zg; rw [e.1]
  have n9 : ∀ i, μ'.1 9 (i + 1) = μ.1 9 (i + 1) := fun i => e.2.2 9 _ (by decide) (by show 1 ≤ i + 1; omega)
  have sl : ∀ k, 0 < k → zsl μ' k = zsl μ k := fun k hk => funext fun f => funext fun i => zEq0_sl e hk f i
  obtain ⟨r1, r2, r3, r4, r5, r6⟩ := hr
  have bd : ai_dn h1 = ai_dn h := by unfold ai_dn; rw [f.2]
  have m : ∀ q, zrt h q → zrt h1 q := fun q hq => ⟨hq.1, hq.2.1, by rw [bd]; exact hq.2.2⟩
  have nr : ∀ q, zrt h (zroot q) → ¬ zin q := fun q hq c => by
    rw [zin_r c] at hq
    have := hq.2.1
    omega
  have al : ∀ q, zrt h q → h1.1 q = h.1 q ∧ h1.2.2.1 q = h.2.2.1 q ∧ h1.2.2.2.1 q = h.2.2.2.1 q := fun q hq => ⟨f.1 q (nr q (by rw [zr0 hq.1]; exact hq)), by rw [f.2], by rw [f.2]⟩
  refine ⟨by rw [g]; exact s', by rw [f.1 128 (zin_n (by omega)), e.1]; exact r2, ⟨by rw [f.1 128 (zin_n (by omega)), e.1]; exact r3.1, fun i hi => ?_⟩, ?_, ?_, ?_⟩
  · rw [g] at hi
    obtain ⟨y, e1, e2, e3, e4⟩ := r3.2 i hi
    refine ⟨y, by rw [f.2]; exact e1, m y e2, by rw [(al y e2).1, n9]; exact e3, ?_⟩
    rw [n9, sl _ (by omega)]
    refine zS_c (fun q hq => f.1 q (nr q ?_)) (by rw [f.2]) e4
    have k : zroot q = y := by
      have k0 : zfp y = y := zfp_r e2.1
      unfold zroot
      rcases hq with hq | hq | hq <;> rw [hq] <;> simp only [k0]
    rw [k]
    exact e2
  · unfold zNm at r4 ⊢
    simp only [f.1 16389 (zin_n (by omega)), f.1 2097794 (zin_n (by omega)), f.1 2097795 (zin_n (by omega)), f.1 2097796 (zin_n (by omega)), f.1 2097797 (zin_n (by omega)), f.1 2097798 (zin_n (by omega)), e.1, g, a 63 _ (by decide), a 64 _ (by decide), a 65 _ (by decide), a 66 _ (by decide), zfit_c a]
    exact r4
  · unfold zTp at r5 ⊢
    simp only [f.1 16387 (zin_n (by omega)), f.1 2097537 (zin_n (by omega)), e.1, g, a 47 _ (by decide)]
    exact r5
  · obtain ⟨f1, f2, y, f3, f4⟩ := r6
    refine ⟨by rw [f.1 16388 (zin_n (by omega)), e.1]; exact f1, fun t ht => ?_, y, by rw [f.2]; exact f3, by rw [zlaw_c a, e.1]; exact zLw_c al (by rw [bd]; exact Nat.le_refl _) f4⟩
    rw [g] at ht
    obtain ⟨g1, y, g2, g3⟩ := f2 t ht
    exact ⟨by rw [f.1 2097666 (zin_n (by omega)), a 37 _ (by decide)]; exact g1, y, by rw [f.2]; exact g2, by rw [zlaw_c a]; exact zLw_c al (by rw [bd]; exact Nat.le_refl _) g3⟩
/-- the reference's part doesn't matter for the class's -/
theorem zRx_m {h h' : ai_H} {μ : zMu} (f : zFm h h') (b : h'.2 = h.2) (hr : zRx h μ) : zRx h' μ := by
  have k : ∀ q, ¬ zroot q = 16128 → h'.1 q = h.1 q := f.1
  refine zRx_c (fun q hq => k q (fun c => ?_)) (fun q hq => k q (fun c => ?_)) ⟨by rw [k 128 (by decide)], by rw [k 128 (by decide)]⟩ ⟨by rw [k 16389 (by decide)], k _ (by decide), k _ (by decide), k _ (by decide), k _ (by decide), k _ (by decide)⟩ ⟨by rw [k 16387 (by decide)], k _ (by decide)⟩ ⟨by rw [k 16388 (by decide)], k _ (by decide)⟩ (by rw [b]) hr
  · rw [c] at hq
    have := hq.2.1
    omega
  · have := zin_r (show zin q from hq)
    omega
theorem zR_now {h h1 h2 : ai_H} {μ' : zMu} (hr : zR h) (e : zEq0 (zMv h) μ') (f : (∀ q, ¬ zin q → h1.1 q = h.1 q) ∧ h1.2 = h.2) (s' : zS h1 16385 (zg (zMv h) 33) (zsl μ' 0)) (fm : zFm h1 h2) (b : h2.2 = h1.2) (v : zMv h2 = μ') (vv : zV (zsl μ' 0)) (c : ∀ t, t < zg (zMv h) 33 → zi (μ'.1 21 t) 0 99999) : zR h2 := by
  obtain ⟨r1, r2, r3, r4⟩ := hr
  have hd : ai_dn h2 = ai_dn h := by unfold ai_dn; rw [b, f.2]
  unfold zR
  rw [v]
  refine ⟨zRx_m fm b (zRx_0 e f s' r1), zVm_0 e vv c r2, fun q hq => ?_, by rw [hd]; exact r4⟩
  rw [b, f.2]
  rw [hd] at hq
  exact r3 q hq
