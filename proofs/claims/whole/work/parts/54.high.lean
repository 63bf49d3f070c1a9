/-! CHANGES OF WHAT ISN'T IN A SLICE: tape, names, trusts -/
theorem zV_s {σ σ' : Nat → Nat → Int32} (a : ∀ f, f < 32 → σ' f = σ f) (h : zV σ) : zV σ' := by
  obtain ⟨h1, h2, h3, h4, h5, h6⟩ := h
  refine ⟨?_, zVn_c (a 0 (by decide)) (a 10 (by decide)) h2, zVt_c (fun f hf => a f (by omega)) h3, zVh_c (fun f hf => a f (by omega)) h4, zVe_c (fun f hf => a f (by omega)) h5, zVj_c (fun f hf => a f (by omega)) h6⟩
  unfold zVc at h1 ⊢
  rw [a 0 (by decide), a 1 (by decide), a 2 (by decide), a 8 (by decide), a 3 (by decide), a 4 (by decide), a 5 (by decide), a 6 (by decide), a 7 (by decide)]
  exact h1
theorem zS_s {h : ai_H} {s T : Nat} {σ σ' : Nat → Nat → Int32} (a : ∀ f, f < 32 → σ' f = σ f) (hs : zS h s T σ) : zS h s T σ' := by
  obtain ⟨h1, h2, h3, h4, h5⟩ := hs
  refine ⟨zC_s (fun f hf => a f (by omega)) h1, zD_s (fun f hf => a f (by omega)) h2, zJ_s (fun f hf => a f (by omega)) h3, fun t ht => ?_, h5⟩
  rw [a 21 (by decide)]
  exact h4 t ht
/-- what holds of the view outside the slices -/
def zVmH (μ : zMu) : Prop :=
  (zi (μ.2 32) 0 3 ∧ zi (μ.2 33) 0 5 ∧ zi (μ.2 34) 0 20 ∧ zi (μ.2 35) 0 1 ∧ zi (μ.2 48) 0 500 ∧ zi (μ.2 49) (-1) 500) ∧ (∀ t, t < zg μ 33 → zi (μ.1 37 t) 0 16777215) ∧
  ((∀ t, t < 24 → zi (μ.1 64 t) 0 12 ∧ ∀ k, k < (μ.1 64 t).toInt.toNat → zi (μ.1 66 (12 * t + k)) 1 27) ∧ ∀ d, d < zg μ 34 → zi (μ.1 63 d) 1 12 ∧ ∀ k, k < (μ.1 63 d).toInt.toNat → zi (μ.1 65 (12 * d + k)) 1 26) ∧
  (∀ i, i < zg μ 48 → zi (μ.1 47 i) (-128) 127) ∧ zVs μ ∧ (∀ t, t < zg μ 33 → zVl μ (1 + t)) ∧ (¬ μ.2 35 = 0 → zVl μ 0)
theorem zVmH_of {μ : zMu} (h : zVm μ) : zVmH μ := ⟨h.1, fun t ht => (h.2.2.2.1.1 t ht).2, h.2.2.2.2.1, h.2.2.2.2.2.1, h.2.2.2.2.2.2.1, h.2.2.2.2.2.2.2.1, h.2.2.2.2.2.2.2.2⟩
theorem zR_hi {h h1 : ai_H} (hr : zR h) (b : h1.2 = h.2) (fi : ∀ q, zin q → h1.1 q = h.1 q) (ft : ∀ q, zrt h (zroot q) → h1.1 q = h.1 q) (a : ∀ f i, f < 32 → (zMv h1).1 f i = (zMv h).1 f i) (s2 : (zMv h1).2 32 = (zMv h).2 32) (s3 : (zMv h1).2 33 = (zMv h).2 33)
    (c10 : h1.1 128 10 = h.1 128 10) (c11 : h1.1 128 11 = (zMv h1).2 49) (n : zNm h1 (zMv h1)) (t : zTp h1 (zMv h1)) (u : zTr h1 (zMv h1)) (v : zVmH (zMv h1)) : zR h1 := by
  obtain ⟨r1, r2, r3, r4⟩ := hr
  have hd : ai_dn h1 = ai_dn h := by unfold ai_dn; rw [b]
  have g2 : zg (zMv h1) 32 = zg (zMv h) 32 := by unfold zg; rw [s2]
  have g3 : zg (zMv h1) 33 = zg (zMv h) 33 := by unfold zg; rw [s3]
  have sl : ∀ k f, f < 32 → zsl (zMv h1) k f = zsl (zMv h) k f := fun k f hf => funext fun i => a f _ hf
  have m : ∀ q, zrt h q → zrt h1 q := fun q hq => ⟨hq.1, hq.2.1, by rw [hd]; exact hq.2.2⟩
  refine ⟨⟨?_, c11, ⟨by rw [c10, s2]; exact r1.2.2.1.1, fun i hi => ?_⟩, n, t, u⟩, ?_, fun q hq => ?_, by rw [hd]; exact r4⟩
  · rw [g3]
    exact zS_s (sl 0) (zS_c (fun q hq => fi q hq) (by rw [b]) r1.1)
  · rw [g2] at hi
    obtain ⟨y, e1, e2, e3, e4⟩ := r1.2.2.1.2 i hi
    have ey : zroot y = y := zr0 e2.1
    refine ⟨y, by rw [b]; exact e1, m y e2, by rw [ft y (by rw [ey]; exact e2), a 9 _ (by decide)]; exact e3, ?_⟩
    rw [a 9 _ (by decide)]
    refine zS_s (sl (i + 1)) (zS_c (fun q hq => ft q ?_) (by rw [b]) e4)
    have k : zroot q = y := by
      have k0 : zfp y = y := zfp_r e2.1
      unfold zroot
      rcases hq with hq | hq | hq <;> rw [hq] <;> simp only [k0]
    rw [k]
    exact e2
  · obtain ⟨v1, v2, v3, v4, v5, v6, v7⟩ := v
    refine ⟨v1, fun k hk => zV_s (sl k) (r2.2.1 k (by rw [← g2]; exact hk)), fun i hi => ?_, ⟨fun q hq => ⟨?_, v2 q hq⟩, fun i hi q hq => ?_⟩, v3, v4, v5, v6, v7⟩
    · rw [g2] at hi
      rw [a 9 _ (by decide), g3]
      exact r2.2.2.1 i hi
    · rw [g3] at hq
      rw [a 21 _ (by decide)]
      exact (r2.2.2.2.1.1 q hq).1
    · rw [g2] at hi
      rw [a 9 _ (by decide)] at hq
      rw [a 21 _ (by decide)]
      exact r2.2.2.2.1.2 i hi q hq
  · rw [b]
    rw [hd] at hq
    exact r3 q hq
