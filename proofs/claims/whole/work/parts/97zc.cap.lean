/-! THE CAP IS WRITTEN: the relation -/
def zChC (q j : Nat) : Prop := (q = 16387 ∧ 1 ≤ j) ∨ (q = 128 ∧ j = 11) ∨ (2097543 ≤ q ∧ q ≤ 2097550) ∨ (q = 16128 ∧ (j = 35 ∨ j = 42 ∨ 48 ≤ j)) ∨ (q = 2064421 ∧ (j = 0 ∨ j = 6)) ∨ (2064423 ≤ q ∧ q ≤ 2064426) ∨ (2064428 ≤ q ∧ q ≤ 2064431) ∨ q = 2064442 ∨ q = 2064443 ∨ q = 2064445
theorem zChC_c {q j : Nat} (h : zChC q j) : q = 16387 ∨ q = 128 ∨ (2097543 ≤ q ∧ q ≤ 2097550) ∨ q = 16128 ∨ (2064385 ≤ q ∧ q ≤ 2064471) := by
  unfold zChC at h
  omega
theorem zR_cap {h h2 : ai_H} {y : Nat} {L : List zTx} (hr : zR h) (hy : ai_dn h = y) (dn : ai_dn h2 = y + 640)
    (e : ∀ q j, (∀ k, k < 5 → ¬ q = y + 128 * k) → ¬ zChC q j → h2.1 q j = h.1 q j)
    (er : ∀ q i, (∀ k, k < 5 → ¬ q = y + 128 * k) → ¬ (q = 128 ∧ i = 9) → h2.2.2.1 q i = h.2.2.1 q i) (ek : ∀ q, (∀ k, k < 5 → ¬ q = y + 128 * k) → h2.2.2.2.1 q = h.2.2.2.1 q)
    (lw2 : zLw h2 y (zltx L)) (lr : h2.2.2.1 128 9 = some y)
    (c11 : h2.1 128 11 = -1) (c1 : h2.1 16387 1 = 0) (s49 : h2.1 16128 49 = -1) (s48 : h2.1 16128 48 = 0) (s35 : h2.1 16128 35 = 1)
    (lT : ∀ t, t < zg (zMv h) 33 → zlaw (zMv h2) (1 + t) = zlaw (zMv h) (1 + t) ∧ zVl (zMv h2) (1 + t)) (l0 : zlaw (zMv h2) 0 = zltx L) (v0 : zVl (zMv h2) 0) (vs : zVs (zMv h2)) : zR h2 := by
  obtain ⟨r1, r2, r3, r4⟩ := id hr
  obtain ⟨rS, -, rI, rN, -, rT⟩ := r1
  have y0 : y % 128 = 0 := by rw [← hy]; unfold ai_dn; omega
  have y1 : 16128 < y := by rw [← hy]; exact r4
  have nn : ∀ q, zroot q ≤ 16128 → ∀ k, k < 5 → ¬ q = y + 128 * k := fun q hq k hk c => by
    rw [c, zr0 (by omega)] at hq
    omega
  have nm : ∀ q, ¬ q % 128 = 0 → ∀ k, k < 5 → ¬ q = y + 128 * k := fun q hq k hk c => by omega
  have mr : ∀ f, f < 87 → ∀ k, k < 5 → ¬ 2064385 + f = y + 128 * k := fun f hf => nn _ (by rw [zMr hf]; exact Nat.le_refl _)
  have o15 : ∀ k, k < 5 → ¬ (16128 : Nat) = y + 128 * k := nn _ (by decide)
  have sm : ∀ j, ¬ j = 35 → ¬ j = 42 → ¬ j = 48 → ¬ j = 49 → (zMv h2).2 j = (zMv h).2 j := fun j n1 n2 n3 n4 => by
    show (if j < 50 then h2.1 16128 j else 0) = (if j < 50 then h.1 16128 j else 0)
    by_cases c : j < 50
    · rw [if_pos c, if_pos c, e _ _ o15 (by unfold zChC; omega)]
    · rw [if_neg c, if_neg c]
  have m48 : (zMv h2).2 48 = 0 := (zMv2 (by decide)).trans s48
  have m49 : (zMv h2).2 49 = -1 := (zMv2 (by decide)).trans s49
  have m35 : (zMv h2).2 35 = 1 := (zMv2 (by decide)).trans s35
  have gz : ∀ j, ¬ j = 35 → ¬ j = 42 → ¬ j = 48 → ¬ j = 49 → zg (zMv h2) j = zg (zMv h) j := fun j n1 n2 n3 n4 => by unfold zg; rw [sm j n1 n2 n3 n4]
  have g33 := gz 33 (by decide) (by decide) (by decide) (by decide)
  have ra : ∀ f i, (f < 36 ∨ f = 37 ∨ f = 47 ∨ (63 ≤ f ∧ f ≤ 66)) → (zMv h2).1 f i = (zMv h).1 f i := fun f i hf => by
    rw [zMv1 (by omega), zMv1 (by omega), e _ _ (mr f (by omega)) (by unfold zChC; omega)]
  have fr : ∀ f, 63 ≤ f → f ≤ 66 → (zMv h2).1 f = (zMv h).1 f := fun f h1 h2 => funext fun i => ra f i (by omega)
  have al : ∀ q, zrt h (zroot q) → h2.1 q = h.1 q ∧ h2.2.2.1 q = h.2.2.1 q ∧ h2.2.2.2.1 q = h.2.2.2.1 q := fun q hq => by
    have q1 := hq.2.1
    have q2 := hq.2.2
    rw [hy] at q2
    have nk : ∀ k, k < 5 → ¬ q = y + 128 * k := fun k hk c => by rw [c, zr0 (by omega)] at q2; omega
    exact ⟨funext fun j => e q j nk (fun c => by have := zch_root (zChC_c c); omega), funext fun i => er q i nk (fun c => by
      have : zroot q = 128 := by rw [c.1]; decide
      omega), ek q nk⟩
  have al' : ∀ q, zrt h q → h2.1 q = h.1 q ∧ h2.2.2.1 q = h.2.2.1 q ∧ h2.2.2.2.1 q = h.2.2.2.1 q := fun q hq => al q (by rw [zr0 hq.1]; exact hq)
  have dl : ai_dn h ≤ ai_dn h2 := by rw [hy, dn]; omega
  have oldX : ∀ q, zroot q ≤ 16128 → ¬ (q = 16387 ∨ q = 128 ∨ (2097543 ≤ q ∧ q ≤ 2097550) ∨ q = 16128 ∨ (2064385 ≤ q ∧ q ≤ 2064471)) → h2.1 q = h.1 q := fun q hq h1 => funext fun j => e q j (nn q hq) (fun c => h1 (zChC_c c))
  obtain ⟨v1, v2, v3, v4, v5, v6, v7⟩ := zVmH_of r2
  refine zR_tx hr dl (fun q hq => ?_) al (fun i _ => er 16386 i (nm _ (by decide)) (by omega)) (fun f i hf hi => ra f i (by omega)) (sm 32 (by decide) (by decide) (by decide) (by decide)) ?_ (Nat.le_of_eq g33.symm) ?_ (c11.trans m49.symm) ?_ ⟨by rw [c1, m48], fun i hi => ?_⟩ ?_ ⟨⟨?_, ?_, ?_, ?_, ?_, ?_⟩, fun t ht => ?_, ?_, fun i hi => ?_, vs, fun t ht => ?_, fun _ => v0⟩ (fun t ht => ?_)
  · rw [dn] at hq
    rw [ek q (fun k hk c => by rw [c, zr0 (by omega)] at hq; omega)]
    exact r3 q (by rw [hy]; omega)
  · rw [g33]
    exact zS_s (fun f hf => funext fun i => ra f _ (by omega)) (zS_c2 (fun q hq => funext fun j => e q j (nn q (by rw [zin_r (zbl_in.mp hq)]; decide)) (fun c => zch_in (zChC_c c) (zbl_in.mp hq))) (fun q hq => ek q (nn q (by rw [zin_r (zbl_in.mp hq)]; decide))) rS)
  · exact e _ _ (nn _ (by decide)) (by unfold zChC; omega)
  · unfold zNm at rN ⊢
    rw [gz 34 (by decide) (by decide) (by decide) (by decide), sm 34 (by decide) (by decide) (by decide) (by decide), oldX 16389 (by decide) (by decide), oldX 2097794 (by decide) (by decide), oldX 2097795 (by decide) (by decide), oldX 2097796 (by decide) (by decide), oldX 2097797 (by decide) (by decide), oldX 2097798 (by decide) (by decide)]
    simp only [fr 63 (by decide) (by decide), fr 64 (by decide) (by decide), fr 65 (by decide) (by decide), fr 66 (by decide) (by decide), zfit_r fr]
    exact rN
  · unfold zg at hi
    rw [m48] at hi
    exact absurd hi (Nat.not_lt_zero _)
  · obtain ⟨f1, f2, z, f3, f4⟩ := rT
    refine ⟨by rw [oldX 16388 (by decide) (by decide), sm 33 (by decide) (by decide) (by decide) (by decide)]; exact f1, fun t ht => ?_, y, lr, by rw [m35, if_neg (by decide), l0]; exact lw2⟩
    rw [g33] at ht
    obtain ⟨p1, y', p2, p3⟩ := f2 t ht
    exact ⟨by rw [oldX 2097666 (by decide) (by decide), ra 37 _ (by omega)]; exact p1, y', by rw [er _ _ (nm _ (by decide)) (by omega)]; exact p2, by rw [(lT t ht).1]; exact zLw_c al' dl p3⟩
  · rw [sm 32 (by decide) (by decide) (by decide) (by decide)]; exact v1.1
  · rw [sm 33 (by decide) (by decide) (by decide) (by decide)]; exact v1.2.1
  · rw [sm 34 (by decide) (by decide) (by decide) (by decide)]; exact v1.2.2.1
  · rw [m35]; unfold zi; decide
  · rw [m48]; unfold zi; decide
  · rw [m49]; unfold zi; decide
  · rw [g33] at ht
    rw [ra 37 _ (by omega)]
    exact v2 t ht
  · rw [gz 34 (by decide) (by decide) (by decide) (by decide), fr 63 (by decide) (by decide), fr 64 (by decide) (by decide), fr 65 (by decide) (by decide), fr 66 (by decide) (by decide)]
    exact v3
  · unfold zg at hi
    rw [m48] at hi
    exact absurd hi (Nat.not_lt_zero _)
  · rw [g33] at ht
    exact (lT t ht).2
  · rw [g33] at ht
    rw [ra 21 _ (by omega)]
    exact (r2.2.2.2.1.1 t ht).1
