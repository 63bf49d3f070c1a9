/-! A TEXT READ BADLY -/
theorem zch_root {q : Nat} (h : q = 16387 ∨ q = 128 ∨ (2097543 ≤ q ∧ q ≤ 2097550) ∨ q = 16128 ∨ (2064385 ≤ q ∧ q ≤ 2064471)) : zroot q = 128 ∨ zroot q = 16128 := by
  rcases h with rfl | rfl | h | rfl | h
  · decide
  · decide
  · have : q = 2097543 ∨ q = 2097544 ∨ q = 2097545 ∨ q = 2097546 ∨ q = 2097547 ∨ q = 2097548 ∨ q = 2097549 ∨ q = 2097550 := by omega
    rcases this with rfl | rfl | rfl | rfl | rfl | rfl | rfl | rfl <;> decide
  · decide
  · obtain ⟨f, hf, rfl⟩ : ∃ f, f < 87 ∧ q = 2064385 + f := ⟨q - 2064385, by omega, by omega⟩
    exact Or.inr (zMr hf)
theorem zch_in {q : Nat} (h : q = 16387 ∨ q = 128 ∨ (2097543 ≤ q ∧ q ≤ 2097550) ∨ q = 16128 ∨ (2064385 ≤ q ∧ q ≤ 2064471)) : ¬ zin q := by
  intro hq
  have k := zin_r hq
  rcases h with rfl | rfl | h | rfl | h
  · exact zin_n (by omega) hq
  · exact zin_n (by omega) hq
  · have : q = 2097543 ∨ q = 2097544 ∨ q = 2097545 ∨ q = 2097546 ∨ q = 2097547 ∨ q = 2097548 ∨ q = 2097549 ∨ q = 2097550 := by omega
    revert hq
    unfold zin
    rcases this with rfl | rfl | rfl | rfl | rfl | rfl | rfl | rfl <;> decide
  · revert k; decide
  · obtain ⟨f, hf, rfl⟩ : ∃ f, f < 87 ∧ q = 2064385 + f := ⟨q - 2064385, by omega, by omega⟩
    rw [zMr hf] at k
    revert k; decide
/-- what may have changed -/
def zChg (w0 p q j : Nat) : Prop := (q = 16387 ∧ 1 ≤ j) ∨ (q = 128 ∧ j = 11) ∨ (2097543 ≤ q ∧ q ≤ 2097550) ∨ zQz w0 p q j ∨ (q = 16128 ∧ j = 49)
theorem zChg_c {w0 p q j : Nat} (h : zChg w0 p q j) : q = 16387 ∨ q = 128 ∨ (2097543 ≤ q ∧ q ≤ 2097550) ∨ q = 16128 ∨ (2064385 ≤ q ∧ q ≤ 2064471) := by
  unfold zChg zQz at h
  omega
theorem zR_tbad {h h2 : ai_H} {w0 p t : Nat} (hr : zR h) (h42 : h.1 16128 42 = nI w0) (e : ∀ q j, ¬ zChg w0 p q j → h2.1 q j = h.1 q j) (e2 : h2.2.2 = h.2.2) (ht : t ≤ 500) (hw : w0 < 2147483648)
    (c11 : h2.1 128 11 = nI t) (c1 : h2.1 16387 1 = 0) (s49 : h2.1 16128 49 = nI t) (s42 : h2.1 16128 42 = nI w0) (s48 : h2.1 16128 48 = 0) (s36 : ∀ j, j < 6 → h2.1 2064421 j = h.1 2064421 j) (sr : ∀ q j, 2064423 ≤ q → q ≤ 2064426 → j < 144 → h2.1 q j = h.1 q j) : zR h2 := by
  obtain ⟨r1, r2, r3, r4⟩ := id hr
  obtain ⟨rS, -, rI, rN, -, rT⟩ := r1
  have sm : ∀ j, ¬ j = 42 → ¬ j = 48 → ¬ j = 49 → (zMv h2).2 j = (zMv h).2 j := fun j n1 n2 n3 => by
    show (if j < 50 then h2.1 16128 j else 0) = (if j < 50 then h.1 16128 j else 0)
    by_cases c : j < 50
    · rw [if_pos c, if_pos c, e _ _ (by unfold zChg zQz; omega)]
    · rw [if_neg c, if_neg c]
  have m42 : (zMv h2).2 42 = (zMv h).2 42 := by rw [zMv2 (by decide), zMv2 (by decide), s42, h42]
  have m48 : (zMv h2).2 48 = 0 := (zMv2 (by decide)).trans s48
  have m49 : (zMv h2).2 49 = nI t := (zMv2 (by decide)).trans s49
  have gz : ∀ j, ¬ j = 48 → ¬ j = 49 → zg (zMv h2) j = zg (zMv h) j := fun j n2 n3 => by
    unfold zg
    by_cases c : j = 42
    · rw [c, m42]
    · rw [sm j c n2 n3]
  have rw0 : ((zMv h).2 42).toInt.toNat = w0 := by rw [zMv2 (by decide), h42, z_T hw]; exact Int.toNat_natCast w0
  have ra : ∀ f i, f < 36 → (zMv h2).1 f i = (zMv h).1 f i := fun f i hf => by
    rw [zMv1 (by omega), zMv1 (by omega), e _ _ (by unfold zChg zQz; omega)]
  have rh : ∀ f i, (f = 37 ∨ f = 47 ∨ (63 ≤ f ∧ f ≤ 66)) → (zMv h2).1 f i = (zMv h).1 f i := fun f i hf => by
    rw [zMv1 (by omega), zMv1 (by omega), e _ _ (by unfold zChg zQz; omega)]
  have r36 : ∀ j, j < 6 → (zMv h2).1 36 j = (zMv h).1 36 j := fun j hj => by
    rw [zMv1 (by decide), zMv1 (by decide)]
    exact s36 j hj
  have rrow : ∀ f j, 38 ≤ f → f ≤ 41 → j < 144 → (zMv h2).1 f j = (zMv h).1 f j := fun f j h1 h2 hj => by
    rw [zMv1 (by omega), zMv1 (by omega)]
    exact sr _ _ (by omega) (by omega) hj
  have rst : ∀ f k, 43 ≤ f → f ≤ 46 → k < w0 → (zMv h2).1 f k = (zMv h).1 f k := fun f k h1 h2 hk => by
    rw [zMv1 (by omega), zMv1 (by omega), e _ _ (by unfold zChg zQz; omega)]
  have dn : ai_dn h2 = ai_dn h := by unfold ai_dn; rw [e2]
  have al : ∀ q, zrt h (zroot q) → h2.1 q = h.1 q ∧ h2.2.2.1 q = h.2.2.1 q ∧ h2.2.2.2.1 q = h.2.2.2.1 q := fun q hq =>
    ⟨funext fun j => e q j (fun c => by have := zch_root (zChg_c c); have := hq.2.1; omega), by rw [e2], by rw [e2]⟩
  have al' : ∀ q, zrt h q → h2.1 q = h.1 q ∧ h2.2.2.1 q = h.2.2.1 q ∧ h2.2.2.2.1 q = h.2.2.2.1 q := fun q hq => al q (by rw [zr0 hq.1]; exact hq)
  have oldX : ∀ q, ¬ (q = 16387 ∨ q = 128 ∨ (2097543 ≤ q ∧ q ≤ 2097550) ∨ q = 16128 ∨ (2064385 ≤ q ∧ q ≤ 2064471)) → h2.1 q = h.1 q := fun q hq => funext fun j => e q j (fun c => hq (zChg_c c))
  have lw : ∀ p, p < 6 → zVl (zMv h) p → zlaw (zMv h2) p = zlaw (zMv h) p := fun p hp hv => zlaw_w hv (Nat.le_of_eq rw0) (r36 p hp) (fun f j h1 h2 h3 h4 => rrow f j h1 h2 (by omega)) rst
  have vw : ∀ p, p < 6 → zVl (zMv h) p → zVl (zMv h2) p := fun p hp hv => zVl_w hv (Nat.le_of_eq rw0) (by rw [m42]; exact Int.le_refl _) (r36 p hp) (fun f j h1 h2 h3 h4 => rrow f j h1 h2 (by omega)) rst
  have T5 : zg (zMv h) 33 ≤ 5 := by have := r2.1.2.1; unfold zi at this; unfold zg; omega
  obtain ⟨v1, v2, v3, v4, v5, v6, v7⟩ := zVmH_of r2
  refine zR_tx hr (Nat.le_of_eq dn.symm) (fun q hq => by rw [e2]; exact r3 q (by rw [← dn]; exact hq)) al (fun i _ => by rw [e2]) (fun f i hf _ => ra f i (by omega)) (sm 32 (by decide) (by decide) (by decide)) ?_ (Nat.le_of_eq (gz 33 (by decide) (by decide)).symm) ?_ (c11.trans m49.symm) ?_ ⟨by rw [c1, m48], fun i hi => ?_⟩ ?_ ⟨⟨?_, ?_, ?_, ?_, ?_, ?_⟩, fun t ht => ?_, ?_, fun i hi => ?_, ?_, fun t ht => ?_, fun k => ?_⟩ (fun t ht => ?_)
  · rw [gz 33 (by decide) (by decide)]
    exact zS_s (fun f hf => funext fun i => ra f _ (by omega)) (zS_c2 (fun q hq => funext fun j => e q j (fun c => zch_in (zChg_c c) (zbl_in.mp hq))) (fun q _ => by rw [e2]) rS)
  · exact e _ _ (by unfold zChg zQz; omega)
  · unfold zNm at rN ⊢
    rw [gz 34 (by decide) (by decide), sm 34 (by decide) (by decide) (by decide), oldX 16389 (by decide), oldX 2097794 (by decide), oldX 2097795 (by decide), oldX 2097796 (by decide), oldX 2097797 (by decide), oldX 2097798 (by decide)]
    have fr : ∀ f, 63 ≤ f → f ≤ 66 → (zMv h2).1 f = (zMv h).1 f := fun f h1 h2 => funext fun i => rh f i (Or.inr (Or.inr ⟨h1, h2⟩))
    simp only [fr 63 (by decide) (by decide), fr 64 (by decide) (by decide), fr 65 (by decide) (by decide), fr 66 (by decide) (by decide), zfit_r fr]
    exact rN
  · unfold zg at hi
    rw [m48] at hi
    exact absurd hi (Nat.not_lt_zero _)
  · obtain ⟨f1, f2, z, f3, f4⟩ := rT
    refine ⟨by rw [oldX 16388 (by decide), sm 33 (by decide) (by decide) (by decide)]; exact f1, fun t ht => ?_, z, by rw [e2]; exact f3, ?_⟩
    · rw [gz 33 (by decide) (by decide)] at ht
      obtain ⟨p1, y, p2, p3⟩ := f2 t ht
      exact ⟨by rw [oldX 2097666 (by decide), rh 37 _ (Or.inl rfl)]; exact p1, y, by rw [e2]; exact p2, by rw [lw (1 + t) (by omega) (v6 t ht)]; exact zLw_c al' (Nat.le_of_eq dn.symm) p3⟩
    · rw [sm 35 (by decide) (by decide) (by decide)]
      by_cases c : (zMv h).2 35 = 0
      · rw [if_pos c] at f4 ⊢
        exact zLw_c al' (Nat.le_of_eq dn.symm) f4
      · rw [if_neg c] at f4 ⊢
        rw [lw 0 (by decide) (v7 c)]
        exact zLw_c al' (Nat.le_of_eq dn.symm) f4
  · rw [sm 32 (by decide) (by decide) (by decide)]; exact v1.1
  · rw [sm 33 (by decide) (by decide) (by decide)]; exact v1.2.1
  · rw [sm 34 (by decide) (by decide) (by decide)]; exact v1.2.2.1
  · rw [sm 35 (by decide) (by decide) (by decide)]; exact v1.2.2.2.1
  · rw [m48]; unfold zi; decide
  · rw [m49]; unfold zi; rw [z_T (by omega)]; omega
  · rw [gz 33 (by decide) (by decide)] at ht
    rw [rh 37 _ (Or.inl rfl)]
    exact v2 t ht
  · have fr : ∀ f, 63 ≤ f → f ≤ 66 → (zMv h2).1 f = (zMv h).1 f := fun f h1 h2 => funext fun i => rh f i (Or.inr (Or.inr ⟨h1, h2⟩))
    rw [gz 34 (by decide) (by decide), fr 63 (by decide) (by decide), fr 64 (by decide) (by decide), fr 65 (by decide) (by decide), fr 66 (by decide) (by decide)]
    exact v3
  · unfold zg at hi
    rw [m48] at hi
    exact absurd hi (Nat.not_lt_zero _)
  · obtain ⟨s1, s2, s3⟩ := v5
    refine ⟨by rw [m42, gz 33 (by decide) (by decide)]; exact s1, fun k hk => ?_, fun t h1 h2 => ?_⟩
    · rw [m42] at hk
      rw [rst 43 k (by decide) (by decide) (by omega), rst 44 k (by decide) (by decide) (by omega), rst 45 k (by decide) (by decide) (by omega), rst 46 k (by decide) (by decide) (by omega)]
      exact s2 k hk
    · rw [gz 33 (by decide) (by decide)] at h1
      rw [r36 _ (by omega)]
      exact s3 t h1 h2
  · rw [gz 33 (by decide) (by decide)] at ht
    exact vw _ (by omega) (v6 t ht)
  · rw [sm 35 (by decide) (by decide) (by decide)] at k
    exact vw 0 (by decide) (v7 k)
  · rw [gz 33 (by decide) (by decide)] at ht
    rw [ra 21 _ (by decide)]
    exact (r2.2.2.2.1.1 t ht).1
