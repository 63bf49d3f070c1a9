/-! NAMES: donor, worn -/
theorem zR_nam {h h2 : ai_H} (hr : zR h) (b : h2.2 = h.2) (ce : ∀ q, q ≠ 128 → q ≠ 16387 → q ≠ 16389 → (q < 2097794 ∨ 2097798 < q) → q ≠ 16128 → (q < 2064435 ∨ 2064471 < q) → h2.1 q = h.1 q)
    (c128 : h2.1 128 10 = h.1 128 10) (c49 : h2.1 128 11 = h2.1 16128 49) (t0 : h2.1 16387 1 = 0) (s48 : h2.1 16128 48 = 0) (sa : ∀ j, j < 50 → j ≠ 48 → j ≠ 49 → j ≠ 34 → h2.1 16128 j = h.1 16128 j) (v49 : zi (h2.1 16128 49) (-1) 500)
    (n : zNm h2 (zMv h2)) (v34 : zi ((zMv h2).2 34) 0 20)
    (vn : (∀ t, t < 24 → zi ((zMv h2).1 64 t) 0 12 ∧ ∀ k, k < ((zMv h2).1 64 t).toInt.toNat → zi ((zMv h2).1 66 (12 * t + k)) 1 27) ∧ ∀ d, d < zg (zMv h2) 34 → zi ((zMv h2).1 63 d) 1 12 ∧ ∀ k, k < ((zMv h2).1 63 d).toInt.toNat → zi ((zMv h2).1 65 (12 * d + k)) 1 26) : zR h2 := by
  have hd : ai_dn h2 = ai_dn h := by unfold ai_dn; rw [b]
  have ra : ∀ f, f < 50 → (zMv h2).1 f = (zMv h).1 f := by
    intro f hf
    funext i
    show (if f < 50 ∨ (63 ≤ f ∧ f < 67) then h2.1 (2064385 + f) i else 0) = (if f < 50 ∨ (63 ≤ f ∧ f < 67) then h.1 (2064385 + f) i else 0)
    rw [ce _ (by omega) (by omega) (by omega) (by omega) (by omega) (by omega)]
  have sm : ∀ j, j ≠ 48 → j ≠ 49 → j ≠ 34 → (zMv h2).2 j = (zMv h).2 j := by
    intro j n1 n2 n3
    show (if j < 50 then h2.1 16128 j else 0) = (if j < 50 then h.1 16128 j else 0)
    by_cases c : j < 50
    · rw [if_pos c, if_pos c, sa j c n1 n2 n3]
    · rw [if_neg c, if_neg c]
  have e48 : (zMv h2).2 48 = 0 := (zMv2 (by decide)).trans s48
  have e49 : (zMv h2).2 49 = h2.1 16128 49 := zMv2 (by decide)
  have n48 : zg (zMv h2) 48 = 0 := by unfold zg; rw [e48]; rfl
  have gg : ∀ j, j ≠ 48 → j ≠ 49 → j ≠ 34 → zg (zMv h2) j = zg (zMv h) j := fun j n1 n2 n3 => by unfold zg; rw [sm j n1 n2 n3]
  obtain ⟨r1, r2, r3, r4⟩ := id hr
  have rt : ∀ q, zrt h (zroot q) → h2.1 q = h.1 q := by
    intro q hq
    have h0 := hq.2.1
    have k1 : ∀ q', 2097794 ≤ q' → q' ≤ 2097798 → zroot q' = 128 := by
      intro q' a1 a2
      rcases (show q' = 2097794 ∨ q' = 2097795 ∨ q' = 2097796 ∨ q' = 2097797 ∨ q' = 2097798 by omega) with rfl | rfl | rfl | rfl | rfl <;> decide
    have k2 : ∀ q', 2064435 ≤ q' → q' ≤ 2064471 → zroot q' = 16128 := by
      intro q' a1 a2
      obtain ⟨f, hf, rfl⟩ : ∃ f, f < 87 ∧ q' = 2064385 + f := ⟨q' - 2064385, by omega, by omega⟩
      exact zMr hf
    refine ce q ?_ ?_ ?_ ?_ ?_ ?_
    · rintro rfl; revert h0; decide
    · rintro rfl; revert h0; decide
    · rintro rfl; revert h0; decide
    · rcases Nat.lt_or_ge q 2097794 with g | g
      · exact Or.inl g
      · rcases Nat.lt_or_ge 2097798 q with g2 | g2
        · exact Or.inr g2
        · rw [k1 q g g2] at h0; omega
    · rintro rfl; revert h0; decide
    · rcases Nat.lt_or_ge q 2064435 with g | g
      · exact Or.inl g
      · rcases Nat.lt_or_ge 2064471 q with g2 | g2
        · exact Or.inr g2
        · rw [k2 q g g2] at h0; omega
  have ri : ∀ q, zin q → h2.1 q = h.1 q := by
    intro q hq
    have h0 := zin_r hq
    have k2 : ∀ q', 2064435 ≤ q' → q' ≤ 2064471 → zroot q' = 16128 := by
      intro q' a1 a2
      obtain ⟨f, hf, rfl⟩ : ∃ f, f < 87 ∧ q' = 2064385 + f := ⟨q' - 2064385, by omega, by omega⟩
      exact zMr hf
    refine ce q (fun c => zin_n (by omega) hq) (fun c => zin_n (by omega) hq) (fun c => zin_n (by omega) hq) ?_ ?_ ?_
    · rcases Nat.lt_or_ge q 2097794 with g | g
      · exact Or.inl g
      · rcases Nat.lt_or_ge 2097798 q with g2 | g2
        · exact Or.inr g2
        · exact absurd hq (zin_n (by omega))
    · rintro rfl; revert h0; decide
    · rcases Nat.lt_or_ge q 2064435 with g | g
      · exact Or.inl g
      · rcases Nat.lt_or_ge 2064471 q with g2 | g2
        · exact Or.inr g2
        · rw [k2 q g g2] at h0; omega
  have al : ∀ q, zrt h q → h2.1 q = h.1 q ∧ h2.2.2.1 q = h.2.2.1 q ∧ h2.2.2.2.1 q = h.2.2.2.1 q := fun q hq => ⟨rt q (by rw [zr0 hq.1]; exact hq), by rw [b], by rw [b]⟩
  have ra3 : ∀ f, 36 ≤ f → f ≤ 46 → (zMv h2).1 f = (zMv h).1 f := fun f h1 h2 => ra f (by omega)
  refine zR_hi hr b ri rt (fun f i hf => by rw [ra f (by omega)]) (sm 32 (by decide) (by decide) (by decide)) (sm 33 (by decide) (by decide) (by decide)) c128 (by rw [c49, e49]) n ⟨by rw [t0, e48], fun i hi => by rw [n48] at hi; omega⟩ ?_ ?_
  · obtain ⟨u1, u2, y, u3, u4⟩ := r1.2.2.2.2.2
    refine ⟨by rw [ce 16388 (by decide) (by decide) (by decide) (by decide) (by decide) (by decide), sm 33 (by decide) (by decide) (by decide)]; exact u1, fun t ht => ?_, y, by rw [b]; exact u3, by rw [zlaw_r ra3, sm 35 (by decide) (by decide) (by decide)]; exact zLw_c al (by rw [hd]; exact Nat.le_refl _) u4⟩
    rw [gg 33 (by decide) (by decide) (by decide)] at ht
    obtain ⟨w1, y, w2, w3⟩ := u2 t ht
    exact ⟨by rw [ce 2097666 (by decide) (by decide) (by decide) (by decide) (by decide) (by decide), ra 37 (by decide)]; exact w1, y, by rw [b]; exact w2, by rw [zlaw_r ra3]; exact zLw_c al (by rw [hd]; exact Nat.le_refl _) w3⟩
  · obtain ⟨⟨v1, v2, v3, v4, v5, v6⟩, w2, w3, w4, w5, w6, w7⟩ := zVmH_of r2
    refine ⟨⟨?_, ?_, v34, ?_, ?_, ?_⟩, fun t ht => ?_, vn, fun i hi => ?_, ?_, fun t ht => ?_, fun k => ?_⟩
    · rw [sm 32 (by decide) (by decide) (by decide)]; exact v1
    · rw [sm 33 (by decide) (by decide) (by decide)]; exact v2
    · rw [sm 35 (by decide) (by decide) (by decide)]; exact v4
    · rw [e48]; unfold zi; decide
    · rw [e49]; exact v49
    · rw [gg 33 (by decide) (by decide) (by decide)] at ht
      rw [ra 37 (by decide)]
      exact w2 t ht
    · rw [n48] at hi
      omega
    · unfold zVs at w5 ⊢
      rw [sm 42 (by decide) (by decide) (by decide), gg 33 (by decide) (by decide) (by decide), ra 36 (by decide), ra 43 (by decide), ra 44 (by decide), ra 45 (by decide), ra 46 (by decide)]
      exact w5
    · rw [gg 33 (by decide) (by decide) (by decide)] at ht
      exact zVl_r (sm 42 (by decide) (by decide) (by decide)) ra3 (w6 t ht)
    · rw [sm 35 (by decide) (by decide) (by decide)] at k
      exact zVl_r (sm 42 (by decide) (by decide) (by decide)) ra3 (w7 k)
theorem znf_zi {μ : zMu} {w : Bool} {n : Nat} : zi (znf μ w n) (-1) 500 := by
  unfold znf
  by_cases c : n = 0
  · rw [if_pos c]; unfold zi; decide
  · rw [if_neg c]
    cases zfst (fun i => zbad μ w i ∨ 12 ≤ i) n with
    | none => show zi (-1) (-1) 500; unfold zi; decide
    | some j =>
      show zi (nI (min j 12)) (-1) 500
      unfold zi
      rw [z_T (by omega)]
      omega
/-- a name read badly: the tape is empty, the fault's place is kept -/
theorem zR_bad {h h' : ai_H} {v : Int32} (hr : zR h) (f : zF zMN (ai_st (ai_st h 16387 1 0) 128 11 v) h') (e48 : h'.1 16128 48 = 0) (e49 : h'.1 16128 49 = v) (hv : zi v (-1) 500) : zR h' := by
  have ne : ∀ q j, ¬ zMN q j → q ≠ 16387 → q ≠ 128 → h'.1 q j = h.1 q j := fun q j n1 n2 n3 => by
    rw [f.1 q j n1, z_st1, if_neg (fun c => n3 c.1), z_st1, if_neg (fun c => n2 c.1)]
  have nf : ∀ q, q ≠ 16128 → (q < 2064435 ∨ 2064471 < q ∨ (2064448 ≤ q ∧ q ≤ 2064451)) → q ≠ 16387 → q ≠ 128 → h'.1 q = h.1 q := fun q n1 n2 n3 n4 => funext fun j => ne q j (by unfold zMN zMS; omega) n3 n4
  have e34 : h'.1 16128 34 = h.1 16128 34 := ne _ _ (by unfold zMN zMS; omega) (by decide) (by decide)
  have s34 : (zMv h').2 34 = (zMv h).2 34 := by rw [zMv2 (by decide), zMv2 (by decide), e34]
  have g34 : zg (zMv h') 34 = zg (zMv h) 34 := by unfold zg; rw [s34]
  have r6 : ∀ f, 63 ≤ f → f ≤ 66 → (zMv h').1 f = (zMv h).1 f := fun f h1 h2 => by
    funext i
    rw [zMv1 (by omega), zMv1 (by omega), nf _ (by omega) (by omega) (by omega) (by omega)]
  have vv := hr.2.1.2.2.2.2.1
  refine zR_nam hr f.2 (fun q n1 n2 n3 n4 n5 n6 => nf q n5 (by omega) n2 n1) ?_ ?_ ?_ e48 (fun j hj n1 n2 n3 => ne _ _ (by unfold zMN zMS; omega) (by decide) (by decide)) (by rw [e49]; exact hv) ?_ (by rw [s34]; exact hr.2.1.1.2.2.1) ?_
  · rw [f.1 128 10 (by unfold zMN zMS; omega), z_st1, if_neg (by decide), z_st1, if_neg (by decide)]
  · rw [f.1 128 11 (by unfold zMN zMS; omega), z_stS, e49]
  · rw [f.1 16387 1 (by unfold zMN zMS; omega), z_st1, if_neg (by decide), z_stS]
  · have hN : zNm h (zMv h) := hr.1.2.2.2.1
    unfold zNm at hN ⊢
    rw [nf 16389 (by decide) (by decide) (by decide) (by decide), nf 2097794 (by decide) (by decide) (by decide) (by decide), nf 2097795 (by decide) (by decide) (by decide) (by decide), nf 2097796 (by decide) (by decide) (by decide) (by decide), nf 2097797 (by decide) (by decide) (by decide) (by decide), nf 2097798 (by decide) (by decide) (by decide) (by decide), s34, g34, r6 63 (by decide) (by decide), r6 64 (by decide) (by decide), r6 65 (by decide) (by decide), r6 66 (by decide) (by decide)]
    simp only [zfit_r r6]
    exact hN
  · rw [g34, r6 63 (by decide) (by decide), r6 64 (by decide) (by decide), r6 65 (by decide) (by decide), r6 66 (by decide) (by decide)]
    exact vv
