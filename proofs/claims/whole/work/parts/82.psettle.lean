/-! settle -/
theorem P_settle : zPr 118 284 [] := by
  intro d h hr
  obtain ⟨b0, b1, b2, b8, b5, b4, b3, V⟩ := zR_b hr
  obtain ⟨ha, a1, a2, a3, a4, a5, a6⟩ := X178 (h := h) (d + 39) hr
  have eV := zMv_x a2
  have hra := zR_x hr a2
  obtain ⟨u1, u2, u3, u4, u5⟩ := zcou_V eV
  by_cases c0 : zcm h = 0
  · obtain ⟨h2, q1, q2, q3, q4, q5, q6, q7⟩ := M282 (h := ha) (d + 52) (by rw [eV]; exact hr.2.1)
    rw [u2] at q3
    refine ⟨-1, ha, h2, ?_, ?_, zR_m hra q2, zK_of (q2.2.trans a2.2)⟩
    · rw [T118, a1]
      simp only [z_bv, a3]
      rw [if_pos (by rw [c0]; rfl)]
    · rw [T284, q1]
      simp only [z_bv, q3]
      rw [if_pos (by rw [c0]; rfl)]
  · obtain ⟨hb, p1, p2, p3, p4, p5, p6⟩ := X118l (d + 57) hr a2 a3 a4 a5 a6
    have nM : ∀ q, zroot q = 16128 → hb.1 q = ha.1 q := fun q hq => p3 q (by rintro rfl; revert hq; decide) (by rintro rfl; revert hq; decide)
    have eVb : zMv hb = zMv h := by
      rw [← eV]
      exact zMv_c (fun f hf => nM _ (zMr (by omega))) (fun j _ => by rw [nM 16128 (by decide)])
    have hvb : zVm (zMv hb) := by rw [eVb]; exact hr.2.1
    obtain ⟨w1, w2, w3, w4, w5⟩ := zcou_V eVb
    obtain ⟨hc, q1, q2, q3, q4, q5, q6, q7⟩ := M282 (h := hb) (d + 52) hvb
    obtain ⟨hd, r1, r2, r3, r4, r4', r5, r6⟩ := M284l (h := hb) (hc := hc) (d + 58) hvb q2 q3 q4 q7
    rw [w1] at r1 q5
    have hm : zcm h ≤ 6 := zcm_le
    have n0 : ¬ nI (zcm h) = 0 := nI_ne0 (by omega) (by omega)
    have hbd : hd.2 = hb.2 := r2.trans q2.2
    have T33 : zg (zMv hb) 33 = zg (zMv h) 33 := by rw [eVb]
    rw [w5, w4, w1, w2, T33] at r4
    rw [w3, w2] at r5 r6
    rw [T33] at r4'
    obtain ⟨o1, o2, o3, o4⟩ := zcou_ok hr.2.1
    -- the reference's rows behind it
    have cM : ∀ q, (q < 2064435 ∨ (2064448 ≤ q ∧ q ≤ 2064451)) → q ≠ 16128 → q ≠ 2064406 → q ≠ 2064403 → hd.1 q = hb.1 q := fun q n1 n2 n3 n4 => by
      rw [r3 q n3 n4]
      funext j
      exact q2.1 q j (by unfold zMS; omega)
    have rM : ∀ f, f ≠ 18 → f ≠ 21 → (zMv hd).1 f = (zMv h).1 f := by
      intro f n1 n2
      rw [← eVb]
      funext i
      show (if f < 50 ∨ (63 ≤ f ∧ f < 67) then hd.1 (2064385 + f) i else 0) = (if f < 50 ∨ (63 ≤ f ∧ f < 67) then hb.1 (2064385 + f) i else 0)
      by_cases c : f < 50 ∨ (63 ≤ f ∧ f < 67)
      · rw [if_pos c, if_pos c, cM _ (by omega) (by omega) (by omega) (by omega)]
      · rw [if_neg c, if_neg c]
    have rS : (zMv hd).2 = (zMv h).2 := by
      rw [← eVb]
      funext j
      show (if j < 50 then hd.1 16128 j else 0) = (if j < 50 then hb.1 16128 j else 0)
      by_cases c : j < 50
      · rw [if_pos c, if_pos c, r3 16128 (by decide) (by decide), q2.1 16128 j (by unfold zMS; omega)]
      · rw [if_neg c, if_neg c]
    have hb18 : ∀ i, hc.1 2064403 i = (zMv h).1 18 i := fun i => by
      rw [q2.1 2064403 i (by unfold zMS; omega), ← eVb]
      exact (zMv1 (f := 18) (by omega)).symm
    have hb21 : ∀ i, hc.1 2064406 i = (zMv h).1 21 i := fun i => by
      rw [q2.1 2064406 i (by unfold zMS; omega), ← eVb]
      exact (zMv1 (f := 21) (by omega)).symm
    have d18 : ∀ i, (zMv hd).1 18 i = hd.1 2064403 i := fun i => zMv1 (f := 18) (by omega)
    have d21 : ∀ i, (zMv hd).1 21 i = hd.1 2064406 i := fun i => zMv1 (f := 21) (by omega)
    have s18 : ∀ i, zsl (zMv hd) 0 18 i = hd.1 2064403 i := fun i => zs0 (f := 18) (by omega)
    have s21 : ∀ i, zsl (zMv hd) 0 21 i = hd.1 2064406 i := fun i => zs0 (f := 21) (by omega)
    have sM : ∀ f, f ≠ 18 → f ≠ 21 → zsl (zMv hd) 0 f = zsl (zMv h) 0 f := fun f n1 n2 => by
      funext i
      unfold zsl
      rw [rM f n1 n2]
    have J40 : ∀ i, 40 ≤ i → ∀ k, k < zcm h → zcJ h k ≠ i := fun i hi k hk e => by
      have := zcJ_lt hk
      omega
    refine ⟨nI (zcou h).1, hb, hd, ?_, ?_, ?_, zK_of (hbd.trans (p2.trans a2.2))⟩
    · rw [T118, a1]
      simp only [z_bv, a3]
      rw [if_neg n0]
      exact p1
    · rw [T284, q1]
      simp only [z_bv, q3]
      rw [w2, if_neg n0, q5]
      exact r1
    · have hna : (∀ q, ¬ zin q → hb.1 q = ha.1 q) ∧ hb.2 = ha.2 := ⟨fun q hq => p3 q (by rintro rfl; exact hq (by unfold zin; decide)) (by rintro rfl; exact hq (by unfold zin; decide)), p2⟩
      refine zR_now hra (h1 := hb) (h2 := hd) (μ' := zMv hd) ?_ hna ?_ ?_ hbd rfl ?_ (fun t ht => ?_)
      · rw [eV]
        refine ⟨rS, fun f i hf => by rw [rM f (by omega) (by omega)], fun f i hf hi => ?_⟩
        by_cases e1 : f = 18
        · subst e1
          rw [d18, r6 i (J40 i hi), hb18]
        · by_cases e2 : f = 21
          · subst e2
            have hi : 5 ≤ i := hi
            obtain ⟨t1, t2, t3⟩ := zR_tr hr
            rw [d21, r4' i (by omega), hb21]
          · rw [rM f e1 e2]
      · obtain ⟨h1, h2, h3, h4, h5⟩ := hra.1.1
        rw [eV] at h1 h2 h3 h4 ⊢
        have kb : ∀ q, q ≠ 2097284 → q ≠ 268452231 → hb.1 q = ha.1 q := p3
        refine ⟨zC_s (fun f hf => sM f (by omega) (by omega)) (zC_c (fun q hq => kb q ?_ ?_) h1), zD_s (fun f hf => sM f (by omega) (by omega)) (zD_c (fun q hq => kb q ?_ ?_) h2), ?_, fun t ht => ?_, fun k hk => ?_⟩
        · rintro rfl; revert hq; decide
        · rintro rfl; revert hq; decide
        · rintro rfl; revert hq; decide
        · rintro rfl; revert hq; decide
        · have h3 : zJ ha 2097283 (zsl (zMv h) 0) := h3
          show zJ hb 2097283 (zsl (zMv hd) 0)
          rw [zJ_lit] at h3 ⊢
          rw [zn_c (sM 5 (by decide) (by decide)), sM 5 (by decide) (by decide), sM 27 (by decide) (by decide), sM 28 (by decide) (by decide), sM 29 (by decide) (by decide), sM 30 (by decide) (by decide), sM 31 (by decide) (by decide)]
          rw [kb 2097283 (by decide) (by decide), kb 268452226 (by decide) (by decide), kb 268452227 (by decide) (by decide), kb 268452228 (by decide) (by decide), kb 268452229 (by decide) (by decide), kb 268452230 (by decide) (by decide)]
          refine ⟨h3.1, fun j hj => ?_⟩
          obtain ⟨y1, y2, y3, y4, y5, y6⟩ := h3.2 j hj
          refine ⟨y1, y2, y3, y4, y5, ?_⟩
          rw [s18]
          by_cases e : ∃ k, k < zcm h ∧ zcJ h k = j
          · obtain ⟨k, k1, k2⟩ := e
            rw [← k2, p5 k k1, r5 k k1]
          · have e' : ∀ k, k < zcm h → zcJ h k ≠ j := fun k hk ek => e ⟨k, hk, ek⟩
            rw [p6 j e', r6 j e', hb18, y6]
            unfold zsl
            rw [Nat.mul_zero, Nat.zero_add]
        · show hb.1 2097284 t = _
          rw [p4 t ht, s21, r4 t ht]
        · have := h5 k hk
          unfold zLk at this ⊢
          rw [p2]
          exact this
      · exact ⟨fun q hq => by
          rw [r3 q (by rintro rfl; exact hq (by decide)) (by rintro rfl; exact hq (by decide))]
          funext j
          refine q2.1 q j (fun c => hq ?_)
          unfold zMS at c
          rcases c with ⟨rfl, -⟩ | ⟨c1, c2, -⟩
          · decide
          · obtain ⟨f, hf, rfl⟩ : ∃ f, f < 87 ∧ q = 2064385 + f := ⟨q - 2064385, by omega, by omega⟩
            exact zMr hf, by rw [hbd]⟩
      · obtain ⟨v1, v2, v3, v4, v5, v6⟩ := V
        refine ⟨?_, zVn_c (sM 0 (by decide) (by decide)) (sM 10 (by decide) (by decide)) v2, zVt_c (fun f hf => sM f (by omega) (by omega)) v3, zVh_c (fun f hf => sM f (by omega) (by omega)) v4, zVe_c (fun f hf => sM f (by omega) (by omega)) v5, fun j hj => ?_⟩
        · unfold zVc at v1 ⊢
          rw [sM 0 (by decide) (by decide), sM 1 (by decide) (by decide), sM 2 (by decide) (by decide), sM 8 (by decide) (by decide), sM 3 (by decide) (by decide), sM 4 (by decide) (by decide), sM 5 (by decide) (by decide), sM 6 (by decide) (by decide), sM 7 (by decide) (by decide)]
          exact v1
        · rw [zn_c (sM 5 (by decide) (by decide))] at hj
          obtain ⟨y1, y2, y3, y4, y5, y6⟩ := v6 j hj
          rw [zn_c (sM 1 (by decide) (by decide)), sM 27 (by decide) (by decide), sM 28 (by decide) (by decide), sM 29 (by decide) (by decide), sM 30 (by decide) (by decide), sM 31 (by decide) (by decide)]
          refine ⟨y1, y2, y3, y4, y5, ?_⟩
          rw [s18]
          by_cases e : ∃ k, k < zcm h ∧ zcJ h k = j
          · obtain ⟨k, k1, k2⟩ := e
            rw [← k2, r5 k k1]
            unfold zi
            decide
          · rw [r6 j (fun k hk ek => e ⟨k, hk, ek⟩), hb18]
            have : zsl (zMv h) 0 18 j = (zMv h).1 18 j := by unfold zsl; rw [Nat.mul_zero, Nat.zero_add]
            rw [← this]
            exact y6
      · rw [eV] at ht
        rw [d21, r4 t ht]
        have := (zcL_ok hr ht).2
        unfold zi
        rw [z_T (by omega)]
        omega
