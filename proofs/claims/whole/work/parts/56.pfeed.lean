/-! feed -/
theorem zR_fed {h h7 h2 : ai_H} {n : Nat} {X : Nat → Int32} (hr : zR h) (hn : h.1 16387 1 = nI n) (hl : n + 20 ≤ 500) (f : zfed h h7 n 20 (fun m => zby (X m) (m % 4))) (g : zfem h7 h2 n 20 (fun m => zsb (X m) (m % 4))) : zR h2 := by
  obtain ⟨f1, f2, f3, f4⟩ := f
  obtain ⟨g1, g2, g5, g3, g4⟩ := g
  have b : h2.2 = h.2 := g1.trans f1
  have ce : ∀ q, q ≠ 2097537 → q ≠ 16387 → q ≠ 2064432 → q ≠ 16128 → h2.1 q = h.1 q := fun q k1 k2 k3 k4 => (g2 q k3 k4).trans (f2 q k1 k2)
  have ra : ∀ f, f ≠ 47 → (zMv h2).1 f = (zMv h).1 f := by
    intro f hf
    funext i
    show (if f < 50 ∨ (63 ≤ f ∧ f < 67) then h2.1 (2064385 + f) i else 0) = (if f < 50 ∨ (63 ≤ f ∧ f < 67) then h.1 (2064385 + f) i else 0)
    by_cases c : f < 50 ∨ (63 ≤ f ∧ f < 67)
    · rw [if_pos c, if_pos c, ce _ (by omega) (by omega) (by omega) (by omega)]
    · rw [if_neg c, if_neg c]
  have sa : ∀ j, j ≠ 48 → (zMv h2).2 j = (zMv h).2 j := by
    intro j hj
    show (if j < 50 then h2.1 16128 j else 0) = (if j < 50 then h.1 16128 j else 0)
    by_cases c : j < 50
    · rw [if_pos c, if_pos c, g5 j hj, f2 16128 (by decide) (by decide)]
    · rw [if_neg c, if_neg c]
  have s48 : (zMv h2).2 48 = nI (n + 20) := (zMv2 (by decide)).trans g3
  have n48 : zg (zMv h2) 48 = n + 20 := by unfold zg; rw [s48, z_T (by omega)]; rfl
  have hd : ai_dn h2 = ai_dn h := by unfold ai_dn; rw [b]
  obtain ⟨r1, r2, r3, r4⟩ := id hr
  have old : zg (zMv h) 48 = n := by
    unfold zg
    rw [← r1.2.2.2.2.1.1, hn, z_T (by omega)]
    rfl
  have gg : ∀ j, j ≠ 48 → zg (zMv h2) j = zg (zMv h) j := fun j hj => by unfold zg; rw [sa j hj]
  have r47 : ∀ i, (zMv h2).1 47 i = if n ≤ i ∧ i < n + 20 then zsb (X (i - n)) ((i - n) % 4) else (zMv h).1 47 i := by
    intro i
    rw [zMv1 (h := h2) (f := 47) (by omega), g4 i, zMv1 (h := h) (f := 47) (by omega), f2 2064432 (by decide) (by decide)]
  have rt : ∀ q, zrt h (zroot q) → h2.1 q = h.1 q := by
    intro q hq
    have h0 := hq.2.1
    refine ce q ?_ ?_ ?_ ?_
    · rintro rfl; revert h0; decide
    · rintro rfl; revert h0; decide
    · rintro rfl; revert h0; decide
    · rintro rfl; revert h0; decide
  have al : ∀ q, zrt h q → h2.1 q = h.1 q ∧ h2.2.2.1 q = h.2.2.1 q ∧ h2.2.2.2.1 q = h.2.2.2.1 q := fun q hq => ⟨rt q (by rw [zr0 hq.1]; exact hq), by rw [b], by rw [b]⟩
  have ra3 : ∀ f, 36 ≤ f → f ≤ 46 → (zMv h2).1 f = (zMv h).1 f := fun f h1 h2 => ra f (by omega)
  have ra6 : ∀ f, 63 ≤ f → f ≤ 66 → (zMv h2).1 f = (zMv h).1 f := fun f h1 h2 => ra f (by omega)
  refine zR_hi hr b (fun q hq => ?_) rt (fun f i hf => by rw [ra f (by omega)]) (sa 32 (by decide)) (sa 33 (by decide)) ?_ ?_ ?_ ?_ ?_ ?_
  · have h0 := zin_r hq
    refine ce q (fun c => zin_n (by omega) hq) (fun c => zin_n (by omega) hq) ?_ ?_
    · rintro rfl; revert h0; decide
    · rintro rfl; revert h0; decide
  · rw [ce 128 (by decide) (by decide) (by decide) (by decide)]
  · rw [ce 128 (by decide) (by decide) (by decide) (by decide), sa 49 (by decide)]
    exact r1.2.1
  · have := r1.2.2.2.1
    unfold zNm at this ⊢
    rw [ce 16389 (by decide) (by decide) (by decide) (by decide), ce 2097794 (by decide) (by decide) (by decide) (by decide), ce 2097795 (by decide) (by decide) (by decide) (by decide), ce 2097796 (by decide) (by decide) (by decide) (by decide), ce 2097797 (by decide) (by decide) (by decide) (by decide), ce 2097798 (by decide) (by decide) (by decide) (by decide), sa 34 (by decide), gg 34 (by decide), ra 63 (by decide), ra 64 (by decide), ra 65 (by decide), ra 66 (by decide)]
    simp only [zfit_r ra6]
    exact this
  · refine ⟨by rw [g2 16387 (by decide) (by decide), f3, s48], fun i hi => ?_⟩
    rw [n48] at hi
    rw [g2 2097537 (by decide) (by decide), f4 i, r47 i]
    by_cases c : n ≤ i ∧ i < n + 20
    · rw [if_pos c, if_pos c]
      exact zby_s _ (Nat.mod_lt _ (by decide))
    · rw [if_neg c, if_neg c]
      exact r1.2.2.2.2.1.2 i (by rw [old]; omega)
  · obtain ⟨u1, u2, y, u3, u4⟩ := r1.2.2.2.2.2
    refine ⟨by rw [ce 16388 (by decide) (by decide) (by decide) (by decide), sa 33 (by decide)]; exact u1, fun t ht => ?_, y, by rw [b]; exact u3, by rw [zlaw_r ra3, sa 35 (by decide)]; exact zLw_c al (by rw [hd]; exact Nat.le_refl _) u4⟩
    rw [gg 33 (by decide)] at ht
    obtain ⟨w1, y, w2, w3⟩ := u2 t ht
    exact ⟨by rw [ce 2097666 (by decide) (by decide) (by decide) (by decide), ra 37 (by decide)]; exact w1, y, by rw [b]; exact w2, by rw [zlaw_r ra3]; exact zLw_c al (by rw [hd]; exact Nat.le_refl _) w3⟩
  · obtain ⟨⟨v1, v2, v3, v4, v5, v6⟩, w2, w3, w4, w5, w6, w7⟩ := zVmH_of r2
    refine ⟨⟨?_, ?_, ?_, ?_, ?_, ?_⟩, fun t ht => ?_, ?_, fun i hi => ?_, ?_, fun t ht => ?_, fun k => ?_⟩
    · rw [sa 32 (by decide)]; exact v1
    · rw [sa 33 (by decide)]; exact v2
    · rw [sa 34 (by decide)]; exact v3
    · rw [sa 35 (by decide)]; exact v4
    · rw [s48]; unfold zi; rw [z_T (by omega)]; omega
    · rw [sa 49 (by decide)]; exact v6
    · rw [gg 33 (by decide)] at ht
      rw [ra 37 (by decide)]
      exact w2 t ht
    · rw [ra 63 (by decide), ra 64 (by decide), ra 65 (by decide), ra 66 (by decide), gg 34 (by decide)]
      exact w3
    · rw [n48] at hi
      rw [r47 i]
      by_cases c : n ≤ i ∧ i < n + 20
      · rw [if_pos c]
        exact zsb_zi _ _
      · rw [if_neg c]
        exact w4 i (by rw [old]; omega)
    · unfold zVs at w5 ⊢
      rw [sa 42 (by decide), gg 33 (by decide), ra 36 (by decide), ra 43 (by decide), ra 44 (by decide), ra 45 (by decide), ra 46 (by decide)]
      exact w5
    · rw [gg 33 (by decide)] at ht
      exact zVl_r (sa 42 (by decide)) ra3 (w6 t ht)
    · rw [sa 35 (by decide)] at k
      exact zVl_r (sa 42 (by decide)) ra3 (w7 k)
theorem P_feed (x1 x2 x3 x4 x5 : Int32) : zPr 107 224 [.inl x1, .inl x2, .inl x3, .inl x4, .inl x5] := by
  intro d h hr
  have hT : zTp h (zMv h) := hr.1.2.2.2.2.1
  have v48 := hr.2.1.1.2.2.2.2.1
  unfold zi at v48
  have hn : h.1 16387 1 = nI (zg (zMv h) 48) := hT.1.trans (z_nat v48.1)
  have mn : h.1 16128 48 = nI (zg (zMv h) 48) := ((zMv2 (by decide)).symm).trans (z_nat v48.1)
  have le : zg (zMv h) 48 ≤ 500 := by unfold zg; omega
  generalize zg (zMv h) 48 = n at *
  have e20 : nI n + 20 = nI (n + 20) := by
    rw [z_eq, z_add] <;> rw [z_T (by omega)] <;> (try rw [z_T (by omega)]) <;> simp only [zl0, zl1, zl2, zl3, zl4, zl5, zl6, zl7, zl8, zl9, zl10, zl12, zl15, zl16, zl20, zl22, zl23, zl24, zl27, zl30, zl31, zl32, zl40, zl46, zl48, zl50, zl57, zl59, zl60, zl61, zl62, zl63, zl80, zl96, zl97, zl99, zl100, zl122, zl255, zl360, zl500, zl999, zl9999, zl60000, zl99999, zl16777215, zl1073741824, zlm1, zlm2, zlm3] <;> omega
  have l5 : (500 : Int32) = nI 500 := rfl
  by_cases c : n + 20 ≤ 500
  · obtain ⟨h1, a1, f1⟩ := X53 (B := fun m => zby (zX5 x1 x2 x3 x4 x5 m) (m % 4)) (x := x1) (d + 58) (zfed_0 hn) (fun q hq => by
      rcases (show q = 0 ∨ q = 1 ∨ q = 2 ∨ q = 3 by omega) with rfl | rfl | rfl | rfl <;> rfl) (by omega)
    obtain ⟨h2, a2, f2⟩ := X53 (x := x2) (d + 58) f1 (fun q hq => by
      rcases (show q = 0 ∨ q = 1 ∨ q = 2 ∨ q = 3 by omega) with rfl | rfl | rfl | rfl <;> rfl) (by omega)
    obtain ⟨h3, a3, f3⟩ := X53 (x := x3) (d + 58) f2 (fun q hq => by
      rcases (show q = 0 ∨ q = 1 ∨ q = 2 ∨ q = 3 by omega) with rfl | rfl | rfl | rfl <;> rfl) (by omega)
    obtain ⟨h4, a4, f4⟩ := X53 (x := x4) (d + 58) f3 (fun q hq => by
      rcases (show q = 0 ∨ q = 1 ∨ q = 2 ∨ q = 3 by omega) with rfl | rfl | rfl | rfl <;> rfl) (by omega)
    obtain ⟨h5, a5, f5⟩ := X53 (x := x5) (d + 58) f4 (fun q hq => by
      rcases (show q = 0 ∨ q = 1 ∨ q = 2 ∨ q = 3 by omega) with rfl | rfl | rfl | rfl <;> rfl) (by omega)
    obtain ⟨h6, b1, g⟩ := M224 (h := h5) (d + 59) x1 x2 x3 x4 x5 (by rw [f5.2.1 16128 (by decide) (by decide)]; exact mn) c
    refine ⟨nI (n + 20), h5, h6, ?_, b1, zR_fed hr hn c f5 g, zK_of (g.1.trans f5.1)⟩
    rw [T107, T51, hn, e20, l5, if_neg (by rw [nI_ltI (by omega) (by omega)]; omega)]
    simp only [z_b1, z_bi]
    rw [if_neg (by decide), a1]
    simp only [z_bv]
    rw [a2]
    simp only [z_bv]
    rw [a3]
    simp only [z_bv]
    rw [a4]
    simp only [z_bv]
    rw [a5]
    simp only [z_bv]
    rw [f5.2.2.1]
  · refine ⟨-1, h, h, ?_, ?_, hr, zK_of rfl⟩
    · rw [T107, T51, hn, e20, l5, if_pos (by rw [nI_ltI (by omega) (by omega)]; omega)]
      simp only [z_b0, z_bi, if_true]
    · rw [T224, mn, e20, l5, if_neg (by rw [nI_leI (by omega) (by omega)]; omega)]
