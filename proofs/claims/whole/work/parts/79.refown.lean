/-! THE REFERENCE'S METHODS BY ITS OWN PART ALONE -/
theorem zm_b {h : ai_H} (hv : zVm (zMv h)) : (h.1 2064386 0 = nI (zn (zsl (zMv h) 0) 1) ∧ zn (zsl (zMv h) 0) 1 ≤ 24) ∧ (h.1 2064390 0 = nI (zn (zsl (zMv h) 0) 5) ∧ zn (zsl (zMv h) 0) 5 ≤ 40) ∧ (h.1 2064389 0 = nI (zn (zsl (zMv h) 0) 4) ∧ zn (zsl (zMv h) 0) 4 ≤ 600) ∧ h.1 2064388 0 = zsl (zMv h) 0 3 0 ∧ (h.1 16128 33 = nI (zg (zMv h) 33) ∧ zg (zMv h) 33 ≤ 5) ∧ zV (zsl (zMv h) 0) := by
  have V : zV (zsl (zMv h) 0) := hv.2.1 0 (Nat.zero_le _)
  obtain ⟨v0, v1, v2, v8, v3, v4, v5, v6, v7⟩ := V.1
  obtain ⟨n1, l1, -⟩ := zn_eq v1
  obtain ⟨n4, l4, -⟩ := zn_eq v4
  obtain ⟨n5, l5, -⟩ := zn_eq v5
  have v33 := hv.1.2.1
  unfold zi at v33
  have e : (zMv h).2 33 = nI (zg (zMv h) 33) := z_nat v33.1
  exact ⟨⟨(zs0 (f := 1) (by omega)).symm.trans n1, by omega⟩, ⟨(zs0 (f := 5) (by omega)).symm.trans n5, by omega⟩, ⟨(zs0 (f := 4) (by omega)).symm.trans n4, by omega⟩, (zs0 (f := 3) (by omega)).symm, ⟨((zMv2 (by decide)).symm).trans e, by unfold zg; omega⟩, V⟩
theorem M221w {h : ai_H} (d : Nat) (k w dd kn o : Int32) (hv : zVm (zMv h)) : ai_X (d + 1) 221 [.inr (.inr (32, 0, 16128)), .inl k, .inl w, .inl dd, .inl kn, .inl o] h = some ([.inl ((zval (zsl (zMv h) 0) k w dd kn).getD o)], h) := by
  obtain ⟨b1, b5, b4, b3, b33, V⟩ := zm_b hv
  rw [M221 d k w dd kn o b4.1 b4.2]
  unfold zval
  cases zbest (zsl (zMv h) 0) k w dd kn (zn (zsl (zMv h) 0) 4) with
  | none => rfl
  | some b =>
    have e : h.1 2064410 b = zsl (zMv h) 0 25 b := (zs0 (f := 25) (by omega)).symm
    show some ([Sum.inl (h.1 2064410 b)], h) = _
    rw [e]
    rfl
theorem M223w {h : ai_H} {t : Nat} (d : Nat) (x kn : Int32) (hv : zVm (zMv h)) (ht : t < 24) : ai_X (d + 2) 223 [.inr (.inr (32, 0, 16128)), .inl (nI t), .inl x, .inl kn] h = some ([.inl (zb (ztr (zsl (zMv h) 0) t x kn))], h) := by
  have e17 : h.1 2064402 t = zsl (zMv h) 0 17 t := (zs0 (f := 17) (by omega)).symm
  rw [T223, z_ix (by omega) (by decide), e17, M221w _ _ _ _ _ _ hv]
  simp only [z_bi, z_b0, z_b1]
  by_cases c : zsl (zMv h) 0 17 t = 0
  · rw [if_pos c, zb_f (fun q => q.1 c)]
  · rw [if_neg c]
    by_cases c2 : (zval (zsl (zMv h) 0) 11 (nI t) x kn).getD 0 = 0
    · rw [if_pos c2, zb_t ⟨c, c2⟩]
    · rw [if_neg c2, zb_f (fun q => c2 q.2)]
theorem M243w {h : ai_H} {t : Nat} (d : Nat) (x kn c : Int32) (hv : zVm (zMv h)) (ht : t < zn (zsl (zMv h) 0) 1) : ∃ h1, ai_X (d + 3) 243 [.inr (.inr (32, 0, 16128)), .inl (nI t), .inl x, .inl kn, .inl c] h = some ([], h1) ∧ zF zMS h h1 ∧ (∀ j, j < 6 → h1.1 2064446 j = zfac (zsl (zMv h) 0) t x kn c j) ∧ ∀ q, q ≠ 2064446 → h1.1 q = h.1 q := by
  obtain ⟨b1, b5, b4, b3, b33, V⟩ := zm_b hv
  have e13 : h.1 2064398 t = zsl (zMv h) 0 13 t := (zs0 (f := 13) (by omega)).symm
  have e11 : h.1 2064396 t = zsl (zMv h) 0 11 t := (zs0 (f := 11) (by omega)).symm
  have it : ∀ f : Nat → Option ai_R, ai_ix (nI t) 96 f = f t := fun f => z_ix (by omega) (by decide)
  have j0 : ∀ f : Nat → Option ai_R, ai_ix 0 6 f = f 0 := fun f => z_ix (i := 0) (by decide) (by decide)
  have j1 : ∀ f : Nat → Option ai_R, ai_ix 1 6 f = f 1 := fun f => z_ix (i := 1) (by decide) (by decide)
  have j2 : ∀ f : Nat → Option ai_R, ai_ix 2 6 f = f 2 := fun f => z_ix (i := 2) (by decide) (by decide)
  have j3 : ∀ f : Nat → Option ai_R, ai_ix 3 6 f = f 3 := fun f => z_ix (i := 3) (by decide) (by decide)
  have j4 : ∀ f : Nat → Option ai_R, ai_ix 4 6 f = f 4 := fun f => z_ix (i := 4) (by decide) (by decide)
  have j5 : ∀ f : Nat → Option ai_R, ai_ix 5 6 f = f 5 := fun f => z_ix (i := 5) (by decide) (by decide)
  have sm : ∀ {g : ai_H} {i : Nat} {v : Int32}, zF zMS h g → zF zMS h (ai_st g 2064446 i v) := fun f => zF_st f (Or.inr ⟨by omega, by omega, by omega⟩)
  rw [T243, M221w _ _ _ _ _ _ hv]
  simp only [z_bi, j0, j1, j2, it, z_st1, z_bi, z_bv, z_br, Nat.reduceEqDiff, false_and, and_false, true_and, and_true, and_self, if_false, if_true, ite_true, ite_false, reduceIte, not_true_eq_false, not_false_eq_true, e13, e11]
  rw [if_neg (show ¬ (360 : Int32) = 0 by decide)]
  generalize hg : ai_st (ai_st (ai_st h 2064446 0 ((zval (zsl (zMv h) 0) 1 0 x kn).getD 100)) 2064446 1 ((zsl (zMv h) 0 13 t + x) / 360)) 2064446 2 (zsl (zMv h) 0 11 t) = g
  have fg : zF zMS h g := by rw [← hg]; exact sm (sm (sm zF_rf))
  have eV := zMv_m fg
  rw [M223w _ _ _ (by rw [eV]; exact hv) (by omega), eV]
  simp only [z_bi, j3, j4, j5, zb_0]
  have V0 : ∀ v3, (ai_st (ai_st (ai_st g 2064446 3 v3) 2064446 4 x) 2064446 5 c).1 2064446 = fun j => if j = 5 then c else if j = 4 then x else if j = 3 then v3 else if j = 2 then zsl (zMv h) 0 11 t else if j = 1 then (zsl (zMv h) 0 13 t + x) / 360 else if j = 0 then (zval (zsl (zMv h) 0) 1 0 x kn).getD 100 else h.1 2064446 j := fun v3 => by rw [← hg, z_fset]
  have R : ∀ v3, v3 = zb (ztr (zsl (zMv h) 0) t x kn) → ∀ j, j < 6 → (ai_st (ai_st (ai_st g 2064446 3 v3) 2064446 4 x) 2064446 5 c).1 2064446 j = zfac (zsl (zMv h) 0) t x kn c j := by
    intro v3 e j hj
    rw [V0 v3, e]
    rcases (show j = 0 ∨ j = 1 ∨ j = 2 ∨ j = 3 ∨ j = 4 ∨ j = 5 by omega) with rfl | rfl | rfl | rfl | rfl | rfl <;> rfl
  by_cases k : ztr (zsl (zMv h) 0) t x kn
  · rw [if_neg (fun q => q k)]
    exact ⟨_, rfl, sm (sm (sm fg)), R 1 (zb_t k).symm, fun q hq => by rw [z_ne hq, z_ne hq, z_ne hq, ← hg, z_ne hq, z_ne hq, z_ne hq]⟩
  · rw [if_pos k]
    exact ⟨_, rfl, sm (sm (sm fg)), R 0 (zb_f k).symm, fun q hq => by rw [z_ne hq, z_ne hq, z_ne hq, ← hg, z_ne hq, z_ne hq, z_ne hq]⟩
theorem M277w {h : ai_H} {t tr : Nat} (d : Nat) (w c : Int32) (hv : zVm (zMv h)) (ht : t < zn (zsl (zMv h) 0) 1) (htr : tr < zg (zMv h) 33) : ∃ h1, ai_X (d + 4) 277 [.inr (.inr (32, 0, 16128)), .inl (nI tr), .inl (nI t), .inl w, .inl c] h = some ([.inl (zb (zpay h t w c tr))], h1) ∧ zF zMS h h1 ∧ ∀ q, q ≠ 2064446 → q ≠ 2064447 → h1.1 q = h.1 q := by
  obtain ⟨b1, b5, b4, b3, b33, V⟩ := zm_b hv
  have i0 : ∀ f : Nat → Option ai_R, ai_ix 0 4 f = f 0 := fun f => z_i0 (by decide) (by decide)
  have i5 : ∀ f : Nat → Option ai_R, ai_ix (nI tr) 5 f = f tr := fun f => z_ix (by omega) (by decide)
  have v37 := (hv.2.2.2.1.1 tr htr).2
  unfold zi at v37
  have n37 : (zMv h).1 37 tr = nI ((zMv h).1 37 tr).toInt.toNat := z_nat v37.1
  have m37 : h.1 2064422 tr = nI ((zMv h).1 37 tr).toInt.toNat := ((zMv1 (f := 37) (by omega)).symm).trans n37
  have hl := hv.2.2.2.2.2.2.2.1 tr htr
  have hs := hv.2.2.2.2.2.2.1
  rw [T277, i5, m37]
  simp only [z_tb0 (show ((zMv h).1 37 tr).toInt.toNat < 2147483648 by omega) (show t < 32 by omega), i0, b3, z_b0]
  by_cases c1 : ((zMv h).1 37 tr).toInt.toNat.testBit t = true
  · rw [if_neg (by rw [c1]; decide)]
    obtain ⟨h1, a1, a2, a3, a4⟩ := M243w (h := h) (t := t) d (zsl (zMv h) 0 3 0) (zsl (zMv h) 0 3 0) c hv ht
    have eV := zMv_m a2
    obtain ⟨h2, q1, q2, q3⟩ := M244 (h := h1) (p := 1 + tr) (d + 1) w (by omega) (by rw [eV]; exact hl) (by rw [eV]; exact hs) (by rw [eV]; exact hv.1.2.1)
    rw [eV, zver_c (G := zfac (zsl (zMv h) 0) t (zsl (zMv h) 0 3 0) (zsl (zMv h) 0 3 0) c) a3 hl hs _ 0 (by omega)] at q1
    rw [a1]
    simp only [z_bv]
    rw [show (1 : Int32) + nI tr = nI (1 + tr) from nI_add 1 tr, q1]
    simp only [z_bi]
    refine ⟨h2, ?_, zF_tr a2 q2, fun q n1 n2 => (q3 q n2).trans (a4 q n1)⟩
    have e01 : zpyv h tr t w c = 0 ∨ zpyv h tr t w c = 1 := zver_01 hl _ 0 (Nat.zero_add _)
    have ev : zver (zMv h) (zfac (zsl (zMv h) 0) t (zsl (zMv h) 0 3 0) (zsl (zMv h) 0 3 0) c) w (1 + tr) ((zMv h).1 36 (1 + tr)).toInt.toNat 0 = zpyv h tr t w c := rfl
    rw [ev]
    rcases e01 with e | e
    · rw [zb_f (p := zpay h t w c tr) (fun q => q.2 e), e, z_b0]
    · rw [zb_t (p := zpay h t w c tr) ⟨c1, by rw [e]; decide⟩, e, z_b1]
  · rw [if_pos (by rw [Bool.not_eq_true] at c1; exact c1), zb_f (fun q => c1 q.1)]
    exact ⟨h, rfl, zF_rf, fun _ _ _ => rfl⟩
theorem zm_job {h : ai_H} (hv : zVm (zMv h)) {j : Nat} (hj : j < zn (zsl (zMv h) 0) 5) : (h.1 2064412 j = zsl (zMv h) 0 27 j ∧ h.1 2064413 j = zsl (zMv h) 0 28 j ∧ h.1 2064414 j = zsl (zMv h) 0 29 j ∧ h.1 2064416 j = zsl (zMv h) 0 31 j ∧ h.1 2064403 j = zsl (zMv h) 0 18 j) ∧ ∃ t, t < zn (zsl (zMv h) 0) 1 ∧ zsl (zMv h) 0 27 j = nI t := by
  obtain ⟨b1, b5, b4, b3, b33, V⟩ := zm_b hv
  have v := (V.2.2.2.2.2 j hj).1
  unfold zi at v
  exact ⟨⟨(zs0 (f := 27) (by omega)).symm, (zs0 (f := 28) (by omega)).symm, (zs0 (f := 29) (by omega)).symm, (zs0 (f := 31) (by omega)).symm, (zs0 (f := 18) (by omega)).symm⟩, (zsl (zMv h) 0 27 j).toInt.toNat, by omega, z_nat v.1⟩
theorem M277k {h : ai_H} {j tr : Nat} (d : Nat) (hv : zVm (zMv h)) (hj : j < zn (zsl (zMv h) 0) 5) (htr : tr < zg (zMv h) 33) : ∃ h1, ai_X (d + 4) 277 [.inr (.inr (32, 0, 16128)), .inl (nI tr), .inl (zsl (zMv h) 0 27 j), .inl (zsl (zMv h) 0 28 j), .inl (zsl (zMv h) 0 29 j)] h = some ([.inl (zb (zpj h j tr))], h1) ∧ zF zMS h h1 ∧ ∀ q, q ≠ 2064446 → q ≠ 2064447 → h1.1 q = h.1 q := by
  obtain ⟨b1, b5, b4, b3, b33, V⟩ := zm_b hv
  obtain ⟨-, t, ht, et⟩ := zm_job hv hj
  have en : (zsl (zMv h) 0 27 j).toInt.toNat = t := by rw [et, z_T (by omega)]; rfl
  unfold zpj
  rw [en, et]
  exact M277w d _ _ hv ht htr
theorem zM_V {h g : ai_H} (hv : zVm (zMv h)) (f : zF zMS h g) : zVm (zMv g) := by rw [zMv_m f]; exact hv
theorem M280 {h : ai_H} (d : Nat) (hv : zVm (zMv h)) : ∃ h1, ai_X (d + 6) 280 [.inr (.inr (32, 0, 16128))] h = some ([], h1) ∧ zF zMS h h1 ∧ h1.1 16128 77 = nI (zcm h) ∧ ∀ k, k < zcm h → h1.1 2064459 k = nI (zcJ h k) ∧ ∀ t, t < zg (zMv h) 33 → h1.1 2064461 (5 * k + t) = zb (zpj h (zcJ h k) t) := by
  obtain ⟨b1, b5, b4, b3, b33, V⟩ := zm_b hv
  have i0 : ∀ f : Nat → Option ai_R, ai_ix 0 4 f = f 0 := fun f => z_i0 (by decide) (by decide)
  have l6 : (6 : Int32) = nI 6 := rfl
  have K : ∀ k i, i + k = zn (zsl (zMv h) 0) 5 → ∀ g, zF zMS h g → g.1 16128 77 = nI (zask (zsl (zMv h) 0) i).length → (∀ k, k < (zask (zsl (zMv h) 0) i).length → g.1 2064459 k = nI ((zask (zsl (zMv h) 0) i).getD k 0) ∧ ∀ t, t < zg (zMv h) 33 → g.1 2064461 (5 * k + t) = zb (zpj h ((zask (zsl (zMv h) 0) i).getD k 0) t)) → ∀ z, ∃ h1, ai_E (d + 5) 280 7 [some (.inr (.inr (32, 0, 16128))), some (.inl (nI i)), z] [] g = some ([], h1) ∧ zF zMS h h1 ∧ h1.1 16128 77 = nI (zcm h) ∧ ∀ k, k < zcm h → h1.1 2064459 k = nI (zcJ h k) ∧ ∀ t, t < zg (zMv h) 33 → h1.1 2064461 (5 * k + t) = zb (zpj h (zcJ h k) t) := by
    intro k
    induction k with
    | zero =>
      intro i hi g fg g7 gk z
      have hi : i = zn (zsl (zMv h) 0) 5 := by omega
      subst hi
      refine ⟨g, ?_, fg, g7, gk⟩
      rw [T280_7, i0, zM_n fg (zMS_n (by decide) (by decide)), b5.1, if_pos (by rw [z_le]; omega)]
    | succ k ih =>
      intro i hi g fg g7 gk z
      have ih := ih (i + 1) (by omega)
      have hl := zask_le (σ := zsl (zMv h) 0) i
      by_cases c6 : (zask (zsl (zMv h) 0) i).length = 6
      · have ea : zask (zsl (zMv h) 0) (zn (zsl (zMv h) 0) 5) = zask (zsl (zMv h) 0) i := by
          have := zask_6 c6 (k + 1)
          rw [hi] at this
          exact this
        refine ⟨g, ?_, fg, by rw [g7]; unfold zcm; rw [ea], fun k hk => ?_⟩
        · rw [T280_7, i0, zM_n fg (zMS_n (by decide) (by decide)), b5.1, if_neg (by rw [nI_leI (by omega) (by omega)]; omega), g7, c6, if_pos (by decide)]
        · have hk' := hk
          unfold zcm at hk'
          rw [ea] at hk'
          have ej : zcJ h k = (zask (zsl (zMv h) 0) i).getD k 0 := by unfold zcJ; rw [ea]
          rw [ej]
          exact gk k hk'
      · have i160 : ∀ f : Nat → Option ai_R, ai_ix (nI i) 160 f = f i := fun f => z_ix (by omega) (by decide)
        obtain ⟨⟨j1, j2, j3, j4, j5⟩, -⟩ := zm_job (zM_V hv fg) (j := i) (by rw [zMv_m fg]; omega)
        rw [zMv_m fg] at j4 j5
        have v31 := (V.2.2.2.2.2 i (by omega)).2.2.2.2.1
        unfold zi at v31
        have o31 : (0 ≤ zsl (zMv h) 0 31 i) ↔ ¬ zsl (zMv h) 0 31 i = -1 := by
          rw [z_le, z_eq]
          simp only [zl0, zlm1]
          omega
        rw [zask_S] at ih
        rw [T280_7, i0, zM_n fg (zMS_n (by decide) (by decide)), b5.1, if_neg (by rw [nI_leI (by omega) (by omega)]; omega), g7, if_neg (by rw [l6, nI_leI (by omega) (by omega)]; omega), i160, j4]
        by_cases o1 : zsl (zMv h) 0 31 i = -1
        · rw [if_neg (fun c => o31.mp c o1), i160, j5]
          by_cases o2 : zsl (zMv h) 0 18 i = 0
          · rw [if_pos o2]
            have ix : ∀ f : Nat → Option ai_R, ai_ix (nI (zask (zsl (zMv h) 0) i).length) 6 f = f (zask (zsl (zMv h) 0) i).length := fun f => z_ix (by omega) (by decide)
            rw [if_pos ⟨by omega, o1, o2⟩] at ih
            rw [ix]
            -- the trusts one by one
            have K2 : ∀ k2 t, t + k2 = zg (zMv h) 33 → ∀ g2, zF zMS h g2 → g2.1 16128 77 = nI (zask (zsl (zMv h) 0) i).length → (∀ k, k ≤ (zask (zsl (zMv h) 0) i).length → g2.1 2064459 k = nI ((zask (zsl (zMv h) 0) i ++ [i]).getD k 0)) → (∀ k, k < (zask (zsl (zMv h) 0) i).length → ∀ t, t < zg (zMv h) 33 → g2.1 2064461 (5 * k + t) = zb (zpj h ((zask (zsl (zMv h) 0) i).getD k 0) t)) → (∀ s, s < t → g2.1 2064461 (5 * (zask (zsl (zMv h) 0) i).length + s) = zb (zpj h i s)) → ∃ h1, ai_E (d + 5) 280 59 [some (.inr (.inr (32, 0, 16128))), some (.inl (nI i)), some (.inl (nI t))] [] g2 = some ([], h1) ∧ zF zMS h h1 ∧ h1.1 16128 77 = nI (zcm h) ∧ ∀ k, k < zcm h → h1.1 2064459 k = nI (zcJ h k) ∧ ∀ t, t < zg (zMv h) 33 → h1.1 2064461 (5 * k + t) = zb (zpj h (zcJ h k) t) := by
              intro k2
              induction k2 with
              | zero =>
                intro t ht g2 fg2 g27 gJ gP gl
                have ht : t = zg (zMv h) 33 := by omega
                subst ht
                rw [T280_59, zM_n fg2 (by unfold zMS; decide), b33.1, if_pos (by rw [z_le]; omega), g27, nI_1, nI_1]
                refine ih (ai_st g2 16128 77 (nI ((zask (zsl (zMv h) 0) i).length + 1))) (zF_st fg2 (Or.inl ⟨rfl, by decide⟩)) ?_ (fun k hk => ?_) _
                · rw [z_stS, List.length_append]
                  rfl
                · rw [List.length_append] at hk
                  have hk : k < (zask (zsl (zMv h) 0) i).length + 1 := hk
                  rw [z_ne (by decide), z_ne (by decide)]
                  refine ⟨gJ k (by omega), fun t ht => ?_⟩
                  by_cases e : k = (zask (zsl (zMv h) 0) i).length
                  · subst e
                    rw [z_gdr (Nat.le_refl _), Nat.sub_self]
                    exact gl t ht
                  · rw [z_gdl (by omega)]
                    exact gP k (by omega) t ht
              | succ k2 ih2 =>
                intro t ht g2 fg2 g27 gJ gP gl
                have eV2 := zMv_m fg2
                obtain ⟨⟨m1, m2, m3, -, -⟩, -⟩ := zm_job (zM_V hv fg2) (j := i) (by rw [eV2]; omega)
                obtain ⟨g3, q1, q2, q3⟩ := M277k (h := g2) (j := i) (tr := t) (d + 1) (zM_V hv fg2) (by rw [eV2]; omega) (by rw [eV2]; omega)
                rw [zb_c (zpj_V eV2)] at q1
                have fg3 := zF_tr fg2 q2
                have g37 : g2.1 16128 77 = nI (zask (zsl (zMv h) 0) i).length := g27
                have ix30 : ∀ f : Nat → Option ai_R, ai_ix ((5 : Int32) * nI (zask (zsl (zMv h) 0) i).length + nI t) 30 f = f (5 * (zask (zsl (zMv h) 0) i).length + t) := fun f => by
                  rw [show (5 : Int32) = nI 5 from rfl, pk_mul, nI_add]
                  exact z_ix (by omega) (by decide)
                have nb : vp_nar .boolean (zb (zpj h i t)) = zb (zpj h i t) := vp_b (by
                  by_cases c : zpj h i t
                  · rw [zb_t c]; exact Or.inr rfl
                  · rw [zb_f c]; exact Or.inl rfl)
                rw [T280_59, zM_n fg2 (by unfold zMS; decide), b33.1, if_neg (by rw [nI_leI (by omega) (by omega)]; omega), i160, i160, i160, m1, m2, m3, q1]
                simp only [z_bi]
                rw [g37, ix30, nb, nI_1]
                refine ih2 (t + 1) (by omega) (ai_st g3 2064461 (5 * (zask (zsl (zMv h) 0) i).length + t) (zb (zpj h i t))) (zF_st fg3 (Or.inr ⟨by omega, by omega, by omega⟩)) ?_ (fun k hk => ?_) (fun k hk s hs => ?_) (fun s hs => ?_)
                · rw [z_ne (by decide), q3 _ (by decide) (by decide)]; exact g27
                · rw [z_ne (by decide), q3 _ (by decide) (by decide)]; exact gJ k hk
                · rw [z_st1, if_neg (fun c => by omega), q3 _ (by decide) (by decide)]
                  exact gP k hk s hs
                · rw [z_st1]
                  by_cases e : s = t
                  · rw [if_pos ⟨rfl, by omega⟩, e]
                  · rw [if_neg (fun c => by omega), q3 _ (by decide) (by decide)]
                    exact gl s (by omega)
            refine K2 (zg (zMv h) 33) 0 (Nat.zero_add _) (ai_st g 2064459 (zask (zsl (zMv h) 0) i).length (nI i)) (zF_st fg (Or.inr ⟨by omega, by omega, by omega⟩)) (by rw [z_ne (by decide)]; exact g7) (fun k hk => ?_) (fun k hk s hs => ?_) (fun s hs => by omega)
            · rw [z_st1]
              by_cases e : k = (zask (zsl (zMv h) 0) i).length
              · subst e
                rw [if_pos ⟨rfl, rfl⟩, z_gdr (Nat.le_refl _), Nat.sub_self]
                rfl
              · rw [if_neg (fun c => e c.2), z_gdl (by omega)]
                exact (gk k (by omega)).1
            · rw [z_ne (by decide)]
              exact (gk k hk).2 s hs
          · rw [if_neg o2, nI_1]
            rw [if_neg (fun c => o2 c.2.2)] at ih
            exact ih g fg g7 gk _
        · rw [if_pos (o31.mpr o1), nI_1]
          rw [if_neg (fun c => o1 c.2.1)] at ih
          exact ih g fg g7 gk _
  rw [T280]
  exact K _ 0 (Nat.zero_add _) (ai_st h 16128 77 0) (zF_st zF_rf (Or.inl ⟨rfl, by decide⟩)) z_stS (fun k hk => absurd hk (Nat.not_lt_zero _)) none
