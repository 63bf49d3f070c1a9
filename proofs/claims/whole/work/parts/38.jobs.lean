/-! job, done, late -/
theorem X156 {n : Nat} {h : ai_H} (d : Nat) (t w c : Int32) (hn : h.1 2097281 1 = nI n) (hl : n ≤ 24) : ai_X (d + 3) 156 [.inr (.inr (31, 0, 128)), .inl t, .inl w, .inl c] h = some ([.inl (zb ((0 ≤ t.toInt ∧ t.toInt < (n : Int)) ∧ (0 ≤ w.toInt ∧ w.toInt ≤ 4) ∧ (1 ≤ c.toInt ∧ c.toInt ≤ 9999)))], h) := by
  rw [T156, X153 _ _ hn hl]
  simp only [z_bi, zb_0, z_b0, z_b1, z_lt, zl0, zl1, zl2, zl3, zl4, zl5, zl6, zl7, zl8, zl9, zl10, zl12, zl15, zl16, zl20, zl22, zl23, zl24, zl27, zl30, zl31, zl32, zl40, zl46, zl48, zl50, zl57, zl59, zl60, zl61, zl62, zl63, zl80, zl96, zl97, zl99, zl100, zl122, zl255, zl360, zl500, zl999, zl9999, zl60000, zl99999, zl16777215, zl1073741824, zlm1, zlm2, zlm3]
  by_cases c1 : 0 ≤ t.toInt ∧ t.toInt < (n : Int)
  · rw [if_neg (fun q => q c1), X146]
    simp only [z_bi, zb_0, zl0, zl1, zl2, zl3, zl4, zl5, zl6, zl7, zl8, zl9, zl10, zl12, zl15, zl16, zl20, zl22, zl23, zl24, zl27, zl30, zl31, zl32, zl40, zl46, zl48, zl50, zl57, zl59, zl60, zl61, zl62, zl63, zl80, zl96, zl97, zl99, zl100, zl122, zl255, zl360, zl500, zl999, zl9999, zl60000, zl99999, zl16777215, zl1073741824, zlm1, zlm2, zlm3]
    by_cases c2 : 0 ≤ w.toInt ∧ w.toInt ≤ 4
    · rw [if_neg (fun q => q c2)]
      by_cases c3 : c.toInt < 1
      · rw [if_pos c3, zb_f (by omega)]
      · rw [if_neg c3]
        by_cases c4 : 9999 < c.toInt
        · rw [if_pos c4, zb_f (by omega)]
        · rw [if_neg c4, zb_t (by omega)]
    · rw [if_pos c2, zb_f (fun q => c2 q.2.1)]
  · rw [if_pos c1, zb_f (fun q => c1 q.1)]
theorem M274 {n : Nat} {h : ai_H} (d : Nat) (x : Int32) (hn : h.1 2064390 0 = nI n) (hl : n ≤ 30000) : ai_X (d + 1) 274 [.inr (.inr (32, 0, 16128)), .inl x] h = some ([.inl (zb (0 ≤ x.toInt ∧ x.toInt < (n : Int)))], h) := by
  rw [T274]
  simp only [z_lt, z_le, z_b0, z_b1, zl0, zl1, zl2, zl3, zl4, zl5, zl6, zl7, zl8, zl9, zl10, zl12, zl15, zl16, zl20, zl22, zl23, zl24, zl27, zl30, zl31, zl32, zl40, zl46, zl48, zl50, zl57, zl59, zl60, zl61, zl62, zl63, zl80, zl96, zl97, zl99, zl100, zl122, zl255, zl360, zl500, zl999, zl9999, zl60000, zl99999, zl16777215, zl1073741824, zlm1, zlm2, zlm3]
  by_cases h1 : x.toInt < 0
  · rw [if_pos h1, zb_f (by omega)]
  · rw [if_neg h1, z_i0 (by decide) (by decide), hn, z_T (by omega)]
    by_cases h2 : (n : Int) ≤ x.toInt
    · rw [if_pos h2, zb_f (by omega)]
    · rw [if_neg h2, zb_t (by omega)]
/-- a job more -/
def zsJ (σ : Nat → Nat → Int32) (t w c p : Int32) : Nat → Nat → Int32 := zup (zup (zup (zup (zup (zup (zup σ 27 (zn σ 5) t) 28 (zn σ 5) w) 29 (zn σ 5) c) 30 (zn σ 5) p) 31 (zn σ 5) (-1)) 18 (zn σ 5) 0) 5 0 (nI (zn σ 5 + 1))
theorem zsJ_n {σ : Nat → Nat → Int32} {t w c p : Int32} {f : Nat} (h : f ≠ 5) (h2 : ¬ (27 ≤ f ∧ f ≤ 31)) (h3 : f ≠ 18) : zsJ σ t w c p f = σ f :=
  (zup_n h).trans ((zup_n (by omega)).trans ((zup_n (by omega)).trans ((zup_n (by omega)).trans ((zup_n (by omega)).trans ((zup_n (by omega)).trans (zup_n (by omega)))))))
theorem zsJ_5 {σ : Nat → Nat → Int32} {t w c p : Int32} : zsJ σ t w c p 5 0 = nI (zn σ 5 + 1) := zup_s
theorem zsJ_zn {σ : Nat → Nat → Int32} {t w c p : Int32} (hl : zn σ 5 < 30000) : zn (zsJ σ t w c p) 5 = zn σ 5 + 1 := zn_up (by omega) rfl
theorem zsJ_v {σ : Nat → Nat → Int32} {t w c p : Int32} {f j : Nat} (hf : f = 27 ∨ f = 28 ∨ f = 29 ∨ f = 30 ∨ f = 31 ∨ f = 18) : zsJ σ t w c p f j = if j = zn σ 5 then (if f = 27 then t else if f = 28 then w else if f = 29 then c else if f = 30 then p else if f = 31 then -1 else 0) else σ f j := by
  unfold zsJ zup
  by_cases k : j = zn σ 5
  · rcases hf with rfl | rfl | rfl | rfl | rfl | rfl <;> simp [k]
  · rcases hf with rfl | rfl | rfl | rfl | rfl | rfl <;> simp [k]
theorem zV_job {σ : Nat → Nat → Int32} {t w c p : Int32} (V : zV σ) (hl : zn σ 5 < 40) (ht : 0 ≤ t.toInt ∧ t.toInt < (zn σ 1 : Int)) (hw : zi w 0 4) (hc : zi c 1 9999) (hp : zi p 0 999) : zV (zsJ σ t w c p) := by
  obtain ⟨h1, h2, h3, h4, h5, h6⟩ := V
  have e : ∀ f, f ≠ 5 → ¬ (27 ≤ f ∧ f ≤ 31) → f ≠ 18 → zsJ σ t w c p f = σ f := fun f x y z => zsJ_n x y z
  have z5 := zsJ_zn (t := t) (w := w) (c := c) (p := p) (show zn σ 5 < 30000 by omega)
  refine ⟨?_, zVn_c (e 0 (by omega) (by omega) (by omega)) (e 10 (by omega) (by omega) (by omega)) h2, zVt_c (fun g hg => e g (by omega) (by omega) (by omega)) h3, zVh_c (fun g hg => e g (by omega) (by omega) (by omega)) h4, zVe_c (fun g hg => e g (by omega) (by omega) (by omega)) h5, fun j hj => ?_⟩
  · unfold zVc at h1 ⊢
    rw [e 0 (by decide) (by decide) (by decide), e 1 (by decide) (by decide) (by decide), e 2 (by decide) (by decide) (by decide), e 8 (by decide) (by decide) (by decide), e 3 (by decide) (by decide) (by decide), e 4 (by decide) (by decide) (by decide), e 6 (by decide) (by decide) (by decide), e 7 (by decide) (by decide) (by decide), zsJ_5]
    refine ⟨h1.1, h1.2.1, h1.2.2.1, h1.2.2.2.1, h1.2.2.2.2.1, h1.2.2.2.2.2.1, ?_, h1.2.2.2.2.2.2.2⟩
    unfold zi
    rw [z_T (by omega)]
    omega
  · rw [z5] at hj
    rw [zsJ_v (by omega), zsJ_v (by omega), zsJ_v (by omega), zsJ_v (by omega), zsJ_v (by omega), zsJ_v (by omega), zn_c (e 1 (by decide) (by decide) (by decide))]
    by_cases k : j = zn σ 5
    · simp only [k, if_true, Nat.reduceEqDiff, if_false]
      refine ⟨?_, hw, hc, hp, ?_, ?_⟩
      · unfold zi; omega
      · unfold zi; decide
      · unfold zi; decide
    · simp only [k, if_false]
      exact h6 j (by omega)
theorem zJ_lit {h : ai_H} {σ : Nat → Nat → Int32} : zJ h 2097283 σ ↔ (h.1 2097283 0 = σ 5 0 ∧ ∀ j, j < zn σ 5 → h.1 268452226 j = σ 27 j ∧ h.1 268452227 j = σ 28 j ∧ h.1 268452228 j = σ 29 j ∧ h.1 268452229 j = σ 30 j ∧ h.1 268452230 j = σ 31 j ∧ h.1 268452231 j = σ 18 j) := Iff.rfl
theorem X21_go {h : ai_H} {n : Nat} (d : Nat) (x1 x2 x3 x4 : Int32) (hn : h.1 2097283 0 = nI n) (hl : n < 40) : ai_X (d + 1) 21 [.inr (.inr (23, 0, 2097283)), .inl x1, .inl x2, .inl x3, .inl x4] h = some ([.inl (nI n)], ai_st (ai_st (ai_st (ai_st (ai_st (ai_st (ai_st h 268452226 n x1) 268452227 n x2) 268452228 n x3) 268452229 n x4) 268452230 n (-1)) 268452231 n 0) 2097283 0 (nI (n + 1))) := by
  have c1 : nI n < 40 := by simp only [z_lt, zl0, zl1, zl2, zl3, zl4, zl5, zl6, zl7, zl8, zl9, zl10, zl12, zl15, zl16, zl20, zl22, zl23, zl24, zl27, zl30, zl31, zl32, zl40, zl46, zl48, zl50, zl57, zl59, zl60, zl61, zl62, zl63, zl80, zl96, zl97, zl99, zl100, zl122, zl255, zl360, zl500, zl999, zl9999, zl60000, zl99999, zl16777215, zl1073741824, zlm1, zlm2, zlm3]; rw [z_T (by omega)]; omega
  have ix : ∀ f : Nat → Option ai_R, ai_ix (nI n) 40 f = f n := fun f => z_ix hl (by decide)
  rw [T21, hn, if_pos c1]
  simp only [ix, z_st1, z_bi, z_bv, z_br, Nat.reduceEqDiff, false_and, and_false, true_and, and_true, and_self, if_false, if_true, ite_true, ite_false, reduceIte, not_true_eq_false, not_false_eq_true, hn, nI_1, nI_pred]
theorem P_job (t w c p : Int32) : zPr 113 275 [.inl t, .inl w, .inl c, .inl p] := by
  intro d h hr
  obtain ⟨b0, b1, b2, b8, b5, b4, b3, V⟩ := zR_b hr
  have i0 : ∀ f : Nat → Option ai_R, ai_ix 0 4 f = f 0 := fun f => z_i0 (by decide) (by decide)
  have l40 : (40 : Int32) = nI 40 := rfl
  by_cases c1 : (0 ≤ t.toInt ∧ t.toInt < (zn (zsl (zMv h) 0) 1 : Int)) ∧ (0 ≤ w.toInt ∧ w.toInt ≤ 4) ∧ (1 ≤ c.toInt ∧ c.toInt ≤ 9999)
  · by_cases c2 : 0 ≤ p.toInt ∧ p.toInt ≤ 999
    · by_cases cn : zn (zsl (zMv h) 0) 5 < 40
      · have hJ : zJ h 2097283 (zsl (zMv h) 0) := hr.1.1.2.2.1
        have a1 := X21_go (d + 58) t w c p b5.1 cn
        generalize e1 : ai_st (ai_st (ai_st (ai_st (ai_st (ai_st (ai_st h 268452226 (zn (zsl (zMv h) 0) 5) t) 268452227 (zn (zsl (zMv h) 0) 5) w) 268452228 (zn (zsl (zMv h) 0) 5) c) 268452229 (zn (zsl (zMv h) 0) 5) p) 268452230 (zn (zsl (zMv h) 0) 5) (-1)) 268452231 (zn (zsl (zMv h) 0) 5) 0) 2097283 0 (nI (zn (zsl (zMv h) 0) 5 + 1)) = h1 at a1
        have a2 : zFc 2097283 h h1 := by
          rw [← e1]
          exact zFc_st (zFc_st (zFc_st (zFc_st (zFc_st (zFc_st (zFc_st zFc_rf (by decide)) (by decide)) (by decide)) (by decide)) (by decide)) (by decide)) (by decide)
        have fin := zFc_in a2 rfl
        obtain ⟨nM, eV⟩ := zin_M fin
        have m1 : h1.1 2064386 0 = nI (zn (zsl (zMv h) 0) 1) := by rw [nM _ (by decide)]; exact b1.2.1
        have m5 : h1.1 2064390 0 = nI (zn (zsl (zMv h) 0) 5) := by rw [nM _ (by decide)]; exact b5.2.1
        refine ⟨nI (zn (zsl (zMv h) 0) 5), h1, ai_st (ai_st (ai_st (ai_st (ai_st (ai_st (ai_st h1 2064412 (zn (zsl (zMv h) 0) 5) t) 2064413 (zn (zsl (zMv h) 0) 5) w) 2064414 (zn (zsl (zMv h) 0) 5) c) 2064415 (zn (zsl (zMv h) 0) 5) p) 2064416 (zn (zsl (zMv h) 0) 5) (-1)) 2064403 (zn (zsl (zMv h) 0) 5) 0) 2064390 0 (nI (zn (zsl (zMv h) 0) 5 + 1)), ?_, ?_, ?_, zK_of a2.2⟩
        · rw [T113, X156 _ _ _ _ b1.1 b1.2.2]
          simp only [z_bi, zb_0]
          rw [if_neg (fun q => q c1), X147]
          simp only [z_bi, zb_0]
          rw [if_neg (fun q => q c2), a1]
          rfl
        · have e : ¬ nI (zn (zsl (zMv h) 0) 5) = 40 := by rw [l40, nI_eq (by omega) (by omega)]; omega
          have ix : ∀ f : Nat → Option ai_R, ai_ix (nI (zn (zsl (zMv h) 0) 5)) 160 f = f (zn (zsl (zMv h) 0) 5) := fun f => z_ix (by omega) (by decide)
          rw [T275, M195 _ _ m1 (by omega)]
          simp only [z_bi, zb_0]
          rw [if_neg (fun q => q c1.1), M186]
          simp only [z_bi, zb_0, zl0, zl1, zl2, zl3, zl4, zl5, zl6, zl7, zl8, zl9, zl10, zl12, zl15, zl16, zl20, zl22, zl23, zl24, zl27, zl30, zl31, zl32, zl40, zl46, zl48, zl50, zl57, zl59, zl60, zl61, zl62, zl63, zl80, zl96, zl97, zl99, zl100, zl122, zl255, zl360, zl500, zl999, zl9999, zl60000, zl99999, zl16777215, zl1073741824, zlm1, zlm2, zlm3]
          rw [if_neg (fun q => q c1.2.1), M186]
          simp only [z_bi, zb_0, zl0, zl1, zl2, zl3, zl4, zl5, zl6, zl7, zl8, zl9, zl10, zl12, zl15, zl16, zl20, zl22, zl23, zl24, zl27, zl30, zl31, zl32, zl40, zl46, zl48, zl50, zl57, zl59, zl60, zl61, zl62, zl63, zl80, zl96, zl97, zl99, zl100, zl122, zl255, zl360, zl500, zl999, zl9999, zl60000, zl99999, zl16777215, zl1073741824, zlm1, zlm2, zlm3]
          rw [if_neg (fun q => q c1.2.2), M187]
          simp only [z_bi, zb_0]
          rw [if_neg (fun q => q c2)]
          simp only [i0, m5, if_neg e, ix, vp_b (Or.inl rfl)]
          simp only [z_st1, z_bi, z_bv, z_br, Nat.reduceEqDiff, false_and, and_false, true_and, and_true, and_self, if_false, if_true, ite_true, ite_false, reduceIte, not_true_eq_false, not_false_eq_true, m5, nI_1]
        · refine zR_now hr (μ' := zmu (zmu (zmu (zmu (zmu (zmu (zmu (zMv h) 27 (zn (zsl (zMv h) 0) 5) t) 28 (zn (zsl (zMv h) 0) 5) w) 29 (zn (zsl (zMv h) 0) 5) c) 30 (zn (zsl (zMv h) 0) 5) p) 31 (zn (zsl (zMv h) 0) 5) (-1)) 18 (zn (zsl (zMv h) 0) 5) 0) 5 0 (nI (zn (zsl (zMv h) 0) 5 + 1)))
            (zEq0_mu (zEq0_mu (zEq0_mu (zEq0_mu (zEq0_mu (zEq0_mu (zEq0_mu zEq0_rf (by decide) cn) (by decide) cn) (by decide) cn) (by decide) cn) (by decide) cn) (by decide) cn) (by decide) (by decide)) fin ?_ (zFm_st (zFm_st (zFm_st (zFm_st (zFm_st (zFm_st (zFm_st zFm_rf (by decide)) (by decide)) (by decide)) (by decide)) (by decide)) (by decide)) (by decide)) rfl
            (by rw [zMv_lit (f := 5) rfl (by omega), zMv_lit (f := 18) rfl (by omega), zMv_lit (f := 31) rfl (by omega), zMv_lit (f := 30) rfl (by omega), zMv_lit (f := 29) rfl (by omega), zMv_lit (f := 28) rfl (by omega), zMv_lit (f := 27) rfl (by omega), eV]) ?_ (fun t ht => (hr.2.1.2.2.2.1.1 t ht).1)
          · simp only [zsl_up]
            show zS h1 16385 _ (zsJ (zsl (zMv h) 0) t w c p)
            have z : ∀ g, g ≠ 5 → ¬ (27 ≤ g ∧ g ≤ 31) → g ≠ 18 → zsJ (zsl (zMv h) 0) t w c p g = zsl (zMv h) 0 g := fun g x y w => zsJ_n x y w
            refine zS_job a2 ?_ (fun f x y w => z f x w y) hr.1.1
            have z5 := zsJ_zn (t := t) (w := w) (c := c) (p := p) (show zn (zsl (zMv h) 0) 5 < 30000 by omega)
            rw [zJ_lit] at hJ ⊢
            rw [z5, zsJ_5, ← e1]
            simp only [z_st1, z_bi, z_bv, z_br, Nat.reduceEqDiff, false_and, and_false, true_and, and_true, and_self, if_false, if_true, ite_true, ite_false, reduceIte, not_true_eq_false, not_false_eq_true]
            intro j hj
            rw [zsJ_v (by omega), zsJ_v (by omega), zsJ_v (by omega), zsJ_v (by omega), zsJ_v (by omega), zsJ_v (by omega)]
            by_cases k : j = zn (zsl (zMv h) 0) 5
            · simp only [k, if_true, Nat.reduceEqDiff, if_false, and_self]
            · simp only [k, if_false]
              exact hJ.2 j (by omega)
          · simp only [zsl_up]
            exact zV_job V cn c1.1 c1.2.1 c1.2.2 c2
      · have en : zn (zsl (zMv h) 0) 5 = 40 := by omega
        refine ⟨-1, h, h, ?_, ?_, hr, zK_of rfl⟩
        · rw [T113, X156 _ _ _ _ b1.1 b1.2.2]
          simp only [z_bi, zb_0]
          rw [if_neg (fun q => q c1), X147]
          simp only [z_bi, zb_0]
          rw [if_neg (fun q => q c2), T21, b5.1, l40, if_neg (fun q => cn ((z_lt24 (by omega) (by omega)).mp q))]
          rfl
        · rw [T275, M195 _ _ b1.2.1 (by omega)]
          simp only [z_bi, zb_0]
          rw [if_neg (fun q => q c1.1), M186]
          simp only [z_bi, zb_0, zl0, zl1, zl2, zl3, zl4, zl5, zl6, zl7, zl8, zl9, zl10, zl12, zl15, zl16, zl20, zl22, zl23, zl24, zl27, zl30, zl31, zl32, zl40, zl46, zl48, zl50, zl57, zl59, zl60, zl61, zl62, zl63, zl80, zl96, zl97, zl99, zl100, zl122, zl255, zl360, zl500, zl999, zl9999, zl60000, zl99999, zl16777215, zl1073741824, zlm1, zlm2, zlm3]
          rw [if_neg (fun q => q c1.2.1), M186]
          simp only [z_bi, zb_0, zl0, zl1, zl2, zl3, zl4, zl5, zl6, zl7, zl8, zl9, zl10, zl12, zl15, zl16, zl20, zl22, zl23, zl24, zl27, zl30, zl31, zl32, zl40, zl46, zl48, zl50, zl57, zl59, zl60, zl61, zl62, zl63, zl80, zl96, zl97, zl99, zl100, zl122, zl255, zl360, zl500, zl999, zl9999, zl60000, zl99999, zl16777215, zl1073741824, zlm1, zlm2, zlm3]
          rw [if_neg (fun q => q c1.2.2), M187]
          simp only [z_bi, zb_0]
          rw [if_neg (fun q => q c2), i0, b5.2.1, en, if_pos l40.symm]
    · refine ⟨-1, h, h, ?_, ?_, hr, zK_of rfl⟩
      · rw [T113, X156 _ _ _ _ b1.1 b1.2.2]
        simp only [z_bi, zb_0]
        rw [if_neg (fun q => q c1), X147]
        simp only [z_bi, zb_0]
        rw [if_pos c2]
      · rw [T275, M195 _ _ b1.2.1 (by omega)]
        simp only [z_bi, zb_0]
        rw [if_neg (fun q => q c1.1), M186]
        simp only [z_bi, zb_0, zl0, zl1, zl2, zl3, zl4, zl5, zl6, zl7, zl8, zl9, zl10, zl12, zl15, zl16, zl20, zl22, zl23, zl24, zl27, zl30, zl31, zl32, zl40, zl46, zl48, zl50, zl57, zl59, zl60, zl61, zl62, zl63, zl80, zl96, zl97, zl99, zl100, zl122, zl255, zl360, zl500, zl999, zl9999, zl60000, zl99999, zl16777215, zl1073741824, zlm1, zlm2, zlm3]
        rw [if_neg (fun q => q c1.2.1), M186]
        simp only [z_bi, zb_0, zl0, zl1, zl2, zl3, zl4, zl5, zl6, zl7, zl8, zl9, zl10, zl12, zl15, zl16, zl20, zl22, zl23, zl24, zl27, zl30, zl31, zl32, zl40, zl46, zl48, zl50, zl57, zl59, zl60, zl61, zl62, zl63, zl80, zl96, zl97, zl99, zl100, zl122, zl255, zl360, zl500, zl999, zl9999, zl60000, zl99999, zl16777215, zl1073741824, zlm1, zlm2, zlm3]
        rw [if_neg (fun q => q c1.2.2), M187]
        simp only [z_bi, zb_0]
        rw [if_pos c2]
  · refine ⟨-1, h, h, ?_, ?_, hr, zK_of rfl⟩
    · rw [T113, X156 _ _ _ _ b1.1 b1.2.2]
      simp only [z_bi, zb_0]
      rw [if_pos c1]
    · rw [T275, M195 _ _ b1.2.1 (by omega)]
      simp only [z_bi, zb_0]
      by_cases k1 : 0 ≤ t.toInt ∧ t.toInt < (zn (zsl (zMv h) 0) 1 : Int)
      · rw [if_neg (fun q => q k1), M186]
        simp only [z_bi, zb_0, zl0, zl1, zl2, zl3, zl4, zl5, zl6, zl7, zl8, zl9, zl10, zl12, zl15, zl16, zl20, zl22, zl23, zl24, zl27, zl30, zl31, zl32, zl40, zl46, zl48, zl50, zl57, zl59, zl60, zl61, zl62, zl63, zl80, zl96, zl97, zl99, zl100, zl122, zl255, zl360, zl500, zl999, zl9999, zl60000, zl99999, zl16777215, zl1073741824, zlm1, zlm2, zlm3]
        by_cases k2 : 0 ≤ w.toInt ∧ w.toInt ≤ 4
        · rw [if_neg (fun q => q k2), M186]
          simp only [z_bi, zb_0, zl0, zl1, zl2, zl3, zl4, zl5, zl6, zl7, zl8, zl9, zl10, zl12, zl15, zl16, zl20, zl22, zl23, zl24, zl27, zl30, zl31, zl32, zl40, zl46, zl48, zl50, zl57, zl59, zl60, zl61, zl62, zl63, zl80, zl96, zl97, zl99, zl100, zl122, zl255, zl360, zl500, zl999, zl9999, zl60000, zl99999, zl16777215, zl1073741824, zlm1, zlm2, zlm3]
          rw [if_pos (fun q => c1 ⟨k1, k2, q⟩)]
        · rw [if_pos k2]
      · rw [if_pos k1]
theorem P_done (j dd : Int32) : zPr 114 276 [.inl j, .inl dd] := by
  intro d h hr
  obtain ⟨b0, b1, b2, b8, b5, b4, b3, V⟩ := zR_b hr
  have i0 : ∀ f : Nat → Option ai_R, ai_ix 0 4 f = f 0 := fun f => z_i0 (by decide) (by decide)
  have hJ : zJ h 2097283 (zsl (zMv h) 0) := hr.1.1.2.2.1
  rw [zJ_lit] at hJ
  by_cases c1 : 0 ≤ j.toInt ∧ j.toInt < (zn (zsl (zMv h) 0) 5 : Int)
  · obtain ⟨p, hp, rfl⟩ := z_rng c1
    have hd := (V.2.2.2.2.2 p hp).2.2.2.2.1
    have ed : h.1 268452230 p = zsl (zMv h) 0 31 p := (hJ.2 p hp).2.2.2.2.1
    have em : h.1 2064416 p = zsl (zMv h) 0 31 p := (zs0 (f := 31) (by omega)).symm
    have em1 : zsl (zMv h) 0 31 p = -1 ↔ (zsl (zMv h) 0 31 p).toInt = -1 := by rw [z_eq]; exact Iff.rfl
    unfold zi at hd
    by_cases c3 : zsl (zMv h) 0 31 p = -1
    · by_cases c2 : 0 ≤ dd.toInt ∧ dd.toInt ≤ (zsl (zMv h) 0 3 0).toInt
      · have a2 : zFc 2097283 h (ai_st h 268452230 p dd) := zFc_st zFc_rf (by decide)
        have fin := zFc_in a2 rfl
        obtain ⟨nM, eV⟩ := zin_M fin
        refine ⟨1, ai_st h 268452230 p dd, ai_st (ai_st h 268452230 p dd) 2064416 p dd, ?_, ?_, ?_, zK_of rfl⟩
        · rw [T114, X155 _ _ b5.1 b5.2.2]
          simp only [z_bi, zb_0]
          rw [if_neg (fun q => q c1), X151, b3.1]
          simp only [z_bi, zb_0]
          rw [if_neg (fun q => q c2), z_ix (by omega) (by decide), ed, if_pos c3, z_ix (by omega) (by decide), z_b1]
        · rw [T276, M274 _ _ (by rw [nM _ (by decide)]; exact b5.2.1) (by omega)]
          simp only [z_bi, zb_0]
          rw [if_neg (fun q => q c1), z_ix (by omega) (by decide), nM _ (by decide), em, if_neg (by rw [c3]; decide), i0, nM _ (by decide), b3.2.1, M186]
          simp only [z_bi, zb_0, zl0, zl1, zl2, zl3, zl4, zl5, zl6, zl7, zl8, zl9, zl10, zl12, zl15, zl16, zl20, zl22, zl23, zl24, zl27, zl30, zl31, zl32, zl40, zl46, zl48, zl50, zl57, zl59, zl60, zl61, zl62, zl63, zl80, zl96, zl97, zl99, zl100, zl122, zl255, zl360, zl500, zl999, zl9999, zl60000, zl99999, zl16777215, zl1073741824, zlm1, zlm2, zlm3]
          rw [if_neg (fun q => q c2), z_ix (by omega) (by decide), z_b1]
        · refine zR_now hr (μ' := zmu (zMv h) 31 p dd) (zEq0_mu zEq0_rf (by decide) (by show p < 40; omega)) fin ?_ (zFm_st zFm_rf (by decide)) rfl (by rw [zMv_lit (f := 31) rfl (by omega), eV]) ?_ (fun t ht => (hr.2.1.2.2.2.1.1 t ht).1)
          · rw [zsl_up]
            refine zS_job a2 ?_ (fun f x y w => zup_n (by omega)) hr.1.1
            rw [zJ_lit, zn_c (zup_n (show 5 ≠ 31 by decide)), zup_n (show 5 ≠ 31 by decide), zup_n (show 27 ≠ 31 by decide), zup_n (show 28 ≠ 31 by decide), zup_n (show 29 ≠ 31 by decide), zup_n (show 30 ≠ 31 by decide), zup_n (show 18 ≠ 31 by decide)]
            simp only [z_st1, z_bi, z_bv, z_br, Nat.reduceEqDiff, false_and, and_false, true_and, and_true, and_self, if_false, if_true, ite_true, ite_false, reduceIte, not_true_eq_false, not_false_eq_true]
            refine ⟨hJ.1, fun q hq => ?_⟩
            obtain ⟨y1, y2, y3, y4, y5, y6⟩ := hJ.2 q hq
            refine ⟨y1, y2, y3, y4, ?_, y6⟩
            by_cases k : q = p
            · subst k; rw [if_pos rfl, zup_s]
            · rw [if_neg k, zup_o k]; exact y5
          · rw [zsl_up]
            obtain ⟨h1, h2, h3, h4, h5, h6⟩ := V
            refine ⟨zVc_u (by decide) h1, zVn_c (zup_n (by omega)) (zup_n (by omega)) h2, zVt_c (fun g hg => zup_n (by omega)) h3, zVh_c (fun g hg => zup_n (by omega)) h4, zVe_c (fun g hg => zup_n (by omega)) h5, fun q hq => ?_⟩
            rw [zn_c (zup_n (show 5 ≠ 31 by decide))] at hq
            obtain ⟨y1, y2, y3, y4, y5, y6⟩ := h6 q hq
            rw [zn_c (zup_n (show 1 ≠ 31 by decide)), zup_n (show 27 ≠ 31 by decide), zup_n (show 28 ≠ 31 by decide), zup_n (show 29 ≠ 31 by decide), zup_n (show 30 ≠ 31 by decide), zup_n (show 18 ≠ 31 by decide)]
            refine ⟨y1, y2, y3, y4, ?_, y6⟩
            by_cases k : q = p
            · subst k; rw [zup_s]
              have := b3.2.2
              unfold zi at this ⊢
              omega
            · rw [zup_o k]; exact y5
      · refine ⟨0, h, h, ?_, ?_, hr, zK_of rfl⟩
        · rw [T114, X155 _ _ b5.1 b5.2.2]
          simp only [z_bi, zb_0]
          rw [if_neg (fun q => q c1), X151, b3.1]
          simp only [z_bi, zb_0]
          rw [if_pos c2, z_b0]
        · rw [T276, M274 _ _ b5.2.1 (by omega)]
          simp only [z_bi, zb_0]
          rw [if_neg (fun q => q c1), z_ix (by omega) (by decide), em, if_neg (by rw [c3]; decide), i0, b3.2.1, M186]
          simp only [z_bi, zb_0, zl0, zl1, zl2, zl3, zl4, zl5, zl6, zl7, zl8, zl9, zl10, zl12, zl15, zl16, zl20, zl22, zl23, zl24, zl27, zl30, zl31, zl32, zl40, zl46, zl48, zl50, zl57, zl59, zl60, zl61, zl62, zl63, zl80, zl96, zl97, zl99, zl100, zl122, zl255, zl360, zl500, zl999, zl9999, zl60000, zl99999, zl16777215, zl1073741824, zlm1, zlm2, zlm3]
          rw [if_pos c2, z_b0]
    · refine ⟨0, h, h, ?_, ?_, hr, zK_of rfl⟩
      · rw [T114, X155 _ _ b5.1 b5.2.2]
        simp only [z_bi, zb_0]
        rw [if_neg (fun q => q c1), X151]
        simp only [z_bi, zb_0]
        by_cases c2 : 0 ≤ dd.toInt ∧ dd.toInt ≤ (h.1 2097282 13).toInt
        · rw [if_neg (fun q => q c2), z_ix (by omega) (by decide), ed, if_neg c3, z_b0]
        · rw [if_pos c2, z_b0]
      · rw [T276, M274 _ _ b5.2.1 (by omega)]
        simp only [z_bi, zb_0]
        rw [em1] at c3
        rw [if_neg (fun q => q c1), z_ix (by omega) (by decide), em, if_pos (by rw [z_le]; simp only [zl0, zl1, zl2, zl3, zl4, zl5, zl6, zl7, zl8, zl9, zl10, zl12, zl15, zl16, zl20, zl22, zl23, zl24, zl27, zl30, zl31, zl32, zl40, zl46, zl48, zl50, zl57, zl59, zl60, zl61, zl62, zl63, zl80, zl96, zl97, zl99, zl100, zl122, zl255, zl360, zl500, zl999, zl9999, zl60000, zl99999, zl16777215, zl1073741824, zlm1, zlm2, zlm3]; omega), z_b0]
  · refine ⟨0, h, h, ?_, ?_, hr, zK_of rfl⟩
    · rw [T114, X155 _ _ b5.1 b5.2.2]
      simp only [z_bi, zb_0]
      rw [if_pos c1, z_b0]
    · rw [T276, M274 _ _ b5.2.1 (by omega)]
      simp only [z_bi, zb_0]
      rw [if_pos c1, z_b0]
/-- how late a job is -/
def zlate (σ : Nat → Nat → Int32) (j : Nat) : Int32 := ai_max 0 ((if σ 31 j = -1 then σ 3 0 else σ 31 j) - σ 30 j)
theorem X22 {h : ai_H} {σ : Nat → Nat → Int32} {j : Nat} (d : Nat) (hJ : zJ h 2097283 σ) (hj : j < zn σ 5) (hl : zn σ 5 ≤ 40) : ai_X (d + 1) 22 [.inr (.inr (23, 0, 2097283)), .inl (nI j), .inl (σ 3 0)] h = some ([.inl (zlate σ j)], h) := by
  rw [zJ_lit] at hJ
  obtain ⟨y1, y2, y3, y4, y5, y6⟩ := hJ.2 j hj
  have ix : ∀ f : Nat → Option ai_R, ai_ix (nI j) 40 f = f j := fun f => z_ix (by omega) (by decide)
  rw [T22]
  simp only [ix, y4, y5]
  unfold zlate
  by_cases c : σ 31 j = -1
  · rw [if_pos c, if_pos c]
  · rw [if_neg c, if_neg c]
theorem M285 {h : ai_H} {j : Nat} (d : Nat) (V : zV (zsl (zMv h) 0)) (hj : j < zn (zsl (zMv h) 0) 5) (hl : zn (zsl (zMv h) 0) 5 ≤ 40) : ai_X (d + 1) 285 [.inr (.inr (32, 0, 16128)), .inl (nI j)] h = some ([.inl (zlate (zsl (zMv h) 0) j)], h) := by
  have ix : ∀ f : Nat → Option ai_R, ai_ix (nI j) 160 f = f j := fun f => z_ix (by omega) (by decide)
  have i0 : ∀ f : Nat → Option ai_R, ai_ix 0 4 f = f 0 := fun f => z_i0 (by decide) (by decide)
  have e3 : h.1 2064388 0 = zsl (zMv h) 0 3 0 := (zs0 (f := 3) (by omega)).symm
  have e30 : h.1 2064415 j = zsl (zMv h) 0 30 j := (zs0 (f := 30) (by omega)).symm
  have e31 : h.1 2064416 j = zsl (zMv h) 0 31 j := (zs0 (f := 31) (by omega)).symm
  have hd := (V.2.2.2.2.2 j hj).2.2.2.2.1
  unfold zi at hd
  have em1 : zsl (zMv h) 0 31 j = -1 ↔ (zsl (zMv h) 0 31 j).toInt = -1 := by rw [z_eq]; exact Iff.rfl
  have mx : ∀ x : Int32, (if 0 ≤ x then some ([Sum.inl x], h) else some ([Sum.inl 0], h) : Option ai_R) = some ([.inl (ai_max 0 x)], h) := by
    intro x
    unfold ai_max
    by_cases c : 0 ≤ x
    · rw [if_pos c]
      by_cases c' : 0 < x
      · rw [if_pos c']
      · rw [if_neg c']
        have : x = 0 := by rw [z_eq]; rw [z_le] at c; rw [z_lt] at c'; omega
        rw [this]
    · rw [if_neg c, if_neg (by rw [z_le] at c; rw [z_lt]; omega)]
  rw [T285]
  simp only [ix, i0, e3, e30, e31, mx]
  unfold zlate
  by_cases c : zsl (zMv h) 0 31 j = -1
  · rw [if_pos c, if_pos (by rw [c]; decide)]
  · rw [if_neg c, if_neg (by rw [em1] at c; rw [z_lt]; simp only [zl0, zl1, zl2, zl3, zl4, zl5, zl6, zl7, zl8, zl9, zl10, zl12, zl15, zl16, zl20, zl22, zl23, zl24, zl27, zl30, zl31, zl32, zl40, zl46, zl48, zl50, zl57, zl59, zl60, zl61, zl62, zl63, zl80, zl96, zl97, zl99, zl100, zl122, zl255, zl360, zl500, zl999, zl9999, zl60000, zl99999, zl16777215, zl1073741824, zlm1, zlm2, zlm3]; omega)]
def zlates (σ : Nat → Nat → Int32) : Nat → Int32
  | 0 => 0
  | n + 1 => zlates σ n + zlate σ n
theorem P_late (j : Int32) : zPr 119 286 [.inl j] := zPr_q fun d h hr => by
  obtain ⟨b0, b1, b2, b8, b5, b4, b3, V⟩ := zR_b hr
  have i0 : ∀ f : Nat → Option ai_R, ai_ix 0 4 f = f 0 := fun f => z_i0 (by decide) (by decide)
  have hJ : zJ h 2097283 (zsl (zMv h) 0) := hr.1.1.2.2.1
  by_cases c : j = -1
  · subst c
    have KX : ∀ k i, i + k = zn (zsl (zMv h) 0) 5 → ai_E (d + 58) 23 4 [some (.inr (.inr (23, 0, 2097283))), some (.inl (zsl (zMv h) 0 3 0)), some (.inl (zlates (zsl (zMv h) 0) i)), some (.inl (nI i))] [] h = some ([.inl (zlates (zsl (zMv h) 0) (zn (zsl (zMv h) 0) 5))], h) := by
      intro k
      induction k with
      | zero =>
        intro i hi
        have hi : i = zn (zsl (zMv h) 0) 5 := by omega
        subst hi
        rw [T23_4, b5.1, if_pos (by rw [z_le]; omega)]
      | succ k ih =>
        intro i hi
        rw [T23_4, b5.1, if_neg (by rw [nI_leI (by omega) (by omega)]; omega), X22 _ hJ (by omega) b5.2.2]
        simp only [z_bi, nI_1]
        exact ih (i + 1) (by omega)
    have KM : ∀ k i, i + k = zn (zsl (zMv h) 0) 5 → ∀ z1, ai_E (d + 59) 286 28 [some (.inr (.inr (32, 0, 16128))), z1, some (.inl (zlates (zsl (zMv h) 0) i)), some (.inl (nI i))] [] h = some ([.inl (zlates (zsl (zMv h) 0) (zn (zsl (zMv h) 0) 5))], h) := by
      intro k
      induction k with
      | zero =>
        intro i hi z1
        have hi : i = zn (zsl (zMv h) 0) 5 := by omega
        subst hi
        rw [T286_28, i0, b5.2.1, if_pos (by rw [z_le]; omega)]
      | succ k ih =>
        intro i hi z1
        rw [T286_28, i0, b5.2.1, if_neg (by rw [nI_leI (by omega) (by omega)]; omega), M285 _ V (by omega) b5.2.2]
        simp only [z_bi, nI_1]
        exact ih (i + 1) (by omega) z1
    refine ⟨zlates (zsl (zMv h) 0) (zn (zsl (zMv h) 0) 5), h, h, ?_, zF_rf, ?_, zF_rf⟩
    · rw [T119, if_pos rfl, b3.1, T23, show ai_E (d + 58) 23 4 [some (.inr (.inr (23, 0, 2097283))), some (.inl (zsl (zMv h) 0 3 0)), some (.inl 0), some (.inl 0)] [] h = _ from KX (zn (zsl (zMv h) 0) 5) 0 (by omega)]
      rfl
    · rw [T286, if_pos rfl]
      exact KM (zn (zsl (zMv h) 0) 5) 0 (by omega) _
  · by_cases c1 : 0 ≤ j.toInt ∧ j.toInt < (zn (zsl (zMv h) 0) 5 : Int)
    · obtain ⟨p, hp, rfl⟩ := z_rng c1
      refine ⟨zlate (zsl (zMv h) 0) p, h, h, ?_, zF_rf, ?_, zF_rf⟩
      · rw [T119, if_neg c, X155 _ _ b5.1 b5.2.2]
        simp only [z_bi, zb_0]
        rw [if_neg (fun q => q c1), b3.1, X22 _ hJ hp b5.2.2]
        rfl
      · rw [T286, if_neg c, M274 _ _ b5.2.1 (by omega)]
        simp only [z_bi, zb_0]
        rw [if_neg (fun q => q c1), M285 _ V hp b5.2.2]
        rfl
    · refine ⟨-2, h, h, ?_, zF_rf, ?_, zF_rf⟩
      · rw [T119, if_neg c, X155 _ _ b5.1 b5.2.2]
        simp only [z_bi, zb_0]
        rw [if_pos c1]
      · rw [T286, if_neg c, M274 _ _ b5.2.1 (by omega)]
        simp only [z_bi, zb_0]
        rw [if_pos c1]
