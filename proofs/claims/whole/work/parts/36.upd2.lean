/-! cold, hard, house, course, tap -/
theorem zC_lit {h : ai_H} {σ : Nat → Nat → Int32} : zC h 2097281 σ ↔ (h.1 2097281 0 = σ 0 0 ∧ h.1 2097281 1 = σ 1 0 ∧ h.1 2097281 2 = σ 2 0 ∧ h.1 2097281 3 = σ 8 0 ∧ h.1 2097281 4 = nI (zB (fun i => ¬ σ 10 i = -1) (zn σ 0)) ∧ h.1 2097281 5 = nI (zB (fun t => ¬ σ 17 t = 0) (zn σ 1)) ∧
  (∀ i, i < zn σ 0 → h.1 268451975 i = σ 10 i ∧ h.1 268451976 i = nI (zab σ i)) ∧
  (∀ t, t < zn σ 1 → h.1 268451977 t = σ 11 t ∧ h.1 268451978 t = σ 12 t ∧ h.1 268451979 t = σ 13 t ∧ h.1 268451980 t = σ 14 t ∧ h.1 268451981 t = σ 15 t) ∧
  (∀ i, i < zn σ 2 → h.1 268451982 i = σ 19 i) ∧ (∀ i, i < zn σ 8 → h.1 268451983 i = σ 20 i)) := Iff.rfl
theorem z_rng {v : Int32} {n : Nat} (c : 0 ≤ v.toInt ∧ v.toInt < (n : Int)) : ∃ p, p < n ∧ v = nI p := ⟨v.toInt.toNat, by omega, z_nat c.1⟩
theorem z_rngI {v : Int32} {n : Int} (c : 0 ≤ v.toInt ∧ v.toInt ≤ n) : ∃ p : Nat, (p : Int) ≤ n ∧ v = nI p := ⟨v.toInt.toNat, by omega, z_nat c.1⟩
theorem P_cold (i v : Int32) : zPr 98 203 [.inl i, .inl v] := by
  intro d h hr
  obtain ⟨b0, b1, b2, b8, b5, b4, b3, V⟩ := zR_b hr
  by_cases c1 : 0 ≤ i.toInt ∧ i.toInt ≤ 23
  · by_cases c2 : 0 ≤ v.toInt ∧ v.toInt ≤ 100
    · obtain ⟨p, hp, rfl⟩ := z_rngI c1
      have fin := zin_st (h := h) (c := 268452109) (j := p) (v := v) (by unfold zin; decide)
      obtain ⟨nM, eV⟩ := zin_M fin
      have hD : zD h 2097282 (zsl (zMv h) 0) := hr.1.1.2.1
      refine ⟨1, ai_st h 268452109 p v, ai_st (ai_st h 268452109 p v) 2064401 p v, ?_, ?_, ?_, zK_of rfl⟩
      · rw [T98, X146]
        simp only [z_bi, zb_0, zl0, zl1, zl2, zl3, zl4, zl5, zl6, zl7, zl8, zl9, zl10, zl12, zl15, zl16, zl20, zl22, zl23, zl24, zl27, zl30, zl31, zl32, zl40, zl46, zl48, zl50, zl57, zl59, zl60, zl61, zl62, zl63, zl80, zl96, zl97, zl99, zl100, zl122, zl255, zl360, zl500, zl999, zl9999, zl60000, zl99999, zl16777215, zl1073741824, zlm1, zlm2, zlm3]
        rw [if_neg (fun q => q c1), X146]
        simp only [z_bi, zb_0, zl0, zl1, zl2, zl3, zl4, zl5, zl6, zl7, zl8, zl9, zl10, zl12, zl15, zl16, zl20, zl22, zl23, zl24, zl27, zl30, zl31, zl32, zl40, zl46, zl48, zl50, zl57, zl59, zl60, zl61, zl62, zl63, zl80, zl96, zl97, zl99, zl100, zl122, zl255, zl360, zl500, zl999, zl9999, zl60000, zl99999, zl16777215, zl1073741824, zlm1, zlm2, zlm3]
        rw [if_neg (fun q => q c2), z_ix (by omega) (by decide), z_b1]
      · rw [T203, M186]
        simp only [z_bi, zb_0, zl0, zl1, zl2, zl3, zl4, zl5, zl6, zl7, zl8, zl9, zl10, zl12, zl15, zl16, zl20, zl22, zl23, zl24, zl27, zl30, zl31, zl32, zl40, zl46, zl48, zl50, zl57, zl59, zl60, zl61, zl62, zl63, zl80, zl96, zl97, zl99, zl100, zl122, zl255, zl360, zl500, zl999, zl9999, zl60000, zl99999, zl16777215, zl1073741824, zlm1, zlm2, zlm3]
        rw [if_neg (fun q => q c1), M186]
        simp only [z_bi, zb_0, zl0, zl1, zl2, zl3, zl4, zl5, zl6, zl7, zl8, zl9, zl10, zl12, zl15, zl16, zl20, zl22, zl23, zl24, zl27, zl30, zl31, zl32, zl40, zl46, zl48, zl50, zl57, zl59, zl60, zl61, zl62, zl63, zl80, zl96, zl97, zl99, zl100, zl122, zl255, zl360, zl500, zl999, zl9999, zl60000, zl99999, zl16777215, zl1073741824, zlm1, zlm2, zlm3]
        rw [if_neg (fun q => q c2), z_ix (by omega) (by decide), z_b1]
      · refine zR_now hr (μ' := zmu (zMv h) 16 p v) (zEq0_mu zEq0_rf (by decide) (by show p < 24; omega)) fin ?_ (zFm_st zFm_rf (by decide)) rfl (by rw [zMv_lit (f := 16) rfl (by omega), eV]) ?_ (fun t ht => (hr.2.1.2.2.2.1.1 t ht).1)
        · rw [zsl_up]
          refine zS_dia (fun q h1 h2 => ?_) fin.2 (fun j hj => ?_) ?_ ?_ ?_ (fun g _ _ _ x => zup_n x) hr.1.1
          · funext j
            rw [z_st1, if_neg (fun k => h2 k.1)]
          · by_cases k : j = p
            · subst k; rw [z_stS, zup_s]
            · rw [z_st1, if_neg (fun x => k x.2), zup_o k]; exact hD.2.1 j hj
          · rw [z_st1, if_neg (by omega), zup_n (by decide)]; exact hD.2.2.1
          · rw [z_st1, if_neg (by omega), zup_n (by decide)]; exact hD.2.2.2.1
          · rw [z_st1, if_neg (by omega), zup_n (by decide)]; exact hD.2.2.2.2
        · rw [zsl_up]
          obtain ⟨h1, h2, h3, h4, h5, h6⟩ := V
          refine ⟨zVc_u (by decide) h1, zVn_c (zup_n (by omega)) (zup_n (by omega)) h2, zVt_c (fun g hg => zup_n (by omega)) h3, ?_, zVe_c (fun g hg => zup_n (by omega)) h5, zVj_c (fun g hg => zup_n (by omega)) h6⟩
          unfold zVh at h4 ⊢
          rw [zn_c (zup_n (show 2 ≠ 16 by decide)), zn_c (zup_n (show 8 ≠ 16 by decide)), zup_n (show 19 ≠ 16 by decide), zup_n (show 20 ≠ 16 by decide)]
          refine ⟨h4.1, h4.2.1, fun j hj => ?_⟩
          by_cases k : j = p
          · subst k; rw [zup_s]; exact c2
          · rw [zup_o k]; exact h4.2.2 j hj
    · refine ⟨0, h, h, ?_, ?_, hr, zK_of rfl⟩
      · rw [T98, X146]
        simp only [z_bi, zb_0, zl0, zl1, zl2, zl3, zl4, zl5, zl6, zl7, zl8, zl9, zl10, zl12, zl15, zl16, zl20, zl22, zl23, zl24, zl27, zl30, zl31, zl32, zl40, zl46, zl48, zl50, zl57, zl59, zl60, zl61, zl62, zl63, zl80, zl96, zl97, zl99, zl100, zl122, zl255, zl360, zl500, zl999, zl9999, zl60000, zl99999, zl16777215, zl1073741824, zlm1, zlm2, zlm3]
        rw [if_neg (fun q => q c1), X146]
        simp only [z_bi, zb_0, zl0, zl1, zl2, zl3, zl4, zl5, zl6, zl7, zl8, zl9, zl10, zl12, zl15, zl16, zl20, zl22, zl23, zl24, zl27, zl30, zl31, zl32, zl40, zl46, zl48, zl50, zl57, zl59, zl60, zl61, zl62, zl63, zl80, zl96, zl97, zl99, zl100, zl122, zl255, zl360, zl500, zl999, zl9999, zl60000, zl99999, zl16777215, zl1073741824, zlm1, zlm2, zlm3]
        rw [if_pos c2, z_b0]
      · rw [T203, M186]
        simp only [z_bi, zb_0, zl0, zl1, zl2, zl3, zl4, zl5, zl6, zl7, zl8, zl9, zl10, zl12, zl15, zl16, zl20, zl22, zl23, zl24, zl27, zl30, zl31, zl32, zl40, zl46, zl48, zl50, zl57, zl59, zl60, zl61, zl62, zl63, zl80, zl96, zl97, zl99, zl100, zl122, zl255, zl360, zl500, zl999, zl9999, zl60000, zl99999, zl16777215, zl1073741824, zlm1, zlm2, zlm3]
        rw [if_neg (fun q => q c1), M186]
        simp only [z_bi, zb_0, zl0, zl1, zl2, zl3, zl4, zl5, zl6, zl7, zl8, zl9, zl10, zl12, zl15, zl16, zl20, zl22, zl23, zl24, zl27, zl30, zl31, zl32, zl40, zl46, zl48, zl50, zl57, zl59, zl60, zl61, zl62, zl63, zl80, zl96, zl97, zl99, zl100, zl122, zl255, zl360, zl500, zl999, zl9999, zl60000, zl99999, zl16777215, zl1073741824, zlm1, zlm2, zlm3]
        rw [if_pos c2, z_b0]
  · refine ⟨0, h, h, ?_, ?_, hr, zK_of rfl⟩
    · rw [T98, X146]
      simp only [z_bi, zb_0, zl0, zl1, zl2, zl3, zl4, zl5, zl6, zl7, zl8, zl9, zl10, zl12, zl15, zl16, zl20, zl22, zl23, zl24, zl27, zl30, zl31, zl32, zl40, zl46, zl48, zl50, zl57, zl59, zl60, zl61, zl62, zl63, zl80, zl96, zl97, zl99, zl100, zl122, zl255, zl360, zl500, zl999, zl9999, zl60000, zl99999, zl16777215, zl1073741824, zlm1, zlm2, zlm3]
      rw [if_pos c1, z_b0]
    · rw [T203, M186]
      simp only [z_bi, zb_0, zl0, zl1, zl2, zl3, zl4, zl5, zl6, zl7, zl8, zl9, zl10, zl12, zl15, zl16, zl20, zl22, zl23, zl24, zl27, zl30, zl31, zl32, zl40, zl46, zl48, zl50, zl57, zl59, zl60, zl61, zl62, zl63, zl80, zl96, zl97, zl99, zl100, zl122, zl255, zl360, zl500, zl999, zl9999, zl60000, zl99999, zl16777215, zl1073741824, zlm1, zlm2, zlm3]
      rw [if_pos c1, z_b0]
theorem P_hard (t v : Int32) : zPr 90 204 [.inl t, .inl v] := by
  intro d h hr
  obtain ⟨b0, b1, b2, b8, b5, b4, b3, V⟩ := zR_b hr
  by_cases c1 : 0 ≤ t.toInt ∧ t.toInt < (zn (zsl (zMv h) 0) 1 : Int)
  · by_cases c2 : 1 ≤ v.toInt ∧ v.toInt ≤ 99
    · obtain ⟨p, hp, rfl⟩ := z_rng c1
      have a2 : zFc 2097281 h (ai_st h 268451981 p v) := zFc_st zFc_rf (by decide)
      have fin := zFc_in a2 rfl
      obtain ⟨nM, eV⟩ := zin_M fin
      have hC : zC h 2097281 (zsl (zMv h) 0) := hr.1.1.1
      refine ⟨1, ai_st h 268451981 p v, ai_st (ai_st h 268451981 p v) 2064400 p v, ?_, ?_, ?_, zK_of rfl⟩
      · rw [T90, X153 _ _ b1.1 b1.2.2]
        simp only [z_bi, zb_0]
        rw [if_neg (fun q => q c1)]
        simp only [z_lt, z_le, zl0, zl1, zl2, zl3, zl4, zl5, zl6, zl7, zl8, zl9, zl10, zl12, zl15, zl16, zl20, zl22, zl23, zl24, zl27, zl30, zl31, zl32, zl40, zl46, zl48, zl50, zl57, zl59, zl60, zl61, zl62, zl63, zl80, zl96, zl97, zl99, zl100, zl122, zl255, zl360, zl500, zl999, zl9999, zl60000, zl99999, zl16777215, zl1073741824, zlm1, zlm2, zlm3]
        rw [if_neg (by omega), if_pos (by omega), z_ix (by omega) (by decide), z_b1]
      · rw [T204, M195 _ _ (by rw [nM _ (by decide)]; exact b1.2.1) (by omega)]
        simp only [z_bi, zb_0]
        rw [if_neg (fun q => q c1), M186]
        simp only [z_bi, zb_0, zl0, zl1, zl2, zl3, zl4, zl5, zl6, zl7, zl8, zl9, zl10, zl12, zl15, zl16, zl20, zl22, zl23, zl24, zl27, zl30, zl31, zl32, zl40, zl46, zl48, zl50, zl57, zl59, zl60, zl61, zl62, zl63, zl80, zl96, zl97, zl99, zl100, zl122, zl255, zl360, zl500, zl999, zl9999, zl60000, zl99999, zl16777215, zl1073741824, zlm1, zlm2, zlm3]
        rw [if_neg (fun q => q c2), z_ix (by omega) (by decide), z_b1]
      · refine zR_now hr (μ' := zmu (zMv h) 15 p v) (zEq0_mu zEq0_rf (by decide) (by show p < 24; omega)) fin ?_ (zFm_st zFm_rf (by decide)) rfl (by rw [zMv_lit (f := 15) rfl (by omega), eV]) ?_ (fun t ht => (hr.2.1.2.2.2.1.1 t ht).1)
        · rw [zsl_up]
          refine zS_city a2 ?_ (fun f hf => zup_n (by omega)) hr.1.1
          rw [zC_lit] at hC ⊢
          simp only [zab_s (zup_n (show 10 ≠ 15 by decide))]
          rw [zn_c (zup_n (show 0 ≠ 15 by decide)), zn_c (zup_n (show 1 ≠ 15 by decide)), zn_c (zup_n (show 2 ≠ 15 by decide)), zn_c (zup_n (show 8 ≠ 15 by decide)), zup_n (show 0 ≠ 15 by decide), zup_n (show 1 ≠ 15 by decide), zup_n (show 2 ≠ 15 by decide), zup_n (show 8 ≠ 15 by decide), zup_n (show 10 ≠ 15 by decide), zup_n (show 11 ≠ 15 by decide), zup_n (show 12 ≠ 15 by decide), zup_n (show 13 ≠ 15 by decide), zup_n (show 14 ≠ 15 by decide), zup_n (show 17 ≠ 15 by decide), zup_n (show 19 ≠ 15 by decide), zup_n (show 20 ≠ 15 by decide)]
          simp only [z_st1, z_bi, z_bv, z_br, Nat.reduceEqDiff, false_and, and_false, true_and, and_true, and_self, if_false, if_true, ite_true, ite_false, reduceIte, not_true_eq_false, not_false_eq_true]
          obtain ⟨x0, x1, x2, x3, x4, x5, x6, x7, x8⟩ := hC
          refine ⟨x0, x1, x2, x3, x4, x5, x6, fun j hj => ?_, x8⟩
          obtain ⟨y1, y2, y3, y4, y5⟩ := x7 j hj
          refine ⟨y1, y2, y3, y4, ?_⟩
          by_cases k : j = p
          · subst k; rw [if_pos rfl, zup_s]
          · rw [if_neg k, zup_o k]; exact y5
        · rw [zsl_up]
          obtain ⟨h1, h2, h3, h4, h5, h6⟩ := V
          refine ⟨zVc_u (by decide) h1, zVn_c (zup_n (by omega)) (zup_n (by omega)) h2, fun j hj => ?_, zVh_c (fun g hg => zup_n (by omega)) h4, zVe_c (fun g hg => zup_n (by omega)) h5, zVj_c (fun g hg => zup_n (by omega)) h6⟩
          rw [zn_c (zup_n (show 1 ≠ 15 by decide))] at hj
          obtain ⟨y1, y2, y3, y4, y5, y6⟩ := h3 j hj
          rw [zn_c (zup_n (show 0 ≠ 15 by decide)), zup_n (show 11 ≠ 15 by decide), zup_n (show 12 ≠ 15 by decide), zup_n (show 13 ≠ 15 by decide), zup_n (show 14 ≠ 15 by decide), zup_n (show 17 ≠ 15 by decide)]
          refine ⟨y1, y2, y3, y4, ?_, y6⟩
          by_cases k : j = p
          · subst k; rw [zup_s]; exact c2
          · rw [zup_o k]; exact y5
    · refine ⟨0, h, h, ?_, ?_, hr, zK_of rfl⟩
      · rw [T90, X153 _ _ b1.1 b1.2.2]
        simp only [z_bi, zb_0]
        rw [if_neg (fun q => q c1)]
        simp only [z_lt, z_le, zl0, zl1, zl2, zl3, zl4, zl5, zl6, zl7, zl8, zl9, zl10, zl12, zl15, zl16, zl20, zl22, zl23, zl24, zl27, zl30, zl31, zl32, zl40, zl46, zl48, zl50, zl57, zl59, zl60, zl61, zl62, zl63, zl80, zl96, zl97, zl99, zl100, zl122, zl255, zl360, zl500, zl999, zl9999, zl60000, zl99999, zl16777215, zl1073741824, zlm1, zlm2, zlm3]
        by_cases k : v.toInt < 1
        · rw [if_pos k, z_b0]
        · rw [if_neg k, if_neg (by omega), z_b0]
      · rw [T204, M195 _ _ b1.2.1 (by omega)]
        simp only [z_bi, zb_0]
        rw [if_neg (fun q => q c1), M186]
        simp only [z_bi, zb_0, zl0, zl1, zl2, zl3, zl4, zl5, zl6, zl7, zl8, zl9, zl10, zl12, zl15, zl16, zl20, zl22, zl23, zl24, zl27, zl30, zl31, zl32, zl40, zl46, zl48, zl50, zl57, zl59, zl60, zl61, zl62, zl63, zl80, zl96, zl97, zl99, zl100, zl122, zl255, zl360, zl500, zl999, zl9999, zl60000, zl99999, zl16777215, zl1073741824, zlm1, zlm2, zlm3]
        rw [if_pos c2, z_b0]
  · refine ⟨0, h, h, ?_, ?_, hr, zK_of rfl⟩
    · rw [T90, X153 _ _ b1.1 b1.2.2]
      simp only [z_bi, zb_0]
      rw [if_pos c1, z_b0]
    · rw [T204, M195 _ _ b1.2.1 (by omega)]
      simp only [z_bi, zb_0]
      rw [if_pos c1, z_b0]
/-- a count goes up by one -/
theorem zn_up {σ : Nat → Nat → Int32} {f i n : Nat} (hn : n < 2147483648) (hi : i = 0) : zn (zup σ f i (nI n)) f = n := by
  subst hi
  unfold zn
  rw [zup_s, z_T hn]
  rfl
theorem z_lt24 {n m : Nat} (hn : n < 30000) (hm : m < 30000) : nI n < nI m ↔ n < m := nI_ltI (by omega) (by omega)
/-- a place's list grows: houses (19, 2) and the course (20, 8) -/
theorem P_house (v : Int32) : zPr 88 200 [.inl v] := by
  intro d h hr
  obtain ⟨b0, b1, b2, b8, b5, b4, b3, V⟩ := zR_b hr
  have i0 : ∀ f : Nat → Option ai_R, ai_ix 0 4 f = f 0 := fun f => z_i0 (by decide) (by decide)
  have l30 : (30 : Int32) = nI 30 := rfl
  by_cases c1 : 0 ≤ v.toInt ∧ v.toInt ≤ 255
  · by_cases c2 : zn (zsl (zMv h) 0) 2 < 30
    · have a2 : zFc 2097281 h (ai_st (ai_st h 268451982 (zn (zsl (zMv h) 0) 2) v) 2097281 2 (nI (zn (zsl (zMv h) 0) 2 + 1))) := zFc_st (zFc_st zFc_rf (by decide)) (by decide)
      have fin := zFc_in a2 rfl
      obtain ⟨nM, eV⟩ := zin_M fin
      have hC : zC h 2097281 (zsl (zMv h) 0) := hr.1.1.1
      have m1 : (ai_st (ai_st h 268451982 (zn (zsl (zMv h) 0) 2) v) 2097281 2 (nI (zn (zsl (zMv h) 0) 2 + 1))).1 2064387 0 = nI (zn (zsl (zMv h) 0) 2) := by rw [nM _ (by decide)]; exact b2.2.1
      refine ⟨nI (zn (zsl (zMv h) 0) 2), ai_st (ai_st h 268451982 (zn (zsl (zMv h) 0) 2) v) 2097281 2 (nI (zn (zsl (zMv h) 0) 2 + 1)), ai_st (ai_st (ai_st (ai_st h 268451982 (zn (zsl (zMv h) 0) 2) v) 2097281 2 (nI (zn (zsl (zMv h) 0) 2 + 1))) 2064404 (zn (zsl (zMv h) 0) 2) v) 2064387 0 (nI (zn (zsl (zMv h) 0) 2 + 1)), ?_, ?_, ?_, zK_of rfl⟩
      · rw [T88, X148]
        simp only [z_bi, zb_0]
        rw [if_neg (fun q => q c1), T3, b2.1, l30, if_pos ((z_lt24 (by omega) (by omega)).mpr c2), z_ix (by omega) (by decide)]
        simp only [z_st1, z_bi, z_bv, z_br, Nat.reduceEqDiff, false_and, and_false, true_and, and_true, and_self, if_false, if_true, ite_true, ite_false, reduceIte, not_true_eq_false, not_false_eq_true, b2.1, nI_1, nI_pred]
      · have e : ¬ nI (zn (zsl (zMv h) 0) 2) = 30 := by rw [l30, nI_eq (by omega) (by omega)]; omega
        have ix : ∀ f : Nat → Option ai_R, ai_ix (nI (zn (zsl (zMv h) 0) 2)) 120 f = f (zn (zsl (zMv h) 0) 2) := fun f => z_ix (by omega) (by decide)
        rw [T200, M188]
        simp only [z_bi, zb_0]
        rw [if_neg (fun q => q c1)]
        simp only [i0, m1, if_neg e, ix]
        simp only [z_st1, z_bi, z_bv, z_br, Nat.reduceEqDiff, false_and, and_false, true_and, and_true, and_self, if_false, if_true, ite_true, ite_false, reduceIte, not_true_eq_false, not_false_eq_true, b2.2.1, nI_1, nI_pred]
      · refine zR_now hr (μ' := zmu (zmu (zMv h) 19 (zn (zsl (zMv h) 0) 2) v) 2 0 (nI (zn (zsl (zMv h) 0) 2 + 1))) (zEq0_mu (zEq0_mu zEq0_rf (by decide) (by show _ < 30; omega)) (by decide) (by decide)) fin ?_ (zFm_st (zFm_st zFm_rf (by decide)) (by decide)) rfl (by rw [zMv_lit (f := 2) rfl (by omega), zMv_lit (f := 19) rfl (by omega), eV]) ?_ (fun t ht => (hr.2.1.2.2.2.1.1 t ht).1)
        · rw [zsl_up, zsl_up]
          have z : ∀ g, g ≠ 2 → g ≠ 19 → zup (zup (zsl (zMv h) 0) 19 (zn (zsl (zMv h) 0) 2) v) 2 0 (nI (zn (zsl (zMv h) 0) 2 + 1)) g = zsl (zMv h) 0 g := fun g x y => (zup_n x).trans (zup_n y)
          refine zS_city a2 ?_ (fun f hf => z f (by omega) (by omega)) hr.1.1
          rw [zC_lit] at hC ⊢
          simp only [zab_s (z 10 (by decide) (by decide))]
          rw [zn_c (z 0 (by decide) (by decide)), zn_c (z 1 (by decide) (by decide)), zn_c (z 8 (by decide) (by decide)), zn_up (by omega) rfl, z 0 (by decide) (by decide), z 1 (by decide) (by decide), z 8 (by decide) (by decide), z 10 (by decide) (by decide), z 11 (by decide) (by decide), z 12 (by decide) (by decide), z 13 (by decide) (by decide), z 14 (by decide) (by decide), z 15 (by decide) (by decide), z 17 (by decide) (by decide), z 20 (by decide) (by decide), zup_s]
          simp only [z_st1, z_bi, z_bv, z_br, Nat.reduceEqDiff, false_and, and_false, true_and, and_true, and_self, if_false, if_true, ite_true, ite_false, reduceIte, not_true_eq_false, not_false_eq_true]
          obtain ⟨x0, x1, x2, x3, x4, x5, x6, x7, x8, x9⟩ := hC
          refine ⟨x0, x1, x3, x4, x5, x6, x7, fun j hj => ?_, x9⟩
          rw [zup_n (show 19 ≠ 2 by decide)]
          by_cases k : j = zn (zsl (zMv h) 0) 2
          · subst k; rw [if_pos rfl, zup_s]
          · rw [if_neg k, zup_o k]; exact x8 j (by omega)
        · rw [zsl_up, zsl_up]
          have z : ∀ g, g ≠ 2 → g ≠ 19 → zup (zup (zsl (zMv h) 0) 19 (zn (zsl (zMv h) 0) 2) v) 2 0 (nI (zn (zsl (zMv h) 0) 2 + 1)) g = zsl (zMv h) 0 g := fun g x y => (zup_n x).trans (zup_n y)
          obtain ⟨h1, h2, h3, h4, h5, h6⟩ := V
          refine ⟨?_, zVn_c (z 0 (by omega) (by omega)) (z 10 (by omega) (by omega)) h2, zVt_c (fun g hg => z g (by omega) (by omega)) h3, ?_, zVe_c (fun g hg => z g (by omega) (by omega)) h5, zVj_c (fun g hg => z g (by omega) (by omega)) h6⟩
          · unfold zVc at h1 ⊢
            rw [z 0 (by decide) (by decide), z 1 (by decide) (by decide), z 8 (by decide) (by decide), z 3 (by decide) (by decide), z 4 (by decide) (by decide), z 5 (by decide) (by decide), z 6 (by decide) (by decide), z 7 (by decide) (by decide), zup_s]
            refine ⟨h1.1, h1.2.1, ?_, h1.2.2.2⟩
            unfold zi
            rw [z_T (by omega)]
            omega
          · unfold zVh at h4 ⊢
            rw [zn_up (by omega) rfl, zn_c (z 8 (by decide) (by decide)), z 20 (by decide) (by decide), z 16 (by decide) (by decide), zup_n (show 19 ≠ 2 by decide)]
            refine ⟨fun j hj => ?_, h4.2⟩
            by_cases k : j = zn (zsl (zMv h) 0) 2
            · subst k; rw [zup_s]; exact c1
            · rw [zup_o k]; exact h4.1 j (by omega)
    · have e30 : zn (zsl (zMv h) 0) 2 = 30 := by omega
      refine ⟨-1, h, h, ?_, ?_, hr, zK_of rfl⟩
      · rw [T88, X148]
        simp only [z_bi, zb_0]
        rw [if_neg (fun q => q c1), T3, b2.1, l30, if_neg (fun q => c2 ((z_lt24 (by omega) (by omega)).mp q))]
        rfl
      · rw [T200, M188]
        simp only [z_bi, zb_0]
        rw [if_neg (fun q => q c1), i0, b2.2.1, e30, if_pos l30.symm]
  · refine ⟨-1, h, h, ?_, ?_, hr, zK_of rfl⟩
    · rw [T88, X148]
      simp only [z_bi, zb_0]
      rw [if_pos c1]
    · rw [T200, M188]
      simp only [z_bi, zb_0]
      rw [if_pos c1]
theorem P_course (v : Int32) : zPr 89 206 [.inl v] := by
  intro d h hr
  obtain ⟨b0, b1, b2, b8, b5, b4, b3, V⟩ := zR_b hr
  have i0 : ∀ f : Nat → Option ai_R, ai_ix 0 4 f = f 0 := fun f => z_i0 (by decide) (by decide)
  have l20 : (20 : Int32) = nI 20 := rfl
  by_cases c1 : 0 ≤ v.toInt ∧ v.toInt ≤ 255
  · by_cases c2 : zn (zsl (zMv h) 0) 8 < 20
    · have a2 : zFc 2097281 h (ai_st (ai_st h 268451983 (zn (zsl (zMv h) 0) 8) v) 2097281 3 (nI (zn (zsl (zMv h) 0) 8 + 1))) := zFc_st (zFc_st zFc_rf (by decide)) (by decide)
      have fin := zFc_in a2 rfl
      obtain ⟨nM, eV⟩ := zin_M fin
      have hC : zC h 2097281 (zsl (zMv h) 0) := hr.1.1.1
      have m1 : (ai_st (ai_st h 268451983 (zn (zsl (zMv h) 0) 8) v) 2097281 3 (nI (zn (zsl (zMv h) 0) 8 + 1))).1 2064393 0 = nI (zn (zsl (zMv h) 0) 8) := by rw [nM _ (by decide)]; exact b8.2.1
      refine ⟨nI (zn (zsl (zMv h) 0) 8 + 1), ai_st (ai_st h 268451983 (zn (zsl (zMv h) 0) 8) v) 2097281 3 (nI (zn (zsl (zMv h) 0) 8 + 1)), ai_st (ai_st (ai_st (ai_st h 268451983 (zn (zsl (zMv h) 0) 8) v) 2097281 3 (nI (zn (zsl (zMv h) 0) 8 + 1))) 2064405 (zn (zsl (zMv h) 0) 8) v) 2064393 0 (nI (zn (zsl (zMv h) 0) 8 + 1)), ?_, ?_, ?_, zK_of rfl⟩
      · rw [T89, X148]
        simp only [z_bi, zb_0]
        rw [if_neg (fun q => q c1), T4, b8.1, l20, if_pos ((z_lt24 (by omega) (by omega)).mpr c2), z_ix (by omega) (by decide)]
        simp only [z_st1, z_bi, z_bv, z_br, Nat.reduceEqDiff, false_and, and_false, true_and, and_true, and_self, if_false, if_true, ite_true, ite_false, reduceIte, not_true_eq_false, not_false_eq_true, b8.1, nI_1]
      · have e : ¬ nI (zn (zsl (zMv h) 0) 8) = 20 := by rw [l20, nI_eq (by omega) (by omega)]; omega
        have ix : ∀ f : Nat → Option ai_R, ai_ix (nI (zn (zsl (zMv h) 0) 8)) 80 f = f (zn (zsl (zMv h) 0) 8) := fun f => z_ix (by omega) (by decide)
        rw [T206, M188]
        simp only [z_bi, zb_0]
        rw [if_neg (fun q => q c1)]
        simp only [i0, m1, if_neg e, ix]
        simp only [z_st1, z_bi, z_bv, z_br, Nat.reduceEqDiff, false_and, and_false, true_and, and_true, and_self, if_false, if_true, ite_true, ite_false, reduceIte, not_true_eq_false, not_false_eq_true, b8.2.1, nI_1]
      · refine zR_now hr (μ' := zmu (zmu (zMv h) 20 (zn (zsl (zMv h) 0) 8) v) 8 0 (nI (zn (zsl (zMv h) 0) 8 + 1))) (zEq0_mu (zEq0_mu zEq0_rf (by decide) (by show _ < 20; omega)) (by decide) (by decide)) fin ?_ (zFm_st (zFm_st zFm_rf (by decide)) (by decide)) rfl (by rw [zMv_lit (f := 8) rfl (by omega), zMv_lit (f := 20) rfl (by omega), eV]) ?_ (fun t ht => (hr.2.1.2.2.2.1.1 t ht).1)
        · rw [zsl_up, zsl_up]
          have z : ∀ g, g ≠ 8 → g ≠ 20 → zup (zup (zsl (zMv h) 0) 20 (zn (zsl (zMv h) 0) 8) v) 8 0 (nI (zn (zsl (zMv h) 0) 8 + 1)) g = zsl (zMv h) 0 g := fun g x y => (zup_n x).trans (zup_n y)
          refine zS_city a2 ?_ (fun f hf => z f (by omega) (by omega)) hr.1.1
          rw [zC_lit] at hC ⊢
          simp only [zab_s (z 10 (by decide) (by decide))]
          rw [zn_c (z 0 (by decide) (by decide)), zn_c (z 1 (by decide) (by decide)), zn_c (z 2 (by decide) (by decide)), zn_up (by omega) rfl, z 0 (by decide) (by decide), z 1 (by decide) (by decide), z 2 (by decide) (by decide), z 10 (by decide) (by decide), z 11 (by decide) (by decide), z 12 (by decide) (by decide), z 13 (by decide) (by decide), z 14 (by decide) (by decide), z 15 (by decide) (by decide), z 17 (by decide) (by decide), z 19 (by decide) (by decide), zup_s]
          simp only [z_st1, z_bi, z_bv, z_br, Nat.reduceEqDiff, false_and, and_false, true_and, and_true, and_self, if_false, if_true, ite_true, ite_false, reduceIte, not_true_eq_false, not_false_eq_true]
          obtain ⟨x0, x1, x2, x3, x4, x5, x6, x7, x8, x9⟩ := hC
          refine ⟨x0, x1, x2, x4, x5, x6, x7, x8, fun j hj => ?_⟩
          rw [zup_n (show 20 ≠ 8 by decide)]
          by_cases k : j = zn (zsl (zMv h) 0) 8
          · subst k; rw [if_pos rfl, zup_s]
          · rw [if_neg k, zup_o k]; exact x9 j (by omega)
        · rw [zsl_up, zsl_up]
          have z : ∀ g, g ≠ 8 → g ≠ 20 → zup (zup (zsl (zMv h) 0) 20 (zn (zsl (zMv h) 0) 8) v) 8 0 (nI (zn (zsl (zMv h) 0) 8 + 1)) g = zsl (zMv h) 0 g := fun g x y => (zup_n x).trans (zup_n y)
          obtain ⟨h1, h2, h3, h4, h5, h6⟩ := V
          refine ⟨?_, zVn_c (z 0 (by omega) (by omega)) (z 10 (by omega) (by omega)) h2, zVt_c (fun g hg => z g (by omega) (by omega)) h3, ?_, zVe_c (fun g hg => z g (by omega) (by omega)) h5, zVj_c (fun g hg => z g (by omega) (by omega)) h6⟩
          · unfold zVc at h1 ⊢
            rw [z 0 (by decide) (by decide), z 1 (by decide) (by decide), z 2 (by decide) (by decide), z 3 (by decide) (by decide), z 4 (by decide) (by decide), z 5 (by decide) (by decide), z 6 (by decide) (by decide), z 7 (by decide) (by decide), zup_s]
            refine ⟨h1.1, h1.2.1, h1.2.2.1, ?_, h1.2.2.2.2⟩
            unfold zi
            rw [z_T (by omega)]
            omega
          · unfold zVh at h4 ⊢
            rw [zn_up (by omega) rfl, zn_c (z 2 (by decide) (by decide)), z 19 (by decide) (by decide), z 16 (by decide) (by decide), zup_n (show 20 ≠ 8 by decide)]
            refine ⟨h4.1, fun j hj => ?_, h4.2.2⟩
            by_cases k : j = zn (zsl (zMv h) 0) 8
            · subst k; rw [zup_s]; exact c1
            · rw [zup_o k]; exact h4.2.1 j (by omega)
    · have e20 : zn (zsl (zMv h) 0) 8 = 20 := by omega
      refine ⟨-1, h, h, ?_, ?_, hr, zK_of rfl⟩
      · rw [T89, X148]
        simp only [z_bi, zb_0]
        rw [if_neg (fun q => q c1), T4, b8.1, l20, if_neg (fun q => c2 ((z_lt24 (by omega) (by omega)).mp q))]
        rfl
      · rw [T206, M188]
        simp only [z_bi, zb_0]
        rw [if_neg (fun q => q c1), i0, b8.2.1, e20, if_pos l20.symm]
  · refine ⟨-1, h, h, ?_, ?_, hr, zK_of rfl⟩
    · rw [T89, X148]
      simp only [z_bi, zb_0]
      rw [if_pos c1]
    · rw [T206, M188]
      simp only [z_bi, zb_0]
      rw [if_pos c1]
