/-! tap, job, done, late -/
theorem vp_b {v : Int32} (h : v = 0 ∨ v = 1) : vp_nar .boolean v = v := by rcases h with rfl | rfl <;> decide
/-- a tap more -/
def zsP (σ : Nat → Nat → Int32) (n c a b l : Int32) : Nat → Nat → Int32 := zup (zup (zup (zup (zup (zup (zup σ 11 (zn σ 1) n) 12 (zn σ 1) c) 13 (zn σ 1) a) 17 (zn σ 1) b) 14 (zn σ 1) l) 15 (zn σ 1) 50) 1 0 (nI (zn σ 1 + 1))
theorem zsP_n {σ : Nat → Nat → Int32} {n c a b l : Int32} {f : Nat} (h : f ≠ 1) (h2 : ¬ (11 ≤ f ∧ f ≤ 15)) (h3 : f ≠ 17) : zsP σ n c a b l f = σ f :=
  (zup_n h).trans ((zup_n (by omega)).trans ((zup_n (by omega)).trans ((zup_n (by omega)).trans ((zup_n (by omega)).trans ((zup_n (by omega)).trans (zup_n (by omega)))))))
theorem zsP_1 {σ : Nat → Nat → Int32} {n c a b l : Int32} : zsP σ n c a b l 1 0 = nI (zn σ 1 + 1) := zup_s
theorem zsP_zn {σ : Nat → Nat → Int32} {n c a b l : Int32} (hl : zn σ 1 < 30000) : zn (zsP σ n c a b l) 1 = zn σ 1 + 1 := zn_up (by omega) rfl
theorem zsP_v {σ : Nat → Nat → Int32} {n c a b l : Int32} {f t : Nat} (hf : f = 11 ∨ f = 12 ∨ f = 13 ∨ f = 14 ∨ f = 15 ∨ f = 17) : zsP σ n c a b l f t = if t = zn σ 1 then (if f = 11 then n else if f = 12 then c else if f = 13 then a else if f = 14 then l else if f = 15 then 50 else b) else σ f t := by
  unfold zsP zup
  by_cases k : t = zn σ 1
  · rcases hf with rfl | rfl | rfl | rfl | rfl | rfl <;> simp [k]
  · rcases hf with rfl | rfl | rfl | rfl | rfl | rfl <;> simp [k]
theorem zV_tap {σ : Nat → Nat → Int32} {n c a b l : Int32} (V : zV σ) (hl : zn σ 1 < 24) (hn : 0 ≤ n.toInt ∧ n.toInt < (zn σ 0 : Int)) (hc : zi c 0 255) (ha : zi a 0 60000) (hb : zi b 0 1) (hL : zi l 0 999) : zV (zsP σ n c a b l) := by
  obtain ⟨h1, h2, h3, h4, h5, h6⟩ := V
  have e : ∀ f, f ≠ 1 → ¬ (11 ≤ f ∧ f ≤ 15) → f ≠ 17 → zsP σ n c a b l f = σ f := fun f x y z => zsP_n x y z
  have z1 := zsP_zn (n := n) (c := c) (a := a) (b := b) (l := l) (show zn σ 1 < 30000 by omega)
  refine ⟨?_, zVn_c (e 0 (by omega) (by omega) (by omega)) (e 10 (by omega) (by omega) (by omega)) h2, fun t ht => ?_, zVh_c (fun g hg => e g (by omega) (by omega) (by omega)) h4, ⟨fun q hq => ?_, ?_⟩, fun j hj => ?_⟩
  · unfold zVc at h1 ⊢
    rw [e 0 (by decide) (by decide) (by decide), e 2 (by decide) (by decide) (by decide), e 8 (by decide) (by decide) (by decide), e 3 (by decide) (by decide) (by decide), e 4 (by decide) (by decide) (by decide), e 5 (by decide) (by decide) (by decide), e 6 (by decide) (by decide) (by decide), e 7 (by decide) (by decide) (by decide), zsP_1]
    refine ⟨h1.1, ?_, h1.2.2⟩
    unfold zi
    rw [z_T (by omega)]
    omega
  · rw [z1] at ht
    rw [zsP_v (by omega), zsP_v (by omega), zsP_v (by omega), zsP_v (by omega), zsP_v (by omega), zsP_v (by omega), zn_c (e 0 (by decide) (by decide) (by decide))]
    by_cases k : t = zn σ 1
    · simp only [k, if_true, Nat.reduceEqDiff, if_false]
      refine ⟨?_, hc, ha, hL, ?_, hb⟩
      · unfold zi; omega
      · unfold zi; decide
    · simp only [k, if_false]
      exact h3 t (by omega)
  · have m4 : zn (zsP σ n c a b l) 4 = zn σ 4 := zn_c (e 4 (by decide) (by decide) (by decide))
    rw [m4] at hq
    have := h5.1 q hq
    unfold zVr at this ⊢
    rw [e 22 (by decide) (by decide) (by decide), e 23 (by decide) (by decide) (by decide), e 24 (by decide) (by decide) (by decide), e 25 (by decide) (by decide) (by decide), e 26 (by decide) (by decide) (by decide), z1, zn_c (e 0 (by decide) (by decide) (by decide))]
    obtain ⟨y1, y2, y3, y4, y5, y6, y7, y8, y9⟩ := this
    exact ⟨y1, y2, y3, y4, y5, y6, y7, fun p q r => by have := y8 p q r; omega, y9⟩
  · rw [zn_c (e 4 (by decide) (by decide) (by decide)), e 22 (by decide) (by decide) (by decide)]
    exact h5.2
  · rw [zn_c (e 5 (by decide) (by decide) (by decide))] at hj
    have := h6 j hj
    rw [z1, e 27 (by decide) (by decide) (by decide), e 28 (by decide) (by decide) (by decide), e 29 (by decide) (by decide) (by decide), e 30 (by decide) (by decide) (by decide), e 31 (by decide) (by decide) (by decide), e 18 (by decide) (by decide) (by decide)]
    obtain ⟨y1, y2⟩ := this
    refine ⟨?_, y2⟩
    unfold zi at y1 ⊢
    omega
theorem X2_go {h : ai_H} {n z : Nat} (d : Nat) (x1 x2 x3 x4 x5 : Int32) (hn : h.1 2097281 1 = nI n) (hl : n < 24) (hz : h.1 2097281 5 = nI z) (hb : x4 = 0 ∨ x4 = 1) : ai_X (d + 1) 2 [.inr (.inr (20, 0, 2097281)), .inl x1, .inl x2, .inl x3, .inl x4, .inl x5] h = some ([.inl (nI n)], ai_st (ai_st (ai_st (ai_st (ai_st (ai_st (ai_st h 268451977 n x1) 268451978 n x2) 268451979 n x3) 268451980 n x5) 268451981 n 50) 2097281 5 (if x4 = 0 then nI z else nI (z ||| 2 ^ n))) 2097281 1 (nI (n + 1))) := by
  have c1 : nI n < 24 := by simp only [z_lt, zl0, zl1, zl2, zl3, zl4, zl5, zl6, zl7, zl8, zl9, zl10, zl12, zl15, zl16, zl20, zl22, zl23, zl24, zl27, zl30, zl31, zl32, zl40, zl46, zl48, zl50, zl57, zl59, zl60, zl61, zl62, zl63, zl80, zl96, zl97, zl99, zl100, zl122, zl255, zl360, zl500, zl999, zl9999, zl60000, zl99999, zl16777215, zl1073741824, zlm1, zlm2, zlm3]; rw [z_T (by omega)]; omega
  have ix : ∀ f : Nat → Option ai_R, ai_ix (nI n) 24 f = f n := fun f => z_ix hl (by decide)
  rw [T2, hn, if_pos c1]
  simp only [ix, z_st1, z_bi, z_bv, z_br, Nat.reduceEqDiff, false_and, and_false, true_and, and_true, and_self, if_false, if_true, ite_true, ite_false, reduceIte, not_true_eq_false, not_false_eq_true, hn]
  rcases hb with rfl | rfl
  · rw [if_pos rfl, if_pos rfl, T2_83]
    simp only [z_st1, z_bi, z_bv, z_br, Nat.reduceEqDiff, false_and, and_false, true_and, and_true, and_self, if_false, if_true, ite_true, ite_false, reduceIte, not_true_eq_false, not_false_eq_true, hn, hz, nI_1, nI_pred]
    rw [show (0 : Int32) = nI 0 from rfl, z_or, Nat.or_zero]
  · rw [if_neg (by decide), if_neg (by decide), T2_83]
    simp only [z_st1, z_bi, z_bv, z_br, Nat.reduceEqDiff, false_and, and_false, true_and, and_true, and_self, if_false, if_true, ite_true, ite_false, reduceIte, not_true_eq_false, not_false_eq_true, hn, hz, nI_1, nI_pred]
    rw [z_bit (by omega), z_or]
theorem P_tap (x1 x2 x3 x4 x5 : Int32) (hb : x4 = 0 ∨ x4 = 1) : zPr 87 199 [.inl x1, .inl x2, .inl x3, .inl x4, .inl x5] := by
  intro d h hr
  obtain ⟨b0, b1, b2, b8, b5, b4, b3, V⟩ := zR_b hr
  have i0 : ∀ f : Nat → Option ai_R, ai_ix 0 4 f = f 0 := fun f => z_i0 (by decide) (by decide)
  have l24 : (24 : Int32) = nI 24 := rfl
  by_cases c1 : 0 ≤ x1.toInt ∧ x1.toInt < (zn (zsl (zMv h) 0) 0 : Int)
  · by_cases c2 : 0 ≤ x2.toInt ∧ x2.toInt ≤ 255
    · by_cases c3 : 0 ≤ x3.toInt ∧ x3.toInt ≤ 60000
      · by_cases c5 : 0 ≤ x5.toInt ∧ x5.toInt ≤ 999
        · by_cases cn : zn (zsl (zMv h) 0) 1 < 24
          · have hC : zC h 2097281 (zsl (zMv h) 0) := hr.1.1.1
            have h5 : h.1 2097281 5 = nI (zB (fun t => ¬ zsl (zMv h) 0 17 t = 0) (zn (zsl (zMv h) 0) 1)) := hC.2.2.2.2.2.1
            have a1 := X2_go (d + 58) x1 x2 x3 x4 x5 b1.1 cn h5 hb
            generalize e1 : ai_st (ai_st (ai_st (ai_st (ai_st (ai_st (ai_st h 268451977 (zn (zsl (zMv h) 0) 1) x1) 268451978 (zn (zsl (zMv h) 0) 1) x2) 268451979 (zn (zsl (zMv h) 0) 1) x3) 268451980 (zn (zsl (zMv h) 0) 1) x5) 268451981 (zn (zsl (zMv h) 0) 1) 50) 2097281 5 (if x4 = 0 then nI (zB (fun t => ¬ zsl (zMv h) 0 17 t = 0) (zn (zsl (zMv h) 0) 1)) else nI (zB (fun t => ¬ zsl (zMv h) 0 17 t = 0) (zn (zsl (zMv h) 0) 1) ||| 2 ^ zn (zsl (zMv h) 0) 1))) 2097281 1 (nI (zn (zsl (zMv h) 0) 1 + 1)) = h1 at a1
            have a2 : zFc 2097281 h h1 := by
              rw [← e1]
              exact zFc_st (zFc_st (zFc_st (zFc_st (zFc_st (zFc_st (zFc_st zFc_rf (by decide)) (by decide)) (by decide)) (by decide)) (by decide)) (by decide)) (by decide)
            have fin := zFc_in a2 rfl
            obtain ⟨nM, eV⟩ := zin_M fin
            have m0 : h1.1 2064385 0 = nI (zn (zsl (zMv h) 0) 0) := by rw [nM _ (by decide)]; exact b0.2.1
            have m1 : h1.1 2064386 0 = nI (zn (zsl (zMv h) 0) 1) := by rw [nM _ (by decide)]; exact b1.2.1
            refine ⟨nI (zn (zsl (zMv h) 0) 1), h1, ai_st (ai_st (ai_st (ai_st (ai_st (ai_st (ai_st h1 2064396 (zn (zsl (zMv h) 0) 1) x1) 2064397 (zn (zsl (zMv h) 0) 1) x2) 2064398 (zn (zsl (zMv h) 0) 1) x3) 2064402 (zn (zsl (zMv h) 0) 1) x4) 2064399 (zn (zsl (zMv h) 0) 1) x5) 2064400 (zn (zsl (zMv h) 0) 1) 50) 2064386 0 (nI (zn (zsl (zMv h) 0) 1 + 1)), ?_, ?_, ?_, zK_of a2.2⟩
            · rw [T87, X152 _ _ b0.1 b0.2.2]
              simp only [z_bi, zb_0]
              rw [if_neg (fun q => q c1), X148]
              simp only [z_bi, zb_0]
              rw [if_neg (fun q => q c2), X146]
              simp only [z_bi, zb_0, zl0, zl1, zl2, zl3, zl4, zl5, zl6, zl7, zl8, zl9, zl10, zl12, zl15, zl16, zl20, zl22, zl23, zl24, zl27, zl30, zl31, zl32, zl40, zl46, zl48, zl50, zl57, zl59, zl60, zl61, zl62, zl63, zl80, zl96, zl97, zl99, zl100, zl122, zl255, zl360, zl500, zl999, zl9999, zl60000, zl99999, zl16777215, zl1073741824, zlm1, zlm2, zlm3]
              rw [if_neg (fun q => q c3), X146]
              simp only [z_bi, zb_0, zl0, zl1, zl2, zl3, zl4, zl5, zl6, zl7, zl8, zl9, zl10, zl12, zl15, zl16, zl20, zl22, zl23, zl24, zl27, zl30, zl31, zl32, zl40, zl46, zl48, zl50, zl57, zl59, zl60, zl61, zl62, zl63, zl80, zl96, zl97, zl99, zl100, zl122, zl255, zl360, zl500, zl999, zl9999, zl60000, zl99999, zl16777215, zl1073741824, zlm1, zlm2, zlm3]
              rw [if_neg (fun q => q c5), a1]
              rfl
            · have e : ¬ nI (zn (zsl (zMv h) 0) 1) = 24 := by rw [l24, nI_eq (by omega) (by omega)]; omega
              have ix : ∀ f : Nat → Option ai_R, ai_ix (nI (zn (zsl (zMv h) 0) 1)) 96 f = f (zn (zsl (zMv h) 0) 1) := fun f => z_ix (by omega) (by decide)
              rw [T199, M196 _ _ m0 (by omega)]
              simp only [z_bi, zb_0]
              rw [if_neg (fun q => q c1), M188]
              simp only [z_bi, zb_0]
              rw [if_neg (fun q => q c2), M186]
              simp only [z_bi, zb_0, zl0, zl1, zl2, zl3, zl4, zl5, zl6, zl7, zl8, zl9, zl10, zl12, zl15, zl16, zl20, zl22, zl23, zl24, zl27, zl30, zl31, zl32, zl40, zl46, zl48, zl50, zl57, zl59, zl60, zl61, zl62, zl63, zl80, zl96, zl97, zl99, zl100, zl122, zl255, zl360, zl500, zl999, zl9999, zl60000, zl99999, zl16777215, zl1073741824, zlm1, zlm2, zlm3]
              rw [if_neg (fun q => q c3), M186]
              simp only [z_bi, zb_0, zl0, zl1, zl2, zl3, zl4, zl5, zl6, zl7, zl8, zl9, zl10, zl12, zl15, zl16, zl20, zl22, zl23, zl24, zl27, zl30, zl31, zl32, zl40, zl46, zl48, zl50, zl57, zl59, zl60, zl61, zl62, zl63, zl80, zl96, zl97, zl99, zl100, zl122, zl255, zl360, zl500, zl999, zl9999, zl60000, zl99999, zl16777215, zl1073741824, zlm1, zlm2, zlm3]
              rw [if_neg (fun q => q c5)]
              simp only [i0, m1, if_neg e, ix, vp_b hb]
              simp only [z_st1, z_bi, z_bv, z_br, Nat.reduceEqDiff, false_and, and_false, true_and, and_true, and_self, if_false, if_true, ite_true, ite_false, reduceIte, not_true_eq_false, not_false_eq_true, m1, nI_1]
            · refine zR_now hr (μ' := zmu (zmu (zmu (zmu (zmu (zmu (zmu (zMv h) 11 (zn (zsl (zMv h) 0) 1) x1) 12 (zn (zsl (zMv h) 0) 1) x2) 13 (zn (zsl (zMv h) 0) 1) x3) 17 (zn (zsl (zMv h) 0) 1) x4) 14 (zn (zsl (zMv h) 0) 1) x5) 15 (zn (zsl (zMv h) 0) 1) 50) 1 0 (nI (zn (zsl (zMv h) 0) 1 + 1)))
                (zEq0_mu (zEq0_mu (zEq0_mu (zEq0_mu (zEq0_mu (zEq0_mu (zEq0_mu zEq0_rf (by decide) cn) (by decide) cn) (by decide) cn) (by decide) cn) (by decide) cn) (by decide) cn) (by decide) (by decide)) fin ?_ (zFm_st (zFm_st (zFm_st (zFm_st (zFm_st (zFm_st (zFm_st zFm_rf (by decide)) (by decide)) (by decide)) (by decide)) (by decide)) (by decide)) (by decide)) rfl
                (by rw [zMv_lit (f := 1) rfl (by omega), zMv_lit (f := 15) rfl (by omega), zMv_lit (f := 14) rfl (by omega), zMv_lit (f := 17) rfl (by omega), zMv_lit (f := 13) rfl (by omega), zMv_lit (f := 12) rfl (by omega), zMv_lit (f := 11) rfl (by omega), eV]) ?_ (fun t ht => (hr.2.1.2.2.2.1.1 t ht).1)
              · simp only [zsl_up]
                show zS h1 16385 _ (zsP (zsl (zMv h) 0) x1 x2 x3 x4 x5)
                have z : ∀ g, g ≠ 1 → ¬ (11 ≤ g ∧ g ≤ 15) → g ≠ 17 → zsP (zsl (zMv h) 0) x1 x2 x3 x4 x5 g = zsl (zMv h) 0 g := fun g x y w => zsP_n x y w
                refine zS_city a2 ?_ (fun f hf => z f (by omega) (by omega) (by omega)) hr.1.1
                have z1 := zsP_zn (n := x1) (c := x2) (a := x3) (b := x4) (l := x5) (show zn (zsl (zMv h) 0) 1 < 30000 by omega)
                rw [zC_lit] at hC ⊢
                simp only [zab_s (z 10 (by decide) (by decide) (by decide))]
                rw [zn_c (z 0 (by decide) (by decide) (by decide)), zn_c (z 2 (by decide) (by decide) (by decide)), zn_c (z 8 (by decide) (by decide) (by decide)), z1, z 0 (by decide) (by decide) (by decide), z 2 (by decide) (by decide) (by decide), z 8 (by decide) (by decide) (by decide), z 10 (by decide) (by decide) (by decide), z 19 (by decide) (by decide) (by decide), z 20 (by decide) (by decide) (by decide), zsP_1, ← e1]
                simp only [z_st1, z_bi, z_bv, z_br, Nat.reduceEqDiff, false_and, and_false, true_and, and_true, and_self, if_false, if_true, ite_true, ite_false, reduceIte, not_true_eq_false, not_false_eq_true]
                obtain ⟨x0, x1', x2', x3', x4', x5', x6, x7, x8, x9⟩ := hC
                refine ⟨x0, x2', x3', x4', ?_, x6, fun t ht => ?_, x8, x9⟩
                · have hlow : zB (fun t => ¬ zsP (zsl (zMv h) 0) x1 x2 x3 x4 x5 17 t = 0) (zn (zsl (zMv h) 0) 1) = zB (fun t => ¬ zsl (zMv h) 0 17 t = 0) (zn (zsl (zMv h) 0) 1) := zB_c fun i hi => by
                    rw [zsP_v (by omega), if_neg (by omega)]
                  show _ = nI (if ¬ zsP (zsl (zMv h) 0) x1 x2 x3 x4 x5 17 (zn (zsl (zMv h) 0) 1) = 0 then zB _ _ ||| 2 ^ zn (zsl (zMv h) 0) 1 else zB _ _)
                  rw [hlow, zsP_v (by omega), if_pos rfl]
                  simp only [Nat.reduceEqDiff, if_false]
                  by_cases k : x4 = 0
                  · simp only [k, if_true, not_true_eq_false, if_false]
                  · simp only [k, if_false, not_false_eq_true, if_true]
                · rw [zsP_v (by omega), zsP_v (by omega), zsP_v (by omega), zsP_v (by omega), zsP_v (by omega)]
                  by_cases k : t = zn (zsl (zMv h) 0) 1
                  · simp only [k, if_true, Nat.reduceEqDiff, if_false, and_self]
                  · simp only [k, if_false]
                    exact x7 t (by omega)
              · simp only [zsl_up]
                exact zV_tap V cn c1 c2 c3 (by unfold zi; rcases hb with rfl | rfl <;> decide) c5
          · have en : zn (zsl (zMv h) 0) 1 = 24 := by omega
            refine ⟨-1, h, h, ?_, ?_, hr, zK_of rfl⟩
            · rw [T87, X152 _ _ b0.1 b0.2.2]
              simp only [z_bi, zb_0]
              rw [if_neg (fun q => q c1), X148]
              simp only [z_bi, zb_0]
              rw [if_neg (fun q => q c2), X146]
              simp only [z_bi, zb_0, zl0, zl1, zl2, zl3, zl4, zl5, zl6, zl7, zl8, zl9, zl10, zl12, zl15, zl16, zl20, zl22, zl23, zl24, zl27, zl30, zl31, zl32, zl40, zl46, zl48, zl50, zl57, zl59, zl60, zl61, zl62, zl63, zl80, zl96, zl97, zl99, zl100, zl122, zl255, zl360, zl500, zl999, zl9999, zl60000, zl99999, zl16777215, zl1073741824, zlm1, zlm2, zlm3]
              rw [if_neg (fun q => q c3), X146]
              simp only [z_bi, zb_0, zl0, zl1, zl2, zl3, zl4, zl5, zl6, zl7, zl8, zl9, zl10, zl12, zl15, zl16, zl20, zl22, zl23, zl24, zl27, zl30, zl31, zl32, zl40, zl46, zl48, zl50, zl57, zl59, zl60, zl61, zl62, zl63, zl80, zl96, zl97, zl99, zl100, zl122, zl255, zl360, zl500, zl999, zl9999, zl60000, zl99999, zl16777215, zl1073741824, zlm1, zlm2, zlm3]
              rw [if_neg (fun q => q c5), T2, b1.1, l24, if_neg (fun q => cn ((z_lt24 (by omega) (by omega)).mp q))]
              rfl
            · rw [T199, M196 _ _ b0.2.1 (by omega)]
              simp only [z_bi, zb_0]
              rw [if_neg (fun q => q c1), M188]
              simp only [z_bi, zb_0]
              rw [if_neg (fun q => q c2), M186]
              simp only [z_bi, zb_0, zl0, zl1, zl2, zl3, zl4, zl5, zl6, zl7, zl8, zl9, zl10, zl12, zl15, zl16, zl20, zl22, zl23, zl24, zl27, zl30, zl31, zl32, zl40, zl46, zl48, zl50, zl57, zl59, zl60, zl61, zl62, zl63, zl80, zl96, zl97, zl99, zl100, zl122, zl255, zl360, zl500, zl999, zl9999, zl60000, zl99999, zl16777215, zl1073741824, zlm1, zlm2, zlm3]
              rw [if_neg (fun q => q c3), M186]
              simp only [z_bi, zb_0, zl0, zl1, zl2, zl3, zl4, zl5, zl6, zl7, zl8, zl9, zl10, zl12, zl15, zl16, zl20, zl22, zl23, zl24, zl27, zl30, zl31, zl32, zl40, zl46, zl48, zl50, zl57, zl59, zl60, zl61, zl62, zl63, zl80, zl96, zl97, zl99, zl100, zl122, zl255, zl360, zl500, zl999, zl9999, zl60000, zl99999, zl16777215, zl1073741824, zlm1, zlm2, zlm3]
              rw [if_neg (fun q => q c5), i0, b1.2.1, en, if_pos l24.symm]
        · refine ⟨-1, h, h, ?_, ?_, hr, zK_of rfl⟩
          · rw [T87, X152 _ _ b0.1 b0.2.2]
            simp only [z_bi, zb_0]
            rw [if_neg (fun q => q c1), X148]
            simp only [z_bi, zb_0]
            rw [if_neg (fun q => q c2), X146]
            simp only [z_bi, zb_0, zl0, zl1, zl2, zl3, zl4, zl5, zl6, zl7, zl8, zl9, zl10, zl12, zl15, zl16, zl20, zl22, zl23, zl24, zl27, zl30, zl31, zl32, zl40, zl46, zl48, zl50, zl57, zl59, zl60, zl61, zl62, zl63, zl80, zl96, zl97, zl99, zl100, zl122, zl255, zl360, zl500, zl999, zl9999, zl60000, zl99999, zl16777215, zl1073741824, zlm1, zlm2, zlm3]
            rw [if_neg (fun q => q c3), X146]
            simp only [z_bi, zb_0, zl0, zl1, zl2, zl3, zl4, zl5, zl6, zl7, zl8, zl9, zl10, zl12, zl15, zl16, zl20, zl22, zl23, zl24, zl27, zl30, zl31, zl32, zl40, zl46, zl48, zl50, zl57, zl59, zl60, zl61, zl62, zl63, zl80, zl96, zl97, zl99, zl100, zl122, zl255, zl360, zl500, zl999, zl9999, zl60000, zl99999, zl16777215, zl1073741824, zlm1, zlm2, zlm3]
            rw [if_pos c5]
          · rw [T199, M196 _ _ b0.2.1 (by omega)]
            simp only [z_bi, zb_0]
            rw [if_neg (fun q => q c1), M188]
            simp only [z_bi, zb_0]
            rw [if_neg (fun q => q c2), M186]
            simp only [z_bi, zb_0, zl0, zl1, zl2, zl3, zl4, zl5, zl6, zl7, zl8, zl9, zl10, zl12, zl15, zl16, zl20, zl22, zl23, zl24, zl27, zl30, zl31, zl32, zl40, zl46, zl48, zl50, zl57, zl59, zl60, zl61, zl62, zl63, zl80, zl96, zl97, zl99, zl100, zl122, zl255, zl360, zl500, zl999, zl9999, zl60000, zl99999, zl16777215, zl1073741824, zlm1, zlm2, zlm3]
            rw [if_neg (fun q => q c3), M186]
            simp only [z_bi, zb_0, zl0, zl1, zl2, zl3, zl4, zl5, zl6, zl7, zl8, zl9, zl10, zl12, zl15, zl16, zl20, zl22, zl23, zl24, zl27, zl30, zl31, zl32, zl40, zl46, zl48, zl50, zl57, zl59, zl60, zl61, zl62, zl63, zl80, zl96, zl97, zl99, zl100, zl122, zl255, zl360, zl500, zl999, zl9999, zl60000, zl99999, zl16777215, zl1073741824, zlm1, zlm2, zlm3]
            rw [if_pos c5]
      · refine ⟨-1, h, h, ?_, ?_, hr, zK_of rfl⟩
        · rw [T87, X152 _ _ b0.1 b0.2.2]
          simp only [z_bi, zb_0]
          rw [if_neg (fun q => q c1), X148]
          simp only [z_bi, zb_0]
          rw [if_neg (fun q => q c2), X146]
          simp only [z_bi, zb_0, zl0, zl1, zl2, zl3, zl4, zl5, zl6, zl7, zl8, zl9, zl10, zl12, zl15, zl16, zl20, zl22, zl23, zl24, zl27, zl30, zl31, zl32, zl40, zl46, zl48, zl50, zl57, zl59, zl60, zl61, zl62, zl63, zl80, zl96, zl97, zl99, zl100, zl122, zl255, zl360, zl500, zl999, zl9999, zl60000, zl99999, zl16777215, zl1073741824, zlm1, zlm2, zlm3]
          rw [if_pos c3]
        · rw [T199, M196 _ _ b0.2.1 (by omega)]
          simp only [z_bi, zb_0]
          rw [if_neg (fun q => q c1), M188]
          simp only [z_bi, zb_0]
          rw [if_neg (fun q => q c2), M186]
          simp only [z_bi, zb_0, zl0, zl1, zl2, zl3, zl4, zl5, zl6, zl7, zl8, zl9, zl10, zl12, zl15, zl16, zl20, zl22, zl23, zl24, zl27, zl30, zl31, zl32, zl40, zl46, zl48, zl50, zl57, zl59, zl60, zl61, zl62, zl63, zl80, zl96, zl97, zl99, zl100, zl122, zl255, zl360, zl500, zl999, zl9999, zl60000, zl99999, zl16777215, zl1073741824, zlm1, zlm2, zlm3]
          rw [if_pos c3]
    · refine ⟨-1, h, h, ?_, ?_, hr, zK_of rfl⟩
      · rw [T87, X152 _ _ b0.1 b0.2.2]
        simp only [z_bi, zb_0]
        rw [if_neg (fun q => q c1), X148]
        simp only [z_bi, zb_0]
        rw [if_pos c2]
      · rw [T199, M196 _ _ b0.2.1 (by omega)]
        simp only [z_bi, zb_0]
        rw [if_neg (fun q => q c1), M188]
        simp only [z_bi, zb_0]
        rw [if_pos c2]
  · refine ⟨-1, h, h, ?_, ?_, hr, zK_of rfl⟩
    · rw [T87, X152 _ _ b0.1 b0.2.2]
      simp only [z_bi, zb_0]
      rw [if_pos c1]
    · rw [T199, M196 _ _ b0.2.1 (by omega)]
      simp only [z_bi, zb_0]
      rw [if_pos c1]
