/-! SMALL CHANGES: what stands of a slice and of the class's cells -/
theorem zVn_c {σ σ' : Nat → Nat → Int32} (a0 : σ' 0 = σ 0) (a10 : σ' 10 = σ 10) (h : zVn σ) : zVn σ' := by
  unfold zVn at h ⊢
  rw [zn_c a0, a10]
  exact h
theorem zVt_c {σ σ' : Nat → Nat → Int32} (a : ∀ f, f = 0 ∨ f = 1 ∨ (11 ≤ f ∧ f ≤ 15) ∨ f = 17 → σ' f = σ f) (h : zVt σ) : zVt σ' := by
  unfold zVt at h ⊢
  rw [zn_c (a 0 (by omega)), zn_c (a 1 (by omega)), a 11 (by omega), a 12 (by omega), a 13 (by omega), a 14 (by omega), a 15 (by omega), a 17 (by omega)]
  exact h
theorem zVh_c {σ σ' : Nat → Nat → Int32} (a : ∀ f, f = 2 ∨ f = 8 ∨ f = 16 ∨ f = 19 ∨ f = 20 → σ' f = σ f) (h : zVh σ) : zVh σ' := by
  unfold zVh at h ⊢
  rw [zn_c (a 2 (by omega)), zn_c (a 8 (by omega)), a 16 (by omega), a 19 (by omega), a 20 (by omega)]
  exact h
theorem zVe_c {σ σ' : Nat → Nat → Int32} (a : ∀ f, f = 0 ∨ f = 1 ∨ f = 4 ∨ (22 ≤ f ∧ f ≤ 26) → σ' f = σ f) (h : zVe σ) : zVe σ' := by
  unfold zVe zVr at h ⊢
  rw [zn_c (a 0 (by omega)), zn_c (a 1 (by omega)), zn_c (a 4 (by omega)), a 22 (by omega), a 23 (by omega), a 24 (by omega), a 25 (by omega), a 26 (by omega)]
  exact h
theorem zVj_c {σ σ' : Nat → Nat → Int32} (a : ∀ f, f = 1 ∨ f = 5 ∨ f = 18 ∨ (27 ≤ f ∧ f ≤ 31) → σ' f = σ f) (h : zVj σ) : zVj σ' := by
  unfold zVj at h ⊢
  rw [zn_c (a 1 (by omega)), zn_c (a 5 (by omega)), a 18 (by omega), a 27 (by omega), a 28 (by omega), a 29 (by omega), a 30 (by omega), a 31 (by omega)]
  exact h
theorem zabF_s {σ σ' : Nat → Nat → Int32} (a : σ' 10 = σ 10) : ∀ k i, zabF σ' k i = zabF σ k i := by
  intro k
  induction k with
  | zero => intro i; rfl
  | succ k ih => intro i; unfold zabF; rw [a, ih]
theorem zab_s {σ σ' : Nat → Nat → Int32} (a : σ' 10 = σ 10) (i : Nat) : zab σ' i = zab σ i := zabF_s a _ _
theorem zC_s {h : ai_H} {c : Nat} {σ σ' : Nat → Nat → Int32} (a : ∀ f, f = 0 ∨ f = 1 ∨ f = 2 ∨ f = 8 ∨ (10 ≤ f ∧ f ≤ 15) ∨ f = 17 ∨ f = 19 ∨ f = 20 → σ' f = σ f) (hc : zC h c σ) : zC h c σ' := by
  unfold zC at hc ⊢
  simp only [zab_s (a 10 (by omega))]
  rw [zn_c (a 0 (by omega)), zn_c (a 1 (by omega)), zn_c (a 2 (by omega)), zn_c (a 8 (by omega)), a 0 (by omega), a 1 (by omega), a 2 (by omega), a 8 (by omega), a 10 (by omega), a 11 (by omega), a 12 (by omega), a 13 (by omega), a 14 (by omega), a 15 (by omega), a 17 (by omega), a 19 (by omega), a 20 (by omega)]
  exact hc
theorem zMv_lit {h : ai_H} {f c i : Nat} {v : Int32} (hc : c = 2064385 + f) (hf : f < 50 ∨ (63 ≤ f ∧ f < 67)) : zMv (ai_st h c i v) = zmu (zMv h) f i v := by
  subst hc
  exact zMv_st hf
/-- the diary's own ints and the cold change -/
theorem zS_dia {h h1 : ai_H} {T : Nat} {σ σ' : Nat → Nat → Int32} (f : ∀ q, q ≠ 2097282 → q ≠ 268452109 → h1.1 q = h.1 q) (b : h1.2 = h.2) (c4 : ∀ i, i < 24 → h1.1 268452109 i = σ' 16 i) (c1 : h1.1 2097282 13 = σ' 3 0) (c2 : h1.1 2097282 14 = σ' 6 0) (c3 : h1.1 2097282 15 = σ' 7 0 - 1) (a : ∀ f, f ≠ 3 → f ≠ 6 → f ≠ 7 → f ≠ 16 → σ' f = σ f) (hs : zS h 16385 T σ) : zS h1 16385 T σ' := by
  obtain ⟨h1', h2, h3, h4, h5⟩ := hs
  have k1 : zfp 2097282 = 16385 := rfl
  have k2 : zfp 268452109 = 2097282 := rfl
  refine ⟨zC_s (fun g hg => a g (by omega) (by omega) (by omega) (by omega)) (zC_c (fun q hq => f q (fun c => ?_) (fun c => ?_)) h1'), ⟨fun j hj => ?_, c4, c1, c2, c3⟩, zJ_s (fun g hg => a g (by omega) (by omega) (by omega) (by omega)) (zJ_c (fun q hq => f q (fun c => ?_) (fun c => ?_)) h3), fun t ht => ?_, fun j hj => ?_⟩
  · have e : ai_ch 16385 0 = 2097281 := rfl
    rw [e, c, k1] at hq; omega
  · have e : ai_ch 16385 0 = 2097281 := rfl
    rw [e, c, k2] at hq; omega
  · have e : ai_ch 16385 1 = 2097282 := rfl
    rw [e] at h2 ⊢
    have ej : ai_ch 2097282 j = 268452097 + j := by unfold ai_ch; omega
    rw [zled_c (fun g x y => a g (by omega) (by omega) (by omega) (by omega)), zn_c (a 4 (by decide) (by decide) (by decide) (by decide))]
    refine zL_c (f _ (by omega) (by omega)) (fun i hi => f _ (fun c => ?_) (fun c => ?_)) (h2.1 j hj)
    · have := congrArg zfp c
      rw [zfp_c hi, k1] at this
      omega
    · have := congrArg zfp c
      rw [zfp_c hi, k2] at this
      omega
  · have e : ai_ch 16385 2 = 2097283 := rfl
    rw [e, c, k1] at hq; omega
  · have e : ai_ch 16385 2 = 2097283 := rfl
    rw [e, c, k2] at hq; omega
  · have e : ai_ch 16385 3 = 2097284 := rfl
    rw [e] at h4 ⊢
    rw [f 2097284 (by decide) (by decide), a 21 (by decide) (by decide) (by decide) (by decide)]
    exact h4 t ht
  · unfold zLk
    rw [b]
    exact h5 j hj
/-- jobs change -/
theorem zS_job {h h1 : ai_H} {T : Nat} {σ σ' : Nat → Nat → Int32} (f : zFc 2097283 h h1) (hj : zJ h1 2097283 σ') (a : ∀ f, f ≠ 5 → f ≠ 18 → ¬ (27 ≤ f ∧ f ≤ 31) → σ' f = σ f) (hs : zS h 16385 T σ) : zS h1 16385 T σ' := by
  obtain ⟨h1', h2, -, h4, h5⟩ := hs
  have k : ∀ q, zfp q = 2097282 ∨ zfp (zfp q) = 2097282 ∨ zfp q = 2097281 ∨ zfp q = 2097284 ∨ q = 2097282 ∨ q = 2097281 ∨ q = 2097284 → h1.1 q = h.1 q := fun q hq => f.1 q (fun c => by
    have k1 : zfp 2097283 = 16385 := rfl
    have k2 : zfp 16385 = 128 := rfl
    rcases c with rfl | c
    · rw [k1, k2] at hq; omega
    · rw [c, k1] at hq
      rcases hq with hq | hq | hq | hq | hq | hq | hq
      · omega
      · omega
      · omega
      · omega
      · subst hq; revert c; decide
      · subst hq; revert c; decide
      · subst hq; revert c; decide)
  refine ⟨zC_s (fun g hg => a g (by omega) (by omega) (by omega)) (zC_c (fun q hq => k q ?_) h1'), zD_s (fun g hg => a g (by omega) (by omega) (by omega)) (zD_c (fun q hq => k q ?_) h2), hj, fun t ht => ?_, fun j hj => ?_⟩
  · have e : ai_ch 16385 0 = 2097281 := rfl
    rw [e] at hq
    omega
  · have e : ai_ch 16385 1 = 2097282 := rfl
    rw [e] at hq
    omega
  · rw [a 21 (by omega) (by omega) (by omega), k (ai_ch 16385 3) (Or.inr (Or.inr (Or.inr (Or.inr (Or.inr (Or.inr rfl))))))]
    exact h4 t ht
  · unfold zLk
    rw [f.2]
    exact h5 j hj
/-- the frame of a change of one int of the class's now -/
theorem zin_st {h : ai_H} {c j : Nat} {v : Int32} (hc : zin c) : (∀ q, ¬ zin q → (ai_st h c j v).1 q = h.1 q) ∧ (ai_st h c j v).2 = h.2 := by
  refine ⟨fun q n => ?_, rfl⟩
  funext i
  rw [z_st1, if_neg]
  rintro ⟨rfl, -⟩
  exact n hc
theorem zin_M {h h1 : ai_H} (f : (∀ q, ¬ zin q → h1.1 q = h.1 q) ∧ h1.2 = h.2) : (∀ q, zroot q = 16128 → h1.1 q = h.1 q) ∧ zMv h1 = zMv h := by
  have nM : ∀ q, zroot q = 16128 → h1.1 q = h.1 q := fun q hq => f.1 q fun k => by rw [zin_r k] at hq; omega
  exact ⟨nM, zMv_c (fun f hf => nM _ (zMr (by omega))) (fun j _ => by rw [nM 16128 (by decide)])⟩
theorem zVc_3 {σ : Nat → Nat → Int32} {v : Int32} (h : zVc σ) (hv : zi v 0 999) : zVc (zup σ 3 0 v) := by
  unfold zVc at h ⊢
  rw [zup_n (by decide), zup_n (by decide), zup_n (by decide), zup_n (by decide), zup_s, zup_n (by decide), zup_n (by decide), zup_n (by decide), zup_n (by decide)]
  exact ⟨h.1, h.2.1, h.2.2.1, h.2.2.2.1, hv, h.2.2.2.2.2⟩
theorem zVc_6 {σ : Nat → Nat → Int32} {v : Int32} (h : zVc σ) (hv : zi v 0 99) : zVc (zup σ 6 0 v) := by
  unfold zVc at h ⊢
  rw [zup_n (by decide), zup_n (by decide), zup_n (by decide), zup_n (by decide), zup_n (by decide), zup_n (by decide), zup_n (by decide), zup_s, zup_n (by decide)]
  exact ⟨h.1, h.2.1, h.2.2.1, h.2.2.2.1, h.2.2.2.2.1, h.2.2.2.2.2.1, h.2.2.2.2.2.2.1, hv, h.2.2.2.2.2.2.2.2⟩
theorem zVc_7 {σ : Nat → Nat → Int32} {v : Int32} (h : zVc σ) (hv : zi v 0 1000) : zVc (zup σ 7 0 v) := by
  unfold zVc at h ⊢
  rw [zup_n (by decide), zup_n (by decide), zup_n (by decide), zup_n (by decide), zup_n (by decide), zup_n (by decide), zup_n (by decide), zup_n (by decide), zup_s]
  exact ⟨h.1, h.2.1, h.2.2.1, h.2.2.2.1, h.2.2.2.2.1, h.2.2.2.2.2.1, h.2.2.2.2.2.2.1, h.2.2.2.2.2.2.2.1, hv⟩
theorem zVc_u {σ : Nat → Nat → Int32} {f i : Nat} {v : Int32} (hf : 9 ≤ f) (h : zVc σ) : zVc (zup σ f i v) := by
  unfold zVc at h ⊢
  rw [zup_n (by omega), zup_n (by omega), zup_n (by omega), zup_n (by omega), zup_n (by omega), zup_n (by omega), zup_n (by omega), zup_n (by omega), zup_n (by omega)]
  exact h
/-- a change of one of the diary's ints -/
theorem zV_dia {σ : Nat → Nat → Int32} {f : Nat} {v : Int32} (hf : f = 3 ∨ f = 6 ∨ f = 7) (hc : zVc (zup σ f 0 v)) (V : zV σ) : zV (zup σ f 0 v) := by
  obtain ⟨h1, h2, h3, h4, h5, h6⟩ := V
  exact ⟨hc, zVn_c (zup_n (by omega)) (zup_n (by omega)) h2, zVt_c (fun g hg => zup_n (by omega)) h3, zVh_c (fun g hg => zup_n (by omega)) h4, zVe_c (fun g hg => zup_n (by omega)) h5, zVj_c (fun g hg => zup_n (by omega)) h6⟩
theorem dia_go {h : ai_H} {f j c : Nat} {v w : Int32} (hr : zR h) (hf : f = 3 ∧ j = 13 ∧ w = v ∨ f = 6 ∧ j = 14 ∧ w = v ∨ f = 7 ∧ j = 15 ∧ v = w - 1) (hc : c = 2064385 + f) (hv : zVc (zup (zsl (zMv h) 0) f 0 w)) : zR (ai_st (ai_st h 2097282 j v) c 0 w) := by
  have fin := zin_st (h := h) (c := 2097282) (j := j) (v := v) (by unfold zin; decide)
  obtain ⟨nM, eV⟩ := zin_M fin
  have hD : zD h 2097282 (zsl (zMv h) 0) := hr.1.1.2.1
  have V : zV (zsl (zMv h) 0) := hr.2.1.2.1 0 (Nat.zero_le _)
  have hf3 : f = 3 ∨ f = 6 ∨ f = 7 := by omega
  refine zR_now hr (μ' := zmu (zMv h) f 0 w) (zEq0_mu zEq0_rf (by omega) (by unfold zst; rcases hf3 with rfl | rfl | rfl <;> decide)) fin ?_ (zFm_st zFm_rf (by rw [hc]; exact zMr (by omega))) rfl (by rw [zMv_lit hc (by omega), eV]) ?_ (fun t ht => ?_)
  · rw [zsl_up]
    refine zS_dia (fun q h1 h2 => ?_) fin.2 (fun i hi => ?_) ?_ ?_ ?_ (fun g x y z _ => zup_n (by omega)) hr.1.1
    · funext i
      rw [z_st1, if_neg (fun k => h1 k.1)]
    · rw [z_st1, if_neg (fun k => by omega), zup_n (by omega)]
      exact hD.2.1 i hi
    · rcases hf with ⟨rfl, rfl, rfl⟩ | ⟨rfl, rfl, rfl⟩ | ⟨rfl, rfl, rfl⟩
      · rw [zup_s]; exact z_stS
      · rw [z_st1, if_neg (by decide), zup_n (by decide)]; exact hD.2.2.1
      · rw [z_st1, if_neg (by decide), zup_n (by decide)]; exact hD.2.2.1
    · rcases hf with ⟨rfl, rfl, rfl⟩ | ⟨rfl, rfl, rfl⟩ | ⟨rfl, rfl, rfl⟩
      · rw [z_st1, if_neg (by decide), zup_n (by decide)]; exact hD.2.2.2.1
      · rw [zup_s]; exact z_stS
      · rw [z_st1, if_neg (by decide), zup_n (by decide)]; exact hD.2.2.2.1
    · rcases hf with ⟨rfl, rfl, rfl⟩ | ⟨rfl, rfl, rfl⟩ | ⟨rfl, rfl, rfl⟩
      · rw [z_st1, if_neg (by decide), zup_n (by decide)]; exact hD.2.2.2.2
      · rw [z_st1, if_neg (by decide), zup_n (by decide)]; exact hD.2.2.2.2
      · rw [zup_s]; exact z_stS
  · rw [zsl_up]
    exact zV_dia hf3 hv V
  · show zi (if 21 = f ∧ t = 0 then w else (zMv h).1 21 t) 0 99999
    rw [if_neg (by omega)]
    exact (hr.2.1.2.2.2.1.1 t ht).1
theorem P_day (v : Int32) : zPr 91 201 [.inl v] := by
  intro d h hr
  obtain ⟨b0, b1, b2, b8, b5, b4, b3, V⟩ := zR_b hr
  have i0 : ∀ f : Nat → Option ai_R, ai_ix 0 4 f = f 0 := fun f => z_i0 (by decide) (by decide)
  by_cases c1 : v ≤ zsl (zMv h) 0 3 0
  · refine ⟨0, h, h, ?_, ?_, hr, zK_of rfl⟩
    · rw [T91, b3.1, if_pos c1, z_b0]
    · rw [T201, i0, b3.2.1, if_pos c1, z_b0]
  · by_cases c2 : v ≤ 999
    · have nM := (zin_M (zin_st (h := h) (c := 2097282) (j := 13) (v := v) (by unfold zin; decide))).1
      refine ⟨1, ai_st h 2097282 13 v, _, ?_, ?_, dia_go (f := 3) (j := 13) (c := 2064388) (v := v) (w := v) hr (Or.inl ⟨rfl, rfl, rfl⟩) rfl (zVc_3 V.1 ?_), zK_of rfl⟩
      · rw [T91, b3.1, if_neg c1, if_pos c2, z_b1]
      · rw [T201, i0, nM _ (by decide), b3.2.1, if_neg c1, if_pos c2, i0, z_b1]
      · have := b3.2.2
        simp only [z_le, zl0, zl1, zl2, zl3, zl4, zl5, zl6, zl7, zl8, zl9, zl10, zl12, zl15, zl16, zl20, zl22, zl23, zl24, zl27, zl30, zl31, zl32, zl40, zl46, zl48, zl50, zl57, zl59, zl60, zl61, zl62, zl63, zl80, zl96, zl97, zl99, zl100, zl122, zl255, zl360, zl500, zl999, zl9999, zl60000, zl99999, zl16777215, zl1073741824, zlm1, zlm2, zlm3] at c1 c2
        unfold zi at this ⊢
        omega
    · refine ⟨0, h, h, ?_, ?_, hr, zK_of rfl⟩
      · rw [T91, b3.1, if_neg c1, if_neg c2, z_b0]
      · rw [T201, i0, b3.2.1, if_neg c1, if_neg c2, z_b0]
theorem P_error (v : Int32) : zPr 97 202 [.inl v] := by
  intro d h hr
  obtain ⟨b0, b1, b2, b8, b5, b4, b3, V⟩ := zR_b hr
  have i0 : ∀ f : Nat → Option ai_R, ai_ix 0 4 f = f 0 := fun f => z_i0 (by decide) (by decide)
  by_cases c : 0 ≤ v.toInt ∧ v.toInt ≤ 99
  · refine ⟨1, ai_st h 2097282 14 v, _, ?_, ?_, dia_go (f := 6) (j := 14) (c := 2064391) (v := v) (w := v) hr (Or.inr (Or.inl ⟨rfl, rfl, rfl⟩)) rfl (zVc_6 V.1 c), zK_of rfl⟩
    · rw [T97, X146]
      simp only [z_bi, zb_0, zl0, zl1, zl2, zl3, zl4, zl5, zl6, zl7, zl8, zl9, zl10, zl12, zl15, zl16, zl20, zl22, zl23, zl24, zl27, zl30, zl31, zl32, zl40, zl46, zl48, zl50, zl57, zl59, zl60, zl61, zl62, zl63, zl80, zl96, zl97, zl99, zl100, zl122, zl255, zl360, zl500, zl999, zl9999, zl60000, zl99999, zl16777215, zl1073741824, zlm1, zlm2, zlm3]
      rw [if_neg (fun q => q c), z_b1]
    · rw [T202, M186]
      simp only [z_bi, zb_0, zl0, zl1, zl2, zl3, zl4, zl5, zl6, zl7, zl8, zl9, zl10, zl12, zl15, zl16, zl20, zl22, zl23, zl24, zl27, zl30, zl31, zl32, zl40, zl46, zl48, zl50, zl57, zl59, zl60, zl61, zl62, zl63, zl80, zl96, zl97, zl99, zl100, zl122, zl255, zl360, zl500, zl999, zl9999, zl60000, zl99999, zl16777215, zl1073741824, zlm1, zlm2, zlm3]
      rw [if_neg (fun q => q c), i0, z_b1]
  · refine ⟨0, h, h, ?_, ?_, hr, zK_of rfl⟩
    · rw [T97, X146]
      simp only [z_bi, zb_0, zl0, zl1, zl2, zl3, zl4, zl5, zl6, zl7, zl8, zl9, zl10, zl12, zl15, zl16, zl20, zl22, zl23, zl24, zl27, zl30, zl31, zl32, zl40, zl46, zl48, zl50, zl57, zl59, zl60, zl61, zl62, zl63, zl80, zl96, zl97, zl99, zl100, zl122, zl255, zl360, zl500, zl999, zl9999, zl60000, zl99999, zl16777215, zl1073741824, zlm1, zlm2, zlm3]
      rw [if_pos c, z_b0]
    · rw [T202, M186]
      simp only [z_bi, zb_0, zl0, zl1, zl2, zl3, zl4, zl5, zl6, zl7, zl8, zl9, zl10, zl12, zl15, zl16, zl20, zl22, zl23, zl24, zl27, zl30, zl31, zl32, zl40, zl46, zl48, zl50, zl57, zl59, zl60, zl61, zl62, zl63, zl80, zl96, zl97, zl99, zl100, zl122, zl255, zl360, zl500, zl999, zl9999, zl60000, zl99999, zl16777215, zl1073741824, zlm1, zlm2, zlm3]
      rw [if_pos c, z_b0]
theorem P_ban (v : Int32) : zPr 106 205 [.inl v] := by
  intro d h hr
  obtain ⟨b0, b1, b2, b8, b5, b4, b3, V⟩ := zR_b hr
  have i0 : ∀ f : Nat → Option ai_R, ai_ix 0 4 f = f 0 := fun f => z_i0 (by decide) (by decide)
  have c1 : v = -1 ↔ v.toInt = -1 := by rw [z_eq]; exact Iff.rfl
  by_cases c : -1 ≤ v.toInt ∧ v.toInt ≤ 999
  · have e1 : (v + 1).toInt = v.toInt + 1 := by rw [z_add] <;> simp only [zl0, zl1, zl2, zl3, zl4, zl5, zl6, zl7, zl8, zl9, zl10, zl12, zl15, zl16, zl20, zl22, zl23, zl24, zl27, zl30, zl31, zl32, zl40, zl46, zl48, zl50, zl57, zl59, zl60, zl61, zl62, zl63, zl80, zl96, zl97, zl99, zl100, zl122, zl255, zl360, zl500, zl999, zl9999, zl60000, zl99999, zl16777215, zl1073741824, zlm1, zlm2, zlm3] <;> omega
    have e2 : v = v + 1 - 1 := by
      rw [z_eq, z_sub] <;> rw [e1] <;> simp only [zl0, zl1, zl2, zl3, zl4, zl5, zl6, zl7, zl8, zl9, zl10, zl12, zl15, zl16, zl20, zl22, zl23, zl24, zl27, zl30, zl31, zl32, zl40, zl46, zl48, zl50, zl57, zl59, zl60, zl61, zl62, zl63, zl80, zl96, zl97, zl99, zl100, zl122, zl255, zl360, zl500, zl999, zl9999, zl60000, zl99999, zl16777215, zl1073741824, zlm1, zlm2, zlm3] <;> omega
    refine ⟨1, ai_st h 2097282 15 v, _, ?_, ?_, dia_go (f := 7) (j := 15) (c := 2064392) (v := v) (w := v + 1) hr (Or.inr (Or.inr ⟨rfl, rfl, e2⟩)) rfl (zVc_7 V.1 (by unfold zi; rw [e1]; omega)), zK_of rfl⟩
    · rw [T106]
      by_cases k : v = -1
      · rw [if_pos k, z_b1]
      · rw [if_neg k, X147]
        rw [c1] at k
        simp only [z_bi, zb_0]
        rw [if_neg (fun q => q (by omega)), z_b1]
    · rw [T205, M186]
      simp only [z_bi, zb_0, zl0, zl1, zl2, zl3, zl4, zl5, zl6, zl7, zl8, zl9, zl10, zl12, zl15, zl16, zl20, zl22, zl23, zl24, zl27, zl30, zl31, zl32, zl40, zl46, zl48, zl50, zl57, zl59, zl60, zl61, zl62, zl63, zl80, zl96, zl97, zl99, zl100, zl122, zl255, zl360, zl500, zl999, zl9999, zl60000, zl99999, zl16777215, zl1073741824, zlm1, zlm2, zlm3]
      rw [if_neg (fun q => q c), i0, z_b1]
  · refine ⟨0, h, h, ?_, ?_, hr, zK_of rfl⟩
    · rw [T106]
      rw [if_neg (by rw [c1]; omega), X147]
      simp only [z_bi, zb_0]
      rw [if_pos (fun q => c (by omega)), z_b0]
    · rw [T205, M186]
      simp only [z_bi, zb_0, zl0, zl1, zl2, zl3, zl4, zl5, zl6, zl7, zl8, zl9, zl10, zl12, zl15, zl16, zl20, zl22, zl23, zl24, zl27, zl30, zl31, zl32, zl40, zl46, zl48, zl50, zl57, zl59, zl60, zl61, zl62, zl63, zl80, zl96, zl97, zl99, zl100, zl122, zl255, zl360, zl500, zl999, zl9999, zl60000, zl99999, zl16777215, zl1073741824, zlm1, zlm2, zlm3]
      rw [if_pos c, z_b0]
theorem P_fault : zPr 112 241 [] := zPr_q fun d h hr => by
  refine ⟨h.1 128 11, h, h, T112 (d + 59) h, zF_rf, ?_, zF_rf⟩
  rw [T241, hr.1.2.1]
  rfl
