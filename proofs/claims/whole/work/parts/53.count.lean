/-! count -/
theorem zMv2 {h : ai_H} {j : Nat} (hj : j < 50) : (zMv h).2 j = h.1 16128 j := if_pos hj
def zf7 (σ : Nat → Nat → Int32) (j : Nat) : Int32 := if σ 31 j = -1 then 0 else 1
theorem X24 {h : ai_H} (d : Nat) (hr : zR h) : ai_X (d + 1) 24 [.inr (.inr (23, 0, 2097283))] h = some ([.inl (zsm (zf7 (zsl (zMv h) 0)) (zn (zsl (zMv h) 0) 5))], h) := by
  obtain ⟨b0, b1, b2, b8, b5, b4, b3, V⟩ := zR_b hr
  have hJ := zJ_lit.mp (show zJ h 2097283 (zsl (zMv h) 0) from hr.1.1.2.2.1)
  have K : ∀ k i, i + k = zn (zsl (zMv h) 0) 5 → ai_E d 24 4 [some (.inr (.inr (23, 0, 2097283))), some (.inl (zsm (zf7 (zsl (zMv h) 0)) i)), some (.inl (nI i))] [] h = some ([.inl (zsm (zf7 (zsl (zMv h) 0)) (zn (zsl (zMv h) 0) 5))], h) := by
    intro k
    induction k with
    | zero =>
      intro i hi
      have hi : i = zn (zsl (zMv h) 0) 5 := by omega
      subst hi
      rw [T24_4, b5.1, if_pos (by rw [z_le]; omega)]
    | succ k ih =>
      intro i hi
      have ih := ih (i + 1) (by omega)
      have es : zsm (zf7 (zsl (zMv h) 0)) (i + 1) = zsm (zf7 (zsl (zMv h) 0)) i + zf7 (zsl (zMv h) 0) i := rfl
      obtain ⟨j1, j2, j3, j4, j5, j6⟩ := hJ.2 i (by omega)
      rw [es] at ih
      rw [T24_4, b5.1, if_neg (by rw [nI_leI (by omega) (by omega)]; omega), z_ix (by omega) (by decide), j5, nI_1]
      unfold zf7 at ih ⊢
      by_cases c : zsl (zMv h) 0 31 i = -1
      · rw [if_pos c]
        rw [if_pos c] at ih
        exact ih
      · rw [if_neg c]
        rw [if_neg c] at ih
        exact ih
  rw [T24]
  exact K (zn (zsl (zMv h) 0) 5) 0 (by omega)
theorem X25 {h : ai_H} (d : Nat) (hr : zR h) : ai_X (d + 1) 25 [.inr (.inr (23, 0, 2097283))] h = some ([.inl (zsm (fun j => zsl (zMv h) 0 18 j) (zn (zsl (zMv h) 0) 5))], h) := by
  obtain ⟨b0, b1, b2, b8, b5, b4, b3, V⟩ := zR_b hr
  have hJ := zJ_lit.mp (show zJ h 2097283 (zsl (zMv h) 0) from hr.1.1.2.2.1)
  have K : ∀ k i, i + k = zn (zsl (zMv h) 0) 5 → ai_E d 25 4 [some (.inr (.inr (23, 0, 2097283))), some (.inl (zsm (fun j => zsl (zMv h) 0 18 j) i)), some (.inl (nI i))] [] h = some ([.inl (zsm (fun j => zsl (zMv h) 0 18 j) (zn (zsl (zMv h) 0) 5))], h) := by
    intro k
    induction k with
    | zero =>
      intro i hi
      have hi : i = zn (zsl (zMv h) 0) 5 := by omega
      subst hi
      rw [T25_4, b5.1, if_pos (by rw [z_le]; omega)]
    | succ k ih =>
      intro i hi
      obtain ⟨j1, j2, j3, j4, j5, j6⟩ := hJ.2 i (by omega)
      rw [T25_4, b5.1, if_neg (by rw [nI_leI (by omega) (by omega)]; omega), z_ix (by omega) (by decide), j6, nI_1]
      exact ih (i + 1) (by omega)
  rw [T25]
  exact K (zn (zsl (zMv h) 0) 5) 0 (by omega)
theorem M309 {h : ai_H} (d : Nat) (x : Int32) (hr : zR h) : ai_X (d + 1) 309 [.inr (.inr (32, 0, 16128)), .inl x] h = some ([.inl (if x = 0 then zsm (zf7 (zsl (zMv h) 0)) (zn (zsl (zMv h) 0) 5) else zsm (fun j => zsl (zMv h) 0 18 j) (zn (zsl (zMv h) 0) 5))], h) := by
  obtain ⟨b0, b1, b2, b8, b5, b4, b3, V⟩ := zR_b hr
  have i0 : ∀ f : Nat → Option ai_R, ai_ix 0 4 f = f 0 := fun f => z_i0 (by decide) (by decide)
  have K : ∀ k i, i + k = zn (zsl (zMv h) 0) 5 → ai_E d 309 4 [some (.inr (.inr (32, 0, 16128))), some (.inl x), some (.inl (if x = 0 then zsm (zf7 (zsl (zMv h) 0)) i else zsm (fun j => zsl (zMv h) 0 18 j) i)), some (.inl (nI i))] [] h = some ([.inl (if x = 0 then zsm (zf7 (zsl (zMv h) 0)) (zn (zsl (zMv h) 0) 5) else zsm (fun j => zsl (zMv h) 0 18 j) (zn (zsl (zMv h) 0) 5))], h) := by
    intro k
    induction k with
    | zero =>
      intro i hi
      have hi : i = zn (zsl (zMv h) 0) 5 := by omega
      subst hi
      rw [T309_4, i0, b5.2.1, if_pos (by rw [z_le]; omega)]
    | succ k ih =>
      intro i hi
      have ih := ih (i + 1) (by omega)
      have e31 : h.1 2064416 i = zsl (zMv h) 0 31 i := (zs0 (f := 31) (by omega)).symm
      have e18 : h.1 2064403 i = zsl (zMv h) 0 18 i := (zs0 (f := 18) (by omega)).symm
      have s1 : zsm (zf7 (zsl (zMv h) 0)) (i + 1) = zsm (zf7 (zsl (zMv h) 0)) i + zf7 (zsl (zMv h) 0) i := rfl
      have s2 : zsm (fun j => zsl (zMv h) 0 18 j) (i + 1) = zsm (fun j => zsl (zMv h) 0 18 j) i + zsl (zMv h) 0 18 i := rfl
      obtain ⟨d1, d2, d3⟩ := z_done V (j := i) (by omega)
      have v6 := (V.2.2.2.2.2 i (by omega)).2.2.2.2.2
      unfold zi at v6
      have ix : ∀ f : Nat → Option ai_R, ai_ix (nI i) 160 f = f i := fun f => z_ix (by omega) (by decide)
      rw [s1, s2] at ih
      rw [T309_4, i0, b5.2.1, if_neg (by rw [nI_leI (by omega) (by omega)]; omega)]
      simp only [ix, e31, e18, nI_1]
      by_cases c : x = 0
      · simp only [if_pos c] at ih ⊢
        unfold zf7 at ih ⊢
        by_cases c1 : zsl (zMv h) 0 31 i = -1
        · rw [if_pos (d1.mpr c1)]
          rw [if_pos c1] at ih
          exact ih
        · rw [if_neg (fun q => c1 (d1.mp q))]
          rw [if_neg c1] at ih
          exact ih
      · simp only [if_neg c] at ih ⊢
        by_cases c1 : zsl (zMv h) 0 18 i = 0
        · rw [if_pos c1]
          rw [c1] at ih
          exact ih
        · rw [if_neg c1]
          have : zsl (zMv h) 0 18 i = 1 := by
            rw [z_eq] at c1 ⊢
            simp only [zl0, zl1, zl2, zl3, zl4, zl5, zl6, zl7, zl8, zl9, zl10, zl12, zl15, zl16, zl20, zl22, zl23, zl24, zl27, zl30, zl31, zl32, zl40, zl46, zl48, zl50, zl57, zl59, zl60, zl61, zl62, zl63, zl80, zl96, zl97, zl99, zl100, zl122, zl255, zl360, zl500, zl999, zl9999, zl60000, zl99999, zl16777215, zl1073741824, zlm1, zlm2, zlm3] at c1 ⊢
            omega
          rw [this] at ih
          exact ih
  rw [T309]
  have := K (zn (zsl (zMv h) 0) 5) 0 (by omega)
  have e0 : (if x = 0 then zsm (zf7 (zsl (zMv h) 0)) 0 else zsm (fun j => zsl (zMv h) 0 18 j) 0) = 0 := by
    by_cases c : x = 0
    · rw [if_pos c]; rfl
    · rw [if_neg c]; rfl
  rw [e0] at this
  exact this
theorem X47 {h : ai_H} (d : Nat) (hr : zR h) : ai_X (d + 1) 47 [.inr (.inr (26, 0, 16389)), .inl (nI (zn (zsl (zMv h) 0) 1))] h = some ([.inl (zsm (fun t => if (zMv h).1 64 t ≤ 0 then 0 else 1) (zn (zsl (zMv h) 0) 1))], h) := by
  obtain ⟨b0, b1, b2, b8, b5, b4, b3, V⟩ := zR_b hr
  have hN : zNm h (zMv h) := hr.1.2.2.2.1
  have K : ∀ k i, i + k = zn (zsl (zMv h) 0) 1 → ai_E d 47 4 [some (.inr (.inr (26, 0, 16389))), some (.inl (nI (zn (zsl (zMv h) 0) 1))), some (.inl (zsm (fun t => if (zMv h).1 64 t ≤ 0 then 0 else 1) i)), some (.inl (nI i))] [] h = some ([.inl (zsm (fun t => if (zMv h).1 64 t ≤ 0 then 0 else 1) (zn (zsl (zMv h) 0) 1))], h) := by
    intro k
    induction k with
    | zero =>
      intro i hi
      have hi : i = zn (zsl (zMv h) 0) 1 := by omega
      subst hi
      rw [T47_4, if_pos (by rw [z_le]; omega)]
    | succ k ih =>
      intro i hi
      have ih := ih (i + 1) (by omega)
      have s1 : zsm (fun t => if (zMv h).1 64 t ≤ 0 then 0 else 1) (i + 1) = zsm (fun t => if (zMv h).1 64 t ≤ 0 then 0 else 1) i + (if (zMv h).1 64 i ≤ 0 then 0 else 1) := rfl
      rw [s1] at ih
      rw [T47_4, if_neg (by rw [nI_leI (by omega) (by omega)]; omega), z_ix (by omega) (by decide), (hN.2.1 i (by omega)).1, nI_1]
      by_cases c : (zMv h).1 64 i ≤ 0
      · rw [if_pos c]
        rw [if_pos c] at ih
        exact ih
      · rw [if_neg c]
        rw [if_neg c] at ih
        exact ih
  rw [T47]
  exact K (zn (zsl (zMv h) 0) 1) 0 (by omega)
theorem M310 {h : ai_H} (d : Nat) (hr : zR h) : ai_X (d + 1) 310 [.inr (.inr (32, 0, 16128))] h = some ([.inl (zsm (fun t => if (zMv h).1 64 t ≤ 0 then 0 else 1) (zn (zsl (zMv h) 0) 1))], h) := by
  obtain ⟨b0, b1, b2, b8, b5, b4, b3, V⟩ := zR_b hr
  have i0 : ∀ f : Nat → Option ai_R, ai_ix 0 4 f = f 0 := fun f => z_i0 (by decide) (by decide)
  have K : ∀ k i, i + k = zn (zsl (zMv h) 0) 1 → ai_E d 310 4 [some (.inr (.inr (32, 0, 16128))), some (.inl (zsm (fun t => if (zMv h).1 64 t ≤ 0 then 0 else 1) i)), some (.inl (nI i))] [] h = some ([.inl (zsm (fun t => if (zMv h).1 64 t ≤ 0 then 0 else 1) (zn (zsl (zMv h) 0) 1))], h) := by
    intro k
    induction k with
    | zero =>
      intro i hi
      have hi : i = zn (zsl (zMv h) 0) 1 := by omega
      subst hi
      rw [T310_4, i0, b1.2.1, if_pos (by rw [z_le]; omega)]
    | succ k ih =>
      intro i hi
      have ih := ih (i + 1) (by omega)
      have s1 : zsm (fun t => if (zMv h).1 64 t ≤ 0 then 0 else 1) (i + 1) = zsm (fun t => if (zMv h).1 64 t ≤ 0 then 0 else 1) i + (if (zMv h).1 64 i ≤ 0 then 0 else 1) := rfl
      rw [s1] at ih
      have e64 : h.1 2064449 i = (zMv h).1 64 i := (zMv1 (f := 64) (by omega)).symm
      rw [T310_4, i0, b1.2.1, if_neg (by rw [nI_leI (by omega) (by omega)]; omega), z_ix (by omega) (by decide), e64, nI_1]
      by_cases c : (zMv h).1 64 i ≤ 0
      · rw [if_pos c]
        rw [if_pos c] at ih
        exact ih
      · rw [if_neg c]
        rw [if_neg c] at ih
        exact ih
  rw [T310]
  exact K (zn (zsl (zMv h) 0) 1) 0 (by omega)
theorem zlaw_len {μ : zMu} {p : Nat} : (zlaw μ p).length = (μ.1 36 p).toInt.toNat := by
  unfold zlaw
  rw [List.length_map, List.length_range]
theorem P_count (x : Int32) : zPr 145 311 [.inl x] := zPr_q fun d h hr => by
  obtain ⟨b0, b1, b2, b8, b5, b4, b3, V⟩ := zR_b hr
  obtain ⟨r1, r2, r3, r4⟩ := id hr
  have i0 : ∀ f : Nat → Option ai_R, ai_ix 0 4 f = f 0 := fun f => z_i0 (by decide) (by decide)
  have i7 : ∀ f : Nat → Option ai_R, ai_ix 0 7 f = f 0 := fun f => z_i0 (by decide) (by decide)
  have hD : zD h 2097282 (zsl (zMv h) 0) := r1.1.2.1
  have hN : zNm h (zMv h) := r1.2.2.2.1
  have hT : zTp h (zMv h) := r1.2.2.2.2.1
  have hU : zTr h (zMv h) := r1.2.2.2.2.2
  have hI : zIm h (zMv h) := r1.2.2.1
  have m33 : h.1 16128 33 = (zMv h).2 33 := (zMv2 (by decide)).symm
  have m34 : h.1 16128 34 = (zMv h).2 34 := (zMv2 (by decide)).symm
  have m32 : h.1 16128 32 = (zMv h).2 32 := (zMv2 (by decide)).symm
  have m35 : h.1 16128 35 = (zMv h).2 35 := (zMv2 (by decide)).symm
  have m48 : h.1 16128 48 = (zMv h).2 48 := (zMv2 (by decide)).symm
  have v33 := r2.1.2.1
  unfold zi at v33
  have a9 : (9 + (zMv h).2 33).toInt = 9 + ((zMv h).2 33).toInt := by rw [z_add] <;> simp only [zl0, zl1, zl2, zl3, zl4, zl5, zl6, zl7, zl8, zl9, zl10, zl12, zl15, zl16, zl20, zl22, zl23, zl24, zl27, zl30, zl31, zl32, zl40, zl46, zl48, zl50, zl57, zl59, zl60, zl61, zl62, zl63, zl80, zl96, zl97, zl99, zl100, zl122, zl255, zl360, zl500, zl999, zl9999, zl60000, zl99999, zl16777215, zl1073741824, zlm1, zlm2, zlm3] <;> omega
  have a10 : (10 + (zMv h).2 33).toInt = 10 + ((zMv h).2 33).toInt := by rw [z_add] <;> simp only [zl0, zl1, zl2, zl3, zl4, zl5, zl6, zl7, zl8, zl9, zl10, zl12, zl15, zl16, zl20, zl22, zl23, zl24, zl27, zl30, zl31, zl32, zl40, zl46, zl48, zl50, zl57, zl59, zl60, zl61, zl62, zl63, zl80, zl96, zl97, zl99, zl100, zl122, zl255, zl360, zl500, zl999, zl9999, zl60000, zl99999, zl16777215, zl1073741824, zlm1, zlm2, zlm3] <;> omega
  by_cases c : 10 ≤ x.toInt ∧ x.toInt ≤ 9 + ((zMv h).2 33).toInt
  · have s : (x - 10).toInt = x.toInt - 10 := by rw [z_sub] <;> simp only [zl0, zl1, zl2, zl3, zl4, zl5, zl6, zl7, zl8, zl9, zl10, zl12, zl15, zl16, zl20, zl22, zl23, zl24, zl27, zl30, zl31, zl32, zl40, zl46, zl48, zl50, zl57, zl59, zl60, zl61, zl62, zl63, zl80, zl96, zl97, zl99, zl100, zl122, zl255, zl360, zl500, zl999, zl9999, zl60000, zl99999, zl16777215, zl1073741824, zlm1, zlm2, zlm3] <;> omega
    have ex : x - 10 = nI (x - 10).toInt.toNat := z_nat (by omega)
    have hc : h.1 2097284 (x - 10).toInt.toNat = zsl (zMv h) 0 21 (x - 10).toInt.toNat := r1.1.2.2.2.1 _ (by unfold zg; omega)
    have e21 : h.1 2064406 (x - 10).toInt.toNat = zsl (zMv h) 0 21 (x - 10).toInt.toNat := (zs0 (f := 21) (by omega)).symm
    refine ⟨zsl (zMv h) 0 21 (x - 10).toInt.toNat, h, h, ?_, zF_rf, ?_, zF_rf⟩
    · rw [T145, if_neg (by rw [z_lt]; simp only [zl0, zl1, zl2, zl3, zl4, zl5, zl6, zl7, zl8, zl9, zl10, zl12, zl15, zl16, zl20, zl22, zl23, zl24, zl27, zl30, zl31, zl32, zl40, zl46, zl48, zl50, zl57, zl59, zl60, zl61, zl62, zl63, zl80, zl96, zl97, zl99, zl100, zl122, zl255, zl360, zl500, zl999, zl9999, zl60000, zl99999, zl16777215, zl1073741824, zlm1, zlm2, zlm3]; omega), hU.1, if_neg (by rw [z_le, a10]; omega), ex, z_ix (by omega) (by decide), hc, ← ex]
    · rw [T311, m33, M186, a9]
      simp only [z_bi, zb_0, zl0, zl1, zl2, zl3, zl4, zl5, zl6, zl7, zl8, zl9, zl10, zl12, zl15, zl16, zl20, zl22, zl23, zl24, zl27, zl30, zl31, zl32, zl40, zl46, zl48, zl50, zl57, zl59, zl60, zl61, zl62, zl63, zl80, zl96, zl97, zl99, zl100, zl122, zl255, zl360, zl500, zl999, zl9999, zl60000, zl99999, zl16777215, zl1073741824, zlm1, zlm2, zlm3]
      rw [if_neg (fun q => q c), ex, z_ix (by omega) (by decide), e21, ← ex]
  · have q0 : ai_X (d + 60) 145 [.inr (.inr (31, 0, 128)), .inl x] h = ai_E (d + 59) 145 33 [some (.inr (.inr (31, 0, 128))), some (.inl x)] [] h := by
      rw [T145, hU.1]
      by_cases g : x < 10
      · rw [if_pos g]
      · rw [if_neg g, if_pos]
        rw [z_lt] at g
        simp only [zl0, zl1, zl2, zl3, zl4, zl5, zl6, zl7, zl8, zl9, zl10, zl12, zl15, zl16, zl20, zl22, zl23, zl24, zl27, zl30, zl31, zl32, zl40, zl46, zl48, zl50, zl57, zl59, zl60, zl61, zl62, zl63, zl80, zl96, zl97, zl99, zl100, zl122, zl255, zl360, zl500, zl999, zl9999, zl60000, zl99999, zl16777215, zl1073741824, zlm1, zlm2, zlm3] at g
        rw [z_le, a10]
        omega
    -- the verdicts of a text
    have hlaw : ∃ y, h.2.2.1 128 9 = some y ∧ ai_X (d + 59) 32 [.inr (.inr (24, 0, y))] h = some ([.inl (if (zMv h).2 35 = 0 then 0 else (zMv h).1 36 0)], h) := by
      obtain ⟨y, y1, y2⟩ := hU.2.2
      refine ⟨y, y1, ?_⟩
      obtain ⟨-, y0, -, -, -, -, g0, -, -, -, g4, -⟩ := y2
      rw [T32, g0]
      show some ([Sum.inl (nI (h.2.2.2.1 y0).2)], h) = _
      rw [g4]
      by_cases g : (zMv h).2 35 = 0
      · rw [if_pos g, if_pos g]
        rfl
      · rw [if_neg g, if_neg g, zlaw_len]
        have v := (r2.2.2.2.2.2.2.2.2 g).1
        unfold zi at v
        rw [← z_nat v.1]
    obtain ⟨y, y1, y2⟩ := hlaw
    have e7 : h.1 2097282 15 = zsl (zMv h) 0 7 0 - 1 := hD.2.2.2.2
    have m7 : h.1 2064392 0 = zsl (zMv h) 0 7 0 := (zs0 (f := 7) (by omega)).symm
    have m36 : h.1 2064421 0 = (zMv h).1 36 0 := (zMv1 (f := 36) (by omega)).symm
    refine ⟨if x = 0 then nI (zn (zsl (zMv h) 0) 0) else if x = 1 then nI (zn (zsl (zMv h) 0) 1) else if x = 2 then nI (zn (zsl (zMv h) 0) 2) else if x = 3 then zsl (zMv h) 0 3 0 else if x = 4 then (zMv h).2 33 else if x = 5 then (zMv h).2 34 else if x = 6 then nI (zn (zsl (zMv h) 0) 5) else if x = 7 then zsm (zf7 (zsl (zMv h) 0)) (zn (zsl (zMv h) 0) 5) else if x = 8 then zsm (fun j => zsl (zMv h) 0 18 j) (zn (zsl (zMv h) 0) 5) else if x = 9 then (zMv h).2 48 else if x = 20 then (zMv h).2 32 else if x = 21 then (if (zMv h).2 35 = 0 then 0 else (zMv h).1 36 0) else if x = 22 then nI (zn (zsl (zMv h) 0) 8) else if x = 23 then zsl (zMv h) 0 7 0 - 1 else if x = 24 then zsm (fun t => if (zMv h).1 64 t ≤ 0 then 0 else 1) (zn (zsl (zMv h) 0) 1) else -1, h, h, ?_, zF_rf, ?_, zF_rf⟩
    · rw [q0, T145_33, b0.1, b1.1, b2.1, b3.1, hU.1, hN.1, b5.1, X24 _ hr, X25 _ hr, hT.1, hI.1, y1, b8.1, e7, X47 _ hr]
      simp only [z_bi, ai_oo, y2]
      by_cases g0 : x = 0
      · rw [if_pos g0, if_pos g0]
      rw [if_neg g0, if_neg g0]
      by_cases g1 : x = 1
      · rw [if_pos g1, if_pos g1]
      rw [if_neg g1, if_neg g1]
      by_cases g2 : x = 2
      · rw [if_pos g2, if_pos g2]
      rw [if_neg g2, if_neg g2]
      by_cases g3 : x = 3
      · rw [if_pos g3, if_pos g3]
      rw [if_neg g3, if_neg g3]
      by_cases g4 : x = 4
      · rw [if_pos g4, if_pos g4]
      rw [if_neg g4, if_neg g4]
      by_cases g5 : x = 5
      · rw [if_pos g5, if_pos g5]
      rw [if_neg g5, if_neg g5]
      by_cases g6 : x = 6
      · rw [if_pos g6, if_pos g6]
      rw [if_neg g6, if_neg g6]
      by_cases g7 : x = 7
      · rw [if_pos g7, if_pos g7]
      rw [if_neg g7, if_neg g7]
      by_cases g8 : x = 8
      · rw [if_pos g8, if_pos g8]
      rw [if_neg g8, if_neg g8]
      by_cases g9 : x = 9
      · rw [if_pos g9, if_pos g9]
      rw [if_neg g9, if_neg g9]
      by_cases g10 : x = 10
      · rw [if_pos g10, if_neg (by rw [g10]; decide), if_neg (by rw [g10]; decide), if_neg (by rw [g10]; decide), if_neg (by rw [g10]; decide), if_neg (by rw [g10]; decide)]
      rw [if_neg g10]
      by_cases g11 : x = 11
      · rw [if_pos g11, if_neg (by rw [g11]; decide), if_neg (by rw [g11]; decide), if_neg (by rw [g11]; decide), if_neg (by rw [g11]; decide), if_neg (by rw [g11]; decide)]
      rw [if_neg g11]
      by_cases g12 : x = 12
      · rw [if_pos g12, if_neg (by rw [g12]; decide), if_neg (by rw [g12]; decide), if_neg (by rw [g12]; decide), if_neg (by rw [g12]; decide), if_neg (by rw [g12]; decide)]
      rw [if_neg g12]
      by_cases g13 : x = 13
      · rw [if_pos g13, if_neg (by rw [g13]; decide), if_neg (by rw [g13]; decide), if_neg (by rw [g13]; decide), if_neg (by rw [g13]; decide), if_neg (by rw [g13]; decide)]
      rw [if_neg g13]
      by_cases g14 : x = 14
      · rw [if_pos g14, if_neg (by rw [g14]; decide), if_neg (by rw [g14]; decide), if_neg (by rw [g14]; decide), if_neg (by rw [g14]; decide), if_neg (by rw [g14]; decide)]
      rw [if_neg g14]
      by_cases g15 : x = 15
      · rw [if_pos g15, if_neg (by rw [g15]; decide), if_neg (by rw [g15]; decide), if_neg (by rw [g15]; decide), if_neg (by rw [g15]; decide), if_neg (by rw [g15]; decide)]
      rw [if_neg g15]
      by_cases g16 : x = 16
      · rw [if_pos g16, if_neg (by rw [g16]; decide), if_neg (by rw [g16]; decide), if_neg (by rw [g16]; decide), if_neg (by rw [g16]; decide), if_neg (by rw [g16]; decide)]
      rw [if_neg g16]
      by_cases g17 : x = 17
      · rw [if_pos g17, if_neg (by rw [g17]; decide), if_neg (by rw [g17]; decide), if_neg (by rw [g17]; decide), if_neg (by rw [g17]; decide), if_neg (by rw [g17]; decide)]
      rw [if_neg g17]
      by_cases g18 : x = 18
      · rw [if_pos g18, if_neg (by rw [g18]; decide), if_neg (by rw [g18]; decide), if_neg (by rw [g18]; decide), if_neg (by rw [g18]; decide), if_neg (by rw [g18]; decide)]
      rw [if_neg g18]
      by_cases g19 : x = 19
      · rw [if_pos g19, if_neg (by rw [g19]; decide), if_neg (by rw [g19]; decide), if_neg (by rw [g19]; decide), if_neg (by rw [g19]; decide), if_neg (by rw [g19]; decide)]
      rw [if_neg g19]
      by_cases g20 : x = 20
      · rw [if_pos g20, if_pos g20]
      rw [if_neg g20, if_neg g20]
      by_cases g21 : x = 21
      · rw [if_pos g21, if_pos g21]
      rw [if_neg g21, if_neg g21]
      by_cases g22 : x = 22
      · rw [if_pos g22, if_pos g22]
      rw [if_neg g22, if_neg g22]
      by_cases g23 : x = 23
      · rw [if_pos g23, if_pos g23]
      rw [if_neg g23, if_neg g23]
      by_cases g24 : x = 24
      · rw [if_pos g24, if_pos g24]
      rw [if_neg g24, if_neg g24]
    · rw [T311, m33, M186, a9]
      simp only [z_bi, zb_0, zl0, zl1, zl2, zl3, zl4, zl5, zl6, zl7, zl8, zl9, zl10, zl12, zl15, zl16, zl20, zl22, zl23, zl24, zl27, zl30, zl31, zl32, zl40, zl46, zl48, zl50, zl57, zl59, zl60, zl61, zl62, zl63, zl80, zl96, zl97, zl99, zl100, zl122, zl255, zl360, zl500, zl999, zl9999, zl60000, zl99999, zl16777215, zl1073741824, zlm1, zlm2, zlm3]
      rw [if_pos c, i0, b0.2.1, i0, b1.2.1, i0, b2.2.1, i0, b3.2.1, m34, i0, b5.2.1, M309 _ _ hr, M309 _ _ hr, m48, m32, m35, i7, m36, i0, b8.2.1, i0, m7, M310 _ hr]
      simp only [z_bi]
      by_cases g0 : x = 0
      · rw [if_pos g0, if_pos g0]
      rw [if_neg g0, if_neg g0]
      by_cases g1 : x = 1
      · rw [if_pos g1, if_pos g1]
      rw [if_neg g1, if_neg g1]
      by_cases g2 : x = 2
      · rw [if_pos g2, if_pos g2]
      rw [if_neg g2, if_neg g2]
      by_cases g3 : x = 3
      · rw [if_pos g3, if_pos g3]
      rw [if_neg g3, if_neg g3]
      by_cases g4 : x = 4
      · rw [if_pos g4, if_pos g4, m33]
      rw [if_neg g4, if_neg g4]
      by_cases g5 : x = 5
      · rw [if_pos g5, if_pos g5]
      rw [if_neg g5, if_neg g5]
      by_cases g6 : x = 6
      · rw [if_pos g6, if_pos g6]
      rw [if_neg g6, if_neg g6]
      by_cases g7 : x = 7
      · rw [if_pos g7, if_pos g7, if_pos trivial]
      rw [if_neg g7, if_neg g7]
      by_cases g8 : x = 8
      · rw [if_pos g8, if_pos g8, if_neg (by decide)]
      rw [if_neg g8, if_neg g8]
      by_cases g9 : x = 9
      · rw [if_pos g9, if_pos g9]
      rw [if_neg g9, if_neg g9]
      by_cases g10 : x = 10
      · rw [if_pos g10, if_neg (by rw [g10]; decide), if_neg (by rw [g10]; decide), if_neg (by rw [g10]; decide), if_neg (by rw [g10]; decide), if_neg (by rw [g10]; decide)]
      rw [if_neg g10]
      by_cases g11 : x = 11
      · rw [if_pos g11, if_neg (by rw [g11]; decide), if_neg (by rw [g11]; decide), if_neg (by rw [g11]; decide), if_neg (by rw [g11]; decide), if_neg (by rw [g11]; decide)]
      rw [if_neg g11]
      by_cases g12 : x = 12
      · rw [if_pos g12, if_neg (by rw [g12]; decide), if_neg (by rw [g12]; decide), if_neg (by rw [g12]; decide), if_neg (by rw [g12]; decide), if_neg (by rw [g12]; decide)]
      rw [if_neg g12]
      by_cases g13 : x = 13
      · rw [if_pos g13, if_neg (by rw [g13]; decide), if_neg (by rw [g13]; decide), if_neg (by rw [g13]; decide), if_neg (by rw [g13]; decide), if_neg (by rw [g13]; decide)]
      rw [if_neg g13]
      by_cases g14 : x = 14
      · rw [if_pos g14, if_neg (by rw [g14]; decide), if_neg (by rw [g14]; decide), if_neg (by rw [g14]; decide), if_neg (by rw [g14]; decide), if_neg (by rw [g14]; decide)]
      rw [if_neg g14]
      by_cases g15 : x = 15
      · rw [if_pos g15, if_neg (by rw [g15]; decide), if_neg (by rw [g15]; decide), if_neg (by rw [g15]; decide), if_neg (by rw [g15]; decide), if_neg (by rw [g15]; decide)]
      rw [if_neg g15]
      by_cases g16 : x = 16
      · rw [if_pos g16, if_neg (by rw [g16]; decide), if_neg (by rw [g16]; decide), if_neg (by rw [g16]; decide), if_neg (by rw [g16]; decide), if_neg (by rw [g16]; decide)]
      rw [if_neg g16]
      by_cases g17 : x = 17
      · rw [if_pos g17, if_neg (by rw [g17]; decide), if_neg (by rw [g17]; decide), if_neg (by rw [g17]; decide), if_neg (by rw [g17]; decide), if_neg (by rw [g17]; decide)]
      rw [if_neg g17]
      by_cases g18 : x = 18
      · rw [if_pos g18, if_neg (by rw [g18]; decide), if_neg (by rw [g18]; decide), if_neg (by rw [g18]; decide), if_neg (by rw [g18]; decide), if_neg (by rw [g18]; decide)]
      rw [if_neg g18]
      by_cases g19 : x = 19
      · rw [if_pos g19, if_neg (by rw [g19]; decide), if_neg (by rw [g19]; decide), if_neg (by rw [g19]; decide), if_neg (by rw [g19]; decide), if_neg (by rw [g19]; decide)]
      rw [if_neg g19]
      by_cases g20 : x = 20
      · rw [if_pos g20, if_pos g20]
      rw [if_neg g20, if_neg g20]
      by_cases g21 : x = 21
      · rw [if_pos g21, if_pos g21]
        by_cases g : (zMv h).2 35 = 0
        · rw [if_pos g, if_pos g]
        · rw [if_neg g, if_neg g]
      rw [if_neg g21, if_neg g21]
      by_cases g22 : x = 22
      · rw [if_pos g22, if_pos g22]
      rw [if_neg g22, if_neg g22]
      by_cases g23 : x = 23
      · rw [if_pos g23, if_pos g23]
      rw [if_neg g23, if_neg g23]
      by_cases g24 : x = 24
      · rw [if_pos g24, if_pos g24]
      rw [if_neg g24, if_neg g24]
