/-! runs -/
theorem zev_c {μ : zMu} {F G : Nat → Int32} {a : Nat} (e : ∀ j, j < 6 → F j = G j) : ∀ k, (∀ j, j < k → zi (μ.1 44 (a + j)) 0 5) → zev μ F a k = zev μ G a k := by
  intro k
  induction k with
  | zero => intro _; rfl
  | succ k ih =>
    intro h
    have v := h k (by omega)
    unfold zi at v
    unfold zev
    rw [ih fun j hj => h j (by omega), e _ (by omega)]
theorem zver_c {μ : zMu} {F G : Nat → Int32} {w : Int32} {p : Nat} (e : ∀ j, j < 6 → F j = G j) (hv : zVl μ p) (hs : zVs μ) : ∀ k i, i + k = (μ.1 36 p).toInt.toNat → zver μ F w p k i = zver μ G w p k i := by
  intro k
  induction k with
  | zero => intro i _; rfl
  | succ k ih =>
    intro i hi
    obtain ⟨w1, w2, w3, w4, w5, w6⟩ := hv.2.1 i (by omega)
    have v42 := hs.1
    unfold zi at v42
    unfold zver
    rw [ih (i + 1) (by omega), zev_c e _ (fun j hj => (hs.2.1 _ (by omega)).2.1)]
/-- dry by the law -/
def zdry (h : ai_H) (t : Nat) (x kn : Int32) : Int32 := if (zMv h).2 35 = 0 then 0 else zver (zMv h) (zfac (zsl (zMv h) 0) t x kn 0) 5 0 ((zMv h).1 36 0).toInt.toNat 0
theorem zver_01 {μ : zMu} {F : Nat → Int32} {w : Int32} {p : Nat} (hv : zVl μ p) : ∀ k i, i + k = (μ.1 36 p).toInt.toNat → zver μ F w p k i = 0 ∨ zver μ F w p k i = 1 := by
  intro k
  induction k with
  | zero => intro i _; exact Or.inl rfl
  | succ k ih =>
    intro i hi
    obtain ⟨w1, -⟩ := hv.2.1 i (by omega)
    unfold zi at w1
    unfold zver
    split
    · rw [z_eq, z_eq]
      simp only [zl0, zl1, zl2, zl3, zl4, zl5, zl6, zl7, zl8, zl9, zl10, zl12, zl15, zl16, zl20, zl22, zl23, zl24, zl27, zl30, zl31, zl32, zl40, zl46, zl48, zl50, zl57, zl59, zl60, zl61, zl62, zl63, zl80, zl96, zl97, zl99, zl100, zl122, zl255, zl360, zl500, zl999, zl9999, zl60000, zl99999, zl16777215, zl1073741824, zlm1, zlm2, zlm3]
      omega
    · exact ih (i + 1) (by omega)
theorem X169 {h : ai_H} {t : Nat} (d : Nat) (x kn : Int32) (hr : zR h) (ht : t < zn (zsl (zMv h) 0) 1) : ∃ h1, ai_X (d + 5) 169 [.inr (.inr (31, 0, 128)), .inl (nI t), .inl x, .inl kn] h = some ([.inl (zdry h t x kn)], h1) ∧ zF zXS h h1 := by
  obtain ⟨y, y1, y2⟩ := hr.1.2.2.2.2.2.2.2
  have y2' := y2
  obtain ⟨-, y0, -, -, -, -, g0, -, -, -, g4, -⟩ := y2
  have h32 : ∀ d', ai_X (d' + 1) 32 [.inr (.inr (24, 0, y))] h = some ([.inl (nI (if (zMv h).2 35 = 0 then [] else zlaw (zMv h) 0).length)], h) := fun d' => by
    rw [T32, g0]
    show some ([Sum.inl (nI (h.2.2.2.1 y0).2)], h) = _
    rw [g4]
  rw [T169, y1]
  simp only [ai_oo, h32, z_bi]
  unfold zdry
  by_cases c : (zMv h).2 35 = 0
  · rw [if_pos c, if_pos c]
    exact ⟨h, by rw [if_pos (show nI (([] : List (Int32 × Int32 × List Int32)).length) = 0 from rfl), z_b0], zF_rf⟩
  · have hv := hr.2.1.2.2.2.2.2.2.2.2 c
    have hs := hr.2.1.2.2.2.2.2.2.1
    have v36 := hv.1
    unfold zi at v36
    rw [if_neg c] at y2'
    rw [if_neg c, if_neg c, zlaw_len]
    by_cases c0 : ((zMv h).1 36 0).toInt.toNat = 0
    · rw [c0]
      exact ⟨h, by rw [if_pos (show nI 0 = 0 from rfl), z_b0]; rfl, zF_rf⟩
    · have n0 : ¬ nI ((zMv h).1 36 0).toInt.toNat = 0 := fun q => c0 ((nI_eq (show ((zMv h).1 36 0).toInt.toNat < 2 ^ 31 by omega) (show 0 < 2 ^ 31 by decide)).mp q)
      obtain ⟨h4, a1, a2, a3, -⟩ := X168 (d + 1) x kn 0 hr ht
      have hr4 := zR_x hr a2
      have eV := zMv_x a2
      obtain ⟨y', u1, u2⟩ := hr4.1.2.2.2.2.2.2.2
      have ey : y' = y := by
        rw [show h4.2.2.1 128 9 = h.2.2.1 128 9 by rw [a2.2], y1] at u1
        exact (Option.some.inj u1).symm
      rw [ey, eV, if_neg c] at u2
      have hX := X33 (h := h4) (μ := zMv h) (y := y) (b2 := 16392) (p := 0) (d + 1) 5 u2 hv hs hr.2.1.1.2.1
      rw [zver_c (G := zfac (zsl (zMv h) 0) t x kn 0) a3 hv hs _ 0 (by omega)] at hX
      refine ⟨h4, ?_, a2⟩
      rw [if_neg n0, a1]
      simp only [z_bv]
      rw [show h4.2.2.1 128 9 = some y by rw [a2.2]; exact y1]
      simp only [ai_oo, hX, z_bi]
      unfold ai_b01
      rw [if_pos (zver_01 hv _ 0 (by omega))]
theorem M245 {h : ai_H} {t : Nat} (d : Nat) (x kn : Int32) (hr : zR h) (ht : t < zn (zsl (zMv h) 0) 1) : ∃ h1, ai_X (d + 4) 245 [.inr (.inr (32, 0, 16128)), .inl (nI t), .inl x, .inl kn] h = some ([.inl (zdry h t x kn)], h1) ∧ zF zMS h h1 ∧ ∀ q, q ≠ 2064446 → q ≠ 2064447 → h1.1 q = h.1 q := by
  obtain ⟨h1, a1, a2, a3, a4⟩ := M243 d x kn 0 hr ht
  have eV := zMv_m a2
  have m35 : h1.1 16128 35 = (zMv h).2 35 := by rw [← eV]; exact (zMv2 (by decide)).symm
  rw [T245, a1]
  simp only [z_bv, m35]
  unfold zdry
  by_cases c : (zMv h).2 35 = 0
  · rw [if_pos c, if_pos c, z_b0]
    exact ⟨h1, rfl, a2, fun q n1 _ => a4 q n1⟩
  · have hv := hr.2.1.2.2.2.2.2.2.2.2 c
    have hs := hr.2.1.2.2.2.2.2.2.1
    have v36 := hv.1
    unfold zi at v36
    obtain ⟨h2, q1, q2, q3⟩ := M244 (h := h1) (p := 0) (d + 1) 5 (by decide) (by rw [eV]; exact hv) (by rw [eV]; exact hs) (by rw [eV]; exact hr.2.1.1.2.1)
    rw [eV, zver_c (G := zfac (zsl (zMv h) 0) t x kn 0) a3 hv hs _ 0 (by omega)] at q1
    rw [if_neg c, if_neg c, show ai_X (d + 3) 244 [.inr (.inr (32, 0, 16128)), .inl 0, .inl 5] h1 = _ from q1]
    simp only [z_bi, z_b0, z_b1]
    refine ⟨h2, ?_, zF_tr a2 q2, fun q n1 n2 => (q3 q n2).trans (a4 q n1)⟩
    rcases zver_01 (F := zfac (zsl (zMv h) 0) t x kn 0) (w := 5) hv _ 0 (Nat.zero_add _) with e | e
    · rw [e, if_pos rfl]
    · rw [e, if_neg (by decide)]
theorem P_runs (t x kn : Int32) : zPr 120 258 [.inl t, .inl x, .inl kn] := zPr_q fun d h hr => by
  obtain ⟨b0, b1, b2, b8, b5, b4, b3, V⟩ := zR_b hr
  by_cases c : 0 ≤ t.toInt ∧ t.toInt < (zn (zsl (zMv h) 0) 1 : Int)
  · by_cases c1 : 0 ≤ x.toInt ∧ x.toInt ≤ 999
    · by_cases c2 : 0 ≤ kn.toInt ∧ kn.toInt ≤ 999
      · obtain ⟨t, ht, rfl⟩ := z_rng c
        by_cases s : zshut (zsl (zMv h) 0) (nI t) x kn = true
        · refine ⟨1, h, h, ?_, zF_rf, ?_, zF_rf⟩
          · rw [T120, X153 _ _ b1.1 b1.2.2]
            simp only [z_bi, zb_0]
            rw [if_neg (fun q => q c), X147]
            simp only [z_bi, zb_0]
            rw [if_neg (fun q => q c1), X147]
            simp only [z_bi, zb_0]
            rw [if_neg (fun q => q c2), X166 _ _ _ _ hr]
            simp only [z_bi, zb_0]
            rw [if_neg (fun q => q s)]
          · rw [T258, M195 _ _ b1.2.1 (by omega)]
            simp only [z_bi, zb_0]
            rw [if_neg (fun q => q c), M187]
            simp only [z_bi, zb_0]
            rw [if_neg (fun q => q c1), M187]
            simp only [z_bi, zb_0]
            rw [if_neg (fun q => q c2), M222 _ _ _ _ hr]
            simp only [z_bi, zb_0]
            rw [if_neg (fun q => q s)]
        · obtain ⟨h1, a1, a2⟩ := X169 (d + 54) x kn hr ht
          have hr1 := zR_x hr a2
          have eV := zMv_x a2
          obtain ⟨h2, q1, q2, -⟩ := M245 (d + 55) x kn hr1 (by rw [eV]; exact ht)
          have ez : zdry h1 t x kn = zdry h t x kn := by unfold zdry; rw [eV]
          have m1 : h1.1 2064386 0 = nI (zn (zsl (zMv h) 0) 1) := by rw [a2.1 _ _ (fun q => by have := zXS_r q; revert this; decide)]; exact b1.2.1
          rw [ez] at q1
          refine ⟨if zdry h t x kn = 0 then 0 else 2, h1, h2, ?_, a2, ?_, q2⟩
          · rw [T120, X153 _ _ b1.1 b1.2.2]
            simp only [z_bi, zb_0]
            rw [if_neg (fun q => q c), X147]
            simp only [z_bi, zb_0]
            rw [if_neg (fun q => q c1), X147]
            simp only [z_bi, zb_0]
            rw [if_neg (fun q => q c2), X166 _ _ _ _ hr]
            simp only [z_bi, zb_0]
            rw [if_pos s, a1]
            simp only [z_bi]
            by_cases z : zdry h t x kn = 0
            · rw [if_pos z, if_pos z]
            · rw [if_neg z, if_neg z]
          · rw [T258, M195 _ _ m1 (by omega)]
            simp only [z_bi, zb_0]
            rw [if_neg (fun q => q c), M187]
            simp only [z_bi, zb_0]
            rw [if_neg (fun q => q c1), M187]
            simp only [z_bi, zb_0]
            rw [if_neg (fun q => q c2), M222 _ _ _ _ hr1, eV]
            simp only [z_bi, zb_0]
            rw [if_pos s, q1]
            simp only [z_bi]
            by_cases z : zdry h t x kn = 0
            · rw [if_pos z, if_pos z]
            · rw [if_neg z, if_neg z]
      · refine ⟨-1, h, h, ?_, zF_rf, ?_, zF_rf⟩
        · rw [T120, X153 _ _ b1.1 b1.2.2]
          simp only [z_bi, zb_0]
          rw [if_neg (fun q => q c), X147]
          simp only [z_bi, zb_0]
          rw [if_neg (fun q => q c1), X147]
          simp only [z_bi, zb_0]
          rw [if_pos c2]
        · rw [T258, M195 _ _ b1.2.1 (by omega)]
          simp only [z_bi, zb_0]
          rw [if_neg (fun q => q c), M187]
          simp only [z_bi, zb_0]
          rw [if_neg (fun q => q c1), M187]
          simp only [z_bi, zb_0]
          rw [if_pos c2]
    · refine ⟨-1, h, h, ?_, zF_rf, ?_, zF_rf⟩
      · rw [T120, X153 _ _ b1.1 b1.2.2]
        simp only [z_bi, zb_0]
        rw [if_neg (fun q => q c), X147]
        simp only [z_bi, zb_0]
        rw [if_pos c1]
      · rw [T258, M195 _ _ b1.2.1 (by omega)]
        simp only [z_bi, zb_0]
        rw [if_neg (fun q => q c), M187]
        simp only [z_bi, zb_0]
        rw [if_pos c1]
  · refine ⟨-1, h, h, ?_, zF_rf, ?_, zF_rf⟩
    · rw [T120, X153 _ _ b1.1 b1.2.2]
      simp only [z_bi, zb_0]
      rw [if_pos c]
    · rw [T258, M195 _ _ b1.2.1 (by omega)]
      simp only [z_bi, zb_0]
      rw [if_pos c]
