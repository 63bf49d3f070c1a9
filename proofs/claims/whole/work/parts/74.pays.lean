/-! WHO PAYS: payers, pays -/
def zpyv (h : ai_H) (tr t : Nat) (w c : Int32) : Int32 := zver (zMv h) (zfac (zsl (zMv h) 0) t (zsl (zMv h) 0 3 0) (zsl (zMv h) 0 3 0) c) w (1 + tr) ((zMv h).1 36 (1 + tr)).toInt.toNat 0
abbrev zpay (h : ai_H) (t : Nat) (w c : Int32) (tr : Nat) : Prop := ((zMv h).1 37 tr).toInt.toNat.testBit t = true ∧ ¬ zpyv h tr t w c = 0
theorem zpyv_V {h h1 : ai_H} {tr t : Nat} {w c : Int32} (e : zMv h1 = zMv h) : zpyv h1 tr t w c = zpyv h tr t w c := by
  unfold zpyv
  rw [e]
theorem zR_tr {h : ai_H} (hr : zR h) : h.1 16388 0 = nI (zg (zMv h) 33) ∧ h.1 16128 33 = nI (zg (zMv h) 33) ∧ zg (zMv h) 33 ≤ 5 := by
  have v33 := hr.2.1.1.2.1
  unfold zi at v33
  have e : (zMv h).2 33 = nI (zg (zMv h) 33) := z_nat v33.1
  exact ⟨hr.1.2.2.2.2.2.1.trans e, ((zMv2 (by decide)).symm).trans e, by unfold zg; omega⟩
theorem zpyv_01 {h : ai_H} {tr t : Nat} {w c : Int32} (hr : zR h) (ht : tr < zg (zMv h) 33) : zpyv h tr t w c = 0 ∨ zpyv h tr t w c = 1 := zver_01 (hr.2.1.2.2.2.2.2.2.2.1 tr ht) _ 0 (Nat.zero_add _)
theorem z_on {y : Nat} {f : Nat → Option ai_R} {g : Option ai_R} : ai_on (some y) f g = f y := rfl
theorem X176 {h : ai_H} {t : Nat} (d : Nat) (w c : Int32) (hr : zR h) (ht : t < zn (zsl (zMv h) 0) 1) : ∃ h1, ai_X (d + 5) 176 [.inr (.inr (31, 0, 128)), .inl (nI t), .inl w, .inl c] h = some ([.inl (nI (zB (zpay h t w c) (zg (zMv h) 33)))], h1) ∧ zF zXS h h1 ∧ ∀ q, q ≠ 16392 → h1.1 q = h.1 q := by
  obtain ⟨b0, b1, b2, b8, b5, b4, b3, V⟩ := zR_b hr
  obtain ⟨t1, t2, t3⟩ := zR_tr hr
  obtain ⟨h1, a1, a2, a3, a4⟩ := X168 (h := h) (t := t) (d + 1) (zsl (zMv h) 0 3 0) (zsl (zMv h) 0 3 0) c hr ht
  have hr1 := zR_x hr a2
  have eV := zMv_x a2
  obtain ⟨u1, u2, u3⟩ := zR_tr hr1
  rw [eV] at u1 u2 u3
  have hs := hr.2.1.2.2.2.2.2.2.1
  have K : ∀ k i, i + k = zg (zMv h) 33 → ∀ z7, ai_E (d + 4) 176 28 [some (.inr (.inr (31, 0, 128))), some (.inl (nI t)), some (.inl w), some (.inl c), some (.inl (zsl (zMv h) 0 3 0)), some (.inl (nI (zB (zpay h t w c) i))), some (.inl (nI i)), z7] [] h1 = some ([.inl (nI (zB (zpay h t w c) (zg (zMv h) 33)))], h1) := by
    intro k
    induction k with
    | zero =>
      intro i hi z7
      have hi : i = zg (zMv h) 33 := by omega
      subst hi
      rw [T176_28, u1, if_pos (by rw [z_le]; omega)]
    | succ k ih =>
      intro i hi z7
      have ih := ih (i + 1) (by omega)
      have i5 : ∀ f : Nat → Option ai_R, ai_ix (nI i) 5 f = f i := fun f => z_ix (by omega) (by decide)
      obtain ⟨e37, y, y1, y2⟩ := hr1.1.2.2.2.2.2.2.1 i (by rw [eV]; omega)
      rw [eV] at e37 y2
      have hv := hr.2.1.2.2.2.2.2.2.2.1 i (by omega)
      have v37 := (hr.2.1.2.2.2.1.1 i (by omega)).2
      unfold zi at v37
      have n37 : (zMv h).1 37 i = nI ((zMv h).1 37 i).toInt.toNat := z_nat v37.1
      have hX := X33 (h := h1) (μ := zMv h) (y := y) (b2 := 16392) (p := 1 + i) (d + 1) w y2 hv hs hr.2.1.1.2.1
      rw [zver_c (G := zfac (zsl (zMv h) 0) t (zsl (zMv h) 0 3 0) (zsl (zMv h) 0 3 0) c) a3 hv hs _ 0 (by omega)] at hX
      have hX : ai_X (d + 4) 33 [.inr (.inr (24, 0, y)), .inl w, .inr (.inr (1, 11, 16392))] h1 = some ([.inl (zpyv h i t w c)], h1) := hX
      rw [zB_s] at ih
      rw [T176_28, u1, if_neg (by rw [nI_leI (by omega) (by omega)]; omega), i5, y1, z_on, i5, e37, n37, X159 _ _ _ _ (by omega) (by omega)]
      simp only [z_bi, zb_0, nI_1]
      by_cases c1 : ((zMv h).1 37 i).toInt.toNat.testBit t = true
      · rw [if_neg (fun q => q c1), hX]
        simp only [z_bi]
        by_cases c2 : zpyv h i t w c = 0
        · rw [if_pos c2]
          rw [if_neg (fun q => q.2 c2)] at ih
          exact ih _
        · rw [if_neg c2, z_bit (by omega), z_or]
          rw [if_pos ⟨c1, c2⟩] at ih
          exact ih _
      · rw [if_pos c1]
        rw [if_neg (fun q => c1 q.1)] at ih
        exact ih _
  refine ⟨h1, ?_, a2, a4⟩
  rw [T176, b3.1, a1]
  simp only [z_bv]
  exact K _ 0 (Nat.zero_add _) _
theorem M277 {h : ai_H} {t tr : Nat} (d : Nat) (w c : Int32) (hr : zR h) (ht : t < zn (zsl (zMv h) 0) 1) (htr : tr < zg (zMv h) 33) : ∃ h1, ai_X (d + 4) 277 [.inr (.inr (32, 0, 16128)), .inl (nI tr), .inl (nI t), .inl w, .inl c] h = some ([.inl (zb (zpay h t w c tr))], h1) ∧ zF zMS h h1 ∧ ∀ q, q ≠ 2064446 → q ≠ 2064447 → h1.1 q = h.1 q := by
  obtain ⟨b0, b1, b2, b8, b5, b4, b3, V⟩ := zR_b hr
  obtain ⟨t1, t2, t3⟩ := zR_tr hr
  have i0 : ∀ f : Nat → Option ai_R, ai_ix 0 4 f = f 0 := fun f => z_i0 (by decide) (by decide)
  have i5 : ∀ f : Nat → Option ai_R, ai_ix (nI tr) 5 f = f tr := fun f => z_ix (by omega) (by decide)
  have v37 := (hr.2.1.2.2.2.1.1 tr htr).2
  unfold zi at v37
  have n37 : (zMv h).1 37 tr = nI ((zMv h).1 37 tr).toInt.toNat := z_nat v37.1
  have m37 : h.1 2064422 tr = nI ((zMv h).1 37 tr).toInt.toNat := ((zMv1 (f := 37) (by omega)).symm).trans n37
  have hv := hr.2.1.2.2.2.2.2.2.2.1 tr htr
  have hs := hr.2.1.2.2.2.2.2.2.1
  rw [T277, i5, m37]
  simp only [z_tb0 (show ((zMv h).1 37 tr).toInt.toNat < 2147483648 by omega) (show t < 32 by omega), i0, b3.2.1, z_b0]
  by_cases c1 : ((zMv h).1 37 tr).toInt.toNat.testBit t = true
  · rw [if_neg (by rw [c1]; decide)]
    obtain ⟨h1, a1, a2, a3, a4⟩ := M243 (h := h) (t := t) d (zsl (zMv h) 0 3 0) (zsl (zMv h) 0 3 0) c hr ht
    have eV := zMv_m a2
    obtain ⟨h2, q1, q2, q3⟩ := M244 (h := h1) (p := 1 + tr) (d + 1) w (by omega) (by rw [eV]; exact hv) (by rw [eV]; exact hs) (by rw [eV]; exact hr.2.1.1.2.1)
    rw [eV, zver_c (G := zfac (zsl (zMv h) 0) t (zsl (zMv h) 0 3 0) (zsl (zMv h) 0 3 0) c) a3 hv hs _ 0 (by omega)] at q1
    rw [a1]
    simp only [z_bv]
    rw [show (1 : Int32) + nI tr = nI (1 + tr) from nI_add 1 tr, q1]
    simp only [z_bi]
    refine ⟨h2, ?_, zF_tr a2 q2, fun q n1 n2 => (q3 q n2).trans (a4 q n1)⟩
    have e01 := zpyv_01 (h := h) (tr := tr) (t := t) (w := w) (c := c) hr htr
    have ev : zver (zMv h) (zfac (zsl (zMv h) 0) t (zsl (zMv h) 0 3 0) (zsl (zMv h) 0 3 0) c) w (1 + tr) ((zMv h).1 36 (1 + tr)).toInt.toNat 0 = zpyv h tr t w c := rfl
    rw [ev]
    rcases e01 with e | e
    · rw [zb_f (p := zpay h t w c tr) (fun q => q.2 e), e, z_b0]
    · rw [zb_t (p := zpay h t w c tr) ⟨c1, by rw [e]; decide⟩, e, z_b1]
  · rw [if_pos (by rw [Bool.not_eq_true] at c1; exact c1), zb_f (fun q => c1 q.1)]
    exact ⟨h, rfl, zF_rf, fun _ _ _ => rfl⟩
theorem zpay_V {h h1 : ai_H} {tr t : Nat} {w c : Int32} (e : zMv h1 = zMv h) : zpay h1 t w c tr ↔ zpay h t w c tr := by
  unfold zpay
  rw [zpyv_V e, e]
theorem P_payers (t w c : Int32) : zPr 116 279 [.inl t, .inl w, .inl c] := zPr_q fun d h hr => by
  obtain ⟨b0, b1, b2, b8, b5, b4, b3, V⟩ := zR_b hr
  obtain ⟨t1, t2, t3⟩ := zR_tr hr
  by_cases c1 : 0 ≤ t.toInt ∧ t.toInt < (zn (zsl (zMv h) 0) 1 : Int)
  · by_cases c2 : 0 ≤ w.toInt ∧ w.toInt ≤ 4
    · by_cases c3 : 1 ≤ c.toInt ∧ c.toInt ≤ 9999
      · obtain ⟨t, ht, rfl⟩ := z_rng c1
        obtain ⟨h1, a1, a2, a3⟩ := X176 (h := h) (t := t) (d + 54) w c hr ht
        have hr1 := zR_x hr a2
        have eV := zMv_x a2
        have K : ∀ k i, i + k = zg (zMv h) 33 → ∀ g, zF zMS h1 g → ∃ h2, ai_E (d + 59) 279 36 [some (.inr (.inr (32, 0, 16128))), some (.inl (nI t)), some (.inl w), some (.inl c), some (.inl (nI (zB (zpay h t w c) i))), some (.inl (nI i))] [] g = some ([.inl (nI (zB (zpay h t w c) (zg (zMv h) 33)))], h2) ∧ zF zMS h1 h2 := by
          intro k
          induction k with
          | zero =>
            intro i hi g fg
            have hi : i = zg (zMv h) 33 := by omega
            subst hi
            obtain ⟨u1, u2, u3⟩ := zR_tr (zR_m hr1 fg)
            rw [zMv_m fg, eV] at u2
            exact ⟨g, by rw [T279_36, u2, if_pos (by rw [z_le]; omega)], fg⟩
          | succ k ih =>
            intro i hi g fg
            have ih := ih (i + 1) (by omega)
            have hrg := zR_m hr1 fg
            have eg : zMv g = zMv h := (zMv_m fg).trans eV
            obtain ⟨u1, u2, u3⟩ := zR_tr hrg
            rw [eg] at u2
            obtain ⟨g1, q1, q2, q3⟩ := M277 (h := g) (t := t) (tr := i) (d + 55) w c hrg (by rw [eg]; exact ht) (by rw [eg]; omega)
            rw [zb_c (zpay_V eg)] at q1
            rw [zB_s] at ih
            rw [T279_36, u2, if_neg (by rw [nI_leI (by omega) (by omega)]; omega), q1]
            simp only [z_bi, zb_0, nI_1, Int32.or_zero]
            by_cases c : zpay h t w c i
            · rw [if_neg (fun q => q c), z_bit (by omega), z_or]
              rw [if_pos c] at ih
              exact ih g1 (zF_tr fg q2)
            · rw [if_pos c]
              rw [if_neg c] at ih
              exact ih g1 (zF_tr fg q2)
        obtain ⟨h2, q1, q2⟩ := K _ 0 (Nat.zero_add _) h1 zF_rf
        have m1 : h1.1 2064386 0 = nI (zn (zsl (zMv h) 0) 1) := by rw [a3 _ (by decide)]; exact b1.2.1
        refine ⟨nI (zB (zpay h t w c) (zg (zMv h) 33)), h1, h2, ?_, a2, ?_, q2⟩
        · rw [T116, X156 _ _ _ _ b1.1 b1.2.2]
          simp only [z_bi, zb_0]
          rw [if_neg (fun q => q ⟨c1, c2, c3⟩), a1]
          simp only [z_bi]
        · rw [T279, M195 _ _ m1 (by omega)]
          simp only [z_bi, zb_0]
          rw [if_neg (fun q => q c1), M186]
          simp only [z_bi, zb_0, zl0, zl1, zl2, zl3, zl4, zl5, zl6, zl7, zl8, zl9, zl10, zl12, zl15, zl16, zl20, zl22, zl23, zl24, zl27, zl30, zl31, zl32, zl40, zl46, zl48, zl50, zl57, zl59, zl60, zl61, zl62, zl63, zl80, zl96, zl97, zl99, zl100, zl122, zl255, zl360, zl500, zl999, zl9999, zl60000, zl99999, zl16777215, zl1073741824, zlm1, zlm2, zlm3]
          rw [if_neg (fun q => q c2), M186]
          simp only [z_bi, zb_0, zl0, zl1, zl2, zl3, zl4, zl5, zl6, zl7, zl8, zl9, zl10, zl12, zl15, zl16, zl20, zl22, zl23, zl24, zl27, zl30, zl31, zl32, zl40, zl46, zl48, zl50, zl57, zl59, zl60, zl61, zl62, zl63, zl80, zl96, zl97, zl99, zl100, zl122, zl255, zl360, zl500, zl999, zl9999, zl60000, zl99999, zl16777215, zl1073741824, zlm1, zlm2, zlm3]
          rw [if_neg (fun q => q c3)]
          exact q1
      · refine ⟨-1, h, h, ?_, zF_rf, ?_, zF_rf⟩
        · rw [T116, X156 _ _ _ _ b1.1 b1.2.2]
          simp only [z_bi, zb_0]
          rw [if_pos (fun q => c3 q.2.2)]
        · rw [T279, M195 _ _ b1.2.1 (by omega)]
          simp only [z_bi, zb_0]
          rw [if_neg (fun q => q c1), M186]
          simp only [z_bi, zb_0, zl0, zl1, zl2, zl3, zl4, zl5, zl6, zl7, zl8, zl9, zl10, zl12, zl15, zl16, zl20, zl22, zl23, zl24, zl27, zl30, zl31, zl32, zl40, zl46, zl48, zl50, zl57, zl59, zl60, zl61, zl62, zl63, zl80, zl96, zl97, zl99, zl100, zl122, zl255, zl360, zl500, zl999, zl9999, zl60000, zl99999, zl16777215, zl1073741824, zlm1, zlm2, zlm3]
          rw [if_neg (fun q => q c2), M186]
          simp only [z_bi, zb_0, zl0, zl1, zl2, zl3, zl4, zl5, zl6, zl7, zl8, zl9, zl10, zl12, zl15, zl16, zl20, zl22, zl23, zl24, zl27, zl30, zl31, zl32, zl40, zl46, zl48, zl50, zl57, zl59, zl60, zl61, zl62, zl63, zl80, zl96, zl97, zl99, zl100, zl122, zl255, zl360, zl500, zl999, zl9999, zl60000, zl99999, zl16777215, zl1073741824, zlm1, zlm2, zlm3]
          rw [if_pos c3]
    · refine ⟨-1, h, h, ?_, zF_rf, ?_, zF_rf⟩
      · rw [T116, X156 _ _ _ _ b1.1 b1.2.2]
        simp only [z_bi, zb_0]
        rw [if_pos (fun q => c2 q.2.1)]
      · rw [T279, M195 _ _ b1.2.1 (by omega)]
        simp only [z_bi, zb_0]
        rw [if_neg (fun q => q c1), M186]
        simp only [z_bi, zb_0, zl0, zl1, zl2, zl3, zl4, zl5, zl6, zl7, zl8, zl9, zl10, zl12, zl15, zl16, zl20, zl22, zl23, zl24, zl27, zl30, zl31, zl32, zl40, zl46, zl48, zl50, zl57, zl59, zl60, zl61, zl62, zl63, zl80, zl96, zl97, zl99, zl100, zl122, zl255, zl360, zl500, zl999, zl9999, zl60000, zl99999, zl16777215, zl1073741824, zlm1, zlm2, zlm3]
        rw [if_pos c2]
  · refine ⟨-1, h, h, ?_, zF_rf, ?_, zF_rf⟩
    · rw [T116, X156 _ _ _ _ b1.1 b1.2.2]
      simp only [z_bi, zb_0]
      rw [if_pos (fun q => c1 q.1)]
    · rw [T279, M195 _ _ b1.2.1 (by omega)]
      simp only [z_bi, zb_0]
      rw [if_pos c1]
/-- a job's tap, work and cost, both sides -/
theorem zR_job {h : ai_H} (hr : zR h) {j : Nat} (hj : j < zn (zsl (zMv h) 0) 5) : (h.1 268452226 j = zsl (zMv h) 0 27 j ∧ h.1 268452227 j = zsl (zMv h) 0 28 j ∧ h.1 268452228 j = zsl (zMv h) 0 29 j ∧ h.1 268452230 j = zsl (zMv h) 0 31 j ∧ h.1 268452231 j = zsl (zMv h) 0 18 j) ∧
    (h.1 2064412 j = zsl (zMv h) 0 27 j ∧ h.1 2064413 j = zsl (zMv h) 0 28 j ∧ h.1 2064414 j = zsl (zMv h) 0 29 j ∧ h.1 2064416 j = zsl (zMv h) 0 31 j ∧ h.1 2064403 j = zsl (zMv h) 0 18 j) ∧ ∃ t, t < zn (zsl (zMv h) 0) 1 ∧ zsl (zMv h) 0 27 j = nI t := by
  obtain ⟨b0, b1, b2, b8, b5, b4, b3, V⟩ := zR_b hr
  have hJ := zJ_lit.mp hr.1.1.2.2.1
  obtain ⟨e1, e2, e3, e4, e5, e6⟩ := hJ.2 j hj
  have v := (V.2.2.2.2.2 j hj).1
  unfold zi at v
  exact ⟨⟨e1, e2, e3, e5, e6⟩, ⟨(zs0 (f := 27) (by omega)).symm, (zs0 (f := 28) (by omega)).symm, (zs0 (f := 29) (by omega)).symm, (zs0 (f := 31) (by omega)).symm, (zs0 (f := 18) (by omega)).symm⟩, (zsl (zMv h) 0 27 j).toInt.toNat, by omega, z_nat v.1⟩
/-- may a trust pay a job -/
abbrev zpj (h : ai_H) (j tr : Nat) : Prop := zpay h (zsl (zMv h) 0 27 j).toInt.toNat (zsl (zMv h) 0 28 j) (zsl (zMv h) 0 29 j) tr
theorem zpj_V {h h1 : ai_H} {j tr : Nat} (e : zMv h1 = zMv h) : zpj h1 j tr ↔ zpj h j tr := by
  unfold zpj
  rw [zpay_V e, e]
theorem X177 {h : ai_H} {j : Nat} (d : Nat) (hr : zR h) (hj : j < zn (zsl (zMv h) 0) 5) : ∃ h1, ai_X (d + 6) 177 [.inr (.inr (31, 0, 128)), .inl (nI j)] h = some ([.inl (nI (zB (zpj h j) (zg (zMv h) 33)))], h1) ∧ zF zXS h h1 ∧ ∀ q, q ≠ 16392 → h1.1 q = h.1 q := by
  obtain ⟨b0, b1, b2, b8, b5, b4, b3, V⟩ := zR_b hr
  obtain ⟨⟨e1, e2, e3, e5, e6⟩, -, t, ht, et⟩ := zR_job hr hj
  have i40 : ∀ f : Nat → Option ai_R, ai_ix (nI j) 40 f = f j := fun f => z_ix (by omega) (by decide)
  obtain ⟨h1, a1, a2, a3⟩ := X176 (h := h) (t := t) d (zsl (zMv h) 0 28 j) (zsl (zMv h) 0 29 j) hr ht
  have en : (zsl (zMv h) 0 27 j).toInt.toNat = t := by rw [et, z_T (by omega)]; rfl
  refine ⟨h1, ?_, a2, a3⟩
  have a1' : ai_X (d + 5) 176 [.inr (.inr (31, 0, 128)), .inl (zsl (zMv h) 0 27 j), .inl (zsl (zMv h) 0 28 j), .inl (zsl (zMv h) 0 29 j)] h = some ([.inl (nI (zB (zpay h t (zsl (zMv h) 0 28 j) (zsl (zMv h) 0 29 j)) (zg (zMv h) 33)))], h1) := by
    rw [et]
    exact a1
  rw [T177, i40, i40, i40, e1, e2, e3, a1']
  simp only [z_bi]
  unfold zpj
  rw [en]
theorem M277j {h : ai_H} {j tr : Nat} (d : Nat) (hr : zR h) (hj : j < zn (zsl (zMv h) 0) 5) (htr : tr < zg (zMv h) 33) : ∃ h1, ai_X (d + 4) 277 [.inr (.inr (32, 0, 16128)), .inl (nI tr), .inl (zsl (zMv h) 0 27 j), .inl (zsl (zMv h) 0 28 j), .inl (zsl (zMv h) 0 29 j)] h = some ([.inl (zb (zpj h j tr))], h1) ∧ zF zMS h h1 ∧ ∀ q, q ≠ 2064446 → q ≠ 2064447 → h1.1 q = h.1 q := by
  obtain ⟨b0, b1, b2, b8, b5, b4, b3, V⟩ := zR_b hr
  obtain ⟨-, -, t, ht, et⟩ := zR_job hr hj
  have en : (zsl (zMv h) 0 27 j).toInt.toNat = t := by rw [et, z_T (by omega)]; rfl
  unfold zpj
  rw [en, et]
  exact M277 d _ _ hr ht htr
theorem P_pays (x y : Int32) : zPr 115 278 [.inl x, .inl y] := zPr_q fun d h hr => by
  obtain ⟨b0, b1, b2, b8, b5, b4, b3, V⟩ := zR_b hr
  obtain ⟨t1, t2, t3⟩ := zR_tr hr
  have lm : (nI (zg (zMv h) 33) - 1).toInt = (zg (zMv h) 33 : Int) - 1 := by rw [z_sub] <;> rw [z_T (by omega)] <;> simp only [zl0, zl1, zl2, zl3, zl4, zl5, zl6, zl7, zl8, zl9, zl10, zl12, zl15, zl16, zl20, zl22, zl23, zl24, zl27, zl30, zl31, zl32, zl40, zl46, zl48, zl50, zl57, zl59, zl60, zl61, zl62, zl63, zl80, zl96, zl97, zl99, zl100, zl122, zl255, zl360, zl500, zl999, zl9999, zl60000, zl99999, zl16777215, zl1073741824, zlm1, zlm2, zlm3] <;> omega
  have M0 : ∀ g : ai_H, g.1 16128 33 = nI (zg (zMv h) 33) → ai_X (d + 59) 186 [.inl x, .inl 0, .inl ((g.1 16128 33) - 1)] g = some ([.inl (zb (0 ≤ x.toInt ∧ x.toInt < (zg (zMv h) 33 : Int)))], g) := fun g hg => by
    rw [hg, M186, lm]
    exact congrArg (fun z => some ([Sum.inl z], g)) (zb_c (by simp only [zl0]; omega))
  by_cases c1 : 0 ≤ x.toInt ∧ x.toInt < (zg (zMv h) 33 : Int)
  · by_cases c2 : 0 ≤ y.toInt ∧ y.toInt < (zn (zsl (zMv h) 0) 5 : Int)
    · obtain ⟨tr, htr, rfl⟩ := z_rng c1
      obtain ⟨j, hj, rfl⟩ := z_rng c2
      obtain ⟨h1, a1, a2, a3⟩ := X177 (h := h) (j := j) (d + 53) hr hj
      have hr1 := zR_x hr a2
      have eV := zMv_x a2
      obtain ⟨h2, q1, q2, q3⟩ := M277j (h := h1) (j := j) (tr := tr) (d + 55) hr1 (by rw [eV]; exact hj) (by rw [eV]; exact htr)
      rw [zb_c (zpj_V eV), eV] at q1
      obtain ⟨-, ⟨m1, m2, m3, -, -⟩, -⟩ := zR_job hr1 (j := j) (by rw [eV]; exact hj)
      rw [eV] at m1 m2 m3
      have i160 : ∀ f : Nat → Option ai_R, ai_ix (nI j) 160 f = f j := fun f => z_ix (by omega) (by decide)
      have m5 : h1.1 2064390 0 = nI (zn (zsl (zMv h) 0) 5) := by rw [a3 _ (by decide)]; exact b5.2.1
      refine ⟨zb (zpj h j tr), h1, h2, ?_, a2, ?_, q2⟩
      · rw [T115, X146c _ _ _ h (by rw [t1]) (show zg (zMv h) 33 ≤ 30000 by omega)]
        simp only [z_bi, zb_0]
        rw [if_neg (fun q => q c1), X155 _ _ b5.1 b5.2.2]
        simp only [z_bi, zb_0]
        rw [if_neg (fun q => q c2), a1]
        simp only [z_bi]
        rw [X159B _ _ (by omega) htr]
        simp only [z_bi, zb_0]
        by_cases c : zpj h j tr
        · rw [if_neg (fun q => q c), zb_t c]
        · rw [if_pos c, zb_f c]
      · rw [T278, M0 h1 (by rw [a3 _ (by decide)]; exact t2)]
        simp only [z_bi, zb_0]
        rw [if_neg (fun q => q c1), M274 _ _ m5 (by omega)]
        simp only [z_bi, zb_0]
        rw [if_neg (fun q => q c2), i160, i160, i160, m1, m2, m3, q1]
        simp only [z_bi, zb_0]
        by_cases c : zpj h j tr
        · rw [if_neg (fun q => q c), zb_t c]
        · rw [if_pos c, zb_f c]
    · refine ⟨-1, h, h, ?_, zF_rf, ?_, zF_rf⟩
      · rw [T115, X146c _ _ _ h (by rw [t1]) (show zg (zMv h) 33 ≤ 30000 by omega)]
        simp only [z_bi, zb_0]
        rw [if_neg (fun q => q c1), X155 _ _ b5.1 b5.2.2]
        simp only [z_bi, zb_0]
        rw [if_pos c2]
      · rw [T278, M0 h t2]
        simp only [z_bi, zb_0]
        rw [if_neg (fun q => q c1), M274 _ _ b5.2.1 (by omega)]
        simp only [z_bi, zb_0]
        rw [if_pos c2]
  · refine ⟨-1, h, h, ?_, zF_rf, ?_, zF_rf⟩
    · rw [T115, X146c _ _ _ h (by rw [t1]) (show zg (zMv h) 33 ≤ 30000 by omega)]
      simp only [z_bi, zb_0]
      rw [if_pos c1]
    · rw [T278, M0 h t2]
      simp only [z_bi, zb_0]
      rw [if_pos c1]
