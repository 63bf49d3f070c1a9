/-! THE PROMISES THAT TELL, one by one. Printed by gen34.py -/
theorem zR_b {h : ai_H} (hr : zR h) : (h.1 2097281 0 = nI (zn (zsl (zMv h) 0) 0) ∧ h.1 2064385 0 = nI (zn (zsl (zMv h) 0) 0) ∧ zn (zsl (zMv h) 0) 0 ≤ 24) ∧ (h.1 2097281 1 = nI (zn (zsl (zMv h) 0) 1) ∧ h.1 2064386 0 = nI (zn (zsl (zMv h) 0) 1) ∧ zn (zsl (zMv h) 0) 1 ≤ 24) ∧
    (h.1 2097281 2 = nI (zn (zsl (zMv h) 0) 2) ∧ h.1 2064387 0 = nI (zn (zsl (zMv h) 0) 2) ∧ zn (zsl (zMv h) 0) 2 ≤ 30) ∧ (h.1 2097281 3 = nI (zn (zsl (zMv h) 0) 8) ∧ h.1 2064393 0 = nI (zn (zsl (zMv h) 0) 8) ∧ zn (zsl (zMv h) 0) 8 ≤ 20) ∧
    (h.1 2097283 0 = nI (zn (zsl (zMv h) 0) 5) ∧ h.1 2064390 0 = nI (zn (zsl (zMv h) 0) 5) ∧ zn (zsl (zMv h) 0) 5 ≤ 40) ∧ (h.1 2064389 0 = nI (zn (zsl (zMv h) 0) 4) ∧ zn (zsl (zMv h) 0) 4 ≤ 600) ∧ (h.1 2097282 13 = zsl (zMv h) 0 3 0 ∧ h.1 2064388 0 = zsl (zMv h) 0 3 0 ∧ zi (zsl (zMv h) 0 3 0) 0 999) ∧ zV (zsl (zMv h) 0) := by
  obtain ⟨r1, r2, r3, r4⟩ := id hr
  have V : zV (zsl (zMv h) 0) := r2.2.1 0 (Nat.zero_le _)
  have hC : zC h 2097281 (zsl (zMv h) 0) := r1.1.1
  have hD : zD h 2097282 (zsl (zMv h) 0) := r1.1.2.1
  have hJ : zJ h 2097283 (zsl (zMv h) 0) := r1.1.2.2.1
  obtain ⟨v0, v1, v2, v8, v3, v4, v5, v6, v7⟩ := V.1
  obtain ⟨n0, l0, -⟩ := zn_eq v0
  obtain ⟨n1, l1, -⟩ := zn_eq v1
  obtain ⟨n2, l2, -⟩ := zn_eq v2
  obtain ⟨n8, l8, -⟩ := zn_eq v8
  obtain ⟨n4, l4, -⟩ := zn_eq v4
  obtain ⟨n5, l5, -⟩ := zn_eq v5
  exact ⟨⟨hC.1.trans n0, (zs0 (f := 0) (by omega)).symm.trans n0, by omega⟩, ⟨hC.2.1.trans n1, (zs0 (f := 1) (by omega)).symm.trans n1, by omega⟩, ⟨hC.2.2.1.trans n2, (zs0 (f := 2) (by omega)).symm.trans n2, by omega⟩, ⟨hC.2.2.2.1.trans n8, (zs0 (f := 8) (by omega)).symm.trans n8, by omega⟩,
    ⟨hJ.1.trans n5, (zs0 (f := 5) (by omega)).symm.trans n5, by omega⟩, ⟨(zs0 (f := 4) (by omega)).symm.trans n4, by omega⟩, ⟨hD.2.2.1, (zs0 (f := 3) (by omega)).symm, v3⟩, V⟩
theorem tellTap {h : ai_H} {k : Nat} {t dd v : Int32} (d d' : Nat) (hr : zR h) (hk : k < 12) (k1 : k ≠ 1) (k4 : k ≠ 4) (k5 : k ≠ 5) (hv : zi v 0 9999) (hb : k = 0 ∨ k = 2 ∨ k = 3 ∨ k = 10 ∨ k = 11 → zi v 0 1) (h7 : k = 7 → zi v 0 23) :
    ∃ r h1 h2, ai_X (d + 3) 163 [.inr (.inr (31, 0, 128)), .inr (.inr (25, 0, ai_ch 2097282 k)), .inl t, .inl dd, .inl (if nI k = 6 then 1 else v)] h = some ([.inl r], h1) ∧ ((0 ≤ t.toInt ∧ t.toInt < (zn (zsl (zMv h) 0) 1 : Int)) → ai_X (d' + 2) 208 [.inr (.inr (32, 0, 16128)), .inl (nI k), .inl (nI (zmost k)), .inl t, .inl dd, .inl v] h1 = some ([.inl r], h2)) ∧
      (¬ (0 ≤ t.toInt ∧ t.toInt < (zn (zsl (zMv h) 0) 1 : Int)) → r = -1 ∧ h2 = h1) ∧ zR h2 ∧ zK h h2 ∧ (∀ q, zroot q = 16128 → h1.1 q = h.1 q) := by
  obtain ⟨b0, b1, b2, b8, b5, b4, b3, V⟩ := zR_b hr
  by_cases c : 0 ≤ t.toInt ∧ t.toInt < (zn (zsl (zMv h) 0) 1 : Int)
  · by_cases e : 0 ≤ dd.toInt ∧ dd.toInt ≤ (h.1 2097282 13).toInt
    · obtain ⟨r, h1, h2, a1, a2, a3, a4, a5⟩ := tell_core (w := t) (d + 1) d' hr hk e ⟨hv, c.1, fun q => absurd q k4, fun q => by omega, fun _ _ _ => c.2, hb, fun q => by omega, h7⟩
      refine ⟨r, h1, h2, ?_, fun _ => a2, fun q => absurd c q, a3, a4, a5⟩
      rw [T163, X153 _ _ b1.1 b1.2.2]
      simp only [z_bi, zb_0]
      rw [if_neg (fun q => q c), X151]
      simp only [z_bi, zb_0]
      rw [if_neg (fun q => q e), a1]
      rfl
    · refine ⟨-1, h, h, ?_, fun _ => M208_day d' _ _ _ _ _ (by rw [b3.2.1, ← b3.1]; exact e), fun q => absurd c q, hr, zK_of rfl, fun _ _ => rfl⟩
      rw [T163, X153 _ _ b1.1 b1.2.2]
      simp only [z_bi, zb_0]
      rw [if_neg (fun q => q c), X151]
      simp only [z_bi, zb_0]
      rw [if_pos e]
  · refine ⟨-1, h, h, ?_, fun q => absurd q c, fun _ => ⟨rfl, rfl⟩, hr, zK_of rfl, fun _ _ => rfl⟩
    rw [T163, X153 _ _ b1.1 b1.2.2]
    simp only [z_bi, zb_0]
    rw [if_pos c]
theorem tellCity {h : ai_H} {k : Nat} {dd v : Int32} (d d' : Nat) (hr : zR h) (hk : k = 1 ∨ k = 5) (hv : zi v 0 100) :
    ∃ r h1 h2, ai_X (d + 3) 164 [.inr (.inr (31, 0, 128)), .inr (.inr (25, 0, ai_ch 2097282 k)), .inl dd, .inl v] h = some ([.inl r], h1) ∧ ai_X (d' + 2) 208 [.inr (.inr (32, 0, 16128)), .inl (nI k), .inl (nI (zmost k)), .inl 0, .inl dd, .inl v] h1 = some ([.inl r], h2) ∧ zR h2 ∧ zK h h2 := by
  obtain ⟨b0, b1, b2, b8, b5, b4, b3, V⟩ := zR_b hr
  have z0 : (0 : Int32).toInt = 0 := rfl
  by_cases e : 0 ≤ dd.toInt ∧ dd.toInt ≤ (h.1 2097282 13).toInt
  · obtain ⟨r, h1, h2, a1, a2, a3, a4, a5⟩ := tell_core (k := k) (w := 0) (dd := dd) (v := v) (d + 1) d' hr (by omega) e ⟨by unfold zi at hv ⊢; omega, by rw [z0]; omega, fun q => by omega, fun _ => rfl, fun q1 _ q5 => by omega, fun q => by omega, fun _ => hv, fun q => by omega⟩
    have n6 : ¬ nI k = 6 := by rcases hk with rfl | rfl <;> decide
    rw [if_neg n6] at a1
    refine ⟨r, h1, h2, ?_, a2, a3, a4⟩
    rw [T164, X151]
    simp only [z_bi, zb_0]
    rw [if_neg (fun q => q e), a1]
    rfl
  · refine ⟨-1, h, h, ?_, M208_day d' _ _ _ _ _ (by rw [b3.2.1, ← b3.1]; exact e), hr, zK_of rfl⟩
    rw [T164, X151]
    simp only [z_bi, zb_0]
    rw [if_pos e]
theorem P_shut (t dd v : Int32) (hv : v = 0 ∨ v = 1) : zPr 92 209 [.inl t, .inl dd, .inl v] := by
  intro d h hr
  have zv : zi v 0 1 := by rcases hv with rfl | rfl <;> (unfold zi; decide)
  obtain ⟨b0, b1, -⟩ := zR_b hr
  obtain ⟨r, h1, h2, a1, a2, a3, a4, a5, a6⟩ := tellTap (k := 0) (t := t) (dd := dd) (v := v) (d + 56) (d + 57) hr (by decide) (by decide) (by decide) (by decide) (by unfold zi at zv ⊢; omega) (fun _ => zv) (fun q => by omega)
  have m1 : h1.1 2064386 0 = nI (zn (zsl (zMv h) 0) 1) := by rw [a6 _ (by decide)]; exact b1.2.1
  refine ⟨r, h1, h2, ?_, ?_, a4, a5⟩
  · rw [T92]
    rcases hv with rfl | rfl
    · rw [if_pos rfl, show ai_X (d + 59) 163 [.inr (.inr (31, 0, 128)), .inr (.inr (25, 0, 268452097)), .inl t, .inl dd, .inl 0] h = some ([.inl r], h1) from a1]
      rfl
    · rw [if_neg (by decide), show ai_X (d + 59) 163 [.inr (.inr (31, 0, 128)), .inr (.inr (25, 0, 268452097)), .inl t, .inl dd, .inl 1] h = some ([.inl r], h1) from a1]
      rfl
  · rw [T209, M195 _ _ m1 (by omega)]
    simp only [z_bi, zb_0]
    by_cases c : 0 ≤ t.toInt ∧ t.toInt < (zn (zsl (zMv h) 0) 1 : Int)
    · rw [if_neg (fun q => q c)]
      rcases hv with rfl | rfl
      · rw [if_pos rfl, show ai_X (d + 59) 208 [.inr (.inr (32, 0, 16128)), .inl 0, .inl 80, .inl t, .inl dd, .inl 0] h1 = some ([.inl r], h2) from a2 c]
        rfl
      · rw [if_neg (by decide), show ai_X (d + 59) 208 [.inr (.inr (32, 0, 16128)), .inl 0, .inl 80, .inl t, .inl dd, .inl 1] h1 = some ([.inl r], h2) from a2 c]
        rfl
    · rw [if_pos c]
      obtain ⟨rfl, rfl⟩ := a3 c
      rfl
theorem P_bottle (t dd v : Int32) (hv : v = 0 ∨ v = 1) : zPr 94 211 [.inl t, .inl dd, .inl v] := by
  intro d h hr
  have zv : zi v 0 1 := by rcases hv with rfl | rfl <;> (unfold zi; decide)
  obtain ⟨b0, b1, -⟩ := zR_b hr
  obtain ⟨r, h1, h2, a1, a2, a3, a4, a5, a6⟩ := tellTap (k := 2) (t := t) (dd := dd) (v := v) (d + 56) (d + 57) hr (by decide) (by decide) (by decide) (by decide) (by unfold zi at zv ⊢; omega) (fun _ => zv) (fun q => by omega)
  have m1 : h1.1 2064386 0 = nI (zn (zsl (zMv h) 0) 1) := by rw [a6 _ (by decide)]; exact b1.2.1
  refine ⟨r, h1, h2, ?_, ?_, a4, a5⟩
  · rw [T94]
    rcases hv with rfl | rfl
    · rw [if_pos rfl, show ai_X (d + 59) 163 [.inr (.inr (31, 0, 128)), .inr (.inr (25, 0, 268452099)), .inl t, .inl dd, .inl 0] h = some ([.inl r], h1) from a1]
      rfl
    · rw [if_neg (by decide), show ai_X (d + 59) 163 [.inr (.inr (31, 0, 128)), .inr (.inr (25, 0, 268452099)), .inl t, .inl dd, .inl 1] h = some ([.inl r], h1) from a1]
      rfl
  · rw [T211, M195 _ _ m1 (by omega)]
    simp only [z_bi, zb_0]
    by_cases c : 0 ≤ t.toInt ∧ t.toInt < (zn (zsl (zMv h) 0) 1 : Int)
    · rw [if_neg (fun q => q c)]
      rcases hv with rfl | rfl
      · rw [if_pos rfl, show ai_X (d + 59) 208 [.inr (.inr (32, 0, 16128)), .inl 2, .inl 60, .inl t, .inl dd, .inl 0] h1 = some ([.inl r], h2) from a2 c]
        rfl
      · rw [if_neg (by decide), show ai_X (d + 59) 208 [.inr (.inr (32, 0, 16128)), .inl 2, .inl 60, .inl t, .inl dd, .inl 1] h1 = some ([.inl r], h2) from a2 c]
        rfl
    · rw [if_pos c]
      obtain ⟨rfl, rfl⟩ := a3 c
      rfl
theorem P_test (t dd v : Int32) (hv : v = 0 ∨ v = 1) : zPr 95 212 [.inl t, .inl dd, .inl v] := by
  intro d h hr
  have zv : zi v 0 1 := by rcases hv with rfl | rfl <;> (unfold zi; decide)
  obtain ⟨b0, b1, -⟩ := zR_b hr
  obtain ⟨r, h1, h2, a1, a2, a3, a4, a5, a6⟩ := tellTap (k := 3) (t := t) (dd := dd) (v := v) (d + 56) (d + 57) hr (by decide) (by decide) (by decide) (by decide) (by unfold zi at zv ⊢; omega) (fun _ => zv) (fun q => by omega)
  have m1 : h1.1 2064386 0 = nI (zn (zsl (zMv h) 0) 1) := by rw [a6 _ (by decide)]; exact b1.2.1
  refine ⟨r, h1, h2, ?_, ?_, a4, a5⟩
  · rw [T95]
    rcases hv with rfl | rfl
    · rw [if_pos rfl, show ai_X (d + 59) 163 [.inr (.inr (31, 0, 128)), .inr (.inr (25, 0, 268452100)), .inl t, .inl dd, .inl 0] h = some ([.inl r], h1) from a1]
      rfl
    · rw [if_neg (by decide), show ai_X (d + 59) 163 [.inr (.inr (31, 0, 128)), .inr (.inr (25, 0, 268452100)), .inl t, .inl dd, .inl 1] h = some ([.inl r], h1) from a1]
      rfl
  · rw [T212, M195 _ _ m1 (by omega)]
    simp only [z_bi, zb_0]
    by_cases c : 0 ≤ t.toInt ∧ t.toInt < (zn (zsl (zMv h) 0) 1 : Int)
    · rw [if_neg (fun q => q c)]
      rcases hv with rfl | rfl
      · rw [if_pos rfl, show ai_X (d + 59) 208 [.inr (.inr (32, 0, 16128)), .inl 3, .inl 40, .inl t, .inl dd, .inl 0] h1 = some ([.inl r], h2) from a2 c]
        rfl
      · rw [if_neg (by decide), show ai_X (d + 59) 208 [.inr (.inr (32, 0, 16128)), .inl 3, .inl 40, .inl t, .inl dd, .inl 1] h1 = some ([.inl r], h2) from a2 c]
        rfl
    · rw [if_pos c]
      obtain ⟨rfl, rfl⟩ := a3 c
      rfl
theorem P_cup (t dd v : Int32) (hv : v = 0 ∨ v = 1) : zPr 104 219 [.inl t, .inl dd, .inl v] := by
  intro d h hr
  have zv : zi v 0 1 := by rcases hv with rfl | rfl <;> (unfold zi; decide)
  obtain ⟨b0, b1, -⟩ := zR_b hr
  obtain ⟨r, h1, h2, a1, a2, a3, a4, a5, a6⟩ := tellTap (k := 10) (t := t) (dd := dd) (v := v) (d + 56) (d + 57) hr (by decide) (by decide) (by decide) (by decide) (by unfold zi at zv ⊢; omega) (fun _ => zv) (fun q => by omega)
  have m1 : h1.1 2064386 0 = nI (zn (zsl (zMv h) 0) 1) := by rw [a6 _ (by decide)]; exact b1.2.1
  refine ⟨r, h1, h2, ?_, ?_, a4, a5⟩
  · rw [T104]
    rcases hv with rfl | rfl
    · rw [if_pos rfl, show ai_X (d + 59) 163 [.inr (.inr (31, 0, 128)), .inr (.inr (25, 0, 268452107)), .inl t, .inl dd, .inl 0] h = some ([.inl r], h1) from a1]
      rfl
    · rw [if_neg (by decide), show ai_X (d + 59) 163 [.inr (.inr (31, 0, 128)), .inr (.inr (25, 0, 268452107)), .inl t, .inl dd, .inl 1] h = some ([.inl r], h1) from a1]
      rfl
  · rw [T219, M195 _ _ m1 (by omega)]
    simp only [z_bi, zb_0]
    by_cases c : 0 ≤ t.toInt ∧ t.toInt < (zn (zsl (zMv h) 0) 1 : Int)
    · rw [if_neg (fun q => q c)]
      rcases hv with rfl | rfl
      · rw [if_pos rfl, show ai_X (d + 59) 208 [.inr (.inr (32, 0, 16128)), .inl 10, .inl 40, .inl t, .inl dd, .inl 0] h1 = some ([.inl r], h2) from a2 c]
        rfl
      · rw [if_neg (by decide), show ai_X (d + 59) 208 [.inr (.inr (32, 0, 16128)), .inl 10, .inl 40, .inl t, .inl dd, .inl 1] h1 = some ([.inl r], h2) from a2 c]
        rfl
    · rw [if_pos c]
      obtain ⟨rfl, rfl⟩ := a3 c
      rfl
theorem P_burst (t dd : Int32) : zPr 100 215 [.inl t, .inl dd] := by
  intro d h hr
  obtain ⟨b0, b1, -⟩ := zR_b hr
  obtain ⟨r, h1, h2, a1, a2, a3, a4, a5, a6⟩ := tellTap (k := 6) (t := t) (dd := dd) (v := 0) (d + 56) (d + 57) hr (by decide) (by decide) (by decide) (by decide) (by unfold zi; decide) (fun q => by omega) (fun q => by omega)
  have m1 : h1.1 2064386 0 = nI (zn (zsl (zMv h) 0) 1) := by rw [a6 _ (by decide)]; exact b1.2.1
  refine ⟨r, h1, h2, ?_, ?_, a4, a5⟩
  · rw [T100, show ai_X (d + 59) 163 [.inr (.inr (31, 0, 128)), .inr (.inr (25, 0, 268452103)), .inl t, .inl dd, .inl 1] h = some ([.inl r], h1) from a1]
    rfl
  · rw [T215, M195 _ _ m1 (by omega)]
    simp only [z_bi, zb_0]
    by_cases c : 0 ≤ t.toInt ∧ t.toInt < (zn (zsl (zMv h) 0) 1 : Int)
    · rw [if_neg (fun q => q c), show ai_X (d + 59) 208 [.inr (.inr (32, 0, 16128)), .inl 6, .inl 40, .inl t, .inl dd, .inl 0] h1 = some ([.inl r], h2) from a2 c]
      rfl
    · rw [if_pos c]
      obtain ⟨rfl, rfl⟩ := a3 c
      rfl
theorem P_damage (t dd v : Int32) : zPr 101 216 [.inl t, .inl dd, .inl v] := by
  intro d h hr
  obtain ⟨b0, b1, -⟩ := zR_b hr
  by_cases w : 0 ≤ v.toInt ∧ v.toInt ≤ 23
  · obtain ⟨r, h1, h2, a1, a2, a3, a4, a5, a6⟩ := tellTap (k := 7) (t := t) (dd := dd) (v := v) (d + 56) (d + 57) hr (by decide) (by decide) (by decide) (by decide) (by unfold zi; omega) (fun q => by omega) (fun q => by unfold zi; omega)
    have m1 : h1.1 2064386 0 = nI (zn (zsl (zMv h) 0) 1) := by rw [a6 _ (by decide)]; exact b1.2.1
    refine ⟨r, h1, h2, ?_, ?_, a4, a5⟩
    · rw [T101, X146]
      simp only [z_bi, zb_0, zl0, zl1, zl2, zl3, zl4, zl5, zl6, zl7, zl8, zl9, zl10, zl12, zl15, zl16, zl20, zl22, zl23, zl24, zl27, zl30, zl31, zl32, zl40, zl46, zl48, zl50, zl57, zl59, zl60, zl61, zl62, zl63, zl80, zl96, zl97, zl99, zl100, zl122, zl255, zl360, zl500, zl999, zl9999, zl60000, zl99999, zl16777215, zl1073741824, zlm1, zlm2, zlm3]
      rw [if_neg (fun q => q w), show ai_X (d + 59) 163 [.inr (.inr (31, 0, 128)), .inr (.inr (25, 0, 268452104)), .inl t, .inl dd, .inl v] h = some ([.inl r], h1) from a1]
      rfl
    · rw [T216, M195 _ _ m1 (by omega)]
      simp only [z_bi, zb_0]
      by_cases c : 0 ≤ t.toInt ∧ t.toInt < (zn (zsl (zMv h) 0) 1 : Int)
      · rw [if_neg (fun q => q c), M186]
        simp only [z_bi, zb_0, zl0, zl1, zl2, zl3, zl4, zl5, zl6, zl7, zl8, zl9, zl10, zl12, zl15, zl16, zl20, zl22, zl23, zl24, zl27, zl30, zl31, zl32, zl40, zl46, zl48, zl50, zl57, zl59, zl60, zl61, zl62, zl63, zl80, zl96, zl97, zl99, zl100, zl122, zl255, zl360, zl500, zl999, zl9999, zl60000, zl99999, zl16777215, zl1073741824, zlm1, zlm2, zlm3]
        rw [if_neg (fun q => q w), show ai_X (d + 59) 208 [.inr (.inr (32, 0, 16128)), .inl 7, .inl 40, .inl t, .inl dd, .inl v] h1 = some ([.inl r], h2) from a2 c]
        rfl
      · rw [if_pos c]
        obtain ⟨rfl, rfl⟩ := a3 c
        rfl
  · refine ⟨-1, h, h, ?_, ?_, hr, zK_of rfl⟩
    · rw [T101, X146]
      simp only [z_bi, zb_0, zl0, zl1, zl2, zl3, zl4, zl5, zl6, zl7, zl8, zl9, zl10, zl12, zl15, zl16, zl20, zl22, zl23, zl24, zl27, zl30, zl31, zl32, zl40, zl46, zl48, zl50, zl57, zl59, zl60, zl61, zl62, zl63, zl80, zl96, zl97, zl99, zl100, zl122, zl255, zl360, zl500, zl999, zl9999, zl60000, zl99999, zl16777215, zl1073741824, zlm1, zlm2, zlm3]
      rw [if_pos w]
    · rw [T216, M195 _ _ b1.2.1 (by omega)]
      simp only [z_bi, zb_0]
      by_cases c : 0 ≤ t.toInt ∧ t.toInt < (zn (zsl (zMv h) 0) 1 : Int)
      · rw [if_neg (fun q => q c), M186]
        simp only [z_bi, zb_0, zl0, zl1, zl2, zl3, zl4, zl5, zl6, zl7, zl8, zl9, zl10, zl12, zl15, zl16, zl20, zl22, zl23, zl24, zl27, zl30, zl31, zl32, zl40, zl46, zl48, zl50, zl57, zl59, zl60, zl61, zl62, zl63, zl80, zl96, zl97, zl99, zl100, zl122, zl255, zl360, zl500, zl999, zl9999, zl60000, zl99999, zl16777215, zl1073741824, zlm1, zlm2, zlm3]
        rw [if_pos w]
      · rw [if_pos c]
theorem P_hurt (t dd v : Int32) : zPr 102 217 [.inl t, .inl dd, .inl v] := by
  intro d h hr
  obtain ⟨b0, b1, -⟩ := zR_b hr
  by_cases w : 0 ≤ v.toInt ∧ v.toInt ≤ 9999
  · obtain ⟨r, h1, h2, a1, a2, a3, a4, a5, a6⟩ := tellTap (k := 8) (t := t) (dd := dd) (v := v) (d + 56) (d + 57) hr (by decide) (by decide) (by decide) (by decide) (by unfold zi; omega) (fun q => by omega) (fun q => by unfold zi; omega)
    have m1 : h1.1 2064386 0 = nI (zn (zsl (zMv h) 0) 1) := by rw [a6 _ (by decide)]; exact b1.2.1
    refine ⟨r, h1, h2, ?_, ?_, a4, a5⟩
    · rw [T102, X146]
      simp only [z_bi, zb_0, zl0, zl1, zl2, zl3, zl4, zl5, zl6, zl7, zl8, zl9, zl10, zl12, zl15, zl16, zl20, zl22, zl23, zl24, zl27, zl30, zl31, zl32, zl40, zl46, zl48, zl50, zl57, zl59, zl60, zl61, zl62, zl63, zl80, zl96, zl97, zl99, zl100, zl122, zl255, zl360, zl500, zl999, zl9999, zl60000, zl99999, zl16777215, zl1073741824, zlm1, zlm2, zlm3]
      rw [if_neg (fun q => q w), show ai_X (d + 59) 163 [.inr (.inr (31, 0, 128)), .inr (.inr (25, 0, 268452105)), .inl t, .inl dd, .inl v] h = some ([.inl r], h1) from a1]
      rfl
    · rw [T217, M195 _ _ m1 (by omega)]
      simp only [z_bi, zb_0]
      by_cases c : 0 ≤ t.toInt ∧ t.toInt < (zn (zsl (zMv h) 0) 1 : Int)
      · rw [if_neg (fun q => q c), M186]
        simp only [z_bi, zb_0, zl0, zl1, zl2, zl3, zl4, zl5, zl6, zl7, zl8, zl9, zl10, zl12, zl15, zl16, zl20, zl22, zl23, zl24, zl27, zl30, zl31, zl32, zl40, zl46, zl48, zl50, zl57, zl59, zl60, zl61, zl62, zl63, zl80, zl96, zl97, zl99, zl100, zl122, zl255, zl360, zl500, zl999, zl9999, zl60000, zl99999, zl16777215, zl1073741824, zlm1, zlm2, zlm3]
        rw [if_neg (fun q => q w), show ai_X (d + 59) 208 [.inr (.inr (32, 0, 16128)), .inl 8, .inl 40, .inl t, .inl dd, .inl v] h1 = some ([.inl r], h2) from a2 c]
        rfl
      · rw [if_pos c]
        obtain ⟨rfl, rfl⟩ := a3 c
        rfl
  · refine ⟨-1, h, h, ?_, ?_, hr, zK_of rfl⟩
    · rw [T102, X146]
      simp only [z_bi, zb_0, zl0, zl1, zl2, zl3, zl4, zl5, zl6, zl7, zl8, zl9, zl10, zl12, zl15, zl16, zl20, zl22, zl23, zl24, zl27, zl30, zl31, zl32, zl40, zl46, zl48, zl50, zl57, zl59, zl60, zl61, zl62, zl63, zl80, zl96, zl97, zl99, zl100, zl122, zl255, zl360, zl500, zl999, zl9999, zl60000, zl99999, zl16777215, zl1073741824, zlm1, zlm2, zlm3]
      rw [if_pos w]
    · rw [T217, M195 _ _ b1.2.1 (by omega)]
      simp only [z_bi, zb_0]
      by_cases c : 0 ≤ t.toInt ∧ t.toInt < (zn (zsl (zMv h) 0) 1 : Int)
      · rw [if_neg (fun q => q c), M186]
        simp only [z_bi, zb_0, zl0, zl1, zl2, zl3, zl4, zl5, zl6, zl7, zl8, zl9, zl10, zl12, zl15, zl16, zl20, zl22, zl23, zl24, zl27, zl30, zl31, zl32, zl40, zl46, zl48, zl50, zl57, zl59, zl60, zl61, zl62, zl63, zl80, zl96, zl97, zl99, zl100, zl122, zl255, zl360, zl500, zl999, zl9999, zl60000, zl99999, zl16777215, zl1073741824, zlm1, zlm2, zlm3]
        rw [if_pos w]
      · rw [if_pos c]
theorem P_fill (t dd v : Int32) : zPr 103 218 [.inl t, .inl dd, .inl v] := by
  intro d h hr
  obtain ⟨b0, b1, -⟩ := zR_b hr
  by_cases w : 0 ≤ v.toInt ∧ v.toInt ≤ 9999
  · obtain ⟨r, h1, h2, a1, a2, a3, a4, a5, a6⟩ := tellTap (k := 9) (t := t) (dd := dd) (v := v) (d + 56) (d + 57) hr (by decide) (by decide) (by decide) (by decide) (by unfold zi; omega) (fun q => by omega) (fun q => by unfold zi; omega)
    have m1 : h1.1 2064386 0 = nI (zn (zsl (zMv h) 0) 1) := by rw [a6 _ (by decide)]; exact b1.2.1
    refine ⟨r, h1, h2, ?_, ?_, a4, a5⟩
    · rw [T103, X146]
      simp only [z_bi, zb_0, zl0, zl1, zl2, zl3, zl4, zl5, zl6, zl7, zl8, zl9, zl10, zl12, zl15, zl16, zl20, zl22, zl23, zl24, zl27, zl30, zl31, zl32, zl40, zl46, zl48, zl50, zl57, zl59, zl60, zl61, zl62, zl63, zl80, zl96, zl97, zl99, zl100, zl122, zl255, zl360, zl500, zl999, zl9999, zl60000, zl99999, zl16777215, zl1073741824, zlm1, zlm2, zlm3]
      rw [if_neg (fun q => q w), show ai_X (d + 59) 163 [.inr (.inr (31, 0, 128)), .inr (.inr (25, 0, 268452106)), .inl t, .inl dd, .inl v] h = some ([.inl r], h1) from a1]
      rfl
    · rw [T218, M195 _ _ m1 (by omega)]
      simp only [z_bi, zb_0]
      by_cases c : 0 ≤ t.toInt ∧ t.toInt < (zn (zsl (zMv h) 0) 1 : Int)
      · rw [if_neg (fun q => q c), M186]
        simp only [z_bi, zb_0, zl0, zl1, zl2, zl3, zl4, zl5, zl6, zl7, zl8, zl9, zl10, zl12, zl15, zl16, zl20, zl22, zl23, zl24, zl27, zl30, zl31, zl32, zl40, zl46, zl48, zl50, zl57, zl59, zl60, zl61, zl62, zl63, zl80, zl96, zl97, zl99, zl100, zl122, zl255, zl360, zl500, zl999, zl9999, zl60000, zl99999, zl16777215, zl1073741824, zlm1, zlm2, zlm3]
        rw [if_neg (fun q => q w), show ai_X (d + 59) 208 [.inr (.inr (32, 0, 16128)), .inl 9, .inl 80, .inl t, .inl dd, .inl v] h1 = some ([.inl r], h2) from a2 c]
        rfl
      · rw [if_pos c]
        obtain ⟨rfl, rfl⟩ := a3 c
        rfl
  · refine ⟨-1, h, h, ?_, ?_, hr, zK_of rfl⟩
    · rw [T103, X146]
      simp only [z_bi, zb_0, zl0, zl1, zl2, zl3, zl4, zl5, zl6, zl7, zl8, zl9, zl10, zl12, zl15, zl16, zl20, zl22, zl23, zl24, zl27, zl30, zl31, zl32, zl40, zl46, zl48, zl50, zl57, zl59, zl60, zl61, zl62, zl63, zl80, zl96, zl97, zl99, zl100, zl122, zl255, zl360, zl500, zl999, zl9999, zl60000, zl99999, zl16777215, zl1073741824, zlm1, zlm2, zlm3]
      rw [if_pos w]
    · rw [T218, M195 _ _ b1.2.1 (by omega)]
      simp only [z_bi, zb_0]
      by_cases c : 0 ≤ t.toInt ∧ t.toInt < (zn (zsl (zMv h) 0) 1 : Int)
      · rw [if_neg (fun q => q c), M186]
        simp only [z_bi, zb_0, zl0, zl1, zl2, zl3, zl4, zl5, zl6, zl7, zl8, zl9, zl10, zl12, zl15, zl16, zl20, zl22, zl23, zl24, zl27, zl30, zl31, zl32, zl40, zl46, zl48, zl50, zl57, zl59, zl60, zl61, zl62, zl63, zl80, zl96, zl97, zl99, zl100, zl122, zl255, zl360, zl500, zl999, zl9999, zl60000, zl99999, zl16777215, zl1073741824, zlm1, zlm2, zlm3]
        rw [if_pos w]
      · rw [if_pos c]
theorem P_level (dd v : Int32) : zPr 93 210 [.inl dd, .inl v] := by
  intro d h hr
  by_cases w : 0 ≤ v.toInt ∧ v.toInt ≤ 100
  · obtain ⟨r, h1, h2, a1, a2, a4, a5⟩ := tellCity (k := 1) (dd := dd) (v := v) (d + 56) (d + 57) hr (by omega) (by unfold zi; omega)
    refine ⟨r, h1, h2, ?_, ?_, a4, a5⟩
    · rw [T93, X146]
      simp only [z_bi, zb_0, zl0, zl1, zl2, zl3, zl4, zl5, zl6, zl7, zl8, zl9, zl10, zl12, zl15, zl16, zl20, zl22, zl23, zl24, zl27, zl30, zl31, zl32, zl40, zl46, zl48, zl50, zl57, zl59, zl60, zl61, zl62, zl63, zl80, zl96, zl97, zl99, zl100, zl122, zl255, zl360, zl500, zl999, zl9999, zl60000, zl99999, zl16777215, zl1073741824, zlm1, zlm2, zlm3]
      rw [if_neg (fun q => q w), show ai_X (d + 59) 164 [.inr (.inr (31, 0, 128)), .inr (.inr (25, 0, 268452098)), .inl dd, .inl v] h = some ([.inl r], h1) from a1]
      rfl
    · rw [T210, M186]
      simp only [z_bi, zb_0, zl0, zl1, zl2, zl3, zl4, zl5, zl6, zl7, zl8, zl9, zl10, zl12, zl15, zl16, zl20, zl22, zl23, zl24, zl27, zl30, zl31, zl32, zl40, zl46, zl48, zl50, zl57, zl59, zl60, zl61, zl62, zl63, zl80, zl96, zl97, zl99, zl100, zl122, zl255, zl360, zl500, zl999, zl9999, zl60000, zl99999, zl16777215, zl1073741824, zlm1, zlm2, zlm3]
      rw [if_neg (fun q => q w), show ai_X (d + 59) 208 [.inr (.inr (32, 0, 16128)), .inl 1, .inl 40, .inl 0, .inl dd, .inl v] h1 = some ([.inl r], h2) from a2]
      rfl
  · refine ⟨-1, h, h, ?_, ?_, hr, zK_of rfl⟩
    · rw [T93, X146]
      simp only [z_bi, zb_0, zl0, zl1, zl2, zl3, zl4, zl5, zl6, zl7, zl8, zl9, zl10, zl12, zl15, zl16, zl20, zl22, zl23, zl24, zl27, zl30, zl31, zl32, zl40, zl46, zl48, zl50, zl57, zl59, zl60, zl61, zl62, zl63, zl80, zl96, zl97, zl99, zl100, zl122, zl255, zl360, zl500, zl999, zl9999, zl60000, zl99999, zl16777215, zl1073741824, zlm1, zlm2, zlm3]
      rw [if_pos w]
    · rw [T210, M186]
      simp only [z_bi, zb_0, zl0, zl1, zl2, zl3, zl4, zl5, zl6, zl7, zl8, zl9, zl10, zl12, zl15, zl16, zl20, zl22, zl23, zl24, zl27, zl30, zl31, zl32, zl40, zl46, zl48, zl50, zl57, zl59, zl60, zl61, zl62, zl63, zl80, zl96, zl97, zl99, zl100, zl122, zl255, zl360, zl500, zl999, zl9999, zl60000, zl99999, zl16777215, zl1073741824, zlm1, zlm2, zlm3]
      rw [if_pos w]
theorem P_night (dd v : Int32) : zPr 99 214 [.inl dd, .inl v] := by
  intro d h hr
  by_cases w : 0 ≤ v.toInt ∧ v.toInt ≤ 100
  · obtain ⟨r, h1, h2, a1, a2, a4, a5⟩ := tellCity (k := 5) (dd := dd) (v := v) (d + 56) (d + 57) hr (by omega) (by unfold zi; omega)
    refine ⟨r, h1, h2, ?_, ?_, a4, a5⟩
    · rw [T99, X146]
      simp only [z_bi, zb_0, zl0, zl1, zl2, zl3, zl4, zl5, zl6, zl7, zl8, zl9, zl10, zl12, zl15, zl16, zl20, zl22, zl23, zl24, zl27, zl30, zl31, zl32, zl40, zl46, zl48, zl50, zl57, zl59, zl60, zl61, zl62, zl63, zl80, zl96, zl97, zl99, zl100, zl122, zl255, zl360, zl500, zl999, zl9999, zl60000, zl99999, zl16777215, zl1073741824, zlm1, zlm2, zlm3]
      rw [if_neg (fun q => q w), show ai_X (d + 59) 164 [.inr (.inr (31, 0, 128)), .inr (.inr (25, 0, 268452102)), .inl dd, .inl v] h = some ([.inl r], h1) from a1]
      rfl
    · rw [T214, M186]
      simp only [z_bi, zb_0, zl0, zl1, zl2, zl3, zl4, zl5, zl6, zl7, zl8, zl9, zl10, zl12, zl15, zl16, zl20, zl22, zl23, zl24, zl27, zl30, zl31, zl32, zl40, zl46, zl48, zl50, zl57, zl59, zl60, zl61, zl62, zl63, zl80, zl96, zl97, zl99, zl100, zl122, zl255, zl360, zl500, zl999, zl9999, zl60000, zl99999, zl16777215, zl1073741824, zlm1, zlm2, zlm3]
      rw [if_neg (fun q => q w), show ai_X (d + 59) 208 [.inr (.inr (32, 0, 16128)), .inl 5, .inl 40, .inl 0, .inl dd, .inl v] h1 = some ([.inl r], h2) from a2]
      rfl
  · refine ⟨-1, h, h, ?_, ?_, hr, zK_of rfl⟩
    · rw [T99, X146]
      simp only [z_bi, zb_0, zl0, zl1, zl2, zl3, zl4, zl5, zl6, zl7, zl8, zl9, zl10, zl12, zl15, zl16, zl20, zl22, zl23, zl24, zl27, zl30, zl31, zl32, zl40, zl46, zl48, zl50, zl57, zl59, zl60, zl61, zl62, zl63, zl80, zl96, zl97, zl99, zl100, zl122, zl255, zl360, zl500, zl999, zl9999, zl60000, zl99999, zl16777215, zl1073741824, zlm1, zlm2, zlm3]
      rw [if_pos w]
    · rw [T214, M186]
      simp only [z_bi, zb_0, zl0, zl1, zl2, zl3, zl4, zl5, zl6, zl7, zl8, zl9, zl10, zl12, zl15, zl16, zl20, zl22, zl23, zl24, zl27, zl30, zl31, zl32, zl40, zl46, zl48, zl50, zl57, zl59, zl60, zl61, zl62, zl63, zl80, zl96, zl97, zl99, zl100, zl122, zl255, zl360, zl500, zl999, zl9999, zl60000, zl99999, zl16777215, zl1073741824, zlm1, zlm2, zlm3]
      rw [if_pos w]
theorem P_flow (n dd v : Int32) : zPr 96 213 [.inl n, .inl dd, .inl v] := by
  intro d h hr
  obtain ⟨b0, b1, b2, b8, b5, b4, b3, V⟩ := zR_b hr
  by_cases c : 0 ≤ n.toInt ∧ n.toInt < (zn (zsl (zMv h) 0) 0 : Int)
  · by_cases w : 0 ≤ v.toInt ∧ v.toInt ≤ 9999
    · by_cases e : 0 ≤ dd.toInt ∧ dd.toInt ≤ (h.1 2097282 13).toInt
      · obtain ⟨r, h1, h2, a1, a2, a4, a5, a6⟩ := tell_core (k := 4) (w := n) (dd := dd) (v := v) (d + 58) (d + 57) hr (by decide) e ⟨w, c.1, fun _ => c.2, fun q => by omega, fun _ q _ => absurd rfl q, fun q => by omega, fun q => by omega, fun q => by omega⟩
        have m1 : h1.1 2064385 0 = nI (zn (zsl (zMv h) 0) 0) := by rw [a6 _ (by decide)]; exact b0.2.1
        refine ⟨r, h1, h2, ?_, ?_, a4, a5⟩
        · rw [T96, X152 _ _ b0.1 b0.2.2]
          simp only [z_bi, zb_0]
          rw [if_neg (fun q => q c), X151]
          simp only [z_bi, zb_0]
          rw [if_neg (fun q => q e), X146]
          simp only [z_bi, zb_0, zl0, zl1, zl2, zl3, zl4, zl5, zl6, zl7, zl8, zl9, zl10, zl12, zl15, zl16, zl20, zl22, zl23, zl24, zl27, zl30, zl31, zl32, zl40, zl46, zl48, zl50, zl57, zl59, zl60, zl61, zl62, zl63, zl80, zl96, zl97, zl99, zl100, zl122, zl255, zl360, zl500, zl999, zl9999, zl60000, zl99999, zl16777215, zl1073741824, zlm1, zlm2, zlm3]
          rw [if_neg (fun q => q w), show ai_X (d + 59) 37 [.inr (.inr (25, 0, 268452101)), .inl n, .inl dd, .inl v, .inl (h.1 2097282 13)] h = some ([.inl r], h1) from a1]
          rfl
        · rw [T213, M196 _ _ m1 (by omega)]
          simp only [z_bi, zb_0]
          rw [if_neg (fun q => q c), M186]
          simp only [z_bi, zb_0, zl0, zl1, zl2, zl3, zl4, zl5, zl6, zl7, zl8, zl9, zl10, zl12, zl15, zl16, zl20, zl22, zl23, zl24, zl27, zl30, zl31, zl32, zl40, zl46, zl48, zl50, zl57, zl59, zl60, zl61, zl62, zl63, zl80, zl96, zl97, zl99, zl100, zl122, zl255, zl360, zl500, zl999, zl9999, zl60000, zl99999, zl16777215, zl1073741824, zlm1, zlm2, zlm3]
          rw [if_neg (fun q => q w), show ai_X (d + 59) 208 [.inr (.inr (32, 0, 16128)), .inl 4, .inl 60, .inl n, .inl dd, .inl v] h1 = some ([.inl r], h2) from a2]
          rfl
      · refine ⟨-1, h, h, ?_, ?_, hr, zK_of rfl⟩
        · rw [T96, X152 _ _ b0.1 b0.2.2]
          simp only [z_bi, zb_0]
          rw [if_neg (fun q => q c), X151]
          simp only [z_bi, zb_0]
          rw [if_pos e]
        · rw [T213, M196 _ _ b0.2.1 (by omega)]
          simp only [z_bi, zb_0]
          rw [if_neg (fun q => q c), M186]
          simp only [z_bi, zb_0, zl0, zl1, zl2, zl3, zl4, zl5, zl6, zl7, zl8, zl9, zl10, zl12, zl15, zl16, zl20, zl22, zl23, zl24, zl27, zl30, zl31, zl32, zl40, zl46, zl48, zl50, zl57, zl59, zl60, zl61, zl62, zl63, zl80, zl96, zl97, zl99, zl100, zl122, zl255, zl360, zl500, zl999, zl9999, zl60000, zl99999, zl16777215, zl1073741824, zlm1, zlm2, zlm3]
          rw [if_neg (fun q => q w), M208_day _ _ _ _ _ _ (by rw [b3.2.1, ← b3.1]; exact e)]
          rfl
    · refine ⟨-1, h, h, ?_, ?_, hr, zK_of rfl⟩
      · rw [T96, X152 _ _ b0.1 b0.2.2]
        simp only [z_bi, zb_0]
        rw [if_neg (fun q => q c), X151]
        simp only [z_bi, zb_0]
        by_cases e : 0 ≤ dd.toInt ∧ dd.toInt ≤ (h.1 2097282 13).toInt
        · rw [if_neg (fun q => q e), X146]
          simp only [z_bi, zb_0, zl0, zl1, zl2, zl3, zl4, zl5, zl6, zl7, zl8, zl9, zl10, zl12, zl15, zl16, zl20, zl22, zl23, zl24, zl27, zl30, zl31, zl32, zl40, zl46, zl48, zl50, zl57, zl59, zl60, zl61, zl62, zl63, zl80, zl96, zl97, zl99, zl100, zl122, zl255, zl360, zl500, zl999, zl9999, zl60000, zl99999, zl16777215, zl1073741824, zlm1, zlm2, zlm3]
          rw [if_pos w]
        · rw [if_pos e]
      · rw [T213, M196 _ _ b0.2.1 (by omega)]
        simp only [z_bi, zb_0]
        rw [if_neg (fun q => q c), M186]
        simp only [z_bi, zb_0, zl0, zl1, zl2, zl3, zl4, zl5, zl6, zl7, zl8, zl9, zl10, zl12, zl15, zl16, zl20, zl22, zl23, zl24, zl27, zl30, zl31, zl32, zl40, zl46, zl48, zl50, zl57, zl59, zl60, zl61, zl62, zl63, zl80, zl96, zl97, zl99, zl100, zl122, zl255, zl360, zl500, zl999, zl9999, zl60000, zl99999, zl16777215, zl1073741824, zlm1, zlm2, zlm3]
        rw [if_pos w]
  · refine ⟨-1, h, h, ?_, ?_, hr, zK_of rfl⟩
    · rw [T96, X152 _ _ b0.1 b0.2.2]
      simp only [z_bi, zb_0]
      rw [if_pos c]
    · rw [T213, M196 _ _ b0.2.1 (by omega)]
      simp only [z_bi, zb_0]
      rw [if_pos c]
theorem P_plant (t dd v : Int32) (hv : v = 0 ∨ v = 1) : zPr 105 220 [.inl t, .inl dd, .inl v] := by
  intro d h hr
  have zv : zi v 0 1 := by rcases hv with rfl | rfl <;> (unfold zi; decide)
  obtain ⟨b0, b1, b2, b8, b5, b4, b3, V⟩ := zR_b hr
  have hC : zC h 2097281 (zsl (zMv h) 0) := hr.1.1.1
  have h5 : h.1 2097281 5 = nI (zB (fun t => ¬ zsl (zMv h) 0 17 t = 0) (zn (zsl (zMv h) 0) 1)) := hC.2.2.2.2.2.1
  by_cases c : 0 ≤ t.toInt ∧ t.toInt < (zn (zsl (zMv h) 0) 1 : Int)
  · obtain ⟨p, hp, rfl⟩ : ∃ p, p < zn (zsl (zMv h) 0) 1 ∧ t = nI p := ⟨t.toInt.toNat, by omega, z_nat c.1⟩
    have e17 : h.1 2064402 p = zsl (zMv h) 0 17 p := (zs0 (f := 17) (by omega)).symm
    have tb : (zB (fun t => ¬ zsl (zMv h) 0 17 t = 0) (zn (zsl (zMv h) 0) 1)).testBit p = decide (¬ zsl (zMv h) 0 17 p = 0) := by rw [zB_tb]; simp [hp]
    have xb := X159 (d + 58) _ p h (zB_31 (p := fun t => ¬ zsl (zMv h) 0 17 t = 0) (n := zn (zsl (zMv h) 0) 1) (by omega)) (by omega)
    by_cases g : zsl (zMv h) 0 17 p = 0
    · refine ⟨-1, h, h, ?_, ?_, hr, zK_of rfl⟩
      · rw [T105, X153 _ _ b1.1 b1.2.2]
        simp only [z_bi, zb_0]
        rw [if_neg (fun q => q c), h5, xb]
        simp only [z_bi, zb_0]
        rw [if_pos (by rw [tb]; simp [g])]
      · rw [T220, M195 _ _ b1.2.1 (by omega)]
        simp only [z_bi, zb_0]
        rw [if_neg (fun q => q c), z_ix (by omega) (by decide), e17, if_pos g]
    · obtain ⟨r, h1, h2, a1, a2, a3, a4, a5, a6⟩ := tellTap (k := 11) (t := nI p) (dd := dd) (v := v) (d + 56) (d + 57) hr (by decide) (by decide) (by decide) (by decide) (by unfold zi at zv ⊢; omega) (fun _ => zv) (fun q => by omega)
      have m1 : h1.1 2064386 0 = nI (zn (zsl (zMv h) 0) 1) := by rw [a6 _ (by decide)]; exact b1.2.1
      refine ⟨r, h1, h2, ?_, ?_, a4, a5⟩
      · rw [T105, X153 _ _ b1.1 b1.2.2]
        simp only [z_bi, zb_0]
        rw [if_neg (fun q => q c), h5, xb]
        simp only [z_bi, zb_0]
        rw [if_neg (by rw [tb]; simp [g])]
        rcases hv with rfl | rfl
        · rw [if_pos rfl, show ai_X (d + 59) 163 [.inr (.inr (31, 0, 128)), .inr (.inr (25, 0, 268452108)), .inl (nI p), .inl dd, .inl 0] h = some ([.inl r], h1) from a1]
          rfl
        · rw [if_neg (by decide), show ai_X (d + 59) 163 [.inr (.inr (31, 0, 128)), .inr (.inr (25, 0, 268452108)), .inl (nI p), .inl dd, .inl 1] h = some ([.inl r], h1) from a1]
          rfl
      · rw [T220, M195 _ _ m1 (by omega)]
        simp only [z_bi, zb_0]
        rw [if_neg (fun q => q c), z_ix (by omega) (by decide), a6 _ (by decide), e17, if_neg g]
        rcases hv with rfl | rfl
        · rw [if_pos rfl, show ai_X (d + 59) 208 [.inr (.inr (32, 0, 16128)), .inl 11, .inl 40, .inl (nI p), .inl dd, .inl 0] h1 = some ([.inl r], h2) from a2 c]
          rfl
        · rw [if_neg (by decide), show ai_X (d + 59) 208 [.inr (.inr (32, 0, 16128)), .inl 11, .inl 40, .inl (nI p), .inl dd, .inl 1] h1 = some ([.inl r], h2) from a2 c]
          rfl
  · refine ⟨-1, h, h, ?_, ?_, hr, zK_of rfl⟩
    · rw [T105, X153 _ _ b1.1 b1.2.2]
      simp only [z_bi, zb_0]
      rw [if_pos c]
    · rw [T220, M195 _ _ b1.2.1 (by omega)]
      simp only [z_bi, zb_0]
      rw [if_pos c]
