/-! THE START: the class whole, its law of capping empty -/
theorem zX85 (d : Nat) : ∃ g, ai_X (d + 6) 85 [.inr (.inr (51, 0, 128))] (ai_new ai_h0 128 (51, 0) 12) = some ([], g) ∧ g.2.2.2.1 128 = (51, 0) ∧ ai_cmp g 128 11 = true ∧ znst g (ai_ch 128 0) ∧ (∀ q j, ¬ zdn 3 (ai_ch 128 0) q → g.1 q j = if q = 128 ∧ j = 11 then (-1 : Int32) else 0) ∧ (∀ q, ¬ zdn 4 128 q → q < 15488 ∨ 16128 ≤ q → g.2.2.2.1 q = (0, 0)) ∧ g.2.2.1 128 9 = some 15488 ∧ (∀ k, k < 4 → g.2.2.1 15488 k = some (15616 + 128 * k) ∧ g.2.2.2.1 (15616 + 128 * k) = (1, 0)) ∧ g.2.2.2.2.1 = 126 ∧ g.2.2.2.2.2.1 = 125 ∧ g.2.2.2.2.2.2 = 8466 := by
  obtain ⟨g9, e9, i1, i2, i3, i4, i5, ⟨c1, c2, c3⟩, i7⟩ := zqi_9 d
  have E := T85_94 (d + 5) 128 g9
  have dn : ai_dn g9 = 15488 := by unfold ai_dn; omega
  have Z : Int32.toNatClampNeg 0 = 0 := rfl
  have zn : ¬ ((0 : Int32) < 0 ∨ 30000 < (0 : Int32)) := by decide
  rw [Z, if_neg zn, if_neg zn, if_neg zn, if_neg zn, if_pos rfl, dn] at E
  obtain ⟨w1, ew1⟩ : ∃ w, ai_new g9 15488 (44, 0) 4 = w := ⟨_, rfl⟩
  have dw1 : ai_dn w1 = 15616 := by rw [← ew1]; show 128 * (g9.2.2.2.2.1 + 1) = 15616; omega
  rw [ew1, dw1] at E
  obtain ⟨w2, ew2⟩ : ∃ w, ai_new w1 15616 (1, 0) 0 = w := ⟨_, rfl⟩
  have dw2 : ai_dn w2 = 15744 := by rw [← ew2, ← ew1]; show 128 * (g9.2.2.2.2.1 + 1 + 1) = 15744; omega
  rw [ew2, dw2] at E
  obtain ⟨w3, ew3⟩ : ∃ w, ai_new w2 15744 (1, 0) 0 = w := ⟨_, rfl⟩
  have dw3 : ai_dn w3 = 15872 := by rw [← ew3, ← ew2, ← ew1]; show 128 * (g9.2.2.2.2.1 + 1 + 1 + 1) = 15872; omega
  rw [ew3, dw3] at E
  obtain ⟨w4, ew4⟩ : ∃ w, ai_new w3 15872 (1, 0) 0 = w := ⟨_, rfl⟩
  have dw4 : ai_dn w4 = 16000 := by rw [← ew4, ← ew3, ← ew2, ← ew1]; show 128 * (g9.2.2.2.2.1 + 1 + 1 + 1 + 1) = 16000; omega
  rw [ew4, dw4] at E
  obtain ⟨w5, ew5⟩ : ∃ w, ai_new w4 16000 (1, 0) 0 = w := ⟨_, rfl⟩
  rw [ew5] at E
  obtain ⟨w6, ew6⟩ : ∃ w, ai_stR (ai_stR (ai_stR (ai_stR w5 15488 0 (some 15616)) 15488 1 (some 15744)) 15488 2 (some 15872)) 15488 3 (some 16000) = w := ⟨_, rfl⟩
  have k5 : ∀ q, w5.2.2.2.1 q = if q = 16000 then (1, 0) else if q = 15872 then (1, 0) else if q = 15744 then (1, 0) else if q = 15616 then (1, 0) else if q = 15488 then (44, 0) else g9.2.2.2.1 q := fun q => by rw [← ew5, znew_k, ← ew4, znew_k, ← ew3, znew_k, ← ew2, znew_k, ← ew1, znew_k]
  have i5' : ∀ q, w5.1 q = if q = 16000 then fun _ => 0 else if q = 15872 then fun _ => 0 else if q = 15744 then fun _ => 0 else if q = 15616 then fun _ => 0 else if q = 15488 then fun _ => 0 else g9.1 q := fun q => by rw [← ew5, znew_i, ← ew4, znew_i, ← ew3, znew_i, ← ew2, znew_i, ← ew1, znew_i]
  have r5 : ∀ q, (¬ (15488 ≤ q ∧ q < 16128)) → ∀ i, w5.2.2.1 q i = g9.2.2.1 q i := fun q hq i => by rw [← ew5, znew_r, if_neg (by omega), ← ew4, znew_r, if_neg (by omega), ← ew3, znew_r, if_neg (by omega), ← ew2, znew_r, if_neg (by omega), ← ew1, znew_r, if_neg (by omega)]
  have ct5 : w5.2.2.2.2.1 = 126 ∧ w5.2.2.2.2.2.1 = 125 ∧ w5.2.2.2.2.2.2 = 8466 := by
    have t1 := znew_c (h := g9) (c := 15488) (s := 4) (x := (44, 0))
    have t2 := znew_c (h := w1) (c := 15616) (s := 0) (x := (1, 0))
    have t3 := znew_c (h := w2) (c := 15744) (s := 0) (x := (1, 0))
    have t4 := znew_c (h := w3) (c := 15872) (s := 0) (x := (1, 0))
    have t5 := znew_c (h := w4) (c := 16000) (s := 0) (x := (1, 0))
    rw [ew1] at t1
    rw [ew2] at t2
    rw [ew3] at t3
    rw [ew4] at t4
    rw [ew5] at t5
    unfold zct at *
    omega
  have w1' : w6.1 = w5.1 := by rw [← ew6]; rfl
  have wk : w6.2.2.2.1 = w5.2.2.2.1 := by rw [← ew6]; rfl
  have wc : w6.2.2.2.2 = w5.2.2.2.2 := by rw [← ew6]; rfl
  have wr : ∀ q i, w6.2.2.1 q i = if q = 15488 ∧ i = 3 then some 16000 else if q = 15488 ∧ i = 2 then some 15872 else if q = 15488 ∧ i = 1 then some 15744 else if q = 15488 ∧ i = 0 then some 15616 else w5.2.2.1 q i := fun q i => by rw [← ew6]; rfl
  have r0 : w6.2.2.1 15488 0 = some 15616 := by rw [wr, if_neg (by omega), if_neg (by omega), if_neg (by omega), if_pos ⟨rfl, rfl⟩]
  have r1 : w6.2.2.1 15488 1 = some 15744 := by rw [wr, if_neg (by omega), if_neg (by omega), if_pos ⟨rfl, rfl⟩]
  have r2 : w6.2.2.1 15488 2 = some 15872 := by rw [wr, if_neg (by omega), if_pos ⟨rfl, rfl⟩]
  have r3 : w6.2.2.1 15488 3 = some 16000 := by rw [wr, if_pos ⟨rfl, rfl⟩]
  have q0 : w6.2.2.2.1 15616 = (1, 0) := by rw [wk, k5, if_neg (by decide), if_neg (by decide), if_neg (by decide), if_pos rfl]
  have q1 : w6.2.2.2.1 15744 = (1, 0) := by rw [wk, k5, if_neg (by decide), if_neg (by decide), if_pos rfl]
  have q2 : w6.2.2.2.1 15872 = (1, 0) := by rw [wk, k5, if_neg (by decide), if_pos rfl]
  have q3 : w6.2.2.2.1 16000 = (1, 0) := by rw [wk, k5, if_pos rfl]
  have ky : w5.2.2.2.1 15488 = (44, 0) := by rw [k5, if_neg (by decide), if_neg (by decide), if_neg (by decide), if_neg (by decide), if_pos rfl]
  have cm : ai_cmp w6 15488 4 = true := by
    have K : ∀ a : Nat, w6.2.2.2.1 a = (1, 0) → decide ((w6.2.2.2.1 a).1 = 1) = true := fun a h => decide_eq_true (by rw [h])
    show (ai_okb w6 15488 0 (7, 1, 0) && (ai_okb w6 15488 1 (7, 1, 0) && (ai_okb w6 15488 2 (7, 1, 0) && (ai_okb w6 15488 3 (7, 1, 0) && true)))) = true
    have o0 : ai_okb w6 15488 0 (7, 1, 0) = true := by
      show (match w6.2.2.1 15488 0 with
        | some y => decide ((w6.2.2.2.1 y).1 = 1)
        | none => true) = true
      rw [r0]; exact K _ q0
    have o1 : ai_okb w6 15488 1 (7, 1, 0) = true := by
      show (match w6.2.2.1 15488 1 with
        | some y => decide ((w6.2.2.2.1 y).1 = 1)
        | none => true) = true
      rw [r1]; exact K _ q1
    have o2 : ai_okb w6 15488 2 (7, 1, 0) = true := by
      show (match w6.2.2.1 15488 2 with
        | some y => decide ((w6.2.2.2.1 y).1 = 1)
        | none => true) = true
      rw [r2]; exact K _ q2
    have o3 : ai_okb w6 15488 3 (7, 1, 0) = true := by
      show (match w6.2.2.1 15488 3 with
        | some y => decide ((w6.2.2.2.1 y).1 = 1)
        | none => true) = true
      rw [r3]; exact K _ q3
    rw [o0, o1, o2, o3]
    rfl
  have x30 : ai_X ((d + 4) + 1) 30 [.inr (.inr (44, 0, 15488)), .inr (.inr (1, 0, 15616)), .inr (.inr (1, 0, 15744)), .inr (.inr (1, 0, 15872)), .inr (.inr (1, 0, 16000))] w5 = some ([], w6) := by
    rw [T30, if_pos (by rw [ky]), T30_9, if_pos (by show (w5.2.2.2.1 15488).1 = 44; rw [ky]), T30_14, if_pos (by show (w5.2.2.2.1 15488).1 = 44; rw [ky]), T30_19, if_pos (by show (w5.2.2.2.1 15488).1 = 44; rw [ky]), T30_25, ew6]
  have x30 : ai_X (d + 5) 30 [.inr (.inr (44, 0, 15488)), .inr (.inr (1, 0, 15616)), .inr (.inr (1, 0, 15744)), .inr (.inr (1, 0, 15872)), .inr (.inr (1, 0, 16000))] w5 = some ([], w6) := x30
  have k128 : w6.2.2.2.1 128 = (51, 0) := by rw [wk, k5, if_neg (by decide), if_neg (by decide), if_neg (by decide), if_neg (by decide), if_neg (by decide)]; exact i1
  obtain ⟨w7, ew7⟩ : ∃ w, ai_stR (ai_stK w6 15488 (24, 0)) 128 9 (some 15488) = w := ⟨_, rfl⟩
  have s128 : ((ai_stK w6 15488 (24, 0)).2.2.2.1 128).1 = 51 := by
    show (if 128 = 15488 then ((24, 0) : Nat × Nat) else w6.2.2.2.1 128).1 = 51
    rw [if_neg (by decide), k128]
  rw [x30] at E
  simp only [z_bv] at E
  rw [if_pos ⟨by rw [wk, ky], cm⟩, if_pos s128, ew7] at E
  have k7 : ∀ q, w7.2.2.2.1 q = if q = 15488 then (24, 0) else w6.2.2.2.1 q := fun q => by rw [← ew7]; rfl
  have r7 : ∀ q i, w7.2.2.1 q i = if q = 128 ∧ i = 9 then some 15488 else w6.2.2.1 q i := fun q i => by rw [← ew7]; rfl
  have i7' : w7.1 = w6.1 := by rw [← ew7]; rfl
  have c7 : w7.2.2.2.2 = w6.2.2.2.2 := by rw [← ew7]; rfl
  have kk : w7.2.2.2.1 128 = (51, 0) := by rw [k7, if_neg (by decide), k128]
  obtain ⟨g, eg⟩ : ∃ w, ai_st (ai_st w7 128 10 0) 128 11 (-1) = w := ⟨_, rfl⟩
  have E1 := T85_117 (d + 5) 128 w7
  rw [if_pos (show (w7.2.2.2.1 128).1 = 51 from congrArg Prod.fst kk), T85_122, if_pos (show ((ai_st w7 128 10 0).2.2.2.1 128).1 = 51 from congrArg Prod.fst kk), T85_127, eg] at E1
  have gk : g.2.2.2.1 = w7.2.2.2.1 := by rw [← eg]; rfl
  have gr : g.2.2.1 = w7.2.2.1 := by rw [← eg]; rfl
  have gc : g.2.2.2.2 = w7.2.2.2.2 := by rw [← eg]; rfl
  have out : ∀ q, ¬ (15488 ≤ q ∧ q < 16128) → g.2.2.2.1 q = g9.2.2.2.1 q := fun q hq => by rw [gk, k7, if_neg (by omega), wk, k5, if_neg (by omega), if_neg (by omega), if_neg (by omega), if_neg (by omega), if_neg (by omega)]
  have rt : ∀ q, zdn 3 (ai_ch 128 0) q → ∀ y, y % 128 = 0 → ¬ y = 128 → ¬ q = y := fun q hq y h1 h2 c => by
    have a := zdn_root (n := 4) (by decide) (by decide) (zdn_c (by decide) hq)
    rw [c, zr0 h1] at a
    exact h2 a
  have g128 : g.2.2.1 128 9 = some 15488 := by rw [gr, r7, if_pos ⟨rfl, rfl⟩]
  have L9 : ∀ x ∈ zl85, ¬ x.1 = 9 := by decide
  refine ⟨g, e9.trans (E.trans E1), by rw [gk]; exact kk, ?_, znst_c (fun q hq => ?_) i7, fun q j hq => ?_, fun q hq h2 => ?_, g128, fun k hk => ?_, ?_⟩
  · refine zcmpF (l6 := [(9, 4)]) (l := zl85) (fun x hx => ⟨?_, ?_⟩) (fun p hp n => ?_) _ _ (by decide)
    · rw [out _ (by unfold ai_ch; omega)]
      exact (i2 x hx).2.1
    · rw [gr, r7, if_neg (fun c => L9 x hx c.2), wr, if_neg (by omega), if_neg (by omega), if_neg (by omega), if_neg (by omega), r5 _ (by omega)]
      exact (i2 x hx).2.2
    · rw [List.mem_singleton.mp hp]
      show (match g.2.2.1 128 9 with
        | some y => decide ((g.2.2.2.1 y).1 = 20 + 4)
        | none => true) = true
      rw [g128]
      exact decide_eq_true (by rw [gk, k7, if_pos rfl])
  · have n0 := rt q hq 15488 (by decide) (by decide)
    have n1 := rt q hq 15616 (by decide) (by decide)
    have n2 := rt q hq 15744 (by decide) (by decide)
    have n3 := rt q hq 15872 (by decide) (by decide)
    have n4 := rt q hq 16000 (by decide) (by decide)
    have n5 : ¬ q = 128 := fun c => by rw [c] at hq; exact zdn_up hq
    exact ⟨by rw [← eg, z_ne n5, z_ne n5, i7', w1', i5', if_neg n4, if_neg n3, if_neg n2, if_neg n1, if_neg n0], fun _ => by rw [gk, k7, if_neg n0, wk, k5, if_neg n4, if_neg n3, if_neg n2, if_neg n1, if_neg n0]⟩
  · have z5 : w5.1 q j = 0 := by
      rw [i5']
      by_cases a4 : q = 16000
      · rw [if_pos a4]
      rw [if_neg a4]
      by_cases a3 : q = 15872
      · rw [if_pos a3]
      rw [if_neg a3]
      by_cases a2 : q = 15744
      · rw [if_pos a2]
      rw [if_neg a2]
      by_cases a1 : q = 15616
      · rw [if_pos a1]
      rw [if_neg a1]
      by_cases a0 : q = 15488
      · rw [if_pos a0]
      rw [if_neg a0, i4 q hq]
    rw [← eg, z_st1]
    by_cases c : q = 128 ∧ j = 11
    · rw [if_pos c, if_pos c]
    · rw [if_neg c, if_neg c, z_st1]
      by_cases c2 : q = 128 ∧ j = 10
      · rw [if_pos c2]
      · rw [if_neg c2, i7', w1']
        exact z5
  · rw [out q (by omega)]
    exact i5 q hq
  · rw [gr, gk, r7, if_neg (by omega), k7, if_neg (by omega)]
    rcases (show k = 0 ∨ k = 1 ∨ k = 2 ∨ k = 3 by omega) with rfl | rfl | rfl | rfl
    · exact ⟨r0, q0⟩
    · exact ⟨r1, q1⟩
    · exact ⟨r2, q2⟩
    · exact ⟨r3, q3⟩
  · rw [gc, c7, wc]
    exact ct5
