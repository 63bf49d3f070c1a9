/-! A LAW IS MADE -/
theorem X325 {h : ai_H} {n0 b0 m : Nat} (d : Nat) (hm : m ≤ n0) (hn : n0 ≤ 500) (nb : ¬ b0 = ai_dn h) : ∃ h', ai_X (d + 1) 325 [.inr (.inr (1, n0, b0)), .inl (nI m)] h = some ([.inr (.inr (1, m, ai_dn h))], h') ∧ (∀ q, ¬ q = ai_dn h → h'.1 q = h.1 q ∧ h'.2.2.2.1 q = h.2.2.2.1 q ∧ h'.2.2.1 q = h.2.2.1 q) ∧ h'.2.2.2.1 (ai_dn h) = (1, m) ∧ (∀ j, j < m → h'.1 (ai_dn h) j = h.1 b0 j) ∧ zct 1 m h h' := by
  rw [T325]
  by_cases c : m = n0
  · subst c
    rw [if_pos rfl]
    refine ⟨_, rfl, fun q hq => ⟨?_, ?_, ?_⟩, ?_, fun j _ => ?_, rfl, rfl, rfl⟩
    · show (if q = ai_dn h then h.1 b0 else h.1 q) = _
      rw [if_neg hq]
    · show (if q = ai_dn h then ((1, m) : Nat × Nat) else h.2.2.2.1 q) = _
      rw [if_neg hq]
    · funext i
      show (if q = ai_dn h then none else h.2.2.1 q i) = _
      rw [if_neg hq]
    · show (if ai_dn h = ai_dn h then ((1, m) : Nat × Nat) else h.2.2.2.1 _) = _
      rw [if_pos rfl]
    · show (if ai_dn h = ai_dn h then h.1 b0 else h.1 _) j = _
      rw [if_pos rfl]
  · have e1 : Int32.toNatClampNeg (nI m) = m := nI_clamp (by omega)
    have e2 : ai_min (nI n0) (nI m) = nI m := by
      unfold ai_min
      rw [if_pos (by rw [nI_ltI (by omega) (by omega)]; omega)]
    have e3 : Int32.toNatClampNeg 0 = 0 := rfl
    rw [if_neg (by rw [nI_eq (by omega) (by omega)]; exact c), if_neg (by rw [show (0 : Int32) = nI 0 from rfl, show (30000 : Int32) = nI 30000 from rfl, nI_ltI (by omega) (by omega), nI_ltI (by omega) (by omega)]; omega), e2, e1, e3]
    unfold ai_cp
    rw [e1, e3, if_pos ⟨by decide, by decide, by rw [show (0 : Int32) = nI 0 from rfl, nI_ltI (by omega) (by omega)]; omega, by omega, by omega⟩]
    refine ⟨_, rfl, fun q hq => ⟨?_, ?_, ?_⟩, ?_, fun j hj => ?_, rfl, rfl, rfl⟩
    · funext j
      rw [z_cpy1, if_neg (fun w => hq w.1), znew_i, if_neg hq]
    · show (if q = ai_dn h then ((1, m) : Nat × Nat) else h.2.2.2.1 q) = _
      rw [if_neg hq]
    · funext i
      show (if q = ai_dn h then none else h.2.2.1 q i) = _
      rw [if_neg hq]
    · show (if ai_dn h = ai_dn h then ((1, m) : Nat × Nat) else h.2.2.2.1 _) = _
      rw [if_pos rfl]
    · rw [z_cpy1, if_pos ⟨rfl, Nat.zero_le _, by omega⟩, znew_i, if_neg nb, Nat.sub_zero, Nat.zero_add]
theorem zdn_ct {c s : Nat} {h h' : ai_H} (x : zct c s h h') : ai_dn h' = ai_dn h + 128 * c := by
  unfold ai_dn
  rw [x.1]
  omega
theorem zx55_ok {h : ai_H} {m c : Nat} (d : Nat) (h9 : h.1 16387 9 = nI c) (hm : m ≤ 24) (hc : c ≤ 500) (y : Nat) (hy : ai_dn h = y) : ∃ h', zx55 (d + 1) m h = some ([.inr (.inr (24, 0, y))], h') ∧ (∀ q, (∀ j, j < 5 → ¬ q = y + 128 * j) → h'.1 q = h.1 q ∧ h'.2.2.2.1 q = h.2.2.2.1 q ∧ h'.2.2.1 q = h.2.2.1 q) ∧
    (h'.2.2.1 y 0 = some (y + 128) ∧ h'.2.2.1 y 1 = some (y + 256) ∧ h'.2.2.1 y 2 = some (y + 384) ∧ h'.2.2.1 y 3 = some (y + 512)) ∧
    ((h'.2.2.2.1 (y + 128)).2 = m ∧ (h'.2.2.2.1 (y + 256)).2 = m ∧ (h'.2.2.2.1 (y + 384)).2 = m ∧ (h'.2.2.2.1 (y + 512)).2 = c) ∧
    ((∀ j, j < m → h'.1 (y + 128) j = h.1 2097547 j ∧ h'.1 (y + 256) j = h.1 2097548 j ∧ h'.1 (y + 384) j = h.1 2097549 j) ∧ ∀ j, j < c → h'.1 (y + 512) j = h.1 2097550 j) ∧ zct 5 (4 + m + m + m + c) h h' := by
  have y0 : y % 128 = 0 := by rw [← hy]; unfold ai_dn; omega
  obtain ⟨g0, e0⟩ : ∃ g, ai_new h y (44, 0) 4 = g := ⟨_, rfl⟩
  have z0 : zct 1 4 h g0 := by rw [← e0]; exact znew_c
  have i0 : ∀ q, ¬ q = y → g0.1 q = h.1 q ∧ g0.2.2.2.1 q = h.2.2.2.1 q ∧ g0.2.2.1 q = h.2.2.1 q := fun q hq => by
    rw [← e0]
    exact ⟨by rw [znew_i, if_neg hq], by rw [znew_k, if_neg hq], funext fun i => by rw [znew_r, if_neg hq]⟩
  have k0 : g0.2.2.2.1 y = (44, 0) := by rw [← e0, znew_k, if_pos rfl]
  have dn0 : ai_dn g0 = y + 128 := by rw [zdn_ct z0, hy]
  obtain ⟨g1, a1, b1, c1, d1, f1⟩ := X325 (h := g0) (n0 := 24) (b0 := 2097547) (m := m) d hm (by decide) (by rw [dn0]; omega)
  have dn1 : ai_dn g1 = y + 256 := by rw [zdn_ct f1, dn0]
  rw [dn0] at a1 b1 c1 d1
  obtain ⟨g2, a2, b2, c2, d2, f2⟩ := X325 (h := g1) (n0 := 24) (b0 := 2097548) (m := m) d hm (by decide) (by rw [dn1]; omega)
  have dn2 : ai_dn g2 = y + 384 := by rw [zdn_ct f2, dn1]
  rw [dn1] at a2 b2 c2 d2
  obtain ⟨g3, a3, b3, c3, d3, f3⟩ := X325 (h := g2) (n0 := 24) (b0 := 2097549) (m := m) d hm (by decide) (by rw [dn2]; omega)
  have dn3 : ai_dn g3 = y + 512 := by rw [zdn_ct f3, dn2]
  rw [dn2] at a3 b3 c3 d3
  obtain ⟨g4, a4, b4, c4, d4, f4⟩ := X325 (h := g3) (n0 := 500) (b0 := 2097550) (m := c) d hc (by decide) (by rw [dn3]; omega)
  rw [dn3] at a4 b4 c4 d4
  have k4 : g4.2.2.2.1 y = (44, 0) := by rw [(b4 y (by omega)).2.1, (b3 y (by omega)).2.1, (b2 y (by omega)).2.1, (b1 y (by omega)).2.1, k0]
  have s9 : g3.1 16387 9 = nI c := by rw [(b3 16387 (by omega)).1, (b2 16387 (by omega)).1, (b1 16387 (by omega)).1, (i0 16387 (by omega)).1]; exact h9
  obtain ⟨w, ew⟩ : ∃ w, ai_stR (ai_stR (ai_stR (ai_stR g4 y 0 (some (y + 128))) y 1 (some (y + 256))) y 2 (some (y + 384))) y 3 (some (y + 512)) = w := ⟨_, rfl⟩
  have w1 : w.1 = g4.1 := by rw [← ew]; rfl
  have wk : w.2.2.2.1 = g4.2.2.2.1 := by rw [← ew]; rfl
  have wc : w.2.2.2.2 = g4.2.2.2.2 := by rw [← ew]; rfl
  have wr : ∀ q i, w.2.2.1 q i = if q = y ∧ i = 3 then some (y + 512) else if q = y ∧ i = 2 then some (y + 384) else if q = y ∧ i = 1 then some (y + 256) else if q = y ∧ i = 0 then some (y + 128) else g4.2.2.1 q i := fun q i => by rw [← ew]; rfl
  have r0 : w.2.2.1 y 0 = some (y + 128) := by rw [wr, if_neg (by omega), if_neg (by omega), if_neg (by omega), if_pos ⟨rfl, rfl⟩]
  have r1 : w.2.2.1 y 1 = some (y + 256) := by rw [wr, if_neg (by omega), if_neg (by omega), if_pos ⟨rfl, rfl⟩]
  have r2 : w.2.2.1 y 2 = some (y + 384) := by rw [wr, if_neg (by omega), if_pos ⟨rfl, rfl⟩]
  have r3 : w.2.2.1 y 3 = some (y + 512) := by rw [wr, if_pos ⟨rfl, rfl⟩]
  have q1 : g4.2.2.2.1 (y + 128) = (1, m) := by rw [(b4 _ (by omega)).2.1, (b3 _ (by omega)).2.1, (b2 _ (by omega)).2.1, c1]
  have q2 : g4.2.2.2.1 (y + 256) = (1, m) := by rw [(b4 _ (by omega)).2.1, (b3 _ (by omega)).2.1, c2]
  have q3 : g4.2.2.2.1 (y + 384) = (1, m) := by rw [(b4 _ (by omega)).2.1, c3]
  have cm : ai_cmp w y 4 = true := by
    have K : ∀ a : Nat, (g4.2.2.2.1 a).1 = 1 → decide ((w.2.2.2.1 a).1 = 1) = true := fun a h => by rw [wk]; exact decide_eq_true h
    show (ai_okb w y 0 (7, 1, 0) && (ai_okb w y 1 (7, 1, 0) && (ai_okb w y 2 (7, 1, 0) && (ai_okb w y 3 (7, 1, 0) && true)))) = true
    have o0 : ai_okb w y 0 (7, 1, 0) = true := by
      show (match w.2.2.1 y 0 with
        | some y => decide ((w.2.2.2.1 y).1 = 1)
        | none => true) = true
      rw [r0]; exact K _ (by rw [q1])
    have o1 : ai_okb w y 1 (7, 1, 0) = true := by
      show (match w.2.2.1 y 1 with
        | some y => decide ((w.2.2.2.1 y).1 = 1)
        | none => true) = true
      rw [r1]; exact K _ (by rw [q2])
    have o2 : ai_okb w y 2 (7, 1, 0) = true := by
      show (match w.2.2.1 y 2 with
        | some y => decide ((w.2.2.2.1 y).1 = 1)
        | none => true) = true
      rw [r2]; exact K _ (by rw [q3])
    have o3 : ai_okb w y 3 (7, 1, 0) = true := by
      show (match w.2.2.1 y 3 with
        | some y => decide ((w.2.2.2.1 y).1 = 1)
        | none => true) = true
      rw [r3]; exact K _ (by rw [c4])
    rw [o0, o1, o2, o3]
    rfl
  have ky : ∀ v i, (ai_stR g4 y i v).2.2.2.1 = g4.2.2.2.1 := fun _ _ => rfl
  have x30 : ai_X (d + 1) 30 [.inr (.inr (44, 0, y)), .inr (.inr (1, m, y + 128)), .inr (.inr (1, m, y + 256)), .inr (.inr (1, m, y + 384)), .inr (.inr (1, c, y + 512))] g4 = some ([], w) := by
    rw [T30, if_pos (by rw [k4]), T30_9, if_pos (by show (g4.2.2.2.1 y).1 = 44; rw [k4]), T30_14, if_pos (by show (g4.2.2.2.1 y).1 = 44; rw [k4]), T30_19, if_pos (by show (g4.2.2.2.1 y).1 = 44; rw [k4]), T30_25, ew]
  refine ⟨ai_stK w y (24, 0), ?_, fun q hq => ⟨?_, ?_, ?_⟩, ⟨r0, r1, r2, r3⟩, ⟨?_, ?_, ?_, ?_⟩, ⟨fun j hj => ⟨?_, ?_, ?_⟩, fun j hj => ?_⟩, ?_⟩
  · unfold zx55
    rw [hy, e0, a1, z_br, a2, z_br, a3, z_br, s9, a4, z_br, if_pos rfl, x30, z_bv, if_pos ⟨by rw [wk, k4], cm⟩]
  · have n0 := hq 0 (by decide); have n1 := hq 1 (by decide); have n2 := hq 2 (by decide); have n3 := hq 3 (by decide); have n4 := hq 4 (by decide)
    show w.1 q = _
    rw [w1, (b4 q (by omega)).1, (b3 q (by omega)).1, (b2 q (by omega)).1, (b1 q (by omega)).1, (i0 q (by omega)).1]
  · have n0 := hq 0 (by decide); have n1 := hq 1 (by decide); have n2 := hq 2 (by decide); have n3 := hq 3 (by decide); have n4 := hq 4 (by decide)
    show (if q = y then ((24, 0) : Nat × Nat) else w.2.2.2.1 q) = _
    rw [if_neg (by omega), wk, (b4 q (by omega)).2.1, (b3 q (by omega)).2.1, (b2 q (by omega)).2.1, (b1 q (by omega)).2.1, (i0 q (by omega)).2.1]
  · have n0 := hq 0 (by decide); have n1 := hq 1 (by decide); have n2 := hq 2 (by decide); have n3 := hq 3 (by decide); have n4 := hq 4 (by decide)
    funext i
    show w.2.2.1 q i = _
    rw [wr, if_neg (by omega), if_neg (by omega), if_neg (by omega), if_neg (by omega), (b4 q (by omega)).2.2, (b3 q (by omega)).2.2, (b2 q (by omega)).2.2, (b1 q (by omega)).2.2, (i0 q (by omega)).2.2]
  · show (if y + 128 = y then ((24, 0) : Nat × Nat) else w.2.2.2.1 (y + 128)).2 = m
    rw [if_neg (by omega), wk, q1]
  · show (if y + 256 = y then ((24, 0) : Nat × Nat) else w.2.2.2.1 (y + 256)).2 = m
    rw [if_neg (by omega), wk, q2]
  · show (if y + 384 = y then ((24, 0) : Nat × Nat) else w.2.2.2.1 (y + 384)).2 = m
    rw [if_neg (by omega), wk, q3]
  · show (if y + 512 = y then ((24, 0) : Nat × Nat) else w.2.2.2.1 (y + 512)).2 = c
    rw [if_neg (by omega), wk, c4]
  · show w.1 _ j = _
    rw [w1, (b4 _ (by omega)).1, (b3 _ (by omega)).1, (b2 _ (by omega)).1, d1 j hj, (i0 _ (by omega)).1]
  · show w.1 _ j = _
    rw [w1, (b4 _ (by omega)).1, (b3 _ (by omega)).1, d2 j hj, (b1 _ (by omega)).1, (i0 _ (by omega)).1]
  · show w.1 _ j = _
    rw [w1, (b4 _ (by omega)).1, d3 j hj, (b2 _ (by omega)).1, (b1 _ (by omega)).1, (i0 _ (by omega)).1]
  · show w.1 _ j = _
    rw [w1, d4 j hj, (b3 _ (by omega)).1, (b2 _ (by omega)).1, (b1 _ (by omega)).1, (i0 _ (by omega)).1]
  · have := zct_tr z0 (zct_tr f1 (zct_tr f2 (zct_tr f3 f4)))
    unfold zct at this ⊢
    show w.2.2.2.2.1 = _ ∧ w.2.2.2.2.2.1 = _ ∧ w.2.2.2.2.2.2 = _
    rw [wc]
    omega
