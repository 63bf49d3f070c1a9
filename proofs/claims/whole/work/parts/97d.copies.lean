/-! IMAGES: the reference's copies -/
/-- what a field's row holds behind a copy -/
def znb (f : Nat) (v : Int32) : Int32 := if f = 17 ∨ f = 18 then vp_nar .boolean v else v
/-- so many rows of each field are copied -/
def zcp9 (a b : Nat) (R : Nat → Nat) (h0 g : ai_H) : Prop := g.2 = h0.2 ∧ (∀ q, (q < 2064385 ∨ 2064417 ≤ q) → g.1 q = h0.1 q) ∧ ∀ f, f < 32 → ∀ i, g.1 (2064385 + f) i = if zst f * b ≤ i ∧ i < zst f * b + R f then znb f (h0.1 (2064385 + f) (zst f * a + (i - zst f * b))) else h0.1 (2064385 + f) i
def zru9 (R : Nat → Nat) (f k : Nat) : Nat → Nat := fun g => if g = f then k else R g
theorem zcp9_0 {a b : Nat} {h : ai_H} : zcp9 a b (fun _ => 0) h h := ⟨rfl, fun _ _ => rfl, fun f _ i => by rw [if_neg (by show ¬ (zst f * b ≤ i ∧ i < zst f * b + 0); omega)]⟩
theorem zcp9_c {a b : Nat} {R R' : Nat → Nat} {h g : ai_H} (e : ∀ f, f < 32 → R f = R' f) (x : zcp9 a b R h g) : zcp9 a b R' h g := ⟨x.1, x.2.1, fun f hf i => by rw [x.2.2 f hf i, e f hf]⟩
theorem zcp9_d {a b : Nat} {R R' : Nat → Nat} {h g : ai_H} (x : zcp9 a b R h g) (e : ∀ f, f < 32 → R f = R' f) : zcp9 a b R' h g := zcp9_c e x
theorem zcp9_s {a b k : Nat} {R : Nat → Nat} {h g : ai_H} (f : Nat) {c ia ib : Nat} {v : Int32} (hf : f < 32) (hab : ¬ a = b) (hk : R f = k) (hks : k < zst f) (x : zcp9 a b R h g) (hc : c = 2064385 + f) (ha : ia = zst f * a + k) (hb : ib = zst f * b + k) (hv : v = znb f (g.1 (2064385 + f) (zst f * a + k))) : zcp9 a b (zru9 R f (k + 1)) h (ai_st g c ib v) := by
  subst hc ha hb hv
  obtain ⟨x1, x2, x3⟩ := x
  have out : ¬ (zst f * b ≤ zst f * a + k ∧ zst f * a + k < zst f * b + R f) := by
    rintro ⟨c1, c2⟩
    rcases Nat.lt_or_ge a b with q | q
    · have : zst f * (a + 1) ≤ zst f * b := Nat.mul_le_mul_left _ q
      rw [Nat.mul_add, Nat.mul_one] at this
      omega
    · have : zst f * (b + 1) ≤ zst f * a := Nat.mul_le_mul_left _ (by omega)
      rw [Nat.mul_add, Nat.mul_one] at this
      omega
  have rd : g.1 (2064385 + f) (zst f * a + k) = h.1 (2064385 + f) (zst f * a + k) := by rw [x3 f hf, if_neg out]
  refine ⟨x1, fun q hq => by rw [z_ne (by omega)]; exact x2 q hq, fun e he i => ?_⟩
  rw [z_st1]
  unfold zru9
  by_cases ef : e = f
  · subst ef
    rw [if_pos (show e = e from rfl)]
    by_cases ei : i = zst e * b + k
    · subst ei
      rw [if_pos ⟨rfl, rfl⟩, if_pos ⟨by omega, by omega⟩, rd, show zst e * b + k - zst e * b = k by omega]
    · rw [if_neg (fun c => ei c.2), x3 e he i, hk]
      by_cases c1 : zst e * b ≤ i ∧ i < zst e * b + k
      · rw [if_pos c1, if_pos (by omega)]
      · rw [if_neg c1, if_neg (by omega)]
  · rw [if_neg (fun c => ef (by omega)), if_neg ef, x3 e he i]
theorem zcp9_g {a b k : Nat} {R : Nat → Nat} {h g g' : ai_H} (f : Nat) {c ia ib : Nat} {v : Int32} (hf : f < 32) (hab : ¬ a = b) (hk : R f = k) (hks : k < zst f) (x : zcp9 a b R h g) (hc : c = 2064385 + f) (ha : ia = zst f * a + k) (hb : ib = zst f * b + k) (hv : v = znb f (g.1 c ia)) (e : ai_st g c ib v = g') : zcp9 a b (zru9 R f (k + 1)) h g' := by
  rw [← e]
  exact zcp9_s f hf hab hk hks x hc ha hb (by rw [hv, hc, ha])
theorem z32 {P : Nat → Prop} (h : P 0 ∧ P 1 ∧ P 2 ∧ P 3 ∧ P 4 ∧ P 5 ∧ P 6 ∧ P 7 ∧ P 8 ∧ P 9 ∧ P 10 ∧ P 11 ∧ P 12 ∧ P 13 ∧ P 14 ∧ P 15 ∧ P 16 ∧ P 17 ∧ P 18 ∧ P 19 ∧ P 20 ∧ P 21 ∧ P 22 ∧ P 23 ∧ P 24 ∧ P 25 ∧ P 26 ∧ P 27 ∧ P 28 ∧ P 29 ∧ P 30 ∧ P 31) : ∀ f, f < 32 → P f := by
  intro f hf
  obtain ⟨h0, h1, h2, h3, h4, h5, h6, h7, h8, h9, h10, h11, h12, h13, h14, h15, h16, h17, h18, h19, h20, h21, h22, h23, h24, h25, h26, h27, h28, h29, h30, h31⟩ := h
  rcases (show f = 0 ∨ f = 1 ∨ f = 2 ∨ f = 3 ∨ f = 4 ∨ f = 5 ∨ f = 6 ∨ f = 7 ∨ f = 8 ∨ f = 9 ∨ f = 10 ∨ f = 11 ∨ f = 12 ∨ f = 13 ∨ f = 14 ∨ f = 15 ∨ f = 16 ∨ f = 17 ∨ f = 18 ∨ f = 19 ∨ f = 20 ∨ f = 21 ∨ f = 22 ∨ f = 23 ∨ f = 24 ∨ f = 25 ∨ f = 26 ∨ f = 27 ∨ f = 28 ∨ f = 29 ∨ f = 30 ∨ f = 31 by omega) with rfl | rfl | rfl | rfl | rfl | rfl | rfl | rfl | rfl | rfl | rfl | rfl | rfl | rfl | rfl | rfl | rfl | rfl | rfl | rfl | rfl | rfl | rfl | rfl | rfl | rfl | rfl | rfl | rfl | rfl | rfl | rfl
  · exact h0
  · exact h1
  · exact h2
  · exact h3
  · exact h4
  · exact h5
  · exact h6
  · exact h7
  · exact h8
  · exact h9
  · exact h10
  · exact h11
  · exact h12
  · exact h13
  · exact h14
  · exact h15
  · exact h16
  · exact h17
  · exact h18
  · exact h19
  · exact h20
  · exact h21
  · exact h22
  · exact h23
  · exact h24
  · exact h25
  · exact h26
  · exact h27
  · exact h28
  · exact h29
  · exact h30
  · exact h31
theorem z24 {a k : Nat} : (24 : Int32) * nI a + nI k = nI (24 * a + k) := by rw [show (24 : Int32) = nI 24 from rfl, pk_mul, nI_add]
theorem z30m {a k : Nat} : (30 : Int32) * nI a + nI k = nI (30 * a + k) := by rw [show (30 : Int32) = nI 30 from rfl, pk_mul, nI_add]
theorem z20m {a k : Nat} : (20 : Int32) * nI a + nI k = nI (20 * a + k) := by rw [show (20 : Int32) = nI 20 from rfl, pk_mul, nI_add]
theorem z600 {a k : Nat} : (600 : Int32) * nI a + nI k = nI (600 * a + k) := by rw [show (600 : Int32) = nI 600 from rfl, pk_mul, nI_add]
theorem z40m {a k : Nat} : (40 : Int32) * nI a + nI k = nI (40 * a + k) := by rw [show (40 : Int32) = nI 40 from rfl, pk_mul, nI_add]
theorem M192 {h : ai_H} {a b : Nat} (d : Nat) (ha : a ≤ 3) (hb : b ≤ 3) (hab : ¬ a = b) : ∃ h', ai_X (d + 1) 192 [.inr (.inr (32, 0, 16128)), .inl (nI a), .inl (nI b)] h = some ([], h') ∧ zcp9 a b (fun f => if f = 9 ∨ f = 21 then 0 else zst f) h h' := by
  have ia : ∀ f : Nat → Option ai_R, ai_ix (nI a) 4 f = f a := fun f => z_ix (by omega) (by decide)
  have ib : ∀ f : Nat → Option ai_R, ai_ix (nI b) 4 f = f b := fun f => z_ix (by omega) (by decide)
  -- jobs
  have L5 : ∀ q k, k + q = 40 → ∀ g z4 z5, zcp9 a b (fun f => if f < 9 then 1 else if f = 9 ∨ f = 21 then 0 else if f < 18 then 24 else if f = 18 then k else if f = 19 then 30 else if f = 20 then 20 else if f < 27 then 600 else k) h g → ∃ h', ai_E d 192 459 [some (.inr (.inr (32, 0, 16128))), some (.inl (nI a)), some (.inl (nI b)), some (.inl (nI k)), z4, z5] [] g = some ([], h') ∧ zcp9 a b (fun f => if f = 9 ∨ f = 21 then 0 else zst f) h h' := by
    intro q
    induction q with
    | zero =>
      intro k hk g z4 z5 x
      have hk : k = 40 := by omega
      subst hk
      exact ⟨g, by rw [T192_459, if_pos (by decide)], zcp9_d x (z32 ⟨rfl, rfl, rfl, rfl, rfl, rfl, rfl, rfl, rfl, rfl, rfl, rfl, rfl, rfl, rfl, rfl, rfl, rfl, rfl, rfl, rfl, rfl, rfl, rfl, rfl, rfl, rfl, rfl, rfl, rfl, rfl, rfl⟩)⟩
    | succ q ih =>
      intro k hk g z4 z5 x
      have i1 : ∀ f : Nat → Option ai_R, ai_ix (nI (40 * a + k)) 160 f = f (40 * a + k) := fun f => z_ix (by omega) (by decide)
      have i2 : ∀ f : Nat → Option ai_R, ai_ix (nI (40 * b + k)) 160 f = f (40 * b + k) := fun f => z_ix (by omega) (by decide)
      rw [T192_459, if_neg (by rw [show (40 : Int32) = nI 40 from rfl, nI_leI (by omega) (by omega)]; omega)]
      simp only [z40m, i1, i2, nI_1]
      generalize e1 : ai_st g 2064412 (40 * b + k) (g.1 2064412 (40 * a + k)) = g1
      have x1 := zcp9_g 27 (by decide) hab (k := k) (by simp [zru9]) (by show k < 40; omega) x (c := 2064412) rfl (ia := 40 * a + k) rfl (ib := 40 * b + k) rfl rfl e1
      generalize e2 : ai_st g1 2064413 (40 * b + k) (g1.1 2064413 (40 * a + k)) = g2
      have x2 := zcp9_g 28 (by decide) hab (k := k) (by simp [zru9]) (by show k < 40; omega) x1 (c := 2064413) rfl (ia := 40 * a + k) rfl (ib := 40 * b + k) rfl rfl e2
      generalize e3 : ai_st g2 2064414 (40 * b + k) (g2.1 2064414 (40 * a + k)) = g3
      have x3 := zcp9_g 29 (by decide) hab (k := k) (by simp [zru9]) (by show k < 40; omega) x2 (c := 2064414) rfl (ia := 40 * a + k) rfl (ib := 40 * b + k) rfl rfl e3
      generalize e4 : ai_st g3 2064415 (40 * b + k) (g3.1 2064415 (40 * a + k)) = g4
      have x4 := zcp9_g 30 (by decide) hab (k := k) (by simp [zru9]) (by show k < 40; omega) x3 (c := 2064415) rfl (ia := 40 * a + k) rfl (ib := 40 * b + k) rfl rfl e4
      generalize e5 : ai_st g4 2064416 (40 * b + k) (g4.1 2064416 (40 * a + k)) = g5
      have x5 := zcp9_g 31 (by decide) hab (k := k) (by simp [zru9]) (by show k < 40; omega) x4 (c := 2064416) rfl (ia := 40 * a + k) rfl (ib := 40 * b + k) rfl rfl e5
      generalize e6 : ai_st g5 2064403 (40 * b + k) (vp_nar .boolean (g5.1 2064403 (40 * a + k))) = g6
      have x6 := zcp9_g 18 (by decide) hab (k := k) (by simp [zru9]) (by show k < 40; omega) x5 (c := 2064403) rfl (ia := 40 * a + k) rfl (ib := 40 * b + k) rfl rfl e6
      exact ih (k + 1) (by omega) _ _ _ (zcp9_d x6 (z32 ⟨rfl, rfl, rfl, rfl, rfl, rfl, rfl, rfl, rfl, rfl, rfl, rfl, rfl, rfl, rfl, rfl, rfl, rfl, rfl, rfl, rfl, rfl, rfl, rfl, rfl, rfl, rfl, rfl, rfl, rfl, rfl, rfl⟩))
  -- what was told
  have L4 : ∀ q k, k + q = 600 → ∀ g z4 z5, zcp9 a b (fun f => if f < 9 then 1 else if f = 9 ∨ f = 21 then 0 else if f < 18 then 24 else if f = 18 then 0 else if f = 19 then 30 else if f = 20 then 20 else if f < 27 then k else 0) h g → ∃ h', ai_E d 192 324 [some (.inr (.inr (32, 0, 16128))), some (.inl (nI a)), some (.inl (nI b)), some (.inl (nI k)), z4, z5] [] g = some ([], h') ∧ zcp9 a b (fun f => if f = 9 ∨ f = 21 then 0 else zst f) h h' := by
    intro q
    induction q with
    | zero =>
      intro k hk g z4 z5 x
      have hk : k = 600 := by omega
      subst hk
      rw [T192_324, if_pos (by decide)]
      exact L5 40 0 rfl g z4 z5 x
    | succ q ih =>
      intro k hk g z4 z5 x
      have i1 : ∀ f : Nat → Option ai_R, ai_ix (nI (600 * a + k)) 2400 f = f (600 * a + k) := fun f => z_ix (by omega) (by decide)
      have i2 : ∀ f : Nat → Option ai_R, ai_ix (nI (600 * b + k)) 2400 f = f (600 * b + k) := fun f => z_ix (by omega) (by decide)
      rw [T192_324, if_neg (by rw [show (600 : Int32) = nI 600 from rfl, nI_leI (by omega) (by omega)]; omega)]
      simp only [z600, i1, i2, nI_1]
      generalize e1 : ai_st g 2064407 (600 * b + k) (g.1 2064407 (600 * a + k)) = g1
      have x1 := zcp9_g 22 (by decide) hab (k := k) (by simp [zru9]) (by show k < 600; omega) x (c := 2064407) rfl (ia := 600 * a + k) rfl (ib := 600 * b + k) rfl rfl e1
      generalize e2 : ai_st g1 2064408 (600 * b + k) (g1.1 2064408 (600 * a + k)) = g2
      have x2 := zcp9_g 23 (by decide) hab (k := k) (by simp [zru9]) (by show k < 600; omega) x1 (c := 2064408) rfl (ia := 600 * a + k) rfl (ib := 600 * b + k) rfl rfl e2
      generalize e3 : ai_st g2 2064409 (600 * b + k) (g2.1 2064409 (600 * a + k)) = g3
      have x3 := zcp9_g 24 (by decide) hab (k := k) (by simp [zru9]) (by show k < 600; omega) x2 (c := 2064409) rfl (ia := 600 * a + k) rfl (ib := 600 * b + k) rfl rfl e3
      generalize e4 : ai_st g3 2064410 (600 * b + k) (g3.1 2064410 (600 * a + k)) = g4
      have x4 := zcp9_g 25 (by decide) hab (k := k) (by simp [zru9]) (by show k < 600; omega) x3 (c := 2064410) rfl (ia := 600 * a + k) rfl (ib := 600 * b + k) rfl rfl e4
      generalize e5 : ai_st g4 2064411 (600 * b + k) (g4.1 2064411 (600 * a + k)) = g5
      have x5 := zcp9_g 26 (by decide) hab (k := k) (by simp [zru9]) (by show k < 600; omega) x4 (c := 2064411) rfl (ia := 600 * a + k) rfl (ib := 600 * b + k) rfl rfl e5
      exact ih (k + 1) (by omega) _ _ _ (zcp9_d x5 (z32 ⟨rfl, rfl, rfl, rfl, rfl, rfl, rfl, rfl, rfl, rfl, rfl, rfl, rfl, rfl, rfl, rfl, rfl, rfl, rfl, rfl, rfl, rfl, rfl, rfl, rfl, rfl, rfl, rfl, rfl, rfl, rfl, rfl⟩))
  have L3 : ∀ q k, k + q = 20 → ∀ g z4 z5, zcp9 a b (fun f => if f < 9 then 1 else if f = 9 ∨ f = 21 then 0 else if f < 18 then 24 else if f = 18 then 0 else if f = 19 then 30 else if f = 20 then k else 0) h g → ∃ h', ai_E d 192 288 [some (.inr (.inr (32, 0, 16128))), some (.inl (nI a)), some (.inl (nI b)), some (.inl (nI k)), z4, z5] [] g = some ([], h') ∧ zcp9 a b (fun f => if f = 9 ∨ f = 21 then 0 else zst f) h h' := by
    intro q
    induction q with
    | zero =>
      intro k hk g z4 z5 x
      have hk : k = 20 := by omega
      subst hk
      rw [T192_288, if_pos (by decide)]
      exact L4 600 0 rfl g z4 z5 (zcp9_d x (z32 ⟨rfl, rfl, rfl, rfl, rfl, rfl, rfl, rfl, rfl, rfl, rfl, rfl, rfl, rfl, rfl, rfl, rfl, rfl, rfl, rfl, rfl, rfl, rfl, rfl, rfl, rfl, rfl, rfl, rfl, rfl, rfl, rfl⟩))
    | succ q ih =>
      intro k hk g z4 z5 x
      have i1 : ∀ f : Nat → Option ai_R, ai_ix (nI (20 * a + k)) 80 f = f (20 * a + k) := fun f => z_ix (by omega) (by decide)
      have i2 : ∀ f : Nat → Option ai_R, ai_ix (nI (20 * b + k)) 80 f = f (20 * b + k) := fun f => z_ix (by omega) (by decide)
      rw [T192_288, if_neg (by rw [show (20 : Int32) = nI 20 from rfl, nI_leI (by omega) (by omega)]; omega)]
      simp only [z20m, i1, i2, nI_1]
      generalize e1 : ai_st g 2064405 (20 * b + k) (g.1 2064405 (20 * a + k)) = g1
      have x1 := zcp9_g 20 (by decide) hab (k := k) (by simp [zru9]) (by show k < 20; omega) x (c := 2064405) rfl (ia := 20 * a + k) rfl (ib := 20 * b + k) rfl rfl e1
      exact ih (k + 1) (by omega) _ _ _ (zcp9_d x1 (z32 ⟨rfl, rfl, rfl, rfl, rfl, rfl, rfl, rfl, rfl, rfl, rfl, rfl, rfl, rfl, rfl, rfl, rfl, rfl, rfl, rfl, rfl, rfl, rfl, rfl, rfl, rfl, rfl, rfl, rfl, rfl, rfl, rfl⟩))
  have L2 : ∀ q k, k + q = 30 → ∀ g z4 z5, zcp9 a b (fun f => if f < 9 then 1 else if f = 9 ∨ f = 21 then 0 else if f < 18 then 24 else if f = 18 then 0 else if f = 19 then k else 0) h g → ∃ h', ai_E d 192 252 [some (.inr (.inr (32, 0, 16128))), some (.inl (nI a)), some (.inl (nI b)), some (.inl (nI k)), z4, z5] [] g = some ([], h') ∧ zcp9 a b (fun f => if f = 9 ∨ f = 21 then 0 else zst f) h h' := by
    intro q
    induction q with
    | zero =>
      intro k hk g z4 z5 x
      have hk : k = 30 := by omega
      subst hk
      rw [T192_252, if_pos (by decide)]
      exact L3 20 0 rfl g z4 z5 (zcp9_d x (z32 ⟨rfl, rfl, rfl, rfl, rfl, rfl, rfl, rfl, rfl, rfl, rfl, rfl, rfl, rfl, rfl, rfl, rfl, rfl, rfl, rfl, rfl, rfl, rfl, rfl, rfl, rfl, rfl, rfl, rfl, rfl, rfl, rfl⟩))
    | succ q ih =>
      intro k hk g z4 z5 x
      have i1 : ∀ f : Nat → Option ai_R, ai_ix (nI (30 * a + k)) 120 f = f (30 * a + k) := fun f => z_ix (by omega) (by decide)
      have i2 : ∀ f : Nat → Option ai_R, ai_ix (nI (30 * b + k)) 120 f = f (30 * b + k) := fun f => z_ix (by omega) (by decide)
      rw [T192_252, if_neg (by rw [show (30 : Int32) = nI 30 from rfl, nI_leI (by omega) (by omega)]; omega)]
      simp only [z30m, i1, i2, nI_1]
      generalize e1 : ai_st g 2064404 (30 * b + k) (g.1 2064404 (30 * a + k)) = g1
      have x1 := zcp9_g 19 (by decide) hab (k := k) (by simp [zru9]) (by show k < 30; omega) x (c := 2064404) rfl (ia := 30 * a + k) rfl (ib := 30 * b + k) rfl rfl e1
      exact ih (k + 1) (by omega) _ _ _ (zcp9_d x1 (z32 ⟨rfl, rfl, rfl, rfl, rfl, rfl, rfl, rfl, rfl, rfl, rfl, rfl, rfl, rfl, rfl, rfl, rfl, rfl, rfl, rfl, rfl, rfl, rfl, rfl, rfl, rfl, rfl, rfl, rfl, rfl, rfl, rfl⟩))
  have L1 : ∀ q k, k + q = 24 → ∀ g z4 z5, zcp9 a b (fun f => if f < 9 then 1 else if f = 9 then 0 else if f < 18 then k else 0) h g → ∃ h', ai_E d 192 110 [some (.inr (.inr (32, 0, 16128))), some (.inl (nI a)), some (.inl (nI b)), some (.inl (nI k)), z4, z5] [] g = some ([], h') ∧ zcp9 a b (fun f => if f = 9 ∨ f = 21 then 0 else zst f) h h' := by
    intro q
    induction q with
    | zero =>
      intro k hk g z4 z5 x
      have hk : k = 24 := by omega
      subst hk
      rw [T192_110, if_pos (by decide)]
      exact L2 30 0 rfl g z4 z5 (zcp9_d x (z32 ⟨rfl, rfl, rfl, rfl, rfl, rfl, rfl, rfl, rfl, rfl, rfl, rfl, rfl, rfl, rfl, rfl, rfl, rfl, rfl, rfl, rfl, rfl, rfl, rfl, rfl, rfl, rfl, rfl, rfl, rfl, rfl, rfl⟩))
    | succ q ih =>
      intro k hk g z4 z5 x
      have i1 : ∀ f : Nat → Option ai_R, ai_ix (nI (24 * a + k)) 96 f = f (24 * a + k) := fun f => z_ix (by omega) (by decide)
      have i2 : ∀ f : Nat → Option ai_R, ai_ix (nI (24 * b + k)) 96 f = f (24 * b + k) := fun f => z_ix (by omega) (by decide)
      rw [T192_110, if_neg (by rw [show (24 : Int32) = nI 24 from rfl, nI_leI (by omega) (by omega)]; omega)]
      simp only [z24, i1, i2, nI_1]
      generalize e1 : ai_st g 2064395 (24 * b + k) (g.1 2064395 (24 * a + k)) = g1
      have x1 := zcp9_g 10 (by decide) hab (k := k) (by simp [zru9]) (by show k < 24; omega) x (c := 2064395) rfl (ia := 24 * a + k) rfl (ib := 24 * b + k) rfl rfl e1
      generalize e2 : ai_st g1 2064396 (24 * b + k) (g1.1 2064396 (24 * a + k)) = g2
      have x2 := zcp9_g 11 (by decide) hab (k := k) (by simp [zru9]) (by show k < 24; omega) x1 (c := 2064396) rfl (ia := 24 * a + k) rfl (ib := 24 * b + k) rfl rfl e2
      generalize e3 : ai_st g2 2064397 (24 * b + k) (g2.1 2064397 (24 * a + k)) = g3
      have x3 := zcp9_g 12 (by decide) hab (k := k) (by simp [zru9]) (by show k < 24; omega) x2 (c := 2064397) rfl (ia := 24 * a + k) rfl (ib := 24 * b + k) rfl rfl e3
      generalize e4 : ai_st g3 2064398 (24 * b + k) (g3.1 2064398 (24 * a + k)) = g4
      have x4 := zcp9_g 13 (by decide) hab (k := k) (by simp [zru9]) (by show k < 24; omega) x3 (c := 2064398) rfl (ia := 24 * a + k) rfl (ib := 24 * b + k) rfl rfl e4
      generalize e5 : ai_st g4 2064399 (24 * b + k) (g4.1 2064399 (24 * a + k)) = g5
      have x5 := zcp9_g 14 (by decide) hab (k := k) (by simp [zru9]) (by show k < 24; omega) x4 (c := 2064399) rfl (ia := 24 * a + k) rfl (ib := 24 * b + k) rfl rfl e5
      generalize e6 : ai_st g5 2064400 (24 * b + k) (g5.1 2064400 (24 * a + k)) = g6
      have x6 := zcp9_g 15 (by decide) hab (k := k) (by simp [zru9]) (by show k < 24; omega) x5 (c := 2064400) rfl (ia := 24 * a + k) rfl (ib := 24 * b + k) rfl rfl e6
      generalize e7 : ai_st g6 2064401 (24 * b + k) (g6.1 2064401 (24 * a + k)) = g7
      have x7 := zcp9_g 16 (by decide) hab (k := k) (by simp [zru9]) (by show k < 24; omega) x6 (c := 2064401) rfl (ia := 24 * a + k) rfl (ib := 24 * b + k) rfl rfl e7
      generalize e8 : ai_st g7 2064402 (24 * b + k) (vp_nar .boolean (g7.1 2064402 (24 * a + k))) = g8
      have x8 := zcp9_g 17 (by decide) hab (k := k) (by simp [zru9]) (by show k < 24; omega) x7 (c := 2064402) rfl (ia := 24 * a + k) rfl (ib := 24 * b + k) rfl rfl e8
      exact ih (k + 1) (by omega) _ _ _ (zcp9_d x8 (z32 ⟨rfl, rfl, rfl, rfl, rfl, rfl, rfl, rfl, rfl, rfl, rfl, rfl, rfl, rfl, rfl, rfl, rfl, rfl, rfl, rfl, rfl, rfl, rfl, rfl, rfl, rfl, rfl, rfl, rfl, rfl, rfl, rfl⟩))
  rw [T192]
  simp only [ia, ib]
  generalize e1 : ai_st h 2064385 b (h.1 2064385 a) = g1
  have x1 := zcp9_g 0 (by decide) hab (k := 0) (by simp [zru9]) (by decide) (zcp9_0 (a := a) (b := b) (h := h)) (c := 2064385) rfl (ia := a) (by show a = 1 * a + 0; omega) (ib := b) (by show b = 1 * b + 0; omega) rfl e1
  generalize e2 : ai_st g1 2064386 b (g1.1 2064386 a) = g2
  have x2 := zcp9_g 1 (by decide) hab (k := 0) (by simp [zru9]) (by decide) x1 (c := 2064386) rfl (ia := a) (by show a = 1 * a + 0; omega) (ib := b) (by show b = 1 * b + 0; omega) rfl e2
  generalize e3 : ai_st g2 2064387 b (g2.1 2064387 a) = g3
  have x3 := zcp9_g 2 (by decide) hab (k := 0) (by simp [zru9]) (by decide) x2 (c := 2064387) rfl (ia := a) (by show a = 1 * a + 0; omega) (ib := b) (by show b = 1 * b + 0; omega) rfl e3
  generalize e4 : ai_st g3 2064388 b (g3.1 2064388 a) = g4
  have x4 := zcp9_g 3 (by decide) hab (k := 0) (by simp [zru9]) (by decide) x3 (c := 2064388) rfl (ia := a) (by show a = 1 * a + 0; omega) (ib := b) (by show b = 1 * b + 0; omega) rfl e4
  generalize e5 : ai_st g4 2064389 b (g4.1 2064389 a) = g5
  have x5 := zcp9_g 4 (by decide) hab (k := 0) (by simp [zru9]) (by decide) x4 (c := 2064389) rfl (ia := a) (by show a = 1 * a + 0; omega) (ib := b) (by show b = 1 * b + 0; omega) rfl e5
  generalize e6 : ai_st g5 2064390 b (g5.1 2064390 a) = g6
  have x6 := zcp9_g 5 (by decide) hab (k := 0) (by simp [zru9]) (by decide) x5 (c := 2064390) rfl (ia := a) (by show a = 1 * a + 0; omega) (ib := b) (by show b = 1 * b + 0; omega) rfl e6
  generalize e7 : ai_st g6 2064391 b (g6.1 2064391 a) = g7
  have x7 := zcp9_g 6 (by decide) hab (k := 0) (by simp [zru9]) (by decide) x6 (c := 2064391) rfl (ia := a) (by show a = 1 * a + 0; omega) (ib := b) (by show b = 1 * b + 0; omega) rfl e7
  generalize e8 : ai_st g7 2064392 b (g7.1 2064392 a) = g8
  have x8 := zcp9_g 7 (by decide) hab (k := 0) (by simp [zru9]) (by decide) x7 (c := 2064392) rfl (ia := a) (by show a = 1 * a + 0; omega) (ib := b) (by show b = 1 * b + 0; omega) rfl e8
  generalize e9 : ai_st g8 2064393 b (g8.1 2064393 a) = g9
  have x9 := zcp9_g 8 (by decide) hab (k := 0) (by simp [zru9]) (by decide) x8 (c := 2064393) rfl (ia := a) (by show a = 1 * a + 0; omega) (ib := b) (by show b = 1 * b + 0; omega) rfl e9
  exact L1 24 0 rfl g9 none none (zcp9_d x9 (z32 ⟨rfl, rfl, rfl, rfl, rfl, rfl, rfl, rfl, rfl, rfl, rfl, rfl, rfl, rfl, rfl, rfl, rfl, rfl, rfl, rfl, rfl, rfl, rfl, rfl, rfl, rfl, rfl, rfl, rfl, rfl, rfl, rfl⟩))
