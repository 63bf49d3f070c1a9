/-! IMAGES: one is made -/
theorem zS_c2 {h h' : ai_H} {s T : Nat} {σ : Nat → Nat → Int32} (a : ∀ q, zbl s q → h'.1 q = h.1 q) (b : ∀ q, zbl s q → h'.2.2.2.1 q = h.2.2.2.1 q) (hs : zS h s T σ) : zS h' s T σ := by
  obtain ⟨h1, h2, h3, h4, h5⟩ := hs
  refine ⟨zC_c (fun q hq => a q ?_) h1, zD_c (fun q hq => a q ?_) h2, zJ_c (fun q hq => a q ?_) h3, fun t ht => ?_, fun k hk => ?_⟩
  · rcases hq with rfl | hq
    · exact Or.inl (zfp_c (by decide))
    · exact Or.inr (Or.inl (by rw [hq, zfp_c (by decide)]))
  · rcases hq with rfl | hq | hq
    · exact Or.inl (zfp_c (by decide))
    · exact Or.inr (Or.inl (by rw [hq, zfp_c (by decide)]))
    · exact Or.inr (Or.inr (by rw [hq, zfp_c (by decide)]))
  · rcases hq with rfl | hq
    · exact Or.inl (zfp_c (by decide))
    · exact Or.inr (Or.inl (by rw [hq, zfp_c (by decide)]))
  · rw [a _ (zbl_1 (by decide))]
    exact h4 t ht
  · unfold zLk
    rw [b _ (zbl_3 (by decide) (by omega) (by decide)), b _ (zbl_3 (by decide) (by omega) (by decide)), b _ (zbl_3 (by decide) (by omega) (by decide)), b _ (zbl_3 (by decide) (by omega) (by decide))]
    exact h5 k hk
theorem zdn3_bl {a q : Nat} (h : zdn 3 a q) (n : ¬ q = a) : zbl a q := by
  rcases (show q = a ∨ zfp q = a ∨ zfp (zfp q) = a ∨ zfp (zfp (zfp q)) = a from h) with h | h
  · exact absurd h n
  · exact h
theorem zdn3_root {y q : Nat} (hy : y % 128 = 0) (h : zdn 3 y q) : zroot q = y := by
  by_cases c : q = y
  · rw [c, zr0 hy]
  · exact zbl_root hy (zdn3_bl h c)
/-- what the class leaves when an image is made -/
def zimX (h h3 : ai_H) (y n T : Nat) (σ : Nat → Nat → Int32) : Prop := (∀ q, ¬ zroot q = y → ¬ q = 128 → h3.1 q = h.1 q) ∧ (∀ j, h3.1 128 j = if j = 10 then nI (n + 1) else h.1 128 j) ∧ (∀ q i, ¬ zroot q = y → ¬ (q = 16386 ∧ i = n) → h3.2.2.1 q i = h.2.2.1 q i) ∧ h3.2.2.1 16386 n = some y ∧ (∀ q, ¬ zroot q = y → h3.2.2.2.1 q = h.2.2.2.1 q) ∧ h3.1 y 4 = nI T ∧ (zC h3 (ai_ch y 0) σ ∧ zD h3 (ai_ch y 1) σ ∧ zJ h3 (ai_ch y 2) σ ∧ (∀ t, t < T → h3.1 (ai_ch y 3) t = h.1 (ai_ch 16385 3) t) ∧ ∀ k, k < 12 → zLk h3 (ai_ch (ai_ch y 1) k) (zmost k)) ∧ zct 81 2990 h h3
theorem X143 {h : ai_H} {n T : Nat} (d : Nat) (hr : zR h) (hn : zg (zMv h) 32 = n) (hn3 : n < 3) (hT : zg (zMv h) 33 = T) : ∃ h3, ai_X (d + 6) 143 [.inr (.inr (31, 0, 128))] h = some ([.inl (nI n)], h3) ∧ zimX h h3 (ai_dn h) n T (zsl (zMv h) 0) := by
  obtain ⟨r1, r2, r3, r4⟩ := id hr
  obtain ⟨vi, vs, -⟩ := r2
  obtain ⟨rS, -, rI, -, -, rT⟩ := r1
  have e32 : (zMv h).2 32 = nI n := by rw [← hn]; exact z_nat vi.1.1
  have e33 : (zMv h).2 33 = nI T := by rw [← hT]; exact z_nat vi.2.1.1
  have hT5 : T ≤ 5 := by rw [← hT]; have := vi.2.1; unfold zi at this; unfold zg; omega
  have c10 : h.1 128 10 = nI n := rI.1.trans e32
  have ct : h.1 16388 0 = nI T := rT.1.trans e33
  obtain ⟨y, hy⟩ : ∃ y, ai_dn h = y := ⟨_, rfl⟩
  rw [hy] at r4 ⊢
  have hy0 : y % 128 = 0 := by rw [← hy]; unfold ai_dn; omega
  rw [hT] at rS
  have V0 := vs 0 (Nat.zero_le _)
  -- a new state
  have hk0 : (ai_new h y (48, 0) 5).2.2.2.1 y = (48, 0) := by rw [znew_k, if_pos rfl]
  obtain ⟨h1, a1, a2, a3, a4, a5, a6, a7⟩ := X71 (h := ai_new h y (48, 0) 5) (a := y) (d + 1) hk0 (fun q hq hne => by
    rw [znew_k, if_neg hne]
    exact r3 q (by rw [zdn3_root hy0 hq, hy]; exact Nat.le_refl _))
  have a1 : ai_X (d + 5) 71 [.inr (.inr (48, 0, y))] (ai_new h y (48, 0) 5) = some ([], h1) := a1
  have fr1 : ∀ q, ¬ zroot q = y → h1.1 q = h.1 q ∧ h1.2.2.1 q = h.2.2.1 q ∧ h1.2.2.2.1 q = h.2.2.2.1 q := fun q hq => by
    have n1 : ¬ q = y := fun c => hq (by rw [c, zr0 hy0])
    have := a2 q fun c => hq (zdn3_root hy0 c)
    refine ⟨by rw [this.1, znew_i, if_neg n1], by rw [this.2.1]; exact funext fun i => by rw [znew_r, if_neg n1], by rw [this.2.2, znew_k, if_neg n1]⟩
  have nin : ∀ q, zbl 16385 q → ¬ zroot q = y := fun q hq c => by
    rw [zin_r (zbl_in.mp hq)] at c
    omega
  have S1 : zS (ai_stK h1 y (28, 0)) 16385 T (zsl (zMv h) 0) := zS_c2 (fun q hq => (fr1 q (nin q hq)).1) (fun q hq => by
    show (if q = y then ((28, 0) : Nat × Nat) else h1.2.2.2.1 q) = _
    rw [if_neg (fun c => nin q hq (by rw [c, zr0 hy0]))]
    exact (fr1 q (nin q hq)).2.2) rS
  have L1 : ∀ k, k < 12 → zLk (ai_stK h1 y (28, 0)) (ai_ch (ai_ch y 1) k) (zmost k) := fun k hk => by
    have := (a6.1 k hk).1
    have nk : ∀ j, (ai_stK h1 y (28, 0)).2.2.2.1 (ai_ch (ai_ch (ai_ch y 1) k) j) = h1.2.2.2.1 (ai_ch (ai_ch (ai_ch y 1) k) j) := fun j => by
      show (if _ = y then ((28, 0) : Nat × Nat) else _) = _
      rw [if_neg (fun c => by unfold ai_ch at c; omega)]
    unfold zLk at this ⊢
    rw [nk, nk, nk, nk]
    exact this
  obtain ⟨h2, b1, b2, b3, b4, b5, b6, b7, b8⟩ := X72 (h := ai_stK h1 y (28, 0)) (a := y) (b := 16385) (T0 := T) (T := T) (σ := zsl (zMv h) 0) (d + 2) V0 S1 hT5 L1 (fun q hq c => nin q hq (zbl_root hy0 c))
  have b1 : ai_X (d + 5) 72 [.inr (.inr (28, 0, y)), .inr (.inr (28, 0, 16385)), .inl (nI T)] (ai_stK h1 y (28, 0)) = some ([], h2) := b1
  have fr2 : ∀ q, ¬ zroot q = y → h2.1 q = h.1 q := fun q hq => by
    rw [b3 q (fun c => hq (zbl_root hy0 c))]
    exact (fr1 q hq).1
  have r128 : ¬ zroot 128 = y := by rw [show zroot 128 = 128 by decide]; omega
  have r16388 : ¬ zroot 16388 = y := by rw [show zroot 16388 = 128 by decide]; omega
  have r16386 : ¬ zroot 16386 = y := by rw [show zroot 16386 = 128 by decide]; omega
  have t1 : (ai_stK h1 y (28, 0)).1 16388 0 = nI T := by
    show h1.1 16388 0 = _
    rw [(fr1 _ r16388).1]; exact ct
  have t2 : h2.1 16388 0 = nI T := by rw [fr2 _ r16388]; exact ct
  have ny : ¬ (128 : Nat) = y := by omega
  refine ⟨ai_st (ai_stR (ai_st h2 y 4 (nI T)) 16386 n (some y)) 128 10 (nI (n + 1)), ?_, fun q hq hq2 => ?_, fun j => ?_, fun q i hq hq2 => ?_, ?_, fun q hq => ?_, ?_, ⟨?_, ?_, ?_, ?_, fun k hk => ?_⟩, ?_⟩
  · rw [T143, c10, if_pos (by rw [show (3 : Int32) = nI 3 from rfl, nI_ltI (by omega) (by omega)]; exact hn3), if_pos rfl, hy, a1]
    simp only [z_bv]
    rw [if_pos ⟨by rw [a3], a4⟩, t1, b1]
    simp only [z_bv]
    rw [t2, z_ne ny, fr2 _ r128, c10, z_ix (by omega) (by decide)]
    have e1 : (ai_stR (ai_st h2 y 4 (nI T)) 16386 n (some y)).1 128 10 = nI n := by
      show (ai_st h2 y 4 (nI T)).1 128 10 = _
      rw [z_ne ny, fr2 _ r128]
      exact c10
    rw [e1, z_stS, nI_1, nI_pred]
  · rw [z_ne hq2]
    show (ai_st h2 y 4 (nI T)).1 q = _
    rw [z_ne (fun c => hq (by rw [c, zr0 hy0]))]
    exact fr2 q hq
  · rw [z_st1]
    by_cases c : j = 10
    · rw [if_pos ⟨rfl, c⟩, if_pos c]
    · rw [if_neg (fun w => c w.2), if_neg c]
      show (ai_st h2 y 4 (nI T)).1 128 j = _
      rw [z_ne ny, fr2 _ r128]
  · show (if q = 16386 ∧ i = n then some y else h2.2.2.1 q i) = _
    rw [if_neg hq2, b2]
    show h1.2.2.1 q i = _
    rw [(fr1 q hq).2.1]
  · show (if (16386 : Nat) = 16386 ∧ n = n then some y else h2.2.2.1 16386 n) = _
    rw [if_pos ⟨rfl, rfl⟩]
  · show h2.2.2.2.1 q = _
    rw [b2]
    show (if q = y then ((28, 0) : Nat × Nat) else h1.2.2.2.1 q) = _
    rw [if_neg (fun c => hq (by rw [c, zr0 hy0]))]
    exact (fr1 q hq).2.2
  · rw [z_ne (fun c => ny c.symm)]
    show (ai_st h2 y 4 (nI T)).1 y 4 = _
    rw [z_stS]
  · refine zC_c (h := h2) (fun q hq => ?_) b4
    have hb : zbl y q := by
      rcases hq with rfl | hq
      · exact zbl_1 (by decide)
      · exact Or.inr (Or.inl (by rw [hq, zfp_c (by decide)]))
    have n1 : ¬ q = 128 := fun c => by have := zbl_root hy0 hb; rw [c] at this; exact r128 this
    have n2 : ¬ q = y := fun c => by
      rcases hq with e | e
      · rw [c] at e; exact z_chn e
      · rw [c, zfp_r hy0] at e; exact z_chn e
    rw [z_ne n1]
    show (ai_st h2 y 4 (nI T)).1 q = _
    rw [z_ne n2]
  · refine zD_c (h := h2) (fun q hq => ?_) b5
    have hb : zbl y q := by
      rcases hq with rfl | hq | hq
      · exact zbl_1 (by decide)
      · exact Or.inr (Or.inl (by rw [hq, zfp_c (by decide)]))
      · exact Or.inr (Or.inr (by rw [hq, zfp_c (by decide)]))
    have n1 : ¬ q = 128 := fun c => by have := zbl_root hy0 hb; rw [c] at this; exact r128 this
    have n2 : ¬ q = y := fun c => by
      rcases hq with e | e | e
      · rw [c] at e; exact z_chn e
      · rw [c, zfp_r hy0] at e; exact z_chn e
      · rw [c, zfp_r hy0, zfp_r hy0] at e; exact z_chn e
    rw [z_ne n1]
    show (ai_st h2 y 4 (nI T)).1 q = _
    rw [z_ne n2]
  · refine zJ_c (h := h2) (fun q hq => ?_) b6
    have hb : zbl y q := by
      rcases hq with rfl | hq
      · exact zbl_1 (by decide)
      · exact Or.inr (Or.inl (by rw [hq, zfp_c (by decide)]))
    have n1 : ¬ q = 128 := fun c => by have := zbl_root hy0 hb; rw [c] at this; exact r128 this
    have n2 : ¬ q = y := fun c => by
      rcases hq with e | e
      · rw [c] at e; exact z_chn e
      · rw [c, zfp_r hy0] at e; exact z_chn e
    rw [z_ne n1]
    show (ai_st h2 y 4 (nI T)).1 q = _
    rw [z_ne n2]
  · intro t ht
    rw [z_ne (fun c => by unfold ai_ch at c; omega)]
    show (ai_st h2 y 4 (nI T)).1 (ai_ch y 3) t = _
    rw [z_ne (fun c => z_chn c.symm), b7 t ht]
    show h1.1 (ai_ch 16385 3) t = _
    rw [(fr1 _ (nin _ (zbl_1 (by decide)))).1]
  · have := L1 k hk
    unfold zLk at this ⊢
    show (h2.2.2.2.1 _).2 = _ ∧ (h2.2.2.2.1 _).2 = _ ∧ (h2.2.2.2.1 _).2 = _ ∧ (h2.2.2.2.1 _).2 = _
    rw [b2]
    exact this
  · have c1 := znew_c (h := h) (c := y) (s := 5) (x := (48, 0))
    have c2 := zct_tr c1 a7
    unfold zct at c2 ⊢
    show h2.2.2.2.2.1 = _ ∧ h2.2.2.2.2.2.1 = _ ∧ h2.2.2.2.2.2.2 = _
    rw [b2]
    exact c2
theorem P_image : zPr 143 193 [] := by
  intro d h hr
  obtain ⟨r1, r2, r3, r4⟩ := id hr
  obtain ⟨vi, vs, v9, vc, vn, vt, vS, vl, vl0⟩ := r2
  obtain ⟨rS, rF, rI, rN, rP, rT⟩ := r1
  obtain ⟨n, hn⟩ : ∃ n, zg (zMv h) 32 = n := ⟨_, rfl⟩
  obtain ⟨T, hT⟩ : ∃ T, zg (zMv h) 33 = T := ⟨_, rfl⟩
  have e32 : (zMv h).2 32 = nI n := by rw [← hn]; exact z_nat vi.1.1
  have e33 : (zMv h).2 33 = nI T := by rw [← hT]; exact z_nat vi.2.1.1
  have hn3 : n ≤ 3 := by rw [← hn]; have := vi.1; unfold zi at this; unfold zg; omega
  have hT5 : T ≤ 5 := by rw [← hT]; have := vi.2.1; unfold zi at this; unfold zg; omega
  have m32 : h.1 16128 32 = nI n := by rw [← zMv2 (by decide)]; exact e32
  have m33 : h.1 16128 33 = nI T := by rw [← zMv2 (by decide)]; exact e33
  have c10 : h.1 128 10 = nI n := rI.1.trans e32
  rw [hn] at vs v9 vc
  by_cases c : n < 3
  · obtain ⟨h3, a1, x1, x2, x3, x4, x5, x6, x7, x8⟩ := X143 (d + 54) hr hn c hT
    have a1 : ai_X (d + 60) 143 [.inr (.inr (31, 0, 128))] h = some ([.inl (nI n)], h3) := a1
    obtain ⟨y, hy⟩ : ∃ y, ai_dn h = y := ⟨_, rfl⟩
    rw [hy] at x1 x3 x4 x5 x6 x7 r4
    have hy0 : y % 128 = 0 := by rw [← hy]; unfold ai_dn; omega
    have nM : ∀ q, zroot q = 16128 → ¬ zroot q = y := fun q hq c => by rw [hq] at c; omega
    have x1M : ∀ q, zroot q = 16128 → h3.1 q = h.1 q := fun q hq => x1 q (nM q hq) (fun c => by rw [c] at hq; revert hq; decide)
    have eV3 : zMv h3 = zMv h := zMv_c (fun f hf => x1M _ (zMr (by omega))) (fun j _ => by rw [x1M 16128 (by decide)])
    have m32' : h3.1 16128 32 = nI n := by rw [x1M 16128 (by decide)]; exact m32
    -- the reference's
    obtain ⟨g0, hg0⟩ : ∃ g0, ai_st h3 16128 32 (nI (n + 1)) = g0 := ⟨_, rfl⟩
    obtain ⟨g1, u1, u2⟩ := M192 (h := g0) (a := 0) (b := n + 1) (d + 58) (by omega) (by omega) (by omega)
    have u1 : ai_X (d + 59) 192 [.inr (.inr (32, 0, 16128)), .inl 0, .inl (nI (n + 1))] g0 = some ([], g1) := u1
    have eV0 : zMv g0 = zmuS (zMv h) 32 (nI (n + 1)) := by rw [← hg0, zMv_stS (by decide), eV3]
    obtain ⟨u3, u4, u5, u6⟩ := zcp9_v u2
    have sl0 : ∀ k, zsl (zMv g0) k = zsl (zMv h) k := fun k => by rw [eV0]; rfl
    have E1 : zEqS (zsl (zMv h) 0) (zsl (zMv g1) (n + 1)) := by
      have := zEqS_cp (h := g0) (h' := g1) (a := 0) (b := n + 1) (by rw [sl0]; exact vs 0 (Nat.zero_le _)) u2
      rw [sl0] at this
      exact this
    have Ek : ∀ k, k ≤ n → zEqS (zsl (zMv h) k) (zsl (zMv g1) k) := fun k hk => by
      have := zEqS_ke (h := g0) (h' := g1) (a := 0) (b := n + 1) (k := k) (by rw [sl0]; exact vs k hk) (by omega) u2
      rw [sl0] at this
      exact this
    have w32 : g1.1 16128 32 = nI (n + 1) := by rw [u2.2.1 16128 (by omega), ← hg0, z_stS]
    have w33 : g1.1 16128 33 = nI T := by rw [u2.2.1 16128 (by omega), ← hg0, z_st1, if_neg (by omega), x1M 16128 (by decide)]; exact m33
    have o1 : ∀ f j, f < 32 → (f = 9 ∨ f = 21) → g1.1 (2064385 + f) j = h.1 (2064385 + f) j := fun f j hf h9 => by
      have := u5 f j hf (by omega)
      rw [zMv1 (by omega), zMv1 (by omega)] at this
      rw [this, ← hg0, z_ne (by omega), x1M _ (zMr (by omega))]
    have K : ∀ q t, t + q = T → ∀ g : ai_H, g.2 = g1.2 → (∀ c, ¬ c = 2064406 → ¬ c = 2064394 → g.1 c = g1.1 c) → (∀ j, g.1 2064394 j = if j = n + 1 then nI T else g1.1 2064394 j) → (∀ j, g.1 2064406 j = if 5 * (n + 1) ≤ j ∧ j < 5 * (n + 1) + t then g1.1 2064406 (j - 5 * (n + 1)) else g1.1 2064406 j) → ∃ h2, ai_E (d + 59) 193 44 [some (.inr (.inr (32, 0, 16128))), some (.inl (nI t))] [] g = some ([.inl (nI n)], h2) ∧ h2.2 = g1.2 ∧ (∀ c, ¬ c = 2064406 → ¬ c = 2064394 → h2.1 c = g1.1 c) ∧ (∀ j, h2.1 2064394 j = if j = n + 1 then nI T else g1.1 2064394 j) ∧ ∀ j, h2.1 2064406 j = if 5 * (n + 1) ≤ j ∧ j < 5 * (n + 1) + T then g1.1 2064406 (j - 5 * (n + 1)) else g1.1 2064406 j := by
      intro q
      induction q with
      | zero =>
        intro t ht g k2 k1 k9 ka
        have ht : t = T := by omega
        subst ht
        refine ⟨g, ?_, k2, k1, k9, ka⟩
        rw [T193_44, k1 16128 (by decide) (by decide), w33, w32, if_pos (by rw [z_le]; omega), nI_pred]
      | succ q ih =>
        intro t ht g k2 k1 k9 ka
        have e5 : (5 : Int32) * nI (n + 1) + nI t = nI (5 * (n + 1) + t) := by rw [show (5 : Int32) = nI 5 from rfl, pk_mul, nI_add]
        rw [T193_44, k1 16128 (by decide) (by decide), w33, w32, if_neg (by rw [nI_leI (by omega) (by omega)]; omega), z_ix (by omega) (by decide), e5, z_ix (by omega) (by decide), nI_1]
        refine ih (t + 1) (by omega) _ k2 (fun c hc hc2 => by rw [z_ne hc]; exact k1 c hc hc2) (fun j => by rw [z_ne (by decide)]; exact k9 j) (fun j => ?_)
        rw [z_st1]
        by_cases e : j = 5 * (n + 1) + t
        · rw [if_pos ⟨rfl, e⟩, if_pos (by omega), ka t, if_neg (by omega), e, show 5 * (n + 1) + t - 5 * (n + 1) = t by omega]
        · rw [if_neg (fun w => e w.2), ka j]
          by_cases e2 : 5 * (n + 1) ≤ j ∧ j < 5 * (n + 1) + t
          · rw [if_pos e2, if_pos (by omega)]
          · rw [if_neg e2, if_neg (by omega)]
    obtain ⟨h2, w1, w2, w3, w9, w21⟩ := K T 0 (Nat.zero_add _) (ai_st g1 2064394 (n + 1) (nI T)) rfl (fun c _ hc => by rw [z_ne hc]) (fun j => by
      rw [z_st1]
      by_cases e : j = n + 1
      · rw [if_pos ⟨rfl, e⟩, if_pos e]
      · rw [if_neg (fun w => e w.2), if_neg e]) (fun j => by rw [z_ne (by decide), if_neg (by omega)])
    -- the view
    have ev2 : ∀ j, (zMv h2).2 j = if j = 32 then nI (n + 1) else (zMv h).2 j := fun j => by
      have e1 : (zMv h2).2 j = (zMv g1).2 j := by
        unfold zMv
        dsimp only
        rw [w3 16128 (by decide) (by decide)]
      rw [e1, u3, eV0]
      rfl
    have ev1 : ∀ f j, ¬ f = 21 → ¬ f = 9 → (zMv h2).1 f j = (zMv g1).1 f j := fun f j hf h9 => by
      unfold zMv
      dsimp only
      rw [w3 (2064385 + f) (by omega) (by omega)]
    have evh : ∀ f j, 32 ≤ f → (zMv h2).1 f j = (zMv h).1 f j := fun f j hf => by
      rw [ev1 f j (by omega) (by omega), u4 f j hf, eV0]
      rfl
    have ev9 : ∀ j, (zMv h2).1 9 j = if j = n + 1 then nI T else (zMv h).1 9 j := fun j => by
      rw [zMv1 (by decide), zMv1 (by decide)]
      show h2.1 2064394 j = if j = n + 1 then nI T else h.1 2064394 j
      rw [w9 j]
      have := o1 9 j (by decide) (Or.inl rfl)
      rw [show 2064385 + 9 = 2064394 from rfl] at this
      rw [this]
    have ev21 : ∀ j, (zMv h2).1 21 j = if 5 * (n + 1) ≤ j ∧ j < 5 * (n + 1) + T then (zMv h).1 21 (j - 5 * (n + 1)) else (zMv h).1 21 j := fun j => by
      have o21 : ∀ j, g1.1 2064406 j = h.1 2064406 j := fun j => o1 21 j (by decide) (Or.inr rfl)
      rw [zMv1 (by decide), zMv1 (by decide), zMv1 (by decide)]
      show h2.1 2064406 j = if 5 * (n + 1) ≤ j ∧ j < 5 * (n + 1) + T then h.1 2064406 (j - 5 * (n + 1)) else h.1 2064406 j
      rw [w21 j, o21, o21]
    have F0 : ∀ {σ : Nat → Nat → Int32} {k : Nat}, zEqS σ (zsl (zMv g1) k) → zEqS σ (zsl (zMv h2) k) := fun {σ k} e f j hf h9 hj => by
      have h21 : ¬ f = 21 := fun q => by subst q; exact absurd hj (Nat.not_lt_zero _)
      rw [← e f j hf h9 hj]
      unfold zsl
      exact ev1 f _ h21 h9
    have F1 := F0 E1
    have Fk := fun k hk => F0 (Ek k hk)
    have g' : ∀ j, ¬ j = 32 → (zMv h2).2 j = (zMv h).2 j := fun j hj => by rw [ev2, if_neg hj]
    have gz : ∀ j, ¬ j = 32 → zg (zMv h2) j = zg (zMv h) j := fun j hj => by unfold zg; rw [g' j hj]
    have g32 : (zMv h2).2 32 = nI (n + 1) := by rw [ev2, if_pos rfl]
    have gz32 : zg (zMv h2) 32 = n + 1 := by
      unfold zg
      rw [g32, z_T (by omega)]
      exact Int.toNat_natCast (n + 1)
    -- the class's cells behind all
    have k1 : ∀ q, ¬ zroot q = 16128 → h2.1 q = h3.1 q := fun q hq => by
      have nq : ¬ (2064385 ≤ q ∧ q < 2064417) := fun w => hq (by
        rw [show q = 2064385 + (q - 2064385) by omega, zMr (by omega)])
      rw [w3 q (by omega) (by omega), u2.2.1 q (by omega), ← hg0, z_ne (fun c => by rw [c] at hq; exact hq (by decide))]
    have k2 : h2.2 = h3.2 := by rw [w2, u2.1, ← hg0]; rfl
    have ny15 : ¬ y = 16128 := by omega
    have old : ∀ q, ¬ zroot q = y → ¬ zroot q = 16128 → ¬ q = 128 → h2.1 q = h.1 q := fun q h1 h2 h3 => (k1 q h2).trans (x1 q h1 h3)
    have oldX : ∀ q, zroot q = 128 → ¬ q = 128 → h2.1 q = h.1 q := fun q hq h => old q (by omega) (by omega) h
    have dn2 : ai_dn h2 = y + 128 * 81 := by
      unfold ai_dn at hy ⊢
      rw [k2, x8.1]
      omega
    have rt : ∀ q, zrt h q → zrt h2 q := fun q hq => ⟨hq.1, hq.2.1, by rw [dn2]; have := hq.2.2; rw [hy] at this; omega⟩
    have al : ∀ q, zrt h q → h2.1 q = h.1 q ∧ h2.2.2.1 q = h.2.2.1 q ∧ h2.2.2.2.1 q = h.2.2.2.1 q := fun q hq => by
      have hq1 := hq.2.1
      have hq2 := hq.2.2
      rw [hy] at hq2
      have hq0 := hq.1
      have rq := zr0 hq.1
      refine ⟨old q (by omega) (by omega) (by omega), funext fun i => ?_, ?_⟩
      · rw [k2, x3 q i (by omega) (by omega)]
      · rw [k2, x5 q (by omega)]
    have keepS : ∀ {s U : Nat} {σ : Nat → Nat → Int32}, (∀ q, zbl s q → ¬ zroot q = y ∧ ¬ zroot q = 16128 ∧ ¬ q = 128) → zS h s U σ → zS h2 s U σ := fun {s U σ} hs => zS_c2 (fun q hq => old q (hs q hq).1 (hs q hq).2.1 (hs q hq).2.2) (fun q hq => by rw [k2]; exact x5 q (hs q hq).1)
    have n128 : ∀ {q : Nat}, zbl 16385 q → ¬ q = 128 := fun {q} hq c => by
      rw [c] at hq
      revert hq
      unfold zbl
      decide
    have S0 : zS h2 16385 T (zsl (zMv h) 0) := keepS (fun q hq => ⟨by rw [zin_r (zbl_in.mp hq)]; omega, by rw [zin_r (zbl_in.mp hq)]; omega, n128 hq⟩) (by rw [← hT]; exact rS)
    have e21a : ∀ k t, k ≤ n → t < 5 → zsl (zMv h2) k 21 t = zsl (zMv h) k 21 t := fun k t hk ht => by
      unfold zsl
      show (zMv h2).1 21 (5 * k + t) = (zMv h).1 21 (5 * k + t)
      rw [ev21, if_neg (by omega)]
    have e21b : ∀ t, t < T → zsl (zMv h2) (n + 1) 21 t = zsl (zMv h) 0 21 t := fun t ht => by
      unfold zsl
      show (zMv h2).1 21 (5 * (n + 1) + t) = (zMv h).1 21 (5 * 0 + t)
      rw [ev21, if_pos (by omega), show 5 * (n + 1) + t - 5 * (n + 1) = 5 * 0 + t by omega]
    have moveS : ∀ {s U k : Nat}, k ≤ n → U ≤ 5 → zS h2 s U (zsl (zMv h) k) → zS h2 s U (zsl (zMv h2) k) := fun {s U k} hk hU x => by
      obtain ⟨s1, s2, s3, s4, s5⟩ := x
      exact ⟨zC_e (Fk k hk) (vs k hk) s1, zD_e (Fk k hk) s2, zJ_e (Fk k hk) s3, fun t ht => by rw [e21a k t hk (by omega)]; exact s4 t ht, s5⟩
    refine ⟨nI n, h3, h2, a1, ?_, ⟨⟨?_, ?_, ⟨?_, fun i hi => ?_⟩, ?_, ?_, ?_⟩, ?_, fun q hq => ?_, ?_⟩, ?_⟩
    · rw [T193, m32', if_neg (by rw [show (3 : Int32) = nI 3 from rfl, nI_eq (by omega) (by omega)]; omega), nI_1, z_stS, hg0, u1]
      simp only [z_bv]
      rw [w32, z_ix (by omega) (by decide), w33]
      exact w1
    · rw [gz 33 (by decide), hT]
      exact moveS (Nat.zero_le _) hT5 S0
    · rw [k1 128 (by decide), x2 11, if_neg (by decide), g' 49 (by decide)]
      exact rF
    · rw [k1 128 (by decide), x2 10, if_pos rfl, g32]
    · rw [gz32] at hi
      by_cases ei : i = n
      · subst ei
        refine ⟨y, by rw [k2]; exact x4, ⟨hy0, by omega, by rw [dn2]; omega⟩, ?_, ?_⟩
        · rw [k1 y (by rw [zr0 hy0]; omega), x6, ev9, if_pos rfl]
        · rw [ev9, if_pos rfl, z_T (by omega), show ((T : Int)).toNat = T from Int.toNat_natCast T]
          obtain ⟨s1, s2, s3, s4, s5⟩ := x7
          have kk : ∀ q, zbl y q → h2.1 q = h3.1 q := fun q hq => k1 q (by rw [zbl_root hy0 hq]; exact ny15)
          have : zS h3 y T (zsl (zMv h) 0) := ⟨s1, s2, s3, fun t ht => by rw [s4 t ht]; exact rS.2.2.2.1 t (by rw [hT]; exact ht), s5⟩
          obtain ⟨z1, z2, z3, z4, z5⟩ := zS_c2 (h' := h2) kk (fun q _ => by rw [k2]) this
          exact ⟨zC_e F1 (vs 0 (Nat.zero_le _)) z1, zD_e F1 z2, zJ_e F1 z3, fun t ht => by rw [e21b t ht]; exact z4 t ht, z5⟩
      · obtain ⟨z, z1, z2, z3, z4⟩ := rI.2 i (by rw [hn]; omega)
        have z22 := z2.2.2
        rw [hy] at z22
        have k9 := v9 i (by omega)
        unfold zi at k9
        refine ⟨z, ?_, rt z z2, ?_, ?_⟩
        · rw [k2, x3 16386 i (by rw [show zroot 16386 = 128 by decide]; omega) (by omega)]
          exact z1
        · rw [(al z z2).1, ev9, if_neg (by omega)]
          exact z3
        · rw [ev9, if_neg (by omega)]
          refine moveS (by omega) (by rw [hT] at k9; omega) (keepS (fun q hq => ?_) z4)
          have := zbl_root z2.1 hq
          have := z2.2.1
          refine ⟨by omega, by omega, fun c => ?_⟩
          subst c
          have e128 : zroot 128 = 128 := by decide
          omega
    · unfold zNm at rN ⊢
      rw [gz 34 (by decide), g' 34 (by decide), oldX 16389 (by decide) (by decide), oldX 2097794 (by decide) (by decide), oldX 2097795 (by decide) (by decide), oldX 2097796 (by decide) (by decide), oldX 2097797 (by decide) (by decide), oldX 2097798 (by decide) (by decide)]
      simp only [evh 63 _ (by decide), evh 64 _ (by decide), evh 65 _ (by decide), evh 66 _ (by decide), zfit_c evh]
      exact rN
    · unfold zTp at rP ⊢
      rw [gz 48 (by decide), g' 48 (by decide), oldX 16387 (by decide) (by decide), oldX 2097537 (by decide) (by decide)]
      simp only [evh 47 _ (by decide)]
      exact rP
    · obtain ⟨f1, f2, z, f3, f4⟩ := rT
      refine ⟨by rw [oldX 16388 (by decide) (by decide), g' 33 (by decide)]; exact f1, fun t ht => ?_, z, ?_, ?_⟩
      · rw [gz 33 (by decide)] at ht
        obtain ⟨p1, p, p2, p3⟩ := f2 t ht
        refine ⟨by rw [oldX 2097666 (by decide) (by decide), evh 37 _ (by decide)]; exact p1, p, ?_, by rw [zlaw_c evh]; exact zLw_c al (by rw [dn2, hy]; omega) p3⟩
        rw [k2, x3 2097667 t (by rw [show zroot 2097667 = 128 by decide]; omega) (by omega)]
        exact p2
      · rw [k2, x3 128 9 (by rw [show zroot 128 = 128 by decide]; omega) (by omega)]
        exact f3
      · rw [g' 35 (by decide), zlaw_c evh]
        exact zLw_c al (by rw [dn2, hy]; omega) f4
    · unfold zVm
      rw [gz 33 (by decide), gz 34 (by decide), gz 48 (by decide), gz32, g' 33 (by decide), g' 34 (by decide), g' 35 (by decide), g' 48 (by decide), g' 49 (by decide), g32]
      refine ⟨⟨⟨by rw [z_T (by omega)]; omega, by rw [z_T (by omega)]; omega⟩, vi.2⟩, fun k hk => ?_, fun i hi => ?_, ⟨fun t ht => ?_, fun i hi t ht => ?_⟩, ?_, fun i hi => by rw [evh 47 _ (by decide)]; exact vt i hi, ?_, fun t ht => ?_, fun hc => ?_⟩
      · by_cases ek : k = n + 1
        · subst ek; exact zV_e F1 (vs 0 (Nat.zero_le _))
        · exact zV_e (Fk k (by omega)) (vs k (by omega))
      · rw [ev9]
        by_cases ei : i = n
        · rw [if_pos (by omega), hT]; exact ⟨by rw [z_T (by omega)]; omega, by rw [z_T (by omega)]; omega⟩
        · rw [if_neg (by omega)]; exact v9 i (by omega)
      · rw [ev21, if_neg (by rw [hT] at ht; omega), evh 37 _ (by decide)]
        exact vc.1 t ht
      · rw [ev9] at ht
        rw [ev21]
        by_cases ei : i = n
        · rw [if_pos (by omega), z_T (by omega), show ((T : Int)).toNat = T from Int.toNat_natCast T] at ht
          rw [ei, if_pos (by omega), show 5 * (n + 1) + t - 5 * (n + 1) = t by omega]
          exact (vc.1 t (by rw [hT]; exact ht)).1
        · rw [if_neg (by omega)] at ht
          have k9 := v9 i (by omega)
          unfold zi at k9
          rw [if_neg (by rw [hT] at k9; omega)]
          exact vc.2 i (by omega) t ht
      · simp only [evh 63 _ (by decide), evh 64 _ (by decide), evh 65 _ (by decide), evh 66 _ (by decide)]
        exact vn
      · unfold zVs at vS ⊢
        rw [g' 42 (by decide), gz 33 (by decide)]
        simp only [evh 36 _ (by decide), evh 43 _ (by decide), evh 44 _ (by decide), evh 45 _ (by decide), evh 46 _ (by decide)]
        exact vS
      · have hv := vl t ht
        unfold zVl at hv ⊢
        rw [zlaw_c evh, g' 42 (by decide)]
        simp only [evh 36 _ (by decide), evh 38 _ (by decide), evh 39 _ (by decide), evh 40 _ (by decide), evh 41 _ (by decide), zdep_c evh]
        exact hv
      · have hv := vl0 hc
        unfold zVl at hv ⊢
        rw [zlaw_c evh, g' 42 (by decide)]
        simp only [evh 36 _ (by decide), evh 38 _ (by decide), evh 39 _ (by decide), evh 40 _ (by decide), evh 41 _ (by decide), zdep_c evh]
        exact hv
    · rw [dn2] at hq
      rw [k2, x5 q (by omega)]
      exact r3 q (by rw [hy]; omega)
    · rw [dn2]; omega
    · unfold zK
      have := x8
      unfold zct at this
      rw [k2]
      omega
  · have n3 : n = 3 := by omega
    subst n3
    refine ⟨-1, h, h, ?_, ?_, hr, zK_of rfl⟩
    · rw [T143, c10, if_neg (by decide)]
    · rw [T193, m32, if_pos (show nI 3 = (3 : Int32) from rfl)]
