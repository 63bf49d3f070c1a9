/-! NAMES: donor -/
abbrev zfn (μ : zMu) (n t : Nat) : Prop := μ.1 64 t = nI n ∧ ∀ k, k < (μ.1 64 t).toInt.toNat → (μ.1 66 (12 * t + k) = 27 ∨ μ.1 66 (12 * t + k) = zltk μ k)
theorem zltk_ok {μ : zMu} {k : Nat} (h : zltr (zbt μ k) ∨ zbt μ k = 46) : zsgn (zltk μ k) = zbt μ k ∧ zi (zltk μ k) 1 27 ∧ (zltr (zbt μ k) → zi (zltk μ k) 1 26) := by
  unfold zltk zi
  by_cases c : zbt μ k = 46
  · rw [if_pos c, c]
    refine ⟨rfl, by decide, fun q => ?_⟩
    have : (46 : Int32).toInt = 46 := rfl
    unfold zltr at q
    omega
  · rw [if_neg c]
    have hl : zltr (zbt μ k) := by
      rcases h with h | h
      · exact h
      · exact absurd h c
    have e : (zbt μ k - 96).toInt = (zbt μ k).toInt - 96 := by
      unfold zltr at hl
      rw [z_sub] <;> simp only [zl0, zl1, zl2, zl3, zl4, zl5, zl6, zl7, zl8, zl9, zl10, zl12, zl15, zl16, zl20, zl22, zl23, zl24, zl27, zl30, zl31, zl32, zl40, zl46, zl48, zl50, zl57, zl59, zl60, zl61, zl62, zl63, zl80, zl96, zl97, zl99, zl100, zl122, zl255, zl360, zl500, zl999, zl9999, zl60000, zl99999, zl16777215, zl1073741824, zlm1, zlm2, zlm3] <;> omega
    unfold zltr at hl
    rw [e]
    refine ⟨?_, by omega, fun _ => by omega⟩
    unfold zsgn
    rw [if_neg (by rw [z_eq, e]; simp only [zl0, zl1, zl2, zl3, zl4, zl5, zl6, zl7, zl8, zl9, zl10, zl12, zl15, zl16, zl20, zl22, zl23, zl24, zl27, zl30, zl31, zl32, zl40, zl46, zl48, zl50, zl57, zl59, zl60, zl61, zl62, zl63, zl80, zl96, zl97, zl99, zl100, zl122, zl255, zl360, zl500, zl999, zl9999, zl60000, zl99999, zl16777215, zl1073741824, zlm1, zlm2, zlm3]; omega), z_eq, z_add, e]
    · simp only [zl0, zl1, zl2, zl3, zl4, zl5, zl6, zl7, zl8, zl9, zl10, zl12, zl15, zl16, zl20, zl22, zl23, zl24, zl27, zl30, zl31, zl32, zl40, zl46, zl48, zl50, zl57, zl59, zl60, zl61, zl62, zl63, zl80, zl96, zl97, zl99, zl100, zl122, zl255, zl360, zl500, zl999, zl9999, zl60000, zl99999, zl16777215, zl1073741824, zlm1, zlm2, zlm3]
      omega
    · rw [e]; simp only [zl0, zl1, zl2, zl3, zl4, zl5, zl6, zl7, zl8, zl9, zl10, zl12, zl15, zl16, zl20, zl22, zl23, zl24, zl27, zl30, zl31, zl32, zl40, zl46, zl48, zl50, zl57, zl59, zl60, zl61, zl62, zl63, zl80, zl96, zl97, zl99, zl100, zl122, zl255, zl360, zl500, zl999, zl9999, zl60000, zl99999, zl16777215, zl1073741824, zlm1, zlm2, zlm3]; omega
    · rw [e]; simp only [zl0, zl1, zl2, zl3, zl4, zl5, zl6, zl7, zl8, zl9, zl10, zl12, zl15, zl16, zl20, zl22, zl23, zl24, zl27, zl30, zl31, zl32, zl40, zl46, zl48, zl50, zl57, zl59, zl60, zl61, zl62, zl63, zl80, zl96, zl97, zl99, zl100, zl122, zl255, zl360, zl500, zl999, zl9999, zl60000, zl99999, zl16777215, zl1073741824, zlm1, zlm2, zlm3]; omega
theorem z_nby {v : Int32} (h : zi v 1 27) : vp_nar .byte v = v := by
  unfold zi at h
  obtain ⟨i, hi, rfl⟩ : ∃ i : Nat, i ≤ 27 ∧ v = nI i := ⟨v.toInt.toNat, by omega, z_nat (by omega)⟩
  have : ∀ i, i ≤ 27 → vp_nar .byte (nI i) = nI i := by decide +kernel
  exact this i hi
theorem X44 {h g0 : ai_H} {D n : Nat} (d : Nat) (hr : zR h) (e2 : g0.2 = h.2) (n0 : ∀ q, q ≠ 16387 → q ≠ 128 → g0.1 q = h.1 q) (hD : zg (zMv h) 34 = D) (hl : D < 20) (h1 : 1 ≤ n) (h12 : n ≤ 12) (hz : n ≤ zg (zMv h) 48) (hv : ∀ k, k < n → zltr (zbt (zMv h) k)) :
    ∃ h6, ai_X (d + 3) 44 [.inr (.inr (26, 0, 16389)), .inr (.inr (1, 500, 2097537)), .inl (nI n)] g0 = some ([.inl (nI D)], h6) ∧ h6.2 = h.2 ∧ (∀ q, q ≠ 2097797 → q ≠ 2097798 → q ≠ 2097795 → q ≠ 16389 → h6.1 q = g0.1 q) ∧ h6.1 16389 0 = nI (D + 1) ∧ (∀ i, h6.1 2097797 i = if i = D then nI n else h.1 2097797 i) ∧ (∀ i, h6.1 2097798 i = if 12 * D ≤ i ∧ i < 12 * D + n then zbt (zMv h) (i - 12 * D) else h.1 2097798 i) ∧ ∀ t, t < 24 → h6.1 2097795 t = if zfn (zMv h) n t then nI (zB (fun q => zfit (zMv h) t q = true) D ||| 2 ^ D) else nI (zB (fun q => zfit (zMv h) t q = true) D) := by
  obtain ⟨d1, d2, d3, d4⟩ := zR_nm hr
  rw [hD] at d1 d2 d3 d4
  have hN : zNm h (zMv h) := hr.1.2.2.2.1
  have hT : zTp h (zMv h) := hr.1.2.2.2.2.1
  have vv := hr.2.1.2.2.2.2.1
  have tp : ∀ k, k < n → h.1 2097537 k = zbt (zMv h) k := fun k hk => hT.2 k (by omega)
  have iD : ∀ f : Nat → Option ai_R, ai_ix (nI D) 20 f = f D := fun f => z_ix hl (by decide)
  have g02 : g0.1 16389 0 = nI D := by rw [n0 16389 (by decide) (by decide)]; exact d1
  have l24 : (24 : Int32) = nI 24 := rfl
  have l20 : (20 : Int32) = nI 20 := rfl
  have l12 : (12 : Int32) = nI 12 := rfl
  have e12 : nI D * (12 : Int32) = nI (12 * D) := by rw [l12, pk_mul, Nat.mul_comm]
  generalize hg1 : ai_cpy (ai_st g0 2097797 D (nI n)) 2097537 0 2097798 (12 * D) n = g1
  have f1 : ∀ q, q ≠ 2097797 → q ≠ 2097798 → g1.1 q = g0.1 q := fun q a b => by
    rw [← hg1]
    funext j
    rw [z_cpy1, if_neg (fun c => b c.1), z_ne a]
  have f2 : ∀ i, g1.1 2097797 i = if i = D then nI n else h.1 2097797 i := fun i => by
    rw [← hg1, z_cpy1, if_neg (fun c => absurd c.1 (by decide)), z_st1]
    by_cases c : i = D
    · rw [if_pos ⟨rfl, c⟩, if_pos c]
    · rw [if_neg (fun x => c x.2), if_neg c, n0 2097797 (by decide) (by decide)]
  have f3 : ∀ i, g1.1 2097798 i = if 12 * D ≤ i ∧ i < 12 * D + n then zbt (zMv h) (i - 12 * D) else h.1 2097798 i := fun i => by
    rw [← hg1, z_cpy1]
    by_cases c : 12 * D ≤ i ∧ i < 12 * D + n
    · rw [if_pos ⟨rfl, c⟩, if_pos c, z_ne (by decide), n0 2097537 (by decide) (by decide), Nat.zero_add, tp _ (by omega)]
    · rw [if_neg (fun x => c x.2), if_neg c, z_ne (by decide), n0 2097798 (by decide) (by decide)]
  have f4 : g1.2 = h.2 := by rw [← hg1]; exact e2
  have K : ∀ k i, i + k = 24 → ∀ g, (∀ q, q ≠ 2097795 → g.1 q = g1.1 q) → g.2 = h.2 → (∀ t, t < 24 → g.1 2097795 t = if t < i ∧ zfn (zMv h) n t then nI (zB (fun q => zfit (zMv h) t q = true) D ||| 2 ^ D) else nI (zB (fun q => zfit (zMv h) t q = true) D)) → ∀ z1 z2, ∃ h6, ai_E (d + 2) 44 51 [some (.inr (.inr (26, 0, 16389))), z1, z2, some (.inl (nI i))] [] g = some ([.inl (nI D)], h6) ∧ h6.2 = h.2 ∧ (∀ q, q ≠ 2097795 → q ≠ 16389 → h6.1 q = g1.1 q) ∧ h6.1 16389 0 = nI (D + 1) ∧ ∀ t, t < 24 → h6.1 2097795 t = if zfn (zMv h) n t then nI (zB (fun q => zfit (zMv h) t q = true) D ||| 2 ^ D) else nI (zB (fun q => zfit (zMv h) t q = true) D) := by
    intro k
    induction k with
    | zero =>
      intro i hi g fg g2 cg z1 z2
      have hi : i = 24 := by omega
      subst hi
      have gD : g.1 16389 0 = nI D := by rw [fg _ (by decide), f1 _ (by decide) (by decide)]; exact g02
      refine ⟨ai_st g 16389 0 (nI (D + 1)), ?_, g2, fun q a b => by rw [z_ne b]; exact fg q a, z_stS, fun t ht => ?_⟩
      · rw [T44_51, if_pos (by decide), gD, nI_1, z_stS, nI_pred]
      · rw [z_ne (by decide), cg t ht]
        by_cases c : zfn (zMv h) n t
        · rw [if_pos ⟨ht, c⟩, if_pos c]
        · rw [if_neg (fun x => c x.2), if_neg c]
    | succ k ih =>
      intro i hi g fg g2 cg z1 z2
      have i24 : ∀ f : Nat → Option ai_R, ai_ix (nI i) 24 f = f i := fun f => z_ix (by omega) (by decide)
      have gD : g.1 16389 0 = nI D := by rw [fg _ (by decide), f1 _ (by decide) (by decide)]; exact g02
      obtain ⟨w1, w2, w3, w4⟩ := d4 i (by omega)
      obtain ⟨m, hm, em, tm⟩ : ∃ m, m ≤ 12 ∧ (zMv h).1 64 i = nI m ∧ ((zMv h).1 64 i).toInt.toNat = m := by
        unfold zi at w3
        exact ⟨_, by omega, z_nat w3.1, rfl⟩
      have hX := X46 (g := g) (t := i) (q := D) (n := m) (A := fun k => (zMv h).1 66 (12 * i + k)) (B := zltk (zMv h)) (d + 1) (by omega) hl hm (by rw [fg _ (by decide), f1 _ (by decide) (by decide), n0 _ (by decide) (by decide), w1, em]) (fun k hk => ⟨by
        rw [fg _ (by decide), f1 _ (by decide) (by decide), n0 _ (by decide) (by decide)]
        exact (hN.2.1 i (by omega)).2.2 k (by rw [tm]; exact hk), (vv.1 i (by omega)).2 k (by rw [tm]; exact hk)⟩) (fun eB k hk => by
        rw [fg _ (by decide), f2, if_pos rfl] at eB
        have eB := (nI_eq (by omega) (by omega)).mp eB
        have hk : k < n := by omega
        obtain ⟨q1, q2, q3⟩ := zltk_ok (Or.inl (hv k hk))
        rw [fg _ (by decide), f3, if_pos (by omega), show 12 * D + k - 12 * D = k by omega]
        exact ⟨q1.symm, q3 (hv k hk)⟩)
      have eP : (nI m = g.1 2097797 D ∧ ∀ k, k < m → ((zMv h).1 66 (12 * i + k) = 27 ∨ (zMv h).1 66 (12 * i + k) = zltk (zMv h) k)) ↔ zfn (zMv h) n i := by
        rw [fg _ (by decide), f2, if_pos rfl]
        unfold zfn
        rw [tm, em]
      have N : ∀ v, (v = if zfn (zMv h) n i then nI (zB (fun q => zfit (zMv h) i q = true) D ||| 2 ^ D) else nI (zB (fun q => zfit (zMv h) i q = true) D)) → ∀ t, t < 24 → (ai_st g 2097795 i v).1 2097795 t = if t < i + 1 ∧ zfn (zMv h) n t then nI (zB (fun q => zfit (zMv h) t q = true) D ||| 2 ^ D) else nI (zB (fun q => zfit (zMv h) t q = true) D) := by
        intro v ev t ht
        rw [z_st1]
        by_cases c : t = i
        · subst c
          rw [if_pos ⟨rfl, rfl⟩, ev]
          by_cases q : zfn (zMv h) n t
          · rw [if_pos q, if_pos ⟨by omega, q⟩]
          · rw [if_neg q, if_neg (fun x => q x.2)]
        · rw [if_neg (fun x => c x.2), cg t ht]
          by_cases q : t < i ∧ zfn (zMv h) n t
          · rw [if_pos q, if_pos ⟨by omega, q.2⟩]
          · rw [if_neg q, if_neg (fun x => q ⟨by omega, x.2⟩)]
      have oi : g.1 2097795 i = nI (zB (fun q => zfit (zMv h) i q = true) D) := by rw [cg i (by omega), if_neg (fun x => by omega)]
      rw [T44_51, if_neg (by rw [l24, nI_leI (by decide) (by omega)]; omega), i24, gD, hX]
      simp only [z_bi, zb_0, i24, nI_1, oi, gD, eP]
      by_cases c : zfn (zMv h) n i
      · rw [if_neg (fun x => x c), z_bit (by omega), z_or]
        exact ih (i + 1) (by omega) (ai_st g 2097795 i _) (fun q a => by rw [z_ne a]; exact fg q a) g2 (N _ (by rw [if_pos c])) z1 z2
      · rw [if_pos c, Int32.or_zero]
        exact ih (i + 1) (by omega) (ai_st g 2097795 i _) (fun q a => by rw [z_ne a]; exact fg q a) g2 (N _ (by rw [if_neg c])) z1 z2
  obtain ⟨h6, a1, a2, a3, a4, a5⟩ := K 24 0 (by decide) g1 (fun _ _ => rfl) f4 (fun t ht => by
    rw [f1 _ (by decide) (by decide), n0 _ (by decide) (by decide), if_neg (fun x => by omega)]
    exact (d4 t ht).2.2.2) (some (.inr (.inr (1, 500, 2097537)))) (some (.inl (nI n)))
  refine ⟨h6, ?_, a2, fun q b1 b2 b3 b4 => by rw [a3 q b3 b4, f1 q b1 b2], a4, fun i => by rw [a3 _ (by decide) (by decide), f2], fun i => by rw [a3 _ (by decide) (by decide), f3], a5⟩
  rw [T44, g02, if_neg (by rw [l20, nI_leI (by decide) (by omega)]; omega), if_neg (by rw [show (1 : Int32) = nI 1 from rfl, nI_ltI (by omega) (by decide)]; omega), if_pos (by rw [l12, nI_leI (by omega) (by decide)]; exact h12), iD, z_ne (by decide), g02, e12]
  unfold ai_cp
  rw [if_pos ⟨by decide, nI_pos (by omega), nI_pos (by omega), by rw [nI_clamp (by omega)]; show 0 + n ≤ 500; omega, by rw [nI_clamp (by omega), nI_clamp (by omega)]; omega⟩, nI_clamp (by omega), nI_clamp (by omega), show Int32.toNatClampNeg 0 = 0 from rfl, hg1]
  exact a1
/-- letters copied -/
theorem M247 {g : ai_H} {D n : Nat} {L : Nat → Int32} (d : Nat) (x2 : Nat) (hD : g.1 16128 34 = nI D) (hl : D < 20) (h12 : n ≤ 12) (hL : ∀ k, k < n → g.1 2064452 k = L k ∧ zi (L k) 1 27) : ∃ h8, ai_E (d + 1) 247 40 [some (.inr (.inr (32, 0, 16128))), some (.inl (nI n)), some (.inl 0)] [] g = some ([.inl (nI D)], h8) ∧ h8.2 = g.2 ∧ (∀ q, q ≠ 2064450 → q ≠ 2064448 → q ≠ 16128 → h8.1 q = g.1 q) ∧ (∀ j, h8.1 16128 j = if j = 34 then nI (D + 1) else g.1 16128 j) ∧ (∀ i, h8.1 2064448 i = if i = D then nI n else g.1 2064448 i) ∧ ∀ i, h8.1 2064450 i = if 12 * D ≤ i ∧ i < 12 * D + n then L (i - 12 * D) else g.1 2064450 i := by
  have iD : ∀ f : Nat → Option ai_R, ai_ix (nI D) 20 f = f D := fun f => z_ix hl (by decide)
  have K : ∀ k i, i + k = n → ∀ g', (∀ q, q ≠ 2064450 → g'.1 q = g.1 q) → g'.2 = g.2 → (∀ j, g'.1 2064450 j = if 12 * D ≤ j ∧ j < 12 * D + i then L (j - 12 * D) else g.1 2064450 j) → ∃ h8, ai_E (d + 1) 247 40 [some (.inr (.inr (32, 0, 16128))), some (.inl (nI n)), some (.inl (nI i))] [] g' = some ([.inl (nI D)], h8) ∧ h8.2 = g.2 ∧ (∀ q, q ≠ 2064450 → q ≠ 2064448 → q ≠ 16128 → h8.1 q = g.1 q) ∧ (∀ j, h8.1 16128 j = if j = 34 then nI (D + 1) else g.1 16128 j) ∧ (∀ i, h8.1 2064448 i = if i = D then nI n else g.1 2064448 i) ∧ ∀ i, h8.1 2064450 i = if 12 * D ≤ i ∧ i < 12 * D + n then L (i - 12 * D) else g.1 2064450 i := by
    intro k
    induction k with
    | zero =>
      intro i hi g' fg g2 cg
      have hi : i = n := by omega
      subst hi
      have gD : g'.1 16128 34 = nI D := by rw [fg _ (by decide)]; exact hD
      refine ⟨ai_st (ai_st g' 2064448 D (nI i)) 16128 34 (nI (D + 1)), ?_, g2, fun q a b c => by rw [z_ne c, z_ne b, fg q a], fun j => ?_, fun j => ?_, fun j => ?_⟩
      · have e4 : (ai_st g' 2064448 D (nI i)).1 16128 34 = nI D := by rw [z_ne (by decide)]; exact gD
        rw [T247_40, if_pos (by rw [z_le]; omega), gD, iD, e4, nI_1, z_stS, nI_pred]
      · rw [z_st1]
        by_cases c : j = 34
        · rw [if_pos ⟨rfl, c⟩, if_pos c]
        · rw [if_neg (fun x => c x.2), if_neg c, z_ne (by decide), fg _ (by decide)]
      · rw [z_ne (by decide), z_st1]
        by_cases c : j = D
        · rw [if_pos ⟨rfl, c⟩, if_pos c]
        · rw [if_neg (fun x => c x.2), if_neg c, fg _ (by decide)]
      · rw [z_ne (by decide), z_ne (by decide), cg]
    | succ k ih =>
      intro i hi g' fg g2 cg
      have gD : g'.1 16128 34 = nI D := by rw [fg _ (by decide)]; exact hD
      have j12 : ∀ f : Nat → Option ai_R, ai_ix (nI i) 12 f = f i := fun f => z_ix (by omega) (by decide)
      have jq : ∀ f : Nat → Option ai_R, ai_ix (nI (12 * D + i)) 240 f = f (12 * D + i) := fun f => z_ix (by omega) (by decide)
      obtain ⟨l1, l2⟩ := hL i (by omega)
      rw [T247_40, if_neg (by rw [nI_leI (by omega) (by omega)]; omega), gD, z_i12, j12, jq, fg _ (by decide), l1, z_nby l2, nI_1]
      refine ih (i + 1) (by omega) (ai_st g' 2064450 (12 * D + i) _) (fun q a => by rw [z_ne a]; exact fg q a) g2 (fun j => ?_)
      rw [z_st1]
      by_cases c : j = 12 * D + i
      · rw [if_pos ⟨rfl, c⟩, if_pos (by omega), show j - 12 * D = i by omega]
      · rw [if_neg (fun x => c x.2), cg]
        by_cases c2 : 12 * D ≤ j ∧ j < 12 * D + i
        · rw [if_pos c2, if_pos (by omega)]
        · rw [if_neg c2, if_neg (by omega)]
  exact K n 0 (by omega) g (fun _ _ => rfl) rfl (fun j => by rw [if_neg (by omega)])
theorem P_donor (x : Int32) : zPr 110 247 [.inl x] := by
  intro d h hr
  obtain ⟨d1, d2, d3, d4⟩ := zR_nm hr
  have hT : zTp h (zMv h) := hr.1.2.2.2.2.1
  have hN : zNm h (zMv h) := hr.1.2.2.2.1
  have vv := hr.2.1.2.2.2.2.1
  have v48 := hr.2.1.1.2.2.2.2.1
  unfold zi at v48
  have hn : h.1 16387 1 = nI (zg (zMv h) 48) := hT.1.trans (z_nat v48.1)
  have mn : h.1 16128 48 = nI (zg (zMv h) 48) := ((zMv2 (by decide)).symm).trans (z_nat v48.1)
  have le : zg (zMv h) 48 ≤ 500 := by unfold zg; omega
  have l20 : (20 : Int32) = nI 20 := rfl
  by_cases c0 : 0 ≤ x.toInt ∧ x.toInt ≤ (zg (zMv h) 48 : Int)
  · obtain ⟨n, hn0, rfl⟩ := z_rngI c0
    have hn1 : n ≤ zg (zMv h) 48 := by omega
    by_cases c1 : zg (zMv h) 34 < 20
    · have hx54 := X54 (w := false) (n := n) (d + 57) hr rfl le hn1
      -- the class's head
      have HX : ∀ h6 v, (if znf (zMv h) false n = -1 then ai_bi (ai_X (d + 59) 44 [.inr (.inr (26, 0, 16389)), .inr (.inr (1, 500, 2097537)), .inl (nI n)] (ai_st (ai_st h 16387 1 0) 128 11 (znf (zMv h) false n))) (fun v7 h6 => some ([.inl v7], h6)) else some ([.inl (-1)], ai_st (ai_st h 16387 1 0) 128 11 (znf (zMv h) false n)) : Option ai_R) = some ([.inl v], h6) → ai_X (d + 60) 110 [.inr (.inr (31, 0, 128)), .inl (nI n)] h = some ([.inl v], h6) := by
        intro h6 v e
        rw [T110, X52 _ _ hn le]
        simp only [z_bi, zb_0]
        rw [if_neg (fun q => q c0), d1, if_pos (by rw [l20, nI_ltI (by omega) (by decide)]; exact c1), show ai_X (d + 59) 54 [.inr (.inr (27, 0, 16387)), .inl (nI n), .inl 0] h = _ from hx54]
        simp only [z_bi, T165, z_bv]
        exact e
      by_cases c2 : znf (zMv h) false n = -1
      · obtain ⟨k1, k12, kb⟩ := (znf_ok (by omega)).mp c2
        have hv : ∀ k, k < n → zltr (zbt (zMv h) k) := fun k hk => by
          have := kb k hk
          by_cases q : zltr (zbt (zMv h) k)
          · exact q
          · exact absurd ⟨q, fun x => (by cases x.1)⟩ this
        obtain ⟨h6, a1, a2, a3, a4, a5, a6, a7⟩ := X44 (h := h) (g0 := ai_st (ai_st h 16387 1 0) 128 11 (-1)) (D := zg (zMv h) 34) (n := n) (d + 56) hr rfl (fun q a b => by rw [z_ne b, z_ne a]) rfl c1 k1 k12 hn1 hv
        have eF : zMv h6 = zMv h := by
          refine zMv_Fx ⟨fun q hq => ?_, a2⟩
          have ne : ∀ p, zroot p = 128 → q ≠ p := fun p hp e => hq (by rw [e]; exact hp)
          rw [a3 q (ne _ (by decide)) (ne _ (by decide)) (ne _ (by decide)) (ne _ (by decide)), z_ne (ne _ (by decide)), z_ne (ne _ (by decide))]
        obtain ⟨h7, b1, b2, b3, b4, b5⟩ := M246 (h := h6) (n := n) (w := false) (d + 57) (by omega)
        rw [eF] at b1 b4 b5
        have b5 := b5 c2
        have h7n : ∀ q j, ¬ zMN q j → h7.1 q j = h6.1 q j := b2.1
        have h634 : h6.1 16128 34 = nI (zg (zMv h) 34) := by rw [a3 _ (by decide) (by decide) (by decide) (by decide), z_ne (by decide), z_ne (by decide)]; exact d2
        have h648 : h6.1 16128 48 = nI (zg (zMv h) 48) := by rw [a3 _ (by decide) (by decide) (by decide) (by decide), z_ne (by decide), z_ne (by decide)]; exact mn
        have h734 : h7.1 16128 34 = nI (zg (zMv h) 34) := by rw [h7n _ _ (by unfold zMN zMS; omega)]; exact h634
        obtain ⟨h8, p1, p2, p3, p4, p5, p6⟩ := M247 (g := h7) (D := zg (zMv h) 34) (n := n) (L := zltk (zMv h)) (d + 58) 0 h734 c1 k12 (fun k hk => ⟨b5 k hk, (zltk_ok (Or.inl (hv k hk))).2.1⟩)
        have hb : h8.2 = h.2 := p2.trans (b2.2.trans a2)
        have c8 : ∀ q, q ≠ 2064450 → q ≠ 2064448 → q ≠ 16128 → (q < 2064435 ∨ 2064471 < q ∨ (2064448 ≤ q ∧ q ≤ 2064451)) → h8.1 q = h6.1 q := fun q n1 n2 n3 n4 => by
          rw [p3 q n1 n2 n3]
          funext j
          exact h7n q j (by unfold zMN zMS; omega)
        have c9 : ∀ q, q ≠ 2097797 → q ≠ 2097798 → q ≠ 2097795 → q ≠ 16389 → q ≠ 16387 → q ≠ 128 → h6.1 q = h.1 q := fun q n1 n2 n3 n4 n5 n6 => by rw [a3 q n1 n2 n3 n4, z_ne n6, z_ne n5]
        have s34 : (zMv h8).2 34 = nI (zg (zMv h) 34 + 1) := by rw [zMv2 (by decide), p4, if_pos rfl]
        have g34 : zg (zMv h8) 34 = zg (zMv h) 34 + 1 := by unfold zg; rw [s34, z_T (by omega)]; rfl
        have r64 : (zMv h8).1 64 = (zMv h).1 64 := by
          funext i
          rw [zMv1 (by omega), zMv1 (by omega), c8 _ (by decide) (by decide) (by decide) (by decide), c9 _ (by decide) (by decide) (by decide) (by decide) (by decide) (by decide)]
        have r66 : (zMv h8).1 66 = (zMv h).1 66 := by
          funext i
          rw [zMv1 (by omega), zMv1 (by omega), c8 _ (by decide) (by decide) (by decide) (by decide), c9 _ (by decide) (by decide) (by decide) (by decide) (by decide) (by decide)]
        have r63 : ∀ i, (zMv h8).1 63 i = if i = zg (zMv h) 34 then nI n else (zMv h).1 63 i := by
          intro i
          rw [zMv1 (by omega), zMv1 (by omega), p5, h7n _ _ (by unfold zMN zMS; omega), c9 _ (by decide) (by decide) (by decide) (by decide) (by decide) (by decide)]
        have r65 : ∀ i, (zMv h8).1 65 i = if 12 * zg (zMv h) 34 ≤ i ∧ i < 12 * zg (zMv h) 34 + n then zltk (zMv h) (i - 12 * zg (zMv h) 34) else (zMv h).1 65 i := by
          intro i
          rw [zMv1 (by omega), zMv1 (by omega), p6, h7n _ _ (by unfold zMN zMS; omega), c9 _ (by decide) (by decide) (by decide) (by decide) (by decide) (by decide)]
        have fo : ∀ t q, q < zg (zMv h) 34 → (zfit (zMv h8) t q = true ↔ zfit (zMv h) t q = true) := by
          intro t q hq
          have u1 := (vv.2 q hq).1
          unfold zi at u1
          rw [zfit_iff, zfit_iff, r64, r66, r63, if_neg (by omega)]
          refine and_congr_right fun e => ?_
          refine ⟨fun w k hk => ?_, fun w k hk => ?_⟩
          · have := w k hk
            rw [r65, if_neg (by rw [e] at hk; omega)] at this
            exact this
          · rw [r65, if_neg (by rw [e] at hk; omega)]
            exact w k hk
        have fD : ∀ t, zfit (zMv h8) t (zg (zMv h) 34) = true ↔ zfn (zMv h) n t := by
          intro t
          rw [zfit_iff, r64, r66, r63, if_pos rfl]
          unfold zfn
          refine and_congr_right fun e => ?_
          have en : ((zMv h).1 64 t).toInt.toNat = n := by rw [e, z_T (by omega)]; rfl
          refine ⟨fun w k hk => ?_, fun w k hk => ?_⟩
          · have := w k hk
            rw [r65, if_pos (by omega), show 12 * zg (zMv h) 34 + k - 12 * zg (zMv h) 34 = k by omega] at this
            exact this
          · rw [r65, if_pos (by omega), show 12 * zg (zMv h) 34 + k - 12 * zg (zMv h) 34 = k by omega]
            exact w k hk
        refine ⟨nI (zg (zMv h) 34), h6, h8, HX _ _ ?_, ?_, ?_, zK_of hb⟩
        · rw [if_pos c2, c2, a1]
          rfl
        · rw [T247, if_neg (by rw [z_lt, z_T (by omega)]; simp only [zl0]; omega), h648, if_pos (by rw [nI_leI (by omega) (by omega)]; exact hn1), h634, if_neg (by rw [l20, nI_eq (by omega) (by decide)]; omega), show ai_X (d + 59) 246 [.inr (.inr (32, 0, 16128)), .inl (nI n), .inl 0] h6 = _ from b1]
          simp only [z_bi, zb_0]
          rw [if_neg (fun q => q c2)]
          exact p1
        · refine zR_nam hr hb (fun q n1 n2 n3 n4 n5 n6 => ?_) ?_ ?_ ?_ ?_ (fun j hj n1 n2 n3 => ?_) ?_ ?_ ?_ ?_
          · rw [c8 q (by omega) (by omega) n5 (by omega), c9 q (by omega) (by omega) (by omega) n3 n2 n1]
          · rw [c8 128 (by decide) (by decide) (by decide) (by decide), a3 _ (by decide) (by decide) (by decide) (by decide), z_st1, if_neg (by decide), z_ne (by decide)]
          · rw [c8 128 (by decide) (by decide) (by decide) (by decide), a3 _ (by decide) (by decide) (by decide) (by decide), z_stS, p4, if_neg (by decide), b4, c2]
          · rw [c8 16387 (by decide) (by decide) (by decide) (by decide), a3 _ (by decide) (by decide) (by decide) (by decide), z_ne (by decide), z_stS]
          · rw [p4, if_neg (by decide)]; exact b3
          · rw [p4, if_neg n3, h7n _ _ (by unfold zMN zMS; omega), c9 16128 (by decide) (by decide) (by decide) (by decide) (by decide) (by decide)]
          · rw [p4, if_neg (by decide), b4]; exact znf_zi
          · refine ⟨?_, fun t ht => ⟨?_, ?_, fun k hk => ?_⟩, fun q hq => ⟨?_, fun k hk => ?_⟩⟩
            · rw [c8 16389 (by decide) (by decide) (by decide) (by decide), a4, s34]
            · rw [c8 2097794 (by decide) (by decide) (by decide) (by decide), c9 _ (by decide) (by decide) (by decide) (by decide) (by decide) (by decide), r64]
              exact (hN.2.1 t ht).1
            · rw [c8 2097795 (by decide) (by decide) (by decide) (by decide), a7 t ht, g34, zB_s, zB_c (q := fun q => zfit (zMv h) t q = true) (fun q hq => fo t q hq)]
              by_cases c : zfn (zMv h) n t
              · rw [if_pos c, if_pos ((fD t).mpr c)]
              · rw [if_neg c, if_neg (fun x => c ((fD t).mp x))]
            · rw [r64] at hk
              rw [c8 2097796 (by decide) (by decide) (by decide) (by decide), c9 _ (by decide) (by decide) (by decide) (by decide) (by decide) (by decide), r66]
              exact (hN.2.1 t ht).2.2 k hk
            · rw [c8 2097797 (by decide) (by decide) (by decide) (by decide), a5, r63]
              by_cases c : q = zg (zMv h) 34
              · rw [if_pos c, if_pos c]
              · rw [if_neg c, if_neg c]
                exact (hN.2.2 q (by omega)).1
            · rw [r63] at hk
              rw [c8 2097798 (by decide) (by decide) (by decide) (by decide), a6, r65]
              by_cases c : q = zg (zMv h) 34
              · subst c
                rw [if_pos rfl, z_T (by omega)] at hk
                rw [if_pos (by omega), if_pos (by omega), show 12 * zg (zMv h) 34 + k - 12 * zg (zMv h) 34 = k by omega]
                exact (zltk_ok (Or.inl (hv k (by omega)))).1.symm
              · rw [if_neg c] at hk
                have u1 := (vv.2 q (by omega)).1
                unfold zi at u1
                rw [if_neg (by omega), if_neg (by omega)]
                exact (hN.2.2 q (by omega)).2 k hk
          · rw [s34]; unfold zi; rw [z_T (by omega)]; omega
          · refine ⟨fun t ht => ?_, fun q hq => ?_⟩
            · rw [r64, r66]
              exact vv.1 t ht
            · rw [r63]
              by_cases c : q = zg (zMv h) 34
              · subst c
                rw [if_pos rfl]
                refine ⟨by unfold zi; rw [z_T (by omega)]; omega, fun k hk => ?_⟩
                rw [z_T (by omega)] at hk
                rw [r65, if_pos (by omega), show 12 * zg (zMv h) 34 + k - 12 * zg (zMv h) 34 = k by omega]
                exact (zltk_ok (Or.inl (hv k (by omega)))).2.2 (hv k (by omega))
              · rw [if_neg c]
                have u1 := (vv.2 q (by omega)).1
                refine ⟨u1, fun k hk => ?_⟩
                unfold zi at u1
                rw [r65, if_neg (by omega)]
                exact (vv.2 q (by omega)).2 k hk
      · generalize hg : ai_st (ai_st h 16387 1 0) 128 11 (znf (zMv h) false n) = g0
        have eF : zMv g0 = zMv h := by
          rw [← hg]
          exact zMv_Fx (zFx_st (zFx_st zFx_rf (by decide)) (by decide))
        obtain ⟨h7, b1, b2, b3, b4, b5⟩ := M246 (h := g0) (n := n) (w := false) (d + 57) (by omega)
        rw [eF] at b1 b4
        have g34 : g0.1 16128 34 = nI (zg (zMv h) 34) := by rw [← hg, z_ne (by decide), z_ne (by decide)]; exact d2
        have g48 : g0.1 16128 48 = nI (zg (zMv h) 48) := by rw [← hg, z_ne (by decide), z_ne (by decide)]; exact mn
        refine ⟨-1, g0, h7, HX _ _ ?_, ?_, zR_bad hr (by rw [hg]; exact b2) b3 b4 znf_zi, zK_of (b2.2.trans (by rw [← hg]; rfl))⟩
        · rw [if_neg c2, hg]
        · rw [T247, if_neg (by rw [z_lt, z_T (by omega)]; simp only [zl0]; omega), g48, if_pos (by rw [nI_leI (by omega) (by omega)]; exact hn1), g34, if_neg (by rw [l20, nI_eq (by omega) (by decide)]; omega), show ai_X (d + 59) 246 [.inr (.inr (32, 0, 16128)), .inl (nI n), .inl 0] g0 = _ from b1]
          simp only [z_bi, zb_0]
          rw [if_pos c2]
    · refine ⟨-3, h, h, ?_, ?_, hr, zK_of rfl⟩
      · rw [T110, X52 _ _ hn le]
        simp only [z_bi, zb_0]
        rw [if_neg (fun q => q c0), d1, if_neg (by rw [l20, nI_ltI (by omega) (by decide)]; exact c1)]
      · rw [T247, if_neg (by rw [z_lt, z_T (by omega)]; simp only [zl0]; omega), mn, if_pos (by rw [nI_leI (by omega) (by omega)]; exact hn1), d2, if_pos (by rw [l20, nI_eq (by omega) (by decide)]; omega)]
  · refine ⟨-2, h, h, ?_, ?_, hr, zK_of rfl⟩
    · rw [T110, X52 _ _ hn le]
      simp only [z_bi, zb_0]
      rw [if_pos c0]
    · rw [T247, mn]
      by_cases g : x < 0
      · rw [if_pos g]
      · rw [if_neg g, if_neg]
        rw [z_lt] at g
        rw [z_le, z_T (by omega)]
        simp only [zl0] at g
        omega
