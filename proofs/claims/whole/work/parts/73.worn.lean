/-! NAMES: worn -/
abbrev zfwn (μ : zMu) (n q : Nat) : Prop := nI n = μ.1 63 q ∧ ∀ k, k < n → (zltk μ k = 27 ∨ zltk μ k = μ.1 65 (12 * q + k))
theorem X45 {h g0 : ai_H} {D n t : Nat} (d : Nat) (hr : zR h) (e2 : g0.2 = h.2) (n0 : ∀ q, q ≠ 16387 → q ≠ 128 → g0.1 q = h.1 q) (hD : zg (zMv h) 34 = D) (ht : t < 24) (h1 : 1 ≤ n) (h12 : n ≤ 12) (hz : n ≤ zg (zMv h) 48) (hv : ∀ k, k < n → zltr (zbt (zMv h) k) ∨ zbt (zMv h) k = 46) :
    ∃ h6, ai_X (d + 3) 45 [.inr (.inr (26, 0, 16389)), .inl (nI t), .inr (.inr (1, 500, 2097537)), .inl (nI n)] g0 = some ([.inl (nI (zcnt (fun q => zfwn (zMv h) n q) D))], h6) ∧ h6.2 = h.2 ∧ (∀ q, q ≠ 2097794 → q ≠ 2097796 → q ≠ 2097795 → h6.1 q = g0.1 q) ∧ (∀ i, h6.1 2097794 i = if i = t then nI n else h.1 2097794 i) ∧ (∀ i, h6.1 2097796 i = if 12 * t ≤ i ∧ i < 12 * t + n then zbt (zMv h) (i - 12 * t) else h.1 2097796 i) ∧ ∀ i, h6.1 2097795 i = if i = t then nI (zB (fun q => zfwn (zMv h) n q) D) else h.1 2097795 i := by
  obtain ⟨d1, d2, d3, d4⟩ := zR_nm hr
  rw [hD] at d1 d2 d3 d4
  have hN : zNm h (zMv h) := hr.1.2.2.2.1
  have hT : zTp h (zMv h) := hr.1.2.2.2.2.1
  have vv := hr.2.1.2.2.2.2.1
  have tp : ∀ k, k < n → h.1 2097537 k = zbt (zMv h) k := fun k hk => hT.2 k (by omega)
  have it : ∀ f : Nat → Option ai_R, ai_ix (nI t) 24 f = f t := fun f => z_ix ht (by decide)
  have g02 : g0.1 16389 0 = nI D := by rw [n0 16389 (by decide) (by decide)]; exact d1
  have l12 : (12 : Int32) = nI 12 := rfl
  have e12 : nI t * (12 : Int32) = nI (12 * t) := by rw [l12, pk_mul, Nat.mul_comm]
  generalize hg1 : ai_st (ai_cpy (ai_st g0 2097794 t (nI n)) 2097537 0 2097796 (12 * t) n) 2097795 t 0 = g1
  have f1 : ∀ q, q ≠ 2097794 → q ≠ 2097796 → q ≠ 2097795 → g1.1 q = g0.1 q := fun q a b c => by
    rw [← hg1, z_ne c]
    funext j
    rw [z_cpy1, if_neg (fun c => b c.1), z_ne a]
  have f2 : ∀ i, g1.1 2097794 i = if i = t then nI n else h.1 2097794 i := fun i => by
    rw [← hg1, z_ne (by decide), z_cpy1, if_neg (fun c => absurd c.1 (by decide)), z_st1]
    by_cases c : i = t
    · rw [if_pos ⟨rfl, c⟩, if_pos c]
    · rw [if_neg (fun x => c x.2), if_neg c, n0 2097794 (by decide) (by decide)]
  have f3 : ∀ i, g1.1 2097796 i = if 12 * t ≤ i ∧ i < 12 * t + n then zbt (zMv h) (i - 12 * t) else h.1 2097796 i := fun i => by
    rw [← hg1, z_ne (by decide), z_cpy1]
    by_cases c : 12 * t ≤ i ∧ i < 12 * t + n
    · rw [if_pos ⟨rfl, c⟩, if_pos c, z_ne (by decide), n0 2097537 (by decide) (by decide), Nat.zero_add, tp _ (by omega)]
    · rw [if_neg (fun x => c x.2), if_neg c, z_ne (by decide), n0 2097796 (by decide) (by decide)]
  have f5 : ∀ i, g1.1 2097795 i = if i = t then 0 else h.1 2097795 i := fun i => by
    rw [← hg1, z_st1]
    by_cases c : i = t
    · rw [if_pos ⟨rfl, c⟩, if_pos c]
    · rw [if_neg (fun x => c x.2), if_neg c, z_cpy1, if_neg (fun c => absurd c.1 (by decide)), z_ne (by decide), n0 2097795 (by decide) (by decide)]
  have f4 : g1.2 = h.2 := by rw [← hg1]; exact e2
  have K : ∀ k i, i + k = D → ∀ g, (∀ q, q ≠ 2097795 → g.1 q = g1.1 q) → g.2 = h.2 → (∀ j, g.1 2097795 j = if j = t then nI (zB (fun q => zfwn (zMv h) n q) i) else h.1 2097795 j) → ∀ z1 z2, ∃ h6, ai_E (d + 2) 45 44 [some (.inr (.inr (26, 0, 16389))), some (.inl (nI t)), z1, z2, some (.inl (nI i))] [] g = some ([.inl (nI (zcnt (fun q => zfwn (zMv h) n q) D))], h6) ∧ h6.2 = h.2 ∧ (∀ q, q ≠ 2097795 → h6.1 q = g1.1 q) ∧ ∀ j, h6.1 2097795 j = if j = t then nI (zB (fun q => zfwn (zMv h) n q) D) else h.1 2097795 j := by
    intro k
    induction k with
    | zero =>
      intro i hi g fg g2 cg z1 z2
      have hi : i = D := by omega
      subst hi
      have gD : g.1 16389 0 = nI i := by rw [fg _ (by decide), f1 _ (by decide) (by decide) (by decide)]; exact g02
      refine ⟨g, ?_, g2, fg, cg⟩
      rw [T45_44, gD, if_pos (by rw [z_le]; omega), it, cg, if_pos rfl, X312B _ _ (by omega)]
      rfl
    | succ k ih =>
      intro i hi g fg g2 cg z1 z2
      have gD : g.1 16389 0 = nI D := by rw [fg _ (by decide), f1 _ (by decide) (by decide) (by decide)]; exact g02
      have h97 : g.1 2097797 i = (zMv h).1 63 i := by rw [fg _ (by decide), f1 _ (by decide) (by decide) (by decide), n0 _ (by decide) (by decide)]; exact (hN.2.2 i (by omega)).1
      have hX := X46 (g := g) (t := t) (q := i) (n := n) (A := zltk (zMv h)) (B := fun k => (zMv h).1 65 (12 * i + k)) (d + 1) ht (by omega) h12 (by rw [fg _ (by decide), f2, if_pos rfl]) (fun k hk => by
        obtain ⟨q1, q2, q3⟩ := zltk_ok (hv k hk)
        rw [fg _ (by decide), f3, if_pos (by omega), show 12 * t + k - 12 * t = k by omega]
        exact ⟨q1.symm, q2⟩) (fun eB k hk => by
        rw [h97] at eB
        have en : ((zMv h).1 63 i).toInt.toNat = n := by rw [eB, z_T (by omega)]; rfl
        rw [fg _ (by decide), f1 _ (by decide) (by decide) (by decide), n0 _ (by decide) (by decide)]
        exact ⟨(hN.2.2 i (by omega)).2 k (by omega), (vv.2 i (by omega)).2 k (by omega)⟩)
      have eP : (nI n = g.1 2097797 i ∧ ∀ k, k < n → (zltk (zMv h) k = 27 ∨ zltk (zMv h) k = (zMv h).1 65 (12 * i + k))) ↔ zfwn (zMv h) n i := by
        rw [h97]
      have N : ∀ v, (v = nI (zB (fun q => zfwn (zMv h) n q) (i + 1))) → ∀ j, (ai_st g 2097795 t v).1 2097795 j = if j = t then nI (zB (fun q => zfwn (zMv h) n q) (i + 1)) else h.1 2097795 j := by
        intro v ev j
        rw [z_st1]
        by_cases c : j = t
        · rw [if_pos ⟨rfl, c⟩, if_pos c, ev]
        · rw [if_neg (fun x => c x.2), if_neg c, cg, if_neg c]
      have oi : g.1 2097795 t = nI (zB (fun q => zfwn (zMv h) n q) i) := by rw [cg t, if_pos rfl]
      rw [T45_44, gD, if_neg (by rw [nI_leI (by omega) (by omega)]; omega), it, hX]
      simp only [z_bi, zb_0, it, nI_1, oi, eP]
      by_cases c : zfwn (zMv h) n i
      · rw [if_neg (fun x => x c), z_bit (by omega), z_or]
        exact ih (i + 1) (by omega) (ai_st g 2097795 t _) (fun q a => by rw [z_ne a]; exact fg q a) g2 (N _ (by rw [zB_s, if_pos c])) z1 z2
      · rw [if_pos c, Int32.or_zero]
        exact ih (i + 1) (by omega) (ai_st g 2097795 t _) (fun q a => by rw [z_ne a]; exact fg q a) g2 (N _ (by rw [zB_s, if_neg c])) z1 z2
  obtain ⟨h6, a1, a2, a3, a5⟩ := K D 0 (by omega) g1 (fun _ _ => rfl) f4 (fun j => f5 j) (some (.inr (.inr (1, 500, 2097537)))) (some (.inl (nI n)))
  refine ⟨h6, ?_, a2, fun q b1 b2 b3 => by rw [a3 q b3, f1 q b1 b2 b3], fun i => by rw [a3 _ (by decide), f2], fun i => by rw [a3 _ (by decide), f3], a5⟩
  rw [T45, if_neg (by rw [show (1 : Int32) = nI 1 from rfl, nI_ltI (by omega) (by decide)]; omega), if_pos (by rw [l12, nI_leI (by omega) (by decide)]; exact h12), it, e12, it]
  unfold ai_cp
  rw [if_pos ⟨by decide, nI_pos (by omega), nI_pos (by omega), by rw [nI_clamp (by omega)]; show 0 + n ≤ 500; omega, by rw [nI_clamp (by omega), nI_clamp (by omega)]; omega⟩, nI_clamp (by omega), nI_clamp (by omega), show Int32.toNatClampNeg 0 = 0 from rfl, hg1]
  exact a1
/-- letters copied, then the size -/
theorem M248 {g : ai_H} {n t : Nat} {L : Nat → Int32} (d : Nat) (ht : t < 24) (h12 : n ≤ 12) (hL : ∀ k, k < n → g.1 2064452 k = L k ∧ zi (L k) 1 27) : ∃ h8, ai_E (d + 1) 248 36 [some (.inr (.inr (32, 0, 16128))), some (.inl (nI t)), some (.inl (nI n)), some (.inl 0)] [] g = ai_bi (ai_X (d + 1) 251 [.inr (.inr (32, 0, 16128)), .inl (nI t), .inl (-1)] h8) (fun v3 h2 => some ([.inl v3], h2)) ∧ h8.2 = g.2 ∧ (∀ q, q ≠ 2064451 → q ≠ 2064449 → h8.1 q = g.1 q) ∧ (∀ i, h8.1 2064449 i = if i = t then nI n else g.1 2064449 i) ∧ ∀ i, h8.1 2064451 i = if 12 * t ≤ i ∧ i < 12 * t + n then L (i - 12 * t) else g.1 2064451 i := by
  have it : ∀ f : Nat → Option ai_R, ai_ix (nI t) 24 f = f t := fun f => z_ix ht (by decide)
  have K : ∀ k i, i + k = n → ∀ g', (∀ q, q ≠ 2064451 → g'.1 q = g.1 q) → g'.2 = g.2 → (∀ j, g'.1 2064451 j = if 12 * t ≤ j ∧ j < 12 * t + i then L (j - 12 * t) else g.1 2064451 j) → ∃ h8, ai_E (d + 1) 248 36 [some (.inr (.inr (32, 0, 16128))), some (.inl (nI t)), some (.inl (nI n)), some (.inl (nI i))] [] g' = ai_bi (ai_X (d + 1) 251 [.inr (.inr (32, 0, 16128)), .inl (nI t), .inl (-1)] h8) (fun v3 h2 => some ([.inl v3], h2)) ∧ h8.2 = g.2 ∧ (∀ q, q ≠ 2064451 → q ≠ 2064449 → h8.1 q = g.1 q) ∧ (∀ i, h8.1 2064449 i = if i = t then nI n else g.1 2064449 i) ∧ ∀ i, h8.1 2064451 i = if 12 * t ≤ i ∧ i < 12 * t + n then L (i - 12 * t) else g.1 2064451 i := by
    intro k
    induction k with
    | zero =>
      intro i hi g' fg g2 cg
      have hi : i = n := by omega
      subst hi
      refine ⟨ai_st g' 2064449 t (nI i), ?_, g2, fun q a b => by rw [z_ne b, fg q a], fun j => ?_, fun j => ?_⟩
      · rw [T248_36, if_pos (by rw [z_le]; omega), it]
      · rw [z_st1]
        by_cases c : j = t
        · rw [if_pos ⟨rfl, c⟩, if_pos c]
        · rw [if_neg (fun x => c x.2), if_neg c, fg _ (by decide)]
      · rw [z_ne (by decide), cg]
    | succ k ih =>
      intro i hi g' fg g2 cg
      have j12 : ∀ f : Nat → Option ai_R, ai_ix (nI i) 12 f = f i := fun f => z_ix (by omega) (by decide)
      have jq : ∀ f : Nat → Option ai_R, ai_ix (nI (12 * t + i)) 288 f = f (12 * t + i) := fun f => z_ix (by omega) (by decide)
      obtain ⟨l1, l2⟩ := hL i (by omega)
      rw [T248_36, if_neg (by rw [nI_leI (by omega) (by omega)]; omega), z_i12, j12, jq, fg _ (by decide), l1, z_nby l2, nI_1]
      refine ih (i + 1) (by omega) (ai_st g' 2064451 (12 * t + i) _) (fun q a => by rw [z_ne a]; exact fg q a) g2 (fun j => ?_)
      rw [z_st1]
      by_cases c : j = 12 * t + i
      · rw [if_pos ⟨rfl, c⟩, if_pos (by omega), show j - 12 * t = i by omega]
      · rw [if_neg (fun x => c x.2), cg]
        by_cases c2 : 12 * t ≤ j ∧ j < 12 * t + i
        · rw [if_pos c2, if_pos (by omega)]
        · rw [if_neg c2, if_neg (by omega)]
  exact K n 0 (by omega) g (fun _ _ => rfl) rfl (fun j => by rw [if_neg (by omega)])
theorem P_worn (y x : Int32) : zPr 111 248 [.inl y, .inl x] := by
  intro d h hr
  obtain ⟨b0, b1, b2, b8, b5, b4, b3, V⟩ := zR_b hr
  obtain ⟨d1, d2, d3, d4⟩ := zR_nm hr
  have hT : zTp h (zMv h) := hr.1.2.2.2.2.1
  have hN : zNm h (zMv h) := hr.1.2.2.2.1
  have vv := hr.2.1.2.2.2.2.1
  have v48 := hr.2.1.1.2.2.2.2.1
  unfold zi at v48
  have hn : h.1 16387 1 = nI (zg (zMv h) 48) := hT.1.trans (z_nat v48.1)
  have mn : h.1 16128 48 = nI (zg (zMv h) 48) := ((zMv2 (by decide)).symm).trans (z_nat v48.1)
  have le : zg (zMv h) 48 ≤ 500 := by unfold zg; omega
  by_cases c1 : 0 ≤ y.toInt ∧ y.toInt < (zn (zsl (zMv h) 0) 1 : Int)
  · by_cases c0 : 0 ≤ x.toInt ∧ x.toInt ≤ (zg (zMv h) 48 : Int)
    · obtain ⟨n, hn0, rfl⟩ := z_rngI c0
      obtain ⟨t, ht, rfl⟩ := z_rng c1
      have hn1 : n ≤ zg (zMv h) 48 := by omega
      have hx54 := X54 (w := true) (n := n) (d + 57) hr rfl le hn1
      -- the class's head
      have HX : ∀ h6 v, (if znf (zMv h) true n = -1 then ai_bi (ai_X (d + 59) 45 [.inr (.inr (26, 0, 16389)), .inl (nI t), .inr (.inr (1, 500, 2097537)), .inl (nI n)] (ai_st (ai_st h 16387 1 0) 128 11 (znf (zMv h) true n))) (fun v7 h6 => some ([.inl v7], h6)) else some ([.inl (-1)], ai_st (ai_st h 16387 1 0) 128 11 (znf (zMv h) true n)) : Option ai_R) = some ([.inl v], h6) → ai_X (d + 60) 111 [.inr (.inr (31, 0, 128)), .inl (nI t), .inl (nI n)] h = some ([.inl v], h6) := by
        intro h6 v e
        rw [T111, X52 _ _ hn le]
        simp only [z_bi, zb_0]
        rw [if_neg (fun q => q c0), X153 _ _ b1.1 b1.2.2]
        simp only [z_bi, zb_0]
        rw [if_neg (fun q => q c1), show ai_X (d + 59) 54 [.inr (.inr (27, 0, 16387)), .inl (nI n), .inl 1] h = _ from hx54]
        simp only [z_bi, T165, z_bv]
        exact e
      by_cases c2 : znf (zMv h) true n = -1
      · obtain ⟨k1, k12, kb⟩ := (znf_ok (by omega)).mp c2
        have hv : ∀ k, k < n → zltr (zbt (zMv h) k) ∨ zbt (zMv h) k = 46 := fun k hk => by
          have := kb k hk
          by_cases q : zltr (zbt (zMv h) k)
          · exact Or.inl q
          · by_cases q2 : zbt (zMv h) k = 46
            · exact Or.inr q2
            · exact absurd ⟨q, fun x => q2 x.2⟩ this
        obtain ⟨h6, a1, a2, a3, a5, a6, a7⟩ := X45 (h := h) (g0 := ai_st (ai_st h 16387 1 0) 128 11 (-1)) (D := zg (zMv h) 34) (n := n) (t := t) (d + 56) hr rfl (fun q a b => by rw [z_ne b, z_ne a]) rfl (by omega) k1 k12 hn1 hv
        have eF : zMv h6 = zMv h := by
          refine zMv_Fx ⟨fun q hq => ?_, a2⟩
          have ne : ∀ p, zroot p = 128 → q ≠ p := fun p hp e => hq (by rw [e]; exact hp)
          rw [a3 q (ne _ (by decide)) (ne _ (by decide)) (ne _ (by decide)), z_ne (ne _ (by decide)), z_ne (ne _ (by decide))]
        obtain ⟨h7, q1, q2, q3, q4, q5⟩ := M246 (h := h6) (n := n) (w := true) (d + 57) (by omega)
        rw [eF] at q1 q4 q5
        have q5 := q5 c2
        have h7n : ∀ q j, ¬ zMN q j → h7.1 q j = h6.1 q j := q2.1
        have c9 : ∀ q, q ≠ 2097794 → q ≠ 2097796 → q ≠ 2097795 → q ≠ 16387 → q ≠ 128 → h6.1 q = h.1 q := fun q n1 n2 n3 n5 n6 => by rw [a3 q n1 n2 n3, z_ne n6, z_ne n5]
        have h648 : h6.1 16128 48 = nI (zg (zMv h) 48) := by rw [c9 _ (by decide) (by decide) (by decide) (by decide) (by decide)]; exact mn
        have h61 : h6.1 2064386 0 = nI (zn (zsl (zMv h) 0) 1) := by rw [c9 _ (by decide) (by decide) (by decide) (by decide) (by decide)]; exact b1.2.1
        obtain ⟨h8, p1, p2, p3, p5, p6⟩ := M248 (g := h7) (n := n) (t := t) (L := zltk (zMv h)) (d + 58) (by omega) k12 (fun k hk => ⟨q5 k hk, (zltk_ok (hv k hk)).2.1⟩)
        have hb : h8.2 = h.2 := p2.trans (q2.2.trans a2)
        have c8 : ∀ q, q ≠ 2064451 → q ≠ 2064449 → q ≠ 16128 → (q < 2064435 ∨ 2064471 < q ∨ (2064448 ≤ q ∧ q ≤ 2064451)) → h8.1 q = h6.1 q := fun q n1 n2 n3 n4 => by
          rw [p3 q n1 n2]
          funext j
          exact h7n q j (by unfold zMN zMS; omega)
        have h834 : h8.1 16128 34 = nI (zg (zMv h) 34) := by rw [p3 _ (by decide) (by decide), h7n _ _ (by unfold zMN zMS; omega), c9 _ (by decide) (by decide) (by decide) (by decide) (by decide)]; exact d2
        have s34 : (zMv h8).2 34 = (zMv h).2 34 := by
          rw [zMv2 (by decide), zMv2 (by decide), h834, d2]
        have g34 : zg (zMv h8) 34 = zg (zMv h) 34 := by unfold zg; rw [s34]
        have r63 : (zMv h8).1 63 = (zMv h).1 63 := by
          funext i
          rw [zMv1 (by omega), zMv1 (by omega), c8 _ (by decide) (by decide) (by decide) (by decide), c9 _ (by decide) (by decide) (by decide) (by decide) (by decide)]
        have r65 : (zMv h8).1 65 = (zMv h).1 65 := by
          funext i
          rw [zMv1 (by omega), zMv1 (by omega), c8 _ (by decide) (by decide) (by decide) (by decide), c9 _ (by decide) (by decide) (by decide) (by decide) (by decide)]
        have r64 : ∀ i, (zMv h8).1 64 i = if i = t then nI n else (zMv h).1 64 i := by
          intro i
          rw [zMv1 (by omega), zMv1 (by omega), p5, h7n _ _ (by unfold zMN zMS; omega), c9 _ (by decide) (by decide) (by decide) (by decide) (by decide)]
        have r66 : ∀ i, (zMv h8).1 66 i = if 12 * t ≤ i ∧ i < 12 * t + n then zltk (zMv h) (i - 12 * t) else (zMv h).1 66 i := by
          intro i
          rw [zMv1 (by omega), zMv1 (by omega), p6, h7n _ _ (by unfold zMN zMS; omega), c9 _ (by decide) (by decide) (by decide) (by decide) (by decide)]
        have fo : ∀ s q, s < 24 → s ≠ t → (zfit (zMv h8) s q = true ↔ zfit (zMv h) s q = true) := by
          intro s q hs hst
          have u1 := (vv.1 s hs).1
          unfold zi at u1
          rw [zfit_iff, zfit_iff, r63, r65, r64, if_neg hst]
          refine and_congr_right fun e => ?_
          refine ⟨fun w k hk => ?_, fun w k hk => ?_⟩
          · have := w k hk
            rw [r66, if_neg (by omega)] at this
            exact this
          · rw [r66, if_neg (by omega)]
            exact w k hk
        have fD : ∀ q, zfit (zMv h8) t q = true ↔ zfwn (zMv h) n q := by
          intro q
          rw [zfit_iff, r63, r65, r64, if_pos rfl]
          unfold zfwn
          have en : (nI n).toInt.toNat = n := by rw [z_T (by omega)]; rfl
          rw [en]
          refine and_congr_right fun e => ?_
          refine ⟨fun w k hk => ?_, fun w k hk => ?_⟩
          · have := w k hk
            rw [r66, if_pos (by omega), show 12 * t + k - 12 * t = k by omega] at this
            exact this
          · rw [r66, if_pos (by omega), show 12 * t + k - 12 * t = k by omega]
            exact w k hk
        have w64 : (zMv h8).1 64 t = nI n := by rw [r64, if_pos rfl]
        have hM := M251 (g := h8) (t := t) (m := zg (zMv h) 34) (d + 56) (-1) (by omega) h834 d3 (by rw [w64]; unfold zi; rw [z_T (by omega)]; omega) (by
          have m1 : h8.1 2064386 0 = nI (zn (zsl (zMv h) 0) 1) := by rw [c8 _ (by decide) (by decide) (by decide) (by decide)]; exact h61
          have i24 : ∀ f : Nat → Option ai_R, ai_ix (nI t) 24 f = f t := fun f => z_ix (by omega) (by decide)
          have m64 : h8.1 2064449 t = nI n := by rw [← w64]; exact (zMv1 (f := 64) (by omega)).symm
          rw [T250, M195 _ _ m1 (by omega)]
          simp only [z_bi, zb_0, z_b0, z_b1]
          rw [if_neg (fun q => q (by rw [z_T (by omega)]; omega)), i24, m64, if_neg (nI_nle (by omega) (by omega))])
        have ec : zpick (fun q => zfit (zMv h8) t q = true) (zg (zMv h) 34) (-1) = nI (zcnt (fun q => zfwn (zMv h) n q) (zg (zMv h) 34)) := by
          unfold zpick
          rw [if_pos rfl, zcnt_c (q := fun q => zfwn (zMv h) n q) (fun q _ => fD q)]
        rw [ec] at hM
        refine ⟨nI (zcnt (fun q => zfwn (zMv h) n q) (zg (zMv h) 34)), h6, h8, HX _ _ ?_, ?_, ?_, zK_of hb⟩
        · rw [if_pos c2, c2, a1]
          rfl
        · rw [T248, M195 _ _ h61 (by omega)]
          simp only [z_bi, zb_0]
          rw [if_neg (fun q => q c1), if_neg (by rw [z_lt, z_T (by omega)]; simp only [zl0]; omega), h648, if_pos (by rw [nI_leI (by omega) (by omega)]; exact hn1), show ai_X (d + 59) 246 [.inr (.inr (32, 0, 16128)), .inl (nI n), .inl 1] h6 = _ from q1]
          simp only [z_bi, zb_0]
          rw [if_neg (fun q => q c2), p1, hM]
          rfl
        · refine zR_nam hr hb (fun q n1 n2 n3 n4 n5 n6 => ?_) ?_ ?_ ?_ ?_ (fun j hj n1 n2 n3 => ?_) ?_ ?_ ?_ ?_
          · rw [c8 q (by omega) (by omega) n5 (by omega), c9 q (by omega) (by omega) (by omega) n2 n1]
          · rw [c8 128 (by decide) (by decide) (by decide) (by decide), a3 _ (by decide) (by decide) (by decide), z_st1, if_neg (by decide), z_ne (by decide)]
          · rw [c8 128 (by decide) (by decide) (by decide) (by decide), a3 _ (by decide) (by decide) (by decide), z_stS, p3 _ (by decide) (by decide), q4, c2]
          · rw [c8 16387 (by decide) (by decide) (by decide) (by decide), a3 _ (by decide) (by decide) (by decide), z_ne (by decide), z_stS]
          · rw [p3 _ (by decide) (by decide)]; exact q3
          · rw [p3 _ (by decide) (by decide), h7n _ _ (by unfold zMN zMS; omega), c9 16128 (by decide) (by decide) (by decide) (by decide) (by decide)]
          · rw [p3 _ (by decide) (by decide), q4]; exact znf_zi
          · refine ⟨?_, fun s hs => ⟨?_, ?_, fun k hk => ?_⟩, fun q hq => ⟨?_, fun k hk => ?_⟩⟩
            · rw [c8 16389 (by decide) (by decide) (by decide) (by decide), c9 _ (by decide) (by decide) (by decide) (by decide) (by decide), s34]
              exact hN.1
            · rw [c8 2097794 (by decide) (by decide) (by decide) (by decide), a5, r64]
              by_cases c : s = t
              · rw [if_pos c, if_pos c]
              · rw [if_neg c, if_neg c]
                exact (hN.2.1 s hs).1
            · rw [c8 2097795 (by decide) (by decide) (by decide) (by decide), a7, g34]
              by_cases c : s = t
              · rw [if_pos c, c, zB_c (q := fun q => zfwn (zMv h) n q) (fun q _ => fD q)]
              · rw [if_neg c, zB_c (q := fun q => zfit (zMv h) s q = true) (fun q _ => fo s q hs c)]
                exact (hN.2.1 s hs).2.1
            · rw [c8 2097796 (by decide) (by decide) (by decide) (by decide), a6, r66]
              rw [r64] at hk
              by_cases c : s = t
              · subst c
                rw [if_pos rfl, z_T (by omega)] at hk
                rw [if_pos (by omega), if_pos (by omega), show 12 * s + k - 12 * s = k by omega]
                exact (zltk_ok (hv k (by omega))).1.symm
              · rw [if_neg c] at hk
                have u1 := (vv.1 s hs).1
                unfold zi at u1
                rw [if_neg (by omega), if_neg (by omega)]
                exact (hN.2.1 s hs).2.2 k hk
            · rw [g34] at hq
              rw [c8 2097797 (by decide) (by decide) (by decide) (by decide), c9 _ (by decide) (by decide) (by decide) (by decide) (by decide), r63]
              exact (hN.2.2 q hq).1
            · rw [g34] at hq
              rw [r63] at hk
              rw [c8 2097798 (by decide) (by decide) (by decide) (by decide), c9 _ (by decide) (by decide) (by decide) (by decide) (by decide), r65]
              exact (hN.2.2 q hq).2 k hk
          · rw [s34]
            exact hr.2.1.1.2.2.1
          · refine ⟨fun s hs => ?_, fun q hq => ?_⟩
            · rw [r64]
              by_cases c : s = t
              · subst c
                rw [if_pos rfl]
                refine ⟨by unfold zi; rw [z_T (by omega)]; omega, fun k hk => ?_⟩
                rw [z_T (by omega)] at hk
                rw [r66, if_pos (by omega), show 12 * s + k - 12 * s = k by omega]
                exact (zltk_ok (hv k (by omega))).2.1
              · rw [if_neg c]
                have u1 := (vv.1 s hs).1
                refine ⟨u1, fun k hk => ?_⟩
                unfold zi at u1
                rw [r66, if_neg (by omega)]
                exact (vv.1 s hs).2 k hk
            · rw [g34] at hq
              rw [r63, r65]
              exact vv.2 q hq
      · generalize hg : ai_st (ai_st h 16387 1 0) 128 11 (znf (zMv h) true n) = g0
        have eF : zMv g0 = zMv h := by
          rw [← hg]
          exact zMv_Fx (zFx_st (zFx_st zFx_rf (by decide)) (by decide))
        obtain ⟨h7, q1, q2, q3, q4, q5⟩ := M246 (h := g0) (n := n) (w := true) (d + 57) (by omega)
        rw [eF] at q1 q4
        have g1 : g0.1 2064386 0 = nI (zn (zsl (zMv h) 0) 1) := by rw [← hg, z_ne (by decide), z_ne (by decide)]; exact b1.2.1
        have g48 : g0.1 16128 48 = nI (zg (zMv h) 48) := by rw [← hg, z_ne (by decide), z_ne (by decide)]; exact mn
        refine ⟨-1, g0, h7, HX _ _ ?_, ?_, zR_bad hr (by rw [hg]; exact q2) q3 q4 znf_zi, zK_of (q2.2.trans (by rw [← hg]; rfl))⟩
        · rw [if_neg c2, hg]
        · rw [T248, M195 _ _ g1 (by omega)]
          simp only [z_bi, zb_0]
          rw [if_neg (fun q => q c1), if_neg (by rw [z_lt, z_T (by omega)]; simp only [zl0]; omega), g48, if_pos (by rw [nI_leI (by omega) (by omega)]; exact hn1), show ai_X (d + 59) 246 [.inr (.inr (32, 0, 16128)), .inl (nI n), .inl 1] g0 = _ from q1]
          simp only [z_bi, zb_0]
          rw [if_pos c2]
    · refine ⟨-2, h, h, ?_, ?_, hr, zK_of rfl⟩
      · rw [T111, X52 _ _ hn le]
        simp only [z_bi, zb_0]
        rw [if_pos c0]
      · rw [T248, M195 _ _ b1.2.1 (by omega)]
        simp only [z_bi, zb_0]
        rw [if_neg (fun q => q c1), mn]
        by_cases g : x < 0
        · rw [if_pos g]
        · rw [if_neg g, if_neg]
          rw [z_lt] at g
          rw [z_le, z_T (by omega)]
          simp only [zl0] at g
          omega
  · refine ⟨-2, h, h, ?_, ?_, hr, zK_of rfl⟩
    · rw [T111, X52 _ _ hn le]
      simp only [z_bi, zb_0]
      by_cases c0 : 0 ≤ x.toInt ∧ x.toInt ≤ (zg (zMv h) 48 : Int)
      · rw [if_neg (fun q => q c0), X153 _ _ b1.1 b1.2.2]
        simp only [z_bi, zb_0]
        rw [if_pos c1]
      · rw [if_pos c0]
    · rw [T248, M195 _ _ b1.2.1 (by omega)]
      simp only [z_bi, zb_0]
      rw [if_pos c1]
