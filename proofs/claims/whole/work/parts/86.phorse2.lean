/-! WAYS: the horse, both sides -/
theorem M293_s {h g0 : ai_H} {x kn a : Int32} {s n : Nat} (d : Nat) (hr : zR h) (hn : zn (zsl (zMv h) 0) 1 = n) (hs : s ≤ 30) (ha : zi a 0 255) (f0 : zF zMS h g0) (x2 x3' : Int32) (z8 z9 : Option ai_V) (h0 : ∀ v, v < n → g0.1 2064456 v = zb (zrn h x kn v)) : ∀ j t, t + j = n → ∀ g, zF zMS h g → (∀ v, v < n → g.1 2064456 v = if v < t then zb (zhR h x kn v = true) else zb (zrn h x kn v)) → (∀ v, v < t → g.1 2064469 v = if zhA h x kn a s v = true then 1 else -1) → ∃ g', ai_E (d + 2) 293 69 [some (.inr (.inr (32, 0, 16128))), some (.inl a), some (.inl x2), some (.inl (nI s)), some (.inl x), some (.inl kn), some (.inl (nI n)), some (.inl (nI t)), z8, z9] [] g = ai_E (d + 2) 293 142 [some (.inr (.inr (32, 0, 16128))), some (.inl a), some (.inl x2), some (.inl (nI s)), some (.inl x), some (.inl kn), some (.inl (nI n)), some (.inl 1), z8, z9] [] g' ∧ zF zMS h g' ∧ (∀ v, v < n → g'.1 2064456 v = zb (zhR h x kn v = true)) ∧ ∀ v, v < n → g'.1 2064469 v = if zhA h x kn a s v = true then 1 else -1 := by
  obtain ⟨b0, b1, b2, b8, b5, b4, b3, V⟩ := zR_b hr
  rw [hn] at b1
  have hl : n ≤ 24 := b1.2.2
  intro j
  induction j with
  | zero =>
    intro t hj g fg gr gd
    have hj : t = n := by omega
    subst hj
    refine ⟨g, ?_, fg, fun v hv => by rw [gr v hv, if_pos hv], gd⟩
    rw [T293_69, if_pos (by rw [z_le]; omega)]
  | succ j ih =>
    intro t hj g fg gr gd
    have i24 : ∀ f : Nat → Option ai_R, ai_ix (nI t) 24 f = f t := fun f => z_ix (by omega) (by decide)
    have i96 : ∀ f : Nat → Option ai_R, ai_ix (nI t) 96 f = f t := fun f => z_ix (by omega) (by decide)
    have hrg := zR_m hr fg
    have eVg := zMv_m fg
    have hM := M223 (t := t) d x kn hrg (by omega)
    rw [eVg] at hM
    have gt := gr t (by omega)
    rw [if_neg (by omega)] at gt
    have eR : zb (zrn h x kn t ∧ ztr (zsl (zMv h) 0) t x kn) = zb (zhR h x kn t = true) := zb_c (by unfold zhR; rw [decide_eq_true_iff])
    rw [T293_69, if_neg (by rw [nI_leI (by omega) (by omega)]; omega), i24, hM]
    simp only [z_bi, nI_1]
    rw [gt, z_nand, eR]
    simp only [i24]
    rw [z_stS]
    -- behind it
    have go : ∀ w : Int32, w = (if zhA h x kn a s t = true then 1 else -1) → ∃ g', ai_E (d + 2) 293 69 [some (.inr (.inr (32, 0, 16128))), some (.inl a), some (.inl x2), some (.inl (nI s)), some (.inl x), some (.inl kn), some (.inl (nI n)), some (.inl (nI (t + 1))), z8, z9] [] (ai_st (ai_st g 2064456 t (zb (zhR h x kn t = true))) 2064469 t w) = ai_E (d + 2) 293 142 [some (.inr (.inr (32, 0, 16128))), some (.inl a), some (.inl x2), some (.inl (nI s)), some (.inl x), some (.inl kn), some (.inl (nI n)), some (.inl 1), z8, z9] [] g' ∧ zF zMS h g' ∧ (∀ v, v < n → g'.1 2064456 v = zb (zhR h x kn v = true)) ∧ ∀ v, v < n → g'.1 2064469 v = if zhA h x kn a s v = true then 1 else -1 := fun w hw => by
      refine ih (t + 1) (by omega) _ (zF_st (zF_st fg (Or.inr ⟨by omega, by omega, by omega⟩)) (Or.inr ⟨by omega, by omega, by omega⟩)) (fun v hv => ?_) (fun v hv => ?_)
      · rw [z_ne (by decide), z_st1]
        by_cases e : v = t
        · subst e
          rw [if_pos ⟨rfl, rfl⟩, if_pos (show v < v + 1 by omega)]
        · rw [if_neg (fun q => e q.2), gr v hv]
          by_cases e2 : v < t
          · rw [if_pos e2, if_pos (show v < t + 1 by omega)]
          · rw [if_neg e2, if_neg (show ¬ v < t + 1 by omega)]
      · rw [z_st1]
        by_cases e : v = t
        · subst e
          rw [if_pos ⟨rfl, rfl⟩, hw]
        · rw [if_neg (fun q => e q.2), z_ne (by decide)]
          exact gd v (by omega)
    by_cases c1 : zhR h x kn t = true
    · obtain ⟨et, vt⟩ := zC_t hr (t := t) (by omega)
      have mt : (ai_st g 2064456 t (zb (zhR h x kn t = true))).1 2064397 t = zsl (zMv h) 0 12 t := by rw [z_ne (by decide), zM_n fg (zMS_n (by decide) (by decide))]; exact (zs0 (f := 12) (by omega)).symm
      rw [if_neg (fun q => zb_0.mp q c1), i96, mt, M190 _ _ ha vt]
      simp only [z_bi]
      by_cases c2 : zds a (zsl (zMv h) 0 12 t) ≤ s
      · rw [if_neg (by rw [nI_ltI (by omega) (by have := zds_le ha vt; omega)]; omega)]
        refine go 1 ?_
        unfold zhA
        rw [c1, decide_eq_true c2]
        rfl
      · rw [if_pos (by rw [nI_ltI (by omega) (by have := zds_le ha vt; omega)]; omega)]
        refine go (-1) ?_
        unfold zhA
        rw [decide_eq_false c2, Bool.and_false]
        rfl
    · rw [if_pos (zb_0.mpr c1)]
      refine go (-1) ?_
      unfold zhA
      rw [zbF c1, Bool.false_and]
      rfl
theorem zf_fst {p : Nat → Prop} [DecidablePred p] {n m : Nat} (h : n ≤ m) (hp : ∀ k, n ≤ k → ¬ p k) : zf p 0 m = zf p 0 n := by
  have e : zfst p m = zfst p n := by
    cases c : zfst p n with
    | none =>
      refine zfst_no fun k hk => ?_
      by_cases q : k < n
      · exact zfst_none c k q
      · exact hp k (by omega)
    | some j =>
      obtain ⟨a, b, c⟩ := zfst_some c
      exact zfst_is (by omega) a c
  exact e
theorem P_horse (x1 x2 x3 x4 x5 : Int32) : zPr 130 293 [.inl x1, .inl x2, .inl x3, .inl x4, .inl x5] := zPr_q fun d h hr => by
  obtain ⟨b0, b1, b2, b8, b5, b4, b3, V⟩ := zR_b hr
  have i0 : ∀ f : Nat → Option ai_R, ai_ix 0 4 f = f 0 := fun f => z_i0 (by decide) (by decide)
  by_cases c1 : 0 ≤ x1.toInt ∧ x1.toInt ≤ 255
  · by_cases c2 : 0 ≤ x2.toInt ∧ x2.toInt ≤ 255
    · by_cases c3 : 0 ≤ x3.toInt ∧ x3.toInt ≤ 30
      · by_cases c4 : 0 ≤ x4.toInt ∧ x4.toInt ≤ 999
        · by_cases c5 : 0 ≤ x5.toInt ∧ x5.toInt ≤ 999
          · obtain ⟨s, hs, rfl⟩ := z_rngI c3
            have hs : s ≤ 30 := by omega
            have l12 := zds_le (a := x1) (b := x2) c1 c2
            by_cases c0 : zds x1 x2 ≤ s
            · have n0 : ¬ nI s < nI (zds x1 x2) := by rw [nI_ltI (by omega) (by omega)]; omega
              refine ⟨0, h, h, ?_, zF_rf, ?_, zF_rf⟩
              · rw [T130, X148]
                simp only [z_bi, zb_0]
                rw [if_neg (fun q => q c1), X148]
                simp only [z_bi, zb_0]
                rw [if_neg (fun q => q c2), X149]
                simp only [z_bi, zb_0]
                rw [if_neg (fun q => q ⟨c3, c4, c5⟩), X162 _ _ c1 c2]
                simp only [z_bi]
                rw [if_neg n0]
              · rw [T293, M188]
                simp only [z_bi, zb_0]
                rw [if_neg (fun q => q c1), M188]
                simp only [z_bi, zb_0]
                rw [if_neg (fun q => q c2), M261]
                simp only [z_bi, zb_0]
                rw [if_neg (fun q => q c3), M187]
                simp only [z_bi, zb_0]
                rw [if_neg (fun q => q c4), M187]
                simp only [z_bi, zb_0]
                rw [if_neg (fun q => q c5), M190 _ _ c1 c2]
                simp only [z_bi]
                rw [if_neg n0]
            · have n0 : nI s < nI (zds x1 x2) := by rw [nI_ltI (by omega) (by omega)]; omega
              obtain ⟨n, hn⟩ : ∃ n, zn (zsl (zMv h) 0) 1 = n := ⟨_, rfl⟩
              rw [hn] at b1
              have hl : n ≤ 24 := b1.2.2
              obtain ⟨h1, a1, a2⟩ := X170r (d + 52) x4 x5 hr
              have hr1 := zR_x hr a2
              have eV := zMv_x a2
              have hn1 : zn (zsl (zMv h1) 0) 1 = n := by rw [eV, hn]
              have hX := X167 (d + 57) x4 x5 hr1
              rw [eV, hn] at hX
              rw [hn] at a1
              have eR : zB (fun t => zrn h x4 x5 t ∧ ztr (zsl (zMv h) 0) t x4 x5) n = zB (fun t => zhR h x4 x5 t = true) n := zB_c fun t _ => by unfold zhR; rw [decide_eq_true_iff]
              have hF := X7 (p := fun t => zhR h x4 x5 t = true) (s := s) (c := x1) (d + 57) hr1 c1 hs
              have hT := X7 (p := fun t => zhR h x4 x5 t = true) (s := s) (c := x2) (d + 57) hr1 c2 hs
              rw [eV, hn] at hF hT
              have hA : ∀ t, zhA h x4 x5 x1 s t = true → zhR h x4 x5 t = true := fun t q => by
                unfold zhA at q
                rw [Bool.and_eq_true] at q
                exact q.1
              have eF : zB (fun t => zhR h x4 x5 t = true ∧ zds x1 (zsl (zMv h) 0 12 t) ≤ s) n = zB (fun t => (zhw (zhR h x4 x5) (zhN h1 s) (zhA h x4 x5 x1 s) n 0).2 t = true) n := zB_c fun t _ => by
                show _ ↔ zhA h x4 x5 x1 s t = true
                unfold zhA
                rw [Bool.and_eq_true, decide_eq_true_iff]
              have eT : zB (fun t => zhR h x4 x5 t = true ∧ zds x2 (zsl (zMv h) 0 12 t) ≤ s) n = zB (fun t => zhR h x4 x5 t = true ∧ zhG h x2 s t = true) n := zB_c fun t _ => by
                unfold zhG
                rw [decide_eq_true_iff, zds_sym]
              have e0 : zB (fun t => zhR h x4 x5 t = true) n = zB (fun t => zhR h x4 x5 t = true ∧ ¬ (zhw (zhR h x4 x5) (zhN h1 s) (zhA h x4 x5 x1 s) n 0).1 t = true) n := zB_c fun t _ => ⟨fun q => ⟨q, Bool.false_ne_true⟩, fun q => q.1⟩
              have hK := X130l (R := zhR h x4 x5) (A := zhA h x4 x5 x1 s) (G := zhG h x2 s) (s := s) (n := n) (d + 56) hr1 hn1 hs hA 24 0 (by omega) (some (.inl x1)) (some (.inl x2)) (some (.inl x4)) (some (.inl x5))
              have eN : zhN h1 s = zhN h s := funext fun t => funext fun u => zhN_V eV
              obtain ⟨h2, q1, q2, q3⟩ := M259 (d + 53) x4 x5 hr1 c4 c5
              have q3' : ∀ v, v < n → h2.1 2064456 v = zb (zrn h x4 x5 v) := fun v hv => by rw [q3 v (by rw [hn1]; exact hv)]; unfold zrn; rw [zdry_V eV, eV]
              have q3'' : ∀ v, v < n → h2.1 2064456 v = zb (zrn h1 x4 x5 v) := fun v hv => by rw [q3 v (by rw [hn1]; exact hv)]
              have m1 : h2.1 2064386 0 = nI n := by
                rw [zM_n q2 (zMS_n (by decide) (by decide)), a2.1 _ _ (fun q => by have := zXS_r q; revert this; decide)]
                exact b1.2.1
              have eR1 : zhR h1 x4 x5 = zhR h x4 x5 := funext fun t => by unfold zhR zrn; rw [zdry_V eV, eV]
              have eA1 : zhA h1 x4 x5 x1 s = zhA h x4 x5 x1 s := funext fun t => by unfold zhA; rw [eR1, eV]
              have eG1 : zhG h1 x2 s = zhG h x2 s := funext fun t => by unfold zhG; rw [eV]
              obtain ⟨g1, w1, w2, w3, w4⟩ := M293_s (h := h1) (g0 := h2) (x := x4) (kn := x5) (a := x1) (s := s) (n := n) (d + 57) hr1 hn1 hs c1 q2 x2 x2 none none q3'' n 0 (Nat.zero_add _) h2 q2 (fun v hv => by rw [if_neg (by omega)]; exact q3'' v hv) (fun v hv => absurd hv (Nat.not_lt_zero _))
              rw [eR1] at w3
              rw [eA1] at w4
              have gI : zhI g1 (zhR h x4 x5) (zhN h1 s) (zhA h x4 x5 x1 s) n 0 := fun t ht => by
                have e1 : (zhw (zhR h x4 x5) (zhN h1 s) (zhA h x4 x5 x1 s) n 0).2 t = zhA h x4 x5 x1 s t := rfl
                have e2 : (zhw (zhR h x4 x5) (zhN h1 s) (zhA h x4 x5 x1 s) n 0).1 t = false := rfl
                rw [e1, e2, w4 t ht, Bool.false_or]
                by_cases c : zhA h x4 x5 x1 s t = true
                · rw [if_pos c, c]
                  decide
                · rw [if_neg c, zbF c]
                  decide
              obtain ⟨g2, y1, y2⟩ := M293_l (h := h1) (R := zhR h x4 x5) (A := zhA h x4 x5 x1 s) (s := s) (n := n) (b := x2) (d + 57) hr1 hn1 hs c2 (some (.inl x1)) (some (.inl x4)) (some (.inl x5)) n 0 (Nat.zero_add _) g1 none none w2 w3 gI
              rw [eG1] at y1
              refine ⟨zhv (zf (zhp (zhR h x4 x5) (zhN h1 s) (zhA h x4 x5 x1 s) (zhG h x2 s) n) 0 24), h1, g2, ?_, a2, ?_, y2⟩
              · rw [T130, X148]
                simp only [z_bi, zb_0]
                rw [if_neg (fun q => q c1), X148]
                simp only [z_bi, zb_0]
                rw [if_neg (fun q => q c2), X149]
                simp only [z_bi, zb_0]
                rw [if_neg (fun q => q ⟨c3, c4, c5⟩), X162 _ _ c1 c2]
                simp only [z_bi]
                rw [if_pos n0, a1]
                simp only [z_bi]
                rw [hX]
                simp only [z_bi]
                rw [zB_and2, eR, hF]
                simp only [z_bi]
                rw [hT]
                simp only [z_bi]
                rw [eF, eT, e0]
                exact hK
              · rw [T293, M188]
                simp only [z_bi, zb_0]
                rw [if_neg (fun q => q c1), M188]
                simp only [z_bi, zb_0]
                rw [if_neg (fun q => q c2), M261]
                simp only [z_bi, zb_0]
                rw [if_neg (fun q => q c3), M187]
                simp only [z_bi, zb_0]
                rw [if_neg (fun q => q c4), M187]
                simp only [z_bi, zb_0]
                rw [if_neg (fun q => q c5), M190 _ _ c1 c2]
                simp only [z_bi]
                rw [if_pos n0, q1]
                simp only [z_bv, i0]
                rw [m1, show (0 : Int32) = nI 0 from rfl, w1]
                refine y1.trans ?_
                rw [zf_fst (p := zhp (zhR h x4 x5) (zhN h1 s) (zhA h x4 x5 x1 s) (zhG h x2 s) n) hl (fun k hk c => by
                  obtain ⟨t, t1, t2⟩ := zex_iff.mp c
                  rw [Bool.and_eq_true] at t2
                  have := zhw_lt hA k t t1 t2.1
                  omega)]
          · refine ⟨-1, h, h, ?_, zF_rf, ?_, zF_rf⟩
            · rw [T130, X148]
              simp only [z_bi, zb_0]
              rw [if_neg (fun q => q c1), X148]
              simp only [z_bi, zb_0]
              rw [if_neg (fun q => q c2), X149]
              simp only [z_bi, zb_0]
              rw [if_pos (fun q => c5 q.2.2)]
            · rw [T293, M188]
              simp only [z_bi, zb_0]
              rw [if_neg (fun q => q c1), M188]
              simp only [z_bi, zb_0]
              rw [if_neg (fun q => q c2), M261]
              simp only [z_bi, zb_0]
              rw [if_neg (fun q => q c3), M187]
              simp only [z_bi, zb_0]
              rw [if_neg (fun q => q c4), M187]
              simp only [z_bi, zb_0]
              rw [if_pos c5]
        · refine ⟨-1, h, h, ?_, zF_rf, ?_, zF_rf⟩
          · rw [T130, X148]
            simp only [z_bi, zb_0]
            rw [if_neg (fun q => q c1), X148]
            simp only [z_bi, zb_0]
            rw [if_neg (fun q => q c2), X149]
            simp only [z_bi, zb_0]
            rw [if_pos (fun q => c4 q.2.1)]
          · rw [T293, M188]
            simp only [z_bi, zb_0]
            rw [if_neg (fun q => q c1), M188]
            simp only [z_bi, zb_0]
            rw [if_neg (fun q => q c2), M261]
            simp only [z_bi, zb_0]
            rw [if_neg (fun q => q c3), M187]
            simp only [z_bi, zb_0]
            rw [if_pos c4]
      · refine ⟨-1, h, h, ?_, zF_rf, ?_, zF_rf⟩
        · rw [T130, X148]
          simp only [z_bi, zb_0]
          rw [if_neg (fun q => q c1), X148]
          simp only [z_bi, zb_0]
          rw [if_neg (fun q => q c2), X149]
          simp only [z_bi, zb_0]
          rw [if_pos (fun q => c3 q.1)]
        · rw [T293, M188]
          simp only [z_bi, zb_0]
          rw [if_neg (fun q => q c1), M188]
          simp only [z_bi, zb_0]
          rw [if_neg (fun q => q c2), M261]
          simp only [z_bi, zb_0]
          rw [if_pos c3]
    · refine ⟨-1, h, h, ?_, zF_rf, ?_, zF_rf⟩
      · rw [T130, X148]
        simp only [z_bi, zb_0]
        rw [if_neg (fun q => q c1), X148]
        simp only [z_bi, zb_0]
        rw [if_pos c2]
      · rw [T293, M188]
        simp only [z_bi, zb_0]
        rw [if_neg (fun q => q c1), M188]
        simp only [z_bi, zb_0]
        rw [if_pos c2]
  · refine ⟨-1, h, h, ?_, zF_rf, ?_, zF_rf⟩
    · rw [T130, X148]
      simp only [z_bi, zb_0]
      rw [if_pos c1]
    · rw [T293, M188]
      simp only [z_bi, zb_0]
      rw [if_pos c1]
