/-! THE COUNCIL: settle -/
theorem zcou_ok {h : ai_H} (hv : zVm (zMv h)) : (zcou h).1 ≤ 60000 ∧ (zcou h).2 < 6 ^ zcm h ∧ zcok (zcP h) (zg (zMv h) 33) (zcou h).2 (zcm h) ∧ zcin (zcC h) (zg (zMv h) 33) (zcLf h) (zcou h).2 (zcm h) := by
  have hm := zcm_le (h := h)
  have hC : ∀ k, k < zcm h → zcC h k ≤ 9999 := fun k hk => (zcC_okw hv hk).2.2
  have pp : 0 < 6 ^ zcm h := Nat.pow_pos (by decide)
  have s1 : zcrf (zcC h) (zcP h) (zg (zMv h) 33) (zcm h) (zcLf h) 1 = (zcw (zcC h) 0 (zcm h), 0) := by
    show zstp _ (1073741824, 0) (0 + 0) = _
    unfold zstp
    rw [zcv_00]
    dsimp only
    have := zcv_le (P := zcP h) (T := zg (zMv h) 33) (L := zcLf h) hm hC zcv_00
    rw [if_pos (by omega)]
  have e : zcou h = zfd (zcv (zcC h) (zcP h) (zg (zMv h) 33) (zcm h) (zcLf h)) 1 (6 ^ zcm h - 1) (zcw (zcC h) 0 (zcm h), 0) := by
    rw [← s1]
    have := zfd_add (V := zcv (zcC h) (zcP h) (zg (zMv h) 33) (zcm h) (zcLf h)) (a := 0) (n := 1) (s := (1073741824, 0)) (6 ^ zcm h - 1)
    rw [show 1 + (6 ^ zcm h - 1) = 6 ^ zcm h by omega] at this
    exact this
  have key : ∃ c, (zcou h).2 = c ∧ c < 6 ^ zcm h ∧ zcv (zcC h) (zcP h) (zg (zMv h) 33) (zcm h) (zcLf h) c = some (zcou h).1 := by
    rcases zfd_is (V := zcv (zcC h) (zcP h) (zg (zMv h) 33) (zcm h) (zcLf h)) (a := 1) (s := (zcw (zcC h) 0 (zcm h), 0)) (n := 6 ^ zcm h - 1) with q | ⟨i, h1, h2, h3⟩
    · refine ⟨0, ?_, pp, ?_⟩
      · rw [e, q]
      · rw [e, q]; exact zcv_00
    · refine ⟨1 + i, ?_, by omega, ?_⟩
      · rw [e]; exact h2
      · rw [e]; exact h3
  obtain ⟨c, k1, k2, k3⟩ := key
  have k4 := zcv_le hm hC k3
  rw [k1]
  refine ⟨k4, k2, ?_⟩
  unfold zcv at k3
  split at k3
  · rename_i w
    exact w
  · cases k3
theorem X78 {h : ai_H} {c i : Nat} (d : Nat) (hc : h.1 16388 9 = nI c) (hl : c < 50000) (hi : i < 6) : ai_X (d + 1) 78 [.inr (.inr (29, 0, 16388)), .inl (nI i)] h = some ([.inl (nI (zdg c i) - 1)], h) := by
  have i6 : ∀ f : Nat → Option ai_R, ai_ix (nI i) 6 f = f i := fun f => z_ix (by omega) (by decide)
  have p6 := z_p6 (p := i) (by omega)
  have pp : 0 < 6 ^ i := Nat.pow_pos (by decide)
  have hd : c / 6 ^ i < 50000 := Nat.lt_of_le_of_lt (Nat.div_le_self _ _) hl
  rw [T78, i6, z_pw6 hi, if_neg (nI_ne0 pp (by omega)), if_neg (by decide), hc, nI_div (by omega) (by omega), show (6 : Int32) = nI 6 from rfl, nI_rem (by omega) (by decide)]
  rfl
/-- the class settles -/
theorem X118l {h ha : ai_H} (d : Nat) (hr : zR h) (fa : zF zXS h ha) (a3 : ha.1 16388 3 = nI (zcm h)) (a4 : ha.1 16388 8 = nI (zcou h).1) (a5 : ha.1 16388 9 = nI (zcou h).2) (a6 : ∀ k, k < zcm h → ha.1 2097669 k = nI (zcJ h k) ∧ ha.1 2097670 k = nI (zcC h k)) :
    ∃ hb, ai_E (d + 2) 118 18 [some (.inr (.inr (31, 0, 128))), some (.inl 0), none] [] ha = some ([.inl (nI (zcou h).1)], hb) ∧ hb.2 = ha.2 ∧ (∀ q, q ≠ 2097284 → q ≠ 268452231 → hb.1 q = ha.1 q) ∧ (∀ t, t < zg (zMv h) 33 → hb.1 2097284 t = nI (zcLf h t - zcld (zcC h) (zcou h).2 t (zcm h))) ∧ (∀ k, k < zcm h → hb.1 268452231 (zcJ h k) = 1) ∧ ∀ j, (∀ k, k < zcm h → zcJ h k ≠ j) → hb.1 268452231 j = ha.1 268452231 j := by
  obtain ⟨b0, b1, b2, b8, b5, b4, b3, V⟩ := zR_b hr
  obtain ⟨t1, t2, t3⟩ := zR_tr hr
  obtain ⟨o1, o2, o3, o4⟩ := zcou_ok hr.2.1
  have hm := zcm_le (h := h)
  have p6 := z_p6 hm
  have K : ∀ k i, i + k = zcm h → ∀ g, g.2 = ha.2 → (∀ q, q ≠ 2097284 → q ≠ 268452231 → g.1 q = ha.1 q) → (∀ t, t < zg (zMv h) 33 → g.1 2097284 t = nI (zcLf h t - zcld (zcC h) (zcou h).2 t i)) → (∀ k, k < i → g.1 268452231 (zcJ h k) = 1) → (∀ j, (∀ k, k < i → zcJ h k ≠ j) → g.1 268452231 j = ha.1 268452231 j) → ∀ z, ∃ hb, ai_E (d + 2) 118 18 [some (.inr (.inr (31, 0, 128))), some (.inl (nI i)), z] [] g = some ([.inl (nI (zcou h).1)], hb) ∧ hb.2 = ha.2 ∧ (∀ q, q ≠ 2097284 → q ≠ 268452231 → hb.1 q = ha.1 q) ∧ (∀ t, t < zg (zMv h) 33 → hb.1 2097284 t = nI (zcLf h t - zcld (zcC h) (zcou h).2 t (zcm h))) ∧ (∀ k, k < zcm h → hb.1 268452231 (zcJ h k) = 1) ∧ ∀ j, (∀ k, k < zcm h → zcJ h k ≠ j) → hb.1 268452231 j = ha.1 268452231 j := by
    intro k
    induction k with
    | zero =>
      intro i hi g g2 fg gL gp gn z
      have hi : i = zcm h := by omega
      subst hi
      exact ⟨g, by rw [T118_18, fg 16388 (by decide) (by decide), a3, if_pos (by rw [z_le]; omega), a4], g2, fg, gL, gp, gn⟩
    | succ k ih =>
      intro i hi g g2 fg gL gp gn z
      have ih := ih (i + 1) (by omega)
      have i6 : ∀ f : Nat → Option ai_R, ai_ix (nI i) 6 f = f i := fun f => z_ix (by omega) (by decide)
      obtain ⟨e1, e2⟩ := a6 i (by omega)
      have hJ := zcJ_lt (h := h) (k := i) (by omega)
      have iJ : ∀ f : Nat → Option ai_R, ai_ix (nI (zcJ h i)) 40 f = f (zcJ h i) := fun f => z_ix (by omega) (by decide)
      have hX := X78 (h := g) (c := (zcou h).2) (i := i) (d + 1) (by rw [fg 16388 (by decide) (by decide)]; exact a5) (by omega) (by omega)
      have dl := zdg_lt (c := (zcou h).2) (i := i)
      -- what the paid flags are then
      have Pd : ∀ g' : ai_H, g'.1 268452231 = g.1 268452231 → (∀ k, k < i + 1 → (ai_st g' 268452231 (zcJ h i) 1).1 268452231 (zcJ h k) = 1) ∧ ∀ j, (∀ k, k < i + 1 → zcJ h k ≠ j) → (ai_st g' 268452231 (zcJ h i) 1).1 268452231 j = ha.1 268452231 j := by
        intro g' eg
        refine ⟨fun k hk => ?_, fun j hj => ?_⟩
        · rw [z_st1]
          by_cases e : zcJ h k = zcJ h i
          · rw [if_pos ⟨rfl, e⟩]
          · rw [if_neg (fun c => e c.2), eg]
            by_cases e3 : k = i
            · rw [e3] at e; exact absurd rfl e
            · exact gp k (by omega)
        · rw [z_st1, if_neg (fun c => hj i (by omega) c.2.symm), eg]
          exact gn j (fun k hk => hj k (by omega))
      rw [T118_18, fg 16388 (by decide) (by decide), a3, if_neg (by rw [nI_leI (by omega) (by omega)]; omega), hX]
      simp only [z_bi]
      by_cases d0 : zdg (zcou h).2 i = 0
      · rw [if_pos (by rw [d0]; rfl), i6, fg 2097669 (by decide) (by decide), e1, iJ, nI_1]
        obtain ⟨P1, P2⟩ := Pd g rfl
        refine ih (ai_st g 268452231 (zcJ h i) 1) g2 (fun q n1 n2 => by rw [z_ne n2]; exact fg q n1 n2) (fun t ht => ?_) P1 P2 _
        rw [z_ne (by decide), zcld_S, if_neg (by omega)]
        exact gL t ht
      · obtain ⟨t, ht⟩ : ∃ t, zdg (zcou h).2 i = t + 1 := ⟨zdg (zcou h).2 i - 1, by omega⟩
        have hok := o3 i (by omega)
        have htT : t < zg (zMv h) 33 := by
          rcases hok with q | q
          · omega
          · have := q.1; omega
        have en : nI (zdg (zcou h).2 i) - 1 = nI t := by rw [ht]; exact nI_pred t
        have it : ∀ f : Nat → Option ai_R, ai_ix (nI t) 5 f = f t := fun f => z_ix (by omega) (by decide)
        have hin := o4 t htT
        have hmn := zcld_mono (C := zcC h) (c := (zcou h).2) (tr := t) (k := i + 1) (zcm h - (i + 1))
        rw [show i + 1 + (zcm h - (i + 1)) = zcm h by omega, zcld_S, if_pos ht] at hmn
        rw [en, if_neg (by rw [z_eq, z_T (by omega)]; simp only [zlm1]; omega), it, i6, it, i6, fg 2097670 (by decide) (by decide), e2, gL t htT, pk_sub (by omega), z_ne (by decide), fg 2097669 (by decide) (by decide), e1, iJ, nI_1]
        obtain ⟨P1, P2⟩ := Pd (ai_st g 2097284 t (nI (zcLf h t - zcld (zcC h) (zcou h).2 t i - zcC h i))) (z_ne (by decide))
        refine ih (ai_st (ai_st g 2097284 t (nI (zcLf h t - zcld (zcC h) (zcou h).2 t i - zcC h i))) 268452231 (zcJ h i) 1) g2 (fun q n1 n2 => by rw [z_ne n2, z_ne n1]; exact fg q n1 n2) (fun s hs => ?_) P1 P2 _
        rw [z_ne (by decide), z_st1, zcld_S]
        by_cases e : s = t
        · rw [if_pos ⟨rfl, e⟩, if_pos (by omega), e, Nat.sub_sub]
        · rw [if_neg (fun x => e x.2), if_neg (by omega)]
          exact gL s hs
  refine K (zcm h) 0 (Nat.zero_add _) ha rfl (fun _ _ _ => rfl) (fun t ht => ?_) (fun k hk => absurd hk (Nat.not_lt_zero _)) (fun _ _ => rfl) none
  have h4 := hr.1.1.2.2.2.1 t ht
  have h4 : h.1 2097284 t = zsl (zMv h) 0 21 t := h4
  rw [fa.1 2097284 t (zXS_n (by decide)), h4, (zcL_ok hr ht).1]
  rfl
/-- the reference settles -/
theorem M284l {h hc : ai_H} (d : Nat) (hv : zVm (zMv h)) (fc : zF zMS h hc) (a3 : hc.1 16128 77 = nI (zcm h)) (a4 : hc.1 16128 78 = nI (zcou h).1) (a6 : ∀ k, k < zcm h → hc.1 2064459 k = nI (zcJ h k)) :
    ∃ hb, ai_E (d + 1) 284 20 [some (.inr (.inr (32, 0, 16128))), some (.inl (nI (zcou h).2)), some (.inl 0), none] [] hc = some ([.inl (nI (zcou h).1)], hb) ∧ hb.2 = hc.2 ∧ (∀ q, q ≠ 2064406 → q ≠ 2064403 → hb.1 q = hc.1 q) ∧ (∀ t, t < zg (zMv h) 33 → hb.1 2064406 t = nI (zcLf h t - zcld (zcC h) (zcou h).2 t (zcm h))) ∧ (∀ t, zg (zMv h) 33 ≤ t → hb.1 2064406 t = hc.1 2064406 t) ∧ (∀ k, k < zcm h → hb.1 2064403 (zcJ h k) = 1) ∧ ∀ j, (∀ k, k < zcm h → zcJ h k ≠ j) → hb.1 2064403 j = hc.1 2064403 j := by
  obtain ⟨b1, b5, b4, b3, b33, V⟩ := zm_b hv
  obtain ⟨o1, o2, o3, o4⟩ := zcou_ok hv
  have hm := zcm_le (h := h)
  have p6 := z_p6 hm
  have n6 : ¬ (6 : Int32) = 0 := by decide
  have K : ∀ k i, i + k = zcm h → ∀ g, g.2 = hc.2 → (∀ q, q ≠ 2064406 → q ≠ 2064403 → g.1 q = hc.1 q) → (∀ t, t < zg (zMv h) 33 → g.1 2064406 t = nI (zcLf h t - zcld (zcC h) (zcou h).2 t i)) → (∀ t, zg (zMv h) 33 ≤ t → g.1 2064406 t = hc.1 2064406 t) → (∀ k, k < i → g.1 2064403 (zcJ h k) = 1) → (∀ j, (∀ k, k < i → zcJ h k ≠ j) → g.1 2064403 j = hc.1 2064403 j) → ∀ z, ∃ hb, ai_E (d + 1) 284 20 [some (.inr (.inr (32, 0, 16128))), some (.inl (nI ((zcou h).2 / 6 ^ i))), some (.inl (nI i)), z] [] g = some ([.inl (nI (zcou h).1)], hb) ∧ hb.2 = hc.2 ∧ (∀ q, q ≠ 2064406 → q ≠ 2064403 → hb.1 q = hc.1 q) ∧ (∀ t, t < zg (zMv h) 33 → hb.1 2064406 t = nI (zcLf h t - zcld (zcC h) (zcou h).2 t (zcm h))) ∧ (∀ t, zg (zMv h) 33 ≤ t → hb.1 2064406 t = hc.1 2064406 t) ∧ (∀ k, k < zcm h → hb.1 2064403 (zcJ h k) = 1) ∧ ∀ j, (∀ k, k < zcm h → zcJ h k ≠ j) → hb.1 2064403 j = hc.1 2064403 j := by
    intro k
    induction k with
    | zero =>
      intro i hi g g2 fg gL gT gp gn z
      have hi : i = zcm h := by omega
      subst hi
      exact ⟨g, by rw [T284_20, fg 16128 (by decide) (by decide), a3, if_pos (by rw [z_le]; omega), a4], g2, fg, gL, gT, gp, gn⟩
    | succ k ih =>
      intro i hi g g2 fg gL gT gp gn z
      have ih := ih (i + 1) (by omega)
      have i6 : ∀ f : Nat → Option ai_R, ai_ix (nI i) 6 f = f i := fun f => z_ix (by omega) (by decide)
      have e1 := a6 i (by omega)
      have hJ := zcJ_lt (h := h) (k := i) (by omega)
      have iJ : ∀ f : Nat → Option ai_R, ai_ix (nI (zcJ h i)) 160 f = f (zcJ h i) := fun f => z_ix (by omega) (by decide)
      have dl := zdg_lt (c := (zcou h).2) (i := i)
      have hdl : (zcou h).2 / 6 ^ i < 100000 := Nat.lt_of_le_of_lt (Nat.div_le_self _ _) (by omega)
      have hdg : (zcou h).2 / 6 ^ i % 6 = zdg (zcou h).2 i := rfl
      have er : ai_rem (nI ((zcou h).2 / 6 ^ i)) 6 = nI (zdg (zcou h).2 i) := by rw [show (6 : Int32) = nI 6 from rfl, nI_rem (by omega) (by decide), hdg]
      have ed : nI ((zcou h).2 / 6 ^ i) / 6 = nI ((zcou h).2 / 6 ^ (i + 1)) := by rw [show (6 : Int32) = nI 6 from rfl, nI_div (by omega) (by decide), Nat.div_div_eq_div_mul, ← Nat.pow_succ]
      have m29 : hc.1 2064414 (zcJ h i) = nI (zcC h i) := by
        rw [zM_n fc (zMS_n (by decide) (by decide)), ← (zcC_okw hv (k := i) (by omega)).1]
        exact (zs0 (f := 29) (by omega)).symm
      -- what the paid flags are then
      have Pd : (∀ k, k < i + 1 → (ai_st g 2064403 (zcJ h i) 1).1 2064403 (zcJ h k) = 1) ∧ ∀ j, (∀ k, k < i + 1 → zcJ h k ≠ j) → (ai_st g 2064403 (zcJ h i) 1).1 2064403 j = hc.1 2064403 j := by
        refine ⟨fun k hk => ?_, fun j hj => ?_⟩
        · rw [z_st1]
          by_cases e : zcJ h k = zcJ h i
          · rw [if_pos ⟨rfl, e⟩]
          · rw [if_neg (fun c => e c.2)]
            by_cases e3 : k = i
            · rw [e3] at e; exact absurd rfl e
            · exact gp k (by omega)
        · rw [z_st1, if_neg (fun c => hj i (by omega) c.2.symm)]
          exact gn j (fun k hk => hj k (by omega))
      rw [T284_20, fg 16128 (by decide) (by decide), a3, if_neg (by rw [nI_leI (by omega) (by omega)]; omega), if_neg n6, if_neg n6, i6, fg 2064459 (by decide) (by decide), e1, iJ, er, ed, z_nb1, nI_1]
      by_cases d0 : zdg (zcou h).2 i = 0
      · rw [if_pos (by rw [d0]; decide)]
        refine ih (ai_st g 2064403 (zcJ h i) 1) g2 (fun q n1 n2 => by rw [z_ne n2]; exact fg q n1 n2) (fun t ht => ?_) (fun t ht => by rw [z_ne (by decide)]; exact gT t ht) Pd.1 Pd.2 _
        rw [z_ne (by decide), zcld_S, if_neg (by omega)]
        exact gL t ht
      · obtain ⟨t, ht⟩ : ∃ t, zdg (zcou h).2 i = t + 1 := ⟨zdg (zcou h).2 i - 1, by omega⟩
        have hok := o3 i (by omega)
        have htT : t < zg (zMv h) 33 := by
          rcases hok with q | q
          · omega
          · have := q.1; omega
        have en : nI (zdg (zcou h).2 i) - 1 = nI t := by rw [ht]; exact nI_pred t
        have it : ∀ f : Nat → Option ai_R, ai_ix (nI t) 20 f = f t := fun f => z_ix (by omega) (by decide)
        have hin := o4 t htT
        have hmn := zcld_mono (C := zcC h) (c := (zcou h).2) (tr := t) (k := i + 1) (zcm h - (i + 1))
        rw [show i + 1 + (zcm h - (i + 1)) = zcm h by omega, zcld_S, if_pos ht] at hmn
        have s7 : (ai_st g 2064403 (zcJ h i) 1).1 2064459 i = nI (zcJ h i) := by rw [z_ne (by decide), fg 2064459 (by decide) (by decide)]; exact e1
        have s9 : (ai_st g 2064403 (zcJ h i) 1).1 2064414 (zcJ h i) = nI (zcC h i) := by rw [z_ne (by decide), fg 2064414 (by decide) (by decide)]; exact m29
        have s4 : (ai_st g 2064403 (zcJ h i) 1).1 2064406 t = nI (zcLf h t - zcld (zcC h) (zcou h).2 t i) := by rw [z_ne (by decide)]; exact gL t htT
        rw [en, if_neg (nI_pos (by omega)), it, i6, s7, iJ, it, s4, s9, pk_sub (by omega)]
        refine ih (ai_st (ai_st g 2064403 (zcJ h i) 1) 2064406 t (nI (zcLf h t - zcld (zcC h) (zcou h).2 t i - zcC h i))) g2 (fun q n1 n2 => by rw [z_ne n1, z_ne n2]; exact fg q n1 n2) (fun s hs => ?_) (fun s hs => by rw [z_st1, if_neg (fun c => by omega), z_ne (by decide)]; exact gT s hs) (fun k hk => by rw [z_ne (by decide)]; exact Pd.1 k hk) (fun j hj => by rw [z_ne (by decide)]; exact Pd.2 j hj) _
        rw [z_st1, zcld_S]
        by_cases e : s = t
        · rw [if_pos ⟨rfl, e⟩, if_pos (by omega), e, Nat.sub_sub]
        · rw [if_neg (fun x => e x.2), if_neg (by omega), z_ne (by decide)]
          exact gL s hs
  have e0 : (zcou h).2 / 6 ^ 0 = (zcou h).2 := Nat.div_one _
  have := K (zcm h) 0 (Nat.zero_add _) hc rfl (fun _ _ _ => rfl) (fun t ht => by
    rw [zM_n fc (zMS_n (by decide) (by decide))]
    have e21 : h.1 2064406 t = zsl (zMv h) 0 21 t := (zs0 (f := 21) (by omega)).symm
    rw [e21, (zcL_okw hv ht).1]
    rfl) (fun _ _ => rfl) (fun k hk => absurd hk (Nat.not_lt_zero _)) (fun _ _ => rfl) none
  rw [e0] at this
  exact this
