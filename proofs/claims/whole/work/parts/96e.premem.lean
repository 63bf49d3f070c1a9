/-! NAMES REMEMBERED: could, remembers -/
theorem M254 {h g : ai_H} {tap o : Nat} (d : Nat) (hr : zR h) (fg : zF zMS h g) (htap : tap < zn (zsl (zMv h) 0) 1) (ho : o < zg (zMv h) 34) : ∃ v g', ai_X (d + 5) 254 [.inr (.inr (32, 0, 16128)), .inl (nI tap), .inl (nI o)] g = some ([.inl v], g') ∧ zF zMS h g' ∧ (v = 0 ∨ v = 1) ∧ (v = 1 ↔ zway (zfit (zMv h)) (zPw (zMv h) tap) (zg (zMv h) 34) (zn (zsl (zMv h) 0) 1) o) := by
  obtain ⟨b0, b1, b2, b8, b5, b4, b3, V⟩ := zR_b hr
  obtain ⟨n1, n2, n3, n4⟩ := zR_nm hr
  obtain ⟨n, hn⟩ : ∃ n, zn (zsl (zMv h) 0) 1 = n := ⟨_, rfl⟩
  obtain ⟨D, hD⟩ : ∃ D, zg (zMv h) 34 = D := ⟨_, rfl⟩
  rw [hn] at b1 htap ⊢
  rw [hD] at n2 n3 ho ⊢
  have hn24 : n ≤ 24 := b1.2.2
  have s34 : ∀ g2, zF zMS h g2 → g2.1 16128 34 = nI D := fun g2 f2 => by rw [zM_n f2 (by unfold zMS; omega)]; exact n2
  have m1 : ∀ {j : Nat}, zMS 2064453 j := fun {j} => Or.inr ⟨by omega, by omega, by omega⟩
  have L1 : ∀ q e, e + q = D → ∀ g2, zF zMS h g2 → (∀ i, i < e → g2.1 2064453 i = -1) → ∃ g', ai_E (d + 4) 254 2 [some (.inr (.inr (32, 0, 16128))), some (.inl (nI tap)), some (.inl (nI o)), some (.inl (nI e))] [] g2 = ai_E (d + 4) 254 36 [some (.inr (.inr (32, 0, 16128))), some (.inl (nI tap)), some (.inl (nI o)), some (.inl 0)] [] g' ∧ zF zMS h g' ∧ zga7 g' D (zpt (fun _ => none) o tap) := by
    intro q
    induction q with
    | zero =>
      intro e he g2 f2 gB
      have he : e = D := by omega
      subst he
      refine ⟨ai_st g2 2064453 o (nI tap), ?_, zF_st f2 m1, fun i hi => ?_⟩
      · rw [T254_2, s34 g2 f2, if_pos (by rw [z_le]; omega), if_neg (by rw [z_lt, z_T (by omega)]; simp only [zl0]; omega), z_ix (by omega) (by decide)]
      · rw [z_st1]
        by_cases c : i = o
        · subst c; rw [if_pos ⟨rfl, rfl⟩, zpt_s]; rfl
        · rw [if_neg (fun q => c q.2), zpt_o c]; exact gB i hi
    | succ q ih =>
      intro e he g2 f2 gB
      rw [T254_2, s34 g2 f2, if_neg (by rw [nI_leI (by omega) (by omega)]; omega), z_ix (by omega) (by decide), nI_1]
      refine ih (e + 1) (by omega) _ (zF_st f2 m1) fun i hi => ?_
      rw [z_st1]
      by_cases c : i = e
      · rw [if_pos ⟨rfl, c⟩]
      · rw [if_neg (fun q => c q.2)]; exact gB i (by omega)
  have K : ∀ k t, t + k = n → ∀ (g2 : ai_H) (M : Nat → Option Nat), zF zMS h g2 → zga7 g2 D (zpt M o tap) → zmat M (zfit (zMv h)) (zPw (zMv h) tap) D o t → ∃ v g', ai_E (d + 4) 254 36 [some (.inr (.inr (32, 0, 16128))), some (.inl (nI tap)), some (.inl (nI o)), some (.inl (nI t))] [] g2 = some ([.inl v], g') ∧ zF zMS h g' ∧ (v = 0 ∨ v = 1) ∧ (v = 1 ↔ zway (zfit (zMv h)) (zPw (zMv h) tap) D n o) := by
    intro k
    induction k with
    | zero =>
      intro t hk g2 M f2 gG mg
      have hk : t = n := by omega
      subst hk
      refine ⟨1, g2, ?_, f2, Or.inr rfl, ⟨fun _ => zmat_way mg, fun _ => rfl⟩⟩
      rw [T254_36, z_i0 (by decide) (by decide), zM_n f2 (zMS_n (by decide) (by decide)), b1.2.1, if_pos (by rw [z_le]; omega), z_b1]
    | succ k ih =>
      intro t hk g2 M f2 gG mg
      have ih := ih (t + 1) (by omega)
      have hr2 := zR_m hr f2
      have eV := zMv_m f2
      have h250 := M250 (d + 2) (nI t) hr2
      rw [eV, hn, z_T (by omega), show ((t : Int)).toNat = t from Int.toNat_natCast t] at h250
      rw [T254_36, z_i0 (by decide) (by decide), zM_n f2 (zMS_n (by decide) (by decide)), b1.2.1, if_neg (by rw [nI_leI (by omega) (by omega)]; omega), h250]
      simp only [z_bi, zb_0, nI_1]
      by_cases cw : 0 < ((zMv h).1 64 t).toInt
      · rw [if_neg (fun q => q ⟨⟨by omega, by omega⟩, cw⟩)]
        by_cases ct : t = tap
        · rw [if_pos (by rw [ct])]
          exact ih g2 M f2 gG (zmat_n mg fun p => p.1 ct)
        · have hP : zPw (zMv h) tap t := ⟨ct, cw⟩
          obtain ⟨v, g', w1, w2, w3⟩ := M252 (h := h) (g := g2) (M := M) (tap := tap) (t := t) (o := o) (D := D) (d + 1) hr f2 hD (by omega) (by omega) ho mg hP gG
          rw [if_neg (by rw [nI_eq (by omega) (by omega)]; exact ct), if_pos (by rw [z_le, z_T (by omega)]; simp only [zl0]; omega), w1]
          simp only [z_bi]
          rcases w3 with ⟨v0, nW⟩ | ⟨v1, M', mg', gG'⟩
          · rw [if_pos v0, z_b0]
            rw [hn] at nW
            exact ⟨0, g', rfl, w2, Or.inl rfl, ⟨fun e => absurd e (by decide), fun W => absurd W nW⟩⟩
          · rw [if_neg (by rw [v1]; decide)]
            exact ih g' M' w2 gG' mg'
      · rw [if_pos (fun q => cw q.2)]
        exact ih g2 M f2 gG (zmat_n mg fun p => cw p.2)
  obtain ⟨g1, w1, w2, w3⟩ := L1 D 0 (Nat.zero_add _) g fg (fun i hi => absurd hi (Nat.not_lt_zero _))
  obtain ⟨v, g2, y1, y2⟩ := K n 0 (Nat.zero_add _) g1 _ w2 w3 zmat_0
  refine ⟨v, g2, ?_, y2⟩
  rw [T254]
  exact w1.trans y1
abbrev zcdP (μ : zMu) (n tap q : Nat) : Prop := zfit μ tap q = true ∧ zway (zfit μ) (zPw μ tap) (zg μ 34) n q
theorem M255 {h g : ai_H} {tap o : Nat} (d : Nat) (hr : zR h) (fg : zF zMS h g) (htap : tap < zn (zsl (zMv h) 0) 1) (ho : o < zg (zMv h) 34) : ∃ v g', ai_X (d + 6) 255 [.inr (.inr (32, 0, 16128)), .inl (nI tap), .inl (nI o)] g = some ([.inl v], g') ∧ zF zMS h g' ∧ (v = 0 ∨ v = 1) ∧ (v = 1 ↔ zcdP (zMv h) (zn (zsl (zMv h) 0) 1) tap o) := by
  obtain ⟨b0, b1, b2, b8, b5, b4, b3, V⟩ := zR_b hr
  obtain ⟨n1, n2, n3, n4⟩ := zR_nm hr
  have hn24 := b1.2.2
  have eV := zMv_m fg
  have h249 := M249 (g := g) (t := tap) (q := o) (d + 4) (by omega) (by omega) (by rw [eV]; exact (n4 tap (by omega)).2.2.1)
  rw [eV] at h249
  rw [T255, h249]
  simp only [z_bi, zb_0]
  by_cases c : zfit (zMv h) tap o = true
  · obtain ⟨v, g', w1, w2, w3, w4⟩ := M254 d hr fg htap ho
    rw [if_neg (fun q => q c), w1]
    simp only [z_bi]
    rcases w3 with e | e
    · rw [if_pos e, z_b0]
      exact ⟨0, g', rfl, w2, Or.inl rfl, ⟨fun q => absurd q (by decide), fun q => by have := w4.mpr q.2; rw [e] at this; exact absurd this (by decide)⟩⟩
    · rw [if_neg (by rw [e]; decide), z_b1]
      exact ⟨1, g', rfl, w2, Or.inr rfl, ⟨fun _ => ⟨c, w4.mp e⟩, fun _ => rfl⟩⟩
  · rw [if_pos c, z_b0]
    exact ⟨0, g, rfl, fg, Or.inl rfl, ⟨fun q => absurd q (by decide), fun q => absurd q.1 c⟩⟩
theorem P_could (x y : Int32) : zPr 133 256 [.inl x, .inl y] := zPr_q fun d h hr => by
  obtain ⟨b0, b1, b2, b8, b5, b4, b3, V⟩ := zR_b hr
  obtain ⟨n1, n2, n3, n4⟩ := zR_nm hr
  have hn24 := b1.2.2
  have l01 : (0 : Int32).toInt = 0 := rfl
  have eD1 : (nI (zg (zMv h) 34) - 1).toInt = (zg (zMv h) 34 : Int) - 1 := by
    rw [z_sub] <;> rw [z_T (by omega)] <;> simp only [zl1] <;> omega
  by_cases c1 : (0 ≤ x.toInt ∧ x.toInt < (zn (zsl (zMv h) 0) 1 : Int)) ∧ 0 < ((zMv h).1 64 x.toInt.toNat).toInt
  · by_cases c2 : 0 ≤ y.toInt ∧ y.toInt < (zg (zMv h) 34 : Int)
    · obtain ⟨t, ht, rfl⟩ := z_rng c1.1
      obtain ⟨o, ho, rfl⟩ := z_rng c2
      obtain ⟨v, h1, a1, a2, a3, a4⟩ := X48 (d + 36) hr ht ho
      have a1 : ai_X (d + 59) 48 [.inr (.inr (26, 0, 16389)), .inl (nI t), .inl (nI o), .inl (nI (zn (zsl (zMv h) 0) 1))] h = some ([.inl v], h1) := a1
      have hr1 := zR_x hr a2
      have eV := zMv_x a2
      obtain ⟨v', h2, q1, q2, q3, q4⟩ := M255 (h := h1) (g := h1) (tap := t) (o := o) (d + 53) hr1 zF_rf (by rw [eV]; exact ht) (by rw [eV]; exact ho)
      rw [eV] at q4
      have ev : v' = v := by
        rcases a3 with e | e
        · rcases q3 with e' | e'
          · rw [e, e']
          · have := a4.mpr (q4.mp e'); rw [e] at this; exact absurd this (by decide)
        · rcases q3 with e' | e'
          · have := q4.mpr (a4.mp e); rw [e'] at this; exact absurd this (by decide)
          · rw [e, e']
      rw [ev] at q1
      have hM250 := M250 (d + 57) (nI t) hr1
      rw [eV] at hM250
      have e34 : h1.1 16128 34 = nI (zg (zMv h) 34) := by rw [a2.1 _ _ (fun q => by have := zXS_r q; revert this; decide)]; exact n2
      refine ⟨v, h1, h2, ?_, a2, ?_, q2⟩
      · rw [T133, X157 _ _ hr]
        simp only [z_bi, zb_0]
        rw [if_neg (fun q => q c1), X146c (n := zg (zMv h) 34) _ _ _ _ n1 (by omega)]
        simp only [z_bi, zb_0]
        rw [if_neg (fun q => q c2), b1.1, a1]
        simp only [z_bi]
        rcases a3 with e | e
        · rw [if_pos e, e]
        · rw [if_neg (by rw [e]; decide), e]
      · rw [T256, hM250]
        simp only [z_bi, zb_0]
        rw [if_neg (fun q => q c1), M186]
        simp only [z_bi, zb_0, l01]
        rw [e34, eD1, if_neg (fun q => q ⟨c2.1, by omega⟩), q1]
        simp only [z_bi]
        rcases a3 with e | e
        · rw [if_pos e, e]
        · rw [if_neg (by rw [e]; decide), e]
    · refine ⟨-1, h, h, ?_, zF_rf, ?_, zF_rf⟩
      · rw [T133, X157 _ _ hr]
        simp only [z_bi, zb_0]
        rw [if_neg (fun q => q c1), X146c (n := zg (zMv h) 34) _ _ _ _ n1 (by omega)]
        simp only [z_bi, zb_0]
        rw [if_pos c2]
      · rw [T256, M250 (d + 57) x hr]
        simp only [z_bi, zb_0]
        rw [if_neg (fun q => q c1), M186]
        simp only [z_bi, zb_0, l01]
        rw [n2, eD1, if_pos (fun q => c2 ⟨q.1, by omega⟩)]
  · refine ⟨-1, h, h, ?_, zF_rf, ?_, zF_rf⟩
    · rw [T133, X157 _ _ hr]
      simp only [z_bi, zb_0]
      rw [if_pos c1]
    · rw [T256, M250 (d + 57) x hr]
      simp only [z_bi, zb_0]
      rw [if_pos c1]
/-- the last that could -/
def zlz : Option Nat → Int32
  | none => -2
  | some e => nI e
theorem P_remembers (x : Int32) : zPr 134 257 [.inl x] := zPr_q fun d h hr => by
  obtain ⟨b0, b1, b2, b8, b5, b4, b3, V⟩ := zR_b hr
  obtain ⟨n1, n2, n3, n4⟩ := zR_nm hr
  have hn24 := b1.2.2
  by_cases c1 : (0 ≤ x.toInt ∧ x.toInt < (zn (zsl (zMv h) 0) 1 : Int)) ∧ 0 < ((zMv h).1 64 x.toInt.toNat).toInt
  · obtain ⟨t, ht, rfl⟩ := z_rng c1.1
    obtain ⟨D, hD⟩ : ∃ D, zg (zMv h) 34 = D := ⟨_, rfl⟩
    rw [hD] at n1 n2 n3
    have hdec : DecidablePred (fun q => zcdP (zMv h) (zn (zsl (zMv h) 0) 1) t q) := fun q => Classical.propDecidable _
    obtain ⟨p, hp, hpd⟩ : ∃ (p : Nat → Prop) (_ : DecidablePred p), ∀ q, p q ↔ zcdP (zMv h) (zn (zsl (zMv h) 0) 1) t q := ⟨_, hdec, fun q => Iff.rfl⟩
    have lst : ∀ n, zlst p n = none ↔ zcnt p n = 0 := by
      intro n
      induction n with
      | zero => exact ⟨fun _ => rfl, fun _ => rfl⟩
      | succ n ih =>
        rw [zlst_s]
        show _ ↔ zcnt p n + (if p n then 1 else 0) = 0
        by_cases c : p n
        · rw [if_pos c, if_pos c]; exact ⟨(fun q => by cases q), fun q => by omega⟩
        · rw [if_neg c, if_neg c, Nat.add_zero]; exact ih
    have lz : ∀ n, n ≤ 20 → (zlz (zlst p n) = -2 ↔ zcnt p n = 0) := fun n hn => by
      rw [← lst]
      cases e : zlst p n with
      | none => exact ⟨fun _ => rfl, fun _ => rfl⟩
      | some k =>
        have := (zlst_some e).2.1
        refine ⟨fun q => ?_, (fun q => by cases q)⟩
        have q : nI k = -2 := q
        rw [z_eq, z_T (by omega)] at q
        simp only [zlm2] at q
        omega
    have mono : ∀ k n, zcnt p n ≤ zcnt p (n + k) := by
      intro k
      induction k with
      | zero => intro n; exact Nat.le_refl _
      | succ k ih => intro n; exact Nat.le_trans (ih n) (Nat.le_add_right _ _)
    -- the class
    have K : ∀ k q, q + k = D → zcnt p q ≤ 1 → ∀ g, zF zXS h g → ∃ g', ai_E (d + 59) 134 16 [some (.inr (.inr (31, 0, 128))), some (.inl (nI t)), some (.inl (zlz (zlst p q))), some (.inl (nI q))] [] g = some ([.inl (if zcnt p D ≤ 1 then zlz (zlst p D) else -1)], g') ∧ zF zXS h g' := by
      intro k
      induction k with
      | zero =>
        intro q hq hc g fg
        have hq : q = D := by omega
        subst hq
        have e0 : g.1 16389 0 = nI q := by
          have := (zR_nm (zR_x hr fg)).1
          rw [zMv_x fg, hD] at this
          exact this
        refine ⟨g, ?_, fg⟩
        rw [T134_16, e0, if_pos (by rw [z_le]; omega), if_pos hc]
      | succ k ih =>
        intro q hq hc g fg
        have hrg := zR_x hr fg
        have eV := zMv_x fg
        have e0 : g.1 16389 0 = nI D := by
          have := (zR_nm hrg).1
          rw [eV, hD] at this
          exact this
        have e1 : g.1 2097281 1 = nI (zn (zsl (zMv h) 0) 1) := by
          have := (zR_b hrg).2.1.1
          rw [eV] at this
          exact this
        obtain ⟨v, g1, a1, a2, a3, a4⟩ := X48 (h := g) (tap := t) (q := q) (d + 36) hrg (by rw [eV]; exact ht) (by rw [eV, hD]; omega)
        rw [eV] at a1 a4
        have a4 : v = 1 ↔ p q := a4.trans (hpd q).symm
        have fg1 := zF_tr fg a2
        rw [T134_16, e0, if_neg (by rw [nI_leI (by omega) (by omega)]; omega), e1, a1]
        simp only [z_bi, nI_1]
        have es : zcnt p (q + 1) = zcnt p q + if p q then 1 else 0 := rfl
        rcases a3 with e | e
        · have npq : ¬ p q := fun w => by have := a4.mpr w; rw [e] at this; exact absurd this (by decide)
          rw [if_pos e]
          rw [if_neg npq] at es
          have := ih (q + 1) (by omega) (by omega) g1 fg1
          rw [zlst_s, if_neg npq] at this
          exact this
        · have pq := a4.mp e
          rw [if_neg (by rw [e]; decide)]
          rw [if_pos pq] at es
          by_cases c : zcnt p q = 0
          · rw [if_pos ((lz q (by omega)).mpr c)]
            have := ih (q + 1) (by omega) (by omega) g1 fg1
            rw [zlst_s, if_pos pq] at this
            exact this
          · rw [if_neg (fun w => c ((lz q (by omega)).mp w))]
            have := mono k (q + 1)
            rw [show q + 1 + k = D by omega] at this
            exact ⟨g1, by rw [if_neg (by omega)], fg1⟩
    obtain ⟨h1, y1, y2⟩ := K D 0 (Nat.zero_add _) (Nat.zero_le _) h zF_rf
    have hr1 := zR_x hr y2
    have eV1 := zMv_x y2
    have e34 : ∀ g, zF zMS h1 g → g.1 16128 34 = nI D := fun g fg => by rw [zM_n fg (by unfold zMS; omega), y2.1 _ _ (fun q => by have := zXS_r q; revert this; decide)]; exact n2
    have K2 : ∀ k q, q + k = D → ∀ g, zF zMS h1 g → ∃ g', ai_E (d + 59) 257 19 [some (.inr (.inr (32, 0, 16128))), some (.inl (nI t)), some (.inl (nI (zcnt p q))), some (.inl (zlz (zlst p q))), some (.inl (nI q))] [] g = some ([.inl (if zcnt p D ≤ 1 then zlz (zlst p D) else -1)], g') ∧ zF zMS h1 g' := by
      intro k
      induction k with
      | zero =>
        intro q hq g fg
        have hq : q = D := by omega
        subst hq
        have hle := zcnt_le (p := p) q
        refine ⟨g, ?_, fg⟩
        rw [T257_19, e34 g fg, if_pos (by rw [z_le]; omega)]
        by_cases c : zcnt p q ≤ 1
        · rw [if_pos (by rw [show (1 : Int32) = nI 1 from rfl, nI_leI (by omega) (by omega)]; exact c), if_pos c]
        · rw [if_neg (by rw [show (1 : Int32) = nI 1 from rfl, nI_leI (by omega) (by omega)]; exact c), if_neg c]
      | succ k ih =>
        intro q hq g fg
        obtain ⟨v, g1, a1, a2, a3, a4⟩ := M255 (h := h1) (g := g) (tap := t) (o := q) (d + 53) hr1 fg (by rw [eV1]; exact ht) (by rw [eV1, hD]; omega)
        rw [eV1] at a4
        have a4 : v = 1 ↔ p q := a4.trans (hpd q).symm
        have es : zcnt p (q + 1) = zcnt p q + if p q then 1 else 0 := rfl
        rw [T257_19, e34 g fg, if_neg (by rw [nI_leI (by omega) (by omega)]; omega), a1]
        simp only [z_bi, nI_1]
        have := ih (q + 1) (by omega) g1 a2
        rw [zlst_s, es] at this
        rcases a3 with e | e
        · have npq : ¬ p q := fun w => by have := a4.mpr w; rw [e] at this; exact absurd this (by decide)
          rw [if_pos e]
          rw [if_neg npq, if_neg npq, Nat.add_zero] at this
          exact this
        · have pq := a4.mp e
          rw [if_neg (by rw [e]; decide)]
          rw [if_pos pq, if_pos pq] at this
          exact this
    obtain ⟨h2, w1, w2⟩ := K2 D 0 (Nat.zero_add _) h1 zF_rf
    have hM250 := M250 (d + 57) (nI t) hr1
    rw [eV1] at hM250
    refine ⟨if zcnt p D ≤ 1 then zlz (zlst p D) else -1, h1, h2, ?_, y2, ?_, w2⟩
    · rw [T134, X157 _ _ hr]
      simp only [z_bi, zb_0]
      rw [if_neg (fun q => q c1)]
      exact y1
    · rw [T257, hM250]
      simp only [z_bi, zb_0]
      rw [if_neg (fun q => q c1)]
      exact w1
  · refine ⟨-2, h, h, ?_, zF_rf, ?_, zF_rf⟩
    · rw [T134, X157 _ _ hr]
      simp only [z_bi, zb_0]
      rw [if_pos c1]
    · rw [T257, M250 (d + 57) x hr]
      simp only [z_bi, zb_0]
      rw [if_pos c1]
