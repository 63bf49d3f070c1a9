/-! NAMES REMEMBERED: both sides -/
theorem M252 {h g : ai_H} {M : Nat → Option Nat} {tap t o D : Nat} (d : Nat) (hr : zR h) (fg : zF zMS h g) (hD : zg (zMv h) 34 = D) (htn : t < zn (zsl (zMv h) 0) 1) (htap : tap < 24) (ho : o < D) (hm : zmat M (zfit (zMv h)) (zPw (zMv h) tap) D o t) (hp : zPw (zMv h) tap t) (hG : zga7 g D (zpt M o tap)) : ∃ v g', ai_X (d + 3) 252 [.inr (.inr (32, 0, 16128)), .inl (nI t), .inl (nI o)] g = some ([.inl v], g') ∧ zF zMS h g' ∧ ((v = 0 ∧ ¬ zway (zfit (zMv h)) (zPw (zMv h) tap) D (zn (zsl (zMv h) 0) 1) o) ∨ (v = 1 ∧ ∃ M', zmat M' (zfit (zMv h)) (zPw (zMv h) tap) D o (t + 1) ∧ zga7 g' D (zpt M' o tap))) := by
  obtain ⟨b0, b1, b2, b8, b5, b4, b3, V⟩ := zR_b hr
  obtain ⟨n1, n2, n3, n4⟩ := zR_nm hr
  rw [hD] at n2 n3
  have ht24 : t < 24 := by have := b1.2.2; omega
  have s34 : ∀ g2, zF zMS h g2 → g2.1 16128 34 = nI D := fun g2 f2 => by rw [zM_n f2 (by unfold zMS; omega)]; exact n2
  have hfit : ∀ g2, zF zMS h g2 → ∀ y e, y < 24 → e < 20 → ai_X (d + 2) 249 [.inr (.inr (32, 0, 16128)), .inl (nI y), .inl (nI e)] g2 = some ([.inl (zb (zfit (zMv h) y e = true))], g2) := fun g2 f2 y e hy he => by
    have eV := zMv_m f2
    have := M249 (g := g2) (t := y) (q := e) (d + 1) hy he (by rw [eV]; exact (n4 y hy).2.2.1)
    rw [eV] at this
    exact this
  have hM24 : ∀ e y, M e = some y → y < 24 := fun e y h => by have := (hm.1 e y h).2.2.2.1; omega
  have m1 : ∀ {j : Nat}, zMS 2064453 j := fun {j} => Or.inr ⟨by omega, by omega, by omega⟩
  have m2 : ∀ {j : Nat}, zMS 2064454 j := fun {j} => Or.inr ⟨by omega, by omega, by omega⟩
  have m3 : ∀ {j : Nat}, zMS 2064455 j := fun {j} => Or.inr ⟨by omega, by omega, by omega⟩
  -- no one has come yet
  have L1 : ∀ q e, e + q = D → ∀ g2 z4 z5 z6 z7, zF zMS h g2 → zga7 g2 D (zpt M o tap) → (∀ i, i < e → g2.1 2064454 i = -1) → ∃ g', ai_E (d + 2) 252 2 [some (.inr (.inr (32, 0, 16128))), some (.inl (nI t)), some (.inl (nI o)), some (.inl (nI e)), z4, z5, z6, z7] [] g2 = ai_E (d + 2) 252 28 [some (.inr (.inr (32, 0, 16128))), some (.inl (nI t)), some (.inl (nI o)), some (.inl 0), some (.inl 0), z5, z6, z7] [] g' ∧ zF zMS h g' ∧ zga7 g' D (zpt M o tap) ∧ zgb7 g' D (fun _ => none) := by
    intro q
    induction q with
    | zero =>
      intro e he g2 z4 z5 z6 z7 f2 gG gB
      have he : e = D := by omega
      subst he
      refine ⟨g2, ?_, f2, gG, gB⟩
      rw [T252_2, s34 g2 f2, if_pos (by rw [z_le]; omega)]
    | succ q ih =>
      intro e he g2 z4 z5 z6 z7 f2 gG gB
      rw [T252_2, s34 g2 f2, if_neg (by rw [nI_leI (by omega) (by omega)]; omega), z_ix (by omega) (by decide), nI_1]
      refine ih (e + 1) (by omega) _ z4 z5 z6 z7 (zF_st f2 m2) (fun i hi => by rw [z_ne (by decide)]; exact gG i hi) fun i hi => ?_
      rw [z_st1]
      by_cases c : i = e
      · rw [if_pos ⟨rfl, c⟩]
      · rw [if_neg (fun q => c q.2)]; exact gB i (by omega)
  -- who fits comes first
  have L2 : ∀ q e, e + q = D → ∀ g2 (B : Nat → Option Nat) (ln : Nat → Nat) n z5 z6 z7, zF zMS h g2 → zga7 g2 D (zpt M o tap) → zgb7 g2 D B → zgl7 g2 n ln → zbi7 M (zfit (zMv h)) D o t B ln n → (∀ i, e ≤ i → B i = none) → (∀ i, i < e → ¬ i = o → zfit (zMv h) t i = true → ¬ B i = none) → ∃ g' B' ln' n', ai_E (d + 2) 252 28 [some (.inr (.inr (32, 0, 16128))), some (.inl (nI t)), some (.inl (nI o)), some (.inl (nI n)), some (.inl (nI e)), z5, z6, z7] [] g2 = ai_E (d + 2) 252 84 [some (.inr (.inr (32, 0, 16128))), some (.inl (nI t)), some (.inl (nI o)), some (.inl (nI n')), some (.inl 0), z5, z6, z7] [] g' ∧ zF zMS h g' ∧ zga7 g' D (zpt M o tap) ∧ zgb7 g' D B' ∧ zgl7 g' n' ln' ∧ zbi7 M (zfit (zMv h)) D o t B' ln' n' ∧ ∀ i, i < D → ¬ i = o → zfit (zMv h) t i = true → ¬ B' i = none := by
    intro q
    induction q with
    | zero =>
      intro e he g2 B ln n z5 z6 z7 f2 gG gB gl hb hno hcl
      have he : e = D := by omega
      subst he
      refine ⟨g2, B, ln, n, ?_, f2, gG, gB, gl, hb, hcl⟩
      rw [T252_28, s34 g2 f2, if_pos (by rw [z_le]; omega)]
    | succ q ih =>
      intro e he g2 B ln n z5 z6 z7 f2 gG gB gl hb hno hcl
      have ih := ih (e + 1) (by omega)
      have ie : ∀ f : Nat → Option ai_R, ai_ix (nI e) 20 f = f e := fun f => z_ix (by omega) (by decide)
      rw [T252_28, s34 g2 f2, if_neg (by rw [nI_leI (by omega) (by omega)]; omega), nI_1]
      by_cases c : e = o
      · rw [if_pos (by rw [c])]
        refine ih g2 B ln n z5 z6 z7 f2 gG gB gl hb (fun i hi => hno i (by omega)) fun i hi h1 h2 => ?_
        by_cases ei : i = e
        · exact absurd (ei.trans c) h1
        · exact hcl i (by omega) h1 h2
      · rw [if_neg (by rw [nI_eq (by omega) (by omega)]; exact c), hfit g2 f2 t e ht24 (by omega)]
        simp only [z_bi, zb_0]
        by_cases cf : zfit (zMv h) t e = true
        · obtain ⟨hn, hb'⟩ := zbi7_s hb (by omega) c (hno e (Nat.le_refl _)) ht24 cf (Or.inl rfl)
          rw [if_neg (fun q => q cf), ie, z_ix (by omega) (by decide), nI_1]
          refine ih _ (zpt B e t) (zlx ln n e) (n + 1) z5 z6 z7 (zF_st (zF_st f2 m2) m3) (fun i hi => by rw [z_ne (by decide), z_ne (by decide)]; exact gG i hi) (fun i hi => ?_) (fun i hi => ?_) hb' (fun i hi => by rw [zpt_o (by omega)]; exact hno i (by omega)) fun i hi h1 h2 => ?_
          · rw [z_ne (by decide), z_st1]
            by_cases ei : i = e
            · subst ei; rw [if_pos ⟨rfl, rfl⟩, zpt_s]; rfl
            · rw [if_neg (fun q => ei q.2), zpt_o ei]; exact gB i hi
          · rw [z_st1]
            by_cases ei : i = n
            · rw [if_pos ⟨rfl, ei⟩, ei, zlx_n]
            · rw [if_neg (fun q => ei q.2), zlx_o ei, z_ne (by decide)]; exact gl i (by omega)
          · by_cases ei : i = e
            · subst ei; rw [zpt_s]; exact fun q => by cases q
            · rw [zpt_o ei]; exact hcl i (by omega) h1 h2
        · rw [if_pos cf]
          refine ih g2 B ln n z5 z6 z7 f2 gG gB gl hb (fun i hi => hno i (by omega)) fun i hi h1 h2 => ?_
          by_cases ei : i = e
          · subst ei; exact absurd h2 cf
          · exact hcl i (by omega) h1 h2
  -- the line, one by one
  have L4 : ∀ i y, y < 24 → ∀ q e, e + q = D → ∀ g2 (B : Nat → Option Nat) (ln : Nat → Nat) n z5, i < n → M (ln i) = some y → zF zMS h g2 → zga7 g2 D (zpt M o tap) → zgb7 g2 D B → zgl7 g2 n ln → zbi7 M (zfit (zMv h)) D o t B ln n → (∀ k, k < e → ¬ k = o → zfit (zMv h) y k = true → ¬ B k = none) → ∃ g' B' ln' n', ai_E (d + 2) 252 125 [some (.inr (.inr (32, 0, 16128))), some (.inl (nI t)), some (.inl (nI o)), some (.inl (nI n)), some (.inl (nI i)), z5, some (.inl (nI y)), some (.inl (nI e))] [] g2 = ai_E (d + 2) 252 84 [some (.inr (.inr (32, 0, 16128))), some (.inl (nI t)), some (.inl (nI o)), some (.inl (nI n')), some (.inl (nI (i + 1))), z5, some (.inl (nI y)), some (.inl (nI D))] [] g' ∧ zF zMS h g' ∧ zga7 g' D (zpt M o tap) ∧ zgb7 g' D B' ∧ zgl7 g' n' ln' ∧ zbi7 M (zfit (zMv h)) D o t B' ln' n' ∧ (∀ k, k < D → ¬ k = o → zfit (zMv h) y k = true → ¬ B' k = none) ∧ n ≤ n' ∧ (∀ k, k < n → ln' k = ln k) ∧ ∀ k, ¬ B k = none → ¬ B' k = none := by
    intro i y hy q
    induction q with
    | zero =>
      intro e he g2 B ln n z5 hi hMi f2 gG gB gl hb hcl
      have he : e = D := by omega
      subst he
      refine ⟨g2, B, ln, n, ?_, f2, gG, gB, gl, hb, hcl, Nat.le_refl _, fun _ _ => rfl, fun _ q => q⟩
      rw [T252_125, s34 g2 f2, if_pos (by rw [z_le]; omega), nI_1]
    | succ q ih =>
      intro e he g2 B ln n z5 hi hMi f2 gG gB gl hb hcl
      have ih := ih (e + 1) (by omega)
      have ie : ∀ f : Nat → Option ai_R, ai_ix (nI e) 20 f = f e := fun f => z_ix (by omega) (by decide)
      rw [T252_125, s34 g2 f2, if_neg (by rw [nI_leI (by omega) (by omega)]; omega), nI_1]
      by_cases c : e = o
      · rw [if_pos (by rw [c])]
        refine ih g2 B ln n z5 hi hMi f2 gG gB gl hb fun k hk h1 h2 => ?_
        by_cases ek : k = e
        · exact absurd (ek.trans c) h1
        · exact hcl k (by omega) h1 h2
      · have hB24 : ∀ z, B e = some z → z < 30000 := fun z hz => by
          obtain ⟨j, j1, j2⟩ := (hb.2.1 e (by omega)).mp (by rw [hz]; exact fun q => by cases q)
          obtain ⟨-, -, w, w1, w2, -⟩ := hb.1 j j1
          rw [j2, hz] at w1
          cases w1
          omega
        rw [if_neg (by rw [nI_eq (by omega) (by omega)]; exact c), ie, gB e (by omega)]
        simp only [zmt_p hB24]
        by_cases cB : B e = none
        · rw [if_neg (fun q => q cB), hfit g2 f2 y e hy (by omega)]
          simp only [z_bi, zb_0]
          by_cases cf : zfit (zMv h) y e = true
          · obtain ⟨hn, hb'⟩ := zbi7_s hb (by omega) c cB hy cf (Or.inr ⟨i, hi, hMi⟩)
            rw [if_neg (fun q => q cf), ie, z_ix (by omega) (by decide), nI_1]
            obtain ⟨g', B', ln', n', u1, u2, u3, u4, u5, u6, u7, u8, u9, u10⟩ := ih (ai_st (ai_st g2 2064454 e (nI y)) 2064455 n (nI e)) (zpt B e y) (zlx ln n e) (n + 1) z5 (by omega) (by rw [zlx_o (by omega)]; exact hMi) (zF_st (zF_st f2 m2) m3) (fun k hk => by rw [z_ne (by decide), z_ne (by decide)]; exact gG k hk) (fun k hk => by
              rw [z_ne (by decide), z_st1]
              by_cases ek : k = e
              · subst ek; rw [if_pos ⟨rfl, rfl⟩, zpt_s]; rfl
              · rw [if_neg (fun q => ek q.2), zpt_o ek]; exact gB k hk) (fun k hk => by
              rw [z_st1]
              by_cases ek : k = n
              · rw [if_pos ⟨rfl, ek⟩, ek, zlx_n]
              · rw [if_neg (fun q => ek q.2), zlx_o ek, z_ne (by decide)]; exact gl k (by omega)) hb' (fun k hk h1 h2 => by
              by_cases ek : k = e
              · subst ek; rw [zpt_s]; exact fun q => by cases q
              · rw [zpt_o ek]; exact hcl k (by omega) h1 h2)
            refine ⟨g', B', ln', n', u1, u2, u3, u4, u5, u6, u7, by omega, fun k hk => by rw [u9 k (by omega), zlx_o (by omega)], fun k hk => u10 k ?_⟩
            by_cases ek : k = e
            · subst ek; exact absurd cB hk
            · rw [zpt_o ek]; exact hk
          · rw [if_pos cf]
            refine ih g2 B ln n z5 hi hMi f2 gG gB gl hb fun k hk h1 h2 => ?_
            by_cases ek : k = e
            · subst ek; exact absurd h2 cf
            · exact hcl k (by omega) h1 h2
        · rw [if_pos cB]
          refine ih g2 B ln n z5 hi hMi f2 gG gB gl hb fun k hk h1 h2 => ?_
          by_cases ek : k = e
          · subst ek; exact cB
          · exact hcl k (by omega) h1 h2
  have L3 : ∀ q i, i + q = D + 1 → ∀ g2 (B : Nat → Option Nat) (ln : Nat → Nat) n z5 z6 z7, i ≤ n → zF zMS h g2 → zga7 g2 D (zpt M o tap) → zgb7 g2 D B → zgl7 g2 n ln → zbi7 M (zfit (zMv h)) D o t B ln n → (∀ k, k < D → ¬ k = o → zfit (zMv h) t k = true → ¬ B k = none) → (∀ j, j < i → ∃ y, M (ln j) = some y ∧ ∀ k, k < D → ¬ k = o → zfit (zMv h) y k = true → ¬ B k = none) → ∃ v g', ai_E (d + 2) 252 84 [some (.inr (.inr (32, 0, 16128))), some (.inl (nI t)), some (.inl (nI o)), some (.inl (nI n)), some (.inl (nI i)), z5, z6, z7] [] g2 = some ([.inl v], g') ∧ zF zMS h g' ∧ ((v = 0 ∧ ¬ zway (zfit (zMv h)) (zPw (zMv h) tap) D (zn (zsl (zMv h) 0) 1) o) ∨ (v = 1 ∧ ∃ M', zmat M' (zfit (zMv h)) (zPw (zMv h) tap) D o (t + 1) ∧ zga7 g' D (zpt M' o tap))) := by
    intro q
    induction q with
    | zero =>
      intro i hi g2 B ln n z5 z6 z7 hin f2 gG gB gl hb hcx hcl
      have hle := zcnt_le (p := fun e => (B e).isSome = true) D
      have := hb.2.2.2
      omega
    | succ q ih =>
      intro i hi g2 B ln n z5 z6 z7 hin f2 gG gB gl hb hcx hcl
      have hle := zcnt_le (p := fun e => (B e).isSome = true) D
      have hnD : n ≤ D := by have := hb.2.2.2; omega
      by_cases c : i = n
      · -- the line is at its end: no way
        subst c
        refine ⟨0, g2, ?_, f2, Or.inl ⟨rfl, zhal_no (S := fun e => e = o ∨ (e < D ∧ ¬ B e = none)) hm hp htn ⟨fun k h1 h2 => ?_, fun k h1 h2 => ?_⟩⟩⟩
        · rw [T252_84, if_pos (by rw [z_le]; omega), z_b0]
        · by_cases ek : k = o
          · exact Or.inl ek
          · exact Or.inr ⟨h1, hcx k h1 ek h2⟩
        · obtain ⟨k1, k2⟩ := h1.resolve_left h2
          obtain ⟨j, j1, j2⟩ := (hb.2.1 k k1).mp k2
          obtain ⟨y, y1, y2⟩ := hcl j j1
          rw [j2] at y1
          refine ⟨y, y1, fun e e1 e2 => ?_⟩
          by_cases ee : e = o
          · exact Or.inl ee
          · exact Or.inr ⟨e1, y2 e e1 ee e2⟩
      · obtain ⟨a1, a2, -⟩ := hb.1 i (by omega)
        have ii : ∀ f : Nat → Option ai_R, ai_ix (nI i) 20 f = f i := fun f => z_ix (by omega) (by decide)
        have il : ∀ f : Nat → Option ai_R, ai_ix (nI (ln i)) 20 f = f (ln i) := fun f => z_ix (by omega) (by decide)
        have eG : g2.1 2064453 (ln i) = zmt (M (ln i)) := by rw [gG _ a1, zpt_o a2]
        rw [T252_84, if_neg (by rw [nI_leI (by omega) (by omega)]; omega), ii, gl i (by omega), il, eG]
        have hp0 := zmt_p (o := M (ln i)) fun z hz => by have := hM24 _ z hz; omega
        cases eM : M (ln i) with
        | some y =>
          rw [if_pos (by rw [← eM]; exact hp0.mpr (by rw [eM]; exact fun q => by cases q))]
          obtain ⟨g', B', ln', n', u1, u2, u3, u4, u5, u6, u7, u8, u9, u10⟩ := L4 i y (hM24 _ y eM) D 0 (Nat.zero_add _) g2 B ln n (some (.inl (nI (ln i)))) (by omega) eM f2 gG gB gl hb (fun k hk => absurd hk (Nat.not_lt_zero _))
          obtain ⟨v, g'', w1, w2⟩ := ih (i + 1) (by omega) g' B' ln' n' (some (.inl (nI (ln i)))) (some (.inl (nI y))) (some (.inl (nI D))) (by omega) u2 u3 u4 u5 u6 (fun k h1 h2 h3 => u10 k (hcx k h1 h2 h3)) (fun j hj => by
            rw [u9 j (by omega)]
            by_cases ej : j = i
            · subst ej; exact ⟨y, eM, u7⟩
            · obtain ⟨z, z1, z2⟩ := hcl j (by omega)
              exact ⟨z, z1, fun k h1 h2 h3 => u10 k (z2 k h1 h2 h3)⟩)
          exact ⟨v, g'', u1.trans w1, w2⟩
        | none =>
          rw [if_neg (fun q => by rw [← eM] at q; exact hp0.mp q eM)]
          have hGi : ∀ a b y, zpt M o tap a = some y → zpt M o tap b = some y → a = b := fun a b y h1 h2 => by
            by_cases c1 : a = o
            · by_cases c2 : b = o
              · rw [c1, c2]
              · rw [c1, zpt_s] at h1
                rw [zpt_o c2] at h2
                cases h1
                exact absurd rfl (hm.1 b tap h2).2.2.2.2.1
            · rw [zpt_o c1] at h1
              by_cases c2 : b = o
              · rw [c2, zpt_s] at h2
                cases h2
                exact absurd rfl (hm.1 a tap h1).2.2.2.2.1
              · rw [zpt_o c2] at h2
                exact hm.2.1 a b y h1 h2
          obtain ⟨g', G', u1, u2, u3, u4, u5, u6⟩ := M253 (M := M) (F := zfit (zMv h)) (D := D) (o := o) (x := t) (tap := tap) (n := n) (B := B) (ln := ln) (I := fun y => ∃ e, zpt M o tap e = some y) (d + 1) n3 ht24 hb hm.2.1 (fun ⟨e, he⟩ => by
            by_cases c1 : e = o
            · rw [c1, zpt_s] at he
              exact hp.1 (Option.some.inj he).symm
            · rw [zpt_o c1] at he
              have := (hm.1 e t he).2.2.2.1
              omega) (some (.inl (nI (ln i)))) i (by omega) g2 (zpt M o tap) none none none (s34 g2 f2) gG gB (fun k hk => zpt_o (hb.1 k (by omega)).2.1) (fun a b y _ _ h1 h2 => hGi a b y h1 h2) (fun y => ⟨fun ⟨e, _, he⟩ => ⟨e, he⟩, fun ⟨e, he⟩ => ⟨e, (fun q => by rw [q, zpt_o a2, eM] at he; cases he), he⟩⟩) ⟨zpt_s, fun e y he => by
            by_cases c1 : e = o
            · rw [c1, zpt_s] at he
              cases he
              exact ⟨by omega, htap, fun q => absurd c1 q⟩
            · rw [zpt_o c1] at he
              have := hm.1 e y he
              exact ⟨this.1, hM24 e y he, fun _ => this.2.2.1⟩⟩
          obtain ⟨k1, k2⟩ := zmat_h hm hp (fun y hy => hy.1) u4 u5 u6
          rw [T253, u1]
          simp only [z_bv, z_b1]
          refine ⟨1, g', rfl, zF_tr f2 (zF_mono u2 fun q j e => by have e : q = 2064453 := e; subst e; exact m1), Or.inr ⟨rfl, _, k1, ?_⟩⟩
          rw [k2]
          exact u3
  obtain ⟨g1, w1, w2, w3, w4⟩ := L1 D 0 (Nat.zero_add _) g none none none none fg hG (fun i hi => absurd hi (Nat.not_lt_zero _))
  obtain ⟨g2, B, ln, n, y1, y2, y3, y4, y5, y6, y7⟩ := L2 D 0 (Nat.zero_add _) g1 (fun _ => none) (fun _ => 0) 0 none none none w2 w3 w4 (fun i hi => absurd hi (Nat.not_lt_zero _)) ⟨fun j hj => absurd hj (Nat.not_lt_zero _), fun e _ => ⟨fun q => absurd rfl q, fun ⟨j, j1, _⟩ => absurd j1 (Nat.not_lt_zero _)⟩, fun i j hi => absurd hi (Nat.not_lt_zero _), by
    have z : ∀ n, zcnt (fun e => ((fun _ => none : Nat → Option Nat) e).isSome = true) n = 0 := by
      intro n
      induction n with
      | zero => rfl
      | succ n ih => show zcnt _ n + (if false = true then 1 else 0) = 0; rw [ih, if_neg Bool.false_ne_true]
    exact (z D).symm⟩ (fun _ _ => rfl) (fun i hi => absurd hi (Nat.not_lt_zero _))
  obtain ⟨v, g3, u1, u2⟩ := L3 (D + 1) 0 (Nat.zero_add _) g2 B ln n none none none (Nat.zero_le _) y2 y3 y4 y5 y6 y7 (fun j hj => absurd hj (Nat.not_lt_zero _))
  refine ⟨v, g3, ?_, u2⟩
  rw [T252]
  exact w1.trans (y1.trans u1)
