/-! WAYS: the horse, the reference's -/
/-- what drinks holds at a turn -/
def zhI (g : ai_H) (R : Nat → Bool) (N : Nat → Nat → Bool) (A : Nat → Bool) (n k : Nat) : Prop := ∀ t, t < n → (g.1 2064469 t = nI (k + 1) ↔ (zhw R N A n k).2 t = true) ∧ (0 ≤ (g.1 2064469 t).toInt ↔ ((zhw R N A n k).1 t || (zhw R N A n k).2 t) = true) ∧ (g.1 2064469 t).toInt ≤ (k : Int) + 1
def zhC (R : Nat → Bool) (N : Nat → Nat → Bool) (A : Nat → Bool) (n k t u : Nat) : Bool := R u && !((zhw R N A n k).1 u || (zhw R N A n k).2 u) && zex (fun v => (zhw R N A n k).2 v && N v u) t
theorem zhI_s {g g' : ai_H} {R : Nat → Bool} {N : Nat → Nat → Bool} {A : Nat → Bool} {n k : Nat} (hk : k ≤ 100) (hI : zhI g R N A n k) (e : ∀ v, v < n → g'.1 2064469 v = if zhC R N A n k n v = true then nI (k + 2) else g.1 2064469 v) : zhI g' R N A n (k + 1) := by
  intro t ht
  obtain ⟨i1, i2, i3⟩ := hI t ht
  have e := e t ht
  have ew : (zhw R N A n (k + 1)).2 t = zhC R N A n k n t := rfl
  have es : (zhw R N A n (k + 1)).1 t = ((zhw R N A n k).1 t || (zhw R N A n k).2 t) := rfl
  rw [ew, es, e]
  by_cases c : zhC R N A n k n t = true
  · rw [if_pos c, c, z_T (by omega)]
    refine ⟨⟨fun _ => rfl, fun _ => rfl⟩, ⟨fun _ => Bool.or_true _, fun _ => by omega⟩, by omega⟩
  · rw [if_neg c, zbF c, Bool.or_false]
    refine ⟨⟨fun q => ?_, fun q => by cases q⟩, i2, by omega⟩
    rw [q, z_T (by omega)] at i3
    omega
theorem M293_in {h : ai_H} {R A : Nat → Bool} {s n k t : Nat} {D : Nat → Int32} (d : Nat) (hr : zR h) (hn : zn (zsl (zMv h) 0) 1 = n) (hs : s ≤ 30) (ht : t < n) (hw : (zhw R (zhN h s) A n k).2 t = true) (hk : k ≤ 100) (hD : ∀ v, v < n → (0 ≤ (D v).toInt ↔ ((zhw R (zhN h s) A n k).1 v || (zhw R (zhN h s) A n k).2 v) = true)) (x2 : Int32) (z1 z4 z5 : Option ai_V) : ∀ j u, u + j = n → ∀ g, zF zMS h g → (∀ v, v < n → g.1 2064456 v = zb (R v = true)) → (∀ v, v < n → g.1 2064469 v = if v < u then (if zhC R (zhN h s) A n k (t + 1) v = true then nI (k + 2) else D v) else (if zhC R (zhN h s) A n k t v = true then nI (k + 2) else D v)) → ∃ g', ai_E (d + 2) 293 223 [some (.inr (.inr (32, 0, 16128))), z1, some (.inl x2), some (.inl (nI s)), z4, z5, some (.inl (nI n)), some (.inl (nI (k + 1))), some (.inl (nI t)), some (.inl (nI u))] [] g = ai_E (d + 2) 293 198 [some (.inr (.inr (32, 0, 16128))), z1, some (.inl x2), some (.inl (nI s)), z4, z5, some (.inl (nI n)), some (.inl (nI (k + 1))), some (.inl (nI (t + 1))), some (.inl (nI n))] [] g' ∧ zF zMS h g' ∧ (∀ v, v < n → g'.1 2064456 v = zb (R v = true)) ∧ ∀ v, v < n → g'.1 2064469 v = if zhC R (zhN h s) A n k (t + 1) v = true then nI (k + 2) else D v := by
  obtain ⟨b0, b1, b2, b8, b5, b4, b3, V⟩ := zR_b hr
  rw [hn] at b1
  have hl : n ≤ 24 := b1.2.2
  intro j
  induction j with
  | zero =>
    intro u hu g fg gr gd
    have hu : u = n := by omega
    subst hu
    refine ⟨g, ?_, fg, gr, fun v hv => ?_⟩
    · rw [T293_223, if_pos (by rw [z_le]; omega)]
      simp only [nI_1]
    · rw [gd v hv, if_pos hv]
  | succ j ih =>
    intro u hu g fg gr gd
    have ih := ih (u + 1) (by omega)
    have eC : zhC R (zhN h s) A n k (t + 1) u = (zhC R (zhN h s) A n k t u || (R u && !((zhw R (zhN h s) A n k).1 u || (zhw R (zhN h s) A n k).2 u) && zhN h s t u)) := by
      show (_ && (zex _ t || ((zhw R (zhN h s) A n k).2 t && zhN h s t u))) = _
      rw [hw, Bool.true_and, Bool.and_or_distrib_left]
      rfl
    have gu := gd u (by omega)
    rw [if_neg (by omega)] at gu
    have i24 : ∀ f : Nat → Option ai_R, ai_ix (nI u) 24 f = f u := fun f => z_ix (by omega) (by decide)
    have i96 : ∀ f : Nat → Option ai_R, ai_ix (nI u) 96 f = f u := fun f => z_ix (by omega) (by decide)
    have j96 : ∀ f : Nat → Option ai_R, ai_ix (nI t) 96 f = f t := fun f => z_ix (by omega) (by decide)
    -- nothing is written
    have keep : (zhC R (zhN h s) A n k (t + 1) u = true ↔ zhC R (zhN h s) A n k t u = true) → ∃ g', ai_E (d + 2) 293 223 [some (.inr (.inr (32, 0, 16128))), z1, some (.inl x2), some (.inl (nI s)), z4, z5, some (.inl (nI n)), some (.inl (nI (k + 1))), some (.inl (nI t)), some (.inl (nI (u + 1)))] [] g = ai_E (d + 2) 293 198 [some (.inr (.inr (32, 0, 16128))), z1, some (.inl x2), some (.inl (nI s)), z4, z5, some (.inl (nI n)), some (.inl (nI (k + 1))), some (.inl (nI (t + 1))), some (.inl (nI n))] [] g' ∧ zF zMS h g' ∧ (∀ v, v < n → g'.1 2064456 v = zb (R v = true)) ∧ ∀ v, v < n → g'.1 2064469 v = if zhC R (zhN h s) A n k (t + 1) v = true then nI (k + 2) else D v := fun hiff => ih g fg gr fun v hv => by
      rw [gd v hv]
      by_cases c : v < u
      · rw [if_pos c, if_pos (show v < u + 1 by omega)]
      · rw [if_neg c]
        by_cases c2 : v = u
        · subst c2
          rw [if_pos (show v < v + 1 by omega)]
          by_cases c3 : zhC R (zhN h s) A n k t v = true
          · rw [if_pos c3, if_pos (hiff.mpr c3)]
          · rw [if_neg c3, if_neg (fun q => c3 (hiff.mp q))]
        · rw [if_neg (show ¬ v < u + 1 by omega)]
    rw [T293_223, if_neg (by rw [nI_leI (by omega) (by omega)]; omega), i24, gr u (by omega)]
    simp only [zb_0, nI_1]
    by_cases c1 : R u = true
    · rw [if_neg (fun q => q c1), i24, gu]
      have hD := hD u (by omega)
      by_cases c2 : ((zhw R (zhN h s) A n k).1 u || (zhw R (zhN h s) A n k).2 u) = true
      · have n1 : ¬ zhC R (zhN h s) A n k t u = true := by
          unfold zhC
          rw [c2, Bool.not_true, Bool.and_false, Bool.false_and]
          exact Bool.false_ne_true
        rw [if_neg n1, if_pos (by rw [z_le]; exact hD.mpr c2)]
        refine keep ?_
        rw [eC, c2, Bool.not_true, Bool.and_false, Bool.false_and, Bool.or_false]
      · by_cases c3 : zhC R (zhN h s) A n k t u = true
        · rw [if_pos c3, if_pos (by rw [z_le, z_T (by omega)]; simp only [zl0]; omega)]
          refine keep ?_
          rw [eC, c3, Bool.true_or]
        · rw [if_neg c3, if_neg (by rw [z_le]; exact fun q => c2 (hD.mp q)), j96, i96]
          obtain ⟨et, vt⟩ := zC_t hr (t := t) (by omega)
          obtain ⟨eu, vu⟩ := zC_t hr (t := u) (by omega)
          have mt : g.1 2064397 t = zsl (zMv h) 0 12 t := by rw [zM_n fg (zMS_n (by decide) (by decide))]; exact (zs0 (f := 12) (by omega)).symm
          have mu : g.1 2064397 u = zsl (zMv h) 0 12 u := by rw [zM_n fg (zMS_n (by decide) (by decide))]; exact (zs0 (f := 12) (by omega)).symm
          rw [mt, mu, M190 _ _ vt vu]
          simp only [z_bi]
          by_cases c4 : zhN h s t u = true
          · have c4' : zds (zsl (zMv h) 0 12 t) (zsl (zMv h) 0 12 u) ≤ s := of_decide_eq_true c4
            rw [if_neg (by rw [nI_ltI (by omega) (by have := zds_le vt vu; omega)]; omega), i24]
            have eT : zhC R (zhN h s) A n k (t + 1) u = true := by rw [eC, c1, c4, zbF c2]; simp
            refine ih (ai_st g 2064469 u (nI (k + 1 + 1))) (zF_st fg (Or.inr ⟨by omega, by omega, by omega⟩)) (fun v hv => by rw [z_ne (by decide)]; exact gr v hv) fun v hv => ?_
            rw [z_st1]
            by_cases c5 : v = u
            · subst c5
              rw [if_pos ⟨rfl, rfl⟩, if_pos (show v < v + 1 by omega), if_pos eT]
            · rw [if_neg (fun q => c5 q.2), gd v hv]
              by_cases c6 : v < u
              · rw [if_pos c6, if_pos (show v < u + 1 by omega)]
              · rw [if_neg c6, if_neg (show ¬ v < u + 1 by omega)]
          · have c4' : ¬ zds (zsl (zMv h) 0 12 t) (zsl (zMv h) 0 12 u) ≤ s := fun q => c4 (decide_eq_true q)
            rw [if_pos (by rw [nI_ltI (by omega) (by have := zds_le vt vu; omega)]; omega)]
            refine keep ?_
            rw [eC, zbF c4, Bool.and_false, Bool.or_false]
    · rw [if_pos c1]
      refine keep ?_
      rw [eC, zbF c1, Bool.false_and, Bool.false_and, Bool.or_false]
theorem M293_o {h : ai_H} {R A : Nat → Bool} {s n k : Nat} {D : Nat → Int32} (d : Nat) (hr : zR h) (hn : zn (zsl (zMv h) 0) 1 = n) (hs : s ≤ 30) (hk : k ≤ 100) (hD : ∀ v, v < n → (D v = nI (k + 1) ↔ (zhw R (zhN h s) A n k).2 v = true) ∧ (0 ≤ (D v).toInt ↔ ((zhw R (zhN h s) A n k).1 v || (zhw R (zhN h s) A n k).2 v) = true)) (x2 : Int32) (z1 z4 z5 : Option ai_V) : ∀ j t, t + j = n → ∀ g z9, zF zMS h g → (∀ v, v < n → g.1 2064456 v = zb (R v = true)) → (∀ v, v < n → g.1 2064469 v = if zhC R (zhN h s) A n k t v = true then nI (k + 2) else D v) → ∃ g' z8' z9', ai_E (d + 2) 293 198 [some (.inr (.inr (32, 0, 16128))), z1, some (.inl x2), some (.inl (nI s)), z4, z5, some (.inl (nI n)), some (.inl (nI (k + 1))), some (.inl (nI t)), z9] [] g = ai_E (d + 2) 293 142 [some (.inr (.inr (32, 0, 16128))), z1, some (.inl x2), some (.inl (nI s)), z4, z5, some (.inl (nI n)), some (.inl (nI (k + 1 + 1))), z8', z9'] [] g' ∧ zF zMS h g' ∧ (∀ v, v < n → g'.1 2064456 v = zb (R v = true)) ∧ ∀ v, v < n → g'.1 2064469 v = if zhC R (zhN h s) A n k n v = true then nI (k + 2) else D v := by
  obtain ⟨b0, b1, b2, b8, b5, b4, b3, V⟩ := zR_b hr
  rw [hn] at b1
  have hl : n ≤ 24 := b1.2.2
  intro j
  induction j with
  | zero =>
    intro t hj g z9 fg gr gd
    have hj : t = n := by omega
    subst hj
    refine ⟨g, some (.inl (nI t)), z9, ?_, fg, gr, gd⟩
    rw [T293_198, if_pos (by rw [z_le]; omega)]
    simp only [nI_1]
  | succ j ih =>
    intro t hj g z9 fg gr gd
    have i24 : ∀ f : Nat → Option ai_R, ai_ix (nI t) 24 f = f t := fun f => z_ix (by omega) (by decide)
    obtain ⟨hD1, hD2⟩ := hD t (by omega)
    have gt := gd t (by omega)
    rw [T293_198, if_neg (by rw [nI_leI (by omega) (by omega)]; omega), i24]
    simp only [nI_1]
    by_cases c : (zhw R (zhN h s) A n k).2 t = true
    · have n1 : ¬ zhC R (zhN h s) A n k t t = true := by
        unfold zhC
        rw [c, Bool.or_true, Bool.not_true, Bool.and_false, Bool.false_and]
        exact Bool.false_ne_true
      rw [if_neg n1] at gt
      rw [gt, if_pos (hD1.mpr c)]
      obtain ⟨g', w1, w2, w3, w4⟩ := M293_in (D := D) (t := t) (k := k) d hr hn hs (by omega) c hk (fun v hv => (hD v hv).2) x2 z1 z4 z5 n 0 (by omega) g fg gr (fun v hv => by rw [if_neg (by omega)]; exact gd v hv)
      obtain ⟨g'', z8', z9', y1, y2⟩ := ih (t + 1) (by omega) g' (some (.inl (nI n))) w2 w3 w4
      exact ⟨g'', z8', z9', w1.trans y1, y2⟩
    · have hne : ¬ g.1 2064469 t = nI (k + 1) := by
        rw [gt]
        by_cases c2 : zhC R (zhN h s) A n k t t = true
        · rw [if_pos c2]
          intro q
          rw [nI_eq (by omega) (by omega)] at q
          omega
        · rw [if_neg c2]
          exact fun q => c (hD1.mp q)
      rw [if_neg hne]
      refine ih (t + 1) (by omega) g z9 fg gr fun v hv => ?_
      rw [gd v hv]
      have : zhC R (zhN h s) A n k (t + 1) v = zhC R (zhN h s) A n k t v := by
        show (_ && (zex _ t || ((zhw R (zhN h s) A n k).2 t && zhN h s t v))) = _
        rw [zbF c, Bool.false_and, Bool.or_false]
        rfl
      rw [this]
theorem M293_l {h : ai_H} {R A : Nat → Bool} {s n : Nat} {b : Int32} (d : Nat) (hr : zR h) (hn : zn (zsl (zMv h) 0) 1 = n) (hs : s ≤ 30) (hb : zi b 0 255) (z1 z4 z5 : Option ai_V) : ∀ j k, k + j = n → ∀ g z8 z9, zF zMS h g → (∀ v, v < n → g.1 2064456 v = zb (R v = true)) → zhI g R (zhN h s) A n k → ∃ g', ai_E (d + 2) 293 142 [some (.inr (.inr (32, 0, 16128))), z1, some (.inl b), some (.inl (nI s)), z4, z5, some (.inl (nI n)), some (.inl (nI (k + 1))), z8, z9] [] g = some ([.inl (zhv (zf (zhp R (zhN h s) A (zhG h b s) n) k j))], g') ∧ zF zMS h g' := by
  obtain ⟨b0, b1, b2, b8, b5, b4, b3, V⟩ := zR_b hr
  rw [hn] at b1
  have hl : n ≤ 24 := b1.2.2
  intro j
  induction j with
  | zero =>
    intro k hk g z8 z9 fg gr gI
    refine ⟨g, ?_, fg⟩
    rw [T293_142, if_pos (by rw [nI_ltI (by omega) (by omega)]; omega)]
    rfl
  | succ j ih =>
    intro k hk g z8 z9 fg gr gI
    rw [T293_142, if_neg (by rw [nI_ltI (by omega) (by omega)]; omega)]
    have K : ∀ q t, t + q = n → (∀ v, v < t → ¬ ((zhw R (zhN h s) A n k).2 v && zhG h b s v) = true) → ai_E (d + 2) 293 152 [some (.inr (.inr (32, 0, 16128))), z1, some (.inl b), some (.inl (nI s)), z4, z5, some (.inl (nI n)), some (.inl (nI (k + 1))), some (.inl (nI t)), z9] [] g = if zhp R (zhN h s) A (zhG h b s) n k then some ([.inl (nI (k + 1))], g) else ai_E (d + 2) 293 198 [some (.inr (.inr (32, 0, 16128))), z1, some (.inl b), some (.inl (nI s)), z4, z5, some (.inl (nI n)), some (.inl (nI (k + 1))), some (.inl 0), z9] [] g := by
      intro q
      induction q with
      | zero =>
        intro t hq hv
        rw [T293_152, if_pos (by rw [nI_leI (by omega) (by omega)]; omega), if_neg]
        intro c
        obtain ⟨v, v1, v2⟩ := zex_iff.mp c
        exact hv v (by omega) v2
      | succ q iq =>
        intro t hq hv
        have i24 : ∀ f : Nat → Option ai_R, ai_ix (nI t) 24 f = f t := fun f => z_ix (by omega) (by decide)
        have i96 : ∀ f : Nat → Option ai_R, ai_ix (nI t) 96 f = f t := fun f => z_ix (by omega) (by decide)
        obtain ⟨et, vt⟩ := zC_t hr (t := t) (by omega)
        have mt : g.1 2064397 t = zsl (zMv h) 0 12 t := by rw [zM_n fg (zMS_n (by decide) (by decide))]; exact (zs0 (f := 12) (by omega)).symm
        rw [T293_152, if_neg (by rw [nI_leI (by omega) (by omega)]; omega), i24]
        simp only [nI_1]
        by_cases c : (zhw R (zhN h s) A n k).2 t = true
        · rw [if_pos ((gI t (by omega)).1.mpr c), i96, mt, M190 _ _ vt hb]
          simp only [z_bi]
          by_cases c2 : zds (zsl (zMv h) 0 12 t) b ≤ s
          · rw [if_neg (by rw [nI_ltI (by omega) (by have := zds_le vt hb; omega)]; omega), if_pos]
            refine zex_iff.mpr ⟨t, by omega, ?_⟩
            rw [c]
            exact decide_eq_true c2
          · rw [if_pos (by rw [nI_ltI (by omega) (by have := zds_le vt hb; omega)]; omega)]
            refine iq (t + 1) (by omega) fun v hv2 => ?_
            by_cases e : v = t
            · subst e
              intro x
              rw [Bool.and_eq_true] at x
              exact c2 (of_decide_eq_true x.2)
            · exact hv v (by omega)
        · rw [if_neg (fun x => c ((gI t (by omega)).1.mp x))]
          refine iq (t + 1) (by omega) fun v hv2 => ?_
          by_cases e : v = t
          · subst e
            intro x
            rw [Bool.and_eq_true] at x
            exact c x.1
          · exact hv v (by omega)
    have K0 := K n 0 (Nat.zero_add _) (fun v hv => absurd hv (Nat.not_lt_zero _))
    rw [show nI 0 = 0 from rfl] at K0
    rw [K0]
    by_cases c : zhp R (zhN h s) A (zhG h b s) n k
    · refine ⟨g, ?_, fg⟩
      rw [if_pos c]
      show _ = some ([Sum.inl (zhv (if zhp R (zhN h s) A (zhG h b s) n k then some k else _))], g)
      rw [if_pos c]
      rfl
    · rw [if_neg c]
      have ez : zf (zhp R (zhN h s) A (zhG h b s) n) k (j + 1) = zf (zhp R (zhN h s) A (zhG h b s) n) (k + 1) j := by
        show (if zhp R (zhN h s) A (zhG h b s) n k then some k else _) = _
        rw [if_neg c]
      have c0 : ∀ v, ¬ zhC R (zhN h s) A n k 0 v = true := fun v q => by
        unfold zhC at q
        rw [show zex (fun v' => (zhw R (zhN h s) A n k).2 v' && zhN h s v' v) 0 = false from rfl, Bool.and_false] at q
        cases q
      obtain ⟨g1, z8', z9', w1, w2, w3, w4⟩ := M293_o (R := R) (A := A) (k := k) (D := g.1 2064469) d hr hn hs (by omega) (fun v hv => ⟨(gI v hv).1, (gI v hv).2.1⟩) b z1 z4 z5 n 0 (Nat.zero_add _) g z9 fg gr (fun v hv => by rw [if_neg (c0 v)])
      obtain ⟨g', y1, y2⟩ := ih (k + 1) (by omega) g1 z8' z9' w2 w3 (zhI_s (by omega) gI w4)
      rw [show nI 0 = 0 from rfl] at w1
      refine ⟨g', ?_, y2⟩
      rw [w1, ez]
      exact y1
theorem z_nand {p q : Prop} [Decidable p] [Decidable q] : vp_nar .boolean (zb p &&& zb q) = zb (p ∧ q) := by
  by_cases h1 : p
  · by_cases h2 : q
    · rw [zb_t h1, zb_t h2, zb_t ⟨h1, h2⟩]; decide
    · rw [zb_t h1, zb_f h2, zb_f (fun c => h2 c.2)]; decide
  · by_cases h2 : q
    · rw [zb_f h1, zb_t h2, zb_f (fun c => h1 c.1)]; decide
    · rw [zb_f h1, zb_f h2, zb_f (fun c => h1 c.1)]; decide
