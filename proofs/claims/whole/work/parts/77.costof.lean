/-! THE COUNCIL: the reference's way -/
theorem zcld_S {C : Nat → Nat} {c tr k : Nat} : zcld C c tr (k + 1) = zcld C c tr k + if zdg c k = tr + 1 then C k else 0 := rfl
theorem zcw_S {C : Nat → Nat} {c k : Nat} : zcw C c (k + 1) = zcw C c k + if zdg c k = 0 then C k else 0 := rfl
theorem zcld_mono {C : Nat → Nat} {c tr k : Nat} : ∀ j, zcld C c tr k ≤ zcld C c tr (k + j) := by
  intro j
  induction j with
  | zero => exact Nat.le_refl _
  | succ j ih =>
    rw [show k + (j + 1) = (k + j) + 1 from rfl, zcld_S]
    omega
theorem zcv_bad {C : Nat → Nat} {P : Nat → Nat → Bool} {T m k : Nat} {L : Nat → Nat} {c : Nat} (hk : k ≤ m) (h : ¬ (zcok P T c k ∧ zcin C T L c k)) : zcv C P T m L c = none := by
  unfold zcv
  rw [if_neg]
  rintro ⟨a, b⟩
  refine h ⟨fun i hi => a i (by omega), fun tr ht => ?_⟩
  have h1 := b tr ht
  have h2 := zcld_mono (C := C) (c := c) (tr := tr) (k := k) (m - k)
  rw [show k + (m - k) = m by omega] at h2
  omega
def zvo : Option Nat → Int32
  | none => -1
  | some v => nI v
/-- the reference's table of a council -/
def zmh (g : ai_H) (T m : Nat) (C J : Nat → Nat) (P : Nat → Nat → Bool) (L : Nat → Nat) : Prop := g.1 16128 77 = nI m ∧ g.1 16128 33 = nI T ∧ (∀ k, k < m → g.1 2064459 k = nI (J k) ∧ J k < 160 ∧ g.1 2064414 (J k) = nI (C k) ∧ ∀ t, t < T → g.1 2064461 (5 * k + t) = zb (P k t = true)) ∧ ∀ t, t < T → g.1 2064406 t = nI (L t)
theorem zmh_c {g g' : ai_H} {T m : Nat} {C J : Nat → Nat} {P : Nat → Nat → Bool} {L : Nat → Nat} (e : ∀ q, q ≠ 2064460 → q ≠ 16128 → g'.1 q = g.1 q) (e1 : g'.1 16128 77 = g.1 16128 77) (e2 : g'.1 16128 33 = g.1 16128 33) (h : zmh g T m C J P L) : zmh g' T m C J P L := by
  unfold zmh at h ⊢
  rw [e1, e2, e 2064459 (by decide) (by decide), e 2064414 (by decide) (by decide), e 2064461 (by decide) (by decide), e 2064406 (by decide) (by decide)]
  exact h
theorem M281 {g : ai_H} {T m : Nat} {C J : Nat → Nat} {P : Nat → Nat → Bool} {L : Nat → Nat} (d c : Nat) (hT : T ≤ 5) (hm : m ≤ 6) (hC : ∀ k, k < m → C k ≤ 9999) (hL : ∀ t, t < T → L t ≤ 99999) (hg : zmh g T m C J P L) (hc : c < 100000) : ∃ h', ai_X (d + 1) 281 [.inr (.inr (32, 0, 16128)), .inl (nI c)] g = some ([.inl (zvo (zcv C P T m L c))], h') ∧ h'.2 = g.2 ∧ ∀ q, q ≠ 2064460 → h'.1 q = g.1 q := by
  obtain ⟨g77, g33, gk, gc⟩ := hg
  have n6 : ¬ (6 : Int32) = 0 := by decide
  -- what is left at first
  have K1 : ∀ k i, i + k = T → ∀ g', g'.2 = g.2 → (∀ q, q ≠ 2064460 → g'.1 q = g.1 q) → (∀ t, t < i → g'.1 2064460 t = nI (L t)) → ∀ z3 z4 z5 z6, ∃ g2, ai_E d 281 2 [some (.inr (.inr (32, 0, 16128))), some (.inl (nI c)), some (.inl (nI i)), z3, z4, z5, z6] [] g' = ai_E d 281 35 [some (.inr (.inr (32, 0, 16128))), some (.inl (nI c)), some (.inl 0), some (.inl (nI c)), some (.inl 0), z5, z6] [] g2 ∧ g2.2 = g.2 ∧ (∀ q, q ≠ 2064460 → g2.1 q = g.1 q) ∧ ∀ t, t < T → g2.1 2064460 t = nI (L t) := by
    intro k
    induction k with
    | zero =>
      intro i hi g' g2 fg gl z3 z4 z5 z6
      have hi : i = T := by omega
      subst hi
      exact ⟨g', by rw [T281_2, fg 16128 (by decide), g33, if_pos (by rw [z_le]; omega)], g2, fg, gl⟩
    | succ k ih =>
      intro i hi g' g2 fg gl z3 z4 z5 z6
      have i20 : ∀ f : Nat → Option ai_R, ai_ix (nI i) 20 f = f i := fun f => z_ix (by omega) (by decide)
      have i5 : ∀ f : Nat → Option ai_R, ai_ix (nI i) 5 f = f i := fun f => z_ix (by omega) (by decide)
      rw [T281_2, fg 16128 (by decide), g33, if_neg (by rw [nI_leI (by omega) (by omega)]; omega), i20, i5, fg 2064406 (by decide), gc i (by omega), nI_1]
      refine ih (i + 1) (by omega) (ai_st g' 2064460 i (nI (L i))) g2 (fun q hq => by rw [z_ne hq]; exact fg q hq) (fun t ht => ?_) z3 z4 z5 z6
      rw [z_st1]
      by_cases e : t = i
      · rw [if_pos ⟨rfl, e⟩, e]
      · rw [if_neg (fun x => e x.2)]
        exact gl t (by omega)
  have K2 : ∀ k i, i + k = m → ∀ g', g'.2 = g.2 → (∀ q, q ≠ 2064460 → g'.1 q = g.1 q) → zcok P T c i → zcin C T L c i → (∀ t, t < T → g'.1 2064460 t = nI (L t - zcld C c t i)) → ∀ z1 z5 z6, ∃ h', ai_E d 281 35 [some (.inr (.inr (32, 0, 16128))), z1, some (.inl (nI (zcw C c i))), some (.inl (nI (c / 6 ^ i))), some (.inl (nI i)), z5, z6] [] g' = some ([.inl (zvo (zcv C P T m L c))], h') ∧ h'.2 = g.2 ∧ ∀ q, q ≠ 2064460 → h'.1 q = g.1 q := by
    intro k
    induction k with
    | zero =>
      intro i hi g' g2 fg hok hin gl z1 z5 z6
      have hi : i = m := by omega
      subst hi
      refine ⟨g', ?_, g2, fg⟩
      rw [T281_35, fg 16128 (by decide), g77, if_pos (by rw [z_le]; omega)]
      unfold zcv
      rw [if_pos ⟨hok, hin⟩]
      rfl
    | succ k ih =>
      intro i hi g' g2 fg hok hin gl z1 z5 z6
      have ih := ih (i + 1) (by omega)
      have i6 : ∀ f : Nat → Option ai_R, ai_ix (nI i) 6 f = f i := fun f => z_ix (by omega) (by decide)
      obtain ⟨k1, k2, k3, k4⟩ := gk i (by omega)
      have iJ : ∀ f : Nat → Option ai_R, ai_ix (nI (J i)) 160 f = f (J i) := fun f => z_ix k2 (by decide)
      have hdl : c / 6 ^ i < 100000 := Nat.lt_of_le_of_lt (Nat.div_le_self _ _) hc
      have hdg : c / 6 ^ i % 6 = zdg c i := rfl
      have dl := zdg_lt (c := c) (i := i)
      have er : ai_rem (nI (c / 6 ^ i)) 6 = nI (zdg c i) := by rw [show (6 : Int32) = nI 6 from rfl, nI_rem (by omega) (by decide), hdg]
      have ed : nI (c / 6 ^ i) / 6 = nI (c / 6 ^ (i + 1)) := by rw [show (6 : Int32) = nI 6 from rfl, nI_div (by omega) (by decide), Nat.div_div_eq_div_mul, ← Nat.pow_succ]
      have hCi := hC i (by omega)
      have ew : zcw C c i ≤ 9999 * i := zcw_le fun j hj => hC j (by omega)
      rw [T281_35, fg 16128 (by decide), g77, if_neg (by rw [nI_leI (by omega) (by omega)]; omega), if_neg n6, i6, fg 2064459 (by decide), k1, iJ, if_neg n6, er, ed, fg 2064414 (by decide), k3, g33, nI_1]
      by_cases d0 : zdg c i = 0
      · have e0 : ¬ (0 : Int32) ≤ nI (zdg c i) - 1 := by rw [d0]; decide
        rw [if_neg e0, nI_add]
        have hw : zcw C c (i + 1) = zcw C c i + C i := by rw [zcw_S, if_pos d0]
        rw [← hw]
        refine ih g' g2 fg (fun j hj => ?_) (fun t ht => ?_) (fun t ht => ?_) z1 _ _
        · by_cases e : j = i
          · rw [e]; exact Or.inl d0
          · exact hok j (by omega)
        · rw [zcld_S, if_neg (by omega)]
          exact hin t ht
        · rw [zcld_S, if_neg (by omega)]
          exact gl t ht
      · obtain ⟨t, ht⟩ : ∃ t, zdg c i = t + 1 := ⟨zdg c i - 1, by omega⟩
        have e1 : nI (zdg c i) - 1 = nI t := by rw [ht]; exact nI_pred t
        rw [e1, if_pos (nI_pos' (by omega))]
        by_cases c1 : T ≤ t
        · rw [if_pos (by rw [nI_leI (by omega) (by omega)]; exact c1), zcv_bad (k := i + 1) (by omega) (fun x => by
            have := x.1 i (by omega)
            omega)]
          exact ⟨g', rfl, g2, fg⟩
        · have it : ∀ f : Nat → Option ai_R, ai_ix (nI t) 5 f = f t := fun f => z_ix (by omega) (by decide)
          have i30 : ∀ f : Nat → Option ai_R, ai_ix ((5 : Int32) * nI i + nI t) 30 f = f (5 * i + t) := fun f => by
            rw [show (5 : Int32) = nI 5 from rfl, pk_mul, nI_add]
            exact z_ix (by omega) (by decide)
          rw [if_neg (by rw [nI_leI (by omega) (by omega)]; exact c1), i30, fg 2064461 (by decide), k4 t (by omega)]
          by_cases c2 : P i t = true
          · rw [if_neg (by rw [zb_0]; exact fun x => x c2), it, it, it, gl t (by omega)]
            have hl1 := hin t (by omega)
            have hl2 := hL t (by omega)
            by_cases c3 : C i ≤ L t - zcld C c t i
            · rw [if_pos (by rw [nI_leI (by omega) (by omega)]; exact c3), pk_sub c3]
              have hw : zcw C c (i + 1) = zcw C c i := by rw [zcw_S, if_neg d0]; rfl
              rw [← hw]
              refine ih (ai_st g' 2064460 t _) g2 (fun q hq => by rw [z_ne hq]; exact fg q hq) (fun j hj => ?_) (fun s hs => ?_) (fun s hs => ?_) z1 _ _
              · by_cases e : j = i
                · rw [e]; exact Or.inr ⟨by omega, by rw [ht]; exact c2⟩
                · exact hok j (by omega)
              · rw [zcld_S]
                by_cases e : s = t
                · rw [if_pos (by omega), e]; omega
                · rw [if_neg (by omega)]
                  exact hin s hs
              · rw [z_st1, zcld_S]
                by_cases e : s = t
                · rw [if_pos ⟨rfl, e⟩, if_pos (by omega), e, Nat.sub_sub]
                · rw [if_neg (fun x => e x.2), if_neg (by omega)]
                  exact gl s hs
            · rw [if_neg (by rw [nI_leI (by omega) (by omega)]; exact c3), zcv_bad (k := i + 1) (by omega) (fun x => by
                have := x.2 t (by omega)
                rw [zcld_S, if_pos ht] at this
                omega)]
              exact ⟨g', rfl, g2, fg⟩
          · rw [if_pos (by rw [zb_0]; exact c2), zcv_bad (k := i + 1) (by omega) (fun x => by
              have := x.1 i (by omega)
              rcases this with q | q
              · omega
              · rw [ht] at q
                exact c2 q.2)]
            exact ⟨g', rfl, g2, fg⟩
  obtain ⟨g2, a1, a2, a3, a4⟩ := K1 T 0 (by omega) g rfl (fun _ _ => rfl) (fun t ht => by omega) none none none none
  have e0 : c / 6 ^ 0 = c := Nat.div_one c
  obtain ⟨h', b1, b2, b3⟩ := K2 m 0 (by omega) g2 a2 a3 (fun i hi => by omega) (fun t _ => Nat.zero_le _) (fun t ht => by rw [a4 t ht]; rfl) (some (.inl (nI c))) none none
  rw [e0] at b1
  exact ⟨h', by rw [T281]; exact a1.trans b1, b2, b3⟩
/-- code 0 always goes -/
theorem zcv_00 {C : Nat → Nat} {P : Nat → Nat → Bool} {T m : Nat} {L : Nat → Nat} : zcv C P T m L 0 = some (zcw C 0 m) := by
  have dz : ∀ i, zdg 0 i = 0 := fun i => by unfold zdg; rw [Nat.zero_div]
  have lz : ∀ tr k, zcld C 0 tr k = 0 := fun tr k => by
    induction k with
    | zero => rfl
    | succ k ih => rw [zcld_S, ih, dz, if_neg (by omega)]
  unfold zcv
  rw [if_pos ⟨fun i _ => Or.inl (dz i), fun tr _ => by rw [lz]; exact Nat.zero_le _⟩]
theorem zcv_le {C : Nat → Nat} {P : Nat → Nat → Bool} {T m : Nat} {L : Nat → Nat} {c v : Nat} (hm : m ≤ 6) (hC : ∀ k, k < m → C k ≤ 9999) (h : zcv C P T m L c = some v) : v ≤ 60000 := by
  unfold zcv at h
  split at h
  · have := Option.some.inj h
    have := zcw_le (C := C) (c := c) (B := 9999) (k := m) hC
    omega
  · cases h
def zcrf (C : Nat → Nat) (P : Nat → Nat → Bool) (T m : Nat) (L : Nat → Nat) (n : Nat) : Nat × Nat := zfd (zcv C P T m L) 0 n (1073741824, 0)
theorem M282l {g : ai_H} {T m : Nat} {C J : Nat → Nat} {P : Nat → Nat → Bool} {L : Nat → Nat} (d : Nat) (hT : T ≤ 5) (hm : m ≤ 6) (hC : ∀ k, k < m → C k ≤ 9999) (hL : ∀ t, t < T → L t ≤ 99999) (hg : zmh g T m C J P L) : ∃ h', ai_E (d + 1) 282 8 [some (.inr (.inr (32, 0, 16128))), some (.inl 1), some (.inl 0), none] [] g = some ([], h') ∧ h'.2 = g.2 ∧ (∀ q, q ≠ 2064460 → q ≠ 16128 → h'.1 q = g.1 q) ∧ (∀ j, j ≠ 78 → j ≠ 79 → h'.1 16128 j = g.1 16128 j) ∧ h'.1 16128 78 = nI (zcrf C P T m L (6 ^ m)).1 ∧ h'.1 16128 79 = nI (zcrf C P T m L (6 ^ m)).2 ∧ (zcrf C P T m L (6 ^ m)).1 ≤ 60000 := by
  have K1 : ∀ k i, i + k = m → ai_E (d + 1) 282 8 [some (.inr (.inr (32, 0, 16128))), some (.inl (nI (6 ^ i))), some (.inl (nI i)), none] [] g = ai_E (d + 1) 282 39 [some (.inr (.inr (32, 0, 16128))), some (.inl (nI (6 ^ m))), some (.inl 0), none] [] (ai_st (ai_st g 16128 78 (-1)) 16128 79 0) := by
    intro k
    induction k with
    | zero =>
      intro i hi
      have hi : i = m := by omega
      subst hi
      rw [T282_8, hg.1, if_pos (by rw [z_le]; omega)]
    | succ k ih =>
      intro i hi
      rw [T282_8, hg.1, if_neg (by rw [nI_leI (by omega) (by omega)]; omega), show (6 : Int32) = nI 6 from rfl, pk_mul, ← Nat.pow_succ, nI_1]
      exact ih (i + 1) (by omega)
  have p6 := z_p6 (p := m) hm
  have pp : 0 < 6 ^ m := Nat.pow_pos (by decide)
  have K2 : ∀ k i, i + k = 6 ^ m → ∀ g', g'.2 = g.2 → (∀ q, q ≠ 2064460 → q ≠ 16128 → g'.1 q = g.1 q) → (∀ j, j ≠ 78 → j ≠ 79 → g'.1 16128 j = g.1 16128 j) → ((i = 0 ∧ g'.1 16128 78 = -1 ∧ g'.1 16128 79 = 0) ∨ (1 ≤ i ∧ g'.1 16128 78 = nI (zcrf C P T m L i).1 ∧ g'.1 16128 79 = nI (zcrf C P T m L i).2 ∧ (zcrf C P T m L i).1 ≤ 60000)) → ∀ z3, ∃ h', ai_E (d + 1) 282 39 [some (.inr (.inr (32, 0, 16128))), some (.inl (nI (6 ^ m))), some (.inl (nI i)), z3] [] g' = some ([], h') ∧ h'.2 = g.2 ∧ (∀ q, q ≠ 2064460 → q ≠ 16128 → h'.1 q = g.1 q) ∧ (∀ j, j ≠ 78 → j ≠ 79 → h'.1 16128 j = g.1 16128 j) ∧ h'.1 16128 78 = nI (zcrf C P T m L (6 ^ m)).1 ∧ h'.1 16128 79 = nI (zcrf C P T m L (6 ^ m)).2 ∧ (zcrf C P T m L (6 ^ m)).1 ≤ 60000 := by
    intro k
    induction k with
    | zero =>
      intro i hi g' g2 fg fj st z3
      have hi : i = 6 ^ m := by omega
      subst hi
      rcases st with st | ⟨s1, s2, s3, s4⟩
      · omega
      · exact ⟨g', by rw [T282_39, if_pos (by rw [z_le]; omega)], g2, fg, fj, s2, s3, s4⟩
    | succ k ih =>
      intro i hi g' g2 fg fj st z3
      have ih := ih (i + 1) (by omega)
      obtain ⟨h1, a1, a2, a3⟩ := M281 (g := g') (C := C) (J := J) (P := P) (L := L) d i hT hm hC hL (zmh_c fg (fj 77 (by decide) (by decide)) (fj 33 (by decide) (by decide)) hg) (by omega)
      have h15 : h1.1 16128 = g'.1 16128 := a3 _ (by decide)
      have fg1 : ∀ q, q ≠ 2064460 → q ≠ 16128 → h1.1 q = g.1 q := fun q n1 n2 => (a3 q n1).trans (fg q n1 n2)
      have es : zcrf C P T m L (i + 1) = zstp (zcv C P T m L) (zcrf C P T m L i) (0 + i) := rfl
      rw [Nat.zero_add] at es
      have Set : ∀ v, zcrf C P T m L (i + 1) = (v, i) → v ≤ 60000 → ∀ z3, ∃ h', ai_E (d + 1) 282 39 [some (.inr (.inr (32, 0, 16128))), some (.inl (nI (6 ^ m))), some (.inl (nI (i + 1))), z3] [] (ai_st (ai_st h1 16128 78 (nI v)) 16128 79 (nI i)) = some ([], h') ∧ h'.2 = g.2 ∧ (∀ q, q ≠ 2064460 → q ≠ 16128 → h'.1 q = g.1 q) ∧ (∀ j, j ≠ 78 → j ≠ 79 → h'.1 16128 j = g.1 16128 j) ∧ h'.1 16128 78 = nI (zcrf C P T m L (6 ^ m)).1 ∧ h'.1 16128 79 = nI (zcrf C P T m L (6 ^ m)).2 ∧ (zcrf C P T m L (6 ^ m)).1 ≤ 60000 := by
        intro v ev lv z3
        refine ih (ai_st (ai_st h1 16128 78 (nI v)) 16128 79 (nI i)) (a2.trans g2) (fun q n1 n2 => by rw [z_ne n2, z_ne n2]; exact fg1 q n1 n2) (fun j n1 n2 => by rw [z_st1, if_neg (fun x => n2 x.2), z_st1, if_neg (fun x => n1 x.2), h15]; exact fj j n1 n2) (Or.inr ⟨by omega, ?_, ?_, ?_⟩) z3
        · rw [z_st1, if_neg (by decide), z_stS, ev]
        · rw [z_stS, ev]
        · rw [ev]; exact lv
      have Keep : 1 ≤ i → zcrf C P T m L (i + 1) = zcrf C P T m L i → ∀ z3, ∃ h', ai_E (d + 1) 282 39 [some (.inr (.inr (32, 0, 16128))), some (.inl (nI (6 ^ m))), some (.inl (nI (i + 1))), z3] [] h1 = some ([], h') ∧ h'.2 = g.2 ∧ (∀ q, q ≠ 2064460 → q ≠ 16128 → h'.1 q = g.1 q) ∧ (∀ j, j ≠ 78 → j ≠ 79 → h'.1 16128 j = g.1 16128 j) ∧ h'.1 16128 78 = nI (zcrf C P T m L (6 ^ m)).1 ∧ h'.1 16128 79 = nI (zcrf C P T m L (6 ^ m)).2 ∧ (zcrf C P T m L (6 ^ m)).1 ≤ 60000 := by
        intro hi1 ev z3
        refine ih h1 (a2.trans g2) fg1 (fun j n1 n2 => by rw [h15]; exact fj j n1 n2) (Or.inr ⟨by omega, ?_⟩) z3
        rcases st with st | ⟨s1, s2, s3, s4⟩
        · omega
        · rw [h15, ev]
          exact ⟨s2, s3, s4⟩
      rw [T282_39, if_neg (by rw [nI_leI (by omega) (by omega)]; omega), a1]
      simp only [z_bi, nI_1, h15]
      rcases st with ⟨s0, s2, s3⟩ | ⟨s1, s2, s3, s4⟩
      · have e0 : zcv C P T m L i = some (zcw C 0 m) := by rw [s0]; exact zcv_00
        have lv := zcv_le hm hC e0
        have es2 : zcrf C P T m L (i + 1) = (zcw C 0 m, i) := by
          rw [es]
          unfold zstp
          rw [e0]
          dsimp only
          rw [s0]
          show (if zcw C 0 m < 1073741824 then (zcw C 0 m, 0) else _) = _
          rw [if_pos (by omega)]
        have ez : zvo (zcv C P T m L i) = nI (zcw C 0 m) := by rw [e0]; rfl
        rw [ez, if_neg (nI_pos (by omega)), s2, if_pos (by decide)]
        exact Set _ es2 lv _
      · cases e : zcv C P T m L i with
        | none =>
          have ez : zvo (none : Option Nat) < 0 := by show (-1 : Int32) < 0; decide
          rw [if_pos ez]
          refine Keep s1 ?_ _
          rw [es]
          unfold zstp
          rw [e]
        | some v =>
          have lv := zcv_le hm hC e
          have ez : ¬ zvo (some v) < 0 := nI_pos (n := v) (by omega)
          rw [if_neg ez, s2, if_neg (nI_pos (by omega))]
          by_cases c1 : v < (zcrf C P T m L i).1
          · rw [if_pos (show zvo (some v) < nI (zcrf C P T m L i).1 from (nI_ltI (by omega) (by omega)).mpr c1)]
            refine Set v ?_ lv _
            rw [es]
            unfold zstp
            rw [e]
            dsimp only
            rw [if_pos c1]
          · rw [if_neg (show ¬ zvo (some v) < nI (zcrf C P T m L i).1 from fun x => c1 ((nI_ltI (by omega) (by omega)).mp x))]
            refine Keep s1 ?_ _
            rw [es]
            unfold zstp
            rw [e]
            dsimp only
            rw [if_neg c1]
  have e1 := K1 m 0 (by omega)
  obtain ⟨h', b1, b2⟩ := K2 (6 ^ m) 0 (by omega) (ai_st (ai_st g 16128 78 (-1)) 16128 79 0) rfl (fun q n1 n2 => by rw [z_ne n2, z_ne n2]) (fun j n1 n2 => by rw [z_st1, if_neg (fun x => n2 x.2), z_st1, if_neg (fun x => n1 x.2)]) (Or.inl ⟨rfl, by rw [z_st1, if_neg (by decide), z_stS], z_stS⟩) none
  exact ⟨h', e1.trans b1, b2⟩
