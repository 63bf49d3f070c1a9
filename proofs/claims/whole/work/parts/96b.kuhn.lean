/-! NAMES REMEMBERED: the class's -/
def zmt : Option Nat → Int32
  | none => -1
  | some x => nI x
def zkn (g : ai_H) (F : Nat → Nat → Bool) (D : Nat) : Prop := g.1 16389 0 = nI D ∧ ∀ t, t < 24 → g.1 2097795 t = nI (zB (fun q => F t q = true) D)
def zko (g : ai_H) (M : Nat → Option Nat) : Prop := ∀ q, q < 20 → g.1 2097799 q = zmt (M q)
def zks (g : ai_H) (S : Nat → Bool) : Prop := g.1 16389 7 = nI (zB (fun q => S q = true) 20)
def zkX (q j : Nat) : Prop := q = 2097799 ∨ (q = 16389 ∧ j = 7)
theorem zkX_s {q j : Nat} (h : zkX q j) : zXS q j := by
  unfold zXS
  unfold zkX at h
  omega
theorem zkn_c {g g' : ai_H} {F : Nat → Nat → Bool} {D : Nat} (f : zF zkX g g') (h : zkn g F D) : zkn g' F D :=
  ⟨by rw [f.1 _ _ (by unfold zkX; omega)]; exact h.1, fun t ht => by rw [f.1 _ _ (by unfold zkX; omega)]; exact h.2 t ht⟩
/-- so many are unseen -/
def zun (S : Nat → Bool) (D : Nat) : Nat := zcnt (fun q => (!S q) = true) D
def zsi (S : Nat → Bool) (j : Nat) : Nat → Bool := fun q => S q || decide (q = j)
theorem zsi_j {S : Nat → Bool} {j : Nat} : zsi S j j = true := by unfold zsi; rw [decide_eq_true (show j = j from rfl), Bool.or_true]
theorem zsi_m {S : Nat → Bool} {j q : Nat} (h : S q = true) : zsi S j q = true := by unfold zsi; rw [h, Bool.true_or]
theorem zsi_i {S : Nat → Bool} {j q : Nat} (h : zsi S j q = true) : S q = true ∨ q = j := by
  unfold zsi at h
  rw [Bool.or_eq_true] at h
  exact h.imp id of_decide_eq_true
theorem zun_lt {S S2 : Nat → Bool} {D j : Nat} (hs : ∀ q, S q = true → S2 q = true) (hj : j < D) (h0 : S2 j = false) : zun (zsi S2 j) D + 1 ≤ zun S D := by
  refine zcnt_more (p := fun q => !zsi S2 j q) (q := fun q => !S q) (t := j) (fun q _ h => ?_) hj (by rw [zsi_j]; rfl) ?_
  · cases e : S q with
    | false => rfl
    | true => rw [zsi_m (hs q e)] at h; cases h
  · cases e : S j with
    | false => rfl
    | true => rw [hs j e] at h0; cases h0
theorem X49 {D : Nat} {F : Nat → Nat → Bool} (hD : D ≤ 20) : ∀ u (d : Nat) (g : ai_H) (M : Nat → Option Nat) (S : Nat → Bool) (x k : Nat), zun S D ≤ u → k + u ≤ 20 → x < 24 → (∀ q y, M q = some y → y < 24) → zkn g F D → zko g M → zks g S → ∃ v g' M' S', ai_X (d + u + 2) 49 [.inr (.inr (26, 0, 16389)), .inl (nI x), .inl (nI k)] g = some ([.inl v], g') ∧ zF zkX g g' ∧ zko g' M' ∧ zks g' S' ∧ (∀ q, S q = true → S' q = true) ∧ ((v = 0 ∧ M' = M ∧ (∀ q, q < D → F x q = true → S' q = true) ∧ ∀ q, S' q = true → S q = false → ∃ y, M q = some y ∧ ∀ e, e < D → F y e = true → S' e = true) ∨ (v = 1 ∧ zsuc M M' S x ∧ ((∀ q y, M q = some y → q < D ∧ F y q = true) → ∀ q y, M' q = some y → q < D ∧ F y q = true) ∧ ∀ q y, M' q = some y → y < 24)) := by
  intro u
  induction u using Nat.strongRecOn with
  | ind u ih =>
    intro d g M S x k hu hk hx hM hn ho hs
    have K : ∀ q j, j + q = D → ∀ (g2 : ai_H) (S2 : Nat → Bool), zF zkX g g2 → zko g2 M → zks g2 S2 → (∀ q, S q = true → S2 q = true) → (∀ q, q < j → F x q = true → S2 q = true) → (∀ q, S2 q = true → S q = false → ∃ y, M q = some y ∧ ∀ e, e < D → F y e = true → S2 e = true) → ∃ v g' M' S', ai_E (d + u + 1) 49 10 [some (.inr (.inr (26, 0, 16389))), some (.inl (nI x)), some (.inl (nI k)), some (.inl (nI j))] [] g2 = some ([.inl v], g') ∧ zF zkX g g' ∧ zko g' M' ∧ zks g' S' ∧ (∀ q, S q = true → S' q = true) ∧ ((v = 0 ∧ M' = M ∧ (∀ q, q < D → F x q = true → S' q = true) ∧ ∀ q, S' q = true → S q = false → ∃ y, M q = some y ∧ ∀ e, e < D → F y e = true → S' e = true) ∨ (v = 1 ∧ zsuc M M' S x ∧ ((∀ q y, M q = some y → q < D ∧ F y q = true) → ∀ q y, M' q = some y → q < D ∧ F y q = true) ∧ ∀ q y, M' q = some y → y < 24)) := by
      intro q
      induction q with
      | zero =>
        intro j hj g2 S2 f2 o2 s2 m2 n2 c2
        have hj : j = D := by omega
        subst hj
        refine ⟨0, g2, M, S2, ?_, f2, o2, s2, m2, Or.inl ⟨rfl, rfl, n2, c2⟩⟩
        rw [T49_10, (zkn_c f2 hn).1, if_pos (by rw [z_le]; omega), z_b0]
      | succ q iq =>
        intro j hj g2 S2 f2 o2 s2 m2 n2 c2
        have hn2 := zkn_c f2 hn
        have h159 := X159B (p := fun q => F x q = true ∧ ¬ S2 q = true) (n := D) (i := j) (d + u) g2 (by omega) (by omega)
        have j20 : ∀ f : Nat → Option ai_R, ai_ix (nI j) 20 f = f j := fun f => z_ix (by omega) (by decide)
        have hs2 : g2.1 16389 7 = nI (zB (fun q => S2 q = true) 20) := s2
        rw [T49_10, hn2.1, if_neg (by rw [nI_leI (by omega) (by omega)]; omega), z_ix (by omega) (by decide), hn2.2 x hx, hs2, zB_andn2 (by omega) (by omega) hD, h159]
        simp only [z_bi, zb_0, nI_1]
        by_cases c : F x j = true ∧ ¬ S2 j = true
        · have hS2j : S2 j = false := zbF c.2
          have hSj : S j = false := by
            cases e : S j with
            | false => rfl
            | true => rw [m2 j e] at hS2j; cases hS2j
          have hul := zun_lt m2 (show j < D by omega) hS2j
          have eB : zB (fun q => S2 q = true) 20 ||| 2 ^ j = zB (fun q => zsi S2 j q = true) 20 := zB_ins (by omega) fun i _ => ⟨fun h => zsi_i h, fun h => by
            rcases h with h | h
            · exact zsi_m h
            · subst h; exact zsi_j⟩
          rw [if_neg (fun q => q c), j20, hs2, z_bit (by omega), z_or, eB]
          simp only [j20]
          rw [z_ne (show (2097799 : Nat) ≠ 16389 by decide), o2 j (by omega)]
          have f3 : zF zkX g (ai_st g2 16389 7 (nI (zB (fun q => zsi S2 j q = true) 20))) := zF_st f2 (Or.inr ⟨rfl, rfl⟩)
          have o3 : zko (ai_st g2 16389 7 (nI (zB (fun q => zsi S2 j q = true) 20))) M := fun q hq => by rw [z_ne (by decide)]; exact o2 q hq
          have s3 : zks (ai_st g2 16389 7 (nI (zB (fun q => zsi S2 j q = true) 20))) (zsi S2 j) := z_stS
          have m3 : ∀ q, S q = true → zsi S2 j q = true := fun q hq => zsi_m (m2 q hq)
          have put : ∀ (g4 : ai_H) (M4 : Nat → Option Nat), zko g4 M4 → zko (ai_st g4 2097799 j (nI x)) (zpt M4 j x) := fun g4 M4 o4 q hq => by
            rw [z_st1]
            by_cases e : q = j
            · subst e; rw [if_pos ⟨rfl, rfl⟩, zpt_s]; rfl
            · rw [if_neg (fun c => e c.2), zpt_o e]; exact o4 q hq
          cases eM : M j with
          | none =>
            rw [if_pos (show zmt none = -1 from rfl), z_b1]
            refine ⟨1, _, zpt M j x, zsi S2 j, rfl, zF_st f3 (Or.inl rfl), put _ _ o3, by unfold zks; rw [z_st1, if_neg (by omega)]; exact s3, m3, Or.inr ⟨rfl, zsuc_0 hSj eM, fun hv q y hq => ?_, fun q y hq => ?_⟩⟩
            · by_cases e : q = j
              · subst e; rw [zpt_s] at hq; cases hq; exact ⟨by omega, c.1⟩
              · rw [zpt_o e] at hq; exact hv q y hq
            · by_cases e : q = j
              · subst e; rw [zpt_s] at hq; cases hq; exact hx
              · rw [zpt_o e] at hq; exact hM q y hq
          | some y =>
            have hy := hM j y eM
            have ezy : zmt (some y) = nI y := rfl
            rw [ezy, if_neg (by rw [z_eq, z_T (by omega)]; simp only [zlm1]; omega)]
            obtain ⟨v, g', M', S', w1, w2, w3, w4, w5, w6⟩ := ih (u - 1) (by omega) d (ai_st g2 16389 7 (nI (zB (fun q => zsi S2 j q = true) 20))) M (zsi S2 j) y (k + 1) (by omega) (by omega) hy hM (zkn_c f3 hn) o3 s3
            rw [show d + (u - 1) + 2 = d + u + 1 by omega] at w1
            rw [w1]
            simp only [z_bi]
            have fg := zF_tr f3 w2
            have mg : ∀ q, S q = true → S' q = true := fun q hq => w5 q (m3 q hq)
            rcases w6 with ⟨v0, eM', n', c'⟩ | ⟨v1, su, fv, l24⟩
            · rw [if_pos v0]
              rw [eM'] at w3
              refine iq (j + 1) (by omega) g' S' fg w3 w4 mg (fun e he hF => ?_) (fun e he hS => ?_)
              · by_cases ee : e = j
                · subst ee; exact w5 e zsi_j
                · exact w5 e (zsi_m (n2 e (by omega) hF))
              · cases e1 : zsi S2 j e with
                | false =>
                  obtain ⟨z, z1, z2⟩ := c' e he e1
                  exact ⟨z, z1, z2⟩
                | true =>
                  rcases zsi_i e1 with q1 | q1
                  · obtain ⟨z, z1, z2⟩ := c2 e q1 hS
                    exact ⟨z, z1, fun r r1 r2 => w5 r (zsi_m (z2 r r1 r2))⟩
                  · subst q1
                    exact ⟨y, eM, n'⟩
            · rw [if_neg (by rw [v1]; decide), z_b1]
              refine ⟨1, _, zpt M' j x, S', rfl, zF_st fg (Or.inl rfl), put _ _ w3, by unfold zks; rw [z_st1, if_neg (by omega)]; exact w4, mg, Or.inr ⟨rfl, zsuc_S m3 hSj zsi_j eM su, fun hv q z hq => ?_, fun q z hq => ?_⟩⟩
              · by_cases e : q = j
                · subst e; rw [zpt_s] at hq; cases hq; exact ⟨by omega, c.1⟩
                · rw [zpt_o e] at hq; exact fv hv q z hq
              · by_cases e : q = j
                · subst e; rw [zpt_s] at hq; cases hq; exact hx
                · rw [zpt_o e] at hq; exact l24 q z hq
        · rw [if_pos c]
          refine iq (j + 1) (by omega) g2 S2 f2 o2 s2 m2 (fun e he hF => ?_) c2
          by_cases ee : e = j
          · subst ee
            cases e2 : S2 e with
            | true => rfl
            | false => exact absurd ⟨hF, by rw [e2]; exact Bool.false_ne_true⟩ c
          · exact n2 e (by omega) hF
    have K0 := K D 0 (Nat.zero_add _) g S zF_rf ho hs (fun _ h => h) (fun q hq => absurd hq (Nat.not_lt_zero _)) (fun q h1 h2 => by rw [h1] at h2; cases h2)
    rw [show d + u + 2 = d + u + 1 + 1 from rfl, T49, if_pos (by rw [show (20 : Int32) = nI 20 from rfl, nI_leI (by omega) (by omega)]; omega)]
    exact K0
/-- a step of a part of a way -/
theorem zmat_s {M M' : Nat → Option Nat} {F : Nat → Nat → Bool} {P : Nat → Prop} {D o t : Nat} (hm : zmat M F P D o t) (hp : P t) (hs : zsuc M M' (fun q => decide (q = o)) t) (hv : (∀ q y, M q = some y → q < D ∧ F y q = true) → ∀ q y, M' q = some y → q < D ∧ F y q = true) : zmat M' F P D o (t + 1) := by
  obtain ⟨m1, m2, m3⟩ := hm
  have f1 := hv fun q y h => ⟨(m1 q y h).1, (m1 q y h).2.2.1⟩
  have no : M' o = none := by
    have h0 := hs.1 o (decide_eq_true rfl)
    cases e : M o with
    | none => rw [h0, e]
    | some y => exact absurd rfl (m1 o y e).2.1
  have nd : ∀ q y, M' q = some y → decide (q = o) = false := fun q y h => decide_eq_false (fun e => by rw [e, no] at h; cases h)
  have nd0 : ∀ q y, M q = some y → decide (q = o) = false := fun q y h => decide_eq_false (m1 q y h).2.1
  obtain ⟨k1, k2⟩ := hs.2 (fun d e y _ _ h1 h2 => m2 d e y h1 h2) (fun ⟨d, _, h⟩ => by have := (m1 d t h).2.2.2.1; omega)
  refine ⟨fun d y h => ?_, fun d e y h1 h2 => k1 d e y (nd d y h1) (nd e y h2) h1 h2, fun y hy hP => ?_⟩
  · have h2 := (k2 y).mp ⟨d, nd d y h, h⟩
    refine ⟨(f1 d y h).1, (fun e => by rw [e, no] at h; cases h), (f1 d y h).2, ?_⟩
    rcases h2 with ⟨e, -, e2⟩ | e
    · have := (m1 e y e2).2.2.2
      exact ⟨by omega, this.2⟩
    · subst e; exact ⟨Nat.lt_succ_self _, hp⟩
  · by_cases e : y = t
    · subst e
      obtain ⟨d, -, d2⟩ := (k2 y).mpr (Or.inr rfl)
      exact ⟨d, d2⟩
    · obtain ⟨d, d1⟩ := m3 y (by omega) hP
      obtain ⟨e, -, e2⟩ := (k2 y).mpr (Or.inl ⟨d, nd0 d y d1, d1⟩)
      exact ⟨e, e2⟩
theorem zmat_n {M : Nat → Option Nat} {F : Nat → Nat → Bool} {P : Nat → Prop} {D o t : Nat} (hm : zmat M F P D o t) (hp : ¬ P t) : zmat M F P D o (t + 1) := by
  obtain ⟨m1, m2, m3⟩ := hm
  refine ⟨fun d y h => ?_, m2, fun y hy hP => ?_⟩
  · obtain ⟨a, b, c, e, f⟩ := m1 d y h
    exact ⟨a, b, c, by omega, f⟩
  · exact m3 y (by
      rcases Nat.lt_or_ge y t with q | q
      · exact q
      · have : y = t := by omega
        subst this
        exact absurd hP hp) hP
theorem zmat_0 {F : Nat → Nat → Bool} {P : Nat → Prop} {D o : Nat} : zmat (fun _ => none) F P D o 0 := ⟨(fun d y h => by cases h), (fun d e y h => by cases h), fun y hy => absurd hy (Nat.not_lt_zero _)⟩
theorem X324d (d : Nat) (h : ai_H) : ∃ h1, ai_X (d + 1) 324 [.inr (.inr (1, 20, 2097799)), .inl (-1)] h = some ([], h1) ∧ zF zkX h h1 ∧ zko h1 (fun _ => none) := by
  have K : ∀ k i, i + k = 20 → ∀ h', zF zkX h h' → (∀ j, j < i → h'.1 2097799 j = -1) → ∃ h1, ai_E d 324 5 [some (.inr (.inr (1, 20, 2097799))), some (.inl (-1)), some (.inl (nI i)), some (.inl (nI 20))] [] h' = some ([], h1) ∧ zF zkX h h1 ∧ zko h1 (fun _ => none) := by
    intro k
    induction k with
    | zero =>
      intro i hi h' f g
      have hi : i = 20 := by omega
      subst hi
      exact ⟨h', by rw [T324_5, if_pos (by decide)], f, g⟩
    | succ k ih =>
      intro i hi h' f g
      rw [T324_5, if_neg (by rw [nI_leI (by omega) (by omega)]; omega), z_ix (by omega) (by decide), nI_1]
      refine ih (i + 1) (by omega) _ (zF_st f (Or.inl rfl)) fun j hj => ?_
      rw [z_st1]
      by_cases c : j = i
      · rw [if_pos ⟨rfl, c⟩]
      · rw [if_neg (fun q => c q.2)]
        exact g j (by omega)
  rw [T324]
  exact K 20 0 (by omega) h zF_rf fun j hj => by omega
abbrev zPw (μ : zMu) (tap : Nat) (t : Nat) : Prop := ¬ t = tap ∧ 0 < (μ.1 64 t).toInt
theorem X48 {h : ai_H} {tap q : Nat} (d : Nat) (hr : zR h) (ht : tap < zn (zsl (zMv h) 0) 1) (hq : q < zg (zMv h) 34) : ∃ v h1, ai_X (d + 23) 48 [.inr (.inr (26, 0, 16389)), .inl (nI tap), .inl (nI q), .inl (nI (zn (zsl (zMv h) 0) 1))] h = some ([.inl v], h1) ∧ zF zXS h h1 ∧ (v = 0 ∨ v = 1) ∧ (v = 1 ↔ (zfit (zMv h) tap q = true ∧ zway (zfit (zMv h)) (zPw (zMv h) tap) (zg (zMv h) 34) (zn (zsl (zMv h) 0) 1) q)) := by
  obtain ⟨b0, b1, b2, b8, b5, b4, b3, V⟩ := zR_b hr
  obtain ⟨n1, n2, n3, n4⟩ := zR_nm hr
  obtain ⟨n, hn⟩ : ∃ n, zn (zsl (zMv h) 0) 1 = n := ⟨_, rfl⟩
  obtain ⟨D, hD⟩ : ∃ D, zg (zMv h) 34 = D := ⟨_, rfl⟩
  rw [hn] at b1 ht ⊢
  rw [hD] at n1 n3 n4 hq ⊢
  have hn24 : n ≤ 24 := b1.2.2
  have hkn : zkn h (zfit (zMv h)) D := ⟨n1, fun t ht => (n4 t ht).2.2.2⟩
  have h159 := X159B (p := fun e => zfit (zMv h) tap e = true) (n := D) (i := q) (d + 21) h (by omega) hq
  rw [T48, z_ix (by omega) (by decide), (n4 tap (by omega)).2.2.2, h159]
  simp only [z_bi, zb_0]
  by_cases c : zfit (zMv h) tap q = true
  · rw [if_neg (fun x => x c)]
    obtain ⟨g0, a1, a2, a3⟩ := X324d (d + 21) h
    rw [a1]
    simp only [z_bv]
    have K : ∀ k t, t + k = n → ∀ (g : ai_H) (M : Nat → Option Nat), zF zkX h g → zko g M → zmat M (zfit (zMv h)) (zPw (zMv h) tap) D q t → ∃ v h1, ai_E (d + 22) 48 26 [some (.inr (.inr (26, 0, 16389))), some (.inl (nI tap)), some (.inl (nI q)), some (.inl (nI n)), some (.inl (nI t))] [] g = some ([.inl v], h1) ∧ zF zkX h h1 ∧ (v = 0 ∨ v = 1) ∧ (v = 1 ↔ zway (zfit (zMv h)) (zPw (zMv h) tap) D n q) := by
      intro k
      induction k with
      | zero =>
        intro t hk g M fg og mg
        have hk : t = n := by omega
        subst hk
        refine ⟨1, g, ?_, fg, Or.inr rfl, ⟨fun _ => zmat_way mg, fun _ => rfl⟩⟩
        rw [T48_26, if_pos (by rw [z_le]; omega), z_b1]
      | succ k ih =>
        intro t hk g M fg og mg
        have ih := ih (t + 1) (by omega)
        have eB : nI (2 ^ q) = nI (zB (fun e => decide (e = q) = true) 20) := by
          have := zB_ins (p := fun _ => False) (q := fun e => decide (e = q) = true) (n := 20) (a := q) (by omega) fun i _ => by rw [decide_eq_true_iff]; exact ⟨Or.inr, fun h => h.elim False.elim id⟩
          rw [zB_0.mpr (fun i _ h => h), Nat.zero_or] at this
          rw [this]
        have f1 : zF zkX h (ai_st g 16389 7 (nI (2 ^ q))) := zF_st fg (Or.inr ⟨rfl, rfl⟩)
        have o1 : zko (ai_st g 16389 7 (nI (2 ^ q))) M := fun e he => by rw [z_ne (by decide)]; exact og e he
        rw [T48_26, if_neg (by rw [nI_leI (by omega) (by omega)]; omega), z_bit (by omega)]
        by_cases ct : t = tap
        · rw [if_pos (by rw [ct]), nI_1]
          exact ih _ M f1 o1 (zmat_n mg fun p => p.1 ct)
        · have e64 : (ai_st g 16389 7 (nI (2 ^ q))).1 2097794 t = (zMv h).1 64 t := by rw [z_ne (by decide), fg.1 _ _ (by unfold zkX; omega)]; exact (n4 t (by omega)).1
          rw [if_neg (by rw [nI_eq (by omega) (by omega)]; exact ct), z_ix (by omega) (by decide), e64]
          by_cases cw : 0 < ((zMv h).1 64 t).toInt
          · have hP : zPw (zMv h) tap t := ⟨ct, cw⟩
            have hu : zun (fun e => decide (e = q)) D ≤ 19 := by
              have := zcnt_more (p := fun e => !decide (e = q)) (q := fun _ => true) (n := D) (t := q) (fun _ _ _ => rfl) hq (by rw [decide_eq_true (show q = q from rfl)]; rfl) rfl
              have h2 := zcnt_le (p := fun _ => true = true) D
              have h3 : zun (fun e => decide (e = q)) D + 1 ≤ zcnt (fun _ => true = true) D := this
              omega
            obtain ⟨v, g', M', S', w1, w2, w3, w4, w5, w6⟩ := X49 n3 19 (d + 1) (ai_st g 16389 7 (nI (2 ^ q))) M (fun e => decide (e = q)) t 0 hu (by omega) (by omega) (fun e y hy => by have := (mg.1 e y hy).2.2.2.1; omega) (zkn_c f1 hkn) o1 (by unfold zks; rw [z_stS, eB])
            have w1' : ai_X (d + 22) 49 [.inr (.inr (26, 0, 16389)), .inl (nI t), .inl 0] (ai_st g 16389 7 (nI (2 ^ q))) = some ([.inl v], g') := w1
            have fg' := zF_tr f1 w2
            rw [if_neg (by rw [z_le]; simp only [zl0]; omega), w1']
            simp only [z_bi, nI_1]
            rcases w6 with ⟨v0, -, u1, u2⟩ | ⟨v1, su, fv, -⟩
            · rw [if_pos v0, z_b0]
              refine ⟨0, g', rfl, fg', Or.inl rfl, ⟨fun e => absurd e (by decide), fun W => ?_⟩⟩
              refine absurd W (zhal_no (S := fun e => S' e = true) mg hP (by omega) ⟨u1, fun e h1 h2 => u2 e h1 (decide_eq_false h2)⟩)
            · rw [if_neg (by rw [v1]; decide)]
              exact ih g' M' fg' w3 (zmat_s mg hP su fv)
          · rw [if_pos (by rw [z_le]; simp only [zl0]; omega), nI_1]
            exact ih _ M f1 o1 (zmat_n mg fun p => cw p.2)
    obtain ⟨v, h1, w1, w2, w3, w4⟩ := K n 0 (Nat.zero_add _) g0 _ a2 a3 zmat_0
    refine ⟨v, h1, w1, zF_mono w2 fun _ _ => zkX_s, w3, ?_⟩
    rw [w4]
    exact ⟨fun W => ⟨c, W⟩, fun W => W.2⟩
  · rw [if_pos c, z_b0]
    exact ⟨0, h, rfl, zF_rf, Or.inl rfl, ⟨fun e => absurd e (by decide), fun W => absurd W.1 c⟩⟩
