/-! WALKS: the taps of a set, one behind the other; areTaps; gather -/
def zen (p : Nat → Bool) : Nat → List Nat
  | 0 => []
  | n + 1 => if p n = true then zen p n ++ [n] else zen p n
theorem zen_S {p : Nat → Bool} {n : Nat} : zen p (n + 1) = if p n = true then zen p n ++ [n] else zen p n := rfl
theorem zen_len {p : Nat → Bool} : ∀ n, (zen p n).length = zcnt (fun t => p t = true) n := by
  intro n
  induction n with
  | zero => rfl
  | succ n ih =>
    rw [zen_S]
    show _ = zcnt (fun t => p t = true) n + if p n = true then 1 else 0
    by_cases c : p n = true
    · rw [if_pos c, if_pos c, List.length_append, ih]; rfl
    · rw [if_neg c, if_neg c, ih]; rfl
theorem zen_at {p : Nat → Bool} : ∀ {n k : Nat}, k < (zen p n).length → (zen p n).getD k 0 < n ∧ p ((zen p n).getD k 0) = true := by
  intro n
  induction n with
  | zero => intro k h; exact absurd h (Nat.not_lt_zero _)
  | succ n ih =>
    intro k h
    rw [zen_S] at h ⊢
    by_cases c : p n = true
    · rw [if_pos c] at h ⊢
      by_cases c2 : k < (zen p n).length
      · rw [z_gdl c2]
        have := ih c2
        exact ⟨by omega, this.2⟩
      · rw [List.length_append] at h
        have h : k < (zen p n).length + 1 := h
        rw [z_gdr (by omega), show k - (zen p n).length = 0 by omega]
        exact ⟨Nat.lt_succ_self _, c⟩
    · rw [if_neg c] at h ⊢
      have := ih h
      exact ⟨by omega, this.2⟩
theorem zen_in {p : Nat → Bool} : ∀ {n t : Nat}, t < n → p t = true → ∃ k, k < (zen p n).length ∧ (zen p n).getD k 0 = t := by
  intro n
  induction n with
  | zero => intro t h; exact absurd h (Nat.not_lt_zero _)
  | succ n ih =>
    intro t h ht
    rw [zen_S]
    by_cases e : t = n
    · subst e
      rw [if_pos ht]
      refine ⟨(zen p t).length, ?_, ?_⟩
      · rw [List.length_append]; exact Nat.lt_succ_self _
      · rw [z_gdr (Nat.le_refl _), Nat.sub_self]; rfl
    · obtain ⟨k, k1, k2⟩ := ih (t := t) (by omega) ht
      by_cases c : p n = true
      · rw [if_pos c]
        refine ⟨k, ?_, ?_⟩
        · rw [List.length_append]; omega
        · rw [z_gdl k1]; exact k2
      · rw [if_neg c]
        exact ⟨k, k1, k2⟩
theorem zen_up {p : Nat → Bool} : ∀ {n k l : Nat}, k < l → l < (zen p n).length → (zen p n).getD k 0 < (zen p n).getD l 0 := by
  intro n
  induction n with
  | zero => intro k l _ h; exact absurd h (Nat.not_lt_zero _)
  | succ n ih =>
    intro k l hkl h
    rw [zen_S] at h ⊢
    by_cases c : p n = true
    · rw [if_pos c] at h ⊢
      rw [List.length_append] at h
      have h : l < (zen p n).length + 1 := h
      by_cases c2 : l < (zen p n).length
      · rw [z_gdl c2, z_gdl (by omega)]
        exact ih hkl c2
      · rw [z_gdl (by omega), z_gdr (l1 := zen p n) (k := l) (by omega), show l - (zen p n).length = 0 by omega]
        exact (zen_at (by omega)).1
    · rw [if_neg c] at h ⊢
      exact ih hkl h
/-- a set is of taps, so many at most -/
abbrev zar (h : ai_H) (x : Int32) (m : Nat) : Prop := 0 < x.toInt ∧ x.toInt < ((2 ^ zn (zsl (zMv h) 0) 1 : Nat) : Int) ∧ zcnt (fun i => x.toInt.toNat.testBit i = true) 24 ≤ m
theorem zpc_24 {A : Nat} (hA : A < 2 ^ 24) : zpc 32 A = zcnt (fun i => A.testBit i = true) 24 := by
  rw [zpc_cnt]
  refine zcnt_ext (by decide) fun t h1 _ c => ?_
  rw [Nat.testBit_lt_two_pow (Nat.lt_of_lt_of_le hA (Nat.pow_le_pow_right (by decide) h1))] at c
  cases c
theorem z_p24 {n : Nat} (h : n ≤ 24) : 2 ^ n ≤ 16777216 ∧ 1 ≤ 2 ^ n := ⟨Nat.pow_le_pow_right (by decide) h, Nat.two_pow_pos n⟩
theorem X158 {h : ai_H} {m : Nat} (d : Nat) (x : Int32) (hr : zR h) (hm : m ≤ 30) : ai_X (d + 2) 158 [.inr (.inr (31, 0, 128)), .inl x, .inl (nI m)] h = some ([.inl (zb (zar h x m))], h) := by
  obtain ⟨b0, b1, b2, b8, b5, b4, b3, V⟩ := zR_b hr
  have hp := z_p24 b1.2.2
  have e1 : nI (2 ^ zn (zsl (zMv h) 0) 1) - 1 = nI (2 ^ zn (zsl (zMv h) 0) 1 - 1) := pk_sub (b := 1) (by omega)
  rw [T158, b1.1, z_bit (by omega), e1]
  simp only [z_b0, z_b1]
  by_cases c1 : 0 < x.toInt
  · rw [if_neg (by rw [z_le]; simp only [zl0]; omega)]
    by_cases c2 : x.toInt < ((2 ^ zn (zsl (zMv h) 0) 1 : Nat) : Int)
    · rw [if_neg (by rw [z_lt, z_T (by omega)]; omega)]
      have e : x = nI x.toInt.toNat := z_nat (by omega)
      have e3 : ai_X (d + 1) 312 [.inl x] h = some ([.inl (nI (zcnt (fun i => x.toInt.toNat.testBit i = true) 24))], h) := by
        have := X312 d x.toInt.toNat h (by omega)
        rw [← e, zpc_24 (by omega)] at this
        exact this
      have l24 := zcnt_le (p := fun i => x.toInt.toNat.testBit i = true) 24
      rw [e3]
      simp only [z_bi]
      by_cases c3 : zcnt (fun i => x.toInt.toNat.testBit i = true) 24 ≤ m
      · rw [if_neg (by rw [nI_ltI (by omega) (by omega)]; omega), zb_t ⟨c1, c2, c3⟩]
      · rw [if_pos (by rw [nI_ltI (by omega) (by omega)]; omega), zb_f (fun q => c3 q.2.2)]
    · rw [if_pos (by rw [z_lt, z_T (by omega)]; omega), zb_f (fun q => c2 q.2.1)]
  · rw [if_pos (by rw [z_le]; simp only [zl0]; omega), zb_f (fun q => c1 q.1)]
theorem M191 (d A : Nat) (h : ai_H) (hA : A < 2147483648) : ai_X (d + 1) 191 [.inl (nI A)] h = some ([.inl (nI (zcnt (fun i => A.testBit i = true) 24))], h) := by
  have K : ∀ k i, i + k = 24 → ai_E d 191 4 [some (.inl (nI A)), some (.inl (nI (zcnt (fun i => A.testBit i = true) i))), some (.inl (nI i))] [] h = some ([.inl (nI (zcnt (fun i => A.testBit i = true) 24))], h) := by
    intro k
    induction k with
    | zero =>
      intro i hi
      have hi : i = 24 := by omega
      subst hi
      rw [T191_4, if_pos (by decide)]
    | succ k ih =>
      intro i hi
      have ih := ih (i + 1) (by omega)
      have e : zcnt (fun i => A.testBit i = true) (i + 1) = zcnt (fun i => A.testBit i = true) i + (A.testBit i).toNat := by
        show _ + (if A.testBit i = true then 1 else 0) = _
        cases A.testBit i <;> rfl
      rw [T191_4, if_neg (by rw [show (24 : Int32) = nI 24 from rfl, nI_leI (by omega) (by omega)]; omega), z_tbi hA (by omega), nI_add, nI_1, ← e]
      exact ih
  rw [T191]
  exact K 24 0 (by omega)
theorem M288 {h : ai_H} {m : Nat} (d : Nat) (x : Int32) (hr : zR h) (hm : m ≤ 30) : ai_X (d + 2) 288 [.inr (.inr (32, 0, 16128)), .inl x, .inl (nI m)] h = some ([.inl (zb (zar h x m))], h) := by
  obtain ⟨b0, b1, b2, b8, b5, b4, b3, V⟩ := zR_b hr
  have hp := z_p24 b1.2.2
  rw [T288, z_i0 (by decide) (by decide), b1.2.1, z_bit (by omega)]
  simp only [z_b0, z_b1]
  by_cases c1 : 0 < x.toInt
  · rw [if_neg (by rw [z_le]; simp only [zl0]; omega)]
    by_cases c2 : x.toInt < ((2 ^ zn (zsl (zMv h) 0) 1 : Nat) : Int)
    · rw [if_neg (by rw [z_le, z_T (by omega)]; omega)]
      have e : x = nI x.toInt.toNat := z_nat (by omega)
      have e3 : ai_X (d + 1) 191 [.inl x] h = some ([.inl (nI (zcnt (fun i => x.toInt.toNat.testBit i = true) 24))], h) := by
        have := M191 d x.toInt.toNat h (by omega)
        rw [← e] at this
        exact this
      have l24 := zcnt_le (p := fun i => x.toInt.toNat.testBit i = true) 24
      rw [e3]
      simp only [z_bi]
      by_cases c3 : zcnt (fun i => x.toInt.toNat.testBit i = true) 24 ≤ m
      · rw [if_neg (by rw [nI_ltI (by omega) (by omega)]; omega), zb_t ⟨c1, c2, c3⟩]
      · rw [if_pos (by rw [nI_ltI (by omega) (by omega)]; omega), zb_f (fun q => c3 q.2.2)]
    · rw [if_pos (by rw [z_le, z_T (by omega)]; omega), zb_f (fun q => c2 q.2.1)]
  · rw [if_pos (by rw [z_le]; simp only [zl0]; omega), zb_f (fun q => c1 q.1)]
/-- the stops -/
abbrev zwl (h : ai_H) (A : Nat) : List Nat := zen (fun t => A.testBit t) (zn (zsl (zMv h) 0) 1)
theorem zwl_V {h h1 : ai_H} {A : Nat} (e : zMv h1 = zMv h) : zwl h1 A = zwl h A := by unfold zwl; rw [e]
def zwX (q j : Nat) : Prop := q = 2097922 ∨ q = 2097923 ∨ q = 2097924 ∨ (q = 16390 ∧ j = 0)
theorem zwX_s {q j : Nat} (h : zwX q j) : zXS q j := by
  unfold zXS
  rcases h with rfl | rfl | rfl | ⟨rfl, -⟩
  · exact Or.inr (Or.inr (Or.inr (Or.inr (Or.inl (by decide)))))
  · exact Or.inr (Or.inr (Or.inr (Or.inr (Or.inl (by decide)))))
  · exact Or.inr (Or.inr (Or.inr (Or.inr (Or.inl (by decide)))))
  · exact Or.inl rfl
/-- what gather leaves -/
def zga (h h1 : ai_H) (l : List Nat) : Prop := h1.1 16390 0 = nI l.length ∧ ∀ k, k < l.length → h1.1 2097922 k = nI (l.getD k 0) ∧ h1.1 2097923 k = zsl (zMv h) 0 12 (l.getD k 0) ∧ h1.1 2097924 k = zsl (zMv h) 0 14 (l.getD k 0)
theorem X80 {h : ai_H} {A : Nat} (d : Nat) (hr : zR h) (hA : A < 2147483648) (hl : (zwl h A).length ≤ 8) : ∃ h1, ai_X (d + 2) 80 [.inr (.inr (30, 0, 16390)), .inr (.inr (20, 0, 2097281)), .inl (nI A)] h = some ([], h1) ∧ zF zwX h h1 ∧ zga h h1 (zwl h A) := by
  obtain ⟨b0, b1, b2, b8, b5, b4, b3, V⟩ := zR_b hr
  obtain ⟨n, hn⟩ : ∃ n, zn (zsl (zMv h) 0) 1 = n := ⟨_, rfl⟩
  have hC : zC h 2097281 (zsl (zMv h) 0) := hr.1.1.1
  unfold zwl at hl ⊢
  rw [hn] at b1 hl ⊢
  have hn24 : n ≤ 24 := b1.2.2
  have K : ∀ j t, t + j = n → ∀ g, zF zwX h g → zga h g (zen (fun t => A.testBit t) t) → ∃ h1, ai_E (d + 1) 80 7 [some (.inr (.inr (30, 0, 16390))), some (.inr (.inr (20, 0, 2097281))), some (.inl (nI A)), some (.inl (nI t))] [] g = some ([], h1) ∧ zF zwX h h1 ∧ zga h h1 (zen (fun t => A.testBit t) n) := by
    intro j
    induction j with
    | zero =>
      intro t ht g fg gg
      have ht : t = n := by omega
      subst ht
      have g1 : g.1 2097281 1 = nI t := by rw [fg.1 _ _ (by unfold zwX; omega)]; exact b1.1
      refine ⟨g, ?_, fg, gg⟩
      rw [T80_7, g1, if_pos (by rw [z_le]; omega)]
    | succ j ih =>
      intro t ht g fg gg
      have ih := ih (t + 1) (by omega)
      have g1 : g.1 2097281 1 = nI n := by rw [fg.1 _ _ (by unfold zwX; omega)]; exact b1.1
      have i24 : ∀ f : Nat → Option ai_R, ai_ix (nI t) 24 f = f t := fun f => z_ix (by omega) (by decide)
      -- lengths grow
      have mono : ∀ q u, u + q = n → (zen (fun t => A.testBit t) u).length ≤ (zen (fun t => A.testBit t) n).length := by
        intro q
        induction q with
        | zero => intro u hu; rw [show u = n by omega]; exact Nat.le_refl _
        | succ q iq =>
          intro u hu
          refine Nat.le_trans ?_ (iq (u + 1) (by omega))
          rw [zen_S]
          by_cases c : A.testBit u = true
          · rw [if_pos c, List.length_append]; exact Nat.le_add_right _ _
          · rw [if_neg c]; exact Nat.le_refl _
      rw [T80_7, g1, if_neg (by rw [nI_leI (by omega) (by omega)]; omega), gg.1]
      by_cases c8 : (zen (fun t => A.testBit t) t).length = 8
      · -- full: no more are there
        have same : ∀ q u, u + q = n → (zen (fun t => A.testBit t) u).length = 8 → zen (fun t => A.testBit t) n = zen (fun t => A.testBit t) u := by
          intro q
          induction q with
          | zero => intro u hu _; rw [show u = n by omega]
          | succ q iq =>
            intro u hu h8
            have e : zen (fun t => A.testBit t) (u + 1) = zen (fun t => A.testBit t) u := by
              rw [zen_S]
              by_cases c : A.testBit u = true
              · have := mono q (u + 1) (by omega)
                rw [zen_S, if_pos c, List.length_append, h8] at this
                have this : 8 + 1 ≤ _ := this
                omega
              · rw [if_neg c]
            rw [iq (u + 1) (by omega) (by rw [e]; exact h8), e]
        rw [if_pos (by rw [c8]; decide)]
        exact ⟨g, rfl, fg, by rw [same (j + 1) t ht c8]; exact gg⟩
      · have l8 : (zen (fun t => A.testBit t) t).length < 8 := by have := mono (j + 1) t ht; omega
        rw [if_neg (by rw [show (8 : Int32) = nI 8 from rfl, nI_leI (by omega) (by omega)]; omega), X159 _ _ _ _ hA (by omega)]
        simp only [z_bi, zb_0, nI_1]
        rw [zen_S] at ih
        by_cases c : A.testBit t = true
        · rw [if_neg (fun q => q c)]
          rw [if_pos c] at ih
          generalize hL : zen (fun t => A.testBit t) t = l at *
          have ix : ∀ f : Nat → Option ai_R, ai_ix (nI l.length) 8 f = f l.length := fun f => z_ix l8 (by decide)
          have e12 : g.1 268451978 t = zsl (zMv h) 0 12 t := by rw [fg.1 _ _ (by unfold zwX; omega)]; exact (zC_t hr (by omega)).1
          have e14 : g.1 268451980 t = zsl (zMv h) 0 14 t := by rw [fg.1 _ _ (by unfold zwX; omega)]; exact (hC.2.2.2.2.2.2.2.1 t (by omega)).2.2.2.1
          simp only [gg.1, ix, i24, z_st1, Nat.reduceEqDiff, false_and, and_false, if_false, e12, e14, nI_1]
          refine ih _ (zF_st (zF_st (zF_st (zF_st fg (Or.inl rfl)) (Or.inr (Or.inl rfl))) (Or.inr (Or.inr (Or.inl rfl)))) (Or.inr (Or.inr (Or.inr ⟨rfl, rfl⟩)))) ⟨?_, fun k hk => ?_⟩
          · rw [z_stS, List.length_append]; rfl
          · rw [List.length_append] at hk
            have hk : k < l.length + 1 := hk
            simp only [z_st1, Nat.reduceEqDiff, false_and, and_false, if_false, true_and]
            by_cases ck : k = l.length
            · subst ck
              rw [if_pos rfl, if_pos rfl, if_pos rfl, z_gdr (Nat.le_refl _), Nat.sub_self]
              exact ⟨rfl, rfl, rfl⟩
            · rw [if_neg ck, if_neg ck, if_neg ck, z_gdl (by omega)]
              exact gg.2 k (by omega)
        · rw [if_pos c]
          rw [if_neg c] at ih
          exact ih g fg gg
  rw [T80]
  exact K n 0 (Nat.zero_add _) _ (zF_st zF_rf (Or.inr (Or.inr (Or.inr ⟨rfl, rfl⟩)))) ⟨z_stS, fun k hk => absurd hk (Nat.not_lt_zero _)⟩
theorem M287 {h : ai_H} {A : Nat} (d : Nat) (hr : zR h) (hA : A < 2147483648) (hl : (zwl h A).length ≤ 8) : ∃ h1, ai_X (d + 1) 287 [.inr (.inr (32, 0, 16128)), .inl (nI A)] h = some ([.inl (nI (zwl h A).length)], h1) ∧ zF (fun q _ => q = 2064465) h h1 ∧ ∀ k, k < (zwl h A).length → h1.1 2064465 k = nI ((zwl h A).getD k 0) := by
  obtain ⟨b0, b1, b2, b8, b5, b4, b3, V⟩ := zR_b hr
  obtain ⟨n, hn⟩ : ∃ n, zn (zsl (zMv h) 0) 1 = n := ⟨_, rfl⟩
  unfold zwl at hl ⊢
  rw [hn] at b1 hl ⊢
  have hn24 : n ≤ 24 := b1.2.2
  have mono : ∀ q u, u + q = n → (zen (fun t => A.testBit t) u).length ≤ (zen (fun t => A.testBit t) n).length := by
    intro q
    induction q with
    | zero => intro u hu; rw [show u = n by omega]; exact Nat.le_refl _
    | succ q iq =>
      intro u hu
      refine Nat.le_trans ?_ (iq (u + 1) (by omega))
      rw [zen_S]
      by_cases c : A.testBit u = true
      · rw [if_pos c, List.length_append]; exact Nat.le_add_right _ _
      · rw [if_neg c]; exact Nat.le_refl _
  have K : ∀ j t, t + j = n → ∀ g, zF (fun q _ => q = 2064465) h g → (∀ k, k < (zen (fun t => A.testBit t) t).length → g.1 2064465 k = nI ((zen (fun t => A.testBit t) t).getD k 0)) → ∃ h1, ai_E d 287 4 [some (.inr (.inr (32, 0, 16128))), some (.inl (nI A)), some (.inl (nI (zen (fun t => A.testBit t) t).length)), some (.inl (nI t))] [] g = some ([.inl (nI (zen (fun t => A.testBit t) n).length)], h1) ∧ zF (fun q _ => q = 2064465) h h1 ∧ ∀ k, k < (zen (fun t => A.testBit t) n).length → h1.1 2064465 k = nI ((zen (fun t => A.testBit t) n).getD k 0) := by
    intro j
    induction j with
    | zero =>
      intro t ht g fg gg
      have ht : t = n := by omega
      subst ht
      have g1 : g.1 2064386 0 = nI t := by rw [fg.1 _ _ (by decide)]; exact b1.2.1
      refine ⟨g, ?_, fg, gg⟩
      rw [T287_4, z_i0 (by decide) (by decide), g1, if_pos (by rw [z_le]; omega)]
    | succ j ih =>
      intro t ht g fg gg
      have ih := ih (t + 1) (by omega)
      have g1 : g.1 2064386 0 = nI n := by rw [fg.1 _ _ (by decide)]; exact b1.2.1
      rw [T287_4, z_i0 (by decide) (by decide), g1, if_neg (by rw [nI_leI (by omega) (by omega)]; omega)]
      simp only [z_tb0 hA (show t < 32 by omega), nI_1]
      have m1 := mono j (t + 1) (by omega)
      rw [zen_S] at ih m1
      by_cases c : A.testBit t = true
      · rw [if_neg (by rw [c]; exact Bool.noConfusion)]
        rw [if_pos c] at ih m1
        generalize hL : zen (fun t => A.testBit t) t = l at *
        rw [List.length_append] at m1
        have m1 : l.length + 1 ≤ _ := m1
        rw [if_neg (by rw [show (8 : Int32) = nI 8 from rfl, nI_leI (by omega) (by omega)]; omega), z_ix (by omega) (by decide)]
        have e : (l ++ [t]).length = l.length + 1 := by rw [List.length_append]; rfl
        rw [e] at ih
        refine ih _ (zF_st fg rfl) fun k hk => ?_
        rw [z_st1]
        by_cases ck : k = l.length
        · subst ck
          rw [if_pos ⟨rfl, rfl⟩, z_gdr (Nat.le_refl _), Nat.sub_self]
          rfl
        · rw [if_neg (fun q => ck q.2), z_gdl (by omega)]
          exact gg k (by omega)
      · rw [if_pos (zbF c)]
        rw [if_neg c] at ih
        exact ih g fg gg
  rw [T287]
  exact K n 0 (Nat.zero_add _) h zF_rf (fun k hk => absurd hk (Nat.not_lt_zero _))
/-- so many as bits -/
theorem zwl_len {h : ai_H} {A : Nat} (hr : zR h) (hA : A < 2 ^ zn (zsl (zMv h) 0) 1) : (zwl h A).length = zcnt (fun i => A.testBit i = true) 24 := by
  obtain ⟨b0, b1, b2, b8, b5, b4, b3, V⟩ := zR_b hr
  unfold zwl
  rw [zen_len]
  refine (zcnt_ext b1.2.2 fun t h1 _ c => ?_).symm
  rw [Nat.testBit_lt_two_pow (Nat.lt_of_lt_of_le hA (Nat.pow_le_pow_right (by decide) h1))] at c
  cases c
