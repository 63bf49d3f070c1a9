/-! MENDING: the reference's -/
theorem M265 {h : ai_H} (d : Nat) (x kn : Int32) (hr : zR h) : ∃ h1, ai_X (d + 6) 265 [.inr (.inr (32, 0, 16128)), .inl x, .inl kn] h = some ([.inl (nI (zen (fun t => decide (zshut (zsl (zMv h) 0) (nI t) x kn = true ∧ zdry h t x kn = 0)) (zn (zsl (zMv h) 0) 1)).length)], h1) ∧ zF zMS h h1 ∧ ∀ k, k < (zen (fun t => decide (zshut (zsl (zMv h) 0) (nI t) x kn = true ∧ zdry h t x kn = 0)) (zn (zsl (zMv h) 0) 1)).length → h1.1 2064457 k = nI ((zen (fun t => decide (zshut (zsl (zMv h) 0) (nI t) x kn = true ∧ zdry h t x kn = 0)) (zn (zsl (zMv h) 0) 1)).getD k 0) := by
  obtain ⟨b0, b1, b2, b8, b5, b4, b3, V⟩ := zR_b hr
  obtain ⟨n, hn⟩ : ∃ n, zn (zsl (zMv h) 0) 1 = n := ⟨_, rfl⟩
  rw [hn] at b1 ⊢
  have hn24 : n ≤ 24 := b1.2.2
  have lle : ∀ t, (zen (fun t => decide (zshut (zsl (zMv h) 0) (nI t) x kn = true ∧ zdry h t x kn = 0)) t).length ≤ t := fun t => by rw [zen_len]; exact zcnt_le t
  have K : ∀ q t, t + q = n → ∀ g, zF zMS h g → (∀ k, k < (zen (fun t => decide (zshut (zsl (zMv h) 0) (nI t) x kn = true ∧ zdry h t x kn = 0)) t).length → g.1 2064457 k = nI ((zen (fun t => decide (zshut (zsl (zMv h) 0) (nI t) x kn = true ∧ zdry h t x kn = 0)) t).getD k 0)) → ∃ h1, ai_E (d + 5) 265 5 [some (.inr (.inr (32, 0, 16128))), some (.inl x), some (.inl kn), some (.inl (nI (zen (fun t => decide (zshut (zsl (zMv h) 0) (nI t) x kn = true ∧ zdry h t x kn = 0)) t).length)), some (.inl (nI t))] [] g = some ([.inl (nI (zen (fun t => decide (zshut (zsl (zMv h) 0) (nI t) x kn = true ∧ zdry h t x kn = 0)) n).length)], h1) ∧ zF zMS h h1 ∧ ∀ k, k < (zen (fun t => decide (zshut (zsl (zMv h) 0) (nI t) x kn = true ∧ zdry h t x kn = 0)) n).length → h1.1 2064457 k = nI ((zen (fun t => decide (zshut (zsl (zMv h) 0) (nI t) x kn = true ∧ zdry h t x kn = 0)) n).getD k 0) := by
    intro q
    induction q with
    | zero =>
      intro t ht g fg gg
      have ht : t = n := by omega
      subst ht
      refine ⟨g, ?_, fg, gg⟩
      rw [T265_5, z_i0 (by decide) (by decide), zM_n fg (zMS_n (by decide) (by decide)), b1.2.1, if_pos (by rw [z_le]; omega)]
    | succ q ih =>
      intro t ht g fg gg
      have ih := ih (t + 1) (by omega)
      have hl := lle t
      have hrg := zR_m hr fg
      have eV := zMv_m fg
      have h222 := M222 (d + 3) (nI t) x kn hrg
      rw [eV] at h222
      rw [zen_S] at ih
      rw [T265_5, z_i0 (by decide) (by decide), zM_n fg (zMS_n (by decide) (by decide)), b1.2.1, if_neg (by rw [nI_leI (by omega) (by omega)]; omega), h222]
      simp only [z_bi, zb_0, nI_1]
      by_cases c1 : zshut (zsl (zMv h) 0) (nI t) x kn = true
      · rw [if_neg (fun q => q c1)]
        obtain ⟨g1, a1, a2, a3⟩ := M245 (t := t) (d + 1) x kn hrg (by rw [eV, hn]; omega)
        rw [zdry_V eV] at a1
        have f1 := zF_tr fg a2
        rw [a1]
        simp only [z_bi]
        by_cases c2 : zdry h t x kn = 0
        · rw [if_pos c2]
          rw [if_pos (decide_eq_true ⟨c1, c2⟩)] at ih
          generalize hL : zen (fun t => decide (zshut (zsl (zMv h) 0) (nI t) x kn = true ∧ zdry h t x kn = 0)) t = l at *
          rw [z_ix (by omega) (by decide)]
          have e : (l ++ [t]).length = l.length + 1 := by rw [List.length_append]; rfl
          rw [e] at ih
          refine ih _ (zF_st f1 (Or.inr ⟨by omega, by omega, by omega⟩)) fun k hk => ?_
          rw [z_st1]
          by_cases ck : k = l.length
          · subst ck
            rw [if_pos ⟨rfl, rfl⟩, z_gdr (Nat.le_refl _), Nat.sub_self]
            rfl
          · rw [if_neg (fun q => ck q.2), z_gdl (by omega), a3 _ (by decide) (by decide)]
            exact gg k (by omega)
        · rw [if_neg c2]
          rw [if_neg (fun q => c2 (of_decide_eq_true q).2)] at ih
          exact ih g1 f1 fun k hk => by rw [a3 _ (by decide) (by decide)]; exact gg k hk
      · rw [if_pos c1]
        rw [if_neg (fun q => c1 (of_decide_eq_true q).1)] at ih
        exact ih g fg gg
  rw [T265]
  exact K n 0 (Nat.zero_add _) h zF_rf (fun k hk => absurd hk (Nat.not_lt_zero _))
/-- a best one that may be none yet -/
def zbe (N : Nat) (s : Nat × Nat) : Int32 := if s.1 = N + 1 then -1 else nI s.2
def zbo (N : Nat) (s : Nat × Nat) : Prop := s.1 = N + 1 ∨ (s.1 = zpo s.2 N ∧ s.1 ≤ N ∧ s.2 < 2 ^ N)
theorem zpo_24 {S N : Nat} (hN : N ≤ 24) (hS : S < 2 ^ N) : zcnt (fun i => S.testBit i = true) 24 = zpo S N := by
  refine zcnt_ext hN fun t h1 _ c => ?_
  rw [Nat.testBit_lt_two_pow (Nat.lt_of_lt_of_le hS (Nat.pow_le_pow_right (by decide) h1))] at c
  cases c
theorem zbo_s {cov : Nat → Bool} {N S : Nat} {s : Nat × Nat} (hs : zbo N s) (hS : S < 2 ^ N) : zbo N (zstp (zmV cov N) s S) := by
  unfold zstp zmV
  by_cases c : cov S = true
  · rw [if_pos c]
    dsimp only
    by_cases c2 : zpo S N < s.1
    · rw [if_pos c2]
      exact Or.inr ⟨rfl, zcnt_le _, hS⟩
    · rw [if_neg c2]; exact hs
  · rw [if_neg c]; exact hs
theorem z_p12 {N : Nat} (h : N ≤ 12) : 2 ^ N ≤ 4096 := Nat.pow_le_pow_right (by decide) h
theorem M267 {g : ai_H} {L : Nat → Nat} {r : Nat → Nat → Bool} {cov : Nat → Bool} {N M : Nat} (d : Nat) (hN : N ≤ 12) (hM : M ≤ 30) (hL : ∀ k, k < N → g.1 2064457 k = nI (L k) ∧ L k < 24) (hr : ∀ j, j < M → g.1 2064458 j = nI (zB (fun k => r j k = true) N)) (hcov : ∀ S, S < 2 ^ N → (cov S = true ↔ ∀ j, j < M → zex (fun k => S.testBit k && r j k) N = true)) (hall : cov (2 ^ N - 1) = true) : ai_X (d + 2) 267 [.inr (.inr (32, 0, 16128)), .inl (nI N), .inl (nI M)] g = some ([.inl (nI (zmk L (zfd (zmV cov N) 0 (2 ^ N) (N + 1, 0)).2 N))], g) := by
  have hp := z_p12 hN
  have hp1 := Nat.two_pow_pos N
  -- a set asked
  have A : ∀ S, S < 2 ^ N → ∀ j, j < M → (nI (zB (fun k => r j k = true) N) &&& nI S = 0 ↔ ¬ zex (fun k => S.testBit k && r j k) N = true) := fun S hS j hj => by
    have hB := zB_lt (p := fun k => r j k = true) N
    have hle : zB (fun k => r j k = true) N &&& S ≤ S := Nat.and_le_right
    rw [z_and]
    have e0 : nI (zB (fun k => r j k = true) N &&& S) = 0 ↔ zB (fun k => r j k = true) N &&& S = 0 := ⟨fun q => Decidable.of_not_not fun c => nI_ne0 (Nat.pos_of_ne_zero c) (by omega) q, fun q => by rw [q]; rfl⟩
    rw [e0, zex_iff]
    constructor
    · rintro q ⟨k, k1, k2⟩
      rw [Bool.and_eq_true] at k2
      have := congrArg (fun v => Nat.testBit v k) q
      rw [Nat.testBit_and, zB_tb, k2.1, Nat.zero_testBit] at this
      simp [k1, k2.2] at this
    · intro q
      apply Nat.eq_of_testBit_eq
      intro k
      rw [Nat.testBit_and, zB_tb, Nat.zero_testBit]
      refine zbF fun c => ?_
      rw [Bool.and_eq_true, decide_eq_true_iff] at c
      exact q ⟨k, c.1.1, by rw [Bool.and_eq_true]; exact ⟨c.2, c.1.2⟩⟩
  -- one set
  have I : ∀ S, S < 2 ^ N → ∀ s, zbo N s → ∀ q j, j + q = M → (∀ i, i < j → zex (fun k => S.testBit k && r i k) N = true) → ∃ z5 z6, ai_E (d + 1) 267 19 [some (.inr (.inr (32, 0, 16128))), some (.inl (nI N)), some (.inl (nI M)), some (.inl (zbe N s)), some (.inl (nI S)), some (.inl 1), some (.inl (nI j))] [] g = ai_E (d + 1) 267 5 [some (.inr (.inr (32, 0, 16128))), some (.inl (nI N)), some (.inl (nI M)), some (.inl (zbe N (zstp (zmV cov N) s S))), some (.inl (nI (S + 1))), z5, z6] [] g := by
    intro S hS s hs q
    induction q with
    | zero =>
      intro j hj hok
      have hj : j = M := by omega
      subst hj
      have hc : cov S = true := (hcov S hS).mpr hok
      have ev : zmV cov N S = some (zpo S N) := if_pos hc
      have hle : zpo S N ≤ N := zcnt_le _
      refine ⟨some (.inl 1), some (.inl (nI j)), ?_⟩
      rw [T267_19, if_pos (by rw [z_le]; omega), if_neg (show ¬ (1 : Int32) = 0 by decide)]
      simp only [nI_1]
      unfold zstp
      rw [ev]
      dsimp only
      rcases hs with h0 | ⟨h1, h2, h3⟩
      · have e1 : zbe N s = -1 := if_pos h0
        rw [e1, if_pos (by decide), if_pos (show zpo S N < s.1 by omega)]
        have e2 : zbe N (zpo S N, S) = nI S := if_neg (show ¬ zpo S N = N + 1 by omega)
        rw [e2]
      · have e1 : zbe N s = nI s.2 := if_neg (by omega)
        rw [e1, if_neg (by rw [z_lt, z_T (by omega)]; simp only [zl0]; omega), M191 _ _ _ (by omega)]
        simp only [z_bi]
        rw [M191 _ _ _ (by omega)]
        simp only [z_bi]
        rw [zpo_24 (by omega) hS, zpo_24 (by omega) h3, ← h1]
        by_cases c : zpo S N < s.1
        · rw [if_neg (by rw [nI_leI (by omega) (by omega)]; omega), if_pos c]
          have e2 : zbe N (zpo S N, S) = nI S := if_neg (show ¬ zpo S N = N + 1 by omega)
          rw [e2]
        · rw [if_pos (by rw [nI_leI (by omega) (by omega)]; omega), if_neg c, e1]
    | succ q ih =>
      intro j hj hok
      rw [T267_19, if_neg (by rw [nI_leI (by omega) (by omega)]; omega), if_neg (show ¬ (1 : Int32) = 0 by decide), z_ix (by omega) (by decide), hr j (by omega)]
      simp only [nI_1, A S hS j (by omega)]
      by_cases c : zex (fun k => S.testBit k && r j k) N = true
      · rw [if_neg (fun x => x c)]
        refine ih (j + 1) (by omega) fun i hi => ?_
        by_cases e : i = j
        · subst e; exact c
        · exact hok i (by omega)
      · rw [if_pos c]
        have hc : ¬ cov S = true := fun x => c ((hcov S hS).mp x j (by omega))
        have es : zstp (zmV cov N) s S = s := by unfold zstp zmV; rw [if_neg hc]
        rw [es]
        refine ⟨some (.inl 0), some (.inl (nI (j + 1))), ?_⟩
        rw [T267_19]
        by_cases e : nI M ≤ nI (j + 1)
        · rw [if_pos e, if_pos rfl]
          simp only [nI_1]
        · rw [if_neg e, if_pos rfl, if_pos rfl]
          simp only [nI_1]
  have O : ∀ q S, S + q = 2 ^ N → ∀ s, zbo N s → ∀ z5 z6, ∃ z6', ai_E (d + 1) 267 5 [some (.inr (.inr (32, 0, 16128))), some (.inl (nI N)), some (.inl (nI M)), some (.inl (zbe N s)), some (.inl (nI S)), z5, z6] [] g = ai_E (d + 1) 267 92 [some (.inr (.inr (32, 0, 16128))), some (.inl (nI N)), some (.inl (nI M)), some (.inl (zbe N (zfd (zmV cov N) S q s))), some (.inl 0), some (.inl 0), z6'] [] g ∧ zbo N (zfd (zmV cov N) S q s) := by
    intro q
    induction q with
    | zero =>
      intro S hS s hs z5 z6
      have hS : S = 2 ^ N := by omega
      refine ⟨z6, ?_, hs⟩
      rw [T267_5, z_bit (by omega), hS, if_pos (by rw [z_le]; omega)]
      rfl
    | succ q ih =>
      intro S hS s hs z5 z6
      obtain ⟨z5', z6', w⟩ := I S (by omega) s hs M 0 (Nat.zero_add _) (fun i hi => absurd hi (Nat.not_lt_zero _))
      obtain ⟨z6'', y1, y2⟩ := ih (S + 1) (by omega) (zstp (zmV cov N) s S) (zbo_s hs (by omega)) z5' z6'
      have e : zfd (zmV cov N) S (q + 1) s = zfd (zmV cov N) (S + 1) q (zstp (zmV cov N) s S) := by
        rw [Nat.add_comm q 1, zfd_add]
        rfl
      rw [e]
      refine ⟨z6'', ?_, y2⟩
      rw [T267_5, z_bit (by omega), if_neg (by rw [nI_leI (by omega) (by omega)]; omega)]
      exact w.trans y1
  -- the set's bits by its places
  have E : ∀ S, S < 2 ^ N → ∀ z6 q k, k + q = N → ai_E (d + 1) 267 92 [some (.inr (.inr (32, 0, 16128))), some (.inl (nI N)), some (.inl (nI M)), some (.inl (nI S)), some (.inl (nI (zmk L S k))), some (.inl (nI k)), z6] [] g = some ([.inl (nI (zmk L S N))], g) := by
    intro S hS z6 q
    induction q with
    | zero =>
      intro k hk
      have hk : k = N := by omega
      subst hk
      rw [T267_92, if_pos (by rw [z_le]; omega)]
    | succ q ih =>
      intro k hk
      have ih := ih (k + 1) (by omega)
      obtain ⟨l1, l2⟩ := hL k (by omega)
      have eb : ((nI S >>> (nI k &&& 31)) &&& 1) <<< (nI (L k) &&& 31) = nI (if S.testBit k = true then 2 ^ L k else 0) := by
        rw [z_tbi (by omega) (by omega)]
        by_cases c : S.testBit k = true
        · rw [c, if_pos rfl]
          exact z_bit (by omega)
        · rw [zbF c, if_neg Bool.false_ne_true]
          show (0 : Int32) <<< _ = 0
          exact Int32.zero_shiftLeft
      have ek : zmk L S (k + 1) = zmk L S k ||| (if S.testBit k = true then 2 ^ L k else 0) := by
        show (if S.testBit k = true then zmk L S k ||| 2 ^ L k else zmk L S k) = _
        by_cases c : S.testBit k = true
        · rw [if_pos c, if_pos c]
        · rw [if_neg c, if_neg c, Nat.or_zero]
      rw [T267_92, if_neg (by rw [nI_leI (by omega) (by omega)]; omega), z_ix (by omega) (by decide), l1, eb, z_or, nI_1, ← ek]
      exact ih
  obtain ⟨z6', w1, w2⟩ := O (2 ^ N) 0 (Nat.zero_add _) (N + 1, 0) (Or.inl rfl) none none
  -- some set reaches all
  have hle : (zfd (zmV cov N) 0 (2 ^ N) (N + 1, 0)).1 ≤ N := by
    have ef : zfd (zmV cov N) 0 (2 ^ N) (N + 1, 0) = zstp (zmV cov N) (zfd (zmV cov N) 0 (2 ^ N - 1) (N + 1, 0)) (2 ^ N - 1) := by
      have : 2 ^ N = (2 ^ N - 1) + 1 := by omega
      rw [show zfd (zmV cov N) 0 (2 ^ N) (N + 1, 0) = zfd (zmV cov N) 0 ((2 ^ N - 1) + 1) (N + 1, 0) from by rw [← this]]
      show zstp _ _ (0 + (2 ^ N - 1)) = _
      rw [Nat.zero_add]
    have ev : zmV cov N (2 ^ N - 1) = some (zpo (2 ^ N - 1) N) := if_pos hall
    have hl2 : zpo (2 ^ N - 1) N ≤ N := zcnt_le _
    rw [ef]
    unfold zstp
    rw [ev]
    dsimp only
    by_cases c : zpo (2 ^ N - 1) N < (zfd (zmV cov N) 0 (2 ^ N - 1) (N + 1, 0)).1
    · rw [if_pos c]; exact hl2
    · rw [if_neg c]; omega
  rcases w2 with h0 | ⟨h1, h2, h3⟩
  · omega
  · have e1 : zbe N (zfd (zmV cov N) 0 (2 ^ N) (N + 1, 0)) = nI (zfd (zmV cov N) 0 (2 ^ N) (N + 1, 0)).2 := if_neg (by omega)
    have e2 : zbe N (N + 1, 0) = -1 := if_pos rfl
    rw [e1, e2] at w1
    rw [T267]
    exact w1.trans (E _ h3 _ N 0 (Nat.zero_add _))
/-- apart -/
def zap (Q : Nat → Nat → Bool) (c : Nat) : Nat → Bool
  | 0 => true
  | j + 1 => zap Q c j && !(c.testBit j && zex (fun i => c.testBit i && Q j i) j)
theorem zap_S {Q : Nat → Nat → Bool} {c j : Nat} : zap Q c (j + 1) = (zap Q c j && !(c.testBit j && zex (fun i => c.testBit i && Q j i) j)) := rfl
theorem zap_m {Q : Nat → Nat → Bool} {c : Nat} : ∀ {k j}, zap Q c (j + k) = true → zap Q c j = true := by
  intro k
  induction k with
  | zero => intro j h; exact h
  | succ k ih =>
    intro j h
    have h : zap Q c (j + k + 1) = true := h
    rw [zap_S, Bool.and_eq_true] at h
    exact ih h.1
def zmx (Q : Nat → Nat → Bool) (m : Nat) : Nat → Nat
  | 0 => 0
  | c + 1 => if zap Q c m = true ∧ zmx Q m c < zpo c m then zpo c m else zmx Q m c
theorem zmx_S {Q : Nat → Nat → Bool} {m c : Nat} : zmx Q m (c + 1) = if zap Q c m = true ∧ zmx Q m c < zpo c m then zpo c m else zmx Q m c := rfl
theorem zmx_le {Q : Nat → Nat → Bool} {m : Nat} : ∀ n, zmx Q m n ≤ m := by
  intro n
  induction n with
  | zero => exact Nat.zero_le _
  | succ n ih =>
    have : zpo n m ≤ m := zcnt_le _
    rw [zmx_S]
    by_cases c : zap Q n m = true ∧ zmx Q m n < zpo n m
    · rw [if_pos c]; exact this
    · rw [if_neg c]; exact ih
theorem zmx_ge {Q : Nat → Nat → Bool} {m c : Nat} (hc : zap Q c m = true) : ∀ {n}, c < n → zpo c m ≤ zmx Q m n := by
  intro n
  induction n with
  | zero => intro h; exact absurd h (Nat.not_lt_zero _)
  | succ n ih =>
    intro h
    rw [zmx_S]
    by_cases e : c = n
    · subst e
      by_cases c2 : zap Q c m = true ∧ zmx Q m c < zpo c m
      · rw [if_pos c2]; exact Nat.le_refl _
      · rw [if_neg c2]
        have : ¬ zmx Q m c < zpo c m := fun q => c2 ⟨hc, q⟩
        omega
    · have := ih (by omega)
      by_cases c2 : zap Q n m = true ∧ zmx Q m n < zpo n m
      · rw [if_pos c2]; omega
      · rw [if_neg c2]; exact this
theorem zmx_is {Q : Nat → Nat → Bool} {m : Nat} : ∀ n, zmx Q m n = 0 ∨ ∃ c, c < n ∧ zap Q c m = true ∧ zmx Q m n = zpo c m := by
  intro n
  induction n with
  | zero => exact Or.inl rfl
  | succ n ih =>
    rw [zmx_S]
    by_cases c2 : zap Q n m = true ∧ zmx Q m n < zpo n m
    · rw [if_pos c2]
      exact Or.inr ⟨n, Nat.lt_succ_self _, c2.1, rfl⟩
    · rw [if_neg c2]
      rcases ih with h | ⟨c, h1, h2, h3⟩
      · exact Or.inl h
      · exact Or.inr ⟨c, by omega, h2, h3⟩
