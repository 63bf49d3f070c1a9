/-! MENDING: the most apart, both ways the same; the reference's -/
theorem z_of0 {a i : Nat} (h : i < a) : ((2 : Nat) ^ a).testBit i = false := by
  rw [Nat.testBit_two_pow]
  exact decide_eq_false (by omega)
def zU (c a j : Nat) : Bool := decide (j < a) && c.testBit j
theorem zU_S {c a : Nat} : zU c (a + 1) = (fun j => zU c a j || (c.testBit a && decide (j = a))) := funext fun j => by
  unfold zU
  by_cases e : j = a
  · subst e
    rw [decide_eq_true (show j < j + 1 by omega), decide_eq_false (show ¬ j < j by omega), decide_eq_true (show j = j from rfl)]
    cases c.testBit j <;> rfl
  · by_cases l : j < a
    · rw [decide_eq_true (show j < a + 1 by omega), decide_eq_true l, decide_eq_false e, Bool.and_false, Bool.or_false]
    · rw [decide_eq_false (show ¬ j < a + 1 by omega), decide_eq_false l, decide_eq_false e, Bool.and_false, Bool.or_false]
theorem zU_t {c a : Nat} (h : c.testBit a = true) : zU c (a + 1) = (fun j => zU c a j || decide (j = a)) := by
  rw [zU_S]
  exact funext fun j => by rw [h, Bool.true_and]
theorem zU_f {c a : Nat} (h : c.testBit a = false) : zU c (a + 1) = zU c a := by
  rw [zU_S]
  exact funext fun j => by rw [h, Bool.false_and, Bool.or_false]
/-- each set that is apart has no more than the packing finds -/
theorem zpk_up {Q : Nat → Nat → Bool} {m c : Nat} (hc : zap Q c m = true) : ∀ k a, a + k = m → zcnt (fun j => a ≤ j ∧ c.testBit j = true) m ≤ zpk Q m k a (zU c a) := by
  intro k
  induction k with
  | zero =>
    intro a ha
    have z : ∀ n, n ≤ m → zcnt (fun j => a ≤ j ∧ c.testBit j = true) n = 0 := by
      intro n
      induction n with
      | zero => intro _; rfl
      | succ n ih =>
        intro hn
        show zcnt _ n + (if a ≤ n ∧ c.testBit n = true then 1 else 0) = 0
        rw [ih (by omega), if_neg (by omega)]
    rw [z m (Nat.le_refl _)]
    exact Nat.zero_le _
  | succ k ih =>
    intro a ha
    have ih := ih (a + 1) (by omega)
    by_cases cb : c.testBit a = true
    · rw [zU_t cb] at ih
      have hcnt : zcnt (fun j => a ≤ j ∧ c.testBit j = true) m = zcnt (fun j => a + 1 ≤ j ∧ c.testBit j = true) m + 1 := zcnt_ins (a := a) (fun q => by omega) (by omega) fun j _ => by
        constructor
        · rintro ⟨q1, q2⟩
          by_cases e : j = a
          · exact Or.inl e
          · exact Or.inr ⟨by omega, q2⟩
        · rintro (q | ⟨q1, q2⟩)
          · subst q; exact ⟨Nat.le_refl _, cb⟩
          · exact ⟨by omega, q2⟩
      have nc : ¬ zex (fun j => zU c a j && Q a j) m = true := fun q => by
        obtain ⟨j, j1, j2⟩ := zex_iff.mp q
        unfold zU at j2
        rw [Bool.and_eq_true, Bool.and_eq_true] at j2
        have h1 : zap Q c (a + 1) = true := zap_m (k := k) (by rw [show a + 1 + k = m by omega]; exact hc)
        rw [zap_S, Bool.and_eq_true, cb, Bool.true_and] at h1
        have h2 : zex (fun i => c.testBit i && Q a i) a = true := zex_iff.mpr ⟨j, of_decide_eq_true j2.1.1, by rw [Bool.and_eq_true]; exact ⟨j2.1.2, j2.2⟩⟩
        rw [h2] at h1
        exact absurd h1.2 (by decide)
      rw [hcnt, zpk_S]
      by_cases c3 : ¬ zex (fun j => zU c a j && Q a j) m = true ∧ zpk Q m k (a + 1) (zU c a) ≤ 1 + zpk Q m k (a + 1) (fun j => zU c a j || decide (j = a))
      · rw [if_pos c3]; omega
      · rw [if_neg c3]
        have : ¬ zpk Q m k (a + 1) (zU c a) ≤ 1 + zpk Q m k (a + 1) (fun j => zU c a j || decide (j = a)) := fun q => c3 ⟨nc, q⟩
        omega
    · rw [zU_f (zbF cb)] at ih
      have hcnt : zcnt (fun j => a ≤ j ∧ c.testBit j = true) m = zcnt (fun j => a + 1 ≤ j ∧ c.testBit j = true) m := zcnt_c fun j _ => by
        constructor
        · rintro ⟨q1, q2⟩
          by_cases e : j = a
          · subst e; exact absurd q2 cb
          · exact ⟨by omega, q2⟩
        · rintro ⟨q1, q2⟩
          exact ⟨by omega, q2⟩
      rw [hcnt, zpk_S]
      by_cases c3 : ¬ zex (fun j => zU c a j && Q a j) m = true ∧ zpk Q m k (a + 1) (zU c a) ≤ 1 + zpk Q m k (a + 1) (fun j => zU c a j || decide (j = a))
      · rw [if_pos c3]; omega
      · rw [if_neg c3]; exact ih
theorem zap_c {Q : Nat → Nat → Bool} {c c' : Nat} : ∀ {a}, (∀ j, j < a → c.testBit j = c'.testBit j) → zap Q c a = zap Q c' a := by
  intro a
  induction a with
  | zero => intro _; rfl
  | succ a ih =>
    intro h
    have e : zex (fun i => c.testBit i && Q a i) a = zex (fun i => c'.testBit i && Q a i) a := by
      apply zbeq
      rw [zex_iff, zex_iff]
      exact ⟨fun ⟨i, i1, i2⟩ => ⟨i, i1, by rw [← h i (by omega)]; exact i2⟩, fun ⟨i, i1, i2⟩ => ⟨i, i1, by rw [h i (by omega)]; exact i2⟩⟩
    rw [zap_S, zap_S, ih fun j hj => h j (by omega), h a (by omega), e]
/-- some set that is apart has as many as the packing finds -/
theorem zpk_at {Q : Nat → Nat → Bool} {m : Nat} : ∀ k a, a + k = m → ∀ c0, c0 < 2 ^ a → zap Q c0 a = true → ∃ c, c < 2 ^ m ∧ (∀ j, j < a → c.testBit j = c0.testBit j) ∧ zap Q c m = true ∧ zcnt (fun j => a ≤ j ∧ c.testBit j = true) m = zpk Q m k a (zU c0 a) := by
  intro k
  induction k with
  | zero =>
    intro a ha c0 h0 hz
    have ha : a = m := by omega
    subst ha
    refine ⟨c0, h0, fun _ _ => rfl, hz, ?_⟩
    have e : zcnt (fun j => a ≤ j ∧ c0.testBit j = true) a ≤ 0 := by
      have : ∀ n, n ≤ a → zcnt (fun j => a ≤ j ∧ c0.testBit j = true) n = 0 := by
        intro n
        induction n with
        | zero => intro _; rfl
        | succ n ih =>
          intro hn
          show zcnt _ n + (if a ≤ n ∧ c0.testBit n = true then 1 else 0) = 0
          rw [ih (by omega), if_neg (by omega)]
      rw [this a (Nat.le_refl _)]
      exact Nat.le_refl _
    show _ = 0
    omega
  | succ k ih =>
    intro a ha c0 h0 hz
    have hp : 2 ^ (a + 1) = 2 ^ a + 2 ^ a := by rw [Nat.pow_succ]; omega
    have n0 : c0.testBit a = false := Nat.testBit_lt_two_pow h0
    rw [zpk_S]
    by_cases c3 : ¬ zex (fun j => zU c0 a j && Q a j) m = true ∧ zpk Q m k (a + 1) (zU c0 a) ≤ 1 + zpk Q m k (a + 1) (fun j => zU c0 a j || decide (j = a))
    · rw [if_pos c3]
      -- with it
      have tb : ∀ j, (2 ^ a + c0).testBit j = (c0.testBit j || decide (j = a)) := fun j => by
        have := Nat.testBit_two_pow_mul_add 1 h0 j
        rw [Nat.mul_one] at this
        rw [this]
        by_cases l : j < a
        · rw [if_pos l, decide_eq_false (by omega), Bool.or_false]
        · rw [if_neg l, Nat.testBit_lt_two_pow (Nat.lt_of_lt_of_le h0 (Nat.pow_le_pow_right (by decide) (show a ≤ j by omega))), Bool.false_or]
          by_cases e : j = a
          · subst e; rw [Nat.sub_self, decide_eq_true rfl]; rfl
          · rw [decide_eq_false e]
            exact Nat.testBit_lt_two_pow (Nat.one_lt_two_pow (by omega))
      have hz1 : zap Q (2 ^ a + c0) (a + 1) = true := by
        rw [zap_S, Bool.and_eq_true]
        refine ⟨by rw [zap_c (c' := c0) fun j hj => by rw [tb, decide_eq_false (by omega), Bool.or_false]]; exact hz, ?_⟩
        have : ¬ zex (fun i => (2 ^ a + c0).testBit i && Q a i) a = true := fun q => by
          obtain ⟨i, i1, i2⟩ := zex_iff.mp q
          rw [tb, decide_eq_false (by omega), Bool.or_false, Bool.and_eq_true] at i2
          exact c3.1 (zex_iff.mpr ⟨i, by omega, by unfold zU; rw [Bool.and_eq_true, Bool.and_eq_true]; exact ⟨⟨decide_eq_true i1, i2.1⟩, i2.2⟩⟩)
        rw [zbF this, Bool.and_false]
        rfl
      obtain ⟨c, c1, c2, c4, c5⟩ := ih (a + 1) (by omega) (2 ^ a + c0) (by omega) hz1
      have eU : zU (2 ^ a + c0) (a + 1) = (fun j => zU c0 a j || decide (j = a)) := funext fun j => by
        unfold zU
        rw [tb]
        by_cases e : j = a
        · subst e
          rw [decide_eq_true (show j < j + 1 by omega), decide_eq_true (show j = j from rfl), Bool.or_true, Bool.or_true]
          rfl
        · rw [decide_eq_false e, Bool.or_false, Bool.or_false]
          by_cases l : j < a
          · rw [decide_eq_true (show j < a + 1 by omega), decide_eq_true l]
          · rw [decide_eq_false (show ¬ j < a + 1 by omega), decide_eq_false l]
      rw [eU] at c5
      have ca : c.testBit a = true := by rw [c2 a (by omega), tb, decide_eq_true rfl, Bool.or_true]
      refine ⟨c, c1, fun j hj => by rw [c2 j (by omega), tb, decide_eq_false (by omega), Bool.or_false], c4, ?_⟩
      rw [← c5, Nat.add_comm]
      refine zcnt_ins (a := a) (fun q => by omega) (by omega) fun j _ => ?_
      constructor
      · rintro ⟨q1, q2⟩
        by_cases e : j = a
        · exact Or.inl e
        · exact Or.inr ⟨by omega, q2⟩
      · rintro (q | ⟨q1, q2⟩)
        · subst q; exact ⟨Nat.le_refl _, ca⟩
        · exact ⟨by omega, q2⟩
    · rw [if_neg c3]
      have hz1 : zap Q c0 (a + 1) = true := by
        rw [zap_S, Bool.and_eq_true, n0, Bool.false_and]
        exact ⟨hz, rfl⟩
      obtain ⟨c, c1, c2, c4, c5⟩ := ih (a + 1) (by omega) c0 (by omega) hz1
      rw [zU_f n0] at c5
      refine ⟨c, c1, fun j hj => c2 j (by omega), c4, ?_⟩
      rw [← c5]
      refine zcnt_c fun j _ => ?_
      constructor
      · rintro ⟨q1, q2⟩
        by_cases e : j = a
        · subst e; rw [c2 j (by omega), n0] at q2; cases q2
        · exact ⟨by omega, q2⟩
      · rintro ⟨q1, q2⟩
        exact ⟨by omega, q2⟩
theorem zmx_pk {Q : Nat → Nat → Bool} {m : Nat} : zmx Q m (2 ^ m) = zpk Q m m 0 (fun _ => false) := by
  have e0 : ∀ c : Nat, zU c 0 = (fun _ : Nat => false) := fun c => funext fun j => by unfold zU; rw [decide_eq_false (Nat.not_lt_zero _)]; rfl
  have ec : ∀ c : Nat, zcnt (fun j => 0 ≤ j ∧ c.testBit j = true) m = zpo c m := fun c => zcnt_c fun j _ => ⟨fun q => q.2, fun q => ⟨Nat.zero_le _, q⟩⟩
  apply Nat.le_antisymm
  · rcases zmx_is (Q := Q) (m := m) (2 ^ m) with h | ⟨c, h1, h2, h3⟩
    · omega
    · have := zpk_up h2 m 0 (Nat.zero_add _)
      rw [e0, ec] at this
      omega
  · obtain ⟨c, c1, -, c2, c3⟩ := zpk_at (Q := Q) (m := m) m 0 (Nat.zero_add _) 0 (by decide) rfl
    rw [e0, ec] at c3
    have := zmx_ge c2 c1
    omega
theorem M268 {g : ai_H} {r : Nat → Nat → Bool} {N m : Nat} (d : Nat) (hN : N ≤ 24) (hm : m ≤ 12) (hr : ∀ j, j < m → g.1 2064458 j = nI (zB (fun k => r j k = true) N)) : ai_X (d + 2) 268 [.inr (.inr (32, 0, 16128)), .inl (nI m)] g = some ([.inl (nI (zmx (fun i j => zex (fun k => r i k && r j k) N) m (2 ^ m)))], g) := by
  have hp := z_p12 hm
  have hp1 := Nat.two_pow_pos m
  have I : ∀ c, c < 2 ^ m → ∀ b, b ≤ m → ∀ q j, j + q = m → zap (fun i j => zex (fun k => r i k && r j k) N) c j = true → ∃ z4 z5 z6, ai_E (d + 1) 268 20 [some (.inr (.inr (32, 0, 16128))), some (.inl (nI m)), some (.inl (nI b)), some (.inl (nI c)), some (.inl 1), some (.inl (nI (zB (fun k => zex (fun i => c.testBit i && r i k) j = true) N))), some (.inl (nI j))] [] g = ai_E (d + 1) 268 4 [some (.inr (.inr (32, 0, 16128))), some (.inl (nI m)), some (.inl (nI (if zap (fun i j => zex (fun k => r i k && r j k) N) c m = true ∧ b < zpo c m then zpo c m else b))), some (.inl (nI (c + 1))), z4, z5, z6] [] g := by
    intro c hc b hb q
    induction q with
    | zero =>
      intro j hj hz
      have hj : j = m := by omega
      subst hj
      have hle : zpo c j ≤ j := zcnt_le _
      refine ⟨some (.inl 1), some (.inl (nI (zB (fun k => zex (fun i => c.testBit i && r i k) j = true) N))), some (.inl (nI j)), ?_⟩
      rw [T268_20, if_pos (by rw [z_le]; omega), if_neg (show ¬ (1 : Int32) = 0 by decide), M191 _ _ _ (by omega)]
      simp only [z_bi]
      rw [zpo_24 (by omega) hc]
      simp only [nI_1]
      by_cases cl : b < zpo c j
      · rw [if_neg (by rw [nI_leI (by omega) (by omega)]; omega), if_pos ⟨hz, cl⟩, M191 _ _ _ (by omega)]
        simp only [z_bi]
        rw [zpo_24 (by omega) hc]
      · rw [if_pos (by rw [nI_leI (by omega) (by omega)]; omega), if_neg (fun q => cl q.2)]
    | succ q ih =>
      intro j hj hz
      have ih := ih (j + 1) (by omega)
      have i30 : ∀ f : Nat → Option ai_R, ai_ix (nI j) 30 f = f j := fun f => z_ix (by omega) (by decide)
      rw [zap_S] at ih
      rw [T268_20, if_neg (by rw [nI_leI (by omega) (by omega)]; omega), if_neg (show ¬ (1 : Int32) = 0 by decide)]
      simp only [z_tb0 (show c < 2147483648 by omega) (show j < 32 by omega), nI_1]
      by_cases cb : c.testBit j = true
      · rw [if_neg (by rw [cb]; exact Bool.noConfusion), i30, hr j (by omega), zB_and2]
        have h0 : nI (zB (fun t => r j t = true ∧ zex (fun i => c.testBit i && r i t) j = true) N) = 0 ↔ ¬ zex (fun i => c.testBit i && zex (fun k => r j k && r i k) N) j = true := by
          rw [zB_n0 (by omega), zex_iff]
          constructor
          · rintro h ⟨i, i1, i2⟩
            rw [Bool.and_eq_true] at i2
            obtain ⟨k, k1, k2⟩ := zex_iff.mp i2.2
            rw [Bool.and_eq_true] at k2
            exact h k k1 ⟨k2.1, zex_iff.mpr ⟨i, i1, by rw [Bool.and_eq_true]; exact ⟨i2.1, k2.2⟩⟩⟩
          · rintro h k k1 ⟨k2, k3⟩
            obtain ⟨i, i1, i2⟩ := zex_iff.mp k3
            rw [Bool.and_eq_true] at i2
            exact h ⟨i, i1, by rw [Bool.and_eq_true]; exact ⟨i2.1, zex_iff.mpr ⟨k, k1, by rw [Bool.and_eq_true]; exact ⟨k2, i2.2⟩⟩⟩⟩
        by_cases c2 : zex (fun i => c.testBit i && zex (fun k => r j k && r i k) N) j = true
        · have hn : ¬ zap (fun i j => zex (fun k => r i k && r j k) N) c m = true := fun x => by
            have h1 := zap_m (k := q) (j := j + 1) (by rw [show j + 1 + q = m by omega]; exact x)
            rw [zap_S, Bool.and_eq_true, cb, c2] at h1
            exact absurd h1.2 (by decide)
          rw [if_neg (fun x => h0.mp x c2), i30, if_neg (fun x => hn x.1)]
          obtain ⟨u, hu⟩ : ∃ u : Int32, (nI (zB (fun k => zex (fun i => c.testBit i && r i k) j = true) N) ||| g.1 2064458 j) = u := ⟨_, rfl⟩
          rw [hu]
          refine ⟨some (.inl 0), some (.inl u), some (.inl (nI (j + 1))), ?_⟩
          rw [T268_20]
          by_cases e : nI m ≤ nI (j + 1)
          · rw [if_pos e, if_pos rfl]
            simp only [nI_1]
          · rw [if_neg e, if_pos rfl, if_pos rfl]
            simp only [nI_1]
        · rw [if_pos (h0.mpr c2), i30, hr j (by omega), zB_or]
          have e : zB (fun t => zex (fun i => c.testBit i && r i t) j = true ∨ r j t = true) N = zB (fun k => zex (fun i => c.testBit i && r i k) (j + 1) = true) N := zB_c fun t _ => by
            show _ ↔ (zex (fun i => c.testBit i && r i t) j || (c.testBit j && r j t)) = true
            rw [cb, Bool.true_and, Bool.or_eq_true]
          rw [e]
          refine ih ?_
          rw [hz, cb, zbF c2]
          rfl
      · rw [if_pos (zbF cb)]
        have e : zB (fun k => zex (fun i => c.testBit i && r i k) j = true) N = zB (fun k => zex (fun i => c.testBit i && r i k) (j + 1) = true) N := zB_c fun t _ => by
          show _ ↔ (zex (fun i => c.testBit i && r i t) j || (c.testBit j && r j t)) = true
          rw [zbF cb, Bool.false_and, Bool.or_false]
        rw [e]
        refine ih ?_
        rw [hz, zbF cb]
        rfl
  have O : ∀ q c, c + q = 2 ^ m → ∀ z4 z5 z6, ai_E (d + 1) 268 4 [some (.inr (.inr (32, 0, 16128))), some (.inl (nI m)), some (.inl (nI (zmx (fun i j => zex (fun k => r i k && r j k) N) m c))), some (.inl (nI c)), z4, z5, z6] [] g = some ([.inl (nI (zmx (fun i j => zex (fun k => r i k && r j k) N) m (2 ^ m)))], g) := by
    intro q
    induction q with
    | zero =>
      intro c hc z4 z5 z6
      have hc : c = 2 ^ m := by omega
      rw [T268_4, z_bit (by omega), hc, if_pos (by rw [z_le]; omega)]
    | succ q ih =>
      intro c hc z4 z5 z6
      obtain ⟨z4', z5', z6', w⟩ := I c (by omega) (zmx (fun i j => zex (fun k => r i k && r j k) N) m c) (zmx_le c) m 0 (Nat.zero_add _) rfl
      have e0 : zB (fun k => zex (fun i => c.testBit i && r i k) 0 = true) N = 0 := zB_0.mpr fun k _ q => by
        have q : false = true := q
        cases q
      rw [e0, ← zmx_S] at w
      rw [T268_4, z_bit (by omega), if_neg (by rw [nI_leI (by omega) (by omega)]; omega)]
      exact w.trans (ih (c + 1) (by omega) z4' z5' z6')
  rw [T268]
  exact O (2 ^ m) 0 (Nat.zero_add _) none none none
