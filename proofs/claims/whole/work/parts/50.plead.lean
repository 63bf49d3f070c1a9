/-! lead -/
theorem zcnt_ins {p : Nat → Prop} [DecidablePred p] {a : Nat} {n : Nat} (ha : ¬ p a) (hn : a < n) {q : Nat → Prop} [DecidablePred q] (hq : ∀ i, i < n → (q i ↔ i = a ∨ p i)) : zcnt q n = zcnt p n + 1 := by
  have K : ∀ m, m ≤ n → zcnt q m = zcnt p m + if a < m then 1 else 0 := by
    intro m
    induction m with
    | zero => intro _; rfl
    | succ m ih =>
      intro hm
      have e1 : zcnt q (m + 1) = zcnt q m + if q m then 1 else 0 := rfl
      have e2 : zcnt p (m + 1) = zcnt p m + if p m then 1 else 0 := rfl
      rw [e1, e2, ih (by omega)]
      have := hq m (by omega)
      by_cases c : m = a
      · rw [if_pos (show q m from this.mpr (Or.inl c)), if_neg (show ¬ a < m by omega), if_neg (show ¬ p m by rw [c]; exact ha), if_pos (show a < m + 1 by omega)]
      · by_cases c2 : p m
        · rw [if_pos (show q m from this.mpr (Or.inr c2)), if_pos c2]
          by_cases c3 : a < m
          · rw [if_pos c3, if_pos (show a < m + 1 by omega)]
          · rw [if_neg c3, if_neg (show ¬ a < m + 1 by omega)] <;> omega
        · rw [if_neg (show ¬ q m from fun x => by rcases this.mp x with y | y; exact c y; exact c2 y), if_neg c2]
          by_cases c3 : a < m
          · rw [if_pos c3, if_pos (show a < m + 1 by omega)] <;> omega
          · rw [if_neg c3, if_neg (show ¬ a < m + 1 by omega)]
  rw [K n (Nat.le_refl _), if_pos hn]
theorem zcnt_is {x n : Nat} (hx : x < n) : zcnt (fun i => i = x) n = 1 := by
  rw [zcnt_ins (p := fun _ => False) (a := x) (fun q => q) hx (fun i _ => ⟨fun q => Or.inl q, fun q => by rcases q with q | q; exact q; exact absurd q id⟩)]
  have : ∀ m, zcnt (fun _ => False) m = 0 := by
    intro m
    induction m with
    | zero => rfl
    | succ m ih => show zcnt (fun _ => False) m + (if False then 1 else 0) = 0; rw [ih, if_neg id]
  rw [this]
/-- may a pipe of the way up be of lead -/
abbrev zml (σ : Nat → Nat → Int32) (kn : Int32) (i : Nat) : Prop := ¬ σ 10 i = -1 ∧ ¬ zcln σ kn i = true
abbrev zlu (σ : Nat → Nat → Int32) (kn : Int32) (a : Nat) : Nat := zcnt (fun i => (zab σ a).testBit i = true ∧ zml σ kn i) (zn σ 0)
theorem zlu_s {σ : Nat → Nat → Int32} {kn : Int32} {a : Nat} (V : zVn σ) (ha : a < zn σ 0) : zlu σ kn a = if σ 10 a = -1 then 0 else (if zcln σ kn a = true then 0 else 1) + zlu σ kn (σ 10 a).toInt.toNat := by
  have et := fun b => zab_tb (σ := σ) (i := a) b (fun j hj => V j (by omega))
  by_cases c : σ 10 a = -1
  · rw [if_pos c]
    have : zlu σ kn a = zcnt (fun _ => False) (zn σ 0) := by
      refine zcnt_c fun i hi => ⟨fun q => ?_, fun q => absurd q id⟩
      have q1 := q.1
      rw [et i, c] at q1
      simp at q1
      rw [← q1] at q
      exact q.2.1 c
    rw [this]
    have : ∀ m, zcnt (fun _ => False) m = 0 := by
      intro m
      induction m with
      | zero => rfl
      | succ m ih => show zcnt (fun _ => False) m + (if False then 1 else 0) = 0; rw [ih, if_neg id]
    exact this _
  · rw [if_neg c]
    have h3 := V a ha
    unfold zi at h3
    have h4 : (σ 10 a).toInt.toNat < a := by
      rcases h3 with h3 | h3
      · exact absurd h3 c
      · omega
    have nb : ¬ (zab σ (σ 10 a).toInt.toNat).testBit a = true := by
      have := zab_lt (σ := σ) (i := (σ 10 a).toInt.toNat) (fun j hj => V j (by omega))
      rw [Nat.testBit_lt_two_pow (Nat.lt_of_lt_of_le this (Nat.pow_le_pow_right (by decide) (by omega)))]
      decide
    have eb : ∀ b, (zab σ a).testBit b = true ↔ b = a ∨ (zab σ (σ 10 a).toInt.toNat).testBit b = true := by
      intro b
      rw [et b, decide_eq_false c, Bool.not_false, Bool.true_and, Bool.or_eq_true, decide_eq_true_eq]
      constructor
      · rintro (q | q)
        · exact Or.inl q.symm
        · exact Or.inr q
      · rintro (q | q)
        · exact Or.inl q.symm
        · exact Or.inr q
    by_cases c2 : zcln σ kn a = true
    · rw [if_pos c2, Nat.zero_add]
      refine zcnt_c fun i hi => ?_
      rw [eb i]
      constructor
      · rintro ⟨q1 | q1, q2⟩
        · rw [q1] at q2
          exact absurd c2 q2.2
        · exact ⟨q1, q2⟩
      · rintro ⟨q1, q2⟩
        exact ⟨Or.inr q1, q2⟩
    · rw [if_neg c2, Nat.add_comm]
      refine zcnt_ins (a := a) (fun q => nb q.1) ha fun i hi => ?_
      rw [eb i]
      constructor
      · rintro ⟨q1 | q1, q2⟩
        · exact Or.inl q1
        · exact Or.inr ⟨q1, q2⟩
      · rintro (q | q)
        · rw [q]
          exact ⟨Or.inl rfl, c, c2⟩
        · exact ⟨Or.inr q.1, q.2⟩
/-- one such pipe alone -/
theorem zlu_1 {σ : Nat → Nat → Int32} {kn : Int32} {a x M : Nat} (hx : x < zn σ 0) (hm : zml σ kn x) (hM : ∀ y, M.testBit y = true ↔ y < zn σ 0 ∧ zml σ kn y) : (zab σ a &&& M = 2 ^ x) ↔ ((zab σ a).testBit x = true ∧ zlu σ kn a = 1) := by
  have et : ∀ y, (zab σ a &&& M).testBit y = true ↔ (zab σ a).testBit y = true ∧ y < zn σ 0 ∧ zml σ kn y := by
    intro y
    rw [Nat.testBit_and, Bool.and_eq_true, hM y]
  constructor
  · intro e
    have e2 : ∀ y, (zab σ a).testBit y = true ∧ y < zn σ 0 ∧ zml σ kn y ↔ y = x := by
      intro y
      rw [← et y, e, Nat.testBit_two_pow, decide_eq_true_eq]
      exact ⟨fun q => q.symm, fun q => q.symm⟩
    refine ⟨((e2 x).mpr rfl).1, ?_⟩
    rw [← zcnt_is hx]
    refine zcnt_c fun i hi => ?_
    rw [← e2 i]
    exact ⟨fun q => ⟨q.1, hi, q.2⟩, fun q => ⟨q.1, q.2.2⟩⟩
  · rintro ⟨h1, h2⟩
    apply Nat.eq_of_testBit_eq
    intro y
    rw [Nat.testBit_two_pow]
    by_cases c : x = y
    · subst c
      rw [decide_eq_true rfl]
      exact (et x).mpr ⟨h1, hx, hm⟩
    · rw [decide_eq_false c]
      by_cases g : (zab σ a &&& M).testBit y = true
      · obtain ⟨g1, g2, g3⟩ := (et y).mp g
        have := (zcnt_lt (p := fun i => i = x) (q := fun i => (zab σ a).testBit i = true ∧ zml σ kn i) (n := zn σ 0) (fun i _ q => by rw [q]; exact ⟨h1, hm⟩)).2 ⟨y, g2, ⟨g1, g3⟩, fun q => c q.symm⟩
        rw [zcnt_is hx] at this
        have h2' : zcnt (fun i => (zab σ a).testBit i = true ∧ zml σ kn i) (zn σ 0) = 1 := h2
        omega
      · exact zbF g
/-- the reference's way up -/
theorem M272_up {h : ai_H} {x e : Nat} (d : Nat) (kn : Int32) (hr : zR h) : ∀ a, a < zn (zsl (zMv h) 0) 0 → ∀ c, c + a ≤ 1000 → ∃ z4 z5, ai_E (d + 2) 272 116 [some (.inr (.inr (32, 0, 16128))), some (.inl (nI x)), some (.inl kn), some (.inl (nI e)), some (.inl (nI c)), some (.inl (nI a))] [] h = if c + zlu (zsl (zMv h) 0) kn a = 1 then some ([.inl 1], h) else ai_E (d + 2) 272 39 [some (.inr (.inr (32, 0, 16128))), some (.inl (nI x)), some (.inl kn), some (.inl (nI (e + 1))), z4, z5] [] h := by
  obtain ⟨b0, b1, b2, b8, b5, b4, b3, V⟩ := zR_b hr
  intro a
  induction a using Nat.strongRecOn with
  | ind a ih =>
    intro ha c hc
    have e10 : h.1 2064395 a = zsl (zMv h) 0 10 a := (zs0 (f := 10) (by omega)).symm
    have es := zlu_s (kn := kn) V.2.1 ha
    have ix : ∀ f : Nat → Option ai_R, ai_ix (nI a) 96 f = f a := fun f => z_ix (by omega) (by decide)
    rw [es]
    rcases V.2.1 a ha with g | g
    · refine ⟨some (.inl (nI c)), some (.inl (nI a)), ?_⟩
      rw [T272_116, ix, e10, g, if_pos (by decide), if_pos rfl, Nat.add_zero]
      have : (nI c = 1) ↔ c = 1 := nI_eq (show c < 2 ^ 31 by omega) (show 1 < 2 ^ 31 by decide)
      simp only [this, nI_1, Nat.add_zero]
    · unfold zi at g
      have n1 : ¬ zsl (zMv h) 0 10 a = -1 := by
        rw [z_eq]
        simp only [zl0, zl1, zl2, zl3, zl4, zl5, zl6, zl7, zl8, zl9, zl10, zl12, zl15, zl16, zl20, zl22, zl23, zl24, zl27, zl30, zl31, zl32, zl40, zl46, zl48, zl50, zl57, zl59, zl60, zl61, zl62, zl63, zl80, zl96, zl97, zl99, zl100, zl122, zl255, zl360, zl500, zl999, zl9999, zl60000, zl99999, zl16777215, zl1073741824, zlm1, zlm2, zlm3]
        omega
      have e : zsl (zMv h) 0 10 a = nI (zsl (zMv h) 0 10 a).toInt.toNat := z_nat g.1
      have n2 : ¬ zsl (zMv h) 0 10 a < 0 := by
        rw [z_lt]
        simp only [zl0, zl1, zl2, zl3, zl4, zl5, zl6, zl7, zl8, zl9, zl10, zl12, zl15, zl16, zl20, zl22, zl23, zl24, zl27, zl30, zl31, zl32, zl40, zl46, zl48, zl50, zl57, zl59, zl60, zl61, zl62, zl63, zl80, zl96, zl97, zl99, zl100, zl122, zl255, zl360, zl500, zl999, zl9999, zl60000, zl99999, zl16777215, zl1073741824, zlm1, zlm2, zlm3]
        omega
      rw [if_neg n1]
      by_cases c2 : zcln (zsl (zMv h) 0) kn a = true
      · obtain ⟨z4, z5, q⟩ := ih (zsl (zMv h) 0 10 a).toInt.toNat (by omega) (by omega) c (by omega)
        refine ⟨z4, z5, ?_⟩
        rw [if_pos c2, Nat.zero_add, ← q, T272_116, ix, e10, if_neg n2, M271 _ _ hr (by omega)]
        simp only [z_bi, zb_0]
        rw [if_neg (fun x => x c2), ix, e10, Int32.add_zero, ← e]
      · obtain ⟨z4, z5, q⟩ := ih (zsl (zMv h) 0 10 a).toInt.toNat (by omega) (by omega) (c + 1) (by omega)
        refine ⟨z4, z5, ?_⟩
        rw [if_neg c2, ← Nat.add_assoc, ← q, T272_116, ix, e10, if_neg n2, M271 _ _ hr (by omega)]
        simp only [z_bi, zb_0]
        rw [if_pos c2, ix, e10, nI_1, ← e]
theorem P_lead (x kn : Int32) : zPr 126 272 [.inl x, .inl kn] := zPr_q fun d h hr => by
  obtain ⟨b0, b1, b2, b8, b5, b4, b3, V⟩ := zR_b hr
  have i0 : ∀ f : Nat → Option ai_R, ai_ix 0 4 f = f 0 := fun f => z_i0 (by decide) (by decide)
  have hC : zC h 2097281 (zsl (zMv h) 0) := hr.1.1.1
  have e4 : h.1 2097281 4 = nI (zB (fun i => ¬ zsl (zMv h) 0 10 i = -1) (zn (zsl (zMv h) 0) 0)) := hC.2.2.2.2.1
  have z4 : zB (fun i => ¬ zsl (zMv h) 0 10 i = -1) (zn (zsl (zMv h) 0) 0) < 2147483648 := zB_31 (by omega)
  by_cases c : 0 ≤ x.toInt ∧ x.toInt < (zn (zsl (zMv h) 0) 0 : Int)
  · obtain ⟨x, hx, rfl⟩ := z_rng c
    have e10 : h.1 2064395 x = zsl (zMv h) 0 10 x := (zs0 (f := 10) (by omega)).symm
    have ix : ∀ f : Nat → Option ai_R, ai_ix (nI x) 96 f = f x := fun f => z_ix (by omega) (by decide)
    have neg : zsl (zMv h) 0 10 x < 0 ↔ zsl (zMv h) 0 10 x = -1 := by
      rcases V.2.1 x hx with g | g
      · rw [g]; decide
      · unfold zi at g
        rw [z_lt, z_eq]
        simp only [zl0, zl1, zl2, zl3, zl4, zl5, zl6, zl7, zl8, zl9, zl10, zl12, zl15, zl16, zl20, zl22, zl23, zl24, zl27, zl30, zl31, zl32, zl40, zl46, zl48, zl50, zl57, zl59, zl60, zl61, zl62, zl63, zl80, zl96, zl97, zl99, zl100, zl122, zl255, zl360, zl500, zl999, zl9999, zl60000, zl99999, zl16777215, zl1073741824, zlm1, zlm2, zlm3]
        omega
    by_cases c1 : zsl (zMv h) 0 10 x = -1
    · refine ⟨-1, h, h, ?_, zF_rf, ?_, zF_rf⟩
      · rw [T126, X152 _ _ b0.1 b0.2.2]
        simp only [z_bi, zb_0]
        rw [if_neg (fun q => q c), e4, X159 _ _ _ _ z4 (by omega)]
        simp only [z_bi, zb_0]
        rw [if_pos]
        rw [zB_tb, decide_eq_true_eq]
        exact fun q => q.2 c1
      · rw [T272, M196 _ _ b0.2.1 (by omega)]
        simp only [z_bi, zb_0]
        rw [if_neg (fun q => q c), ix, e10, if_pos (neg.mpr c1)]
    · have t4 : (zB (fun i => ¬ zsl (zMv h) 0 10 i = -1) (zn (zsl (zMv h) 0) 0)).testBit x = true := by
        rw [zB_tb, decide_eq_true_eq]
        exact ⟨hx, c1⟩
      by_cases c2 : 0 ≤ kn.toInt ∧ kn.toInt ≤ 999
      · obtain ⟨A, a1, a2, a3⟩ := X172 (d + 57) kn hr
        by_cases c3 : zcln (zsl (zMv h) 0) kn x = true
        · refine ⟨0, h, h, ?_, zF_rf, ?_, zF_rf⟩
          · rw [T126, X152 _ _ b0.1 b0.2.2]
            simp only [z_bi, zb_0]
            rw [if_neg (fun q => q c), e4, X159 _ _ _ _ z4 (by omega)]
            simp only [z_bi, zb_0]
            rw [if_neg (fun q => q t4), X147]
            simp only [z_bi, zb_0]
            rw [if_neg (fun q => q c2), a1]
            simp only [z_bi]
            rw [X159 _ _ _ _ a2 (by omega)]
            simp only [z_bi, zb_0]
            rw [if_neg (fun q => q (by rw [a3 x]; exact c3))]
          · rw [T272, M196 _ _ b0.2.1 (by omega)]
            simp only [z_bi, zb_0]
            rw [if_neg (fun q => q c), ix, e10, if_neg (fun q => c1 (neg.mp q)), M187]
            simp only [z_bi, zb_0]
            rw [if_neg (fun q => q c2), M271 _ _ hr (by omega)]
            simp only [z_bi, zb_0]
            rw [if_neg (fun q => q c3)]
        · obtain ⟨M, m1, m2, m3⟩ := z_andn z4 a2
          have hM : ∀ y, M.testBit y = true ↔ y < zn (zsl (zMv h) 0) 0 ∧ zml (zsl (zMv h) 0) kn y := by
            intro y
            rw [m3 y, zB_tb, a3 y, Bool.and_eq_true, decide_eq_true_eq, Bool.not_eq_true']
            constructor
            · rintro ⟨⟨q1, q2⟩, q3⟩
              exact ⟨q1, q2, by rw [q3]; decide⟩
            · rintro ⟨q1, q2, q3⟩
              exact ⟨⟨q1, q2⟩, zbF q3⟩
          have hxm : zml (zsl (zMv h) 0) kn x := ⟨c1, c3⟩
          have KM : ∀ k i, i + k = zn (zsl (zMv h) 0) 4 → zany (fun e => decide (zsl (zMv h) 0 22 e = 3) && zcr (zsl (zMv h) 0) kn M x (zrow (zsl (zMv h) 0) e)) i = false → ∀ z4 z5, ai_E (d + 59) 272 39 [some (.inr (.inr (32, 0, 16128))), some (.inl (nI x)), some (.inl kn), some (.inl (nI i)), z4, z5] [] h = some ([.inl (if zany (fun e => decide (zsl (zMv h) 0 22 e = 3) && zcr (zsl (zMv h) 0) kn M x (zrow (zsl (zMv h) 0) e)) (zn (zsl (zMv h) 0) 4) = true then 1 else 2)], h) := by
            intro k
            induction k with
            | zero =>
              intro i hi hb z4 z5
              have hi : i = zn (zsl (zMv h) 0) 4 := by omega
              subst hi
              rw [T272_39, i0, b4.1, if_pos (by rw [z_le]; omega), hb]
              rfl
            | succ k ih =>
              intro i hi hb z4 z5
              have e22 : h.1 2064407 i = zsl (zMv h) 0 22 i := (zs0 (f := 22) (by omega)).symm
              have e25 : h.1 2064410 i = zsl (zMv h) 0 25 i := (zs0 (f := 25) (by omega)).symm
              have e26 : h.1 2064411 i = zsl (zMv h) 0 26 i := (zs0 (f := 26) (by omega)).symm
              have ixi : ∀ f : Nat → Option ai_R, ai_ix (nI i) 2400 f = f i := fun f => z_ix (by omega) (by decide)
              have no : (decide (zsl (zMv h) 0 22 i = 3) && zcr (zsl (zMv h) 0) kn M x (zrow (zsl (zMv h) 0) i)) = false → ∀ z4 z5, _ := fun q z4 z5 => ih (i + 1) (by omega) (by
                show (zany (fun e => decide (zsl (zMv h) 0 22 e = 3) && zcr (zsl (zMv h) 0) kn M x (zrow (zsl (zMv h) 0) e)) i || (decide (zsl (zMv h) 0 22 i = 3) && zcr (zsl (zMv h) 0) kn M x (zrow (zsl (zMv h) 0) i))) = false
                rw [q, hb]
                rfl) z4 z5
              rw [T272_39, i0, b4.1, if_neg (by rw [nI_leI (by omega) (by omega)]; omega)]
              simp only [ixi, e22, e25, e26, nI_1]
              by_cases g1 : zsl (zMv h) 0 22 i = 3
              · rw [if_pos g1]
                have r3 : (zrow (zsl (zMv h) 0) i).2.2.2 = zsl (zMv h) 0 26 i := rfl
                have r2 := zrow25 (σ := zsl (zMv h) 0) (e := i) (by rw [g1]; decide)
                by_cases g2 : kn < zsl (zMv h) 0 26 i
                · rw [if_pos g2]
                  refine no ?_ _ _
                  unfold zcr
                  rw [r3, decide_eq_false (show ¬ zsl (zMv h) 0 26 i ≤ kn from fun q => by rw [z_le] at q; rw [z_lt] at g2; omega)]
                  simp
                · rw [if_neg g2]
                  have g2' : zsl (zMv h) 0 26 i ≤ kn := by rw [z_lt] at g2; rw [z_le]; omega
                  by_cases g3 : zsl (zMv h) 0 25 i = 0
                  · rw [if_pos g3]
                    refine no ?_ _ _
                    unfold zcr
                    rw [r2, decide_eq_true g3]
                    simp
                  · rw [if_neg g3]
                    obtain ⟨a1, a2, a3, a4, a5, a6, a7, a8, a9⟩ := V.2.2.2.2.1.1 i (by omega)
                    have a8 := a8 (by rw [g1]; decide) (by rw [g1]; decide) (by rw [g1]; decide)
                    obtain ⟨t, ht, et⟩ := z_rng ⟨a5, a8⟩
                    have e23 : h.1 2064408 i = nI t := ((zs0 (f := 23) (by omega)).symm).trans et
                    have n6 := z_nd hr ht
                    have it : ∀ f : Nat → Option ai_R, ai_ix (nI t) 96 f = f t := fun f => z_ix (by omega) (by decide)
                    have r1 : (zrow (zsl (zMv h) 0) i).1 = nI t := et
                    have ec : zcr (zsl (zMv h) 0) kn M x (zrow (zsl (zMv h) 0) i) = decide (zab (zsl (zMv h) 0) (znd (zsl (zMv h) 0) t) &&& M = 2 ^ x) := by
                      unfold zcr
                      rw [r3, r2, r1, decide_eq_true g2', decide_eq_false g3, z_T (by omega), Int.toNat_natCast]
                      rfl
                    have u1 := zlu_1 (a := znd (zsl (zMv h) 0) t) hx hxm hM
                    rw [e23, it, n6.2.2.2.1, M269 _ hr (by omega) _ n6.1]
                    simp only [z_bi, zb_0, ixi, e23, it, n6.2.2.2.1]
                    by_cases g4 : (zab (zsl (zMv h) 0) (znd (zsl (zMv h) 0) t)).testBit x = true
                    · rw [if_neg (fun q => q g4)]
                      obtain ⟨y4, y5, q⟩ := M272_up (x := x) (e := i) (d + 57) kn hr _ n6.1 0 (by omega)
                      rw [show ai_E (d + 59) 272 116 [some (.inr (.inr (32, 0, 16128))), some (.inl (nI x)), some (.inl kn), some (.inl (nI i)), some (.inl 0), some (.inl (nI (znd (zsl (zMv h) 0) t)))] [] h = _ from q, Nat.zero_add]
                      by_cases g5 : zlu (zsl (zMv h) 0) kn (znd (zsl (zMv h) 0) t) = 1
                      · rw [if_pos g5, if_pos]
                        rw [zany_p]
                        refine ⟨i, by omega, ?_⟩
                        rw [ec, decide_eq_true (u1.mpr ⟨g4, g5⟩), decide_eq_true g1]
                        rfl
                      · rw [if_neg g5]
                        refine no ?_ _ _
                        rw [ec, decide_eq_false (fun q => g5 (u1.mp q).2), Bool.and_false]
                    · rw [if_pos g4]
                      refine no ?_ _ _
                      rw [ec, decide_eq_false (fun q => g4 (u1.mp q).1), Bool.and_false]
              · rw [if_neg g1]
                refine no ?_ _ _
                rw [decide_eq_false g1]
                rfl
          refine ⟨if zany (fun e => decide (zsl (zMv h) 0 22 e = 3) && zcr (zsl (zMv h) 0) kn M x (zrow (zsl (zMv h) 0) e)) (zn (zsl (zMv h) 0) 4) = true then 1 else 2, h, h, ?_, zF_rf, ?_, zF_rf⟩
          · rw [T126, X152 _ _ b0.1 b0.2.2]
            simp only [z_bi, zb_0]
            rw [if_neg (fun q => q c), e4, X159 _ _ _ _ z4 (by omega)]
            simp only [z_bi, zb_0]
            rw [if_neg (fun q => q t4), X147]
            simp only [z_bi, zb_0]
            rw [if_neg (fun q => q c2), a1]
            simp only [z_bi]
            rw [X159 _ _ _ _ a2 (by omega)]
            simp only [z_bi, zb_0]
            rw [if_pos (fun q => c3 (by rw [a3 x] at q; exact q)), e4, m1, X173 _ _ hr (by omega) (by omega)]
            simp only [z_bi, zb_0]
            by_cases g : zany (fun e => decide (zsl (zMv h) 0 22 e = 3) && zcr (zsl (zMv h) 0) kn M x (zrow (zsl (zMv h) 0) e)) (zn (zsl (zMv h) 0) 4) = true
            · rw [if_neg (fun q => q g), if_pos g]
            · rw [if_pos g, if_neg g]
          · rw [T272, M196 _ _ b0.2.1 (by omega)]
            simp only [z_bi, zb_0]
            rw [if_neg (fun q => q c), ix, e10, if_neg (fun q => c1 (neg.mp q)), M187]
            simp only [z_bi, zb_0]
            rw [if_neg (fun q => q c2), M271 _ _ hr (by omega)]
            simp only [z_bi, zb_0]
            rw [if_pos c3]
            exact KM (zn (zsl (zMv h) 0) 4) 0 (by omega) rfl _ _
      · refine ⟨-1, h, h, ?_, zF_rf, ?_, zF_rf⟩
        · rw [T126, X152 _ _ b0.1 b0.2.2]
          simp only [z_bi, zb_0]
          rw [if_neg (fun q => q c), e4, X159 _ _ _ _ z4 (by omega)]
          simp only [z_bi, zb_0]
          rw [if_neg (fun q => q t4), X147]
          simp only [z_bi, zb_0]
          rw [if_pos c2]
        · rw [T272, M196 _ _ b0.2.1 (by omega)]
          simp only [z_bi, zb_0]
          rw [if_neg (fun q => q c), ix, e10, if_neg (fun q => c1 (neg.mp q)), M187]
          simp only [z_bi, zb_0]
          rw [if_pos c2]
  · refine ⟨-1, h, h, ?_, zF_rf, ?_, zF_rf⟩
    · rw [T126, X152 _ _ b0.1 b0.2.2]
      simp only [z_bi, zb_0]
      rw [if_pos c]
    · rw [T272, M196 _ _ b0.2.1 (by omega)]
      simp only [z_bi, zb_0]
      rw [if_pos c]
