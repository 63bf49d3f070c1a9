/-! busiest, hurts -/
theorem zMv_x {h h1 : ai_H} (a : zF zXS h h1) : zMv h1 = zMv h := zMv_c (fun f hf => funext fun j => a.1 _ j (fun q => by have := zXS_r q; rw [zMr (by omega)] at this; omega)) (fun j _ => a.1 _ j (fun q => by have := zXS_r q; revert this; decide))
theorem zMv_m {h h1 : ai_H} (a : zF zMS h h1) : zMv h1 = zMv h := zMv_c (fun f hf => funext fun j => a.1 _ j (by unfold zMS; omega)) (fun j hj => a.1 _ j (by unfold zMS; omega))
theorem zR_x {h h1 : ai_H} (hr : zR h) (a : zF zXS h h1) : zR h1 := zR_q hr a zF_rf
theorem zR_m {h h1 : ai_H} (hr : zR h) (a : zF zMS h h1) : zR h1 := zR_q hr zF_rf a
/-- how many taps go ahead -/
def zah (A : Nat → Int32) (n j : Nat) : Nat := zcnt (fun u => A j < A u ∨ (A u = A j ∧ u < j)) n
theorem X184 {h : ai_H} {n j : Nat} {A : Nat → Int32} (d : Nat) (hn : h.1 2097281 1 = nI n) (hl : n ≤ 24) (hj : j < n) (hA : ∀ u, u < 24 → h.1 16393 u = A u) : ai_X (d + 1) 184 [.inr (.inr (31, 0, 128)), .inl (nI j)] h = some ([.inl (nI (zah A n j))], h) := by
  unfold zah
  have K : ∀ k i, i + k = n → ai_E d 184 4 [some (.inr (.inr (31, 0, 128))), some (.inl (nI j)), some (.inl (nI (zcnt (fun u => A j < A u ∨ (A u = A j ∧ u < j)) i))), some (.inl (nI i))] [] h = some ([.inl (nI (zcnt (fun u => A j < A u ∨ (A u = A j ∧ u < j)) n))], h) := by
    intro k
    induction k with
    | zero =>
      intro i hi
      have hi : i = n := by omega
      subst hi
      rw [T184_4, hn, if_pos (by rw [z_le]; omega)]
    | succ k ih =>
      intro i hi
      have ih := ih (i + 1) (by omega)
      have es : zcnt (fun u => A j < A u ∨ (A u = A j ∧ u < j)) (i + 1) = zcnt (fun u => A j < A u ∨ (A u = A j ∧ u < j)) i + if A j < A i ∨ (A i = A j ∧ i < j) then 1 else 0 := rfl
      rw [es] at ih
      have ix : ∀ f : Nat → Option ai_R, ai_ix (nI i) 24 f = f i := fun f => z_ix (by omega) (by decide)
      have jx : ∀ f : Nat → Option ai_R, ai_ix (nI j) 24 f = f j := fun f => z_ix (by omega) (by decide)
      rw [T184_4, hn, if_neg (by rw [nI_leI (by omega) (by omega)]; omega)]
      simp only [ix, jx, hA i (by omega), hA j (by omega), nI_1]
      by_cases c1 : A j < A i
      · rw [if_pos c1]
        rw [if_pos (Or.inl c1)] at ih
        exact ih
      · rw [if_neg c1]
        by_cases c2 : A i = A j
        · rw [if_pos c2]
          by_cases c3 : nI j ≤ nI i
          · rw [if_pos c3]
            rw [nI_leI (by omega) (by omega)] at c3
            rw [if_neg (fun q => by rcases q with q | q; exact c1 q; omega)] at ih
            exact ih
          · rw [if_neg c3]
            rw [nI_leI (by omega) (by omega)] at c3
            rw [if_pos (Or.inr ⟨c2, by omega⟩)] at ih
            exact ih
        · rw [if_neg c2]
          rw [if_neg (fun q => by rcases q with q | q; exact c1 q; exact c2 q.1)] at ih
          exact ih
  rw [T184]
  exact K n 0 (by omega)
theorem M307_in {h : ai_H} {n j : Nat} {A : Nat → Int32} (d : Nat) (kk : Int32) (hn : h.1 2064386 0 = nI n) (hl : n ≤ 24) (hj : j < n) (hA : ∀ u, u < n → h.1 2064471 u = A u) (z1 z2 z3 : Option ai_V) : ∀ k i, i + k = n → ai_E d 307 76 [some (.inr (.inr (32, 0, 16128))), z1, z2, z3, some (.inl kk), some (.inl (nI j)), some (.inl (nI (zcnt (fun u => A j < A u ∨ (A u = A j ∧ u < j)) i))), some (.inl (nI i))] [] h = (if nI (zah A n j) = kk then some ([.inl (nI j)], h) else ai_E d 307 59 [some (.inr (.inr (32, 0, 16128))), z1, z2, z3, some (.inl kk), some (.inl (nI (j + 1))), some (.inl (nI (zah A n j))), some (.inl (nI n))] [] h) := by
  have i0 : ∀ f : Nat → Option ai_R, ai_ix 0 4 f = f 0 := fun f => z_i0 (by decide) (by decide)
  intro k
  induction k with
  | zero =>
    intro i hi
    have hi : i = n := by omega
    subst hi
    rw [T307_76, i0, hn, if_pos (by rw [z_le]; omega)]
    simp only [nI_1]
    rfl
  | succ k ih =>
    intro i hi
    have ih := ih (i + 1) (by omega)
    have es : zcnt (fun u => A j < A u ∨ (A u = A j ∧ u < j)) (i + 1) = zcnt (fun u => A j < A u ∨ (A u = A j ∧ u < j)) i + if A j < A i ∨ (A i = A j ∧ i < j) then 1 else 0 := rfl
    rw [es] at ih
    have ix : ∀ f : Nat → Option ai_R, ai_ix (nI i) 24 f = f i := fun f => z_ix (by omega) (by decide)
    have jx : ∀ f : Nat → Option ai_R, ai_ix (nI j) 24 f = f j := fun f => z_ix (by omega) (by decide)
    rw [T307_76, i0, hn, if_neg (by rw [nI_leI (by omega) (by omega)]; omega)]
    simp only [ix, jx, hA i (by omega), hA j (by omega), nI_1]
    by_cases c1 : A j < A i
    · rw [if_pos c1]
      rw [if_pos (Or.inl c1)] at ih
      exact ih
    · rw [if_neg c1]
      by_cases c2 : A i = A j
      · rw [if_pos c2]
        by_cases c3 : nI j ≤ nI i
        · rw [if_pos c3]
          rw [nI_leI (by omega) (by omega)] at c3
          rw [if_neg (fun q => by rcases q with q | q; exact c1 q; omega)] at ih
          exact ih
        · rw [if_neg c3]
          rw [nI_leI (by omega) (by omega)] at c3
          rw [if_pos (Or.inr ⟨c2, by omega⟩)] at ih
          exact ih
      · rw [if_neg c2]
        rw [if_neg (fun q => by rcases q with q | q; exact c1 q; exact c2 q.1)] at ih
        exact ih
theorem P_busiest (f t kn k : Int32) : zPr 141 307 [.inl f, .inl t, .inl kn, .inl k] := zPr_q fun d h hr => by
  obtain ⟨b0, b1, b2, b8, b5, b4, b3, V⟩ := zR_b hr
  have i0 : ∀ f : Nat → Option ai_R, ai_ix 0 4 f = f 0 := fun f => z_i0 (by decide) (by decide)
  by_cases c : (0 ≤ f.toInt ∧ f.toInt ≤ 999) ∧ (0 ≤ t.toInt ∧ t.toInt ≤ 999) ∧ f.toInt ≤ t.toInt ∧ (0 ≤ kn.toInt ∧ kn.toInt ≤ 999)
  · by_cases c1 : 0 ≤ k.toInt ∧ k.toInt < (zn (zsl (zMv h) 0) 1 : Int)
    · obtain ⟨h1, a1, a2, a3⟩ := X183 (d + 57) f t kn hr
      have hr1 := zR_x hr a2
      have eV := zMv_x a2
      have n1 : h1.1 2097281 1 = nI (zn (zsl (zMv h) 0) 1) := by rw [a2.1 _ _ (zXS_n (by decide))]; exact b1.1
      have m1 : h1.1 2064386 0 = nI (zn (zsl (zMv h) 0) 1) := by rw [a2.1 _ _ (fun q => by have := zXS_r q; revert this; decide)]; exact b1.2.1
      generalize hA : zbot (zled (zsl (zMv h) 0) (nI 9) (zn (zsl (zMv h) 0) 4)) f t kn = A at a3
      -- the class's search
      have KX := fun z1 z2 z3 => z_find (fun i => ai_E (d + 59) 141 30 [some (.inr (.inr (31, 0, 128))), z1, z2, z3, some (.inl k), some (.inl (nI i))] [] h1) (fun i => some ([.inl (nI i)], h1)) (fun i => nI (zah A (zn (zsl (zMv h) 0) 1) i) = k) (zn (zsl (zMv h) 0) 1) (fun i hi => by
        rw [T141_30, n1, if_neg (by rw [nI_leI (by omega) (by omega)]; omega), X184 _ n1 b1.2.2 hi a3]
        simp only [z_bi, nI_1])
      -- the reference's amounts
      have KA : ∀ q i, i + q = zn (zsl (zMv h) 0) 1 → ∀ h', zF zMS h1 h' → (∀ u, u < i → h'.1 2064471 u = A u) → ∀ z6 z7, ∃ h2, ai_E (d + 59) 307 23 [some (.inr (.inr (32, 0, 16128))), some (.inl f), some (.inl t), some (.inl kn), some (.inl k), some (.inl (nI i)), z6, z7] [] h' = ai_E (d + 59) 307 59 [some (.inr (.inr (32, 0, 16128))), some (.inl f), some (.inl t), some (.inl kn), some (.inl k), some (.inl 0), z6, z7] [] h2 ∧ zF zMS h1 h2 ∧ ∀ u, u < zn (zsl (zMv h) 0) 1 → h2.1 2064471 u = A u := by
        intro q
        induction q with
        | zero =>
          intro i hi h' fr g z6 z7
          have hi : i = zn (zsl (zMv h) 0) 1 := by omega
          subst hi
          refine ⟨h', ?_, fr, g⟩
          rw [T307_23, i0, fr.1 _ _ (by unfold zMS; omega), m1, if_pos (by rw [z_le]; omega)]
        | succ q ih =>
          intro i hi h' fr g z6 z7
          have eV' : zMv h' = zMv h := (zMv_m fr).trans eV
          rw [T307_23, i0, fr.1 _ _ (by unfold zMS; omega), m1, if_neg (by rw [nI_leI (by omega) (by omega)]; omega), M305t _ _ _ _ (zR_m hr1 fr) (by omega), eV', hA]
          simp only [z_bi, nI_1]
          rw [z_ix (by omega) (by decide)]
          refine ih (i + 1) (by omega) _ (zF_st fr (Or.inr ⟨by omega, by omega, by omega⟩)) (fun u hu => ?_) z6 z7
          rw [z_st1]
          by_cases w : u = i
          · rw [if_pos ⟨rfl, w⟩, w]
          · rw [if_neg (fun x => w x.2)]
            exact g u (by omega)
      obtain ⟨h2, q1, q2, q3⟩ := KA (zn (zsl (zMv h) 0) 1) 0 (by omega) h1 zF_rf (fun u hu => by omega) none none
      have m2 : h2.1 2064386 0 = nI (zn (zsl (zMv h) 0) 1) := by rw [q2.1 _ _ (by unfold zMS; omega)]; exact m1
      have KM : ∀ q i, i + q = zn (zsl (zMv h) 0) 1 → ∀ z1 z2 z3 z6 z7, ai_E (d + 59) 307 59 [some (.inr (.inr (32, 0, 16128))), z1, z2, z3, some (.inl k), some (.inl (nI i)), z6, z7] [] h2 = match zf (fun i => nI (zah A (zn (zsl (zMv h) 0) 1) i) = k) i q with
          | some j => some ([.inl (nI j)], h2)
          | none => some ([.inl (-1)], h2) := by
        intro q
        induction q with
        | zero =>
          intro i hi z1 z2 z3 z6 z7
          have hi : i = zn (zsl (zMv h) 0) 1 := by omega
          subst hi
          rw [T307_59, i0, m2, if_pos (by rw [z_le]; omega)]
          rfl
        | succ q ih =>
          intro i hi z1 z2 z3 z6 z7
          rw [T307_59, i0, m2, if_neg (by rw [nI_leI (by omega) (by omega)]; omega), show ai_E (d + 59) 307 76 [some (.inr (.inr (32, 0, 16128))), z1, z2, z3, some (.inl k), some (.inl (nI i)), some (.inl 0), some (.inl 0)] [] h2 = _ from M307_in (d + 59) k m2 b1.2.2 (by omega) q3 z1 z2 z3 (zn (zsl (zMv h) 0) 1) 0 (by omega)]
          rw [zf]
          by_cases w : nI (zah A (zn (zsl (zMv h) 0) 1) i) = k
          · rw [if_pos w, if_pos w]
          · rw [if_neg w, if_neg w]
            exact ih (i + 1) (by omega) _ _ _ _ _
      refine ⟨match zfst (fun i => nI (zah A (zn (zsl (zMv h) 0) 1) i) = k) (zn (zsl (zMv h) 0) 1) with
        | some j => nI j
        | none => -1, h1, h2, ?_, a2, ?_, q2⟩
      · rw [T141, X150]
        simp only [z_bi, zb_0]
        rw [if_neg (fun q => q c), X153 _ _ b1.1 b1.2.2]
        simp only [z_bi, zb_0]
        rw [if_neg (fun q => q c1), a1]
        simp only [z_bv]
        refine (KX _ _ _).trans ?_
        cases zfst (fun i => nI (zah A (zn (zsl (zMv h) 0) 1) i) = k) (zn (zsl (zMv h) 0) 1) with
        | some j => rfl
        | none => dsimp only; rw [T141_30, n1, if_pos (by rw [z_le]; omega)]
      · rw [T307, M297]
        simp only [z_bi, zb_0]
        rw [if_neg (fun q => q c), M195 _ _ m1 (by omega)]
        simp only [z_bi, zb_0]
        rw [if_neg (fun q => q c1)]
        refine Eq.trans q1 ?_
        refine (KM (zn (zsl (zMv h) 0) 1) 0 (by omega) _ _ _ _ _).trans ?_
        show (match zfst (fun i => nI (zah A (zn (zsl (zMv h) 0) 1) i) = k) (zn (zsl (zMv h) 0) 1) with | some j => some ([Sum.inl (nI j)], h2) | none => some ([Sum.inl (-1)], h2) : Option ai_R) = _
        cases zfst (fun i => nI (zah A (zn (zsl (zMv h) 0) 1) i) = k) (zn (zsl (zMv h) 0) 1) with
        | some j => rfl
        | none => rfl
    · refine ⟨-1, h, h, ?_, zF_rf, ?_, zF_rf⟩
      · rw [T141, X150]
        simp only [z_bi, zb_0]
        rw [if_neg (fun q => q c), X153 _ _ b1.1 b1.2.2]
        simp only [z_bi, zb_0]
        rw [if_pos c1]
      · rw [T307, M297]
        simp only [z_bi, zb_0]
        rw [if_neg (fun q => q c), M195 _ _ b1.2.1 (by omega)]
        simp only [z_bi, zb_0]
        rw [if_pos c1]
  · refine ⟨-1, h, h, ?_, zF_rf, ?_, zF_rf⟩
    · rw [T141, X150]
      simp only [z_bi, zb_0]
      rw [if_pos c]
    · rw [T307, M297]
      simp only [z_bi, zb_0]
      rw [if_pos c]
/-- the chance told last of a day -/
def zcha (σ : Nat → Nat → Int32) (dd kn : Int32) : Nat → Int32
  | 0 => -1
  | e + 1 => if σ 22 e = 5 ∧ σ 24 e = dd ∧ σ 26 e ≤ kn then σ 25 e else zcha σ dd kn e
theorem zcha_best {σ : Nat → Nat → Int32} {dd kn : Int32} (V : zV σ) : ∀ n, n ≤ zn σ 4 → zcha σ dd kn n = match zbest σ 5 0 dd kn n with
    | some b => if σ 24 b = dd then σ 25 b else -1
    | none => -1 := by
  intro n
  induction n with
  | zero => intro _; rfl
  | succ n ih =>
    intro hn
    have ih := ih (by omega)
    unfold zcha zbest
    rw [ih]
    by_cases c1 : σ 22 n = 5
    · have cw : σ 23 n = 0 := (V.2.2.2.2.1.1 n (by omega)).2.2.2.2.2.2.1 (Or.inr c1)
      by_cases c2 : σ 26 n ≤ kn
      · by_cases c3 : σ 24 n ≤ dd
        · cases e : zbest σ 5 0 dd kn n with
          | none =>
            rw [if_pos (show σ 22 n = 5 ∧ σ 23 n = 0 ∧ σ 24 n ≤ dd ∧ σ 26 n ≤ kn ∧ (none : Option Nat).all (fun b => decide (σ 24 b ≤ σ 24 n)) = true from ⟨c1, cw, c3, c2, rfl⟩)]
            dsimp only
            by_cases c4 : σ 24 n = dd
            · rw [if_pos ⟨c1, c4, c2⟩, if_pos c4]
            · rw [if_neg (fun q => c4 q.2.1), if_neg c4]
          | some b =>
            have hb := (zbest_p e).2.2.2.1
            by_cases c5 : σ 24 b ≤ σ 24 n
            · rw [if_pos (show σ 22 n = 5 ∧ σ 23 n = 0 ∧ σ 24 n ≤ dd ∧ σ 26 n ≤ kn ∧ (some b).all (fun b => decide (σ 24 b ≤ σ 24 n)) = true from ⟨c1, cw, c3, c2, decide_eq_true c5⟩)]
              dsimp only
              by_cases c4 : σ 24 n = dd
              · rw [if_pos ⟨c1, c4, c2⟩, if_pos c4]
              · rw [if_neg (fun q => c4 q.2.1), if_neg c4, if_neg]
                intro q
                apply c4
                rw [q] at c5
                rw [z_eq]
                rw [z_le] at c3 c5
                omega
            · rw [if_neg (show ¬ (σ 22 n = 5 ∧ σ 23 n = 0 ∧ σ 24 n ≤ dd ∧ σ 26 n ≤ kn ∧ (some b).all (fun b => decide (σ 24 b ≤ σ 24 n)) = true) from fun q => c5 (of_decide_eq_true q.2.2.2.2)), if_neg]
              rintro ⟨-, q, -⟩
              rw [q] at c5
              exact c5 hb
        · rw [if_neg (fun q => c3 (by rw [q.2.1, z_le]; omega)), if_neg (fun q => c3 q.2.2.1)]
      · rw [if_neg (fun q => c2 q.2.2), if_neg (fun q => c2 q.2.2.2.1)]
    · rw [if_neg (fun q => c1 q.1), if_neg (fun q => c1 q.1)]
theorem M295 {h : ai_H} (d : Nat) (dd kn : Int32) (hr : zR h) : ai_X (d + 1) 295 [.inr (.inr (32, 0, 16128)), .inl dd, .inl kn] h = some ([.inl (zcha (zsl (zMv h) 0) dd kn (zn (zsl (zMv h) 0) 4))], h) := by
  obtain ⟨b0, b1, b2, b8, b5, b4, b3, V⟩ := zR_b hr
  have i0 : ∀ f : Nat → Option ai_R, ai_ix 0 4 f = f 0 := fun f => z_i0 (by decide) (by decide)
  have K : ∀ k i, i + k = zn (zsl (zMv h) 0) 4 → ai_E d 295 5 [some (.inr (.inr (32, 0, 16128))), some (.inl dd), some (.inl kn), some (.inl (zcha (zsl (zMv h) 0) dd kn i)), some (.inl (nI i))] [] h = some ([.inl (zcha (zsl (zMv h) 0) dd kn (zn (zsl (zMv h) 0) 4))], h) := by
    intro k
    induction k with
    | zero =>
      intro i hi
      have hi : i = zn (zsl (zMv h) 0) 4 := by omega
      subst hi
      rw [T295_5, i0, b4.1, if_pos (by rw [z_le]; omega)]
    | succ k ih =>
      intro i hi
      have ih := ih (i + 1) (by omega)
      have e22 : h.1 2064407 i = zsl (zMv h) 0 22 i := (zs0 (f := 22) (by omega)).symm
      have e24 : h.1 2064409 i = zsl (zMv h) 0 24 i := (zs0 (f := 24) (by omega)).symm
      have e25 : h.1 2064410 i = zsl (zMv h) 0 25 i := (zs0 (f := 25) (by omega)).symm
      have e26 : h.1 2064411 i = zsl (zMv h) 0 26 i := (zs0 (f := 26) (by omega)).symm
      have ix : ∀ f : Nat → Option ai_R, ai_ix (nI i) 2400 f = f i := fun f => z_ix (by omega) (by decide)
      have es : zcha (zsl (zMv h) 0) dd kn (i + 1) = if zsl (zMv h) 0 22 i = 5 ∧ zsl (zMv h) 0 24 i = dd ∧ zsl (zMv h) 0 26 i ≤ kn then zsl (zMv h) 0 25 i else zcha (zsl (zMv h) 0) dd kn i := rfl
      rw [es] at ih
      rw [T295_5, i0, b4.1, if_neg (by rw [nI_leI (by omega) (by omega)]; omega)]
      simp only [ix, e22, e24, e25, e26, nI_1]
      by_cases c1 : zsl (zMv h) 0 22 i = 5
      · rw [if_pos c1]
        by_cases c2 : zsl (zMv h) 0 24 i = dd
        · rw [if_pos c2]
          by_cases c3 : kn < zsl (zMv h) 0 26 i
          · rw [if_pos c3]
            rw [if_neg (fun q => by have := q.2.2; rw [z_le] at this; rw [z_lt] at c3; omega)] at ih
            exact ih
          · rw [if_neg c3]
            rw [if_pos ⟨c1, c2, by rw [z_lt] at c3; rw [z_le]; omega⟩] at ih
            exact ih
        · rw [if_neg c2]
          rw [if_neg (fun q => c2 q.2.1)] at ih
          exact ih
      · rw [if_neg c1]
        rw [if_neg (fun q => c1 q.1)] at ih
        exact ih
  rw [T295]
  exact K (zn (zsl (zMv h) 0) 4) 0 (by omega)
/-- a place in a ledger, and the row there -/
theorem zlat_row {h : ai_H} {a : Nat} {l : List zR4} {s d kn : Int32} {i : Nat} (hl : zL h a l) (c : zlat s d kn l = some i) : zlv (zok s d kn) l = some (zLr h a i) ∧ i < l.length := by
  have hi := zlat_lt c
  have e := zlat_v s d kn l
  rw [c] at e
  rw [← e, ← zL_row hl hi]
  exact ⟨rfl, hi⟩
theorem zlat_none {l : List zR4} {s d kn : Int32} (c : zlat s d kn l = none) : zlv (zok s d kn) l = none := by
  have e := zlat_v s d kn l
  rw [c] at e
  exact e.symm
def zice (σ : Nat → Nat → Int32) (w dd kn : Int32) : Prop := 0 < zcha σ dd kn (zn σ 4) ∧ ¬ zshut σ w dd kn = true
theorem X180 {h : ai_H} (d : Nat) (w dd kn : Int32) (hr : zR h) : ai_X (d + 4) 180 [.inr (.inr (31, 0, 128)), .inl w, .inl dd, .inl kn] h = some ([.inl (zb (0 < zcha (zsl (zMv h) 0) dd kn (zn (zsl (zMv h) 0) 4) ∧ ¬ zshut (zsl (zMv h) 0) w dd kn = true))], h) := by
  obtain ⟨l1, lk, l3, l4⟩ := zR_led hr (k := 5) (by decide)
  have V : zV (zsl (zMv h) 0) := hr.2.1.2.1 0 (Nat.zero_le _)
  obtain ⟨k0, k1, k2, k3⟩ := id lk
  have k1' : (h.2.2.2.1 34361869058).2 = zmost 5 := k1
  have k2' : (h.2.2.2.1 34361869059).2 = zmost 5 := k2
  have hc := zcha_best (dd := dd) (kn := kn) V (zn (zsl (zMv h) 0) 4) (Nat.le_refl _)
  have hv := zled_best (zsl (zMv h) 0) (nI 5) 0 dd kn (zn (zsl (zMv h) 0) 4)
  have e5 : nI 5 = 5 := rfl
  rw [T180, show ai_X (d + 3) 39 [.inr (.inr (25, 0, 268452102)), .inl 0, .inl dd, .inl kn] h = _ from X39 (d + 2) 0 dd kn l1 lk l3 (by omega)]
  simp only [z_bi, z_b0, z_b1, k1', k2']
  cases e : zlat 0 dd kn (zled (zsl (zMv h) 0) (nI 5) (zn (zsl (zMv h) 0) 4)) with
  | none =>
    rw [zlat_none e, e5] at hv
    have hb : zbest (zsl (zMv h) 0) 5 0 dd kn (zn (zsl (zMv h) 0) 4) = none := by
      cases q : zbest (zsl (zMv h) 0) 5 0 dd kn (zn (zsl (zMv h) 0) 4) with
      | none => rfl
      | some b => rw [q] at hv; cases hv
    rw [hb] at hc
    rw [hc, if_pos (show zoI none = -1 from rfl), zb_f]
    rintro ⟨q, -⟩
    exact absurd (show (0 : Int32) < -1 from q) (by decide)
  | some i =>
    obtain ⟨g1, g2⟩ := zlat_row l1 e
    rw [g1, e5] at hv
    have ix : ∀ f : Nat → Option ai_R, ai_ix (zoI (some i)) (zmost 5) f = f i := fun f => z_ix (by omega) (by omega)
    have n1 : ¬ zoI (some i) = -1 := by show ¬ nI i = -1; rw [z_eq, z_T (by omega)]; simp only [zl0, zl1, zl2, zl3, zl4, zl5, zl6, zl7, zl8, zl9, zl10, zl12, zl15, zl16, zl20, zl22, zl23, zl24, zl27, zl30, zl31, zl32, zl40, zl46, zl48, zl50, zl57, zl59, zl60, zl61, zl62, zl63, zl80, zl96, zl97, zl99, zl100, zl122, zl255, zl360, zl500, zl999, zl9999, zl60000, zl99999, zl16777215, zl1073741824, zlm1, zlm2, zlm3]; omega
    rw [if_neg n1]
    simp only [ix]
    cases q : zbest (zsl (zMv h) 0) 5 0 dd kn (zn (zsl (zMv h) 0) 4) with
    | none => rw [q] at hv; cases hv
    | some b =>
      rw [q] at hv hc
      have hrow : zLr h (ai_ch 2097282 5) i = zrow (zsl (zMv h) 0) b := Option.some.inj hv
      have r1 : h.1 34361869058 i = zsl (zMv h) 0 24 b := congrArg (fun z : zR4 => z.2.1) hrow
      have hk := (zbest_p q).2.1
      have r2 : h.1 34361869059 i = zsl (zMv h) 0 25 b := by
        have := congrArg (fun z : zR4 => z.2.2.1) hrow
        have e2 : (zrow (zsl (zMv h) 0) b).2.2.1 = zsl (zMv h) 0 25 b := by
          unfold zrow
          dsimp only
          rw [hk, if_neg (by decide)]
        exact this.trans e2
      rw [r1, r2]
      dsimp only at hc
      by_cases c1 : zsl (zMv h) 0 24 b = dd
      · rw [if_pos c1] at hc ⊢
        rw [hc]
        by_cases c2 : zsl (zMv h) 0 25 b ≤ 0
        · rw [if_pos c2, zb_f]
          rintro ⟨x, -⟩
          rw [z_le] at c2
          rw [z_lt] at x
          omega
        · rw [if_neg c2, X166 _ _ _ _ hr]
          simp only [z_bi, zb_0]
          by_cases c3 : zshut (zsl (zMv h) 0) w dd kn = true
          · rw [if_neg (fun x => x c3), zb_f (fun x => x.2 c3)]
          · rw [if_pos c3, zb_t ⟨by rw [z_le] at c2; rw [z_lt]; omega, c3⟩]
      · rw [if_neg c1] at hc ⊢
        rw [hc, zb_f]
        rintro ⟨x, -⟩
        revert x
        decide
