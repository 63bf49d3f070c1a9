/-! THE TAPS THAT RUN -/
theorem zB_s {p : Nat → Prop} [DecidablePred p] {n : Nat} : zB p (n + 1) = if p n then zB p n ||| 2 ^ n else zB p n := rfl
/-- the taps of a state that the law doesn't dry -/
theorem X170 {h : ai_H} {b : Bool} (d : Nat) (x kn : Int32) (hr : zR h) : ∃ h1, ai_X (d + 7) 170 [.inr (.inr (31, 0, 128)), .inl (zb (b = true)), .inl x, .inl kn] h = some ([.inl (nI (zB (fun t => zshut (zsl (zMv h) 0) (nI t) x kn = b ∧ zdry h t x kn = 0) (zn (zsl (zMv h) 0) 1)))], h1) ∧ zF zXS h h1 := by
  obtain ⟨b0, b1, b2, b8, b5, b4, b3, V⟩ := zR_b hr
  have h41 := X41k (k := 0) (d + 5) x kn hr (by decide) (by decide)
  have zl : zB (fun t => zsob (nI t) x kn (zled (zsl (zMv h) 0) (nI 0) (zn (zsl (zMv h) 0) 4)) = true) 24 < 2147483648 := zB_31 (by decide)
  have tb : ∀ t, t < 24 → (zB (fun t => zsob (nI t) x kn (zled (zsl (zMv h) 0) (nI 0) (zn (zsl (zMv h) 0) 4)) = true) 24).testBit t = zshut (zsl (zMv h) 0) (nI t) x kn := by
    intro t ht
    rw [zB_tb]
    have : zshut (zsl (zMv h) 0) (nI t) x kn = zsob (nI t) x kn (zled (zsl (zMv h) 0) (nI 0) (zn (zsl (zMv h) 0) 4)) := rfl
    rw [this]
    cases zsob (nI t) x kn (zled (zsl (zMv h) 0) (nI 0) (zn (zsl (zMv h) 0) 4)) <;> simp [ht]
  have K : ∀ k i, i + k = zn (zsl (zMv h) 0) 1 → ∀ g, zF zXS h g → ∃ h1, ai_E (d + 6) 170 23 [some (.inr (.inr (31, 0, 128))), some (.inl (zb (b = true))), some (.inl x), some (.inl kn), some (.inl (nI (zB (fun t => zsob (nI t) x kn (zled (zsl (zMv h) 0) (nI 0) (zn (zsl (zMv h) 0) 4)) = true) 24))), some (.inl (nI (zB (fun t => zshut (zsl (zMv h) 0) (nI t) x kn = b ∧ zdry h t x kn = 0) i))), some (.inl (nI i))] [] g = some ([.inl (nI (zB (fun t => zshut (zsl (zMv h) 0) (nI t) x kn = b ∧ zdry h t x kn = 0) (zn (zsl (zMv h) 0) 1)))], h1) ∧ zF zXS h h1 := by
    intro k
    induction k with
    | zero =>
      intro i hi g fg
      have hi : i = zn (zsl (zMv h) 0) 1 := by omega
      subst hi
      have n1 : g.1 2097281 1 = nI (zn (zsl (zMv h) 0) 1) := by rw [fg.1 _ _ (zXS_n (by decide))]; exact b1.1
      exact ⟨g, by rw [T170_23, n1, if_pos (by rw [z_le]; omega)], fg⟩
    | succ k ih =>
      intro i hi g fg
      have ih := ih (i + 1) (by omega)
      have n1 : g.1 2097281 1 = nI (zn (zsl (zMv h) 0) 1) := by rw [fg.1 _ _ (zXS_n (by decide))]; exact b1.1
      have hrg := zR_x hr fg
      have eV := zMv_x fg
      have ez : ∀ t, zdry g t x kn = zdry h t x kn := fun t => by unfold zdry; rw [eV]
      have es : zB (fun t => zshut (zsl (zMv h) 0) (nI t) x kn = b ∧ zdry h t x kn = 0) (i + 1) = if zshut (zsl (zMv h) 0) (nI i) x kn = b ∧ zdry h i x kn = 0 then zB (fun t => zshut (zsl (zMv h) 0) (nI t) x kn = b ∧ zdry h t x kn = 0) i ||| 2 ^ i else zB (fun t => zshut (zsl (zMv h) 0) (nI t) x kn = b ∧ zdry h t x kn = 0) i := rfl
      rw [es] at ih
      rw [T170_23, n1, if_neg (by rw [nI_leI (by omega) (by omega)]; omega), X159 _ _ _ _ zl (by omega), tb i (by omega)]
      simp only [z_bi, nI_1]
      have eb : (zb (zshut (zsl (zMv h) 0) (nI i) x kn = true) = zb (b = true)) ↔ zshut (zsl (zMv h) 0) (nI i) x kn = b := by
        cases zshut (zsl (zMv h) 0) (nI i) x kn <;> cases b <;> decide
      by_cases c : zshut (zsl (zMv h) 0) (nI i) x kn = b
      · obtain ⟨g1, q1, q2⟩ := X169 (h := g) (t := i) (d + 1) x kn hrg (by rw [eV]; omega)
        rw [ez] at q1
        rw [if_pos (eb.mpr c), q1]
        simp only [z_bi]
        by_cases c2 : zdry h i x kn = 0
        · rw [if_pos c2, z_bit (by omega), z_or]
          rw [if_pos ⟨c, c2⟩] at ih
          exact ih g1 (zF_tr fg q2)
        · rw [if_neg c2]
          rw [if_neg (fun q => c2 q.2)] at ih
          exact ih g1 (zF_tr fg q2)
      · rw [if_neg (fun q => c (eb.mp q))]
        rw [if_neg (fun q => c q.1)] at ih
        exact ih g fg
  rw [T170, show ai_X (d + 6) 41 [.inr (.inr (25, 0, 268452097)), .inl x, .inl kn] h = _ from h41]
  simp only [z_bi]
  exact K (zn (zsl (zMv h) 0) 1) 0 (by omega) h zF_rf
