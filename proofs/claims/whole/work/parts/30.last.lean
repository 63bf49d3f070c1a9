/-! THE REFERENCE'S last -/
theorem zs0 {h : ai_H} {f i : Nat} (hf : f < 50 ∨ (63 ≤ f ∧ f < 67)) : zsl (zMv h) 0 f i = h.1 (2064385 + f) i := by
  unfold zsl
  rw [Nat.mul_zero, Nat.zero_add, zMv1 hf]
theorem M221 {h : ai_H} {n : Nat} (d : Nat) (k w dd kn o : Int32) (hn : h.1 2064389 0 = nI n) (hl : n ≤ 600) : ai_X (d + 1) 221 [.inr (.inr (32, 0, 16128)), .inl k, .inl w, .inl dd, .inl kn, .inl o] h = some ([.inl (match zbest (zsl (zMv h) 0) k w dd kn n with
    | some b => h.1 2064410 b
    | none => o)], h) := by
  have e22 : ∀ i, zsl (zMv h) 0 22 i = h.1 2064407 i := fun i => zs0 (f := 22) (by omega)
  have e23 : ∀ i, zsl (zMv h) 0 23 i = h.1 2064408 i := fun i => zs0 (f := 23) (by omega)
  have e24 : ∀ i, zsl (zMv h) 0 24 i = h.1 2064409 i := fun i => zs0 (f := 24) (by omega)
  have e26 : ∀ i, zsl (zMv h) 0 26 i = h.1 2064411 i := fun i => zs0 (f := 26) (by omega)
  have i0 : ∀ f : Nat → Option ai_R, ai_ix 0 4 f = f 0 := fun f => z_i0 (by decide) (by decide)
  have K : ∀ j i, i + j = n → ai_E d 221 6 [some (.inr (.inr (32, 0, 16128))), some (.inl k), some (.inl w), some (.inl dd), some (.inl kn), some (.inl o), some (.inl (zoI (zbest (zsl (zMv h) 0) k w dd kn i))), some (.inl (nI i))] [] h = some ([.inl (match zbest (zsl (zMv h) 0) k w dd kn n with
      | some b => h.1 2064410 b
      | none => o)], h) := by
    intro j
    induction j with
    | zero =>
      intro i hi
      have hi : i = n := by omega
      subst hi
      rw [T221_6, i0, hn, if_pos (by rw [z_le]; omega)]
      cases c : zbest (zsl (zMv h) 0) k w dd kn i with
      | none => rw [if_neg (by decide)]
      | some b =>
        have hb := (zbest_p c).1
        rw [if_pos (show (0 : Int32) ≤ zoI (some b) from nI_pos' (by omega))]
        exact z_ix (by omega) (by decide)
    | succ j ih =>
      intro i hi
      have ih := ih (i + 1) (by omega)
      have ix : ∀ f : Nat → Option ai_R, ai_ix (nI i) 2400 f = f i := fun f => z_ix (by omega) (by decide)
      rw [T221_6, i0, hn, if_neg (by rw [nI_leI (by omega) (by omega)]; omega)]
      simp only [ix, nI_1]
      have ez : zbest (zsl (zMv h) 0) k w dd kn (i + 1) = if h.1 2064407 i = k ∧ h.1 2064408 i = w ∧ h.1 2064409 i ≤ dd ∧ h.1 2064411 i ≤ kn ∧ (zbest (zsl (zMv h) 0) k w dd kn i).all (fun b => decide (h.1 2064409 b ≤ h.1 2064409 i)) = true then some i else zbest (zsl (zMv h) 0) k w dd kn i := by
        rw [zbest]
        simp only [e22, e23, e24, e26]
      rw [ez] at ih
      by_cases c1 : h.1 2064407 i = k
      · rw [if_pos c1]
        by_cases c2 : h.1 2064408 i = w
        · rw [if_pos c2]
          by_cases c3 : dd < h.1 2064409 i
          · rw [if_pos c3]
            rw [if_neg (fun q => by have := q.2.2.1; rw [z_le] at this; rw [z_lt] at c3; omega)] at ih
            exact ih
          · rw [if_neg c3]
            have c3' : h.1 2064409 i ≤ dd := by rw [z_lt] at c3; rw [z_le]; omega
            by_cases c4 : kn < h.1 2064411 i
            · rw [if_pos c4]
              rw [if_neg (fun q => by have := q.2.2.2.1; rw [z_le] at this; rw [z_lt] at c4; omega)] at ih
              exact ih
            · rw [if_neg c4]
              have c4' : h.1 2064411 i ≤ kn := by rw [z_lt] at c4; rw [z_le]; omega
              cases c : zbest (zsl (zMv h) 0) k w dd kn i with
              | none =>
                rw [if_pos (show zoI none < 0 by decide)]
                rw [c] at ih
                rw [if_pos ⟨c1, c2, c3', c4', rfl⟩] at ih
                exact ih
              | some b =>
                have hb := (zbest_p c).1
                rw [c] at ih
                show (if nI b < 0 then _ else _) = _
                rw [if_neg (nI_pos (by omega))]
                show ai_ix (nI b) 2400 _ = _
                rw [z_ix (by omega) (by decide)]
                by_cases c5 : h.1 2064409 i < h.1 2064409 b
                · rw [if_pos c5]
                  rw [if_neg (fun q => by have := of_decide_eq_true q.2.2.2.2; rw [z_le] at this; rw [z_lt] at c5; omega)] at ih
                  exact ih
                · rw [if_neg c5]
                  rw [if_pos ⟨c1, c2, c3', c4', decide_eq_true (by rw [z_lt] at c5; rw [z_le]; omega)⟩] at ih
                  exact ih
        · rw [if_neg c2]
          rw [if_neg (fun q => c2 q.2.1)] at ih
          exact ih
      · rw [if_neg c1]
        rw [if_neg (fun q => c1 q.1)] at ih
        exact ih
  rw [T221]
  exact K n 0 (by omega)
