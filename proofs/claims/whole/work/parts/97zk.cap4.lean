/-! A CAP READ WELL: packed or not -/
theorem zcap4 {h3 : ai_H} {T W : Nat} (e : Nat) (s42 : h3.1 16128 42 = nI W) (W2 : W ≤ 19500) (T5 : T ≤ 5) (hT : zg (zMv h3) 33 = T)
    (v : ∀ t, t < T → zVl (zMv h3) (1 + t)) (v0 : zVl (zMv h3) 0) (S : ∀ k, k < W → zi ((zMv h3).1 43 k) 0 3 ∧ zi ((zMv h3).1 44 k) 0 5 ∧ zi ((zMv h3).1 45 k) 0 62 ∧ zi ((zMv h3).1 46 k) 0 99999) (U : ∀ t, T ≤ t → t < 5 → (zMv h3).1 36 (1 + t) = 0) :
    ∃ h4, ai_X (e + 1) 238 [.inr (.inr (32, 0, 16128))] h3 = some ([], h4) ∧ h4.2 = h3.2 ∧ (∀ q, ¬ (2064428 ≤ q ∧ q ≤ 2064431) → ¬ q = 2064445 → ¬ q = 2064425 → ¬ q = 2064426 → ¬ q = 16128 → h4.1 q = h3.1 q) ∧ (∀ j, ¬ j = 42 → h4.1 16128 j = h3.1 16128 j) ∧ (∀ p, p < 6 → zVl (zMv h3) p → zlaw (zMv h4) p = zlaw (zMv h3) p ∧ zVl (zMv h4) p) ∧ zVs (zMv h4) := by
  have m42 : (zMv h3).2 42 = nI W := (zMv2 (by decide)).trans s42
  have rW : ((zMv h3).2 42).toInt.toNat = W := by rw [m42, z_T (by omega)]; exact Int.toNat_natCast W
  have vp : ∀ p, p < 6 → zVl (zMv h3) p ∨ (zMv h3).1 36 p = 0 := fun p hp => by
    by_cases c : p = 0
    · subst c; exact Or.inl v0
    · by_cases c2 : p < 1 + T
      · have := v (p - 1) (by omega)
        rw [show 1 + (p - 1) = p by omega] at this
        exact Or.inl this
      · have := U (p - 1) (by omega) (by omega)
        rw [show 1 + (p - 1) = p by omega] at this
        exact Or.inr this
  have hs : ∀ p, p < 6 → ((zMv h3).1 36 p).toInt.toNat ≤ 24 ∧ (zMv h3).1 36 p = nI ((zMv h3).1 36 p).toInt.toNat := fun p hp => by
    rcases vp p hp with w | w
    · have := w.1
      exact ⟨by unfold zi at this; omega, z_nat this.1⟩
    · rw [w]; decide
  have hr : ∀ i, i < 144 → i % 24 < ((zMv h3).1 36 (i / 24)).toInt.toNat → ((zMv h3).1 40 i = nI ((zMv h3).1 40 i).toInt.toNat ∧ (zMv h3).1 41 i = nI ((zMv h3).1 41 i).toInt.toNat) ∧ ((zMv h3).1 40 i).toInt.toNat ≤ ((zMv h3).1 41 i).toInt.toNat ∧ ((zMv h3).1 41 i).toInt.toNat ≤ W := fun i hi hl => by
    rcases vp (i / 24) (by omega) with w | w
    · obtain ⟨-, -, u3, u4, u5, -⟩ := w.2.1 (i % 24) hl
      rw [show 24 * (i / 24) + i % 24 = i by omega] at u3 u4 u5
      exact ⟨⟨z_nat u3, z_nat (by omega)⟩, by omega, by omega⟩
    · rw [w] at hl
      exact absurd hl (Nat.not_lt_zero _)
  obtain ⟨h4, a1, a2, a3, a4, a5, a6, a7⟩ := M238 (h := h3) (st := fun p => ((zMv h3).1 36 p).toInt.toNat) (cf := fun i => ((zMv h3).1 40 i).toInt.toNat) (ct := fun i => ((zMv h3).1 41 i).toInt.toNat) (W := W) e (fun p hp => ⟨(hs p hp).1, by have := (hs p hp).2; rw [zMv1 (by decide)] at this ⊢; exact this⟩) (fun i hi hl => by
    obtain ⟨⟨k1, k2⟩, k3, k4⟩ := hr i hi hl
    refine ⟨⟨?_, ?_⟩, k3, k4⟩
    · rw [zMv1 (by decide)] at k1 ⊢; exact k1
    · rw [zMv1 (by decide)] at k2 ⊢; exact k2) s42 (by omega)
  have o : ∀ f, (f = 36 ∨ f = 38 ∨ f = 39) → ∀ i, (zMv h4).1 f i = (zMv h3).1 f i := fun f hf i => by
    rw [zMv1 (by omega), zMv1 (by omega), a3 _ (by omega) (by omega) (by omega) (by omega) (by omega)]
  obtain ⟨z1, z2⟩ := zpk_ok (μ := zMv h3) (μ' := zMv h4) (st := fun p => ((zMv h3).1 36 p).toInt.toNat) (W := W) rW (by omega) (fun p hp => ⟨(hs p hp).1, rfl⟩) ((zMv2 (by decide)).trans a5) (fun p _ => o 36 (Or.inl rfl) p) (fun i _ => ⟨o 38 (Or.inr (Or.inl rfl)) i, o 39 (Or.inr (Or.inr rfl)) i⟩) (fun i hi hl => by
    obtain ⟨k1, k2⟩ := a6 i hi hl
    exact ⟨(zMv1 (by decide)).trans k1, (zMv1 (by decide)).trans k2⟩) (fun f j h1 h2 hj hk => by
    rw [zMv1 (by omega), zMv1 (by omega)]
    exact a7 _ (by omega) (by omega) j hj hk)
  have n3 := zkt_3 (μ := zMv h3) (st := fun p => ((zMv h3).1 36 p).toInt.toNat) W (fun p hp => ⟨(hs p hp).1, rfl⟩) (fun p hp => by
    rcases vp p hp with w | w
    · exact w.2.2
    · have : zlaw (zMv h3) p = [] := by
        unfold zlaw
        rw [w]
        rfl
      rw [this]
      exact Nat.zero_le _)
  have g33 : zg (zMv h4) 33 = T := by
    rw [← hT]
    unfold zg
    rw [zMv2 (by decide), zMv2 (by decide), a4 33 (by decide)]
  refine ⟨h4, a1, a2, a3, a4, z1, ?_, fun k hk => ?_, fun t h1 h2 => ?_⟩
  · rw [zMv2 (by decide), a5, g33]
    unfold zi
    rw [z_T (by omega)]
    omega
  · rw [zMv2 (by decide), a5, z_T (by omega), Int.toNat_natCast] at hk
    exact z2 S k hk
  · rw [o 36 (Or.inl rfl)]
    exact U t (by rw [← g33]; exact h1) h2
