/-! PACKED -/
theorem zcnt_on {p : Nat → Prop} [DecidablePred p] {k : Nat} : ∀ W, k < zcnt p W → ∃ j, j < W ∧ p j ∧ zcnt p j = k := by
  intro W
  induction W with
  | zero => intro h; exact absurd h (Nat.not_lt_zero _)
  | succ W ih =>
    intro h
    by_cases c : k < zcnt p W
    · obtain ⟨j, h1, h2, h3⟩ := ih c
      exact ⟨j, by omega, h2, h3⟩
    · rw [zcnt_1] at h
      by_cases q : p W
      · rw [if_pos q] at h
        exact ⟨W, Nat.lt_succ_self W, q, by omega⟩
      · rw [if_neg q] at h
        omega
theorem zpk_ok {μ μ' : zMu} {st : Nat → Nat} {W : Nat} (hW : (μ.2 42).toInt.toNat = W) (W2 : W ≤ 20000) (hs : ∀ p, p < 6 → st p ≤ 24 ∧ (μ.1 36 p).toInt.toNat = st p)
    (h42 : μ'.2 42 = nI (zkt st (fun i => (μ.1 40 i).toInt.toNat) (fun i => (μ.1 41 i).toInt.toNat) W))
    (e36 : ∀ p, p < 6 → μ'.1 36 p = μ.1 36 p) (e38 : ∀ i, i < 144 → μ'.1 38 i = μ.1 38 i ∧ μ'.1 39 i = μ.1 39 i)
    (e40 : ∀ i, i < 144 → i % 24 < st (i / 24) → μ'.1 40 i = nI (zkt st (fun i => (μ.1 40 i).toInt.toNat) (fun i => (μ.1 41 i).toInt.toNat) (μ.1 40 i).toInt.toNat) ∧ μ'.1 41 i = nI (zkt st (fun i => (μ.1 40 i).toInt.toNat) (fun i => (μ.1 41 i).toInt.toNat) (μ.1 41 i).toInt.toNat))
    (es : ∀ f j, 43 ≤ f → f ≤ 46 → j < W → zkb st (fun i => (μ.1 40 i).toInt.toNat) (fun i => (μ.1 41 i).toInt.toNat) j = true → μ'.1 f (zkt st (fun i => (μ.1 40 i).toInt.toNat) (fun i => (μ.1 41 i).toInt.toNat) j) = μ.1 f j) :
    (∀ p, p < 6 → zVl μ p → zlaw μ' p = zlaw μ p ∧ zVl μ' p) ∧ ((∀ k, k < W → zi (μ.1 43 k) 0 3 ∧ zi (μ.1 44 k) 0 5 ∧ zi (μ.1 45 k) 0 62 ∧ zi (μ.1 46 k) 0 99999) → ∀ k, k < zkt st (fun i => (μ.1 40 i).toInt.toNat) (fun i => (μ.1 41 i).toInt.toNat) W → zi (μ'.1 43 k) 0 3 ∧ zi (μ'.1 44 k) 0 5 ∧ zi (μ'.1 45 k) 0 62 ∧ zi (μ'.1 46 k) 0 99999) := by
  refine ⟨fun p hp hv => ?_, fun hb k hk => ?_⟩
  · refine zlaw_F (F := zkt st (fun i => (μ.1 40 i).toInt.toNat) (fun i => (μ.1 41 i).toInt.toNat)) (kp := fun j => zkb st (fun i => (μ.1 40 i).toInt.toNat) (fun i => (μ.1 41 i).toInt.toNat) j = true) (W := W) hv (Nat.le_of_eq hW) W2 (fun j hj => zcnt_m hj) h42 (Nat.le_trans (zcnt_le W) W2) (e36 p hp) (fun i hi => e38 _ (by omega)) (fun i hi => ?_) (fun i j hi h1 h2 => ?_) (fun a k hk => zcnt_k k hk) es
    · rw [(hs p hp).2] at hi
      have := (hs p hp).1
      exact e40 (24 * p + i) (by omega) (by rw [show (24 * p + i) % 24 = i by omega, show (24 * p + i) / 24 = p by omega]; exact hi)
    · rw [(hs p hp).2] at hi
      have := (hs p hp).1
      exact zkb_is.mpr ⟨24 * p + i, by omega, by rw [show (24 * p + i) % 24 = i by omega, show (24 * p + i) / 24 = p by omega]; exact hi, h1, h2⟩
  · obtain ⟨j, h1, h2, h3⟩ := zcnt_on W hk
    have e : ∀ f, 43 ≤ f → f ≤ 46 → μ'.1 f k = μ.1 f j := fun f a b => by rw [← h3]; exact es f j a b h1 h2
    rw [e 43 (by decide) (by decide), e 44 (by decide) (by decide), e 45 (by decide) (by decide), e 46 (by decide) (by decide)]
    exact hb j h1
