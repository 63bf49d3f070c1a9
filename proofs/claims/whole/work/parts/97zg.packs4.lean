/-! PACKS: a text stays -/
theorem zlaw_F {μ μ' : zMu} {F : Nat → Nat} {kp : Nat → Prop} {p W : Nat} (hv : zVl μ p) (W2 : (μ.2 42).toInt.toNat ≤ W) (W3 : W ≤ 20000) (FW : ∀ j, j ≤ W → F j ≤ F W) (h42 : μ'.2 42 = nI (F W)) (F2 : F W ≤ 20000) (e36 : μ'.1 36 p = μ.1 36 p)
    (e38 : ∀ i, i < 24 → μ'.1 38 (24 * p + i) = μ.1 38 (24 * p + i) ∧ μ'.1 39 (24 * p + i) = μ.1 39 (24 * p + i))
    (e40 : ∀ i, i < (μ.1 36 p).toInt.toNat → μ'.1 40 (24 * p + i) = nI (F (μ.1 40 (24 * p + i)).toInt.toNat) ∧ μ'.1 41 (24 * p + i) = nI (F (μ.1 41 (24 * p + i)).toInt.toNat))
    (kl : ∀ i j, i < (μ.1 36 p).toInt.toNat → (μ.1 40 (24 * p + i)).toInt.toNat ≤ j → j < (μ.1 41 (24 * p + i)).toInt.toNat → kp j)
    (Fk : ∀ a k, (∀ j, j < k → kp (a + j)) → F (a + k) = F a + k)
    (es : ∀ f j, 43 ≤ f → f ≤ 46 → j < W → kp j → μ'.1 f (F j) = μ.1 f j) : zlaw μ' p = zlaw μ p ∧ zVl μ' p := by
  obtain ⟨v1, v2, v3⟩ := id hv
  have l24 : (μ.1 36 p).toInt.toNat ≤ 24 := by unfold zi at v1; omega
  have R : ∀ i, i < (μ.1 36 p).toInt.toNat → ∃ a m, (μ.1 40 (24 * p + i)).toInt.toNat = a ∧ (μ.1 41 (24 * p + i)).toInt.toNat = a + m ∧ a + m ≤ W ∧ (∀ k, k ≤ m → F (a + k) = F a + k) ∧ (∀ k, k < m → kp (a + k)) ∧ (μ'.1 40 (24 * p + i)).toInt = ((F a : Nat) : Int) ∧ (μ'.1 41 (24 * p + i)).toInt = ((F a + m : Nat) : Int) ∧ F a + m ≤ F W := fun i hi => by
    obtain ⟨-, -, u3, u4, u5, -⟩ := v2 i hi
    obtain ⟨w1, w2⟩ := e40 i hi
    refine ⟨_, (μ.1 41 (24 * p + i)).toInt.toNat - (μ.1 40 (24 * p + i)).toInt.toNat, rfl, by omega, by omega, fun k hk => Fk _ k fun j hj => kl i _ hi (by omega) (by omega), fun k hk => kl i _ hi (by omega) (by omega), ?_, ?_, ?_⟩
    · rw [w1, z_T]
      have := FW (μ.1 40 (24 * p + i)).toInt.toNat (by omega)
      omega
    · have e1 := Fk (μ.1 40 (24 * p + i)).toInt.toNat ((μ.1 41 (24 * p + i)).toInt.toNat - (μ.1 40 (24 * p + i)).toInt.toNat) (fun j hj => kl i _ hi (by omega) (by omega))
      rw [show (μ.1 40 (24 * p + i)).toInt.toNat + ((μ.1 41 (24 * p + i)).toInt.toNat - (μ.1 40 (24 * p + i)).toInt.toNat) = (μ.1 41 (24 * p + i)).toInt.toNat by omega] at e1
      have := FW (μ.1 41 (24 * p + i)).toInt.toNat (by omega)
      rw [w2, z_T (by omega), e1]
    · have e1 := Fk (μ.1 40 (24 * p + i)).toInt.toNat ((μ.1 41 (24 * p + i)).toInt.toNat - (μ.1 40 (24 * p + i)).toInt.toNat) (fun j hj => kl i _ hi (by omega) (by omega))
      rw [show (μ.1 40 (24 * p + i)).toInt.toNat + ((μ.1 41 (24 * p + i)).toInt.toNat - (μ.1 40 (24 * p + i)).toInt.toNat) = (μ.1 41 (24 * p + i)).toInt.toNat by omega] at e1
      rw [← e1]
      exact FW _ (by omega)
  have el : zlaw μ' p = zlaw μ p := by
    unfold zlaw
    rw [e36]
    refine List.map_congr_left fun i hi => ?_
    have hi := List.mem_range.mp hi
    obtain ⟨a, m, a1, a2, a3, a4, a5, a6, a7, a8⟩ := R i hi
    rw [(e38 i (by omega)).1, (e38 i (by omega)).2, a1, a2, a6, a7, Int.toNat_natCast, Int.toNat_natCast]
    refine congrArg (fun x => (μ.1 38 (24 * p + i), μ.1 39 (24 * p + i), x)) ?_
    unfold zcode
    rw [show F a + m - F a = m by omega, show a + m - a = m by omega]
    refine List.map_congr_left fun k hk => ?_
    have hk := List.mem_range.mp hk
    have ek := a4 k (by omega)
    unfold zenc
    rw [← ek, es 43 _ (by decide) (by decide) (by omega) (a5 k hk), es 44 _ (by decide) (by decide) (by omega) (a5 k hk), es 45 _ (by decide) (by decide) (by omega) (a5 k hk), es 46 _ (by decide) (by decide) (by omega) (a5 k hk)]
  refine ⟨el, by rw [e36]; exact v1, fun i hi => ?_, by rw [el]; exact v3⟩
  rw [e36] at hi
  obtain ⟨u1, u2, u3, u4, u5, u6⟩ := v2 i hi
  obtain ⟨a, m, a1, a2, a3, a4, a5, a6, a7, a8⟩ := R i hi
  rw [(e38 i (by omega)).1, (e38 i (by omega)).2, a6, a7, h42, z_T (by omega)]
  refine ⟨u1, u2, by omega, by omega, by omega, ?_⟩
  rw [Int.toNat_natCast, Int.toNat_natCast, show F a + m - F a = m by omega]
  have dp : ∀ k, k ≤ m → zdep μ' (F a) k = zdep μ a k := by
    intro k
    induction k with
    | zero => intro _; rfl
    | succ k ih =>
      intro hk
      unfold zdep
      rw [ih (by omega), ← a4 k (by omega), es 43 _ (by decide) (by decide) (by omega) (a5 k (by omega))]
  rw [dp m (Nat.le_refl _)]
  rw [a1, a2, show a + m - a = m by omega] at u6
  rw [u6]
  refine congrArg some ?_
  have q1 : μ.1 40 (24 * p + i) = μ.1 41 (24 * p + i) ↔ m = 0 := by
    rw [z_eq]
    omega
  have q2 : μ'.1 40 (24 * p + i) = μ'.1 41 (24 * p + i) ↔ m = 0 := by
    rw [z_eq, a6, a7]
    omega
  by_cases c : m = 0
  · rw [if_pos (q1.mpr c), if_pos (q2.mpr c)]
  · rw [if_neg (fun w => c (q1.mp w)), if_neg (fun w => c (q2.mp w))]
