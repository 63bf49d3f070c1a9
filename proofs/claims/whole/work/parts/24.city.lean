/-! THE CITY: nodes, taps, houses, places: the class's methods and the reference's -/
theorem zabF_c {σ σ' : Nat → Nat → Int32} : ∀ (k i : Nat), (∀ j, j ≤ i → σ' 10 j = σ 10 j) → (∀ j, j ≤ i → σ 10 j = -1 ∨ zi (σ 10 j) 0 ((j : Int) - 1)) → zabF σ' k i = zabF σ k i := by
  intro k
  induction k with
  | zero => intro i _ _; rfl
  | succ k ih =>
    intro i h1 h2
    unfold zabF
    rw [h1 i (Nat.le_refl _)]
    by_cases e : σ 10 i = -1
    · rw [if_pos e, if_pos e]
    · rw [if_neg e, if_neg e]
      have h3 := h2 i (Nat.le_refl _)
      unfold zi at h3
      have h4 : (σ 10 i).toInt.toNat < i := by
        rcases h3 with h3 | h3
        · exact absurd h3 e
        · omega
      rw [ih _ (fun j hj => h1 j (by omega)) (fun j hj => h2 j (by omega))]
theorem zabF_k {σ : Nat → Nat → Int32} : ∀ (i k : Nat), i < k → (∀ j, j ≤ i → σ 10 j = -1 ∨ zi (σ 10 j) 0 ((j : Int) - 1)) → zabF σ k i = zab σ i := by
  intro i
  induction i using Nat.strongRecOn with
  | ind i ih =>
    intro k hk h2
    obtain ⟨k, rfl⟩ : ∃ k', k = k' + 1 := ⟨k - 1, by omega⟩
    unfold zab zabF
    by_cases e : σ 10 i = -1
    · rw [if_pos e, if_pos e]
    · rw [if_neg e, if_neg e]
      have h3 := h2 i (Nat.le_refl _)
      unfold zi at h3
      have h4 : (σ 10 i).toInt.toNat < i := by
        rcases h3 with h3 | h3
        · exact absurd h3 e
        · omega
      rw [ih _ h4 k (by omega) (fun j hj => h2 j (by omega)), ih _ h4 i h4 (fun j hj => h2 j (by omega))]
theorem zab_lt {σ : Nat → Nat → Int32} : ∀ {i : Nat}, (∀ j, j ≤ i → σ 10 j = -1 ∨ zi (σ 10 j) 0 ((j : Int) - 1)) → zab σ i < 2 ^ (i + 1) := by
  intro i
  induction i using Nat.strongRecOn with
  | ind i ih =>
    intro h2
    have hp : 2 ^ i < 2 ^ (i + 1) := by rw [Nat.pow_succ]; have := Nat.two_pow_pos i; omega
    unfold zab zabF
    by_cases e : σ 10 i = -1
    · rw [if_pos e]; exact hp
    · rw [if_neg e]
      have h3 := h2 i (Nat.le_refl _)
      unfold zi at h3
      have h4 : (σ 10 i).toInt.toNat < i := by
        rcases h3 with h3 | h3
        · exact absurd h3 e
        · omega
      have h5 : ∀ j, j ≤ (σ 10 i).toInt.toNat → σ 10 j = -1 ∨ zi (σ 10 j) 0 ((j : Int) - 1) := fun j hj => h2 j (by omega)
      rw [zabF_k _ _ h4 h5]
      exact Nat.or_lt_two_pow hp (Nat.lt_of_lt_of_le (ih _ h4 h5) (Nat.pow_le_pow_right (by decide) (by omega)))
theorem X152 {n : Nat} {h : ai_H} (d : Nat) (v : Int32) (hn : h.1 2097281 0 = nI n) (hl : n ≤ 24) : ai_X (d + 2) 152 [.inr (.inr (31, 0, 128)), .inl v] h = some ([.inl (zb (0 ≤ v.toInt ∧ v.toInt < (n : Int)))], h) := by
  rw [T152, X146c d v _ h hn (by omega)]
  simp only [z_bi, zb_b]
theorem X153 {n : Nat} {h : ai_H} (d : Nat) (v : Int32) (hn : h.1 2097281 1 = nI n) (hl : n ≤ 24) : ai_X (d + 2) 153 [.inr (.inr (31, 0, 128)), .inl v] h = some ([.inl (zb (0 ≤ v.toInt ∧ v.toInt < (n : Int)))], h) := by
  rw [T153, X146c d v _ h hn (by omega)]
  simp only [z_bi, zb_b]
theorem X154 {n : Nat} {h : ai_H} (d : Nat) (v : Int32) (hn : h.1 2097281 2 = nI n) (hl : n ≤ 30) : ai_X (d + 2) 154 [.inr (.inr (31, 0, 128)), .inl v] h = some ([.inl (zb (0 ≤ v.toInt ∧ v.toInt < (n : Int)))], h) := by
  rw [T154, X146c d v _ h hn (by omega)]
  simp only [z_bi, zb_b]
theorem X155 {n : Nat} {h : ai_H} (d : Nat) (v : Int32) (hn : h.1 2097283 0 = nI n) (hl : n ≤ 40) : ai_X (d + 2) 155 [.inr (.inr (31, 0, 128)), .inl v] h = some ([.inl (zb (0 ≤ v.toInt ∧ v.toInt < (n : Int)))], h) := by
  rw [T155, X146c d v _ h hn (by omega)]
  simp only [z_bi, zb_b]
theorem X151 {h : ai_H} (d : Nat) (v : Int32) : ai_X (d + 2) 151 [.inr (.inr (31, 0, 128)), .inl v] h = some ([.inl (zb (0 ≤ v.toInt ∧ v.toInt ≤ (h.1 2097282 13).toInt))], h) := by
  rw [T151, X146]
  simp only [z_bi, zb_b]
theorem X1_full {n : Nat} {h : ai_H} (d : Nat) (v : Int32) (hn : h.1 2097281 0 = nI n) (hl : n ≤ 24) (hf : 24 ≤ n) : ai_X (d + 1) 1 [.inr (.inr (20, 0, 2097281)), .inl v] h = some ([.inl (-1)], h) := by
  rw [T1, hn, if_neg]
  simp only [z_lt, zl0, zl1, zl2, zl3, zl4, zl5, zl6, zl7, zl8, zl9, zl10, zl12, zl15, zl16, zl20, zl22, zl23, zl24, zl27, zl30, zl31, zl32, zl40, zl46, zl48, zl50, zl57, zl59, zl60, zl61, zl62, zl63, zl80, zl96, zl97, zl99, zl100, zl122, zl255, zl360, zl500, zl999, zl9999, zl60000, zl99999, zl16777215, zl1073741824, zlm1, zlm2, zlm3]
  rw [z_T (by omega)]
  omega
theorem X1_none {n : Nat} {h : ai_H} (d : Nat) (hn : h.1 2097281 0 = nI n) (hl : n < 24) : ai_X (d + 1) 1 [.inr (.inr (20, 0, 2097281)), .inl (-1)] h = some ([.inl (nI n)], ai_st (ai_st (ai_st h 268451975 n (-1)) 268451976 n (nI (2 ^ n))) 2097281 0 (nI (n + 1))) := by
  have c1 : nI n < 24 := by simp only [z_lt, zl0, zl1, zl2, zl3, zl4, zl5, zl6, zl7, zl8, zl9, zl10, zl12, zl15, zl16, zl20, zl22, zl23, zl24, zl27, zl30, zl31, zl32, zl40, zl46, zl48, zl50, zl57, zl59, zl60, zl61, zl62, zl63, zl80, zl96, zl97, zl99, zl100, zl122, zl255, zl360, zl500, zl999, zl9999, zl60000, zl99999, zl16777215, zl1073741824, zlm1, zlm2, zlm3]; rw [z_T (by omega)]; omega
  rw [T1, hn, if_pos c1, z_ix hl (by omega)]
  simp only [z_st1, z_bi, z_bv, z_br, Nat.reduceEqDiff, false_and, and_false, true_and, and_true, and_self, if_false, if_true, ite_true, ite_false, reduceIte, not_true_eq_false, not_false_eq_true, hn]
  rw [z_ix hl (by omega), T1_74]
  simp only [z_st1, z_bi, z_bv, z_br, Nat.reduceEqDiff, false_and, and_false, true_and, and_true, and_self, if_false, if_true, ite_true, ite_false, reduceIte, not_true_eq_false, not_false_eq_true, hn]
  rw [z_bit (by omega), nI_1, nI_pred]
theorem X1_par {n p w z : Nat} {h : ai_H} (d : Nat) (hn : h.1 2097281 0 = nI n) (hl : n < 24) (hp : p < n) (ha : h.1 268451976 p = nI w) (hz : h.1 2097281 4 = nI z) : ai_X (d + 1) 1 [.inr (.inr (20, 0, 2097281)), .inl (nI p)] h = some ([.inl (nI n)], ai_st (ai_st (ai_st (ai_st (ai_st h 268451975 n (nI p)) 268451976 n (nI (2 ^ n))) 268451976 n (nI (2 ^ n ||| w))) 2097281 4 (nI (z ||| 2 ^ n))) 2097281 0 (nI (n + 1))) := by
  have c1 : nI n < 24 := by simp only [z_lt, zl0, zl1, zl2, zl3, zl4, zl5, zl6, zl7, zl8, zl9, zl10, zl12, zl15, zl16, zl20, zl22, zl23, zl24, zl27, zl30, zl31, zl32, zl40, zl46, zl48, zl50, zl57, zl59, zl60, zl61, zl62, zl63, zl80, zl96, zl97, zl99, zl100, zl122, zl255, zl360, zl500, zl999, zl9999, zl60000, zl99999, zl16777215, zl1073741824, zlm1, zlm2, zlm3]; rw [z_T (by omega)]; omega
  have c2 : ¬ nI p = -1 := by rw [z_eq, z_T (by omega)]; simp only [zl0, zl1, zl2, zl3, zl4, zl5, zl6, zl7, zl8, zl9, zl10, zl12, zl15, zl16, zl20, zl22, zl23, zl24, zl27, zl30, zl31, zl32, zl40, zl46, zl48, zl50, zl57, zl59, zl60, zl61, zl62, zl63, zl80, zl96, zl97, zl99, zl100, zl122, zl255, zl360, zl500, zl999, zl9999, zl60000, zl99999, zl16777215, zl1073741824, zlm1, zlm2, zlm3]; omega
  have c3 : ¬ p = n := by omega
  rw [T1, hn, if_pos c1, z_ix hl (by omega)]
  simp only [z_st1, z_bi, z_bv, z_br, Nat.reduceEqDiff, false_and, and_false, true_and, and_true, and_self, if_false, if_true, ite_true, ite_false, reduceIte, not_true_eq_false, not_false_eq_true, hn]
  rw [z_ix hl (by omega), if_neg c2, z_ix hl (by omega), z_ix (show p < 24 by omega) (by omega), z_ix hl (by omega), T1_74]
  simp only [z_st1, z_bi, z_bv, z_br, Nat.reduceEqDiff, false_and, and_false, true_and, and_true, and_self, if_false, if_true, ite_true, ite_false, reduceIte, not_true_eq_false, not_false_eq_true, hn, ha, hz, c3]
  rw [z_bit (by omega), nI_1, nI_pred, z_or, z_or]
