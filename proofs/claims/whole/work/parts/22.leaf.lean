/-! LEAVES: what needs no picture of the heap -/
theorem zl0 : (0 : Int32).toInt = 0 := rfl
theorem zl1 : (1 : Int32).toInt = 1 := rfl
theorem zl2 : (2 : Int32).toInt = 2 := rfl
theorem zl3 : (3 : Int32).toInt = 3 := rfl
theorem zl4 : (4 : Int32).toInt = 4 := rfl
theorem zl5 : (5 : Int32).toInt = 5 := rfl
theorem zl6 : (6 : Int32).toInt = 6 := rfl
theorem zl7 : (7 : Int32).toInt = 7 := rfl
theorem zl8 : (8 : Int32).toInt = 8 := rfl
theorem zl9 : (9 : Int32).toInt = 9 := rfl
theorem zl10 : (10 : Int32).toInt = 10 := rfl
theorem zl12 : (12 : Int32).toInt = 12 := rfl
theorem zl15 : (15 : Int32).toInt = 15 := rfl
theorem zl16 : (16 : Int32).toInt = 16 := rfl
theorem zl20 : (20 : Int32).toInt = 20 := rfl
theorem zl22 : (22 : Int32).toInt = 22 := rfl
theorem zl23 : (23 : Int32).toInt = 23 := rfl
theorem zl24 : (24 : Int32).toInt = 24 := rfl
theorem zl27 : (27 : Int32).toInt = 27 := rfl
theorem zl30 : (30 : Int32).toInt = 30 := rfl
theorem zl31 : (31 : Int32).toInt = 31 := rfl
theorem zl32 : (32 : Int32).toInt = 32 := rfl
theorem zl40 : (40 : Int32).toInt = 40 := rfl
theorem zl46 : (46 : Int32).toInt = 46 := rfl
theorem zl48 : (48 : Int32).toInt = 48 := rfl
theorem zl50 : (50 : Int32).toInt = 50 := rfl
theorem zl57 : (57 : Int32).toInt = 57 := rfl
theorem zl59 : (59 : Int32).toInt = 59 := rfl
theorem zl60 : (60 : Int32).toInt = 60 := rfl
theorem zl61 : (61 : Int32).toInt = 61 := rfl
theorem zl62 : (62 : Int32).toInt = 62 := rfl
theorem zl63 : (63 : Int32).toInt = 63 := rfl
theorem zl80 : (80 : Int32).toInt = 80 := rfl
theorem zl96 : (96 : Int32).toInt = 96 := rfl
theorem zl97 : (97 : Int32).toInt = 97 := rfl
theorem zl99 : (99 : Int32).toInt = 99 := rfl
theorem zl100 : (100 : Int32).toInt = 100 := rfl
theorem zl122 : (122 : Int32).toInt = 122 := rfl
theorem zl255 : (255 : Int32).toInt = 255 := rfl
theorem zl360 : (360 : Int32).toInt = 360 := rfl
theorem zl500 : (500 : Int32).toInt = 500 := rfl
theorem zl999 : (999 : Int32).toInt = 999 := rfl
theorem zl9999 : (9999 : Int32).toInt = 9999 := rfl
theorem zl60000 : (60000 : Int32).toInt = 60000 := rfl
theorem zl99999 : (99999 : Int32).toInt = 99999 := rfl
theorem zl16777215 : (16777215 : Int32).toInt = 16777215 := rfl
theorem zl1073741824 : (1073741824 : Int32).toInt = 1073741824 := rfl
theorem zlm1 : (-1 : Int32).toInt = -1 := rfl
theorem zlm2 : (-2 : Int32).toInt = -2 := rfl
theorem zlm3 : (-3 : Int32).toInt = -3 := rfl
theorem X146 (d : Nat) (v m : Int32) (h : ai_H) : ai_X (d + 1) 146 [.inl v, .inl m] h = some ([.inl (zb (0 ≤ v.toInt ∧ v.toInt ≤ m.toInt))], h) := by
  rw [T146]
  simp only [z_lt, zl0, zl1, zl2, zl3, zl4, zl5, zl6, zl7, zl8, zl9, zl10, zl12, zl15, zl16, zl20, zl22, zl23, zl24, zl27, zl30, zl31, zl32, zl40, zl46, zl48, zl50, zl57, zl59, zl60, zl61, zl62, zl63, zl80, zl96, zl97, zl99, zl100, zl122, zl255, zl360, zl500, zl999, zl9999, zl60000, zl99999, zl16777215, zl1073741824, zlm1, zlm2, zlm3, z_b0, z_b1]
  by_cases h1 : v.toInt < 0
  · rw [if_pos h1, zb_f (by omega)]
  · rw [if_neg h1]
    by_cases h2 : m.toInt < v.toInt
    · rw [if_pos h2, zb_f (by omega)]
    · rw [if_neg h2, zb_t (by omega)]
theorem X147 (d : Nat) (v : Int32) (h : ai_H) : ai_X (d + 2) 147 [.inl v] h = some ([.inl (zb (0 ≤ v.toInt ∧ v.toInt ≤ 999))], h) := by
  rw [T147, X146]
  simp only [z_bi, zl0, zl1, zl2, zl3, zl4, zl5, zl6, zl7, zl8, zl9, zl10, zl12, zl15, zl16, zl20, zl22, zl23, zl24, zl27, zl30, zl31, zl32, zl40, zl46, zl48, zl50, zl57, zl59, zl60, zl61, zl62, zl63, zl80, zl96, zl97, zl99, zl100, zl122, zl255, zl360, zl500, zl999, zl9999, zl60000, zl99999, zl16777215, zl1073741824, zlm1, zlm2, zlm3, zb_b]
theorem X148 (d : Nat) (v : Int32) (h : ai_H) : ai_X (d + 2) 148 [.inl v] h = some ([.inl (zb (0 ≤ v.toInt ∧ v.toInt ≤ 255))], h) := by
  rw [T148, X146]
  simp only [z_bi, zl0, zl1, zl2, zl3, zl4, zl5, zl6, zl7, zl8, zl9, zl10, zl12, zl15, zl16, zl20, zl22, zl23, zl24, zl27, zl30, zl31, zl32, zl40, zl46, zl48, zl50, zl57, zl59, zl60, zl61, zl62, zl63, zl80, zl96, zl97, zl99, zl100, zl122, zl255, zl360, zl500, zl999, zl9999, zl60000, zl99999, zl16777215, zl1073741824, zlm1, zlm2, zlm3, zb_b]
theorem X149 (d : Nat) (x0 x1 x2 : Int32) (h : ai_H) : ai_X (d + 3) 149 [.inl x0, .inl x1, .inl x2] h = some ([.inl (zb ((0 ≤ x0.toInt ∧ x0.toInt ≤ 30) ∧ (0 ≤ x1.toInt ∧ x1.toInt ≤ 999) ∧ (0 ≤ x2.toInt ∧ x2.toInt ≤ 999)))], h) := by
  rw [T149, X146]
  simp only [z_bi, zl0, zl1, zl2, zl3, zl4, zl5, zl6, zl7, zl8, zl9, zl10, zl12, zl15, zl16, zl20, zl22, zl23, zl24, zl27, zl30, zl31, zl32, zl40, zl46, zl48, zl50, zl57, zl59, zl60, zl61, zl62, zl63, zl80, zl96, zl97, zl99, zl100, zl122, zl255, zl360, zl500, zl999, zl9999, zl60000, zl99999, zl16777215, zl1073741824, zlm1, zlm2, zlm3, X147, zb_0, z_b0, z_b1]
  by_cases h1 : 0 ≤ x0.toInt ∧ x0.toInt ≤ 30
  · rw [if_neg (fun c => c h1)]
    by_cases h2 : 0 ≤ x1.toInt ∧ x1.toInt ≤ 999
    · rw [if_neg (fun c => c h2)]
      by_cases h3 : 0 ≤ x2.toInt ∧ x2.toInt ≤ 999
      · rw [if_neg (fun c => c h3), zb_t ⟨h1, h2, h3⟩]
      · rw [if_pos h3, zb_f (fun c => h3 c.2.2)]
    · rw [if_pos h2, zb_f (fun c => h2 c.2.1)]
  · rw [if_pos h1, zb_f (fun c => h1 c.1)]
theorem X150 (d : Nat) (x0 x1 x2 : Int32) (h : ai_H) : ai_X (d + 3) 150 [.inl x0, .inl x1, .inl x2] h = some ([.inl (zb ((0 ≤ x0.toInt ∧ x0.toInt ≤ 999) ∧ (0 ≤ x1.toInt ∧ x1.toInt ≤ 999) ∧ x0.toInt ≤ x1.toInt ∧ (0 ≤ x2.toInt ∧ x2.toInt ≤ 999)))], h) := by
  rw [T150]
  simp only [z_bi, zl0, zl1, zl2, zl3, zl4, zl5, zl6, zl7, zl8, zl9, zl10, zl12, zl15, zl16, zl20, zl22, zl23, zl24, zl27, zl30, zl31, zl32, zl40, zl46, zl48, zl50, zl57, zl59, zl60, zl61, zl62, zl63, zl80, zl96, zl97, zl99, zl100, zl122, zl255, zl360, zl500, zl999, zl9999, zl60000, zl99999, zl16777215, zl1073741824, zlm1, zlm2, zlm3, X147, zb_0, z_b0, z_b1, z_lt]
  by_cases h1 : 0 ≤ x0.toInt ∧ x0.toInt ≤ 999
  · rw [if_neg (fun c => c h1)]
    by_cases h2 : 0 ≤ x1.toInt ∧ x1.toInt ≤ 999
    · rw [if_neg (fun c => c h2)]
      by_cases h4 : x1.toInt < x0.toInt
      · rw [if_pos h4, zb_f (by omega)]
      · rw [if_neg h4]
        by_cases h3 : 0 ≤ x2.toInt ∧ x2.toInt ≤ 999
        · rw [if_neg (fun c => c h3), zb_t ⟨h1, h2, by omega, h3⟩]
        · rw [if_pos h3, zb_f (fun c => h3 c.2.2.2)]
    · rw [if_pos h2, zb_f (fun c => h2 c.2.1)]
  · rw [if_pos h1, zb_f (fun c => h1 c.1)]
/-- a count's bound: a place below it -/
theorem X146c {n : Nat} (d : Nat) (v m : Int32) (h : ai_H) (hm : m = nI n) (hn : n ≤ 30000) : ai_X (d + 1) 146 [.inl v, .inl (m - 1)] h = some ([.inl (zb (0 ≤ v.toInt ∧ v.toInt < (n : Int)))], h) := by
  subst hm
  rw [X146]
  have e : (nI n - 1).toInt = (n : Int) - 1 := by rw [z_sub] <;> rw [z_T (by omega)] <;> simp only [zl0, zl1, zl2, zl3, zl4, zl5, zl6, zl7, zl8, zl9, zl10, zl12, zl15, zl16, zl20, zl22, zl23, zl24, zl27, zl30, zl31, zl32, zl40, zl46, zl48, zl50, zl57, zl59, zl60, zl61, zl62, zl63, zl80, zl96, zl97, zl99, zl100, zl122, zl255, zl360, zl500, zl999, zl9999, zl60000, zl99999, zl16777215, zl1073741824, zlm1, zlm2, zlm3] <;> omega
  rw [e]
  exact congrArg (fun z => some ([Sum.inl z], h)) (zb_c (by omega))
/-- Integer.bitCount -/
theorem z_ushr {n : Nat} (h : n < 4294967296) (k : Nat) (s : Int32) (hs : ((s.toUInt32 &&& Int32.toUInt32 31).toBitVec % 32).toNat = k) : ai_ushr (nI n) s = nI (n / 2 ^ k) := pk_ushrN (by omega) s k hs
theorem X312 (d a : Nat) (h : ai_H) (ha : a < 2147483648) : ai_X (d + 1) 312 [.inl (nI a)] h = some ([.inl (nI (zpc 32 a))], h) := by
  obtain ⟨v1, v2, v3, l1, e1, l2, e2, l3, e3, l4, l5, l6, e4⟩ := z_swar (a := a) (by omega)
  rw [T312]
  have m5 : (1431655765 : Int32) = nI 1431655765 := rfl
  have m3 : (858993459 : Int32) = nI 858993459 := rfl
  have mf : (252645135 : Int32) = nI 252645135 := rfl
  have m6 : (63 : Int32) = nI 63 := rfl
  have u1 : ai_ushr (nI a) 1 = nI (a / 2) := z_ushr (by omega) 1 1 (by decide)
  have s1 : nI a - (ai_ushr (nI a) 1 &&& 1431655765) = nI v1 := by rw [u1, m5, z_and, pk_sub l1, ← e1]
  have u2 : ai_ushr (nI v1) 2 = nI (v1 / 4) := z_ushr l2 2 2 (by decide)
  have s2 : (nI v1 &&& 858993459) + (ai_ushr (nI v1) 2 &&& 858993459) = nI v2 := by rw [u2, m3, z_and, z_and, nI_add, ← e2]
  have u3 : ai_ushr (nI v2) 4 = nI (v2 / 16) := z_ushr l3 4 4 (by decide)
  have s3 : (nI v2 + ai_ushr (nI v2) 4) &&& 252645135 = nI v3 := by rw [u3, mf, nI_add, z_and, ← e3]
  have u4 : ai_ushr (nI v3) 8 = nI (v3 / 256) := z_ushr l4 8 8 (by decide)
  have s4 : nI v3 + ai_ushr (nI v3) 8 = nI (v3 + v3 / 256) := by rw [u4, nI_add]
  have u5 : ai_ushr (nI (v3 + v3 / 256)) 16 = nI ((v3 + v3 / 256) / 65536) := z_ushr l6 16 16 (by decide)
  rw [s1, s2, s3, s4, u5, nI_add, m6, z_and, show (63 : Nat) = 2 ^ 6 - 1 from rfl, Nat.and_two_pow_sub_one_eq_mod]
  show some ([Sum.inl (nI ((v3 + v3 / 256 + (v3 + v3 / 256) / 65536) % 64))], h) = _
  rw [e4]
theorem zpc_B {p : Nat → Prop} [DecidablePred p] {n : Nat} (hn : n ≤ 31) : zpc 32 (zB p n) = zcnt p n := by
  rw [zpc_cnt]
  have K : ∀ k, n ≤ k → zcnt (fun i => (zB p n).testBit i = true) k = zcnt p n := by
    intro k hk
    induction hk with
    | refl => exact zcnt_c fun i hi => by rw [zB_tb]; simp [hi]
    | step hk ih =>
      rename_i k
      show zcnt (fun i => (zB p n).testBit i = true) k + (if (zB p n).testBit k = true then 1 else 0) = zcnt p n
      have e : ¬ (zB p n).testBit k = true := by
        rw [zB_tb]
        have : ¬ k < n := by simp only [Nat.le_eq] at hk; omega
        simp [this]
      rw [ih, if_neg e, Nat.add_zero]
  exact K 32 (by omega)
theorem X312B {p : Nat → Prop} [DecidablePred p] {n : Nat} (d : Nat) (h : ai_H) (hn : n ≤ 31) : ai_X (d + 1) 312 [.inl (nI (zB p n))] h = some ([.inl (nI (zcnt p n))], h) := by
  rw [X312 _ _ _ (zB_31 hn), zpc_B hn]
/-- a bit of a set -/
theorem X159 (d a i : Nat) (h : ai_H) (ha : a < 2147483648) (hi : i < 32) : ai_X (d + 1) 159 [.inl (nI a), .inl (nI i)] h = some ([.inl (zb (a.testBit i = true))], h) := by
  rw [T159]
  simp only [z_tb0 ha hi, z_b0, z_b1]
  cases a.testBit i <;> rfl
