/-! feed -/
def zby (x : Int32) (k : Nat) : Int32 := ai_ushr x (nI (24 - 8 * k)) &&& (255 : Int32)
def zsb (x : Int32) (k : Nat) : Int32 := (x >>> nI (24 - 8 * k)).toInt8.toInt32.toInt8.toInt32
theorem zby24 (x : Int32) : zby x 0 = zsb x 0 &&& (255 : Int32) := by
  show ai_ushr x 24 &&& (255 : Int32) = ((x >>> 24).toInt8.toInt32.toInt8.toInt32) &&& (255 : Int32)
  apply Int32.toBitVec_inj.mp
  apply BitVec.eq_of_getLsbD_eq
  intro i hi
  have k : ∀ i, i < 32 → (255#32).getLsbD i = decide (i < 8) := by decide
  unfold ai_ushr
  simp [Int32.toBitVec_shiftRight, BitVec.getLsbD_signExtend, BitVec.getLsbD_sshiftRight, k i hi]
  by_cases g : i < 8
  · have g1 : 24 + i < 32 := by omega
    have g2 : ¬ 32 ≤ i := by omega
    simp [g, g1, g2, hi]
  · simp [g]
theorem zby16 (x : Int32) : zby x 1 = zsb x 1 &&& (255 : Int32) := by
  show ai_ushr x 16 &&& (255 : Int32) = ((x >>> 16).toInt8.toInt32.toInt8.toInt32) &&& (255 : Int32)
  apply Int32.toBitVec_inj.mp
  apply BitVec.eq_of_getLsbD_eq
  intro i hi
  have k : ∀ i, i < 32 → (255#32).getLsbD i = decide (i < 8) := by decide
  unfold ai_ushr
  simp [Int32.toBitVec_shiftRight, BitVec.getLsbD_signExtend, BitVec.getLsbD_sshiftRight, k i hi]
  by_cases g : i < 8
  · have g1 : 16 + i < 32 := by omega
    have g2 : ¬ 32 ≤ i := by omega
    simp [g, g1, g2, hi]
  · simp [g]
theorem zby8 (x : Int32) : zby x 2 = zsb x 2 &&& (255 : Int32) := by
  show ai_ushr x 8 &&& (255 : Int32) = ((x >>> 8).toInt8.toInt32.toInt8.toInt32) &&& (255 : Int32)
  apply Int32.toBitVec_inj.mp
  apply BitVec.eq_of_getLsbD_eq
  intro i hi
  have k : ∀ i, i < 32 → (255#32).getLsbD i = decide (i < 8) := by decide
  unfold ai_ushr
  simp [Int32.toBitVec_shiftRight, BitVec.getLsbD_signExtend, BitVec.getLsbD_sshiftRight, k i hi]
  by_cases g : i < 8
  · have g1 : 8 + i < 32 := by omega
    have g2 : ¬ 32 ≤ i := by omega
    simp [g, g1, g2, hi]
  · simp [g]
theorem zby0 (x : Int32) : zby x 3 = zsb x 3 &&& (255 : Int32) := by
  show ai_ushr x 0 &&& (255 : Int32) = ((x >>> 0).toInt8.toInt32.toInt8.toInt32) &&& (255 : Int32)
  apply Int32.toBitVec_inj.mp
  apply BitVec.eq_of_getLsbD_eq
  intro i hi
  have k : ∀ i, i < 32 → (255#32).getLsbD i = decide (i < 8) := by decide
  unfold ai_ushr
  simp [Int32.toBitVec_shiftRight, BitVec.getLsbD_signExtend, BitVec.getLsbD_sshiftRight, k i hi]
  by_cases g : i < 8
  · simp [g, hi]
  · simp [g]
theorem zby_s (x : Int32) {k : Nat} (hk : k < 4) : zby x k = zsb x k &&& (255 : Int32) := by
  rcases (show k = 0 ∨ k = 1 ∨ k = 2 ∨ k = 3 by omega) with rfl | rfl | rfl | rfl
  · exact zby24 x
  · exact zby16 x
  · exact zby8 x
  · exact zby0 x
theorem zsb_zi (x : Int32) (k : Nat) : zi (zsb x k) (-128) 127 := by
  unfold zi zsb
  generalize (x >>> nI (24 - 8 * k)).toInt8.toInt32.toInt8 = y
  rw [Int8.toInt_toInt32]
  have h1 : -2 ^ 7 ≤ y.toInt := Int8.le_toInt y
  have h2 : y.toInt < 2 ^ 7 := Int8.toInt_lt y
  omega
/-- k bytes more -/
def zfed (h h' : ai_H) (n k : Nat) (B : Nat → Int32) : Prop := h'.2 = h.2 ∧ (∀ q, q ≠ 2097537 → q ≠ 16387 → h'.1 q = h.1 q) ∧ h'.1 16387 1 = nI (n + k) ∧ ∀ j, h'.1 2097537 j = if n ≤ j ∧ j < n + k then B (j - n) else h.1 2097537 j
theorem zfed_s {h h' : ai_H} {n k : Nat} {B : Nat → Int32} (f : zfed h h' n k B) : zfed h (ai_st (ai_st h' 2097537 (n + k) (B k)) 16387 1 (nI (n + k + 1))) n (k + 1) B := by
  obtain ⟨f1, f2, f3, f4⟩ := f
  refine ⟨f1, fun q h1 h2 => ?_, ?_, fun j => ?_⟩
  · funext i
    rw [z_st1, if_neg (fun c => h2 c.1), z_st1, if_neg (fun c => h1 c.1), f2 q h1 h2]
  · rw [z_st1, if_pos ⟨rfl, rfl⟩]
    rfl
  · rw [z_st1, if_neg (fun c => absurd c.1 (by decide)), z_st1]
    by_cases c : j = n + k
    · rw [if_pos ⟨rfl, c⟩, if_pos (by omega), c, show n + k - n = k by omega]
    · rw [if_neg (fun q => c q.2), f4 j]
      by_cases c2 : n ≤ j ∧ j < n + k
      · rw [if_pos c2, if_pos (by omega)]
      · rw [if_neg c2, if_neg (by omega)]
def zsh (q : Nat) : Int32 := 24 + (-8) * nI q
theorem zsh_d : ∀ q, q < 4 → ¬ zsh q < 0 ∧ zsh q + (-8) = zsh (q + 1) ∧ zsh q = nI (24 - 8 * q) := by decide
theorem X53 {h h' : ai_H} {n k : Nat} {B : Nat → Int32} {x : Int32} (d : Nat) (f : zfed h h' n k B) (hb : ∀ q, q < 4 → B (k + q) = zby x q) (hn : n + k + 4 ≤ 500) : ∃ h'', ai_X (d + 1) 53 [.inr (.inr (27, 0, 16387)), .inl x] h' = some ([], h'') ∧ zfed h h'' n (k + 4) B := by
  have K : ∀ r q, q + r = 4 → ∀ g, zfed h g n (k + q) B → ∃ h'', ai_E d 53 3 [some (.inr (.inr (27, 0, 16387))), some (.inl x), some (.inl (zsh q))] [] g = some ([], h'') ∧ zfed h h'' n (k + 4) B := by
    intro r
    induction r with
    | zero =>
      intro q hq g fg
      have hq : q = 4 := by omega
      subst hq
      exact ⟨g, by rw [T53_3, if_pos (by decide)], fg⟩
    | succ r ih =>
      intro q hq g fg
      obtain ⟨d1, d2, d3⟩ := zsh_d q (by omega)
      have l5 : (500 : Int32) = nI 500 := rfl
      rw [T53_3, if_neg d1, fg.2.2.1, l5, if_neg (by rw [nI_leI (by omega) (by omega)]; omega), z_ix (by omega) (by decide)]
      simp only [z_st1, z_bi, z_bv, z_br, Nat.reduceEqDiff, false_and, and_false, true_and, and_true, and_self, if_false, if_true, ite_true, ite_false, reduceIte, not_true_eq_false, not_false_eq_true, fg.2.2.1, nI_1, d2]
      have := zfed_s fg
      rw [hb q (by omega)] at this
      have e : ai_ushr x (zsh q) &&& 255 = zby x q := by unfold zby; rw [d3]
      rw [e]
      exact ih (q + 1) (by omega) _ this
  rw [T53]
  exact K 4 0 (by omega) h' f
theorem zlaw_r {μ μ' : zMu} (a : ∀ f, 36 ≤ f → f ≤ 46 → μ'.1 f = μ.1 f) (p : Nat) : zlaw μ' p = zlaw μ p := by
  unfold zlaw zcode zenc
  simp only [a 36 (by decide) (by decide), a 38 (by decide) (by decide), a 39 (by decide) (by decide), a 40 (by decide) (by decide), a 41 (by decide) (by decide), a 43 (by decide) (by decide), a 44 (by decide) (by decide), a 45 (by decide) (by decide), a 46 (by decide) (by decide)]
theorem zdep_r {μ μ' : zMu} (a : ∀ f, 36 ≤ f → f ≤ 46 → μ'.1 f = μ.1 f) (p : Nat) : ∀ k, zdep μ' p k = zdep μ p k := by
  intro k
  induction k with
  | zero => rfl
  | succ k ih =>
    unfold zdep
    rw [ih, a 43 (by decide) (by decide)]
theorem zVl_r {μ μ' : zMu} (b : μ'.2 42 = μ.2 42) (a : ∀ f, 36 ≤ f → f ≤ 46 → μ'.1 f = μ.1 f) {p : Nat} (h : zVl μ p) : zVl μ' p := by
  unfold zVl at h ⊢
  rw [zlaw_r a, b]
  simp only [a 36 (by decide) (by decide), a 38 (by decide) (by decide), a 39 (by decide) (by decide), a 40 (by decide) (by decide), a 41 (by decide) (by decide), zdep_r a]
  exact h
theorem zfit_r {μ μ' : zMu} (a : ∀ f, 63 ≤ f → f ≤ 66 → μ'.1 f = μ.1 f) (t d : Nat) : zfit μ' t d = zfit μ t d := by
  unfold zfit
  simp only [a 63 (by decide) (by decide), a 64 (by decide) (by decide), a 65 (by decide) (by decide), a 66 (by decide) (by decide)]
theorem zfed_0 {h : ai_H} {n : Nat} {B : Nat → Int32} (hn : h.1 16387 1 = nI n) : zfed h h n 0 B := ⟨rfl, fun _ _ _ => rfl, hn, fun j => by rw [if_neg (by omega)]⟩
/-- the reference's -/
def zfem (h h' : ai_H) (n k : Nat) (B : Nat → Int32) : Prop := h'.2 = h.2 ∧ (∀ q, q ≠ 2064432 → q ≠ 16128 → h'.1 q = h.1 q) ∧ (∀ j, j ≠ 48 → h'.1 16128 j = h.1 16128 j) ∧ h'.1 16128 48 = nI (n + k) ∧ ∀ j, h'.1 2064432 j = if n ≤ j ∧ j < n + k then B (j - n) else h.1 2064432 j
theorem zfem_s {h h' : ai_H} {n k : Nat} {B : Nat → Int32} (f : zfem h h' n k B) : zfem h (ai_st (ai_st h' 2064432 (n + k) (B k)) 16128 48 (nI (n + k + 1))) n (k + 1) B := by
  obtain ⟨f1, f2, f5, f3, f4⟩ := f
  refine ⟨f1, fun q h1 h2 => ?_, fun j hj => ?_, ?_, fun j => ?_⟩
  · funext i
    rw [z_st1, if_neg (fun c => h2 c.1), z_st1, if_neg (fun c => h1 c.1), f2 q h1 h2]
  · rw [z_st1, if_neg (fun c => hj c.2), z_st1, if_neg (fun c => absurd c.1 (by decide)), f5 j hj]
  · rw [z_st1, if_pos ⟨rfl, rfl⟩]
    rfl
  · rw [z_st1, if_neg (fun c => absurd c.1 (by decide)), z_st1]
    by_cases c : j = n + k
    · rw [if_pos ⟨rfl, c⟩, if_pos (by omega), c, show n + k - n = k by omega]
    · rw [if_neg (fun q => c q.2), f4 j]
      by_cases c2 : n ≤ j ∧ j < n + k
      · rw [if_pos c2, if_pos (by omega)]
      · rw [if_neg c2, if_neg (by omega)]
theorem zsh_m : ∀ m, m < 20 → (24 - 8 * ai_rem (nI m) 4) &&& 31 = nI (24 - 8 * (m % 4)) := by decide
def zX5 (x1 x2 x3 x4 x5 : Int32) (m : Nat) : Int32 := if 4 ≤ m then if 8 ≤ m then if 12 ≤ m then if 16 ≤ m then x5 else x4 else x3 else x2 else x1
theorem M224 {h : ai_H} {n : Nat} (d : Nat) (x1 x2 x3 x4 x5 : Int32) (hn : h.1 16128 48 = nI n) (hl : n + 20 ≤ 500) : ∃ h', ai_X (d + 1) 224 [.inr (.inr (32, 0, 16128)), .inl x1, .inl x2, .inl x3, .inl x4, .inl x5] h = some ([.inl (nI (n + 20))], h') ∧ zfem h h' n 20 (fun m => zsb (zX5 x1 x2 x3 x4 x5 m) (m % 4)) := by
  have K : ∀ r m, m + r = 20 → ∀ g, zfem h g n m (fun m => zsb (zX5 x1 x2 x3 x4 x5 m) (m % 4)) → ∀ z7, ∃ h', ai_E d 224 18 [some (.inr (.inr (32, 0, 16128))), some (.inl x1), some (.inl x2), some (.inl x3), some (.inl x4), some (.inl x5), some (.inl (nI m)), z7] [] g = some ([.inl (nI (n + 20))], h') ∧ zfem h h' n 20 (fun m => zsb (zX5 x1 x2 x3 x4 x5 m) (m % 4)) := by
    intro r
    induction r with
    | zero =>
      intro m hm g fg z7
      have hm : m = 20 := by omega
      subst hm
      exact ⟨g, by rw [T224_18, if_pos (by decide), fg.2.2.2.1], fg⟩
    | succ r ih =>
      intro m hm g fg z7
      have l20 : (20 : Int32) = nI 20 := rfl
      have l4 : (4 : Int32) ≤ nI m ↔ 4 ≤ m := show nI 4 ≤ nI m ↔ 4 ≤ m from nI_leI (by omega) (by omega)
      have l8 : (8 : Int32) ≤ nI m ↔ 8 ≤ m := show nI 8 ≤ nI m ↔ 8 ≤ m from nI_leI (by omega) (by omega)
      have l12 : (12 : Int32) ≤ nI m ↔ 12 ≤ m := show nI 12 ≤ nI m ↔ 12 ≤ m from nI_leI (by omega) (by omega)
      have l16 : (16 : Int32) ≤ nI m ↔ 16 ≤ m := show nI 16 ≤ nI m ↔ 16 ≤ m from nI_leI (by omega) (by omega)
      have P : ∀ x, x = zX5 x1 x2 x3 x4 x5 m → ∃ h', ai_E d 224 71 [some (.inr (.inr (32, 0, 16128))), some (.inl x1), some (.inl x2), some (.inl x3), some (.inl x4), some (.inl x5), some (.inl (nI m)), z7] [.inl x] g = some ([.inl (nI (n + 20))], h') ∧ zfem h h' n 20 (fun m => zsb (zX5 x1 x2 x3 x4 x5 m) (m % 4)) := by
        intro x ex
        have s := zfem_s fg
        rw [T224_71, if_neg (by decide), fg.2.2.2.1, z_ix (by omega) (by decide)]
        simp only [z_st1, z_bi, z_bv, z_br, Nat.reduceEqDiff, false_and, and_false, true_and, and_true, and_self, if_false, if_true, ite_true, ite_false, reduceIte, not_true_eq_false, not_false_eq_true, fg.2.2.2.1, nI_1, zsh_m m (by omega)]
        have e : vp_nar .byte (Int8.toInt32 (Int32.toInt8 (x >>> nI (24 - 8 * (m % 4))))) = zsb (zX5 x1 x2 x3 x4 x5 m) (m % 4) := by rw [ex]; rfl
        rw [e]
        exact ih (m + 1) (by omega) _ s _
      rw [T224_18, l20, if_neg (by rw [nI_leI (by omega) (by omega)]; omega)]
      by_cases c4 : 4 ≤ m
      · rw [if_pos (l4.mpr c4)]
        by_cases c8 : 8 ≤ m
        · rw [if_pos (l8.mpr c8)]
          by_cases c12 : 12 ≤ m
          · rw [if_pos (l12.mpr c12)]
            by_cases c16 : 16 ≤ m
            · rw [if_pos (l16.mpr c16)]
              exact P _ (by unfold zX5; rw [if_pos c4, if_pos c8, if_pos c12, if_pos c16])
            · rw [if_neg (fun q => c16 (l16.mp q))]
              exact P _ (by unfold zX5; rw [if_pos c4, if_pos c8, if_pos c12, if_neg c16])
          · rw [if_neg (fun q => c12 (l12.mp q))]
            exact P _ (by unfold zX5; rw [if_pos c4, if_pos c8, if_neg c12])
        · rw [if_neg (fun q => c8 (l8.mp q))]
          exact P _ (by unfold zX5; rw [if_pos c4, if_neg c8])
      · rw [if_neg (fun q => c4 (l4.mp q))]
        exact P _ (by unfold zX5; rw [if_neg c4])
  obtain ⟨h', a1, a2⟩ := K 20 0 (by omega) h ⟨rfl, fun _ _ _ => rfl, fun _ _ => rfl, hn, fun j => by rw [if_neg (by omega)]⟩ none
  refine ⟨h', ?_, a2⟩
  have e20 : nI n + 20 = nI (n + 20) := by
    rw [z_eq, z_add] <;> rw [z_T (by omega)] <;> (try rw [z_T (by omega)]) <;> simp only [zl0, zl1, zl2, zl3, zl4, zl5, zl6, zl7, zl8, zl9, zl10, zl12, zl15, zl16, zl20, zl22, zl23, zl24, zl27, zl30, zl31, zl32, zl40, zl46, zl48, zl50, zl57, zl59, zl60, zl61, zl62, zl63, zl80, zl96, zl97, zl99, zl100, zl122, zl255, zl360, zl500, zl999, zl9999, zl60000, zl99999, zl16777215, zl1073741824, zlm1, zlm2, zlm3] <;> omega
  have l5 : (500 : Int32) = nI 500 := rfl
  rw [T224, hn, e20, l5, if_pos (by rw [nI_leI (by omega) (by omega)]; omega)]
  exact a1
