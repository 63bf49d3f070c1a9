/-! NODES -/
theorem z_i0 {n : Nat} {f : Nat → Option ai_R} (hn : 0 < n) (hl : n < 2147483648) : ai_ix 0 n f = f 0 := z_ix (i := 0) hn hl
theorem M186 (d : Nat) (x a b : Int32) (h : ai_H) : ai_X (d + 1) 186 [.inl x, .inl a, .inl b] h = some ([.inl (zb (a.toInt ≤ x.toInt ∧ x.toInt ≤ b.toInt))], h) := by
  rw [T186]
  simp only [z_lt, z_b0, z_b1]
  by_cases h1 : x.toInt < a.toInt
  · rw [if_pos h1, zb_f (by omega)]
  · rw [if_neg h1]
    by_cases h2 : b.toInt < x.toInt
    · rw [if_pos h2, zb_f (by omega)]
    · rw [if_neg h2, zb_t (by omega)]
theorem M187 (d : Nat) (x : Int32) (h : ai_H) : ai_X (d + 1) 187 [.inl x] h = some ([.inl (zb (0 ≤ x.toInt ∧ x.toInt ≤ 999))], h) := by
  rw [T187]
  simp only [z_lt, z_b0, z_b1, zl0, zl1, zl2, zl3, zl4, zl5, zl6, zl7, zl8, zl9, zl10, zl12, zl15, zl16, zl20, zl22, zl23, zl24, zl27, zl30, zl31, zl32, zl40, zl46, zl48, zl50, zl57, zl59, zl60, zl61, zl62, zl63, zl80, zl96, zl97, zl99, zl100, zl122, zl255, zl360, zl500, zl999, zl9999, zl60000, zl99999, zl16777215, zl1073741824, zlm1, zlm2, zlm3]
  by_cases h1 : x.toInt < 0
  · rw [if_pos h1, zb_f (by omega)]
  · rw [if_neg h1]
    by_cases h2 : 999 < x.toInt
    · rw [if_pos h2, zb_f (by omega)]
    · rw [if_neg h2, zb_t (by omega)]
theorem M188 (d : Nat) (x : Int32) (h : ai_H) : ai_X (d + 1) 188 [.inl x] h = some ([.inl (zb (0 ≤ x.toInt ∧ x.toInt ≤ 255))], h) := by
  rw [T188]
  simp only [z_lt, z_b0, z_b1, zl0, zl1, zl2, zl3, zl4, zl5, zl6, zl7, zl8, zl9, zl10, zl12, zl15, zl16, zl20, zl22, zl23, zl24, zl27, zl30, zl31, zl32, zl40, zl46, zl48, zl50, zl57, zl59, zl60, zl61, zl62, zl63, zl80, zl96, zl97, zl99, zl100, zl122, zl255, zl360, zl500, zl999, zl9999, zl60000, zl99999, zl16777215, zl1073741824, zlm1, zlm2, zlm3]
  by_cases h1 : x.toInt < 0
  · rw [if_pos h1, zb_f (by omega)]
  · rw [if_neg h1]
    by_cases h2 : 255 < x.toInt
    · rw [if_pos h2, zb_f (by omega)]
    · rw [if_neg h2, zb_t (by omega)]
theorem M195 {n : Nat} {h : ai_H} (d : Nat) (x : Int32) (hn : h.1 2064386 0 = nI n) (hl : n ≤ 30000) : ai_X (d + 1) 195 [.inr (.inr (32, 0, 16128)), .inl x] h = some ([.inl (zb (0 ≤ x.toInt ∧ x.toInt < (n : Int)))], h) := by
  rw [T195]
  simp only [z_lt, z_le, z_b0, z_b1, zl0, zl1, zl2, zl3, zl4, zl5, zl6, zl7, zl8, zl9, zl10, zl12, zl15, zl16, zl20, zl22, zl23, zl24, zl27, zl30, zl31, zl32, zl40, zl46, zl48, zl50, zl57, zl59, zl60, zl61, zl62, zl63, zl80, zl96, zl97, zl99, zl100, zl122, zl255, zl360, zl500, zl999, zl9999, zl60000, zl99999, zl16777215, zl1073741824, zlm1, zlm2, zlm3]
  by_cases h1 : x.toInt < 0
  · rw [if_pos h1, zb_f (by omega)]
  · rw [if_neg h1, z_i0 (by decide) (by decide), hn, z_T (by omega)]
    by_cases h2 : (n : Int) ≤ x.toInt
    · rw [if_pos h2, zb_f (by omega)]
    · rw [if_neg h2, zb_t (by omega)]
theorem M196 {n : Nat} {h : ai_H} (d : Nat) (x : Int32) (hn : h.1 2064385 0 = nI n) (hl : n ≤ 30000) : ai_X (d + 1) 196 [.inr (.inr (32, 0, 16128)), .inl x] h = some ([.inl (zb (0 ≤ x.toInt ∧ x.toInt < (n : Int)))], h) := by
  rw [T196]
  simp only [z_lt, z_le, z_b0, z_b1, zl0, zl1, zl2, zl3, zl4, zl5, zl6, zl7, zl8, zl9, zl10, zl12, zl15, zl16, zl20, zl22, zl23, zl24, zl27, zl30, zl31, zl32, zl40, zl46, zl48, zl50, zl57, zl59, zl60, zl61, zl62, zl63, zl80, zl96, zl97, zl99, zl100, zl122, zl255, zl360, zl500, zl999, zl9999, zl60000, zl99999, zl16777215, zl1073741824, zlm1, zlm2, zlm3]
  by_cases h1 : x.toInt < 0
  · rw [if_pos h1, zb_f (by omega)]
  · rw [if_neg h1, z_i0 (by decide) (by decide), hn, z_T (by omega)]
    by_cases h2 : (n : Int) ≤ x.toInt
    · rw [if_pos h2, zb_f (by omega)]
    · rw [if_neg h2, zb_t (by omega)]
theorem M197 {n : Nat} {h : ai_H} (d : Nat) (x : Int32) (hn : h.1 2064387 0 = nI n) (hl : n ≤ 30000) : ai_X (d + 1) 197 [.inr (.inr (32, 0, 16128)), .inl x] h = some ([.inl (zb (0 ≤ x.toInt ∧ x.toInt < (n : Int)))], h) := by
  rw [T197]
  simp only [z_lt, z_le, z_b0, z_b1, zl0, zl1, zl2, zl3, zl4, zl5, zl6, zl7, zl8, zl9, zl10, zl12, zl15, zl16, zl20, zl22, zl23, zl24, zl27, zl30, zl31, zl32, zl40, zl46, zl48, zl50, zl57, zl59, zl60, zl61, zl62, zl63, zl80, zl96, zl97, zl99, zl100, zl122, zl255, zl360, zl500, zl999, zl9999, zl60000, zl99999, zl16777215, zl1073741824, zlm1, zlm2, zlm3]
  by_cases h1 : x.toInt < 0
  · rw [if_pos h1, zb_f (by omega)]
  · rw [if_neg h1, z_i0 (by decide) (by decide), hn, z_T (by omega)]
    by_cases h2 : (n : Int) ≤ x.toInt
    · rw [if_pos h2, zb_f (by omega)]
    · rw [if_neg h2, zb_t (by omega)]
/-- node refuses -/
theorem X86_no {n : Nat} {h : ai_H} (d : Nat) (v : Int32) (hn : h.1 2097281 0 = nI n) (hl : n ≤ 24) (hr : 24 ≤ n ∨ ¬ (v = -1 ∨ (0 ≤ v.toInt ∧ v.toInt < (n : Int)))) : ai_X (d + 3) 86 [.inr (.inr (31, 0, 128)), .inl v] h = some ([.inl (-1)], h) := by
  rw [T86]
  by_cases h1 : v = -1
  · rw [if_pos h1, X1_full _ _ hn hl (by rcases hr with hr | hr; exact hr; exact absurd (Or.inl h1) hr)]
    rfl
  · rw [if_neg h1, X152 _ _ hn hl]
    simp only [z_bi, zb_0]
    by_cases h2 : 0 ≤ v.toInt ∧ v.toInt < (n : Int)
    · rw [if_neg (fun c => c h2), X1_full _ _ hn hl (by rcases hr with hr | hr; exact hr; exact absurd (Or.inr h2) hr)]
      rfl
    · rw [if_pos h2]
theorem M198_no {n : Nat} {h : ai_H} (d : Nat) (v : Int32) (hn : h.1 2064385 0 = nI n) (hl : n ≤ 24) (hr : 24 ≤ n ∨ ¬ (v = -1 ∨ (0 ≤ v.toInt ∧ v.toInt < (n : Int)))) : ai_X (d + 2) 198 [.inr (.inr (32, 0, 16128)), .inl v] h = some ([.inl (-1)], h) := by
  have e : 24 ≤ n → nI n = 24 := fun c => by rw [show n = 24 by omega]; rfl
  rw [T198]
  by_cases h1 : v = -1
  · rw [if_pos h1, z_i0 (by decide) (by decide), hn, if_pos (e (by rcases hr with hr | hr; exact hr; exact absurd (Or.inl h1) hr))]
  · rw [if_neg h1, M196 _ _ hn (by omega)]
    simp only [z_bi, zb_0]
    by_cases h2 : 0 ≤ v.toInt ∧ v.toInt < (n : Int)
    · rw [if_neg (fun c => c h2), z_i0 (by decide) (by decide), hn, if_pos (e (by rcases hr with hr | hr; exact hr; exact absurd (Or.inr h2) hr))]
    · rw [if_pos h2]
theorem M198_go {n : Nat} {h : ai_H} (d : Nat) (v : Int32) (hn : h.1 2064385 0 = nI n) (hl : n < 24) (hv : v = -1 ∨ (0 ≤ v.toInt ∧ v.toInt < (n : Int))) : ai_X (d + 2) 198 [.inr (.inr (32, 0, 16128)), .inl v] h = some ([.inl (nI n)], ai_st (ai_st h 2064395 n v) 2064385 0 (nI (n + 1))) := by
  have e : ¬ nI n = 24 := by rw [z_eq, z_T (by omega)]; simp only [zl0, zl1, zl2, zl3, zl4, zl5, zl6, zl7, zl8, zl9, zl10, zl12, zl15, zl16, zl20, zl22, zl23, zl24, zl27, zl30, zl31, zl32, zl40, zl46, zl48, zl50, zl57, zl59, zl60, zl61, zl62, zl63, zl80, zl96, zl97, zl99, zl100, zl122, zl255, zl360, zl500, zl999, zl9999, zl60000, zl99999, zl16777215, zl1073741824, zlm1, zlm2, zlm3]; omega
  have i0 : ∀ f : Nat → Option ai_R, ai_ix 0 4 f = f 0 := fun f => z_i0 (by decide) (by decide)
  have i1 : ∀ f : Nat → Option ai_R, ai_ix (nI n) 96 f = f n := fun f => z_ix (by omega) (by decide)
  rw [T198]
  by_cases h1 : v = -1
  · rw [if_pos h1]
    simp only [i0, hn, i1, if_neg e, z_st1, z_bi, z_bv, z_br, Nat.reduceEqDiff, false_and, and_false, true_and, and_true, and_self, if_false, if_true, ite_true, ite_false, reduceIte, not_true_eq_false, not_false_eq_true, nI_1, nI_pred]
  · rw [if_neg h1, M196 _ _ hn (by omega)]
    have h2 : 0 ≤ v.toInt ∧ v.toInt < (n : Int) := by rcases hv with hv | hv; exact absurd hv h1; exact hv
    simp only [z_bi, zb_0]
    rw [if_neg (fun c => c h2)]
    simp only [i0, hn, i1, if_neg e, z_st1, z_bi, z_bv, z_br, Nat.reduceEqDiff, false_and, and_false, true_and, and_true, and_self, if_false, if_true, ite_true, ite_false, reduceIte, not_true_eq_false, not_false_eq_true, nI_1, nI_pred]
theorem zled_c {σ σ' : Nat → Nat → Int32} (a : ∀ f, 22 ≤ f → f ≤ 26 → σ' f = σ f) (k : Int32) : ∀ n, zled σ' k n = zled σ k n := by
  intro n
  induction n with
  | zero => rfl
  | succ n ih =>
    unfold zled zrow
    rw [ih, a 22 (by decide) (by decide), a 23 (by decide) (by decide), a 24 (by decide) (by decide), a 25 (by decide) (by decide), a 26 (by decide) (by decide)]
theorem zn_c {σ σ' : Nat → Nat → Int32} {f : Nat} (a : σ' f = σ f) : zn σ' f = zn σ f := by unfold zn; rw [a]
theorem zD_s {h : ai_H} {c : Nat} {σ σ' : Nat → Nat → Int32} (a : ∀ f, f = 3 ∨ f = 4 ∨ f = 6 ∨ f = 7 ∨ f = 16 ∨ (22 ≤ f ∧ f ≤ 26) → σ' f = σ f) (hd : zD h c σ) : zD h c σ' := by
  unfold zD at hd ⊢
  rw [a 3 (by omega), a 6 (by omega), a 7 (by omega), a 16 (by omega), zn_c (a 4 (by omega))]
  refine ⟨fun k hk => ?_, hd.2⟩
  rw [zled_c (fun f h1 h2 => a f (by omega))]
  exact hd.1 k hk
theorem zJ_s {h : ai_H} {c : Nat} {σ σ' : Nat → Nat → Int32} (a : ∀ f, f = 5 ∨ f = 18 ∨ (27 ≤ f ∧ f ≤ 31) → σ' f = σ f) (hd : zJ h c σ) : zJ h c σ' := by
  unfold zJ at hd ⊢
  rw [a 5 (by omega), a 18 (by omega), a 27 (by omega), a 28 (by omega), a 29 (by omega), a 30 (by omega), a 31 (by omega), zn_c (a 5 (by omega))]
  exact hd
/-- ints of one cell and of the cells of its fields change -/
def zFc (c : Nat) (h h1 : ai_H) : Prop := (∀ q, ¬ (q = c ∨ zfp q = c) → h1.1 q = h.1 q) ∧ h1.2 = h.2
theorem zFc_rf {c : Nat} {h : ai_H} : zFc c h h := ⟨fun _ _ => rfl, rfl⟩
theorem zFc_st {c a j : Nat} {v : Int32} {h h1 : ai_H} (f : zFc c h h1) (ha : a = c ∨ zfp a = c) : zFc c h (ai_st h1 a j v) := by
  refine ⟨fun q n => ?_, f.2⟩
  funext i
  rw [z_st1, if_neg, f.1 q n]
  rintro ⟨rfl, -⟩
  exact n ha
theorem zFc_in {c : Nat} {h h1 : ai_H} (f : zFc c h h1) (hc : zfp c = 16385) : (∀ q, ¬ zin q → h1.1 q = h.1 q) ∧ h1.2 = h.2 := by
  refine ⟨fun q n => f.1 q (fun k => n ?_), f.2⟩
  unfold zin
  rcases k with rfl | k
  · exact Or.inl hc
  · exact Or.inr (Or.inl (by rw [k]; exact hc))
theorem zS_city {h h1 : ai_H} {T : Nat} {σ σ' : Nat → Nat → Int32} (f : zFc 2097281 h h1) (hc : zC h1 2097281 σ') (a : ∀ f, f = 3 ∨ f = 4 ∨ f = 5 ∨ f = 6 ∨ f = 7 ∨ f = 16 ∨ f = 18 ∨ 21 ≤ f → σ' f = σ f) (hs : zS h 16385 T σ) : zS h1 16385 T σ' := by
  obtain ⟨-, h2, h3, h4, h5⟩ := hs
  have k : ∀ q, zfp q = 2097282 ∨ zfp (zfp q) = 2097282 ∨ zfp q = 2097283 ∨ zfp q = 2097284 ∨ q = 2097282 ∨ q = 2097283 ∨ q = 2097284 → h1.1 q = h.1 q := fun q hq => f.1 q (fun c => by
    have k1 : zfp 2097281 = 16385 := rfl
    have k2 : zfp 16385 = 128 := rfl
    rcases c with rfl | c
    · rw [k1, k2] at hq; omega
    · rw [c, k1] at hq
      rcases hq with hq | hq | hq | hq | hq | hq | hq
      · omega
      · omega
      · omega
      · omega
      · subst hq; revert c; decide
      · subst hq; revert c; decide
      · subst hq; revert c; decide)
  refine ⟨hc, zD_s (fun g hg => a g (by omega)) (zD_c (fun q hq => k q ?_) h2), zJ_s (fun g hg => a g (by omega)) (zJ_c (fun q hq => k q ?_) h3), fun t ht => ?_, fun j hj => ?_⟩
  · have e : ai_ch 16385 1 = 2097282 := rfl
    rw [e] at hq
    omega
  · have e : ai_ch 16385 2 = 2097283 := rfl
    rw [e] at hq
    omega
  · rw [a 21 (by omega), k (ai_ch 16385 3) (Or.inr (Or.inr (Or.inr (Or.inr (Or.inr (Or.inr rfl))))))]
    exact h4 t ht
  · unfold zLk
    rw [f.2]
    exact h5 j hj
theorem zup_n {σ : Nat → Nat → Int32} {f i g : Nat} {v : Int32} (h : g ≠ f) : zup σ f i v g = σ g := by
  funext j
  unfold zup
  rw [if_neg (fun c => h c.1)]
theorem zup_s {σ : Nat → Nat → Int32} {f i : Nat} {v : Int32} : zup σ f i v f i = v := if_pos ⟨rfl, rfl⟩
theorem zup_o {σ : Nat → Nat → Int32} {f i j : Nat} {v : Int32} (h : j ≠ i) : zup σ f i v f j = σ f j := if_neg (fun c => h c.2)
/-- a node more -/
def zsN (σ : Nat → Nat → Int32) (v : Int32) : Nat → Nat → Int32 := zup (zup σ 10 (zn σ 0) v) 0 0 (nI (zn σ 0 + 1))
theorem zsN_n {σ : Nat → Nat → Int32} {v : Int32} {f : Nat} (h : f ≠ 0) (h' : f ≠ 10) : zsN σ v f = σ f := (zup_n h).trans (zup_n h')
theorem zsN_0 {σ : Nat → Nat → Int32} {v : Int32} : zsN σ v 0 0 = nI (zn σ 0 + 1) := zup_s
theorem zsN_10 {σ : Nat → Nat → Int32} {v : Int32} {i : Nat} : zsN σ v 10 i = if i = zn σ 0 then v else σ 10 i := by
  unfold zsN
  rw [zup_n (by decide)]
  by_cases h : i = zn σ 0
  · rw [if_pos h, h]; exact zup_s
  · rw [if_neg h]; exact zup_o h
theorem zsN_zn {σ : Nat → Nat → Int32} {v : Int32} (hl : zn σ 0 < 30000) : zn (zsN σ v) 0 = zn σ 0 + 1 := by
  unfold zn
  rw [zsN_0, z_T (by omega)]
  rfl
theorem zV_node {σ : Nat → Nat → Int32} {v : Int32} (V : zV σ) (hl : zn σ 0 < 24) (hv : v = -1 ∨ (0 ≤ v.toInt ∧ v.toInt < (zn σ 0 : Int))) : zV (zsN σ v) := by
  obtain ⟨h1, h2, h3, h4, h5, h6⟩ := V
  have e : ∀ f, f ≠ 0 → f ≠ 10 → zsN σ v f = σ f := fun f a b => zsN_n a b
  have m : ∀ f, f ≠ 0 → f ≠ 10 → zn (zsN σ v) f = zn σ f := fun f a b => zn_c (e f a b)
  have z0 := zsN_zn (v := v) (show zn σ 0 < 30000 by omega)
  refine ⟨?_, fun i hi => ?_, fun t ht => ?_, ?_, ?_, ?_⟩
  · unfold zVc at h1 ⊢
    rw [e 1 (by decide) (by decide), e 2 (by decide) (by decide), e 8 (by decide) (by decide), e 3 (by decide) (by decide), e 4 (by decide) (by decide), e 5 (by decide) (by decide), e 6 (by decide) (by decide), e 7 (by decide) (by decide), zsN_0]
    refine ⟨?_, h1.2⟩
    unfold zi
    rw [z_T (by omega)]
    omega
  · rw [z0] at hi
    rw [zsN_10]
    by_cases c : i = zn σ 0
    · rw [if_pos c]
      rcases hv with hv | hv
      · exact Or.inl hv
      · right
        unfold zi
        omega
    · rw [if_neg c]; exact h2 i (by omega)
  · rw [m 1 (by decide) (by decide)] at ht
    have := h3 t ht
    rw [e 11 (by decide) (by decide), e 12 (by decide) (by decide), e 13 (by decide) (by decide), e 14 (by decide) (by decide), e 15 (by decide) (by decide), e 17 (by decide) (by decide), z0]
    refine ⟨?_, this.2⟩
    have h0 := this.1
    unfold zi at h0 ⊢
    omega
  · unfold zVh at h4 ⊢
    rw [m 2 (by decide) (by decide), m 8 (by decide) (by decide), e 19 (by decide) (by decide), e 20 (by decide) (by decide), e 16 (by decide) (by decide)]
    exact h4
  · unfold zVe at h5 ⊢
    rw [m 4 (by decide) (by decide), e 22 (by decide) (by decide)]
    refine ⟨fun q hq => ?_, h5.2⟩
    have := h5.1 q hq
    unfold zVr at this ⊢
    rw [e 22 (by decide) (by decide), e 23 (by decide) (by decide), e 24 (by decide) (by decide), e 25 (by decide) (by decide), e 26 (by decide) (by decide), m 1 (by decide) (by decide), z0]
    obtain ⟨a1, a2, a3, a4, a5, a6, a7⟩ := this
    exact ⟨a1, a2, a3, a4, a5, fun c => by have := a6 c; omega, a7⟩
  · unfold zVj at h6 ⊢
    rw [m 5 (by decide) (by decide), m 1 (by decide) (by decide), e 27 (by decide) (by decide), e 28 (by decide) (by decide), e 29 (by decide) (by decide), e 30 (by decide) (by decide), e 31 (by decide) (by decide), e 18 (by decide) (by decide)]
    exact h6
theorem zab_node {σ : Nat → Nat → Int32} {v : Int32} (V : zVn σ) (hv : v = -1 ∨ (0 ≤ v.toInt ∧ v.toInt < (zn σ 0 : Int))) : (∀ i, i < zn σ 0 → zab (zsN σ v) i = zab σ i) ∧ zab (zsN σ v) (zn σ 0) = if v = -1 then 2 ^ zn σ 0 else 2 ^ zn σ 0 ||| zab σ v.toInt.toNat := by
  have K : ∀ k i, i < zn σ 0 → zabF (zsN σ v) k i = zabF σ k i := fun k i hi => zabF_c k i (fun j hj => by rw [zsN_10, if_neg (by omega)]) (fun j hj => V j (by omega))
  refine ⟨fun i hi => K _ i hi, ?_⟩
  unfold zab
  show (if zsN σ v 10 (zn σ 0) = -1 then _ else _) = _
  rw [zsN_10, if_pos rfl]
  by_cases c : v = -1
  · rw [if_pos c, if_pos c]
  · rw [if_neg c, if_neg c]
    have h2 : 0 ≤ v.toInt ∧ v.toInt < (zn σ 0 : Int) := by rcases hv with hv | hv; exact absurd hv c; exact hv
    rw [K _ _ (by omega), zabF_k _ _ (by omega) (fun j hj => V j (by omega))]
    rfl
theorem zC_node {h h1 : ai_H} {σ : Nat → Nat → Int32} {v : Int32} (hC : zC h 2097281 σ) (V : zVn σ) (hl : zn σ 0 < 24) (hv : v = -1 ∨ (0 ≤ v.toInt ∧ v.toInt < (zn σ 0 : Int))) (f0 : h1.1 2097281 0 = nI (zn σ 0 + 1)) (f1 : ∀ j, j ≠ 0 → j ≠ 4 → h1.1 2097281 j = h.1 2097281 j)
    (f4 : h1.1 2097281 4 = if v = -1 then h.1 2097281 4 else nI (zB (fun i => ¬ σ 10 i = -1) (zn σ 0) ||| 2 ^ zn σ 0)) (fP : ∀ i, h1.1 268451975 i = if i = zn σ 0 then v else h.1 268451975 i) (fA : ∀ i, h1.1 268451976 i = if i = zn σ 0 then nI (if v = -1 then 2 ^ zn σ 0 else 2 ^ zn σ 0 ||| zab σ v.toInt.toNat) else h.1 268451976 i)
    (fo : ∀ j, 8 ≤ j → j ≤ 14 → h1.1 (ai_ch 2097281 j) = h.1 (ai_ch 2097281 j)) : zC h1 2097281 (zsN σ v) := by
  obtain ⟨c0, c1, c2, c3, c4, c5, c6, c7, c8, c9⟩ := hC
  have e : ∀ f, f ≠ 0 → f ≠ 10 → zsN σ v f = σ f := fun f a b => zsN_n a b
  have m : ∀ f, f ≠ 0 → f ≠ 10 → zn (zsN σ v) f = zn σ f := fun f a b => zn_c (e f a b)
  have z0 := zsN_zn (v := v) (show zn σ 0 < 30000 by omega)
  obtain ⟨b1, b2⟩ := zab_node V hv
  unfold zC
  rw [z0, m 1 (by decide) (by decide), m 2 (by decide) (by decide), m 8 (by decide) (by decide), e 1 (by decide) (by decide), e 2 (by decide) (by decide), e 8 (by decide) (by decide), e 11 (by decide) (by decide), e 12 (by decide) (by decide), e 13 (by decide) (by decide), e 14 (by decide) (by decide), e 15 (by decide) (by decide), e 17 (by decide) (by decide), e 19 (by decide) (by decide), e 20 (by decide) (by decide), zsN_0, f1 1 (by decide) (by decide), f1 2 (by decide) (by decide), f1 3 (by decide) (by decide), f1 5 (by decide) (by decide), fo 8 (by decide) (by decide), fo 9 (by decide) (by decide), fo 10 (by decide) (by decide), fo 11 (by decide) (by decide), fo 12 (by decide) (by decide), fo 13 (by decide) (by decide), fo 14 (by decide) (by decide)]
  refine ⟨f0, c1, c2, c3, ?_, c5, fun i hi => ?_, c7, c8, c9⟩
  · have hb : zB (fun i => ¬ zsN σ v 10 i = -1) (zn σ 0) = zB (fun i => ¬ σ 10 i = -1) (zn σ 0) := zB_c fun i hi => by rw [zsN_10, if_neg (by omega)]
    rw [f4]
    show _ = nI (if ¬ zsN σ v 10 (zn σ 0) = -1 then _ else _)
    rw [zsN_10, if_pos rfl, hb]
    by_cases c : v = -1
    · rw [if_pos c, if_neg (fun k => k c)]; exact c4
    · rw [if_neg c, if_pos c]
  · have e6 : ai_ch 2097281 6 = 268451975 := rfl
    have e7 : ai_ch 2097281 7 = 268451976 := rfl
    rw [e6, e7, fP, fA, zsN_10]
    by_cases c : i = zn σ 0
    · rw [if_pos c, if_pos c, if_pos c, c, b2]
      exact ⟨rfl, rfl⟩
    · rw [if_neg c, if_neg c, if_neg c, b1 i (by omega)]
      exact c6 i (by omega)
theorem X86_go {h : ai_H} {σ : Nat → Nat → Int32} {v : Int32} (d : Nat) (hC : zC h 2097281 σ) (V : zV σ) (hl : zn σ 0 < 24) (hv : v = -1 ∨ (0 ≤ v.toInt ∧ v.toInt < (zn σ 0 : Int))) : ∃ h1, ai_X (d + 3) 86 [.inr (.inr (31, 0, 128)), .inl v] h = some ([.inl (nI (zn σ 0))], h1) ∧ zFc 2097281 h h1 ∧ zC h1 2097281 (zsN σ v) := by
  have hx : h.1 2097281 0 = nI (zn σ 0) := hC.1.trans (zn_eq V.1.1).1
  by_cases c : v = -1
  · subst c
    refine ⟨_, by rw [T86, if_pos rfl, X1_none _ hx hl]; rfl, zFc_st (zFc_st (zFc_st zFc_rf (by decide)) (by decide)) (by decide), zC_node hC V.2.1 hl hv ?_ (fun j h0 h4 => ?_) ?_ (fun i => ?_) (fun i => ?_) (fun j h8 h14 => ?_)⟩
    · simp only [z_st1, z_bi, z_bv, z_br, Nat.reduceEqDiff, false_and, and_false, true_and, and_true, and_self, if_false, if_true, ite_true, ite_false, reduceIte, not_true_eq_false, not_false_eq_true]
    · simp only [z_st1, z_bi, z_bv, z_br, Nat.reduceEqDiff, false_and, and_false, true_and, and_true, and_self, if_false, if_true, ite_true, ite_false, reduceIte, not_true_eq_false, not_false_eq_true, h0]
    · simp only [z_st1, z_bi, z_bv, z_br, Nat.reduceEqDiff, false_and, and_false, true_and, and_true, and_self, if_false, if_true, ite_true, ite_false, reduceIte, not_true_eq_false, not_false_eq_true]
    · simp only [z_st1, z_bi, z_bv, z_br, Nat.reduceEqDiff, false_and, and_false, true_and, and_true, and_self, if_false, if_true, ite_true, ite_false, reduceIte, not_true_eq_false, not_false_eq_true]
    · simp only [z_st1, z_bi, z_bv, z_br, Nat.reduceEqDiff, false_and, and_false, true_and, and_true, and_self, if_false, if_true, ite_true, ite_false, reduceIte, not_true_eq_false, not_false_eq_true]
    · funext i
      unfold ai_ch
      simp only [z_st1]
      rw [if_neg (by omega), if_neg (by omega), if_neg (by omega)]
  · have h2 : 0 ≤ v.toInt ∧ v.toInt < (zn σ 0 : Int) := by rcases hv with hv | hv; exact absurd hv c; exact hv
    obtain ⟨p, hp, rfl⟩ : ∃ p, p < zn σ 0 ∧ v = nI p := ⟨v.toInt.toNat, by omega, z_nat h2.1⟩
    have hA : h.1 268451976 p = nI (zab σ p) := (hC.2.2.2.2.2.2.1 p hp).2
    have hZ : h.1 2097281 4 = nI (zB (fun i => ¬ σ 10 i = -1) (zn σ 0)) := hC.2.2.2.2.1
    have tp : (nI p).toInt.toNat = p := by rw [z_T (by omega)]; rfl
    refine ⟨_, by rw [T86, if_neg c, X152 _ _ hx (by omega)]; simp only [z_bi]; rw [if_neg (by rw [zb_0]; exact fun k => k h2), X1_par _ hx hl hp hA hZ]; rfl, zFc_st (zFc_st (zFc_st (zFc_st (zFc_st zFc_rf (by decide)) (by decide)) (by decide)) (by decide)) (by decide), zC_node hC V.2.1 hl hv ?_ (fun j h0 h4 => ?_) ?_ (fun i => ?_) (fun i => ?_) (fun j h8 h14 => ?_)⟩
    · simp only [z_st1, z_bi, z_bv, z_br, Nat.reduceEqDiff, false_and, and_false, true_and, and_true, and_self, if_false, if_true, ite_true, ite_false, reduceIte, not_true_eq_false, not_false_eq_true]
    · simp only [z_st1, z_bi, z_bv, z_br, Nat.reduceEqDiff, false_and, and_false, true_and, and_true, and_self, if_false, if_true, ite_true, ite_false, reduceIte, not_true_eq_false, not_false_eq_true, h0, h4]
    · simp only [z_st1, z_bi, z_bv, z_br, Nat.reduceEqDiff, false_and, and_false, true_and, and_true, and_self, if_false, if_true, ite_true, ite_false, reduceIte, not_true_eq_false, not_false_eq_true, c]
    · simp only [z_st1, z_bi, z_bv, z_br, Nat.reduceEqDiff, false_and, and_false, true_and, and_true, and_self, if_false, if_true, ite_true, ite_false, reduceIte, not_true_eq_false, not_false_eq_true]
    · rw [tp]
      simp only [z_st1, z_bi, z_bv, z_br, Nat.reduceEqDiff, false_and, and_false, true_and, and_true, and_self, if_false, if_true, ite_true, ite_false, reduceIte, not_true_eq_false, not_false_eq_true, c]
      by_cases k : i = zn σ 0
      · simp only [k, if_true]
      · simp only [k, if_false]
    · funext i
      unfold ai_ch
      simp only [z_st1]
      rw [if_neg (by omega), if_neg (by omega), if_neg (by omega), if_neg (by omega), if_neg (by omega)]
/-- room -/
def zK (h h2 : ai_H) : Prop := h2.2.2.2.2.2.1 ≤ h.2.2.2.2.2.1 + 110 ∧ h2.2.2.2.2.2.2 ≤ h.2.2.2.2.2.2 + 8000
theorem zK_of {h h2 : ai_H} (e : h2.2 = h.2) : zK h h2 := by
  unfold zK
  rw [e]
  omega
/-- a promise: both answer alike, and the relation stands -/
def zPr (mx mm : Nat) (A : List ai_V) : Prop := ∀ (d : Nat) (h : ai_H), zR h → ∃ v h1 h2, ai_X (d + 60) mx (.inr (.inr (31, 0, 128)) :: A) h = some ([.inl v], h1) ∧ ai_X (d + 60) mm (.inr (.inr (32, 0, 16128)) :: A) h1 = some ([.inl v], h2) ∧ zR h2 ∧ zK h h2
theorem zPr_q {mx mm : Nat} {A : List ai_V} (H : ∀ (d : Nat) (h : ai_H), zR h → ∃ v h1 h2, ai_X (d + 60) mx (.inr (.inr (31, 0, 128)) :: A) h = some ([.inl v], h1) ∧ zF zXS h h1 ∧ ai_X (d + 60) mm (.inr (.inr (32, 0, 16128)) :: A) h1 = some ([.inl v], h2) ∧ zF zMS h1 h2) : zPr mx mm A := by
  intro d h hr
  obtain ⟨v, h1, h2, a1, a2, a3, a4⟩ := H d h hr
  exact ⟨v, h1, h2, a1, a3, zR_q hr a2 a4, zK_of (a4.2.trans a2.2)⟩
theorem P_node (v : Int32) : zPr 86 198 [.inl v] := by
  intro d h hr
  obtain ⟨r1, r2, r3, r4⟩ := id hr
  have V : zV (zsl (zMv h) 0) := r2.2.1 0 (Nat.zero_le _)
  have hC : zC h 2097281 (zsl (zMv h) 0) := r1.1.1
  obtain ⟨hn, hl, -⟩ := zn_eq V.1.1
  have hx : h.1 2097281 0 = nI (zn (zsl (zMv h) 0) 0) := hC.1.trans hn
  have hm : h.1 2064385 0 = nI (zn (zsl (zMv h) 0) 0) := (zMv1 (f := 0) (by omega)).symm.trans hn
  by_cases c : zn (zsl (zMv h) 0) 0 < 24 ∧ (v = -1 ∨ (0 ≤ v.toInt ∧ v.toInt < (zn (zsl (zMv h) 0) 0 : Int)))
  · obtain ⟨h1, a1, a2, a3⟩ := X86_go (d + 57) hC V c.1 c.2
    have fin := zFc_in a2 rfl
    have nM : ∀ q, zroot q = 16128 → h1.1 q = h.1 q := fun q hq => fin.1 q fun k => by rw [zin_r k] at hq; omega
    have hm1 : h1.1 2064385 0 = nI (zn (zsl (zMv h) 0) 0) := by rw [nM _ (by decide)]; exact hm
    have eV : zMv h1 = zMv h := zMv_c (fun f hf => nM _ (zMr (by omega))) (fun j _ => by rw [nM 16128 (by decide)])
    refine ⟨_, h1, _, a1, M198_go (d + 58) v hm1 c.1 c.2, zR_now hr (μ' := zmu (zmu (zMv h) 10 (zn (zsl (zMv h) 0) 0) v) 0 0 (nI (zn (zsl (zMv h) 0) 0 + 1))) (zEq0_mu (zEq0_mu zEq0_rf (by decide) c.1) (by decide) (by decide)) fin ?_ (zFm_st (zFm_st zFm_rf (by decide)) (by decide)) rfl ?_ ?_ (fun t ht => ?_), zK_of a2.2⟩
    · rw [zsl_up, zsl_up]
      exact zS_city a2 a3 (fun f hf => zsN_n (by omega) (by omega)) r1.1
    · have e1 := zMv_st (h := h1) (f := 10) (i := zn (zsl (zMv h) 0) 0) (v := v) (by omega)
      have e2 := zMv_st (h := ai_st h1 2064395 (zn (zsl (zMv h) 0) 0) v) (f := 0) (i := 0) (v := nI (zn (zsl (zMv h) 0) 0 + 1)) (by omega)
      exact e2.trans (by rw [show zMv (ai_st h1 2064395 (zn (zsl (zMv h) 0) 0) v) = _ from e1, eV])
    · rw [zsl_up, zsl_up]
      exact zV_node V c.1 c.2
    · exact (r2.2.2.2.1.1 t ht).1
  · have c' : 24 ≤ zn (zsl (zMv h) 0) 0 ∨ ¬ (v = -1 ∨ (0 ≤ v.toInt ∧ v.toInt < (zn (zsl (zMv h) 0) 0 : Int))) := by
      rcases Nat.lt_or_ge (zn (zsl (zMv h) 0) 0) 24 with q | q
      · exact Or.inr (fun k => c ⟨q, k⟩)
      · exact Or.inl q
    exact ⟨-1, h, h, X86_no (d + 57) v hx (by omega) c', M198_no (d + 58) v hm (by omega) c', hr, zK_of rfl⟩
