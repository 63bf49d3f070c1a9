/-! TELLING: a row more, both sides -/
theorem M207 {h : ai_H} {n : Nat} (d : Nat) (k : Int32) (hn : h.1 2064389 0 = nI n) (hl : n ≤ 2000) : ai_X (d + 1) 207 [.inr (.inr (32, 0, 16128)), .inl k] h = some ([.inl (nI (zcnt (fun e => h.1 2064407 e = k) n))], h) := by
  have i0 : ∀ f : Nat → Option ai_R, ai_ix 0 4 f = f 0 := fun f => z_i0 (by decide) (by decide)
  have K : ∀ j i, i + j = n → ai_E d 207 4 [some (.inr (.inr (32, 0, 16128))), some (.inl k), some (.inl (nI (zcnt (fun e => h.1 2064407 e = k) i))), some (.inl (nI i))] [] h = some ([.inl (nI (zcnt (fun e => h.1 2064407 e = k) n))], h) := by
    intro j
    induction j with
    | zero =>
      intro i hi
      have hi : i = n := by omega
      subst hi
      rw [T207_4, i0, hn, if_pos (by rw [z_le]; omega)]
    | succ j ih =>
      intro i hi
      have ih := ih (i + 1) (by omega)
      have ez : zcnt (fun e => h.1 2064407 e = k) (i + 1) = zcnt (fun e => h.1 2064407 e = k) i + if h.1 2064407 i = k then 1 else 0 := rfl
      rw [T207_4, i0, hn, if_neg (by rw [nI_leI (by omega) (by omega)]; omega), z_ix (by omega) (by decide)]
      simp only [nI_1]
      rw [ez] at ih
      by_cases c : h.1 2064407 i = k
      · rw [if_pos c] at ih ⊢
        exact ih
      · rw [if_neg c] at ih ⊢
        rw [Int32.add_zero]
        exact ih
  rw [T207]
  exact K n 0 (by omega)
theorem M208_day {h : ai_H} (d : Nat) (k m w dd v : Int32) (hd : ¬ (0 ≤ dd.toInt ∧ dd.toInt ≤ (h.1 2064388 0).toInt)) : ai_X (d + 2) 208 [.inr (.inr (32, 0, 16128)), .inl k, .inl m, .inl w, .inl dd, .inl v] h = some ([.inl (-1)], h) := by
  rw [T208, z_i0 (by decide) (by decide), M186]
  simp only [z_bi, zl0, zl1, zl2, zl3, zl4, zl5, zl6, zl7, zl8, zl9, zl10, zl12, zl15, zl16, zl20, zl22, zl23, zl24, zl27, zl30, zl31, zl32, zl40, zl46, zl48, zl50, zl57, zl59, zl60, zl61, zl62, zl63, zl80, zl96, zl97, zl99, zl100, zl122, zl255, zl360, zl500, zl999, zl9999, zl60000, zl99999, zl16777215, zl1073741824, zlm1, zlm2, zlm3]
  rw [if_pos (by rw [zb_0]; exact hd)]
theorem M208_full {h : ai_H} {n : Nat} (d : Nat) (k m w dd v : Int32) (hn : h.1 2064389 0 = nI n) (hl : n ≤ 2000) (hf : nI (zcnt (fun e => h.1 2064407 e = k) n) = m) : ai_X (d + 2) 208 [.inr (.inr (32, 0, 16128)), .inl k, .inl m, .inl w, .inl dd, .inl v] h = some ([.inl (-1)], h) := by
  rw [T208, z_i0 (by decide) (by decide), M186]
  simp only [z_bi, M207 _ _ hn hl, if_pos hf]
  by_cases c : zb (Int32.toInt 0 ≤ dd.toInt ∧ dd.toInt ≤ (h.1 2064388 0).toInt) = 0
  · rw [if_pos c]
  · rw [if_neg c]
theorem M208_go {h : ai_H} {n : Nat} (d : Nat) (k m w dd v : Int32) (hn : h.1 2064389 0 = nI n) (hl : n < 2000) (hd : 0 ≤ dd.toInt ∧ dd.toInt ≤ (h.1 2064388 0).toInt) (hf : ¬ nI (zcnt (fun e => h.1 2064407 e = k) n) = m) :
    ai_X (d + 2) 208 [.inr (.inr (32, 0, 16128)), .inl k, .inl m, .inl w, .inl dd, .inl v] h = some ([.inl (nI (zcnt (fun e => h.1 2064407 e = k) n + 1))], ai_st (ai_st (ai_st (ai_st (ai_st (ai_st h 2064407 n k) 2064408 n w) 2064409 n dd) 2064410 n v) 2064411 n (h.1 2064388 0)) 2064389 0 (nI (n + 1))) := by
  have i0 : ∀ f : Nat → Option ai_R, ai_ix 0 4 f = f 0 := fun f => z_i0 (by decide) (by decide)
  have ix : ∀ f : Nat → Option ai_R, ai_ix (nI n) 2400 f = f n := fun f => z_ix (by omega) (by decide)
  have hz : ¬ zb (Int32.toInt 0 ≤ dd.toInt ∧ dd.toInt ≤ (h.1 2064388 0).toInt) = 0 := by rw [zb_0]; exact fun c => c hd
  rw [T208, i0, M186]
  simp only [z_bi, M207 _ _ hn (show n ≤ 2000 by omega), if_neg hf, if_neg hz, i0, hn, ix, z_st1, z_bi, z_bv, z_br, Nat.reduceEqDiff, false_and, and_false, true_and, and_true, and_self, if_false, if_true, ite_true, ite_false, reduceIte, not_true_eq_false, not_false_eq_true, nI_1]
  have e := M207 (h := ai_st (ai_st (ai_st (ai_st (ai_st (ai_st h 2064407 n k) 2064408 n w) 2064409 n dd) 2064410 n v) 2064411 n (h.1 2064388 0)) 2064389 0 (nI (n + 1))) (n := n + 1) d k (by simp only [z_st1, z_bi, z_bv, z_br, Nat.reduceEqDiff, false_and, and_false, true_and, and_true, and_self, if_false, if_true, ite_true, ite_false, reduceIte, not_true_eq_false, not_false_eq_true]) (by omega)
  rw [e]
  simp only [z_bi]
  have ez : zcnt (fun e => (ai_st (ai_st (ai_st (ai_st (ai_st (ai_st h 2064407 n k) 2064408 n w) 2064409 n dd) 2064410 n v) 2064411 n (h.1 2064388 0)) 2064389 0 (nI (n + 1))).1 2064407 e = k) (n + 1) = zcnt (fun e => h.1 2064407 e = k) n + 1 := by
    show zcnt _ n + (if _ then 1 else 0) = _
    rw [if_pos (by simp only [z_st1, z_bi, z_bv, z_br, Nat.reduceEqDiff, false_and, and_false, true_and, and_true, and_self, if_false, if_true, ite_true, ite_false, reduceIte, not_true_eq_false, not_false_eq_true])]
    refine congrArg (· + 1) (zcnt_c fun i hi => ?_)
    have c : ¬ i = n := by omega
    simp only [z_st1, c, z_bi, z_bv, z_br, Nat.reduceEqDiff, false_and, and_false, true_and, and_true, and_self, if_false, if_true, ite_true, ite_false, reduceIte, not_true_eq_false, not_false_eq_true]
  rw [ez]
/-- a row more -/
def zsT (σ : Nat → Nat → Int32) (k w dd v : Int32) : Nat → Nat → Int32 := zup (zup (zup (zup (zup (zup σ 22 (zn σ 4) k) 23 (zn σ 4) w) 24 (zn σ 4) dd) 25 (zn σ 4) v) 26 (zn σ 4) (σ 3 0)) 4 0 (nI (zn σ 4 + 1))
theorem zsT_n {σ : Nat → Nat → Int32} {k w dd v : Int32} {f : Nat} (h : f ≠ 4) (h2 : ¬ (22 ≤ f ∧ f ≤ 26)) : zsT σ k w dd v f = σ f :=
  (zup_n h).trans ((zup_n (by omega)).trans ((zup_n (by omega)).trans ((zup_n (by omega)).trans ((zup_n (by omega)).trans (zup_n (by omega))))))
theorem zsT_4 {σ : Nat → Nat → Int32} {k w dd v : Int32} : zsT σ k w dd v 4 0 = nI (zn σ 4 + 1) := zup_s
theorem zsT_22 {σ : Nat → Nat → Int32} {k w dd v : Int32} {e : Nat} : zsT σ k w dd v 22 e = if e = zn σ 4 then k else σ 22 e := by
  unfold zsT zup
  by_cases c : e = zn σ 4 <;> simp [c]
theorem zsT_23 {σ : Nat → Nat → Int32} {k w dd v : Int32} {e : Nat} : zsT σ k w dd v 23 e = if e = zn σ 4 then w else σ 23 e := by
  unfold zsT zup
  by_cases c : e = zn σ 4 <;> simp [c]
theorem zsT_24 {σ : Nat → Nat → Int32} {k w dd v : Int32} {e : Nat} : zsT σ k w dd v 24 e = if e = zn σ 4 then dd else σ 24 e := by
  unfold zsT zup
  by_cases c : e = zn σ 4 <;> simp [c]
theorem zsT_25 {σ : Nat → Nat → Int32} {k w dd v : Int32} {e : Nat} : zsT σ k w dd v 25 e = if e = zn σ 4 then v else σ 25 e := by
  unfold zsT zup
  by_cases c : e = zn σ 4 <;> simp [c]
theorem zsT_26 {σ : Nat → Nat → Int32} {k w dd v : Int32} {e : Nat} : zsT σ k w dd v 26 e = if e = zn σ 4 then σ 3 0 else σ 26 e := by
  unfold zsT zup
  by_cases c : e = zn σ 4 <;> simp [c]
theorem zsT_zn {σ : Nat → Nat → Int32} {k w dd v : Int32} (hl : zn σ 4 < 30000) : zn (zsT σ k w dd v) 4 = zn σ 4 + 1 := by
  unfold zn
  rw [zsT_4, z_T (by omega)]
  rfl
theorem zled_cn {σ σ' : Nat → Nat → Int32} (k : Int32) : ∀ n, (∀ e, e < n → σ' 22 e = σ 22 e ∧ zrow σ' e = zrow σ e) → zled σ' k n = zled σ k n := by
  intro n
  induction n with
  | zero => intro _; rfl
  | succ n ih =>
    intro h
    unfold zled
    rw [ih (fun e he => h e (by omega)), (h n (by omega)).1, (h n (by omega)).2]
theorem zled_tell {σ : Nat → Nat → Int32} {k w dd v : Int32} (q : Int32) : zled (zsT σ k w dd v) q (zn σ 4 + 1) = if k = q then zins (w, dd, if k = 6 then 1 else v, σ 3 0) (zled σ q (zn σ 4)) else zled σ q (zn σ 4) := by
  have e : zled (zsT σ k w dd v) q (zn σ 4) = zled σ q (zn σ 4) := zled_cn q _ fun e he => by
    have c : ¬ e = zn σ 4 := by omega
    unfold zrow
    rw [zsT_22, zsT_23, zsT_24, zsT_25, zsT_26]
    simp only [c, if_false]
    exact ⟨trivial, trivial⟩
  have er : zrow (zsT σ k w dd v) (zn σ 4) = (w, dd, if k = 6 then 1 else v, σ 3 0) := by
    unfold zrow
    rw [zsT_22, zsT_23, zsT_24, zsT_25, zsT_26]
    simp only [if_true]
  rw [zled, e, er, zsT_22, if_pos rfl]
def zs12 (f : Nat → Nat) : Nat := f 0 + f 1 + f 2 + f 3 + f 4 + f 5 + f 6 + f 7 + f 8 + f 9 + f 10 + f 11
theorem zs12_cnt {σ : Nat → Nat → Int32} : ∀ n, (∀ e, e < n → zi (σ 22 e) 0 11) → zs12 (fun k => zcnt (fun e => σ 22 e = nI k) n) = n := by
  intro n
  induction n with
  | zero => intro _; rfl
  | succ n ih =>
    intro h
    have ih := ih fun e he => h e (by omega)
    have h0 := h n (by omega)
    unfold zi at h0
    obtain ⟨j, hj, ej⟩ : ∃ j, j < 12 ∧ σ 22 n = nI j := ⟨(σ 22 n).toInt.toNat, by omega, z_nat h0.1⟩
    have hk : ∀ k, k < 12 → zcnt (fun e => σ 22 e = nI k) (n + 1) = zcnt (fun e => σ 22 e = nI k) n + if j = k then 1 else 0 := fun k hk => by
      show _ + (if σ 22 n = nI k then 1 else 0) = _
      rw [ej]
      simp only [nI_eq (show j < 2 ^ 31 by omega) (show k < 2 ^ 31 by omega)]
    unfold zs12 at ih ⊢
    dsimp only at ih ⊢
    simp only [hk 0 (by decide), hk 1 (by decide), hk 2 (by decide), hk 3 (by decide), hk 4 (by decide), hk 5 (by decide), hk 6 (by decide), hk 7 (by decide), hk 8 (by decide), hk 9 (by decide), hk 10 (by decide), hk 11 (by decide)]
    rcases (show j = 0 ∨ j = 1 ∨ j = 2 ∨ j = 3 ∨ j = 4 ∨ j = 5 ∨ j = 6 ∨ j = 7 ∨ j = 8 ∨ j = 9 ∨ j = 10 ∨ j = 11 by omega) with rfl | rfl | rfl | rfl | rfl | rfl | rfl | rfl | rfl | rfl | rfl | rfl <;> simp <;> omega
theorem zVe_lt {σ : Nat → Nat → Int32} (V : zVe σ) {k : Nat} (hk : k < 12) (hc : zcnt (fun e => σ 22 e = nI k) (zn σ 4) < zmost k) : zn σ 4 < 600 := by
  have h1 := zs12_cnt (zn σ 4) fun e he => (V.1 e he).1
  have h2 := V.2
  have m : zs12 zmost = 600 := rfl
  unfold zs12 at h1 m
  dsimp only at h1 m
  have a0 := h2 0 (by decide)
  have a1 := h2 1 (by decide)
  have a2 := h2 2 (by decide)
  have a3 := h2 3 (by decide)
  have a4 := h2 4 (by decide)
  have a5 := h2 5 (by decide)
  have a6 := h2 6 (by decide)
  have a7 := h2 7 (by decide)
  have a8 := h2 8 (by decide)
  have a9 := h2 9 (by decide)
  have a10 := h2 10 (by decide)
  have a11 := h2 11 (by decide)
  rcases (show k = 0 ∨ k = 1 ∨ k = 2 ∨ k = 3 ∨ k = 4 ∨ k = 5 ∨ k = 6 ∨ k = 7 ∨ k = 8 ∨ k = 9 ∨ k = 10 ∨ k = 11 by omega) with rfl | rfl | rfl | rfl | rfl | rfl | rfl | rfl | rfl | rfl | rfl | rfl <;> omega
theorem zV_tell {σ : Nat → Nat → Int32} {k : Nat} {w dd v : Int32} (V : zV σ) (hk : k < 12) (hc : zcnt (fun e => σ 22 e = nI k) (zn σ 4) < zmost k) (hd : 0 ≤ dd.toInt ∧ dd.toInt ≤ (σ 3 0).toInt) (hr : zi v 0 9999 ∧ 0 ≤ w.toInt ∧ (k = 4 → w.toInt < (zn σ 0 : Int)) ∧ (k = 1 ∨ k = 5 → w = 0) ∧ (¬ k = 1 → ¬ k = 4 → ¬ k = 5 → w.toInt < (zn σ 1 : Int)) ∧ (k = 0 ∨ k = 2 ∨ k = 3 ∨ k = 10 ∨ k = 11 → zi v 0 1) ∧ (k = 1 ∨ k = 5 → zi v 0 100) ∧ (k = 7 → zi v 0 23)) : zV (zsT σ (nI k) w dd v) := by
  have hn := zVe_lt V.2.2.2.2.1 hk hc
  obtain ⟨h1, h2, h3, h4, h5, h6⟩ := V
  have e : ∀ f, f ≠ 4 → ¬ (22 ≤ f ∧ f ≤ 26) → zsT σ (nI k) w dd v f = σ f := fun f a b => zsT_n a b
  have m : ∀ f, f ≠ 4 → ¬ (22 ≤ f ∧ f ≤ 26) → zn (zsT σ (nI k) w dd v) f = zn σ f := fun f a b => zn_c (e f a b)
  have z4 := zsT_zn (k := nI k) (w := w) (dd := dd) (v := v) (show zn σ 4 < 30000 by omega)
  have today := h1.2.2.2.2.1
  refine ⟨?_, fun i hi => ?_, fun t ht => ?_, ?_, ⟨fun q hq => ?_, fun q hq => ?_⟩, ?_⟩
  · unfold zVc at h1 ⊢
    rw [e 0 (by decide) (by decide), e 1 (by decide) (by decide), e 2 (by decide) (by decide), e 8 (by decide) (by decide), e 3 (by decide) (by decide), e 5 (by decide) (by decide), e 6 (by decide) (by decide), e 7 (by decide) (by decide), zsT_4]
    obtain ⟨a1, a2, a3, a4, a5, a6, a7⟩ := h1
    refine ⟨a1, a2, a3, a4, a5, ?_, a7⟩
    unfold zi
    rw [z_T (by omega)]
    omega
  · rw [m 0 (by decide) (by decide)] at hi
    rw [e 10 (by decide) (by decide)]
    exact h2 i hi
  · rw [m 1 (by decide) (by decide)] at ht
    rw [e 11 (by decide) (by decide), e 12 (by decide) (by decide), e 13 (by decide) (by decide), e 14 (by decide) (by decide), e 15 (by decide) (by decide), e 17 (by decide) (by decide), m 0 (by decide) (by decide)]
    exact h3 t ht
  · unfold zVh at h4 ⊢
    rw [m 2 (by decide) (by decide), m 8 (by decide) (by decide), e 19 (by decide) (by decide), e 20 (by decide) (by decide), e 16 (by decide) (by decide)]
    exact h4
  · rw [z4] at hq
    unfold zVr
    rw [zsT_22, zsT_23, zsT_24, zsT_25, zsT_26, m 0 (by decide) (by decide), m 1 (by decide) (by decide)]
    by_cases c : q = zn σ 4
    · have eq : ∀ j, j < 12 → (nI k = nI j ↔ k = j) := fun j hj => nI_eq (by omega) (by omega)
      have q0 : nI k = 0 ↔ k = 0 := eq 0 (by decide)
      have q1 : nI k = 1 ↔ k = 1 := eq 1 (by decide)
      have q2 : nI k = 2 ↔ k = 2 := eq 2 (by decide)
      have q3 : nI k = 3 ↔ k = 3 := eq 3 (by decide)
      have q4 : nI k = 4 ↔ k = 4 := eq 4 (by decide)
      have q5 : nI k = 5 ↔ k = 5 := eq 5 (by decide)
      have q7 : nI k = 7 ↔ k = 7 := eq 7 (by decide)
      have q10 : nI k = 10 ↔ k = 10 := eq 10 (by decide)
      have q11 : nI k = 11 ↔ k = 11 := eq 11 (by decide)
      simp only [c, if_true, q0, q1, q2, q3, q4, q5, q7, q10, q11]
      unfold zi at today
      refine ⟨?_, ?_, today, hr.1, hr.2⟩
      · unfold zi; rw [z_T (by omega)]; omega
      · unfold zi; omega
    · simp only [c, if_false]
      exact h5.1 q (by omega)
  · rw [z4]
    have ez : zcnt (fun e => zsT σ (nI k) w dd v 22 e = nI q) (zn σ 4 + 1) = zcnt (fun e => σ 22 e = nI q) (zn σ 4) + if k = q then 1 else 0 := by
      show zcnt _ (zn σ 4) + (if zsT σ (nI k) w dd v 22 (zn σ 4) = nI q then 1 else 0) = _
      rw [zsT_22, if_pos rfl]
      simp only [nI_eq (show k < 2 ^ 31 by omega) (show q < 2 ^ 31 by omega)]
      refine congrArg (· + _) (zcnt_c fun i hi => ?_)
      rw [zsT_22, if_neg (by omega)]
    rw [ez]
    have := h5.2 q hq
    by_cases c : k = q
    · subst c
      rw [if_pos rfl]
      omega
    · rw [if_neg c]
      exact this
  · unfold zVj at h6 ⊢
    rw [m 5 (by decide) (by decide), m 1 (by decide) (by decide), e 27 (by decide) (by decide), e 28 (by decide) (by decide), e 29 (by decide) (by decide), e 30 (by decide) (by decide), e 31 (by decide) (by decide), e 18 (by decide) (by decide)]
    exact h6
