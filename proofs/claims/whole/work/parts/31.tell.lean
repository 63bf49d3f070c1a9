/-! A LEDGER IS TOLD -/
theorem z_ch {a i j : Nat} : (ai_ch a i = ai_ch a j) = (i = j) := propext ⟨fun h => by unfold ai_ch at h; omega, fun h => by rw [h]⟩
theorem z_cha {a i : Nat} : (ai_ch a i = a) = False := propext ⟨fun h => by unfold ai_ch at h; omega, fun h => h.elim⟩
theorem z_cha' {a i : Nat} : (a = ai_ch a i) = False := propext ⟨fun h => by unfold ai_ch at h; omega, fun h => h.elim⟩
theorem zins_at {r : zR4} : ∀ {l : List zR4} {i : Nat}, i ≤ l.length → (∀ j, j < i → (l.getD j zrN).2.1 ≤ r.2.1) → (∀ j, i ≤ j → j < l.length → r.2.1 < (l.getD j zrN).2.1) → zins r l = l.take i ++ r :: l.drop i := by
  intro l
  induction l with
  | nil =>
    intro i hi _ _
    have : i = 0 := by simpa using hi
    subst this
    rfl
  | cons x l ih =>
    intro i hi h1 h2
    cases i with
    | zero =>
      have := h2 0 (Nat.le_refl _) (by simp)
      unfold zins
      rw [if_pos (by simpa using this)]
      rfl
    | succ i =>
      have hx : x.2.1 ≤ r.2.1 := h1 0 (by omega)
      unfold zins
      rw [if_neg (by rw [z_lt]; rw [z_le] at hx; omega), ih (i := i) (by simpa using hi) (fun j hj => by have := h1 (j + 1) (by omega); simpa using this) (fun j hj hj2 => by have := h2 (j + 1) (by omega) (by simpa using hj2); simpa using this)]
      rfl
theorem zsd_getD {l : List zR4} (h : zsd l) : ∀ {i j : Nat}, i ≤ j → j < l.length → (l.getD i zrN).2.1 ≤ (l.getD j zrN).2.1 := by
  intro i j hij hj
  rcases Nat.lt_or_ge i j with c | c
  · have := List.pairwise_iff_getElem.mp h i j (by omega) hj c
    simpa [List.getD_eq_getElem?_getD, List.getElem?_eq_getElem hj, List.getElem?_eq_getElem (show i < l.length by omega)] using this
  · have : i = j := by omega
    subst this
    rw [z_le]; omega
/-- the cells of a ledger's rows -/
def zFl (a : Nat) (h h1 : ai_H) : Prop := (∀ q, ¬ (q = ai_ch a 0 ∨ q = ai_ch a 1 ∨ q = ai_ch a 2 ∨ q = ai_ch a 3) → h1.1 q = h.1 q) ∧ h1.2 = h.2
theorem zFl_st {a q j : Nat} {v : Int32} {h h1 : ai_H} (f : zFl a h h1) (hq : q = ai_ch a 0 ∨ q = ai_ch a 1 ∨ q = ai_ch a 2 ∨ q = ai_ch a 3) : zFl a h (ai_st h1 q j v) := by
  refine ⟨fun p n => ?_, f.2⟩
  funext i
  rw [z_st1, if_neg, f.1 p n]
  rintro ⟨rfl, -⟩
  exact n hq
theorem X37_w {h : ai_H} {a n i L : Nat} (d : Nat) (s dd v t : Int32) (hk : zLk h a n) (h4 : h.1 a 4 = nI L) (hi : i < n) (hn : n ≤ 1000) : ai_E d 37 108 [some (.inr (.inr (25, 0, a))), some (.inl s), some (.inl dd), some (.inl v), some (.inl t), some (.inl (nI i))] [] h = some ([.inl (nI (L + 1))], ai_st (ai_st (ai_st (ai_st (ai_st h (ai_ch a 0) i s) (ai_ch a 1) i dd) (ai_ch a 2) i v) (ai_ch a 3) i t) a 4 (nI (L + 1))) := by
  obtain ⟨k0, k1, k2, k3⟩ := hk
  have ix : ∀ f : Nat → Option ai_R, ai_ix (nI i) n f = f i := fun f => z_ix hi (by omega)
  rw [T37_108]
  simp only [z_st2, k0, k1, k2, k3, ix, z_st1, z_cha', z_bi, z_bv, z_br, Nat.reduceEqDiff, false_and, and_false, true_and, and_true, and_self, if_false, if_true, ite_true, ite_false, reduceIte, not_true_eq_false, not_false_eq_true, h4, nI_1]
theorem X37_l {h0 : ai_H} {a n : Nat} {l : List zR4} (d : Nat) (s dd v t : Int32) (hl : zL h0 a l) (hs : zsd l) (hk : zLk h0 a n) (hn : l.length < n) (hn2 : n ≤ 1000) : ∀ (i : Nat) (h : ai_H), i ≤ l.length → zFl a h0 h → (∀ j, j < i → zLr h a j = zLr h0 a j) → (∀ j, i < j → j ≤ l.length → zLr h a j = zLr h0 a (j - 1)) → (∀ j, i ≤ j → j < l.length → dd < (l.getD j zrN).2.1) →
    ∃ h1, ai_E d 37 20 [some (.inr (.inr (25, 0, a))), some (.inl s), some (.inl dd), some (.inl v), some (.inl t), some (.inl (nI i))] [] h = some ([.inl (nI (l.length + 1))], h1) ∧ zFc a h0 h1 ∧ zL h1 a (zins (s, dd, v, t) l) := by
  -- the end: the row is written at i
  have W : ∀ (i : Nat) (h : ai_H), i ≤ l.length → zFl a h0 h → (∀ j, j < i → zLr h a j = zLr h0 a j) → (∀ j, i < j → j ≤ l.length → zLr h a j = zLr h0 a (j - 1)) → (∀ j, i ≤ j → j < l.length → dd < (l.getD j zrN).2.1) → (∀ j, j < i → (l.getD j zrN).2.1 ≤ dd) →
      ∃ h1, ai_E d 37 108 [some (.inr (.inr (25, 0, a))), some (.inl s), some (.inl dd), some (.inl v), some (.inl t), some (.inl (nI i))] [] h = some ([.inl (nI (l.length + 1))], h1) ∧ zFc a h0 h1 ∧ zL h1 a (zins (s, dd, v, t) l) := by
    intro i h hi f h1 h2 h3 h5
    have hk' : zLk h a n := by unfold zLk; rw [f.2]; exact hk
    have h4 : h.1 a 4 = nI l.length := by
      rw [f.1 a (by simp only [z_cha', or_self, not_false_eq_true])]
      exact hl.1
    refine ⟨_, X37_w d s dd v t hk' h4 (by omega) hn2, ⟨fun q nq => ?_, f.2⟩, ?_, fun j hj => ?_⟩
    · have e : ∀ k, k < 127 → ¬ q = ai_ch a k := fun k hk c => nq (Or.inr (by rw [c]; exact zfp_c hk))
      have e0 := e 0 (by decide)
      have e1 := e 1 (by decide)
      have e2 := e 2 (by decide)
      have e3 := e 3 (by decide)
      have e4 : ¬ q = a := fun c => nq (Or.inl c)
      funext x
      simp only [z_st1, e0, e1, e2, e3, e4, z_bi, z_bv, z_br, Nat.reduceEqDiff, false_and, and_false, true_and, and_true, and_self, if_false, if_true, ite_true, ite_false, reduceIte, not_true_eq_false, not_false_eq_true]
      rw [f.1 q (by simp only [e0, e1, e2, e3, or_self, not_false_eq_true])]
    · rw [zins_len, z_stS]
    · rw [zins_len] at hj
      rw [zins_at (i := i) hi h5 h3]
      have hlen : (l.take i).length = i := by rw [List.length_take]; omega
      unfold zLr
      simp only [z_st1, z_ch, z_cha, z_bi, z_bv, z_br, Nat.reduceEqDiff, false_and, and_false, true_and, and_true, and_self, if_false, if_true, ite_true, ite_false, reduceIte, not_true_eq_false, not_false_eq_true]
      rcases Nat.lt_trichotomy j i with c | c | c
      · rw [List.getElem?_append_left (by omega), List.getElem?_take, if_pos c]
        have c' : ¬ j = i := by omega
        simp only [c', z_bi, z_bv, z_br, Nat.reduceEqDiff, false_and, and_false, true_and, and_true, and_self, if_false, if_true, ite_true, ite_false, reduceIte, not_true_eq_false, not_false_eq_true]
        rw [hl.2 j (by omega), ← h1 j c]
        rfl
      · subst c
        rw [List.getElem?_append_right (by omega), hlen, Nat.sub_self]
        simp only [z_bi, z_bv, z_br, Nat.reduceEqDiff, false_and, and_false, true_and, and_true, and_self, if_false, if_true, ite_true, ite_false, reduceIte, not_true_eq_false, not_false_eq_true]
        rfl
      · rw [List.getElem?_append_right (by omega), hlen]
        obtain ⟨m, rfl⟩ : ∃ m, j = i + m + 1 := ⟨j - i - 1, by omega⟩
        have c' : ¬ i + m + 1 = i := by omega
        rw [show i + m + 1 - i = m + 1 by omega, List.getElem?_cons_succ, List.getElem?_drop, hl.2 (i + m) (by omega)]
        simp only [c', z_bi, z_bv, z_br, Nat.reduceEqDiff, false_and, and_false, true_and, and_true, and_self, if_false, if_true, ite_true, ite_false, reduceIte, not_true_eq_false, not_false_eq_true]
        have := h2 (i + m + 1) (by omega) (by omega)
        rw [show i + m + 1 - 1 = i + m by omega] at this
        rw [← this]
        rfl
  intro i
  induction i with
  | zero =>
    intro h hi f h1 h2 h3
    rw [T37_20, if_pos (by decide)]
    exact W 0 h hi f h1 h2 h3 (fun j hj => by omega)
  | succ i ih =>
    intro h hi f h1 h2 h3
    obtain ⟨k0, k1, k2, k3⟩ : zLk h a n := by unfold zLk; rw [f.2]; exact hk
    have ix : ∀ f : Nat → Option ai_R, ai_ix (nI i) n f = f i := fun f => z_ix (by omega) (by omega)
    have ix1 : ∀ f : Nat → Option ai_R, ai_ix (nI (i + 1)) n f = f (i + 1) := fun f => z_ix (by omega) (by omega)
    have er : l.getD i zrN = zLr h a i := by rw [zL_row hl (by omega), h1 i (by omega)]
    have e1 : (l.getD i zrN).2.1 = h.1 (ai_ch a 1) i := by rw [er]; rfl
    rw [T37_20, if_neg (nI_nle (by omega) (by omega)), nI_pred, k1, ix]
    by_cases c : h.1 (ai_ch a 1) i ≤ dd
    · rw [if_pos c]
      refine W (i + 1) h hi f h1 h2 h3 (fun j hj => ?_)
      have := zsd_getD hs (show j ≤ i by omega) (by omega)
      rw [e1] at this
      rw [z_le] at c this ⊢
      omega
    · rw [if_neg c]
      simp only [z_st2, k0, k1, k2, k3, ix, ix1, pk_m1]
      refine ih _ (by omega) (zFl_st (zFl_st (zFl_st (zFl_st f (by omega)) (by omega)) (by omega)) (by omega)) (fun j hj => ?_) (fun j hj hj2 => ?_) (fun j hj hj2 => ?_)
      · have c' : ¬ j = i + 1 := by omega
        rw [← h1 j (by omega)]
        unfold zLr
        simp only [z_st1, z_ch, c', z_bi, z_bv, z_br, Nat.reduceEqDiff, false_and, and_false, true_and, and_true, and_self, if_false, if_true, ite_true, ite_false, reduceIte, not_true_eq_false, not_false_eq_true]
      · by_cases c' : j = i + 1
        · subst c'
          rw [show i + 1 - 1 = i by omega, ← h1 i (by omega)]
          unfold zLr
          simp only [z_st1, z_ch, z_bi, z_bv, z_br, Nat.reduceEqDiff, false_and, and_false, true_and, and_true, and_self, if_false, if_true, ite_true, ite_false, reduceIte, not_true_eq_false, not_false_eq_true]
        · rw [← h2 j (by omega) hj2]
          unfold zLr
          simp only [z_st1, z_ch, c', z_bi, z_bv, z_br, Nat.reduceEqDiff, false_and, and_false, true_and, and_true, and_self, if_false, if_true, ite_true, ite_false, reduceIte, not_true_eq_false, not_false_eq_true]
      · by_cases c' : j = i
        · subst c'
          rw [e1, z_lt]
          rw [z_le] at c
          omega
        · exact h3 j (by omega) hj2
theorem X37 {h : ai_H} {a n : Nat} {l : List zR4} (d : Nat) (s dd v t : Int32) (hl : zL h a l) (hs : zsd l) (hk : zLk h a n) (hn : l.length < n) (hn2 : n ≤ 1000) : ∃ h1, ai_X (d + 1) 37 [.inr (.inr (25, 0, a)), .inl s, .inl dd, .inl v, .inl t] h = some ([.inl (nI (l.length + 1))], h1) ∧ zFc a h h1 ∧ zL h1 a (zins (s, dd, v, t) l) := by
  rw [T37, hl.1, hk.1, if_pos (by rw [nI_ltI (by omega) (by omega)]; exact hn)]
  exact X37_l d s dd v t hl hs hk hn hn2 l.length h (Nat.le_refl _) ⟨fun _ _ => rfl, rfl⟩ (fun _ _ => rfl) (fun j h1 h2 => by omega) (fun j h1 h2 => by omega)
theorem X37_no {h : ai_H} {a n : Nat} {l : List zR4} (d : Nat) (s dd v t : Int32) (hl : zL h a l) (hk : zLk h a n) (hn : n ≤ l.length) (hn2 : l.length ≤ 1000) : ai_X (d + 1) 37 [.inr (.inr (25, 0, a)), .inl s, .inl dd, .inl v, .inl t] h = some ([.inl (-1)], h) := by
  rw [T37, hl.1, hk.1, if_neg (by rw [nI_ltI (by omega) (by omega)]; omega)]
