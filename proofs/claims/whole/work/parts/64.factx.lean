/-! THE LAW: a tap's six facts, the class's way -/
theorem z_fsx {h : ai_H} {A : Nat} {v0 v1 v2 v3 v4 v5 : Int32} : (ai_st (ai_st (ai_st (ai_st (ai_st (ai_st h A 6 v0) A 7 v1) A 8 v2) A 3 v3) A 9 v4) A 10 v5).1 A = fun j => if j = 10 then v5 else if j = 9 then v4 else if j = 3 then v3 else if j = 8 then v2 else if j = 7 then v1 else if j = 6 then v0 else h.1 A j := by
  funext j
  simp only [z_st1, true_and]
theorem X168 {h : ai_H} {t : Nat} (d : Nat) (x kn c : Int32) (hr : zR h) (ht : t < zn (zsl (zMv h) 0) 1) : ∃ h1, ai_X (d + 3) 168 [.inr (.inr (31, 0, 128)), .inl (nI t), .inl x, .inl kn, .inl c] h = some ([], h1) ∧ zF zXS h h1 ∧ (∀ j, j < 6 → zfG h1 16392 j = zfac (zsl (zMv h) 0) t x kn c j) ∧ ∀ q, q ≠ 16392 → h1.1 q = h.1 q := by
  obtain ⟨b0, b1, b2, b8, b5, b4, b3, V⟩ := zR_b hr
  have hC : zC h 2097281 (zsl (zMv h) 0) := hr.1.1.1
  obtain ⟨g1, g2, g3, g4, g5⟩ := hC.2.2.2.2.2.2.2.1 t ht
  have e11 : h.1 268451977 t = zsl (zMv h) 0 11 t := g1
  have e13 : h.1 268451979 t = zsl (zMv h) 0 13 t := g3
  have e5 : h.1 2097281 5 = nI (zB (fun t => ¬ zsl (zMv h) 0 17 t = 0) (zn (zsl (zMv h) 0) 1)) := hC.2.2.2.2.2.1
  have z5 : zB (fun t => ¬ zsl (zMv h) 0 17 t = 0) (zn (zsl (zMv h) 0) 1) < 2147483648 := zB_31 (by omega)
  have it : ∀ f : Nat → Option ai_R, ai_ix (nI t) 24 f = f t := fun f => z_ix (by omega) (by decide)
  have j0 : ∀ f : Nat → Option ai_R, ai_ix 6 11 f = f 6 := fun f => z_ix (i := 6) (by decide) (by decide)
  have j1 : ∀ f : Nat → Option ai_R, ai_ix 7 11 f = f 7 := fun f => z_ix (i := 7) (by decide) (by decide)
  have j2 : ∀ f : Nat → Option ai_R, ai_ix 8 11 f = f 8 := fun f => z_ix (i := 8) (by decide) (by decide)
  have j3 : ∀ f : Nat → Option ai_R, ai_ix 3 11 f = f 3 := fun f => z_ix (i := 3) (by decide) (by decide)
  have j4 : ∀ f : Nat → Option ai_R, ai_ix 9 11 f = f 9 := fun f => z_ix (i := 9) (by decide) (by decide)
  have j5 : ∀ f : Nat → Option ai_R, ai_ix 10 11 f = f 10 := fun f => z_ix (i := 10) (by decide) (by decide)
  have sm : ∀ {g : ai_H} {i : Nat} {v : Int32}, zF zXS h g → zF zXS h (ai_st g 16392 i v) := fun f => zF_st f (Or.inr (Or.inr (Or.inl rfl)))
  -- the six are set
  have S : ∀ (s0 x6 : Int32) (z3 z5 : Option ai_V), s0 = (zval (zsl (zMv h) 0) 1 0 x kn).getD 100 → x6 = zb (ztr (zsl (zMv h) 0) t x kn) → ∃ h1, ai_E (d + 2) 168 94 [some (.inr (.inr (31, 0, 128))), some (.inl (nI t)), some (.inl x), z3, some (.inl c), z5, some (.inl x6)] [.inl s0, .inl 6, .inr (.inr (1, 11, 16392))] h = some ([], h1) ∧ zF zXS h h1 ∧ (∀ j, j < 6 → zfG h1 16392 j = zfac (zsl (zMv h) 0) t x kn c j) ∧ ∀ q, q ≠ 16392 → h1.1 q = h.1 q := by
    intro s0 x6 z3 z5 es ex
    have R : ∀ v3, v3 = zb (ztr (zsl (zMv h) 0) t x kn) → ∀ j, j < 6 → zfG (ai_st (ai_st (ai_st (ai_st (ai_st (ai_st h 16392 6 s0) 16392 7 ((x + zsl (zMv h) 0 13 t) / 360)) 16392 8 (zsl (zMv h) 0 11 t)) 16392 3 v3) 16392 9 x) 16392 10 c) 16392 j = zfac (zsl (zMv h) 0) t x kn c j := by
      intro v3 e j hj
      unfold zfG
      rw [z_fsx, e, es, Int32.add_comm x]
      rcases (show j = 0 ∨ j = 1 ∨ j = 2 ∨ j = 3 ∨ j = 4 ∨ j = 5 by omega) with rfl | rfl | rfl | rfl | rfl | rfl <;> rfl
    rw [T168_94]
    simp only [j0, j1, j2, j3, j4, j5, it, z_st1, z_bi, z_bv, z_br, Nat.reduceEqDiff, false_and, and_false, true_and, and_true, and_self, if_false, if_true, ite_true, ite_false, reduceIte, not_true_eq_false, not_false_eq_true, e13, e11]
    rw [if_neg (show ¬ (360 : Int32) = 0 by decide)]
    by_cases k : ztr (zsl (zMv h) 0) t x kn
    · rw [if_neg (by rw [ex, zb_t k]; decide)]
      exact ⟨_, rfl, sm (sm (sm (sm (sm (sm zF_rf))))), R 1 (zb_t k).symm, fun q hq => by rw [z_ne hq, z_ne hq, z_ne hq, z_ne hq, z_ne hq, z_ne hq]⟩
    · rw [if_pos (by rw [ex, zb_f k])]
      exact ⟨_, rfl, sm (sm (sm (sm (sm (sm zF_rf))))), R 0 (zb_f k).symm, fun q hq => by rw [z_ne hq, z_ne hq, z_ne hq, z_ne hq, z_ne hq, z_ne hq]⟩
  obtain ⟨l1, lk, l3, l4⟩ := zR_led hr (k := 1) (by decide)
  have k2 : (h.2.2.2.1 34361868547).2 = zmost 1 := lk.2.2.1
  obtain ⟨m1, mk, m3, m4⟩ := zR_led hr (k := 11) (by decide)
  have hx40 := X40 d (nI t) x kn m1 mk m3 (by omega)
  have sv := zsob_val (σ := zsl (zMv h) 0) (k := nI 11) (w := nI t) (d := x) (kn := kn) (by decide)
  have tb : (zB (fun t => ¬ zsl (zMv h) 0 17 t = 0) (zn (zsl (zMv h) 0) 1)).testBit t = true ↔ ¬ zsl (zMv h) 0 17 t = 0 := by
    rw [zB_tb, decide_eq_true_eq]
    exact ⟨fun q => q.2, fun q => ⟨ht, q⟩⟩
  have so : zsob (nI t) x kn (zled (zsl (zMv h) 0) (nI 11) (zn (zsl (zMv h) 0) 4)) = true ↔ ¬ (zval (zsl (zMv h) 0) 11 (nI t) x kn).getD 0 = 0 := by
    rw [sv]
    show (∃ v, zval (zsl (zMv h) 0) 11 (nI t) x kn = some v ∧ ¬ v = 0) ↔ _
    cases zval (zsl (zMv h) 0) 11 (nI t) x kn with
    | none => simp
    | some v => simp
  -- the level
  have L : ∃ v2, ai_X (d + 2) 39 [.inr (.inr (25, 0, 268452098)), .inl 0, .inl x, .inl kn] h = some ([.inl v2], h) ∧ ((v2 = -1 ∧ (zval (zsl (zMv h) 0) 1 0 x kn).getD 100 = 100) ∨ (¬ v2 = -1 ∧ ∀ f : Nat → Option ai_R, ai_ix v2 (h.2.2.2.1 34361868547).2 (fun j => f j) = f v2.toInt.toNat ∧ h.1 34361868547 v2.toInt.toNat = (zval (zsl (zMv h) 0) 1 0 x kn).getD 100)) := by
    rcases X39z (d + 1) 0 x kn hr (k := 1) (by decide) (by decide) with ⟨a1, a2⟩ | ⟨i, v, a1, a2, a3, a4, a5⟩
    · refine ⟨-1, a2, Or.inl ⟨rfl, ?_⟩⟩
      rw [show zval (zsl (zMv h) 0) 1 0 x kn = none from a1]
      rfl
    · have hi : i < 1000 := Nat.lt_trans a1 (by decide)
      refine ⟨nI i, a3, Or.inr ⟨a5, fun f => ⟨?_, ?_⟩⟩⟩
      · rw [k2, z_T (by omega)]
        exact z_ix a1 (by decide)
      · rw [z_T (by omega), show zval (zsl (zMv h) 0) 1 0 x kn = some v from a2]
        exact a4
  obtain ⟨v2, y1, y2⟩ := L
  rw [T168, y1]
  simp only [z_bi]
  rw [e5, X159 _ _ _ _ z5 (by omega)]
  simp only [z_bi, zb_0]
  have fin : ∀ (x6 : Int32), x6 = zb (ztr (zsl (zMv h) 0) t x kn) → ∃ h1, (if v2 = (-1) then ai_E (d + 2) 168 94 [some (.inr (.inr (31, 0, 128))), some (.inl (nI t)), some (.inl x), some (.inl kn), some (.inl c), some (.inl v2), some (.inl x6)] [.inl 100, .inl 6, .inr (.inr (1, 11, 16392))] h else ai_ix v2 (h.2.2.2.1 34361868547).2 (fun j5 => ai_E (d + 2) 168 94 [some (.inr (.inr (31, 0, 128))), some (.inl (nI t)), some (.inl x), some (.inl kn), some (.inl c), some (.inl v2), some (.inl x6)] [.inl (h.1 34361868547 j5), .inl 6, .inr (.inr (1, 11, 16392))] h)) = some ([], h1) ∧ zF zXS h h1 ∧ (∀ j, j < 6 → zfG h1 16392 j = zfac (zsl (zMv h) 0) t x kn c j) ∧ ∀ q, q ≠ 16392 → h1.1 q = h.1 q := by
    intro x6 e6
    rcases y2 with ⟨q1, q2⟩ | ⟨q1, q2⟩
    · rw [if_pos q1]
      exact S 100 x6 _ _ q2.symm e6
    · rw [if_neg q1, (q2 _).1]
      exact S _ x6 _ _ (q2 (fun _ => none)).2 e6
  by_cases c1 : zsl (zMv h) 0 17 t = 0
  · rw [if_pos (fun q => (tb.mp q) c1)]
    exact fin 0 (zb_f (fun q => q.1 c1)).symm
  · rw [if_neg (fun q => q (tb.mpr c1)), show ai_X (d + 2) 40 [.inr (.inr (25, 0, 268452108)), .inl (nI t), .inl x, .inl kn] h = _ from hx40]
    simp only [z_bi, zb_0]
    by_cases c2 : (zval (zsl (zMv h) 0) 11 (nI t) x kn).getD 0 = 0
    · rw [if_pos (fun q => (so.mp q) c2)]
      exact fin 1 (zb_t ⟨c1, c2⟩).symm
    · rw [if_neg (fun q => q (so.mpr c2))]
      exact fin 0 (zb_f (fun q => c2 q.2)).symm
