/-! THE LAW: a tap's six facts -/
abbrev ztr (σ : Nat → Nat → Int32) (t : Nat) (x kn : Int32) : Prop := ¬ σ 17 t = 0 ∧ (zval σ 11 (nI t) x kn).getD 0 = 0
def zfac (σ : Nat → Nat → Int32) (t : Nat) (x kn c : Int32) (j : Nat) : Int32 := match j with
  | 0 => (zval σ 1 0 x kn).getD 100
  | 1 => (σ 13 t + x) / 360
  | 2 => σ 11 t
  | 3 => zb (ztr σ t x kn)
  | 4 => x
  | _ => c
theorem M223 {h : ai_H} {t : Nat} (d : Nat) (x kn : Int32) (hr : zR h) (ht : t < 24) : ai_X (d + 2) 223 [.inr (.inr (32, 0, 16128)), .inl (nI t), .inl x, .inl kn] h = some ([.inl (zb (ztr (zsl (zMv h) 0) t x kn))], h) := by
  have e17 : h.1 2064402 t = zsl (zMv h) 0 17 t := (zs0 (f := 17) (by omega)).symm
  rw [T223, z_ix (by omega) (by decide), e17, M221v (n := 0) _ _ _ _ _ _ hr]
  simp only [z_bi, z_b0, z_b1]
  by_cases c : zsl (zMv h) 0 17 t = 0
  · rw [if_pos c, zb_f (fun q => q.1 c)]
  · rw [if_neg c]
    by_cases c2 : (zval (zsl (zMv h) 0) 11 (nI t) x kn).getD 0 = 0
    · rw [if_pos c2, zb_t ⟨c, c2⟩]
    · rw [if_neg c2, zb_f (fun q => c2 q.2)]
theorem z_fset {h : ai_H} {A : Nat} {v0 v1 v2 v3 v4 v5 : Int32} : (ai_st (ai_st (ai_st (ai_st (ai_st (ai_st h A 0 v0) A 1 v1) A 2 v2) A 3 v3) A 4 v4) A 5 v5).1 A = fun j => if j = 5 then v5 else if j = 4 then v4 else if j = 3 then v3 else if j = 2 then v2 else if j = 1 then v1 else if j = 0 then v0 else h.1 A j := by
  funext j
  simp only [z_st1, true_and]
theorem z_ne {h : ai_H} {a j q : Nat} {v : Int32} (n : q ≠ a) : (ai_st h a j v).1 q = h.1 q := by
  funext k
  rw [z_st1, if_neg (fun x => n x.1)]
theorem M243 {h : ai_H} {t : Nat} (d : Nat) (x kn c : Int32) (hr : zR h) (ht : t < zn (zsl (zMv h) 0) 1) : ∃ h1, ai_X (d + 3) 243 [.inr (.inr (32, 0, 16128)), .inl (nI t), .inl x, .inl kn, .inl c] h = some ([], h1) ∧ zF zMS h h1 ∧ (∀ j, j < 6 → h1.1 2064446 j = zfac (zsl (zMv h) 0) t x kn c j) ∧ ∀ q, q ≠ 2064446 → h1.1 q = h.1 q := by
  obtain ⟨b0, b1, b2, b8, b5, b4, b3, V⟩ := zR_b hr
  have e13 : h.1 2064398 t = zsl (zMv h) 0 13 t := (zs0 (f := 13) (by omega)).symm
  have e11 : h.1 2064396 t = zsl (zMv h) 0 11 t := (zs0 (f := 11) (by omega)).symm
  have it : ∀ f : Nat → Option ai_R, ai_ix (nI t) 96 f = f t := fun f => z_ix (by omega) (by decide)
  have j0 : ∀ f : Nat → Option ai_R, ai_ix 0 6 f = f 0 := fun f => z_ix (i := 0) (by decide) (by decide)
  have j1 : ∀ f : Nat → Option ai_R, ai_ix 1 6 f = f 1 := fun f => z_ix (i := 1) (by decide) (by decide)
  have j2 : ∀ f : Nat → Option ai_R, ai_ix 2 6 f = f 2 := fun f => z_ix (i := 2) (by decide) (by decide)
  have j3 : ∀ f : Nat → Option ai_R, ai_ix 3 6 f = f 3 := fun f => z_ix (i := 3) (by decide) (by decide)
  have j4 : ∀ f : Nat → Option ai_R, ai_ix 4 6 f = f 4 := fun f => z_ix (i := 4) (by decide) (by decide)
  have j5 : ∀ f : Nat → Option ai_R, ai_ix 5 6 f = f 5 := fun f => z_ix (i := 5) (by decide) (by decide)
  have sm : ∀ {g : ai_H} {i : Nat} {v : Int32}, zF zMS h g → zF zMS h (ai_st g 2064446 i v) := fun f => zF_st f (Or.inr ⟨by omega, by omega, by omega⟩)
  rw [T243, M221v (n := 0) _ _ _ _ _ _ hr]
  simp only [z_bi, j0, j1, j2, it, z_st1, z_bi, z_bv, z_br, Nat.reduceEqDiff, false_and, and_false, true_and, and_true, and_self, if_false, if_true, ite_true, ite_false, reduceIte, not_true_eq_false, not_false_eq_true, e13, e11]
  rw [if_neg (show ¬ (360 : Int32) = 0 by decide)]
  generalize hg : ai_st (ai_st (ai_st h 2064446 0 ((zval (zsl (zMv h) 0) 1 0 x kn).getD 100)) 2064446 1 ((zsl (zMv h) 0 13 t + x) / 360)) 2064446 2 (zsl (zMv h) 0 11 t) = g
  have fg : zF zMS h g := by rw [← hg]; exact sm (sm (sm zF_rf))
  have eV := zMv_m fg
  rw [M223 _ _ _ (zR_m hr fg) (by omega), eV]
  simp only [z_bi, j3, j4, j5, zb_0]
  have V0 : ∀ v3, (ai_st (ai_st (ai_st g 2064446 3 v3) 2064446 4 x) 2064446 5 c).1 2064446 = fun j => if j = 5 then c else if j = 4 then x else if j = 3 then v3 else if j = 2 then zsl (zMv h) 0 11 t else if j = 1 then (zsl (zMv h) 0 13 t + x) / 360 else if j = 0 then (zval (zsl (zMv h) 0) 1 0 x kn).getD 100 else h.1 2064446 j := fun v3 => by rw [← hg, z_fset]
  have R : ∀ v3, v3 = zb (ztr (zsl (zMv h) 0) t x kn) → ∀ j, j < 6 → (ai_st (ai_st (ai_st g 2064446 3 v3) 2064446 4 x) 2064446 5 c).1 2064446 j = zfac (zsl (zMv h) 0) t x kn c j := by
    intro v3 e j hj
    rw [V0 v3, e]
    rcases (show j = 0 ∨ j = 1 ∨ j = 2 ∨ j = 3 ∨ j = 4 ∨ j = 5 by omega) with rfl | rfl | rfl | rfl | rfl | rfl <;> rfl
  by_cases k : ztr (zsl (zMv h) 0) t x kn
  · rw [if_neg (fun q => q k)]
    exact ⟨_, rfl, sm (sm (sm fg)), R 1 (zb_t k).symm, fun q hq => by rw [z_ne hq, z_ne hq, z_ne hq, ← hg, z_ne hq, z_ne hq, z_ne hq]⟩
  · rw [if_pos k]
    exact ⟨_, rfl, sm (sm (sm fg)), R 0 (zb_f k).symm, fun q hq => by rw [z_ne hq, z_ne hq, z_ne hq, ← hg, z_ne hq, z_ne hq, z_ne hq]⟩
