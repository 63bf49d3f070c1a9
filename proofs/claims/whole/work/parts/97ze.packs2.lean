/-! PACKS, WHOLE -/
theorem zcnt_1 {p : Nat → Prop} [DecidablePred p] {a : Nat} : zcnt p (a + 1) = zcnt p a + (if p a then 1 else 0) := rfl
theorem zcnt_m {p : Nat → Prop} [DecidablePred p] : ∀ {a b : Nat}, a ≤ b → zcnt p a ≤ zcnt p b := by
  intro a b
  induction b with
  | zero => intro h; rw [show a = 0 by omega]; exact Nat.le_refl _
  | succ b ih =>
    intro h
    by_cases c : a = b + 1
    · rw [c]; exact Nat.le_refl _
    · have := ih (by omega)
      rw [zcnt_1]
      omega
theorem zcnt_s {p : Nat → Prop} [DecidablePred p] {a b : Nat} (h : a < b) (ha : p a) : zcnt p a < zcnt p b := by
  have := zcnt_m (p := p) (show a + 1 ≤ b from h)
  rw [zcnt_1, if_pos ha] at this
  omega
/-- all kept from a to b -/
theorem zcnt_k {p : Nat → Prop} [DecidablePred p] {a : Nat} : ∀ k, (∀ j, j < k → p (a + j)) → zcnt p (a + k) = zcnt p a + k := by
  intro k
  induction k with
  | zero => intro _; rfl
  | succ k ih =>
    intro h
    rw [show a + (k + 1) = (a + k) + 1 by omega, zcnt_1, if_pos (h k (Nat.lt_succ_self k)), ih fun j hj => h j (by omega)]
    omega
section
variable {st cf ct : Nat → Nat} {h : ai_H} {W : Nat}
theorem M238a (e : Nat) (hs : ∀ p, p < 6 → st p ≤ 24 ∧ h.1 2064421 p = nI (st p)) (hr : ∀ i, i < 144 → i % 24 < st (i / 24) → (h.1 2064425 i = nI (cf i) ∧ h.1 2064426 i = nI (ct i)) ∧ cf i ≤ ct i ∧ ct i ≤ 20000) (hW : h.1 16128 42 = nI W) (W2 : W ≤ 20000) : ∀ k a (g : ai_H) z3 z4, a + k = W → g.2 = h.2 → (∀ q, ¬ (2064428 ≤ q ∧ q ≤ 2064431) → ¬ q = 2064445 → g.1 q = h.1 q) → (∀ j, j < a → g.1 2064445 j = nI (zkt st cf ct j)) → (∀ q, 2064428 ≤ q → q ≤ 2064431 → (∀ j, j < a → zkb st cf ct j = true → g.1 q (zkt st cf ct j) = h.1 q j) ∧ ∀ j, a ≤ j → g.1 q j = h.1 q j) →
    ∃ (g' : ai_H) (z : Option ai_V × Option ai_V), ai_E e 238 4 [some (.inr (.inr (32, 0, 16128))), some (.inl (nI (zkt st cf ct a))), some (.inl (nI a)), z3, z4] [] g = ai_E e 238 164 [some (.inr (.inr (32, 0, 16128))), some (.inl (nI (zkt st cf ct W))), some (.inl (nI 0)), z.1, z.2] [] g' ∧ g'.2 = h.2 ∧ (∀ q, ¬ (2064428 ≤ q ∧ q ≤ 2064431) → ¬ q = 2064445 → g'.1 q = h.1 q) ∧ (∀ j, j ≤ W → g'.1 2064445 j = nI (zkt st cf ct j)) ∧ ∀ q, 2064428 ≤ q → q ≤ 2064431 → ∀ j, j < W → zkb st cf ct j = true → g'.1 q (zkt st cf ct j) = h.1 q j := by
  intro k
  induction k with
  | zero =>
    intro a g z3 z4 ha g2 go gm ga
    have : a = W := by omega
    subst this
    have g42 : g.1 16128 42 = nI a := by rw [go _ (by decide) (by decide)]; exact hW
    refine ⟨ai_st g 2064445 a (nI (zkt st cf ct a)), (z3, z4), ?_, g2, fun q h1 h2 => by rw [z_ne h2]; exact go q h1 h2, fun j hj => ?_, fun q h1 h2 j hj hk => by rw [z_ne (by omega)]; exact (ga q h1 h2).1 j hj hk⟩
    · rw [T238_4, g42, if_pos (by rw [nI_leI (by omega) (by omega)]; exact Nat.le_refl _), z_ix (by omega) (by decide)]
      rfl
    · rw [z_st1]
      by_cases c : j = a
      · rw [if_pos ⟨rfl, c⟩, c]
      · rw [if_neg (fun w => c w.2)]; exact gm j (by omega)
  | succ k ih =>
    intro a g z3 z4 ha g2 go gm ga
    have g42 : g.1 16128 42 = nI W := by rw [go _ (by decide) (by decide)]; exact hW
    obtain ⟨z, ez⟩ := M238k (st := st) (cf := cf) (ct := ct) (h := g) (a := a) e none (fun p hp => by rw [go _ (by decide) (by decide)]; exact hs p hp) (fun i hi hl => by rw [go 2064425 (by decide) (by decide), go 2064426 (by decide) (by decide)]; exact hr i hi hl) (by omega) (zkt st cf ct a) 144 0 (by decide) (fun i' hi' => absurd hi' (Nat.not_lt_zero _))
    have tl : zkt st cf ct a ≤ a := zcnt_le a
    obtain ⟨w, ew⟩ : ∃ w, ai_st g 2064445 a (nI (zkt st cf ct a)) = w := ⟨_, rfl⟩
    have wo : ∀ q, ¬ q = 2064445 → w.1 q = g.1 q := fun q hq => by rw [← ew, z_ne hq]
    have wm : ∀ j, j < a + 1 → w.1 2064445 j = nI (zkt st cf ct j) := fun j hj => by
      rw [← ew, z_st1]
      by_cases c : j = a
      · rw [if_pos ⟨rfl, c⟩, c]
      · rw [if_neg (fun v => c v.2)]; exact gm j (by omega)
    have T : ai_E e 238 4 [some (.inr (.inr (32, 0, 16128))), some (.inl (nI (zkt st cf ct a))), some (.inl (nI a)), z3, z4] [] g = ai_E e 238 81 [some (.inr (.inr (32, 0, 16128))), some (.inl (nI (zkt st cf ct a))), some (.inl (nI a)), some (.inl (zb (zkb st cf ct a = true))), z] [] g := by
      rw [← ez, T238_4, g42, if_neg (by rw [nI_leI (by omega) (by omega)]; omega)]
      rfl
    rw [T, T238_81, z_ix (by omega) (by decide), zb_if, ew]
    by_cases c : zkb st cf ct a = true
    · have tn : zkt st cf ct (a + 1) = zkt st cf ct a + 1 := by
        show zcnt _ (a + 1) = _
        rw [zcnt_1, if_pos c]
      have i1 : ∀ f : Nat → Option ai_R, ai_ix (nI a) 20000 f = f a := fun f => z_ix (by omega) (by decide)
      have i2 : ∀ f : Nat → Option ai_R, ai_ix (nI (zkt st cf ct a)) 20000 f = f (zkt st cf ct a) := fun f => z_ix (by omega) (by decide)
      rw [if_pos c]
      simp only [i1, i2, nI_1]
      have n1 : ∀ {a b j : Nat} {v : Int32} {w : ai_H}, ¬ a = b → (ai_st w b j v).1 a = w.1 a := fun h => z_ne h
      rw [n1 (show ¬ (2064429 : Nat) = 2064428 by decide), n1 (show ¬ (2064430 : Nat) = 2064429 by decide), n1 (show ¬ (2064430 : Nat) = 2064428 by decide), n1 (show ¬ (2064431 : Nat) = 2064430 by decide), n1 (show ¬ (2064431 : Nat) = 2064429 by decide), n1 (show ¬ (2064431 : Nat) = 2064428 by decide)]
      obtain ⟨v, ev⟩ : ∃ v, ai_st (ai_st (ai_st (ai_st w 2064428 (zkt st cf ct a) (w.1 2064428 a)) 2064429 (zkt st cf ct a) (w.1 2064429 a)) 2064430 (zkt st cf ct a) (w.1 2064430 a)) 2064431 (zkt st cf ct a) (w.1 2064431 a) = v := ⟨_, rfl⟩
      rw [ev, ← tn]
      have vg : ∀ q j, 2064428 ≤ q → q ≤ 2064431 → v.1 q j = if j = zkt st cf ct a then g.1 q a else g.1 q j := fun q j h1 h2 => by
        rw [← ev, z_st1, z_st1, z_st1, z_st1]
        have : q = 2064428 ∨ q = 2064429 ∨ q = 2064430 ∨ q = 2064431 := by omega
        by_cases cj : j = zkt st cf ct a
        · rw [if_pos cj, ← wo q (by omega)]
          rcases this with u | u | u | u <;> subst u <;> simp [cj]
        · rw [if_neg cj, if_neg (fun w => cj w.2), if_neg (fun w => cj w.2), if_neg (fun w => cj w.2), if_neg (fun w => cj w.2), wo q (by omega)]
      refine ih (a + 1) v _ _ (by omega) (by rw [← ev, ← ew]; exact g2) (fun q h1 h2 => ?_) (fun j hj => ?_) (fun q h1 h2 => ⟨fun j hj hk => ?_, fun j hj => ?_⟩)
      · rw [← ev, z_ne (by omega), z_ne (by omega), z_ne (by omega), z_ne (by omega), wo q h2]; exact go q h1 h2
      · rw [← ev, z_ne (by decide), z_ne (by decide), z_ne (by decide), z_ne (by decide)]; exact wm j hj
      · rw [vg q _ h1 h2]
        by_cases cj : j = a
        · rw [cj, if_pos rfl]; exact (ga q h1 h2).2 a (Nat.le_refl _)
        · have := zcnt_s (p := fun a => zkb st cf ct a = true) (show j < a by omega) hk
          rw [if_neg (by show ¬ zcnt _ j = zcnt _ a; omega)]
          exact (ga q h1 h2).1 j (by omega) hk
      · rw [vg q _ h1 h2, if_neg (by omega)]
        exact (ga q h1 h2).2 j (by omega)
    · have tn : zkt st cf ct (a + 1) = zkt st cf ct a := by
        show zcnt _ (a + 1) = _
        rw [zcnt_1, if_neg c]
        rfl
      rw [if_neg c, nI_1, ← tn]
      refine ih (a + 1) w _ _ (by omega) (by rw [← ew]; exact g2) (fun q h1 h2 => by rw [wo q h2]; exact go q h1 h2) wm (fun q h1 h2 => ⟨fun j hj hk => ?_, fun j hj => ?_⟩)
      · rw [wo q (by omega)]
        exact (ga q h1 h2).1 j (by
          have : ¬ j = a := fun w => c (by rw [← w]; exact hk)
          omega) hk
      · rw [wo q (by omega)]
        exact (ga q h1 h2).2 j (by omega)
end
