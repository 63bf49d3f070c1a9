/-! PACKS: the rows -/
section
variable {st cf ct : Nat → Nat} {h : ai_H} {W : Nat}
theorem M238b {F : Nat → Nat} {x : Nat} (e : Nat) (z3 z4 : Option ai_V) (hs : ∀ p, p < 6 → st p ≤ 24 ∧ h.1 2064421 p = nI (st p)) (hr : ∀ i, i < 144 → i % 24 < st (i / 24) → (h.1 2064425 i = nI (cf i) ∧ h.1 2064426 i = nI (ct i)) ∧ cf i ≤ ct i ∧ ct i ≤ W) (hm : ∀ j, j ≤ W → h.1 2064445 j = nI (F j)) (W2 : W ≤ 20000) : ∀ k i (g : ai_H), i + k = 144 → g.2 = h.2 → (∀ q, ¬ q = 2064425 → ¬ q = 2064426 → g.1 q = h.1 q) → (∀ j, j < i → j % 24 < st (j / 24) → g.1 2064425 j = nI (F (cf j)) ∧ g.1 2064426 j = nI (F (ct j))) → (∀ j, i ≤ j → g.1 2064425 j = h.1 2064425 j ∧ g.1 2064426 j = h.1 2064426 j) →
    ∃ g', ai_E e 238 164 [some (.inr (.inr (32, 0, 16128))), some (.inl (nI x)), some (.inl (nI i)), z3, z4] [] g = some ([], g') ∧ g'.2 = h.2 ∧ (∀ q, ¬ q = 2064425 → ¬ q = 2064426 → ¬ q = 16128 → g'.1 q = h.1 q) ∧ (∀ j, ¬ j = 42 → g'.1 16128 j = h.1 16128 j) ∧ g'.1 16128 42 = nI x ∧ ∀ j, j < 144 → j % 24 < st (j / 24) → g'.1 2064425 j = nI (F (cf j)) ∧ g'.1 2064426 j = nI (F (ct j)) := by
  intro k
  induction k with
  | zero =>
    intro i g hi g2 go gd gn
    have : i = 144 := by omega
    subst this
    refine ⟨ai_st g 16128 42 (nI x), ?_, g2, fun q h1 h2 h3 => by rw [z_ne h3]; exact go q h1 h2, fun j hj => by rw [z_nj hj, go _ (by decide) (by decide)], z_stS, fun j hj hl => ?_⟩
    · rw [T238_164, if_pos (by decide)]
    · rw [z_ne (by decide), z_ne (by decide)]; exact gd j hj hl
  | succ k ih =>
    intro i g hi g2 go gd gn
    obtain ⟨d1, d2⟩ := zd24 i (by omega)
    obtain ⟨s1, s2⟩ := hs (i / 24) (by omega)
    have i1 : ∀ f : Nat → Option ai_R, ai_ix (nI i) 168 f = f i := fun f => z_ix (by omega) (by decide)
    rw [T238_164, if_neg (by rw [show (144 : Int32) = nI 144 from rfl, nI_leI (by omega) (by omega)]; omega), if_neg (by decide), if_neg (by decide), d1, d2, z_ix (by omega) (by decide), go 2064421 (by decide) (by decide), s2]
    by_cases c : i % 24 < st (i / 24)
    · obtain ⟨⟨r1, r2⟩, r3, r4⟩ := hr i (by omega) c
      have i2 : ∀ (v : Nat) (f : Nat → Option ai_R), v ≤ 20000 → ai_ix (nI v) 20001 f = f v := fun v f hv => z_ix (by omega) (by decide)
      have gr1 : g.1 2064425 i = nI (cf i) := (gn i (Nat.le_refl i)).1.trans r1
      have gm : ∀ j, j ≤ W → g.1 2064445 j = nI (F j) := fun j hj => by rw [go _ (by decide) (by decide)]; exact hm j hj
      obtain ⟨w, ew⟩ : ∃ w, ai_st g 2064425 i (nI (F (cf i))) = w := ⟨_, rfl⟩
      have w74 : w.1 2064426 i = nI (ct i) := by rw [← ew, z_ne (by decide)]; exact (gn i (Nat.le_refl i)).2.trans r2
      have wm : w.1 2064445 (ct i) = nI (F (ct i)) := by rw [← ew, z_ne (by decide)]; exact gm _ r4
      rw [if_pos (by rw [nI_ltI (by omega) (by omega)]; exact c), i1, gr1, i2 _ _ (by omega), i1, i1, gm _ (by omega), ew, w74, i2 _ _ (by omega), i1, wm, nI_1]
      refine ih (i + 1) _ (by omega) (by rw [← ew]; exact g2) (fun q h1 h2 => by rw [z_ne h2, ← ew, z_ne h1]; exact go q h1 h2) (fun j hj hl => ?_) (fun j hj => ?_)
      · by_cases cj : j = i
        · subst cj
          refine ⟨?_, z_stS⟩
          rw [z_ne (by decide), ← ew, z_stS]
        · rw [z_ne (by decide), z_nj cj, ← ew, z_nj cj, z_ne (by decide)]
          exact gd j (by omega) hl
      · rw [z_ne (by decide), z_nj (by omega), ← ew, z_nj (by omega), z_ne (by decide)]
        exact gn j (by omega)
    · rw [if_neg (by rw [nI_ltI (by omega) (by omega)]; exact c), nI_1]
      refine ih (i + 1) g (by omega) g2 go (fun j hj hl => ?_) (fun j hj => gn j (by omega))
      by_cases cj : j = i
      · subst cj; exact absurd hl c
      · exact gd j (by omega) hl
theorem M238 (e : Nat) (hs : ∀ p, p < 6 → st p ≤ 24 ∧ h.1 2064421 p = nI (st p)) (hr : ∀ i, i < 144 → i % 24 < st (i / 24) → (h.1 2064425 i = nI (cf i) ∧ h.1 2064426 i = nI (ct i)) ∧ cf i ≤ ct i ∧ ct i ≤ W) (hW : h.1 16128 42 = nI W) (W2 : W ≤ 20000) : ∃ h', ai_X (e + 1) 238 [.inr (.inr (32, 0, 16128))] h = some ([], h') ∧ h'.2 = h.2 ∧ (∀ q, ¬ (2064428 ≤ q ∧ q ≤ 2064431) → ¬ q = 2064445 → ¬ q = 2064425 → ¬ q = 2064426 → ¬ q = 16128 → h'.1 q = h.1 q) ∧ (∀ j, ¬ j = 42 → h'.1 16128 j = h.1 16128 j) ∧ h'.1 16128 42 = nI (zkt st cf ct W) ∧ (∀ j, j < 144 → j % 24 < st (j / 24) → h'.1 2064425 j = nI (zkt st cf ct (cf j)) ∧ h'.1 2064426 j = nI (zkt st cf ct (ct j))) ∧ ∀ q, 2064428 ≤ q → q ≤ 2064431 → ∀ j, j < W → zkb st cf ct j = true → h'.1 q (zkt st cf ct j) = h.1 q j := by
  obtain ⟨g, z, a1, a2, a3, a4, a5⟩ := M238a (st := st) (cf := cf) (ct := ct) (h := h) (W := W) e hs (fun i hi hl => ⟨(hr i hi hl).1, (hr i hi hl).2.1, Nat.le_trans (hr i hi hl).2.2 W2⟩) hW W2 W 0 h none none (Nat.zero_add W) rfl (fun _ _ _ => rfl) (fun j hj => absurd hj (Nat.not_lt_zero _)) (fun q _ _ => ⟨fun j hj => absurd hj (Nat.not_lt_zero _), fun _ _ => rfl⟩)
  obtain ⟨g', b1, b2, b3, b4, b5, b6⟩ := M238b (st := st) (cf := cf) (ct := ct) (h := g) (W := W) (F := zkt st cf ct) (x := zkt st cf ct W) e z.1 z.2 (fun p hp => by rw [a3 _ (by decide) (by decide)]; exact hs p hp) (fun i hi hl => by rw [a3 2064425 (by decide) (by decide), a3 2064426 (by decide) (by decide)]; exact hr i hi hl) a4 W2 144 0 g (by decide) rfl (fun _ _ _ => rfl) (fun j hj => absurd hj (Nat.not_lt_zero _)) (fun _ _ => ⟨rfl, rfl⟩)
  refine ⟨g', ?_, by rw [b2, a2], fun q h1 h2 h3 h4 h5 => by rw [b3 q h3 h4 h5]; exact a3 q h1 h2, fun j hj => by rw [b4 j hj, a3 _ (by decide) (by decide)], b5, b6, fun q h1 h2 j hj hk => by rw [b3 q (by omega) (by omega) (by omega)]; exact a5 q h1 h2 j hj hk⟩
  rw [T238]
  exact a1.trans b1
end
