/-! PACKS -/
def zkb (st cf ct : Nat → Nat) (a : Nat) : Bool := (List.range 144).any (fun i => decide (i % 24 < st (i / 24) ∧ cf i ≤ a ∧ a < ct i))
theorem zkb_is {st cf ct : Nat → Nat} {a : Nat} : zkb st cf ct a = true ↔ ∃ i, i < 144 ∧ i % 24 < st (i / 24) ∧ cf i ≤ a ∧ a < ct i := by
  unfold zkb
  rw [List.any_eq_true]
  constructor
  · rintro ⟨i, h1, h2⟩
    exact ⟨i, List.mem_range.mp h1, of_decide_eq_true h2⟩
  · rintro ⟨i, h1, h2⟩
    exact ⟨i, List.mem_range.mpr h1, decide_eq_true h2⟩
theorem zd24 : ∀ i, i < 144 → nI i / 24 = nI (i / 24) ∧ ai_rem (nI i) 24 = nI (i % 24) := by decide +kernel
abbrev zkt (st cf ct : Nat → Nat) : Nat → Nat := zcnt (fun a => zkb st cf ct a = true)
section
variable {st cf ct : Nat → Nat} {h : ai_H} {W : Nat}
/-- is a step kept -/
theorem M238k {a : Nat} (e : Nat) (x1 : Option ai_V) (hs : ∀ p, p < 6 → st p ≤ 24 ∧ h.1 2064421 p = nI (st p)) (hr : ∀ i, i < 144 → i % 24 < st (i / 24) → (h.1 2064425 i = nI (cf i) ∧ h.1 2064426 i = nI (ct i)) ∧ cf i ≤ ct i ∧ ct i ≤ 20000) (ha : a ≤ 20000) (t : Nat) : ∀ k i, i + k = 144 → (∀ i', i' < i → ¬ (i' % 24 < st (i' / 24) ∧ cf i' ≤ a ∧ a < ct i')) → ∃ z, ai_E e 238 17 [some (.inr (.inr (32, 0, 16128))), some (.inl (nI t)), some (.inl (nI a)), some (.inl 0), some (.inl (nI i))] [] h = ai_E e 238 81 [some (.inr (.inr (32, 0, 16128))), some (.inl (nI t)), some (.inl (nI a)), some (.inl (zb (zkb st cf ct a = true))), z] [] h := by
  intro k
  induction k with
  | zero =>
    intro i hi hn
    refine ⟨some (.inl (nI i)), ?_⟩
    rw [T238_17, if_pos (by rw [show (144 : Int32) = nI 144 from rfl, nI_leI (by omega) (by omega)]; omega), zb_f]
    intro q
    obtain ⟨i', q1, q2⟩ := zkb_is.mp q
    exact hn i' (by omega) q2
  | succ k ih =>
    intro i hi hn
    obtain ⟨d1, d2⟩ := zd24 i (by omega)
    obtain ⟨s1, s2⟩ := hs (i / 24) (by omega)
    have nx : ¬ (i % 24 < st (i / 24) ∧ cf i ≤ a ∧ a < ct i) → ∃ z, ai_E e 238 17 [some (.inr (.inr (32, 0, 16128))), some (.inl (nI t)), some (.inl (nI a)), some (.inl 0), some (.inl (nI i + 1))] [] h = ai_E e 238 81 [some (.inr (.inr (32, 0, 16128))), some (.inl (nI t)), some (.inl (nI a)), some (.inl (zb (zkb st cf ct a = true))), z] [] h := fun c => by
      rw [nI_1]
      refine ih (i + 1) (by omega) (fun i' hi' => ?_)
      by_cases q : i' = i
      · rw [q]; exact c
      · exact hn i' (by omega)
    rw [T238_17, if_neg (by rw [show (144 : Int32) = nI 144 from rfl, nI_leI (by omega) (by omega)]; omega), if_pos rfl, if_neg (by decide), if_neg (by decide), d1, d2, z_ix (by omega) (by decide), s2]
    by_cases c1 : i % 24 < st (i / 24)
    · obtain ⟨⟨r1, r2⟩, r3, r4⟩ := hr i (by omega) c1
      rw [if_neg (by rw [nI_leI (by omega) (by omega)]; omega), z_ix (by omega) (by decide), r1]
      by_cases c2 : a < cf i
      · rw [if_pos (by rw [nI_ltI (by omega) (by omega)]; exact c2)]
        exact nx (fun q => by omega)
      · rw [if_neg (by rw [nI_ltI (by omega) (by omega)]; exact c2), z_ix (by omega) (by decide), r2]
        by_cases c3 : ct i ≤ a
        · rw [if_pos (by rw [nI_leI (by omega) (by omega)]; exact c3)]
          exact nx (fun q => by omega)
        · rw [if_neg (by rw [nI_leI (by omega) (by omega)]; exact c3), zb_t (zkb_is.mpr ⟨i, by omega, c1, by omega, by omega⟩)]
          refine ⟨some (.inl (nI i + 1)), ?_⟩
          rw [T238_17]
          by_cases c4 : (144 : Int32) ≤ nI i + 1
          · rw [if_pos c4]
          · rw [if_neg c4, if_neg (by decide)]
    · rw [if_pos (by rw [nI_leI (by omega) (by omega)]; omega)]
      exact nx (fun q => by omega)
end
