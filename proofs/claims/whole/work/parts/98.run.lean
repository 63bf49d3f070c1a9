theorem whole_run (L : Nat) (xs : Nat → Int32) (hL : L ≤ 3072) : ∃ (d : Nat) (h1 : ai_H), d ≤ 2000 ∧ ai_ex (ai_X d) (ai_mL (L, xs)) (0, [some (.inr (.inr (8, 0, 0))), none, none, none], [], ai_h0) = some ([.inl 1], h1) ∧ h1.2.2.2.2.2.1 ≤ 95304 ∧ h1.2.2.2.2.2.2 ≤ 8816338 := by
  obtain ⟨h1, e1, b1, b2⟩ := zrun (L, xs) hL
  exact ⟨66, h1, by decide, e1, b1, b2⟩
