/-! A STATEMENT, AS THE REFERENCE READS IT -/
def zQn (w0 i q j : Nat) : Prop := zQm w0 q j ∨ (q = 2064421 ∧ j = 6) ∨ (2064423 ≤ q ∧ q ≤ 2064426 ∧ j = 144 + i)
theorem zQm_n {w0 i : Nat} : ∀ q j, zQm w0 q j → zQn w0 i q j := fun _ _ h => Or.inl h
def zFn (w0 i : Nat) (r : Option ai_R) (h : ai_H) (t : Nat) : Prop := ∃ h', r = some ([], h') ∧ h'.1 16128 56 = 1 ∧ h'.1 16128 49 = nI t ∧ zGf (zQn w0 i) h h'
/-- the reference, reading statements -/
def zRs (B : Nat → Nat) (n w0 : Nat) (h : ai_H) (s : Nat) (l : List zSt) : Prop := (zUb h B n ∧ zUk h B n s ∧ h.1 16128 56 = 0) ∧ zWr h w0 l
theorem zRs_v {B : Nat → Nat} {n w0 s q j : Nat} {h : ai_H} {l : List zSt} {v : Int32} (hq : q = 2064421 ∨ (2064423 ≤ q ∧ q ≤ 2064426)) (a : zRs B n w0 h s l) : zRs B n w0 (ai_st h q j v) s l := by
  have k : ∀ c, ¬ c = q → (ai_st h q j v).1 c = h.1 c := fun c hc => z_ne hc
  obtain ⟨⟨a1, a2, a3⟩, b1, b2⟩ := a
  refine ⟨⟨⟨?_, fun i hi => ?_⟩, ?_, ?_⟩, ?_, fun i p hi => ?_⟩
  · rw [k _ (by omega)]; exact a1.1
  · rw [k _ (by omega)]; exact a1.2 i hi
  · unfold zUk; rw [k _ (by omega)]; exact a2
  · rw [k _ (by omega)]; exact a3
  · rw [k _ (by omega)]; exact b1
  · have := b2 i p hi
    unfold zSc at this ⊢
    rw [k _ (by omega), k _ (by omega), k _ (by omega), k _ (by omega)]
    exact this
theorem zRs_next {B : Nat → Nat} {n w0 : Nat} {h : ai_H} {s : Nat} {l : List zSt} (e : Nat) (hb : ∀ i, B i < 256) (hn : n ≤ 500) (hs : s ≤ n) (a : zRs B n w0 h s l) : ∃ h', ai_X (e + 2) 226 [.inr (.inr (32, 0, 16128))] h = some ([], h') ∧ zRs B n w0 h' (ztn B n s) l ∧ zG zQu h h' := by
  obtain ⟨⟨a1, a2, a3⟩, b1, b2⟩ := a
  obtain ⟨h', d1, d2, d3⟩ := M226 e hb hn (zte_le (B := B) hs).2.1 a1 a2.2.1
  have k15 : ∀ j, (j < 51 ∨ 54 < j) → h'.1 16128 j = h.1 16128 j := fun j hj => d3.1 _ _ (by unfold zQu; omega)
  have ko : ∀ q j, ¬ q = 16128 → h'.1 q j = h.1 q j := fun q j hq => d3.1 _ _ (by unfold zQu; omega)
  refine ⟨h', d1, ⟨⟨⟨?_, fun i hi => ?_⟩, d2, ?_⟩, ?_, fun i q hi => ?_⟩, d3⟩
  · rw [k15 50 (by decide)]; exact a1.1
  · rw [ko _ _ (by decide)]; exact a1.2 i hi
  · rw [k15 56 (by decide)]; exact a3
  · rw [k15 42 (by decide)]; exact b1
  · have := b2 i q hi
    unfold zSc at this ⊢
    rw [ko _ _ (by decide), ko _ _ (by decide), ko _ _ (by decide), ko _ _ (by decide)]
    exact this
theorem zRs_err {B : Nat → Nat} {n w0 : Nat} {h : ai_H} {s : Nat} {l : List zSt} (e : Nat) (a : zRs B n w0 h s l) : ∃ h', ai_X (e + 1) 227 [.inr (.inr (32, 0, 16128))] h = some ([], h') ∧ h'.1 16128 56 = 1 ∧ h'.1 16128 49 = nI s ∧ zGf (zQm w0) h h' := by
  refine ⟨_, M227 e a.1.2.2 a.1.2.1.1, ?_, z_stS, zG_st (zG_st zG_rf (Or.inl (Or.inl ⟨rfl, Or.inr (by decide)⟩))) (Or.inr ⟨rfl, rfl⟩)⟩
  rw [z_nj (by decide), z_stS]
theorem M228w {h : ai_H} {w1 : Int64} (d : Nat) (h56 : h.1 16128 56 = 1) : ai_X (d + 1) 228 [.inr (.inr (32, 0, 16128)), .inr (.inl w1)] h = some ([.inl 0], h) := by
  rw [T228, h56, if_neg (by decide)]
  exact z_b0
section
variable {B : Nat → Nat} {n w0 : Nat} {h : ai_H} {s : Nat} {l : List zSt} {i : Nat} {z1 z3 : Option ai_V}
theorem M235w (e : Nat) (hi : i < 24) (h56 : h.1 16128 56 = 1) : ∃ h', ai_E (e + 5) 235 156 [some (.inr (.inr (32, 0, 16128))), z1, some (.inl (nI (144 + i))), z3] [] h = some ([], h') ∧ h'.1 16128 56 = 1 ∧ h'.1 16128 49 = h.1 16128 49 ∧ zG (zQn w0 i) h h' := by
  refine ⟨ai_st h 2064426 (144 + i) (h.1 16128 42), ?_, ?_, ?_, zG_st zG_rf (Or.inr (Or.inr ⟨by decide, by decide, rfl⟩))⟩
  · rw [T235_156, z_ix (by omega) (by decide), z_ne (by decide), h56, if_neg (by decide), if_neg (by decide)]
  · rw [z_ne (by decide)]; exact h56
  · rw [z_ne (by decide)]
theorem M235e (e : Nat) (hb : ∀ i, B i < 256) (hn : n ≤ 500) (hs : s ≤ n) (hi : i < 24) (a : zRs B n w0 h s l) (h6 : h.1 2064421 6 = nI i) :
    (¬ zsem B n s → zFn w0 i (ai_E (e + 5) 235 156 [some (.inr (.inr (32, 0, 16128))), z1, some (.inl (nI (144 + i))), z3] [] h) h s) ∧
    (zsem B n s → ∃ h', ai_E (e + 5) 235 156 [some (.inr (.inr (32, 0, 16128))), z1, some (.inl (nI (144 + i))), z3] [] h = some ([], h') ∧ zRs B n w0 h' (ztn B n s) l ∧ h'.1 2064421 6 = nI (i + 1) ∧ h'.1 2064426 (144 + i) = nI (w0 + l.length) ∧ (∀ q, 2064423 ≤ q → q ≤ 2064425 → h'.1 q = h.1 q) ∧ zG (zQn w0 i) h h') := by
  obtain ⟨g, eg⟩ : ∃ g, ai_st h 2064426 (144 + i) (h.1 16128 42) = g := ⟨_, rfl⟩
  have ag : zRs B n w0 g s l := by rw [← eg]; exact zRs_v (Or.inr ⟨by decide, by decide⟩) a
  have fg : zG (zQn w0 i) h g := by rw [← eg]; exact zG_st zG_rf (Or.inr (Or.inr ⟨by decide, by decide, rfl⟩))
  have vg : g.1 2064426 (144 + i) = nI (w0 + l.length) := by rw [← eg, z_stS]; exact a.2.1
  have g6 : g.1 2064421 6 = nI i := by rw [← eg, z_ne (by decide)]; exact h6
  have og : ∀ q, 2064423 ≤ q → q ≤ 2064425 → g.1 q = h.1 q := fun q h1 h2 => by rw [← eg, z_ne (by omega)]
  have lt := zutk_lt (n := n) (s := s) hb
  have q59 : (g.1 16128 53 = 59) ↔ zsem B n s := by rw [ag.1.2.1.2.2.1, show (59 : Int32) = nI 59 from rfl, nI_eq (by omega) (by omega)]; exact zutk_c (by decide)
  rw [T235_156, z_ix (by omega) (by decide), eg, ag.1.2.2, if_pos rfl]
  refine ⟨fun p => ?_, fun p => ?_⟩
  · obtain ⟨h', d1, d2, d3, d4⟩ := zRs_err (e + 4) ag
    have d1 : ai_X (e + 5) 227 [.inr (.inr (32, 0, 16128))] g = some ([], h') := d1
    rw [if_neg (fun q => p (q59.mp q)), d1, z_bv, d2, if_neg (by decide)]
    exact ⟨h', rfl, d2, d3, zG_te fg (zGf_mono d4 zQm_n)⟩
  · obtain ⟨h', d1, d2, d3⟩ := zRs_next (e + 3) hb hn hs ag
    have d1 : ai_X (e + 5) 226 [.inr (.inr (32, 0, 16128))] g = some ([], h') := d1
    have h6' : h'.1 2064421 6 = nI i := by rw [d3.1 _ _ (by unfold zQu; omega)]; exact g6
    rw [if_pos (q59.mpr p), if_pos rfl, d1, z_bv, show (6 : Int32) = nI 6 from rfl, z_ix (by decide) (by decide), z_ix (by decide) (by decide), h6', nI_1]
    refine ⟨_, rfl, zRs_v (Or.inl rfl) d2, z_stS, ?_, fun q h1 h2 => ?_, zG_tr fg (zG_tr (zG_mono d3 fun q j hq => Or.inl (zQu_m q j hq)) (zG_st zG_rf (Or.inr (Or.inl ⟨rfl, rfl⟩))))⟩
    · rw [z_ne (by decide), d3.1 _ _ (by unfold zQu; omega)]; exact vg
    · rw [z_ne (by omega)]
      exact (funext fun j => d3.1 q j (by unfold zQu; omega)).trans (og q h1 h2)
/-- from its condition on -/
theorem M235c (e : Nat) (hb : ∀ i, B i < 256) (hn : n ≤ 500) (hw : w0 ≤ 19000) (hs : s ≤ n) (hi : i < 24) (hl : l.length ≤ s) (a : zRs B n w0 h s l) (h6 : h.1 2064421 6 = nI i) :
    (¬ zwv B n s = 249 → ¬ zsem B n s → zFn w0 i (ai_E (e + 5) 235 128 [some (.inr (.inr (32, 0, 16128))), z1, some (.inl (nI (144 + i))), z3] [] h) h s) ∧
    (¬ zwv B n s = 249 → zsem B n s → ∃ h', ai_E (e + 5) 235 128 [some (.inr (.inr (32, 0, 16128))), z1, some (.inl (nI (144 + i))), z3] [] h = some ([], h') ∧ zRs B n w0 h' (ztn B n s) l ∧ h'.1 2064421 6 = nI (i + 1) ∧ h'.1 2064425 (144 + i) = nI (w0 + l.length) ∧ h'.1 2064426 (144 + i) = nI (w0 + l.length) ∧ (∀ q, 2064423 ≤ q → q ≤ 2064424 → h'.1 q = h.1 q) ∧ zG (zQn w0 i) h h') ∧
    (zwv B n s = 249 → ∀ {f c t}, zpD B n f 3 0 (ztn B n s) c t false → zFn w0 i (ai_E (e + 5) 235 128 [some (.inr (.inr (32, 0, 16128))), z1, some (.inl (nI (144 + i))), z3] [] h) h t) ∧
    (zwv B n s = 249 → ∀ {f c t}, zpD B n f 3 0 (ztn B n s) c t true → ¬ zsem B n t → zFn w0 i (ai_E (e + 5) 235 128 [some (.inr (.inr (32, 0, 16128))), z1, some (.inl (nI (144 + i))), z3] [] h) h t) ∧
    (zwv B n s = 249 → ∀ {f c t}, zpD B n f 3 0 (ztn B n s) c t true → zsem B n t → ∃ h', ai_E (e + 5) 235 128 [some (.inr (.inr (32, 0, 16128))), z1, some (.inl (nI (144 + i))), z3] [] h = some ([], h') ∧ zRs B n w0 h' (ztn B n t) (l ++ c) ∧ h'.1 2064421 6 = nI (i + 1) ∧ h'.1 2064425 (144 + i) = nI (w0 + l.length) ∧ h'.1 2064426 (144 + i) = nI (w0 + (l ++ c).length) ∧ (∀ q, 2064423 ≤ q → q ≤ 2064424 → h'.1 q = h.1 q) ∧ zG (zQn w0 i) h h') := by
  obtain ⟨g, eg⟩ : ∃ g, ai_st h 2064425 (144 + i) (h.1 16128 42) = g := ⟨_, rfl⟩
  have ag : zRs B n w0 g s l := by rw [← eg]; exact zRs_v (Or.inr ⟨by decide, by decide⟩) a
  have fg : zG (zQn w0 i) h g := by rw [← eg]; exact zG_st zG_rf (Or.inr (Or.inr ⟨by decide, by decide, rfl⟩))
  have vg : g.1 2064425 (144 + i) = nI (w0 + l.length) := by rw [← eg, z_stS]; exact a.2.1
  have g6 : g.1 2064421 6 = nI i := by rw [← eg, z_ne (by decide)]; exact h6
  have og : ∀ q, 2064423 ≤ q → q ≤ 2064424 → g.1 q = h.1 q := fun q h1 h2 => by rw [← eg, z_ne (by omega)]
  have w : ai_X (e + 5) 228 [.inr (.inr (32, 0, 16128)), .inr (.inl 249)] g = some ([.inl (zb (zwv B n s = 249))], g) := M228 (W := 249) (e + 4) hb ag.1.2.1 ag.1.2.2 (by decide) (by decide)
  have a1 := ztn_le (B := B) hs
  rw [T235_128, z_ix (by omega) (by decide), eg, w, z_bi, zb_if]
  obtain ⟨u1, u2⟩ := M235e (z1 := z1) (z3 := z3) e hb hn hs hi ag g6
  have C : ∃ g1, ai_X (e + 5) 226 [.inr (.inr (32, 0, 16128))] g = some ([], g1) ∧ zRs B n w0 g1 (ztn B n s) l ∧ zG zQu g g1 := zRs_next (e + 3) hb hn hs ag
  obtain ⟨g1, c1, c2, c3⟩ := C
  have K : ∀ {f c t b}, zpD B n f 3 0 (ztn B n s) c t b → (b = false → zFq w0 (ai_X (e + 5) 234 [.inr (.inr (32, 0, 16128))] g1) g1 t) ∧ (b = true → ∃ h', ai_X (e + 5) 234 [.inr (.inr (32, 0, 16128))] g1 = some ([], h') ∧ zRs B n w0 h' t (l ++ c) ∧ zG (zQm w0) g1 h') := fun {f c t b} r => by
    obtain ⟨k1, k2⟩ := M234 (op := fun _ => 0) (jn := fun _ => 0) (o := 0) e hb hn hw a1.2.1 c2.1 c2.2 (by omega) r
    refine ⟨k1, fun q => ?_⟩
    obtain ⟨h', x1, x2, x3, x4⟩ := k2 q
    exact ⟨h', x1, ⟨x2, x3⟩, x4⟩
  have f1 : zG (zQn w0 i) h g1 := zG_tr fg (zG_mono c3 fun q j hq => Or.inl (zQu_m q j hq))
  have old : ∀ {h'}, zG (zQm w0) g1 h' → h'.1 2064421 6 = nI i ∧ h'.1 2064425 (144 + i) = nI (w0 + l.length) ∧ ∀ q, 2064423 ≤ q → q ≤ 2064424 → h'.1 q = h.1 q := fun {h'} f => by
    refine ⟨?_, ?_, fun q h1 h2 => funext fun j => ?_⟩
    · rw [f.1 _ _ (by unfold zQm; omega), c3.1 _ _ (by unfold zQu; omega)]; exact g6
    · rw [f.1 _ _ (by unfold zQm; omega), c3.1 _ _ (by unfold zQu; omega)]; exact vg
    · rw [f.1 _ _ (by unfold zQm; omega), c3.1 _ _ (by unfold zQu; omega), og q h1 h2]
  refine ⟨fun p q => ?_, fun p q => ?_, fun p f c t r => ?_, fun p f c t r q => ?_, fun p f c t r q => ?_⟩
  · rw [if_neg p]
    obtain ⟨h', d1, d2, d3, d4⟩ := u1 q
    exact ⟨h', d1, d2, d3, zG_te fg d4⟩
  · rw [if_neg p]
    obtain ⟨h', d1, d2, d3, d4, d5, d6⟩ := u2 q
    exact ⟨h', d1, d2, d3, by rw [d5 _ (by decide) (by decide)]; exact vg, d4, fun q h1 h2 => (d5 q h1 (by omega)).trans (og q h1 h2), zG_tr fg d6⟩
  · obtain ⟨h', d1, d2, d3, d4⟩ := (K r).1 rfl
    obtain ⟨h2, y1, y2, y3, y4⟩ := M235w (w0 := w0) (z1 := z1) (z3 := z3) e hi d2
    rw [if_pos p, c1, z_bv, d1, z_bv, y1]
    exact ⟨h2, rfl, y2, y3.trans d3, zG_te f1 (zGf_r (zGf_mono d4 zQm_n) y4)⟩
  · obtain ⟨h', d1, d2, d3⟩ := (K r).2 rfl
    obtain ⟨o1, o2, o3⟩ := old d3
    have ln := zpD_len r a1.2.1
    obtain ⟨h2, y1, y2, y3, y4⟩ := (M235e (z1 := z1) (z3 := z3) e hb hn ln.2.1 hi d2 o1).1 q
    rw [if_pos p, c1, z_bv, d1, z_bv, y1]
    exact ⟨h2, rfl, y2, y3, zG_te f1 (zG_te (zG_mono d3 zQm_n) y4)⟩
  · obtain ⟨h', d1, d2, d3⟩ := (K r).2 rfl
    obtain ⟨o1, o2, o3⟩ := old d3
    have ln := zpD_len r a1.2.1
    obtain ⟨h2, y1, y2, y3, y4, y5, y6⟩ := (M235e (z1 := z1) (z3 := z3) e hb hn ln.2.1 hi d2 o1).2 q
    rw [if_pos p, c1, z_bv, d1, z_bv, y1]
    exact ⟨h2, rfl, y2, y3, by rw [y5 _ (by decide) (by decide)]; exact o2, y4, fun q h1 h2 => (y5 q h1 (by omega)).trans (o3 q h1 h2), zG_tr f1 (zG_tr (zG_mono d3 zQm_n) y6)⟩
end
