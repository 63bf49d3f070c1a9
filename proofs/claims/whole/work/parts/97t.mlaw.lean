/-! A STATEMENT WHOLE, AND A TEXT, AS THE REFERENCE READS THEM -/
section
variable {B : Nat → Nat} {n w0 : Nat} {h : ai_H} {s t : Nat} {l c : List zSt} {i : Nat} {tr b : Bool}
def zSr (h : ai_H) (k : Nat) (V W : Int32) (a b : Nat) : Prop := h.1 2064423 k = V ∧ h.1 2064424 k = W ∧ h.1 2064425 k = nI a ∧ h.1 2064426 k = nI b
theorem M235a (e : Nat) (hb : ∀ i, B i < 256) (hn : n ≤ 500) (hw : w0 ≤ 19000) (hs : s ≤ n) (hi : i < 24) (hl : l.length ≤ s) (a : zRs B n w0 h s l) (h6 : h.1 2064421 6 = nI i) (V : Int32) (hV : zverd (tr = true) (zwv B n s) = V) (hV1 : ¬ V = -1) (r : zpS B n tr s c t b) :
    (b = false → zFn w0 i (ai_E (e + 5) 235 76 [some (.inr (.inr (32, 0, 16128))), some (.inl (zb (tr = true))), some (.inl (nI (144 + i))), some (.inl V)] [] h) h t) ∧
    (b = true → ∃ h', ai_E (e + 5) 235 76 [some (.inr (.inr (32, 0, 16128))), some (.inl (zb (tr = true))), some (.inl (nI (144 + i))), some (.inl V)] [] h = some ([], h') ∧ zRs B n w0 h' t (l ++ c) ∧ h'.1 2064421 6 = nI (i + 1) ∧ zSr h' (144 + i) V (zpsw B n tr s) (w0 + l.length) (w0 + (l ++ c).length) ∧ zG (zQn w0 i) h h') := by
  have hV2 : V = 0 ∨ V = 1 := by
    have : zverd (tr = true) (zwv B n s) = 1 ∨ zverd (tr = true) (zwv B n s) = 0 ∨ zverd (tr = true) (zwv B n s) = -1 := by
      unfold zverd
      by_cases c1 : zwv B n s = (if tr = true then 11716 else 2230)
      · rw [if_pos c1]; exact Or.inl rfl
      · rw [if_neg c1]
        by_cases c2 : zwv B n s = (if tr = true then 261071456 else 10413527)
        · rw [if_pos c2]; exact Or.inr (Or.inl rfl)
        · rw [if_neg c2]; exact Or.inr (Or.inr rfl)
    rw [hV] at this
    rcases this with q | q | q
    · exact Or.inr q
    · exact Or.inl q
    · exact absurd q hV1
  have hn1 : vp_nar .boolean V = V := by rcases hV2 with q | q <;> subst q <;> rfl
  have a1 := ztn_le (B := B) hs
  have i0 : ∀ f : Nat → Option ai_R, ai_ix (nI (144 + i)) 168 f = f (144 + i) := fun f => z_ix (by omega) (by decide)
  obtain ⟨g1, eg1⟩ : ∃ g, ai_st h 2064423 (144 + i) V = g := ⟨_, rfl⟩
  have r1 : zRs B n w0 g1 s l := by rw [← eg1]; exact zRs_v (Or.inr ⟨by decide, by decide⟩) a
  have f1 : zG (zQn w0 i) h g1 := by rw [← eg1]; exact zG_st zG_rf (Or.inr (Or.inr ⟨by decide, by decide, rfl⟩))
  have v1 : g1.1 2064423 (144 + i) = V := by rw [← eg1, z_stS]
  have s1 : g1.1 2064421 6 = nI i := by rw [← eg1, z_ne (by decide)]; exact h6
  obtain ⟨g2, d1, d2, d3⟩ := zRs_next (e + 3) hb hn hs r1
  have d1 : ai_X (e + 5) 226 [.inr (.inr (32, 0, 16128))] g1 = some ([], g2) := d1
  have f2 : zG (zQn w0 i) h g2 := zG_tr f1 (zG_mono d3 fun q j hq => Or.inl (zQu_m q j hq))
  have v2 : g2.1 2064423 (144 + i) = V := by rw [d3.1 _ _ (by unfold zQu; omega)]; exact v1
  have s2 : g2.1 2064421 6 = nI i := by rw [d3.1 _ _ (by unfold zQu; omega)]; exact s1
  obtain ⟨g3, eg3⟩ : ∃ g, ai_st g2 2064424 (144 + i) 5 = g := ⟨_, rfl⟩
  have r3 : zRs B n w0 g3 (ztn B n s) l := by rw [← eg3]; exact zRs_v (Or.inr ⟨by decide, by decide⟩) d2
  have f3 : zG (zQn w0 i) h g3 := by rw [← eg3]; exact zG_st f2 (Or.inr (Or.inr ⟨by decide, by decide, rfl⟩))
  have v3 : g3.1 2064423 (144 + i) = V := by rw [← eg3, z_ne (by decide)]; exact v2
  have w3 : g3.1 2064424 (144 + i) = 5 := by rw [← eg3, z_stS]
  have s3 : g3.1 2064421 6 = nI i := by rw [← eg3, z_ne (by decide)]; exact s2
  have S2 : ∀ {g z1 z3}, ¬ zpsw B n tr s = -1 → zG (zQn w0 i) h g → zRs B n w0 g (zps2 B n tr s) l → g.1 2064421 6 = nI i → g.1 2064423 (144 + i) = V → g.1 2064424 (144 + i) = zpsw B n tr s → l.length ≤ zps2 B n tr s → (b = false → zFn w0 i (ai_E (e + 5) 235 128 [some (.inr (.inr (32, 0, 16128))), z1, some (.inl (nI (144 + i))), z3] [] g) h t) ∧ (b = true → ∃ h', ai_E (e + 5) 235 128 [some (.inr (.inr (32, 0, 16128))), z1, some (.inl (nI (144 + i))), z3] [] g = some ([], h') ∧ zRs B n w0 h' t (l ++ c) ∧ h'.1 2064421 6 = nI (i + 1) ∧ zSr h' (144 + i) V (zpsw B n tr s) (w0 + l.length) (w0 + (l ++ c).length) ∧ zG (zQn w0 i) h h') := by
    intro g z1 z3 n2 f rg sg vg wg lg
    have a2 := zps2_le (B := B) (tr := tr) hs
    have up : ∀ {R t}, zFn w0 i R g t → zFn w0 i R h t := fun {R t} q => by
      obtain ⟨h', x1, x2, x3, x4⟩ := q
      exact ⟨h', x1, x2, x3, zG_te f x4⟩
    obtain ⟨y1, y2, y3, y4, y5⟩ := M235c (z1 := z1) (z3 := z3) e hb hn hw a2.2 hi lg rg sg
    rcases r with ⟨-, q, -⟩ | ⟨-, -, q, -⟩ | ⟨rfl, -, -, p3, ff, r⟩ | ⟨rfl, -, -, p3, ff, r, p4⟩ | ⟨rfl, -, -, p3, ff, tt, r, p4, e1⟩ | ⟨rfl, -, -, p3, p4, e1⟩ | ⟨rfl, -, -, p3, p4, e1, e2⟩
    · exact absurd (hV.symm.trans q) hV1
    · exact absurd q n2
    · exact ⟨fun _ => up (y3 p3 r), fun q => (by cases q)⟩
    · exact ⟨fun _ => up (y4 p3 r p4), fun q => (by cases q)⟩
    · obtain ⟨h', x1, x2, x3, x4, x5, x6, x7⟩ := y5 p3 r p4
      subst e1
      exact ⟨fun q => (by cases q), fun _ => ⟨h', x1, x2, x3, ⟨by rw [x6 _ (by decide) (by decide)]; exact vg, by rw [x6 _ (by decide) (by decide)]; exact wg, x4, x5⟩, zG_tr f x7⟩⟩
    · subst e1
      exact ⟨fun _ => up (y1 p3 p4), fun q => (by cases q)⟩
    · obtain ⟨h', x1, x2, x3, x4, x5, x6, x7⟩ := y2 p3 p4
      subst e1
      subst e2
      rw [List.append_nil]
      exact ⟨fun q => (by cases q), fun _ => ⟨h', x1, x2, x3, ⟨by rw [x6 _ (by decide) (by decide)]; exact vg, by rw [x6 _ (by decide) (by decide)]; exact wg, x4, x5⟩, zG_tr f x7⟩⟩
  rw [T235_76, i0, hn1, eg1, d1, z_bv, i0, eg3]
  cases tr with
  | false =>
    rw [show zb (false = true) = 0 from rfl, if_pos rfl]
    exact S2 (show ¬ (5 : Int32) = -1 by decide) f3 r3 s3 v3 w3 (by show _ ≤ ztn B n s; omega)
  | true =>
    have m230 : ai_X (e + 5) 230 [.inr (.inr (32, 0, 16128))] g3 = some ([.inl (zpsw B n true s)], g3) := M230 (e + 4) hb r3.1.2.1 r3.1.2.2
    obtain ⟨g4, eg4⟩ : ∃ g, ai_st g3 2064424 (144 + i) (zpsw B n true s) = g := ⟨_, rfl⟩
    have r4 : zRs B n w0 g4 (ztn B n s) l := by rw [← eg4]; exact zRs_v (Or.inr ⟨by decide, by decide⟩) r3
    have f4 : zG (zQn w0 i) h g4 := by rw [← eg4]; exact zG_st f3 (Or.inr (Or.inr ⟨by decide, by decide, rfl⟩))
    have v4 : g4.1 2064423 (144 + i) = V := by rw [← eg4, z_ne (by decide)]; exact v3
    have w4 : g4.1 2064424 (144 + i) = zpsw B n true s := by rw [← eg4, z_stS]
    have s4 : g4.1 2064421 6 = nI i := by rw [← eg4, z_ne (by decide)]; exact s3
    rw [show zb (true = true) = 1 from rfl, if_neg (by decide), m230, z_bi, i0, i0, eg4, w4]
    by_cases n2 : zpsw B n true s = -1
    · rw [if_neg (by rw [n2]; decide)]
      obtain ⟨g5, x1, x2, x3, x4⟩ := zRs_err (e + 4) r4
      have x1 : ai_X (e + 5) 227 [.inr (.inr (32, 0, 16128))] g4 = some ([], g5) := x1
      obtain ⟨g6, eg6⟩ : ∃ g, ai_st g5 2064425 (144 + i) (g5.1 16128 42) = g := ⟨_, rfl⟩
      have y2 : g6.1 16128 56 = 1 := by rw [← eg6, z_ne (by decide)]; exact x2
      have y3 : g6.1 16128 49 = nI (ztn B n s) := by rw [← eg6, z_ne (by decide)]; exact x3
      have f6 : zGf (zQn w0 i) h g6 := by rw [← eg6]; exact zG_st (zG_te f4 (zGf_mono x4 zQm_n)) (Or.inl (Or.inr (Or.inr ⟨by decide, by decide, rfl⟩)))
      have m228 : ai_X (e + 5) 228 [.inr (.inr (32, 0, 16128)), .inr (.inl 249)] g6 = some ([.inl 0], g6) := M228w (e + 4) y2
      rw [x1, z_bv, T235_128, i0, eg6, m228, z_bi, if_pos rfl]
      obtain ⟨h2, u1, u2, u3, u4⟩ := M235w (w0 := w0) (z1 := some (.inl 1)) (z3 := some (.inl V)) e hi y2
      rw [u1]
      rcases r with ⟨-, q, -⟩ | ⟨rfl, -, -, rfl⟩ | ⟨-, -, q, -⟩ | ⟨-, -, q, -⟩ | ⟨-, -, q, -⟩ | ⟨-, -, q, -⟩ | ⟨-, -, q, -⟩
      · exact absurd (hV.symm.trans q) hV1
      · exact ⟨fun _ => ⟨h2, rfl, u2, u3.trans y3, zGf_r f6 u4⟩, fun q => (by cases q)⟩
      all_goals exact absurd n2 q
    · have n3 : 0 ≤ (zpsw B n true s).toInt := (zwork_5 n2).1
      obtain ⟨g5, x1, x2, x3⟩ := zRs_next (e + 3) hb hn a1.2.1 r4
      have x1 : ai_X (e + 5) 226 [.inr (.inr (32, 0, 16128))] g4 = some ([], g5) := x1
      have a2 := ztn_le (B := B) a1.2.1
      rw [if_pos (by rw [z_le, zl0]; exact n3), x1, z_bv]
      exact S2 n2 (zG_tr f4 (zG_mono x3 fun q j hq => Or.inl (zQu_m q j hq))) x2 (by rw [x3.1 _ _ (by unfold zQu; omega)]; exact s4) (by rw [x3.1 _ _ (by unfold zQu; omega)]; exact v4) (by rw [x3.1 _ _ (by unfold zQu; omega)]; exact w4) (by show _ ≤ ztn B n (ztn B n s); omega)
/-- readStatement -/
theorem M235f (e : Nat) (a : zRs B n w0 h s l) (h6 : h.1 2064421 6 = nI 24) (x1 : Int32) : ∃ h', ai_X (e + 6) 235 [.inr (.inr (32, 0, 16128)), .inl x1] h = some ([], h') ∧ h'.1 16128 56 = 1 ∧ h'.1 16128 49 = nI s ∧ zGf (zQm w0) h h' := by
  obtain ⟨h', d1, d2, d3, d4⟩ := zRs_err (e + 4) a
  have d1 : ai_X (e + 5) 227 [.inr (.inr (32, 0, 16128))] h = some ([], h') := d1
  refine ⟨h', ?_, d2, d3, d4⟩
  have T : ai_X (e + 6) 235 [.inr (.inr (32, 0, 16128)), .inl x1] h = _ := T235 (e + 5) x1 h
  rw [T, show (6 : Int32) = nI 6 from rfl, z_ix (by decide) (by decide), z_ix (by decide) (by decide), h6, if_pos (show nI 24 = (24 : Int32) from rfl), d1, z_bv]
theorem M235 (e : Nat) (hb : ∀ i, B i < 256) (hn : n ≤ 500) (hw : w0 ≤ 19000) (hs : s ≤ n) (hi : i < 24) (hl : l.length ≤ s) (a : zRs B n w0 h s l) (h6 : h.1 2064421 6 = nI i) (r : zpS B n tr s c t b) :
    (b = false → zFn w0 i (ai_X (e + 6) 235 [.inr (.inr (32, 0, 16128)), .inl (zb (tr = true))] h) h t) ∧
    (b = true → ∃ h', ai_X (e + 6) 235 [.inr (.inr (32, 0, 16128)), .inl (zb (tr = true))] h = some ([], h') ∧ zRs B n w0 h' t (l ++ c) ∧ h'.1 2064421 6 = nI (i + 1) ∧ zSr h' (144 + i) (zverd (tr = true) (zwv B n s)) (zpsw B n tr s) (w0 + l.length) (w0 + (l ++ c).length) ∧ zG (zQn w0 i) h h') := by
  have T : ai_X (e + 6) 235 [.inr (.inr (32, 0, 16128)), .inl (zb (tr = true))] h = _ := T235 (e + 5) _ h
  have m := fun (W : Nat) h1 h2 => M228 (W := W) (e + 4) hb a.1.2.1 a.1.2.2 h1 h2
  have m1 : ai_X (e + 5) 228 [.inr (.inr (32, 0, 16128)), .inr (.inl 2230)] h = some ([.inl (zb (zwv B n s = 2230))], h) := m 2230 (by decide) (by decide)
  have m2 : ai_X (e + 5) 228 [.inr (.inr (32, 0, 16128)), .inr (.inl 10413527)] h = some ([.inl (zb (zwv B n s = 10413527))], h) := m 10413527 (by decide) (by decide)
  have m3 : ai_X (e + 5) 228 [.inr (.inr (32, 0, 16128)), .inr (.inl 11716)] h = some ([.inl (zb (zwv B n s = 11716))], h) := m 11716 (by decide) (by decide)
  have m4 : ai_X (e + 5) 228 [.inr (.inr (32, 0, 16128)), .inr (.inl 261071456)] h = some ([.inl (zb (zwv B n s = 261071456))], h) := m 261071456 (by decide) (by decide)
  have e6 : (144 : Int32) + nI i = nI (144 + i) := by rw [show (144 : Int32) = nI 144 from rfl, nI_add]
  obtain ⟨hf, d1, d2, d3, d4⟩ := zRs_err (e + 4) a
  have d1 : ai_X (e + 5) 227 [.inr (.inr (32, 0, 16128))] h = some ([], hf) := d1
  have F : zverd (tr = true) (zwv B n s) = -1 → (b = false → zFn w0 i (some ([], hf)) h t) ∧ (b = true → ∃ h', some (([] : List ai_V), hf) = some ([], h') ∧ zRs B n w0 h' t (l ++ c) ∧ h'.1 2064421 6 = nI (i + 1) ∧ zSr h' (144 + i) (zverd (tr = true) (zwv B n s)) (zpsw B n tr s) (w0 + l.length) (w0 + (l ++ c).length) ∧ zG (zQn w0 i) h h') := fun p => by
    rcases r with ⟨rfl, q, rfl⟩ | ⟨-, q, -⟩ | ⟨-, q, -⟩ | ⟨-, q, -⟩ | ⟨-, q, -⟩ | ⟨-, q, -⟩ | ⟨-, q, -⟩
    · exact ⟨fun _ => ⟨hf, rfl, d2, d3, zGf_mono d4 zQm_n⟩, fun q => (by cases q)⟩
    all_goals exact absurd p q
  have K := fun (V : Int32) (hV : zverd (tr = true) (zwv B n s) = V) (hV1 : ¬ V = -1) => M235a (c := c) (t := t) (b := b) e hb hn hw hs hi hl a h6 V hV hV1 r
  have i6 : ∀ {n2} (f : Nat → Option ai_R), n2 = 7 → ai_ix 6 n2 f = f 6 := fun f e => by rw [e, show (6 : Int32) = nI 6 from rfl, z_ix (by decide) (by decide)]
  rw [T, i6 _ rfl, i6 _ rfl, h6, if_neg (by rw [show (24 : Int32) = nI 24 from rfl, nI_eq (by omega) (by omega)]; omega), e6]
  cases tr with
  | false =>
    rw [show zb (false = true) = 0 from rfl] at K ⊢
    rw [if_pos rfl, m1, z_bi, zb_if]
    by_cases p1 : zwv B n s = 2230
    · have hV : zverd (false = true) (zwv B n s) = 1 := by unfold zverd; rw [p1]; rfl
      rw [if_pos p1, zb_t p1]
      have := K 1 hV (by decide)
      rw [hV]
      exact this
    · rw [if_neg p1, if_pos rfl, m2, z_bi, zb_if]
      by_cases p2 : zwv B n s = 10413527
      · have hV : zverd (false = true) (zwv B n s) = 0 := by unfold zverd; rw [p2]; rfl
        rw [if_pos p2, zb_f p1]
        have := K 0 hV (by decide)
        rw [hV]
        exact this
      · rw [if_neg p2, d1, z_bv]
        exact F (by unfold zverd; rw [if_neg (by exact p1), if_neg (by exact p2)])
  | true =>
    rw [show zb (true = true) = 1 from rfl] at K ⊢
    rw [if_neg (by decide), m3, z_bi, zb_if]
    by_cases p1 : zwv B n s = 11716
    · have hV : zverd (true = true) (zwv B n s) = 1 := by unfold zverd; rw [p1]; rfl
      rw [if_pos p1, zb_t p1]
      have := K 1 hV (by decide)
      rw [hV]
      exact this
    · rw [if_neg p1, if_neg (by decide), m4, z_bi, zb_if]
      by_cases p2 : zwv B n s = 261071456
      · have hV : zverd (true = true) (zwv B n s) = 0 := by unfold zverd; rw [p2]; rfl
        rw [if_pos p2, zb_f p1]
        have := K 0 hV (by decide)
        rw [hV]
        exact this
      · rw [if_neg p2, d1, z_bv]
        exact F (by unfold zverd; rw [if_neg (by exact p1), if_neg (by exact p2)])
end
