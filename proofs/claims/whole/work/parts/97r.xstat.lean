/-! A STATEMENT, AS THE CLASS READS IT -/
def zQs (i q j : Nat) : Prop := zQp q j ∨ (2097545 ≤ q ∧ q ≤ 2097547 ∧ j = i)
theorem zQp_s {i : Nat} : ∀ q j, zQp q j → zQs i q j := fun _ _ h => Or.inl h
theorem zsv {h : ai_H} {B : Nat → Nat} {n s q j : Nat} {l : List zSt} {v : Int32} (hq : 2097545 ≤ q ∧ q ≤ 2097547) (ht : zTb h B n) (hk : zTk h B n s) (hc : zCo h l) : zTb (ai_st h q j v) B n ∧ zTk (ai_st h q j v) B n s ∧ zCo (ai_st h q j v) l := by
  have k : ∀ c, ¬ c = q → (ai_st h q j v).1 c = h.1 c := fun c hc => z_ne hc
  refine ⟨⟨?_, fun i hi => ?_⟩, ⟨?_, ?_, ?_⟩, ?_, fun i w hw => ?_⟩
  · rw [k _ (by omega)]; exact ht.1
  · rw [k _ (by omega)]; exact ht.2 i hi
  · rw [k _ (by omega)]; exact hk.1
  · rw [k _ (by omega)]; exact hk.2.1
  · rw [k _ (by omega)]; exact hk.2.2
  · rw [k _ (by omega)]; exact hc.1
  · rw [k _ (by omega)]; exact hc.2 i w hw
noncomputable def zx56f (d i : Nat) (h : ai_H) : Option ai_R := ai_bi (ai_X d 67 [.inr (.inr (27, 0, 16387)), .inl 59] (ai_st h 2097547 i (h.1 16387 7))) (fun v11 h10 => if v11 = 0 then ai_b01 0 (some ([.inl 0], h10)) else ai_bv (ai_X d 68 [.inr (.inr (27, 0, 16387))] h10) (fun h12 => ai_b01 1 (some ([.inl 1], h12))))
noncomputable def zx56 (d i : Nat) (h : ai_H) : Option ai_R := ai_bi (ai_X d 66 [.inr (.inr (27, 0, 16387)), .inr (.inr (6, 0, 10))] h) (fun v8 h7 => if v8 = 0 then ai_ix (nI i) 24 (fun j9 => zx56f d j9 h7) else ai_bv (ai_X d 68 [.inr (.inr (27, 0, 16387))] h7) (fun h13 => ai_bi (ai_X d 58 [.inr (.inr (27, 0, 16387)), .inl 0] h13) (fun v15 h14 => if v15 = 0 then ai_b01 0 (some ([.inl 0], h14)) else ai_ix (nI i) 24 (fun j16 => zx56f d j16 h14))))
theorem X56f {h : ai_H} {B : Nat → Nat} {n s i d : Nat} {l : List zSt} (hd : 37 ≤ d) (hb : ∀ i, B i < 256) (hn : n ≤ 500) (hs : s ≤ n) (ht : zTb h B n) (hk : zTk h B n s) (hc : zCo h l) :
    (¬ zsem B n s → ∃ h', zx56f d i h = some ([.inl 0], h') ∧ zTk h' B n s ∧ zF (zQs i) h h') ∧ (zsem B n s → ∃ h', zx56f d i h = some ([.inl 1], h') ∧ zTk h' B n (ztn B n s) ∧ zCo h' l ∧ h'.1 2097547 i = nI l.length ∧ zF (zQs i) h h' ∧ ∀ q, q = 2097545 ∨ q = 2097546 → h'.1 q = h.1 q) := by
  obtain ⟨a1, a2, a3⟩ := zsv (q := 2097547) (j := i) (v := h.1 16387 7) (by decide) ht hk hc
  have f1 : zF (zQs i) h (ai_st h 2097547 i (h.1 16387 7)) := zF_st zF_rf (Or.inr ⟨by decide, by decide, rfl⟩)
  have w : ai_X d 67 [.inr (.inr (27, 0, 16387)), .inl 59] (ai_st h 2097547 i (h.1 16387 7)) = _ := X67D 59 (by omega) hb hn a1 a2 (by decide)
  unfold zx56f
  rw [w, z_bi, zb_if]
  refine ⟨fun p => ?_, fun p => ?_⟩
  · rw [if_neg p]
    exact ⟨_, z_b0, a2, f1⟩
  · obtain ⟨h', d1, d2, d3, d4⟩ := X68D (D := d) (by omega) hb hn hs a1 a2
    rw [if_pos p, d1, z_bv]
    refine ⟨h', z_b1, d2, zCo_k d4 a3, ?_, zF_tr f1 (zF_mono d4 fun q j hq => Or.inl (zQk_p q j hq)), fun q hq => funext fun j => ?_⟩
    · rw [d4.1 _ _ (by unfold zQk; omega), z_stS]; exact hc.1
    · rw [d4.1 _ _ (by unfold zQk; omega), z_ne (by omega)]
theorem X56t {h : ai_H} {B : Nat → Nat} {n s i d : Nat} {l : List zSt} (hd : 37 ≤ d) (hb : ∀ i, B i < 256) (hn : n ≤ 500) (hs : s ≤ n) (ht : zTb h B n) (hk : zTk h B n s) (hc : zCo h l) (hl : l.length ≤ s) (hi : i < 24) :
    (¬ zwv B n s = 249 → ¬ zsem B n s → ∃ h', zx56 d i h = some ([.inl 0], h') ∧ zTk h' B n s ∧ zF (zQs i) h h') ∧
    (¬ zwv B n s = 249 → zsem B n s → ∃ h', zx56 d i h = some ([.inl 1], h') ∧ zTk h' B n (ztn B n s) ∧ zCo h' l ∧ h'.1 2097547 i = nI l.length ∧ zF (zQs i) h h' ∧ ∀ q, q = 2097545 ∨ q = 2097546 → h'.1 q = h.1 q) ∧
    (zwv B n s = 249 → ∀ {f c t}, zpD B n f 3 0 (ztn B n s) c t false → ∃ h', zx56 d i h = some ([.inl 0], h') ∧ zTk h' B n t ∧ zF (zQs i) h h') ∧
    (zwv B n s = 249 → ∀ {f c t}, zpD B n f 3 0 (ztn B n s) c t true → ¬ zsem B n t → ∃ h', zx56 d i h = some ([.inl 0], h') ∧ zTk h' B n t ∧ zF (zQs i) h h') ∧
    (zwv B n s = 249 → ∀ {f c t}, zpD B n f 3 0 (ztn B n s) c t true → zsem B n t → ∃ h', zx56 d i h = some ([.inl 1], h') ∧ zTk h' B n (ztn B n t) ∧ zCo h' (l ++ c) ∧ h'.1 2097547 i = nI (l ++ c).length ∧ zF (zQs i) h h' ∧ ∀ q, q = 2097545 ∨ q = 2097546 → h'.1 q = h.1 q) := by
  have w : ai_X d 66 [.inr (.inr (27, 0, 16387)), .inr (.inr (6, 0, 10))] h = _ := X66D (W := 249) (by omega) hb hn hs ht hk (by decide) (by decide)
  have a1 := ztn_le (B := B) hs
  have e : zx56 d i h = if zwv B n s = 249 then ai_bv (ai_X d 68 [.inr (.inr (27, 0, 16387))] h) (fun h13 => ai_bi (ai_X d 58 [.inr (.inr (27, 0, 16387)), .inl 0] h13) (fun v15 h14 => if v15 = 0 then ai_b01 0 (some ([.inl 0], h14)) else ai_ix (nI i) 24 (fun j16 => zx56f d j16 h14))) else zx56f d i h := by
    unfold zx56
    rw [w, z_bi, zb_if, z_ix hi (by decide)]
  rw [e]
  obtain ⟨u1, u2⟩ := X56f (i := i) hd hb hn hs ht hk hc
  obtain ⟨h1, b1, b2, b3, b4⟩ := X68D (D := d) (by omega) hb hn hs ht hk
  have C : ∀ {f c t b}, zpD B n f 3 0 (ztn B n s) c t b → ∃ h2, ai_X d 58 [.inr (.inr (27, 0, 16387)), .inl 0] h1 = some ([.inl (zpbo b)], h2) ∧ zTk h2 B n t ∧ zTb h2 B n ∧ (b = true → zCo h2 (l ++ c)) ∧ zF zQp h h2 := fun {f c t b} r => by
    obtain ⟨h2, c1, c2, c3, c4⟩ := zXg_all hb hn f 3 0 (ztn B n s) c t b r (by decide) a1.2.1 d 0 h1 l (by have : zpmx 3 = 2 := rfl; omega) (Nat.zero_le _) b3 b2 (zCo_k b4 hc) (by omega)
    exact ⟨h2, c1, c2, zTb_F c4 b3, c3, zF_tr (zF_mono b4 zQk_p) c4⟩
  refine ⟨fun p q => ?_, fun p q => ?_, fun p f c t r => ?_, fun p f c t r q => ?_, fun p f c t r q => ?_⟩
  · rw [if_neg p]; exact u1 q
  · rw [if_neg p]; exact u2 q
  · obtain ⟨h2, c1, c2, c3, c4, c5⟩ := C r
    have c1 : ai_X d 58 [.inr (.inr (27, 0, 16387)), .inl 0] h1 = some ([.inl 0], h2) := c1
    rw [if_pos p, b1, z_bv, c1, z_bi, if_pos rfl]
    exact ⟨h2, z_b0, c2, zF_mono c5 zQp_s⟩
  · obtain ⟨h2, c1, c2, c3, c4, c5⟩ := C r
    have c1 : ai_X d 58 [.inr (.inr (27, 0, 16387)), .inl 0] h1 = some ([.inl 1], h2) := c1
    rw [if_pos p, b1, z_bv, c1, z_bi, if_neg (by decide), z_ix hi (by decide)]
    obtain ⟨h3, d1, d2, d3⟩ := (X56f (i := i) hd hb hn (zpD_len r a1.2.1).2.1 c3 c2 (c4 rfl)).1 q
    exact ⟨h3, d1, d2, zF_tr (zF_mono c5 zQp_s) d3⟩
  · obtain ⟨h2, c1, c2, c3, c4, c5⟩ := C r
    have c1 : ai_X d 58 [.inr (.inr (27, 0, 16387)), .inl 0] h1 = some ([.inl 1], h2) := c1
    rw [if_pos p, b1, z_bv, c1, z_bi, if_neg (by decide), z_ix hi (by decide)]
    obtain ⟨h3, d1, d2, d3, d4, d5, d6⟩ := (X56f (i := i) hd hb hn (zpD_len r a1.2.1).2.1 c3 c2 (c4 rfl)).2 q
    refine ⟨h3, d1, d2, d3, d4, zF_tr (zF_mono c5 zQp_s) d5, fun q hq => (d6 q hq).trans (funext fun j => c5.1 q j ?_)⟩
    unfold zQp; omega
theorem X56 {h : ai_H} {B : Nat → Nat} {n s i t d : Nat} {l c : List zSt} {tr b : Bool} (hd : 37 ≤ d) (hb : ∀ i, B i < 256) (hn : n ≤ 500) (hs : s ≤ n) (ht : zTb h B n) (hk : zTk h B n s) (hc : zCo h l) (hl : l.length ≤ s) (hi : i < 24) (r : zpS B n tr s c t b) : ∃ h', ai_X (d + 1) 56 [.inr (.inr (27, 0, 16387)), .inl (nI i), .inl (zb (tr = true))] h = some ([.inl (zpbo b)], h') ∧ zTk h' B n t ∧ zTb h' B n ∧ (b = true → zCo h' (l ++ c) ∧ h'.1 2097545 i = zverd (tr = true) (zwv B n s) ∧ h'.1 2097546 i = zpsw B n tr s ∧ h'.1 2097547 i = nI (l ++ c).length) ∧ zF (zQs i) h h' := by
  have TB : ∀ {h'}, zF (zQs i) h h' → zTb h' B n := fun f => ⟨(f.1 _ _ (by unfold zQs zQp; omega)).trans ht.1, fun j hj => (f.1 _ _ (by unfold zQs zQp; omega)).trans (ht.2 j hj)⟩
  obtain ⟨e, rfl⟩ : ∃ e, d = e + 6 := ⟨d - 6, by omega⟩
  have x57 : ai_X (e + 6) 57 [.inr (.inr (27, 0, 16387)), .inl (zb (tr = true))] h = _ := X57 e (tr = true) hb hn hs ht hk
  have i0 : ∀ f : Nat → Option ai_R, ai_ix (nI i) 24 f = f i := fun f => z_ix hi (by decide)
  have a1 := ztn_le (B := B) hs
  obtain ⟨V, hV⟩ : ∃ V, zverd (tr = true) (zwv B n s) = V := ⟨_, rfl⟩
  rw [hV] at x57
  obtain ⟨g1, eg1⟩ : ∃ g, ai_st h 2097545 i V = g := ⟨_, rfl⟩
  have f1 : zF (zQs i) h g1 := by rw [← eg1]; exact zF_st zF_rf (Or.inr ⟨by decide, by decide, rfl⟩)
  obtain ⟨t1, k1, c1⟩ := zsv (q := 2097545) (j := i) (v := V) (by decide) ht hk hc
  rw [eg1] at t1 k1 c1
  have v1 : g1.1 2097545 i = V := by rw [← eg1, z_stS]
  obtain ⟨g2, b1, b2, b3, b4⟩ := X68D (D := e + 6) (by omega) hb hn hs t1 k1
  have f2 : zF (zQs i) h g2 := zF_tr f1 (zF_mono b4 fun q j hq => Or.inl (zQk_p q j hq))
  have v2 : g2.1 2097545 i = V := by rw [b4.1 _ _ (by unfold zQk; omega)]; exact v1
  obtain ⟨g3, eg3⟩ : ∃ g, ai_st g2 2097546 i 5 = g := ⟨_, rfl⟩
  have f3 : zF (zQs i) h g3 := by rw [← eg3]; exact zF_st f2 (Or.inr ⟨by decide, by decide, rfl⟩)
  obtain ⟨t3, k3, c3⟩ := zsv (q := 2097546) (j := i) (v := 5) (by decide) b3 b2 (zCo_k b4 c1)
  rw [eg3] at t3 k3 c3
  have v3 : g3.1 2097545 i = V := by rw [← eg3, z_ne (by decide)]; exact v2
  have w3 : g3.1 2097546 i = 5 := by rw [← eg3, z_stS]
  -- the statement after its work
  have S2 : ∀ {g}, ¬ V = -1 → ¬ zpsw B n tr s = -1 → zF (zQs i) h g → zTb g B n → zTk g B n (zps2 B n tr s) → zCo g l → g.1 2097545 i = V → g.1 2097546 i = zpsw B n tr s → l.length ≤ zps2 B n tr s → ∃ h', zx56 (e + 6) i g = some ([.inl (zpbo b)], h') ∧ zTk h' B n t ∧ zTb h' B n ∧ (b = true → zCo h' (l ++ c) ∧ h'.1 2097545 i = V ∧ h'.1 2097546 i = zpsw B n tr s ∧ h'.1 2097547 i = nI (l ++ c).length) ∧ zF (zQs i) h h' := by
    intro g n1 n2 f tg kg cg vg wg lg
    have a2 := zps2_le (B := B) (tr := tr) hs
    obtain ⟨y1, y2, y3, y4, y5⟩ := X56t (i := i) hd hb hn a2.2 tg kg cg lg hi
    rcases r with ⟨-, q, -⟩ | ⟨-, -, q, -⟩ | ⟨rfl, -, -, p3, ff, r⟩ | ⟨rfl, -, -, p3, ff, r, p4⟩ | ⟨rfl, -, -, p3, ff, tt, r, p4, e1⟩ | ⟨rfl, -, -, p3, p4, e1⟩ | ⟨rfl, -, -, p3, p4, e1, e2⟩
    · exact absurd (hV.symm.trans q) n1
    · exact absurd q n2
    · obtain ⟨h', z1, z2, z3⟩ := y3 p3 r
      exact ⟨h', z1, z2, TB (zF_tr f z3), fun q => (by cases q), zF_tr f z3⟩
    · obtain ⟨h', z1, z2, z3⟩ := y4 p3 r p4
      exact ⟨h', z1, z2, TB (zF_tr f z3), fun q => (by cases q), zF_tr f z3⟩
    · obtain ⟨h', z1, z2, z3, z4, z5, z6⟩ := y5 p3 r p4
      subst e1
      exact ⟨h', z1, z2, TB (zF_tr f z5), fun _ => ⟨z3, by rw [z6 _ (Or.inl rfl)]; exact vg, by rw [z6 _ (Or.inr rfl)]; exact wg, z4⟩, zF_tr f z5⟩
    · obtain ⟨h', z1, z2, z3⟩ := y1 p3 p4
      subst e1
      exact ⟨h', z1, z2, TB (zF_tr f z3), fun q => (by cases q), zF_tr f z3⟩
    · obtain ⟨h', z1, z2, z3, z4, z5, z6⟩ := y2 p3 p4
      subst e1
      subst e2
      exact ⟨h', z1, z2, TB (zF_tr f z5), fun _ => ⟨by rw [List.append_nil]; exact z3, by rw [z6 _ (Or.inl rfl)]; exact vg, by rw [z6 _ (Or.inr rfl)]; exact wg, by rw [List.append_nil]; exact z4⟩, zF_tr f z5⟩
  have T : ai_X (e + 6 + 1) 56 [.inr (.inr (27, 0, 16387)), .inl (nI i), .inl (zb (tr = true))] h = _ := T56 (e + 6) _ _ h
  rw [hV, T, x57, z_bi, i0, i0, eg1, v1]
  by_cases n1 : V = -1
  · rw [if_pos n1]
    rcases r with ⟨rfl, q, rfl⟩ | ⟨-, q, -⟩ | ⟨-, q, -⟩ | ⟨-, q, -⟩ | ⟨-, q, -⟩ | ⟨-, q, -⟩ | ⟨-, q, -⟩
    · exact ⟨g1, z_b0, k1, TB f1, fun q => (by cases q), f1⟩
    all_goals exact absurd (hV.trans n1) q
  · rw [if_neg n1, b1, z_bv, i0, eg3]
    cases tr with
    | false =>
      rw [show zb (false = true) = 0 from rfl, if_pos rfl]
      exact S2 n1 (show ¬ (5 : Int32) = -1 by decide) f3 t3 k3 c3 v3 w3 (by show _ ≤ ztn B n s; omega)
    | true =>
      have x63 : ai_X (e + 6) 63 [.inr (.inr (27, 0, 16387))] g3 = some ([.inl (zpsw B n true s)], g3) := X63 e hb hn a1.2.1 t3 k3
      obtain ⟨g4, eg4⟩ : ∃ g, ai_st g3 2097546 i (zpsw B n true s) = g := ⟨_, rfl⟩
      have f4 : zF (zQs i) h g4 := by rw [← eg4]; exact zF_st f3 (Or.inr ⟨by decide, by decide, rfl⟩)
      obtain ⟨t4, k4, c4⟩ := zsv (q := 2097546) (j := i) (v := zpsw B n true s) (by decide) t3 k3 c3
      rw [eg4] at t4 k4 c4
      have v4 : g4.1 2097545 i = V := by rw [← eg4, z_ne (by decide)]; exact v3
      have w4 : g4.1 2097546 i = zpsw B n true s := by rw [← eg4, z_stS]
      rw [show zb (true = true) = 1 from rfl, if_neg (by decide), x63, z_bi, i0, i0, eg4, w4]
      by_cases n2 : zpsw B n true s = -1
      · rw [if_pos n2]
        rcases r with ⟨-, q, -⟩ | ⟨rfl, -, -, rfl⟩ | ⟨-, -, q, -⟩ | ⟨-, -, q, -⟩ | ⟨-, -, q, -⟩ | ⟨-, -, q, -⟩ | ⟨-, -, q, -⟩
        · exact absurd (hV.symm.trans q) n1
        · exact ⟨g4, z_b0, k4, TB f4, fun q => (by cases q), f4⟩
        all_goals exact absurd n2 q
      · obtain ⟨g5, d1, d2, d3, d4⟩ := X68D (D := e + 6) (by omega) hb hn a1.2.1 t4 k4
        rw [if_neg n2, d1, z_bv]
        have a2 := ztn_le (B := B) a1.2.1
        exact S2 n1 n2 (zF_tr f4 (zF_mono d4 fun q j hq => Or.inl (zQk_p q j hq))) d3 d2 (zCo_k d4 c4) (by rw [d4.1 _ _ (by unfold zQk; omega)]; exact v4) (by rw [d4.1 _ _ (by unfold zQk; omega)]; exact w4) (by show _ ≤ ztn B n (ztn B n s); omega)
