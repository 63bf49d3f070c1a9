/-! A STATEMENT, AS THE CLASS READS IT -/
def zQs (i q j : Nat) : Prop := zQp q j ∨ (2097547 ≤ q ∧ q ≤ 2097549 ∧ j = i)
theorem zQp_s {i : Nat} : ∀ q j, zQp q j → zQs i q j := fun _ _ h => Or.inl h
theorem zsv {h : ai_H} {B : Nat → Nat} {n s q j : Nat} {l : List zSt} {v : Int32} (hq : 2097547 ≤ q ∧ q ≤ 2097549) (ht : zTb h B n) (hk : zTk h B n s) (hc : zCo h l) : zTb (ai_st h q j v) B n ∧ zTk (ai_st h q j v) B n s ∧ zCo (ai_st h q j v) l := by
  have k : ∀ c, ¬ c = q → (ai_st h q j v).1 c = h.1 c := fun c hc => z_ne hc
  refine ⟨zTb_c (fun c j' hc => by rw [k c (by omega)]) ht, zTk_c (fun j' _ => by rw [k _ (by omega)]) hk, ?_, fun i w hw => ?_⟩
  · rw [k _ (by omega)]; exact hc.1
  · rw [k _ (by omega)]; exact hc.2 i w hw
noncomputable def zx56f (d i : Nat) (h : ai_H) : Option ai_R := ai_bi (ai_X d 67 [.inr (.inr (27, 0, 16387)), .inl 59] (ai_st h 2097549 i (h.1 16387 9))) (fun v11 h10 => if v11 = 0 then ai_b01 0 (some ([.inl 0], h10)) else ai_bv (ai_X d 68 [.inr (.inr (27, 0, 16387))] h10) (fun h12 => ai_b01 1 (some ([.inl 1], h12))))
noncomputable def zx56 (d i : Nat) (h : ai_H) : Option ai_R := ai_E d 56 102 [some (.inr (.inr (27, 0, 16387))), some (.inl (nI i)), none, none] [] h
theorem zx56_is {d i : Nat} {h : ai_H} {z2 z3 : Option ai_V} : ai_E d 56 102 [some (.inr (.inr (27, 0, 16387))), some (.inl (nI i)), z2, z3] [] h = zx56 d i h := by
  unfold zx56
  rw [T56_102, T56_102]
theorem X56f {h : ai_H} {B : Nat → Nat} {n s i d : Nat} {l : List zSt} (hd : 37 ≤ d) (hb : ∀ i, B i < 256) (hn : n ≤ 500) (hs : s ≤ n) (ht : zTb h B n) (hk : zTk h B n s) (hc : zCo h l) :
    (¬ zsem B n s → ∃ h', zx56f d i h = some ([.inl 0], h') ∧ zTk h' B n s ∧ zF (zQs i) h h') ∧ (zsem B n s → ∃ h', zx56f d i h = some ([.inl 1], h') ∧ zTk h' B n (ztn B n s) ∧ zCo h' l ∧ h'.1 2097549 i = nI l.length ∧ zF (zQs i) h h' ∧ ∀ q, q = 2097547 ∨ q = 2097548 → h'.1 q = h.1 q) := by
  obtain ⟨a1, a2, a3⟩ := zsv (q := 2097549) (j := i) (v := h.1 16387 9) (by decide) ht hk hc
  have f1 : zF (zQs i) h (ai_st h 2097549 i (h.1 16387 9)) := zF_st zF_rf (Or.inr ⟨by decide, by decide, rfl⟩)
  have w : ai_X d 67 [.inr (.inr (27, 0, 16387)), .inl 59] (ai_st h 2097549 i (h.1 16387 9)) = _ := X67D 59 (by omega) hb a2 (by decide)
  unfold zx56f
  rw [w, z_bi, zb_if]
  refine ⟨fun p => ?_, fun p => ?_⟩
  · rw [if_neg p]
    exact ⟨_, z_b0, a2, f1⟩
  · obtain ⟨h', d1, d2, d3, d4⟩ := X68D (D := d) (by omega) hn a1 a2
    rw [if_pos p, d1, z_bv]
    refine ⟨h', z_b1, d2, zCo_k d4 a3, ?_, zF_tr f1 (zF_mono d4 fun q j hq => Or.inl (zQk_p q j hq)), fun q hq => funext fun j => ?_⟩
    · rw [d4.1 _ _ (by unfold zQk; omega), z_stS]; exact hc.1
    · rw [d4.1 _ _ (by unfold zQk; omega), z_ne (by omega)]
theorem X56t {h : ai_H} {B : Nat → Nat} {n s i d : Nat} {l : List zSt} (hd : 37 ≤ d) (hb : ∀ i, B i < 256) (hn : n ≤ 500) (hs : s ≤ n) (ht : zTb h B n) (hk : zTk h B n s) (hc : zCo h l) (hl : l.length ≤ s) (hi : i < 24) :
    (¬ zwv B n s = 249 → ¬ zsem B n s → ∃ h', zx56 d i h = some ([.inl 0], h') ∧ zTk h' B n s ∧ zF (zQs i) h h') ∧
    (¬ zwv B n s = 249 → zsem B n s → ∃ h', zx56 d i h = some ([.inl 1], h') ∧ zTk h' B n (ztn B n s) ∧ zCo h' l ∧ h'.1 2097549 i = nI l.length ∧ zF (zQs i) h h' ∧ ∀ q, q = 2097547 ∨ q = 2097548 → h'.1 q = h.1 q) ∧
    (zwv B n s = 249 → ∀ {f c t}, zpD B n f 3 0 (ztn B n s) c t false → ∃ h', zx56 d i h = some ([.inl 0], h') ∧ zTk h' B n t ∧ zF (zQs i) h h') ∧
    (zwv B n s = 249 → ∀ {f c t}, zpD B n f 3 0 (ztn B n s) c t true → ¬ zsem B n t → ∃ h', zx56 d i h = some ([.inl 0], h') ∧ zTk h' B n t ∧ zF (zQs i) h h') ∧
    (zwv B n s = 249 → ∀ {f c t}, zpD B n f 3 0 (ztn B n s) c t true → zsem B n t → ∃ h', zx56 d i h = some ([.inl 1], h') ∧ zTk h' B n (ztn B n t) ∧ zCo h' (l ++ c) ∧ h'.1 2097549 i = nI (l ++ c).length ∧ zF (zQs i) h h' ∧ ∀ q, q = 2097547 ∨ q = 2097548 → h'.1 q = h.1 q) := by
  have w : (h.1 16387 3 = 11) ↔ zwv B n s = 249 := (zsym hb hk (show 11 < 400 by decide)).trans (zsy_w (show 11 < 19 by decide))
  have a1 := ztn_le (B := B) hs
  have e : zx56 d i h = if zwv B n s = 249 then ai_bv (ai_X d 68 [.inr (.inr (27, 0, 16387))] h) (fun h13 => ai_bi (ai_X d 58 [.inr (.inr (27, 0, 16387)), .inl 0] h13) (fun v15 h14 => if v15 = 0 then ai_b01 0 (some ([.inl 0], h14)) else ai_ix (nI i) 24 (fun j16 => zx56f d j16 h14))) else zx56f d i h := by
    unfold zx56
    rw [T56_102]
    by_cases p : zwv B n s = 249
    · rw [if_pos (w.mpr p), if_pos p]; rfl
    · rw [if_neg (fun q => p (w.mp q)), if_neg p, z_ix hi (by decide)]; rfl
  rw [e]
  obtain ⟨u1, u2⟩ := X56f (i := i) hd hb hn hs ht hk hc
  obtain ⟨h1, b1, b2, b3, b4⟩ := X68D (D := d) (by omega) hn ht hk
  have C : ∀ {f c t b}, zpD B n f 3 0 (ztn B n s) c t b → ∃ h2, ai_X d 58 [.inr (.inr (27, 0, 16387)), .inl 0] h1 = some ([.inl (zpbo b)], h2) ∧ zTk h2 B n t ∧ zTb h2 B n ∧ (b = true → zCo h2 (l ++ c)) ∧ zF zQp h h2 := fun {f c t b} r => by
    obtain ⟨h2, c1, c2, c3, c4⟩ := zXg_all hb hn f 3 0 (ztn B n s) c t b r (by decide) a1.2.1 d 0 h1 l (by have : zpmx 3 = 2 := rfl; omega) (Nat.zero_le _) b3 b2 (zCo_k b4 hc) (by omega)
    exact ⟨h2, c1, c2, zTb_F c4 b3, c3, zF_tr (zF_mono b4 zQk_p) c4⟩
  refine ⟨fun p q => ?_, fun p q => ?_, fun p f c t r => ?_, fun p f c t r q => ?_, fun p f c t r q => ?_⟩
  · rw [if_neg p]; exact u1 q
  · rw [if_neg p]; exact u2 q
  · obtain ⟨h2, c1, c2, c3, c4, c5⟩ := C r
    have c1 : ai_X d 58 [.inr (.inr (27, 0, 16387)), .inl 0] h1 = some ([.inl 0], h2) := c1
    rw [if_pos p, b1, z_bv, c1, z_bi, if_pos rfl]
    exact ⟨h2, z_b0, c2, zF_mono c5 zQp_s⟩
  · obtain ⟨h2, c1, c2, c3, c4, c5⟩ := C r
    have c1 : ai_X d 58 [.inr (.inr (27, 0, 16387)), .inl 0] h1 = some ([.inl 1], h2) := c1
    rw [if_pos p, b1, z_bv, c1, z_bi, if_neg (by decide), z_ix hi (by decide)]
    obtain ⟨h3, d1, d2, d3⟩ := (X56f (i := i) hd hb hn (zpD_len r a1.2.1).2.1 c3 c2 (c4 rfl)).1 q
    exact ⟨h3, d1, d2, zF_tr (zF_mono c5 zQp_s) d3⟩
  · obtain ⟨h2, c1, c2, c3, c4, c5⟩ := C r
    have c1 : ai_X d 58 [.inr (.inr (27, 0, 16387)), .inl 0] h1 = some ([.inl 1], h2) := c1
    rw [if_pos p, b1, z_bv, c1, z_bi, if_neg (by decide), z_ix hi (by decide)]
    obtain ⟨h3, d1, d2, d3, d4, d5, d6⟩ := (X56f (i := i) hd hb hn (zpD_len r a1.2.1).2.1 c3 c2 (c4 rfl)).2 q
    refine ⟨h3, d1, d2, d3, d4, zF_tr (zF_mono c5 zQp_s) d5, fun q hq => (d6 q hq).trans (funext fun j => c5.1 q j ?_)⟩
    unfold zQp; omega
theorem X56v {h : ai_H} {B : Nat → Nat} {n s i : Nat} {tr : Bool} (d : Nat) (hb : ∀ i, B i < 256) (hk : zTk h B n s) : ai_X (d + 1) 56 [.inr (.inr (27, 0, 16387)), .inl (nI i), .inl (zb (tr = true))] h = if zverd (tr = true) (zwv B n s) = -1 then some ([.inl 0], h) else ai_E d 56 48 [some (.inr (.inr (27, 0, 16387))), some (.inl (nI i)), some (.inl (zb (tr = true))), some (.inl (zverd (tr = true) (zwv B n s)))] [] h := by
  have s15 : (h.1 16387 3 = 15) ↔ zsy B n s = 15 := zsym hb hk (show 15 < 400 by decide)
  have s16 : (h.1 16387 3 = 16) ↔ zsy B n s = 16 := zsym hb hk (show 16 < 400 by decide)
  have s17 : (h.1 16387 3 = 17) ↔ zsy B n s = 17 := zsym hb hk (show 17 < 400 by decide)
  have s18 : (h.1 16387 3 = 18) ↔ zsy B n s = 18 := zsym hb hk (show 18 < 400 by decide)
  have m1 : ((1 : Int32) = -1) = False := eq_false (by decide)
  have m0 : ((0 : Int32) = -1) = False := eq_false (by decide)
  have mm : ((-1 : Int32) = -1) = True := eq_true rfl
  cases tr with
  | false =>
    rw [show zb (false = true) = 0 from rfl, T56, zsy_vf (t := (false = true)) (by decide)]
    simp only [z_00, z_10, if_true, if_false, s15, s16, z_b0]
    by_cases c1 : zsy B n s = 15
    · simp only [if_pos c1, m1, if_false]
    · simp only [if_neg c1]
      by_cases c2 : zsy B n s = 16
      · simp only [if_pos c2, m0, if_false]
      · simp only [if_neg c2, mm, if_true]
  | true =>
    rw [show zb (true = true) = 1 from rfl, T56, zsy_vt (t := (true = true)) rfl]
    simp only [z_00, z_10, if_true, if_false, s17, s18, z_b0]
    by_cases c1 : zsy B n s = 17
    · simp only [if_pos c1, m1, if_false]
    · simp only [if_neg c1]
      by_cases c2 : zsy B n s = 18
      · simp only [if_pos c2, m0, if_false]
      · simp only [if_neg c2, mm, if_true]
theorem X56e {h : ai_H} {i : Nat} {V x2 : Int32} (d : Nat) (hi : i < 24) (hV : V = 0 ∨ V = 1) : ai_E d 56 48 [some (.inr (.inr (27, 0, 16387))), some (.inl (nI i)), some (.inl x2), some (.inl V)] [] h = ai_bv (ai_X d 68 [.inr (.inr (27, 0, 16387))] (ai_st (ai_st h 2097547 i V) 2097548 i 5)) (fun h3 => if x2 = 0 then zx56 d i h3 else if h3.1 16387 3 ≤ 5 then ai_bv (ai_X d 68 [.inr (.inr (27, 0, 16387))] (ai_st h3 2097548 i (h3.1 16387 3))) (fun h5 => zx56 d i h5) else ai_b01 0 (some ([.inl 0], h3))) := by
  have i0 : ∀ f : Nat → Option ai_R, ai_ix (nI i) 24 f = f i := fun f => z_ix hi (by decide)
  rcases hV with rfl | rfl
  · rw [T56_48, if_pos rfl]
    simp only [i0, zx56_is]
  · rw [T56_48, if_neg (by decide)]
    simp only [i0, zx56_is]
theorem X56 {h : ai_H} {B : Nat → Nat} {n s i t d : Nat} {l c : List zSt} {tr b : Bool} (hd : 37 ≤ d) (hb : ∀ i, B i < 256) (hn : n ≤ 500) (hs : s ≤ n) (ht : zTb h B n) (hk : zTk h B n s) (hc : zCo h l) (hl : l.length ≤ s) (hi : i < 24) (r : zpS B n tr s c t b) : ∃ h', ai_X (d + 1) 56 [.inr (.inr (27, 0, 16387)), .inl (nI i), .inl (zb (tr = true))] h = some ([.inl (zpbo b)], h') ∧ zTk h' B n t ∧ zTb h' B n ∧ (b = true → zCo h' (l ++ c) ∧ h'.1 2097547 i = zverd (tr = true) (zwv B n s) ∧ h'.1 2097548 i = zpsw B n tr s ∧ h'.1 2097549 i = nI (l ++ c).length) ∧ zF (zQs i) h h' := by
  have TB : ∀ {h'}, zF (zQs i) h h' → zTb h' B n := fun f => zTb_c (fun q j hq => f.1 q j (by unfold zQs zQp; omega)) ht
  have a1 := ztn_le (B := B) hs
  obtain ⟨V, hV⟩ : ∃ V, zverd (tr = true) (zwv B n s) = V := ⟨_, rfl⟩
  have V01 : ¬ V = -1 → V = 0 ∨ V = 1 := by
    rw [← hV]
    unfold zverd
    by_cases y1 : zwv B n s = (if tr = true then 11716 else 2230)
    · rw [if_pos y1]; exact fun _ => Or.inr rfl
    · rw [if_neg y1]
      by_cases y2 : zwv B n s = (if tr = true then 261071456 else 10413527)
      · rw [if_pos y2]; exact fun _ => Or.inl rfl
      · rw [if_neg y2]; exact fun q => absurd rfl q
  obtain ⟨g1, eg1⟩ : ∃ g, ai_st (ai_st h 2097547 i V) 2097548 i 5 = g := ⟨_, rfl⟩
  have f1 : zF (zQs i) h g1 := by rw [← eg1]; exact zF_st (zF_st zF_rf (Or.inr ⟨by decide, by decide, rfl⟩)) (Or.inr ⟨by decide, by decide, rfl⟩)
  obtain ⟨t0, k0, c0⟩ := zsv (q := 2097547) (j := i) (v := V) (by decide) ht hk hc
  obtain ⟨t1, k1, c1⟩ := zsv (q := 2097548) (j := i) (v := 5) (by decide) t0 k0 c0
  rw [eg1] at t1 k1 c1
  have v1 : g1.1 2097547 i = V := by rw [← eg1, z_ne (by decide), z_stS]
  have w1 : g1.1 2097548 i = 5 := by rw [← eg1, z_stS]
  obtain ⟨g2, b1, b2, b3, b4⟩ := X68D (D := d) (by omega) hn t1 k1
  have f2 : zF (zQs i) h g2 := zF_tr f1 (zF_mono b4 fun q j hq => Or.inl (zQk_p q j hq))
  have v2 : g2.1 2097547 i = V := by rw [b4.1 _ _ (by unfold zQk; omega)]; exact v1
  have w2 : g2.1 2097548 i = 5 := by rw [b4.1 _ _ (by unfold zQk; omega)]; exact w1
  have c2 := zCo_k b4 c1
  -- the statement after its work
  have S2 : ∀ {g}, ¬ V = -1 → ¬ zpsw B n tr s = -1 → zF (zQs i) h g → zTb g B n → zTk g B n (zps2 B n tr s) → zCo g l → g.1 2097547 i = V → g.1 2097548 i = zpsw B n tr s → l.length ≤ zps2 B n tr s → ∃ h', zx56 d i g = some ([.inl (zpbo b)], h') ∧ zTk h' B n t ∧ zTb h' B n ∧ (b = true → zCo h' (l ++ c) ∧ h'.1 2097547 i = V ∧ h'.1 2097548 i = zpsw B n tr s ∧ h'.1 2097549 i = nI (l ++ c).length) ∧ zF (zQs i) h h' := by
    intro g n1 n2 f tg kg cg vg wg lg
    have a2 := zps2_le (B := B) (tr := tr) hs
    obtain ⟨y1, y2, y3, y4, y5⟩ := X56t (i := i) hd hb hn a2.2 tg kg cg lg hi
    rcases r with ⟨-, q, -⟩ | ⟨-, -, q, -⟩ | ⟨rfl, -, -, p3, ff, r⟩ | ⟨rfl, -, -, p3, ff, r, p4⟩ | ⟨rfl, -, -, p3, ff, tt, r, p4, e1⟩ | ⟨rfl, -, -, p3, p4, e1⟩ | ⟨rfl, -, -, p3, p4, e1, e2⟩
    · exact absurd (hV.symm.trans q) n1
    · exact absurd q n2
    · obtain ⟨h', z1, z2, z3⟩ := y3 p3 r
      exact ⟨h', z1, z2, TB (zF_tr f z3), fun q => (by cases q), zF_tr f z3⟩
    · obtain ⟨h', z1, z2, z3⟩ := y4 p3 r p4
      exact ⟨h', z1, z2, TB (zF_tr f z3), fun q => (by cases q), zF_tr f z3⟩
    · obtain ⟨h', z1, z2, z3, z4, z5, z6⟩ := y5 p3 r p4
      subst e1
      exact ⟨h', z1, z2, TB (zF_tr f z5), fun _ => ⟨z3, by rw [z6 _ (Or.inl rfl)]; exact vg, by rw [z6 _ (Or.inr rfl)]; exact wg, z4⟩, zF_tr f z5⟩
    · obtain ⟨h', z1, z2, z3⟩ := y1 p3 p4
      subst e1
      exact ⟨h', z1, z2, TB (zF_tr f z3), fun q => (by cases q), zF_tr f z3⟩
    · obtain ⟨h', z1, z2, z3, z4, z5, z6⟩ := y2 p3 p4
      subst e1
      subst e2
      exact ⟨h', z1, z2, TB (zF_tr f z5), fun _ => ⟨by rw [List.append_nil]; exact z3, by rw [z6 _ (Or.inl rfl)]; exact vg, by rw [z6 _ (Or.inr rfl)]; exact wg, by rw [List.append_nil]; exact z4⟩, zF_tr f z5⟩
  rw [X56v d hb hk, hV]
  by_cases n1 : V = -1
  · rw [if_pos n1]
    rcases r with ⟨rfl, q, rfl⟩ | ⟨-, q, -⟩ | ⟨-, q, -⟩ | ⟨-, q, -⟩ | ⟨-, q, -⟩ | ⟨-, q, -⟩ | ⟨-, q, -⟩
    · exact ⟨h, rfl, hk, ht, fun q => (by cases q), zF_rf⟩
    all_goals exact absurd (hV.trans n1) q
  · rw [if_neg n1, X56e d hi (V01 n1), eg1, b1, z_bv]
    cases tr with
    | false =>
      rw [show zb (false = true) = 0 from rfl, if_pos rfl]
      exact S2 n1 (show ¬ (5 : Int32) = -1 by decide) f2 b3 b2 c2 v2 w2 (by show _ ≤ ztn B n s; omega)
    | true =>
      have ly := zsy_lt (n := n) (s := ztn B n s) hb
      have e2 : zpsw B n true s = zwork (zwv B n (ztn B n s)) := rfl
      have y5 : (nI (zsy B n (ztn B n s)) ≤ (5 : Int32)) ↔ ¬ zpsw B n true s = -1 := by
        rw [e2, zsy_k.1, show (5 : Int32) = nI 5 from rfl, nI_leI (by omega) (by omega)]
        omega
      rw [show zb (true = true) = 1 from rfl, if_neg (by decide), b2.2.1]
      by_cases n2 : zpsw B n true s = -1
      · rw [if_neg (fun q => y5.mp q n2)]
        rcases r with ⟨-, q, -⟩ | ⟨rfl, -, -, rfl⟩ | ⟨-, -, q, -⟩ | ⟨-, -, q, -⟩ | ⟨-, -, q, -⟩ | ⟨-, -, q, -⟩ | ⟨-, -, q, -⟩
        · exact absurd (hV.symm.trans q) n1
        · exact ⟨g2, z_b0, b2, TB f2, fun q => (by cases q), f2⟩
        all_goals exact absurd n2 q
      · have e3 : nI (zsy B n (ztn B n s)) = zpsw B n true s := zsy_k.2 n2
        obtain ⟨g4, eg4⟩ : ∃ g, ai_st g2 2097548 i (zpsw B n true s) = g := ⟨_, rfl⟩
        have f4 : zF (zQs i) h g4 := by rw [← eg4]; exact zF_st f2 (Or.inr ⟨by decide, by decide, rfl⟩)
        obtain ⟨t4, k4, c4⟩ := zsv (q := 2097548) (j := i) (v := zpsw B n true s) (by decide) b3 b2 c2
        rw [eg4] at t4 k4 c4
        have v4 : g4.1 2097547 i = V := by rw [← eg4, z_ne (by decide)]; exact v2
        have w4 : g4.1 2097548 i = zpsw B n true s := by rw [← eg4, z_stS]
        obtain ⟨g5, d1, d2, d3, d4⟩ := X68D (D := d) (by omega) hn t4 k4
        rw [if_pos (y5.mpr n2), e3, eg4, d1, z_bv]
        have a2 := ztn_le (B := B) a1.2.1
        exact S2 n1 n2 (zF_tr f4 (zF_mono d4 fun q j hq => Or.inl (zQk_p q j hq))) d3 d2 (zCo_k d4 c4) (by rw [d4.1 _ _ (by unfold zQk; omega)]; exact v4) (by rw [d4.1 _ _ (by unfold zQk; omega)]; exact w4) (by show _ ≤ ztn B n (ztn B n s); omega)
