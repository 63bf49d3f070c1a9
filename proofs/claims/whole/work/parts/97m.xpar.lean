/-! A CONDITION, AS THE CLASS READS IT: by the rules -/
noncomputable def zxc (D m o i : Nat) (h : ai_H) : Option ai_R := if m = 0 then ai_X D 60 [.inr (.inr (27, 0, 16387)), .inl (nI o)] h else if m = 1 then ai_X D 59 [.inr (.inr (27, 0, 16387)), .inl (nI o)] h else if m = 2 then ai_E D 59 12 [some (.inr (.inr (27, 0, 16387))), some (.inl (nI o)), some (.inl (nI i))] [] h else if m = 3 then ai_X D 58 [.inr (.inr (27, 0, 16387)), .inl (nI o)] h else ai_E D 58 12 [some (.inr (.inr (27, 0, 16387))), some (.inl (nI o)), some (.inl (nI i))] [] h
def zpbo (b : Bool) : Int32 := if b = true then 1 else 0
def zpmx (m : Nat) : Nat := if m = 0 then 0 else if m = 1 then 1 else if m = 2 then 0 else if m = 3 then 2 else 1
def zXg (B : Nat → Nat) (n m o s : Nat) (c : List zSt) (t : Nat) (b : Bool) : Prop := ∀ D i h l, 8 + 3 * (9 - o) + zpmx m ≤ D → i ≤ s → zTb h B n → zTk h B n s → zCo h l → l.length ≤ s → ∃ h', zxc D m o i h = some ([.inl (zpbo b)], h') ∧ zTk h' B n t ∧ (b = true → zCo h' (l ++ c)) ∧ zF zQp h h'
theorem zCo_F {h h' : ai_H} {B : Nat → Nat} {n s : Nat} {l : List zSt} (e : h' = h) (a : zTk h B n s ∧ zCo h l) : zTk h' B n s ∧ zCo h' l := by subst e; exact a
theorem zXg_all {B : Nat → Nat} {n : Nat} (hb : ∀ i, B i < 256) (hn : n ≤ 500) : ∀ f m o s c t b, zpD B n f m o s c t b → o ≤ 9 → s ≤ n → zXg B n m o s c t b := by
  have wd : ∀ {s W}, 0 < W → zwv B n s = W → ¬ zkd B n s = 0 := fun h1 h2 h3 => by rw [zwv_w h1 h2] at h3; cases h3
  intro f
  induction f with
  | zero => intro m o s c t b h; exact h.elim
  | succ f ih =>
    intro m o s c t b h ho9 hs D i g l hD hi ht hk hc hl
    have a1 := ztn_le (B := B) hs
    have z0 : zpmx 0 = 0 := rfl
    have z1 : zpmx 1 = 1 := rfl
    have z2 : zpmx 2 = 0 := rfl
    have z3 : zpmx 3 = 2 := rfl
    have z4 : zpmx 4 = 1 := rfl
    have i9 : ∀ {o}, o ≤ 9 → (nI o < 9 ↔ o < 9) := fun h => by rw [show (9 : Int32) = nI 9 from rfl, nI_ltI (by omega) (by omega)]
    -- one's head
    have H0 : ∀ d, D = d + 1 → 7 ≤ d → zxc D 0 o i g = (if zwv B n s = 10631 then (if o < 9 then ai_bv (ai_X d 68 [.inr (.inr (27, 0, 16387))] g) (fun h16 => ai_bi (ai_X d 60 [.inr (.inr (27, 0, 16387)), .inl (nI (o + 1))] h16) (fun v23 h22 => if v23 = 0 then ai_b01 0 (some ([.inl 0], h22)) else ai_bv (ai_X d 62 [.inr (.inr (27, 0, 16387)), .inl (-1)] h22) (fun h24 => ai_b01 1 (some ([.inl 1], h24))))) else some ([.inl 0], g)) else if zkd B n s = 3 ∧ B s = 40 then (if o < 9 then ai_bv (ai_X d 68 [.inr (.inr (27, 0, 16387))] g) (fun h7 => ai_bi (ai_X d 58 [.inr (.inr (27, 0, 16387)), .inl (nI (o + 1))] h7) (fun v9 h8 => if v9 = 0 then ai_b01 0 (some ([.inl 0], h8)) else ai_bi (ai_X d 67 [.inr (.inr (27, 0, 16387)), .inl 41] h8) (fun v11 h10 => if v11 = 0 then ai_b01 0 (some ([.inl 0], h10)) else ai_bv (ai_X d 68 [.inr (.inr (27, 0, 16387))] h10) (fun h12 => ai_b01 1 (some ([.inl 1], h12)))))) else some ([.inl 0], g)) else ai_bi (ai_X d 61 [.inr (.inr (27, 0, 16387))] g) (fun v6 h5 => ai_b01 v6 (some ([.inl v6], h5)))) := by
      intro d e hd
      subst e
      have w14 : (g.1 16387 3 = 14) ↔ zwv B n s = 10631 := (zsym hb hk (show 14 < 400 by decide)).trans (zsy_w (show 14 < 19 by decide))
      have w40 : ai_X d 67 [.inr (.inr (27, 0, 16387)), .inl 40] g = _ := X67D 40 (by omega) hb hk (by decide)
      unfold zxc
      rw [if_pos rfl, T60]
      simp only [w14, w40, z_10, z_00, if_true, if_false, T60_33, z_bi, zb_if, z_b0, nI_1, i9 ho9]
    have X : ∀ {m o s c t b}, zpD B n f m o s c t b → o ≤ 9 → s ≤ n → zXg B n m o s c t b := fun r ho hs => ih _ _ _ _ _ _ r ho hs
    rcases h with ⟨rfl, rfl, rfl, rfl, p1, p2⟩ | ⟨rfl, rfl, rfl, rfl, p1, p2, p3⟩ | ⟨rfl, rfl, rfl, rfl, p1, p2, p3, p4⟩ | ⟨rfl, rfl, rfl, rfl, p1, p2, p3, p4⟩ | ⟨rfl, rfl, rfl, rfl, p1, ho⟩ | ⟨rfl, rfl, p1, ho, r1⟩ | ⟨rfl, rfl, p1, ho, c1, rfl, r1⟩ | ⟨rfl, rfl, p1, ho, r1⟩ | ⟨rfl, rfl, p1, ho, r1, p2⟩ | ⟨rfl, rfl, p1, ho, t1, rfl, r1, p2⟩ | ⟨rfl, rfl, r1⟩ | ⟨rfl, c1, c2, t1, rfl, r1, r2⟩ | ⟨rfl, rfl, rfl, rfl, p1⟩ | ⟨rfl, rfl, p1, r1⟩ | ⟨rfl, p1, c1, c2, t1, rfl, r1, r2⟩ | ⟨rfl, rfl, r1⟩ | ⟨rfl, c1, c2, t1, rfl, r1, r2⟩ | ⟨rfl, rfl, rfl, rfl, p1⟩ | ⟨rfl, rfl, p1, r1⟩ | ⟨rfl, p1, c1, c2, t1, rfl, r1, r2⟩
    · obtain ⟨d, rfl⟩ : ∃ d, D = d + 1 := ⟨D - 1, by omega⟩
      obtain ⟨q1, -⟩ := X61 (D := d) (by omega) hb hn hs ht hk hc hl
      refine ⟨g, ?_, hk, fun q => (by cases q), zF_rf⟩
      rw [H0 d rfl (by omega), if_neg (fun q => p1 (Or.inl q)), if_neg (fun q => p1 (Or.inr q)), q1 p2, z_bi]
      exact z_b0
    · obtain ⟨d, rfl⟩ : ∃ d, D = d + 1 := ⟨D - 1, by omega⟩
      obtain ⟨-, q1, -⟩ := X61 (D := d) (by omega) hb hn hs ht hk hc hl
      obtain ⟨h', e1, e2, e3⟩ := q1 p2 p3
      refine ⟨h', ?_, e2, fun q => (by cases q), e3⟩
      rw [H0 d rfl (by omega), if_neg (fun q => p1 (Or.inl q)), if_neg (fun q => p1 (Or.inr q)), e1, z_bi]
      exact z_b0
    · obtain ⟨d, rfl⟩ : ∃ d, D = d + 1 := ⟨D - 1, by omega⟩
      obtain ⟨-, -, q1, -⟩ := X61 (D := d) (by omega) hb hn hs ht hk hc hl
      obtain ⟨h', e1, e2, e3⟩ := q1 p2 p3 p4
      refine ⟨h', ?_, e2, fun q => (by cases q), e3⟩
      rw [H0 d rfl (by omega), if_neg (fun q => p1 (Or.inl q)), if_neg (fun q => p1 (Or.inr q)), e1, z_bi]
      exact z_b0
    · obtain ⟨d, rfl⟩ : ∃ d, D = d + 1 := ⟨D - 1, by omega⟩
      obtain ⟨-, -, -, q1⟩ := X61 (D := d) (by omega) hb hn hs ht hk hc hl
      obtain ⟨h', e1, e2, e3, e4⟩ := q1 p2 p3 p4
      refine ⟨h', ?_, e2, fun _ => e3, e4⟩
      rw [H0 d rfl (by omega), if_neg (fun q => p1 (Or.inl q)), if_neg (fun q => p1 (Or.inr q)), e1, z_bi]
      exact z_b1
    · obtain ⟨d, rfl⟩ : ∃ d, D = d + 1 := ⟨D - 1, by omega⟩
      refine ⟨g, ?_, hk, fun q => (by cases q), zF_rf⟩
      rw [H0 d rfl (by omega)]
      by_cases q : zwv B n t = 10631
      · rw [if_pos q, if_neg (by omega)]; rfl
      · rw [if_neg q, if_pos (p1.resolve_left q), if_neg (by omega)]; rfl
    · obtain ⟨d, rfl⟩ : ∃ d, D = d + 1 := ⟨D - 1, by omega⟩
      obtain ⟨h1, b1, b2, b3, b4⟩ := X68D (D := d) (by omega) hn ht hk
      obtain ⟨h2, c1, c2, -, c4⟩ := X r1 (by omega) a1.2.1 d 0 h1 l (by omega) (by omega) b3 b2 (zCo_k b4 hc) (by omega)
      have c1 : ai_X d 60 [.inr (.inr (27, 0, 16387)), .inl (nI (o + 1))] h1 = some ([.inl 0], h2) := c1
      refine ⟨h2, ?_, c2, fun q => (by cases q), zF_tr (zF_mono b4 zQk_p) c4⟩
      rw [H0 d rfl (by omega), if_pos p1, if_pos ho, b1, z_bv, c1, z_bi, if_pos rfl]
      exact z_b0
    · obtain ⟨d, rfl⟩ : ∃ d, D = d + 1 := ⟨D - 1, by omega⟩
      obtain ⟨h1, b1, b2, b3, b4⟩ := X68D (D := d) (by omega) hn ht hk
      obtain ⟨h2, c1x, c2, c3, c4⟩ := X r1 (by omega) a1.2.1 d 0 h1 l (by omega) (by omega) b3 b2 (zCo_k b4 hc) (by omega)
      have c1x : ai_X d 60 [.inr (.inr (27, 0, 16387)), .inl (nI (o + 1))] h1 = some ([.inl 1], h2) := c1x
      have ln := zpD_len r1 a1.2.1
      have lt := a1.2.2 (wd (by decide) p1)
      obtain ⟨h3, d1, d2, d3, d4, d5⟩ := X62D (D := d) (1, 0, 0, 0) (by omega) (zTb_F c4 b3) c2 (c3 rfl) (by rw [List.length_append]; omega)
      have d1 : ai_X d 62 [.inr (.inr (27, 0, 16387)), .inl (-1)] h2 = some ([], h3) := d1
      refine ⟨h3, ?_, d2, fun _ => by rw [← List.append_assoc]; exact d4, zF_tr (zF_mono b4 zQk_p) (zF_tr c4 d5)⟩
      rw [H0 d rfl (by omega), if_pos p1, if_pos ho, b1, z_bv, c1x, z_bi, if_neg (by decide), d1, z_bv]
      exact z_b1
    · obtain ⟨d, rfl⟩ : ∃ d, D = d + 1 := ⟨D - 1, by omega⟩
      obtain ⟨h1, b1, b2, b3, b4⟩ := X68D (D := d) (by omega) hn ht hk
      obtain ⟨h2, c1, c2, -, c4⟩ := X r1 (by omega) a1.2.1 d 0 h1 l (by omega) (by omega) b3 b2 (zCo_k b4 hc) (by omega)
      have c1 : ai_X d 58 [.inr (.inr (27, 0, 16387)), .inl (nI (o + 1))] h1 = some ([.inl 0], h2) := c1
      refine ⟨h2, ?_, c2, fun q => (by cases q), zF_tr (zF_mono b4 zQk_p) c4⟩
      rw [H0 d rfl (by omega), if_neg (fun q => by have := zwv_w (by decide) q; omega), if_pos p1, if_pos ho, b1, z_bv, c1, z_bi, if_pos rfl]
      exact z_b0
    · obtain ⟨d, rfl⟩ : ∃ d, D = d + 1 := ⟨D - 1, by omega⟩
      obtain ⟨h1, b1, b2, b3, b4⟩ := X68D (D := d) (by omega) hn ht hk
      obtain ⟨h2, c1, c2, -, c4⟩ := X r1 (by omega) a1.2.1 d 0 h1 l (by omega) (by omega) b3 b2 (zCo_k b4 hc) (by omega)
      have c1 : ai_X d 58 [.inr (.inr (27, 0, 16387)), .inl (nI (o + 1))] h1 = some ([.inl 1], h2) := c1
      have w41 : ai_X d 67 [.inr (.inr (27, 0, 16387)), .inl 41] h2 = _ := X67D 41 (by omega) hb c2 (by decide)
      refine ⟨h2, ?_, c2, fun q => (by cases q), zF_tr (zF_mono b4 zQk_p) c4⟩
      rw [H0 d rfl (by omega), if_neg (fun q => by have := zwv_w (by decide) q; omega), if_pos p1, if_pos ho, b1, z_bv, c1, z_bi, if_neg (by decide), w41, z_bi, zb_if, if_neg p2]
      exact z_b0
    · obtain ⟨d, rfl⟩ : ∃ d, D = d + 1 := ⟨D - 1, by omega⟩
      obtain ⟨h1, b1, b2, b3, b4⟩ := X68D (D := d) (by omega) hn ht hk
      obtain ⟨h2, c1, c2, c3, c4⟩ := X r1 (by omega) a1.2.1 d 0 h1 l (by omega) (by omega) b3 b2 (zCo_k b4 hc) (by omega)
      have c1 : ai_X d 58 [.inr (.inr (27, 0, 16387)), .inl (nI (o + 1))] h1 = some ([.inl 1], h2) := c1
      have ln := zpD_len r1 a1.2.1
      have w41 : ai_X d 67 [.inr (.inr (27, 0, 16387)), .inl 41] h2 = _ := X67D 41 (by omega) hb c2 (by decide)
      obtain ⟨h3, d1, d2, d3, d4⟩ := X68D (D := d) (by omega) hn (zTb_F c4 b3) c2
      refine ⟨h3, ?_, d2, fun _ => zCo_k d4 (c3 rfl), zF_tr (zF_mono b4 zQk_p) (zF_tr c4 (zF_mono d4 zQk_p))⟩
      rw [H0 d rfl (by omega), if_neg (fun q => by have := zwv_w (by decide) q; omega), if_pos p1, if_pos ho, b1, z_bv, c1, z_bi, if_neg (by decide), w41, z_bi, zb_if, if_pos p2, d1, z_bv]
      exact z_b1
    · obtain ⟨d, rfl⟩ : ∃ d, D = d + 1 := ⟨D - 1, by omega⟩
      obtain ⟨h2, c1, c2, -, c4⟩ := X r1 ho9 hs d 0 g l (by omega) (by omega) ht hk hc hl
      have c1 : ai_X d 60 [.inr (.inr (27, 0, 16387)), .inl (nI o)] g = some ([.inl 0], h2) := c1
      refine ⟨h2, ?_, c2, fun q => (by cases q), c4⟩
      show ai_X (d + 1) 59 [.inr (.inr (27, 0, 16387)), .inl (nI o)] g = _
      rw [T59, c1, z_bi, if_pos rfl]
      exact z_b0
    · obtain ⟨d, rfl⟩ : ∃ d, D = d + 1 := ⟨D - 1, by omega⟩
      obtain ⟨h2, e1, e2, e3, e4⟩ := X r1 ho9 hs d 0 g l (by omega) (by omega) ht hk hc hl
      have e1 : ai_X d 60 [.inr (.inr (27, 0, 16387)), .inl (nI o)] g = some ([.inl 1], h2) := e1
      have ln := zpD_len r1 hs
      obtain ⟨h3, d1, d2, d3, d4⟩ := X r2 ho9 ln.2.1 d 0 h2 (l ++ c1) (by omega) (by omega) (zTb_F e4 ht) e2 (e3 rfl) (by rw [List.length_append]; omega)
      have d1 : ai_E d 59 12 [some (.inr (.inr (27, 0, 16387))), some (.inl (nI o)), some (.inl (nI 0))] [] h2 = _ := d1
      refine ⟨h3, ?_, d2, fun q => by rw [← List.append_assoc]; exact d3 q, zF_tr e4 d4⟩
      show ai_X (d + 1) 59 [.inr (.inr (27, 0, 16387)), .inl (nI o)] g = _
      rw [T59, e1, z_bi, if_neg (by decide)]
      exact d1
    · have w17 : (g.1 16387 3 = 13) ↔ zwv B n _ = 1111 := (zsym hb hk (show 13 < 400 by decide)).trans (zsy_w (show 13 < 19 by decide))
      refine ⟨g, ?_, hk, fun _ => by rw [List.append_nil]; exact hc, zF_rf⟩
      show ai_E D 59 12 [some (.inr (.inr (27, 0, 16387))), some (.inl (nI o)), some (.inl (nI i))] [] g = _
      rw [T59_12, if_neg (fun q => p1 (w17.mp q))]
      by_cases q : (500 : Int32) ≤ nI i
      · rw [if_pos q]; exact z_b1
      · rw [if_neg q]; exact z_b1
    · have w17 : (g.1 16387 3 = 13) ↔ zwv B n _ = 1111 := (zsym hb hk (show 13 < 400 by decide)).trans (zsy_w (show 13 < 19 by decide))
      have lt := a1.2.2 (wd (by decide) p1)
      obtain ⟨h1, b1, b2, b3, b4⟩ := X68D (D := D) (by omega) hn ht hk
      obtain ⟨h2, c1, c2, -, c4⟩ := X r1 ho9 a1.2.1 D 0 h1 l (by omega) (by omega) b3 b2 (zCo_k b4 hc) (by omega)
      have c1 : ai_X D 60 [.inr (.inr (27, 0, 16387)), .inl (nI o)] h1 = some ([.inl 0], h2) := c1
      refine ⟨h2, ?_, c2, fun q => (by cases q), zF_tr (zF_mono b4 zQk_p) c4⟩
      show ai_E D 59 12 [some (.inr (.inr (27, 0, 16387))), some (.inl (nI o)), some (.inl (nI i))] [] g = _
      rw [T59_12, if_neg (by rw [show (500 : Int32) = nI 500 from rfl, nI_leI (by omega) (by omega)]; omega), if_pos (w17.mpr p1), b1, z_bv, c1, z_bi, if_pos rfl]
      exact z_b0
    · have w17 : (g.1 16387 3 = 13) ↔ zwv B n _ = 1111 := (zsym hb hk (show 13 < 400 by decide)).trans (zsy_w (show 13 < 19 by decide))
      have lt := a1.2.2 (wd (by decide) p1)
      obtain ⟨h1, b1, b2, b3, b4⟩ := X68D (D := D) (by omega) hn ht hk
      obtain ⟨h2, e1, e2, e3, e4⟩ := X r1 ho9 a1.2.1 D 0 h1 l (by omega) (by omega) b3 b2 (zCo_k b4 hc) (by omega)
      have e1 : ai_X D 60 [.inr (.inr (27, 0, 16387)), .inl (nI o)] h1 = some ([.inl 1], h2) := e1
      have ln := zpD_len r1 a1.2.1
      have := ln.2.2.2 rfl (Or.inl rfl)
      obtain ⟨h3, f1, f2, f3, f4, f5⟩ := X62D (D := D) (2, 0, 0, 0) (by omega) (zTb_F e4 b3) e2 (e3 rfl) (by rw [List.length_append]; omega)
      have f1 : ai_X D 62 [.inr (.inr (27, 0, 16387)), .inl (-2)] h2 = some ([], h3) := f1
      obtain ⟨h4, d1, d2, d3, d4⟩ := X r2 ho9 ln.2.1 D (i + 1) h3 (l ++ c1 ++ [(2, 0, 0, 0)]) (by omega) (by omega) f3 f2 f4 (by rw [List.length_append, List.length_append]; show _ + 1 ≤ _; omega)
      have d1 : ai_E D 59 12 [some (.inr (.inr (27, 0, 16387))), some (.inl (nI o)), some (.inl (nI (i + 1)))] [] h3 = _ := d1
      refine ⟨h4, ?_, d2, fun q => by have := d3 q; rw [List.append_assoc, List.append_assoc] at this; rw [List.append_assoc]; exact this, zF_tr (zF_mono b4 zQk_p) (zF_tr e4 (zF_tr f5 d4))⟩
      show ai_E D 59 12 [some (.inr (.inr (27, 0, 16387))), some (.inl (nI o)), some (.inl (nI i))] [] g = _
      rw [T59_12, if_neg (by rw [show (500 : Int32) = nI 500 from rfl, nI_leI (by omega) (by omega)]; omega), if_pos (w17.mpr p1), b1, z_bv, e1, z_bi, if_neg (by decide), f1, z_bv, nI_1]
      exact d1
    · obtain ⟨d, rfl⟩ : ∃ d, D = d + 1 := ⟨D - 1, by omega⟩
      obtain ⟨h2, c1, c2, -, c4⟩ := X r1 ho9 hs d 0 g l (by omega) (by omega) ht hk hc hl
      have c1 : ai_X d 59 [.inr (.inr (27, 0, 16387)), .inl (nI o)] g = some ([.inl 0], h2) := c1
      refine ⟨h2, ?_, c2, fun q => (by cases q), c4⟩
      show ai_X (d + 1) 58 [.inr (.inr (27, 0, 16387)), .inl (nI o)] g = _
      rw [T58, c1, z_bi, if_pos rfl]
      exact z_b0
    · obtain ⟨d, rfl⟩ : ∃ d, D = d + 1 := ⟨D - 1, by omega⟩
      obtain ⟨h2, e1, e2, e3, e4⟩ := X r1 ho9 hs d 0 g l (by omega) (by omega) ht hk hc hl
      have e1 : ai_X d 59 [.inr (.inr (27, 0, 16387)), .inl (nI o)] g = some ([.inl 1], h2) := e1
      have ln := zpD_len r1 hs
      obtain ⟨h3, d1, d2, d3, d4⟩ := X r2 ho9 ln.2.1 d 0 h2 (l ++ c1) (by omega) (by omega) (zTb_F e4 ht) e2 (e3 rfl) (by rw [List.length_append]; omega)
      have d1 : ai_E d 58 12 [some (.inr (.inr (27, 0, 16387))), some (.inl (nI o)), some (.inl (nI 0))] [] h2 = _ := d1
      refine ⟨h3, ?_, d2, fun q => by rw [← List.append_assoc]; exact d3 q, zF_tr e4 d4⟩
      show ai_X (d + 1) 58 [.inr (.inr (27, 0, 16387)), .inl (nI o)] g = _
      rw [T58, e1, z_bi, if_neg (by decide)]
      exact d1
    · have w18 : (g.1 16387 3 = 12) ↔ zwv B n _ = 423 := (zsym hb hk (show 12 < 400 by decide)).trans (zsy_w (show 12 < 19 by decide))
      refine ⟨g, ?_, hk, fun _ => by rw [List.append_nil]; exact hc, zF_rf⟩
      show ai_E D 58 12 [some (.inr (.inr (27, 0, 16387))), some (.inl (nI o)), some (.inl (nI i))] [] g = _
      rw [T58_12, if_neg (fun q => p1 (w18.mp q))]
      by_cases q : (500 : Int32) ≤ nI i
      · rw [if_pos q]; exact z_b1
      · rw [if_neg q]; exact z_b1
    · have w18 : (g.1 16387 3 = 12) ↔ zwv B n _ = 423 := (zsym hb hk (show 12 < 400 by decide)).trans (zsy_w (show 12 < 19 by decide))
      have lt := a1.2.2 (wd (by decide) p1)
      obtain ⟨h1, b1, b2, b3, b4⟩ := X68D (D := D) (by omega) hn ht hk
      obtain ⟨h2, c1, c2, -, c4⟩ := X r1 ho9 a1.2.1 D 0 h1 l (by omega) (by omega) b3 b2 (zCo_k b4 hc) (by omega)
      have c1 : ai_X D 59 [.inr (.inr (27, 0, 16387)), .inl (nI o)] h1 = some ([.inl 0], h2) := c1
      refine ⟨h2, ?_, c2, fun q => (by cases q), zF_tr (zF_mono b4 zQk_p) c4⟩
      show ai_E D 58 12 [some (.inr (.inr (27, 0, 16387))), some (.inl (nI o)), some (.inl (nI i))] [] g = _
      rw [T58_12, if_neg (by rw [show (500 : Int32) = nI 500 from rfl, nI_leI (by omega) (by omega)]; omega), if_pos (w18.mpr p1), b1, z_bv, c1, z_bi, if_pos rfl]
      exact z_b0
    · have w18 : (g.1 16387 3 = 12) ↔ zwv B n _ = 423 := (zsym hb hk (show 12 < 400 by decide)).trans (zsy_w (show 12 < 19 by decide))
      have lt := a1.2.2 (wd (by decide) p1)
      obtain ⟨h1, b1, b2, b3, b4⟩ := X68D (D := D) (by omega) hn ht hk
      obtain ⟨h2, e1, e2, e3, e4⟩ := X r1 ho9 a1.2.1 D 0 h1 l (by omega) (by omega) b3 b2 (zCo_k b4 hc) (by omega)
      have e1 : ai_X D 59 [.inr (.inr (27, 0, 16387)), .inl (nI o)] h1 = some ([.inl 1], h2) := e1
      have ln := zpD_len r1 a1.2.1
      have := ln.2.2.2 rfl (Or.inr (Or.inl rfl))
      obtain ⟨h3, f1, f2, f3, f4, f5⟩ := X62D (D := D) (3, 0, 0, 0) (by omega) (zTb_F e4 b3) e2 (e3 rfl) (by rw [List.length_append]; omega)
      have f1 : ai_X D 62 [.inr (.inr (27, 0, 16387)), .inl (-3)] h2 = some ([], h3) := f1
      obtain ⟨h4, d1, d2, d3, d4⟩ := X r2 ho9 ln.2.1 D (i + 1) h3 (l ++ c1 ++ [(3, 0, 0, 0)]) (by omega) (by omega) f3 f2 f4 (by rw [List.length_append, List.length_append]; show _ + 1 ≤ _; omega)
      have d1 : ai_E D 58 12 [some (.inr (.inr (27, 0, 16387))), some (.inl (nI o)), some (.inl (nI (i + 1)))] [] h3 = _ := d1
      refine ⟨h4, ?_, d2, fun q => by have := d3 q; rw [List.append_assoc, List.append_assoc] at this; rw [List.append_assoc]; exact this, zF_tr (zF_mono b4 zQk_p) (zF_tr e4 (zF_tr f5 d4))⟩
      show ai_E D 58 12 [some (.inr (.inr (27, 0, 16387))), some (.inl (nI o)), some (.inl (nI i))] [] g = _
      rw [T58_12, if_neg (by rw [show (500 : Int32) = nI 500 from rfl, nI_leI (by omega) (by omega)]; omega), if_pos (w18.mpr p1), b1, z_bv, e1, z_bi, if_neg (by decide), f1, z_bv, nI_1]
      exact d1
