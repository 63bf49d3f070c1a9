/-! A TEXT WHOLE: both sides -/
theorem zfl_cons {q : zTx} {L : List zTx} : zfl (q :: L) = q.2.2 ++ zfl L := rfl
theorem zXL_at {h : ai_H} : ∀ {L k p i q}, zXL h k p L → L[i]? = some q → h.1 2097547 (k + i) = q.1 ∧ h.1 2097548 (k + i) = q.2.1 ∧ h.1 2097549 (k + i) = nI (p + (zfl (L.take (i + 1))).length) := by
  intro L
  induction L with
  | nil => intro k p i q _ e; cases e
  | cons a L ih =>
    intro k p i q hx e
    obtain ⟨⟨x1, x2, x3⟩, x4⟩ := hx
    cases i with
    | zero =>
      cases e
      refine ⟨x1, x2, ?_⟩
      rw [List.take_succ_cons, List.take_zero, zfl_cons]
      show h.1 2097549 k = nI (p + (a.2.2 ++ []).length)
      rw [List.append_nil]; exact x3
    | succ i =>
      obtain ⟨y1, y2, y3⟩ := ih x4 (show L[i]? = some q from e)
      rw [show k + (i + 1) = k + 1 + i by omega]
      refine ⟨y1, y2, ?_⟩
      rw [y3, List.take_succ_cons, zfl_cons, List.length_append, Nat.add_assoc]
theorem zRL_at {h : ai_H} : ∀ {L k p i q}, zRL h k p L → L[i]? = some q → zSr h (k + i) q.1 q.2.1 (p + (zfl (L.take i)).length) (p + (zfl (L.take (i + 1))).length) := by
  intro L
  induction L with
  | nil => intro k p i q _ e; cases e
  | cons a L ih =>
    intro k p i q hx e
    obtain ⟨x1, x4⟩ := hx
    cases i with
    | zero =>
      cases e
      rw [List.take_succ_cons, List.take_zero, zfl_cons]
      show zSr h k a.1 a.2.1 (p + 0) (p + (a.2.2 ++ []).length)
      rw [List.append_nil]; exact x1
    | succ i =>
      have := ih x4 (show L[i]? = some q from e)
      rw [show k + (i + 1) = k + 1 + i by omega, List.take_succ_cons, zfl_cons, List.length_append, List.take_succ_cons, zfl_cons, List.length_append, ← Nat.add_assoc, ← Nat.add_assoc]
      exact this
/-- a text as the class's Law has it -/
def zltx (L : List zTx) : List (Int32 × Int32 × List Int32) := L.map (fun q => (q.1, q.2.1, q.2.2.map zenq))
theorem zlx_fl {L : List zTx} : zflat (zltx L) = (zfl L).map zenq := by
  induction L with
  | nil => rfl
  | cons a L ih =>
    show (a.2.2.map zenq) ++ zflat (zltx L) = (a.2.2 ++ zfl L).map zenq
    rw [ih, List.map_append]
theorem zlx_tk {L : List zTx} {i : Nat} : (zltx L).take i = zltx (L.take i) := by
  unfold zltx
  rw [List.map_take]
def zQw (q j : Nat) : Prop := (q = 16387 ∧ 2 ≤ j) ∨ (2097543 ≤ q ∧ q ≤ 2097550)
theorem X55 {h : ai_H} {B : Nat → Nat} {n f t : Nat} {tr b : Bool} {L : List zTx} (d : Nat) (hd : 38 ≤ d) (hb : ∀ i, B i < 256) (hn : n ≤ 500) (tp : ∀ i, i < n → h.1 2097537 i = nI (B i)) (hy : 16128 < ai_dn h) (r : zpL B n tr f 0 (zsk B n 0) L t b) :
    (b = false → ∃ h', ai_X (d + 1) 55 [.inr (.inr (27, 0, 16387)), .inl (nI n), .inl (zb (tr = true))] h = some ([.inr (.inr (0, 0, 0))], h') ∧ h'.1 16387 2 = nI t ∧ zF zQw h h') ∧
    (b = true → ∃ h', ai_X (d + 1) 55 [.inr (.inr (27, 0, 16387)), .inl (nI n), .inl (zb (tr = true))] h = some ([.inr (.inr (24, 0, ai_dn h))], h') ∧ zLw h' (ai_dn h) (zltx L) ∧ (∀ q j, (∀ k, k < 5 → ¬ q = ai_dn h + 128 * k) → ¬ zQw q j → h'.1 q j = h.1 q j) ∧ (∀ q, (∀ k, k < 5 → ¬ q = ai_dn h + 128 * k) → h'.2.2.2.1 q = h.2.2.2.1 q ∧ h'.2.2.1 q = h.2.2.1 q) ∧ L.length ≤ 24 ∧ (zfl L).length ≤ n ∧ ai_dn h' = ai_dn h + 640 ∧ zct 5 (4 + L.length + L.length + L.length + (zfl L).length) h h') := by
  obtain ⟨e, rfl⟩ : ∃ e, d = e + 7 := ⟨d - 7, by omega⟩
  obtain ⟨g0, p1, p2, p3⟩ := X57 e hb hn tp
  obtain ⟨g, eg⟩ : ∃ g, ai_st (ai_st g0 16387 9 0) 16387 4 (-1) = g := ⟨_, rfl⟩
  have f0 : zF zQw h g0 := zF_mono p3 fun q j hq => by unfold zQc at hq; unfold zQw; omega
  have fg : zF zQw h g := by rw [← eg]; exact zF_st (zF_st f0 (Or.inl ⟨rfl, by decide⟩)) (Or.inl ⟨rfl, by decide⟩)
  have t0 : zTb g B n := zTb_c (fun q j hq => by rw [← eg, z_st1, z_st1, if_neg (by omega), if_neg (by omega)]) p2
  have g4 : g.1 16387 4 = -1 := by rw [← eg, z_stS]
  have g9 : g.1 16387 9 = nI 0 := by rw [← eg, z_nj (by decide), z_stS]; rfl
  obtain ⟨g1, a1, a2, a3⟩ := X68f (e + 6) hn t0 g4
  have f1 : zF zQw h g1 := zF_tr fg (zF_mono a3 fun q j hq => Or.inl ⟨hq.1, by rcases hq.2 with w | w | w <;> omega⟩)
  have t1 : zTb g1 B n := zTb_F (zF_mono a3 zQk_p) t0
  have c1 : zCo g1 [] := ⟨by rw [a3.1 _ _ (by unfold zQk; omega)]; exact g9, fun i v hi => by cases hi⟩
  have I := X55L (d := e + 7) (z1 := some (.inl (nI n))) hd hb hn f 0 (zsk B n 0) L t b [] g1 r (zsk_le (Nat.zero_le n)).2 (by decide) t1 a2 c1 (Nat.zero_le _)
  have T : ai_X (e + 7 + 1) 55 [.inr (.inr (27, 0, 16387)), .inl (nI n), .inl (zb (tr = true))] h = ai_E (e + 7) 55 24 [some (.inr (.inr (27, 0, 16387))), some (.inl (nI n)), some (.inl (zb (tr = true))), some (.inl (nI 0)), some (.inl (nI 0))] [] g1 := by
    rw [T55, p1, z_bv, eg, a1, z_bv]
    rfl
  have up : ∀ q j, zQt 0 q j → zQw q j := fun q j hq => by
    unfold zQt zQp at hq
    unfold zQw
    omega
  rw [T]
  refine ⟨fun q => ?_, fun q => ?_⟩
  · obtain ⟨h', x1, x2, x3⟩ := I.1 q
    exact ⟨h', x1, x2, zF_tr f1 (zF_mono x3 up)⟩
  · obtain ⟨w, x1, x2, x4, x5, x6, x7⟩ := I.2 q
    rw [Nat.zero_add] at x1 x4
    rw [List.nil_append] at x2 x5
    have fw : zF zQw h w := zF_tr f1 (zF_mono x7 up)
    have dw : ai_dn w = ai_dn h := by unfold ai_dn; rw [fw.2]
    obtain ⟨h', y1, y2, ⟨r0, r1, r2, r3⟩, ⟨l0, l1, l2, l3⟩, ⟨v1, v2⟩, y6⟩ := zx55_ok (e + 6) x2.1 x4 (by omega) (ai_dn h) dw
    have y0 : ai_dn h % 128 = 0 := by unfold ai_dn; omega
    have ct : zct 5 (4 + L.length + L.length + L.length + (zfl L).length) h h' := by
      unfold zct at y6 ⊢
      rw [fw.2] at y6
      exact y6
    have dh : ai_dn h' = ai_dn h + 640 := zdn_ct ct
    have lx : (zltx L).length = L.length := by unfold zltx; rw [List.length_map]
    have lf : (zflat (zltx L)).length = (zfl L).length := by rw [zlx_fl, List.length_map]
    refine ⟨h', x1.trans y1, ⟨⟨y0, by omega, by omega⟩, ai_dn h + 128, ai_dn h + 256, ai_dn h + 384, ai_dn h + 512, ⟨⟨by omega, by omega, by omega⟩, ⟨by omega, by omega, by omega⟩, ⟨by omega, by omega, by omega⟩, ⟨by omega, by omega, by omega⟩⟩, r0, r1, r2, r3, by rw [lx]; exact l0, by rw [lx]; exact l1, by rw [lx]; exact l2, by rw [lf]; exact l3, fun i p hi => ?_, fun i v hi => ?_⟩, fun q j hq hj => by rw [(y2 q hq).1]; exact fw.1 q j hj, fun q hq => ⟨by rw [(y2 q hq).2.1, fw.2], by rw [(y2 q hq).2.2, fw.2]⟩, x4, x5, dh, ct⟩
    · unfold zltx at hi
      rw [List.getElem?_map] at hi
      cases e1 : L[i]? with
      | none => rw [e1] at hi; cases hi
      | some a =>
        rw [e1] at hi
        cases hi
        have il : i < L.length := (List.getElem?_eq_some_iff.mp e1).1
        obtain ⟨k1, k2, k3⟩ := zXL_at x6 e1
        obtain ⟨j1, j2, j3⟩ := v1 i il
        rw [Nat.zero_add] at k1 k2 k3
        refine ⟨j1.trans k1, j2.trans k2, ?_⟩
        rw [j3, k3, zlx_tk, zlx_fl, List.length_map]
        show nI (0 + _) = _
        rw [Nat.zero_add]
    · rw [zlx_fl, List.getElem?_map] at hi
      cases e1 : (zfl L)[i]? with
      | none => rw [e1] at hi; cases hi
      | some a =>
        rw [e1] at hi
        cases hi
        rw [v2 i (List.getElem?_eq_some_iff.mp e1).1]
        exact x2.2 i a e1
/-- reads -/
def zQz (w0 p q j : Nat) : Prop := (q = 16128 ∧ (j = 42 ∨ j = 48 ∨ 50 ≤ j)) ∨ (2064428 ≤ q ∧ q ≤ 2064431 ∧ w0 ≤ j) ∨ q = 2064442 ∨ q = 2064443 ∨ (q = 2064421 ∧ (j = 6 ∨ j = p)) ∨ (2064423 ≤ q ∧ q ≤ 2064426 ∧ (144 ≤ j ∨ (24 * p ≤ j ∧ j < 24 * p + 24)))
theorem M237 {h : ai_H} {B : Nat → Nat} {n f t w0 p : Nat} {tr b : Bool} {L : List zTx} (e : Nat) (hb : ∀ i, B i < 256) (hn : n ≤ 500) (tp : ∀ i, i < n → h.1 2064432 i &&& 255 = nI (B i)) (h42 : h.1 16128 42 = nI w0) (hw : w0 ≤ 19000) (hp : p < 6) (r : zpL B n tr f 0 (zsk B n 0) L t b) :
    (b = false → ∃ h', ai_X (e + 7) 237 [.inr (.inr (32, 0, 16128)), .inl (nI n), .inl (zb (tr = true)), .inl (nI p)] h = some ([.inl 0], h') ∧ h'.1 16128 49 = nI t ∧ h'.1 16128 42 = nI w0 ∧ h'.1 16128 48 = 0 ∧ zGf (zQz w0 p) h h' ∧ (∀ j, j < 6 → h'.1 2064421 j = h.1 2064421 j) ∧ ∀ q j, 2064423 ≤ q → q ≤ 2064426 → j < 144 → h'.1 q j = h.1 q j) ∧
    (b = true → ∃ h', ai_X (e + 7) 237 [.inr (.inr (32, 0, 16128)), .inl (nI n), .inl (zb (tr = true)), .inl (nI p)] h = some ([.inl 1], h') ∧ h'.1 16128 49 = -1 ∧ h'.1 16128 48 = 0 ∧ zWr h' w0 (zfl L) ∧ h'.1 2064421 p = nI L.length ∧ (∀ i q, i < 24 → L[i]? = some q → h'.1 2064423 (24 * p + i) = vp_nar .boolean q.1 ∧ h'.1 2064424 (24 * p + i) = q.2.1 ∧ h'.1 2064425 (24 * p + i) = nI (w0 + (zfl (L.take i)).length) ∧ h'.1 2064426 (24 * p + i) = nI (w0 + (zfl (L.take (i + 1))).length)) ∧ zGf (zQz w0 p) h h') := by
  obtain ⟨g, eg⟩ : ∃ g, ai_st (ai_st (ai_st (ai_st (ai_st h 16128 50 (nI n)) 16128 48 0) 16128 51 0) 16128 49 (-1)) 16128 56 0 = g := ⟨_, rfl⟩
  obtain ⟨g1, eg1⟩ : ∃ w, ai_st g 2064421 6 0 = w := ⟨_, rfl⟩
  have o15 : ∀ j, ¬ (j = 48 ∨ j = 49 ∨ j = 50 ∨ j = 51 ∨ j = 56) → g.1 16128 j = h.1 16128 j := fun j hj => by rw [← eg, z_nj (by omega), z_nj (by omega), z_nj (by omega), z_nj (by omega), z_nj (by omega)]
  have oo : ∀ q, ¬ q = 16128 → g.1 q = h.1 q := fun q hq => by rw [← eg, z_ne hq, z_ne hq, z_ne hq, z_ne hq, z_ne hq]
  have p15 : g1.1 16128 = g.1 16128 := by rw [← eg1, z_ne (by decide)]
  have po : ∀ q, ¬ q = 2064421 → g1.1 q = g.1 q := fun q hq => by rw [← eg1, z_ne hq]
  have fg : zGf (zQz w0 p) h g1 := by
    rw [← eg1, ← eg]
    exact zG_st (zG_st (zG_st (zG_st (zG_st (zG_st zG_rf (Or.inl (Or.inl ⟨rfl, by decide⟩))) (Or.inl (Or.inl ⟨rfl, by decide⟩))) (Or.inl (Or.inl ⟨rfl, by decide⟩))) (Or.inr ⟨rfl, rfl⟩)) (Or.inl (Or.inl ⟨rfl, by decide⟩))) (Or.inl (Or.inr (Or.inr (Or.inr (Or.inr (Or.inl ⟨rfl, Or.inl rfl⟩))))))
  have u1 : zUb g1 B n := ⟨by rw [p15, ← eg, z_nj (by decide), z_nj (by decide), z_nj (by decide), z_nj (by decide), z_stS], fun i hi => by rw [po _ (by decide), oo _ (by decide)]; exact tp i hi⟩
  have h51 : g1.1 16128 51 = nI 0 := by rw [p15, ← eg, z_nj (by decide), z_nj (by decide), z_stS]; rfl
  have h56 : g1.1 16128 56 = 0 := by rw [p15, ← eg, z_stS]
  have h49 : g1.1 16128 49 = -1 := by rw [p15, ← eg, z_nj (by decide), z_stS]
  have h48 : g1.1 16128 48 = 0 := by rw [p15, ← eg, z_nj (by decide), z_nj (by decide), z_nj (by decide), z_stS]
  have h42' : g.1 16128 42 = nI w0 := by rw [o15 42 (by decide)]; exact h42
  obtain ⟨g2, a1, a2, a3⟩ := M226 (e + 4) hb hn (Nat.zero_le n) u1 h51
  have a1 : ai_X (e + 6) 226 [.inr (.inr (32, 0, 16128))] g1 = some ([], g2) := a1
  have q15 : ∀ j, (j < 51 ∨ 54 < j) → g2.1 16128 j = g1.1 16128 j := fun j hj => a3.1 _ _ (by unfold zQu; omega)
  have qo : ∀ q j, ¬ q = 16128 → g2.1 q j = g1.1 q j := fun q j hq => a3.1 _ _ (by unfold zQu; omega)
  have R : zRs B n w0 g2 (zsk B n 0) [] := ⟨⟨⟨by rw [q15 50 (by decide)]; exact u1.1, fun i hi => by rw [qo _ _ (by decide)]; exact u1.2 i hi⟩, a2, by rw [q15 56 (by decide)]; exact h56⟩, by rw [q15 42 (by decide), p15]; exact h42', fun i q hi => by cases hi⟩
  have s6 : g2.1 2064421 6 = nI 0 := by rw [qo _ _ (by decide), ← eg1, z_stS]; rfl
  have f2 : zGf (zQz w0 p) h g2 := zGf_r fg (zG_mono a3 fun q j hq => Or.inl ⟨hq.1, by have := hq.2.1; omega⟩)
  have mm : ∀ q j, zQl w0 0 q j → zQz w0 p q j := fun q j hq => by
    unfold zQl zQm at hq
    unfold zQz
    omega
  obtain ⟨I1, I2⟩ := M237L (w0 := w0) (p := p) (z1 := some (.inl (nI n))) (z5 := none) e hb hn hw (by omega) f 0 (zsk B n 0) L t b [] g2 r (zsk_le (Nat.zero_le n)).2 (by decide) R (Nat.zero_le _) s6
  have T : ai_X (e + 7) 237 [.inr (.inr (32, 0, 16128)), .inl (nI n), .inl (zb (tr = true)), .inl (nI p)] h = ai_E (e + 6) 237 23 [some (.inr (.inr (32, 0, 16128))), some (.inl (nI n)), some (.inl (zb (tr = true))), some (.inl (nI p)), some (.inl (nI w0)), none] [] g2 := by
    have T0 : ai_X (e + 7) 237 [.inr (.inr (32, 0, 16128)), .inl (nI n), .inl (zb (tr = true)), .inl (nI p)] h = _ := T237 (e + 6) _ _ _ h
    have T1 : ai_X (e + 6) 236 [.inr (.inr (32, 0, 16128)), .inl (nI n)] h = _ := T236 (e + 5) (nI n) h
    rw [T0, T1, eg, z_b0, z_bv, show (6 : Int32) = nI 6 from rfl, z_ix (by decide) (by decide), eg1, a1, z_bv, h42']
  rw [T]
  have k48 : ∀ {h'}, (zGf (zQl w0 0) g2 h' ∨ zG (zQl w0 0) g2 h') → h'.1 16128 48 = 0 := fun {h'} c => by
    rcases c with c | c
    · rw [c.1 _ _ (by unfold zQl zQm; omega), q15 48 (by decide)]; exact h48
    · rw [c.1 _ _ (by unfold zQl zQm; omega), q15 48 (by decide)]; exact h48
  refine ⟨fun q => ?_, fun q => ?_⟩
  · obtain ⟨h', x1, x2, x3, x4⟩ := I1 q
    refine ⟨h', x1, x2, x3, k48 (Or.inl x4), zG_tr f2 (zGf_mono x4 mm), fun j hj => ?_, fun q j h1 h2 hj => ?_⟩
    · rw [x4.1 _ _ (by unfold zQl zQm; omega), qo _ _ (by decide), ← eg1, z_nj (by omega), oo _ (by decide)]
    · rw [x4.1 _ _ (by unfold zQl zQm; omega), qo _ _ (by omega), po _ (by omega), oo _ (by omega)]
  · obtain ⟨w, x1, x2, x3, x4⟩ := I2 q
    rw [Nat.zero_add] at x1
    obtain ⟨w1, ew⟩ : ∃ v, ai_st w 2064421 p (nI L.length) = v := ⟨_, rfl⟩
    rw [ew] at x1
    obtain ⟨h', y1, y2, y3⟩ := M237c (p := p) (z1 := some (.inl (nI n))) (z2 := some (.inl (zb (tr = true)))) (z4 := some (.inl (nI w0))) (e + 6) hp 24 0 w1 (by decide)
    have fw : zGf (zQz w0 p) h w := zGf_r f2 (zG_mono x4 mm)
    have fh : zGf (zQz w0 p) h h' := by
      have f3 : zGf (zQz w0 p) h w1 := by rw [← ew]; exact zG_st fw (Or.inl (Or.inr (Or.inr (Or.inr (Or.inr (Or.inl ⟨rfl, Or.inr rfl⟩))))))
      refine zG_tr f3 ⟨fun q j hn => y2.1 q j (fun c => hn ?_), by rw [y2.2]⟩
      unfold zQz
      omega
    have wo : ∀ q, ¬ q = 2064421 → w1.1 q = w.1 q := fun q hq => by rw [← ew, z_ne hq]
    have h15 : ∀ j, h'.1 16128 j = w.1 16128 j := fun j => by rw [y2.1 _ _ (by omega), wo _ (by decide)]
    rw [List.nil_append] at x2
    refine ⟨h', x1.trans y1, ?_, ?_, ⟨?_, fun i q hi => ?_⟩, ?_, fun i q hi hq => ?_, fh⟩
    · rw [h15, x4.1 _ _ (by unfold zQl zQm; omega), q15 49 (by decide)]; exact h49
    · rw [h15]; exact k48 (Or.inr x4)
    · rw [h15]; exact x2.2.1
    · have := x2.2.2 i q hi
      unfold zSc at this ⊢
      rw [y2.1 _ _ (by omega), y2.1 _ _ (by omega), y2.1 _ _ (by omega), y2.1 _ _ (by omega), wo _ (by decide), wo _ (by decide), wo _ (by decide), wo _ (by decide)]
      exact this
    · rw [y2.1 _ _ (by omega), ← ew, z_stS]
    · obtain ⟨k1, k2, k3, k4⟩ := zRL_at x3 hq
      obtain ⟨m1, m2⟩ := y3 i (Nat.zero_le i) hi
      refine ⟨by rw [m1, wo _ (by decide)]; exact congrArg _ k1, by rw [m2 _ (by decide) (by decide), wo _ (by decide)]; exact k2, ?_, ?_⟩
      · rw [m2 _ (by decide) (by decide), wo _ (by decide)]
        exact k3
      · rw [m2 _ (by decide) (by decide), wo _ (by decide)]
        exact k4
