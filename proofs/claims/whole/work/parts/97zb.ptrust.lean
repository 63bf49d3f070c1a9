/-! TRUST: both sides -/
theorem zw19 {w T : Nat} (h : w ≤ 15000 + 500 * (T + 1)) (h5 : T ≤ 5) : w ≤ 19000 := by
  have : 500 * (T + 1) ≤ 500 * 6 := Nat.mul_le_mul_left _ (Nat.succ_le_succ h5)
  exact Nat.le_trans h (Nat.le_trans (Nat.add_le_add_left this 15000) (by decide))
theorem zw18 {w T : Nat} (h : w ≤ 15000 + 500 * (T + 1)) (h5 : T < 5) : w ≤ 18000 := by
  have : 500 * (T + 1) ≤ 500 * 5 := Nat.mul_le_mul_left _ h5
  exact Nat.le_trans h (Nat.le_trans (Nat.add_le_add_left this 15000) (by decide))
theorem P_trust {x1 x2 x3 : Int32} : zPr 109 240 [.inl x1, .inl x2, .inl x3] := by
  intro d h hr
  obtain ⟨r1, r2, r3, r4⟩ := id hr
  obtain ⟨⟨vi32, vi33, vi34, vi35, vi48, vi49⟩, -, -, -, -, -, vS, -⟩ := r2
  obtain ⟨t1, t2⟩ := r1.2.2.2.2.1
  have rT := r1.2.2.2.2.2.1
  obtain ⟨m, hm⟩ : ∃ m, zg (zMv h) 48 = m := ⟨_, rfl⟩
  obtain ⟨T, hT⟩ : ∃ T, zg (zMv h) 33 = T := ⟨_, rfl⟩
  obtain ⟨w0, hw0⟩ : ∃ w, zg (zMv h) 42 = w := ⟨_, rfl⟩
  have e48 : (zMv h).2 48 = nI m := by rw [← hm]; exact z_nat vi48.1
  have e33 : (zMv h).2 33 = nI T := by rw [← hT]; exact z_nat vi33.1
  have e42 : (zMv h).2 42 = nI w0 := by rw [← hw0]; exact z_nat vS.1.1
  have m5 : m ≤ 500 := by rw [← hm]; unfold zi at vi48; unfold zg; omega
  have T5 : T ≤ 5 := by rw [← hT]; unfold zi at vi33; unfold zg; omega
  have w18 : w0 ≤ 15000 + 500 * (T + 1) := by
    have := vS.1
    unfold zi at this
    rw [hT] at this
    rw [← hw0]
    unfold zg
    omega
  have w19 : w0 ≤ 19000 := zw19 w18 T5
  have w18k : T < 5 → w0 ≤ 18000 := fun h => zw18 w18 h
  have p6k : T < 5 → 1 + T < 6 := fun h => by omega
  have c48 : h.1 16387 1 = nI m := t1.trans e48
  have s48 : h.1 16128 48 = nI m := by rw [← zMv2 (by decide)]; exact e48
  have s33 : h.1 16128 33 = nI T := by rw [← zMv2 (by decide)]; exact e33
  have s42 : h.1 16128 42 = nI w0 := by rw [← zMv2 (by decide)]; exact e42
  have cT : h.1 16388 0 = nI T := rT.trans e33
  have x52 : ai_X (d + 59) 52 [.inr (.inr (27, 0, 16387)), .inl x1] h = _ := X52 (d + 58) x1 c48 m5
  have x146a : ai_X (d + 59) 146 [.inl x2, .inl 16777215] h = some ([.inl (zb (0 ≤ x2.toInt ∧ x2.toInt ≤ 16777215))], h) := X146 (d + 58) x2 16777215 h
  have x146b : ai_X (d + 59) 146 [.inl x3, .inl 99999] h = some ([.inl (zb (0 ≤ x3.toInt ∧ x3.toInt ≤ 99999))], h) := X146 (d + 58) x3 99999 h
  have X : ai_X (d + 60) 109 [.inr (.inr (31, 0, 128)), .inl x1, .inl x2, .inl x3] h = _ := T109 (d + 59) x1 x2 x3 h
  have M : ∀ g, ai_X (d + 60) 240 [.inr (.inr (32, 0, 16128)), .inl x1, .inl x2, .inl x3] g = _ := fun g => T240 (d + 59) x1 x2 x3 g
  have m186a : ∀ g, ai_X (d + 59) 186 [.inl x2, .inl 0, .inl 16777215] g = some ([.inl (zb (0 ≤ x2.toInt ∧ x2.toInt ≤ 16777215))], g) := fun g => M186 (d + 58) x2 0 16777215 g
  have m186b : ∀ g, ai_X (d + 59) 186 [.inl x3, .inl 0, .inl 99999] g = some ([.inl (zb (0 ≤ x3.toInt ∧ x3.toInt ≤ 99999))], g) := fun g => M186 (d + 58) x3 0 99999 g
  rw [x52, z_bi, zb_if] at X
  by_cases c1 : 0 ≤ x1.toInt ∧ x1.toInt ≤ (m : Int)
  · rw [if_pos c1, x146a, z_bi, zb_if] at X
    have n1 : ¬ x1 < 0 := by rw [z_lt, zl0]; omega
    have n2 : ¬ nI m < x1 := by rw [z_lt, z_T (by omega)]; omega
    by_cases c2 : 0 ≤ x2.toInt ∧ x2.toInt ≤ 16777215
    · rw [if_pos c2, x146b, z_bi, zb_if] at X
      by_cases c3 : 0 ≤ x3.toInt ∧ x3.toInt ≤ 99999
      · rw [if_pos c3, cT] at X
        by_cases c4 : T < 5
        · rw [if_pos (by rw [show (5 : Int32) = nI 5 from rfl, nI_ltI (by omega) (by omega)]; exact c4)] at X
          obtain ⟨n, hn⟩ : ∃ n, x1.toInt.toNat = n := ⟨_, rfl⟩
          have ex1 : x1 = nI n := by rw [← hn]; exact z_nat c1.1
          have hn5 : n ≤ 500 := by omega
          obtain ⟨B, hB⟩ : ∃ B : Nat → Nat, ∀ i, B i < 256 ∧ (zMv h).1 47 i &&& 255 = nI (B i) := ⟨fun i => Classical.choose (z255 ((zMv h).1 47 i)), fun i => Classical.choose_spec (z255 ((zMv h).1 47 i))⟩
          have hb : ∀ i, B i < 256 := fun i => (hB i).1
          have tpc : ∀ i, i < n → h.1 2097537 i = nI (B i) := fun i hi => (t2 i (by omega)).trans (hB i).2
          have tpm : ∀ i, h.1 2064432 i &&& 255 = nI (B i) := fun i => by
            have := (hB i).2
            rw [zMv1 (by decide)] at this
            exact this
          obtain ⟨L, t, b, r⟩ := zpL_ex (B := B) (n := n) (tr := true) (n + 1) 0 (zsk B n 0) (zsk_le (Nat.zero_le n)).2 (by decide) (by omega)
          obtain ⟨gd, tl1, tl2⟩ := zpL_good r (zsk_le (Nat.zero_le n)).2
          obtain ⟨xb, xg⟩ := X55 (d + 58) (by omega) hb hn5 tpc r4 r
          cases b with
          | false =>
            obtain ⟨g, a1, a2, a3⟩ := xb rfl
            have a1 : ai_X (d + 59) 55 [.inr (.inr (27, 0, 16387)), .inl x1, .inl 1] h = some ([.inr (.inr (0, 0, 0))], g) := by rw [ex1]; exact a1
            have x165 : ai_X (d + 59) 165 [.inr (.inr (31, 0, 128)), .inl (nI t)] g = _ := T165 (d + 58) (nI t) g
            rw [a1, z_br, if_pos rfl, a2, x165, z_bv, if_pos rfl] at X
            obtain ⟨h1, eh1⟩ : ∃ w, ai_st (ai_st g 16387 1 0) 128 11 (nI t) = w := ⟨_, rfl⟩
            rw [eh1] at X
            have o1 : ∀ q j, ¬ (q = 16387 ∧ 1 ≤ j) → ¬ (q = 128 ∧ j = 11) → ¬ (2097543 ≤ q ∧ q ≤ 2097550) → h1.1 q j = h.1 q j := fun q j n1 n2 n3 => by
              rw [← eh1, z_st1, if_neg n2, z_st1, if_neg (by omega), a3.1 q j (by unfold zQw; omega)]
            have p1 : h1.2 = h.2 := by rw [← eh1]; exact a3.2
            have q15 : ∀ j, h1.1 16128 j = h.1 16128 j := fun j => o1 _ _ (by omega) (by omega) (by omega)
            obtain ⟨mb, -⟩ := M237 (h := h1) (p := 1 + T) (w0 := w0) (d + 52) hb hn5 (fun i hi => by rw [o1 _ _ (by omega) (by omega) (by omega)]; exact tpm i) (by rw [q15]; exact s42) w19 (p6k c4) r
            obtain ⟨h2, b1, b2, b3, b4, b5, b6, b7⟩ := mb rfl
            have b1 : ai_X (d + 59) 237 [.inr (.inr (32, 0, 16128)), .inl x1, .inl 1, .inl (1 + nI T)] h1 = some ([.inl 0], h2) := by
              rw [ex1, show (1 : Int32) + nI T = nI (1 + T) by rw [show (1 : Int32) = nI 1 from rfl, nI_add]]
              exact b1
            have M2 := M h1
            rw [if_neg n1, (q15 48).trans s48, if_neg n2, m186a, z_bi, zb_if] at M2
            rw [if_pos c2, m186b, z_bi, zb_if, if_pos c3, q15, s33, if_neg (by rw [show (5 : Int32) = nI 5 from rfl, nI_eq (by omega) (by omega)]; omega), b1, z_bi, if_pos rfl] at M2
            have e2 : h2.2.2 = h.2.2 := by rw [b5.2, p1]
            refine ⟨-1, h1, h2, X, M2, zR_tbad (w0 := w0) (p := 1 + T) (t := t) hr s42 (fun q j hq => ?_) e2 (by omega) (by omega) ?_ ?_ b2 b3 b4 (fun j hj => ?_) (fun q j h1' h2' hj => ?_), ?_⟩
            · rw [b5.1 q j (fun c => hq (Or.inr (Or.inr (Or.inr c)))), o1 q j (fun c => hq (Or.inl c)) (fun c => hq (Or.inr (Or.inl c))) (fun c => hq (Or.inr (Or.inr (Or.inl c))))]
            · rw [b5.1 _ _ (by unfold zQz; omega), ← eh1, z_stS]
            · rw [b5.1 _ _ (by unfold zQz; omega), ← eh1, z_ne (by decide), z_stS]
            · rw [b6 j hj, o1 _ _ (by omega) (by omega) (by omega)]
            · rw [b7 q j h1' h2' hj, o1 _ _ (by omega) (by omega) (by omega)]
            · unfold zK
              rw [e2]
              omega
          | true =>
            obtain ⟨g, a1, a2, a3, a4, a5, a6, a7, a8⟩ := xg rfl
            obtain ⟨y, hy⟩ : ∃ y, ai_dn h = y := ⟨_, rfl⟩
            rw [hy] at a1 a2 a3 a4 a7
            have y0 : y % 128 = 0 := by rw [← hy]; unfold ai_dn; omega
            have y1 : 16128 < y := by rw [← hy]; exact r4
            have a1 : ai_X (d + 59) 55 [.inr (.inr (27, 0, 16387)), .inl x1, .inl 1] h = some ([.inr (.inr (24, 0, y))], g) := by rw [ex1]; exact a1
            have x165 : ai_X (d + 59) 165 [.inr (.inr (31, 0, 128)), .inl (-1)] g = _ := T165 (d + 58) (-1) g
            have nm : ∀ q, ¬ q % 128 = 0 → ∀ k, k < 5 → ¬ q = y + 128 * k := fun q hq k hk c => by omega
            have n128 : ∀ k, k < 5 → ¬ (128 : Nat) = y + 128 * k := fun k hk c => by omega
            have n157 : ∀ k, k < 5 → ¬ (16128 : Nat) = y + 128 * k := fun k hk c => by omega
            have gT : g.1 16388 0 = nI T := by rw [a3 _ _ (nm _ (by decide)) (by unfold zQw; omega)]; exact cT
            obtain ⟨g1, eg1⟩ : ∃ w, ai_st (ai_st g 16387 1 0) 128 11 (-1) = w := ⟨_, rfl⟩
            have g1T : g1.1 16388 0 = nI T := by rw [← eg1, z_ne (by decide), z_ne (by decide)]; exact gT
            obtain ⟨g2, eg2⟩ : ∃ w, ai_st g1 2097284 T x3 = w := ⟨_, rfl⟩
            have g2T : g2.1 16388 0 = nI T := by rw [← eg2, z_ne (by decide)]; exact g1T
            obtain ⟨h1, eh1⟩ : ∃ w, ai_st (ai_st (ai_stR g2 2097667 T (some y)) 2097666 T x2) 16388 0 (nI (T + 1)) = w := ⟨_, rfl⟩
            have x74 : ai_X (d + 59) 74 [.inr (.inr (29, 0, 16388)), .inr (.inr (24, 0, y)), .inl x2] g2 = some ([.inl (nI T)], h1) := by
              have e1 : (ai_stR g2 2097667 T (some y)).1 16388 0 = nI T := g2T
              have e2 : (ai_st (ai_stR g2 2097667 T (some y)) 2097666 T x2).1 16388 0 = nI T := by rw [z_ne (by decide)]; exact e1
              have T0 : ai_X (d + 59) 74 [.inr (.inr (29, 0, 16388)), .inr (.inr (24, 0, y)), .inl x2] g2 = _ := T74 (d + 58) y x2 g2
              rw [T0, g2T, if_pos (by rw [show (5 : Int32) = nI 5 from rfl, nI_ltI (by omega) (by omega)]; exact c4), z_ix c4 (by decide), e1, z_ix c4 (by decide), e2, nI_1, eh1, ← eh1, z_stS, nI_pred]
            rw [a1, z_br, if_neg (by decide), show Nat.beq 24 11 = false from rfl, cond_false, x165, z_bv, if_neg (by decide), cond_false, eg1, g1T, z_ix c4 (by decide), eg2, x74, z_bi] at X
            -- what the class left
            have o1 : ∀ q j, (∀ k, k < 5 → ¬ q = y + 128 * k) → ¬ (q = 16387 ∧ 1 ≤ j) → ¬ (q = 128 ∧ j = 11) → ¬ (2097543 ≤ q ∧ q ≤ 2097550) → ¬ (q = 2097284 ∧ j = T) → ¬ (q = 2097666 ∧ j = T) → ¬ (q = 16388 ∧ j = 0) → h1.1 q j = h.1 q j := fun q j n0 n1 n2 n3 n4 n5 n6 => by
              rw [← eh1, z_st1, if_neg n6, z_st1, if_neg n5]
              show g2.1 q j = _
              rw [← eg2, z_st1, if_neg n4, ← eg1, z_st1, if_neg n2, z_st1, if_neg (by omega), a3 q j n0 (by unfold zQw; omega)]
            have k1 : h1.2.2.2.1 = g.2.2.2.1 := by rw [← eh1, ← eg2, ← eg1]; rfl
            have k2 : h1.2.2.2.2 = g.2.2.2.2 := by rw [← eh1, ← eg2, ← eg1]; rfl
            have k3 : ∀ q i, h1.2.2.1 q i = if q = 2097667 ∧ i = T then some y else g.2.2.1 q i := fun q i => by rw [← eh1, ← eg2, ← eg1]; rfl
            have new : ∀ q, zrt g q → h1.1 q = g.1 q ∧ h1.2.2.1 q = g.2.2.1 q ∧ h1.2.2.2.1 q = g.2.2.2.1 q := fun q hq => by
              have q0 := hq.1
              have q1 := hq.2.1
              refine ⟨?_, funext fun i => by rw [k3, if_neg (by omega)], by rw [k1]⟩
              rw [← eh1, z_ne (by omega), z_ne (by omega)]
              show g2.1 q = _
              rw [← eg2, z_ne (by omega), ← eg1, z_ne (by omega), z_ne (by omega)]
            have q15 : ∀ j, h1.1 16128 j = h.1 16128 j := fun j => o1 _ _ n157 (by omega) (by omega) (by omega) (by omega) (by omega) (by omega)
            have mr : ∀ f, f < 87 → ∀ k, k < 5 → ¬ 2064385 + f = y + 128 * k := fun f hf k hk c => by
              have := zMr hf
              rw [c, zr0 (by omega)] at this
              omega
            obtain ⟨-, mg⟩ := M237 (h := h1) (p := 1 + T) (w0 := w0) (d + 52) hb hn5 (fun i hi => by rw [o1 2064432 i (mr 47 (by decide)) (by omega) (by omega) (by omega) (by omega) (by omega) (by omega)]; exact tpm i) (by rw [q15]; exact s42) w19 (p6k c4) r
            obtain ⟨h3, b1, b2, b3, b4, b5, b6, b7⟩ := mg rfl
            have b1 : ai_X (d + 59) 237 [.inr (.inr (32, 0, 16128)), .inl x1, .inl 1, .inl (1 + nI T)] h1 = some ([.inl 1], h3) := by
              rw [ex1, show (1 : Int32) + nI T = nI (1 + T) by rw [show (1 : Int32) = nI 1 from rfl, nI_add]]
              exact b1
            have h33 : h3.1 16128 33 = nI T := by rw [b7.1 _ _ (by unfold zQz; omega), q15]; exact s33
            obtain ⟨h2, eh2⟩ : ∃ w, ai_st (ai_st (ai_st h3 2064422 T x2) 2064406 T x3) 16128 33 (nI (T + 1)) = w := ⟨_, rfl⟩
            have M2 := M h1
            rw [if_neg n1, (q15 48).trans s48, if_neg n2, m186a, z_bi, zb_if] at M2
            have f1 : (ai_st h3 2064422 T x2).1 16128 33 = nI T := by rw [z_ne (by decide)]; exact h33
            have f2 : (ai_st (ai_st h3 2064422 T x2) 2064406 T x3).1 16128 33 = nI T := by rw [z_ne (by decide)]; exact f1
            rw [if_pos c2, m186b, z_bi, zb_if, if_pos c3, q15, s33, if_neg (by rw [show (5 : Int32) = nI 5 from rfl, nI_eq (by omega) (by omega)]; omega), b1, z_bi, if_neg (by decide), h33, z_ix c4 (by decide), f1, z_ix (by omega) (by decide), f2, nI_1, eh2, ← eh2, z_stS, nI_pred, eh2] at M2
            have w1 : ∀ q j, ¬ (q = 2064422 ∧ j = T) → ¬ (q = 2064406 ∧ j = T) → ¬ (q = 16128 ∧ j = 33) → h2.1 q j = h3.1 q j := fun q j n1 n2 n3 => by rw [← eh2, z_st1, if_neg n3, z_st1, if_neg n2, z_st1, if_neg n1]
            have w2 : h2.2 = h3.2 := by rw [← eh2]; rfl
            have w3 : h2.2.2 = h1.2.2 := by rw [w2, b7.2]
            have wm : ∀ q, ¬ q = 2064422 → ¬ q = 2064406 → ¬ q = 16128 → h2.1 q = h3.1 q := fun q n1 n2 n3 => funext fun j => w1 q j (fun c => n1 c.1) (fun c => n2 c.1) (fun c => n3 c.1)
            have dh2 : ai_dn h2 = y + 640 := by
              rw [← a7]
              unfold ai_dn
              rw [w3, k2]
            have ng : ∀ q, zrt g q → h2.1 q = g.1 q ∧ h2.2.2.1 q = g.2.2.1 q ∧ h2.2.2.2.1 q = g.2.2.2.1 q := fun q hq => by
              have q0 := hq.1
              have q1 := hq.2.1
              refine ⟨?_, by rw [w3]; exact (new q hq).2.1, by rw [w3]; exact (new q hq).2.2⟩
              rw [wm q (by omega) (by omega) (by omega), ← (new q hq).1]
              exact funext fun j => b7.1 q j (by unfold zQz; omega)
            refine ⟨nI T, h1, h2, X, M2, zR_trust (w0 := w0) (T := T) (y := y) (x2 := x2) (x3 := x3) (L := L) hr hT c4 s42 (w18k c4) hy dh2 gd (Nat.le_trans a6 hn5) c2 c3 (fun q j nk nc nt => ?_) (fun q i nk nt => ?_) (fun q nk => ?_) (zLw_c ng (by rw [dh2, a7]; exact Nat.le_refl _) a2) ?_ ?_ ?_ ?_ ?_ ?_ ?_ ?_ ?_ ?_ ?_ ?_ ⟨?_, a5, fun i q hi => ?_, fun i q hi => ?_, by omega⟩, ?_⟩
            · rw [w1 q j (fun c => nt (Or.inr (Or.inr (Or.inr (Or.inl c))))) (fun c => nt (Or.inr (Or.inr (Or.inr (Or.inr (Or.inl c)))))) (fun c => nt (Or.inr (Or.inr (Or.inr (Or.inr (Or.inr c)))))), b7.1 q j (fun c => nc (Or.inr (Or.inr (Or.inr c)))), o1 q j nk (fun c => nc (Or.inl c)) (fun c => nc (Or.inr (Or.inl c))) (fun c => nc (Or.inr (Or.inr (Or.inl c)))) (fun c => nt (Or.inl c)) (fun c => nt (Or.inr (Or.inl c))) (fun c => nt (Or.inr (Or.inr (Or.inl c))))]
            · rw [w3, k3, if_neg nt, (a4 q nk).2]
            · rw [w3, k1, (a4 q nk).1]
            · rw [w3, k3, if_pos ⟨rfl, rfl⟩]
            · rw [wm _ (by decide) (by decide) (by decide), b7.1 _ _ (by unfold zQz; omega), ← eh1, z_ne (by decide), z_ne (by decide)]
              show g2.1 128 11 = _
              rw [← eg2, z_ne (by decide), ← eg1, z_stS]
            · rw [wm _ (by decide) (by decide) (by decide), b7.1 _ _ (by unfold zQz; omega), ← eh1, z_ne (by decide), z_ne (by decide)]
              show g2.1 16387 1 = _
              rw [← eg2, z_ne (by decide), ← eg1, z_ne (by decide), z_stS]
            · rw [w1 _ _ (by omega) (by omega) (by omega)]; exact b2
            · rw [w1 _ _ (by omega) (by omega) (by omega)]; exact b4.1
            · rw [w1 _ _ (by omega) (by omega) (by omega)]; exact b3
            · rw [wm _ (by decide) (by decide) (by decide), b7.1 _ _ (by unfold zQz; omega), ← eh1, z_stS]
            · rw [← eh2, z_stS]
            · rw [wm _ (by decide) (by decide) (by decide), b7.1 _ _ (by unfold zQz; omega), ← eh1, z_ne (by decide), z_stS]
            · rw [← eh2, z_ne (by decide), z_ne (by decide), z_stS]
            · rw [wm _ (by decide) (by decide) (by decide), b7.1 _ _ (by unfold zQz; omega), ← eh1, z_ne (by decide), z_ne (by decide)]
              show g2.1 2097284 T = _
              rw [← eg2, z_stS]
            · rw [← eh2, z_ne (by decide), z_stS]
            · rw [zMv1 (by decide), w1 _ _ (by omega) (by omega) (by omega)]; exact b5
            · have il : i < 24 := Nat.lt_of_lt_of_le (List.getElem?_eq_some_iff.mp hi).1 a5
              obtain ⟨y1, y2, y3, y4⟩ := b6 i q il hi
              have nb : vp_nar .boolean q.1 = q.1 := by
                rcases (gd q (List.mem_of_getElem? hi)).1 with w | w <;> rw [w] <;> rfl
              rw [nb] at y1
              rw [zMv1 (by decide), zMv1 (by decide), zMv1 (by decide), zMv1 (by decide), w1 _ _ (by omega) (by omega) (by omega), w1 _ _ (by omega) (by omega) (by omega), w1 _ _ (by omega) (by omega) (by omega), w1 _ _ (by omega) (by omega) (by omega)]
              exact ⟨y1, y2, y3, y4⟩
            · rw [zMv1 (by decide), zMv1 (by decide), zMv1 (by decide), zMv1 (by decide), w1 _ _ (by omega) (by omega) (by omega), w1 _ _ (by omega) (by omega) (by omega), w1 _ _ (by omega) (by omega) (by omega), w1 _ _ (by omega) (by omega) (by omega)]
              exact b4.2 i q hi
            · unfold zK
              rw [w3, k2]
              unfold zct at a8
              omega
        · have T55 : T = 5 := by omega
          rw [if_neg (by rw [show (5 : Int32) = nI 5 from rfl, nI_ltI (by omega) (by omega)]; exact c4)] at X
          have M2 := M h
          rw [if_neg n1, s48, if_neg n2, m186a, z_bi, zb_if] at M2
          rw [if_pos c2, m186b, z_bi, zb_if, if_pos c3, s33, if_pos (by rw [T55]; rfl)] at M2
          exact ⟨-3, h, h, X, M2, hr, zK_of rfl⟩
      · rw [if_neg c3] at X
        have M2 := M h
        rw [if_neg n1, s48, if_neg n2, m186a, z_bi, zb_if] at M2
        rw [if_pos c2, m186b, z_bi, zb_if, if_neg c3] at M2
        exact ⟨-2, h, h, X, M2, hr, zK_of rfl⟩
    · rw [if_neg c2] at X
      have M2 := M h
      rw [if_neg n1, s48, if_neg n2, m186a, z_bi, zb_if] at M2
      rw [if_neg c2] at M2
      exact ⟨-2, h, h, X, M2, hr, zK_of rfl⟩
  · rw [if_neg c1] at X
    have M2 := M h
    refine ⟨-2, h, h, X, ?_, hr, zK_of rfl⟩
    rw [M2]
    by_cases n0 : x1.toInt < 0
    · rw [if_pos (by rw [z_lt, zl0]; exact n0)]
    · rw [if_neg (by rw [z_lt, zl0]; exact n0), s48, if_pos (by rw [z_lt, z_T (by omega)]; omega)]
