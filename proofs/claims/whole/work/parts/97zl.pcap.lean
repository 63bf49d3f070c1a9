/-! CAP: both sides -/
theorem P_cap {x1 : Int32} : zPr 108 239 [.inl x1] := by
  intro d h hr
  obtain ⟨r1, r2, r3, r4⟩ := id hr
  obtain ⟨⟨vi32, vi33, vi34, vi35, vi48, vi49⟩, -, -, -, -, -, vS, -⟩ := r2
  obtain ⟨t1, t2⟩ := r1.2.2.2.2.1
  obtain ⟨m, hm⟩ : ∃ m, zg (zMv h) 48 = m := ⟨_, rfl⟩
  obtain ⟨T, hT⟩ : ∃ T, zg (zMv h) 33 = T := ⟨_, rfl⟩
  obtain ⟨w0, hw0⟩ : ∃ w, zg (zMv h) 42 = w := ⟨_, rfl⟩
  have e48 : (zMv h).2 48 = nI m := by rw [← hm]; exact z_nat vi48.1
  have e42 : (zMv h).2 42 = nI w0 := by rw [← hw0]; exact z_nat vS.1.1
  have m5 : m ≤ 500 := by rw [← hm]; unfold zi at vi48; unfold zg; omega
  have T5 : T ≤ 5 := by rw [← hT]; unfold zi at vi33; unfold zg; omega
  have w18 : w0 ≤ 15000 + 500 * (T + 1) := by
    have := vS.1
    unfold zi at this
    rw [hT] at this
    rw [← hw0]
    unfold zg
    omega
  have w19 : w0 ≤ 19000 := zw19 w18 T5
  have c48 : h.1 16387 1 = nI m := t1.trans e48
  have s48 : h.1 16128 48 = nI m := by rw [← zMv2 (by decide)]; exact e48
  have s42 : h.1 16128 42 = nI w0 := by rw [← zMv2 (by decide)]; exact e42
  have x52 : ai_X (d + 59) 52 [.inr (.inr (27, 0, 16387)), .inl x1] h = _ := X52 (d + 58) x1 c48 m5
  have X : ai_X (d + 60) 108 [.inr (.inr (31, 0, 128)), .inl x1] h = _ := T108 (d + 59) x1 h
  have M : ∀ g, ai_X (d + 60) 239 [.inr (.inr (32, 0, 16128)), .inl x1] g = _ := fun g => T239 (d + 59) x1 g
  rw [x52, z_bi, zb_if] at X
  by_cases c1 : 0 ≤ x1.toInt ∧ x1.toInt ≤ (m : Int)
  · rw [if_pos c1] at X
    have n1 : ¬ x1 < 0 := by rw [z_lt, zl0]; omega
    have n2 : x1 ≤ nI m := by rw [z_le, z_T (by omega)]; omega
    obtain ⟨n, hn⟩ : ∃ n, x1.toInt.toNat = n := ⟨_, rfl⟩
    have ex1 : x1 = nI n := by rw [← hn]; exact z_nat c1.1
    have hn5 : n ≤ 500 := by omega
    obtain ⟨B, hB⟩ : ∃ B : Nat → Nat, ∀ i, B i < 256 ∧ (zMv h).1 47 i &&& 255 = nI (B i) := ⟨fun i => Classical.choose (z255 ((zMv h).1 47 i)), fun i => Classical.choose_spec (z255 ((zMv h).1 47 i))⟩
    have hb : ∀ i, B i < 256 := fun i => (hB i).1
    have tpc : ∀ i, i < n → h.1 2097537 i = nI (B i) := fun i hi => (t2 i (by omega)).trans (hB i).2
    have tpm : ∀ i, h.1 2064432 i &&& 255 = nI (B i) := fun i => by
      have := (hB i).2
      rw [zMv1 (by decide)] at this
      exact this
    obtain ⟨L, t, b, r⟩ := zpL_ex (B := B) (n := n) (tr := false) (n + 1) 0 (zsk B n 0) (zsk_le (Nat.zero_le n)).2 (by decide) (by omega)
    obtain ⟨gd, tl1, tl2⟩ := zpL_good r (zsk_le (Nat.zero_le n)).2
    obtain ⟨xb, xg⟩ := X55 (d + 58) (by omega) hb hn5 tpc r4 r
    cases b with
    | false =>
      obtain ⟨g, a1, a2, a3⟩ := xb rfl
      have a1 : ai_X (d + 59) 55 [.inr (.inr (27, 0, 16387)), .inl x1, .inl 0] h = some ([.inr (.inr (0, 0, 0))], g) := by rw [ex1]; exact a1
      have x165 : ai_X (d + 59) 165 [.inr (.inr (31, 0, 128)), .inl (nI t)] g = _ := T165 (d + 58) (nI t) g
      rw [a1, z_br, if_pos rfl, a2, x165, z_bv, if_pos rfl] at X
      obtain ⟨h1, eh1⟩ : ∃ w, ai_st (ai_st g 16387 1 0) 128 11 (nI t) = w := ⟨_, rfl⟩
      rw [eh1] at X
      have o1 : ∀ q j, ¬ (q = 16387 ∧ 1 ≤ j) → ¬ (q = 128 ∧ j = 11) → ¬ (2097543 ≤ q ∧ q ≤ 2097550) → h1.1 q j = h.1 q j := fun q j n1 n2 n3 => by
        rw [← eh1, z_st1, if_neg n2, z_st1, if_neg (by omega), a3.1 q j (by unfold zQw; omega)]
      have p1 : h1.2 = h.2 := by rw [← eh1]; exact a3.2
      have q15 : ∀ j, h1.1 16128 j = h.1 16128 j := fun j => o1 _ _ (by omega) (by omega) (by omega)
      obtain ⟨mb, -⟩ := M237 (h := h1) (p := 0) (w0 := w0) (d + 52) hb hn5 (fun i hi => by rw [o1 _ _ (by omega) (by omega) (by omega)]; exact tpm i) (by rw [q15]; exact s42) w19 (by decide) r
      obtain ⟨h2, b1, b2, b3, b4, b5, b6, b7⟩ := mb rfl
      have b1 : ai_X (d + 59) 237 [.inr (.inr (32, 0, 16128)), .inl x1, .inl 0, .inl 0] h1 = some ([.inl 0], h2) := by rw [ex1]; exact b1
      have M2 := M h1
      rw [if_neg n1, (q15 48).trans s48, if_pos n2, b1, z_bi, if_pos rfl] at M2
      have e2 : h2.2.2 = h.2.2 := by rw [b5.2, p1]
      refine ⟨-1, h1, h2, X, M2, zR_tbad (w0 := w0) (p := 0) (t := t) hr s42 (fun q j hq => ?_) e2 (by omega) (Nat.lt_of_le_of_lt w19 (by decide)) ?_ ?_ b2 b3 b4 (fun j hj => ?_) (fun q j h1' h2' hj => ?_), ?_⟩
      · rw [b5.1 q j (fun c => hq (Or.inr (Or.inr (Or.inr c)))), o1 q j (fun c => hq (Or.inl c)) (fun c => hq (Or.inr (Or.inl c))) (fun c => hq (Or.inr (Or.inr (Or.inl c))))]
      · rw [b5.1 _ _ (by unfold zQz; omega), ← eh1, z_stS]
      · rw [b5.1 _ _ (by unfold zQz; omega), ← eh1, z_ne (by decide), z_stS]
      · rw [b6 j hj, o1 _ _ (by omega) (by omega) (by omega)]
      · rw [b7 q j h1' h2' hj, o1 _ _ (by omega) (by omega) (by omega)]
      · unfold zK
        rw [e2]
        omega
    | true =>
      obtain ⟨g, a1, a2, a3, a4, a5, a6, a7, a8⟩ := xg rfl
      obtain ⟨y, hy⟩ : ∃ y, ai_dn h = y := ⟨_, rfl⟩
      rw [hy] at a1 a2 a3 a4 a7
      have y0 : y % 128 = 0 := by rw [← hy]; unfold ai_dn; omega
      have y1 : 16128 < y := by rw [← hy]; exact r4
      have a1 : ai_X (d + 59) 55 [.inr (.inr (27, 0, 16387)), .inl x1, .inl 0] h = some ([.inr (.inr (24, 0, y))], g) := by rw [ex1]; exact a1
      have x165 : ai_X (d + 59) 165 [.inr (.inr (31, 0, 128)), .inl (-1)] g = _ := T165 (d + 58) (-1) g
      have n128 : ∀ k, k < 5 → ¬ (128 : Nat) = y + 128 * k := fun k hk c => by omega
      have n157 : ∀ k, k < 5 → ¬ (16128 : Nat) = y + 128 * k := fun k hk c => by omega
      have mr : ∀ f, f < 87 → ∀ k, k < 5 → ¬ 2064385 + f = y + 128 * k := fun f hf k hk c => by
        have := zMr hf
        rw [c, zr0 (by omega)] at this
        omega
      obtain ⟨h1, eh1⟩ : ∃ w, ai_stR (ai_st (ai_st g 16387 1 0) 128 11 (-1)) 128 9 (some y) = w := ⟨_, rfl⟩
      have k1 : h1.2.2.2.1 = g.2.2.2.1 := by rw [← eh1]; rfl
      have k2 : h1.2.2.2.2 = g.2.2.2.2 := by rw [← eh1]; rfl
      have k3 : ∀ q i, h1.2.2.1 q i = if q = 128 ∧ i = 9 then some y else g.2.2.1 q i := fun q i => by rw [← eh1]; rfl
      have i1 : h1.1 = (ai_st (ai_st g 16387 1 0) 128 11 (-1)).1 := by rw [← eh1]; rfl
      have o1 : ∀ q j, (∀ k, k < 5 → ¬ q = y + 128 * k) → ¬ (q = 16387 ∧ 1 ≤ j) → ¬ (q = 128 ∧ j = 11) → ¬ (2097543 ≤ q ∧ q ≤ 2097550) → h1.1 q j = h.1 q j := fun q j n0 n1 n2 n3 => by
        rw [i1, z_st1, if_neg n2, z_st1, if_neg (by omega), a3 q j n0 (by unfold zQw; omega)]
      have new : ∀ q, zrt g q → h1.1 q = g.1 q ∧ h1.2.2.1 q = g.2.2.1 q ∧ h1.2.2.2.1 q = g.2.2.2.1 q := fun q hq => by
        have q0 := hq.1
        have q1 := hq.2.1
        exact ⟨by rw [i1, z_ne (by omega), z_ne (by omega)], funext fun i => by rw [k3, if_neg (by omega)], by rw [k1]⟩
      have lw1 : zLw h1 y (zltx L) := zLw_c new (by unfold ai_dn; rw [k2]; exact Nat.le_refl _) a2
      have x32 : ai_X (d + 59) 32 [.inr (.inr (24, 0, y))] h1 = some ([.inl (nI L.length)], h1) := by
        obtain ⟨-, q0, q1, q2, q3, -, e0, -, -, -, l0, -⟩ := lw1
        have T0 : ai_X (d + 59) 32 [.inr (.inr (24, 0, y))] h1 = _ := T32 (d + 58) y h1
        rw [T0, e0]
        show (some ([.inl (nI (h1.2.2.2.1 q0).2)], h1) : Option ai_R) = _
        rw [l0]
        unfold zltx
        rw [List.length_map]
      rw [a1, z_br, if_neg (by decide), show Nat.beq 24 11 = false from rfl, cond_false, x165, z_bv, if_neg (by decide), cond_false, if_pos rfl, if_pos rfl, eh1, x32, z_bi] at X
      have q15 : ∀ j, h1.1 16128 j = h.1 16128 j := fun j => o1 _ _ n157 (by omega) (by omega) (by omega)
      obtain ⟨-, mg⟩ := M237 (h := h1) (p := 0) (w0 := w0) (d + 52) hb hn5 (fun i hi => by rw [o1 2064432 i (mr 47 (by decide)) (by omega) (by omega) (by omega)]; exact tpm i) (by rw [q15]; exact s42) w19 (by decide) r
      obtain ⟨h3, b1, b2, b3, b4, b5, b6, b7⟩ := mg rfl
      have b1 : ai_X (d + 59) 237 [.inr (.inr (32, 0, 16128)), .inl x1, .inl 0, .inl 0] h1 = some ([.inl 1], h3) := by rw [ex1]; exact b1
      have M2 := M h1
      rw [if_neg n1, (q15 48).trans s48, if_pos n2, b1, z_bi, if_neg (by decide), b4.1] at M2
      have e3 : ∀ q j, (∀ k, k < 5 → ¬ q = y + 128 * k) → ¬ zChg w0 0 q j → h3.1 q j = h.1 q j := fun q j nk nc => by
        rw [b7.1 q j (fun c => nc (Or.inr (Or.inr (Or.inr c)))), o1 q j nk (fun c => nc (Or.inl c)) (fun c => nc (Or.inr (Or.inl c))) (fun c => nc (Or.inr (Or.inr (Or.inl c))))]
      have l5 : (zfl L).length ≤ 500 := Nat.le_trans a6 hn5
      obtain ⟨A3, L3, V3, S3, U3⟩ := zcap3 hr hT s42 w19 gd a5 l5 y1 y0 e3 b4.1 b5 b4.2 b6
      have g33 : zg (zMv h3) 33 = T := by
        rw [← hT]
        unfold zg
        rw [zMv2 (by decide), zMv2 (by decide), e3 16128 33 n157 (by unfold zChg zQz; omega)]
      -- the end, from what packing leaves
      have fin : ∀ h4 : ai_H, h4.2 = h3.2 → (∀ q, ¬ (2064428 ≤ q ∧ q ≤ 2064431) → ¬ q = 2064445 → ¬ q = 2064425 → ¬ q = 2064426 → ¬ q = 16128 → h4.1 q = h3.1 q) → (∀ j, ¬ j = 42 → h4.1 16128 j = h3.1 16128 j) → (∀ p, p < 6 → zVl (zMv h3) p → zlaw (zMv h4) p = zlaw (zMv h3) p ∧ zVl (zMv h4) p) → zVs (zMv h4) → zR (ai_st h4 16128 35 1) ∧ zK h (ai_st h4 16128 35 1) ∧ (ai_st h4 16128 35 1).1 2064421 0 = nI L.length := by
        intro h4 p2 po p15 pv ps
        have fo : ∀ f, f < 87 → (ai_st h4 16128 35 1).1 (2064385 + f) = h4.1 (2064385 + f) := fun f hf => z_ne (by omega)
        have ra : ∀ f, 36 ≤ f → f ≤ 46 → (zMv (ai_st h4 16128 35 1)).1 f = (zMv h4).1 f := fun f h1 h2 => funext fun i => by rw [zMv1 (by omega), zMv1 (by omega), fo f (by omega)]
        have b42 : (zMv (ai_st h4 16128 35 1)).2 42 = (zMv h4).2 42 := by rw [zMv2 (by decide), zMv2 (by decide), z_nj (by decide)]
        have b33 : zg (zMv (ai_st h4 16128 35 1)) 33 = zg (zMv h4) 33 := by unfold zg; rw [zMv2 (by decide), zMv2 (by decide), z_nj (by decide)]
        have w2 : (ai_st h4 16128 35 1).2.2 = h1.2.2 := by
          show h4.2.2 = _
          rw [p2, b7.2]
        have new2 : ∀ q, zrt h1 q → (ai_st h4 16128 35 1).1 q = h1.1 q ∧ (ai_st h4 16128 35 1).2.2.1 q = h1.2.2.1 q ∧ (ai_st h4 16128 35 1).2.2.2.1 q = h1.2.2.2.1 q := fun q hq => by
          have q0 := hq.1
          have q1 := hq.2.1
          exact ⟨by rw [z_ne (by omega), po q (by omega) (by omega) (by omega) (by omega) (by omega)]; exact funext fun j => b7.1 q j (by unfold zQz; omega), by rw [w2], by rw [w2]⟩
        have o2 : ∀ q j, ¬ q = 16128 → ¬ (2064428 ≤ q ∧ q ≤ 2064431) → ¬ q = 2064445 → ¬ q = 2064425 → ¬ q = 2064426 → (ai_st h4 16128 35 1).1 q j = h3.1 q j := fun q j n1 n2 n3 n4 n5 => by rw [z_ne n1, po q n2 n3 n4 n5 n1]
        refine ⟨zR_cap hr hy ?_ (fun q j nk nc => ?_) (fun q i nk ni => ?_) (fun q nk => ?_) (zLw_c new2 (by unfold ai_dn; rw [w2]; exact Nat.le_refl _) lw1) ?_ ?_ ?_ ?_ ?_ z_stS (fun t ht => ?_) ?_ ?_ ?_, ?_, ?_⟩
        · rw [← a7]; unfold ai_dn; rw [w2, k2]
        · unfold zChC at nc
          by_cases c : q = 16128
          · subst c
            rw [z_nj (by omega), p15 _ (by omega)]
            exact e3 _ _ nk (by unfold zChg zQz; omega)
          · rw [o2 q j c (by omega) (by omega) (by omega) (by omega)]
            exact e3 _ _ nk (by unfold zChg zQz; omega)
        · rw [w2, k3, if_neg ni, (a4 q nk).2]
        · rw [w2, k1, (a4 q nk).1]
        · rw [w2, k3, if_pos ⟨rfl, rfl⟩]
        · rw [o2 _ _ (by decide) (by decide) (by decide) (by decide) (by decide), b7.1 _ _ (by unfold zQz; omega), i1, z_stS]
        · rw [o2 _ _ (by decide) (by decide) (by decide) (by decide) (by decide), b7.1 _ _ (by unfold zQz; omega), i1, z_ne (by decide), z_stS]
        · rw [z_nj (by decide), p15 _ (by decide)]; exact b2
        · rw [z_nj (by decide), p15 _ (by decide)]; exact b3
        · rw [hT] at ht
          obtain ⟨u1, u2⟩ := pv (1 + t) (by omega) (A3 t ht).2
          exact ⟨by rw [zlaw_r ra, u1]; exact (A3 t ht).1, zVl_r b42 ra u2⟩
        · rw [zlaw_r ra, (pv 0 (by decide) V3).1]; exact L3
        · exact zVl_r b42 ra (pv 0 (by decide) V3).2
        · unfold zVs at ps ⊢
          rw [b42, b33, ra 36 (by decide) (by decide), ra 43 (by decide) (by decide), ra 44 (by decide) (by decide), ra 45 (by decide) (by decide), ra 46 (by decide) (by decide)]
          exact ps
        · unfold zK
          rw [w2, k2]
          unfold zct at a8
          omega
        · rw [o2 _ _ (by decide) (by decide) (by decide) (by decide) (by decide)]; exact b5
      have fx : ∀ h4 : ai_H, (ai_st h4 16128 35 1).1 2064421 0 = nI L.length → ai_b01 1 (ai_ix 0 7 (fun j3 => some ([.inl ((ai_st h4 16128 35 1).1 2064421 j3)], (ai_st h4 16128 35 1)))) = some ([.inl (nI L.length)], ai_st h4 16128 35 1) := fun h4 e => by
        rw [z_b1, show (0 : Int32) = nI 0 from rfl, z_ix (by decide) (by decide), e]
      have wl : w0 + (zfl L).length ≤ 19500 := Nat.le_trans (Nat.add_le_add w19 l5) (by decide)
      by_cases c : nI (w0 + (zfl L).length) ≤ (15000 : Int32)
      · rw [if_pos c] at M2
        have c15 : w0 + (zfl L).length ≤ 15000 := by
          rw [show (15000 : Int32) = nI 15000 from rfl, nI_leI (Nat.lt_of_le_of_lt wl (by decide)) (by decide)] at c
          exact c
        obtain ⟨f1, f2, f3⟩ := fin h3 rfl (fun _ _ _ _ _ _ => rfl) (fun _ _ => rfl) (fun p hp hv => ⟨rfl, hv⟩) (by
          have m42 : (zMv h3).2 42 = nI (w0 + (zfl L).length) := (zMv2 (by decide)).trans b4.1
          refine ⟨?_, fun k hk => ?_, fun t h1 h2 => U3 t (by rw [← g33]; exact h1) h2⟩
          · rw [m42, g33]
            unfold zi
            rw [z_T (Nat.lt_of_le_of_lt wl (by decide))]
            omega
          · rw [m42, z_T (Nat.lt_of_le_of_lt wl (by decide)), Int.toNat_natCast] at hk
            exact S3 k hk)
        rw [fx h3 f3] at M2
        exact ⟨_, h1, _, X, M2, f1, f2⟩
      · rw [if_neg c] at M2
        obtain ⟨h4, p1, p2, po, p15, pv, ps⟩ := zcap4 (h3 := h3) (T := T) (d + 58) b4.1 wl T5 g33 (fun t ht => (A3 t ht).2) V3 S3 U3
        have p1 : ai_X (d + 59) 238 [.inr (.inr (32, 0, 16128))] h3 = some ([], h4) := p1
        obtain ⟨f1, f2, f3⟩ := fin h4 p2 po p15 pv ps
        rw [p1, z_bv, fx h4 f3] at M2
        exact ⟨_, h1, _, X, M2, f1, f2⟩
  · rw [if_neg c1] at X
    have M2 := M h
    refine ⟨-2, h, h, X, ?_, hr, zK_of rfl⟩
    rw [M2]
    by_cases n0 : x1.toInt < 0
    · rw [if_pos (by rw [z_lt, zl0]; exact n0)]
    · rw [if_neg (by rw [z_lt, zl0]; exact n0), s48, if_neg (by rw [z_le, z_T (by omega)]; omega)]
