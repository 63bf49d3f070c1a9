/-! lead -/
theorem zany_led {σ : Nat → Nat → Int32} {k : Int32} {n : Nat} (g : zR4 → Bool) : zany (fun i => g ((zled σ k n).getD i zrN)) (zled σ k n).length = zany (fun e => decide (σ 22 e = k) && g (zrow σ e)) n := by
  apply Bool.eq_iff_iff.mpr
  rw [zany_p, zany_p]
  constructor
  · rintro ⟨i, hi, q⟩
    obtain ⟨e, he, h1, h2⟩ := zled_mem.mp (z_mem (l := zled σ k n) hi)
    refine ⟨e, he, ?_⟩
    rw [decide_eq_true h1, ← h2, q]
    rfl
  · rintro ⟨e, he, q⟩
    rw [Bool.and_eq_true] at q
    obtain ⟨i, hi, ei⟩ := List.getElem_of_mem ((zled_mem (r := zrow σ e) (σ := σ) (k := k) (n := n)).mpr ⟨e, he, of_decide_eq_true q.1, rfl⟩)
    refine ⟨i, hi, ?_⟩
    rw [List.getD_eq_getElem?_getD, List.getElem?_eq_getElem hi]
    have ei' : (some (zled σ k n)[i]).getD zrN = zrow σ e := ei
    rw [ei']
    exact q.2
theorem zled_tap {σ : Nat → Nat → Int32} {k : Nat} (V : zV σ) (h1 : ¬ k = 1) (h4 : ¬ k = 4) (h5 : ¬ k = 5) (hk : k < 12) : ∀ r ∈ zled σ (nI k) (zn σ 4), 0 ≤ r.1.toInt ∧ r.1.toInt < (zn σ 1 : Int) := by
  intro r hm
  obtain ⟨e, he, e1, rfl⟩ := zled_mem.mp hm
  obtain ⟨a1, a2, a3, a4, a5, a6, a7, a8, a9⟩ := V.2.2.2.2.1.1 e he
  have eq : ∀ j, j < 12 → (σ 22 e = nI j ↔ k = j) := fun j hj => by rw [e1]; exact nI_eq (by omega) (by omega)
  have q1 : σ 22 e = 1 ↔ k = 1 := eq 1 (by decide)
  have q4 : σ 22 e = 4 ↔ k = 4 := eq 4 (by decide)
  have q5 : σ 22 e = 5 ↔ k = 5 := eq 5 (by decide)
  exact ⟨a5, a8 (fun x => h1 (q1.mp x)) (fun x => h4 (q4.mp x)) (fun x => h5 (q5.mp x))⟩
theorem zbF {b : Bool} (h : ¬ b = true) : b = false := by
  cases b with
  | true => exact absurd rfl h
  | false => rfl
/-- is a node above a tap of a row -/
abbrev zrb (σ : Nat → Nat → Int32) (r : zR4) (y : Nat) : Bool := (zab σ (znd σ r.1.toInt.toNat)).testBit y
def zcl (σ : Nat → Nat → Int32) (kn : Int32) (y : Nat) (r : zR4) : Bool := decide (r.2.2.2 ≤ kn) && decide (r.2.2.1 = 0) && zrb σ r y
/-- known clean -/
def zcln (σ : Nat → Nat → Int32) (kn : Int32) (y : Nat) : Bool := zany (fun e => decide (σ 22 e = 3) && zcl σ kn y (zrow σ e)) (zn σ 4)
theorem zor31 {a b : Nat} (ha : a < 2147483648) (hb : b < 2147483648) : a ||| b < 2147483648 := Nat.or_lt_two_pow (n := 31) ha hb
theorem X172 {h : ai_H} (d : Nat) (kn : Int32) (hr : zR h) : ∃ A, ai_X (d + 2) 172 [.inr (.inr (31, 0, 128)), .inl kn] h = some ([.inl (nI A)], h) ∧ A < 2147483648 ∧ ∀ y, A.testBit y = zcln (zsl (zMv h) 0) kn y := by
  obtain ⟨l1, lk, l3, l4⟩ := zR_led hr (k := 3) (by decide)
  obtain ⟨b0, b1, b2, b8, b5, b4, b3, V⟩ := zR_b hr
  obtain ⟨k0, k1, k2, k3⟩ := id lk
  have k0' : (h.2.2.2.1 34361868801).2 = zmost 3 := k0
  have k2' : (h.2.2.2.1 34361868803).2 = zmost 3 := k2
  have k3' : (h.2.2.2.1 34361868804).2 = zmost 3 := k3
  have hwho := zled_tap (k := 3) V (by decide) (by decide) (by decide) (by decide)
  have EA : ∀ y, zany (fun i => zcl (zsl (zMv h) 0) kn y ((zled (zsl (zMv h) 0) (nI 3) (zn (zsl (zMv h) 0) 4)).getD i zrN)) (zled (zsl (zMv h) 0) (nI 3) (zn (zsl (zMv h) 0) 4)).length = zcln (zsl (zMv h) 0) kn y := fun y => zany_led (zcl (zsl (zMv h) 0) kn y)
  generalize zled (zsl (zMv h) 0) (nI 3) (zn (zsl (zMv h) 0) 4) = l at *
  have K : ∀ k i, i + k = l.length → ∀ A, A < 2147483648 → (∀ y, A.testBit y = zany (fun i => zcl (zsl (zMv h) 0) kn y (l.getD i zrN)) i) → ∃ B, ai_E (d + 1) 172 16 [some (.inr (.inr (31, 0, 128))), some (.inl kn), some (.inr (.inr (25, 0, 268452100))), some (.inl (nI A)), some (.inl (nI i))] [] h = some ([.inl (nI B)], h) ∧ B < 2147483648 ∧ ∀ y, B.testBit y = zany (fun i => zcl (zsl (zMv h) 0) kn y (l.getD i zrN)) l.length := by
    intro k
    induction k with
    | zero =>
      intro i hi A hA hb
      have hi : i = l.length := by omega
      subst hi
      refine ⟨A, ?_, hA, hb⟩
      rw [T172_16, show h.1 268452100 4 = nI l.length from l1.1, if_pos (by rw [z_le]; omega)]
    | succ k ih =>
      intro i hi A hA hb
      have er := zL_row l1 (i := i) (by omega)
      have e0 : (l.getD i zrN).1 = h.1 34361868801 i := by rw [er]; rfl
      have e2 : (l.getD i zrN).2.2.1 = h.1 34361868803 i := by rw [er]; rfl
      have e3 : (l.getD i zrN).2.2.2 = h.1 34361868804 i := by rw [er]; rfl
      obtain ⟨t, ht, et⟩ := z_rng (hwho _ (z_mem (l := l) (i := i) (by omega)))
      have ix : ∀ f : Nat → Option ai_R, ai_ix (nI i) (zmost 3) f = f i := fun f => z_ix (by omega) (by omega)
      rw [T172_16, show h.1 268452100 4 = nI l.length from l1.1, if_neg (by rw [nI_leI (by omega) (by omega)]; omega)]
      simp only [k0', k2', k3', ix, ← e0, ← e2, ← e3, nI_1]
      have no : (∀ y, zcl (zsl (zMv h) 0) kn y (l.getD i zrN) = false) → ∀ y, A.testBit y = zany (fun i => zcl (zsl (zMv h) 0) kn y (l.getD i zrN)) (i + 1) := by
        intro q y
        show _ = (zany (fun i => zcl (zsl (zMv h) 0) kn y (l.getD i zrN)) i || zcl (zsl (zMv h) 0) kn y (l.getD i zrN))
        rw [q y, hb y, Bool.or_false]
      by_cases c1 : kn < (l.getD i zrN).2.2.2
      · rw [if_pos c1]
        refine ih (i + 1) (by omega) A hA (no fun y => ?_)
        unfold zcl
        rw [decide_eq_false (fun q => by rw [z_le] at q; rw [z_lt] at c1; omega)]
        rfl
      · rw [if_neg c1]
        have c1' : (l.getD i zrN).2.2.2 ≤ kn := by rw [z_lt] at c1; rw [z_le]; omega
        by_cases c2 : (l.getD i zrN).2.2.1 = 0
        · rw [if_pos c2, et, X5 _ hr ht]
          simp only [z_bi]
          rw [z_or]
          refine ih (i + 1) (by omega) _ (zor31 hA (z_nd hr ht).2.2.2.2.2) fun y => ?_
          show _ = (zany (fun i => zcl (zsl (zMv h) 0) kn y (l.getD i zrN)) i || zcl (zsl (zMv h) 0) kn y (l.getD i zrN))
          rw [Nat.testBit_or, hb y]
          unfold zcl zrb
          rw [decide_eq_true c1', decide_eq_true c2, et, z_T (by omega), Int.toNat_natCast]
          rfl
        · rw [if_neg c2]
          refine ih (i + 1) (by omega) A hA (no fun y => ?_)
          unfold zcl
          rw [decide_eq_false c2, Bool.and_false]
          rfl
  obtain ⟨B, q1, q2, q3⟩ := K l.length 0 (by omega) 0 (by decide) (fun y => Nat.zero_testBit y)
  refine ⟨B, ?_, q2, fun y => (q3 y).trans (EA y)⟩
  rw [T172]
  exact q1
def zcr (σ : Nat → Nat → Int32) (kn : Int32) (M x : Nat) (r : zR4) : Bool := decide (r.2.2.2 ≤ kn) && !decide (r.2.2.1 = 0) && decide (zab σ (znd σ r.1.toInt.toNat) &&& M = 2 ^ x)
theorem X173 {h : ai_H} {M x : Nat} (d : Nat) (kn : Int32) (hr : zR h) (hM : M < 2147483648) (hx : x < 24) : ai_X (d + 2) 173 [.inr (.inr (31, 0, 128)), .inl (nI x), .inl (nI M), .inl kn] h = some ([.inl (zb (zany (fun e => decide (zsl (zMv h) 0 22 e = 3) && zcr (zsl (zMv h) 0) kn M x (zrow (zsl (zMv h) 0) e)) (zn (zsl (zMv h) 0) 4) = true))], h) := by
  obtain ⟨l1, lk, l3, l4⟩ := zR_led hr (k := 3) (by decide)
  obtain ⟨b0, b1, b2, b8, b5, b4, b3, V⟩ := zR_b hr
  obtain ⟨k0, k1, k2, k3⟩ := id lk
  have k0' : (h.2.2.2.1 34361868801).2 = zmost 3 := k0
  have k2' : (h.2.2.2.1 34361868803).2 = zmost 3 := k2
  have k3' : (h.2.2.2.1 34361868804).2 = zmost 3 := k3
  have hwho := zled_tap (k := 3) V (by decide) (by decide) (by decide) (by decide)
  have EA : zany (fun i => zcr (zsl (zMv h) 0) kn M x ((zled (zsl (zMv h) 0) (nI 3) (zn (zsl (zMv h) 0) 4)).getD i zrN)) (zled (zsl (zMv h) 0) (nI 3) (zn (zsl (zMv h) 0) 4)).length = zany (fun e => decide (zsl (zMv h) 0 22 e = 3) && zcr (zsl (zMv h) 0) kn M x (zrow (zsl (zMv h) 0) e)) (zn (zsl (zMv h) 0) 4) := zany_led (zcr (zsl (zMv h) 0) kn M x)
  rw [← EA]
  generalize zled (zsl (zMv h) 0) (nI 3) (zn (zsl (zMv h) 0) 4) = l at *
  have K : ∀ k i, i + k = l.length → zany (fun i => zcr (zsl (zMv h) 0) kn M x (l.getD i zrN)) i = false → ai_E (d + 1) 173 15 [some (.inr (.inr (31, 0, 128))), some (.inl (nI x)), some (.inl (nI M)), some (.inl kn), some (.inr (.inr (25, 0, 268452100))), some (.inl (nI i))] [] h = some ([.inl (zb (zany (fun i => zcr (zsl (zMv h) 0) kn M x (l.getD i zrN)) l.length = true))], h) := by
    intro k
    induction k with
    | zero =>
      intro i hi hb
      have hi : i = l.length := by omega
      subst hi
      rw [T173_15, show h.1 268452100 4 = nI l.length from l1.1, if_pos (by rw [z_le]; omega), z_b0, zb_f (by rw [hb]; decide)]
    | succ k ih =>
      intro i hi hb
      have er := zL_row l1 (i := i) (by omega)
      have e0 : (l.getD i zrN).1 = h.1 34361868801 i := by rw [er]; rfl
      have e2 : (l.getD i zrN).2.2.1 = h.1 34361868803 i := by rw [er]; rfl
      have e3 : (l.getD i zrN).2.2.2 = h.1 34361868804 i := by rw [er]; rfl
      obtain ⟨t, ht, et⟩ := z_rng (hwho _ (z_mem (l := l) (i := i) (by omega)))
      have ix : ∀ f : Nat → Option ai_R, ai_ix (nI i) (zmost 3) f = f i := fun f => z_ix (by omega) (by omega)
      rw [T173_15, show h.1 268452100 4 = nI l.length from l1.1, if_neg (by rw [nI_leI (by omega) (by omega)]; omega)]
      simp only [k0', k2', k3', ix, ← e0, ← e2, ← e3, nI_1, z_b0, z_b1]
      have no : zcr (zsl (zMv h) 0) kn M x (l.getD i zrN) = false → zany (fun i => zcr (zsl (zMv h) 0) kn M x (l.getD i zrN)) (i + 1) = false := by
        intro q
        show (zany (fun i => zcr (zsl (zMv h) 0) kn M x (l.getD i zrN)) i || zcr (zsl (zMv h) 0) kn M x (l.getD i zrN)) = false
        rw [q, hb]
        rfl
      by_cases c1 : kn < (l.getD i zrN).2.2.2
      · rw [if_pos c1]
        refine ih (i + 1) (by omega) (no ?_)
        unfold zcr
        rw [decide_eq_false (fun q => by rw [z_le] at q; rw [z_lt] at c1; omega)]
        rfl
      · rw [if_neg c1]
        have c1' : (l.getD i zrN).2.2.2 ≤ kn := by rw [z_lt] at c1; rw [z_le]; omega
        by_cases c2 : (l.getD i zrN).2.2.1 = 0
        · rw [if_pos c2]
          refine ih (i + 1) (by omega) (no ?_)
          unfold zcr
          rw [decide_eq_true c2]
          simp
        · rw [if_neg c2, et, X5 _ hr ht]
          simp only [z_bi]
          have w := (z_nd hr ht).2.2.2.2.2
          have wl : zab (zsl (zMv h) 0) (znd (zsl (zMv h) 0) t) &&& M < 2147483648 := Nat.lt_of_le_of_lt Nat.and_le_left w
          have p2 : 2 ^ x < 2147483648 := Nat.lt_of_lt_of_le (Nat.pow_lt_pow_right (by decide) hx) (by decide)
          have ec : zcr (zsl (zMv h) 0) kn M x (l.getD i zrN) = decide (zab (zsl (zMv h) 0) (znd (zsl (zMv h) 0) t) &&& M = 2 ^ x) := by
            unfold zcr
            rw [decide_eq_true c1', decide_eq_false c2, et, z_T (by omega), Int.toNat_natCast]
            rfl
          rw [z_and, z_bit (by omega)]
          simp only [nI_eq wl p2]
          by_cases c3 : zab (zsl (zMv h) 0) (znd (zsl (zMv h) 0) t) &&& M = 2 ^ x
          · rw [if_pos c3, zb_t]
            rw [zany_p]
            exact ⟨i, by omega, by rw [ec]; exact decide_eq_true c3⟩
          · rw [if_neg c3]
            exact ih (i + 1) (by omega) (no (by rw [ec]; exact decide_eq_false c3))
  rw [T173]
  exact K l.length 0 (by omega) rfl
theorem M271 {h : ai_H} {y : Nat} (d : Nat) (kn : Int32) (hr : zR h) (hy : y < 30000) : ai_X (d + 2) 271 [.inr (.inr (32, 0, 16128)), .inl (nI y), .inl kn] h = some ([.inl (zb (zcln (zsl (zMv h) 0) kn y = true))], h) := by
  obtain ⟨b0, b1, b2, b8, b5, b4, b3, V⟩ := zR_b hr
  have i0 : ∀ f : Nat → Option ai_R, ai_ix 0 4 f = f 0 := fun f => z_i0 (by decide) (by decide)
  have K : ∀ k i, i + k = zn (zsl (zMv h) 0) 4 → zany (fun e => decide (zsl (zMv h) 0 22 e = 3) && zcl (zsl (zMv h) 0) kn y (zrow (zsl (zMv h) 0) e)) i = false → ai_E (d + 1) 271 2 [some (.inr (.inr (32, 0, 16128))), some (.inl (nI y)), some (.inl kn), some (.inl (nI i))] [] h = some ([.inl (zb (zcln (zsl (zMv h) 0) kn y = true))], h) := by
    intro k
    induction k with
    | zero =>
      intro i hi hb
      have hi : i = zn (zsl (zMv h) 0) 4 := by omega
      subst hi
      rw [T271_2, i0, b4.1, if_pos (by rw [z_le]; omega), z_b0, zb_f]
      unfold zcln
      rw [hb]
      decide
    | succ k ih =>
      intro i hi hb
      have e22 : h.1 2064407 i = zsl (zMv h) 0 22 i := (zs0 (f := 22) (by omega)).symm
      have e25 : h.1 2064410 i = zsl (zMv h) 0 25 i := (zs0 (f := 25) (by omega)).symm
      have e26 : h.1 2064411 i = zsl (zMv h) 0 26 i := (zs0 (f := 26) (by omega)).symm
      have ix : ∀ f : Nat → Option ai_R, ai_ix (nI i) 2400 f = f i := fun f => z_ix (by omega) (by decide)
      have no : (decide (zsl (zMv h) 0 22 i = 3) && zcl (zsl (zMv h) 0) kn y (zrow (zsl (zMv h) 0) i)) = false → ai_E (d + 1) 271 2 [some (.inr (.inr (32, 0, 16128))), some (.inl (nI y)), some (.inl kn), some (.inl (nI (i + 1)))] [] h = some ([.inl (zb (zcln (zsl (zMv h) 0) kn y = true))], h) := fun q => ih (i + 1) (by omega) (by
        show (zany (fun e => decide (zsl (zMv h) 0 22 e = 3) && zcl (zsl (zMv h) 0) kn y (zrow (zsl (zMv h) 0) e)) i || (decide (zsl (zMv h) 0 22 i = 3) && zcl (zsl (zMv h) 0) kn y (zrow (zsl (zMv h) 0) i))) = false
        rw [q, hb]
        rfl)
      rw [T271_2, i0, b4.1, if_neg (by rw [nI_leI (by omega) (by omega)]; omega)]
      simp only [ix, e22, e25, e26, nI_1, z_b0, z_b1]
      by_cases c1 : zsl (zMv h) 0 22 i = 3
      · rw [if_pos c1]
        have r3 : (zrow (zsl (zMv h) 0) i).2.2.2 = zsl (zMv h) 0 26 i := rfl
        have r2 := zrow25 (σ := zsl (zMv h) 0) (e := i) (by rw [c1]; decide)
        by_cases c2 : kn < zsl (zMv h) 0 26 i
        · rw [if_pos c2]
          refine no ?_
          unfold zcl
          rw [r3, decide_eq_false (show ¬ zsl (zMv h) 0 26 i ≤ kn from fun q => by rw [z_le] at q; rw [z_lt] at c2; omega)]
          simp
        · rw [if_neg c2]
          have c2' : zsl (zMv h) 0 26 i ≤ kn := by rw [z_lt] at c2; rw [z_le]; omega
          by_cases c3 : zsl (zMv h) 0 25 i = 0
          · rw [if_pos c3]
            obtain ⟨a1, a2, a3, a4, a5, a6, a7, a8, a9⟩ := V.2.2.2.2.1.1 i (by omega)
            have a8 := a8 (by rw [c1]; decide) (by rw [c1]; decide) (by rw [c1]; decide)
            obtain ⟨t, ht, et⟩ := z_rng ⟨a5, a8⟩
            have e23 : h.1 2064408 i = nI t := ((zs0 (f := 23) (by omega)).symm).trans et
            have n6 := z_nd hr ht
            have r1 : (zrow (zsl (zMv h) 0) i).1 = nI t := et
            rw [e23, z_ix (by omega) (by decide), n6.2.2.2.1, M269 _ hr hy _ n6.1]
            simp only [z_bi, zb_0]
            have ec : zcl (zsl (zMv h) 0) kn y (zrow (zsl (zMv h) 0) i) = (zab (zsl (zMv h) 0) (znd (zsl (zMv h) 0) t)).testBit y := by
              unfold zcl zrb
              rw [r3, r2, r1, decide_eq_true c2', decide_eq_true c3, z_T (by omega), Int.toNat_natCast]
              rfl
            by_cases c4 : (zab (zsl (zMv h) 0) (znd (zsl (zMv h) 0) t)).testBit y = true
            · rw [if_neg (fun q => q c4), zb_t]
              unfold zcln
              rw [zany_p]
              exact ⟨i, by omega, by rw [ec, c4, decide_eq_true c1]; rfl⟩
            · rw [if_pos c4]
              refine no ?_
              rw [ec, zbF c4, Bool.and_false]
          · rw [if_neg c3]
            refine no ?_
            unfold zcl
            rw [r2, decide_eq_false c3]
            simp
      · rw [if_neg c1]
        refine no ?_
        rw [decide_eq_false c1]
        rfl
  rw [T271]
  exact K (zn (zsl (zMv h) 0) 4) 0 (by omega) rfl
