/-! beside -/
theorem M298 {h : ai_H} (d : Nat) (f t kn : Int32) (hr : zR h) (hf : 0 ≤ f.toInt ∧ f.toInt ≤ 999) (ht : 0 ≤ t.toInt ∧ t.toInt ≤ 999) (hft : f.toInt ≤ t.toInt) : ai_X (d + 3) 298 [.inr (.inr (32, 0, 16128)), .inl f, .inl t, .inl kn] h = some ([.inl (zsm (zH1 (zsl (zMv h) 0) f kn) (t.toInt.toNat + 1))], h) := by
  obtain ⟨b0, b1, b2, b8, b5, b4, b3, V⟩ := zR_b hr
  have i0 : ∀ f : Nat → Option ai_R, ai_ix 0 4 f = f 0 := fun f => z_i0 (by decide) (by decide)
  have KI : ∀ (A : Int32) (x : Nat), x < 1000 → ∀ z1, ∃ z6 z7, ai_E (d + 2) 298 24 [some (.inr (.inr (32, 0, 16128))), z1, some (.inl t), some (.inl kn), some (.inl A), some (.inl (nI x)), some (.inl (zcha (zsl (zMv h) 0) (nI x) kn (zn (zsl (zMv h) 0) 4))), some (.inl 0)] [] h = ai_E (d + 2) 298 6 [some (.inr (.inr (32, 0, 16128))), z1, some (.inl t), some (.inl kn), some (.inl (A + zgn (zsl (zMv h) 0) kn x)), some (.inl (nI (x + 1))), z6, z7] [] h := by
    intro A x hx z1
    have ez : zgn (zsl (zMv h) 0) kn x = if 0 < zcha (zsl (zMv h) 0) (nI x) kn (zn (zsl (zMv h) 0) 4) then zcha (zsl (zMv h) 0) (nI x) kn (zn (zsl (zMv h) 0) 4) * nI (zopen (zsl (zMv h) 0) (nI x) kn) else 0 := rfl
    rw [ez]
    generalize zcha (zsl (zMv h) 0) (nI x) kn (zn (zsl (zMv h) 0) 4) = v
    by_cases g : 0 < v
    · rw [if_pos g]
      have g' : ¬ v ≤ 0 := by rw [z_le]; rw [z_lt] at g; omega
      have K : ∀ k j, j + k = zn (zsl (zMv h) 0) 1 → ai_E (d + 2) 298 24 [some (.inr (.inr (32, 0, 16128))), z1, some (.inl t), some (.inl kn), some (.inl (A + v * nI (zcnt (fun j => ¬ zshut (zsl (zMv h) 0) (nI j) (nI x) kn = true) j))), some (.inl (nI x)), some (.inl v), some (.inl (nI j))] [] h = ai_E (d + 2) 298 6 [some (.inr (.inr (32, 0, 16128))), z1, some (.inl t), some (.inl kn), some (.inl (A + v * nI (zopen (zsl (zMv h) 0) (nI x) kn))), some (.inl (nI (x + 1))), some (.inl v), some (.inl (nI (zn (zsl (zMv h) 0) 1)))] [] h := by
        intro k
        induction k with
        | zero =>
          intro j hj
          have hj : j = zn (zsl (zMv h) 0) 1 := by omega
          subst hj
          rw [T298_24, i0, b1.2.1, if_pos (by rw [z_le]; omega), nI_1]
          rfl
        | succ k ih =>
          intro j hj
          have ih := ih (j + 1) (by omega)
          have es : zcnt (fun j => ¬ zshut (zsl (zMv h) 0) (nI j) (nI x) kn = true) (j + 1) = zcnt (fun j => ¬ zshut (zsl (zMv h) 0) (nI j) (nI x) kn = true) j + if ¬ zshut (zsl (zMv h) 0) (nI j) (nI x) kn = true then 1 else 0 := rfl
          rw [es] at ih
          rw [T298_24, i0, b1.2.1, if_neg (by rw [nI_leI (by omega) (by omega)]; omega), if_neg g', M222 _ _ _ _ hr]
          simp only [z_bi, zb_0, nI_1]
          by_cases q : zshut (zsl (zMv h) 0) (nI j) (nI x) kn = true
          · rw [if_neg (fun y => y q), Int32.add_zero]
            rw [if_neg (fun y => y q), Nat.add_zero] at ih
            exact ih
          · rw [if_pos q]
            rw [if_pos q, ← nI_1, Int32.mul_add, Int32.mul_one, ← Int32.add_assoc] at ih
            exact ih
      refine ⟨_, _, Eq.trans ?_ (K (zn (zsl (zMv h) 0) 1) 0 (by omega))⟩
      show _ = ai_E (d + 2) 298 24 [some (.inr (.inr (32, 0, 16128))), z1, some (.inl t), some (.inl kn), some (.inl (A + v * 0)), some (.inl (nI x)), some (.inl v), some (.inl 0)] [] h
      rw [Int32.mul_zero, Int32.add_zero]
    · rw [if_neg g, Int32.add_zero]
      refine ⟨some (.inl v), some (.inl 0), ?_⟩
      have g' : v ≤ 0 := by rw [z_le]; rw [z_lt] at g; omega
      rw [T298_24, i0, if_pos g', nI_1]
      by_cases q : h.1 2064386 0 ≤ 0
      · rw [if_pos q]
      · rw [if_neg q]
  have K : ∀ k x, x + k = t.toInt.toNat + 1 → f.toInt.toNat ≤ x → ∀ z1 z6 z7, ai_E (d + 2) 298 6 [some (.inr (.inr (32, 0, 16128))), z1, some (.inl t), some (.inl kn), some (.inl (zsm (zH1 (zsl (zMv h) 0) f kn) x)), some (.inl (nI x)), z6, z7] [] h = some ([.inl (zsm (zH1 (zsl (zMv h) 0) f kn) (t.toInt.toNat + 1))], h) := by
    intro k
    induction k with
    | zero =>
      intro x hx hfx z1 z6 z7
      have hx : x = t.toInt.toNat + 1 := by omega
      subst hx
      rw [T298_6, if_pos (by rw [z_lt, z_T (by omega)]; omega)]
    | succ k ih =>
      intro x hx hfx z1 z6 z7
      have ih := ih (x + 1) (by omega) (by omega)
      have es : zsm (zH1 (zsl (zMv h) 0) f kn) (x + 1) = zsm (zH1 (zsl (zMv h) 0) f kn) x + zH1 (zsl (zMv h) 0) f kn x := rfl
      have e1 : zH1 (zsl (zMv h) 0) f kn x = zgn (zsl (zMv h) 0) kn x := by
        unfold zH1
        rw [if_pos (by rw [z_le, z_T (by omega)]; omega)]
      rw [es, e1] at ih
      rw [T298_6, if_neg (by rw [z_lt, z_T (by omega)]; omega), M295 _ _ _ hr]
      simp only [z_bi]
      obtain ⟨y6, y7, q⟩ := KI (zsm (zH1 (zsl (zMv h) 0) f kn) x) x (by omega) z1
      rw [q]
      exact ih _ _ _
  have e0 : zsm (zH1 (zsl (zMv h) 0) f kn) f.toInt.toNat = 0 := by
    refine zsm_0 fun x hx => ?_
    unfold zH1
    rw [if_neg (by rw [z_le, z_T (by omega)]; omega)]
  have q := K (t.toInt.toNat + 1 - f.toInt.toNat) f.toInt.toNat (by omega) (Nat.le_refl _)
  rw [e0, ← z_nat hf.1] at q
  rw [T298]
  exact q _ _ _
def zk1 (f t kn : Int32) (r : zR4) : Int32 := if zsp f t kn r then 1 else 0
def zk2 (σ : Nat → Nat → Int32) (f t kn : Int32) (r : zR4) : Int32 := if zsp f t kn r then σ 14 r.1.toInt.toNat else 0
def zk3 (σ : Nat → Nat → Int32) (f t kn : Int32) (y : Nat) (r : zR4) : Bool := decide (zsp f t kn r) && zshut σ r.1 r.2.1 kn && decide (r.1.toInt.toNat = y)
theorem z_orb {A t : Nat} {y : Nat} : (A ||| 2 ^ t).testBit y = (A.testBit y || decide (t = y)) := by rw [Nat.testBit_or, Nat.testBit_two_pow]
theorem P_beside (f t kn w : Int32) : zPr 135 299 [.inl f, .inl t, .inl kn, .inl w] := zPr_q fun d h hr => by
  obtain ⟨b0, b1, b2, b8, b5, b4, b3, V⟩ := zR_b hr
  have i0 : ∀ f : Nat → Option ai_R, ai_ix 0 4 f = f 0 := fun f => z_i0 (by decide) (by decide)
  have hC : zC h 2097281 (zsl (zMv h) 0) := hr.1.1.1
  by_cases c : (0 ≤ f.toInt ∧ f.toInt ≤ 999) ∧ (0 ≤ t.toInt ∧ t.toInt ≤ 999) ∧ f.toInt ≤ t.toInt ∧ (0 ≤ kn.toInt ∧ kn.toInt ≤ 999)
  · by_cases c1 : 0 ≤ w.toInt ∧ w.toInt ≤ 3
    · by_cases c2 : w = 2
      · refine ⟨zsm (zH1 (zsl (zMv h) 0) f kn) (t.toInt.toNat + 1), h, h, ?_, zF_rf, ?_, zF_rf⟩
        · rw [T135, X150]
          simp only [z_bi, zb_0]
          rw [if_neg (fun q => q c), X146]
          simp only [z_bi, zb_0, zl0, zl1, zl2, zl3, zl4, zl5, zl6, zl7, zl8, zl9, zl10, zl12, zl15, zl16, zl20, zl22, zl23, zl24, zl27, zl30, zl31, zl32, zl40, zl46, zl48, zl50, zl57, zl59, zl60, zl61, zl62, zl63, zl80, zl96, zl97, zl99, zl100, zl122, zl255, zl360, zl500, zl999, zl9999, zl60000, zl99999, zl16777215, zl1073741824, zlm1, zlm2, zlm3]
          rw [if_neg (fun q => q c1), if_pos c2, X179 _ _ _ _ hr c.2.1]
          simp only [z_bi]
        · rw [T299, M297]
          simp only [z_bi, zb_0]
          rw [if_neg (fun q => q c), M186]
          simp only [z_bi, zb_0, zl0, zl1, zl2, zl3, zl4, zl5, zl6, zl7, zl8, zl9, zl10, zl12, zl15, zl16, zl20, zl22, zl23, zl24, zl27, zl30, zl31, zl32, zl40, zl46, zl48, zl50, zl57, zl59, zl60, zl61, zl62, zl63, zl80, zl96, zl97, zl99, zl100, zl122, zl255, zl360, zl500, zl999, zl9999, zl60000, zl99999, zl16777215, zl1073741824, zlm1, zlm2, zlm3]
          rw [if_neg (fun q => q c1), if_pos c2, M298 _ _ _ _ hr c.1 c.2.1 c.2.2.1]
          simp only [z_bi]
      · obtain ⟨l1, lk, l3, l4⟩ := zR_led hr (k := 6) (by decide)
        obtain ⟨k0, k1, k2, k3⟩ := id lk
        have k0' : (h.2.2.2.1 34361869185).2 = zmost 6 := k0
        have k1' : (h.2.2.2.1 34361869186).2 = zmost 6 := k1
        have hwho := zled_tap (k := 6) V (by decide) (by decide) (by decide) (by decide)
        have s1 := zls_led (f := zk1 f t kn) (σ := zsl (zMv h) 0) (k := nI 6) (zn (zsl (zMv h) 0) 4)
        have s2 := zls_led (f := zk2 (zsl (zMv h) 0) f t kn) (σ := zsl (zMv h) 0) (k := nI 6) (zn (zsl (zMv h) 0) 4)
        have s3 := fun y => zany_led (σ := zsl (zMv h) 0) (k := nI 6) (n := zn (zsl (zMv h) 0) 4) (zk3 (zsl (zMv h) 0) f t kn y)
        generalize zled (zsl (zMv h) 0) (nI 6) (zn (zsl (zMv h) 0) 4) = l at *
        have KX : ∀ k i, i + k = l.length → ∀ A, A < 2147483648 → (∀ y, A.testBit y = zany (fun i => zk3 (zsl (zMv h) 0) f t kn y (l.getD i zrN)) i) → ∀ z10, ∃ B, ai_E (d + 59) 135 58 [some (.inr (.inr (31, 0, 128))), some (.inl f), some (.inl t), some (.inl kn), some (.inl w), some (.inr (.inr (25, 0, 268452103))), some (.inl (zsm (fun i => zk1 f t kn (l.getD i zrN)) i)), some (.inl (zsm (fun i => zk2 (zsl (zMv h) 0) f t kn (l.getD i zrN)) i)), some (.inl (nI A)), some (.inl (nI i)), z10] [] h =
            some ([.inl (if w = 3 then nI B else if w = 0 then zls (zk1 f t kn) l else zls (zk2 (zsl (zMv h) 0) f t kn) l)], h) ∧ B < 2147483648 ∧ ∀ y, B.testBit y = zany (fun i => zk3 (zsl (zMv h) 0) f t kn y (l.getD i zrN)) l.length := by
          intro k
          induction k with
          | zero =>
            intro i hi A hA hb z10
            have hi : i = l.length := by omega
            subst hi
            refine ⟨A, ?_, hA, hb⟩
            rw [T135_58, show h.1 268452103 4 = nI l.length from l1.1, if_pos (by rw [z_le]; omega), zsm_zls, zsm_zls]
            by_cases q : w = 3
            · rw [if_pos q, if_pos q]
            · rw [if_neg q, if_neg q]
              by_cases q2 : w = 0
              · rw [if_pos q2, if_pos q2]
              · rw [if_neg q2, if_neg q2]
          | succ k ih =>
            intro i hi A hA hb z10
            have ih := ih (i + 1) (by omega)
            have er := zL_row l1 (i := i) (by omega)
            have e0 : (l.getD i zrN).1 = h.1 34361869185 i := by rw [er]; rfl
            have e1 : (l.getD i zrN).2.1 = h.1 34361869186 i := by rw [er]; rfl
            obtain ⟨p, hp, ep⟩ := z_rng (hwho _ (z_mem (l := l) (i := i) (by omega)))
            have ix : ∀ f : Nat → Option ai_R, ai_ix (nI i) (zmost 6) f = f i := fun f => z_ix (by omega) (by omega)
            have ipx : ∀ f : Nat → Option ai_R, ai_ix (nI p) 24 f = f p := fun f => z_ix (by omega) (by decide)
            have g1 : zsm (fun i => zk1 f t kn (l.getD i zrN)) (i + 1) = zsm (fun i => zk1 f t kn (l.getD i zrN)) i + zk1 f t kn (l.getD i zrN) := rfl
            have g2 : zsm (fun i => zk2 (zsl (zMv h) 0) f t kn (l.getD i zrN)) (i + 1) = zsm (fun i => zk2 (zsl (zMv h) 0) f t kn (l.getD i zrN)) i + zk2 (zsl (zMv h) 0) f t kn (l.getD i zrN) := rfl
            have g3 : ∀ y, zany (fun i => zk3 (zsl (zMv h) 0) f t kn y (l.getD i zrN)) (i + 1) = (zany (fun i => zk3 (zsl (zMv h) 0) f t kn y (l.getD i zrN)) i || zk3 (zsl (zMv h) 0) f t kn y (l.getD i zrN)) := fun y => rfl
            have e14 : h.1 268451980 p = zsl (zMv h) 0 14 p := (hC.2.2.2.2.2.2.2.1 p hp).2.2.2.1
            rw [g1, g2] at ih
            simp only [g3] at ih
            rw [T135_58, show h.1 268452103 4 = nI l.length from l1.1, if_neg (by rw [nI_leI (by omega) (by omega)]; omega), show ai_X (d + 59) 38 [.inr (.inr (25, 0, 268452103)), .inl (nI i), .inl f, .inl t, .inl kn] h = _ from X38 (d + 58) f t kn l1 lk l3 (by omega) (by omega)]
            simp only [z_bi, zb_0, nI_1, k0', k1', ix, ← e0, ← e1]
            unfold zk1 zk2 zk3 at ih ⊢
            by_cases q : zsp f t kn (l.getD i zrN)
            · rw [if_neg (fun x => x q), ep, ipx, X166 _ _ _ _ hr]
              simp only [z_bi, zb_0, e14]
              have hpt : (nI p).toInt.toNat = p := by rw [z_T (by omega)]; rfl
              rw [if_pos q, if_pos q] at ih
              simp only [decide_eq_true q, Bool.true_and, ep, hpt] at ih
              by_cases q2 : zshut (zsl (zMv h) 0) (nI p) (l.getD i zrN).2.1 kn = true
              · rw [if_neg (fun x => x q2), z_bit (by omega), z_or]
                refine ih (A ||| 2 ^ p) (zor31 hA (Nat.lt_of_lt_of_le (Nat.pow_lt_pow_right (by decide) (show p < 24 by omega)) (by decide))) (fun y => ?_) _
                rw [z_orb, hb y, q2]
                rfl
              · rw [if_pos q2, Int32.or_zero]
                refine ih A hA (fun y => ?_) _
                rw [hb y, zbF q2, Bool.false_and, Bool.or_false]
                rfl
            · rw [if_pos q]
              rw [if_neg q, if_neg q, Int32.add_zero, Int32.add_zero] at ih
              refine ih A hA (fun y => ?_) _
              rw [hb y, decide_eq_false q, Bool.false_and, Bool.false_and, Bool.or_false]
              rfl
        have KM : ∀ k i, i + k = zn (zsl (zMv h) 0) 4 → ∀ A, A < 2147483648 → (∀ y, A.testBit y = zany (fun e => decide (zsl (zMv h) 0 22 e = nI 6) && zk3 (zsl (zMv h) 0) f t kn y (zrow (zsl (zMv h) 0) e)) i) → ∃ B, ai_E (d + 59) 299 47 [some (.inr (.inr (32, 0, 16128))), some (.inl f), some (.inl t), some (.inl kn), some (.inl w), some (.inl (zsm (fun e => if zsl (zMv h) 0 22 e = nI 6 then zk1 f t kn (zrow (zsl (zMv h) 0) e) else 0) i)), some (.inl (zsm (fun e => if zsl (zMv h) 0 22 e = nI 6 then zk2 (zsl (zMv h) 0) f t kn (zrow (zsl (zMv h) 0) e) else 0) i)), some (.inl (nI A)), some (.inl (nI i))] [] h =
            some ([.inl (if w = 3 then nI B else if w = 0 then zls (zk1 f t kn) l else zls (zk2 (zsl (zMv h) 0) f t kn) l)], h) ∧ B < 2147483648 ∧ ∀ y, B.testBit y = zany (fun e => decide (zsl (zMv h) 0 22 e = nI 6) && zk3 (zsl (zMv h) 0) f t kn y (zrow (zsl (zMv h) 0) e)) (zn (zsl (zMv h) 0) 4) := by
          intro k
          induction k with
          | zero =>
            intro i hi A hA hb
            have hi : i = zn (zsl (zMv h) 0) 4 := by omega
            subst hi
            refine ⟨A, ?_, hA, hb⟩
            rw [T299_47, i0, b4.1, if_pos (by rw [z_le]; omega), ← s1, ← s2]
            have w0 : w = 0 ↔ w.toInt = 0 := by rw [z_eq]; exact Iff.rfl
            have w1 : w = 1 ↔ w.toInt = 1 := by rw [z_eq]; exact Iff.rfl
            have w2 : w = 2 ↔ w.toInt = 2 := by rw [z_eq]; exact Iff.rfl
            have w3 : w = 3 ↔ w.toInt = 3 := by rw [z_eq]; exact Iff.rfl
            by_cases q : w = 0
            · rw [if_pos q, if_neg (by rw [w3]; rw [w0] at q; omega), if_pos q]
            · rw [if_neg q]
              by_cases q2 : w = 1
              · rw [if_pos q2, if_neg (by rw [w3]; rw [w1] at q2; omega), if_neg q]
              · rw [if_neg q2, if_pos (by rw [w3]; rw [w1] at q2; rw [w0] at q; rw [w2] at c2; omega)]
          | succ k ih =>
            intro i hi A hA hb
            have ih := ih (i + 1) (by omega)
            have e23 : h.1 2064408 i = zsl (zMv h) 0 23 i := (zs0 (f := 23) (by omega)).symm
            have e24 : h.1 2064409 i = zsl (zMv h) 0 24 i := (zs0 (f := 24) (by omega)).symm
            have ix : ∀ f : Nat → Option ai_R, ai_ix (nI i) 2400 f = f i := fun f => z_ix (by omega) (by decide)
            have g1 : zsm (fun e => if zsl (zMv h) 0 22 e = nI 6 then zk1 f t kn (zrow (zsl (zMv h) 0) e) else 0) (i + 1) = zsm (fun e => if zsl (zMv h) 0 22 e = nI 6 then zk1 f t kn (zrow (zsl (zMv h) 0) e) else 0) i + (if zsl (zMv h) 0 22 i = nI 6 then zk1 f t kn (zrow (zsl (zMv h) 0) i) else 0) := rfl
            have g2 : zsm (fun e => if zsl (zMv h) 0 22 e = nI 6 then zk2 (zsl (zMv h) 0) f t kn (zrow (zsl (zMv h) 0) e) else 0) (i + 1) = zsm (fun e => if zsl (zMv h) 0 22 e = nI 6 then zk2 (zsl (zMv h) 0) f t kn (zrow (zsl (zMv h) 0) e) else 0) i + (if zsl (zMv h) 0 22 i = nI 6 then zk2 (zsl (zMv h) 0) f t kn (zrow (zsl (zMv h) 0) i) else 0) := rfl
            have g3 : ∀ y, zany (fun e => decide (zsl (zMv h) 0 22 e = nI 6) && zk3 (zsl (zMv h) 0) f t kn y (zrow (zsl (zMv h) 0) e)) (i + 1) = (zany (fun e => decide (zsl (zMv h) 0 22 e = nI 6) && zk3 (zsl (zMv h) 0) f t kn y (zrow (zsl (zMv h) 0) e)) i || (decide (zsl (zMv h) 0 22 i = nI 6) && zk3 (zsl (zMv h) 0) f t kn y (zrow (zsl (zMv h) 0) i))) := fun y => rfl
            rw [g1, g2] at ih
            simp only [g3] at ih
            rw [T299_47, i0, b4.1, if_neg (by rw [nI_leI (by omega) (by omega)]; omega), show ai_X (d + 59) 296 [.inr (.inr (32, 0, 16128)), .inl (nI i), .inl 6, .inl f, .inl t, .inl kn] h = _ from M296 (d + 57) (nI 6) f t kn (by omega)]
            simp only [z_bi, zb_0, nI_1, ix, e23, e24]
            have r0 : (zrow (zsl (zMv h) 0) i).1 = zsl (zMv h) 0 23 i := rfl
            have r1 : (zrow (zsl (zMv h) 0) i).2.1 = zsl (zMv h) 0 24 i := rfl
            unfold zk1 zk2 zk3 at ih ⊢
            by_cases q : zsl (zMv h) 0 22 i = nI 6 ∧ zsp f t kn (zrow (zsl (zMv h) 0) i)
            · obtain ⟨a1, a2, a3, a4, a5, a6, a7, a8, a9⟩ := V.2.2.2.2.1.1 i (by omega)
              have a8 := a8 (by rw [q.1]; decide) (by rw [q.1]; decide) (by rw [q.1]; decide)
              obtain ⟨p, hp, ep⟩ := z_rng ⟨a5, a8⟩
              have ipx : ∀ f : Nat → Option ai_R, ai_ix (nI p) 96 f = f p := fun f => z_ix (by omega) (by decide)
              have e14 : h.1 2064399 p = zsl (zMv h) 0 14 p := (zs0 (f := 14) (by omega)).symm
              rw [if_neg (fun x => x q), ep, ipx, M222 _ _ _ _ hr]
              simp only [z_bi, zb_0, ix, e23, e14, ep]
              have hpt : (nI p).toInt.toNat = p := by rw [z_T (by omega)]; rfl
              rw [if_pos q.1, if_pos q.1, if_pos q.2, if_pos q.2] at ih
              simp only [decide_eq_true q.1, decide_eq_true q.2, Bool.true_and, r0, r1, ep, hpt] at ih
              by_cases q2 : zshut (zsl (zMv h) 0) (nI p) (zsl (zMv h) 0 24 i) kn = true
              · rw [if_neg (fun x => x q2), z_bit (by omega), z_or]
                refine ih (A ||| 2 ^ p) (zor31 hA (Nat.lt_of_lt_of_le (Nat.pow_lt_pow_right (by decide) (show p < 24 by omega)) (by decide))) (fun y => ?_)
                rw [z_orb, hb y, q2]
                rfl
              · rw [if_pos q2, Int32.or_zero]
                refine ih A hA (fun y => ?_)
                rw [hb y, zbF q2, Bool.false_and, Bool.or_false]
                rfl
            · rw [if_pos q]
              have no : ∀ y, (decide (zsl (zMv h) 0 22 i = nI 6) && (decide (zsp f t kn (zrow (zsl (zMv h) 0) i)) && zshut (zsl (zMv h) 0) (zrow (zsl (zMv h) 0) i).1 (zrow (zsl (zMv h) 0) i).2.1 kn && decide ((zrow (zsl (zMv h) 0) i).1.toInt.toNat = y))) = false := by
                intro y
                by_cases q1 : zsl (zMv h) 0 22 i = nI 6
                · rw [decide_eq_false (show ¬ zsp f t kn (zrow (zsl (zMv h) 0) i) from fun x => q ⟨q1, x⟩)]
                  simp
                · rw [decide_eq_false q1]
                  rfl
              have n1 : (if zsl (zMv h) 0 22 i = nI 6 then (if zsp f t kn (zrow (zsl (zMv h) 0) i) then (1 : Int32) else 0) else 0) = 0 := by
                by_cases q1 : zsl (zMv h) 0 22 i = nI 6
                · rw [if_pos q1, if_neg (fun x => q ⟨q1, x⟩)]
                · rw [if_neg q1]
              have n2 : (if zsl (zMv h) 0 22 i = nI 6 then (if zsp f t kn (zrow (zsl (zMv h) 0) i) then zsl (zMv h) 0 14 (zrow (zsl (zMv h) 0) i).1.toInt.toNat else 0) else 0) = 0 := by
                by_cases q1 : zsl (zMv h) 0 22 i = nI 6
                · rw [if_pos q1, if_neg (fun x => q ⟨q1, x⟩)]
                · rw [if_neg q1]
              rw [n1, n2, Int32.add_zero, Int32.add_zero] at ih
              refine ih A hA (fun y => ?_)
              rw [hb y, no y, Bool.or_false]
              rfl
        obtain ⟨B, x1, x2, x3⟩ := KX l.length 0 (by omega) 0 (by decide) (fun y => Nat.zero_testBit y) none
        obtain ⟨B', y1, y2, y3⟩ := KM (zn (zsl (zMv h) 0) 4) 0 (by omega) 0 (by decide) (fun y => Nat.zero_testBit y)
        have eB : B' = B := by
          apply Nat.eq_of_testBit_eq
          intro y
          rw [y3 y, x3 y, s3 y]
        refine ⟨if w = 3 then nI B else if w = 0 then zls (zk1 f t kn) l else zls (zk2 (zsl (zMv h) 0) f t kn) l, h, h, ?_, zF_rf, ?_, zF_rf⟩
        · rw [T135, X150]
          simp only [z_bi, zb_0]
          rw [if_neg (fun q => q c), X146]
          simp only [z_bi, zb_0, zl0, zl1, zl2, zl3, zl4, zl5, zl6, zl7, zl8, zl9, zl10, zl12, zl15, zl16, zl20, zl22, zl23, zl24, zl27, zl30, zl31, zl32, zl40, zl46, zl48, zl50, zl57, zl59, zl60, zl61, zl62, zl63, zl80, zl96, zl97, zl99, zl100, zl122, zl255, zl360, zl500, zl999, zl9999, zl60000, zl99999, zl16777215, zl1073741824, zlm1, zlm2, zlm3]
          rw [if_neg (fun q => q c1), if_neg c2]
          exact x1
        · rw [T299, M297]
          simp only [z_bi, zb_0]
          rw [if_neg (fun q => q c), M186]
          simp only [z_bi, zb_0, zl0, zl1, zl2, zl3, zl4, zl5, zl6, zl7, zl8, zl9, zl10, zl12, zl15, zl16, zl20, zl22, zl23, zl24, zl27, zl30, zl31, zl32, zl40, zl46, zl48, zl50, zl57, zl59, zl60, zl61, zl62, zl63, zl80, zl96, zl97, zl99, zl100, zl122, zl255, zl360, zl500, zl999, zl9999, zl60000, zl99999, zl16777215, zl1073741824, zlm1, zlm2, zlm3]
          rw [if_neg (fun q => q c1), if_neg c2]
          rw [eB] at y1
          exact y1
    · refine ⟨-1, h, h, ?_, zF_rf, ?_, zF_rf⟩
      · rw [T135, X150]
        simp only [z_bi, zb_0]
        rw [if_neg (fun q => q c), X146]
        simp only [z_bi, zb_0, zl0, zl1, zl2, zl3, zl4, zl5, zl6, zl7, zl8, zl9, zl10, zl12, zl15, zl16, zl20, zl22, zl23, zl24, zl27, zl30, zl31, zl32, zl40, zl46, zl48, zl50, zl57, zl59, zl60, zl61, zl62, zl63, zl80, zl96, zl97, zl99, zl100, zl122, zl255, zl360, zl500, zl999, zl9999, zl60000, zl99999, zl16777215, zl1073741824, zlm1, zlm2, zlm3]
        rw [if_pos c1]
      · rw [T299, M297]
        simp only [z_bi, zb_0]
        rw [if_neg (fun q => q c), M186]
        simp only [z_bi, zb_0, zl0, zl1, zl2, zl3, zl4, zl5, zl6, zl7, zl8, zl9, zl10, zl12, zl15, zl16, zl20, zl22, zl23, zl24, zl27, zl30, zl31, zl32, zl40, zl46, zl48, zl50, zl57, zl59, zl60, zl61, zl62, zl63, zl80, zl96, zl97, zl99, zl100, zl122, zl255, zl360, zl500, zl999, zl9999, zl60000, zl99999, zl16777215, zl1073741824, zlm1, zlm2, zlm3]
        rw [if_pos c1]
  · refine ⟨-1, h, h, ?_, zF_rf, ?_, zF_rf⟩
    · rw [T135, X150]
      simp only [z_bi, zb_0]
      rw [if_pos c]
    · rw [T299, M297]
      simp only [z_bi, zb_0]
      rw [if_pos c]
