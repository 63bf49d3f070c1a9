/-! A TRUST IS WRITTEN: the relation -/
theorem z255 (v : Int32) : ∃ b, b < 256 ∧ v &&& 255 = nI b := ⟨(v.toBitVec &&& 255#32).toNat, by rw [BitVec.toNat_and]; exact Nat.lt_of_le_of_lt Nat.and_le_right (by decide), Int32.toBitVec_inj.mp (by simp [nI])⟩
/-- what may have changed beside -/
def zChT (T q j : Nat) : Prop := (q = 2097284 ∧ j = T) ∨ (q = 2097666 ∧ j = T) ∨ (q = 16388 ∧ j = 0) ∨ (q = 2064422 ∧ j = T) ∨ (q = 2064406 ∧ j = T) ∨ (q = 16128 ∧ j = 33)
theorem zC_k0 {q : Nat} (h : zfp q = 2097281 ∨ zfp q = 2097282 ∨ zfp (zfp q) = 2097282 ∨ zfp q = 2097283 ∨ q = 2097281 ∨ q = 2097282 ∨ q = 2097283) : ¬ q = 2097284 ∧ ¬ q = 2097666 ∧ ¬ q = 16388 := by
  refine ⟨fun c => ?_, fun c => ?_, fun c => ?_⟩ <;> subst c <;> revert h <;> decide
theorem zR_trust {h h2 : ai_H} {w0 T y : Nat} {x2 x3 : Int32} {L : List zTx} (hr : zR h) (hT : zg (zMv h) 33 = T) (T5 : T < 5) (h42 : h.1 16128 42 = nI w0) (hw : w0 ≤ 18000) (hy : ai_dn h = y) (dn : ai_dn h2 = y + 640)
    (gd : zGd L) (l5 : (zfl L).length ≤ 500) (b2 : zi x2 0 16777215) (b3 : zi x3 0 99999)
    (e : ∀ q j, (∀ k, k < 5 → ¬ q = y + 128 * k) → ¬ zChg w0 (1 + T) q j → ¬ zChT T q j → h2.1 q j = h.1 q j)
    (er : ∀ q i, (∀ k, k < 5 → ¬ q = y + 128 * k) → ¬ (q = 2097667 ∧ i = T) → h2.2.2.1 q i = h.2.2.1 q i) (ek : ∀ q, (∀ k, k < 5 → ¬ q = y + 128 * k) → h2.2.2.2.1 q = h.2.2.2.1 q)
    (lw2 : zLw h2 y (zltx L)) (lr : h2.2.2.1 2097667 T = some y)
    (c11 : h2.1 128 11 = -1) (c1 : h2.1 16387 1 = 0) (s49 : h2.1 16128 49 = -1) (s42 : h2.1 16128 42 = nI (w0 + (zfl L).length)) (s48 : h2.1 16128 48 = 0) (cT : h2.1 16388 0 = nI (T + 1)) (s33 : h2.1 16128 33 = nI (T + 1))
    (ct : h2.1 2097666 T = x2) (s37 : h2.1 2064422 T = x2) (cc : h2.1 2097284 T = x3) (s21 : h2.1 2064406 T = x3) (at' : zAt (zMv h2) w0 (1 + T) L) : zR h2 := by
  obtain ⟨r1, r2, r3, r4⟩ := id hr
  obtain ⟨rS, -, rI, rN, -, rT⟩ := r1
  have y0 : y % 128 = 0 := by rw [← hy]; unfold ai_dn; omega
  have y1 : 16128 < y := by rw [← hy]; exact r4
  have nn : ∀ q, zroot q ≤ 16128 → ∀ k, k < 5 → ¬ q = y + 128 * k := fun q hq k hk c => by
    rw [c, zr0 (by omega)] at hq
    omega
  have nm : ∀ q, ¬ q % 128 = 0 → ∀ k, k < 5 → ¬ q = y + 128 * k := fun q hq k hk c => by omega
  have mr : ∀ f, f < 87 → ∀ k, k < 5 → ¬ 2064385 + f = y + 128 * k := fun f hf => nn _ (by rw [zMr hf]; exact Nat.le_refl _)
  have o15 : ∀ k, k < 5 → ¬ (16128 : Nat) = y + 128 * k := nn _ (by decide)
  have sm : ∀ j, ¬ j = 42 → ¬ j = 48 → ¬ j = 49 → ¬ j = 33 → (zMv h2).2 j = (zMv h).2 j := fun j n1 n2 n3 n4 => by
    show (if j < 50 then h2.1 16128 j else 0) = (if j < 50 then h.1 16128 j else 0)
    by_cases c : j < 50
    · rw [if_pos c, if_pos c, e _ _ o15 (by unfold zChg zQz; omega) (by unfold zChT; omega)]
    · rw [if_neg c, if_neg c]
  have m42 : (zMv h2).2 42 = nI (w0 + (zfl L).length) := (zMv2 (by decide)).trans s42
  have m42h : (zMv h).2 42 = nI w0 := (zMv2 (by decide)).trans h42
  have m48 : (zMv h2).2 48 = 0 := (zMv2 (by decide)).trans s48
  have m49 : (zMv h2).2 49 = -1 := (zMv2 (by decide)).trans s49
  have m33 : (zMv h2).2 33 = nI (T + 1) := (zMv2 (by decide)).trans s33
  have g33 : zg (zMv h2) 33 = T + 1 := by unfold zg; rw [m33, z_T (by omega)]; exact Int.toNat_natCast _
  have gz : ∀ j, ¬ j = 42 → ¬ j = 48 → ¬ j = 49 → ¬ j = 33 → zg (zMv h2) j = zg (zMv h) j := fun j n1 n2 n3 n4 => by unfold zg; rw [sm j n1 n2 n3 n4]
  have rw0 : ((zMv h).2 42).toInt.toNat = w0 := by rw [m42h, z_T (by omega)]; exact Int.toNat_natCast w0
  have ra : ∀ f i, f < 36 → (¬ f = 21 ∨ ¬ i = T) → (zMv h2).1 f i = (zMv h).1 f i := fun f i hf hi => by
    rw [zMv1 (by omega), zMv1 (by omega), e _ _ (mr f (by omega)) (by unfold zChg zQz; omega) (by unfold zChT; omega)]
  have r37 : ∀ i, ¬ i = T → (zMv h2).1 37 i = (zMv h).1 37 i := fun i hi => by
    rw [zMv1 (by decide), zMv1 (by decide), e _ _ (mr 37 (by decide)) (by unfold zChg zQz; omega) (by unfold zChT; omega)]
  have fr : ∀ f, 63 ≤ f → f ≤ 66 → (zMv h2).1 f = (zMv h).1 f := fun f h1 h2 => funext fun i => by
    rw [zMv1 (by omega), zMv1 (by omega), e _ _ (mr f (by omega)) (by unfold zChg zQz; omega) (by unfold zChT; omega)]
  have r36 : ∀ j, j < 6 → ¬ j = 1 + T → (zMv h2).1 36 j = (zMv h).1 36 j := fun j hj hn => by
    rw [zMv1 (by decide), zMv1 (by decide), e _ _ (mr 36 (by decide)) (by unfold zChg zQz; omega) (by unfold zChT; omega)]
  have rrow : ∀ p f j, p < 6 → ¬ p = 1 + T → 38 ≤ f → f ≤ 41 → 24 * p ≤ j → j < 24 * p + 24 → (zMv h2).1 f j = (zMv h).1 f j := fun p f j hp hn h1 h2 h3 h4 => by
    rw [zMv1 (by omega), zMv1 (by omega), e _ _ (mr f (by omega)) (by unfold zChg zQz; omega) (by unfold zChT; omega)]
  have rst : ∀ f k, 43 ≤ f → f ≤ 46 → k < w0 → (zMv h2).1 f k = (zMv h).1 f k := fun f k h1 h2 hk => by
    rw [zMv1 (by omega), zMv1 (by omega), e _ _ (mr f (by omega)) (by unfold zChg zQz; omega) (by unfold zChT; omega)]
  have al : ∀ q, zrt h (zroot q) → h2.1 q = h.1 q ∧ h2.2.2.1 q = h.2.2.1 q ∧ h2.2.2.2.1 q = h.2.2.2.1 q := fun q hq => by
    have q1 := hq.2.1
    have q2 := hq.2.2
    rw [hy] at q2
    have nk : ∀ k, k < 5 → ¬ q = y + 128 * k := fun k hk c => by rw [c, zr0 (by omega)] at q2; omega
    have ns : ¬ q = 2097284 ∧ ¬ q = 2097666 ∧ ¬ q = 16388 ∧ ¬ q = 2097667 := by
      refine ⟨fun c => ?_, fun c => ?_, fun c => ?_, fun c => ?_⟩ <;> subst c <;> revert q1 <;> decide
    refine ⟨funext fun j => e q j nk (fun c => by have := zch_root (zChg_c c); omega) (fun c => ?_), funext fun i => er q i nk (fun c => ns.2.2.2 c.1), ek q nk⟩
    unfold zChT at c
    rcases c with c | c | c | c | c | c
    · exact ns.1 c.1
    · exact ns.2.1 c.1
    · exact ns.2.2.1 c.1
    · have := zch_root (q := q) (by omega); omega
    · have := zch_root (q := q) (by omega); omega
    · have := zch_root (q := q) (by omega); omega
  have al' : ∀ q, zrt h q → h2.1 q = h.1 q ∧ h2.2.2.1 q = h.2.2.1 q ∧ h2.2.2.2.1 q = h.2.2.2.1 q := fun q hq => al q (by rw [zr0 hq.1]; exact hq)
  have dl : ai_dn h ≤ ai_dn h2 := by rw [hy, dn]; omega
  have oldX : ∀ q, zroot q ≤ 16128 → ¬ (q = 16387 ∨ q = 128 ∨ (2097543 ≤ q ∧ q ≤ 2097550) ∨ q = 16128 ∨ (2064385 ≤ q ∧ q ≤ 2064471)) → ¬ (q = 2097284 ∨ q = 2097666 ∨ q = 16388) → h2.1 q = h.1 q := fun q hq h1 h2 => funext fun j => e q j (nn q hq) (fun c => h1 (zChg_c c)) (fun c => by unfold zChT at c; omega)
  have lw : ∀ p, p < 6 → ¬ p = 1 + T → zVl (zMv h) p → zlaw (zMv h2) p = zlaw (zMv h) p := fun p hp hn hv => zlaw_w hv (Nat.le_of_eq rw0) (r36 p hp hn) (fun f j h1 h2 h3 h4 => rrow p f j hp hn h1 h2 h3 h4) rst
  have vw : ∀ p, p < 6 → ¬ p = 1 + T → zVl (zMv h) p → zVl (zMv h2) p := fun p hp hn hv => zVl_w hv (Nat.le_of_eq rw0) (by rw [m42, m42h, z_T (by omega), z_T (by omega)]; omega) (r36 p hp hn) (fun f j h1 h2 h3 h4 => rrow p f j hp hn h1 h2 h3 h4) rst
  obtain ⟨v1, v2, v3, v4, v5, v6, v7⟩ := zVmH_of r2
  rw [hT] at v2 v6
  have e0 : zEqS (zsl (zMv h) 0) (zsl (zMv h2) 0) := fun f i hf h9 hi => by
    by_cases c : f = 21
    · subst c; exact absurd hi (Nat.not_lt_zero _)
    · exact ra f _ (by omega) (Or.inl c)
  have V0 := r2.2.1 0 (Nat.zero_le _)
  refine zR_tx hr dl (fun q hq => ?_) al (fun i _ => er 16386 i (nm _ (by decide)) (by omega)) (fun f i hf hi => ra f i (by omega) (by omega)) (sm 32 (by decide) (by decide) (by decide) (by decide)) ?_ (by rw [g33, hT]; omega) ?_ (c11.trans m49.symm) ?_ ⟨by rw [c1, m48], fun i hi => ?_⟩ ?_ ⟨⟨?_, ?_, ?_, ?_, ?_, ?_⟩, fun t ht => ?_, ?_, fun i hi => ?_, ?_, fun t ht => ?_, fun k => ?_⟩ (fun t ht => ?_)
  · rw [dn] at hq
    rw [ek q (fun k hk c => by rw [c, zr0 (by omega)] at hq; omega)]
    exact r3 q (by rw [hy]; omega)
  · rw [g33]
    obtain ⟨z1, z2, z3, z4, z5⟩ := rS
    have key : ∀ q, zin q → ¬ q = 2097284 ∧ ¬ q = 2097666 ∧ ¬ q = 16388 → h2.1 q = h.1 q := fun q hq hn => funext fun j => e q j (nn q (by rw [zin_r hq]; decide)) (fun c => zch_in (zChg_c c) hq) (fun c => by
      unfold zChT at c
      rcases c with c | c | c | c | c | c
      · exact hn.1 c.1
      · exact hn.2.1 c.1
      · exact hn.2.2 c.1
      · exact zch_in (by omega) hq
      · exact zch_in (by omega) hq
      · exact zch_in (by omega) hq)
    refine ⟨zC_e e0 V0 (zC_c (fun q hq => ?_) z1), zD_e e0 (zD_c (fun q hq => ?_) z2), zJ_e e0 (zJ_c (fun q hq => ?_) z3), fun t ht => ?_, fun k hk => ?_⟩
    · refine key q ?_ (zC_k0 (by
        rcases hq with w | w
        · exact Or.inr (Or.inr (Or.inr (Or.inr (Or.inl w))))
        · exact Or.inl w))
      unfold zin
      rcases hq with w | w
      · rw [w]; decide
      · rw [w]; decide
    · refine key q ?_ (zC_k0 (by
        rcases hq with w | w | w
        · exact Or.inr (Or.inr (Or.inr (Or.inr (Or.inr (Or.inl w)))))
        · exact Or.inr (Or.inl w)
        · exact Or.inr (Or.inr (Or.inl w))))
      unfold zin
      rcases hq with w | w | w
      · rw [w]; decide
      · rw [w]; decide
      · exact Or.inr (Or.inr (by rw [w]; decide))
    · refine key q ?_ (zC_k0 (by
        rcases hq with w | w
        · exact Or.inr (Or.inr (Or.inr (Or.inr (Or.inr (Or.inr w)))))
        · exact Or.inr (Or.inr (Or.inr (Or.inl w)))))
      unfold zin
      rcases hq with w | w
      · rw [w]; decide
      · rw [w]; decide
    · show h2.1 2097284 t = (zMv h2).1 21 (5 * 0 + t)
      rw [Nat.mul_zero, Nat.zero_add]
      by_cases c : t = T
      · rw [c, cc, zMv1 (by decide)]
        exact s21.symm
      · rw [ra 21 t (by decide) (Or.inr c), e _ _ (nm _ (by decide)) (by unfold zChg zQz; omega) (by unfold zChT; omega)]
        have := z4 t (by rw [hT]; omega)
        have t0 : zsl (zMv h) 0 21 t = (zMv h).1 21 (5 * 0 + t) := rfl
        rw [t0, Nat.mul_zero, Nat.zero_add] at this
        exact this
    · have := z5 k hk
      unfold zLk at this ⊢
      have kk : ∀ a j, j < 127 → ∀ m, m < 5 → ¬ ai_ch a j = y + 128 * m := fun a j hj m hm c => by unfold ai_ch at c; omega
      rw [ek _ (kk _ _ (by decide)), ek _ (kk _ _ (by decide)), ek _ (kk _ _ (by decide)), ek _ (kk _ _ (by decide))]
      exact this
  · exact e _ _ (nn _ (by decide)) (by unfold zChg zQz; omega) (by unfold zChT; omega)
  · unfold zNm at rN ⊢
    rw [gz 34 (by decide) (by decide) (by decide) (by decide), sm 34 (by decide) (by decide) (by decide) (by decide), oldX 16389 (by decide) (by decide) (by decide), oldX 2097794 (by decide) (by decide) (by decide), oldX 2097795 (by decide) (by decide) (by decide), oldX 2097796 (by decide) (by decide) (by decide), oldX 2097797 (by decide) (by decide) (by decide), oldX 2097798 (by decide) (by decide) (by decide)]
    simp only [fr 63 (by decide) (by decide), fr 64 (by decide) (by decide), fr 65 (by decide) (by decide), fr 66 (by decide) (by decide), zfit_r fr]
    exact rN
  · unfold zg at hi
    rw [m48] at hi
    exact absurd hi (Nat.not_lt_zero _)
  · obtain ⟨f1, f2, z, f3, f4⟩ := rT
    refine ⟨cT.trans m33.symm, fun t ht => ?_, z, by rw [er 128 9 (nn _ (by decide)) (by omega)]; exact f3, ?_⟩
    · rw [g33] at ht
      by_cases c : t = T
      · rw [c]
        exact ⟨by rw [ct, zMv1 (by decide)]; exact s37.symm, y, lr, by rw [zAt_law at']; exact lw2⟩
      · obtain ⟨p1, y', p2, p3⟩ := f2 t (by rw [hT]; omega)
        refine ⟨?_, y', by rw [er _ _ (nm _ (by decide)) (by omega)]; exact p2, by rw [lw (1 + t) (by omega) (by omega) (v6 t (by omega))]; exact zLw_c al' dl p3⟩
        rw [e _ _ (nm _ (by decide)) (by unfold zChg zQz; omega) (by unfold zChT; omega), r37 t c]
        exact p1
    · rw [sm 35 (by decide) (by decide) (by decide) (by decide)]
      by_cases c : (zMv h).2 35 = 0
      · rw [if_pos c] at f4 ⊢
        exact zLw_c al' dl f4
      · rw [if_neg c] at f4 ⊢
        rw [lw 0 (by decide) (by omega) (v7 c)]
        exact zLw_c al' dl f4
  · rw [sm 32 (by decide) (by decide) (by decide) (by decide)]; exact v1.1
  · rw [m33]; unfold zi; rw [z_T (by omega)]; omega
  · rw [sm 34 (by decide) (by decide) (by decide) (by decide)]; exact v1.2.2.1
  · rw [sm 35 (by decide) (by decide) (by decide) (by decide)]; exact v1.2.2.2.1
  · rw [m48]; unfold zi; decide
  · rw [m49]; unfold zi; decide
  · rw [g33] at ht
    by_cases c : t = T
    · rw [c, zMv1 (by decide)]
      rw [show 2064385 + 37 = 2064422 from rfl, s37]
      exact b2
    · rw [r37 t c]
      exact v2 t (by omega)
  · rw [gz 34 (by decide) (by decide) (by decide) (by decide), fr 63 (by decide) (by decide), fr 64 (by decide) (by decide), fr 65 (by decide) (by decide), fr 66 (by decide) (by decide)]
    exact v3
  · unfold zg at hi
    rw [m48] at hi
    exact absurd hi (Nat.not_lt_zero _)
  · obtain ⟨s1, s2, s3⟩ := v5
    rw [hT] at s1 s3
    refine ⟨?_, fun k hk => ?_, fun t h1 h2 => ?_⟩
    · rw [m42, g33]
      rw [m42h] at s1
      unfold zi at s1 ⊢
      rw [z_T (by omega)] at s1 ⊢
      omega
    · rw [m42, z_T (by omega), Int.toNat_natCast] at hk
      by_cases c : k < w0
      · rw [rst 43 k (by decide) (by decide) c, rst 44 k (by decide) (by decide) c, rst 45 k (by decide) (by decide) c, rst 46 k (by decide) (by decide) c]
        exact s2 k (by rw [rw0]; exact c)
      · obtain ⟨i, rfl⟩ : ∃ i, k = w0 + i := ⟨k - w0, by omega⟩
        have il : i < (zfl L).length := by omega
        obtain ⟨k1, k2, k3, k4⟩ := at'.2.2.2.1 i _ (List.getElem?_eq_getElem il)
        rw [k1, k2, k3, k4]
        obtain ⟨p, hp1, hp2⟩ := List.mem_flatMap.mp (List.getElem_mem il)
        exact (gd p hp1).2.2.1 _ hp2
    · rw [g33] at h1
      rw [r36 _ (by omega) (by omega)]
      exact s3 t (by omega) h2
  · rw [g33] at ht
    by_cases c : t = T
    · rw [c]
      exact zAt_vl at' gd (by rw [m42, z_T (by omega)]; exact Int.le_refl _) l5
    · exact vw _ (by omega) (by omega) (v6 t (by omega))
  · rw [sm 35 (by decide) (by decide) (by decide) (by decide)] at k
    exact vw 0 (by decide) (by omega) (v7 k)
  · rw [g33] at ht
    by_cases c : t = T
    · rw [c, zMv1 (by decide), show 2064385 + 21 = 2064406 from rfl, s21]
      exact b3
    · rw [ra 21 t (by decide) (Or.inr c)]
      exact (r2.2.2.2.1.1 t (by rw [hT]; omega)).1
