/-! banned; sums over ledgers; watch, filled, busiest -/
theorem zled_who {σ : Nat → Nat → Int32} {k : Nat} (V : zV σ) (hk : ¬ k = 4) (hk2 : k < 12) {n : Nat} (hn : n ≤ zn σ 4) : ∀ r ∈ zled σ (nI k) n, 0 ≤ r.1.toInt ∧ r.1.toInt < 24 := by
  intro r hr
  obtain ⟨e, he, h1, rfl⟩ := zled_mem.mp hr
  have v := V.2.2.2.2.1.1 e (by omega)
  have l1 := (zn_eq V.1.2.1).2.1
  show 0 ≤ (σ 23 e).toInt ∧ (σ 23 e).toInt < 24
  have eq : ∀ j, j < 12 → (σ 22 e = nI j ↔ k = j) := fun j hj => by rw [h1]; exact nI_eq (by omega) (by omega)
  have q1 : σ 22 e = 1 ↔ k = 1 := eq 1 (by decide)
  have q4 : σ 22 e = 4 ↔ k = 4 := eq 4 (by decide)
  have q5 : σ 22 e = 5 ↔ k = 5 := eq 5 (by decide)
  obtain ⟨a1, a2, a3, a4, a5, a6, a7, a8, a9⟩ := v
  refine ⟨a5, ?_⟩
  by_cases c : k = 1 ∨ k = 5
  · have := a7 (by rw [q1, q5]; exact c)
    rw [this]
    decide
  · have := a8 (fun x => c (Or.inl (q1.mp x))) (fun x => hk (q4.mp x)) (fun x => c (Or.inr (q5.mp x)))
    omega
theorem X41k {h : ai_H} {k : Nat} (d : Nat) (dd kn : Int32) (hr : zR h) (hk : k < 12) (h4 : ¬ k = 4) : ai_X (d + 1) 41 [.inr (.inr (25, 0, ai_ch 2097282 k)), .inl dd, .inl kn] h = some ([.inl (nI (zB (fun t => zsob (nI t) dd kn (zled (zsl (zMv h) 0) (nI k) (zn (zsl (zMv h) 0) 4)) = true) 24))], h) := by
  obtain ⟨l1, l2, l3, l4⟩ := zR_led hr hk
  have V : zV (zsl (zMv h) 0) := hr.2.1.2.1 0 (Nat.zero_le _)
  exact X41 d dd kn l1 (zled_sd _ _ _) l2 l3 (by omega) (zled_who V h4 hk (Nat.le_refl _))
/-- of taps that there aren't nothing is told -/
theorem zsob_no {σ : Nat → Nat → Int32} {k t : Nat} {d kn : Int32} (V : zV σ) (hk : k < 12) (h1 : ¬ k = 1) (h4 : ¬ k = 4) (h5 : ¬ k = 5) (ht : zn σ 1 ≤ t) (ht2 : t < 24) : zsob (nI t) d kn (zled σ (nI k) (zn σ 4)) = false := by
  unfold zsob
  rw [zlv_no]
  rintro r hr ⟨-, -, q⟩
  obtain ⟨e, he, e1, rfl⟩ := zled_mem.mp hr
  have v := V.2.2.2.2.1.1 e (by omega)
  have eq : ∀ j, j < 12 → (σ 22 e = nI j ↔ k = j) := fun j hj => by rw [e1]; exact nI_eq (by omega) (by omega)
  have q1 : σ 22 e = 1 ↔ k = 1 := eq 1 (by decide)
  have q4 : σ 22 e = 4 ↔ k = 4 := eq 4 (by decide)
  have q5 : σ 22 e = 5 ↔ k = 5 := eq 5 (by decide)
  have := v.2.2.2.2.2.2.2.1 (fun x => h1 (q1.mp x)) (fun x => h4 (q4.mp x)) (fun x => h5 (q5.mp x))
  have q : σ 23 e = nI t := q
  rw [q, z_T (by omega)] at this
  omega
theorem zpick_c {p q : Nat → Prop} [DecidablePred p] [DecidablePred q] {n m : Nat} (k : Int32) (h : n ≤ m) (h1 : ∀ t, t < n → (p t ↔ q t)) (h2 : ∀ t, n ≤ t → t < m → ¬ q t) : zpick p n k = zpick q m k := by
  have hz : ∀ i, i ≤ n → zcnt p i = zcnt q i := fun i hi => zcnt_c fun t ht => h1 t (by omega)
  have hm : zcnt q m = zcnt q n := by
    have : ∀ j, n + j ≤ m → zcnt q (n + j) = zcnt q n := by
      intro j
      induction j with
      | zero => intro _; rfl
      | succ j ih =>
        intro hj
        show zcnt q (n + j) + (if q (n + j) then 1 else 0) = _
        rw [ih (by omega), if_neg (h2 _ (by omega) (by omega))]
        rfl
    have := this (m - n) (by omega)
    rw [show n + (m - n) = m by omega] at this
    exact this
  unfold zpick
  by_cases c : k = -1
  · rw [if_pos c, if_pos c, hz n (Nat.le_refl _), hm]
  · rw [if_neg c, if_neg c]
    cases e : zfst (fun t => p t ∧ nI (zcnt p t) = k) n with
    | none =>
      rw [zfst_no (p := fun t => q t ∧ nI (zcnt q t) = k)]
      rintro t ht ⟨r1, r2⟩
      rcases Nat.lt_or_ge t n with g | g
      · exact zfst_none e t g ⟨(h1 t g).mpr r1, by rw [hz t (by omega)]; exact r2⟩
      · exact h2 t g ht r1
    | some j =>
      obtain ⟨⟨r1, r2⟩, r3, r4⟩ := zfst_some e
      rw [zfst_is (p := fun t => q t ∧ nI (zcnt q t) = k) (j := j) (by omega) ⟨(h1 j r3).mp r1, by rw [← hz j (by omega)]; exact r2⟩]
      rintro t ht ⟨s1, s2⟩
      exact r4 t ht ⟨(h1 t (by omega)).mpr s1, by rw [hz t (by omega)]; exact s2⟩
theorem zpick_0 {p : Nat → Prop} [DecidablePred p] {n : Nat} (k : Int32) (h : ∀ t, t < n → ¬ p t) : zpick p n k = zpick (fun _ => False) 0 k := by
  refine (zpick_c (p := fun _ => False) (q := p) (n := 0) (m := n) k (Nat.zero_le _) (fun t ht => by omega) (fun t _ ht => h t ht)).symm
/-- a reference's loop over taps or houses: skips, counts, stops at the k-th -/
theorem z_pickM (F : Nat → Nat → Option ai_R) (h : ai_H) (p : Nat → Prop) [DecidablePred p] (n : Nat) (k : Int32) (hn : n ≤ 1000) (hk : -1 ≤ k.toInt) (hs : ∀ i c, i < n → c ≤ i → F i c = if p i then (if nI c = k then some ([.inl (nI i)], h) else F (i + 1) (c + 1)) else F (i + 1) c) (he : ∀ c, F n c = if k = -1 then some ([.inl (nI c)], h) else some ([.inl (-1)], h)) : F 0 0 = some ([.inl (zpick p n k)], h) := by
  have KF := z_find (fun i => F i (zcnt p i)) (fun i => some ([.inl (nI i)], h)) (fun i => p i ∧ nI (zcnt p i) = k) n (fun i hi => by
    rw [hs i _ hi (zcnt_le i)]
    have ez : zcnt p (i + 1) = zcnt p i + if p i then 1 else 0 := rfl
    rw [ez]
    by_cases q : p i
    · rw [if_pos q, if_pos q]
      by_cases q2 : nI (zcnt p i) = k
      · rw [if_pos q2, if_pos ⟨q, q2⟩]
      · rw [if_neg q2, if_neg (fun x => q2 x.2)]
    · rw [if_neg q, if_neg q, if_neg (fun x => q x.1)]
      rfl)
  have e0 : F 0 0 = _ := KF
  rw [e0]
  unfold zpick
  by_cases c : k = -1
  · rw [if_pos c, zfst_no]
    · dsimp only
      rw [he, if_pos c]
    · rintro m hm ⟨-, q⟩
      rw [c] at q
      have h1 := zcnt_le (p := p) m
      rw [z_eq, z_T (by omega)] at q
      simp only [zl0, zl1, zl2, zl3, zl4, zl5, zl6, zl7, zl8, zl9, zl10, zl12, zl15, zl16, zl20, zl22, zl23, zl24, zl27, zl30, zl31, zl32, zl40, zl46, zl48, zl50, zl57, zl59, zl60, zl61, zl62, zl63, zl80, zl96, zl97, zl99, zl100, zl122, zl255, zl360, zl500, zl999, zl9999, zl60000, zl99999, zl16777215, zl1073741824, zlm1, zlm2, zlm3] at q
      omega
  · rw [if_neg c]
    cases e : zfst (fun t => p t ∧ nI (zcnt p t) = k) n with
    | none => dsimp only; rw [he, if_neg c]
    | some j => rfl
theorem P_banned (dd kn k : Int32) : zPr 142 308 [.inl dd, .inl kn, .inl k] := zPr_q fun d h hr => by
  obtain ⟨b0, b1, b2, b8, b5, b4, b3, V⟩ := zR_b hr
  have i0 : ∀ f : Nat → Option ai_R, ai_ix 0 4 f = f 0 := fun f => z_i0 (by decide) (by decide)
  have hD : zD h 2097282 (zsl (zMv h) 0) := hr.1.1.2.1
  have e7 : h.1 2097282 15 = zsl (zMv h) 0 7 0 - 1 := hD.2.2.2.2
  have m7 : h.1 2064392 0 = zsl (zMv h) 0 7 0 := (zs0 (f := 7) (by omega)).symm
  have r7 := V.1.2.2.2.2.2.2.2.2
  unfold zi at r7
  have s7 : (zsl (zMv h) 0 7 0 - 1).toInt = (zsl (zMv h) 0 7 0).toInt - 1 := by rw [z_sub] <;> simp only [zl0, zl1, zl2, zl3, zl4, zl5, zl6, zl7, zl8, zl9, zl10, zl12, zl15, zl16, zl20, zl22, zl23, zl24, zl27, zl30, zl31, zl32, zl40, zl46, zl48, zl50, zl57, zl59, zl60, zl61, zl62, zl63, zl80, zl96, zl97, zl99, zl100, zl122, zl255, zl360, zl500, zl999, zl9999, zl60000, zl99999, zl16777215, zl1073741824, zlm1, zlm2, zlm3] <;> omega
  have q7 : zsl (zMv h) 0 7 0 - 1 = -1 ↔ zsl (zMv h) 0 7 0 = 0 := by
    rw [z_eq, z_eq, s7]
    simp only [zl0, zl1, zl2, zl3, zl4, zl5, zl6, zl7, zl8, zl9, zl10, zl12, zl15, zl16, zl20, zl22, zl23, zl24, zl27, zl30, zl31, zl32, zl40, zl46, zl48, zl50, zl57, zl59, zl60, zl61, zl62, zl63, zl80, zl96, zl97, zl99, zl100, zl122, zl255, zl360, zl500, zl999, zl9999, zl60000, zl99999, zl16777215, zl1073741824, zlm1, zlm2, zlm3]
    omega
  by_cases c1 : 0 ≤ dd.toInt ∧ dd.toInt ≤ 999
  · by_cases c2 : 0 ≤ kn.toInt ∧ kn.toInt ≤ 999
    · -- the ban holds that day
      have hM : ∀ t, t < zn (zsl (zMv h) 0) 1 → ((¬ zsl (zMv h) 0 7 0 = 0 ∧ ¬ dd < zsl (zMv h) 0 7 0 - 1) ∧ zsob (nI t) dd kn (zled (zsl (zMv h) 0) (nI 10) (zn (zsl (zMv h) 0) 4)) = true ↔ ¬ zsl (zMv h) 0 7 0 = 0 ∧ ¬ dd < zsl (zMv h) 0 7 0 - 1 ∧ ¬ (zval (zsl (zMv h) 0) 10 (nI t) dd kn).getD 0 = 0) := fun t ht => by
        have := zsob_val (σ := zsl (zMv h) 0) (k := nI 10) (w := nI t) (d := dd) (kn := kn) (by decide)
        rw [this]
        constructor
        · rintro ⟨⟨g1, g2⟩, v, g3, g4⟩
          refine ⟨g1, g2, ?_⟩
          rw [show zval (zsl (zMv h) 0) 10 (nI t) dd kn = some v from g3]
          exact g4
        · rintro ⟨g1, g2, g3⟩
          refine ⟨⟨g1, g2⟩, ?_⟩
          cases e : zval (zsl (zMv h) 0) 10 (nI t) dd kn with
          | none => rw [e] at g3; exact absurd rfl g3
          | some v => exact ⟨v, e, by rw [e] at g3; exact g3⟩
      refine ⟨zpick (fun t => (¬ zsl (zMv h) 0 7 0 = 0 ∧ ¬ dd < zsl (zMv h) 0 7 0 - 1) ∧ zsob (nI t) dd kn (zled (zsl (zMv h) 0) (nI 10) (zn (zsl (zMv h) 0) 4)) = true) (zn (zsl (zMv h) 0) 1) k, h, h, ?_, zF_rf, ?_, zF_rf⟩
      · rw [T142, X147]
        simp only [z_bi, zb_0]
        rw [if_neg (fun q => q c1), X147]
        simp only [z_bi, zb_0]
        rw [if_neg (fun q => q c2), e7]
        simp only [if_true]
        have p0 := X160 (p := fun _ => False) (n := 0) (d + 57) h k (by decide)
        have z0 : nI (zB (fun _ => False) 0) = 0 := rfl
        rw [z0] at p0
        by_cases g1 : zsl (zMv h) 0 7 0 - 1 = -1
        · rw [if_pos g1, p0]
          simp only [z_bi]
          exact congrArg (fun z => some ([Sum.inl z], h)) (zpick_0 k fun t _ x => x.1.1 (q7.mp g1)).symm
        · rw [if_neg g1]
          by_cases g2 : dd < zsl (zMv h) 0 7 0 - 1
          · rw [if_pos g2, p0]
            simp only [z_bi]
            exact congrArg (fun z => some ([Sum.inl z], h)) (zpick_0 k fun t _ x => x.1.2 g2).symm
          · rw [if_neg g2, if_neg (by decide), show ai_X (d + 59) 41 [.inr (.inr (25, 0, 268452107)), .inl dd, .inl kn] h = _ from X41k (k := 10) (d + 58) dd kn hr (by decide) (by decide)]
            simp only [z_bi]
            rw [X160 _ _ _ (by decide)]
            simp only [z_bi]
            rw [zpick_c (p := fun t => (¬ zsl (zMv h) 0 7 0 = 0 ∧ ¬ dd < zsl (zMv h) 0 7 0 - 1) ∧ zsob (nI t) dd kn (zled (zsl (zMv h) 0) (nI 10) (zn (zsl (zMv h) 0) 4)) = true) (q := fun t => zsob (nI t) dd kn (zled (zsl (zMv h) 0) (nI 10) (zn (zsl (zMv h) 0) 4)) = true) (n := zn (zsl (zMv h) 0) 1) (m := 24) k (by omega) (fun t ht => ⟨fun x => x.2, fun x => ⟨⟨fun y => g1 (q7.mpr y), g2⟩, x⟩⟩) (fun t ht ht2 => by rw [zsob_no V (by decide) (by decide) (by decide) (by decide) ht ht2]; exact Bool.false_ne_true)]
      · rw [T308, M187]
        simp only [z_bi, zb_0]
        rw [if_neg (fun q => q c1), M187]
        simp only [z_bi, zb_0]
        rw [if_neg (fun q => q c2)]
        by_cases g : (-1 : Int32) ≤ k
        · rw [if_pos g]
          have g' : -1 ≤ k.toInt := by rw [z_le] at g; exact g
          refine z_pickM (fun i c => ai_E (d + 59) 308 27 [some (.inr (.inr (32, 0, 16128))), some (.inl dd), some (.inl kn), some (.inl k), some (.inl (nI c)), some (.inl (nI i))] [] h) h _ (zn (zsl (zMv h) 0) 1) k (by omega) g' (fun i c hi hc => ?_) (fun c => ?_)
          · rw [T308_27, i0, b1.2.1, if_neg (by rw [nI_leI (by omega) (by omega)]; omega), i0, m7]
            simp only [nI_1, i0, m7]
            by_cases g1 : zsl (zMv h) 0 7 0 = 0
            · rw [if_pos g1, if_neg (fun x => x.1.1 g1)]
            · rw [if_neg g1]
              by_cases g2 : dd < zsl (zMv h) 0 7 0 - 1
              · rw [if_pos g2, if_neg (fun x => x.1.2 g2)]
              · rw [if_neg g2, M221v (n := 0) _ _ _ _ _ _ hr]
                simp only [z_bi]
                by_cases g3 : (zval (zsl (zMv h) 0) 10 (nI i) dd kn).getD 0 = 0
                · rw [if_pos g3, if_neg (fun x => ((hM i hi).mp x).2.2 g3)]
                · rw [if_neg g3, if_pos ((hM i hi).mpr ⟨g1, g2, g3⟩)]
          · rw [T308_27, i0, b1.2.1, if_pos (by rw [z_le]; omega)]
        · rw [if_neg g]
          unfold zpick
          have g' : k.toInt < -1 := by rw [z_le] at g; simp only [zl0, zl1, zl2, zl3, zl4, zl5, zl6, zl7, zl8, zl9, zl10, zl12, zl15, zl16, zl20, zl22, zl23, zl24, zl27, zl30, zl31, zl32, zl40, zl46, zl48, zl50, zl57, zl59, zl60, zl61, zl62, zl63, zl80, zl96, zl97, zl99, zl100, zl122, zl255, zl360, zl500, zl999, zl9999, zl60000, zl99999, zl16777215, zl1073741824, zlm1, zlm2, zlm3] at g; omega
          have e1 : ¬ k = -1 := by rw [z_eq]; simp only [zl0, zl1, zl2, zl3, zl4, zl5, zl6, zl7, zl8, zl9, zl10, zl12, zl15, zl16, zl20, zl22, zl23, zl24, zl27, zl30, zl31, zl32, zl40, zl46, zl48, zl50, zl57, zl59, zl60, zl61, zl62, zl63, zl80, zl96, zl97, zl99, zl100, zl122, zl255, zl360, zl500, zl999, zl9999, zl60000, zl99999, zl16777215, zl1073741824, zlm1, zlm2, zlm3]; omega
          rw [if_neg e1, zfst_no]
          rintro m hm ⟨-, q⟩
          have h1 := zcnt_le (p := fun t => (¬ zsl (zMv h) 0 7 0 = 0 ∧ ¬ dd < zsl (zMv h) 0 7 0 - 1) ∧ zsob (nI t) dd kn (zled (zsl (zMv h) 0) (nI 10) (zn (zsl (zMv h) 0) 4)) = true) m
          rw [← q, z_T (by omega)] at g'
          omega
    · refine ⟨-1, h, h, ?_, zF_rf, ?_, zF_rf⟩
      · rw [T142, X147]
        simp only [z_bi, zb_0]
        rw [if_neg (fun q => q c1), X147]
        simp only [z_bi, zb_0]
        rw [if_pos c2]
      · rw [T308, M187]
        simp only [z_bi, zb_0]
        rw [if_neg (fun q => q c1), M187]
        simp only [z_bi, zb_0]
        rw [if_pos c2]
  · refine ⟨-1, h, h, ?_, zF_rf, ?_, zF_rf⟩
    · rw [T142, X147]
      simp only [z_bi, zb_0]
      rw [if_pos c1]
    · rw [T308, M187]
      simp only [z_bi, zb_0]
      rw [if_pos c1]
