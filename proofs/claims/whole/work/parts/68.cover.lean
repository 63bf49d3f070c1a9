/-! WITHIN A WALK: the reference's way; covered, thirsty, gift -/
def zru (h : ai_H) (x kn : Int32) (t : Nat) : Int32 := if zshut (zsl (zMv h) 0) (nI t) x kn = true then 1 else if zdry h t x kn = 0 then 0 else 2
theorem zru_0 {h : ai_H} {x kn : Int32} {t : Nat} : zru h x kn t = 0 ↔ zrn h x kn t := by
  unfold zru zrn
  cases zshut (zsl (zMv h) 0) (nI t) x kn with
  | true => simp
  | false =>
    by_cases c : zdry h t x kn = 0
    · simp [c]
    · simp [c]
theorem M258 {h : ai_H} {t : Nat} (d : Nat) (x kn : Int32) (hr : zR h) (ht : t < zn (zsl (zMv h) 0) 1) (hx : 0 ≤ x.toInt ∧ x.toInt ≤ 999) (hk : 0 ≤ kn.toInt ∧ kn.toInt ≤ 999) : ∃ h1, ai_X (d + 5) 258 [.inr (.inr (32, 0, 16128)), .inl (nI t), .inl x, .inl kn] h = some ([.inl (zru h x kn t)], h1) ∧ zF zMS h h1 ∧ ∀ q, q ≠ 2064446 → q ≠ 2064447 → h1.1 q = h.1 q := by
  obtain ⟨b0, b1, b2, b8, b5, b4, b3, V⟩ := zR_b hr
  have c : 0 ≤ (nI t).toInt ∧ (nI t).toInt < (zn (zsl (zMv h) 0) 1 : Int) := by rw [z_T (by omega)]; omega
  unfold zru
  rw [T258, M195 _ _ b1.2.1 (by omega)]
  simp only [z_bi, zb_0]
  rw [if_neg (fun q => q c), M187]
  simp only [z_bi, zb_0]
  rw [if_neg (fun q => q hx), M187]
  simp only [z_bi, zb_0]
  rw [if_neg (fun q => q hk), M222 _ _ _ _ hr]
  simp only [z_bi, zb_0]
  by_cases s : zshut (zsl (zMv h) 0) (nI t) x kn = true
  · rw [if_neg (fun q => q s), if_pos s]
    exact ⟨h, rfl, zF_rf, fun _ _ _ => rfl⟩
  · obtain ⟨h2, q1, q2, q3⟩ := M245 d x kn hr ht
    rw [if_pos s, if_neg s, q1]
    simp only [z_bi]
    refine ⟨h2, ?_, q2, q3⟩
    by_cases z : zdry h t x kn = 0
    · rw [if_pos z, if_pos z]
    · rw [if_neg z, if_neg z]
theorem zdry_V {h h1 : ai_H} {x kn : Int32} {t : Nat} (e : zMv h1 = zMv h) : zdry h1 t x kn = zdry h t x kn := by
  unfold zdry
  rw [e]
theorem zru_V {h h1 : ai_H} {x kn : Int32} {t : Nat} (e : zMv h1 = zMv h) : zru h1 x kn t = zru h x kn t := by
  unfold zru
  rw [zdry_V e, e]
theorem zM_n {h g : ai_H} (f : zF zMS h g) {q j : Nat} (n : ¬ zMS q j) : g.1 q j = h.1 q j := f.1 q j n
theorem M259 {h : ai_H} (d : Nat) (x kn : Int32) (hr : zR h) (hx : 0 ≤ x.toInt ∧ x.toInt ≤ 999) (hk : 0 ≤ kn.toInt ∧ kn.toInt ≤ 999) : ∃ h1, ai_X (d + 6) 259 [.inr (.inr (32, 0, 16128)), .inl x, .inl kn] h = some ([], h1) ∧ zF zMS h h1 ∧ ∀ t, t < zn (zsl (zMv h) 0) 1 → h1.1 2064456 t = zb (zrn h x kn t) := by
  obtain ⟨b0, b1, b2, b8, b5, b4, b3, V⟩ := zR_b hr
  have i0 : ∀ f : Nat → Option ai_R, ai_ix 0 4 f = f 0 := fun f => z_i0 (by decide) (by decide)
  have K : ∀ k i, i + k = zn (zsl (zMv h) 0) 1 → ∀ g, zF zMS h g → (∀ t, t < i → g.1 2064456 t = zb (zrn h x kn t)) → ∃ h1, ai_E (d + 5) 259 2 [some (.inr (.inr (32, 0, 16128))), some (.inl x), some (.inl kn), some (.inl (nI i))] [] g = some ([], h1) ∧ zF zMS h h1 ∧ ∀ t, t < zn (zsl (zMv h) 0) 1 → h1.1 2064456 t = zb (zrn h x kn t) := by
    intro k
    induction k with
    | zero =>
      intro i hi g fg cg
      have hi : i = zn (zsl (zMv h) 0) 1 := by omega
      subst hi
      refine ⟨g, ?_, fg, cg⟩
      rw [T259_2, i0, zM_n fg (by unfold zMS; omega), b1.2.1, if_pos (by rw [z_le]; omega)]
    | succ k ih =>
      intro i hi g fg cg
      have i24 : ∀ f : Nat → Option ai_R, ai_ix (nI i) 24 f = f i := fun f => z_ix (by omega) (by decide)
      have hrg := zR_m hr fg
      have eV := zMv_m fg
      obtain ⟨g1, q1, q2, q3⟩ := M258 (h := g) (t := i) d x kn hrg (by rw [eV]; omega) hx hk
      rw [zru_V eV] at q1
      have fg1 : zF zMS h g1 := zF_tr fg q2
      have sm : ∀ v, zF zMS h (ai_st g1 2064456 i v) := fun v => zF_st fg1 (Or.inr ⟨by omega, by omega, by omega⟩)
      have en : ∀ v, v = zb (zrn h x kn i) → ∀ t, t < i + 1 → (ai_st g1 2064456 i v).1 2064456 t = zb (zrn h x kn t) := by
        intro v ev t ht
        rw [z_st1]
        by_cases c : t = i
        · subst c
          rw [if_pos ⟨rfl, rfl⟩, ev]
        · rw [if_neg (fun q => c q.2), q3 2064456 (by decide) (by decide)]
          exact cg t (by omega)
      rw [T259_2, i0, zM_n fg (by unfold zMS; omega), b1.2.1, if_neg (by rw [nI_leI (by omega) (by omega)]; omega), q1]
      simp only [z_bi, zru_0, i24, nI_1, z_nb0, z_nb1]
      by_cases c : zrn h x kn i
      · rw [if_pos c]
        exact ih (i + 1) (by omega) _ (sm 1) (en 1 (zb_t c).symm)
      · rw [if_neg c]
        exact ih (i + 1) (by omega) _ (sm 0) (en 0 (zb_f c).symm)
  rw [T259]
  exact K _ 0 (Nat.zero_add _) h zF_rf (fun t ht => by omega)
theorem M260 {h : ai_H} {p : Nat → Prop} [DecidablePred p] {s : Nat} {c : Int32} (d : Nat) (hr : zR h) (hc : zi c 0 255) (hs : s ≤ 30) (hp : ∀ t, t < zn (zsl (zMv h) 0) 1 → h.1 2064456 t = zb (p t)) : ai_X (d + 3) 260 [.inr (.inr (32, 0, 16128)), .inl c, .inl (nI s)] h = some ([.inl (zoi (znr p (fun t => zds c (zsl (zMv h) 0 12 t)) s (zn (zsl (zMv h) 0) 1)))], h) := by
  obtain ⟨b0, b1, b2, b8, b5, b4, b3, V⟩ := zR_b hr
  have i0 : ∀ f : Nat → Option ai_R, ai_ix 0 4 f = f 0 := fun f => z_i0 (by decide) (by decide)
  have m12 : ∀ t, h.1 2064397 t = zsl (zMv h) 0 12 t := fun t => (zs0 (f := 12) (by omega)).symm
  have K : ∀ k i, i + k = zn (zsl (zMv h) 0) 1 → ai_E (d + 2) 260 5 [some (.inr (.inr (32, 0, 16128))), some (.inl c), some (.inl (nI s)), some (.inl (zoi (znr p (fun t => zds c (zsl (zMv h) 0 12 t)) s i))), some (.inl (nI i))] [] h = some ([.inl (zoi (znr p (fun t => zds c (zsl (zMv h) 0 12 t)) s (zn (zsl (zMv h) 0) 1)))], h) := by
    intro k
    induction k with
    | zero =>
      intro i hi
      have hi : i = zn (zsl (zMv h) 0) 1 := by omega
      subst hi
      rw [T260_5, i0, b1.2.1, if_pos (by rw [z_le]; omega)]
    | succ k ih =>
      intro i hi
      have ih := ih (i + 1) (by omega)
      have i24 : ∀ f : Nat → Option ai_R, ai_ix (nI i) 24 f = f i := fun f => z_ix (by omega) (by decide)
      have i96 : ∀ f : Nat → Option ai_R, ai_ix (nI i) 96 f = f i := fun f => z_ix (by omega) (by decide)
      have v12 := (V.2.2.1 i (by omega)).2.1
      have lw := zds_le hc v12
      have en : znr p (fun t => zds c (zsl (zMv h) 0 12 t)) s (i + 1) = if p i ∧ zds c (zsl (zMv h) 0 12 i) < zfw (fun t => zds c (zsl (zMv h) 0 12 t)) s (znr p (fun t => zds c (zsl (zMv h) 0 12 t)) s i) then some i else znr p (fun t => zds c (zsl (zMv h) 0 12 t)) s i := rfl
      rw [en] at ih
      rw [T260_5, i0, b1.2.1, if_neg (by rw [nI_leI (by omega) (by omega)]; omega), i24, hp i (by omega)]
      simp only [zb_0, i96, nI_1, m12]
      by_cases c1 : p i
      · rw [if_neg (fun q => q c1), M190 _ _ hc v12]
        simp only [z_bi]
        cases e : znr p (fun t => zds c (zsl (zMv h) 0 12 t)) s i with
        | none =>
          rw [e] at ih
          have hz : zfw (fun t => zds c (zsl (zMv h) 0 12 t)) s none = s + 1 := rfl
          by_cases c2 : s < zds c (zsl (zMv h) 0 12 i)
          · rw [if_pos (by rw [nI_ltI (by omega) (by omega)]; exact c2)]
            rw [if_neg (fun q => by have := q.2; omega)] at ih
            exact ih
          · rw [if_neg (by rw [nI_ltI (by omega) (by omega)]; exact c2), if_pos (show zoi none < 0 by decide)]
            rw [if_pos ⟨c1, by omega⟩] at ih
            exact ih
        | some b =>
          obtain ⟨g1, g2, g3⟩ := znr_some e
          have v12b := (V.2.2.1 b (by omega)).2.1
          have ib : ∀ f : Nat → Option ai_R, ai_ix (zoi (some b)) 96 f = f b := fun f => z_ix (i := b) (by omega) (by decide)
          have hz : zfw (fun t => zds c (zsl (zMv h) 0 12 t)) s (some b) = zds c (zsl (zMv h) 0 12 b) := rfl
          rw [e] at ih
          by_cases c3 : s < zds c (zsl (zMv h) 0 12 i)
          · rw [if_pos (by rw [nI_ltI (by omega) (by omega)]; exact c3)]
            rw [if_neg (fun q => by have := q.2; omega)] at ih
            exact ih
          · rw [if_neg (by rw [nI_ltI (by omega) (by omega)]; exact c3), if_neg (show ¬ zoi (some b) < 0 from nI_pos (n := b) (by omega)), m12, M190 _ _ hc v12]
            simp only [z_bi]
            rw [ib, m12, M190 _ _ hc v12b]
            simp only [z_bi]
            by_cases c2 : zds c (zsl (zMv h) 0 12 i) < zds c (zsl (zMv h) 0 12 b)
            · rw [if_neg (by rw [nI_leI (by omega) (by omega)]; omega)]
              rw [if_pos ⟨c1, by omega⟩] at ih
              exact ih
            · rw [if_neg (fun q => by have := q.2; omega)] at ih
              rw [if_pos (by rw [nI_leI (by omega) (by omega)]; omega)]
              exact ih
      · rw [if_pos c1]
        rw [if_neg (fun q => c1 q.1)] at ih
        exact ih
  rw [T260]
  exact K _ 0 (Nat.zero_add _)
theorem M261 (d : Nat) (x : Int32) (h : ai_H) : ai_X (d + 1) 261 [.inl x] h = some ([.inl (zb (0 ≤ x.toInt ∧ x.toInt ≤ 30))], h) := by
  rw [T261]
  simp only [z_lt, z_b0, z_b1, zl0, zl1, zl2, zl3, zl4, zl5, zl6, zl7, zl8, zl9, zl10, zl12, zl15, zl16, zl20, zl22, zl23, zl24, zl27, zl30, zl31, zl32, zl40, zl46, zl48, zl50, zl57, zl59, zl60, zl61, zl62, zl63, zl80, zl96, zl97, zl99, zl100, zl122, zl255, zl360, zl500, zl999, zl9999, zl60000, zl99999, zl16777215, zl1073741824, zlm1, zlm2, zlm3]
  by_cases h1 : x.toInt < 0
  · rw [if_pos h1, zb_f (by omega)]
  · rw [if_neg h1]
    by_cases h2 : 30 < x.toInt
    · rw [if_pos h2, zb_f (by omega)]
    · rw [if_neg h2, zb_t (by omega)]
theorem zMS_n {q j : Nat} (h : q < 2064435) (h2 : q ≠ 16128) : ¬ zMS q j := by unfold zMS; omega
theorem P_covered (b x1 x2 x3 : Int32) : zPr 121 262 [.inl b, .inl x1, .inl x2, .inl x3] := zPr_q fun d h hr => by
  obtain ⟨b0, b1, b2, b8, b5, b4, b3, V⟩ := zR_b hr
  by_cases c0 : 0 ≤ b.toInt ∧ b.toInt < (zn (zsl (zMv h) 0) 2 : Int)
  · by_cases c1 : 0 ≤ x1.toInt ∧ x1.toInt ≤ 30
    · by_cases c2 : 0 ≤ x2.toInt ∧ x2.toInt ≤ 999
      · by_cases c3 : 0 ≤ x3.toInt ∧ x3.toInt ≤ 999
        · obtain ⟨i, hi, rfl⟩ := z_rng c0
          obtain ⟨s, hs, rfl⟩ := z_rngI c1
          have hs : s ≤ 30 := by omega
          have i30 : ∀ f : Nat → Option ai_R, ai_ix (nI i) 30 f = f i := fun f => z_ix (by omega) (by decide)
          have i120 : ∀ f : Nat → Option ai_R, ai_ix (nI i) 120 f = f i := fun f => z_ix (by omega) (by decide)
          obtain ⟨e19, v19⟩ := zC_h hr hi
          obtain ⟨h1, a1, a2⟩ := X170r (d + 52) x2 x3 hr
          have hr1 := zR_x hr a2
          have eV := zMv_x a2
          have hX := X6 (p := zrn h x2 x3) (s := s) (c := zsl (zMv h) 0 19 i) (d + 57) hr1 v19 hs
          obtain ⟨h2, q1, q2, q3⟩ := M259 (d + 53) x2 x3 hr1 c2 c3
          have hr2 := zR_m hr1 q2
          have eV2 := (zMv_m q2).trans eV
          have hM := M260 (p := zrn h x2 x3) (s := s) (c := zsl (zMv h) 0 19 i) (d + 56) hr2 v19 hs (fun t ht => by rw [q3 t (by rw [eV]; rw [eV2] at ht; exact ht)]; unfold zrn; rw [zdry_V eV, eV])
          rw [eV] at hX
          rw [eV2] at hM
          have m2 : h1.1 2064387 0 = nI (zn (zsl (zMv h) 0) 2) := by rw [a2.1 _ _ (fun q => by have := zXS_r q; revert this; decide)]; exact b2.2.1
          have m19 : h2.1 2064404 i = zsl (zMv h) 0 19 i := by rw [← eV2]; exact (zs0 (f := 19) (by omega)).symm
          refine ⟨zoi (zcb h x2 x3 s (zsl (zMv h) 0 19 i)), h1, h2, ?_, a2, ?_, q2⟩
          · rw [T121, X154 _ _ b2.1 b2.2.2]
            simp only [z_bi, zb_0]
            rw [if_neg (fun q => q c0), X149]
            simp only [z_bi, zb_0]
            rw [if_neg (fun q => q ⟨c1, c2, c3⟩), i30, a1]
            simp only [z_bi]
            rw [e19, hX]
            rfl
          · rw [T262, M197 _ _ m2 (by omega)]
            simp only [z_bi, zb_0]
            rw [if_neg (fun q => q c0), M261]
            simp only [z_bi, zb_0]
            rw [if_neg (fun q => q c1), M187]
            simp only [z_bi, zb_0]
            rw [if_neg (fun q => q c2), M187]
            simp only [z_bi, zb_0]
            rw [if_neg (fun q => q c3), q1]
            simp only [z_bv]
            rw [i120, m19, hM]
            rfl
        · refine ⟨-2, h, h, ?_, zF_rf, ?_, zF_rf⟩
          · rw [T121, X154 _ _ b2.1 b2.2.2]
            simp only [z_bi, zb_0]
            rw [if_neg (fun q => q c0), X149]
            simp only [z_bi, zb_0]
            rw [if_pos (fun q => c3 q.2.2)]
          · rw [T262, M197 _ _ b2.2.1 (by omega)]
            simp only [z_bi, zb_0]
            rw [if_neg (fun q => q c0), M261]
            simp only [z_bi, zb_0]
            rw [if_neg (fun q => q c1), M187]
            simp only [z_bi, zb_0]
            rw [if_neg (fun q => q c2), M187]
            simp only [z_bi, zb_0]
            rw [if_pos c3]
      · refine ⟨-2, h, h, ?_, zF_rf, ?_, zF_rf⟩
        · rw [T121, X154 _ _ b2.1 b2.2.2]
          simp only [z_bi, zb_0]
          rw [if_neg (fun q => q c0), X149]
          simp only [z_bi, zb_0]
          rw [if_pos (fun q => c2 q.2.1)]
        · rw [T262, M197 _ _ b2.2.1 (by omega)]
          simp only [z_bi, zb_0]
          rw [if_neg (fun q => q c0), M261]
          simp only [z_bi, zb_0]
          rw [if_neg (fun q => q c1), M187]
          simp only [z_bi, zb_0]
          rw [if_pos c2]
    · refine ⟨-2, h, h, ?_, zF_rf, ?_, zF_rf⟩
      · rw [T121, X154 _ _ b2.1 b2.2.2]
        simp only [z_bi, zb_0]
        rw [if_neg (fun q => q c0), X149]
        simp only [z_bi, zb_0]
        rw [if_pos (fun q => c1 q.1)]
      · rw [T262, M197 _ _ b2.2.1 (by omega)]
        simp only [z_bi, zb_0]
        rw [if_neg (fun q => q c0), M261]
        simp only [z_bi, zb_0]
        rw [if_pos c1]
  · refine ⟨-2, h, h, ?_, zF_rf, ?_, zF_rf⟩
    · rw [T121, X154 _ _ b2.1 b2.2.2]
      simp only [z_bi, zb_0]
      rw [if_pos c0]
    · rw [T262, M197 _ _ b2.2.1 (by omega)]
      simp only [z_bi, zb_0]
      rw [if_pos c0]
theorem zpick_neg {p : Nat → Prop} [DecidablePred p] {n : Nat} {k : Int32} (hn : n ≤ 1000) (hk : ¬ (-1 : Int32) ≤ k) : zpick p n k = -1 := by
  unfold zpick
  have g' : k.toInt < -1 := by rw [z_le] at hk; simp only [zl0, zl1, zl2, zl3, zl4, zl5, zl6, zl7, zl8, zl9, zl10, zl12, zl15, zl16, zl20, zl22, zl23, zl24, zl27, zl30, zl31, zl32, zl40, zl46, zl48, zl50, zl57, zl59, zl60, zl61, zl62, zl63, zl80, zl96, zl97, zl99, zl100, zl122, zl255, zl360, zl500, zl999, zl9999, zl60000, zl99999, zl16777215, zl1073741824, zlm1, zlm2, zlm3] at hk; omega
  have e1 : ¬ k = -1 := by rw [z_eq]; simp only [zl0, zl1, zl2, zl3, zl4, zl5, zl6, zl7, zl8, zl9, zl10, zl12, zl15, zl16, zl20, zl22, zl23, zl24, zl27, zl30, zl31, zl32, zl40, zl46, zl48, zl50, zl57, zl59, zl60, zl61, zl62, zl63, zl80, zl96, zl97, zl99, zl100, zl122, zl255, zl360, zl500, zl999, zl9999, zl60000, zl99999, zl16777215, zl1073741824, zlm1, zlm2, zlm3]; omega
  rw [if_neg e1, zfst_no]
  rintro m hm ⟨-, q⟩
  have h1 := zcnt_le (p := p) m
  rw [← q, z_T (by omega)] at g'
  omega
/-- the reference's houses: a house is thirsty where nobody covers it -/
theorem zoi_neg {o : Option Nat} (h : ∀ b, o = some b → b < 1000) : zoi o < 0 ↔ o.isNone = true := by
  cases o with
  | none => exact ⟨fun _ => rfl, fun _ => by show (-1 : Int32) < 0; decide⟩
  | some b => exact ⟨fun q => absurd q (nI_pos (by have := h b rfl; omega)), fun q => (by cases q)⟩
theorem M260h {h h2 : ai_H} {s i : Nat} {x kn : Int32} (d : Nat) (hr2 : zR h2) (eV2 : zMv h2 = zMv h) (hs : s ≤ 30) (hi : i < zn (zsl (zMv h) 0) 2) (q3 : ∀ t, t < zn (zsl (zMv h) 0) 1 → h2.1 2064456 t = zb (zrn h x kn t)) : ∃ v, ai_X (d + 3) 260 [.inr (.inr (32, 0, 16128)), .inl (zsl (zMv h) 0 19 i), .inl (nI s)] h2 = some ([.inl v], h2) ∧ (v < 0 ↔ zth h x kn s i) := by
  obtain ⟨b0, b1, b2, b8, b5, b4, b3, V⟩ := zR_b hr2
  rw [eV2] at V b1
  have hM := M260 (p := zrn h x kn) (s := s) (c := zsl (zMv h) 0 19 i) d hr2 (V.2.2.2.1.1 i hi) hs (fun t ht => q3 t (by rw [eV2] at ht; exact ht))
  rw [eV2] at hM
  exact ⟨_, hM, zoi_neg fun b e => by have := (znr_some e).1; omega⟩
theorem P_thirsty (x1 x2 x3 k : Int32) : zPr 122 263 [.inl x1, .inl x2, .inl x3, .inl k] := zPr_q fun d h hr => by
  obtain ⟨b0, b1, b2, b8, b5, b4, b3, V⟩ := zR_b hr
  have i0 : ∀ f : Nat → Option ai_R, ai_ix 0 4 f = f 0 := fun f => z_i0 (by decide) (by decide)
  by_cases c1 : 0 ≤ x1.toInt ∧ x1.toInt ≤ 30
  · by_cases c2 : 0 ≤ x2.toInt ∧ x2.toInt ≤ 999
    · by_cases c3 : 0 ≤ x3.toInt ∧ x3.toInt ≤ 999
      · obtain ⟨s, hs, rfl⟩ := z_rngI c1
        have hs : s ≤ 30 := by omega
        obtain ⟨h1, a1, a2⟩ := X171 (s := s) (d + 51) x2 x3 hr hs
        have hr1 := zR_x hr a2
        have eV := zMv_x a2
        have hX : ai_X (d + 60) 122 [.inr (.inr (31, 0, 128)), .inl (nI s), .inl x2, .inl x3, .inl k] h = some ([.inl (zpick (zth h x2 x3 s) (zn (zsl (zMv h) 0) 2) k)], h1) := by
          rw [T122, X149]
          simp only [z_bi, zb_0]
          rw [if_neg (fun q => q ⟨c1, c2, c3⟩), a1]
          simp only [z_bi]
          rw [X160 _ _ _ (by omega)]
          simp only [z_bi]
        by_cases g : (-1 : Int32) ≤ k
        · obtain ⟨h2, q1, q2, q3⟩ := M259 (d + 53) x2 x3 hr1 c2 c3
          have hr2 := zR_m hr1 q2
          have eV2 := (zMv_m q2).trans eV
          have q3' : ∀ t, t < zn (zsl (zMv h) 0) 1 → h2.1 2064456 t = zb (zrn h x2 x3 t) := fun t ht => by rw [q3 t (by rw [eV]; exact ht)]; unfold zrn; rw [zdry_V eV, eV]
          have m2 : h2.1 2064387 0 = nI (zn (zsl (zMv h) 0) 2) := by rw [zM_n q2 (zMS_n (by decide) (by decide)), a2.1 _ _ (fun q => by have := zXS_r q; revert this; decide)]; exact b2.2.1
          have m19 : ∀ i, h2.1 2064404 i = zsl (zMv h) 0 19 i := fun i => by rw [← eV2]; exact (zs0 (f := 19) (by omega)).symm
          refine ⟨_, h1, h2, hX, a2, ?_, q2⟩
          rw [T263, M261]
          simp only [z_bi, zb_0]
          rw [if_neg (fun q => q c1), M187]
          simp only [z_bi, zb_0]
          rw [if_neg (fun q => q c2), M187]
          simp only [z_bi, zb_0]
          rw [if_neg (fun q => q c3), if_pos g, q1]
          simp only [z_bv]
          have g' : -1 ≤ k.toInt := by rw [z_le] at g; exact g
          refine z_pickM (fun i c => ai_E (d + 59) 263 41 [some (.inr (.inr (32, 0, 16128))), some (.inl (nI s)), some (.inl x2), some (.inl x3), some (.inl k), some (.inl (nI c)), some (.inl (nI i))] [] h2) h2 _ (zn (zsl (zMv h) 0) 2) k (by omega) g' (fun i c hi hc => ?_) (fun c => ?_)
          · obtain ⟨v, w1, w2⟩ := M260h (i := i) (s := s) (x := x2) (kn := x3) (d + 56) hr2 eV2 hs hi q3'
            have i120 : ∀ f : Nat → Option ai_R, ai_ix (nI i) 120 f = f i := fun f => z_ix (by omega) (by decide)
            rw [T263_41, i0, m2, if_neg (by rw [nI_leI (by omega) (by omega)]; omega), i120, m19, w1]
            simp only [z_bi, nI_1, w2]
          · rw [T263_41, i0, m2, if_pos (by rw [z_le]; omega)]
        · rw [zpick_neg (by omega) g] at hX
          refine ⟨_, h1, h1, hX, a2, ?_, zF_rf⟩
          rw [T263, M261]
          simp only [z_bi, zb_0]
          rw [if_neg (fun q => q c1), M187]
          simp only [z_bi, zb_0]
          rw [if_neg (fun q => q c2), M187]
          simp only [z_bi, zb_0]
          rw [if_neg (fun q => q c3), if_neg g]
      · refine ⟨-1, h, h, ?_, zF_rf, ?_, zF_rf⟩
        · rw [T122, X149]
          simp only [z_bi, zb_0]
          rw [if_pos (fun q => c3 q.2.2)]
        · rw [T263, M261]
          simp only [z_bi, zb_0]
          rw [if_neg (fun q => q c1), M187]
          simp only [z_bi, zb_0]
          rw [if_neg (fun q => q c2), M187]
          simp only [z_bi, zb_0]
          rw [if_pos c3]
    · refine ⟨-1, h, h, ?_, zF_rf, ?_, zF_rf⟩
      · rw [T122, X149]
        simp only [z_bi, zb_0]
        rw [if_pos (fun q => c2 q.2.1)]
      · rw [T263, M261]
        simp only [z_bi, zb_0]
        rw [if_neg (fun q => q c1), M187]
        simp only [z_bi, zb_0]
        rw [if_pos c2]
  · refine ⟨-1, h, h, ?_, zF_rf, ?_, zF_rf⟩
    · rw [T122, X149]
      simp only [z_bi, zb_0]
      rw [if_pos (fun q => c1 q.1)]
    · rw [T263, M261]
      simp only [z_bi, zb_0]
      rw [if_pos c1]
theorem P_gift (c x1 x2 x3 : Int32) : zPr 124 264 [.inl c, .inl x1, .inl x2, .inl x3] := zPr_q fun d h hr => by
  obtain ⟨b0, b1, b2, b8, b5, b4, b3, V⟩ := zR_b hr
  have i0 : ∀ f : Nat → Option ai_R, ai_ix 0 4 f = f 0 := fun f => z_i0 (by decide) (by decide)
  by_cases c0 : 0 ≤ c.toInt ∧ c.toInt ≤ 255
  · by_cases c1 : 0 ≤ x1.toInt ∧ x1.toInt ≤ 30
    · by_cases c2 : 0 ≤ x2.toInt ∧ x2.toInt ≤ 999
      · by_cases c3 : 0 ≤ x3.toInt ∧ x3.toInt ≤ 999
        · obtain ⟨s, hs, rfl⟩ := z_rngI c1
          have hs : s ≤ 30 := by omega
          obtain ⟨h1, a1, a2⟩ := X171 (s := s) (d + 51) x2 x3 hr hs
          have hr1 := zR_x hr a2
          have eV := zMv_x a2
          obtain ⟨h2, q1, q2, q3⟩ := M259 (d + 53) x2 x3 hr1 c2 c3
          have hr2 := zR_m hr1 q2
          have eV2 := (zMv_m q2).trans eV
          have q3' : ∀ t, t < zn (zsl (zMv h) 0) 1 → h2.1 2064456 t = zb (zrn h x2 x3 t) := fun t ht => by rw [q3 t (by rw [eV]; exact ht)]; unfold zrn; rw [zdry_V eV, eV]
          have m2 : h2.1 2064387 0 = nI (zn (zsl (zMv h) 0) 2) := by rw [zM_n q2 (zMS_n (by decide) (by decide)), a2.1 _ _ (fun q => by have := zXS_r q; revert this; decide)]; exact b2.2.1
          have m19 : ∀ i, h2.1 2064404 i = zsl (zMv h) 0 19 i := fun i => by rw [← eV2]; exact (zs0 (f := 19) (by omega)).symm
          have hX9 := X9 (p := zth h x2 x3 s) (s := s) (c := c) (d + 57) hr1 c0 hs
          rw [eV] at hX9
          refine ⟨nI (zcnt (fun t => zth h x2 x3 s t ∧ zds c (zsl (zMv h) 0 19 t) ≤ s) (zn (zsl (zMv h) 0) 2)), h1, h2, ?_, a2, ?_, q2⟩
          · rw [T124, X148]
            simp only [z_bi, zb_0]
            rw [if_neg (fun q => q c0), X149]
            simp only [z_bi, zb_0]
            rw [if_neg (fun q => q ⟨c1, c2, c3⟩), a1]
            simp only [z_bi]
            rw [hX9]
            simp only [z_bi]
            rw [X312B _ _ (by omega)]
            simp only [z_bi]
          · have K : ∀ k i, i + k = zn (zsl (zMv h) 0) 2 → ai_E (d + 59) 264 44 [some (.inr (.inr (32, 0, 16128))), some (.inl c), some (.inl (nI s)), some (.inl x2), some (.inl x3), some (.inl (nI (zcnt (fun t => zth h x2 x3 s t ∧ zds c (zsl (zMv h) 0 19 t) ≤ s) i))), some (.inl (nI i))] [] h2 = some ([.inl (nI (zcnt (fun t => zth h x2 x3 s t ∧ zds c (zsl (zMv h) 0 19 t) ≤ s) (zn (zsl (zMv h) 0) 2)))], h2) := by
              intro k
              induction k with
              | zero =>
                intro i hi
                have hi : i = zn (zsl (zMv h) 0) 2 := by omega
                subst hi
                rw [T264_44, i0, m2, if_pos (by rw [z_le]; omega)]
              | succ k ih =>
                intro i hi
                have ih := ih (i + 1) (by omega)
                have v19 := V.2.2.2.1.1 i (by omega)
                have lw := zds_le c0 v19
                have ez : zcnt (fun t => zth h x2 x3 s t ∧ zds c (zsl (zMv h) 0 19 t) ≤ s) (i + 1) = zcnt (fun t => zth h x2 x3 s t ∧ zds c (zsl (zMv h) 0 19 t) ≤ s) i + if zth h x2 x3 s i ∧ zds c (zsl (zMv h) 0 19 i) ≤ s then 1 else 0 := rfl
                rw [ez] at ih
                obtain ⟨v, w1, w2⟩ := M260h (i := i) (s := s) (x := x2) (kn := x3) (d + 56) hr2 eV2 hs (by omega) q3'
                have w3 : (0 ≤ v) ↔ ¬ zth h x2 x3 s i := by
                  rw [← w2, z_le, z_lt]
                  simp only [zl0]
                  omega
                have i120 : ∀ f : Nat → Option ai_R, ai_ix (nI i) 120 f = f i := fun f => z_ix (by omega) (by decide)
                rw [T264_44, i0, m2, if_neg (by rw [nI_leI (by omega) (by omega)]; omega), i120, m19, M190 _ _ c0 v19]
                simp only [z_bi, i120, m19, nI_1]
                by_cases g1 : s < zds c (zsl (zMv h) 0 19 i)
                · rw [if_pos (by rw [nI_ltI (by omega) (by omega)]; exact g1)]
                  rw [if_neg (fun q => by omega)] at ih
                  exact ih
                · rw [if_neg (by rw [nI_ltI (by omega) (by omega)]; exact g1), w1]
                  simp only [z_bi, w3]
                  by_cases g2 : zth h x2 x3 s i
                  · rw [if_neg (fun q => q g2)]
                    rw [if_pos ⟨g2, by omega⟩] at ih
                    exact ih
                  · rw [if_pos g2]
                    rw [if_neg (fun q => g2 q.1)] at ih
                    exact ih
            rw [T264, M188]
            simp only [z_bi, zb_0]
            rw [if_neg (fun q => q c0), M261]
            simp only [z_bi, zb_0]
            rw [if_neg (fun q => q c1), M187]
            simp only [z_bi, zb_0]
            rw [if_neg (fun q => q c2), M187]
            simp only [z_bi, zb_0]
            rw [if_neg (fun q => q c3), q1]
            simp only [z_bv]
            exact K _ 0 (Nat.zero_add _)
        · refine ⟨-1, h, h, ?_, zF_rf, ?_, zF_rf⟩
          · rw [T124, X148]
            simp only [z_bi, zb_0]
            rw [if_neg (fun q => q c0), X149]
            simp only [z_bi, zb_0]
            rw [if_pos (fun q => c3 q.2.2)]
          · rw [T264, M188]
            simp only [z_bi, zb_0]
            rw [if_neg (fun q => q c0), M261]
            simp only [z_bi, zb_0]
            rw [if_neg (fun q => q c1), M187]
            simp only [z_bi, zb_0]
            rw [if_neg (fun q => q c2), M187]
            simp only [z_bi, zb_0]
            rw [if_pos c3]
      · refine ⟨-1, h, h, ?_, zF_rf, ?_, zF_rf⟩
        · rw [T124, X148]
          simp only [z_bi, zb_0]
          rw [if_neg (fun q => q c0), X149]
          simp only [z_bi, zb_0]
          rw [if_pos (fun q => c2 q.2.1)]
        · rw [T264, M188]
          simp only [z_bi, zb_0]
          rw [if_neg (fun q => q c0), M261]
          simp only [z_bi, zb_0]
          rw [if_neg (fun q => q c1), M187]
          simp only [z_bi, zb_0]
          rw [if_pos c2]
    · refine ⟨-1, h, h, ?_, zF_rf, ?_, zF_rf⟩
      · rw [T124, X148]
        simp only [z_bi, zb_0]
        rw [if_neg (fun q => q c0), X149]
        simp only [z_bi, zb_0]
        rw [if_pos (fun q => c1 q.1)]
      · rw [T264, M188]
        simp only [z_bi, zb_0]
        rw [if_neg (fun q => q c0), M261]
        simp only [z_bi, zb_0]
        rw [if_pos c1]
  · refine ⟨-1, h, h, ?_, zF_rf, ?_, zF_rf⟩
    · rw [T124, X148]
      simp only [z_bi, zb_0]
      rw [if_pos c0]
    · rw [T264, M188]
      simp only [z_bi, zb_0]
      rw [if_pos c0]
