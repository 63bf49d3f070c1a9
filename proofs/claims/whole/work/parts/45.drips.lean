/-! drips -/
theorem X39z {h : ai_H} {k : Nat} (d : Nat) (w dd kn : Int32) (hr : zR h) (hk : k < 12) (h6 : ¬ k = 6) : (zval (zsl (zMv h) 0) (nI k) w dd kn = none ∧ ai_X (d + 1) 39 [.inr (.inr (25, 0, ai_ch 2097282 k)), .inl w, .inl dd, .inl kn] h = some ([.inl (-1)], h)) ∨
    ∃ i v, i < zmost k ∧ zval (zsl (zMv h) 0) (nI k) w dd kn = some v ∧ ai_X (d + 1) 39 [.inr (.inr (25, 0, ai_ch 2097282 k)), .inl w, .inl dd, .inl kn] h = some ([.inl (nI i)], h) ∧ h.1 (ai_ch (ai_ch 2097282 k) 2) i = v ∧ ¬ nI i = -1 := by
  obtain ⟨l1, l2, l3, l4⟩ := zR_led hr hk
  have e := X39 d w dd kn l1 l2 l3 (by omega)
  have e2 := zlat_v w dd kn (zled (zsl (zMv h) 0) (nI k) (zn (zsl (zMv h) 0) 4))
  rw [zled_best] at e2
  unfold zval
  cases c : zlat w dd kn (zled (zsl (zMv h) 0) (nI k) (zn (zsl (zMv h) 0) 4)) with
  | none =>
    rw [c] at e e2
    refine Or.inl ⟨?_, e⟩
    cases c2 : zbest (zsl (zMv h) 0) (nI k) w dd kn (zn (zsl (zMv h) 0) 4) with
    | none => rfl
    | some b => rw [c2] at e2; cases e2
  | some i =>
    rw [c] at e e2
    have hi := zlat_lt c
    have er := zL_row l1 hi
    cases c2 : zbest (zsl (zMv h) 0) (nI k) w dd kn (zn (zsl (zMv h) 0) 4) with
    | none => rw [c2] at e2; cases e2
    | some b =>
      rw [c2] at e2
      have e3 : (zled (zsl (zMv h) 0) (nI k) (zn (zsl (zMv h) 0) 4)).getD i zrN = zrow (zsl (zMv h) 0) b := by simpa using e2
      have hb := (zbest_p c2).2.1
      refine Or.inr ⟨i, zsl (zMv h) 0 25 b, by omega, rfl, e, ?_, by rw [z_eq, z_T (by omega)]; simp only [zl0, zl1, zl2, zl3, zl4, zl5, zl6, zl7, zl8, zl9, zl10, zl12, zl15, zl16, zl20, zl22, zl23, zl24, zl27, zl30, zl31, zl32, zl40, zl46, zl48, zl50, zl57, zl59, zl60, zl61, zl62, zl63, zl80, zl96, zl97, zl99, zl100, zl122, zl255, zl360, zl500, zl999, zl9999, zl60000, zl99999, zl16777215, zl1073741824, zlm1, zlm2, zlm3]; omega⟩
      have e4 := zrow25 (σ := zsl (zMv h) 0) (e := b) (by rw [hb]; intro q; exact h6 ((nI_eq (by omega) (by decide)).mp q))
      rw [← e4, ← e3, er]
      rfl
theorem z_max {v : Int32} : ai_max 0 v = if 0 ≤ v then v else 0 := by
  unfold ai_max
  by_cases c : (0 : Int32) < v
  · rw [if_pos c, if_pos (by rw [z_lt] at c; rw [z_le]; omega)]
  · rw [if_neg c]
    by_cases c2 : (0 : Int32) ≤ v
    · rw [if_pos c2, z_eq]
      rw [z_lt] at c
      rw [z_le] at c2
      omega
    · rw [if_neg c2]
/-- what a node's meter shows at least, at most -/
def zlow (σ : Nat → Nat → Int32) (w dd kn : Int32) : Int32 := match zval σ 4 w dd kn with
  | none => 0
  | some v => ai_max 0 (v - σ 6 0)
def zhigh (σ : Nat → Nat → Int32) (w dd kn : Int32) : Int32 := match zval σ 4 w dd kn with
  | none => 9999
  | some v => v + σ 6 0
theorem zR_err {h : ai_H} (hr : zR h) : h.1 2097282 14 = zsl (zMv h) 0 6 0 ∧ h.1 2064391 0 = zsl (zMv h) 0 6 0 ∧ zi (zsl (zMv h) 0 6 0) 0 99 := by
  have hD : zD h 2097282 (zsl (zMv h) 0) := hr.1.1.2.1
  have V : zV (zsl (zMv h) 0) := hr.2.1.2.1 0 (Nat.zero_le _)
  exact ⟨hD.2.2.2.1, (zs0 (f := 6) (by omega)).symm, V.1.2.2.2.2.2.2.2.1⟩
theorem X174 {h : ai_H} (d : Nat) (w dd kn : Int32) (hr : zR h) : ai_X (d + 2) 174 [.inr (.inr (31, 0, 128)), .inl w, .inl dd, .inl kn] h = some ([.inl (zlow (zsl (zMv h) 0) w dd kn)], h) := by
  obtain ⟨l1, lk, l3, l4⟩ := zR_led hr (k := 4) (by decide)
  have k2 : (h.2.2.2.1 34361868931).2 = zmost 4 := lk.2.2.1
  unfold zlow
  rw [T174]
  rcases X39z d w dd kn hr (k := 4) (by decide) (by decide) with ⟨a1, a2⟩ | ⟨i, v, a1, a2, a3, a4, a5⟩
  · rw [show ai_X (d + 1) 39 [.inr (.inr (25, 0, 268452101)), .inl w, .inl dd, .inl kn] h = _ from a2, show zval (zsl (zMv h) 0) 4 w dd kn = none from a1]
    simp only [z_bi, if_true]
  · rw [show ai_X (d + 1) 39 [.inr (.inr (25, 0, 268452101)), .inl w, .inl dd, .inl kn] h = _ from a3, show zval (zsl (zMv h) 0) 4 w dd kn = some v from a2]
    simp only [z_bi]
    rw [if_neg a5, k2, z_ix a1 (by decide), show h.1 34361868931 i = v from a4, (zR_err hr).1]
theorem X175 {h : ai_H} (d : Nat) (w dd kn : Int32) (hr : zR h) : ai_X (d + 2) 175 [.inr (.inr (31, 0, 128)), .inl w, .inl dd, .inl kn] h = some ([.inl (zhigh (zsl (zMv h) 0) w dd kn)], h) := by
  obtain ⟨l1, lk, l3, l4⟩ := zR_led hr (k := 4) (by decide)
  have k2 : (h.2.2.2.1 34361868931).2 = zmost 4 := lk.2.2.1
  unfold zhigh
  rw [T175]
  rcases X39z d w dd kn hr (k := 4) (by decide) (by decide) with ⟨a1, a2⟩ | ⟨i, v, a1, a2, a3, a4, a5⟩
  · rw [show ai_X (d + 1) 39 [.inr (.inr (25, 0, 268452101)), .inl w, .inl dd, .inl kn] h = _ from a2, show zval (zsl (zMv h) 0) 4 w dd kn = none from a1]
    simp only [z_bi, if_true]
  · rw [show ai_X (d + 1) 39 [.inr (.inr (25, 0, 268452101)), .inl w, .inl dd, .inl kn] h = _ from a3, show zval (zsl (zMv h) 0) 4 w dd kn = some v from a2]
    simp only [z_bi]
    rw [if_neg a5, k2, z_ix a1 (by decide), show h.1 34361868931 i = v from a4, (zR_err hr).1]
/-- what the reference takes off for a branch -/
theorem z_m1f : ¬ ((0 : Int32) ≤ -1) := by decide
theorem zval_0 {σ : Nat → Nat → Int32} {k w d kn v : Int32} (V : zV σ) (h : zval σ k w d kn = some v) : zi v 0 9999 := by
  obtain ⟨b, h1, h2, h3, h4⟩ := zval_zi V h
  rw [← h3]
  exact h4.2.2.2.1
theorem z_low {v e : Int32} (hv : zi v 0 9999) (he : zi e 0 99) : ai_max 0 (v - e) = if e ≤ v then v - e else 0 := by
  unfold zi at hv he
  rw [z_max]
  have s : (v - e).toInt = v.toInt - e.toInt := by rw [z_sub] <;> omega
  simp only [z_le, s, zl0, zl1, zl2, zl3, zl4, zl5, zl6, zl7, zl8, zl9, zl10, zl12, zl15, zl16, zl20, zl22, zl23, zl24, zl27, zl30, zl31, zl32, zl40, zl46, zl48, zl50, zl57, zl59, zl60, zl61, zl62, zl63, zl80, zl96, zl97, zl99, zl100, zl122, zl255, zl360, zl500, zl999, zl9999, zl60000, zl99999, zl16777215, zl1073741824, zlm1, zlm2, zlm3]
  by_cases c : e.toInt ≤ v.toInt
  · rw [if_pos (by omega), if_pos c]
  · rw [if_neg (by omega), if_neg c]
/-- what is left below a node -/
def zdr (σ : Nat → Nat → Int32) (x dd kn w v0 : Int32) : Nat → Int32
  | 0 => v0
  | i + 1 => if σ 10 i = x then (if w = 0 then zdr σ x dd kn w v0 i - zhigh σ (nI i) dd kn else zdr σ x dd kn w v0 i - zlow σ (nI i) dd kn) else zdr σ x dd kn w v0 i
theorem zdr_m {σ : Nat → Nat → Int32} {x dd kn v0 w : Int32} {m : Nat} (hm : m < 2 ^ 31) (hx : x = nI m) (V : zV σ) : ∀ n, n ≤ m + 1 → n ≤ zn σ 0 → zdr σ x dd kn w v0 n = v0 := by
  intro n
  induction n with
  | zero => intro _ _; rfl
  | succ n ih =>
    intro h1 h2
    unfold zdr
    rw [ih (by omega) (by omega), if_neg]
    intro q
    have l0 := (zn_eq V.1.1).2.1
    rcases V.2.1 n (by omega) with g | g
    · rw [q, hx, z_eq, z_T (by omega)] at g
      simp only [zl0, zl1, zl2, zl3, zl4, zl5, zl6, zl7, zl8, zl9, zl10, zl12, zl15, zl16, zl20, zl22, zl23, zl24, zl27, zl30, zl31, zl32, zl40, zl46, zl48, zl50, zl57, zl59, zl60, zl61, zl62, zl63, zl80, zl96, zl97, zl99, zl100, zl122, zl255, zl360, zl500, zl999, zl9999, zl60000, zl99999, zl16777215, zl1073741824, zlm1, zlm2, zlm3] at g
      omega
    · unfold zi at g
      rw [q, hx, z_T (by omega)] at g
      omega
theorem P_drips (x dd kn w : Int32) : zPr 127 273 [.inl x, .inl dd, .inl kn, .inl w] := zPr_q fun d h hr => by
  obtain ⟨b0, b1, b2, b8, b5, b4, b3, V⟩ := zR_b hr
  obtain ⟨e1, e2, e3⟩ := zR_err hr
  have hC : zC h 2097281 (zsl (zMv h) 0) := hr.1.1.1
  have i0 : ∀ f : Nat → Option ai_R, ai_ix 0 4 f = f 0 := fun f => z_i0 (by decide) (by decide)
  obtain ⟨l1, lk, l3, l4⟩ := zR_led hr (k := 4) (by decide)
  have k2 : (h.2.2.2.1 34361868931).2 = zmost 4 := lk.2.2.1
  by_cases c : 0 ≤ x.toInt ∧ x.toInt < (zn (zsl (zMv h) 0) 0 : Int)
  · by_cases c1 : 0 ≤ dd.toInt ∧ dd.toInt ≤ 999
    · by_cases c2 : 0 ≤ kn.toInt ∧ kn.toInt ≤ 999
      · by_cases c3 : 0 ≤ w.toInt ∧ w.toInt ≤ 1
        · obtain ⟨m, hm, rfl⟩ := z_rng c
          have KX : ∀ v0 k i, i + k = zn (zsl (zMv h) 0) 0 → ∀ z5 z6 z7, ai_E (d + 59) 127 116 [some (.inr (.inr (31, 0, 128))), some (.inl (nI m)), some (.inl dd), some (.inl kn), some (.inl w), z5, z6, z7, some (.inl (zdr (zsl (zMv h) 0) (nI m) dd kn w v0 i)), some (.inl (nI i))] [] h =
              some ([.inl (ai_max 0 (zdr (zsl (zMv h) 0) (nI m) dd kn w v0 (zn (zsl (zMv h) 0) 0)))], h) := by
            intro v0 k
            induction k with
            | zero =>
              intro i hi z5 z6 z7
              have hi : i = zn (zsl (zMv h) 0) 0 := by omega
              subst hi
              rw [T127_116, b0.1, if_pos (by rw [z_le]; omega)]
            | succ k ih =>
              intro i hi z5 z6 z7
              have ih := ih (i + 1) (by omega) z5 z6 z7
              rw [zdr] at ih
              rw [T127_116, b0.1, if_neg (by rw [nI_leI (by omega) (by omega)]; omega), z_ix (by omega) (by decide), show h.1 268451975 i = zsl (zMv h) 0 10 i from (hC.2.2.2.2.2.2.1 i (by omega)).1, nI_1]
              by_cases q : zsl (zMv h) 0 10 i = nI m
              · rw [if_pos q, X175 _ _ _ _ hr, X174 _ _ _ _ hr]
                simp only [z_bi]
                rw [if_pos q] at ih
                by_cases q2 : w = 0
                · rw [if_pos q2]
                  rw [if_pos q2] at ih
                  exact ih
                · rw [if_neg q2]
                  rw [if_neg q2] at ih
                  exact ih
              · rw [if_neg q]
                rw [if_neg q] at ih
                exact ih
          have KM : ∀ v0 v1 k i, i + k = zn (zsl (zMv h) 0) 0 → ∀ z5 z10, ai_E (d + 59) 273 88 [some (.inr (.inr (32, 0, 16128))), some (.inl (nI m)), some (.inl dd), some (.inl kn), some (.inl w), z5, some (.inl (zsl (zMv h) 0 6 0)), some (.inl (zdr (zsl (zMv h) 0) (nI m) dd kn 0 v0 i)), some (.inl (zdr (zsl (zMv h) 0) (nI m) dd kn 1 v1 i)), some (.inl (nI i)), z10] [] h =
              some ([.inl (ai_max 0 (if w = 0 then zdr (zsl (zMv h) 0) (nI m) dd kn 0 v0 (zn (zsl (zMv h) 0) 0) else zdr (zsl (zMv h) 0) (nI m) dd kn 1 v1 (zn (zsl (zMv h) 0) 0)))], h) := by
            intro v0 v1 k
            induction k with
            | zero =>
              intro i hi z5 z10
              have hi : i = zn (zsl (zMv h) 0) 0 := by omega
              subst hi
              rw [T273_88, i0, b0.2.1, if_pos (by rw [z_le]; omega), z_max]
              by_cases q : w = 0
              · simp only [if_pos q]
                by_cases g : 0 ≤ zdr (zsl (zMv h) 0) (nI m) dd kn 0 v0 (zn (zsl (zMv h) 0) 0)
                · rw [if_pos g, if_pos g]
                · rw [if_neg g, if_neg g]
              · simp only [if_neg q]
                by_cases g : 0 ≤ zdr (zsl (zMv h) 0) (nI m) dd kn 1 v1 (zn (zsl (zMv h) 0) 0)
                · rw [if_pos g, if_pos g]
                · rw [if_neg g, if_neg g]
            | succ k ih =>
              intro i hi z5 z10
              have ih := fun z10 => ih (i + 1) (by omega) z5 z10
              simp only [zdr] at ih
              have e10 : h.1 2064395 i = zsl (zMv h) 0 10 i := (zs0 (f := 10) (by omega)).symm
              rw [T273_88, i0, b0.2.1, if_neg (by rw [nI_leI (by omega) (by omega)]; omega), z_ix (by omega) (by decide), e10, nI_1]
              by_cases q : zsl (zMv h) 0 10 i = nI m
              · rw [if_pos q, M221v (n := 0) _ _ _ _ _ _ hr]
                simp only [z_bi]
                simp only [if_pos q, if_true, if_neg (show ¬ (1 : Int32) = 0 by decide), zlow, zhigh] at ih
                cases g : zval (zsl (zMv h) 0) 4 (nI i) dd kn with
                | none =>
                  simp only [g] at ih
                  simp only [Option.getD_none]
                  rw [if_neg z_m1f, if_pos (by decide)]
                  exact ih _
                | some v =>
                  simp only [g] at ih
                  have r := zval_0 V g
                  rw [z_low r e3] at ih
                  simp only [Option.getD_some]
                  unfold zi at r
                  rw [if_pos (show (0 : Int32) ≤ v by rw [z_le]; exact r.1), if_neg (show ¬ v < 0 by rw [z_lt]; simp only [zl0, zl1, zl2, zl3, zl4, zl5, zl6, zl7, zl8, zl9, zl10, zl12, zl15, zl16, zl20, zl22, zl23, zl24, zl27, zl30, zl31, zl32, zl40, zl46, zl48, zl50, zl57, zl59, zl60, zl61, zl62, zl63, zl80, zl96, zl97, zl99, zl100, zl122, zl255, zl360, zl500, zl999, zl9999, zl60000, zl99999, zl16777215, zl1073741824, zlm1, zlm2, zlm3]; omega)]
                  by_cases q2 : zsl (zMv h) 0 6 0 ≤ v
                  · rw [if_pos q2]
                    simp only [if_pos q2] at ih
                    exact ih _
                  · rw [if_neg q2]
                    simp only [if_neg q2] at ih
                    exact ih _
              · rw [if_neg q]
                simp only [if_neg q] at ih
                exact ih _
          have w1 : ¬ w = 0 → w = 1 := by
            intro q
            rw [z_eq] at q ⊢
            simp only [zl0, zl1, zl2, zl3, zl4, zl5, zl6, zl7, zl8, zl9, zl10, zl12, zl15, zl16, zl20, zl22, zl23, zl24, zl27, zl30, zl31, zl32, zl40, zl46, zl48, zl50, zl57, zl59, zl60, zl61, zl62, zl63, zl80, zl96, zl97, zl99, zl100, zl122, zl255, zl360, zl500, zl999, zl9999, zl60000, zl99999, zl16777215, zl1073741824, zlm1, zlm2, zlm3] at q ⊢
            omega
          cases g : zval (zsl (zMv h) 0) 4 (nI m) dd kn with
          | none =>
            refine ⟨-1, h, h, ?_, zF_rf, ?_, zF_rf⟩
            · rw [T127, X152 _ _ b0.1 b0.2.2]
              simp only [z_bi, zb_0]
              rw [if_neg (fun q => q c), X147]
              simp only [z_bi, zb_0]
              rw [if_neg (fun q => q c1), X147]
              simp only [z_bi, zb_0]
              rw [if_neg (fun q => q c2), X146]
              simp only [z_bi, zb_0, zl0, zl1, zl2, zl3, zl4, zl5, zl6, zl7, zl8, zl9, zl10, zl12, zl15, zl16, zl20, zl22, zl23, zl24, zl27, zl30, zl31, zl32, zl40, zl46, zl48, zl50, zl57, zl59, zl60, zl61, zl62, zl63, zl80, zl96, zl97, zl99, zl100, zl122, zl255, zl360, zl500, zl999, zl9999, zl60000, zl99999, zl16777215, zl1073741824, zlm1, zlm2, zlm3]
              rw [if_neg (fun q => q c3)]
              rcases X39z (d + 58) (nI m) dd kn hr (k := 4) (by decide) (by decide) with ⟨a1, a2⟩ | ⟨i, v, a1, a2, a3, a4, a5⟩
              · rw [show ai_X (d + 59) 39 [.inr (.inr (25, 0, 268452101)), .inl (nI m), .inl dd, .inl kn] h = _ from a2]
                simp only [z_bi, if_true]
              · rw [show zval (zsl (zMv h) 0) 4 (nI m) dd kn = some v from a2] at g
                cases g
            · rw [T273, M196 _ _ b0.2.1 (by omega)]
              simp only [z_bi, zb_0]
              rw [if_neg (fun q => q c), M187]
              simp only [z_bi, zb_0]
              rw [if_neg (fun q => q c1), M187]
              simp only [z_bi, zb_0]
              rw [if_neg (fun q => q c2), M186]
              simp only [z_bi, zb_0, zl0, zl1, zl2, zl3, zl4, zl5, zl6, zl7, zl8, zl9, zl10, zl12, zl15, zl16, zl20, zl22, zl23, zl24, zl27, zl30, zl31, zl32, zl40, zl46, zl48, zl50, zl57, zl59, zl60, zl61, zl62, zl63, zl80, zl96, zl97, zl99, zl100, zl122, zl255, zl360, zl500, zl999, zl9999, zl60000, zl99999, zl16777215, zl1073741824, zlm1, zlm2, zlm3]
              rw [if_neg (fun q => q c3), M221v (n := 0) _ _ _ _ _ _ hr, g]
              simp only [z_bi, Option.getD_none]
              rw [if_neg z_m1f]
          | some v =>
            have r := zval_0 V g
            have zl := z_low r e3
            unfold zi at r
            refine ⟨ai_max 0 (if w = 0 then zdr (zsl (zMv h) 0) (nI m) dd kn 0 (ai_max 0 (v - zsl (zMv h) 0 6 0)) (zn (zsl (zMv h) 0) 0) else zdr (zsl (zMv h) 0) (nI m) dd kn 1 (v + zsl (zMv h) 0 6 0) (zn (zsl (zMv h) 0) 0)), h, h, ?_, zF_rf, ?_, zF_rf⟩
            · rw [T127, X152 _ _ b0.1 b0.2.2]
              simp only [z_bi, zb_0]
              rw [if_neg (fun q => q c), X147]
              simp only [z_bi, zb_0]
              rw [if_neg (fun q => q c1), X147]
              simp only [z_bi, zb_0]
              rw [if_neg (fun q => q c2), X146]
              simp only [z_bi, zb_0, zl0, zl1, zl2, zl3, zl4, zl5, zl6, zl7, zl8, zl9, zl10, zl12, zl15, zl16, zl20, zl22, zl23, zl24, zl27, zl30, zl31, zl32, zl40, zl46, zl48, zl50, zl57, zl59, zl60, zl61, zl62, zl63, zl80, zl96, zl97, zl99, zl100, zl122, zl255, zl360, zl500, zl999, zl9999, zl60000, zl99999, zl16777215, zl1073741824, zlm1, zlm2, zlm3]
              rw [if_neg (fun q => q c3)]
              rcases X39z (d + 58) (nI m) dd kn hr (k := 4) (by decide) (by decide) with ⟨a1, a2⟩ | ⟨i, v', a1, a2, a3, a4, a5⟩
              · rw [show zval (zsl (zMv h) 0) 4 (nI m) dd kn = none from a1] at g
                cases g
              · rw [show zval (zsl (zMv h) 0) 4 (nI m) dd kn = some v' from a2] at g
                have gv : v' = v := Option.some.inj g
                rw [show ai_X (d + 59) 39 [.inr (.inr (25, 0, 268452101)), .inl (nI m), .inl dd, .inl kn] h = _ from a3]
                simp only [z_bi]
                rw [if_neg a5, k2]
                simp only [z_ix a1 (show zmost 4 < 2147483648 by decide), show h.1 34361868931 i = v from a4.trans gv, e1, nI_1]
                by_cases q : w = 0
                · subst q
                  rw [if_pos rfl, if_pos rfl]
                  have := KX (ai_max 0 (v - zsl (zMv h) 0 6 0)) (zn (zsl (zMv h) 0) 0 - (m + 1)) (m + 1) (by omega) (some (.inr (.inr (25, 0, 268452101)))) (some (.inl (nI i))) (some (.inl (zsl (zMv h) 0 6 0)))
                  rw [zdr_m (show m < 2 ^ 31 by omega) rfl V (m + 1) (Nat.le_refl _) (by omega)] at this
                  exact this
                · rw [if_neg q, if_neg q, w1 q]
                  have := KX (v + zsl (zMv h) 0 6 0) (zn (zsl (zMv h) 0) 0 - (m + 1)) (m + 1) (by omega) (some (.inr (.inr (25, 0, 268452101)))) (some (.inl (nI i))) (some (.inl (zsl (zMv h) 0 6 0)))
                  rw [zdr_m (show m < 2 ^ 31 by omega) rfl V (m + 1) (Nat.le_refl _) (by omega), w1 q] at this
                  exact this
            · rw [T273, M196 _ _ b0.2.1 (by omega)]
              simp only [z_bi, zb_0]
              rw [if_neg (fun q => q c), M187]
              simp only [z_bi, zb_0]
              rw [if_neg (fun q => q c1), M187]
              simp only [z_bi, zb_0]
              rw [if_neg (fun q => q c2), M186]
              simp only [z_bi, zb_0, zl0, zl1, zl2, zl3, zl4, zl5, zl6, zl7, zl8, zl9, zl10, zl12, zl15, zl16, zl20, zl22, zl23, zl24, zl27, zl30, zl31, zl32, zl40, zl46, zl48, zl50, zl57, zl59, zl60, zl61, zl62, zl63, zl80, zl96, zl97, zl99, zl100, zl122, zl255, zl360, zl500, zl999, zl9999, zl60000, zl99999, zl16777215, zl1073741824, zlm1, zlm2, zlm3]
              rw [if_neg (fun q => q c3), M221v (n := 0) _ _ _ _ _ _ hr, g]
              simp only [z_bi, Option.getD_some]
              rw [if_pos (show (0 : Int32) ≤ v by rw [z_le]; exact r.1), i0, e2]
              rw [zl]
              by_cases q2 : zsl (zMv h) 0 6 0 ≤ v
              · rw [if_pos q2]
                by_cases q3 : v ≤ zsl (zMv h) 0 6 0
                · rw [if_pos q3]
                  have ev : v - zsl (zMv h) 0 6 0 = 0 := by
                    have : v = zsl (zMv h) 0 6 0 := by rw [z_eq]; rw [z_le] at q2 q3; omega
                    rw [this, Int32.sub_self]
                  rw [ev]
                  exact KM 0 (v + zsl (zMv h) 0 6 0) (zn (zsl (zMv h) 0) 0) 0 (by omega) _ _
                · rw [if_neg q3]
                  exact KM (v - zsl (zMv h) 0 6 0) (v + zsl (zMv h) 0 6 0) (zn (zsl (zMv h) 0) 0) 0 (by omega) _ _
              · rw [if_neg q2, if_pos (by rw [z_le] at q2 ⊢; omega)]
                exact KM 0 (v + zsl (zMv h) 0 6 0) (zn (zsl (zMv h) 0) 0) 0 (by omega) _ _
        · refine ⟨-1, h, h, ?_, zF_rf, ?_, zF_rf⟩
          · rw [T127, X152 _ _ b0.1 b0.2.2]
            simp only [z_bi, zb_0]
            rw [if_neg (fun q => q c), X147]
            simp only [z_bi, zb_0]
            rw [if_neg (fun q => q c1), X147]
            simp only [z_bi, zb_0]
            rw [if_neg (fun q => q c2), X146]
            simp only [z_bi, zb_0, zl0, zl1, zl2, zl3, zl4, zl5, zl6, zl7, zl8, zl9, zl10, zl12, zl15, zl16, zl20, zl22, zl23, zl24, zl27, zl30, zl31, zl32, zl40, zl46, zl48, zl50, zl57, zl59, zl60, zl61, zl62, zl63, zl80, zl96, zl97, zl99, zl100, zl122, zl255, zl360, zl500, zl999, zl9999, zl60000, zl99999, zl16777215, zl1073741824, zlm1, zlm2, zlm3]
            rw [if_pos c3]
          · rw [T273, M196 _ _ b0.2.1 (by omega)]
            simp only [z_bi, zb_0]
            rw [if_neg (fun q => q c), M187]
            simp only [z_bi, zb_0]
            rw [if_neg (fun q => q c1), M187]
            simp only [z_bi, zb_0]
            rw [if_neg (fun q => q c2), M186]
            simp only [z_bi, zb_0, zl0, zl1, zl2, zl3, zl4, zl5, zl6, zl7, zl8, zl9, zl10, zl12, zl15, zl16, zl20, zl22, zl23, zl24, zl27, zl30, zl31, zl32, zl40, zl46, zl48, zl50, zl57, zl59, zl60, zl61, zl62, zl63, zl80, zl96, zl97, zl99, zl100, zl122, zl255, zl360, zl500, zl999, zl9999, zl60000, zl99999, zl16777215, zl1073741824, zlm1, zlm2, zlm3]
            rw [if_pos c3]
      · refine ⟨-1, h, h, ?_, zF_rf, ?_, zF_rf⟩
        · rw [T127, X152 _ _ b0.1 b0.2.2]
          simp only [z_bi, zb_0]
          rw [if_neg (fun q => q c), X147]
          simp only [z_bi, zb_0]
          rw [if_neg (fun q => q c1), X147]
          simp only [z_bi, zb_0]
          rw [if_pos c2]
        · rw [T273, M196 _ _ b0.2.1 (by omega)]
          simp only [z_bi, zb_0]
          rw [if_neg (fun q => q c), M187]
          simp only [z_bi, zb_0]
          rw [if_neg (fun q => q c1), M187]
          simp only [z_bi, zb_0]
          rw [if_pos c2]
    · refine ⟨-1, h, h, ?_, zF_rf, ?_, zF_rf⟩
      · rw [T127, X152 _ _ b0.1 b0.2.2]
        simp only [z_bi, zb_0]
        rw [if_neg (fun q => q c), X147]
        simp only [z_bi, zb_0]
        rw [if_pos c1]
      · rw [T273, M196 _ _ b0.2.1 (by omega)]
        simp only [z_bi, zb_0]
        rw [if_neg (fun q => q c), M187]
        simp only [z_bi, zb_0]
        rw [if_pos c1]
  · refine ⟨-1, h, h, ?_, zF_rf, ?_, zF_rf⟩
    · rw [T127, X152 _ _ b0.1 b0.2.2]
      simp only [z_bi, zb_0]
      rw [if_pos c]
    · rw [T273, M196 _ _ b0.2.1 (by omega)]
      simp only [z_bi, zb_0]
      rw [if_pos c]
