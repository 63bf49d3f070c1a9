/-! hurts -/
theorem zrow25 {σ : Nat → Nat → Int32} {e : Nat} (h : ¬ σ 22 e = 6) : (zrow σ e).2.2.1 = σ 25 e := by
  unfold zrow
  dsimp only
  rw [if_neg h]
theorem z_mem {l : List zR4} {i : Nat} (hi : i < l.length) : l.getD i zrN ∈ l := by
  rw [List.getD_eq_getElem?_getD, List.getElem?_eq_getElem hi]
  exact List.getElem_mem _
def zh1 (f t kn : Int32) (r : zR4) : Int32 := if zsp f t kn r then 1 else 0
def zh2 (f t kn : Int32) (r : zR4) : Int32 := if zsp f t kn r then r.2.2.1 else 0
def zh3 (σ : Nat → Nat → Int32) (f t kn : Int32) (r : zR4) : Int32 := if zsp f t kn r then zb (0 < zcha σ r.2.1 kn (zn σ 4) ∧ ¬ zshut σ r.1 r.2.1 kn = true) else 0
theorem P_hurts (f t kn w : Int32) : zPr 136 300 [.inl f, .inl t, .inl kn, .inl w] := zPr_q fun d h hr => by
  obtain ⟨b0, b1, b2, b8, b5, b4, b3, V⟩ := zR_b hr
  have i0 : ∀ f : Nat → Option ai_R, ai_ix 0 4 f = f 0 := fun f => z_i0 (by decide) (by decide)
  by_cases c : (0 ≤ f.toInt ∧ f.toInt ≤ 999) ∧ (0 ≤ t.toInt ∧ t.toInt ≤ 999) ∧ f.toInt ≤ t.toInt ∧ (0 ≤ kn.toInt ∧ kn.toInt ≤ 999)
  · by_cases c1 : 0 ≤ w.toInt ∧ w.toInt ≤ 2
    · obtain ⟨l1, lk, l3, l4⟩ := zR_led hr (k := 8) (by decide)
      obtain ⟨k0, k1, k2, k3⟩ := id lk
      have k0' : (h.2.2.2.1 34361869441).2 = zmost 8 := k0
      have k1' : (h.2.2.2.1 34361869442).2 = zmost 8 := k1
      have k2' : (h.2.2.2.1 34361869443).2 = zmost 8 := k2
      have s1 := zls_led (f := zh1 f t kn) (σ := zsl (zMv h) 0) (k := nI 8) (zn (zsl (zMv h) 0) 4)
      have s2 := zls_led (f := zh2 f t kn) (σ := zsl (zMv h) 0) (k := nI 8) (zn (zsl (zMv h) 0) 4)
      have s3 := zls_led (f := zh3 (zsl (zMv h) 0) f t kn) (σ := zsl (zMv h) 0) (k := nI 8) (zn (zsl (zMv h) 0) 4)
      generalize zled (zsl (zMv h) 0) (nI 8) (zn (zsl (zMv h) 0) 4) = l at *
      have KX : ∀ k i, i + k = l.length → ai_E (d + 59) 136 44 [some (.inr (.inr (31, 0, 128))), some (.inl f), some (.inl t), some (.inl kn), some (.inl w), some (.inr (.inr (25, 0, 268452105))), some (.inl (zsm (fun i => zh1 f t kn (l.getD i zrN)) i)), some (.inl (zsm (fun i => zh2 f t kn (l.getD i zrN)) i)), some (.inl (zsm (fun i => zh3 (zsl (zMv h) 0) f t kn (l.getD i zrN)) i)), some (.inl (nI i))] [] h =
          some ([.inl (if w = 2 then zls (zh3 (zsl (zMv h) 0) f t kn) l else if w = 0 then zls (zh1 f t kn) l else zls (zh2 f t kn) l)], h) := by
        intro k
        induction k with
        | zero =>
          intro i hi
          have hi : i = l.length := by omega
          subst hi
          rw [T136_44, show h.1 268452105 4 = nI l.length from l1.1, if_pos (by rw [z_le]; omega), zsm_zls, zsm_zls, zsm_zls]
          by_cases q : w = 2
          · rw [if_pos q, if_pos q]
          · rw [if_neg q, if_neg q]
            by_cases q2 : w = 0
            · rw [if_pos q2, if_pos q2]
            · rw [if_neg q2, if_neg q2]
        | succ k ih =>
          intro i hi
          have ih := ih (i + 1) (by omega)
          have er := zL_row l1 (i := i) (by omega)
          have e0 : (l.getD i zrN).1 = h.1 34361869441 i := by rw [er]; rfl
          have e1 : (l.getD i zrN).2.1 = h.1 34361869442 i := by rw [er]; rfl
          have e2 : (l.getD i zrN).2.2.1 = h.1 34361869443 i := by rw [er]; rfl
          have ix : ∀ f : Nat → Option ai_R, ai_ix (nI i) (zmost 8) f = f i := fun f => z_ix (by omega) (by omega)
          have g1 : zsm (fun i => zh1 f t kn (l.getD i zrN)) (i + 1) = zsm (fun i => zh1 f t kn (l.getD i zrN)) i + zh1 f t kn (l.getD i zrN) := rfl
          have g2 : zsm (fun i => zh2 f t kn (l.getD i zrN)) (i + 1) = zsm (fun i => zh2 f t kn (l.getD i zrN)) i + zh2 f t kn (l.getD i zrN) := rfl
          have g3 : zsm (fun i => zh3 (zsl (zMv h) 0) f t kn (l.getD i zrN)) (i + 1) = zsm (fun i => zh3 (zsl (zMv h) 0) f t kn (l.getD i zrN)) i + zh3 (zsl (zMv h) 0) f t kn (l.getD i zrN) := rfl
          rw [g1, g2, g3] at ih
          rw [T136_44, show h.1 268452105 4 = nI l.length from l1.1, if_neg (by rw [nI_leI (by omega) (by omega)]; omega), show ai_X (d + 59) 38 [.inr (.inr (25, 0, 268452105)), .inl (nI i), .inl f, .inl t, .inl kn] h = _ from X38 (d + 58) f t kn l1 lk l3 (by omega) (by omega)]
          simp only [z_bi, zb_0, nI_1, k0', k1', k2', ix, ← e0, ← e1, ← e2]
          unfold zh1 zh2 zh3 at ih ⊢
          by_cases q : zsp f t kn (l.getD i zrN)
          · rw [if_neg (fun x => x q), X180 _ _ _ _ hr]
            simp only [z_bi, zb_0]
            rw [if_pos q, if_pos q, if_pos q] at ih
            by_cases q2 : 0 < zcha (zsl (zMv h) 0) (l.getD i zrN).2.1 kn (zn (zsl (zMv h) 0) 4) ∧ ¬ zshut (zsl (zMv h) 0) (l.getD i zrN).1 (l.getD i zrN).2.1 kn = true
            · rw [if_neg (fun x => x q2)]
              rw [zb_t q2] at ih
              exact ih
            · rw [if_pos q2]
              rw [zb_f q2] at ih
              exact ih
          · rw [if_pos q]
            rw [if_neg q, if_neg q, if_neg q, Int32.add_zero, Int32.add_zero, Int32.add_zero] at ih
            exact ih
      have KM : ∀ k i, i + k = zn (zsl (zMv h) 0) 4 → ai_E (d + 59) 300 33 [some (.inr (.inr (32, 0, 16128))), some (.inl f), some (.inl t), some (.inl kn), some (.inl w), some (.inl (zsm (fun e => if zsl (zMv h) 0 22 e = nI 8 then zh1 f t kn (zrow (zsl (zMv h) 0) e) else 0) i)), some (.inl (zsm (fun e => if zsl (zMv h) 0 22 e = nI 8 then zh2 f t kn (zrow (zsl (zMv h) 0) e) else 0) i)), some (.inl (zsm (fun e => if zsl (zMv h) 0 22 e = nI 8 then zh3 (zsl (zMv h) 0) f t kn (zrow (zsl (zMv h) 0) e) else 0) i)), some (.inl (nI i))] [] h =
          some ([.inl (if w = 2 then zls (zh3 (zsl (zMv h) 0) f t kn) l else if w = 0 then zls (zh1 f t kn) l else zls (zh2 f t kn) l)], h) := by
        intro k
        induction k with
        | zero =>
          intro i hi
          have hi : i = zn (zsl (zMv h) 0) 4 := by omega
          subst hi
          rw [T300_33, i0, b4.1, if_pos (by rw [z_le]; omega), ← s1, ← s2, ← s3]
          have w0 : w = 0 ↔ w.toInt = 0 := by rw [z_eq]; exact Iff.rfl
          have w1 : w = 1 ↔ w.toInt = 1 := by rw [z_eq]; exact Iff.rfl
          have w2 : w = 2 ↔ w.toInt = 2 := by rw [z_eq]; exact Iff.rfl
          by_cases q : w = 0
          · rw [if_pos q, if_neg (by rw [w2]; rw [w0] at q; omega), if_pos q]
          · rw [if_neg q]
            by_cases q2 : w = 1
            · rw [if_pos q2, if_neg (by rw [w2]; rw [w1] at q2; omega), if_neg q]
            · rw [if_neg q2, if_pos (by rw [w2]; rw [w1] at q2; rw [w0] at q; omega)]
        | succ k ih =>
          intro i hi
          have ih := ih (i + 1) (by omega)
          have e23 : h.1 2064408 i = zsl (zMv h) 0 23 i := (zs0 (f := 23) (by omega)).symm
          have e24 : h.1 2064409 i = zsl (zMv h) 0 24 i := (zs0 (f := 24) (by omega)).symm
          have e25 : h.1 2064410 i = zsl (zMv h) 0 25 i := (zs0 (f := 25) (by omega)).symm
          have ix : ∀ f : Nat → Option ai_R, ai_ix (nI i) 2400 f = f i := fun f => z_ix (by omega) (by decide)
          have g1 : zsm (fun e => if zsl (zMv h) 0 22 e = nI 8 then zh1 f t kn (zrow (zsl (zMv h) 0) e) else 0) (i + 1) = zsm (fun e => if zsl (zMv h) 0 22 e = nI 8 then zh1 f t kn (zrow (zsl (zMv h) 0) e) else 0) i + (if zsl (zMv h) 0 22 i = nI 8 then zh1 f t kn (zrow (zsl (zMv h) 0) i) else 0) := rfl
          have g2 : zsm (fun e => if zsl (zMv h) 0 22 e = nI 8 then zh2 f t kn (zrow (zsl (zMv h) 0) e) else 0) (i + 1) = zsm (fun e => if zsl (zMv h) 0 22 e = nI 8 then zh2 f t kn (zrow (zsl (zMv h) 0) e) else 0) i + (if zsl (zMv h) 0 22 i = nI 8 then zh2 f t kn (zrow (zsl (zMv h) 0) i) else 0) := rfl
          have g3 : zsm (fun e => if zsl (zMv h) 0 22 e = nI 8 then zh3 (zsl (zMv h) 0) f t kn (zrow (zsl (zMv h) 0) e) else 0) (i + 1) = zsm (fun e => if zsl (zMv h) 0 22 e = nI 8 then zh3 (zsl (zMv h) 0) f t kn (zrow (zsl (zMv h) 0) e) else 0) i + (if zsl (zMv h) 0 22 i = nI 8 then zh3 (zsl (zMv h) 0) f t kn (zrow (zsl (zMv h) 0) i) else 0) := rfl
          rw [g1, g2, g3] at ih
          rw [T300_33, i0, b4.1, if_neg (by rw [nI_leI (by omega) (by omega)]; omega), show ai_X (d + 59) 296 [.inr (.inr (32, 0, 16128)), .inl (nI i), .inl 8, .inl f, .inl t, .inl kn] h = _ from M296 (d + 57) (nI 8) f t kn (by omega)]
          simp only [z_bi, zb_0, nI_1, ix, e23, e24, e25]
          have r0 : (zrow (zsl (zMv h) 0) i).1 = zsl (zMv h) 0 23 i := rfl
          have r1 : (zrow (zsl (zMv h) 0) i).2.1 = zsl (zMv h) 0 24 i := rfl
          unfold zh1 zh2 zh3 at ih ⊢
          by_cases q : zsl (zMv h) 0 22 i = nI 8 ∧ zsp f t kn (zrow (zsl (zMv h) 0) i)
          · have r2 := zrow25 (σ := zsl (zMv h) 0) (e := i) (by rw [q.1]; decide)
            rw [if_neg (fun x => x q), M295 _ _ _ hr]
            simp only [z_bi, ix, e23, e24]
            rw [if_pos q.1, if_pos q.1, if_pos q.1, if_pos q.2, if_pos q.2, if_pos q.2, r2, r1, r0] at ih
            by_cases q2 : zcha (zsl (zMv h) 0) (zsl (zMv h) 0 24 i) kn (zn (zsl (zMv h) 0) 4) ≤ 0
            · rw [if_pos q2]
              rw [zb_f (fun x => by have := x.1; rw [z_lt] at this; rw [z_le] at q2; omega)] at ih
              exact ih
            · rw [if_neg q2, M222 _ _ _ _ hr]
              simp only [z_bi, zb_0]
              by_cases q3 : zshut (zsl (zMv h) 0) (zsl (zMv h) 0 23 i) (zsl (zMv h) 0 24 i) kn = true
              · rw [if_neg (fun x => x q3)]
                rw [zb_f (fun x => x.2 q3)] at ih
                exact ih
              · rw [if_pos q3]
                rw [zb_t ⟨by rw [z_lt]; rw [z_le] at q2; omega, q3⟩] at ih
                exact ih
          · rw [if_pos q]
            by_cases q1 : zsl (zMv h) 0 22 i = nI 8
            · have q2 : ¬ zsp f t kn (zrow (zsl (zMv h) 0) i) := fun x => q ⟨q1, x⟩
              rw [if_pos q1, if_pos q1, if_pos q1, if_neg q2, if_neg q2, if_neg q2, Int32.add_zero, Int32.add_zero, Int32.add_zero] at ih
              exact ih
            · rw [if_neg q1, if_neg q1, if_neg q1, Int32.add_zero, Int32.add_zero, Int32.add_zero] at ih
              exact ih
      refine ⟨if w = 2 then zls (zh3 (zsl (zMv h) 0) f t kn) l else if w = 0 then zls (zh1 f t kn) l else zls (zh2 f t kn) l, h, h, ?_, zF_rf, ?_, zF_rf⟩
      · rw [T136, X150]
        simp only [z_bi, zb_0]
        rw [if_neg (fun q => q c), X146]
        simp only [z_bi, zb_0, zl0, zl1, zl2, zl3, zl4, zl5, zl6, zl7, zl8, zl9, zl10, zl12, zl15, zl16, zl20, zl22, zl23, zl24, zl27, zl30, zl31, zl32, zl40, zl46, zl48, zl50, zl57, zl59, zl60, zl61, zl62, zl63, zl80, zl96, zl97, zl99, zl100, zl122, zl255, zl360, zl500, zl999, zl9999, zl60000, zl99999, zl16777215, zl1073741824, zlm1, zlm2, zlm3]
        rw [if_neg (fun q => q c1)]
        exact KX l.length 0 (by omega)
      · rw [T300, M297]
        simp only [z_bi, zb_0]
        rw [if_neg (fun q => q c), M186]
        simp only [z_bi, zb_0, zl0, zl1, zl2, zl3, zl4, zl5, zl6, zl7, zl8, zl9, zl10, zl12, zl15, zl16, zl20, zl22, zl23, zl24, zl27, zl30, zl31, zl32, zl40, zl46, zl48, zl50, zl57, zl59, zl60, zl61, zl62, zl63, zl80, zl96, zl97, zl99, zl100, zl122, zl255, zl360, zl500, zl999, zl9999, zl60000, zl99999, zl16777215, zl1073741824, zlm1, zlm2, zlm3]
        rw [if_neg (fun q => q c1)]
        exact KM (zn (zsl (zMv h) 0) 4) 0 (by omega)
    · refine ⟨-1, h, h, ?_, zF_rf, ?_, zF_rf⟩
      · rw [T136, X150]
        simp only [z_bi, zb_0]
        rw [if_neg (fun q => q c), X146]
        simp only [z_bi, zb_0, zl0, zl1, zl2, zl3, zl4, zl5, zl6, zl7, zl8, zl9, zl10, zl12, zl15, zl16, zl20, zl22, zl23, zl24, zl27, zl30, zl31, zl32, zl40, zl46, zl48, zl50, zl57, zl59, zl60, zl61, zl62, zl63, zl80, zl96, zl97, zl99, zl100, zl122, zl255, zl360, zl500, zl999, zl9999, zl60000, zl99999, zl16777215, zl1073741824, zlm1, zlm2, zlm3]
        rw [if_pos c1]
      · rw [T300, M297]
        simp only [z_bi, zb_0]
        rw [if_neg (fun q => q c), M186]
        simp only [z_bi, zb_0, zl0, zl1, zl2, zl3, zl4, zl5, zl6, zl7, zl8, zl9, zl10, zl12, zl15, zl16, zl20, zl22, zl23, zl24, zl27, zl30, zl31, zl32, zl40, zl46, zl48, zl50, zl57, zl59, zl60, zl61, zl62, zl63, zl80, zl96, zl97, zl99, zl100, zl122, zl255, zl360, zl500, zl999, zl9999, zl60000, zl99999, zl16777215, zl1073741824, zlm1, zlm2, zlm3]
        rw [if_pos c1]
  · refine ⟨-1, h, h, ?_, zF_rf, ?_, zF_rf⟩
    · rw [T136, X150]
      simp only [z_bi, zb_0]
      rw [if_pos c]
    · rw [T300, M297]
      simp only [z_bi, zb_0]
      rw [if_pos c]
