/-! THE LAW: what a text says of a work -/
theorem zflat_at {l : List (Int32 × Int32 × List Int32)} {i : Nat} {r : Int32 × Int32 × List Int32} (h : l[i]? = some r) : (zflat (l.take (i + 1))).length = (zflat (l.take i)).length + r.2.2.length ∧ ∀ j, j < r.2.2.length → (zflat l)[(zflat (l.take i)).length + j]? = r.2.2[j]? := by
  obtain ⟨hi, er⟩ := List.getElem?_eq_some_iff.mp h
  have e1 : l.take (i + 1) = l.take i ++ [r] := by rw [List.take_add_one, h]; rfl
  have e2 : zflat (l.take (i + 1)) = zflat (l.take i) ++ r.2.2 := by
    rw [e1]
    unfold zflat
    rw [List.flatMap_append]
    simp
  have e3 : zflat l = zflat (l.take (i + 1)) ++ zflat (l.drop (i + 1)) := by
    unfold zflat
    rw [← List.flatMap_append, List.take_append_drop]
  refine ⟨by rw [e2, List.length_append], fun j hj => ?_⟩
  rw [e3, e2, List.getElem?_append_left (by rw [List.length_append]; omega), List.getElem?_append_right (by omega)]
  congr 1
  omega
/-- the first statement that speaks of the work and holds -/
def zver (μ : zMu) (F : Nat → Int32) (w : Int32) (p : Nat) : Nat → Nat → Int32
  | 0, _ => 0
  | k + 1, i => if (μ.1 39 (24 * p + i) = 5 ∨ μ.1 39 (24 * p + i) = w) ∧ zsay (zev μ F (μ.1 40 (24 * p + i)).toInt.toNat ((μ.1 41 (24 * p + i)).toInt.toNat - (μ.1 40 (24 * p + i)).toInt.toNat)) = true then μ.1 38 (24 * p + i) else zver μ F w p k (i + 1)
theorem zlaw_at {μ : zMu} {p i : Nat} (hi : i < (μ.1 36 p).toInt.toNat) : (zlaw μ p)[i]? = some (μ.1 38 (24 * p + i), μ.1 39 (24 * p + i), zcode μ (μ.1 40 (24 * p + i)).toInt.toNat (μ.1 41 (24 * p + i)).toInt.toNat) := by
  unfold zlaw
  rw [List.getElem?_map, List.getElem?_range hi]
  rfl
theorem zcode_at {μ : zMu} {a b j : Nat} (hj : j < b - a) : (zcode μ a b)[j]? = some (zenc μ (a + j)) ∧ (zcode μ a b).length = b - a := by
  unfold zcode
  rw [List.getElem?_map, List.getElem?_range hj, List.length_map, List.length_range]
  exact ⟨rfl, rfl⟩
theorem zcode_len {μ : zMu} {a b : Nat} : (zcode μ a b).length = b - a := by
  unfold zcode
  rw [List.length_map, List.length_range]
theorem X33 {h : ai_H} {μ : zMu} {y b2 p : Nat} (d : Nat) (w : Int32) (hw : zLw h y (zlaw μ p)) (hv : zVl μ p) (hs : zVs μ) (h33 : zi (μ.2 33) 0 5) : ai_X (d + 3) 33 [.inr (.inr (24, 0, y)), .inl w, .inr (.inr (1, 11, b2))] h = some ([.inl (zver μ (zfG h b2) w p (μ.1 36 p).toInt.toNat 0)], h) := by
  obtain ⟨-, y0, y1, y2, y3, -, e0, e1, e2, e3, n0, n1, n2, n3, c1, c2⟩ := hw
  obtain ⟨v36, vst, vlen⟩ := hv
  have ln : (zlaw μ p).length = (μ.1 36 p).toInt.toNat := zlaw_len
  unfold zi at v36
  rw [ln] at n0 n1 n2
  have K : ∀ k i, i + k = (μ.1 36 p).toInt.toNat → ∀ z5, ai_E (d + 2) 33 5 [some (.inr (.inr (24, 0, y))), some (.inl w), some (.inr (.inr (1, 11, b2))), some (.inl (nI (zflat ((zlaw μ p).take i)).length)), some (.inl (nI i)), z5] [] h = some ([.inl (zver μ (zfG h b2) w p k i)], h) := by
    intro k
    induction k with
    | zero =>
      intro i hi z5
      rw [T33_5, e0]
      simp only [ai_oo, n0, z_b0]
      rw [if_pos (by rw [nI_leI (by omega) (by omega)]; omega)]
      rfl
    | succ k ih =>
      intro i hi z5
      have ih := ih (i + 1) (by omega)
      have hi2 : i < (μ.1 36 p).toInt.toNat := by omega
      have la := zlaw_at (μ := μ) hi2
      obtain ⟨g1, g2, g3⟩ := c1 i _ la
      obtain ⟨f1, f2⟩ := zflat_at la
      obtain ⟨w1, w2, w3, w4, w5, w6⟩ := vst i hi2
      have g1 : h.1 y0 i = μ.1 38 (24 * p + i) := g1
      have g2 : h.1 y1 i = μ.1 39 (24 * p + i) := g2
      have f2 : ∀ j, j < (zcode μ (μ.1 40 (24 * p + i)).toInt.toNat (μ.1 41 (24 * p + i)).toInt.toNat).length → (zflat (zlaw μ p))[(zflat ((zlaw μ p).take i)).length + j]? = (zcode μ (μ.1 40 (24 * p + i)).toInt.toNat (μ.1 41 (24 * p + i)).toInt.toNat)[j]? := f2
      have f1 : (zflat ((zlaw μ p).take (i + 1))).length = (zflat ((zlaw μ p).take i)).length + ((μ.1 41 (24 * p + i)).toInt.toNat - (μ.1 40 (24 * p + i)).toInt.toNat) := by rw [← zcode_len (μ := μ)]; exact f1
      have le1 : (zflat ((zlaw μ p).take (i + 1))).length ≤ (zflat (zlaw μ p)).length := by
        have e3 : zflat (zlaw μ p) = zflat ((zlaw μ p).take (i + 1)) ++ zflat ((zlaw μ p).drop (i + 1)) := by
          unfold zflat
          rw [← List.flatMap_append, List.take_append_drop]
        have := congrArg List.length e3
        rw [List.length_append] at this
        omega
      have i0 : ∀ f : Nat → Option ai_R, ai_ix (nI i) (μ.1 36 p).toInt.toNat f = f i := fun f => z_ix hi2 (by omega)
      have hX := X34 (h := h) (μ := μ) (a := y) (y3 := y3) (b3 := b2) (p := (zflat ((zlaw μ p).take i)).length) (m := (μ.1 41 (24 * p + i)).toInt.toNat - (μ.1 40 (24 * p + i)).toInt.toNat) (L := (zflat (zlaw μ p)).length) (q := (μ.1 40 (24 * p + i)).toInt.toNat) d e3 n3 (by omega) (by omega) (fun j hj => c2 _ _ ((f2 j (by rw [zcode_len]; exact hj)).trans (zcode_at hj).1)) (fun j hj => by
        have v42 := hs.1
        unfold zi at v42
        exact hs.2.1 _ (by omega)) (by rw [w6]; intro q; cases q)
      rw [← f1] at hX
      have P : ∀ z : Int32, (z = 0 ∨ z = 1) → (z = 1 ↔ (μ.1 39 (24 * p + i) = 5 ∨ μ.1 39 (24 * p + i) = w)) → ∀ z5, ai_E (d + 2) 33 62 [some (.inr (.inr (24, 0, y))), some (.inl w), some (.inr (.inr (1, 11, b2))), some (.inl (nI (zflat ((zlaw μ p).take i)).length)), some (.inl (nI i)), z5] [.inl z] h = some ([.inl (zver μ (zfG h b2) w p (k + 1) i)], h) := by
        intro z hz ez z5
        rw [T33_62, e2]
        simp only [ai_oo, n2, n0, i0, g3, g1]
        rw [show (zlaw μ p).take (i + 1) = (zlaw μ p).take (i + 1) from rfl, hX]
        simp only [z_bi, zb_0, z_b0, z_b1]
        rcases hz with rfl | rfl
        · rw [if_pos rfl, nI_1, ih, zver, if_neg (fun c => absurd (ez.mpr c.1) (by decide))]
        · rw [if_neg (by decide), zver]
          have q1 := ez.mp rfl
          by_cases c : zsay (zev μ (zfG h b2) (μ.1 40 (24 * p + i)).toInt.toNat ((μ.1 41 (24 * p + i)).toInt.toNat - (μ.1 40 (24 * p + i)).toInt.toNat)) = true
          · rw [if_neg (fun x => x c), if_pos ⟨q1, c⟩, e0]
            unfold zi at w1
            simp only [ai_oo, n0, i0, g1]
            by_cases c1 : μ.1 38 (24 * p + i) = 1
            · rw [if_pos c1, c1]
            · rw [if_neg c1]
              have : μ.1 38 (24 * p + i) = 0 := by
                rw [z_eq] at c1 ⊢
                simp only [zl0, zl1, zl2, zl3, zl4, zl5, zl6, zl7, zl8, zl9, zl10, zl12, zl15, zl16, zl20, zl22, zl23, zl24, zl27, zl30, zl31, zl32, zl40, zl46, zl48, zl50, zl57, zl59, zl60, zl61, zl62, zl63, zl80, zl96, zl97, zl99, zl100, zl122, zl255, zl360, zl500, zl999, zl9999, zl60000, zl99999, zl16777215, zl1073741824, zlm1, zlm2, zlm3] at c1 ⊢
                omega
              rw [this]
          · rw [if_pos c, if_neg (fun x => c x.2), e2]
            simp only [ai_oo, n2, i0, g3, nI_1]
            exact ih _
      rw [T33_5, e0, e1, e2]
      simp only [ai_oo, n0, n1, n2, i0, g2]
      rw [if_neg (by rw [nI_leI (by omega) (by omega)]; omega), if_neg (by rw [nI_leI (by omega) (by omega)]; omega), if_neg (by rw [nI_leI (by omega) (by omega)]; omega)]
      by_cases q1 : μ.1 39 (24 * p + i) = 5
      · rw [if_pos q1]
        exact P 1 (Or.inr rfl) ⟨fun _ => Or.inl q1, fun _ => rfl⟩ _
      · rw [if_neg q1]
        by_cases q2 : μ.1 39 (24 * p + i) = w
        · rw [if_pos q2]
          exact P 1 (Or.inr rfl) ⟨fun _ => Or.inr q2, fun _ => rfl⟩ _
        · rw [if_neg q2]
          exact P 0 (Or.inl rfl) ⟨fun c => absurd c (by decide), fun c => by rcases c with c | c; exact absurd c q1; exact absurd c q2⟩ _
  rw [T33]
  exact K (μ.1 36 p).toInt.toNat 0 (by omega) _
