/-! A CAP READ WELL: the views before packing -/
theorem zcap3 {h h3 : ai_H} {w0 y T : Nat} {L : List zTx} (hr : zR h) (hT : zg (zMv h) 33 = T) (h42 : h.1 16128 42 = nI w0) (hw : w0 ≤ 19000) (gd : zGd L) (a5 : L.length ≤ 24) (a6 : (zfl L).length ≤ 500) (y1 : 16128 < y) (y0 : y % 128 = 0)
    (e : ∀ q j, (∀ k, k < 5 → ¬ q = y + 128 * k) → ¬ zChg w0 0 q j → h3.1 q j = h.1 q j) (s42 : h3.1 16128 42 = nI (w0 + (zfl L).length)) (s36 : h3.1 2064421 0 = nI L.length)
    (b4 : ∀ i q, (zfl L)[i]? = some q → zSc h3 (w0 + i) q)
    (b6 : ∀ i q, i < 24 → L[i]? = some q → h3.1 2064423 (24 * 0 + i) = vp_nar .boolean q.1 ∧ h3.1 2064424 (24 * 0 + i) = q.2.1 ∧ h3.1 2064425 (24 * 0 + i) = nI (w0 + (zfl (L.take i)).length) ∧ h3.1 2064426 (24 * 0 + i) = nI (w0 + (zfl (L.take (i + 1))).length)) :
    (∀ t, t < T → zlaw (zMv h3) (1 + t) = zlaw (zMv h) (1 + t) ∧ zVl (zMv h3) (1 + t)) ∧ zlaw (zMv h3) 0 = zltx L ∧ zVl (zMv h3) 0 ∧ (∀ k, k < w0 + (zfl L).length → zi ((zMv h3).1 43 k) 0 3 ∧ zi ((zMv h3).1 44 k) 0 5 ∧ zi ((zMv h3).1 45 k) 0 62 ∧ zi ((zMv h3).1 46 k) 0 99999) ∧ ∀ t, T ≤ t → t < 5 → (zMv h3).1 36 (1 + t) = 0 := by
  have r2 := hr.2.1
  have T5 : T ≤ 5 := by rw [← hT]; have := r2.1.2.1; unfold zi at this; unfold zg; omega
  have mr : ∀ f, f < 87 → ∀ k, k < 5 → ¬ 2064385 + f = y + 128 * k := fun f hf k hk c => by
    have := zMr hf
    rw [c, zr0 (by omega)] at this
    omega
  have m42 : (zMv h3).2 42 = nI (w0 + (zfl L).length) := (zMv2 (by decide)).trans s42
  have m42h : (zMv h).2 42 = nI w0 := (zMv2 (by decide)).trans h42
  have rw0 : ((zMv h).2 42).toInt.toNat = w0 := by rw [m42h, z_T (by omega)]; exact Int.toNat_natCast w0
  have r36 : ∀ j, 1 ≤ j → j < 6 → (zMv h3).1 36 j = (zMv h).1 36 j := fun j hj hn => by
    rw [zMv1 (by decide), zMv1 (by decide), e _ _ (mr 36 (by decide)) (by unfold zChg zQz; omega)]
  have rrow : ∀ p f j, 1 ≤ p → p < 6 → 38 ≤ f → f ≤ 41 → 24 * p ≤ j → j < 24 * p + 24 → (zMv h3).1 f j = (zMv h).1 f j := fun p f j hp hn h1 h2 h3 h4 => by
    rw [zMv1 (by omega), zMv1 (by omega), e _ _ (mr f (by omega)) (by unfold zChg zQz; omega)]
  have rst : ∀ f k, 43 ≤ f → f ≤ 46 → k < w0 → (zMv h3).1 f k = (zMv h).1 f k := fun f k h1 h2 hk => by
    rw [zMv1 (by omega), zMv1 (by omega), e _ _ (mr f (by omega)) (by unfold zChg zQz; omega)]
  obtain ⟨v1, v2, v3, v4, v5, v6, v7⟩ := zVmH_of r2
  rw [hT] at v6
  have at' : zAt (zMv h3) w0 0 L := by
    refine ⟨by rw [zMv1 (by decide)]; exact s36, a5, fun i q hi => ?_, fun i q hi => ?_, by omega⟩
    · have il : i < 24 := Nat.lt_of_lt_of_le (List.getElem?_eq_some_iff.mp hi).1 a5
      obtain ⟨k1, k2, k3, k4⟩ := b6 i q il hi
      have nb : vp_nar .boolean q.1 = q.1 := by
        rcases (gd q (List.mem_of_getElem? hi)).1 with w | w <;> rw [w] <;> rfl
      rw [nb] at k1
      rw [zMv1 (by decide), zMv1 (by decide), zMv1 (by decide), zMv1 (by decide)]
      exact ⟨k1, k2, k3, k4⟩
    · rw [zMv1 (by decide), zMv1 (by decide), zMv1 (by decide), zMv1 (by decide)]
      exact b4 i q hi
  refine ⟨fun t ht => ⟨zlaw_w (v6 t ht) (Nat.le_of_eq rw0) (r36 _ (by omega) (by omega)) (fun f j h1 h2 h3 h4 => rrow (1 + t) f j (by omega) (by omega) h1 h2 h3 h4) rst, zVl_w (v6 t ht) (Nat.le_of_eq rw0) (by rw [m42, m42h, z_T (by omega), z_T (by omega)]; omega) (r36 _ (by omega) (by omega)) (fun f j h1 h2 h3 h4 => rrow (1 + t) f j (by omega) (by omega) h1 h2 h3 h4) rst⟩, zAt_law at', zAt_vl at' gd (by rw [m42, z_T (by omega)]; exact Int.le_refl _) a6, fun k hk => ?_, fun t h1 h2 => ?_⟩
  · by_cases c : k < w0
    · rw [rst 43 k (by decide) (by decide) c, rst 44 k (by decide) (by decide) c, rst 45 k (by decide) (by decide) c, rst 46 k (by decide) (by decide) c]
      exact v5.2.1 k (by rw [rw0]; exact c)
    · obtain ⟨i, rfl⟩ : ∃ i, k = w0 + i := ⟨k - w0, by omega⟩
      have il : i < (zfl L).length := by omega
      obtain ⟨k1, k2, k3, k4⟩ := at'.2.2.2.1 i _ (List.getElem?_eq_getElem il)
      rw [k1, k2, k3, k4]
      obtain ⟨p, hp1, hp2⟩ := List.mem_flatMap.mp (List.getElem_mem il)
      exact (gd p hp1).2.2.1 _ hp2
  · rw [r36 _ (by omega) (by omega)]
    exact v5.2.2 t (by rw [hT]; exact h1) h2
