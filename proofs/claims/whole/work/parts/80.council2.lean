/-! THE COUNCIL: council -/
theorem zcC_okw {h : ai_H} (hv : zVm (zMv h)) {k : Nat} (hk : k < zcm h) : zsl (zMv h) 0 29 (zcJ h k) = nI (zcC h k) ∧ 1 ≤ zcC h k ∧ zcC h k ≤ 9999 := by
  have V : zV (zsl (zMv h) 0) := hv.2.1 0 (Nat.zero_le _)
  have v := (V.2.2.2.2.2 _ (zcJ_lt hk)).2.2.1
  unfold zi at v
  unfold zcC
  exact ⟨z_nat (by omega), by omega, by omega⟩
theorem zcL_okw {h : ai_H} (hv : zVm (zMv h)) {t : Nat} (ht : t < zg (zMv h) 33) : zsl (zMv h) 0 21 t = nI (zcLf h t) ∧ zcLf h t ≤ 99999 := by
  have v := (hv.2.2.2.1.1 t ht).1
  have e : zsl (zMv h) 0 21 t = (zMv h).1 21 t := by
    unfold zsl
    rw [Nat.mul_zero, Nat.zero_add]
  rw [← e] at v
  unfold zi at v
  unfold zcLf
  exact ⟨z_nat (by omega), by omega⟩
theorem zcm_le {h : ai_H} : zcm h ≤ 6 := zask_le _
theorem M282 {h : ai_H} (d : Nat) (hv : zVm (zMv h)) : ∃ h1, ai_X (d + 7) 282 [.inr (.inr (32, 0, 16128))] h = some ([], h1) ∧ zF zMS h h1 ∧ h1.1 16128 77 = nI (zcm h) ∧ h1.1 16128 78 = nI (zcou h).1 ∧ h1.1 16128 79 = nI (zcou h).2 ∧ (zcou h).1 ≤ 60000 ∧ ∀ k, k < zcm h → h1.1 2064459 k = nI (zcJ h k) := by
  obtain ⟨b1, b5, b4, b3, b33, V⟩ := zm_b hv
  obtain ⟨g, a1, a2, a3, a4⟩ := M280 d hv
  have hg : zmh g (zg (zMv h) 33) (zcm h) (zcC h) (zcJ h) (zcP h) (zcLf h) := by
    refine ⟨a3, by rw [zM_n a2 (by unfold zMS; decide)]; exact b33.1, fun k hk => ⟨(a4 k hk).1, ?_, ?_, fun t ht => ?_⟩, fun t ht => ?_⟩
    · have := zcJ_lt hk
      omega
    · rw [zM_n a2 (zMS_n (by decide) (by decide)), ← (zcC_okw hv hk).1]
      exact (zs0 (f := 29) (by omega)).symm
    · rw [(a4 k hk).2 t ht]
      refine zb_c ?_
      unfold zcP
      rw [decide_eq_true_eq]
    · rw [zM_n a2 (zMS_n (by decide) (by decide)), ← (zcL_okw hv ht).1]
      exact (zs0 (f := 21) (by omega)).symm
  obtain ⟨h1, q1, q2, q3, q4, q5, q6, q7⟩ := M282l (g := g) (d + 5) b33.2 zcm_le (fun k hk => (zcC_okw hv hk).2.2) (fun t ht => (zcL_okw hv ht).2) hg
  refine ⟨h1, ?_, zF_tr a2 ⟨fun q j n => ?_, q2⟩, by rw [q4 77 (by decide) (by decide)]; exact a3, q5, q6, q7, fun k hk => by rw [q3 _ (by decide) (by decide)]; exact (a4 k hk).1⟩
  · rw [T282, a1]
    simp only [z_bv]
    exact q1
  · by_cases e1 : q = 2064460
    · exact absurd (by unfold zMS; omega) n
    · by_cases e2 : q = 16128
      · subst e2
        exact q4 j (fun c => n (by unfold zMS; omega)) (fun c => n (by unfold zMS; omega))
      · rw [q3 q e1 e2]
theorem P_council (x : Int32) : zPr 117 283 [.inl x] := zPr_q fun d h hr => by
  by_cases c1 : 0 ≤ x.toInt ∧ x.toInt ≤ 2
  · obtain ⟨h1, a1, a2, a3, a4, a5, a6⟩ := X178 (h := h) (d + 39) hr
    have eV := zMv_x a2
    obtain ⟨u1, u2, u3, u4, u5⟩ := zcou_V eV
    obtain ⟨h2, q1, q2, q3, q4, q5, q6, q7⟩ := M282 (h := h1) (d + 52) (by rw [eV]; exact hr.2.1)
    rw [u2] at q3
    rw [u1] at q4 q5
    refine ⟨if x = 2 then nI (zcm h) else if x = 0 then nI (zcou h).1 else nI (zcou h).2, h1, h2, ?_, a2, ?_, q2⟩
    · rw [T117, X146]
      simp only [z_bi, zb_0, zl0, zl1, zl2, zl3, zl4, zl5, zl6, zl7, zl8, zl9, zl10, zl12, zl15, zl16, zl20, zl22, zl23, zl24, zl27, zl30, zl31, zl32, zl40, zl46, zl48, zl50, zl57, zl59, zl60, zl61, zl62, zl63, zl80, zl96, zl97, zl99, zl100, zl122, zl255, zl360, zl500, zl999, zl9999, zl60000, zl99999, zl16777215, zl1073741824, zlm1, zlm2, zlm3]
      rw [if_neg (fun q => q c1), a1]
      simp only [z_bv, a3, a4, a5]
      by_cases e2 : x = 2
      · rw [if_pos e2, if_pos e2]
      · rw [if_neg e2, if_neg e2]
        by_cases e0 : x = 0
        · rw [if_pos e0, if_pos e0]
        · rw [if_neg e0, if_neg e0]
    · rw [T283, M186]
      simp only [z_bi, zb_0, zl0, zl1, zl2, zl3, zl4, zl5, zl6, zl7, zl8, zl9, zl10, zl12, zl15, zl16, zl20, zl22, zl23, zl24, zl27, zl30, zl31, zl32, zl40, zl46, zl48, zl50, zl57, zl59, zl60, zl61, zl62, zl63, zl80, zl96, zl97, zl99, zl100, zl122, zl255, zl360, zl500, zl999, zl9999, zl60000, zl99999, zl16777215, zl1073741824, zlm1, zlm2, zlm3]
      rw [if_neg (fun q => q c1), q1]
      simp only [z_bv, q3, q4, q5]
      have c3 : x = 0 ∨ x = 1 ∨ x = 2 := by
        rw [z_eq, z_eq, z_eq]
        simp only [zl0, zl1, zl2, zl3, zl4, zl5, zl6, zl7, zl8, zl9, zl10, zl12, zl15, zl16, zl20, zl22, zl23, zl24, zl27, zl30, zl31, zl32, zl40, zl46, zl48, zl50, zl57, zl59, zl60, zl61, zl62, zl63, zl80, zl96, zl97, zl99, zl100, zl122, zl255, zl360, zl500, zl999, zl9999, zl60000, zl99999, zl16777215, zl1073741824, zlm1, zlm2, zlm3]
        omega
      rcases c3 with rfl | rfl | rfl
      · rw [if_pos rfl, if_neg (by decide), if_pos rfl]
      · rw [if_neg (by decide), if_pos rfl, if_neg (by decide), if_neg (by decide)]
      · rw [if_neg (by decide), if_neg (by decide), if_pos rfl]
  · refine ⟨-1, h, h, ?_, zF_rf, ?_, zF_rf⟩
    · rw [T117, X146]
      simp only [z_bi, zb_0, zl0, zl1, zl2, zl3, zl4, zl5, zl6, zl7, zl8, zl9, zl10, zl12, zl15, zl16, zl20, zl22, zl23, zl24, zl27, zl30, zl31, zl32, zl40, zl46, zl48, zl50, zl57, zl59, zl60, zl61, zl62, zl63, zl80, zl96, zl97, zl99, zl100, zl122, zl255, zl360, zl500, zl999, zl9999, zl60000, zl99999, zl16777215, zl1073741824, zlm1, zlm2, zlm3]
      rw [if_pos c1]
    · rw [T283, M186]
      simp only [z_bi, zb_0, zl0, zl1, zl2, zl3, zl4, zl5, zl6, zl7, zl8, zl9, zl10, zl12, zl15, zl16, zl20, zl22, zl23, zl24, zl27, zl30, zl31, zl32, zl40, zl46, zl48, zl50, zl57, zl59, zl60, zl61, zl62, zl63, zl80, zl96, zl97, zl99, zl100, zl122, zl255, zl360, zl500, zl999, zl9999, zl60000, zl99999, zl16777215, zl1073741824, zlm1, zlm2, zlm3]
      rw [if_pos c1]
