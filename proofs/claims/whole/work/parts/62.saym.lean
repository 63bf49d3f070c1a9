/-! THE LAW: what a text says of a work, the reference's way -/
theorem M244 {h : ai_H} {p : Nat} (d : Nat) (w : Int32) (hp : p < 7) (hv : zVl (zMv h) p) (hs : zVs (zMv h)) (h33 : zi ((zMv h).2 33) 0 5) : ∃ h', ai_X (d + 2) 244 [.inr (.inr (32, 0, 16128)), .inl (nI p), .inl w] h = some ([.inl (zver (zMv h) (h.1 2064446) w p ((zMv h).1 36 p).toInt.toNat 0)], h') ∧ zF zMS h h' ∧ ∀ c, c ≠ 2064447 → h'.1 c = h.1 c := by
  obtain ⟨v36, vst, vlen⟩ := hv
  unfold zi at v36
  have v42 := hs.1
  unfold zi at v42 h33
  have g33 : (zg (zMv h) 33 : Int) ≤ 5 := by unfold zg; omega
  have ipx : ∀ f : Nat → Option ai_R, ai_ix (nI p) 7 f = f p := fun f => z_ix hp (by decide)
  have e24 : (24 : Int32) * nI p = nI (24 * p) := by
    have l : (24 : Int32).toInt = 24 := rfl
    rw [z_eq, z_mul] <;> rw [z_T (by omega), l] <;> (try rw [z_T (by omega)]) <;> omega
  have m36 : h.1 2064421 p = (zMv h).1 36 p := (zMv1 (f := 36) (by omega)).symm
  have ea : nI (24 * p) + (zMv h).1 36 p = nI (24 * p + ((zMv h).1 36 p).toInt.toNat) := by
    rw [z_eq, z_add] <;> rw [z_T (by omega)] <;> (try rw [z_T (by omega)]) <;> omega
  have K : ∀ k i, i + k = ((zMv h).1 36 p).toInt.toNat → ∀ g, zF zMS h g → (∀ c, c ≠ 2064447 → g.1 c = h.1 c) → ∃ h', ai_E (d + 1) 244 5 [some (.inr (.inr (32, 0, 16128))), some (.inl (nI p)), some (.inl w), some (.inl (nI (24 * p + i)))] [] g = some ([.inl (zver (zMv h) (h.1 2064446) w p k i)], h') ∧ zF zMS h h' ∧ ∀ c, c ≠ 2064447 → h'.1 c = h.1 c := by
    intro k
    induction k with
    | zero =>
      intro i hi g fg cg
      refine ⟨g, ?_, fg, cg⟩
      rw [T244_5, ipx, cg 2064421 (by decide), m36, e24, ea, if_pos (by rw [nI_leI (by omega) (by omega)]; omega), z_b0]
      rfl
    | succ k ih =>
      intro i hi g fg cg
      have ih := ih (i + 1) (by omega)
      have hi2 : i < ((zMv h).1 36 p).toInt.toNat := by omega
      obtain ⟨w1, w2, w3, w4, w5, w6⟩ := vst i hi2
      unfold zi at w1
      have eV : zMv g = zMv h := zMv_m fg
      have ix : ∀ f : Nat → Option ai_R, ai_ix (nI (24 * p + i)) 168 f = f (24 * p + i) := fun f => z_ix (by omega) (by decide)
      have e38 : g.1 2064423 (24 * p + i) = (zMv h).1 38 (24 * p + i) := by rw [cg 2064423 (by decide)]; exact (zMv1 (f := 38) (by omega)).symm
      have e39 : g.1 2064424 (24 * p + i) = (zMv h).1 39 (24 * p + i) := by rw [cg 2064424 (by decide)]; exact (zMv1 (f := 39) (by omega)).symm
      have e40 : g.1 2064425 (24 * p + i) = nI ((zMv h).1 40 (24 * p + i)).toInt.toNat := by rw [cg 2064425 (by decide)]; exact ((zMv1 (f := 40) (by omega)).symm).trans (z_nat w3)
      have e41 : g.1 2064426 (24 * p + i) = nI (((zMv h).1 40 (24 * p + i)).toInt.toNat + (((zMv h).1 41 (24 * p + i)).toInt.toNat - ((zMv h).1 40 (24 * p + i)).toInt.toNat)) := by
        rw [cg 2064426 (by decide), show ((zMv h).1 40 (24 * p + i)).toInt.toNat + (((zMv h).1 41 (24 * p + i)).toInt.toNat - ((zMv h).1 40 (24 * p + i)).toInt.toNat) = ((zMv h).1 41 (24 * p + i)).toInt.toNat by omega]
        exact ((zMv1 (f := 41) (by omega)).symm).trans (z_nat (by omega))
      obtain ⟨h', x1, x2, x3⟩ := M242 (h := g) (x := 24 * p + i) (q := ((zMv h).1 40 (24 * p + i)).toInt.toNat) (m := ((zMv h).1 41 (24 * p + i)).toInt.toNat - ((zMv h).1 40 (24 * p + i)).toInt.toNat) (n := if (zMv h).1 40 (24 * p + i) = (zMv h).1 41 (24 * p + i) then 0 else 1) d (by omega) e40 e41 (by omega) (fun j hj => by rw [eV]; exact hs.2.1 _ (by omega)) (by rw [eV]; exact w6) (by split <;> omega)
      rw [eV, cg 2064446 (by decide)] at x1
      have y2 : zF zMS h h' := zF_tr fg x2
      have y3 : ∀ c, c ≠ 2064447 → h'.1 c = h.1 c := fun c hc => (x3 c hc).trans (cg c hc)
      have e38' : h'.1 2064423 (24 * p + i) = (zMv h).1 38 (24 * p + i) := by rw [x3 2064423 (by decide)]; exact e38
      have b38 : (zMv h).1 38 (24 * p + i) = 0 ∨ (zMv h).1 38 (24 * p + i) = 1 := by
        rw [z_eq, z_eq]
        simp only [zl0, zl1, zl2, zl3, zl4, zl5, zl6, zl7, zl8, zl9, zl10, zl12, zl15, zl16, zl20, zl22, zl23, zl24, zl27, zl30, zl31, zl32, zl40, zl46, zl48, zl50, zl57, zl59, zl60, zl61, zl62, zl63, zl80, zl96, zl97, zl99, zl100, zl122, zl255, zl360, zl500, zl999, zl9999, zl60000, zl99999, zl16777215, zl1073741824, zlm1, zlm2, zlm3]
        omega
      have z38 : ∀ o : Option ai_R, ai_b01 ((zMv h).1 38 (24 * p + i)) o = o := fun o => by unfold ai_b01; rw [if_pos b38]
      have eq1 : 24 * p + i + 1 = 24 * p + (i + 1) := by omega
      rw [T244_5, ipx, cg 2064421 (by decide), m36, e24, ea, if_neg (by rw [nI_leI (by omega) (by omega)]; omega)]
      simp only [ix, e39, x1, z_bi, zb_0, e38', z38, nI_1, eq1]
      rw [zver]
      by_cases c : zsay (zev (zMv h) (h.1 2064446) ((zMv h).1 40 (24 * p + i)).toInt.toNat (((zMv h).1 41 (24 * p + i)).toInt.toNat - ((zMv h).1 40 (24 * p + i)).toInt.toNat)) = true
      · by_cases q1 : (zMv h).1 39 (24 * p + i) = 5
        · rw [if_pos q1, if_neg (fun x => x c), if_pos ⟨Or.inl q1, c⟩]
          exact ⟨h', rfl, y2, y3⟩
        · rw [if_neg q1]
          by_cases q2 : (zMv h).1 39 (24 * p + i) = w
          · rw [if_pos q2, if_neg (fun x => x c), if_pos ⟨Or.inr q2, c⟩]
            exact ⟨h', rfl, y2, y3⟩
          · rw [if_neg q2, if_neg (fun x => by rcases x.1 with x | x; exact q1 x; exact q2 x)]
            exact ih g fg cg
      · by_cases q1 : (zMv h).1 39 (24 * p + i) = 5
        · rw [if_pos q1, if_pos c, if_neg (fun x => c x.2)]
          exact ih h' y2 y3
        · rw [if_neg q1]
          by_cases q2 : (zMv h).1 39 (24 * p + i) = w
          · rw [if_pos q2, if_pos c, if_neg (fun x => c x.2)]
            exact ih h' y2 y3
          · rw [if_neg q2, if_neg (fun x => c x.2)]
            exact ih g fg cg
  rw [T244, e24]
  exact K ((zMv h).1 36 p).toInt.toNat 0 (by omega) h zF_rf (fun _ _ => rfl)
