/-! IMAGES: slices that agree; brought back -/
def zrl (σ : Nat → Nat → Int32) (f : Nat) : Nat := if f < 10 then 1 else if f = 10 then zn σ 0 else if f < 16 ∨ f = 17 then zn σ 1 else if f = 16 then 24 else if f = 18 then zn σ 5 else if f = 19 then zn σ 2 else if f = 20 then zn σ 8 else if f = 21 then 0 else if f < 27 then zn σ 4 else zn σ 5
/-- slices that agree in what counts -/
def zEqS (σ σ' : Nat → Nat → Int32) : Prop := ∀ f i, f < 32 → ¬ f = 9 → i < zrl σ f → σ' f i = σ f i
theorem zEqS_n {σ σ' : Nat → Nat → Int32} (e : zEqS σ σ') {f : Nat} (hf : f < 9) : σ' f 0 = σ f 0 ∧ zn σ' f = zn σ f := by
  have : σ' f 0 = σ f 0 := e f 0 (by omega) (by omega) (by unfold zrl; rw [if_pos (by omega)]; decide)
  exact ⟨this, by unfold zn; rw [this]⟩
theorem zEqS_t {σ σ' : Nat → Nat → Int32} (e : zEqS σ σ') {f t : Nat} (hf : (11 ≤ f ∧ f < 16) ∨ f = 17) (ht : t < zn σ 1) : σ' f t = σ f t := e f t (by omega) (by omega) (by unfold zrl; rw [if_neg (by omega), if_neg (by omega), if_pos (by omega)]; exact ht)
theorem zEqS_e {σ σ' : Nat → Nat → Int32} (e : zEqS σ σ') {f t : Nat} (hf : 22 ≤ f ∧ f < 27) (ht : t < zn σ 4) : σ' f t = σ f t := e f t (by omega) (by omega) (by unfold zrl; rw [if_neg (by omega), if_neg (by omega), if_neg (by omega), if_neg (by omega), if_neg (by omega), if_neg (by omega), if_neg (by omega), if_neg (by omega), if_pos (by omega)]; exact ht)
theorem zEqS_j {σ σ' : Nat → Nat → Int32} (e : zEqS σ σ') {f t : Nat} (hf : f = 18 ∨ (27 ≤ f ∧ f < 32)) (ht : t < zn σ 5) : σ' f t = σ f t := e f t (by omega) (by omega) (by
  unfold zrl
  rcases hf with hf | hf
  · rw [if_neg (by omega), if_neg (by omega), if_neg (by omega), if_neg (by omega), if_pos hf]; exact ht
  · rw [if_neg (by omega), if_neg (by omega), if_neg (by omega), if_neg (by omega), if_neg (by omega), if_neg (by omega), if_neg (by omega), if_neg (by omega), if_neg (by omega)]; exact ht)
theorem zV_e {σ σ' : Nat → Nat → Int32} (e : zEqS σ σ') (V : zV σ) : zV σ' := by
  obtain ⟨Vc, Vn, Vt, Vh, Ve, Vj⟩ := V
  have n0 := zEqS_n e (f := 0) (by decide)
  have n1 := zEqS_n e (f := 1) (by decide)
  have n2 := zEqS_n e (f := 2) (by decide)
  have n3 := zEqS_n e (f := 3) (by decide)
  have n4 := zEqS_n e (f := 4) (by decide)
  have n5 := zEqS_n e (f := 5) (by decide)
  have n6 := zEqS_n e (f := 6) (by decide)
  have n7 := zEqS_n e (f := 7) (by decide)
  have n8 := zEqS_n e (f := 8) (by decide)
  refine ⟨?_, fun i hi => ?_, fun t ht => ?_, ⟨fun i hi => ?_, fun i hi => ?_, fun i hi => ?_⟩, ⟨fun i hi => ?_, fun k hk => ?_⟩, fun j hj => ?_⟩
  · unfold zVc at *
    rw [n0.1, n1.1, n2.1, n3.1, n4.1, n5.1, n6.1, n7.1, n8.1]
    exact Vc
  · rw [n0.2] at hi
    rw [e 10 i (by decide) (by decide) hi]
    exact Vn i hi
  · rw [n1.2] at ht
    rw [n0.2, zEqS_t e (f := 11) (by omega) ht, zEqS_t e (f := 12) (by omega) ht, zEqS_t e (f := 13) (by omega) ht, zEqS_t e (f := 14) (by omega) ht, zEqS_t e (f := 15) (by omega) ht, zEqS_t e (f := 17) (by omega) ht]
    exact Vt t ht
  · rw [n2.2] at hi
    rw [e 19 i (by decide) (by decide) hi]
    exact Vh.1 i hi
  · rw [n8.2] at hi
    rw [e 20 i (by decide) (by decide) hi]
    exact Vh.2.1 i hi
  · rw [e 16 i (by decide) (by decide) hi]
    exact Vh.2.2 i hi
  · rw [n4.2] at hi
    unfold zVr
    rw [n0.2, n1.2, zEqS_e e (f := 22) (by omega) hi, zEqS_e e (f := 23) (by omega) hi, zEqS_e e (f := 24) (by omega) hi, zEqS_e e (f := 25) (by omega) hi, zEqS_e e (f := 26) (by omega) hi]
    exact Ve.1 i hi
  · rw [n4.2, zcnt_c (q := fun i => σ 22 i = nI k) fun i hi => by rw [zEqS_e e (f := 22) (by omega) hi]]
    exact Ve.2 k hk
  · rw [n5.2] at hj
    rw [n1.2, zEqS_j e (f := 27) (by omega) hj, zEqS_j e (f := 28) (by omega) hj, zEqS_j e (f := 29) (by omega) hj, zEqS_j e (f := 30) (by omega) hj, zEqS_j e (f := 31) (by omega) hj, zEqS_j e (f := 18) (by omega) hj]
    exact Vj j hj
theorem zC_e {h : ai_H} {c : Nat} {σ σ' : Nat → Nat → Int32} (e : zEqS σ σ') (V : zV σ) (hc : zC h c σ) : zC h c σ' := by
  obtain ⟨c0, c1, c2, c3, c4, c5, c6, c7, c8, c9⟩ := hc
  have n0 := zEqS_n e (f := 0) (by decide)
  have n1 := zEqS_n e (f := 1) (by decide)
  have n2 := zEqS_n e (f := 2) (by decide)
  have n8 := zEqS_n e (f := 8) (by decide)
  have e10 : ∀ i, i < zn σ 0 → σ' 10 i = σ 10 i := fun i hi => e 10 i (by decide) (by decide) hi
  refine ⟨by rw [n0.1]; exact c0, by rw [n1.1]; exact c1, by rw [n2.1]; exact c2, by rw [n8.1]; exact c3, ?_, ?_, fun i hi => ?_, fun t ht => ?_, fun i hi => ?_, fun i hi => ?_⟩
  · rw [n0.2, c4]
    exact congrArg nI (zB_c fun i hi => by rw [e10 i hi])
  · rw [n1.2, c5]
    exact congrArg nI (zB_c fun i hi => by rw [zEqS_t e (f := 17) (by omega) hi])
  · rw [n0.2] at hi
    have ea : zab σ' i = zab σ i := by
      show zabF σ' (i + 1) i = zabF σ (i + 1) i
      exact zabF_c (i + 1) i (fun j hj => e10 j (by omega)) (fun j hj => V.2.1 j (by omega))
    rw [e10 i hi, ea]
    exact c6 i hi
  · rw [n1.2] at ht
    rw [zEqS_t e (f := 11) (by omega) ht, zEqS_t e (f := 12) (by omega) ht, zEqS_t e (f := 13) (by omega) ht, zEqS_t e (f := 14) (by omega) ht, zEqS_t e (f := 15) (by omega) ht]
    exact c7 t ht
  · rw [n2.2] at hi
    rw [e 19 i (by decide) (by decide) hi]
    exact c8 i hi
  · rw [n8.2] at hi
    rw [e 20 i (by decide) (by decide) hi]
    exact c9 i hi
theorem zD_e {h : ai_H} {c : Nat} {σ σ' : Nat → Nat → Int32} (e : zEqS σ σ') (hd : zD h c σ) : zD h c σ' := by
  obtain ⟨d1, d2, d3, d4, d5⟩ := hd
  have n3 := zEqS_n e (f := 3) (by decide)
  have n4 := zEqS_n e (f := 4) (by decide)
  have n6 := zEqS_n e (f := 6) (by decide)
  have n7 := zEqS_n e (f := 7) (by decide)
  refine ⟨fun k hk => ?_, fun i hi => ?_, by rw [n3.1]; exact d3, by rw [n6.1]; exact d4, by rw [n7.1]; exact d5⟩
  · rw [n4.2, zled_cn (σ := σ) (nI k) (zn σ 4) fun i hi => ⟨zEqS_e e (f := 22) (by omega) hi, by unfold zrow; rw [zEqS_e e (f := 22) (by omega) hi, zEqS_e e (f := 23) (by omega) hi, zEqS_e e (f := 24) (by omega) hi, zEqS_e e (f := 25) (by omega) hi, zEqS_e e (f := 26) (by omega) hi]⟩]
    exact d1 k hk
  · rw [e 16 i (by decide) (by decide) hi]
    exact d2 i hi
theorem zJ_e {h : ai_H} {c : Nat} {σ σ' : Nat → Nat → Int32} (e : zEqS σ σ') (hj : zJ h c σ) : zJ h c σ' := by
  have n5 := zEqS_n e (f := 5) (by decide)
  refine ⟨by rw [n5.1]; exact hj.1, fun j hjj => ?_⟩
  rw [n5.2] at hjj
  rw [zEqS_j e (f := 27) (by omega) hjj, zEqS_j e (f := 28) (by omega) hjj, zEqS_j e (f := 29) (by omega) hjj, zEqS_j e (f := 30) (by omega) hjj, zEqS_j e (f := 31) (by omega) hjj, zEqS_j e (f := 18) (by omega) hjj]
  exact hj.2 j hjj
theorem zrl_le {σ : Nat → Nat → Int32} (V : zV σ) {f : Nat} : zrl σ f ≤ zst f := by
  obtain ⟨k0, k1, k2, k8, k3, k4, k5, k6, k7⟩ := V.1
  have m0 := (zn_eq k0).2.1
  have m1 := (zn_eq k1).2.1
  have m2 := (zn_eq k2).2.1
  have m8 := (zn_eq k8).2.1
  have m4 := (zn_eq k4).2.1
  have m5 := (zn_eq k5).2.1
  unfold zrl zst
  by_cases c0 : f < 10
  · rw [if_pos c0, if_pos c0]; exact Nat.le_refl _
  · rw [if_neg c0, if_neg c0]
    by_cases c1 : f = 10
    · rw [if_pos c1, if_pos (by omega)]; omega
    · rw [if_neg c1]
      by_cases c2 : f < 16 ∨ f = 17
      · rw [if_pos c2, if_pos (by omega)]; omega
      · rw [if_neg c2]
        by_cases c3 : f = 16
        · rw [if_pos c3, if_pos (by omega)]; exact Nat.le_refl _
        · rw [if_neg c3, if_neg (show ¬ f < 18 by omega)]
          by_cases c4 : f = 18
          · rw [if_pos c4, if_pos c4]; omega
          · rw [if_neg c4, if_neg c4]
            by_cases c5 : f = 19
            · rw [if_pos c5, if_pos c5]; omega
            · rw [if_neg c5, if_neg c5]
              by_cases c6 : f = 20
              · rw [if_pos c6, if_pos c6]; omega
              · rw [if_neg c6, if_neg c6]
                by_cases c7 : f = 21
                · rw [if_pos c7]; exact Nat.zero_le _
                · rw [if_neg c7, if_neg c7]
                  by_cases c8 : f < 27
                  · rw [if_pos c8, if_pos c8]; omega
                  · rw [if_neg c8, if_neg c8]; omega
/-- the slices behind a copy -/
theorem zcp9_v {h h' : ai_H} {a b : Nat} (x : zcp9 a b (fun f => if f = 9 ∨ f = 21 then 0 else zst f) h h') : (zMv h').2 = (zMv h).2 ∧ (∀ f i, 32 ≤ f → (zMv h').1 f i = (zMv h).1 f i) ∧ (∀ f i, f < 32 → (f = 9 ∨ f = 21 ∨ i < zst f * b ∨ zst f * b + zst f ≤ i) → (zMv h').1 f i = (zMv h).1 f i) ∧ ∀ f i, f < 32 → ¬ f = 9 → ¬ f = 21 → i < zst f → zsl (zMv h') b f i = znb f (zsl (zMv h) a f i) := by
  obtain ⟨x1, x2, x3⟩ := x
  have x3 : ∀ f, f < 32 → ∀ i, h'.1 (2064385 + f) i = if zst f * b ≤ i ∧ i < zst f * b + (if f = 9 ∨ f = 21 then 0 else zst f) then znb f (h.1 (2064385 + f) (zst f * a + (i - zst f * b))) else h.1 (2064385 + f) i := x3
  refine ⟨?_, fun f i hf => ?_, fun f i hf hc => ?_, fun f i hf h9 h21 hi => ?_⟩
  · funext j
    unfold zMv
    dsimp only
    rw [x2 16128 (by omega)]
  · unfold zMv
    dsimp only
    by_cases c : f < 50 ∨ (63 ≤ f ∧ f < 67)
    · rw [if_pos c, if_pos c, x2 _ (by omega)]
    · rw [if_neg c, if_neg c]
  · rw [zMv1 (by omega), zMv1 (by omega), x3 f hf i]
    by_cases c : f = 9 ∨ f = 21
    · rw [if_pos c, if_neg (by omega)]
    · rw [if_neg c, if_neg (by omega)]
  · unfold zsl
    rw [zMv1 (by omega), zMv1 (by omega), x3 f hf, if_neg (show ¬ (f = 9 ∨ f = 21) by omega), if_pos (by omega), show zst f * b + i - zst f * b = i by omega]
theorem zEqS_cp {h h' : ai_H} {a b : Nat} (V : zV (zsl (zMv h) a)) (x : zcp9 a b (fun f => if f = 9 ∨ f = 21 then 0 else zst f) h h') : zEqS (zsl (zMv h) a) (zsl (zMv h') b) := fun f i hf h9 hi => by
  obtain ⟨-, -, -, x4⟩ := zcp9_v x
  by_cases h21 : f = 21
  · subst h21; exact absurd hi (Nat.not_lt_zero _)
  · have hl := zrl_le V (f := f)
    rw [x4 f i hf h9 h21 (by omega)]
    unfold znb
    by_cases c : f = 17 ∨ f = 18
    · rw [if_pos c]
      have b01 : zi (zsl (zMv h) a f i) 0 1 := by
        rcases c with c | c
        · subst c; exact (V.2.2.1 i hi).2.2.2.2.2
        · subst c; exact (V.2.2.2.2.2 i hi).2.2.2.2.2
      refine vp_b ?_
      unfold zi at b01
      rcases (show (zsl (zMv h) a f i).toInt = 0 ∨ (zsl (zMv h) a f i).toInt = 1 by omega) with q | q
      · left; rw [z_eq, q]; rfl
      · right; rw [z_eq, q]; rfl
    · rw [if_neg c]
theorem zEqS_ke {h h' : ai_H} {a b k : Nat} (V : zV (zsl (zMv h) k)) (hk : ¬ k = b) (x : zcp9 a b (fun f => if f = 9 ∨ f = 21 then 0 else zst f) h h') : zEqS (zsl (zMv h) k) (zsl (zMv h') k) := fun f i hf h9 hi => by
  obtain ⟨-, -, x3, -⟩ := zcp9_v x
  have hl := zrl_le V (f := f)
  unfold zsl
  refine x3 f _ hf (Or.inr (Or.inr ?_))
  rcases Nat.lt_or_ge k b with q | q
  · have : zst f * (k + 1) ≤ zst f * b := Nat.mul_le_mul_left _ q
    rw [Nat.mul_add, Nat.mul_one] at this
    omega
  · have : zst f * (b + 1) ≤ zst f * k := Nat.mul_le_mul_left _ (by omega)
    rw [Nat.mul_add, Nat.mul_one] at this
    omega
theorem zbl_root {y q : Nat} (hy : y % 128 = 0) (h : zbl y q) : zroot q = y := by
  have k0 : zfp y = y := zfp_r hy
  unfold zroot
  rcases h with h | h | h <;> rw [h] <;> simp only [k0]
theorem zbl_in {q : Nat} : zbl 16385 q ↔ zin q := Iff.rfl
theorem P_back (x : Int32) : zPr 144 194 [.inl x] := by
  intro d h hr
  obtain ⟨r1, r2, r3, r4⟩ := id hr
  obtain ⟨vi, vs, v9, vc, -⟩ := r2
  obtain ⟨rS, -, rI, -⟩ := r1
  obtain ⟨n, hn⟩ : ∃ n, zg (zMv h) 32 = n := ⟨_, rfl⟩
  have e32 : (zMv h).2 32 = nI n := by rw [← hn]; exact z_nat vi.1.1
  have hn3 : n ≤ 3 := by rw [← hn]; have := vi.1; unfold zi at this; unfold zg; omega
  have m32 : h.1 16128 32 = nI n := by rw [← zMv2 (by decide)]; exact e32
  have c10 : h.1 128 10 = nI n := rI.1.trans e32
  have hg33 : zg (zMv h) 33 ≤ 5 := by have := vi.2.1; unfold zi at this; unfold zg; omega
  have eN1 : (nI n - 1).toInt = (n : Int) - 1 := by rw [z_sub] <;> rw [z_T (by omega)] <;> simp only [zl1] <;> omega
  rw [hn] at vs v9 vc
  by_cases c : 0 ≤ x.toInt ∧ x.toInt < (n : Int)
  · obtain ⟨i, hi, rfl⟩ := z_rng c
    obtain ⟨y, y1, y2, y3, y4⟩ := rI.2 i (by rw [hn]; exact hi)
    obtain ⟨T, hT⟩ : ∃ T, ((zMv h).1 9 (i + 1)).toInt.toNat = T := ⟨_, rfl⟩
    have k9 := v9 i hi
    unfold zi at k9
    have e9 : (zMv h).1 9 (i + 1) = nI T := by rw [← hT]; exact z_nat k9.1
    have hT33 : T ≤ zg (zMv h) 33 := by rw [← hT]; omega
    rw [hT] at y4
    have V1 := vs (i + 1) (by omega)
    have hdj : ∀ q, zbl y q → ¬ zbl 16385 q := fun q a b => by
      have h1 := zbl_root y2.1 a
      have h2 := zin_r (zbl_in.mp b)
      have := y2.2.1
      omega
    obtain ⟨h1, a1, a2, a3, a4, a5, a6, a7, a8⟩ := X72 (h := h) (a := 16385) (b := y) (T0 := T) (T := T) (σ := zsl (zMv h) (i + 1)) (d + 56) V1 y4 (by omega) rS.2.2.2.2 hdj
    have fin : (∀ q, ¬ zin q → h1.1 q = h.1 q) ∧ h1.2 = h.2 := ⟨fun q hq => a3 q hq, a2⟩
    obtain ⟨zM1, zM2⟩ := zin_M fin
    -- the reference's
    obtain ⟨g1, u1, u2⟩ := M192 (h := h1) (a := i + 1) (b := 0) (d + 58) (by omega) (by omega) (by omega)
    obtain ⟨u3, u4, u5, u6⟩ := zcp9_v u2
    have V1' : zV (zsl (zMv h1) (i + 1)) := by rw [zM2]; exact V1
    have e0 := zEqS_cp V1' u2
    rw [zM2] at e0 u3 u4 u5
    have g9 : g1.1 2064394 (i + 1) = nI T := by
      have := u5 9 (i + 1) (by decide) (Or.inl rfl)
      rw [zMv1 (by decide), e9] at this
      exact this
    have K : ∀ q t, t + q = T → ∀ g : ai_H, g.2 = g1.2 → (∀ c, ¬ c = 2064406 → g.1 c = g1.1 c) → (∀ j, j < t → g.1 2064406 j = g1.1 2064406 (5 * (i + 1) + j)) → (∀ j, t ≤ j → g.1 2064406 j = g1.1 2064406 j) → ∃ h2, ai_E (d + 59) 194 26 [some (.inr (.inr (32, 0, 16128))), some (.inl (nI i)), some (.inl (nI t))] [] g = some ([.inl 1], h2) ∧ h2.2 = g1.2 ∧ (∀ c, ¬ c = 2064406 → h2.1 c = g1.1 c) ∧ (∀ j, j < T → h2.1 2064406 j = g1.1 2064406 (5 * (i + 1) + j)) ∧ ∀ j, T ≤ j → h2.1 2064406 j = g1.1 2064406 j := by
      intro q
      induction q with
      | zero =>
        intro t ht g k2 k1 ka kb
        have ht : t = T := by omega
        subst ht
        refine ⟨g, ?_, k2, k1, ka, kb⟩
        rw [T194_26, nI_1, z_ix (by omega) (by decide), k1 _ (by decide), g9, if_pos (by rw [z_le]; omega), z_b1]
      | succ q ih =>
        intro t ht g k2 k1 ka kb
        have e5 : (5 : Int32) * nI (i + 1) + nI t = nI (5 * (i + 1) + t) := by rw [show (5 : Int32) = nI 5 from rfl, pk_mul, nI_add]
        rw [T194_26, nI_1, z_ix (by omega) (by decide), k1 _ (by decide), g9, if_neg (by rw [nI_leI (by omega) (by omega)]; omega), e5, z_ix (by omega) (by decide), z_ix (by omega) (by decide), kb (5 * (i + 1) + t) (by omega), nI_1]
        refine ih (t + 1) (by omega) _ k2 (fun c hc => by rw [z_ne hc]; exact k1 c hc) (fun j hj => ?_) (fun j hj => ?_)
        · rw [z_st1]
          by_cases e : j = t
          · subst e; rw [if_pos ⟨rfl, rfl⟩]
          · rw [if_neg (fun w => e w.2)]; exact ka j (by omega)
        · rw [z_st1, if_neg (by omega)]; exact kb j (by omega)
    obtain ⟨h2, w1, w2, w3, w4, w5⟩ := K T 0 (Nat.zero_add _) g1 rfl (fun _ _ => rfl) (fun j hj => absurd hj (Nat.not_lt_zero _)) (fun _ _ => rfl)
    -- the view behind it
    have ev2 : (zMv h2).2 = (zMv g1).2 := by
      funext j
      unfold zMv
      dsimp only
      rw [w3 16128 (by decide)]
    have ev1 : ∀ f j, ¬ f = 21 → (zMv h2).1 f j = (zMv g1).1 f j := fun f j hf => by
      unfold zMv
      dsimp only
      rw [w3 (2064385 + f) (by omega)]
    have ev21 : ∀ j, (zMv h2).1 21 j = h2.1 2064406 j ∧ (zMv g1).1 21 j = g1.1 2064406 j ∧ (zMv g1).1 21 j = (zMv h).1 21 j := fun j => ⟨zMv1 (by decide), zMv1 (by decide), u5 21 j (by decide) (Or.inr (Or.inl rfl))⟩
    have E0 : zEqS (zsl (zMv h) (i + 1)) (zsl (zMv h2) 0) := fun f j hf h9 hj => by
      have h21 : ¬ f = 21 := fun q => by subst q; exact absurd hj (Nat.not_lt_zero _)
      have := e0 f j hf h9 hj
      rw [← this]
      unfold zsl
      exact ev1 f _ h21
    have q0 : zEq0 (zMv h) (zMv h2) := by
      refine ⟨ev2.trans u3, fun f j hf => (ev1 f j (by omega)).trans (u4 f j hf), fun f j hf hj => ?_⟩
      by_cases h21 : f = 21
      · subst h21
        have hj : 5 ≤ j := hj
        rw [(ev21 j).1, w5 j (by omega), ← (ev21 j).2.1]
        exact (ev21 j).2.2
      · rw [ev1 f j h21]
        exact u5 f j hf (Or.inr (Or.inr (Or.inr (by rw [Nat.mul_zero, Nat.zero_add]; exact hj))))
    have coin : ∀ t, t < T → (zMv h2).1 21 t = zsl (zMv h) (i + 1) 21 t := fun t ht => by
      rw [(ev21 t).1, w4 t ht, ← (ev21 _).2.1, (ev21 _).2.2]
      rfl
    have coin2 : ∀ t, T ≤ t → (zMv h2).1 21 t = (zMv h).1 21 t := fun t ht => by
      rw [(ev21 t).1, w5 t ht, ← (ev21 _).2.1, (ev21 _).2.2]
    have hr2 : zR h2 := by
      refine zR_now (h := h) (h1 := h1) (h2 := h2) (μ' := zMv h2) hr q0 fin ⟨zC_e E0 V1 a4, zD_e E0 a5, zJ_e E0 a6, fun t ht => ?_, fun k hk => ?_⟩ ⟨fun q hq => ?_, ?_⟩ (w2.trans u2.1) rfl (zV_e E0 V1) (fun t ht => ?_)
      · have z0 : zsl (zMv h2) 0 21 t = (zMv h2).1 21 t := by unfold zsl; rw [Nat.mul_zero, Nat.zero_add]
        rw [z0]
        by_cases ct : t < T
        · rw [a7 t ct, coin t ct]
          exact y4.2.2.2.1 t ct
        · rw [a8 t (by omega), coin2 t (by omega)]
          have := rS.2.2.2.1 t ht
          rw [this]
          unfold zsl
          rw [Nat.mul_zero, Nat.zero_add]
      · unfold zLk
        rw [a2]
        exact rS.2.2.2.2 k hk
      · have nq : ¬ (2064385 ≤ q ∧ q < 2064417) := fun w => hq (by
          rw [show q = 2064385 + (q - 2064385) by omega, zMr (by omega)])
        have nq2 : ¬ q = 2064406 := fun w => nq (by omega)
        rw [w3 q nq2]
        exact u2.2.1 q (by omega)
      · rw [w2, u2.1]
      · by_cases ct : t < T
        · rw [coin t ct]
          have := vc.2 i hi t (by rw [hT]; exact ct)
          unfold zsl
          exact this
        · rw [coin2 t (by omega)]
          exact (vc.1 t ht).1
    refine ⟨1, h1, h2, ?_, ?_, hr2, zK_of (by rw [w2, u2.1, a2])⟩
    · have i3 : ∀ f : Nat → Option ai_R, ai_ix (nI i) 3 f = f i := fun f => z_ix (by omega) (by decide)
      rw [T144, X146c (n := n) _ _ _ _ c10 (by omega)]
      simp only [z_bi, zb_0]
      rw [if_neg (fun q => q c), i3, y1, z_on, i3, y1, z_on, i3, y1, z_on, y3, e9]
      have a1' : ai_X (d + 59) 72 [.inr (.inr (28, 0, 16385)), .inr (.inr (28, 0, y)), .inl (nI T)] h = some ([], h1) := a1
      rw [a1']
      simp only [z_bv, z_b1]
    · have e1 : h1.1 16128 32 = nI n := by rw [zM1 16128 (by decide)]; exact m32
      rw [T194, M186]
      simp only [z_bi, zb_0, zl0]
      rw [e1, eN1, if_neg (fun q => q ⟨c.1, by omega⟩), nI_1]
      have u1' : ai_X (d + 59) 192 [.inr (.inr (32, 0, 16128)), .inl (nI (i + 1)), .inl 0] h1 = some ([], g1) := u1
      rw [u1']
      simp only [z_bv]
      exact w1
  · refine ⟨0, h, h, ?_, ?_, hr, zK_of rfl⟩
    · rw [T144, X146c (n := n) _ _ _ _ c10 (by omega)]
      simp only [z_bi, zb_0]
      rw [if_pos c, z_b0]
    · rw [T194, M186]
      simp only [z_bi, zb_0, zl0]
      rw [m32, eN1, if_pos (fun q => c ⟨q.1, by omega⟩), z_b0]
