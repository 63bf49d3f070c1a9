/-! gone -/
/-- the next day of dressing -/
def znx (σ : Nat → Nat → Int32) (t x : Int32) : Nat → Int32
  | 0 => -1
  | j + 1 => if zdj σ t j ∧ x < σ 31 j then (if znx σ t x j = -1 then σ 31 j else ai_min (znx σ t x j) (σ 31 j)) else znx σ t x j
theorem z_minI {x y : Int32} : (ai_min x y).toInt = min x.toInt y.toInt := by
  unfold ai_min
  by_cases c : y < x
  · rw [if_pos c]; rw [z_lt] at c; omega
  · rw [if_neg c]; rw [z_lt] at c; omega
theorem znx_p {σ : Nat → Nat → Int32} {t x : Int32} (V : zV σ) : ∀ n, n ≤ zn σ 5 → (znx σ t x n = -1 ∧ ∀ j, j < n → ¬ (zdj σ t j ∧ x < σ 31 j)) ∨ (∃ j, j < n ∧ zdj σ t j ∧ x < σ 31 j ∧ znx σ t x n = σ 31 j ∧ 0 ≤ (σ 31 j).toInt ∧ ∀ i, i < n → zdj σ t i → x < σ 31 i → (σ 31 j).toInt ≤ (σ 31 i).toInt) := by
  intro n
  induction n with
  | zero => intro _; exact Or.inl ⟨rfl, fun j hj => by omega⟩
  | succ n ih =>
    intro hn
    obtain ⟨d1, d2, d3⟩ := z_done V (j := n) (by omega)
    by_cases c : zdj σ t n ∧ x < σ 31 n
    · have e : znx σ t x (n + 1) = (if znx σ t x n = -1 then σ 31 n else ai_min (znx σ t x n) (σ 31 n)) := by rw [znx, if_pos c]
      have p0 : 0 ≤ (σ 31 n).toInt := by
        rcases Int.lt_or_le (σ 31 n).toInt 0 with g | g
        · exact absurd (d1.mp (by rw [z_lt]; exact g)) c.1.2.2
        · exact g
      rcases ih (by omega) with ⟨a1, a2⟩ | ⟨j, a1, a2, a3, a4, a5, a6⟩
      · refine Or.inr ⟨n, by omega, c.1, c.2, ?_, p0, fun i hi h1 h2 => ?_⟩
        · rw [e, if_pos a1]
        · rcases Nat.lt_or_ge i n with g | g
          · exact absurd ⟨h1, h2⟩ (a2 i g)
          · have : i = n := by omega
            rw [this]
            omega
      · have nn : ¬ znx σ t x n = -1 := by
          rw [a4, z_eq]
          simp only [zl0, zl1, zl2, zl3, zl4, zl5, zl6, zl7, zl8, zl9, zl10, zl12, zl15, zl16, zl20, zl22, zl23, zl24, zl27, zl30, zl31, zl32, zl40, zl46, zl48, zl50, zl57, zl59, zl60, zl61, zl62, zl63, zl80, zl96, zl97, zl99, zl100, zl122, zl255, zl360, zl500, zl999, zl9999, zl60000, zl99999, zl16777215, zl1073741824, zlm1, zlm2, zlm3]
          omega
        by_cases g : (σ 31 n).toInt ≤ (σ 31 j).toInt
        · refine Or.inr ⟨n, by omega, c.1, c.2, ?_, p0, fun i hi h1 h2 => ?_⟩
          · rw [e, if_neg nn, a4, z_eq, z_minI]
            omega
          · rcases Nat.lt_or_ge i n with g2 | g2
            · have := a6 i g2 h1 h2
              omega
            · have : i = n := by omega
              rw [this]
              omega
        · refine Or.inr ⟨j, by omega, a2, a3, ?_, a5, fun i hi h1 h2 => ?_⟩
          · rw [e, if_neg nn, a4, z_eq, z_minI]
            omega
          · rcases Nat.lt_or_ge i n with g2 | g2
            · exact a6 i g2 h1 h2
            · have : i = n := by omega
              rw [this]
              omega
    · have e : znx σ t x (n + 1) = znx σ t x n := by rw [znx, if_neg c]
      rw [e]
      rcases ih (by omega) with ⟨a1, a2⟩ | ⟨j, a1, a2, a3, a4, a5, a6⟩
      · refine Or.inl ⟨a1, fun i hi => ?_⟩
        rcases Nat.lt_or_ge i n with g | g
        · exact a2 i g
        · have : i = n := by omega
          rw [this]
          exact c
      · refine Or.inr ⟨j, by omega, a2, a3, a4, a5, fun i hi h1 h2 => ?_⟩
        rcases Nat.lt_or_ge i n with g | g
        · exact a6 i g h1 h2
        · have : i = n := by omega
          rw [this] at h1 h2
          exact absurd ⟨h1, h2⟩ c
theorem X28 {h : ai_H} (d : Nat) (t x : Int32) (hr : zR h) : ai_X (d + 2) 28 [.inr (.inr (23, 0, 2097283)), .inl t, .inl x] h = some ([.inl (znx (zsl (zMv h) 0) t x (zn (zsl (zMv h) 0) 5))], h) := by
  obtain ⟨b0, b1, b2, b8, b5, b4, b3, V⟩ := zR_b hr
  have hJ := zJ_lit.mp (show zJ h 2097283 (zsl (zMv h) 0) from hr.1.1.2.2.1)
  have K : ∀ k i, i + k = zn (zsl (zMv h) 0) 5 → ai_E (d + 1) 28 5 [some (.inr (.inr (23, 0, 2097283))), some (.inl t), some (.inl x), some (.inl (znx (zsl (zMv h) 0) t x i)), some (.inl (nI i))] [] h = some ([.inl (znx (zsl (zMv h) 0) t x (zn (zsl (zMv h) 0) 5))], h) := by
    intro k
    induction k with
    | zero =>
      intro i hi
      have hi : i = zn (zsl (zMv h) 0) 5 := by omega
      subst hi
      rw [T28_5, b5.1, if_pos (by rw [z_le]; omega)]
    | succ k ih =>
      intro i hi
      have ih := ih (i + 1) (by omega)
      obtain ⟨j1, j2, j3, j4, j5, j6⟩ := hJ.2 i (by omega)
      have ix : ∀ f : Nat → Option ai_R, ai_ix (nI i) 40 f = f i := fun f => z_ix (by omega) (by decide)
      rw [znx] at ih
      rw [T28_5, b5.1, if_neg (by rw [nI_leI (by omega) (by omega)]; omega), X26 _ _ hr (by omega)]
      simp only [z_bi, zb_0, nI_1, ix, j5]
      by_cases c : zdj (zsl (zMv h) 0) t i
      · rw [if_neg (fun q => q c)]
        by_cases c2 : zsl (zMv h) 0 31 i ≤ x
        · rw [if_pos c2]
          rw [if_neg (fun q => by have := q.2; rw [z_lt] at this; rw [z_le] at c2; omega)] at ih
          exact ih
        · rw [if_neg c2]
          rw [if_pos ⟨c, by rw [z_le] at c2; rw [z_lt]; omega⟩] at ih
          by_cases c3 : znx (zsl (zMv h) 0) t x i = -1
          · rw [if_pos c3]
            rw [if_pos c3] at ih
            exact ih
          · rw [if_neg c3]
            rw [if_neg c3] at ih
            exact ih
      · rw [if_pos c]
        rw [if_neg (fun q => c q.1)] at ih
        exact ih
  rw [T28]
  exact K (zn (zsl (zMv h) 0) 5) 0 (by omega)
theorem zsince_r {σ : Nat → Nat → Int32} {t : Nat} {x : Int32} (V : zV σ) (ht : t < zn σ 1) (hx : 0 ≤ x.toInt) : -60000 ≤ (zsince σ t x (zn σ 5)).toInt ∧ (zsince σ t x (zn σ 5)).toInt ≤ x.toInt := by
  obtain ⟨-, -, v3, -⟩ := V.2.2.1 t ht
  unfold zi at v3
  unfold zsince
  by_cases c : zld σ (nI t) x (zn σ 5) = -1
  · rw [if_pos c, z_neg (by omega)]
    omega
  · rw [if_neg c]
    rcases zld_p V (t := nI t) (x := x) (zn σ 5) (Nat.le_refl _) with ⟨a1, a2⟩ | ⟨j, a1, a2, a3, a4, a5, a6⟩
    · exact absurd a1 c
    · rw [a4]
      rw [z_le] at a3
      omega
theorem zwn_100 {σ : Nat → Nat → Int32} {t : Nat} {x : Int32} (V : zV σ) (ht : t < zn σ 1) (hx : 0 ≤ x.toInt ∧ x.toInt ≤ 999) : zwn σ t x = 100 ↔ (360 * σ 15 t).toInt ≤ x.toInt - (zsince σ t x (zn σ 5)).toInt := by
  obtain ⟨p1, p2, p3, p4⟩ := z_per V ht
  obtain ⟨s1, s2⟩ := zsince_r V ht hx.1
  unfold zwn
  generalize zsince σ t x (zn σ 5) = S at *
  generalize 360 * σ 15 t = P at *
  have e1 : (x - S).toInt = x.toInt - S.toInt := by rw [z_sub] <;> omega
  have e2 : ((x - S) * 100).toInt = (x.toInt - S.toInt) * 100 := by rw [z_mul] <;> rw [e1] <;> simp only [zl0, zl1, zl2, zl3, zl4, zl5, zl6, zl7, zl8, zl9, zl10, zl12, zl15, zl16, zl20, zl22, zl23, zl24, zl27, zl30, zl31, zl32, zl40, zl46, zl48, zl50, zl57, zl59, zl60, zl61, zl62, zl63, zl80, zl96, zl97, zl99, zl100, zl122, zl255, zl360, zl500, zl999, zl9999, zl60000, zl99999, zl16777215, zl1073741824, zlm1, zlm2, zlm3] <;> omega
  have e3 : ((x - S) * 100 / P).toInt = ((x.toInt - S.toInt) * 100) / P.toInt := by
    rw [Int32.toInt_div_of_ne_left, e2, Int.tdiv_eq_ediv_of_nonneg (by omega)]
    intro q
    rw [z_eq, e2] at q
    have : (Int32.minValue).toInt = -2147483648 := rfl
    omega
  have e4 : ((x - S) * 100) / P ≤ 100 ↔ ((x.toInt - S.toInt) * 100) / P.toInt ≤ 100 := by rw [z_le, e3]; exact Iff.rfl
  have e5 : 100 ≤ ((x.toInt - S.toInt) * 100) / P.toInt ↔ 100 * P.toInt ≤ (x.toInt - S.toInt) * 100 := Int.le_ediv_iff_mul_le (by omega)
  by_cases c : ((x - S) * 100) / P ≤ 100
  · rw [if_pos c, z_eq, e3]
    rw [e4] at c
    simp only [zl0, zl1, zl2, zl3, zl4, zl5, zl6, zl7, zl8, zl9, zl10, zl12, zl15, zl16, zl20, zl22, zl23, zl24, zl27, zl30, zl31, zl32, zl40, zl46, zl48, zl50, zl57, zl59, zl60, zl61, zl62, zl63, zl80, zl96, zl97, zl99, zl100, zl122, zl255, zl360, zl500, zl999, zl9999, zl60000, zl99999, zl16777215, zl1073741824, zlm1, zlm2, zlm3]
    omega
  · rw [if_neg c]
    rw [e4] at c
    refine ⟨fun _ => ?_, fun _ => rfl⟩
    omega
theorem zcnt_lt {p q : Nat → Prop} [DecidablePred p] [DecidablePred q] : ∀ {n : Nat}, (∀ i, i < n → p i → q i) → zcnt p n ≤ zcnt q n ∧ ((∃ j, j < n ∧ q j ∧ ¬ p j) → zcnt p n + 1 ≤ zcnt q n) := by
  intro n
  induction n with
  | zero => intro _; exact ⟨Nat.le_refl _, fun ⟨j, hj, _⟩ => by omega⟩
  | succ n ih =>
    intro h
    obtain ⟨i1, i2⟩ := ih fun i hi => h i (by omega)
    have e1 : zcnt p (n + 1) = zcnt p n + if p n then 1 else 0 := rfl
    have e2 : zcnt q (n + 1) = zcnt q n + if q n then 1 else 0 := rfl
    rw [e1, e2]
    by_cases c : p n
    · rw [if_pos c, if_pos (h n (by omega) c)]
      refine ⟨by omega, fun ⟨j, hj, q1, q2⟩ => ?_⟩
      have : j < n := by
        rcases Nat.lt_or_ge j n with g | g
        · exact g
        · have : j = n := by omega
          rw [this] at q2
          exact absurd c q2
      have := i2 ⟨j, this, q1, q2⟩
      omega
    · rw [if_neg c]
      by_cases c2 : q n
      · rw [if_pos c2]
        refine ⟨by omega, fun _ => by omega⟩
      · rw [if_neg c2]
        refine ⟨by omega, fun ⟨j, hj, q1, q2⟩ => ?_⟩
        have : j < n := by
          rcases Nat.lt_or_ge j n with g | g
          · exact g
          · have : j = n := by omega
            rw [this] at q1
            exact absurd q1 c2
        have := i2 ⟨j, this, q1, q2⟩
        omega
/-- until the next dressing it wears since the same day -/
theorem zsince_is {σ : Nat → Nat → Int32} {t : Nat} {L x : Int32} (V : zV σ) (ht : t < zn σ 1) (hL : L = -(σ 13 t) ∨ ∃ j, j < zn σ 5 ∧ zdj σ (nI t) j ∧ σ 31 j = L) (hx : L.toInt ≤ x.toInt) (hn : ∀ j, j < zn σ 5 → zdj σ (nI t) j → L.toInt < (σ 31 j).toInt → ¬ (σ 31 j).toInt ≤ x.toInt) : zsince σ t x (zn σ 5) = L := by
  obtain ⟨-, -, v3, -⟩ := V.2.2.1 t ht
  unfold zi at v3
  unfold zsince
  rcases zld_p V (t := nI t) (x := x) (zn σ 5) (Nat.le_refl _) with ⟨a1, a2⟩ | ⟨j, a1, a2, a3, a4, a5, a6⟩
  · rw [if_pos a1]
    rcases hL with e | ⟨j, j1, j2, j3⟩
    · exact e.symm
    · exact absurd ⟨j2, by rw [z_le, j3]; exact hx⟩ (a2 j j1)
  · have nn : ¬ zld σ (nI t) x (zn σ 5) = -1 := by
      rw [a4, z_eq]
      simp only [zl0, zl1, zl2, zl3, zl4, zl5, zl6, zl7, zl8, zl9, zl10, zl12, zl15, zl16, zl20, zl22, zl23, zl24, zl27, zl30, zl31, zl32, zl40, zl46, zl48, zl50, zl57, zl59, zl60, zl61, zl62, zl63, zl80, zl96, zl97, zl99, zl100, zl122, zl255, zl360, zl500, zl999, zl9999, zl60000, zl99999, zl16777215, zl1073741824, zlm1, zlm2, zlm3]
      omega
    rw [if_neg nn, a4]
    have h1 := hn j a1 a2
    rw [z_le] at a3
    rw [z_eq]
    rcases hL with e | ⟨i, i1, i2, i3⟩
    · have : L.toInt = -(σ 13 t).toInt := by rw [e, z_neg (by omega)]
      omega
    · have h2 := a6 i i1 i2 (by rw [z_le, i3]; exact hx)
      rw [i3] at h2
      omega
theorem P_gone (t : Int32) : zPr 138 303 [.inl t] := zPr_q fun d h hr => by
  obtain ⟨b0, b1, b2, b8, b5, b4, b3, V⟩ := zR_b hr
  have hC : zC h 2097281 (zsl (zMv h) 0) := hr.1.1.1
  by_cases c : 0 ≤ t.toInt ∧ t.toInt < (zn (zsl (zMv h) 0) 1 : Int)
  · obtain ⟨t, ht, rfl⟩ := z_rng c
    obtain ⟨p1, p2, p3, p4⟩ := z_per V ht
    have e13 : h.1 268451979 t = zsl (zMv h) 0 13 t := (hC.2.2.2.2.2.2.2.1 t ht).2.2.1
    have KM := z_find (fun i => ai_E (d + 59) 303 12 [some (.inr (.inr (32, 0, 16128))), some (.inl (nI t)), some (.inl (nI i))] [] h) (fun i => some ([.inl (nI i)], h)) (fun i => zwn (zsl (zMv h) 0) t (nI i) = 100) 1000 (fun i hi => by
      have l9 : (999 : Int32) = nI 999 := rfl
      rw [T303_12, l9, if_neg (by rw [nI_ltI (by omega) (by omega)]; omega), M302 _ _ hr ht (by rw [z_T (by omega)]; omega)]
      simp only [z_bi, nI_1])
    have KX : ∀ k x4 (L : Int32), x4 + k = 41 → (-60000 ≤ L.toInt ∧ L.toInt ≤ 999) → (L = -(zsl (zMv h) 0 13 t) ∨ ∃ j, j < zn (zsl (zMv h) 0) 5 ∧ zdj (zsl (zMv h) 0) (nI t) j ∧ zsl (zMv h) 0 31 j = L) → (∀ x : Nat, x < 1000 → (x : Int) < L.toInt → ¬ zwn (zsl (zMv h) 0) t (nI x) = 100) →
        x4 ≤ zcnt (fun j => zdj (zsl (zMv h) 0) (nI t) j ∧ zsl (zMv h) 0 31 j ≤ L) (zn (zsl (zMv h) 0) 5) → ∀ z5, ai_E (d + 59) 138 33 [some (.inr (.inr (31, 0, 128))), some (.inl (nI t)), some (.inl (360 * zsl (zMv h) 0 15 t)), some (.inl L), some (.inl (nI x4)), z5] [] h = match zfst (fun i => zwn (zsl (zMv h) 0) t (nI i) = 100) 1000 with
          | some j => some ([.inl (nI j)], h)
          | none => some ([.inl (-1)], h) := by
      intro k
      induction k with
      | zero =>
        intro x4 L hk hL1 hL2 hL3 hL4 z5
        have := zcnt_le (p := fun j => zdj (zsl (zMv h) 0) (nI t) j ∧ zsl (zMv h) 0 31 j ≤ L) (zn (zsl (zMv h) 0) 5)
        omega
      | succ k ih =>
        intro x4 L hk hL1 hL2 hL3 hL4 z5
        have l40 : (40 : Int32) = nI 40 := rfl
        rw [T138_33, l40, if_neg (by rw [nI_ltI (by omega) (by omega)]; omega), X28 _ _ _ hr]
        simp only [z_bi, nI_1]
        have s1 : (L + 360 * zsl (zMv h) 0 15 t).toInt = L.toInt + (360 * zsl (zMv h) 0 15 t).toInt := by rw [z_add] <;> omega
        have s2 : (ai_max 0 (L + 360 * zsl (zMv h) 0 15 t)).toInt = max 0 (L.toInt + (360 * zsl (zMv h) 0 15 t).toInt) := by
          rw [z_maxI, s1]
          rfl
        have s3 : 999 < ai_max 0 (L + 360 * zsl (zMv h) 0 15 t) ↔ 999 < (ai_max 0 (L + 360 * zsl (zMv h) 0 15 t)).toInt := by rw [z_lt]; exact Iff.rfl
        generalize hW : ai_max 0 (L + 360 * zsl (zMv h) 0 15 t) = W at *
        generalize hP : 360 * zsl (zMv h) 0 15 t = P at *
        -- before the next dressing
        have hb : (∀ j, j < zn (zsl (zMv h) 0) 5 → zdj (zsl (zMv h) 0) (nI t) j → L.toInt < (zsl (zMv h) 0 31 j).toInt → W.toInt < (zsl (zMv h) 0 31 j).toInt) → (match zfst (fun i => zwn (zsl (zMv h) 0) t (nI i) = 100) 1000 with
          | some j => some ([Sum.inl (nI j)], h)
          | none => some ([Sum.inl (-1)], h) : Option ai_R) = if 999 < W then some ([.inl (-1)], h) else some ([.inl W], h) := by
          intro hn
          have lo : ∀ x : Nat, x < 1000 → (x : Int) < W.toInt → ¬ zwn (zsl (zMv h) 0) t (nI x) = 100 := by
            intro x hx hxW
            rcases Int.lt_or_le (x : Int) L.toInt with g | g
            · exact hL3 x hx g
            · rw [zwn_100 V ht (by rw [z_T (by omega)]; omega), hP, zsince_is V ht hL2 (by rw [z_T (by omega)]; omega) (fun j h1 h2 h3 => by have := hn j h1 h2 h3; rw [z_T (by omega)]; omega), z_T (by omega)]
              omega
          by_cases g : 999 < W
          · rw [if_pos g, zfst_no]
            intro m hm
            rw [s3] at g
            exact lo m hm (by omega)
          · rw [if_neg g]
            rw [s3] at g
            have eW : W = nI W.toInt.toNat := z_nat (by omega)
            rw [zfst_is (p := fun i => zwn (zsl (zMv h) 0) t (nI i) = 100) (j := W.toInt.toNat) (by omega)]
            · dsimp only
              rw [← eW]
            · rw [← eW, zwn_100 V ht (by omega), hP, zsince_is V ht hL2 (by omega) (fun j h1 h2 h3 => by have := hn j h1 h2 h3; omega)]
              omega
            · intro m hm
              exact lo m (by omega) (by omega)
        rcases znx_p V (t := nI t) (x := L) (zn (zsl (zMv h) 0) 5) (Nat.le_refl _) with ⟨a1, a2⟩ | ⟨j, a1, a2, a3, a4, a5, a6⟩
        · rw [if_pos a1, hb]
          intro j j1 j2 j3
          exact absurd ⟨j2, by rw [z_lt]; exact j3⟩ (a2 j j1)
        · have nn : ¬ znx (zsl (zMv h) 0) (nI t) L (zn (zsl (zMv h) 0) 5) = -1 := by
            rw [a4, z_eq]
            simp only [zl0, zl1, zl2, zl3, zl4, zl5, zl6, zl7, zl8, zl9, zl10, zl12, zl15, zl16, zl20, zl22, zl23, zl24, zl27, zl30, zl31, zl32, zl40, zl46, zl48, zl50, zl57, zl59, zl60, zl61, zl62, zl63, zl80, zl96, zl97, zl99, zl100, zl122, zl255, zl360, zl500, zl999, zl9999, zl60000, zl99999, zl16777215, zl1073741824, zlm1, zlm2, zlm3]
            omega
          rw [if_neg nn, a4]
          by_cases g : zsl (zMv h) 0 31 j ≤ W
          · rw [if_pos g]
            obtain ⟨d1, d2, d3⟩ := z_done V (j := j) a1
            rw [z_lt] at a3
            rw [z_le] at g
            refine ih (x4 + 1) (zsl (zMv h) 0 31 j) (by omega) (by omega) (Or.inr ⟨j, a1, a2, rfl⟩) (fun x hx hxn => ?_) ?_ _
            · rcases Int.lt_or_le (x : Int) L.toInt with g2 | g2
              · exact hL3 x hx g2
              · rw [zwn_100 V ht (by rw [z_T (by omega)]; omega), hP, zsince_is V ht hL2 (by rw [z_T (by omega)]; omega) (fun i h1 h2 h3 => by have := a6 i h1 h2 (by rw [z_lt]; exact h3); rw [z_T (by omega)]; omega), z_T (by omega)]
                omega
            · have := (zcnt_lt (p := fun j => zdj (zsl (zMv h) 0) (nI t) j ∧ zsl (zMv h) 0 31 j ≤ L) (q := fun i => zdj (zsl (zMv h) 0) (nI t) i ∧ zsl (zMv h) 0 31 i ≤ zsl (zMv h) 0 31 j) (n := zn (zsl (zMv h) 0) 5) (fun i _ q => ⟨q.1, by have := q.2; rw [z_le] at this ⊢; omega⟩)).2 ⟨j, a1, ⟨a2, by rw [z_le]; omega⟩, fun q => by have := q.2; rw [z_le] at this; omega⟩
              omega
          · rw [if_neg g, hb]
            intro i i1 i2 i3
            have := a6 i i1 i2 (by rw [z_lt]; exact i3)
            rw [z_le] at g
            omega
    obtain ⟨-, -, v3, -⟩ := V.2.2.1 t ht
    unfold zi at v3
    have n13 : (-(zsl (zMv h) 0 13 t)).toInt = -(zsl (zMv h) 0 13 t).toInt := z_neg (by omega)
    refine ⟨match zfst (fun i => zwn (zsl (zMv h) 0) t (nI i) = 100) 1000 with
      | some j => nI j
      | none => -1, h, h, ?_, zF_rf, ?_, zF_rf⟩
    · rw [T138, X153 _ _ b1.1 b1.2.2]
      simp only [z_bi, zb_0]
      rw [if_neg (fun q => q c), X181 _ hr ht]
      simp only [z_bi]
      rw [z_ix (by omega) (by decide), e13]
      refine (KX 41 0 (-(zsl (zMv h) 0 13 t)) (by omega) (by omega) (Or.inl rfl) (fun x hx q => by omega) (Nat.zero_le _) _).trans ?_
      cases zfst (fun i => zwn (zsl (zMv h) 0) t (nI i) = 100) 1000 with
      | some j => rfl
      | none => rfl
    · rw [T303, M195 _ _ b1.2.1 (by omega)]
      simp only [z_bi, zb_0]
      rw [if_neg (fun q => q c)]
      refine Eq.trans KM ?_
      cases zfst (fun i => zwn (zsl (zMv h) 0) t (nI i) = 100) 1000 with
      | some j => rfl
      | none =>
        dsimp only
        have l9 : (999 : Int32) = nI 999 := rfl
        rw [T303_12, l9, if_pos (by rw [nI_ltI (by omega) (by omega)]; omega)]
  · refine ⟨-1, h, h, ?_, zF_rf, ?_, zF_rf⟩
    · rw [T138, X153 _ _ b1.1 b1.2.2]
      simp only [z_bi, zb_0]
      rw [if_pos c]
    · rw [T303, M195 _ _ b1.2.1 (by omega)]
      simp only [z_bi, zb_0]
      rw [if_pos c]
