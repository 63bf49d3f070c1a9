/-! wears, gone -/
abbrev zdj (σ : Nat → Nat → Int32) (t : Int32) (j : Nat) : Prop := σ 27 j = t ∧ σ 28 j = 2 ∧ ¬ σ 31 j = -1
/-- the last day of dressing, so far -/
def zld (σ : Nat → Nat → Int32) (t x : Int32) : Nat → Int32
  | 0 => -1
  | j + 1 => if zdj σ t j ∧ σ 31 j ≤ x then ai_max (zld σ t x j) (σ 31 j) else zld σ t x j
theorem z_done {σ : Nat → Nat → Int32} {j : Nat} (V : zV σ) (hj : j < zn σ 5) : (σ 31 j < 0 ↔ σ 31 j = -1) ∧ -1 ≤ (σ 31 j).toInt ∧ (σ 31 j).toInt ≤ 999 := by
  have q := (V.2.2.2.2.2 j hj).2.2.2.2.1
  unfold zi at q
  refine ⟨?_, q.1, q.2⟩
  rw [z_lt, z_eq]
  simp only [zl0, zl1, zl2, zl3, zl4, zl5, zl6, zl7, zl8, zl9, zl10, zl12, zl15, zl16, zl20, zl22, zl23, zl24, zl27, zl30, zl31, zl32, zl40, zl46, zl48, zl50, zl57, zl59, zl60, zl61, zl62, zl63, zl80, zl96, zl97, zl99, zl100, zl122, zl255, zl360, zl500, zl999, zl9999, zl60000, zl99999, zl16777215, zl1073741824, zlm1, zlm2, zlm3]
  omega
theorem z_maxI {x y : Int32} : (ai_max x y).toInt = max x.toInt y.toInt := by
  unfold ai_max
  by_cases c : x < y
  · rw [if_pos c]; rw [z_lt] at c; omega
  · rw [if_neg c]; rw [z_lt] at c; omega
theorem zld_p {σ : Nat → Nat → Int32} {t x : Int32} (V : zV σ) : ∀ n, n ≤ zn σ 5 → (zld σ t x n = -1 ∧ ∀ j, j < n → ¬ (zdj σ t j ∧ σ 31 j ≤ x)) ∨ (∃ j, j < n ∧ zdj σ t j ∧ σ 31 j ≤ x ∧ zld σ t x n = σ 31 j ∧ 0 ≤ (σ 31 j).toInt ∧ ∀ i, i < n → zdj σ t i → σ 31 i ≤ x → (σ 31 i).toInt ≤ (σ 31 j).toInt) := by
  intro n
  induction n with
  | zero => intro _; exact Or.inl ⟨rfl, fun j hj => by omega⟩
  | succ n ih =>
    intro hn
    obtain ⟨d1, d2, d3⟩ := z_done V (j := n) (by omega)
    by_cases c : zdj σ t n ∧ σ 31 n ≤ x
    · have e : zld σ t x (n + 1) = ai_max (zld σ t x n) (σ 31 n) := by rw [zld, if_pos c]
      have p0 : 0 ≤ (σ 31 n).toInt := by
        rcases Int.lt_or_le (σ 31 n).toInt 0 with g | g
        · exact absurd (d1.mp (by rw [z_lt]; exact g)) c.1.2.2
        · exact g
      rcases ih (by omega) with ⟨a1, a2⟩ | ⟨j, a1, a2, a3, a4, a5, a6⟩
      · refine Or.inr ⟨n, by omega, c.1, c.2, ?_, p0, fun i hi h1 h2 => ?_⟩
        · rw [e, a1, z_eq, z_maxI]
          simp only [zl0, zl1, zl2, zl3, zl4, zl5, zl6, zl7, zl8, zl9, zl10, zl12, zl15, zl16, zl20, zl22, zl23, zl24, zl27, zl30, zl31, zl32, zl40, zl46, zl48, zl50, zl57, zl59, zl60, zl61, zl62, zl63, zl80, zl96, zl97, zl99, zl100, zl122, zl255, zl360, zl500, zl999, zl9999, zl60000, zl99999, zl16777215, zl1073741824, zlm1, zlm2, zlm3]
          omega
        · rcases Nat.lt_or_ge i n with g | g
          · exact absurd ⟨h1, h2⟩ (a2 i g)
          · have : i = n := by omega
            rw [this]
            omega
      · by_cases g : (σ 31 j).toInt ≤ (σ 31 n).toInt
        · refine Or.inr ⟨n, by omega, c.1, c.2, ?_, p0, fun i hi h1 h2 => ?_⟩
          · rw [e, a4, z_eq, z_maxI]
            omega
          · rcases Nat.lt_or_ge i n with g2 | g2
            · have := a6 i g2 h1 h2
              omega
            · have : i = n := by omega
              rw [this]
              omega
        · refine Or.inr ⟨j, by omega, a2, a3, ?_, a5, fun i hi h1 h2 => ?_⟩
          · rw [e, a4, z_eq, z_maxI]
            omega
          · rcases Nat.lt_or_ge i n with g2 | g2
            · exact a6 i g2 h1 h2
            · have : i = n := by omega
              rw [this]
              omega
    · have e : zld σ t x (n + 1) = zld σ t x n := by rw [zld, if_neg c]
      rw [e]
      rcases ih (by omega) with ⟨a1, a2⟩ | ⟨j, a1, a2, a3, a4, a5, a6⟩
      · refine Or.inl ⟨a1, fun i hi => ?_⟩
        rcases Nat.lt_or_ge i n with g | g
        · exact a2 i g
        · have : i = n := by omega
          rw [this]
          exact c
      · refine Or.inr ⟨j, by omega, a2, a3, a4, a5, fun i hi h1 h2 => ?_⟩
        rcases Nat.lt_or_ge i n with g | g
        · exact a6 i g h1 h2
        · have : i = n := by omega
          rw [this] at h1 h2
          exact absurd ⟨h1, h2⟩ c
theorem X26 {h : ai_H} {j : Nat} (d : Nat) (t : Int32) (hr : zR h) (hj : j < zn (zsl (zMv h) 0) 5) : ai_X (d + 1) 26 [.inr (.inr (23, 0, 2097283)), .inl (nI j), .inl t] h = some ([.inl (zb (zdj (zsl (zMv h) 0) t j))], h) := by
  obtain ⟨b0, b1, b2, b8, b5, b4, b3, V⟩ := zR_b hr
  have hJ := zJ_lit.mp (show zJ h 2097283 (zsl (zMv h) 0) from hr.1.1.2.2.1)
  obtain ⟨j1, j2, j3, j4, j5, j6⟩ := hJ.2 j hj
  have ix : ∀ f : Nat → Option ai_R, ai_ix (nI j) 40 f = f j := fun f => z_ix (by omega) (by decide)
  rw [T26]
  simp only [ix, j1, j2, j5, z_b0, z_b1]
  by_cases c1 : zsl (zMv h) 0 27 j = t
  · rw [if_pos c1]
    by_cases c2 : zsl (zMv h) 0 28 j = 2
    · rw [if_pos c2]
      by_cases c3 : zsl (zMv h) 0 31 j = -1
      · rw [if_pos c3, zb_f (fun q => q.2.2 c3)]
      · rw [if_neg c3, zb_t ⟨c1, c2, c3⟩]
    · rw [if_neg c2, zb_f (fun q => c2 q.2.1)]
  · rw [if_neg c1, zb_f (fun q => c1 q.1)]
theorem X27 {h : ai_H} (d : Nat) (t x : Int32) (hr : zR h) : ai_X (d + 2) 27 [.inr (.inr (23, 0, 2097283)), .inl t, .inl x] h = some ([.inl (zld (zsl (zMv h) 0) t x (zn (zsl (zMv h) 0) 5))], h) := by
  obtain ⟨b0, b1, b2, b8, b5, b4, b3, V⟩ := zR_b hr
  have hJ := zJ_lit.mp (show zJ h 2097283 (zsl (zMv h) 0) from hr.1.1.2.2.1)
  have K : ∀ k i, i + k = zn (zsl (zMv h) 0) 5 → ai_E (d + 1) 27 5 [some (.inr (.inr (23, 0, 2097283))), some (.inl t), some (.inl x), some (.inl (zld (zsl (zMv h) 0) t x i)), some (.inl (nI i))] [] h = some ([.inl (zld (zsl (zMv h) 0) t x (zn (zsl (zMv h) 0) 5))], h) := by
    intro k
    induction k with
    | zero =>
      intro i hi
      have hi : i = zn (zsl (zMv h) 0) 5 := by omega
      subst hi
      rw [T27_5, b5.1, if_pos (by rw [z_le]; omega)]
    | succ k ih =>
      intro i hi
      have ih := ih (i + 1) (by omega)
      obtain ⟨j1, j2, j3, j4, j5, j6⟩ := hJ.2 i (by omega)
      have ix : ∀ f : Nat → Option ai_R, ai_ix (nI i) 40 f = f i := fun f => z_ix (by omega) (by decide)
      rw [zld] at ih
      rw [T27_5, b5.1, if_neg (by rw [nI_leI (by omega) (by omega)]; omega), X26 _ _ hr (by omega)]
      simp only [z_bi, zb_0, nI_1, ix, j5]
      by_cases c : zdj (zsl (zMv h) 0) t i
      · rw [if_neg (fun q => q c)]
        by_cases c2 : x < zsl (zMv h) 0 31 i
        · rw [if_pos c2]
          rw [if_neg (fun q => by have := q.2; rw [z_le] at this; rw [z_lt] at c2; omega)] at ih
          exact ih
        · rw [if_neg c2]
          rw [if_pos ⟨c, by rw [z_lt] at c2; rw [z_le]; omega⟩] at ih
          exact ih
      · rw [if_pos c]
        rw [if_neg (fun q => c q.1)] at ih
        exact ih
  rw [T27]
  exact K (zn (zsl (zMv h) 0) 5) 0 (by omega)
/-- since when it wears -/
def zsince (σ : Nat → Nat → Int32) (t : Nat) (x : Int32) (n : Nat) : Int32 := if zld σ (nI t) x n = -1 then -(σ 13 t) else zld σ (nI t) x n
theorem M301 {h : ai_H} {t : Nat} (d : Nat) (x : Int32) (hr : zR h) (ht : t < 96) : ai_X (d + 1) 301 [.inr (.inr (32, 0, 16128)), .inl (nI t), .inl x] h = some ([.inl (zsince (zsl (zMv h) 0) t x (zn (zsl (zMv h) 0) 5))], h) := by
  obtain ⟨b0, b1, b2, b8, b5, b4, b3, V⟩ := zR_b hr
  have i0 : ∀ f : Nat → Option ai_R, ai_ix 0 4 f = f 0 := fun f => z_i0 (by decide) (by decide)
  have K : ∀ k i, i + k = zn (zsl (zMv h) 0) 5 → ai_E d 301 14 [some (.inr (.inr (32, 0, 16128))), some (.inl (nI t)), some (.inl x), some (.inl (zsince (zsl (zMv h) 0) t x i)), some (.inl (if zld (zsl (zMv h) 0) (nI t) x i = -1 then 0 else 1)), some (.inl (nI i))] [] h = some ([.inl (zsince (zsl (zMv h) 0) t x (zn (zsl (zMv h) 0) 5))], h) := by
    intro k
    induction k with
    | zero =>
      intro i hi
      have hi : i = zn (zsl (zMv h) 0) 5 := by omega
      subst hi
      rw [T301_14, i0, b5.2.1, if_pos (by rw [z_le]; omega)]
    | succ k ih =>
      intro i hi
      have ih := ih (i + 1) (by omega)
      have e27 : h.1 2064412 i = zsl (zMv h) 0 27 i := (zs0 (f := 27) (by omega)).symm
      have e28 : h.1 2064413 i = zsl (zMv h) 0 28 i := (zs0 (f := 28) (by omega)).symm
      have e31 : h.1 2064416 i = zsl (zMv h) 0 31 i := (zs0 (f := 31) (by omega)).symm
      obtain ⟨d1, d2, d3⟩ := z_done V (j := i) (by omega)
      have ix : ∀ f : Nat → Option ai_R, ai_ix (nI i) 160 f = f i := fun f => z_ix (by omega) (by decide)
      unfold zsince at ih ⊢
      rw [zld] at ih
      rw [T301_14, i0, b5.2.1, if_neg (by rw [nI_leI (by omega) (by omega)]; omega)]
      simp only [ix, e27, e28, e31, nI_1]
      have no : ¬ (zdj (zsl (zMv h) 0) (nI t) i ∧ zsl (zMv h) 0 31 i ≤ x) → ai_E d 301 14 [some (.inr (.inr (32, 0, 16128))), some (.inl (nI t)), some (.inl x), some (.inl (if zld (zsl (zMv h) 0) (nI t) x i = -1 then -(zsl (zMv h) 0 13 t) else zld (zsl (zMv h) 0) (nI t) x i)), some (.inl (if zld (zsl (zMv h) 0) (nI t) x i = -1 then 0 else 1)), some (.inl (nI (i + 1)))] [] h = some ([.inl (if zld (zsl (zMv h) 0) (nI t) x (zn (zsl (zMv h) 0) 5) = -1 then -(zsl (zMv h) 0 13 t) else zld (zsl (zMv h) 0) (nI t) x (zn (zsl (zMv h) 0) 5))], h) := by
        intro c
        rw [if_neg c] at ih
        exact ih
      by_cases c1 : zsl (zMv h) 0 27 i = nI t
      · rw [if_pos c1]
        by_cases c2 : zsl (zMv h) 0 28 i = 2
        · rw [if_pos c2]
          by_cases c3 : zsl (zMv h) 0 31 i < 0
          · rw [if_pos c3]
            exact no fun q => q.1.2.2 (d1.mp c3)
          · rw [if_neg c3]
            by_cases c4 : x < zsl (zMv h) 0 31 i
            · rw [if_pos c4]
              exact no fun q => by have := q.2; rw [z_le] at this; rw [z_lt] at c4; omega
            · rw [if_neg c4]
              have c5 : zdj (zsl (zMv h) 0) (nI t) i ∧ zsl (zMv h) 0 31 i ≤ x := ⟨⟨c1, c2, fun q => c3 (d1.mpr q)⟩, by rw [z_lt] at c4; rw [z_le]; omega⟩
              rw [if_pos c5] at ih
              have p0 : 0 ≤ (zsl (zMv h) 0 31 i).toInt := by rw [z_lt] at c3; simp only [zl0, zl1, zl2, zl3, zl4, zl5, zl6, zl7, zl8, zl9, zl10, zl12, zl15, zl16, zl20, zl22, zl23, zl24, zl27, zl30, zl31, zl32, zl40, zl46, zl48, zl50, zl57, zl59, zl60, zl61, zl62, zl63, zl80, zl96, zl97, zl99, zl100, zl122, zl255, zl360, zl500, zl999, zl9999, zl60000, zl99999, zl16777215, zl1073741824, zlm1, zlm2, zlm3] at c3; omega
              have p1 : ¬ ai_max (zld (zsl (zMv h) 0) (nI t) x i) (zsl (zMv h) 0 31 i) = -1 := by
                rw [z_eq, z_maxI]
                simp only [zl0, zl1, zl2, zl3, zl4, zl5, zl6, zl7, zl8, zl9, zl10, zl12, zl15, zl16, zl20, zl22, zl23, zl24, zl27, zl30, zl31, zl32, zl40, zl46, zl48, zl50, zl57, zl59, zl60, zl61, zl62, zl63, zl80, zl96, zl97, zl99, zl100, zl122, zl255, zl360, zl500, zl999, zl9999, zl60000, zl99999, zl16777215, zl1073741824, zlm1, zlm2, zlm3]
                omega
              rw [if_neg p1, if_neg p1] at ih
              by_cases c6 : zld (zsl (zMv h) 0) (nI t) x i = -1
              · rw [if_pos c6, if_pos c6, if_pos rfl]
                have : ai_max (zld (zsl (zMv h) 0) (nI t) x i) (zsl (zMv h) 0 31 i) = zsl (zMv h) 0 31 i := by
                  rw [c6, z_eq, z_maxI]
                  simp only [zl0, zl1, zl2, zl3, zl4, zl5, zl6, zl7, zl8, zl9, zl10, zl12, zl15, zl16, zl20, zl22, zl23, zl24, zl27, zl30, zl31, zl32, zl40, zl46, zl48, zl50, zl57, zl59, zl60, zl61, zl62, zl63, zl80, zl96, zl97, zl99, zl100, zl122, zl255, zl360, zl500, zl999, zl9999, zl60000, zl99999, zl16777215, zl1073741824, zlm1, zlm2, zlm3]
                  omega
                rw [this] at ih
                exact ih
              · rw [if_neg c6, if_neg c6, if_neg (by decide)]
                unfold ai_max at ih
                by_cases c7 : zld (zsl (zMv h) 0) (nI t) x i < zsl (zMv h) 0 31 i
                · rw [if_pos c7]
                  rw [if_pos c7] at ih
                  exact ih
                · rw [if_neg c7]
                  rw [if_neg c7] at ih
                  exact ih
        · rw [if_neg c2]
          exact no fun q => c2 q.1.2.1
      · rw [if_neg c1]
        exact no fun q => c1 q.1.1
  have e13 : h.1 2064398 t = zsl (zMv h) 0 13 t := (zs0 (f := 13) (by omega)).symm
  rw [T301, z_ix ht (by decide), e13]
  exact K (zn (zsl (zMv h) 0) 5) 0 (by omega)
theorem X181 {h : ai_H} {t : Nat} (d : Nat) (hr : zR h) (ht : t < zn (zsl (zMv h) 0) 1) : ai_X (d + 1) 181 [.inr (.inr (31, 0, 128)), .inl (nI t)] h = some ([.inl (360 * zsl (zMv h) 0 15 t)], h) := by
  obtain ⟨b0, b1, b2, b8, b5, b4, b3, V⟩ := zR_b hr
  have hC : zC h 2097281 (zsl (zMv h) 0) := hr.1.1.1
  obtain ⟨-, -, -, -, v5, -⟩ := V.2.2.1 t ht
  unfold zi at v5
  rw [T181, z_ix (by omega) (by decide), show h.1 268451981 t = zsl (zMv h) 0 15 t from (hC.2.2.2.2.2.2.2.1 t ht).2.2.2.2]
  have : ai_max 1 (zsl (zMv h) 0 15 t) = zsl (zMv h) 0 15 t := by
    rw [z_eq, z_maxI]
    simp only [zl0, zl1, zl2, zl3, zl4, zl5, zl6, zl7, zl8, zl9, zl10, zl12, zl15, zl16, zl20, zl22, zl23, zl24, zl27, zl30, zl31, zl32, zl40, zl46, zl48, zl50, zl57, zl59, zl60, zl61, zl62, zl63, zl80, zl96, zl97, zl99, zl100, zl122, zl255, zl360, zl500, zl999, zl9999, zl60000, zl99999, zl16777215, zl1073741824, zlm1, zlm2, zlm3]
    omega
  rw [this]
/-- how worn of a hundred -/
def zwn (σ : Nat → Nat → Int32) (t : Nat) (x : Int32) : Int32 := if ((x - zsince σ t x (zn σ 5)) * 100) / (360 * σ 15 t) ≤ 100 then ((x - zsince σ t x (zn σ 5)) * 100) / (360 * σ 15 t) else 100
theorem z_per {σ : Nat → Nat → Int32} {t : Nat} (V : zV σ) (ht : t < zn σ 1) : (360 * σ 15 t).toInt = 360 * (σ 15 t).toInt ∧ 1 ≤ (σ 15 t).toInt ∧ (σ 15 t).toInt ≤ 99 ∧ ¬ 360 * σ 15 t = 0 := by
  obtain ⟨-, -, -, -, v5, -⟩ := V.2.2.1 t ht
  unfold zi at v5
  have e : (360 * σ 15 t).toInt = 360 * (σ 15 t).toInt := by rw [z_mul] <;> simp only [zl0, zl1, zl2, zl3, zl4, zl5, zl6, zl7, zl8, zl9, zl10, zl12, zl15, zl16, zl20, zl22, zl23, zl24, zl27, zl30, zl31, zl32, zl40, zl46, zl48, zl50, zl57, zl59, zl60, zl61, zl62, zl63, zl80, zl96, zl97, zl99, zl100, zl122, zl255, zl360, zl500, zl999, zl9999, zl60000, zl99999, zl16777215, zl1073741824, zlm1, zlm2, zlm3] <;> omega
  refine ⟨e, v5.1, v5.2, ?_⟩
  rw [z_eq, e]
  simp only [zl0, zl1, zl2, zl3, zl4, zl5, zl6, zl7, zl8, zl9, zl10, zl12, zl15, zl16, zl20, zl22, zl23, zl24, zl27, zl30, zl31, zl32, zl40, zl46, zl48, zl50, zl57, zl59, zl60, zl61, zl62, zl63, zl80, zl96, zl97, zl99, zl100, zl122, zl255, zl360, zl500, zl999, zl9999, zl60000, zl99999, zl16777215, zl1073741824, zlm1, zlm2, zlm3]
  omega
theorem z_min {y : Int32} : ai_min 100 y = if y ≤ 100 then y else 100 := by
  unfold ai_min
  by_cases c : y < 100
  · rw [if_pos c, if_pos (by rw [z_lt] at c; rw [z_le]; omega)]
  · rw [if_neg c]
    by_cases c2 : y ≤ 100
    · rw [if_pos c2, z_eq]
      rw [z_lt] at c
      rw [z_le] at c2
      omega
    · rw [if_neg c2]
theorem M302 {h : ai_H} {t : Nat} (d : Nat) (x : Int32) (hr : zR h) (ht : t < zn (zsl (zMv h) 0) 1) (hx : 0 ≤ x.toInt ∧ x.toInt ≤ 999) : ai_X (d + 2) 302 [.inr (.inr (32, 0, 16128)), .inl (nI t), .inl x] h = some ([.inl (zwn (zsl (zMv h) 0) t x)], h) := by
  obtain ⟨b0, b1, b2, b8, b5, b4, b3, V⟩ := zR_b hr
  obtain ⟨p1, p2, p3, p4⟩ := z_per V ht
  have e15 : h.1 2064400 t = zsl (zMv h) 0 15 t := (zs0 (f := 15) (by omega)).symm
  have c1 : 0 ≤ (nI t).toInt ∧ (nI t).toInt < (zn (zsl (zMv h) 0) 1 : Int) := by rw [z_T (by omega)]; omega
  rw [T302, M195 _ _ b1.2.1 (by omega)]
  simp only [z_bi, zb_0]
  rw [if_neg (fun q => q c1), M187]
  simp only [z_bi, zb_0]
  rw [if_neg (fun q => q hx), M301 _ _ hr (by omega)]
  simp only [z_bi]
  rw [z_ix (by omega) (by decide), e15, if_neg p4]
  unfold zwn
  by_cases c : ((x - zsince (zsl (zMv h) 0) t x (zn (zsl (zMv h) 0) 5)) * 100) / (360 * zsl (zMv h) 0 15 t) ≤ 100
  · rw [if_pos c, if_pos c]
  · rw [if_neg c, if_neg c]
theorem P_wears (t x : Int32) : zPr 137 302 [.inl t, .inl x] := zPr_q fun d h hr => by
  obtain ⟨b0, b1, b2, b8, b5, b4, b3, V⟩ := zR_b hr
  have hC : zC h 2097281 (zsl (zMv h) 0) := hr.1.1.1
  by_cases c : 0 ≤ t.toInt ∧ t.toInt < (zn (zsl (zMv h) 0) 1 : Int)
  · by_cases c1 : 0 ≤ x.toInt ∧ x.toInt ≤ 999
    · obtain ⟨t, ht, rfl⟩ := z_rng c
      obtain ⟨p1, p2, p3, p4⟩ := z_per V ht
      refine ⟨zwn (zsl (zMv h) 0) t x, h, h, ?_, zF_rf, M302 (d + 58) x hr ht c1, zF_rf⟩
      rw [T137, X153 _ _ b1.1 b1.2.2]
      simp only [z_bi, zb_0]
      rw [if_neg (fun q => q c), X147]
      simp only [z_bi, zb_0]
      rw [if_neg (fun q => q c1), X27 _ _ _ hr]
      simp only [z_bi]
      have e13 : h.1 268451979 t = zsl (zMv h) 0 13 t := (hC.2.2.2.2.2.2.2.1 t ht).2.2.1
      rw [X181 _ hr ht, z_ix (by omega) (by decide), e13]
      simp only [z_bi]
      rw [if_neg p4, if_neg p4]
      unfold zwn zsince
      by_cases c2 : zld (zsl (zMv h) 0) (nI t) x (zn (zsl (zMv h) 0) 5) = -1
      · rw [if_pos c2, if_pos c2, z_min, Int32.sub_neg]
      · rw [if_neg c2, if_neg c2, z_min]
    · refine ⟨-1, h, h, ?_, zF_rf, ?_, zF_rf⟩
      · rw [T137, X153 _ _ b1.1 b1.2.2]
        simp only [z_bi, zb_0]
        rw [if_neg (fun q => q c), X147]
        simp only [z_bi, zb_0]
        rw [if_pos c1]
      · rw [T302, M195 _ _ b1.2.1 (by omega)]
        simp only [z_bi, zb_0]
        rw [if_neg (fun q => q c), M187]
        simp only [z_bi, zb_0]
        rw [if_pos c1]
  · refine ⟨-1, h, h, ?_, zF_rf, ?_, zF_rf⟩
    · rw [T137, X153 _ _ b1.1 b1.2.2]
      simp only [z_bi, zb_0]
      rw [if_pos c]
    · rw [T302, M195 _ _ b1.2.1 (by omega)]
      simp only [z_bi, zb_0]
      rw [if_pos c]
