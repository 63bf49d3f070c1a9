/-! NAMES: does a worn name fit a donor's; fits -/
theorem zfit_iff {μ : zMu} {t q : Nat} : zfit μ t q = true ↔ μ.1 64 t = μ.1 63 q ∧ ∀ k, k < (μ.1 64 t).toInt.toNat → (μ.1 66 (12 * t + k) = 27 ∨ μ.1 66 (12 * t + k) = μ.1 65 (12 * q + k)) := by
  unfold zfit
  rw [Bool.and_eq_true, decide_eq_true_eq, List.all_eq_true]
  refine and_congr_right fun _ => ⟨fun a k hk => ?_, fun a k hk => ?_⟩
  · have := a k (List.mem_range.mpr hk)
    rw [Bool.or_eq_true, decide_eq_true_eq, decide_eq_true_eq] at this
    exact this
  · rw [Bool.or_eq_true, decide_eq_true_eq, decide_eq_true_eq]
    exact a k (List.mem_range.mp hk)
theorem z_i12 {t k : Nat} : (12 : Int32) * nI t + nI k = nI (12 * t + k) := by rw [show (12 : Int32) = nI 12 from rfl, pk_mul, nI_add]
theorem z_i12r {t k : Nat} : nI t * (12 : Int32) + nI k = nI (12 * t + k) := by rw [show (12 : Int32) = nI 12 from rfl, pk_mul, nI_add, Nat.mul_comm]
theorem M249 {g : ai_H} {t q : Nat} (d : Nat) (ht : t < 24) (hq : q < 20) (hw : zi ((zMv g).1 64 t) 0 12) : ai_X (d + 1) 249 [.inr (.inr (32, 0, 16128)), .inl (nI t), .inl (nI q)] g = some ([.inl (zb (zfit (zMv g) t q = true))], g) := by
  have e63 : ∀ i, g.1 2064448 i = (zMv g).1 63 i := fun i => (zMv1 (f := 63) (by omega)).symm
  have e64 : ∀ i, g.1 2064449 i = (zMv g).1 64 i := fun i => (zMv1 (f := 64) (by omega)).symm
  have e65 : ∀ i, g.1 2064450 i = (zMv g).1 65 i := fun i => (zMv1 (f := 65) (by omega)).symm
  have e66 : ∀ i, g.1 2064451 i = (zMv g).1 66 i := fun i => (zMv1 (f := 66) (by omega)).symm
  have it : ∀ f : Nat → Option ai_R, ai_ix (nI t) 24 f = f t := fun f => z_ix ht (by decide)
  have iq : ∀ f : Nat → Option ai_R, ai_ix (nI q) 20 f = f q := fun f => z_ix hq (by decide)
  unfold zi at hw
  have en : (zMv g).1 64 t = nI ((zMv g).1 64 t).toInt.toNat := z_nat hw.1
  have K : ∀ k i, i + k = ((zMv g).1 64 t).toInt.toNat → (zMv g).1 64 t = (zMv g).1 63 q → (∀ j, j < i → ((zMv g).1 66 (12 * t + j) = 27 ∨ (zMv g).1 66 (12 * t + j) = (zMv g).1 65 (12 * q + j))) → ai_E d 249 19 [some (.inr (.inr (32, 0, 16128))), some (.inl (nI t)), some (.inl (nI q)), some (.inl (nI i))] [] g = some ([.inl (zb (zfit (zMv g) t q = true))], g) := by
    intro k
    induction k with
    | zero =>
      intro i hi es hb
      rw [T249_19, it, e64, en, if_pos (by rw [nI_leI (by omega) (by omega)]; omega), z_b1, zb_t]
      exact zfit_iff.mpr ⟨es, fun j hj => hb j (by omega)⟩
    | succ k ih =>
      intro i hi es hb
      have ia : ∀ f : Nat → Option ai_R, ai_ix (nI (12 * t + i)) 288 f = f (12 * t + i) := fun f => z_ix (by omega) (by decide)
      have ib : ∀ f : Nat → Option ai_R, ai_ix (nI (12 * q + i)) 240 f = f (12 * q + i) := fun f => z_ix (by omega) (by decide)
      have nx : ((zMv g).1 66 (12 * t + i) = 27 ∨ (zMv g).1 66 (12 * t + i) = (zMv g).1 65 (12 * q + i)) → ai_E d 249 19 [some (.inr (.inr (32, 0, 16128))), some (.inl (nI t)), some (.inl (nI q)), some (.inl (nI (i + 1)))] [] g = some ([.inl (zb (zfit (zMv g) t q = true))], g) := fun hc => ih (i + 1) (by omega) es (fun j hj => by
        by_cases c : j = i
        · rw [c]; exact hc
        · exact hb j (by omega))
      rw [T249_19, it, e64, en, if_neg (by rw [nI_leI (by omega) (by omega)]; omega), z_i12, z_i12, ia, ia, ib, e66, e65, nI_1]
      by_cases c1 : (zMv g).1 66 (12 * t + i) = 27
      · rw [if_pos c1]
        exact nx (Or.inl c1)
      · rw [if_neg c1]
        by_cases c2 : (zMv g).1 66 (12 * t + i) = (zMv g).1 65 (12 * q + i)
        · rw [if_pos c2]
          exact nx (Or.inr c2)
        · rw [if_neg c2, z_b0, zb_f]
          intro c
          rcases (zfit_iff.mp c).2 i (by omega) with c | c
          · exact c1 c
          · exact c2 c
  rw [T249, it, iq, e63, e64]
  by_cases c : (zMv g).1 64 t = (zMv g).1 63 q
  · rw [if_pos c]
    exact K _ 0 (Nat.zero_add _) c (fun j hj => by omega)
  · rw [if_neg c, z_b0, zb_f (fun x => c (zfit_iff.mp x).1)]
theorem zsgn46 {v : Int32} (h : zi v 1 27) : zsgn v = 46 ↔ v = 27 := by
  unfold zi at h
  unfold zsgn
  by_cases c : v = 27
  · rw [if_pos c]
    exact ⟨fun _ => c, fun _ => rfl⟩
  · rw [if_neg c]
    refine ⟨fun q => ?_, fun q => absurd q c⟩
    rw [z_eq, z_add] at q
    · simp only [zl0, zl1, zl2, zl3, zl4, zl5, zl6, zl7, zl8, zl9, zl10, zl12, zl15, zl16, zl20, zl22, zl23, zl24, zl27, zl30, zl31, zl32, zl40, zl46, zl48, zl50, zl57, zl59, zl60, zl61, zl62, zl63, zl80, zl96, zl97, zl99, zl100, zl122, zl255, zl360, zl500, zl999, zl9999, zl60000, zl99999, zl16777215, zl1073741824, zlm1, zlm2, zlm3] at q
      omega
    · simp only [zl0, zl1, zl2, zl3, zl4, zl5, zl6, zl7, zl8, zl9, zl10, zl12, zl15, zl16, zl20, zl22, zl23, zl24, zl27, zl30, zl31, zl32, zl40, zl46, zl48, zl50, zl57, zl59, zl60, zl61, zl62, zl63, zl80, zl96, zl97, zl99, zl100, zl122, zl255, zl360, zl500, zl999, zl9999, zl60000, zl99999, zl16777215, zl1073741824, zlm1, zlm2, zlm3]
      omega
    · simp only [zl0, zl1, zl2, zl3, zl4, zl5, zl6, zl7, zl8, zl9, zl10, zl12, zl15, zl16, zl20, zl22, zl23, zl24, zl27, zl30, zl31, zl32, zl40, zl46, zl48, zl50, zl57, zl59, zl60, zl61, zl62, zl63, zl80, zl96, zl97, zl99, zl100, zl122, zl255, zl360, zl500, zl999, zl9999, zl60000, zl99999, zl16777215, zl1073741824, zlm1, zlm2, zlm3]
      omega
theorem zsgn_eq {v w : Int32} (h : zi v 1 27) (n : ¬ v = 27) (h2 : zi w 1 26) : zsgn v = zsgn w ↔ v = w := by
  unfold zi at h h2
  have n2 : ¬ w = 27 := by rw [z_eq]; simp only [zl0, zl1, zl2, zl3, zl4, zl5, zl6, zl7, zl8, zl9, zl10, zl12, zl15, zl16, zl20, zl22, zl23, zl24, zl27, zl30, zl31, zl32, zl40, zl46, zl48, zl50, zl57, zl59, zl60, zl61, zl62, zl63, zl80, zl96, zl97, zl99, zl100, zl122, zl255, zl360, zl500, zl999, zl9999, zl60000, zl99999, zl16777215, zl1073741824, zlm1, zlm2, zlm3]; omega
  unfold zsgn
  rw [if_neg n, if_neg n2, z_eq, z_eq, z_add, z_add]
  · omega
  all_goals
    simp only [zl0, zl1, zl2, zl3, zl4, zl5, zl6, zl7, zl8, zl9, zl10, zl12, zl15, zl16, zl20, zl22, zl23, zl24, zl27, zl30, zl31, zl32, zl40, zl46, zl48, zl50, zl57, zl59, zl60, zl61, zl62, zl63, zl80, zl96, zl97, zl99, zl100, zl122, zl255, zl360, zl500, zl999, zl9999, zl60000, zl99999, zl16777215, zl1073741824, zlm1, zlm2, zlm3]
    omega
theorem X46 {g : ai_H} {t q n : Nat} {A B : Nat → Int32} (d : Nat) (ht : t < 24) (hq : q < 20) (hn : n ≤ 12) (e1 : g.1 2097794 t = nI n) (hA : ∀ k, k < n → g.1 2097796 (12 * t + k) = zsgn (A k) ∧ zi (A k) 1 27) (hB : g.1 2097797 q = nI n → ∀ k, k < n → g.1 2097798 (12 * q + k) = zsgn (B k) ∧ zi (B k) 1 26) : ai_X (d + 1) 46 [.inr (.inr (26, 0, 16389)), .inl (nI t), .inl (nI q)] g = some ([.inl (zb (nI n = g.1 2097797 q ∧ ∀ k, k < n → (A k = 27 ∨ A k = B k)))], g) := by
  have it : ∀ f : Nat → Option ai_R, ai_ix (nI t) 24 f = f t := fun f => z_ix ht (by decide)
  have iq : ∀ f : Nat → Option ai_R, ai_ix (nI q) 20 f = f q := fun f => z_ix hq (by decide)
  have K : ∀ k i, i + k = n → nI n = g.1 2097797 q → (∀ j, j < i → (A j = 27 ∨ A j = B j)) → ∀ z, ai_E d 46 22 [some (.inr (.inr (26, 0, 16389))), some (.inl (nI t)), some (.inl (nI q)), some (.inl (nI n)), some (.inl (nI i)), z] [] g = some ([.inl (zb (nI n = g.1 2097797 q ∧ ∀ k, k < n → (A k = 27 ∨ A k = B k)))], g) := by
    intro k
    induction k with
    | zero =>
      intro i hi es hb z
      rw [T46_22, if_pos (by rw [nI_leI (by omega) (by omega)]; omega), z_b1, zb_t]
      exact ⟨es, fun j hj => hb j (by omega)⟩
    | succ k ih =>
      intro i hi es hb z
      have ia : ∀ f : Nat → Option ai_R, ai_ix (nI (12 * t + i)) 288 f = f (12 * t + i) := fun f => z_ix (by omega) (by decide)
      have ib : ∀ f : Nat → Option ai_R, ai_ix (nI (12 * q + i)) 240 f = f (12 * q + i) := fun f => z_ix (by omega) (by decide)
      obtain ⟨a1, a2⟩ := hA i (by omega)
      obtain ⟨b1, b2⟩ := hB es.symm i (by omega)
      have nx : (A i = 27 ∨ A i = B i) → ∀ z, ai_E d 46 22 [some (.inr (.inr (26, 0, 16389))), some (.inl (nI t)), some (.inl (nI q)), some (.inl (nI n)), some (.inl (nI (i + 1))), z] [] g = some ([.inl (zb (nI n = g.1 2097797 q ∧ ∀ k, k < n → (A k = 27 ∨ A k = B k)))], g) := fun hc z => ih (i + 1) (by omega) es (fun j hj => by
        by_cases c : j = i
        · rw [c]; exact hc
        · exact hb j (by omega)) z
      rw [T46_22, if_neg (by rw [nI_leI (by omega) (by omega)]; omega), z_i12r, z_i12r, ia, ib, a1, b1, nI_1]
      by_cases c1 : A i = 27
      · rw [if_pos ((zsgn46 a2).mpr c1)]
        exact nx (Or.inl c1) _
      · rw [if_neg (fun x => c1 ((zsgn46 a2).mp x))]
        by_cases c2 : A i = B i
        · rw [if_pos ((zsgn_eq a2 c1 b2).mpr c2)]
          exact nx (Or.inr c2) _
        · rw [if_neg (fun x => c2 ((zsgn_eq a2 c1 b2).mp x)), z_b0, zb_f]
          rintro ⟨-, c⟩
          rcases c i (by omega) with c | c
          · exact c1 c
          · exact c2 c
  rw [T46, it, iq, e1]
  by_cases c : nI n = g.1 2097797 q
  · rw [if_pos c]
    exact K _ 0 (Nat.zero_add _) c (fun j hj => by omega) _
  · rw [if_neg c, z_b0, zb_f (fun x => c x.1)]
/-- how many donors there are, both sides; a tap's worn name -/
theorem zR_nm {h : ai_H} (hr : zR h) : h.1 16389 0 = nI (zg (zMv h) 34) ∧ h.1 16128 34 = nI (zg (zMv h) 34) ∧ zg (zMv h) 34 ≤ 20 ∧ ∀ t, t < 24 → h.1 2097794 t = (zMv h).1 64 t ∧ h.1 2064449 t = (zMv h).1 64 t ∧ zi ((zMv h).1 64 t) 0 12 ∧ h.1 2097795 t = nI (zB (fun d => zfit (zMv h) t d = true) (zg (zMv h) 34)) := by
  have hN : zNm h (zMv h) := hr.1.2.2.2.1
  have v34 := hr.2.1.1.2.2.1
  unfold zi at v34
  have e : (zMv h).2 34 = nI (zg (zMv h) 34) := z_nat v34.1
  refine ⟨hN.1.trans e, ((zMv2 (by decide)).symm).trans e, by unfold zg; omega, fun t ht => ?_⟩
  obtain ⟨a1, a2, a3⟩ := hN.2.1 t ht
  exact ⟨a1, (zMv1 (f := 64) (by omega)).symm, (hr.2.1.2.2.2.2.1.1 t ht).1, a2⟩
theorem X157 {h : ai_H} (d : Nat) (x : Int32) (hr : zR h) : ai_X (d + 3) 157 [.inr (.inr (31, 0, 128)), .inl x] h = some ([.inl (zb ((0 ≤ x.toInt ∧ x.toInt < (zn (zsl (zMv h) 0) 1 : Int)) ∧ 0 < ((zMv h).1 64 x.toInt.toNat).toInt))], h) := by
  obtain ⟨b0, b1, b2, b8, b5, b4, b3, V⟩ := zR_b hr
  obtain ⟨d1, d2, d3, d4⟩ := zR_nm hr
  rw [T157, X153 _ _ b1.1 b1.2.2]
  simp only [z_bi, zb_0, z_b0, z_b1]
  by_cases c : 0 ≤ x.toInt ∧ x.toInt < (zn (zsl (zMv h) 0) 1 : Int)
  · rw [if_neg (fun q => q c), z_ixv c.1 (by omega), (d4 _ (by omega)).1]
    simp only [z_le, zl0]
    by_cases c2 : 0 < ((zMv h).1 64 x.toInt.toNat).toInt
    · rw [if_neg (by omega), zb_t ⟨c, c2⟩]
    · rw [if_pos (by omega), zb_f (fun q => c2 q.2)]
  · rw [if_pos c, zb_f (fun q => c q.1)]
theorem M250 {h : ai_H} (d : Nat) (x : Int32) (hr : zR h) : ai_X (d + 2) 250 [.inr (.inr (32, 0, 16128)), .inl x] h = some ([.inl (zb ((0 ≤ x.toInt ∧ x.toInt < (zn (zsl (zMv h) 0) 1 : Int)) ∧ 0 < ((zMv h).1 64 x.toInt.toNat).toInt))], h) := by
  obtain ⟨b0, b1, b2, b8, b5, b4, b3, V⟩ := zR_b hr
  obtain ⟨d1, d2, d3, d4⟩ := zR_nm hr
  rw [T250, M195 _ _ b1.2.1 (by omega)]
  simp only [z_bi, zb_0, z_b0, z_b1]
  by_cases c : 0 ≤ x.toInt ∧ x.toInt < (zn (zsl (zMv h) 0) 1 : Int)
  · rw [if_neg (fun q => q c), z_ixv c.1 (by omega), (d4 _ (by omega)).2.1]
    simp only [z_le, zl0]
    by_cases c2 : 0 < ((zMv h).1 64 x.toInt.toNat).toInt
    · rw [if_neg (by omega), zb_t ⟨c, c2⟩]
    · rw [if_pos (by omega), zb_f (fun q => c2 q.2)]
  · rw [if_pos c, zb_f (fun q => c q.1)]
/-- the donors that fit -/
theorem M251 {g : ai_H} {t m : Nat} (d : Nat) (k : Int32) (ht : t < 24) (hm : g.1 16128 34 = nI m) (hl : m ≤ 20) (hw : zi ((zMv g).1 64 t) 0 12) (h250 : ai_X (d + 2) 250 [.inr (.inr (32, 0, 16128)), .inl (nI t)] g = some ([.inl 1], g)) : ai_X (d + 3) 251 [.inr (.inr (32, 0, 16128)), .inl (nI t), .inl k] g = some ([.inl (zpick (fun q => zfit (zMv g) t q = true) m k)], g) := by
  rw [T251, h250]
  simp only [z_bi]
  rw [if_neg (by decide)]
  by_cases c : (-1 : Int32) ≤ k
  · rw [if_pos c]
    have c' : -1 ≤ k.toInt := by rw [z_le] at c; exact c
    refine z_pickM (fun i c => ai_E (d + 2) 251 20 [some (.inr (.inr (32, 0, 16128))), some (.inl (nI t)), some (.inl k), some (.inl (nI c)), some (.inl (nI i))] [] g) g _ m k (by omega) c' (fun i c hi hc => ?_) (fun c => ?_)
    · rw [T251_20, hm, if_neg (by rw [nI_leI (by omega) (by omega)]; omega), M249 _ ht (by omega) hw]
      simp only [z_bi, zb_0, nI_1]
      by_cases q : zfit (zMv g) t i = true
      · rw [if_neg (fun x => x q), if_pos q]
      · rw [if_pos q, if_neg q]
    · rw [T251_20, hm, if_pos (by rw [z_le]; omega)]
  · rw [if_neg c, zpick_neg (by omega) c]
theorem P_fits (x k : Int32) : zPr 132 251 [.inl x, .inl k] := zPr_q fun d h hr => by
  obtain ⟨b0, b1, b2, b8, b5, b4, b3, V⟩ := zR_b hr
  obtain ⟨d1, d2, d3, d4⟩ := zR_nm hr
  by_cases c : (0 ≤ x.toInt ∧ x.toInt < (zn (zsl (zMv h) 0) 1 : Int)) ∧ 0 < ((zMv h).1 64 x.toInt.toNat).toInt
  · obtain ⟨t, ht, rfl⟩ := z_rng c.1
    have i24 : ∀ f : Nat → Option ai_R, ai_ix (nI t) 24 f = f t := fun f => z_ix (by omega) (by decide)
    refine ⟨zpick (fun q => zfit (zMv h) t q = true) (zg (zMv h) 34) k, h, h, ?_, zF_rf, M251 _ _ (by omega) d2 d3 (d4 t (by omega)).2.2.1 ?_, zF_rf⟩
    · rw [T132, X157 _ _ hr]
      simp only [z_bi, zb_0]
      rw [if_neg (fun q => q c), i24, (d4 t (by omega)).2.2.2, X160 _ _ _ (by omega)]
      simp only [z_bi]
    · rw [M250 _ _ hr, zb_t c]
  · refine ⟨-1, h, h, ?_, zF_rf, ?_, zF_rf⟩
    · rw [T132, X157 _ _ hr]
      simp only [z_bi, zb_0]
      rw [if_pos c]
    · rw [T251, M250 _ _ hr]
      simp only [z_bi, zb_0]
      rw [if_pos c]
