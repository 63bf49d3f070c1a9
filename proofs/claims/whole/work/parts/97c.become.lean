/-! IMAGES: a state becomes another -/
theorem z_cpyn {h : ai_H} {a sp b dp n q : Nat} (c : q ≠ b) : (ai_cpy h a sp b dp n).1 q = h.1 q := funext fun i => by rw [z_cpy1, if_neg (fun x => c x.1)]
theorem z_cpyi {h : ai_H} {a b n i : Nat} (hi : i < n) : (ai_cpy h a 0 b 0 n).1 b i = h.1 a i := by rw [z_cpy1, if_pos ⟨rfl, Nat.zero_le _, by omega⟩, show 0 + (i - 0) = i by omega]
theorem z_k0 : (Int32.toNatClampNeg 0) = 0 := rfl
/-- what hangs on a cell -/
def zbl (a q : Nat) : Prop := zfp q = a ∨ zfp (zfp q) = a ∨ zfp (zfp (zfp q)) = a
theorem zbl_1 {a j : Nat} (hj : j < 127) : zbl a (ai_ch a j) := Or.inl (zfp_c hj)
theorem zbl_2 {a i j : Nat} (hi : i < 127) (hj : j < 127) : zbl a (ai_ch (ai_ch a i) j) := Or.inr (Or.inl (by rw [zfp_c hj, zfp_c hi]))
theorem zbl_3 {a i j k : Nat} (hi : i < 127) (hj : j < 127) (hk : k < 127) : zbl a (ai_ch (ai_ch (ai_ch a i) j) k) := Or.inr (Or.inr (by rw [zfp_c hk, zfp_c hj, zfp_c hi]))
/-- a ledger becomes another -/
theorem X42 {h : ai_H} {a b n : Nat} {l : List zR4} (d : Nat) (hl : zL h b l) (ha : zLk h a n) (hb : zLk h b n) (hn : l.length ≤ n) (hn2 : n ≤ 1000) (n0 : ∀ j, j < 4 → ¬ ai_ch b j = a) (n1 : ∀ i j, i < 4 → j < 4 → ¬ ai_ch b i = ai_ch a j) : ∃ h', ai_X (d + 1) 42 [.inr (.inr (25, 0, a)), .inr (.inr (25, 0, b))] h = some ([], h') ∧ h'.2 = h.2 ∧ (∀ q, ¬ zdn 1 a q → h'.1 q = h.1 q) ∧ zL h' a l := by
  obtain ⟨a0, a1, a2, a3⟩ := ha
  obtain ⟨b0, b1, b2, b3⟩ := hb
  have na : ∀ j, ¬ a = ai_ch a j := fun j => z_chn
  have em : ai_min (h.1 b 4) (nI n) = nI l.length := by
    rw [hl.1, nI_min (by omega) (by omega), if_neg (by omega)]
  have eL : (nI l.length).toNatClampNeg = l.length := nI_clamp (by omega)
  rw [T42]
  simp only [z_cpyn (na _), z_stS, z_cpy2, z_st2, a0, a1, a2, a3, b0, b1, b2, b3, em, eL, z_k0]
  rw [zcp_0 hn hn (by omega), zcp_0 hn hn (by omega), zcp_0 hn hn (by omega), zcp_0 hn hn (by omega)]
  refine ⟨_, rfl, rfl, fun q hq => ?_, ?_, fun i hi => ?_⟩
  · have q0 : ¬ q = a := fun c => hq (Or.inl c)
    have q1 : ∀ j, j < 4 → ¬ q = ai_ch a j := fun j hj c => hq (Or.inr (by rw [c, zfp_c (by omega)]; rfl))
    rw [z_cpyn (q1 3 (by decide)), z_cpyn (q1 2 (by decide)), z_cpyn (q1 1 (by decide)), z_cpyn (q1 0 (by decide)), z_ne q0]
  · rw [z_cpyn (na 3), z_cpyn (na 2), z_cpyn (na 1), z_cpyn (na 0), z_stS]
  · have c : ∀ i j, ¬ i = j → ¬ ai_ch a i = ai_ch a j := fun i j hij c => by rw [z_ch] at c; exact hij c
    rw [hl.2 i hi]
    unfold zLr
    rw [z_cpyn (c 0 3 (by decide)), z_cpyn (c 0 2 (by decide)), z_cpyn (c 0 1 (by decide)), z_cpyi hi, z_ne (n0 0 (by decide)),
      z_cpyn (c 1 3 (by decide)), z_cpyn (c 1 2 (by decide)), z_cpyi hi, z_cpyn (n1 1 0 (by decide) (by decide)), z_ne (n0 1 (by decide)),
      z_cpyn (c 2 3 (by decide)), z_cpyi hi, z_cpyn (n1 2 1 (by decide) (by decide)), z_cpyn (n1 2 0 (by decide) (by decide)), z_ne (n0 2 (by decide)),
      z_cpyi hi, z_cpyn (n1 3 2 (by decide) (by decide)), z_cpyn (n1 3 1 (by decide) (by decide)), z_cpyn (n1 3 0 (by decide) (by decide)), z_ne (n0 3 (by decide))]
/-- a diary that becomes another: so many ledgers are taken over -/
def zdb (a b k : Nat) (σ : Nat → Nat → Int32) (h0 h : ai_H) : Prop := h.2 = h0.2 ∧ (∀ q, ¬ zdn 2 a q → h.1 q = h0.1 q) ∧ (∀ i, i < k → zL h (ai_ch a i) (zled σ (nI i) (zn σ 4))) ∧ ∀ i, 12 ≤ i → i < 127 → h.1 (ai_ch a i) = h0.1 (ai_ch a i)
theorem zdb_s {h0 h : ai_H} {a b k : Nat} {σ : Nat → Nat → Int32} (d : Nat) (hk : k < 12) (V : zV σ) (hb : zD h0 b σ) (ka : ∀ k, k < 12 → zLk h0 (ai_ch a k) (zmost k)) (kb : ∀ k, k < 12 → zLk h0 (ai_ch b k) (zmost k)) (dj : ∀ q, zdn 2 b q → ¬ zdn 2 a q) (x : zdb a b k σ h0 h) : ∃ h', ai_X (d + 1) 42 [.inr (.inr (25, 0, ai_ch a k)), .inr (.inr (25, 0, ai_ch b k))] h = some ([], h') ∧ zdb a b (k + 1) σ h0 h' := by
  obtain ⟨x1, x2, x3, x4⟩ := x
  have hle : (zled σ (nI k) (zn σ 4)).length ≤ zmost k := by rw [zled_len]; exact V.2.2.2.2.1.2 k hk
  have hm : zmost k ≤ 1000 := by
    unfold zmost
    split <;> decide
  have bb : ∀ j, j < 127 → zdn 2 b (ai_ch (ai_ch b k) j) := fun j hj => Or.inr (by rw [zfp_c hj]; exact Or.inr (by rw [zfp_c (by omega)]; rfl))
  have aa : ∀ j, j < 127 → zdn 2 a (ai_ch (ai_ch a k) j) := fun j hj => Or.inr (by rw [zfp_c hj]; exact Or.inr (by rw [zfp_c (by omega)]; rfl))
  have a1 : zdn 2 a (ai_ch a k) := Or.inr (by rw [zfp_c (by omega)]; exact zdn_a)
  have b1 : zdn 2 b (ai_ch b k) := Or.inr (by rw [zfp_c (by omega)]; exact zdn_a)
  have src : zL h (ai_ch b k) (zled σ (nI k) (zn σ 4)) := zL_c (x2 _ (dj _ b1)) (fun j hj => x2 _ (dj _ (bb j hj))) (hb.1 k hk)
  obtain ⟨h', w1, w2, w3, w4⟩ := X42 (h := h) (a := ai_ch a k) (b := ai_ch b k) d src (by unfold zLk; rw [x1]; exact ka k hk) (by unfold zLk; rw [x1]; exact kb k hk) hle hm (fun j hj c => dj _ (bb j (by omega)) (by rw [c]; exact a1)) (fun i j hi hj c => dj _ (bb i (by omega)) (by rw [c]; exact aa j (by omega)))
  refine ⟨h', w1, w2.trans x1, fun q hq => ?_, fun i hi => ?_, fun i hi hi2 => ?_⟩
  · rw [w3 q (fun c => hq (zdn_c (by omega) c))]; exact x2 q hq
  · by_cases e : i = k
    · subst e; exact w4
    · exact zL_c (w3 _ (zdn_b (by omega) e)) (fun j hj => w3 _ (zdn_bb (by omega) (by omega) hj e)) (x3 i (by omega))
  · rw [w3 _ (zdn_b hi2 (by omega))]; exact x4 i hi hi2
theorem ex_V {o : Option ai_R} {f : ai_H → Option ai_R} {Q P : ai_H → Prop} (e : ∃ h', o = some ([], h') ∧ Q h') (g : ∀ h', Q h' → ∃ h2, f h' = some ([], h2) ∧ P h2) : ∃ h2, ai_bv o f = some ([], h2) ∧ P h2 := by
  obtain ⟨h', e1, e2⟩ := e
  rw [e1]
  exact g h' e2
theorem X19 {h : ai_H} {a b : Nat} {σ : Nat → Nat → Int32} (d : Nat) (V : zV σ) (hb : zD h b σ) (ka : ∀ k, k < 12 → zLk h (ai_ch a k) (zmost k)) (kb : ∀ k, k < 12 → zLk h (ai_ch b k) (zmost k)) (dj : ∀ q, zdn 2 b q → ¬ zdn 2 a q) : ∃ h', ai_X (d + 2) 19 [.inr (.inr (22, 0, a)), .inr (.inr (22, 0, b))] h = some ([], h') ∧ h'.2 = h.2 ∧ (∀ q, ¬ zdn 2 a q → h'.1 q = h.1 q) ∧ zD h' a σ := by
  have i0 : zdb a b 0 σ h h := ⟨rfl, fun _ _ => rfl, fun i hi => absurd hi (Nat.not_lt_zero _), fun _ _ _ => rfl⟩
  rw [T19]
  refine ex_V (zdb_s (k := 0) d (by decide) V hb ka kb dj i0) fun h1 i1 => ?_
  refine ex_V (zdb_s (k := 1) d (by decide) V hb ka kb dj i1) fun h2 i2 => ?_
  refine ex_V (zdb_s (k := 2) d (by decide) V hb ka kb dj i2) fun h3 i3 => ?_
  refine ex_V (zdb_s (k := 3) d (by decide) V hb ka kb dj i3) fun h4 i4 => ?_
  refine ex_V (zdb_s (k := 4) d (by decide) V hb ka kb dj i4) fun h5 i5 => ?_
  refine ex_V (zdb_s (k := 5) d (by decide) V hb ka kb dj i5) fun h6 i6 => ?_
  refine ex_V (zdb_s (k := 6) d (by decide) V hb ka kb dj i6) fun h7 i7 => ?_
  refine ex_V (zdb_s (k := 7) d (by decide) V hb ka kb dj i7) fun h8 i8 => ?_
  refine ex_V (zdb_s (k := 8) d (by decide) V hb ka kb dj i8) fun h9 i9 => ?_
  refine ex_V (zdb_s (k := 9) d (by decide) V hb ka kb dj i9) fun h10 i10 => ?_
  refine ex_V (zdb_s (k := 10) d (by decide) V hb ka kb dj i10) fun h11 i11 => ?_
  refine ex_V (zdb_s (k := 11) d (by decide) V hb ka kb dj i11) fun h12 i12 => ?_
  obtain ⟨x1, x2, x3, x4⟩ := i12
  have b1 : ∀ j, j < 127 → zdn 2 b (ai_ch b j) := fun j hj => Or.inr (by rw [zfp_c hj]; exact zdn_a)
  have a1 : ∀ j, j < 127 → zdn 2 a (ai_ch a j) := fun j hj => Or.inr (by rw [zfp_c hj]; exact zdn_a)
  have nba : ¬ b = ai_ch a 12 := fun c => dj b zdn_a (by rw [c]; exact a1 12 (by decide))
  have nb : ¬ b = a := fun c => dj b zdn_a (by rw [c]; exact zdn_a)
  have n12 : ¬ ai_ch b 12 = ai_ch a 12 := fun c => dj _ (b1 12 (by decide)) (by rw [c]; exact a1 12 (by decide))
  have e24 : (Int32.toNatClampNeg 24) = 24 := rfl
  have hb12 := x2 b (dj b zdn_a)
  rw [show (24 : Int32) = nI 24 from rfl, zcp_0 (by decide) (by decide) (by decide), ← show (24 : Int32) = nI 24 from rfl]
  simp only [z_cpyn nba, z_ne nb, e24, z_k0]
  have n2 : ∀ i, ¬ ai_ch a i = a := fun i c => z_chn c.symm
  refine ⟨_, rfl, x1, fun q hq => ?_, fun k hk => ?_, fun i hi => ?_, ?_, ?_, ?_⟩
  · have q1 : ¬ q = a := fun c => hq (Or.inl c)
    have q2 : ¬ q = ai_ch a 12 := fun c => hq (by rw [c]; exact a1 12 (by decide))
    rw [z_ne q1, z_ne q1, z_ne q1, z_cpyn q2]
    exact x2 q hq
  · refine zL_c ?_ (fun j hj => ?_) (x3 k hk)
    · rw [z_ne (n2 k), z_ne (n2 k), z_ne (n2 k), z_cpyn (fun c => by rw [z_ch] at c; omega)]
    · have q1 : ¬ ai_ch (ai_ch a k) j = a := fun c => by unfold ai_ch at c; omega
      rw [z_ne q1, z_ne q1, z_ne q1, z_cpyn (fun c => by unfold ai_ch at c; omega)]
  · rw [z_ne (n2 12), z_ne (n2 12), z_ne (n2 12), z_cpyi hi, x2 _ (dj _ (b1 12 (by decide)))]
    exact hb.2.1 i hi
  · rw [z_st1, if_neg (by omega), z_st1, if_neg (by omega), z_stS, hb12]
    exact hb.2.2.1
  · rw [z_st1, if_neg (by omega), z_stS, hb12]
    exact hb.2.2.2.1
  · rw [z_stS, hb12]
    exact hb.2.2.2.2
theorem X11 {h : ai_H} {a b : Nat} {σ : Nat → Nat → Int32} (d : Nat) (V : zV σ) (hb : zC h b σ) (dj : ∀ q, zdn 1 b q → ¬ zdn 1 a q) : ∃ h', ai_X (d + 1) 11 [.inr (.inr (20, 0, a)), .inr (.inr (20, 0, b))] h = some ([], h') ∧ h'.2 = h.2 ∧ (∀ q, ¬ zdn 1 a q → h'.1 q = h.1 q) ∧ zC h' a σ := by
  have b1 : ∀ j, j < 127 → zdn 1 b (ai_ch b j) := fun j hj => Or.inr (by rw [zfp_c hj]; rfl)
  have a1 : ∀ j, j < 127 → zdn 1 a (ai_ch a j) := fun j hj => Or.inr (by rw [zfp_c hj]; rfl)
  have nb : ¬ b = a := fun c => dj b zdn_a (by rw [c]; exact zdn_a)
  have nba : ∀ j, j < 127 → ¬ ai_ch b j = a := fun j hj c => dj _ (b1 j hj) (by rw [c]; exact zdn_a)
  have nbb : ∀ i j, i < 127 → j < 127 → ¬ ai_ch b i = ai_ch a j := fun i j hi hj c => dj _ (b1 i hi) (by rw [c]; exact a1 j hj)
  have na : ∀ j, ¬ a = ai_ch a j := fun j => z_chn
  have n2 : ∀ i, ¬ ai_ch a i = a := fun i c => z_chn c.symm
  have nc : ∀ i j, ¬ i = j → ¬ ai_ch a i = ai_ch a j := fun i j hij c => by rw [z_ch] at c; exact hij c
  have e24 : (Int32.toNatClampNeg 24) = 24 := rfl
  have e30 : (Int32.toNatClampNeg 30) = 30 := rfl
  have e20 : (Int32.toNatClampNeg 20) = 20 := rfl
  have c24 : ∀ o : Option ai_R, ai_cp 0 0 24 24 24 o = o := fun o => zcp_0 (n := 24) (by decide) (by decide) (by decide)
  have c30 : ∀ o : Option ai_R, ai_cp 0 0 30 30 30 o = o := fun o => zcp_0 (n := 30) (by decide) (by decide) (by decide)
  have c20 : ∀ o : Option ai_R, ai_cp 0 0 20 20 20 o = o := fun o => zcp_0 (n := 20) (by decide) (by decide) (by decide)
  rw [T11]
  simp only [c24, c30, c20, z_ne nb, e24, e30, e20, z_k0]
  obtain ⟨v0, v1, v2, v8, v4, v5, w1, w2, w3, w4⟩ := hb
  obtain ⟨k0, k1, k2, k8, -⟩ := V.1
  obtain ⟨m0, m0', -⟩ := zn_eq k0
  obtain ⟨m1, m1', -⟩ := zn_eq k1
  obtain ⟨m2, m2', -⟩ := zn_eq k2
  obtain ⟨m8, m8', -⟩ := zn_eq k8
  refine ⟨_, rfl, rfl, fun q hq => ?_, ?_, ?_, ?_, ?_, ?_, ?_, fun i hi => ⟨?_, ?_⟩, fun t ht => ⟨?_, ?_, ?_, ?_, ?_⟩, fun i hi => ?_, fun i hi => ?_⟩
  · have q1 : ¬ q = a := fun c => hq (Or.inl c)
    have q2 : ∀ j, j < 127 → ¬ q = ai_ch a j := fun j hj c => hq (by rw [c]; exact a1 j hj)
    rw [z_cpyn (q2 14 (by decide)), z_cpyn (q2 13 (by decide)), z_cpyn (q2 12 (by decide)), z_cpyn (q2 11 (by decide)), z_cpyn (q2 10 (by decide)), z_cpyn (q2 9 (by decide)), z_cpyn (q2 8 (by decide)), z_cpyn (q2 7 (by decide)), z_cpyn (q2 6 (by decide)), z_ne q1, z_ne q1, z_ne q1, z_ne q1, z_ne q1, z_ne q1]
  · rw [z_cpyn (na 14), z_cpyn (na 13), z_cpyn (na 12), z_cpyn (na 11), z_cpyn (na 10), z_cpyn (na 9), z_cpyn (na 8), z_cpyn (na 7), z_cpyn (na 6), z_st1, if_neg (by omega), z_st1, if_neg (by omega), z_st1, if_neg (by omega), z_st1, if_neg (by omega), z_st1, if_neg (by omega), z_stS]
    exact v0
  · rw [z_cpyn (na 14), z_cpyn (na 13), z_cpyn (na 12), z_cpyn (na 11), z_cpyn (na 10), z_cpyn (na 9), z_cpyn (na 8), z_cpyn (na 7), z_cpyn (na 6), z_st1, if_neg (by omega), z_st1, if_neg (by omega), z_st1, if_neg (by omega), z_st1, if_neg (by omega), z_stS]
    exact v1
  · rw [z_cpyn (na 14), z_cpyn (na 13), z_cpyn (na 12), z_cpyn (na 11), z_cpyn (na 10), z_cpyn (na 9), z_cpyn (na 8), z_cpyn (na 7), z_cpyn (na 6), z_st1, if_neg (by omega), z_st1, if_neg (by omega), z_st1, if_neg (by omega), z_stS]
    exact v2
  · rw [z_cpyn (na 14), z_cpyn (na 13), z_cpyn (na 12), z_cpyn (na 11), z_cpyn (na 10), z_cpyn (na 9), z_cpyn (na 8), z_cpyn (na 7), z_cpyn (na 6), z_st1, if_neg (by omega), z_st1, if_neg (by omega), z_stS]
    exact v8
  · rw [z_cpyn (na 14), z_cpyn (na 13), z_cpyn (na 12), z_cpyn (na 11), z_cpyn (na 10), z_cpyn (na 9), z_cpyn (na 8), z_cpyn (na 7), z_cpyn (na 6), z_st1, if_neg (by omega), z_stS]
    exact v4
  · rw [z_cpyn (na 14), z_cpyn (na 13), z_cpyn (na 12), z_cpyn (na 11), z_cpyn (na 10), z_cpyn (na 9), z_cpyn (na 8), z_cpyn (na 7), z_cpyn (na 6), z_stS]
    exact v5
  · rw [z_cpyn (nc 6 14 (by decide)), z_cpyn (nc 6 13 (by decide)), z_cpyn (nc 6 12 (by decide)), z_cpyn (nc 6 11 (by decide)), z_cpyn (nc 6 10 (by decide)), z_cpyn (nc 6 9 (by decide)), z_cpyn (nc 6 8 (by decide)), z_cpyn (nc 6 7 (by decide)), z_cpyi (n := 24) (by omega), z_ne (nba 6 (by decide)), z_ne (nba 6 (by decide)), z_ne (nba 6 (by decide)), z_ne (nba 6 (by decide)), z_ne (nba 6 (by decide)), z_ne (nba 6 (by decide))]
    exact (w1 i hi).1
  · rw [z_cpyn (nc 7 14 (by decide)), z_cpyn (nc 7 13 (by decide)), z_cpyn (nc 7 12 (by decide)), z_cpyn (nc 7 11 (by decide)), z_cpyn (nc 7 10 (by decide)), z_cpyn (nc 7 9 (by decide)), z_cpyn (nc 7 8 (by decide)), z_cpyi (n := 24) (by omega), z_cpyn (nbb 7 6 (by decide) (by decide)), z_ne (nba 7 (by decide)), z_ne (nba 7 (by decide)), z_ne (nba 7 (by decide)), z_ne (nba 7 (by decide)), z_ne (nba 7 (by decide)), z_ne (nba 7 (by decide))]
    exact (w1 i hi).2
  · rw [z_cpyn (nc 8 14 (by decide)), z_cpyn (nc 8 13 (by decide)), z_cpyn (nc 8 12 (by decide)), z_cpyn (nc 8 11 (by decide)), z_cpyn (nc 8 10 (by decide)), z_cpyn (nc 8 9 (by decide)), z_cpyi (n := 24) (by omega), z_cpyn (nbb 8 7 (by decide) (by decide)), z_cpyn (nbb 8 6 (by decide) (by decide)), z_ne (nba 8 (by decide)), z_ne (nba 8 (by decide)), z_ne (nba 8 (by decide)), z_ne (nba 8 (by decide)), z_ne (nba 8 (by decide)), z_ne (nba 8 (by decide))]
    exact (w2 t ht).1
  · rw [z_cpyn (nc 9 14 (by decide)), z_cpyn (nc 9 13 (by decide)), z_cpyn (nc 9 12 (by decide)), z_cpyn (nc 9 11 (by decide)), z_cpyn (nc 9 10 (by decide)), z_cpyi (n := 24) (by omega), z_cpyn (nbb 9 8 (by decide) (by decide)), z_cpyn (nbb 9 7 (by decide) (by decide)), z_cpyn (nbb 9 6 (by decide) (by decide)), z_ne (nba 9 (by decide)), z_ne (nba 9 (by decide)), z_ne (nba 9 (by decide)), z_ne (nba 9 (by decide)), z_ne (nba 9 (by decide)), z_ne (nba 9 (by decide))]
    exact (w2 t ht).2.1
  · rw [z_cpyn (nc 10 14 (by decide)), z_cpyn (nc 10 13 (by decide)), z_cpyn (nc 10 12 (by decide)), z_cpyn (nc 10 11 (by decide)), z_cpyi (n := 24) (by omega), z_cpyn (nbb 10 9 (by decide) (by decide)), z_cpyn (nbb 10 8 (by decide) (by decide)), z_cpyn (nbb 10 7 (by decide) (by decide)), z_cpyn (nbb 10 6 (by decide) (by decide)), z_ne (nba 10 (by decide)), z_ne (nba 10 (by decide)), z_ne (nba 10 (by decide)), z_ne (nba 10 (by decide)), z_ne (nba 10 (by decide)), z_ne (nba 10 (by decide))]
    exact (w2 t ht).2.2.1
  · rw [z_cpyn (nc 11 14 (by decide)), z_cpyn (nc 11 13 (by decide)), z_cpyn (nc 11 12 (by decide)), z_cpyi (n := 24) (by omega), z_cpyn (nbb 11 10 (by decide) (by decide)), z_cpyn (nbb 11 9 (by decide) (by decide)), z_cpyn (nbb 11 8 (by decide) (by decide)), z_cpyn (nbb 11 7 (by decide) (by decide)), z_cpyn (nbb 11 6 (by decide) (by decide)), z_ne (nba 11 (by decide)), z_ne (nba 11 (by decide)), z_ne (nba 11 (by decide)), z_ne (nba 11 (by decide)), z_ne (nba 11 (by decide)), z_ne (nba 11 (by decide))]
    exact (w2 t ht).2.2.2.1
  · rw [z_cpyn (nc 12 14 (by decide)), z_cpyn (nc 12 13 (by decide)), z_cpyi (n := 24) (by omega), z_cpyn (nbb 12 11 (by decide) (by decide)), z_cpyn (nbb 12 10 (by decide) (by decide)), z_cpyn (nbb 12 9 (by decide) (by decide)), z_cpyn (nbb 12 8 (by decide) (by decide)), z_cpyn (nbb 12 7 (by decide) (by decide)), z_cpyn (nbb 12 6 (by decide) (by decide)), z_ne (nba 12 (by decide)), z_ne (nba 12 (by decide)), z_ne (nba 12 (by decide)), z_ne (nba 12 (by decide)), z_ne (nba 12 (by decide)), z_ne (nba 12 (by decide))]
    exact (w2 t ht).2.2.2.2
  · rw [z_cpyn (nc 13 14 (by decide)), z_cpyi (n := 30) (by omega), z_cpyn (nbb 13 12 (by decide) (by decide)), z_cpyn (nbb 13 11 (by decide) (by decide)), z_cpyn (nbb 13 10 (by decide) (by decide)), z_cpyn (nbb 13 9 (by decide) (by decide)), z_cpyn (nbb 13 8 (by decide) (by decide)), z_cpyn (nbb 13 7 (by decide) (by decide)), z_cpyn (nbb 13 6 (by decide) (by decide)), z_ne (nba 13 (by decide)), z_ne (nba 13 (by decide)), z_ne (nba 13 (by decide)), z_ne (nba 13 (by decide)), z_ne (nba 13 (by decide)), z_ne (nba 13 (by decide))]
    exact w3 i hi
  · rw [z_cpyi (n := 20) (by omega), z_cpyn (nbb 14 13 (by decide) (by decide)), z_cpyn (nbb 14 12 (by decide) (by decide)), z_cpyn (nbb 14 11 (by decide) (by decide)), z_cpyn (nbb 14 10 (by decide) (by decide)), z_cpyn (nbb 14 9 (by decide) (by decide)), z_cpyn (nbb 14 8 (by decide) (by decide)), z_cpyn (nbb 14 7 (by decide) (by decide)), z_cpyn (nbb 14 6 (by decide) (by decide)), z_ne (nba 14 (by decide)), z_ne (nba 14 (by decide)), z_ne (nba 14 (by decide)), z_ne (nba 14 (by decide)), z_ne (nba 14 (by decide)), z_ne (nba 14 (by decide))]
    exact w4 i hi
theorem X29 {h : ai_H} {a b : Nat} {σ : Nat → Nat → Int32} (d : Nat) (V : zV σ) (hb : zJ h b σ) (dj : ∀ q, zdn 1 b q → ¬ zdn 1 a q) : ∃ h', ai_X (d + 1) 29 [.inr (.inr (23, 0, a)), .inr (.inr (23, 0, b))] h = some ([], h') ∧ h'.2 = h.2 ∧ (∀ q, ¬ zdn 1 a q → h'.1 q = h.1 q) ∧ zJ h' a σ := by
  have b1 : ∀ j, j < 127 → zdn 1 b (ai_ch b j) := fun j hj => Or.inr (by rw [zfp_c hj]; rfl)
  have a1 : ∀ j, j < 127 → zdn 1 a (ai_ch a j) := fun j hj => Or.inr (by rw [zfp_c hj]; rfl)
  have nb : ¬ b = a := fun c => dj b zdn_a (by rw [c]; exact zdn_a)
  have nba : ∀ j, j < 127 → ¬ ai_ch b j = a := fun j hj c => dj _ (b1 j hj) (by rw [c]; exact zdn_a)
  have nbb : ∀ i j, i < 127 → j < 127 → ¬ ai_ch b i = ai_ch a j := fun i j hi hj c => dj _ (b1 i hi) (by rw [c]; exact a1 j hj)
  have na : ∀ j, ¬ a = ai_ch a j := fun j => z_chn
  have nc : ∀ i j, ¬ i = j → ¬ ai_ch a i = ai_ch a j := fun i j hij c => by rw [z_ch] at c; exact hij c
  have e40 : (Int32.toNatClampNeg 40) = 40 := rfl
  have c40 : ∀ o : Option ai_R, ai_cp 0 0 40 40 40 o = o := fun o => zcp_0 (n := 40) (by decide) (by decide) (by decide)
  rw [T29]
  simp only [c40, z_ne nb, e40, z_k0]
  obtain ⟨v0, w⟩ := hb
  obtain ⟨m5, m5', -⟩ := zn_eq V.1.2.2.2.2.2.2.1
  refine ⟨_, rfl, rfl, fun q hq => ?_, ?_, fun j hj => ⟨?_, ?_, ?_, ?_, ?_, ?_⟩⟩
  · have q1 : ¬ q = a := fun c => hq (Or.inl c)
    have q2 : ∀ j, j < 127 → ¬ q = ai_ch a j := fun j hj c => hq (by rw [c]; exact a1 j hj)
    rw [z_cpyn (q2 6 (by decide)), z_cpyn (q2 5 (by decide)), z_cpyn (q2 4 (by decide)), z_cpyn (q2 3 (by decide)), z_cpyn (q2 2 (by decide)), z_cpyn (q2 1 (by decide)), z_ne q1]
  · rw [z_cpyn (na 6), z_cpyn (na 5), z_cpyn (na 4), z_cpyn (na 3), z_cpyn (na 2), z_cpyn (na 1), z_stS]
    exact v0
  · rw [z_cpyn (nc 1 6 (by decide)), z_cpyn (nc 1 5 (by decide)), z_cpyn (nc 1 4 (by decide)), z_cpyn (nc 1 3 (by decide)), z_cpyn (nc 1 2 (by decide)), z_cpyi (n := 40) (by omega), z_ne (nba 1 (by decide))]
    exact (w j hj).1
  · rw [z_cpyn (nc 2 6 (by decide)), z_cpyn (nc 2 5 (by decide)), z_cpyn (nc 2 4 (by decide)), z_cpyn (nc 2 3 (by decide)), z_cpyi (n := 40) (by omega), z_cpyn (nbb 2 1 (by decide) (by decide)), z_ne (nba 2 (by decide))]
    exact (w j hj).2.1
  · rw [z_cpyn (nc 3 6 (by decide)), z_cpyn (nc 3 5 (by decide)), z_cpyn (nc 3 4 (by decide)), z_cpyi (n := 40) (by omega), z_cpyn (nbb 3 2 (by decide) (by decide)), z_cpyn (nbb 3 1 (by decide) (by decide)), z_ne (nba 3 (by decide))]
    exact (w j hj).2.2.1
  · rw [z_cpyn (nc 4 6 (by decide)), z_cpyn (nc 4 5 (by decide)), z_cpyi (n := 40) (by omega), z_cpyn (nbb 4 3 (by decide) (by decide)), z_cpyn (nbb 4 2 (by decide) (by decide)), z_cpyn (nbb 4 1 (by decide) (by decide)), z_ne (nba 4 (by decide))]
    exact (w j hj).2.2.2.1
  · rw [z_cpyn (nc 5 6 (by decide)), z_cpyi (n := 40) (by omega), z_cpyn (nbb 5 4 (by decide) (by decide)), z_cpyn (nbb 5 3 (by decide) (by decide)), z_cpyn (nbb 5 2 (by decide) (by decide)), z_cpyn (nbb 5 1 (by decide) (by decide)), z_ne (nba 5 (by decide))]
    exact (w j hj).2.2.2.2.1
  · rw [z_cpyi (n := 40) (by omega), z_cpyn (nbb 6 5 (by decide) (by decide)), z_cpyn (nbb 6 4 (by decide) (by decide)), z_cpyn (nbb 6 3 (by decide) (by decide)), z_cpyn (nbb 6 2 (by decide) (by decide)), z_cpyn (nbb 6 1 (by decide) (by decide)), z_ne (nba 6 (by decide))]
    exact (w j hj).2.2.2.2.2
/-- a state becomes another; its coin as far as it is asked -/
theorem X72 {h : ai_H} {a b T0 T : Nat} {σ : Nat → Nat → Int32} (d : Nat) (V : zV σ) (hb : zS h b T0 σ) (hT : T ≤ 5) (ka : ∀ k, k < 12 → zLk h (ai_ch (ai_ch a 1) k) (zmost k)) (dj : ∀ q, zbl b q → ¬ zbl a q) : ∃ h', ai_X (d + 3) 72 [.inr (.inr (28, 0, a)), .inr (.inr (28, 0, b)), .inl (nI T)] h = some ([], h') ∧ h'.2 = h.2 ∧ (∀ q, ¬ zbl a q → h'.1 q = h.1 q) ∧ zC h' (ai_ch a 0) σ ∧ zD h' (ai_ch a 1) σ ∧ zJ h' (ai_ch a 2) σ ∧ (∀ t, t < T → h'.1 (ai_ch a 3) t = h.1 (ai_ch b 3) t) ∧ ∀ t, T ≤ t → h'.1 (ai_ch a 3) t = h.1 (ai_ch a 3) t := by
  have z1 : ∀ {c j q : Nat}, j < 127 → zdn 1 (ai_ch c j) q → zbl c q := fun {c j q} hj x => by
    rcases (show q = ai_ch c j ∨ zfp q = ai_ch c j from x) with x | x
    · exact Or.inl (by rw [x, zfp_c hj])
    · exact Or.inr (Or.inl (by rw [x, zfp_c hj]))
  have z2 : ∀ {c j q : Nat}, j < 127 → zdn 2 (ai_ch c j) q → zbl c q := fun {c j q} hj x => by
    rcases (show q = ai_ch c j ∨ zdn 1 (ai_ch c j) (zfp q) from x) with x | x
    · exact Or.inl (by rw [x, zfp_c hj])
    · rcases (show zfp q = ai_ch c j ∨ zfp (zfp q) = ai_ch c j from x) with x | x
      · exact Or.inr (Or.inl (by rw [x, zfp_c hj]))
      · exact Or.inr (Or.inr (by rw [x, zfp_c hj]))
  obtain ⟨s1, s2, s3, -, s5⟩ := hb
  obtain ⟨g1, u1, u2, u3, u4⟩ := X11 (a := ai_ch a 0) (b := ai_ch b 0) (d + 1) V s1 (fun q x y => dj q (z1 (by decide) x) (z1 (by decide) y))
  have u1 : ai_X (d + 2) 11 [.inr (.inr (20, 0, ai_ch a 0)), .inr (.inr (20, 0, ai_ch b 0))] h = some ([], g1) := u1
  have d1 : zD g1 (ai_ch b 1) σ := zD_c (fun q hq => u3 q (fun c => dj q (z2 (j := 1) (by decide) hq) (z1 (by decide) c))) s2
  obtain ⟨g2, y1, y2, y3, y4⟩ := X19 (a := ai_ch a 1) (b := ai_ch b 1) d V d1 (fun k hk => by unfold zLk; rw [u2]; exact ka k hk) (fun k hk => by unfold zLk; rw [u2]; exact s5 k hk) (fun q x y => dj q (z2 (by decide) x) (z2 (by decide) y))
  have j1 : zJ g2 (ai_ch b 2) σ := zJ_c (fun q hq => by rw [y3 q (fun c => dj q (z1 (j := 2) (by decide) hq) (z2 (by decide) c)), u3 q (fun c => dj q (z1 (j := 2) (by decide) hq) (z1 (by decide) c))]) s3
  obtain ⟨g3, w1, w2, w3, w4⟩ := X29 (a := ai_ch a 2) (b := ai_ch b 2) (d + 1) V j1 (fun q x y => dj q (z1 (by decide) x) (z1 (by decide) y))
  have w1 : ai_X (d + 2) 29 [.inr (.inr (23, 0, ai_ch a 2)), .inr (.inr (23, 0, ai_ch b 2))] g2 = some ([], g3) := w1
  have fr3 : ∀ q, ¬ zbl a q → g3.1 q = h.1 q := fun q hq => by rw [w3 q (fun c => hq (z1 (j := 2) (by decide) c)), y3 q (fun c => hq (z2 (j := 1) (by decide) c)), u3 q (fun c => hq (z1 (j := 0) (by decide) c))]
  have nab : ¬ ai_ch b 3 = ai_ch a 3 := fun c => dj _ (zbl_1 (a := b) (j := 3) (by decide)) (by rw [c]; exact zbl_1 (by decide))
  have b3 : g3.1 (ai_ch b 3) = h.1 (ai_ch b 3) := fr3 _ (dj _ (zbl_1 (a := b) (j := 3) (by decide)))
  have a3 : g3.1 (ai_ch a 3) = h.1 (ai_ch a 3) := by rw [w3 _ (zdn_b (by decide) (by decide)), y3 _ (zdn_b (by decide) (by decide)), u3 _ (zdn_b (by decide) (by decide))]
  have K : ∀ q t, t + q = T → ∀ g : ai_H, g.2 = g3.2 → (∀ c, ¬ c = ai_ch a 3 → g.1 c = g3.1 c) → (∀ i, i < t → g.1 (ai_ch a 3) i = h.1 (ai_ch b 3) i) → (∀ i, t ≤ i → g.1 (ai_ch a 3) i = h.1 (ai_ch a 3) i) → ∃ h', ai_E (d + 2) 72 35 [some (.inr (.inr (28, 0, a))), some (.inr (.inr (28, 0, b))), some (.inl (nI T)), some (.inl (nI t))] [] g = some ([], h') ∧ h'.2 = g3.2 ∧ (∀ c, ¬ c = ai_ch a 3 → h'.1 c = g3.1 c) ∧ (∀ i, i < T → h'.1 (ai_ch a 3) i = h.1 (ai_ch b 3) i) ∧ ∀ i, T ≤ i → h'.1 (ai_ch a 3) i = h.1 (ai_ch a 3) i := by
    intro q
    induction q with
    | zero =>
      intro t ht g e2 e1 ea eb
      have ht : t = T := by omega
      subst ht
      exact ⟨g, by rw [T72_35, if_pos (by rw [z_le]; omega)], e2, e1, ea, eb⟩
    | succ q ih =>
      intro t ht g e2 e1 ea eb
      have i5 : ∀ f : Nat → Option ai_R, ai_ix (nI t) 5 f = f t := fun f => z_ix (by omega) (by decide)
      rw [T72_35, if_neg (by rw [nI_leI (by omega) (by omega)]; omega), if_neg (by rw [show (5 : Int32) = nI 5 from rfl, nI_leI (by omega) (by omega)]; omega), i5, i5, nI_1, e1 _ nab, b3]
      refine ih (t + 1) (by omega) _ e2 (fun c hc => by rw [z_ne hc]; exact e1 c hc) (fun i hi => ?_) (fun i hi => ?_)
      · rw [z_st1]
        by_cases c : i = t
        · subst c; rw [if_pos ⟨rfl, rfl⟩]
        · rw [if_neg (fun x => c x.2)]; exact ea i (by omega)
      · rw [z_st1, if_neg (by omega)]; exact eb i (by omega)
  obtain ⟨h', k1, k2, k3, k4, k5⟩ := K T 0 (Nat.zero_add _) g3 rfl (fun _ _ => rfl) (fun i hi => absurd hi (Nat.not_lt_zero _)) (fun i _ => by rw [a3])
  have m1 : ∀ j q, j < 127 → ¬ j = 3 → zdn 2 (ai_ch a j) q → ¬ q = ai_ch a 3 := fun j q hj h3 x c => by
    rw [c] at x
    exact zdn_b (by decide) (fun e => h3 e.symm) x
  refine ⟨h', ?_, by rw [k2, w2, y2, u2], fun q hq => ?_, zC_c (h := g3) (h' := h') (fun q hq => ?_) (zC_c (h := g2) (h' := g3) (fun q hq => ?_) (zC_c (h := g1) (h' := g2) (fun q hq => ?_) u4)), zD_c (h := g3) (h' := h') (fun q hq => ?_) (zD_c (h := g2) (h' := g3) (fun q hq => ?_) y4), zJ_c (h := g3) (h' := h') (fun q hq => ?_) w4, k4, k5⟩
  · rw [T72, u1]
    simp only [z_bv]
    rw [y1]
    simp only [z_bv]
    rw [w1]
    simp only [z_bv]
    exact k1
  · rw [k3 q (fun c => hq (by rw [c]; exact zbl_1 (by decide)))]
    exact fr3 q hq
  · exact k3 q (m1 0 q (by decide) (by decide) (zdn_s hq))
  · refine w3 q fun c => ?_
    rcases hq with e | e
    · rw [e] at c; exact zdn_b (by decide) (by decide) c
    · rcases (show q = ai_ch a 2 ∨ zfp q = ai_ch a 2 from c) with c | c
      · rw [c, zfp_c (by decide)] at e; exact z_chn e
      · rw [c, z_ch] at e; omega
  · refine y3 q fun c => ?_
    rcases hq with e | e
    · rw [e] at c; exact zdn_b (by decide) (by decide) c
    · rcases (show q = ai_ch a 1 ∨ zdn 1 (ai_ch a 1) (zfp q) from c) with c | c
      · rw [c, zfp_c (by decide)] at e; exact z_chn e
      · rw [e] at c; exact zdn_b (by decide) (by decide) c
  · exact k3 q (m1 1 q (by decide) (by decide) hq)
  · refine w3 q fun c => ?_
    have hq : zdn 2 (ai_ch a 1) q := hq
    rcases (show q = ai_ch a 2 ∨ zfp q = ai_ch a 2 from c) with c | c
    · rw [c] at hq; exact zdn_b (by decide) (by decide) hq
    · rcases (show q = ai_ch a 1 ∨ zdn 1 (ai_ch a 1) (zfp q) from hq) with e | e
      · rw [e, zfp_c (by decide)] at c; exact z_chn c
      · rw [c] at e; exact zdn_b (by decide) (by decide) e
  · exact k3 q (m1 2 q (by decide) (by decide) (zdn_s hq))
