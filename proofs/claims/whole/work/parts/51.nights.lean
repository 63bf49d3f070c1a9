/-! beside: the nights -/
theorem zsm_0 {f : Nat → Int32} : ∀ {n}, (∀ i, i < n → f i = 0) → zsm f n = 0 := by
  intro n
  induction n with
  | zero => intro _; rfl
  | succ n ih =>
    intro h
    show zsm f n + f n = 0
    rw [ih fun i hi => h i (by omega), h n (by omega), Int32.add_zero]
theorem zsm_one {f : Nat → Int32} {j : Nat} : ∀ {n}, j < n → (∀ i, i < n → ¬ i = j → f i = 0) → zsm f n = f j := by
  intro n
  induction n with
  | zero => intro h; omega
  | succ n ih =>
    intro hj h
    show zsm f n + f n = f j
    by_cases c : n = j
    · rw [zsm_0 fun i hi => h i (by omega) (by omega), Int32.zero_add, c]
    · rw [ih (by omega) fun i hi => h i (by omega), h n (by omega) c, Int32.add_zero]
theorem zsm_add {f g : Nat → Int32} : ∀ n, zsm (fun i => f i + g i) n = zsm f n + zsm g n := by
  intro n
  induction n with
  | zero => show (0 : Int32) = 0 + 0; rw [Int32.add_zero]
  | succ n ih =>
    show zsm (fun i => f i + g i) n + (f n + g n) = zsm f n + f n + (zsm g n + g n)
    rw [ih, Int32.add_assoc, Int32.add_assoc, ← Int32.add_assoc (zsm g n), Int32.add_comm (zsm g n) (f n), Int32.add_assoc (f n)]
theorem zsm_x (F : Nat → Nat → Int32) (n : Nat) : ∀ m, zsm (fun i => zsm (F i) n) m = zsm (fun x => zsm (fun i => F i x) m) n := by
  intro m
  induction m with
  | zero =>
    show (0 : Int32) = _
    rw [zsm_0]
    intro i _
    rfl
  | succ m ih =>
    show zsm (fun i => zsm (F i) n) m + zsm (F m) n = zsm (fun x => zsm (fun i => F i x) m + F m x) n
    rw [ih, zsm_add]
theorem zcnt_ext {p : Nat → Prop} [DecidablePred p] {n m : Nat} (h : n ≤ m) (h2 : ∀ t, n ≤ t → t < m → ¬ p t) : zcnt p m = zcnt p n := by
  have : ∀ j, n + j ≤ m → zcnt p (n + j) = zcnt p n := by
    intro j
    induction j with
    | zero => intro _; rfl
    | succ j ih =>
      intro hj
      show zcnt p (n + j) + (if p (n + j) then 1 else 0) = _
      rw [ih (by omega), if_neg (h2 _ (by omega) (by omega))]
      rfl
  have := this (m - n) (by omega)
  rw [show n + (m - n) = m by omega] at this
  exact this
theorem zcnt_not {p : Nat → Prop} [DecidablePred p] : ∀ n, zcnt p n + zcnt (fun i => ¬ p i) n = n := by
  intro n
  induction n with
  | zero => rfl
  | succ n ih =>
    show zcnt p n + (if p n then 1 else 0) + (zcnt (fun i => ¬ p i) n + (if ¬ p n then 1 else 0)) = n + 1
    by_cases c : p n
    · rw [if_pos c, if_neg (fun q => q c)]; omega
    · rw [if_neg c, if_pos c]; omega
theorem nI_subN {a b : Nat} (h : b ≤ a) (ha : a < 2147483648) : nI a - nI b = nI (a - b) := by
  rw [z_eq, z_sub] <;> (try rw [z_T (by omega), z_T (by omega)]) <;> (try rw [z_T (by omega)]) <;> omega
/-- the taps open -/
def zopen (σ : Nat → Nat → Int32) (dd kn : Int32) : Nat := zcnt (fun j => ¬ zshut σ (nI j) dd kn = true) (zn σ 1)
theorem X41o {h : ai_H} (d : Nat) (dd kn : Int32) (hr : zR h) : ∃ c, ai_X (d + 1) 41 [.inr (.inr (25, 0, 268452097)), .inl dd, .inl kn] h = some ([.inl (nI c)], h) ∧ ∀ d' h', ai_X (d' + 1) 312 [.inl (nI c)] h' = some ([.inl (nI (zn (zsl (zMv h) 0) 1 - zopen (zsl (zMv h) 0) dd kn))], h') := by
  obtain ⟨b0, b1, b2, b8, b5, b4, b3, V⟩ := zR_b hr
  refine ⟨_, X41k (k := 0) d dd kn hr (by decide) (by decide), fun d' h' => ?_⟩
  rw [X312B d' h' (show 24 ≤ 31 by decide), zcnt_ext (n := zn (zsl (zMv h) 0) 1) b1.2.2]
  · have := zcnt_not (p := fun t => zsob (nI t) dd kn (zled (zsl (zMv h) 0) (nI 0) (zn (zsl (zMv h) 0) 4)) = true) (zn (zsl (zMv h) 0) 1)
    have e : zopen (zsl (zMv h) 0) dd kn = zcnt (fun t => ¬ zsob (nI t) dd kn (zled (zsl (zMv h) 0) (nI 0) (zn (zsl (zMv h) 0) 4)) = true) (zn (zsl (zMv h) 0) 1) := rfl
    rw [← e] at this
    rw [show zcnt (fun t => zsob (nI t) dd kn (zled (zsl (zMv h) 0) (nI 0) (zn (zsl (zMv h) 0) 4)) = true) (zn (zsl (zMv h) 0) 1) = zn (zsl (zMv h) 0) 1 - zopen (zsl (zMv h) 0) dd kn by omega]
  · intro t h1 h2
    rw [zsob_no (k := 0) V (by decide) (by decide) (by decide) (by decide) h1 h2]
    decide
/-- a day's expected -/
def zgn (σ : Nat → Nat → Int32) (kn : Int32) (x : Nat) : Int32 := if 0 < zcha σ (nI x) kn (zn σ 4) then zcha σ (nI x) kn (zn σ 4) * nI (zopen σ (nI x) kn) else 0
def zH1 (σ : Nat → Nat → Int32) (f kn : Int32) (x : Nat) : Int32 := if f ≤ nI x then zgn σ kn x else 0
/-- a row's expected, if it is the last of its day -/
def zc1 (σ : Nat → Nat → Int32) (f t kn : Int32) (l : List zR4) (i : Nat) : Int32 := if zsp f t kn (l.getD i zrN) ∧ zlat 0 (l.getD i zrN).2.1 kn l = some i then (l.getD i zrN).2.2.1 * nI (zopen σ (l.getD i zrN).2.1 kn) else 0
theorem zc1_sum {σ : Nat → Nat → Int32} {f t kn : Int32} (V : zV σ) (ht : 0 ≤ t.toInt ∧ t.toInt ≤ 999) : zsm (zc1 σ f t kn (zled σ 5 (zn σ 4))) (zled σ 5 (zn σ 4)).length = zsm (zH1 σ f kn) (t.toInt.toNat + 1) := by
  have hbest := fun x => zlat_v 0 (nI x) kn (zled σ 5 (zn σ 4))
  have hmem := fun i (hi : i < (zled σ 5 (zn σ 4)).length) => zled_mem.mp (z_mem hi)
  have hb2 : ∀ x, zlv (zok 0 (nI x) kn) (zled σ 5 (zn σ 4)) = (zbest σ 5 0 (nI x) kn (zn σ 4)).map (zrow σ) := fun x => zled_best σ 5 0 (nI x) kn (zn σ 4)
  generalize zled σ 5 (zn σ 4) = l at *
  have hday : ∀ i, i < l.length → 0 ≤ (l.getD i zrN).2.1.toInt ∧ (l.getD i zrN).2.1.toInt ≤ 999 := by
    intro i hi
    obtain ⟨e, he, h1, h2⟩ := hmem i hi
    have v := (V.2.2.2.2.1.1 e he).2.1
    rw [h2]
    exact v
  have A : zsm (zc1 σ f t kn l) l.length = zsm (fun i => zsm (fun x => if (l.getD i zrN).2.1 = nI x then zc1 σ f t kn l i else 0) (t.toInt.toNat + 1)) l.length := by
    refine zsm_c fun i hi => ?_
    have hd := hday i hi
    by_cases c : (l.getD i zrN).2.1 ≤ t
    · rw [z_le] at c
      have e : (l.getD i zrN).2.1 = nI (l.getD i zrN).2.1.toInt.toNat := z_nat hd.1
      rw [zsm_one (j := (l.getD i zrN).2.1.toInt.toNat) (by omega)]
      · rw [← e, if_pos rfl]
      · intro x hx hn
        rw [if_neg]
        rw [e, nI_eq (by omega) (by omega)]
        exact fun q => hn q.symm
    · have z : zc1 σ f t kn l i = 0 := by
        unfold zc1
        rw [if_neg (fun q => c q.1.2.1)]
      rw [z, zsm_0]
      intro x _
      by_cases g : (l.getD i zrN).2.1 = nI x
      · rw [if_pos g]
      · rw [if_neg g]
  rw [A, zsm_x]
  refine zsm_c fun x hx => ?_
  have hb := hbest x
  rw [hb2 x] at hb
  have hc := zcha_best (dd := nI x) (kn := kn) V (zn σ 4) (Nat.le_refl _)
  cases e : zlat 0 (nI x) kn l with
  | none =>
    rw [e] at hb
    cases e2 : zbest σ 5 0 (nI x) kn (zn σ 4) with
    | some b => rw [e2] at hb; cases hb
    | none =>
      rw [e2] at hc
      dsimp only at hc
      have z : zH1 σ f kn x = 0 := by
        unfold zH1 zgn
        rw [hc]
        by_cases g : f ≤ nI x
        · rw [if_pos g, if_neg (by decide)]
        · rw [if_neg g]
      rw [z, zsm_0]
      intro i hi
      by_cases g : (l.getD i zrN).2.1 = nI x
      · rw [if_pos g]
        unfold zc1
        rw [if_neg]
        rintro ⟨-, q⟩
        rw [g, e] at q
        cases q
      · rw [if_neg g]
  | some j =>
    have hj := zlst_some e
    rw [e] at hb
    cases e2 : zbest σ 5 0 (nI x) kn (zn σ 4) with
    | none => rw [e2] at hb; cases hb
    | some b =>
      rw [e2] at hb hc
      have er : l.getD j zrN = zrow σ b := by simpa using hb
      have eb := (zbest_p e2)
      have e3 : (l.getD j zrN).2.1 = σ 24 b := by rw [er]; rfl
      have e4 : (l.getD j zrN).2.2.1 = σ 25 b := by rw [er]; exact zrow25 (by rw [eb.2.1]; decide)
      have v25 := (V.2.2.2.2.1.1 b eb.1).2.2.2.1
      unfold zi at v25
      rw [zsm_one (j := j) hj.2.1]
      · dsimp only at hc
        rw [e3]
        unfold zH1 zgn
        rw [hc]
        by_cases g : σ 24 b = nI x
        · rw [if_pos g, if_pos g]
          have sat : zlat 0 (l.getD j zrN).2.1 kn l = some j := by rw [e3, g]; exact e
          unfold zc1
          by_cases g2 : f ≤ nI x
          · have sp : zsp f t kn (l.getD j zrN) := ⟨by rw [e3, g]; exact g2, by rw [e3, g, z_le, z_T (by omega)]; omega, hj.1.2.1⟩
            rw [if_pos ⟨sp, sat⟩, if_pos g2, e3, e4, g]
            by_cases g3 : 0 < σ 25 b
            · rw [if_pos g3]
            · rw [if_neg g3]
              have : σ 25 b = 0 := by
                rw [z_lt] at g3
                rw [z_eq]
                simp only [zl0, zl1, zl2, zl3, zl4, zl5, zl6, zl7, zl8, zl9, zl10, zl12, zl15, zl16, zl20, zl22, zl23, zl24, zl27, zl30, zl31, zl32, zl40, zl46, zl48, zl50, zl57, zl59, zl60, zl61, zl62, zl63, zl80, zl96, zl97, zl99, zl100, zl122, zl255, zl360, zl500, zl999, zl9999, zl60000, zl99999, zl16777215, zl1073741824, zlm1, zlm2, zlm3] at g3 ⊢
                omega
              rw [this, Int32.zero_mul]
          · rw [if_neg g2, if_neg]
            rintro ⟨⟨q, -⟩, -⟩
            rw [e3, g] at q
            exact g2 q
        · rw [if_neg g, if_neg g]
          by_cases g2 : f ≤ nI x
          · rw [if_pos g2, if_neg (by decide)]
          · rw [if_neg g2]
      · intro i hi hn
        by_cases g : (l.getD i zrN).2.1 = nI x
        · rw [if_pos g]
          unfold zc1
          rw [if_neg]
          rintro ⟨-, q⟩
          rw [g, e] at q
          exact hn (Option.some.inj q).symm
        · rw [if_neg g]
theorem X179 {h : ai_H} (d : Nat) (f t kn : Int32) (hr : zR h) (ht : 0 ≤ t.toInt ∧ t.toInt ≤ 999) : ai_X (d + 3) 179 [.inr (.inr (31, 0, 128)), .inl f, .inl t, .inl kn] h = some ([.inl (zsm (zH1 (zsl (zMv h) 0) f kn) (t.toInt.toNat + 1))], h) := by
  obtain ⟨b0, b1, b2, b8, b5, b4, b3, V⟩ := zR_b hr
  obtain ⟨l1, lk, l3, l4⟩ := zR_led hr (k := 5) (by decide)
  obtain ⟨k0, k1, k2, k3⟩ := id lk
  have k1' : (h.2.2.2.1 34361869058).2 = zmost 5 := k1
  have k2' : (h.2.2.2.1 34361869059).2 = zmost 5 := k2
  have S := zc1_sum (f := f) (kn := kn) V ht
  have S' : zsm (zc1 (zsl (zMv h) 0) f t kn (zled (zsl (zMv h) 0) (nI 5) (zn (zsl (zMv h) 0) 4))) (zled (zsl (zMv h) 0) (nI 5) (zn (zsl (zMv h) 0) 4)).length = _ := S
  rw [← S']
  generalize zled (zsl (zMv h) 0) (nI 5) (zn (zsl (zMv h) 0) 4) = l at *
  have K : ∀ k i, i + k = l.length → ∀ z7 z8, ai_E (d + 2) 179 18 [some (.inr (.inr (31, 0, 128))), some (.inl f), some (.inl t), some (.inl kn), some (.inr (.inr (25, 0, 268452102))), some (.inl (zsm (zc1 (zsl (zMv h) 0) f t kn l) i)), some (.inl (nI i)), z7, z8] [] h = some ([.inl (zsm (zc1 (zsl (zMv h) 0) f t kn l) l.length)], h) := by
    intro k
    induction k with
    | zero =>
      intro i hi z7 z8
      have hi : i = l.length := by omega
      subst hi
      rw [T179_18, show h.1 268452102 4 = nI l.length from l1.1, if_pos (by rw [z_le]; omega)]
    | succ k ih =>
      intro i hi z7 z8
      have ih := fun z7 z8 => ih (i + 1) (by omega) z7 z8
      have er := zL_row l1 (i := i) (by omega)
      have e1 : (l.getD i zrN).2.1 = h.1 34361869058 i := by rw [er]; rfl
      have e2 : (l.getD i zrN).2.2.1 = h.1 34361869059 i := by rw [er]; rfl
      have ix : ∀ f : Nat → Option ai_R, ai_ix (nI i) (zmost 5) f = f i := fun f => z_ix (by omega) (by omega)
      have g1 : zsm (zc1 (zsl (zMv h) 0) f t kn l) (i + 1) = zsm (zc1 (zsl (zMv h) 0) f t kn l) i + zc1 (zsl (zMv h) 0) f t kn l i := rfl
      rw [g1] at ih
      unfold zc1 at ih ⊢
      rw [T179_18, show h.1 268452102 4 = nI l.length from l1.1, if_neg (by rw [nI_leI (by omega) (by omega)]; omega), k1', ix, show ai_X (d + 2) 38 [.inr (.inr (25, 0, 268452102)), .inl (nI i), .inl f, .inl t, .inl kn] h = _ from X38 (d + 1) f t kn l1 lk l3 (by omega) (by omega)]
      simp only [z_bi, zb_0, nI_1, ← e1]
      by_cases q : zsp f t kn (l.getD i zrN)
      · rw [if_neg (fun x => x q), show ai_X (d + 2) 39 [.inr (.inr (25, 0, 268452102)), .inl 0, .inl (l.getD i zrN).2.1, .inl kn] h = _ from X39 (d + 1) 0 (l.getD i zrN).2.1 kn l1 lk l3 (by omega)]
        simp only [z_bi]
        have ez : zoI (zlat 0 (l.getD i zrN).2.1 kn l) = nI i ↔ zlat 0 (l.getD i zrN).2.1 kn l = some i := by
          cases e : zlat 0 (l.getD i zrN).2.1 kn l with
          | none =>
            refine ⟨fun q => ?_, fun q => by cases q⟩
            have q : (-1 : Int32) = nI i := q
            rw [z_eq, z_T (by omega)] at q
            simp only [zl0, zl1, zl2, zl3, zl4, zl5, zl6, zl7, zl8, zl9, zl10, zl12, zl15, zl16, zl20, zl22, zl23, zl24, zl27, zl30, zl31, zl32, zl40, zl46, zl48, zl50, zl57, zl59, zl60, zl61, zl62, zl63, zl80, zl96, zl97, zl99, zl100, zl122, zl255, zl360, zl500, zl999, zl9999, zl60000, zl99999, zl16777215, zl1073741824, zlm1, zlm2, zlm3] at q
            omega
          | some j =>
            have hj := zlat_lt e
            refine ⟨fun q => ?_, fun q => by cases q; rfl⟩
            have q : nI j = nI i := q
            rw [nI_eq (by omega) (by omega)] at q
            rw [q]
        by_cases q2 : zlat 0 (l.getD i zrN).2.1 kn l = some i
        · rw [if_pos (ez.mpr q2)]
          obtain ⟨c, c1, c2⟩ := X41o (d + 1) (l.getD i zrN).2.1 kn hr
          rw [c1]
          simp only [z_bi]
          rw [c2]
          simp only [z_bi, k2', ix, ← e2]
          have lo : zopen (zsl (zMv h) 0) (l.getD i zrN).2.1 kn ≤ zn (zsl (zMv h) 0) 1 := zcnt_le _
          rw [b1.1, nI_subN (by omega) (by omega), show zn (zsl (zMv h) 0) 1 - (zn (zsl (zMv h) 0) 1 - zopen (zsl (zMv h) 0) (l.getD i zrN).2.1 kn) = zopen (zsl (zMv h) 0) (l.getD i zrN).2.1 kn by omega]
          rw [if_pos ⟨q, q2⟩] at ih
          exact ih _ _
        · rw [if_neg (fun x => q2 (ez.mp x))]
          rw [if_neg (fun x => q2 x.2), Int32.add_zero] at ih
          exact ih _ _
      · rw [if_pos q]
        rw [if_neg (fun x => q x.1), Int32.add_zero] at ih
        exact ih _ _
  rw [T179]
  exact K l.length 0 (by omega) _ _
