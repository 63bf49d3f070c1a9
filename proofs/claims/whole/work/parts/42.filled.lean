/-! filled, busiest -/
/-- a row of a span of days, known -/
abbrev zsp (f t kn : Int32) (r : zR4) : Prop := f ≤ r.2.1 ∧ r.2.1 ≤ t ∧ r.2.2.2 ≤ kn
theorem M296 {h : ai_H} {e : Nat} (d : Nat) (k f t kn : Int32) (he : e < 2400) : ai_X (d + 2) 296 [.inr (.inr (32, 0, 16128)), .inl (nI e), .inl k, .inl f, .inl t, .inl kn] h = some ([.inl (zb (zsl (zMv h) 0 22 e = k ∧ zsp f t kn (zrow (zsl (zMv h) 0) e)))], h) := by
  have e22 : h.1 2064407 e = zsl (zMv h) 0 22 e := (zs0 (f := 22) (by omega)).symm
  have e24 : h.1 2064409 e = zsl (zMv h) 0 24 e := (zs0 (f := 24) (by omega)).symm
  have e26 : h.1 2064411 e = zsl (zMv h) 0 26 e := (zs0 (f := 26) (by omega)).symm
  have r1 : (zrow (zsl (zMv h) 0) e).2.1 = zsl (zMv h) 0 24 e := rfl
  have r2 : (zrow (zsl (zMv h) 0) e).2.2.2 = zsl (zMv h) 0 26 e := rfl
  have ix : ∀ f : Nat → Option ai_R, ai_ix (nI e) 2400 f = f e := fun f => z_ix he (by decide)
  rw [T296]
  simp only [ix, e22, e24, e26, M186, z_bi, zb_0, z_b0, z_b1]
  unfold zsp
  rw [r1, r2]
  by_cases c1 : zsl (zMv h) 0 22 e = k
  · rw [if_pos c1]
    by_cases c2 : f.toInt ≤ (zsl (zMv h) 0 24 e).toInt ∧ (zsl (zMv h) 0 24 e).toInt ≤ t.toInt
    · rw [if_neg (fun q => q c2)]
      by_cases c3 : kn < zsl (zMv h) 0 26 e
      · rw [if_pos c3, zb_f]
        rintro ⟨-, -, -, q⟩
        rw [z_le] at q
        rw [z_lt] at c3
        omega
      · rw [if_neg c3, zb_t]
        refine ⟨c1, ?_, ?_, ?_⟩
        · rw [z_le]; exact c2.1
        · rw [z_le]; exact c2.2
        · rw [z_le]; rw [z_lt] at c3; omega
    · rw [if_pos c2, zb_f]
      rintro ⟨-, q1, q2, -⟩
      rw [z_le] at q1 q2
      exact c2 ⟨q1, q2⟩
  · rw [if_neg c1, zb_f (fun q => c1 q.1)]
theorem M297 {h : ai_H} (d : Nat) (x0 x1 x2 : Int32) : ai_X (d + 2) 297 [.inl x0, .inl x1, .inl x2] h = some ([.inl (zb ((0 ≤ x0.toInt ∧ x0.toInt ≤ 999) ∧ (0 ≤ x1.toInt ∧ x1.toInt ≤ 999) ∧ x0.toInt ≤ x1.toInt ∧ (0 ≤ x2.toInt ∧ x2.toInt ≤ 999)))], h) := by
  rw [T297]
  simp only [z_bi, zl0, zl1, zl2, zl3, zl4, zl5, zl6, zl7, zl8, zl9, zl10, zl12, zl15, zl16, zl20, zl22, zl23, zl24, zl27, zl30, zl31, zl32, zl40, zl46, zl48, zl50, zl57, zl59, zl60, zl61, zl62, zl63, zl80, zl96, zl97, zl99, zl100, zl122, zl255, zl360, zl500, zl999, zl9999, zl60000, zl99999, zl16777215, zl1073741824, zlm1, zlm2, zlm3, M187, zb_0, z_b0, z_b1, z_lt]
  by_cases h1 : 0 ≤ x0.toInt ∧ x0.toInt ≤ 999
  · rw [if_neg (fun c => c h1)]
    by_cases h2 : 0 ≤ x1.toInt ∧ x1.toInt ≤ 999
    · rw [if_neg (fun c => c h2)]
      by_cases h4 : x1.toInt < x0.toInt
      · rw [if_pos h4, zb_f (by omega)]
      · rw [if_neg h4]
        by_cases h3 : 0 ≤ x2.toInt ∧ x2.toInt ≤ 999
        · rw [if_neg (fun c => c h3), zb_t ⟨h1, h2, by omega, h3⟩]
        · rw [if_pos h3, zb_f (fun c => h3 c.2.2.2)]
    · rw [if_pos h2, zb_f (fun c => h2 c.2.1)]
  · rw [if_pos h1, zb_f (fun c => h1 c.1)]
/-- bottles of a tap; of all -/
def zbot (l : List zR4) (f t kn : Int32) (j : Nat) : Int32 := zls (fun r => if zsp f t kn r ∧ r.1 = nI j then r.2.2.1 else 0) l
def zbotA (l : List zR4) (f t kn : Int32) : Int32 := zls (fun r => if zsp f t kn r then r.2.2.1 else 0) l
theorem zbot_all {l : List zR4} {f t kn : Int32} {n : Nat} (hn : n ≤ 1000) (hw : ∀ r ∈ l, 0 ≤ r.1.toInt ∧ r.1.toInt < (n : Int)) : zsm (zbot l f t kn) n = zbotA l f t kn := by
  induction l with
  | nil =>
    have : ∀ m, zsm (zbot [] f t kn) m = 0 := by
      intro m
      induction m with
      | zero => rfl
      | succ m ih => show zsm _ m + 0 = 0; rw [ih]; rfl
    exact this n
  | cons x l ih =>
    have ih := ih fun r hr => hw r (List.mem_cons_of_mem _ hr)
    obtain ⟨s, hs, es⟩ := z_rng (hw x List.mem_cons_self)
    have K : ∀ m, m ≤ n → zsm (zbot (x :: l) f t kn) m = (if s < m ∧ zsp f t kn x then x.2.2.1 else 0) + zsm (zbot l f t kn) m := by
      intro m
      induction m with
      | zero => intro _; rw [if_neg (by omega)]; rfl
      | succ m ihm =>
        intro hm
        show zsm (zbot (x :: l) f t kn) m + ((if zsp f t kn x ∧ x.1 = nI m then x.2.2.1 else 0) + zbot l f t kn m) = _ + (zsm (zbot l f t kn) m + zbot l f t kn m)
        rw [ihm (by omega), es]
        simp only [nI_eq (show s < 2 ^ 31 by omega) (show m < 2 ^ 31 by omega)]
        by_cases c : zsp f t kn x
        · rcases Nat.lt_trichotomy s m with g | g | g
          · have g1 : s < m ∧ zsp f t kn x := ⟨g, c⟩
            have g2 : ¬ (zsp f t kn x ∧ s = m) := fun q => by omega
            have g3 : s < m + 1 ∧ zsp f t kn x := ⟨by omega, c⟩
            rw [if_pos g1, if_neg g2, if_pos g3, Int32.zero_add, Int32.add_assoc]
          · have g1 : ¬ (s < m ∧ zsp f t kn x) := fun q => by omega
            have g2 : zsp f t kn x ∧ s = m := ⟨c, g⟩
            have g3 : s < m + 1 ∧ zsp f t kn x := ⟨by omega, c⟩
            rw [if_neg g1, if_pos g2, if_pos g3, Int32.zero_add, ← Int32.add_assoc, ← Int32.add_assoc, Int32.add_comm (zsm _ m)]
          · have g1 : ¬ (s < m ∧ zsp f t kn x) := fun q => by omega
            have g2 : ¬ (zsp f t kn x ∧ s = m) := fun q => by omega
            have g3 : ¬ (s < m + 1 ∧ zsp f t kn x) := fun q => by omega
            rw [if_neg g1, if_neg g2, if_neg g3, Int32.zero_add, Int32.zero_add, Int32.zero_add]
        · rw [if_neg (fun q => c q.2), if_neg (fun q => c q.1), if_neg (fun q => c q.2), Int32.zero_add, Int32.zero_add, Int32.zero_add]
    rw [K n (Nat.le_refl _), ih]
    show _ = (if zsp f t kn x then x.2.2.1 else 0) + zbotA l f t kn
    by_cases c : zsp f t kn x
    · rw [if_pos ⟨hs, c⟩, if_pos c]
    · rw [if_neg (fun q => c q.2), if_neg c]
/-- Arrays.fill of the totals -/
theorem X324 (d : Nat) (h : ai_H) : ∃ h1, ai_X (d + 1) 324 [.inr (.inr (1, 24, 16393)), .inl 0] h = some ([], h1) ∧ zF zXS h h1 ∧ ∀ j, j < 24 → h1.1 16393 j = 0 := by
  have K : ∀ k i, i + k = 24 → ∀ h', zF zXS h h' → (∀ j, j < i → h'.1 16393 j = 0) → ∃ h1, ai_E d 324 5 [some (.inr (.inr (1, 24, 16393))), some (.inl 0), some (.inl (nI i)), some (.inl (nI 24))] [] h' = some ([], h1) ∧ zF zXS h h1 ∧ ∀ j, j < 24 → h1.1 16393 j = 0 := by
    intro k
    induction k with
    | zero =>
      intro i hi h' f g
      have hi : i = 24 := by omega
      subst hi
      exact ⟨h', by rw [T324_5, if_pos (by decide)], f, g⟩
    | succ k ih =>
      intro i hi h' f g
      rw [T324_5, if_neg (by rw [nI_leI (by omega) (by omega)]; omega), z_ix (by omega) (by decide), nI_1]
      refine ih (i + 1) (by omega) _ (zF_st f (Or.inr (Or.inr (Or.inr (Or.inl rfl))))) fun j hj => ?_
      rw [z_st1]
      by_cases c : j = i
      · rw [if_pos ⟨rfl, c⟩]
      · rw [if_neg (fun q => c q.2)]
        exact g j (by omega)
  rw [T324]
  exact K 24 0 (by omega) h zF_rf fun j hj => by omega
theorem zL_F {h h1 : ai_H} {a : Nat} {l : List zR4} (f : zF zXS h h1) (ha : zin a) (hc : ∀ j, j < 127 → zin (ai_ch a j)) (hl : zL h a l) : zL h1 a l :=
  zL_c (funext fun i => f.1 a i (zXS_n ha)) (fun j hj => funext fun i => f.1 _ i (zXS_n (hc j hj))) hl
theorem zin_led {k : Nat} (hk : k < 12) : zin (ai_ch 2097282 k) ∧ ∀ j, j < 127 → zin (ai_ch (ai_ch 2097282 k) j) := by
  have k2 : zfp 2097282 = 16385 := rfl
  refine ⟨Or.inr (Or.inl (by rw [zfp_c (by omega), k2])), fun j hj => Or.inr (Or.inr (by rw [zfp_c hj, zfp_c (by omega), k2]))⟩
theorem X183 {h : ai_H} (d : Nat) (f t kn : Int32) (hr : zR h) : ∃ h1, ai_X (d + 2) 183 [.inr (.inr (31, 0, 128)), .inl f, .inl t, .inl kn] h = some ([], h1) ∧ zF zXS h h1 ∧ ∀ j, j < 24 → h1.1 16393 j = zbot (zled (zsl (zMv h) 0) (nI 9) (zn (zsl (zMv h) 0) 4)) f t kn j := by
  obtain ⟨l1, lk, l3, l4⟩ := zR_led hr (k := 9) (by decide)
  have V : zV (zsl (zMv h) 0) := hr.2.1.2.1 0 (Nat.zero_le _)
  have hwho := zled_who (k := 9) V (by decide) (by decide) (Nat.le_refl _)
  generalize zled (zsl (zMv h) 0) (nI 9) (zn (zsl (zMv h) 0) 4) = l at *
  have K : ∀ k i, i + k = l.length → ∀ h', zF zXS h h' → (∀ j, j < 24 → h'.1 16393 j = zsm (fun i => (fun r => if zsp f t kn r ∧ r.1 = nI j then r.2.2.1 else 0) (l.getD i zrN)) i) → ∃ h1, ai_E (d + 1) 183 23 [some (.inr (.inr (31, 0, 128))), some (.inl f), some (.inl t), some (.inl kn), some (.inr (.inr (25, 0, 268452106))), some (.inl (nI i))] [] h' = some ([], h1) ∧ zF zXS h h1 ∧ ∀ j, j < 24 → h1.1 16393 j = zbot l f t kn j := by
    intro k
    induction k with
    | zero =>
      intro i hi h' fr g
      have hi : i = l.length := by omega
      subst hi
      have l1' := zL_F fr (zin_led (k := 9) (by decide)).1 (zin_led (k := 9) (by decide)).2 l1
      refine ⟨h', by rw [T183_23, show h'.1 268452106 4 = nI l.length from l1'.1, if_pos (by rw [z_le]; omega)], fr, fun j hj => ?_⟩
      rw [g j hj]
      exact zsm_zls (f := fun r => if zsp f t kn r ∧ r.1 = nI j then r.2.2.1 else 0) l
    | succ k ih =>
      intro i hi h' fr g
      have l1' := zL_F fr (zin_led (k := 9) (by decide)).1 (zin_led (k := 9) (by decide)).2 l1
      have lk' : zLk h' (ai_ch 2097282 9) (zmost 9) := by unfold zLk; rw [fr.2]; exact lk
      obtain ⟨k0, k1, k2, k3⟩ := id lk'
      have k0' : (h'.2.2.2.1 34361869569).2 = zmost 9 := k0
      have k2' : (h'.2.2.2.1 34361869571).2 = zmost 9 := k2
      have er := zL_row l1' (i := i) (by omega)
      have e0 : (l.getD i zrN).1 = h'.1 34361869569 i := by rw [er]; rfl
      have e2 : (l.getD i zrN).2.2.1 = h'.1 34361869571 i := by rw [er]; rfl
      have hm : l.getD i zrN ∈ l := by
        rw [List.getD_eq_getElem?_getD, List.getElem?_eq_getElem (show i < l.length by omega)]
        exact List.getElem_mem _
      obtain ⟨s, hs, es⟩ := z_rng (n := 24) (hwho _ hm)
      have ix : ∀ f : Nat → Option ai_R, ai_ix (nI i) (zmost 9) f = f i := fun f => z_ix (by omega) (by omega)
      have is : ∀ f : Nat → Option ai_R, ai_ix (nI s) 24 f = f s := fun f => z_ix hs (by decide)
      rw [T183_23, show h'.1 268452106 4 = nI l.length from l1'.1, if_neg (by rw [nI_leI (by omega) (by omega)]; omega), show ai_X (d + 1) 38 [.inr (.inr (25, 0, 268452106)), .inl (nI i), .inl f, .inl t, .inl kn] h' = _ from X38 d f t kn l1' lk' l3 (by omega) (by omega)]
      simp only [z_bi, zb_0, nI_1, k0', k2', ix, ← e0, es, is, ← e2]
      have eg : ∀ j, zsm (fun i => (fun r => if zsp f t kn r ∧ r.1 = nI j then r.2.2.1 else 0) (l.getD i zrN)) (i + 1) = zsm (fun i => (fun r => if zsp f t kn r ∧ r.1 = nI j then r.2.2.1 else 0) (l.getD i zrN)) i + (if zsp f t kn (l.getD i zrN) ∧ (l.getD i zrN).1 = nI j then (l.getD i zrN).2.2.1 else 0) := fun j => rfl
      by_cases c : zsp f t kn (l.getD i zrN)
      · rw [if_neg (fun q => q c)]
        refine ih (i + 1) (by omega) _ (zF_st fr (Or.inr (Or.inr (Or.inr (Or.inl rfl))))) fun j hj => ?_
        rw [eg j, ← g j hj, es, z_st1]
        simp only [nI_eq (show s < 2 ^ 31 by omega) (show j < 2 ^ 31 by omega)]
        by_cases q : j = s
        · subst q
          rw [if_pos ⟨trivial, rfl⟩, if_pos ⟨c, rfl⟩]
        · rw [if_neg (fun x => q x.2), if_neg (fun x => q x.2.symm), Int32.add_zero]
      · rw [if_pos c]
        refine ih (i + 1) (by omega) _ fr fun j hj => ?_
        rw [eg j, ← g j hj, if_neg (fun x => c x.1), Int32.add_zero]
  obtain ⟨h1, a1, a2, a3⟩ := X324 d h
  rw [T183, a1]
  simp only [z_bv]
  exact K l.length 0 (by omega) h1 a2 fun j hj => by rw [a3 j hj]; rfl
theorem M305 {h : ai_H} (d : Nat) (x f t kn : Int32) (hr : zR h) : ai_X (d + 3) 305 [.inr (.inr (32, 0, 16128)), .inl x, .inl f, .inl t, .inl kn] h = some ([.inl (zls (fun r => if zsp f t kn r ∧ (x < 0 ∨ r.1 = x) then r.2.2.1 else 0) (zled (zsl (zMv h) 0) (nI 9) (zn (zsl (zMv h) 0) 4)))], h) := by
  obtain ⟨b0, b1, b2, b8, b5, b4, b3, V⟩ := zR_b hr
  have i0 : ∀ f : Nat → Option ai_R, ai_ix 0 4 f = f 0 := fun f => z_i0 (by decide) (by decide)
  have K : ∀ k i, i + k = zn (zsl (zMv h) 0) 4 → ai_E (d + 2) 305 6 [some (.inr (.inr (32, 0, 16128))), some (.inl x), some (.inl f), some (.inl t), some (.inl kn), some (.inl (zsm (fun e => if zsl (zMv h) 0 22 e = nI 9 then (fun r => if zsp f t kn r ∧ (x < 0 ∨ r.1 = x) then r.2.2.1 else 0) (zrow (zsl (zMv h) 0) e) else 0) i)), some (.inl (nI i))] [] h = some ([.inl (zsm (fun e => if zsl (zMv h) 0 22 e = nI 9 then (fun r => if zsp f t kn r ∧ (x < 0 ∨ r.1 = x) then r.2.2.1 else 0) (zrow (zsl (zMv h) 0) e) else 0) (zn (zsl (zMv h) 0) 4))], h) := by
    intro k
    induction k with
    | zero =>
      intro i hi
      have hi : i = zn (zsl (zMv h) 0) 4 := by omega
      subst hi
      rw [T305_6, i0, b4.1, if_pos (by rw [z_le]; omega)]
    | succ k ih =>
      intro i hi
      have ih := ih (i + 1) (by omega)
      have e23 : h.1 2064408 i = zsl (zMv h) 0 23 i := (zs0 (f := 23) (by omega)).symm
      have e25 : h.1 2064410 i = zsl (zMv h) 0 25 i := (zs0 (f := 25) (by omega)).symm
      have ix : ∀ f : Nat → Option ai_R, ai_ix (nI i) 2400 f = f i := fun f => z_ix (by omega) (by decide)
      have es : zsm (fun e => if zsl (zMv h) 0 22 e = nI 9 then (fun r => if zsp f t kn r ∧ (x < 0 ∨ r.1 = x) then r.2.2.1 else 0) (zrow (zsl (zMv h) 0) e) else 0) (i + 1) = zsm (fun e => if zsl (zMv h) 0 22 e = nI 9 then (fun r => if zsp f t kn r ∧ (x < 0 ∨ r.1 = x) then r.2.2.1 else 0) (zrow (zsl (zMv h) 0) e) else 0) i + (if zsl (zMv h) 0 22 i = nI 9 then (if zsp f t kn (zrow (zsl (zMv h) 0) i) ∧ (x < 0 ∨ (zrow (zsl (zMv h) 0) i).1 = x) then (zrow (zsl (zMv h) 0) i).2.2.1 else 0) else 0) := rfl
      rw [es] at ih
      rw [T305_6, i0, b4.1, if_neg (by rw [nI_leI (by omega) (by omega)]; omega), show ai_X (d + 2) 296 [.inr (.inr (32, 0, 16128)), .inl (nI i), .inl 9, .inl f, .inl t, .inl kn] h = _ from M296 d (nI 9) f t kn (by omega)]
      simp only [z_bi, zb_0, nI_1, ix, e23, e25]
      have r0 : (zrow (zsl (zMv h) 0) i).1 = zsl (zMv h) 0 23 i := rfl
      by_cases c : zsl (zMv h) 0 22 i = nI 9 ∧ zsp f t kn (zrow (zsl (zMv h) 0) i)
      · have r2 : (zrow (zsl (zMv h) 0) i).2.2.1 = zsl (zMv h) 0 25 i := by
          unfold zrow
          dsimp only
          rw [c.1, if_neg (by decide)]
        rw [if_neg (fun q => q c)]
        rw [if_pos c.1] at ih
        by_cases c1 : x < 0
        · rw [if_pos c1]
          rw [if_pos ⟨c.2, Or.inl c1⟩, r2] at ih
          exact ih
        · rw [if_neg c1]
          by_cases c2 : zsl (zMv h) 0 23 i = x
          · rw [if_pos c2]
            rw [if_pos ⟨c.2, Or.inr (by rw [r0]; exact c2)⟩, r2] at ih
            exact ih
          · rw [if_neg c2]
            rw [if_neg (fun q => by rcases q.2 with q | q; exact c1 q; exact c2 (r0 ▸ q)), Int32.add_zero] at ih
            exact ih
      · rw [if_pos c]
        by_cases c1 : zsl (zMv h) 0 22 i = nI 9
        · rw [if_pos c1, if_neg (fun q => c ⟨c1, q.1⟩), Int32.add_zero] at ih
          exact ih
        · rw [if_neg c1, Int32.add_zero] at ih
          exact ih
  rw [T305, zls_led]
  exact K (zn (zsl (zMv h) 0) 4) 0 (by omega)
theorem zls_c {f g : zR4 → Int32} : ∀ {l}, (∀ r ∈ l, f r = g r) → zls f l = zls g l := by
  intro l
  induction l with
  | nil => intro _; rfl
  | cons x l ih =>
    intro h
    show f x + zls f l = g x + zls g l
    rw [h x List.mem_cons_self, ih fun r hr => h r (List.mem_cons_of_mem _ hr)]
theorem M305t {h : ai_H} {j : Nat} (d : Nat) (f t kn : Int32) (hr : zR h) (hj : j < 30000) : ai_X (d + 3) 305 [.inr (.inr (32, 0, 16128)), .inl (nI j), .inl f, .inl t, .inl kn] h = some ([.inl (zbot (zled (zsl (zMv h) 0) (nI 9) (zn (zsl (zMv h) 0) 4)) f t kn j)], h) := by
  rw [M305 d (nI j) f t kn hr]
  have e : zls (fun r => if zsp f t kn r ∧ (nI j < 0 ∨ r.1 = nI j) then r.2.2.1 else 0) (zled (zsl (zMv h) 0) (nI 9) (zn (zsl (zMv h) 0) 4)) = zbot (zled (zsl (zMv h) 0) (nI 9) (zn (zsl (zMv h) 0) 4)) f t kn j := by
    refine zls_c fun r _ => ?_
    have n0 : ¬ nI j < 0 := nI_pos (by omega)
    by_cases c : zsp f t kn r ∧ r.1 = nI j
    · rw [if_pos ⟨c.1, Or.inr c.2⟩, if_pos c]
    · rw [if_neg c, if_neg]
      rintro ⟨q1, q2 | q2⟩
      · exact n0 q2
      · exact c ⟨q1, q2⟩
  rw [e]
theorem zled_whoT {σ : Nat → Nat → Int32} (V : zV σ) : ∀ r ∈ zled σ (nI 9) (zn σ 4), 0 ≤ r.1.toInt ∧ r.1.toInt < (zn σ 1 : Int) := by
  intro r hr
  obtain ⟨e, he, h1, rfl⟩ := zled_mem.mp hr
  obtain ⟨a1, a2, a3, a4, a5, a6, a7, a8, a9⟩ := V.2.2.2.2.1.1 e he
  exact ⟨a5, a8 (by rw [h1]; decide) (by rw [h1]; decide) (by rw [h1]; decide)⟩
theorem P_filled (x f t kn : Int32) : zPr 140 306 [.inl x, .inl f, .inl t, .inl kn] := zPr_q fun d h hr => by
  obtain ⟨b0, b1, b2, b8, b5, b4, b3, V⟩ := zR_b hr
  by_cases c : (0 ≤ f.toInt ∧ f.toInt ≤ 999) ∧ (0 ≤ t.toInt ∧ t.toInt ≤ 999) ∧ f.toInt ≤ t.toInt ∧ (0 ≤ kn.toInt ∧ kn.toInt ≤ 999)
  · obtain ⟨h1, a1, a2, a3⟩ := X183 (d + 57) f t kn hr
    have hr1 : zR h1 := zR_q hr a2 zF_rf
    have eV : zMv h1 = zMv h := zMv_c (fun f hf => funext fun j => a2.1 _ j (fun q => by have := zXS_r q; rw [zMr (by omega)] at this; omega)) (fun j _ => a2.1 _ j (fun q => by have := zXS_r q; revert this; decide))
    have n1 : h1.1 2097281 1 = nI (zn (zsl (zMv h) 0) 1) := by rw [a2.1 _ _ (zXS_n (by decide))]; exact b1.1
    by_cases k : x = -1
    · subst k
      have KX : ∀ k i, i + k = zn (zsl (zMv h) 0) 1 → ∀ z1 z2 z3 z4, ai_E (d + 59) 140 51 [some (.inr (.inr (31, 0, 128))), z1, z2, z3, z4, some (.inl (zsm (zbot (zled (zsl (zMv h) 0) (nI 9) (zn (zsl (zMv h) 0) 4)) f t kn) i)), some (.inl (nI i))] [] h1 = some ([.inl (zsm (zbot (zled (zsl (zMv h) 0) (nI 9) (zn (zsl (zMv h) 0) 4)) f t kn) (zn (zsl (zMv h) 0) 1))], h1) := by
        intro k
        induction k with
        | zero =>
          intro i hi z1 z2 z3 z4
          have hi : i = zn (zsl (zMv h) 0) 1 := by omega
          subst hi
          rw [T140_51, n1, if_pos (by rw [z_le]; omega)]
        | succ k ih =>
          intro i hi z1 z2 z3 z4
          rw [T140_51, n1, if_neg (by rw [nI_leI (by omega) (by omega)]; omega), z_ix (by omega) (by decide), a3 i (by omega), nI_1]
          exact ih (i + 1) (by omega) _ _ _ _
      refine ⟨zbotA (zled (zsl (zMv h) 0) (nI 9) (zn (zsl (zMv h) 0) 4)) f t kn, h1, h1, ?_, a2, ?_, zF_rf⟩
      · rw [T140, if_pos rfl, X150]
        simp only [z_bi, zb_0]
        rw [if_neg (fun q => q c), a1]
        simp only [z_bv, if_true]
        rw [show ai_E (d + 59) 140 51 [some (.inr (.inr (31, 0, 128))), some (.inl (-1)), some (.inl f), some (.inl t), some (.inl kn), some (.inl 0), some (.inl 0)] [] h1 = _ from KX (zn (zsl (zMv h) 0) 1) 0 (by omega) _ _ _ _, zbot_all (by omega) (zled_whoT V)]
      · rw [T306, if_pos rfl, M297]
        simp only [z_bi, zb_0]
        rw [if_neg (fun q => q c), M305 _ _ _ _ _ hr1, eV]
        simp only [z_bi]
        refine congrArg (fun z => some ([Sum.inl z], h1)) (zls_c fun r _ => ?_)
        by_cases q : zsp f t kn r
        · rw [if_pos ⟨q, Or.inl (by decide)⟩, if_pos q]
        · rw [if_neg (fun x => q x.1), if_neg q]
    · by_cases c1 : 0 ≤ x.toInt ∧ x.toInt < (zn (zsl (zMv h) 0) 1 : Int)
      · obtain ⟨p, hp, rfl⟩ := z_rng c1
        have m1 : h1.1 2064386 0 = nI (zn (zsl (zMv h) 0) 1) := by
          rw [a2.1 _ _ (fun q => by have := zXS_r q; revert this; decide)]; exact b1.2.1
        refine ⟨zbot (zled (zsl (zMv h) 0) (nI 9) (zn (zsl (zMv h) 0) 4)) f t kn p, h1, h1, ?_, a2, ?_, zF_rf⟩
        · rw [T140, if_neg k, X153 _ _ b1.1 b1.2.2]
          simp only [z_bi, zb_0]
          rw [if_neg (fun q => q c1), X150]
          simp only [z_bi, zb_0]
          rw [if_neg (fun q => q c), a1]
          simp only [z_bv]
          rw [if_neg k, z_ix (by omega) (by decide), a3 p (by omega)]
        · rw [T306, if_neg k, M195 _ _ m1 (by omega)]
          simp only [z_bi, zb_0]
          rw [if_neg (fun q => q c1), M297]
          simp only [z_bi, zb_0]
          rw [if_neg (fun q => q c), M305t _ _ _ _ hr1 (by omega), eV]
          rfl
      · refine ⟨-1, h, h, ?_, zF_rf, ?_, zF_rf⟩
        · rw [T140, if_neg k, X153 _ _ b1.1 b1.2.2]
          simp only [z_bi, zb_0]
          rw [if_pos c1]
        · rw [T306, if_neg k, M195 _ _ b1.2.1 (by omega)]
          simp only [z_bi, zb_0]
          rw [if_pos c1]
  · refine ⟨-1, h, h, ?_, zF_rf, ?_, zF_rf⟩
    · rw [T140]
      by_cases k : x = -1
      · rw [if_pos k, X150]
        simp only [z_bi, zb_0]
        rw [if_pos c]
      · rw [if_neg k, X153 _ _ b1.1 b1.2.2]
        simp only [z_bi, zb_0]
        by_cases c1 : 0 ≤ x.toInt ∧ x.toInt < (zn (zsl (zMv h) 0) 1 : Int)
        · rw [if_neg (fun q => q c1), X150]
          simp only [z_bi, zb_0]
          rw [if_pos c]
        · rw [if_pos c1]
    · rw [T306]
      by_cases k : x = -1
      · rw [if_pos k, M297]
        simp only [z_bi, zb_0]
        rw [if_pos c]
      · rw [if_neg k, M195 _ _ b1.2.1 (by omega)]
        simp only [z_bi, zb_0]
        by_cases c1 : 0 ≤ x.toInt ∧ x.toInt < (zn (zsl (zMv h) 0) 1 : Int)
        · rw [if_neg (fun q => q c1), M297]
          simp only [z_bi, zb_0]
          rw [if_pos c]
        · rw [if_pos c1]
