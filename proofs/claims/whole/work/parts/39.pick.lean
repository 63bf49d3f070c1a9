/-! WHAT IS SO: of a subject, of all taps; the k-th of a set; sums over a ledger -/
theorem zR_led {h : ai_H} (hr : zR h) {k : Nat} (hk : k < 12) : zL h (ai_ch 2097282 k) (zled (zsl (zMv h) 0) (nI k) (zn (zsl (zMv h) 0) 4)) ∧ zLk h (ai_ch 2097282 k) (zmost k) ∧ (zled (zsl (zMv h) 0) (nI k) (zn (zsl (zMv h) 0) 4)).length ≤ zmost k ∧ zmost k ≤ 80 := by
  obtain ⟨r1, r2, r3, r4⟩ := id hr
  have V : zV (zsl (zMv h) 0) := r2.2.1 0 (Nat.zero_le _)
  have hD : zD h 2097282 (zsl (zMv h) 0) := r1.1.2.1
  refine ⟨hD.1 k hk, r1.1.2.2.2.2 k hk, ?_, ?_⟩
  · rw [zled_len]
    exact V.2.2.2.2.1.2 k hk
  · rcases (show k = 0 ∨ k = 1 ∨ k = 2 ∨ k = 3 ∨ k = 4 ∨ k = 5 ∨ k = 6 ∨ k = 7 ∨ k = 8 ∨ k = 9 ∨ k = 10 ∨ k = 11 by omega) with rfl | rfl | rfl | rfl | rfl | rfl | rfl | rfl | rfl | rfl | rfl | rfl <;> decide
/-- the last value told -/
def zval (σ : Nat → Nat → Int32) (k w d kn : Int32) : Option Int32 := (zbest σ k w d kn (zn σ 4)).map (σ 25)
theorem M221v {h : ai_H} {n : Nat} (d : Nat) (k w dd kn o : Int32) (hr : zR h) : ai_X (d + 1) 221 [.inr (.inr (32, 0, 16128)), .inl k, .inl w, .inl dd, .inl kn, .inl o] h = some ([.inl ((zval (zsl (zMv h) 0) k w dd kn).getD o)], h) := by
  obtain ⟨b0, b1, b2, b8, b5, b4, b3, V⟩ := zR_b hr
  rw [M221 d k w dd kn o b4.1 b4.2]
  unfold zval
  cases zbest (zsl (zMv h) 0) k w dd kn (zn (zsl (zMv h) 0) 4) with
  | none => rfl
  | some b =>
    have e : h.1 2064410 b = zsl (zMv h) 0 25 b := (zs0 (f := 25) (by omega)).symm
    show some ([Sum.inl (h.1 2064410 b)], h) = _
    rw [e]
    rfl
theorem zsob_val {σ : Nat → Nat → Int32} {k w d kn : Int32} (hk : ¬ k = 6) : zsob w d kn (zled σ k (zn σ 4)) = true ↔ ∃ v, zval σ k w d kn = some v ∧ ¬ v = 0 := by
  unfold zsob zval
  rw [zled_best]
  cases e : zbest σ k w d kn (zn σ 4) with
  | none => simp
  | some b =>
    have hb := (zbest_p e).2.1
    have e2 : (zrow σ b).2.2.1 = σ 25 b := by
      unfold zrow
      dsimp only
      rw [hb, if_neg hk]
    simp [e2]
theorem zval_zi {σ : Nat → Nat → Int32} {k w d kn v : Int32} (V : zV σ) (h : zval σ k w d kn = some v) : ∃ e, e < zn σ 4 ∧ σ 22 e = k ∧ σ 25 e = v ∧ zVr σ e := by
  unfold zval at h
  cases e : zbest σ k w d kn (zn σ 4) with
  | none => rw [e] at h; cases h
  | some b =>
    rw [e] at h
    obtain ⟨h1, h2, -⟩ := zbest_p e
    have h3 : σ 25 b = v := by simpa using h
    exact ⟨b, h1, h2, h3, V.2.2.2.2.1.1 b h1⟩
/-- is it shut -/
def zshut (σ : Nat → Nat → Int32) (w d kn : Int32) : Bool := zsob w d kn (zled σ 0 (zn σ 4))
theorem X166 {h : ai_H} (d : Nat) (w dd kn : Int32) (hr : zR h) : ai_X (d + 3) 166 [.inr (.inr (31, 0, 128)), .inl w, .inl dd, .inl kn] h = some ([.inl (zb (zshut (zsl (zMv h) 0) w dd kn = true))], h) := by
  obtain ⟨l1, l2, l3, l4⟩ := zR_led hr (k := 0) (by decide)
  have e := X40 d w dd kn l1 l2 l3 (by omega)
  rw [T166, show ai_X (d + 2) 40 [.inr (.inr (25, 0, 268452097)), .inl w, .inl dd, .inl kn] h = _ from e]
  simp only [z_bi, zb_b]
  rfl
theorem M222 {h : ai_H} (d : Nat) (w dd kn : Int32) (hr : zR h) : ai_X (d + 2) 222 [.inr (.inr (32, 0, 16128)), .inl w, .inl dd, .inl kn] h = some ([.inl (zb (zshut (zsl (zMv h) 0) w dd kn = true))], h) := by
  have V : zV (zsl (zMv h) 0) := hr.2.1.2.1 0 (Nat.zero_le _)
  rw [T222, M221v (n := 0) d 0 w dd kn 0 hr]
  simp only [z_bi, z_b0, z_b1]
  have e := zsob_val (σ := zsl (zMv h) 0) (k := 0) (w := w) (d := dd) (kn := kn) (by decide)
  unfold zshut
  cases c : zval (zsl (zMv h) 0) 0 w dd kn with
  | none =>
    rw [if_neg (by decide), zb_f]
    rw [e, c]
    rintro ⟨v, h1, h2⟩
    cases h1
  | some v =>
    obtain ⟨b, h1, h2, h3, h4⟩ := zval_zi V c
    have h5 := h4.2.2.2.2.2.2.2.2.1 (Or.inl h2)
    unfold zi at h5
    rw [h3] at h5
    show (if v = 1 then _ else _) = _
    by_cases c1 : v = 1
    · rw [if_pos c1, zb_t]
      rw [e, c]
      exact ⟨v, rfl, by rw [c1]; decide⟩
    · rw [if_neg c1, zb_f]
      rw [e, c]
      rintro ⟨u, h6, h7⟩
      cases h6
      apply h7
      rw [z_eq] at c1 ⊢
      simp only [zl0, zl1, zl2, zl3, zl4, zl5, zl6, zl7, zl8, zl9, zl10, zl12, zl15, zl16, zl20, zl22, zl23, zl24, zl27, zl30, zl31, zl32, zl40, zl46, zl48, zl50, zl57, zl59, zl60, zl61, zl62, zl63, zl80, zl96, zl97, zl99, zl100, zl122, zl255, zl360, zl500, zl999, zl9999, zl60000, zl99999, zl16777215, zl1073741824, zlm1, zlm2, zlm3] at c1 ⊢
      omega
theorem zlv_no {p : zR4 → Prop} [DecidablePred p] : ∀ {l : List zR4}, (∀ x ∈ l, ¬ p x) → zlv p l = none := by
  intro l
  induction l with
  | nil => intro _; rfl
  | cons x l ih =>
    intro h
    unfold zlv
    rw [ih fun y hy => h y (List.mem_cons_of_mem _ hy)]
    dsimp only
    rw [if_neg (h x List.mem_cons_self)]
theorem zlv_app2 {p : zR4 → Prop} [DecidablePred p] : ∀ {l2 l1 : List zR4}, (∀ x ∈ l2, ¬ p x) → zlv p (l1 ++ l2) = zlv p l1 := by
  intro l2 l1
  induction l1 with
  | nil => intro h; exact zlv_no h
  | cons x l ih =>
    intro h
    show (match zlv p (l ++ l2) with | some y => some y | none => if p x then some x else none) = _
    rw [ih h]
    rfl
theorem z_tk {l : List zR4} {i : Nat} (hi : i < l.length) : l.take (i + 1) = l.take i ++ [l.getD i zrN] := by
  rw [List.take_succ, List.getD_eq_getElem?_getD, List.getElem?_eq_getElem hi]
  rfl
theorem zsob_app {w d kn : Int32} {l : List zR4} {x : zR4} : zsob w d kn (l ++ [x]) = if zok w d kn x then !decide (x.2.2.1 = 0) else zsob w d kn l := by
  unfold zsob
  rw [zlv_app]
  by_cases c : zok w d kn x
  · rw [if_pos c, if_pos c]
  · rw [if_neg c, if_neg c]
/-- all of whom it is so -/
theorem X41 {h : ai_H} {a n : Nat} {l : List zR4} (d : Nat) (dd kn : Int32) (hl : zL h a l) (hs : zsd l) (hk : zLk h a n) (hn : l.length ≤ n) (hn2 : n ≤ 1000) (hw : ∀ r ∈ l, 0 ≤ r.1.toInt ∧ r.1.toInt < 24) : ai_X (d + 1) 41 [.inr (.inr (25, 0, a)), .inl dd, .inl kn] h = some ([.inl (nI (zB (fun t => zsob (nI t) dd kn l = true) 24))], h) := by
  obtain ⟨k0, k1, k2, k3⟩ := hk
  have K : ∀ k i, i + k = l.length → ∀ z5, ai_E d 41 5 [some (.inr (.inr (25, 0, a))), some (.inl dd), some (.inl kn), some (.inl (nI (zB (fun t => zsob (nI t) dd kn (l.take i) = true) 24))), some (.inl (nI i)), z5] [] h = some ([.inl (nI (zB (fun t => zsob (nI t) dd kn l = true) 24))], h) := by
    intro k
    induction k with
    | zero =>
      intro i hi z5
      have hi : i = l.length := by omega
      subst hi
      rw [T41_5, hl.1, if_pos (by rw [z_le]; omega), List.take_length]
    | succ k ih =>
      intro i hi z5
      have er := zL_row hl (i := i) (by omega)
      have e0 : (l.getD i zrN).1 = h.1 (ai_ch a 0) i := by rw [er]; rfl
      have e1 : (l.getD i zrN).2.1 = h.1 (ai_ch a 1) i := by rw [er]; rfl
      have e2 : (l.getD i zrN).2.2.1 = h.1 (ai_ch a 2) i := by rw [er]; rfl
      have e3 : (l.getD i zrN).2.2.2 = h.1 (ai_ch a 3) i := by rw [er]; rfl
      have hm : l.getD i zrN ∈ l := by
        rw [List.getD_eq_getElem?_getD, List.getElem?_eq_getElem (show i < l.length by omega)]
        exact List.getElem_mem _
      have ix : ∀ f : Nat → Option ai_R, ai_ix (nI i) n f = f i := fun f => z_ix (by omega) (by omega)
      rw [T41_5, hl.1, if_neg (by rw [nI_leI (by omega) (by omega)]; omega)]
      simp only [k0, k1, k2, k3, ix, nI_1]
      by_cases c1 : dd < h.1 (ai_ch a 1) i
      · rw [if_pos c1]
        have : ∀ t, zsob (nI t) dd kn l = zsob (nI t) dd kn (l.take i) := fun t => by
          unfold zsob
          have e := List.take_append_drop i l
          have : zlv (zok (nI t) dd kn) l = zlv (zok (nI t) dd kn) (l.take i) := by
            rw [← e, List.take_append_drop]
            conv => lhs; rw [← e]
            refine zlv_app2 fun x hx => ?_
            obtain ⟨j, hj, rfl⟩ := List.getElem_of_mem hx
            rw [List.getElem_drop]
            rintro ⟨q, -, -⟩
            rw [List.length_drop] at hj
            have hs2 := zsd_getD hs (show i ≤ i + j by omega) (by omega)
            rw [e1, List.getD_eq_getElem?_getD, List.getElem?_eq_getElem (show i + j < l.length by omega)] at hs2
            simp only [Option.getD_some] at hs2
            rw [z_le] at q hs2
            rw [z_lt] at c1
            omega
          rw [this]
        simp only [this]
      · rw [if_neg c1]
        have c1' : h.1 (ai_ch a 1) i ≤ dd := by rw [z_lt] at c1; rw [z_le]; omega
        by_cases c3 : kn < h.1 (ai_ch a 3) i
        · rw [if_pos c3]
          have : ∀ t, zsob (nI t) dd kn (l.take (i + 1)) = zsob (nI t) dd kn (l.take i) := fun t => by
            rw [z_tk (by omega), zsob_app, if_neg]
            rintro ⟨-, q, -⟩
            rw [e3, z_le] at q
            rw [z_lt] at c3
            omega
          have ih := ih (i + 1) (by omega) z5
          simp only [this] at ih
          exact ih
        · rw [if_neg c3]
          have c3' : h.1 (ai_ch a 3) i ≤ kn := by rw [z_lt] at c3; rw [z_le]; omega
          obtain ⟨s, hs1, es⟩ : ∃ s, s < 24 ∧ h.1 (ai_ch a 0) i = nI s := by
            have := hw _ hm
            rw [e0] at this
            exact ⟨_, by omega, z_nat this.1⟩
          have hb : ∀ t, t < 24 → zsob (nI t) dd kn (l.take (i + 1)) = if t = s then !decide (h.1 (ai_ch a 2) i = 0) else zsob (nI t) dd kn (l.take i) := fun t ht => by
            rw [z_tk (by omega), zsob_app]
            by_cases q : t = s
            · rw [if_pos q, if_pos ⟨by rw [e1]; exact c1', by rw [e3]; exact c3', by rw [e0, es, q]⟩]
              simp only [e2]
            · rw [if_neg q, if_neg]
              rintro ⟨-, -, q2⟩
              rw [e0, es, nI_eq (by omega) (by omega)] at q2
              exact q q2.symm
          have hlt : zB (fun t => zsob (nI t) dd kn (l.take i) = true) 24 < 2147483648 := zB_31 (by decide)
          have hp : 2 ^ s < 2147483648 := Nat.lt_of_lt_of_le (Nat.pow_lt_pow_right (by decide) hs1) (by decide)
          rw [es, z_bit (by omega)]
          by_cases c2 : h.1 (ai_ch a 2) i = 0
          · rw [if_pos c2]
            obtain ⟨c, ec, -, hc⟩ := z_andn (a := zB (fun t => zsob (nI t) dd kn (l.take i) = true) 24) (b := 2 ^ s) hlt hp
            rw [ec]
            have eq : c = zB (fun t => zsob (nI t) dd kn (l.take (i + 1)) = true) 24 := by
              apply Nat.eq_of_testBit_eq
              intro t
              rw [hc, zB_tb, zB_tb, Nat.testBit_two_pow]
              by_cases ht : t < 24
              · rw [hb t ht]
                by_cases q : t = s
                · subst q; simp [c2]
                · have q' : ¬ s = t := fun x => q x.symm
                  simp [q, q', ht]
              · simp [ht]
            rw [eq]
            exact ih (i + 1) (by omega) _
          · rw [if_neg c2, z_or]
            have eq : zB (fun t => zsob (nI t) dd kn (l.take i) = true) 24 ||| 2 ^ s = zB (fun t => zsob (nI t) dd kn (l.take (i + 1)) = true) 24 := by
              apply Nat.eq_of_testBit_eq
              intro t
              rw [Nat.testBit_or, zB_tb, zB_tb, Nat.testBit_two_pow]
              by_cases ht : t < 24
              · rw [hb t ht]
                by_cases q : t = s
                · subst q; simp [c2, ht]
                · have q' : ¬ s = t := fun x => q x.symm
                  simp [q, q', ht]
              · have q' : ¬ s = t := by omega
                simp [ht, q']
            rw [eq]
            exact ih (i + 1) (by omega) _
  rw [T41]
  have z : zB (fun t => zsob (nI t) dd kn (l.take 0) = true) 24 = 0 := by
    apply Nat.eq_of_testBit_eq
    intro t
    rw [zB_tb]
    simp [zsob, zlv]
  have := K l.length 0 (by omega) none
  rw [z] at this
  exact this
/-- the k-th of those that are so; how many, at -1 -/
def zpick (p : Nat → Prop) [DecidablePred p] (n : Nat) (k : Int32) : Int32 := if k = -1 then nI (zcnt p n) else match zfst (fun t => p t ∧ nI (zcnt p t) = k) n with
  | some t => nI t
  | none => -1
theorem X160 {p : Nat → Prop} [DecidablePred p] {n : Nat} (d : Nat) (h : ai_H) (k : Int32) (hn : n ≤ 31) : ai_X (d + 2) 160 [.inl (nI (zB p n)), .inl k] h = some ([.inl (zpick p n k)], h) := by
  have hB := zB_31 (p := p) hn
  rw [T160]
  unfold zpick
  by_cases c : k = -1
  · rw [if_pos c, if_pos c, X312B _ _ hn]
    rfl
  · rw [if_neg c, if_neg c]
    have KF := z_find (fun i => ai_E (d + 1) 160 14 [some (.inl (nI (zB p n))), some (.inl k), some (.inl (nI (zcnt (fun t => (zB p n).testBit t = true) i))), some (.inl (nI i))] [] h) (fun i => some ([.inl (nI i)], h)) (fun i => (zB p n).testBit i = true ∧ nI (zcnt (fun t => (zB p n).testBit t = true) i) = k) 31 (fun i hi => by
      rw [T160_14, if_neg (by rw [show (31 : Int32) = nI 31 from rfl, nI_leI (by omega) (by omega)]; omega), X159 _ _ _ _ hB (by omega)]
      simp only [z_bi, zb_0, nI_1]
      have ez : zcnt (fun t => (zB p n).testBit t = true) (i + 1) = zcnt (fun t => (zB p n).testBit t = true) i + if (zB p n).testBit i = true then 1 else 0 := rfl
      rw [ez]
      by_cases q : (zB p n).testBit i = true
      · rw [if_neg (fun x => x q), if_pos q]
        by_cases q2 : nI (zcnt (fun t => (zB p n).testBit t = true) i) = k
        · rw [if_pos q2, if_pos ⟨q, q2⟩]
        · rw [if_neg q2, if_neg (fun x => q2 x.2)]
      · rw [if_pos q, if_neg q, if_neg (fun x => q x.1)]
        rfl)
    have hend : ai_E (d + 1) 160 14 [some (.inl (nI (zB p n))), some (.inl k), some (.inl (nI (zcnt (fun t => (zB p n).testBit t = true) 31))), some (.inl (nI 31))] [] h = some ([.inl (-1)], h) := by
      rw [T160_14, if_pos (by decide)]
    have hz : ∀ i, i ≤ n → zcnt (fun t => (zB p n).testBit t = true) i = zcnt p i := fun i hi => zcnt_c fun t ht => by rw [zB_tb]; simp [show t < n by omega]
    have e0 : ai_E (d + 1) 160 14 [some (.inl (nI (zB p n))), some (.inl k), some (.inl 0), some (.inl 0)] [] h = _ := KF
    rw [e0]
    cases e : zfst (fun t => p t ∧ nI (zcnt p t) = k) n with
    | none =>
      rw [zfst_no (p := fun i => (zB p n).testBit i = true ∧ nI (zcnt (fun t => (zB p n).testBit t = true) i) = k)]
      · exact hend
      · rintro m hm ⟨q1, q2⟩
        rw [zB_tb, decide_eq_true_eq] at q1
        rw [hz m (by omega)] at q2
        exact zfst_none e m q1.1 ⟨q1.2, q2⟩
    | some j =>
      obtain ⟨⟨q1, q2⟩, q3, q4⟩ := zfst_some e
      rw [zfst_is (p := fun i => (zB p n).testBit i = true ∧ nI (zcnt (fun t => (zB p n).testBit t = true) i) = k) (j := j) (by omega) ⟨by rw [zB_tb]; simp [q1, q3], by rw [hz j (by omega)]; exact q2⟩]
      rintro m hm ⟨r1, r2⟩
      rw [zB_tb, decide_eq_true_eq] at r1
      rw [hz m (by omega)] at r2
      exact q4 m hm ⟨r1.2, r2⟩
