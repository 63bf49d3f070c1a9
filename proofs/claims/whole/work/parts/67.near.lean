/-! WITHIN A WALK: steps, the nearest tap, who is thirsty: the class's way -/
def zds (a b : Int32) : Nat := (a.toInt.toNat % 16 - b.toInt.toNat % 16) + (b.toInt.toNat % 16 - a.toInt.toNat % 16) + ((a.toInt.toNat / 16 - b.toInt.toNat / 16) + (b.toInt.toNat / 16 - a.toInt.toNat / 16))
theorem zds_le {a b : Int32} (ha : zi a 0 255) (hb : zi b 0 255) : zds a b ≤ 30 := by
  unfold zi at ha hb
  unfold zds
  omega
theorem zds_sym {a b : Int32} : zds a b = zds b a := by
  unfold zds
  omega
theorem z_absub {a b : Nat} (ha : a < 2147483648) (hb : b < 2147483648) : ai_abs (nI a - nI b) = nI ((a - b) + (b - a)) := by
  unfold ai_abs
  by_cases c : b ≤ a
  · rw [pk_sub c, if_pos (nI_pos' (by omega))]
    congr 1
    omega
  · have e : (nI a - nI b).toInt = (a : Int) - b := by rw [z_sub] <;> rw [z_T (by omega), z_T (by omega)] <;> omega
    rw [if_neg (by rw [z_le, e]; simp only [zl0]; omega), z_eq, z_sub (by rw [e]; simp only [zl0]; omega) (by rw [e]; simp only [zl0]; omega), e, z_T (by omega)]
    simp only [zl0]
    omega
theorem X162 {a b : Int32} (d : Nat) (h : ai_H) (ha : zi a 0 255) (hb : zi b 0 255) : ai_X (d + 1) 162 [.inl a, .inl b] h = some ([.inl (nI (zds a b))], h) := by
  unfold zi at ha hb
  obtain ⟨i, hi, rfl⟩ := z_rngI ha
  obtain ⟨j, hj, rfl⟩ := z_rngI hb
  have e15 : ∀ n, n ≤ 255 → nI n &&& 15 = nI (n % 16) := fun n hn => pk_andN (by omega) 4 (by decide)
  have e4 : ∀ n, n ≤ 255 → nI n >>> ((4 : Int32) &&& 31) = nI (n / 16) := fun n hn => z_shr (i := 4) (by omega) (by decide)
  rw [T162, e15 i (by omega), e15 j (by omega), e4 i (by omega), e4 j (by omega), z_absub (by omega) (by omega), z_absub (by omega) (by omega), nI_add]
  unfold zds
  rw [z_T (by omega), z_T (by omega)]
  simp only [Int.toNat_natCast]
theorem M189 {a b : Nat} (d : Nat) (h : ai_H) (ha : a < 1000) (hb : b < 1000) : ai_X (d + 1) 189 [.inl (nI a), .inl (nI b)] h = some ([.inl (nI ((a - b) + (b - a)))], h) := by
  rw [T189]
  by_cases c : b ≤ a
  · rw [if_pos (by rw [nI_leI (by omega) (by omega)]; exact c), pk_sub c, show a - b + (b - a) = a - b by omega]
  · rw [if_neg (by rw [nI_leI (by omega) (by omega)]; exact c), pk_sub (by omega), show a - b + (b - a) = b - a by omega]
theorem M190 {a b : Int32} (d : Nat) (h : ai_H) (ha : zi a 0 255) (hb : zi b 0 255) : ai_X (d + 2) 190 [.inl a, .inl b] h = some ([.inl (nI (zds a b))], h) := by
  unfold zi at ha hb
  obtain ⟨i, hi, rfl⟩ := z_rngI ha
  obtain ⟨j, hj, rfl⟩ := z_rngI hb
  have n16 : ¬ (16 : Int32) = 0 := by decide
  have e1 : ∀ n, n ≤ 255 → ai_rem (nI n) 16 = nI (n % 16) := fun n hn => nI_rem (b := 16) (by omega) (by decide)
  have e2 : ∀ n, n ≤ 255 → nI n / 16 = nI (n / 16) := fun n hn => nI_div (b := 16) (by omega) (by decide)
  rw [T190, if_neg n16, if_neg n16, e1 i (by omega), e1 j (by omega), M189 _ _ (by omega) (by omega)]
  simp only [z_bi]
  rw [if_neg n16, if_neg n16, e2 i (by omega), e2 j (by omega), M189 _ _ (by omega) (by omega)]
  simp only [z_bi]
  rw [nI_add]
  unfold zds
  rw [z_T (by omega), z_T (by omega)]
  simp only [Int.toNat_natCast]
theorem X159B {p : Nat → Prop} [DecidablePred p] {n i : Nat} (d : Nat) (h : ai_H) (hn : n ≤ 31) (hi : i < n) : ai_X (d + 1) 159 [.inl (nI (zB p n)), .inl (nI i)] h = some ([.inl (zb (p i))], h) := by
  rw [X159 _ _ _ _ (zB_31 hn) (by omega), zb_c (q := p i)]
  rw [zB_tb, decide_eq_true_eq]
  exact ⟨fun x => x.2, fun x => ⟨hi, x⟩⟩
theorem zB_0 {p : Nat → Prop} [DecidablePred p] {n : Nat} : zB p n = 0 ↔ ∀ t, t < n → ¬ p t := by
  constructor
  · intro e t ht c
    have := zB_tb (p := p) n t
    rw [e, Nat.zero_testBit] at this
    have := this.symm
    rw [decide_eq_false_iff_not] at this
    exact this ⟨ht, c⟩
  · intro e
    apply Nat.eq_of_testBit_eq
    intro i
    rw [zB_tb, Nat.zero_testBit, decide_eq_false_iff_not]
    rintro ⟨h1, h2⟩
    exact e i h1 h2
theorem zB_n0 {p : Nat → Prop} [DecidablePred p] {n : Nat} (hn : n ≤ 31) : nI (zB p n) = 0 ↔ ∀ t, t < n → ¬ p t := by
  rw [← zB_0]
  have := zB_31 (p := p) hn
  exact nI_eq (b := 0) (by omega) (by decide)
/-- the nearest of the lowest n, the first of them -/
def zfw (w : Nat → Nat) (s : Nat) : Option Nat → Nat
  | none => s + 1
  | some b => w b
def znr (p : Nat → Prop) [DecidablePred p] (w : Nat → Nat) (s : Nat) : Nat → Option Nat
  | 0 => none
  | n + 1 => if p n ∧ w n < zfw w s (znr p w s n) then some n else znr p w s n
def zoi : Option Nat → Int32
  | none => -1
  | some b => nI b
theorem zfw_le {p : Nat → Prop} [DecidablePred p] {w : Nat → Nat} {s : Nat} : ∀ n, zfw w s (znr p w s n) ≤ s + 1 := by
  intro n
  induction n with
  | zero => exact Nat.le_refl _
  | succ n ih =>
    unfold znr
    split
    · rename_i c
      exact Nat.le_trans (Nat.le_of_lt c.2) ih
    · exact ih
theorem znr_some {p : Nat → Prop} [DecidablePred p] {w : Nat → Nat} {s : Nat} : ∀ {n b : Nat}, znr p w s n = some b → b < n ∧ p b ∧ w b ≤ s := by
  intro n
  induction n with
  | zero => intro b e; cases e
  | succ n ih =>
    intro b e
    unfold znr at e
    split at e
    · rename_i c
      cases e
      have := zfw_le (p := p) (w := w) (s := s) n
      exact ⟨by omega, c.1, by omega⟩
    · obtain ⟨e1, e2, e3⟩ := ih e
      exact ⟨by omega, e2, e3⟩
theorem znr_none {p : Nat → Prop} [DecidablePred p] {w : Nat → Nat} {s : Nat} : ∀ {n : Nat}, znr p w s n = none ↔ ∀ t, t < n → ¬ (p t ∧ w t ≤ s) := by
  intro n
  induction n with
  | zero => exact ⟨fun _ t ht => by omega, fun _ => rfl⟩
  | succ n ih =>
    unfold znr
    by_cases c : p n ∧ w n < zfw w s (znr p w s n)
    · rw [if_pos c]
      refine ⟨fun e => (by cases e), fun e => ?_⟩
      have := zfw_le (p := p) (w := w) (s := s) n
      exact absurd ⟨c.1, by omega⟩ (e n (by omega))
    · rw [if_neg c, ih]
      refine ⟨fun e t ht => ?_, fun e t ht => e t (by omega)⟩
      by_cases q : t = n
      · subst q
        rintro ⟨g1, g2⟩
        have : znr p w s t = none := ih.mpr e
        rw [this] at c
        exact c ⟨g1, Nat.lt_succ_of_le g2⟩
      · exact e t (by omega)
theorem zC_t {h : ai_H} (hr : zR h) {t : Nat} (ht : t < zn (zsl (zMv h) 0) 1) : h.1 268451978 t = zsl (zMv h) 0 12 t ∧ zi (zsl (zMv h) 0 12 t) 0 255 := by
  obtain ⟨b0, b1, b2, b8, b5, b4, b3, V⟩ := zR_b hr
  have hC : zC h 2097281 (zsl (zMv h) 0) := hr.1.1.1
  obtain ⟨g1, g2, g3, g4, g5⟩ := hC.2.2.2.2.2.2.2.1 t ht
  exact ⟨g2, (V.2.2.1 t ht).2.1⟩
theorem zC_h {h : ai_H} (hr : zR h) {t : Nat} (ht : t < zn (zsl (zMv h) 0) 2) : h.1 268451982 t = zsl (zMv h) 0 19 t ∧ zi (zsl (zMv h) 0 19 t) 0 255 := by
  obtain ⟨b0, b1, b2, b8, b5, b4, b3, V⟩ := zR_b hr
  have hC : zC h 2097281 (zsl (zMv h) 0) := hr.1.1.1
  exact ⟨hC.2.2.2.2.2.2.2.2.1 t ht, V.2.2.2.1.1 t ht⟩
theorem X6 {h : ai_H} {p : Nat → Prop} [DecidablePred p] {s : Nat} {c : Int32} (d : Nat) (hr : zR h) (hc : zi c 0 255) (hs : s ≤ 30) : ai_X (d + 2) 6 [.inr (.inr (20, 0, 2097281)), .inl c, .inl (nI s), .inl (nI (zB p (zn (zsl (zMv h) 0) 1)))] h = some ([.inl (zoi (znr p (fun t => zds c (zsl (zMv h) 0 12 t)) s (zn (zsl (zMv h) 0) 1)))], h) := by
  obtain ⟨b0, b1, b2, b8, b5, b4, b3, V⟩ := zR_b hr
  have K : ∀ k i, i + k = zn (zsl (zMv h) 0) 1 → ∀ z, ai_E (d + 1) 6 11 [some (.inr (.inr (20, 0, 2097281))), some (.inl c), z, some (.inl (nI (zB p (zn (zsl (zMv h) 0) 1)))), some (.inl (zoi (znr p (fun t => zds c (zsl (zMv h) 0 12 t)) s i))), some (.inl (nI (zfw (fun t => zds c (zsl (zMv h) 0 12 t)) s (znr p (fun t => zds c (zsl (zMv h) 0 12 t)) s i)))), some (.inl (nI i))] [] h = some ([.inl (zoi (znr p (fun t => zds c (zsl (zMv h) 0 12 t)) s (zn (zsl (zMv h) 0) 1)))], h) := by
    intro k
    induction k with
    | zero =>
      intro i hi z
      have hi : i = zn (zsl (zMv h) 0) 1 := by omega
      subst hi
      rw [T6_11, b1.1, if_pos (by rw [z_le]; omega)]
    | succ k ih =>
      intro i hi z
      have ih := ih (i + 1) (by omega) z
      have i24 : ∀ f : Nat → Option ai_R, ai_ix (nI i) 24 f = f i := fun f => z_ix (by omega) (by decide)
      obtain ⟨e12, v12⟩ := zC_t hr (t := i) (by omega)
      have lw := zds_le hc v12
      have lf := zfw_le (p := p) (w := fun t => zds c (zsl (zMv h) 0 12 t)) (s := s) i
      have en : znr p (fun t => zds c (zsl (zMv h) 0 12 t)) s (i + 1) = if p i ∧ zds c (zsl (zMv h) 0 12 i) < zfw (fun t => zds c (zsl (zMv h) 0 12 t)) s (znr p (fun t => zds c (zsl (zMv h) 0 12 t)) s i) then some i else znr p (fun t => zds c (zsl (zMv h) 0 12 t)) s i := rfl
      rw [en] at ih
      rw [T6_11, b1.1, if_neg (by rw [nI_leI (by omega) (by omega)]; omega), X159B _ _ (by omega) (by omega)]
      simp only [z_bi, zb_0, i24, nI_1]
      by_cases c1 : p i
      · rw [if_neg (fun q => q c1), e12, X162 _ _ hc v12]
        simp only [z_bi]
        by_cases c2 : zds c (zsl (zMv h) 0 12 i) < zfw (fun t => zds c (zsl (zMv h) 0 12 t)) s (znr p (fun t => zds c (zsl (zMv h) 0 12 t)) s i)
        · rw [if_neg (by rw [nI_leI (by omega) (by omega)]; omega), e12, X162 _ _ hc v12]
          simp only [z_bi]
          rw [if_pos ⟨c1, c2⟩] at ih
          exact ih
        · rw [if_pos (by rw [nI_leI (by omega) (by omega)]; omega)]
          rw [if_neg (fun q => c2 q.2)] at ih
          exact ih
      · rw [if_pos c1]
        rw [if_neg (fun q => c1 q.1)] at ih
        exact ih
  rw [T6, show nI s + 1 = nI (s + 1) from nI_1 s]
  exact K _ 0 (Nat.zero_add _) _
theorem X7 {h : ai_H} {p : Nat → Prop} [DecidablePred p] {s : Nat} {c : Int32} (d : Nat) (hr : zR h) (hc : zi c 0 255) (hs : s ≤ 30) : ai_X (d + 2) 7 [.inr (.inr (20, 0, 2097281)), .inl c, .inl (nI s), .inl (nI (zB p (zn (zsl (zMv h) 0) 1)))] h = some ([.inl (nI (zB (fun t => p t ∧ zds c (zsl (zMv h) 0 12 t) ≤ s) (zn (zsl (zMv h) 0) 1)))], h) := by
  obtain ⟨b0, b1, b2, b8, b5, b4, b3, V⟩ := zR_b hr
  have K : ∀ k i, i + k = zn (zsl (zMv h) 0) 1 → ai_E (d + 1) 7 6 [some (.inr (.inr (20, 0, 2097281))), some (.inl c), some (.inl (nI s)), some (.inl (nI (zB p (zn (zsl (zMv h) 0) 1)))), some (.inl (nI (zB (fun t => p t ∧ zds c (zsl (zMv h) 0 12 t) ≤ s) i))), some (.inl (nI i))] [] h = some ([.inl (nI (zB (fun t => p t ∧ zds c (zsl (zMv h) 0 12 t) ≤ s) (zn (zsl (zMv h) 0) 1)))], h) := by
    intro k
    induction k with
    | zero =>
      intro i hi
      have hi : i = zn (zsl (zMv h) 0) 1 := by omega
      subst hi
      rw [T7_6, b1.1, if_pos (by rw [z_le]; omega)]
    | succ k ih =>
      intro i hi
      have ih := ih (i + 1) (by omega)
      have i24 : ∀ f : Nat → Option ai_R, ai_ix (nI i) 24 f = f i := fun f => z_ix (by omega) (by decide)
      obtain ⟨e12, v12⟩ := zC_t hr (t := i) (by omega)
      have lw := zds_le hc v12
      rw [zB_s] at ih
      rw [T7_6, b1.1, if_neg (by rw [nI_leI (by omega) (by omega)]; omega), X159B _ _ (by omega) (by omega)]
      simp only [z_bi, zb_0, i24, nI_1]
      by_cases c1 : p i
      · rw [if_neg (fun q => q c1), e12, X162 _ _ hc v12]
        simp only [z_bi]
        by_cases c2 : zds c (zsl (zMv h) 0 12 i) ≤ s
        · rw [if_neg (by rw [nI_ltI (by omega) (by omega)]; omega), z_bit (by omega), z_or]
          rw [if_pos ⟨c1, c2⟩] at ih
          exact ih
        · rw [if_pos (by rw [nI_ltI (by omega) (by omega)]; omega)]
          rw [if_neg (fun q => c2 q.2)] at ih
          exact ih
      · rw [if_pos c1]
        rw [if_neg (fun q => c1 q.1)] at ih
        exact ih
  rw [T7]
  exact K _ 0 (Nat.zero_add _)
theorem X9 {h : ai_H} {p : Nat → Prop} [DecidablePred p] {s : Nat} {c : Int32} (d : Nat) (hr : zR h) (hc : zi c 0 255) (hs : s ≤ 30) : ai_X (d + 2) 9 [.inr (.inr (20, 0, 2097281)), .inl c, .inl (nI s), .inl (nI (zB p (zn (zsl (zMv h) 0) 2)))] h = some ([.inl (nI (zB (fun t => p t ∧ zds c (zsl (zMv h) 0 19 t) ≤ s) (zn (zsl (zMv h) 0) 2)))], h) := by
  obtain ⟨b0, b1, b2, b8, b5, b4, b3, V⟩ := zR_b hr
  have K : ∀ k i, i + k = zn (zsl (zMv h) 0) 2 → ai_E (d + 1) 9 6 [some (.inr (.inr (20, 0, 2097281))), some (.inl c), some (.inl (nI s)), some (.inl (nI (zB p (zn (zsl (zMv h) 0) 2)))), some (.inl (nI (zB (fun t => p t ∧ zds c (zsl (zMv h) 0 19 t) ≤ s) i))), some (.inl (nI i))] [] h = some ([.inl (nI (zB (fun t => p t ∧ zds c (zsl (zMv h) 0 19 t) ≤ s) (zn (zsl (zMv h) 0) 2)))], h) := by
    intro k
    induction k with
    | zero =>
      intro i hi
      have hi : i = zn (zsl (zMv h) 0) 2 := by omega
      subst hi
      rw [T9_6, b2.1, if_pos (by rw [z_le]; omega)]
    | succ k ih =>
      intro i hi
      have ih := ih (i + 1) (by omega)
      have i30 : ∀ f : Nat → Option ai_R, ai_ix (nI i) 30 f = f i := fun f => z_ix (by omega) (by decide)
      obtain ⟨e12, v12⟩ := zC_h hr (t := i) (by omega)
      have lw := zds_le hc v12
      rw [zB_s] at ih
      rw [T9_6, b2.1, if_neg (by rw [nI_leI (by omega) (by omega)]; omega), X159B _ _ (by omega) (by omega)]
      simp only [z_bi, zb_0, i30, nI_1]
      by_cases c1 : p i
      · rw [if_neg (fun q => q c1), e12, X162 _ _ hc v12]
        simp only [z_bi]
        by_cases c2 : zds c (zsl (zMv h) 0 19 i) ≤ s
        · rw [if_neg (by rw [nI_ltI (by omega) (by omega)]; omega), z_bit (by omega), z_or]
          rw [if_pos ⟨c1, c2⟩] at ih
          exact ih
        · rw [if_pos (by rw [nI_ltI (by omega) (by omega)]; omega)]
          rw [if_neg (fun q => c2 q.2)] at ih
          exact ih
      · rw [if_pos c1]
        rw [if_neg (fun q => c1 q.1)] at ih
        exact ih
  rw [T9]
  exact K _ 0 (Nat.zero_add _)
/-- a tap runs -/
abbrev zrn (h : ai_H) (x kn : Int32) (t : Nat) : Prop := zshut (zsl (zMv h) 0) (nI t) x kn = false ∧ zdry h t x kn = 0
/-- by a cell, the nearest running tap within a walk -/
def zcb (h : ai_H) (x kn : Int32) (s : Nat) (c : Int32) : Option Nat := znr (zrn h x kn) (fun t => zds c (zsl (zMv h) 0 12 t)) s (zn (zsl (zMv h) 0) 1)
theorem zcb_V {h h1 : ai_H} {x kn : Int32} {s : Nat} {c : Int32} (e : zMv h1 = zMv h) : zcb h1 x kn s c = zcb h x kn s c := by
  unfold zcb zrn zdry
  rw [e]
/-- a house is thirsty -/
abbrev zth (h : ai_H) (x kn : Int32) (s i : Nat) : Prop := (zcb h x kn s (zsl (zMv h) 0 19 i)).isNone = true
theorem zth_i {h : ai_H} {x kn : Int32} {s i : Nat} : zth h x kn s i ↔ ∀ t, t < zn (zsl (zMv h) 0) 1 → ¬ (zrn h x kn t ∧ zds (zsl (zMv h) 0 19 i) (zsl (zMv h) 0 12 t) ≤ s) := by
  unfold zth
  rw [Option.isNone_iff_eq_none]
  exact znr_none
theorem X170r {h : ai_H} (d : Nat) (x kn : Int32) (hr : zR h) : ∃ h1, ai_X (d + 7) 170 [.inr (.inr (31, 0, 128)), .inl 0, .inl x, .inl kn] h = some ([.inl (nI (zB (zrn h x kn) (zn (zsl (zMv h) 0) 1)))], h1) ∧ zF zXS h h1 := X170 (b := false) d x kn hr
theorem X171 {h : ai_H} {s : Nat} (d : Nat) (x kn : Int32) (hr : zR h) (hs : s ≤ 30) : ∃ h1, ai_X (d + 8) 171 [.inr (.inr (31, 0, 128)), .inl (nI s), .inl x, .inl kn] h = some ([.inl (nI (zB (zth h x kn s) (zn (zsl (zMv h) 0) 2)))], h1) ∧ zF zXS h h1 := by
  obtain ⟨h1, a1, a2⟩ := X170r d x kn hr
  have hr1 := zR_x hr a2
  have eV := zMv_x a2
  obtain ⟨b0, b1, b2, b8, b5, b4, b3, V⟩ := zR_b hr1
  have K : ∀ k i, i + k = zn (zsl (zMv h) 0) 2 → ∀ z1 z2, ai_E (d + 7) 171 15 [some (.inr (.inr (31, 0, 128))), some (.inl (nI s)), z1, z2, some (.inl (nI (zB (zrn h x kn) (zn (zsl (zMv h) 0) 1)))), some (.inl (nI (zB (zth h x kn s) i))), some (.inl (nI i))] [] h1 = some ([.inl (nI (zB (zth h x kn s) (zn (zsl (zMv h) 0) 2)))], h1) := by
    intro k
    induction k with
    | zero =>
      intro i hi z1 z2
      have hi : i = zn (zsl (zMv h) 0) 2 := by omega
      subst hi
      rw [T171_15, b2.1, eV, if_pos (by rw [z_le]; omega)]
    | succ k ih =>
      intro i hi z1 z2
      have ih := ih (i + 1) (by omega) z1 z2
      have l2 : zn (zsl (zMv h) 0) 2 ≤ 30 := by rw [← eV]; exact b2.2.2
      have l1 : zn (zsl (zMv h) 0) 1 ≤ 24 := by rw [← eV]; exact b1.2.2
      have i30 : ∀ f : Nat → Option ai_R, ai_ix (nI i) 30 f = f i := fun f => z_ix (by omega) (by decide)
      obtain ⟨e19, v19⟩ := zC_h hr1 (t := i) (by rw [eV]; omega)
      have hX := X7 (p := zrn h x kn) (s := s) (d + 5) hr1 v19 hs
      rw [eV] at hX e19
      rw [zB_s] at ih
      rw [T171_15, b2.1, eV, if_neg (by rw [nI_leI (by omega) (by omega)]; omega), i30, e19, hX]
      simp only [z_bi, nI_1]
      by_cases c1 : zth h x kn s i
      · rw [if_pos ((zB_n0 (by omega)).mpr (zth_i.mp c1)), z_bit (by omega), z_or]
        rw [if_pos c1] at ih
        exact ih
      · rw [if_neg (fun q => c1 (zth_i.mpr ((zB_n0 (by omega)).mp q)))]
        rw [if_neg c1] at ih
        exact ih
  refine ⟨h1, ?_, a2⟩
  rw [T171, a1]
  simp only [z_bi]
  exact K _ 0 (Nat.zero_add _) _ _
