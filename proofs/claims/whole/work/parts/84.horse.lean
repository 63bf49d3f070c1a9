/-! WAYS: the horse -/
def zex (p : Nat → Bool) : Nat → Bool
  | 0 => false
  | n + 1 => zex p n || p n
theorem zex_iff {p : Nat → Bool} : ∀ {n : Nat}, zex p n = true ↔ ∃ t, t < n ∧ p t = true := by
  intro n
  induction n with
  | zero => exact ⟨fun q => (by cases q), fun ⟨t, h, _⟩ => absurd h (Nat.not_lt_zero t)⟩
  | succ n ih =>
    show (zex p n || p n) = true ↔ _
    rw [Bool.or_eq_true, ih]
    refine ⟨fun q => ?_, fun ⟨t, h1, h2⟩ => ?_⟩
    · rcases q with ⟨t, h1, h2⟩ | q
      · exact ⟨t, by omega, h2⟩
      · exact ⟨n, by omega, q⟩
    · by_cases e : t = n
      · exact Or.inr (e ▸ h2)
      · exact Or.inl ⟨t, by omega, h2⟩
/-- seen before a drink, and the taps of that drink -/
def zhw (R : Nat → Bool) (N : Nat → Nat → Bool) (A : Nat → Bool) (n : Nat) : Nat → (Nat → Bool) × (Nat → Bool)
  | 0 => (fun _ => false, A)
  | k + 1 => (fun t => (zhw R N A n k).1 t || (zhw R N A n k).2 t, fun u => R u && !((zhw R N A n k).1 u || (zhw R N A n k).2 u) && zex (fun t => (zhw R N A n k).2 t && N t u) n)
theorem zhw_R {R : Nat → Bool} {N : Nat → Nat → Bool} {A : Nat → Bool} {n : Nat} (hA : ∀ t, A t = true → R t = true) : ∀ k t, (zhw R N A n k).2 t = true → R t = true ∧ (zhw R N A n k).1 t = false := by
  intro k t h
  cases k with
  | zero => exact ⟨hA t h, rfl⟩
  | succ k =>
    have h : (R t && !((zhw R N A n k).1 t || (zhw R N A n k).2 t) && zex (fun s => (zhw R N A n k).2 s && N s t) n) = true := h
    rw [Bool.and_eq_true, Bool.and_eq_true] at h
    refine ⟨h.1.1, ?_⟩
    have := h.1.2
    show ((zhw R N A n k).1 t || (zhw R N A n k).2 t) = false
    revert this
    cases ((zhw R N A n k).1 t || (zhw R N A n k).2 t) <;> simp
theorem zhw_e {R : Nat → Bool} {N : Nat → Nat → Bool} {A : Nat → Bool} {n k : Nat} (h : ∀ t, t < n → (zhw R N A n k).2 t = false) : ∀ j t, t < n → (zhw R N A n (k + j)).2 t = false := by
  intro j
  induction j with
  | zero => exact h
  | succ j ih =>
    intro t _
    show (R t && !((zhw R N A n (k + j)).1 t || (zhw R N A n (k + j)).2 t) && zex (fun s => (zhw R N A n (k + j)).2 s && N s t) n) = false
    have e : zex (fun s => (zhw R N A n (k + j)).2 s && N s t) n = false := by
      cases c : zex (fun s => (zhw R N A n (k + j)).2 s && N s t) n with
      | false => rfl
      | true =>
        obtain ⟨s, s1, s2⟩ := zex_iff.mp c
        rw [ih s s1] at s2
        cases s2
    rw [e, Bool.and_false]
theorem zcnt_mono {p q : Nat → Bool} {n : Nat} (h : ∀ t, t < n → p t = true → q t = true) : zcnt (fun t => p t = true) n ≤ zcnt (fun t => q t = true) n := by
  induction n with
  | zero => exact Nat.le_refl _
  | succ n ih =>
    have := ih fun t ht => h t (by omega)
    show zcnt (fun t => p t = true) n + (if p n = true then 1 else 0) ≤ zcnt (fun t => q t = true) n + (if q n = true then 1 else 0)
    by_cases c : p n = true
    · rw [if_pos c, if_pos (h n (by omega) c)]; omega
    · rw [if_neg c]; omega
theorem zcnt_more {p q : Nat → Bool} {n t : Nat} (h : ∀ t, t < n → p t = true → q t = true) (ht : t < n) (h1 : p t = false) (h2 : q t = true) : zcnt (fun t => p t = true) n + 1 ≤ zcnt (fun t => q t = true) n := by
  induction n with
  | zero => omega
  | succ n ih =>
    show zcnt (fun t => p t = true) n + (if p n = true then 1 else 0) + 1 ≤ zcnt (fun t => q t = true) n + (if q n = true then 1 else 0)
    by_cases e : t = n
    · subst e
      have := zcnt_mono (p := p) (q := q) (n := t) fun s hs => h s (by omega)
      rw [if_pos h2, if_neg (by rw [h1]; decide)]
      omega
    · have := ih (fun s hs => h s (by omega)) (by omega)
      by_cases c : p n = true
      · rw [if_pos c, if_pos (h n (by omega) c)]; omega
      · rw [if_neg c]; omega
/-- a drink more wants a tap more -/
theorem zhw_lt {R : Nat → Bool} {N : Nat → Nat → Bool} {A : Nat → Bool} {n : Nat} (hA : ∀ t, A t = true → R t = true) : ∀ k t, t < n → (zhw R N A n k).2 t = true → k < n := by
  have C : ∀ k, (∃ t, t < n ∧ (zhw R N A n k).2 t = true) → k ≤ zcnt (fun t => (zhw R N A n k).1 t = true) n := by
    intro k
    induction k with
    | zero => intro _; exact Nat.zero_le _
    | succ k ih =>
      rintro ⟨t, h1, h2⟩
      have h2 : (R t && !((zhw R N A n k).1 t || (zhw R N A n k).2 t) && zex (fun s => (zhw R N A n k).2 s && N s t) n) = true := h2
      rw [Bool.and_eq_true] at h2
      obtain ⟨s, s1, s2⟩ := zex_iff.mp h2.2
      rw [Bool.and_eq_true] at s2
      have := ih ⟨s, s1, s2.1⟩
      have h3 := zcnt_more (p := (zhw R N A n k).1) (q := (zhw R N A n (k + 1)).1) (n := n) (t := s) (fun u _ hu => by show ((zhw R N A n k).1 u || (zhw R N A n k).2 u) = true; rw [hu]; rfl) s1 (zhw_R hA k s s2.1).2 (by show ((zhw R N A n k).1 s || (zhw R N A n k).2 s) = true; rw [s2.1, Bool.or_true])
      omega
  intro k t h1 h2
  have c1 := C k ⟨t, h1, h2⟩
  have h3 := zcnt_more (p := (zhw R N A n k).1) (q := (zhw R N A n (k + 1)).1) (n := n) (t := t) (fun u _ hu => by show ((zhw R N A n k).1 u || (zhw R N A n k).2 u) = true; rw [hu]; rfl) h1 (zhw_R hA k t h2).2 (by show ((zhw R N A n k).1 t || (zhw R N A n k).2 t) = true; rw [h2, Bool.or_true])
  have h4 := zcnt_le (p := fun t => (zhw R N A n (k + 1)).1 t = true) n
  omega
/-- the fewest drinks -/
abbrev zhp (R : Nat → Bool) (N : Nat → Nat → Bool) (A G : Nat → Bool) (n k : Nat) : Prop := zex (fun t => (zhw R N A n k).2 t && G t) n = true
def zhv : Option Nat → Int32
  | some k => nI (k + 1)
  | none => -1
theorem zf_no {p : Nat → Prop} [DecidablePred p] {i k : Nat} (h : ∀ m, i ≤ m → m < i + k → ¬ p m) : zf p i k = none := by
  cases e : zf p i k with
  | none => rfl
  | some j =>
    obtain ⟨a, b, c, -⟩ := zf_some e
    exact absurd a (h j b c)
def zhR (h : ai_H) (x kn : Int32) (t : Nat) : Bool := decide (zrn h x kn t ∧ ztr (zsl (zMv h) 0) t x kn)
def zhN (h : ai_H) (s t u : Nat) : Bool := decide (zds (zsl (zMv h) 0 12 t) (zsl (zMv h) 0 12 u) ≤ s)
def zhA (h : ai_H) (x kn a : Int32) (s t : Nat) : Bool := zhR h x kn t && decide (zds a (zsl (zMv h) 0 12 t) ≤ s)
def zhG (h : ai_H) (b : Int32) (s t : Nat) : Bool := decide (zds (zsl (zMv h) 0 12 t) b ≤ s)
theorem X8 {h : ai_H} {p W : Nat → Bool} {s : Nat} (d : Nat) (hr : zR h) (hs : s ≤ 30) : ai_X (d + 3) 8 [.inr (.inr (20, 0, 2097281)), .inl (nI (zB (fun t => W t = true) (zn (zsl (zMv h) 0) 1))), .inl (nI s), .inl (nI (zB (fun t => p t = true) (zn (zsl (zMv h) 0) 1)))] h = some ([.inl (nI (zB (fun u => (p u && zex (fun t => W t && zhN h s t u) (zn (zsl (zMv h) 0) 1)) = true) (zn (zsl (zMv h) 0) 1)))], h) := by
  obtain ⟨b0, b1, b2, b8, b5, b4, b3, V⟩ := zR_b hr
  have K : ∀ k i, i + k = zn (zsl (zMv h) 0) 1 → ai_E (d + 2) 8 6 [some (.inr (.inr (20, 0, 2097281))), some (.inl (nI (zB (fun t => W t = true) (zn (zsl (zMv h) 0) 1)))), some (.inl (nI s)), some (.inl (nI (zB (fun t => p t = true) (zn (zsl (zMv h) 0) 1)))), some (.inl (nI (zB (fun u => (p u && zex (fun t => W t && zhN h s t u) i) = true) (zn (zsl (zMv h) 0) 1)))), some (.inl (nI i))] [] h = some ([.inl (nI (zB (fun u => (p u && zex (fun t => W t && zhN h s t u) (zn (zsl (zMv h) 0) 1)) = true) (zn (zsl (zMv h) 0) 1)))], h) := by
    intro k
    induction k with
    | zero =>
      intro i hi
      have hi : i = zn (zsl (zMv h) 0) 1 := by omega
      subst hi
      rw [T8_6, b1.1, if_pos (by rw [z_le]; omega)]
    | succ k ih =>
      intro i hi
      have ih := ih (i + 1) (by omega)
      have i24 : ∀ f : Nat → Option ai_R, ai_ix (nI i) 24 f = f i := fun f => z_ix (by omega) (by decide)
      obtain ⟨e12, v12⟩ := zC_t hr (t := i) (by omega)
      have hX := X7 (p := fun t => p t = true) (s := s) (c := zsl (zMv h) 0 12 i) d hr v12 hs
      rw [T8_6, b1.1, if_neg (by rw [nI_leI (by omega) (by omega)]; omega), X159B _ _ (by omega) (by omega)]
      simp only [z_bi, zb_0, i24, nI_1]
      by_cases c1 : W i = true
      · rw [if_neg (fun q => q c1), e12, hX]
        simp only [z_bi]
        rw [zB_or]
        rw [zB_c (p := fun u => (p u && zex (fun t => W t && zhN h s t u) (i + 1)) = true) (q := fun u => ((p u && zex (fun t => W t && zhN h s t u) i) = true) ∨ (p u = true ∧ zds (zsl (zMv h) 0 12 i) (zsl (zMv h) 0 12 u) ≤ s)) (fun u _ => by
          show (p u && (zex (fun t => W t && zhN h s t u) i || (W i && zhN h s i u))) = true ↔ _
          unfold zhN
          rw [c1]
          cases p u <;> simp)] at ih
        exact ih
      · rw [if_pos c1]
        rw [zB_c (p := fun u => (p u && zex (fun t => W t && zhN h s t u) (i + 1)) = true) (q := fun u => (p u && zex (fun t => W t && zhN h s t u) i) = true) (fun u _ => by
          show (p u && (zex (fun t => W t && zhN h s t u) i || (W i && zhN h s i u))) = true ↔ _
          rw [Bool.not_eq_true] at c1
          rw [c1, Bool.false_and, Bool.or_false])] at ih
        exact ih
  have e0 : zB (fun u => (p u && zex (fun t => W t && zhN h s t u) 0) = true) (zn (zsl (zMv h) 0) 1) = 0 := zB_0.mpr fun t _ q => by
    have q : (p t && false) = true := q
    rw [Bool.and_false] at q
    cases q
  have := K (zn (zsl (zMv h) 0) 1) 0 (Nat.zero_add _)
  rw [e0] at this
  rw [T8]
  exact this
/-- the troughs that there are -/
theorem X167 {h : ai_H} (d : Nat) (x kn : Int32) (hr : zR h) : ai_X (d + 2) 167 [.inr (.inr (31, 0, 128)), .inl x, .inl kn] h = some ([.inl (nI (zB (fun t => ztr (zsl (zMv h) 0) t x kn) (zn (zsl (zMv h) 0) 1)))], h) := by
  obtain ⟨b0, b1, b2, b8, b5, b4, b3, V⟩ := zR_b hr
  have hC : zC h 2097281 (zsl (zMv h) 0) := hr.1.1.1
  have e5 : h.1 2097281 5 = nI (zB (fun t => ¬ zsl (zMv h) 0 17 t = 0) (zn (zsl (zMv h) 0) 1)) := hC.2.2.2.2.2.1
  have h41 := X41k (k := 11) d x kn hr (by decide) (by decide)
  rw [T167, show ai_X (d + 1) 41 [.inr (.inr (25, 0, 268452108)), .inl x, .inl kn] h = _ from h41]
  simp only [z_bi]
  rw [e5, zB_andn2 (by omega) (by decide) b1.2.2]
  refine congrArg (fun z => some ([Sum.inl (nI z)], h)) (zB_c fun t ht => ?_)
  refine and_congr_right fun _ => ?_
  rw [zsob_val (σ := zsl (zMv h) 0) (k := nI 11) (w := nI t) (d := x) (kn := kn) (by decide)]
  show ¬ (∃ v, zval (zsl (zMv h) 0) 11 (nI t) x kn = some v ∧ ¬ v = 0) ↔ _
  cases zval (zsl (zMv h) 0) 11 (nI t) x kn with
  | none => simp
  | some v => simp
theorem zhN_V {h h1 : ai_H} {s t u : Nat} (e : zMv h1 = zMv h) : zhN h1 s t u = zhN h s t u := by
  unfold zhN
  rw [e]
/-- the class's waves -/
theorem X130l {h : ai_H} {R A G : Nat → Bool} {s n : Nat} (d : Nat) (hr : zR h) (hn : zn (zsl (zMv h) 0) 1 = n) (hs : s ≤ 30) (hA : ∀ t, A t = true → R t = true) : ∀ j k, k + j = 24 → ∀ z1 z2 z4 z5, ai_E (d + 3) 130 93 [some (.inr (.inr (31, 0, 128))), z1, z2, some (.inl (nI s)), z4, z5, some (.inl (nI (zB (fun t => R t = true ∧ ¬ (zhw R (zhN h s) A n k).1 t = true) n))), some (.inl (nI (zB (fun t => (zhw R (zhN h s) A n k).2 t = true) n))), some (.inl (nI (zB (fun t => R t = true ∧ G t = true) n))), some (.inl (nI (k + 1)))] [] h = some ([.inl (zhv (zf (zhp R (zhN h s) A G n) k j))], h) := by
  obtain ⟨b0, b1, b2, b8, b5, b4, b3, V⟩ := zR_b hr
  rw [hn] at b1
  have hl : n ≤ 24 := b1.2.2
  intro j
  induction j with
  | zero =>
    intro k hk z1 z2 z4 z5
    have hk : k = 24 := by omega
    subst hk
    rw [T130_93, if_pos (by decide)]
    rfl
  | succ j ih =>
    intro k hk z1 z2 z4 z5
    have ih := ih (k + 1) (by omega) z1 z2 z4 z5
    rw [T130_93, if_neg (by rw [show (24 : Int32) = nI 24 from rfl, nI_ltI (by omega) (by omega)]; omega)]
    by_cases e0 : ∀ t, t < n → ¬ (zhw R (zhN h s) A n k).2 t = true
    · rw [if_pos ((zB_n0 (by omega)).mpr e0), zf_no]
      · rfl
      · intro m hm _ c
        obtain ⟨t, t1, t2⟩ := zex_iff.mp c
        have := zhw_e (R := R) (N := zhN h s) (A := A) (n := n) (k := k) (fun t ht => zbF (e0 t ht)) (m - k) t t1
        rw [show k + (m - k) = m by omega] at this
        rw [this] at t2
        cases t2
    · rw [if_neg (fun q => e0 ((zB_n0 (by omega)).mp q)), zB_and2]
      have hc : nI (zB (fun t => (zhw R (zhN h s) A n k).2 t = true ∧ R t = true ∧ G t = true) n) = 0 ↔ ¬ zhp R (zhN h s) A G n k := by
        rw [zB_n0 (by omega)]
        unfold zhp
        rw [zex_iff]
        refine ⟨fun q => fun ⟨t, t1, t2⟩ => ?_, fun q t ht c => q ⟨t, ht, ?_⟩⟩
        · rw [Bool.and_eq_true] at t2
          exact q t t1 ⟨t2.1, (zhw_R hA k t t2.1).1, t2.2⟩
        · rw [Bool.and_eq_true]
          exact ⟨c.1, c.2.2⟩
      by_cases c : zhp R (zhN h s) A G n k
      · rw [if_neg (fun q => hc.mp q c)]
        show _ = some ([Sum.inl (zhv (if zhp R (zhN h s) A G n k then some k else _))], h)
        rw [if_pos c]
        rfl
      · rw [if_pos (hc.mpr c)]
        have ez : zf (zhp R (zhN h s) A G n) k (j + 1) = zf (zhp R (zhN h s) A G n) (k + 1) j := by
          show (if zhp R (zhN h s) A G n k then some k else _) = _
          rw [if_neg c]
        have e1 : zB (fun t => (R t = true ∧ ¬ (zhw R (zhN h s) A n k).1 t = true) ∧ ¬ (zhw R (zhN h s) A n k).2 t = true) n = zB (fun t => (R t && !((zhw R (zhN h s) A n k).1 t || (zhw R (zhN h s) A n k).2 t)) = true) n := zB_c fun t _ => by
          cases R t <;> cases (zhw R (zhN h s) A n k).1 t <;> cases (zhw R (zhN h s) A n k).2 t <;> simp
        have e2 : zB (fun t => R t = true ∧ ¬ (zhw R (zhN h s) A n (k + 1)).1 t = true) n = zB (fun t => (R t && !((zhw R (zhN h s) A n k).1 t || (zhw R (zhN h s) A n k).2 t)) = true) n := zB_c fun t _ => by
          show R t = true ∧ ¬ ((zhw R (zhN h s) A n k).1 t || (zhw R (zhN h s) A n k).2 t) = true ↔ _
          cases R t <;> cases (zhw R (zhN h s) A n k).1 t <;> cases (zhw R (zhN h s) A n k).2 t <;> simp
        have hX := X8 (p := fun t => R t && !((zhw R (zhN h s) A n k).1 t || (zhw R (zhN h s) A n k).2 t)) (W := (zhw R (zhN h s) A n k).2) (s := s) d hr hs
        rw [hn] at hX
        rw [zB_andn2 (by omega) (by omega) (Nat.le_refl _), e1, hX]
        simp only [z_bi, nI_1]
        rw [ez]
        rw [e2] at ih
        exact ih
