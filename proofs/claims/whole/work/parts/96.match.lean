/-! NAMES REMEMBERED: ways to give; who can't be given is shown by Hall's argument -/
theorem zpig : ∀ (n : Nat) (f : Nat → Nat), (∀ i, i ≤ n → f i < n) → ∃ i j, i < j ∧ j ≤ n ∧ f i = f j := by
  intro n
  induction n with
  | zero => intro f h; exact absurd (h 0 (Nat.le_refl _)) (Nat.not_lt_zero _)
  | succ n ih =>
    intro f h
    by_cases c : ∃ i, i ≤ n ∧ f i = f (n + 1)
    · obtain ⟨i, i1, i2⟩ := c
      exact ⟨i, n + 1, by omega, Nat.le_refl _, i2⟩
    · have hc : ∀ i, i ≤ n → ¬ f i = f (n + 1) := fun i hi q => c ⟨i, hi, q⟩
      have hb := h (n + 1) (Nat.le_refl _)
      obtain ⟨i, j, h1, h2, h3⟩ := ih (fun i => if f i = n then f (n + 1) else f i) fun i hi => by
        have := h i (by omega)
        have := hc i hi
        by_cases e : f i = n
        · rw [if_pos e]; omega
        · rw [if_neg e]; omega
      refine ⟨i, j, h1, by omega, ?_⟩
      have a1 := hc i (by omega)
      have a2 := hc j (by omega)
      by_cases e1 : f i = n
      · rw [if_pos e1] at h3
        by_cases e2 : f j = n
        · rw [e1, e2]
        · rw [if_neg e2] at h3
          exact absurd h3.symm a2
      · rw [if_neg e1] at h3
        by_cases e2 : f j = n
        · rw [if_pos e2] at h3
          exact absurd h3 a1
        · rw [if_neg e2] at h3
          exact h3
/-- a way: donors for taps -/
def zway (F : Nat → Nat → Bool) (P : Nat → Prop) (D nT o : Nat) : Prop := ∃ m : Nat → Nat, (∀ t, t < nT → P t → m t < D ∧ ¬ m t = o ∧ F t (m t) = true) ∧ ∀ t t', t < nT → t' < nT → P t → P t' → m t = m t' → t = t'
/-- a part of a way: what is given of the taps below t -/
def zmat (M : Nat → Option Nat) (F : Nat → Nat → Bool) (P : Nat → Prop) (D o t : Nat) : Prop :=
  (∀ d y, M d = some y → d < D ∧ ¬ d = o ∧ F y d = true ∧ y < t ∧ P y) ∧ (∀ d e y, M d = some y → M e = some y → d = e) ∧ ∀ y, y < t → P y → ∃ d, M d = some y
theorem zmat_way {M : Nat → Option Nat} {F : Nat → Nat → Bool} {P : Nat → Prop} {D o n : Nat} (h : zmat M F P D o n) : zway F P D n o := by
  refine ⟨fun t => Classical.epsilon fun d => M d = some t, fun t ht hp => ?_, fun t t' ht ht' hp hp' e => ?_⟩
  · have := Classical.epsilon_spec (h.2.2 t ht hp)
    obtain ⟨a, b, c, -⟩ := h.1 _ _ this
    exact ⟨a, b, c⟩
  · have h1 := Classical.epsilon_spec (h.2.2 t ht hp)
    have h2 := Classical.epsilon_spec (h.2.2 t' ht' hp')
    dsimp only at e
    rw [e, h2] at h1
    exact (Option.some.inj h1).symm
/-- a set of donors that is closed and holds all that fit a tap that has none -/
def zhal (M : Nat → Option Nat) (F : Nat → Nat → Bool) (D o : Nat) (S : Nat → Prop) (x : Nat) : Prop := (∀ d, d < D → F x d = true → S d) ∧ ∀ d, S d → ¬ d = o → ∃ y, M d = some y ∧ ∀ e, e < D → F y e = true → S e
theorem zhal_no {M : Nat → Option Nat} {F : Nat → Nat → Bool} {P : Nat → Prop} {D nT o t : Nat} {S : Nat → Prop} (hm : zmat M F P D o t) (hp : P t) (ht : t < nT) (hs : zhal M F D o S t) : ¬ zway F P D nT o := by
  rintro ⟨m, m1, m2⟩
  -- whom a donor of the set was given to
  have hy : ∀ d, S d → ¬ d = o → ∃ y, M d = some y ∧ (y < t ∧ P y) ∧ ∀ e, e < D → F y e = true → S e := fun d h1 h2 => by
    obtain ⟨y, y1, y2⟩ := hs.2 d h1 h2
    exact ⟨y, y1, (hm.1 d y y1).2.2.2, y2⟩
  let φ : Nat → Nat := fun d => m (Classical.epsilon fun y => M d = some y)
  have hφ : ∀ d, S d → ¬ d = o → ∃ y, M d = some y ∧ (y < t ∧ P y) ∧ φ d = m y ∧ S (φ d) ∧ ¬ φ d = o ∧ φ d < D := fun d h1 h2 => by
    obtain ⟨y, y1, y2, y3⟩ := hy d h1 h2
    have e : M d = some (Classical.epsilon fun y => M d = some y) := Classical.epsilon_spec (p := fun y => M d = some y) ⟨y, y1⟩
    have e2 : (Classical.epsilon fun y => M d = some y) = y := (Option.some.inj (y1.symm.trans e)).symm
    have e3 : φ d = m y := by show m (Classical.epsilon fun y => M d = some y) = m y; rw [e2]
    obtain ⟨a, b, c⟩ := m1 y (by omega) y2.2
    exact ⟨y, y1, y2, e3, by rw [e3]; exact y3 _ a c, by rw [e3]; exact b, by rw [e3]; exact a⟩
  let s : Nat → Nat := fun i => Nat.rec (m t) (fun _ d => φ d) i
  have s0 : s 0 = m t := rfl
  have sS : ∀ i, s (i + 1) = φ (s i) := fun i => rfl
  have hs1 : ∀ i, S (s i) ∧ ¬ s i = o ∧ s i < D := by
    intro i
    induction i with
    | zero =>
      obtain ⟨a, b, c⟩ := m1 t ht hp
      exact ⟨by rw [s0]; exact hs.1 _ a c, by rw [s0]; exact b, by rw [s0]; exact a⟩
    | succ i ih =>
      obtain ⟨y, -, -, -, a, b, c⟩ := hφ (s i) ih.1 ih.2.1
      rw [sS]
      exact ⟨a, b, c⟩
  have hne : ∀ i j, i < j → ¬ s i = s j := by
    intro i
    induction i with
    | zero =>
      intro j hj e
      obtain ⟨k, rfl⟩ : ∃ k, j = k + 1 := ⟨j - 1, by omega⟩
      obtain ⟨y, y1, y2, y3, -⟩ := hφ (s k) (hs1 k).1 (hs1 k).2.1
      rw [s0, sS, y3] at e
      have := m2 t y ht (by omega) hp y2.2 e
      omega
    | succ i ih =>
      intro j hj e
      obtain ⟨k, rfl⟩ : ∃ k, j = k + 1 := ⟨j - 1, by omega⟩
      obtain ⟨y, y1, y2, y3, -⟩ := hφ (s i) (hs1 i).1 (hs1 i).2.1
      obtain ⟨z, z1, z2, z3, -⟩ := hφ (s k) (hs1 k).1 (hs1 k).2.1
      rw [sS, sS, y3, z3] at e
      have e2 := m2 y z (by omega) (by omega) y2.2 z2.2 e
      subst e2
      exact ih k (by omega) (hm.2.1 _ _ _ y1 z1)
  obtain ⟨i, j, h1, -, h3⟩ := zpig D s fun i _ => (hs1 i).2.2
  exact hne i j h1 h3
/-- images and one-ness outside of a set -/
def zinj (M : Nat → Option Nat) (S : Nat → Bool) : Prop := ∀ d e y, S d = false → S e = false → M d = some y → M e = some y → d = e
def zimg (M : Nat → Option Nat) (S : Nat → Bool) (x : Nat) : Prop := ∃ d, S d = false ∧ M d = some x
def zpt (M : Nat → Option Nat) (j x : Nat) : Nat → Option Nat := fun d => if d = j then some x else M d
theorem zpt_s {M : Nat → Option Nat} {j x : Nat} : zpt M j x j = some x := if_pos rfl
theorem zpt_o {M : Nat → Option Nat} {j x d : Nat} (h : ¬ d = j) : zpt M j x d = M d := if_neg h
/-- what a success leaves -/
def zsuc (M M' : Nat → Option Nat) (S : Nat → Bool) (x : Nat) : Prop := (∀ d, S d = true → M' d = M d) ∧ (zinj M S → ¬ zimg M S x → zinj M' S ∧ ∀ z, zimg M' S z ↔ (zimg M S z ∨ z = x))
theorem zsuc_0 {M : Nat → Option Nat} {S : Nat → Bool} {j x : Nat} (hj : S j = false) (hM : M j = none) : zsuc M (zpt M j x) S x := by
  refine ⟨fun d hd => zpt_o (fun e => by rw [e, hj] at hd; cases hd), fun hi hx => ⟨fun d e y hd he h1 h2 => ?_, fun z => ⟨?_, ?_⟩⟩⟩
  · by_cases e1 : d = j
    · by_cases e2 : e = j
      · rw [e1, e2]
      · rw [e1, zpt_s] at h1
        rw [zpt_o e2] at h2
        cases h1
        exact absurd ⟨e, he, h2⟩ hx
    · rw [zpt_o e1] at h1
      by_cases e2 : e = j
      · rw [e2, zpt_s] at h2
        cases h2
        exact absurd ⟨d, hd, h1⟩ hx
      · rw [zpt_o e2] at h2
        exact hi d e y hd he h1 h2
  · rintro ⟨d, d1, d2⟩
    by_cases e1 : d = j
    · rw [e1, zpt_s] at d2
      cases d2
      exact Or.inr rfl
    · rw [zpt_o e1] at d2
      exact Or.inl ⟨d, d1, d2⟩
  · rintro (⟨d, d1, d2⟩ | e)
    · exact ⟨d, d1, by rw [zpt_o (fun e => by rw [e, hM] at d2; cases d2)]; exact d2⟩
    · exact ⟨j, hj, by rw [zpt_s, e]⟩
theorem zsuc_S {M M1 : Nat → Option Nat} {S S1 : Nat → Bool} {j x y : Nat} (hs : ∀ d, S d = true → S1 d = true) (hj : S j = false) (hj1 : S1 j = true) (hM : M j = some y) (h1 : zsuc M M1 S1 y) : zsuc M (zpt M1 j x) S x := by
  refine ⟨fun d hd => by rw [zpt_o (fun e => by rw [e, hj] at hd; cases hd)]; exact h1.1 d (hs d hd), fun hi hx => ?_⟩
  have hn : ∀ d, S1 d = false → S d = false := fun d hd => by
    cases e : S d with
    | false => rfl
    | true => rw [hs d e] at hd; cases hd
  have hi1 : zinj M S1 := fun d e y' hd he => hi d e y' (hn d hd) (hn e he)
  have hy1 : ¬ zimg M S1 y := fun ⟨d, d1, d2⟩ => by
    have := hi d j y (hn d d1) hj d2 hM
    rw [this, hj1] at d1
    cases d1
  obtain ⟨k1, k2⟩ := h1.2 hi1 hy1
  -- a donor outside of S: where its tap stood before
  have was : ∀ d z, S d = false → ¬ d = j → M1 d = some z → (S1 d = true ∧ M d = some z) ∨ (S1 d = false ∧ (zimg M S1 z ∨ z = y)) := fun d z hd hdj h => by
    cases e : S1 d with
    | true => exact Or.inl ⟨rfl, by rw [← h1.1 d e]; exact h⟩
    | false => exact Or.inr ⟨rfl, (k2 z).mp ⟨d, e, h⟩⟩
  have inS : ∀ z, (zimg M S1 z ∨ z = y) → zimg M S z := fun z h => by
    rcases h with ⟨d, d1, d2⟩ | e
    · exact ⟨d, hn d d1, d2⟩
    · subst e; exact ⟨j, hj, hM⟩
  have out : ∀ d z, S d = false → ¬ d = j → M1 d = some z → zimg M S z := fun d z hd hdj h => by
    rcases was d z hd hdj h with ⟨-, q⟩ | ⟨-, q⟩
    · exact ⟨d, hd, q⟩
    · exact inS z q
  refine ⟨fun d e z hd he p1 p2 => ?_, fun z => ⟨?_, ?_⟩⟩
  · by_cases e1 : d = j
    · by_cases e2 : e = j
      · rw [e1, e2]
      · rw [e1, zpt_s] at p1
        rw [zpt_o e2] at p2
        cases p1
        exact absurd (out e x he e2 p2) hx
    · rw [zpt_o e1] at p1
      by_cases e2 : e = j
      · rw [e2, zpt_s] at p2
        cases p2
        exact absurd (out d x hd e1 p1) hx
      · rw [zpt_o e2] at p2
        rcases was d z hd e1 p1 with ⟨a1, a2⟩ | ⟨a1, a2⟩
        · rcases was e z he e2 p2 with ⟨b1, b2⟩ | ⟨b1, b2⟩
          · exact hi d e z hd he a2 b2
          · rcases b2 with ⟨f, f1, f2⟩ | q
            · have := hi d f z hd (hn f f1) a2 f2
              rw [this, f1] at a1
              cases a1
            · subst q
              exact absurd (hi d j z hd hj a2 hM) e1
        · rcases was e z he e2 p2 with ⟨b1, b2⟩ | ⟨b1, b2⟩
          · rcases a2 with ⟨f, f1, f2⟩ | q
            · have := hi e f z he (hn f f1) b2 f2
              rw [this, f1] at b1
              cases b1
            · subst q
              exact absurd (hi e j z he hj b2 hM) e2
          · exact k1 d e z a1 b1 p1 p2
  · rintro ⟨d, d1, d2⟩
    by_cases e1 : d = j
    · rw [e1, zpt_s] at d2
      cases d2
      exact Or.inr rfl
    · rw [zpt_o e1] at d2
      exact Or.inl (out d z d1 e1 d2)
  · rintro (⟨d, d1, d2⟩ | e)
    · have go : (zimg M S1 z ∨ z = y) → zimg (zpt M1 j x) S z := fun q => by
        obtain ⟨e, e1, e2⟩ := (k2 z).mpr q
        exact ⟨e, hn e e1, by rw [zpt_o (fun c => by rw [c, hj1] at e1; cases e1)]; exact e2⟩
      by_cases e1 : d = j
      · rw [e1, hM] at d2
        cases d2
        exact go (Or.inr rfl)
      · cases e : S1 d with
        | true => exact ⟨d, d1, by rw [zpt_o e1, h1.1 d e]; exact d2⟩
        | false => exact go (Or.inl ⟨d, e, d2⟩)
    · exact ⟨j, hj, by rw [zpt_s, e]⟩
