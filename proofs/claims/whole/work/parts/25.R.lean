/-! THE RELATION: the class's part of the heap by the reference's view -/
def zg (μ : zMu) (j : Nat) : Nat := (μ.2 j).toInt.toNat
def zrt (h : ai_H) (y : Nat) : Prop := y % 128 = 0 ∧ (128 < y ∧ ¬ y = 16128) ∧ y < ai_dn h
/-- a letter's sign; a dot's -/
def zsgn (v : Int32) : Int32 := if v = 27 then 46 else v + 96
/-- does a tap's worn name fit a donor's -/
def zfit (μ : zMu) (t d : Nat) : Bool := decide (μ.1 64 t = μ.1 63 d) && (List.range (μ.1 64 t).toInt.toNat).all (fun k => decide (μ.1 66 (12 * t + k) = 27) || decide (μ.1 66 (12 * t + k) = μ.1 65 (12 * d + k)))
/-- a fact's number in the class -/
def zfx (f : Nat) : Nat := if f = 3 then 3 else if f < 3 then f + 6 else f + 5
def zfcw (x : Int32) : Int32 := if x = 3 then 3 else if x < 3 then x + 6 else x + 5
def zenc (μ : zMu) (k : Nat) : Int32 := if μ.1 43 k = 0 then (zfcw (μ.1 44 k) * 3 + (if μ.1 45 k = 60 then 0 else if μ.1 45 k = 62 then 1 else 2)) * 100000 + μ.1 46 k else if μ.1 43 k = 1 then -1 else if μ.1 43 k = 2 then -2 else -3
def zcode (μ : zMu) (a b : Nat) : List Int32 := (List.range (b - a)).map (fun k => zenc μ (a + k))
/-- the text at a place: verdict, work, condition, statement by statement -/
def zlaw (μ : zMu) (p : Nat) : List (Int32 × Int32 × List Int32) := (List.range (μ.1 36 p).toInt.toNat).map (fun i => (μ.1 38 (24 * p + i), μ.1 39 (24 * p + i), zcode μ (μ.1 40 (24 * p + i)).toInt.toNat (μ.1 41 (24 * p + i)).toInt.toNat))
def zflat (l : List (Int32 × Int32 × List Int32)) : List Int32 := l.flatMap (fun q => q.2.2)
/-- a Law at a cell -/
def zLw (h : ai_H) (y : Nat) (l : List (Int32 × Int32 × List Int32)) : Prop :=
  zrt h y ∧ ∃ y0 y1 y2 y3, (zrt h y0 ∧ zrt h y1 ∧ zrt h y2 ∧ zrt h y3) ∧ h.2.2.1 y 0 = some y0 ∧ h.2.2.1 y 1 = some y1 ∧ h.2.2.1 y 2 = some y2 ∧ h.2.2.1 y 3 = some y3 ∧
    (h.2.2.2.1 y0).2 = l.length ∧ (h.2.2.2.1 y1).2 = l.length ∧ (h.2.2.2.1 y2).2 = l.length ∧ (h.2.2.2.1 y3).2 = (zflat l).length ∧
    (∀ i q, l[i]? = some q → h.1 y0 i = q.1 ∧ h.1 y1 i = q.2.1 ∧ h.1 y2 i = nI (zflat (l.take (i + 1))).length) ∧ ∀ i v, (zflat l)[i]? = some v → h.1 y3 i = v
def zIm (h : ai_H) (μ : zMu) : Prop := h.1 128 10 = μ.2 32 ∧ ∀ i, i < zg μ 32 → ∃ y, h.2.2.1 16386 i = some y ∧ zrt h y ∧ h.1 y 4 = μ.1 9 (i + 1) ∧ zS h y (μ.1 9 (i + 1)).toInt.toNat (zsl μ (i + 1))
def zNm (h : ai_H) (μ : zMu) : Prop := h.1 16389 0 = μ.2 34 ∧ (∀ t, t < 24 → h.1 2097794 t = μ.1 64 t ∧ h.1 2097795 t = nI (zB (fun d => zfit μ t d = true) (zg μ 34)) ∧ ∀ k, k < (μ.1 64 t).toInt.toNat → h.1 2097796 (12 * t + k) = zsgn (μ.1 66 (12 * t + k))) ∧
  ∀ d, d < zg μ 34 → h.1 2097797 d = μ.1 63 d ∧ ∀ k, k < (μ.1 63 d).toInt.toNat → h.1 2097798 (12 * d + k) = zsgn (μ.1 65 (12 * d + k))
def zTp (h : ai_H) (μ : zMu) : Prop := h.1 16387 1 = μ.2 48 ∧ ∀ i, i < zg μ 48 → h.1 2097537 i = μ.1 47 i &&& 255
def zTr (h : ai_H) (μ : zMu) : Prop := h.1 16388 0 = μ.2 33 ∧ (∀ t, t < zg μ 33 → h.1 2097666 t = μ.1 37 t ∧ ∃ y, h.2.2.1 2097667 t = some y ∧ zLw h y (zlaw μ (1 + t))) ∧ ∃ y, h.2.2.1 128 9 = some y ∧ zLw h y (if μ.2 35 = 0 then [] else zlaw μ 0)
def zRx (h : ai_H) (μ : zMu) : Prop := zS h 16385 (zg μ 33) (zsl μ 0) ∧ h.1 128 11 = μ.2 49 ∧ zIm h μ ∧ zNm h μ ∧ zTp h μ ∧ zTr h μ
/-- how deep the pile of a condition's steps stands behind them; none: a step has too little there, or there is too much -/
def zdep (μ : zMu) (a : Nat) : Nat → Option Nat
  | 0 => some 0
  | k + 1 => match zdep μ a k with
    | none => none
    | some n => if μ.1 43 (a + k) = 0 then (if n < 21 then some (n + 1) else none) else if μ.1 43 (a + k) = 1 then (if 0 < n then some n else none) else (if 1 < n then some (n - 1) else none)
/-- a text at a place is well -/
def zVl (μ : zMu) (p : Nat) : Prop := zi (μ.1 36 p) 0 24 ∧ (∀ i, i < (μ.1 36 p).toInt.toNat → zi (μ.1 38 (24 * p + i)) 0 1 ∧ zi (μ.1 39 (24 * p + i)) 0 5 ∧ 0 ≤ (μ.1 40 (24 * p + i)).toInt ∧ (μ.1 40 (24 * p + i)).toInt ≤ (μ.1 41 (24 * p + i)).toInt ∧ (μ.1 41 (24 * p + i)).toInt ≤ (μ.2 42).toInt ∧
    (zdep μ (μ.1 40 (24 * p + i)).toInt.toNat ((μ.1 41 (24 * p + i)).toInt.toNat - (μ.1 40 (24 * p + i)).toInt.toNat) = some (if μ.1 40 (24 * p + i) = μ.1 41 (24 * p + i) then 0 else 1))) ∧ (zflat (zlaw μ p)).length ≤ 500
def zVs (μ : zMu) : Prop := zi (μ.2 42) 0 (15000 + 500 * ((zg μ 33 : Int) + 1)) ∧ (∀ k, k < (μ.2 42).toInt.toNat → zi (μ.1 43 k) 0 3 ∧ zi (μ.1 44 k) 0 5 ∧ zi (μ.1 45 k) 0 62 ∧ zi (μ.1 46 k) 0 99999) ∧ ∀ t, zg μ 33 ≤ t → t < 5 → μ.1 36 (1 + t) = 0
def zVm (μ : zMu) : Prop :=
  (zi (μ.2 32) 0 3 ∧ zi (μ.2 33) 0 5 ∧ zi (μ.2 34) 0 20 ∧ zi (μ.2 35) 0 1 ∧ zi (μ.2 48) 0 500 ∧ zi (μ.2 49) (-1) 500) ∧
  (∀ k, k ≤ zg μ 32 → zV (zsl μ k)) ∧ (∀ i, i < zg μ 32 → zi (μ.1 9 (i + 1)) 0 (zg μ 33)) ∧
  ((∀ t, t < zg μ 33 → zi (μ.1 21 t) 0 99999 ∧ zi (μ.1 37 t) 0 16777215) ∧ ∀ i, i < zg μ 32 → ∀ t, t < (μ.1 9 (i + 1)).toInt.toNat → zi (μ.1 21 (5 * (i + 1) + t)) 0 99999) ∧
  ((∀ t, t < 24 → zi (μ.1 64 t) 0 12 ∧ ∀ k, k < (μ.1 64 t).toInt.toNat → zi (μ.1 66 (12 * t + k)) 1 27) ∧ ∀ d, d < zg μ 34 → zi (μ.1 63 d) 1 12 ∧ ∀ k, k < (μ.1 63 d).toInt.toNat → zi (μ.1 65 (12 * d + k)) 1 26) ∧
  (∀ i, i < zg μ 48 → zi (μ.1 47 i) (-128) 127) ∧ zVs μ ∧ (∀ t, t < zg μ 33 → zVl μ (1 + t)) ∧ (¬ μ.2 35 = 0 → zVl μ 0)
def zFree (h : ai_H) : Prop := ∀ q, ai_dn h ≤ zroot q → h.2.2.2.1 q = (0, 0)
/-- the relation between the calls -/
def zR (h : ai_H) : Prop := zRx h (zMv h) ∧ zVm (zMv h) ∧ zFree h ∧ 16128 < ai_dn h
/-- the class's scratch -/
def zXS (q j : Nat) : Prop := q = 16390 ∨ q = 16391 ∨ q = 16392 ∨ q = 16393 ∨ zfp q = 16390 ∨ zfp q = 16391 ∨ (q = 16388 ∧ (j = 3 ∨ 8 ≤ j)) ∨ (2097669 ≤ q ∧ q ≤ 2097672) ∨ (q = 16389 ∧ j = 7) ∨ q = 2097799 ∨ (q = 16387 ∧ 2 ≤ j) ∨ (2097547 ≤ q ∧ q ≤ 2097550)
/-- the reference's scratch -/
def zMS (q j : Nat) : Prop := (q = 16128 ∧ 50 ≤ j) ∨ (2064435 ≤ q ∧ q ≤ 2064471 ∧ ¬ (2064448 ≤ q ∧ q ≤ 2064451))
theorem zC_c {h h' : ai_H} {c : Nat} {σ : Nat → Nat → Int32} (a : ∀ q, q = c ∨ zfp q = c → h'.1 q = h.1 q) (hc : zC h c σ) : zC h' c σ := by
  have e0 := a c (Or.inl rfl)
  have e : ∀ j, j < 127 → h'.1 (ai_ch c j) = h.1 (ai_ch c j) := fun j hj => a _ (Or.inr (zfp_c hj))
  unfold zC at hc ⊢
  rw [e0, e 6 (by decide), e 7 (by decide), e 8 (by decide), e 9 (by decide), e 10 (by decide), e 11 (by decide), e 12 (by decide), e 13 (by decide), e 14 (by decide)]
  exact hc
theorem zLr_c {h h' : ai_H} {a i : Nat} (e : ∀ j, j < 127 → h'.1 (ai_ch a j) = h.1 (ai_ch a j)) : zLr h' a i = zLr h a i := by
  unfold zLr
  rw [e 0 (by decide), e 1 (by decide), e 2 (by decide), e 3 (by decide)]
theorem zL_c {h h' : ai_H} {a : Nat} {l : List zR4} (h0 : h'.1 a = h.1 a) (e : ∀ j, j < 127 → h'.1 (ai_ch a j) = h.1 (ai_ch a j)) (hl : zL h a l) : zL h' a l := by
  refine ⟨by rw [h0]; exact hl.1, fun i hi => ?_⟩
  rw [zLr_c e]
  exact hl.2 i hi
theorem zD_c {h h' : ai_H} {c : Nat} {σ : Nat → Nat → Int32} (a : ∀ q, q = c ∨ zfp q = c ∨ zfp (zfp q) = c → h'.1 q = h.1 q) (hc : zD h c σ) : zD h' c σ := by
  have e0 := a c (Or.inl rfl)
  have e : ∀ j, j < 127 → h'.1 (ai_ch c j) = h.1 (ai_ch c j) := fun j hj => a _ (Or.inr (Or.inl (zfp_c hj)))
  refine ⟨fun k hk => zL_c (e k (by omega)) (fun j hj => a _ (Or.inr (Or.inr (by rw [zfp_c hj, zfp_c (by omega)])))) (hc.1 k hk), ?_⟩
  rw [e0, e 12 (by decide)]
  exact hc.2
theorem zJ_c {h h' : ai_H} {c : Nat} {σ : Nat → Nat → Int32} (a : ∀ q, q = c ∨ zfp q = c → h'.1 q = h.1 q) (hc : zJ h c σ) : zJ h' c σ := by
  have e0 := a c (Or.inl rfl)
  have e : ∀ j, j < 127 → h'.1 (ai_ch c j) = h.1 (ai_ch c j) := fun j hj => a _ (Or.inr (zfp_c hj))
  unfold zJ at hc ⊢
  rw [e0, e 1 (by decide), e 2 (by decide), e 3 (by decide), e 4 (by decide), e 5 (by decide), e 6 (by decide)]
  exact hc
theorem zS_c {h h' : ai_H} {s T : Nat} {σ : Nat → Nat → Int32} (a : ∀ q, zfp q = s ∨ zfp (zfp q) = s ∨ zfp (zfp (zfp q)) = s → h'.1 q = h.1 q) (b : h'.2.2.2.1 = h.2.2.2.1) (hs : zS h s T σ) : zS h' s T σ := by
  obtain ⟨h1, h2, h3, h4, h5⟩ := hs
  refine ⟨zC_c (fun q hq => a q ?_) h1, zD_c (fun q hq => a q ?_) h2, zJ_c (fun q hq => a q ?_) h3, fun t ht => ?_, fun k hk => ?_⟩
  · rcases hq with rfl | hq
    · exact Or.inl (zfp_c (by decide))
    · exact Or.inr (Or.inl (by rw [hq, zfp_c (by decide)]))
  · rcases hq with rfl | hq | hq
    · exact Or.inl (zfp_c (by decide))
    · exact Or.inr (Or.inl (by rw [hq, zfp_c (by decide)]))
    · exact Or.inr (Or.inr (by rw [hq, zfp_c (by decide)]))
  · rcases hq with rfl | hq
    · exact Or.inl (zfp_c (by decide))
    · exact Or.inr (Or.inl (by rw [hq, zfp_c (by decide)]))
  · rw [a _ (Or.inl (zfp_c (by decide)))]
    exact h4 t ht
  · unfold zLk
    rw [b]
    exact h5 k hk
theorem zLw_c {h h' : ai_H} {y : Nat} {l : List (Int32 × Int32 × List Int32)} (a : ∀ q, zrt h q → h'.1 q = h.1 q ∧ h'.2.2.1 q = h.2.2.1 q ∧ h'.2.2.2.1 q = h.2.2.2.1 q) (b : ai_dn h ≤ ai_dn h') (hl : zLw h y l) : zLw h' y l := by
  have m : ∀ q, zrt h q → zrt h' q := fun q hq => ⟨hq.1, hq.2.1, Nat.lt_of_lt_of_le hq.2.2 b⟩
  obtain ⟨r, y0, y1, y2, y3, ⟨r0, r1, r2, r3⟩, h0⟩ := hl
  refine ⟨m _ r, y0, y1, y2, y3, ⟨m _ r0, m _ r1, m _ r2, m _ r3⟩, ?_⟩
  rw [(a y r).2.1, (a y0 r0).2.2, (a y1 r1).2.2, (a y2 r2).2.2, (a y3 r3).2.2, (a y0 r0).1, (a y1 r1).1, (a y2 r2).1, (a y3 r3).1]
  exact h0
/-- the relation stands when what it reads stands -/
theorem zRx_c {h h' : ai_H} {μ : zMu} (a : ∀ q, zrt h (zroot q) → h'.1 q = h.1 q) (a0 : ∀ q, zfp q = 16385 ∨ zfp (zfp q) = 16385 ∨ zfp (zfp (zfp q)) = 16385 → h'.1 q = h.1 q) (a1 : h'.1 128 10 = h.1 128 10 ∧ h'.1 128 11 = h.1 128 11)
    (a2 : h'.1 16389 0 = h.1 16389 0 ∧ h'.1 2097794 = h.1 2097794 ∧ h'.1 2097795 = h.1 2097795 ∧ h'.1 2097796 = h.1 2097796 ∧ h'.1 2097797 = h.1 2097797 ∧ h'.1 2097798 = h.1 2097798) (a3 : h'.1 16387 1 = h.1 16387 1 ∧ h'.1 2097537 = h.1 2097537) (a4 : h'.1 16388 0 = h.1 16388 0 ∧ h'.1 2097666 = h.1 2097666)
    (b : h'.2.2 = h.2.2) (hr : zRx h μ) : zRx h' μ := by
  obtain ⟨h1, h2, h3, h4, h5, h6⟩ := hr
  have bd : ai_dn h' = ai_dn h := by unfold ai_dn; rw [b]
  have m : ∀ q, zrt h q → zrt h' q := fun q hq => ⟨hq.1, hq.2.1, by rw [bd]; exact hq.2.2⟩
  have al : ∀ q, zrt h q → h'.1 q = h.1 q ∧ h'.2.2.1 q = h.2.2.1 q ∧ h'.2.2.2.1 q = h.2.2.2.1 q := fun q hq => ⟨a q (by rw [zr0 hq.1]; exact hq), by rw [b], by rw [b]⟩
  refine ⟨zS_c a0 (by rw [b]) h1, by rw [a1.2]; exact h2, ⟨by rw [a1.1]; exact h3.1, fun i hi => ?_⟩, ?_, ?_, ?_⟩
  · obtain ⟨y, e1, e2, e3, e4⟩ := h3.2 i hi
    refine ⟨y, by rw [b]; exact e1, m y e2, by rw [(al y e2).1]; exact e3, zS_c (fun q hq => a q ?_) (by rw [b]) e4⟩
    have k : zroot q = y := by
      have k0 : zfp y = y := zfp_r e2.1
      unfold zroot
      rcases hq with hq | hq | hq <;> rw [hq] <;> simp only [k0]
    rw [k]
    exact e2
  · unfold zNm at h4 ⊢
    obtain ⟨c1, c2, c3, c4, c5, c6⟩ := a2
    rw [c1, c2, c3, c4, c5, c6]
    exact h4
  · unfold zTp at h5 ⊢
    rw [a3.1, a3.2]
    exact h5
  · obtain ⟨f1, f2, y, f3, f4⟩ := h6
    refine ⟨by rw [a4.1]; exact f1, fun t ht => ?_, y, by rw [b]; exact f3, zLw_c al (by rw [bd]; exact Nat.le_refl _) f4⟩
    obtain ⟨g1, y, g2, g3⟩ := f2 t ht
    exact ⟨by rw [a4.2]; exact g1, y, by rw [b]; exact g2, zLw_c al (by rw [bd]; exact Nat.le_refl _) g3⟩
theorem zXS_r {q j : Nat} (h : zXS q j) : zroot q = 128 := by
  unfold zXS at h
  rcases h with rfl | rfl | rfl | rfl | h | h | ⟨rfl, -⟩ | ⟨h1, h2⟩ | ⟨rfl, -⟩ | rfl | ⟨rfl, -⟩ | ⟨h1, h2⟩
  · decide
  · decide
  · decide
  · decide
  · unfold zroot; rw [h]; decide
  · unfold zroot; rw [h]; decide
  · decide
  · rcases (show q = 2097669 ∨ q = 2097670 ∨ q = 2097671 ∨ q = 2097672 by omega) with rfl | rfl | rfl | rfl <;> decide
  · decide
  · decide
  · decide
  · rcases (show q = 2097547 ∨ q = 2097548 ∨ q = 2097549 ∨ q = 2097550 by omega) with rfl | rfl | rfl | rfl <;> decide
theorem zXS_n {q j : Nat} (h : zfp q = 16385 ∨ zfp (zfp q) = 16385 ∨ zfp (zfp (zfp q)) = 16385) : ¬ zXS q j := by
  intro c
  unfold zXS at c
  have k1 : zfp 128 = 128 := rfl
  have k2 : zfp 16390 = 128 := rfl
  have k3 : zfp 16391 = 128 := rfl
  rcases c with rfl | rfl | rfl | rfl | c | c | ⟨rfl, -⟩ | ⟨h1, h2⟩ | ⟨rfl, -⟩ | rfl | ⟨rfl, -⟩ | ⟨h1, h2⟩
  · revert h; decide
  · revert h; decide
  · revert h; decide
  · revert h; decide
  · rw [c, k2, k1] at h; omega
  · rw [c, k3, k1] at h; omega
  · revert h; decide
  · rcases (show q = 2097669 ∨ q = 2097670 ∨ q = 2097671 ∨ q = 2097672 by omega) with rfl | rfl | rfl | rfl <;> revert h <;> decide
  · revert h; decide
  · revert h; decide
  · revert h; decide
  · rcases (show q = 2097547 ∨ q = 2097548 ∨ q = 2097549 ∨ q = 2097550 by omega) with rfl | rfl | rfl | rfl <;> revert h <;> decide
theorem zXS_v {q : Nat} (h : q = 2097794 ∨ q = 2097795 ∨ q = 2097796 ∨ q = 2097797 ∨ q = 2097798 ∨ q = 2097537 ∨ q = 2097666) {j : Nat} : ¬ zXS q j := by
  have k : zfp q = 16387 ∨ zfp q = 16388 ∨ zfp q = 16389 := by
    rcases h with rfl | rfl | rfl | rfl | rfl | rfl | rfl <;> decide
  unfold zXS
  omega
/-- a question leaves the relation as it stands -/
theorem zR_q {h h1 h2 : ai_H} (hr : zR h) (a : zF zXS h h1) (b : zF zMS h1 h2) : zR h2 := by
  obtain ⟨r1, r2, r3, r4⟩ := hr
  have e1 : h1.2 = h.2 := a.2
  have e2 : h2.2 = h1.2 := b.2
  have eM : ∀ q j, zroot q = 16128 → h1.1 q j = h.1 q j := fun q j hq => a.1 q j (fun c => by rw [zXS_r c] at hq; revert hq; decide)
  have eV1 : zMv h1 = zMv h := zMv_c (fun f hf => funext fun j => eM _ j (zMr (by omega))) (fun j _ => eM _ j (by decide))
  have eV2 : zMv h2 = zMv h1 := zMv_c (fun f hf => funext fun j => b.1 _ j (by unfold zMS; omega)) (fun j hj => b.1 _ j (by unfold zMS; omega))
  have nM : ∀ q j, zMS q j → zroot q = 16128 := fun q j hm => by
    unfold zMS at hm
    rcases hm with ⟨rfl, -⟩ | ⟨h1, h2, -⟩
    · decide
    · obtain ⟨f, hf, rfl⟩ : ∃ f, f < 87 ∧ q = 2064385 + f := ⟨q - 2064385, by omega, by omega⟩
      exact zMr hf
  have k : ∀ q j, ¬ zXS q j → ¬ zroot q = 16128 → h2.1 q j = h.1 q j := fun q j n1 n2 => (b.1 q j (fun c => n2 (nM q j c))).trans (a.1 q j n1)
  have k' : ∀ q, (∀ j, ¬ zXS q j) → ¬ zroot q = 16128 → h2.1 q = h.1 q := fun q n1 n2 => funext fun j => k q j (n1 j) n2
  unfold zR
  rw [eV2, eV1]
  refine ⟨zRx_c (h := h) (fun q hq => k' q (fun j c => ?_) (fun c => ?_)) (fun q hq => k' q (fun j => zXS_n hq) (fun c => ?_)) ⟨k _ _ (by unfold zXS; decide) (by decide), k _ _ (by unfold zXS; decide) (by decide)⟩
    ⟨k _ _ (by unfold zXS; decide) (by decide), k' _ (fun j => zXS_v (by omega)) (by decide), k' _ (fun j => zXS_v (by omega)) (by decide), k' _ (fun j => zXS_v (by omega)) (by decide), k' _ (fun j => zXS_v (by omega)) (by decide), k' _ (fun j => zXS_v (by omega)) (by decide)⟩
    ⟨k _ _ (by unfold zXS; decide) (by decide), k' _ (fun j => zXS_v (by omega)) (by decide)⟩ ⟨k _ _ (by unfold zXS; decide) (by decide), k' _ (fun j => zXS_v (by omega)) (by decide)⟩ (by rw [e2, e1]) r1, r2, fun q hq => ?_, ?_⟩
  · rw [zXS_r c] at hq
    have := hq.2.1
    omega
  · rw [c] at hq
    have := hq.2.1
    omega
  · have : zroot q = 128 := by
      have k1 : zfp 16385 = 128 := rfl
      have k2 : zfp 128 = 128 := rfl
      unfold zroot
      rcases hq with hq | hq | hq <;> rw [hq] <;> simp only [k1, k2]
    omega
  · have hd : ai_dn h2 = ai_dn h := by unfold ai_dn; rw [e2, e1]
    rw [hd] at hq
    rw [e2, e1]
    exact r3 q hq
  · have hd : ai_dn h2 = ai_dn h := by unfold ai_dn; rw [e2, e1]
    rw [hd]
    exact r4
