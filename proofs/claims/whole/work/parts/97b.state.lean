/-! OBJECTS MADE: the diary, a state -/
def zldg (h : ai_H) (a k n : Nat) : ai_H := ai_stR (ai_stK (zmks (ai_ch a k) [(0, n), (1, n), (2, n), (3, n)] (ai_new h (ai_ch a k) (45, 0) 5)) (ai_ch a k) (25, 0)) a k (some (ai_ch a k))
/-- a cell taken, its fields made, its kind set, the field written -/
def zput (g : ai_H) (a k c K : Nat) : ai_H := ai_stR (ai_stK g c (K, 0)) a k (some c)
theorem zput_k {g : ai_H} {a k c K q : Nat} : (zput g a k c K).2.2.2.1 q = if q = c then (K, 0) else g.2.2.2.1 q := rfl
theorem zput_i {g : ai_H} {a k c K : Nat} : (zput g a k c K).1 = g.1 := rfl
theorem zput_r {g : ai_H} {a k c K q i : Nat} : (zput g a k c K).2.2.1 q i = if q = a ∧ i = k then some c else g.2.2.1 q i := rfl
theorem zput_c {g : ai_H} {a k c K : Nat} : zct 0 0 g (zput g a k c K) := ⟨rfl, rfl, rfl⟩
theorem znew_k {h : ai_H} {c s q : Nat} {x : Nat × Nat} : (ai_new h c x s).2.2.2.1 q = if q = c then x else h.2.2.2.1 q := rfl
theorem znew_i {h : ai_H} {c s q : Nat} {x : Nat × Nat} : (ai_new h c x s).1 q = if q = c then fun _ => 0 else h.1 q := rfl
theorem znew_r {h : ai_H} {c s q i : Nat} {x : Nat × Nat} : (ai_new h c x s).2.2.1 q i = if q = c then none else h.2.2.1 q i := rfl
theorem znew_c {h : ai_H} {c s : Nat} {x : Nat × Nat} : zct 1 s h (ai_new h c x s) := ⟨rfl, rfl, rfl⟩
theorem znew_f {h : ai_H} {n c s : Nat} {x : Nat × Nat} : zfr n c h (ai_new h c x s) := fun q hq => by
  have h1 : ¬ q = c := fun e => hq (by rw [e]; exact zdn_a)
  exact ⟨by rw [znew_i, if_neg h1], funext fun i => by rw [znew_r, if_neg h1], by rw [znew_k, if_neg h1]⟩
theorem zput_f {g : ai_H} {n a k c K : Nat} (hc : zdn n a c) : zfr n a g (zput g a k c K) := fun q hq => by
  have h1 : ¬ q = a := fun e => hq (by rw [e]; exact zdn_a)
  have h2 : ¬ q = c := fun e => hq (by rw [e]; exact hc)
  exact ⟨rfl, funext fun i => by rw [zput_r, if_neg (fun c => h1 c.1)], by rw [zput_k, if_neg h2]⟩
theorem z_chn {a k : Nat} : ¬ a = ai_ch a k := by have := @zch_lt a k; omega
theorem zldg_g {h : ai_H} {a k n : Nat} (hk : k < 127) : (zldg h a k n).2.2.2.1 (ai_ch a k) = (25, 0) ∧ (zldg h a k n).2.2.1 a k = some (ai_ch a k) ∧ (∀ j, j < 4 → (zldg h a k n).2.2.2.1 (ai_ch (ai_ch a k) j) = (1, n)) ∧ (zldg h a k n).1 (ai_ch a k) 4 = 0 ∧ zct 5 (5 + 4 * n) h (zldg h a k n) ∧ ∀ q, ¬ zdn 1 (ai_ch a k) q → (zldg h a k n).1 q = h.1 q ∧ (zldg h a k n).2.2.2.1 q = h.2.2.2.1 q ∧ ∀ i, ¬ (q = a ∧ i = k) → (zldg h a k n).2.2.1 q i = h.2.2.1 q i := by
  have hl : ∀ x ∈ [(0, n), (1, n), (2, n), (3, n)], x.1 < 127 := by simp
  have hp : [(0, n), (1, n), (2, n), (3, n)].Pairwise (fun x y => ¬ x.1 = y.1) := by simp
  have hm : ∀ j, j < 4 → (j, n) ∈ [(0, n), (1, n), (2, n), (3, n)] := fun j hj => by
    rcases (show j = 0 ∨ j = 1 ∨ j = 2 ∨ j = 3 by omega) with rfl | rfl | rfl | rfl <;> simp
  obtain ⟨f1, f2, f3, f4⟩ := zmks_f (a := ai_ch a k) (h := ai_new h (ai_ch a k) (45, 0) 5) hl
  have e : zldg h a k n = zput (zmks (ai_ch a k) [(0, n), (1, n), (2, n), (3, n)] (ai_new h (ai_ch a k) (45, 0) 5)) a k (ai_ch a k) 25 := rfl
  rw [e]
  refine ⟨by rw [zput_k, if_pos rfl], by rw [zput_r, if_pos ⟨rfl, rfl⟩], fun j hj => ?_, ?_, ?_, fun q hq => ?_⟩
  · rw [zput_k, if_neg (fun c => z_chn c.symm)]
    exact (zmks_i (a := ai_ch a k) (hm j hj) hp).1
  · rw [zput_i, f4, znew_i, if_pos rfl]
  · have := zct_tr (zct_tr (znew_c (h := h) (c := ai_ch a k) (s := 5) (x := (45, 0))) f2) (zput_c (a := a) (k := k) (c := ai_ch a k) (K := 25))
    unfold zct at *
    simp only [List.length, zsum] at this
    omega
  · obtain ⟨g1, g2, g3⟩ := f1 q hq
    have n1 : ¬ q = ai_ch a k := fun c => hq (by rw [c]; exact zdn_a)
    refine ⟨by rw [zput_i, g1, znew_i, if_neg n1], by rw [zput_k, if_neg n1, g3, znew_k, if_neg n1], fun i hi => by rw [zput_r, if_neg hi, g2, znew_r, if_neg n1]⟩
theorem zstepL (X : ai_H → Option ai_R) {h : ai_H} {a k K n : Nat} {m : Int32} (d : Nat) (hm : m = nI n) (h1 : 1 ≤ n) (hn : n ≤ 1000) (hc : h.2.2.2.1 (ai_ch a k) = (0, 0)) (hcc : ∀ j, j < 4 → h.2.2.2.1 (ai_ch (ai_ch a k) j) = (0, 0)) (ha : (h.2.2.2.1 a).1 = K) : (if h.2.2.2.1 (ai_ch a k) = (0, 0) then if (ai_ch a k) = (ai_ch a k) then ai_bv (ai_X (d + 1) 36 [.inr (.inr (45, 0, (ai_ch a k))), .inl m] (ai_new h (ai_ch a k) (45, 0) 5)) (fun h1 => if (h1.2.2.2.1 (ai_ch a k)).1 = 45 ∧ ai_cmp h1 (ai_ch a k) 5 = true then if ((ai_stK h1 (ai_ch a k) (25, 0)).2.2.2.1 a).1 = K then X (ai_stR (ai_stK h1 (ai_ch a k) (25, 0)) a k (some (ai_ch a k))) else none else none) else none else none) = X (zldg h a k n) := by
  subst hm
  have hl : ∀ x ∈ [(0, n), (1, n), (2, n), (3, n)], x.1 < 127 := by simp
  have hp : [(0, n), (1, n), (2, n), (3, n)].Pairwise (fun x y => ¬ x.1 = y.1) := by simp
  obtain ⟨f1, f2, f3, f4⟩ := zmks_f (a := ai_ch a k) (h := ai_new h (ai_ch a k) (45, 0) 5) hl
  have I : ∀ j, (j, n) ∈ [(0, n), (1, n), (2, n), (3, n)] → _ := fun j hj => zmks_i (a := ai_ch a k) (h := ai_new h (ai_ch a k) (45, 0) 5) hj hp
  have hX := X36 (h := ai_new h (ai_ch a k) (45, 0) 5) (a := ai_ch a k) d h1 hn (by rw [znew_k, if_pos rfl]) (fun j hj => by rw [znew_k, if_neg (fun c => z_chn c.symm)]; exact hcc j hj)
  have k1 : ((zmks (ai_ch a k) [(0, n), (1, n), (2, n), (3, n)] (ai_new h (ai_ch a k) (45, 0) 5)).2.2.2.1 (ai_ch a k)).1 = 45 := by rw [f3, znew_k, if_pos rfl]
  have k2 : ai_cmp (zmks (ai_ch a k) [(0, n), (1, n), (2, n), (3, n)] (ai_new h (ai_ch a k) (45, 0) 5)) (ai_ch a k) 5 = true := by
    obtain ⟨a0, a1, -⟩ := I 0 (by simp)
    obtain ⟨b0, b1, -⟩ := I 1 (by simp)
    obtain ⟨c0, c1, -⟩ := I 2 (by simp)
    obtain ⟨d0, d1, -⟩ := I 3 (by simp)
    simp only [ai_cmp, ai_fkl, List.getD, List.getElem?_cons_succ, List.getElem?_cons_zero, Option.getD_some, ai_cmpF, ai_okb, Nat.zero_add, Nat.reduceAdd, a0, a1, b0, b1, c0, c1, d0, d1, decide_true, Bool.and_self]
  have k3 : ((ai_stK (zmks (ai_ch a k) [(0, n), (1, n), (2, n), (3, n)] (ai_new h (ai_ch a k) (45, 0) 5)) (ai_ch a k) (25, 0)).2.2.2.1 a).1 = K := by
    show (if a = ai_ch a k then ((25, 0) : Nat × Nat) else (zmks (ai_ch a k) [(0, n), (1, n), (2, n), (3, n)] (ai_new h (ai_ch a k) (45, 0) 5)).2.2.2.1 a).1 = K
    rw [if_neg z_chn, (f1 a zdn_up).2.2, znew_k, if_neg z_chn]
    exact ha
  rw [if_pos hc, if_pos rfl, hX]
  simp only [z_bv]
  rw [if_pos ⟨k1, k2⟩, if_pos k3]
  rfl
def zds7 : Nat → Nat
  | 0 => 0
  | k + 1 => zds7 k + (5 + 4 * zmost k)
/-- a diary that is being made: so many ledgers stand -/
def zdi (a k : Nat) (h0 h : ai_H) : Prop := zfr 2 a h0 h ∧ h.2.2.2.1 a = (42, 0) ∧ h.1 a = h0.1 a ∧ (∀ i, i < k → h.2.2.2.1 (ai_ch a i) = (25, 0) ∧ h.2.2.1 a i = some (ai_ch a i) ∧ (∀ j, j < 4 → h.2.2.2.1 (ai_ch (ai_ch a i) j) = (1, zmost i)) ∧ h.1 (ai_ch a i) 4 = 0) ∧ (∀ i, k ≤ i → i < 127 → h.2.2.2.1 (ai_ch a i) = (0, 0) ∧ ∀ j, j < 4 → h.2.2.2.1 (ai_ch (ai_ch a i) j) = (0, 0)) ∧ zct (5 * k) (zds7 k) h0 h
theorem zdi_s {a k : Nat} {h0 h : ai_H} (hk : k < 127) (x : zdi a k h0 h) : zdi a (k + 1) h0 (zldg h a k (zmost k)) := by
  obtain ⟨x1, x2, x0, x3, x4, x5⟩ := x
  obtain ⟨g1, g2, g3, g4, g5, g6⟩ := zldg_g (h := h) (a := a) (n := zmost k) hk
  refine ⟨zfr_tr x1 fun q hq => ?_, (g6 a zdn_up).2.1.trans x2, (g6 a zdn_up).1.trans x0, fun i hi => ?_, fun i hi hi2 => ?_, ?_⟩
  · have := g6 q fun c => hq (zdn_c hk c)
    exact ⟨this.1, funext fun i => this.2.2 i (fun c => hq (Or.inl c.1)), this.2.1⟩
  · by_cases e : i = k
    · subst e; exact ⟨g1, g2, g3, g4⟩
    · obtain ⟨y1, y2, y3, y4⟩ := x3 i (by omega)
      refine ⟨(g6 _ (zdn_b (by omega) e)).2.1.trans y1, ((g6 a zdn_up).2.2 i (fun c => e c.2)).trans y2, fun j hj => (g6 _ (zdn_bb hk (by omega) (by omega) e)).2.1.trans (y3 j hj), by rw [(g6 _ (zdn_b (by omega) e)).1]; exact y4⟩
  · obtain ⟨y1, y2⟩ := x4 i (by omega) hi2
    exact ⟨(g6 _ (zdn_b hi2 (by omega))).2.1.trans y1, fun j hj => (g6 _ (zdn_bb hk hi2 (by omega) (by omega))).2.1.trans (y2 j hj)⟩
  · have := zct_tr x5 g5
    have e : zds7 (k + 1) = zds7 k + (5 + 4 * zmost k) := rfl
    unfold zct at *
    omega
theorem ex_L {x y : Option ai_R} {P : ai_H → Prop} (e : x = y) (h : ∃ h', y = some ([], h') ∧ P h') : ∃ h', x = some ([], h') ∧ P h' := by rw [e]; exact h
theorem X18 {h : ai_H} {a : Nat} (d : Nat) (hk : h.2.2.2.1 a = (42, 0)) (hf : ∀ i, i < 127 → h.2.2.2.1 (ai_ch a i) = (0, 0) ∧ ∀ j, j < 4 → h.2.2.2.1 (ai_ch (ai_ch a i) j) = (0, 0)) : ∃ h', ai_X (d + 2) 18 [.inr (.inr (42, 0, a))] h = some ([], h') ∧ zfr 2 a h h' ∧ h'.2.2.2.1 a = (42, 0) ∧ ai_cmp h' a 2 = true ∧ (∀ k, k < 12 → zLk h' (ai_ch a k) (zmost k) ∧ h'.1 (ai_ch a k) 4 = 0) ∧ (h'.1 (ai_ch a 12) = fun _ => 0) ∧ (h'.1 a 13 = 0 ∧ h'.1 a 14 = 0 ∧ h'.1 a 15 = -1) ∧ zct 61 2484 h h' := by
  have i0 : zdi a 0 h h := ⟨zfr_rf, hk, rfl, fun i hi => absurd hi (Nat.not_lt_zero _), fun i _ hi => hf i hi, zct_rf⟩
  rw [T18]
  refine ex_L ((zstepL (n := zmost 0) (ai_E (d + 1) 18 17 [some (.inr (.inr (42, 0, a)))] []) d rfl (by decide) (by decide) (i0.2.2.2.2.1 0 (by decide) (by decide)).1 (i0.2.2.2.2.1 0 (by decide) (by decide)).2 (by rw [i0.2.1]))) ?_
  have i1 := zdi_s (k := 0) (by decide) i0
  generalize zldg h a 0 (zmost 0) = g1 at i1 ⊢
  rw [T18_17]
  refine ex_L ((zstepL (n := zmost 1) (ai_E (d + 1) 18 30 [some (.inr (.inr (42, 0, a)))] []) d rfl (by decide) (by decide) (i1.2.2.2.2.1 1 (by decide) (by decide)).1 (i1.2.2.2.2.1 1 (by decide) (by decide)).2 (by rw [i1.2.1]))) ?_
  have i2 := zdi_s (k := 1) (by decide) i1
  generalize zldg g1 a 1 (zmost 1) = g2 at i2 ⊢
  rw [T18_30]
  refine ex_L ((zstepL (n := zmost 2) (ai_E (d + 1) 18 43 [some (.inr (.inr (42, 0, a)))] []) d rfl (by decide) (by decide) (i2.2.2.2.2.1 2 (by decide) (by decide)).1 (i2.2.2.2.2.1 2 (by decide) (by decide)).2 (by rw [i2.2.1]))) ?_
  have i3 := zdi_s (k := 2) (by decide) i2
  generalize zldg g2 a 2 (zmost 2) = g3 at i3 ⊢
  rw [T18_43]
  refine ex_L ((zstepL (n := zmost 3) (ai_E (d + 1) 18 56 [some (.inr (.inr (42, 0, a)))] []) d rfl (by decide) (by decide) (i3.2.2.2.2.1 3 (by decide) (by decide)).1 (i3.2.2.2.2.1 3 (by decide) (by decide)).2 (by rw [i3.2.1]))) ?_
  have i4 := zdi_s (k := 3) (by decide) i3
  generalize zldg g3 a 3 (zmost 3) = g4 at i4 ⊢
  rw [T18_56]
  refine ex_L ((zstepL (n := zmost 4) (ai_E (d + 1) 18 69 [some (.inr (.inr (42, 0, a)))] []) d rfl (by decide) (by decide) (i4.2.2.2.2.1 4 (by decide) (by decide)).1 (i4.2.2.2.2.1 4 (by decide) (by decide)).2 (by rw [i4.2.1]))) ?_
  have i5 := zdi_s (k := 4) (by decide) i4
  generalize zldg g4 a 4 (zmost 4) = g5 at i5 ⊢
  rw [T18_69]
  refine ex_L ((zstepL (n := zmost 5) (ai_E (d + 1) 18 82 [some (.inr (.inr (42, 0, a)))] []) d rfl (by decide) (by decide) (i5.2.2.2.2.1 5 (by decide) (by decide)).1 (i5.2.2.2.2.1 5 (by decide) (by decide)).2 (by rw [i5.2.1]))) ?_
  have i6 := zdi_s (k := 5) (by decide) i5
  generalize zldg g5 a 5 (zmost 5) = g6 at i6 ⊢
  rw [T18_82]
  refine ex_L ((zstepL (n := zmost 6) (ai_E (d + 1) 18 95 [some (.inr (.inr (42, 0, a)))] []) d rfl (by decide) (by decide) (i6.2.2.2.2.1 6 (by decide) (by decide)).1 (i6.2.2.2.2.1 6 (by decide) (by decide)).2 (by rw [i6.2.1]))) ?_
  have i7 := zdi_s (k := 6) (by decide) i6
  generalize zldg g6 a 6 (zmost 6) = g7 at i7 ⊢
  rw [T18_95]
  refine ex_L ((zstepL (n := zmost 7) (ai_E (d + 1) 18 108 [some (.inr (.inr (42, 0, a)))] []) d rfl (by decide) (by decide) (i7.2.2.2.2.1 7 (by decide) (by decide)).1 (i7.2.2.2.2.1 7 (by decide) (by decide)).2 (by rw [i7.2.1]))) ?_
  have i8 := zdi_s (k := 7) (by decide) i7
  generalize zldg g7 a 7 (zmost 7) = g8 at i8 ⊢
  rw [T18_108]
  refine ex_L ((zstepL (n := zmost 8) (ai_E (d + 1) 18 121 [some (.inr (.inr (42, 0, a)))] []) d rfl (by decide) (by decide) (i8.2.2.2.2.1 8 (by decide) (by decide)).1 (i8.2.2.2.2.1 8 (by decide) (by decide)).2 (by rw [i8.2.1]))) ?_
  have i9 := zdi_s (k := 8) (by decide) i8
  generalize zldg g8 a 8 (zmost 8) = g9 at i9 ⊢
  rw [T18_121]
  refine ex_L ((zstepL (n := zmost 9) (ai_E (d + 1) 18 134 [some (.inr (.inr (42, 0, a)))] []) d rfl (by decide) (by decide) (i9.2.2.2.2.1 9 (by decide) (by decide)).1 (i9.2.2.2.2.1 9 (by decide) (by decide)).2 (by rw [i9.2.1]))) ?_
  have i10 := zdi_s (k := 9) (by decide) i9
  generalize zldg g9 a 9 (zmost 9) = g10 at i10 ⊢
  rw [T18_134]
  refine ex_L ((zstepL (n := zmost 10) (ai_E (d + 1) 18 147 [some (.inr (.inr (42, 0, a)))] []) d rfl (by decide) (by decide) (i10.2.2.2.2.1 10 (by decide) (by decide)).1 (i10.2.2.2.2.1 10 (by decide) (by decide)).2 (by rw [i10.2.1]))) ?_
  have i11 := zdi_s (k := 10) (by decide) i10
  generalize zldg g10 a 10 (zmost 10) = g11 at i11 ⊢
  rw [T18_147]
  refine ex_L ((zstepL (n := zmost 11) (ai_E (d + 1) 18 160 [some (.inr (.inr (42, 0, a)))] []) d rfl (by decide) (by decide) (i11.2.2.2.2.1 11 (by decide) (by decide)).1 (i11.2.2.2.2.1 11 (by decide) (by decide)).2 (by rw [i11.2.1]))) ?_
  have i12 := zdi_s (k := 11) (by decide) i11
  generalize zldg g11 a 11 (zmost 11) = g12 at i12 ⊢
  rw [T18_160]
  refine ex_L (zstepA (n := 24) (ai_E (d + 1) 18 168 [some (.inr (.inr (42, 0, a)))] []) rfl (by decide) (i12.2.2.2.2.1 12 (by decide) (by decide)).1 (by rw [i12.2.1])) ?_
  obtain ⟨x1, x2, x0, x3, x4, x5⟩ := i12
  have k0 : (zmk1 g12 a 12 1 24).2.2.2.1 a = (42, 0) := by rw [zmk1_k, if_neg z_chn]; exact x2
  have k1 : ∀ v : Int32, (ai_st (zmk1 g12 a 12 1 24) a 13 v).2.2.2.1 = (zmk1 g12 a 12 1 24).2.2.2.1 := fun _ => rfl
  rw [T18_168, if_pos (by rw [k0]), T18_173, if_pos (by rw [z_st2, k0]), T18_178, if_pos (by rw [z_st2, z_st2, k0]), T18_183]
  have oth : ∀ i, i < 12 → (zmk1 g12 a 12 1 24).2.2.2.1 (ai_ch a i) = g12.2.2.2.1 (ai_ch a i) ∧ (zmk1 g12 a 12 1 24).2.2.1 a i = g12.2.2.1 a i ∧ (zmk1 g12 a 12 1 24).1 (ai_ch a i) = g12.1 (ai_ch a i) ∧ ∀ j, j < 4 → (zmk1 g12 a 12 1 24).2.2.2.1 (ai_ch (ai_ch a i) j) = g12.2.2.2.1 (ai_ch (ai_ch a i) j) := fun i hi => by
    have n1 : ¬ ai_ch a i = ai_ch a 12 := fun c => by rw [z_ch] at c; omega
    refine ⟨by rw [zmk1_k, if_neg n1], by rw [zmk1_r, if_neg (fun c => by omega), if_neg z_chn], by rw [zmk1_i, if_neg n1], fun j hj => by rw [zmk1_k, if_neg (fun c => by unfold ai_ch at c; omega)]⟩
  refine ⟨_, rfl, fun q hq => ?_, k0, ?_, fun k hk => ?_, ?_, ⟨?_, ?_, ?_⟩, ?_⟩
  · have n1 : ¬ q = a := fun e => hq (Or.inl e)
    have := zfr_tr x1 (zfr_m (zmk1_f (h := g12) (a := a) (k := 1) (n := 24) (show 12 < 127 by decide))) q hq
    refine ⟨?_, this.2.1, this.2.2⟩
    rw [z_ne n1, z_ne n1, z_ne n1]
    exact this.1
  · have e12 : (zmk1 g12 a 12 1 24).2.2.2.1 (ai_ch a 12) = (1, 24) ∧ (zmk1 g12 a 12 1 24).2.2.1 a 12 = some (ai_ch a 12) := ⟨by rw [zmk1_k, if_pos rfl], by rw [zmk1_r, if_pos ⟨rfl, rfl⟩]⟩
    simp only [ai_cmp, ai_fkl, List.getD, List.getElem?_cons_succ, List.getElem?_cons_zero, Option.getD_some, ai_cmpF, ai_okb, Nat.zero_add, Nat.reduceAdd, z_st2, e12.1, e12.2, (oth 0 (by decide)).1, (oth 0 (by decide)).2.1, (x3 0 (by decide)).1, (x3 0 (by decide)).2.1, (oth 1 (by decide)).1, (oth 1 (by decide)).2.1, (x3 1 (by decide)).1, (x3 1 (by decide)).2.1, (oth 2 (by decide)).1, (oth 2 (by decide)).2.1, (x3 2 (by decide)).1, (x3 2 (by decide)).2.1, (oth 3 (by decide)).1, (oth 3 (by decide)).2.1, (x3 3 (by decide)).1, (x3 3 (by decide)).2.1, (oth 4 (by decide)).1, (oth 4 (by decide)).2.1, (x3 4 (by decide)).1, (x3 4 (by decide)).2.1, (oth 5 (by decide)).1, (oth 5 (by decide)).2.1, (x3 5 (by decide)).1, (x3 5 (by decide)).2.1, (oth 6 (by decide)).1, (oth 6 (by decide)).2.1, (x3 6 (by decide)).1, (x3 6 (by decide)).2.1, (oth 7 (by decide)).1, (oth 7 (by decide)).2.1, (x3 7 (by decide)).1, (x3 7 (by decide)).2.1, (oth 8 (by decide)).1, (oth 8 (by decide)).2.1, (x3 8 (by decide)).1, (x3 8 (by decide)).2.1, (oth 9 (by decide)).1, (oth 9 (by decide)).2.1, (x3 9 (by decide)).1, (x3 9 (by decide)).2.1, (oth 10 (by decide)).1, (oth 10 (by decide)).2.1, (x3 10 (by decide)).1, (x3 10 (by decide)).2.1, (oth 11 (by decide)).1, (oth 11 (by decide)).2.1, (x3 11 (by decide)).1, (x3 11 (by decide)).2.1, decide_true, Bool.and_self]
  · have y := x3 k hk
    have o := oth k hk
    refine ⟨⟨?_, ?_, ?_, ?_⟩, ?_⟩
    · show ((zmk1 g12 a 12 1 24).2.2.2.1 _).2 = _
      rw [o.2.2.2 0 (by decide), y.2.2.1 0 (by decide)]
    · show ((zmk1 g12 a 12 1 24).2.2.2.1 _).2 = _
      rw [o.2.2.2 1 (by decide), y.2.2.1 1 (by decide)]
    · show ((zmk1 g12 a 12 1 24).2.2.2.1 _).2 = _
      rw [o.2.2.2 2 (by decide), y.2.2.1 2 (by decide)]
    · show ((zmk1 g12 a 12 1 24).2.2.2.1 _).2 = _
      rw [o.2.2.2 3 (by decide), y.2.2.1 3 (by decide)]
    · have n1 : ¬ ai_ch a k = a := fun c => z_chn c.symm
      rw [z_ne n1, z_ne n1, z_ne n1, o.2.2.1]
      exact y.2.2.2
  · have n1 : ¬ ai_ch a 12 = a := fun c => z_chn c.symm
    rw [z_ne n1, z_ne n1, z_ne n1, zmk1_i, if_pos rfl]
  · rw [z_st1, if_neg (by omega), z_st1, if_neg (by omega), z_stS]
  · rw [z_st1, if_neg (by omega), z_stS]
  · rw [z_stS]
  · have := zct_tr x5 (zmk1_c (h := g12) (a := a) (j := 12) (k := 1) (n := 24))
    have e : zds7 (11 + 1) = 2460 := rfl
    unfold zct at *
    simp only [z_st2]
    omega
/-- a state -/
theorem zcmp0 {h : ai_H} {c : Nat} (F : ∀ j n, (j, n) ∈ [(6, 24), (7, 24), (8, 24), (9, 24), (10, 24), (11, 24), (12, 24), (13, 30), (14, 20)] → h.2.2.2.1 (ai_ch c j) = (1, n) ∧ h.2.2.1 c j = some (ai_ch c j)) : ai_cmp h c 0 = true := by
  obtain ⟨a1, a2⟩ := F 6 24 (by simp)
  obtain ⟨b1, b2⟩ := F 7 24 (by simp)
  obtain ⟨c1, c2⟩ := F 8 24 (by simp)
  obtain ⟨d1, d2⟩ := F 9 24 (by simp)
  obtain ⟨e1, e2⟩ := F 10 24 (by simp)
  obtain ⟨f1, f2⟩ := F 11 24 (by simp)
  obtain ⟨g1, g2⟩ := F 12 24 (by simp)
  obtain ⟨h1, h2⟩ := F 13 30 (by simp)
  obtain ⟨i1, i2⟩ := F 14 20 (by simp)
  simp only [ai_cmp, ai_fkl, List.getD, List.getElem?_cons_succ, List.getElem?_cons_zero, Option.getD_some, ai_cmpF, ai_okb, Nat.zero_add, Nat.reduceAdd, a1, a2, b1, b2, c1, c2, d1, d2, e1, e2, f1, f2, g1, g2, h1, h2, i1, i2, decide_true, Bool.and_self]
theorem zcmp3 {h : ai_H} {c : Nat} (F : ∀ j n, (j, n) ∈ [(1, 40), (2, 40), (3, 40), (4, 40), (5, 40), (6, 40)] → h.2.2.2.1 (ai_ch c j) = (1, n) ∧ h.2.2.1 c j = some (ai_ch c j)) : ai_cmp h c 3 = true := by
  obtain ⟨a1, a2⟩ := F 1 40 (by simp)
  obtain ⟨b1, b2⟩ := F 2 40 (by simp)
  obtain ⟨c1, c2⟩ := F 3 40 (by simp)
  obtain ⟨d1, d2⟩ := F 4 40 (by simp)
  obtain ⟨e1, e2⟩ := F 5 40 (by simp)
  obtain ⟨f1, f2⟩ := F 6 40 (by simp)
  simp only [ai_cmp, ai_fkl, List.getD, List.getElem?_cons_succ, List.getElem?_cons_zero, Option.getD_some, ai_cmpF, ai_okb, Nat.zero_add, Nat.reduceAdd, a1, a2, b1, b2, c1, c2, d1, d2, e1, e2, f1, f2, decide_true, Bool.and_self]
/-- a state that is new: what is asked of it -/
def znst (h' : ai_H) (a : Nat) : Prop := (∀ k, k < 12 → zLk h' (ai_ch (ai_ch a 1) k) (zmost k) ∧ h'.1 (ai_ch (ai_ch a 1) k) 4 = 0) ∧ (h'.1 (ai_ch a 0) = fun _ => 0) ∧ (∀ j, j < 15 → 6 ≤ j → h'.1 (ai_ch (ai_ch a 0) j) = fun _ => 0) ∧ (h'.1 (ai_ch (ai_ch a 1) 12) = fun _ => 0) ∧ (h'.1 (ai_ch a 1) 13 = 0 ∧ h'.1 (ai_ch a 1) 14 = 0 ∧ h'.1 (ai_ch a 1) 15 = -1) ∧ (h'.1 (ai_ch a 2) = fun _ => 0) ∧ (h'.1 (ai_ch a 3) = fun _ => 0)
theorem X71 {h : ai_H} {a : Nat} (d : Nat) (hk : h.2.2.2.1 a = (48, 0)) (hf : ∀ q, zdn 3 a q → ¬ q = a → h.2.2.2.1 q = (0, 0)) : ∃ h', ai_X (d + 4) 71 [.inr (.inr (48, 0, a))] h = some ([], h') ∧ zfr 3 a h h' ∧ h'.2.2.2.1 a = (48, 0) ∧ ai_cmp h' a 8 = true ∧ h'.1 a = h.1 a ∧ znst h' a ∧ zct 80 2985 h h' := by
  have d1 : ∀ j, j < 127 → zdn 3 a (ai_ch a j) := fun j hj => Or.inr (by rw [zfp_c hj]; exact zdn_a)
  have d2 : ∀ i j, i < 127 → j < 127 → zdn 3 a (ai_ch (ai_ch a i) j) := fun i j hi hj => Or.inr (by rw [zfp_c hj]; exact Or.inr (by rw [zfp_c hi]; exact zdn_a))
  have d3 : ∀ i j k, i < 127 → j < 127 → k < 127 → zdn 3 a (ai_ch (ai_ch (ai_ch a i) j) k) := fun i j k hi hj hk => Or.inr (by rw [zfp_c hk]; exact Or.inr (by rw [zfp_c hj]; exact Or.inr (by rw [zfp_c hi]; rfl)))
  have ne1 : ∀ j, ¬ ai_ch a j = a := fun j c => z_chn c.symm
  have ne2 : ∀ i j, ¬ ai_ch (ai_ch a i) j = a := fun i j c => by unfold ai_ch at c; omega
  have ne3 : ∀ i j k, ¬ ai_ch (ai_ch (ai_ch a i) j) k = a := fun i j k c => by unfold ai_ch at c; omega
  have f1 : ∀ j, j < 127 → h.2.2.2.1 (ai_ch a j) = (0, 0) := fun j hj => hf _ (d1 j hj) (ne1 j)
  have f2 : ∀ i j, i < 127 → j < 127 → h.2.2.2.1 (ai_ch (ai_ch a i) j) = (0, 0) := fun i j hi hj => hf _ (d2 i j hi hj) (ne2 i j)
  have f3 : ∀ i j k, i < 127 → j < 127 → k < 127 → h.2.2.2.1 (ai_ch (ai_ch (ai_ch a i) j) k) = (0, 0) := fun i j k hi hj hk => hf _ (d3 i j k hi hj hk) (ne3 i j k)
  -- the city
  have hl0 : ∀ x ∈ [(6, 24), (7, 24), (8, 24), (9, 24), (10, 24), (11, 24), (12, 24), (13, 30), (14, 20)], x.1 < 127 := by simp
  have hp0 : [(6, 24), (7, 24), (8, 24), (9, 24), (10, 24), (11, 24), (12, 24), (13, 30), (14, 20)].Pairwise (fun x y : Nat × Nat => ¬ x.1 = y.1) := by simp
  obtain ⟨c1, c2, c3, c4⟩ := zmks_f (a := ai_ch a 0) (h := ai_new h (ai_ch a 0) (40, 0) 15) hl0
  have ci := fun j n hj => zmks_i (a := ai_ch a 0) (j := j) (n := n) (h := ai_new h (ai_ch a 0) (40, 0) 15) hj hp0
  have hX0 := X0 (h := ai_new h (ai_ch a 0) (40, 0) 15) (a := ai_ch a 0) (d + 2) (by rw [znew_k, if_pos rfl]) (fun j hj => by rw [znew_k, if_neg (fun c => z_chn c.symm)]; exact f2 0 j (by decide) hj)
  have hX0 : ai_X (d + 3) 0 [.inr (.inr (40, 0, ai_ch a 0))] (ai_new h (ai_ch a 0) (40, 0) 15) = _ := hX0
  have kc : (ai_new h (ai_ch a 0) (40, 0) 15).2.2.2.1 (ai_ch a 0) = (40, 0) := by rw [znew_k, if_pos rfl]
  obtain ⟨g1, hg1⟩ : ∃ g1, zmks (ai_ch a 0) [(6, 24), (7, 24), (8, 24), (9, 24), (10, 24), (11, 24), (12, 24), (13, 30), (14, 20)] (ai_new h (ai_ch a 0) (40, 0) 15) = g1 := ⟨_, rfl⟩
  rw [hg1] at c1 c2 c3 c4 ci hX0
  have k1a : g1.2.2.2.1 a = (48, 0) := by rw [(c1 a zdn_up).2.2, znew_k, if_neg z_chn]; exact hk
  have cm0 : ai_cmp g1 (ai_ch a 0) 0 = true := zcmp0 fun j n hj => ⟨(ci j n hj).1, (ci j n hj).2.1⟩
  have e1 : (zput g1 a 0 (ai_ch a 0) 20).2.2.2.1 a = (48, 0) := by rw [zput_k, if_neg z_chn]; exact k1a
  have F1 : zfr 3 a h (zput g1 a 0 (ai_ch a 0) 20) := zfr_tr (zfr_c (n := 2) (by decide) (znew_f (n := 2) (h := h) (c := ai_ch a 0) (s := 15) (x := (40, 0)))) (zfr_tr (zfr_c (n := 2) (by decide) (zfr_m c1)) (zput_f (d1 0 (by decide))))
  have o1 : ∀ q, ¬ zdn 1 (ai_ch a 0) q → (zput g1 a 0 (ai_ch a 0) 20).2.2.2.1 q = h.2.2.2.1 q := fun q hq => by
    have n1 : ¬ q = ai_ch a 0 := fun c => hq (by rw [c]; exact zdn_a)
    rw [zput_k, if_neg n1, (c1 q hq).2.2, znew_k, if_neg n1]
  -- the diary
  obtain ⟨g2, y1, y2, y3, y4, y5, y6, y7, y8⟩ := X18 (h := ai_new (zput g1 a 0 (ai_ch a 0) 20) (ai_ch a 1) (42, 0) 16) (a := ai_ch a 1) (d + 1) (by rw [znew_k, if_pos rfl]) (fun i hi => ⟨by rw [znew_k, if_neg (fun c => z_chn c.symm), o1 _ (zdn_bb (by decide) (by decide) hi (by decide))]; exact f2 1 i (by decide) hi, fun j hj => by
    rw [znew_k, if_neg (fun c => by unfold ai_ch at c; omega), o1 _ (fun c => by
      rcases (show _ = ai_ch a 0 ∨ zfp _ = ai_ch a 0 from c) with c | c
      · unfold ai_ch at c; omega
      · rw [zfp_c (by omega)] at c; unfold ai_ch at c; omega)]
    exact f3 1 i j (by decide) hi (by omega)⟩)
  have y1 : ai_X (d + 3) 18 [.inr (.inr (42, 0, ai_ch a 1))] (ai_new (zput g1 a 0 (ai_ch a 0) 20) (ai_ch a 1) (42, 0) 16) = some ([], g2) := y1
  have k2a : g2.2.2.2.1 a = (48, 0) := by rw [(y2 a zdn_up).2.2, znew_k, if_neg z_chn]; exact e1
  have e2 : (zput g2 a 1 (ai_ch a 1) 22).2.2.2.1 a = (48, 0) := by rw [zput_k, if_neg z_chn]; exact k2a
  have F2 : zfr 3 a (zput g1 a 0 (ai_ch a 0) 20) (zput g2 a 1 (ai_ch a 1) 22) := zfr_tr (zfr_c (n := 2) (by decide) (znew_f (n := 2) (c := ai_ch a 1) (s := 16) (x := (42, 0)))) (zfr_tr (zfr_c (n := 2) (by decide) y2) (zput_f (d1 1 (by decide))))
  have o2 : ∀ q, ¬ zdn 2 (ai_ch a 1) q → (zput g2 a 1 (ai_ch a 1) 22).2.2.2.1 q = (zput g1 a 0 (ai_ch a 0) 20).2.2.2.1 q ∧ (zput g2 a 1 (ai_ch a 1) 22).1 q = g1.1 q := fun q hq => by
    have n1 : ¬ q = ai_ch a 1 := fun c => hq (by rw [c]; exact zdn_a)
    exact ⟨by rw [zput_k, if_neg n1, (y2 q hq).2.2, znew_k, if_neg n1], by rw [zput_i, (y2 q hq).1, znew_i, if_neg n1]; rfl⟩
  -- the jobs
  have hl3 : ∀ x ∈ [(1, 40), (2, 40), (3, 40), (4, 40), (5, 40), (6, 40)], x.1 < 127 := by simp
  have hp3 : [(1, 40), (2, 40), (3, 40), (4, 40), (5, 40), (6, 40)].Pairwise (fun x y : Nat × Nat => ¬ x.1 = y.1) := by simp
  obtain ⟨j1, j2, j3, j4⟩ := zmks_f (a := ai_ch a 2) (h := ai_new (zput g2 a 1 (ai_ch a 1) 22) (ai_ch a 2) (43, 0) 7) hl3
  have ji := fun j n hj => zmks_i (a := ai_ch a 2) (j := j) (n := n) (h := ai_new (zput g2 a 1 (ai_ch a 1) 22) (ai_ch a 2) (43, 0) 7) hj hp3
  have fr2 : ∀ j, j < 127 → (zput g2 a 1 (ai_ch a 1) 22).2.2.2.1 (ai_ch (ai_ch a 2) j) = (0, 0) := fun j hj => by
    rw [(o2 _ (zdn_bb (by decide) (by decide) hj (by decide))).1, o1 _ (zdn_bb (by decide) (by decide) hj (by decide))]
    exact f2 2 j (by decide) hj
  have hX20 := X20 (h := ai_new (zput g2 a 1 (ai_ch a 1) 22) (ai_ch a 2) (43, 0) 7) (a := ai_ch a 2) (d + 2) (by rw [znew_k, if_pos rfl]) (fun j hj => by rw [znew_k, if_neg (fun c => z_chn c.symm)]; exact fr2 j hj)
  have hX20 : ai_X (d + 3) 20 [.inr (.inr (43, 0, ai_ch a 2))] (ai_new (zput g2 a 1 (ai_ch a 1) 22) (ai_ch a 2) (43, 0) 7) = _ := hX20
  obtain ⟨g3, hg3⟩ : ∃ g3, zmks (ai_ch a 2) [(1, 40), (2, 40), (3, 40), (4, 40), (5, 40), (6, 40)] (ai_new (zput g2 a 1 (ai_ch a 1) 22) (ai_ch a 2) (43, 0) 7) = g3 := ⟨_, rfl⟩
  rw [hg3] at j1 j2 j3 j4 ji hX20
  have kj : (ai_new (zput g2 a 1 (ai_ch a 1) 22) (ai_ch a 2) (43, 0) 7).2.2.2.1 (ai_ch a 2) = (43, 0) := by rw [znew_k, if_pos rfl]
  have k3a : g3.2.2.2.1 a = (48, 0) := by rw [(j1 a zdn_up).2.2, znew_k, if_neg z_chn]; exact e2
  have cm3 : ai_cmp g3 (ai_ch a 2) 3 = true := zcmp3 fun j n hj => ⟨(ji j n hj).1, (ji j n hj).2.1⟩
  have e3 : (zput g3 a 2 (ai_ch a 2) 23).2.2.2.1 a = (48, 0) := by rw [zput_k, if_neg z_chn]; exact k3a
  have F3 : zfr 3 a (zput g2 a 1 (ai_ch a 1) 22) (zput g3 a 2 (ai_ch a 2) 23) := zfr_tr (zfr_c (n := 2) (by decide) (znew_f (n := 2) (c := ai_ch a 2) (s := 7) (x := (43, 0)))) (zfr_tr (zfr_c (n := 2) (by decide) (zfr_m j1)) (zput_f (d1 2 (by decide))))
  have o3 : ∀ q, ¬ zdn 1 (ai_ch a 2) q → (zput g3 a 2 (ai_ch a 2) 23).2.2.2.1 q = (zput g2 a 1 (ai_ch a 1) 22).2.2.2.1 q ∧ (zput g3 a 2 (ai_ch a 2) 23).1 q = g2.1 q ∧ (¬ q = a → (zput g3 a 2 (ai_ch a 2) 23).2.2.1 q = (zput g2 a 1 (ai_ch a 1) 22).2.2.1 q) := fun q hq => by
    have n1 : ¬ q = ai_ch a 2 := fun c => hq (by rw [c]; exact zdn_a)
    exact ⟨by rw [zput_k, if_neg n1, (j1 q hq).2.2, znew_k, if_neg n1], by rw [zput_i, (j1 q hq).1, znew_i, if_neg n1]; rfl, fun na => funext fun i => by rw [zput_r, if_neg (fun c => na c.1), (j1 q hq).2.1, znew_r, if_neg n1]⟩
  -- the coin
  have f33 : (zput g3 a 2 (ai_ch a 2) 23).2.2.2.1 (ai_ch a 3) = (0, 0) := by
    rw [(o3 _ (zdn_b (by decide) (by decide))).1, (o2 _ (zdn_b (by decide) (by decide))).1, o1 _ (zdn_b (by decide) (by decide))]
    exact f1 3 (by decide)
  have nc : ∀ i j, ¬ i = j → ¬ ai_ch a i = ai_ch a j := fun i j hij c => by rw [z_ch] at c; exact hij c
  refine ⟨zmk1 (zput g3 a 2 (ai_ch a 2) 23) a 3 1 5, ?_, zfr_tr F1 (zfr_tr F2 (zfr_tr F3 (zfr_m (zfr_m (zmk1_f (by decide)))))), ?_, ?_, ?_, ⟨fun k hk => ?_, ?_, fun j hj hj6 => ?_, ?_, ?_, ?_, ?_⟩, ?_⟩
  · rw [T71, if_pos (f1 0 (by decide)), if_pos rfl, hX0]
    simp only [z_bv]
    rw [if_pos ⟨by rw [c3, kc], cm0⟩, if_pos (show ((ai_stK g1 (ai_ch a 0) (20, 0)).2.2.2.1 a).1 = 48 from congrArg Prod.fst e1)]
    show ai_E (d + 3) 71 15 [some (.inr (.inr (48, 0, a)))] [] (zput g1 a 0 (ai_ch a 0) 20) = _
    rw [T71_15, if_pos (by rw [o1 _ (zdn_b (by decide) (by decide))]; exact f1 1 (by decide)), if_pos rfl, y1]
    simp only [z_bv]
    rw [if_pos ⟨by rw [y3], y4⟩, if_pos (show ((ai_stK g2 (ai_ch a 1) (22, 0)).2.2.2.1 a).1 = 48 from congrArg Prod.fst e2)]
    show ai_E (d + 3) 71 26 [some (.inr (.inr (48, 0, a)))] [] (zput g2 a 1 (ai_ch a 1) 22) = _
    rw [T71_26, if_pos (by rw [(o2 _ (zdn_b (by decide) (by decide))).1, o1 _ (zdn_b (by decide) (by decide))]; exact f1 2 (by decide)), if_pos rfl, hX20]
    simp only [z_bv]
    rw [if_pos ⟨by rw [j3, kj], cm3⟩, if_pos (show ((ai_stK g3 (ai_ch a 2) (23, 0)).2.2.2.1 a).1 = 48 from congrArg Prod.fst e3)]
    show ai_E (d + 3) 71 37 [some (.inr (.inr (48, 0, a)))] [] (zput g3 a 2 (ai_ch a 2) 23) = _
    rw [T71_37]
    refine (zstepA (n := 5) (ai_E (d + 3) 71 44 [some (.inr (.inr (48, 0, a)))] []) rfl (by decide) f33 (by rw [e3])).trans ?_
    rw [T71_44]
  · rw [zmk1_k, if_neg z_chn]; exact e3
  · -- the fields are whole
    have q0 : (zmk1 (zput g3 a 2 (ai_ch a 2) 23) a 3 1 5).2.2.2.1 (ai_ch a 0) = (20, 0) := by
      rw [zmk1_k, if_neg (nc 0 3 (by decide)), (o3 _ (zdn_b (by decide) (by decide))).1, (o2 _ (zdn_b (by decide) (by decide))).1, zput_k, if_pos rfl]
    have q1 : (zmk1 (zput g3 a 2 (ai_ch a 2) 23) a 3 1 5).2.2.2.1 (ai_ch a 1) = (22, 0) := by
      rw [zmk1_k, if_neg (nc 1 3 (by decide)), (o3 _ (zdn_b (by decide) (by decide))).1, zput_k, if_pos rfl]
    have q2 : (zmk1 (zput g3 a 2 (ai_ch a 2) 23) a 3 1 5).2.2.2.1 (ai_ch a 2) = (23, 0) := by
      rw [zmk1_k, if_neg (nc 2 3 (by decide)), zput_k, if_pos rfl]
    have q3 : (zmk1 (zput g3 a 2 (ai_ch a 2) 23) a 3 1 5).2.2.2.1 (ai_ch a 3) = (1, 5) := by rw [zmk1_k, if_pos rfl]
    have r3 : (zmk1 (zput g3 a 2 (ai_ch a 2) 23) a 3 1 5).2.2.1 a 3 = some (ai_ch a 3) := by rw [zmk1_r, if_pos ⟨rfl, rfl⟩]
    have r2 : (zmk1 (zput g3 a 2 (ai_ch a 2) 23) a 3 1 5).2.2.1 a 2 = some (ai_ch a 2) := by rw [zmk1_r, if_neg (by omega), if_neg z_chn, zput_r, if_pos ⟨rfl, rfl⟩]
    have r1 : (zmk1 (zput g3 a 2 (ai_ch a 2) 23) a 3 1 5).2.2.1 a 1 = some (ai_ch a 1) := by rw [zmk1_r, if_neg (by omega), if_neg z_chn, zput_r, if_neg (by omega), (j1 a zdn_up).2.1, znew_r, if_neg z_chn, zput_r, if_pos ⟨rfl, rfl⟩]
    have r0 : (zmk1 (zput g3 a 2 (ai_ch a 2) 23) a 3 1 5).2.2.1 a 0 = some (ai_ch a 0) := by rw [zmk1_r, if_neg (by omega), if_neg z_chn, zput_r, if_neg (by omega), (j1 a zdn_up).2.1, znew_r, if_neg z_chn, zput_r, if_neg (by omega), (y2 a zdn_up).2.1, znew_r, if_neg z_chn, zput_r, if_pos ⟨rfl, rfl⟩]
    simp only [ai_cmp, ai_fkl, List.getD, List.getElem?_cons_succ, List.getElem?_cons_zero, Option.getD_some, ai_cmpF, ai_okb, Nat.zero_add, Nat.reduceAdd, q0, q1, q2, q3, r0, r1, r2, r3, decide_true, Bool.and_self]
  · rw [zmk1_i, if_neg z_chn, (o3 a zdn_up).2.1, (y2 a zdn_up).1, znew_i, if_neg z_chn, zput_i, (c1 a zdn_up).1, znew_i, if_neg z_chn]
  · obtain ⟨⟨p0, p1, p2, p3⟩, p4⟩ := y5 k hk
    have kk : ∀ j, j < 4 → (zmk1 (zput g3 a 2 (ai_ch a 2) 23) a 3 1 5).2.2.2.1 (ai_ch (ai_ch (ai_ch a 1) k) j) = g2.2.2.2.1 (ai_ch (ai_ch (ai_ch a 1) k) j) := fun j hj => by
      rw [zmk1_k, if_neg (fun c => by unfold ai_ch at c; omega), (o3 _ (fun c => by
        rcases (show _ = ai_ch a 2 ∨ zfp _ = ai_ch a 2 from c) with c | c
        · unfold ai_ch at c; omega
        · rw [zfp_c (by omega)] at c; unfold ai_ch at c; omega)).1, zput_k, if_neg (fun c => by unfold ai_ch at c; omega)]
    refine ⟨⟨by rw [kk 0 (by decide)]; exact p0, by rw [kk 1 (by decide)]; exact p1, by rw [kk 2 (by decide)]; exact p2, by rw [kk 3 (by decide)]; exact p3⟩, ?_⟩
    rw [zmk1_i, if_neg (fun c => by unfold ai_ch at c; omega), (o3 _ (zdn_bb (by decide) (by decide) (by omega) (by decide))).2.1]
    exact p4
  · rw [zmk1_i, if_neg (nc 0 3 (by decide)), (o3 _ (zdn_b (by decide) (by decide))).2.1, (y2 _ (zdn_b (by decide) (by decide))).1, znew_i, if_neg (nc 0 1 (by decide)), zput_i, c4, znew_i, if_pos rfl]
  · have hm : ∃ n, (j, n) ∈ [(6, 24), (7, 24), (8, 24), (9, 24), (10, 24), (11, 24), (12, 24), (13, 30), (14, 20)] := by
      rcases (show j = 6 ∨ j = 7 ∨ j = 8 ∨ j = 9 ∨ j = 10 ∨ j = 11 ∨ j = 12 ∨ j = 13 ∨ j = 14 by omega) with rfl | rfl | rfl | rfl | rfl | rfl | rfl | rfl | rfl
      · exact ⟨24, by simp⟩
      · exact ⟨24, by simp⟩
      · exact ⟨24, by simp⟩
      · exact ⟨24, by simp⟩
      · exact ⟨24, by simp⟩
      · exact ⟨24, by simp⟩
      · exact ⟨24, by simp⟩
      · exact ⟨30, by simp⟩
      · exact ⟨20, by simp⟩
    obtain ⟨n, hn⟩ := hm
    rw [zmk1_i, if_neg (fun c => by unfold ai_ch at c; omega), (o3 _ (zdn_bb (by decide) (by decide) (by omega) (by decide))).2.1, (y2 _ (zdn_bb (by decide) (by decide) (by omega) (by decide))).1, znew_i, if_neg (fun c => by unfold ai_ch at c; omega), zput_i]
    exact (ci j n hn).2.2
  · rw [zmk1_i, if_neg (fun c => by unfold ai_ch at c; omega), (o3 _ (zdn_bb (by decide) (by decide) (by decide) (by decide))).2.1]
    exact y6
  · rw [zmk1_i, if_neg (nc 1 3 (by decide)), (o3 _ (zdn_b (by decide) (by decide))).2.1]
    exact y7
  · rw [zmk1_i, if_neg (nc 2 3 (by decide)), zput_i, j4, znew_i, if_pos rfl]
  · rw [zmk1_i, if_pos rfl]
  · have t1 := zct_tr (zct_tr (znew_c (h := h) (c := ai_ch a 0) (s := 15) (x := (40, 0))) c2) (zput_c (a := a) (k := 0) (c := ai_ch a 0) (K := 20))
    have t2 := zct_tr (zct_tr (znew_c (h := zput g1 a 0 (ai_ch a 0) 20) (c := ai_ch a 1) (s := 16) (x := (42, 0))) y8) (zput_c (a := a) (k := 1) (c := ai_ch a 1) (K := 22))
    have t3 := zct_tr (zct_tr (znew_c (h := zput g2 a 1 (ai_ch a 1) 22) (c := ai_ch a 2) (s := 7) (x := (43, 0))) j2) (zput_c (a := a) (k := 2) (c := ai_ch a 2) (K := 23))
    have t4 := zmk1_c (h := zput g3 a 2 (ai_ch a 2) 23) (a := a) (j := 3) (k := 1) (n := 5)
    have := zct_tr t1 (zct_tr t2 (zct_tr t3 t4))
    exact this
