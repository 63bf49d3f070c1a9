/-! THE SHORTEST ROUND -/
/-- the least of some, from a great one on -/
def zmn (q : Nat → Bool) (f : Nat → Nat) : Nat → Nat
  | 0 => 1073741824
  | n + 1 => if q n = true then (if f n < zmn q f n then f n else zmn q f n) else zmn q f n
theorem zmn_S {q : Nat → Bool} {f : Nat → Nat} {n : Nat} : zmn q f (n + 1) = if q n = true then (if f n < zmn q f n then f n else zmn q f n) else zmn q f n := rfl
theorem zmn_le {q : Nat → Bool} {f : Nat → Nat} : ∀ n, zmn q f n ≤ 1073741824 := by
  intro n
  induction n with
  | zero => exact Nat.le_refl _
  | succ n ih =>
    rw [zmn_S]
    by_cases c : q n = true
    · rw [if_pos c]
      by_cases c2 : f n < zmn q f n
      · rw [if_pos c2]; omega
      · rw [if_neg c2]; exact ih
    · rw [if_neg c]; exact ih
theorem zmn_at {q : Nat → Bool} {f : Nat → Nat} {i : Nat} : ∀ {n}, i < n → q i = true → zmn q f n ≤ f i := by
  intro n
  induction n with
  | zero => intro h; exact absurd h (Nat.not_lt_zero _)
  | succ n ih =>
    intro h hq
    rw [zmn_S]
    by_cases e : i = n
    · subst e
      rw [if_pos hq]
      by_cases c2 : f i < zmn q f i
      · rw [if_pos c2]; exact Nat.le_refl _
      · rw [if_neg c2]; omega
    · have := ih (by omega) hq
      by_cases c : q n = true
      · rw [if_pos c]
        by_cases c2 : f n < zmn q f n
        · rw [if_pos c2]; omega
        · rw [if_neg c2]; exact this
      · rw [if_neg c]; exact this
theorem nI_min {a b : Nat} (ha : a < 2147483648) (hb : b < 2147483648) : ai_min (nI a) (nI b) = nI (if b < a then b else a) := by
  unfold ai_min
  by_cases c : b < a
  · rw [if_pos c, if_pos (by rw [nI_ltI hb ha]; exact c)]
  · rw [if_neg c, if_neg (by rw [nI_ltI hb ha]; exact c)]
/-- the way to a stop, last of those visited -/
def zrw (C : Nat → Int32) (c : Int32) (m : Nat) (W : Nat → Nat → Nat) (v k : Nat) : Nat := if v ^^^ 2 ^ k = 0 then zds c (C k) else zmn (fun j => (v ^^^ 2 ^ k).testBit j) (fun j => W (v ^^^ 2 ^ k) j + zds (C j) (C k)) m
theorem z_clr {v k : Nat} (hv : v < 2147483648) (hk : k < 31) (h : v.testBit k = true) : nI v &&& ((1 <<< (nI k &&& 31)) ^^^ (-1)) = nI (v ^^^ 2 ^ k) := by
  have hp : 2 ^ k < 2147483648 := zp31 (m := 31) (Nat.pow_lt_pow_right (by decide) (by omega)) (by decide)
  obtain ⟨c, e1, -, e2⟩ := z_andn (a := v) (b := 2 ^ k) hv hp
  rw [z_bit hk, e1]
  congr 1
  apply Nat.eq_of_testBit_eq
  intro i
  rw [e2, Nat.testBit_xor, Nat.testBit_two_pow]
  by_cases e : k = i
  · subst e; simp [h]
  · simp [e]
theorem z_bfl {v k : Nat} (h : v.testBit k = true) : v ^^^ 2 ^ k < v := by
  have h1 : v ^^^ 2 ^ k ≤ v := Nat.le_of_testBit fun i hi => by
    rw [Nat.testBit_xor, Nat.testBit_two_pow] at hi
    by_cases e : k = i
    · subst e; exact h
    · simpa [e] using hi
  have h2 : ¬ v ^^^ 2 ^ k = v := fun e => by
    have := congrArg (fun x => Nat.testBit x k) e
    simp [h] at this
  omega
theorem zmn_c {q : Nat → Bool} {f g : Nat → Nat} : ∀ {n}, (∀ i, i < n → q i = true → f i = g i) → zmn q f n = zmn q g n := by
  intro n
  induction n with
  | zero => intro _; rfl
  | succ n ih =>
    intro h
    rw [zmn_S, zmn_S, ih fun i hi => h i (by omega)]
    by_cases c : q n = true
    · rw [if_pos c, if_pos c, h n (by omega) c]
    · rw [if_neg c, if_neg c]
def zWf (C : Nat → Int32) (c : Int32) (m : Nat) : Nat → Nat → Nat → Nat
  | 0, _, _ => 0
  | f + 1, v, k => if v ^^^ 2 ^ k = 0 then zds c (C k) else zmn (fun j => (v ^^^ 2 ^ k).testBit j) (fun j => zWf C c m f (v ^^^ 2 ^ k) j + zds (C j) (C k)) m
theorem zWf_S {C : Nat → Int32} {c : Int32} {m f v k : Nat} : zWf C c m (f + 1) v k = if v ^^^ 2 ^ k = 0 then zds c (C k) else zmn (fun j => (v ^^^ 2 ^ k).testBit j) (fun j => zWf C c m f (v ^^^ 2 ^ k) j + zds (C j) (C k)) m := by rw [zWf]
theorem zWf_f {C : Nat → Int32} {c : Int32} {m : Nat} : ∀ f f' v k, v < f → v < f' → v.testBit k = true → zWf C c m f v k = zWf C c m f' v k := by
  intro f
  induction f with
  | zero => intro f' v k h; exact absurd h (Nat.not_lt_zero _)
  | succ f ih =>
    intro f' v k h h' hb
    obtain ⟨g, rfl⟩ : ∃ g, f' = g + 1 := ⟨f' - 1, by omega⟩
    have hl := z_bfl hb
    unfold zWf
    by_cases c0 : v ^^^ 2 ^ k = 0
    · rw [if_pos c0, if_pos c0]
    · rw [if_neg c0, if_neg c0]
      exact zmn_c fun i _ hi => by rw [ih g (v ^^^ 2 ^ k) i (by omega) (by omega) hi]
def zW (C : Nat → Int32) (c : Int32) (m v k : Nat) : Nat := zWf C c m (v + 1) v k
theorem zW_eq {C : Nat → Int32} {c : Int32} {m v k : Nat} (hb : v.testBit k = true) : zW C c m v k = zrw C c m (zW C c m) v k := by
  have hl := z_bfl hb
  have e1 : zW C c m v k = zWf C c m (v + 1) v k := rfl
  rw [e1, zWf_S]
  unfold zrw
  by_cases c0 : v ^^^ 2 ^ k = 0
  · rw [if_pos c0, if_pos c0]
  · rw [if_neg c0, if_neg c0]
    refine zmn_c fun i _ hi => ?_
    show _ = zWf C c m ((v ^^^ 2 ^ k) + 1) (v ^^^ 2 ^ k) i + _
    rw [zWf_f v ((v ^^^ 2 ^ k) + 1) (v ^^^ 2 ^ k) i (by omega) (by omega) hi]
theorem z_tbx {v m : Nat} (h0 : ¬ v = 0) (h : v < 2 ^ m) : ∃ j, j < m ∧ v.testBit j = true := by
  obtain ⟨j, hj⟩ := Nat.exists_testBit_of_ne_zero h0
  refine ⟨j, ?_, hj⟩
  by_cases c : j < m
  · exact c
  · have := Nat.ge_two_pow_of_testBit hj
    have := Nat.pow_le_pow_right (n := 2) (by decide) (show m ≤ j by omega)
    omega
theorem zW_le {C : Nat → Int32} {c : Int32} {m : Nat} (hc : zi c 0 255) (hC : ∀ k, k < m → zi (C k) 0 255) : ∀ v k, v < 2 ^ m → k < m → v.testBit k = true → zW C c m v k ≤ 30 * v := by
  intro v
  induction v using Nat.strongRecOn with
  | ind v ih =>
    intro k hv hk hb
    have hl := z_bfl hb
    rw [zW_eq hb]
    unfold zrw
    by_cases c0 : v ^^^ 2 ^ k = 0
    · rw [if_pos c0]
      have := zds_le hc (hC k hk)
      omega
    · rw [if_neg c0]
      obtain ⟨j, j1, j2⟩ := z_tbx c0 (show v ^^^ 2 ^ k < 2 ^ m by omega)
      have h1 := zmn_at (q := fun j => (v ^^^ 2 ^ k).testBit j) (f := fun j => zW C c m (v ^^^ 2 ^ k) j + zds (C j) (C k)) j1 j2
      have h2 := ih (v ^^^ 2 ^ k) hl j (by omega) j1 j2
      have h3 := zds_le (hC j j1) (hC k hk)
      omega
theorem z_p8 {m : Nat} (h : m ≤ 8) : 2 ^ m ≤ 256 := Nat.pow_le_pow_right (by decide) h
/-- the walker's stops -/
def zwk (g : ai_H) (C : Nat → Int32) (m : Nat) : Prop := g.1 16390 0 = nI m ∧ ∀ k, k < m → g.1 2097923 k = C k
def zwa (g : ai_H) (A : Nat) (W : Nat → Nat → Nat) (m v : Nat) : Prop := ∀ u, u < v → ∀ k, k < m → u.testBit k = true → g.1 A (u * 8 + k) = nI (W u k)
theorem X82 {g : ai_H} {C : Nat → Int32} {c : Int32} {m v k : Nat} (d : Nat) (hm : m ≤ 8) (hg : zwk g C m) (ha : zwa g 2097925 (zW C c m) m v) (hc : zi c 0 255) (hC : ∀ k, k < m → zi (C k) 0 255) (hv : v < 2 ^ m) (hk : k < m) (hb : v.testBit k = true) : ai_X (d + 2) 82 [.inr (.inr (30, 0, 16390)), .inl (nI v), .inl (nI k), .inl c] g = some ([.inl (nI (zW C c m v k))], g) := by
  have hp := z_p8 hm
  have hl := z_bfl hb
  have i8 : ∀ f : Nat → Option ai_R, ai_ix (nI k) 8 f = f k := fun f => z_ix (by omega) (by decide)
  rw [T82, z_clr (by omega) (by omega) hb, zW_eq hb]
  by_cases c0 : v ^^^ 2 ^ k = 0
  · unfold zrw
    rw [if_pos c0, c0, if_pos (show nI 0 = 0 from rfl), i8, hg.2 k hk, X162 _ _ hc (hC k hk)]
    simp only [z_bi]
  · have e : zrw C c m (zW C c m) v k = zmn (fun j => (v ^^^ 2 ^ k).testBit j) (fun j => zW C c m (v ^^^ 2 ^ k) j + zds (C j) (C k)) m := by unfold zrw; rw [if_neg c0]
    rw [if_neg (nI_ne0 (Nat.pos_of_ne_zero c0) (by omega)), e]
    have K : ∀ q j, j + q = m → ∀ z1 z3 z7, ai_E (d + 1) 82 32 [some (.inr (.inr (30, 0, 16390))), z1, some (.inl (nI k)), z3, some (.inl (nI (v ^^^ 2 ^ k))), some (.inl (nI (zmn (fun j => (v ^^^ 2 ^ k).testBit j) (fun j => zW C c m (v ^^^ 2 ^ k) j + zds (C j) (C k)) j))), some (.inl (nI j)), z7] [] g = some ([.inl (nI (zmn (fun j => (v ^^^ 2 ^ k).testBit j) (fun j => zW C c m (v ^^^ 2 ^ k) j + zds (C j) (C k)) m))], g) := by
      intro q
      induction q with
      | zero =>
        intro j hj z1 z3 z7
        have hj : j = m := by omega
        subst hj
        rw [T82_32, hg.1, if_pos (by rw [z_le]; omega)]
      | succ q ih =>
        intro j hj z1 z3 z7
        have ih := ih (j + 1) (by omega) z1 z3
        have j8 : ∀ f : Nat → Option ai_R, ai_ix (nI j) 8 f = f j := fun f => z_ix (by omega) (by decide)
        rw [T82_32, hg.1, if_neg (by rw [nI_leI (by omega) (by omega)]; omega), X159 _ _ _ _ (by omega) (by omega)]
        simp only [z_bi, zb_0, nI_1]
        rw [zmn_S] at ih
        by_cases cb : (v ^^^ 2 ^ k).testBit j = true
        · have e8 : nI (v ^^^ 2 ^ k) * (8 : Int32) + nI j = nI ((v ^^^ 2 ^ k) * 8 + j) := by rw [show (8 : Int32) = nI 8 from rfl, pk_mul, nI_add]
          have w1 := zW_le (c := c) hc hC (v ^^^ 2 ^ k) j (by omega) (by omega) cb
          have w2 := zds_le (hC j (by omega)) (hC k hk)
          have w3 := zmn_le (q := fun j => (v ^^^ 2 ^ k).testBit j) (f := fun j => zW C c m (v ^^^ 2 ^ k) j + zds (C j) (C k)) j
          rw [if_neg (fun q => q cb), e8, z_ix (by omega) (by decide), j8, i8, hg.2 j (by omega), hg.2 k hk, X162 _ _ (hC j (by omega)) (hC k hk)]
          simp only [z_bi]
          rw [ha _ hl j (by omega) cb, nI_add, nI_min (by omega) (by omega)]
          rw [if_pos cb] at ih
          exact ih _
        · rw [if_pos cb]
          rw [if_neg cb] at ih
          exact ih _
    exact K m 0 (Nat.zero_add _) _ _ _
theorem z_wXS {j : Nat} : zXS 2097925 j := Or.inr (Or.inr (Or.inr (Or.inr (Or.inl (by decide)))))
theorem zwk_st {g : ai_H} {C : Nat → Int32} {m j : Nat} {v : Int32} (h : zwk g C m) : zwk (ai_st g 2097925 j v) C m := ⟨by rw [z_ne (by decide)]; exact h.1, fun k hk => by rw [z_ne (by decide)]; exact h.2 k hk⟩
theorem X81l {g0 : ai_H} {C : Nat → Int32} {c : Int32} {m : Nat} (d : Nat) (hm : m ≤ 8) (h1 : 1 ≤ m) (hg : zwk g0 C m) (hc : zi c 0 255) (hC : ∀ k, k < m → zi (C k) 0 255) (z1 z2 : Option ai_V) : ∃ g', ai_E (d + 3) 81 19 [some (.inr (.inr (30, 0, 16390))), z1, z2, some (.inl c), some (.inl (nI (2 ^ m - 1))), some (.inl 1), none] [] g0 = some ([.inl (nI (zmn (fun _ => true) (fun k => zW C c m (2 ^ m - 1) k + zds (C k) c) m))], g') ∧ zF zXS g0 g' := by
  have hp := z_p8 hm
  have hp1 := Nat.two_pow_pos m
  -- the way home
  have E : ∀ g, zwk g C m → zwa g 2097925 (zW C c m) m (2 ^ m) → ∀ q j, j + q = m → ai_E (d + 3) 81 89 [some (.inr (.inr (30, 0, 16390))), z1, z2, some (.inl c), some (.inl (nI (2 ^ m - 1))), some (.inl (nI (zmn (fun _ => true) (fun k => zW C c m (2 ^ m - 1) k + zds (C k) c) j))), some (.inl (nI j))] [] g = some ([.inl (nI (zmn (fun _ => true) (fun k => zW C c m (2 ^ m - 1) k + zds (C k) c) m))], g) := by
    intro g gk ga q
    induction q with
    | zero =>
      intro j hj
      have hj : j = m := by omega
      subst hj
      rw [T81_89, gk.1, if_pos (by rw [z_le]; omega)]
    | succ q ih =>
      intro j hj
      have ih := ih (j + 1) (by omega)
      have j8 : ∀ f : Nat → Option ai_R, ai_ix (nI j) 8 f = f j := fun f => z_ix (by omega) (by decide)
      have e8 : nI (2 ^ m - 1) * (8 : Int32) + nI j = nI ((2 ^ m - 1) * 8 + j) := by rw [show (8 : Int32) = nI 8 from rfl, pk_mul, nI_add]
      have cb : (2 ^ m - 1).testBit j = true := by rw [Nat.testBit_two_pow_sub_one]; exact decide_eq_true (by omega)
      have w1 := zW_le (c := c) hc hC (2 ^ m - 1) j (by omega) (by omega) cb
      have w2 := zds_le (hC j (by omega)) hc
      have w3 := zmn_le (q := fun _ => true) (f := fun k => zW C c m (2 ^ m - 1) k + zds (C k) c) j
      rw [T81_89, gk.1, if_neg (by rw [nI_leI (by omega) (by omega)]; omega), e8, z_ix (by omega) (by decide), j8, gk.2 j (by omega), X162 _ _ (hC j (by omega)) hc]
      simp only [z_bi, nI_1]
      rw [ga _ (by omega) j (by omega) cb, nI_add, nI_min (by omega) (by omega)]
      rw [zmn_S, if_pos rfl] at ih
      exact ih
  -- stop by stop
  have I : ∀ v, 1 ≤ v → v < 2 ^ m → ∀ q k, k + q = m → ∀ g, zF zXS g0 g → zwk g C m → zwa g 2097925 (zW C c m) m v → (∀ j, j < k → v.testBit j = true → g.1 2097925 (v * 8 + j) = nI (zW C c m v j)) → ∃ g', ai_E (d + 3) 81 29 [some (.inr (.inr (30, 0, 16390))), z1, z2, some (.inl c), some (.inl (nI (2 ^ m - 1))), some (.inl (nI v)), some (.inl (nI k))] [] g = ai_E (d + 3) 81 19 [some (.inr (.inr (30, 0, 16390))), z1, z2, some (.inl c), some (.inl (nI (2 ^ m - 1))), some (.inl (nI (v + 1))), some (.inl (nI m))] [] g' ∧ zF zXS g0 g' ∧ zwk g' C m ∧ zwa g' 2097925 (zW C c m) m (v + 1) := by
    intro v hv1 hv q
    induction q with
    | zero =>
      intro k hk g fg gk ga gv
      have hk : k = m := by omega
      subst hk
      refine ⟨g, ?_, fg, gk, fun u hu j hj hb => ?_⟩
      · rw [T81_29, gk.1, if_pos (by rw [z_le]; omega)]
        simp only [nI_1]
      · by_cases e : u = v
        · subst e; exact gv j hj hb
        · exact ga u (by omega) j hj hb
    | succ q ih =>
      intro k hk g fg gk ga gv
      have ih := ih (k + 1) (by omega)
      rw [T81_29, gk.1, if_neg (by rw [nI_leI (by omega) (by omega)]; omega), X159 _ _ _ _ (by omega) (by omega)]
      simp only [z_bi, zb_0, nI_1]
      by_cases cb : v.testBit k = true
      · have e8 : nI v * (8 : Int32) + nI k = nI (v * 8 + k) := by rw [show (8 : Int32) = nI 8 from rfl, pk_mul, nI_add]
        rw [if_neg (fun q => q cb), X82 (d + 1) hm gk ga hc hC hv (by omega) cb]
        simp only [z_bi]
        rw [e8, z_ix (by omega) (by decide)]
        refine ih _ (zF_st fg z_wXS) (zwk_st gk) (fun u hu j hj hb => ?_) (fun j hj hb => ?_)
        · rw [z_st1, if_neg (by omega)]
          exact ga u hu j hj hb
        · rw [z_st1]
          by_cases e : j = k
          · subst e
            rw [if_pos ⟨rfl, rfl⟩]
          · rw [if_neg (by omega)]
            exact gv j (by omega) hb
      · rw [if_pos cb]
        refine ih g fg gk ga fun j hj hb => ?_
        by_cases e : j = k
        · subst e; exact absurd hb cb
        · exact gv j (by omega) hb
  have O : ∀ q v, 1 ≤ v → v + q = 2 ^ m → ∀ g z6, zF zXS g0 g → zwk g C m → zwa g 2097925 (zW C c m) m v → ∃ g', ai_E (d + 3) 81 19 [some (.inr (.inr (30, 0, 16390))), z1, z2, some (.inl c), some (.inl (nI (2 ^ m - 1))), some (.inl (nI v)), z6] [] g = some ([.inl (nI (zmn (fun _ => true) (fun k => zW C c m (2 ^ m - 1) k + zds (C k) c) m))], g') ∧ zF zXS g0 g' := by
    intro q
    induction q with
    | zero =>
      intro v hv1 hv g z6 fg gk ga
      have hv : v = 2 ^ m := by omega
      subst hv
      refine ⟨g, ?_, fg⟩
      rw [T81_19, if_pos (by rw [nI_ltI (by omega) (by omega)]; omega)]
      exact E g gk ga m 0 (Nat.zero_add _)
    | succ q ih =>
      intro v hv1 hv g z6 fg gk ga
      obtain ⟨g', w1, w2, w3, w4⟩ := I v hv1 (by omega) m 0 (Nat.zero_add _) g fg gk ga (fun j hj => absurd hj (Nat.not_lt_zero _))
      obtain ⟨g'', y1, y2⟩ := ih (v + 1) (by omega) (by omega) g' (some (.inl (nI m))) w2 w3 w4
      refine ⟨g'', ?_, y2⟩
      rw [T81_19, if_neg (by rw [nI_ltI (by omega) (by omega)]; omega)]
      exact w1.trans y1
  obtain ⟨g', w1, w2⟩ := O (2 ^ m - 1) 1 (Nat.le_refl _) (by omega) g0 none zF_rf hg (fun u hu k hk hb => by
    have hu : u = 0 := by omega
    subst hu
    rw [Nat.zero_testBit] at hb
    cases hb)
  exact ⟨g', w1, w2⟩
