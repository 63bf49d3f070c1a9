/-! THE SHORTEST ROUND: the reference's, both sides -/
/-- a least one that may be none yet -/
def zmo (z : Nat) : Int32 := if z = 1073741824 then -1 else nI z
theorem zmo_neg {z : Nat} (h : z ≤ 1073741824) : zmo z < 0 ↔ z = 1073741824 := by
  unfold zmo
  by_cases c : z = 1073741824
  · rw [if_pos c]; exact ⟨fun _ => c, fun _ => by decide⟩
  · rw [if_neg c, z_lt, z_T (by omega)]
    simp only [zl0]
    omega
/-- what stands in a place of reach, some stops asked -/
def zre (C : Nat → Int32) (c : Int32) (m v k j : Nat) : Int32 := if v ^^^ 2 ^ k = 0 then nI (zds c (C k)) else zmo (zmn (fun j => (v ^^^ 2 ^ k).testBit j) (fun j => zW C c m (v ^^^ 2 ^ k) j + zds (C j) (C k)) j)
theorem zre_m {C : Nat → Int32} {c : Int32} {m v k : Nat} (hm : m ≤ 8) (hc : zi c 0 255) (hC : ∀ k, k < m → zi (C k) 0 255) (hv : v < 2 ^ m) (hk : k < m) (hb : v.testBit k = true) : zre C c m v k m = nI (zW C c m v k) := by
  have hp := z_p8 hm
  have hl := z_bfl hb
  have h1 := zW_le hc hC v k hv hk hb
  rw [zW_eq hb] at h1 ⊢
  unfold zre
  unfold zrw at h1 ⊢
  by_cases c0 : v ^^^ 2 ^ k = 0
  · rw [if_pos c0, if_pos c0]
  · rw [if_neg c0] at h1
    rw [if_neg c0, if_neg c0]
    unfold zmo
    rw [if_neg (by omega)]
/-- the reference's stops -/
def zwm (g : ai_H) (l : Nat → Nat) (C : Nat → Int32) (m : Nat) : Prop := ∀ k, k < m → g.1 2064465 k = nI (l k) ∧ l k < 24 ∧ g.1 2064397 (l k) = C k
def zwq (g : ai_H) (W : Nat → Nat → Nat) (m v : Nat) : Prop := ∀ u, u < v → ∀ k, k < m → u.testBit k = true → g.1 2064466 (8 * u + k) = nI (W u k)
theorem zwm_st {g : ai_H} {l : Nat → Nat} {C : Nat → Int32} {m j : Nat} {v : Int32} (h : zwm g l C m) : zwm (ai_st g 2064466 j v) l C m := fun k hk => by
  rw [z_ne (by decide), z_ne (by decide)]
  exact h k hk
theorem z_wMS {j : Nat} : zMS 2064466 j := Or.inr ⟨by omega, by omega, by omega⟩
theorem M289l {g0 : ai_H} {l : Nat → Nat} {C : Nat → Int32} {c : Int32} {m : Nat} (d : Nat) (hm : m ≤ 8) (h1 : 1 ≤ m) (hg : zwm g0 l C m) (hc : zi c 0 255) (hC : ∀ k, k < m → zi (C k) 0 255) (z1 : Option ai_V) : ∃ g', ai_E (d + 3) 289 28 [some (.inr (.inr (32, 0, 16128))), z1, some (.inl c), some (.inl (nI m)), some (.inl 1), none, none, none, none] [] g0 = some ([.inl (nI (zmn (fun _ => true) (fun k => zW C c m (2 ^ m - 1) k + zds (C k) c) m))], g') ∧ zF zMS g0 g' := by
  have hp := z_p8 hm
  have hp1 := Nat.two_pow_pos m
  have i24 : ∀ k, l k < 24 → ∀ f : Nat → Option ai_R, ai_ix (nI (l k)) 96 f = f (l k) := fun k hk f => z_ix (by omega) (by decide)
  -- the way home
  have E : ∀ g, zwm g l C m → zwq g (zW C c m) m (2 ^ m) → ∀ q j, j + q = m → ∀ z6 z7 z8, ai_E (d + 3) 289 255 [some (.inr (.inr (32, 0, 16128))), z1, some (.inl c), some (.inl (nI m)), some (.inl (zmo (zmn (fun _ => true) (fun k => zW C c m (2 ^ m - 1) k + zds (C k) c) j))), some (.inl (nI j)), z6, z7, z8] [] g = some ([.inl (zmo (zmn (fun _ => true) (fun k => zW C c m (2 ^ m - 1) k + zds (C k) c) m))], g) := by
    intro g gk ga q
    induction q with
    | zero =>
      intro j hj z6 z7 z8
      have hj : j = m := by omega
      subst hj
      rw [T289_255, if_pos (by rw [z_le]; omega)]
    | succ q ih =>
      intro j hj z6 z7 z8
      have ih := ih (j + 1) (by omega)
      have j8 : ∀ f : Nat → Option ai_R, ai_ix (nI j) 8 f = f j := fun f => z_ix (by omega) (by decide)
      have e2 : nI (2 ^ m) - 1 = nI (2 ^ m - 1) := pk_sub (b := 1) (by omega)
      have e8 : (8 : Int32) * nI (2 ^ m - 1) + nI j = nI (8 * (2 ^ m - 1) + j) := by rw [show (8 : Int32) = nI 8 from rfl, pk_mul, nI_add]
      have cb : (2 ^ m - 1).testBit j = true := by rw [Nat.testBit_two_pow_sub_one]; exact decide_eq_true (by omega)
      have w1 := zW_le (c := c) hc hC (2 ^ m - 1) j (by omega) (by omega) cb
      have w2 := zds_le (hC j (by omega)) hc
      have w3 := zmn_le (q := fun _ => true) (f := fun k => zW C c m (2 ^ m - 1) k + zds (C k) c) j
      obtain ⟨g1, g2, g3⟩ := gk j (by omega)
      rw [T289_255, if_neg (by rw [nI_leI (by omega) (by omega)]; omega), z_bit (by omega), e2, e8, z_ix (by omega) (by decide), j8, g1, i24 j g2, g3, M190 _ _ (hC j (by omega)) hc]
      simp only [z_bi, nI_1]
      rw [ga _ (by omega) j (by omega) cb, nI_add]
      rw [zmn_S, if_pos rfl] at ih
      generalize zmn (fun _ => true) (fun k => zW C c m (2 ^ m - 1) k + zds (C k) c) j = z at *
      by_cases cz : z = 1073741824
      · rw [if_pos ((zmo_neg w3).mpr cz)]
        rw [if_pos (by omega)] at ih
        have e : nI (zW C c m (2 ^ m - 1) j + zds (C j) c) = zmo (zW C c m (2 ^ m - 1) j + zds (C j) c) := by unfold zmo; rw [if_neg (by omega)]
        have := ih (some (.inl (nI (zW C c m (2 ^ m - 1) j + zds (C j) c)))) z7 z8
        rw [← e] at this
        exact this
      · rw [if_neg (fun q => cz ((zmo_neg w3).mp q))]
        have ez : zmo z = nI z := by unfold zmo; rw [if_neg cz]
        rw [ez]
        by_cases c2 : z ≤ zW C c m (2 ^ m - 1) j + zds (C j) c
        · rw [if_pos (by rw [nI_leI (by omega) (by omega)]; exact c2)]
          rw [if_neg (by omega)] at ih
          have := ih (some (.inl (nI (zW C c m (2 ^ m - 1) j + zds (C j) c)))) z7 z8
          rw [ez] at this
          exact this
        · rw [if_neg (by rw [nI_leI (by omega) (by omega)]; exact c2)]
          rw [if_pos (by omega)] at ih
          have e : nI (zW C c m (2 ^ m - 1) j + zds (C j) c) = zmo (zW C c m (2 ^ m - 1) j + zds (C j) c) := by unfold zmo; rw [if_neg (by omega)]
          have := ih (some (.inl (nI (zW C c m (2 ^ m - 1) j + zds (C j) c)))) z7 z8
          rw [← e] at this
          exact this
  -- a place of reach
  have P : ∀ v k, v < 2 ^ m → k < m → v.testBit k = true → ∀ q j, j + q = m → ∀ g z8, zF zMS g0 g → zwm g l C m → zwq g (zW C c m) m v → (∀ i, i < k → v.testBit i = true → g.1 2064466 (8 * v + i) = nI (zW C c m v i)) → g.1 2064466 (8 * v + k) = zre C c m v k j → ∃ g' z8', ai_E (d + 3) 289 120 [some (.inr (.inr (32, 0, 16128))), z1, some (.inl c), some (.inl (nI m)), some (.inl (nI v)), some (.inl (nI k)), some (.inl (nI (v ^^^ 2 ^ k))), some (.inl (nI j)), z8] [] g = ai_E (d + 3) 289 39 [some (.inr (.inr (32, 0, 16128))), z1, some (.inl c), some (.inl (nI m)), some (.inl (nI v)), some (.inl (nI (k + 1))), some (.inl (nI (v ^^^ 2 ^ k))), some (.inl (nI m)), z8'] [] g' ∧ zF zMS g0 g' ∧ zwm g' l C m ∧ zwq g' (zW C c m) m v ∧ ∀ i, i < k + 1 → v.testBit i = true → g'.1 2064466 (8 * v + i) = nI (zW C c m v i) := by
    intro v k hv hk hb q
    have hl := z_bfl hb
    induction q with
    | zero =>
      intro j hj g z8 fg gk ga gv gr
      have hj : j = m := by omega
      subst hj
      refine ⟨g, z8, ?_, fg, gk, ga, fun i hi hib => ?_⟩
      · rw [T289_120, if_pos (by rw [z_le]; omega)]
        simp only [nI_1]
      · by_cases e : i = k
        · subst e; rw [gr, zre_m hm hc hC hv hk hb]
        · exact gv i (by omega) hib
    | succ q ih =>
      intro j hj g z8 fg gk ga gv gr
      have ih := ih (j + 1) (by omega)
      have j8 : ∀ f : Nat → Option ai_R, ai_ix (nI j) 8 f = f j := fun f => z_ix (by omega) (by decide)
      have k8 : ∀ f : Nat → Option ai_R, ai_ix (nI k) 8 f = f k := fun f => z_ix (by omega) (by decide)
      rw [T289_120, if_neg (by rw [nI_leI (by omega) (by omega)]; omega)]
      simp only [z_tb0 (show v ^^^ 2 ^ k < 2147483648 by omega) (show j < 32 by omega), nI_1]
      by_cases cb : (v ^^^ 2 ^ k).testBit j = true
      · have c0 : ¬ v ^^^ 2 ^ k = 0 := fun e => by rw [e, Nat.zero_testBit] at cb; cases cb
        have e8 : (8 : Int32) * nI (v ^^^ 2 ^ k) + nI j = nI (8 * (v ^^^ 2 ^ k) + j) := by rw [show (8 : Int32) = nI 8 from rfl, pk_mul, nI_add]
        have e9 : (8 : Int32) * nI v + nI k = nI (8 * v + k) := by rw [show (8 : Int32) = nI 8 from rfl, pk_mul, nI_add]
        have w1 := zW_le (c := c) hc hC (v ^^^ 2 ^ k) j (by omega) (by omega) cb
        have w2 := zds_le (hC j (by omega)) (hC k hk)
        have w3 := zmn_le (q := fun j => (v ^^^ 2 ^ k).testBit j) (f := fun j => zW C c m (v ^^^ 2 ^ k) j + zds (C j) (C k)) j
        obtain ⟨g1, g2, g3⟩ := gk j (by omega)
        obtain ⟨k1, k2, k3⟩ := gk k hk
        have i9 : ∀ f : Nat → Option ai_R, ai_ix (nI (8 * v + k)) 2048 f = f (8 * v + k) := fun f => z_ix (by omega) (by decide)
        have er : ∀ j, zre C c m v k j = zmo (zmn (fun j => (v ^^^ 2 ^ k).testBit j) (fun j => zW C c m (v ^^^ 2 ^ k) j + zds (C j) (C k)) j) := fun j => by unfold zre; rw [if_neg c0]
        rw [if_neg (by rw [cb]; exact Bool.noConfusion), e8, z_ix (by omega) (by decide), j8, g1, i24 j g2, k8, k1, i24 k k2, g3, k3, M190 _ _ (hC j (by omega)) (hC k hk)]
        simp only [z_bi]
        rw [ga _ hl j (by omega) cb, nI_add, e9]
        simp only [i9]
        rw [gr, er j]
        have er1 := er (j + 1)
        rw [zmn_S, if_pos cb] at er1
        -- a better one is written
        have wr : zre C c m v k (j + 1) = nI (zW C c m (v ^^^ 2 ^ k) j + zds (C j) (C k)) → ∃ g' z8', ai_E (d + 3) 289 120 [some (.inr (.inr (32, 0, 16128))), z1, some (.inl c), some (.inl (nI m)), some (.inl (nI v)), some (.inl (nI k)), some (.inl (nI (v ^^^ 2 ^ k))), some (.inl (nI (j + 1))), some (.inl (nI (zW C c m (v ^^^ 2 ^ k) j + zds (C j) (C k))))] [] (ai_st g 2064466 (8 * v + k) (nI (zW C c m (v ^^^ 2 ^ k) j + zds (C j) (C k)))) = ai_E (d + 3) 289 39 [some (.inr (.inr (32, 0, 16128))), z1, some (.inl c), some (.inl (nI m)), some (.inl (nI v)), some (.inl (nI (k + 1))), some (.inl (nI (v ^^^ 2 ^ k))), some (.inl (nI m)), z8'] [] g' ∧ zF zMS g0 g' ∧ zwm g' l C m ∧ zwq g' (zW C c m) m v ∧ ∀ i, i < k + 1 → v.testBit i = true → g'.1 2064466 (8 * v + i) = nI (zW C c m v i) := fun e => by
          refine ih _ _ (zF_st fg z_wMS) (zwm_st gk) (fun u hu i hi hib => ?_) (fun i hi hib => ?_) ?_
          · rw [z_st1, if_neg (by omega)]
            exact ga u hu i hi hib
          · rw [z_st1, if_neg (by omega)]
            exact gv i hi hib
          · rw [z_stS, e]
        generalize hz : zmn (fun j => (v ^^^ 2 ^ k).testBit j) (fun j => zW C c m (v ^^^ 2 ^ k) j + zds (C j) (C k)) j = z at *
        by_cases cz : z = 1073741824
        · rw [if_pos ((zmo_neg w3).mpr cz)]
          refine wr ?_
          rw [er1, if_pos (by omega)]
          unfold zmo
          rw [if_neg (by omega)]
        · rw [if_neg (fun q => cz ((zmo_neg w3).mp q))]
          have ez : zmo z = nI z := by unfold zmo; rw [if_neg cz]
          rw [ez]
          by_cases c2 : z ≤ zW C c m (v ^^^ 2 ^ k) j + zds (C j) (C k)
          · rw [if_pos (by rw [nI_leI (by omega) (by omega)]; exact c2)]
            refine ih g _ fg gk ga gv ?_
            rw [gr, er j, hz, er1, if_neg (by omega)]
          · rw [if_neg (by rw [nI_leI (by omega) (by omega)]; exact c2)]
            refine wr ?_
            rw [er1, if_pos (by omega)]
            unfold zmo
            rw [if_neg (by omega)]
      · rw [if_pos (zbF cb)]
        refine ih g z8 fg gk ga gv ?_
        rw [gr]
        unfold zre
        by_cases c0 : v ^^^ 2 ^ k = 0
        · rw [if_pos c0, if_pos c0]
        · rw [if_neg c0, if_neg c0, zmn_S, if_neg cb]
  -- stop by stop
  have I : ∀ v, 1 ≤ v → v < 2 ^ m → ∀ q k, k + q = m → ∀ g z6 z7 z8, zF zMS g0 g → zwm g l C m → zwq g (zW C c m) m v → (∀ j, j < k → v.testBit j = true → g.1 2064466 (8 * v + j) = nI (zW C c m v j)) → ∃ g' z6' z7' z8', ai_E (d + 3) 289 39 [some (.inr (.inr (32, 0, 16128))), z1, some (.inl c), some (.inl (nI m)), some (.inl (nI v)), some (.inl (nI k)), z6, z7, z8] [] g = ai_E (d + 3) 289 28 [some (.inr (.inr (32, 0, 16128))), z1, some (.inl c), some (.inl (nI m)), some (.inl (nI (v + 1))), some (.inl (nI m)), z6', z7', z8'] [] g' ∧ zF zMS g0 g' ∧ zwm g' l C m ∧ zwq g' (zW C c m) m (v + 1) := by
    intro v hv1 hv q
    induction q with
    | zero =>
      intro k hk g z6 z7 z8 fg gk ga gv
      have hk : k = m := by omega
      subst hk
      refine ⟨g, z6, z7, z8, ?_, fg, gk, fun u hu j hj hb => ?_⟩
      · rw [T289_39, if_pos (by rw [z_le]; omega)]
        simp only [nI_1]
      · by_cases e : u = v
        · subst e; exact gv j hj hb
        · exact ga u (by omega) j hj hb
    | succ q ih =>
      intro k hk g z6 z7 z8 fg gk ga gv
      have ih := ih (k + 1) (by omega)
      have k8 : ∀ f : Nat → Option ai_R, ai_ix (nI k) 8 f = f k := fun f => z_ix (by omega) (by decide)
      have e9 : (8 : Int32) * nI v + nI k = nI (8 * v + k) := by rw [show (8 : Int32) = nI 8 from rfl, pk_mul, nI_add]
      have i9 : ∀ f : Nat → Option ai_R, ai_ix (nI (8 * v + k)) 2048 f = f (8 * v + k) := fun f => z_ix (by omega) (by decide)
      rw [T289_39, if_neg (by rw [nI_leI (by omega) (by omega)]; omega), e9, i9]
      simp only [z_tb0 (show v < 2147483648 by omega) (show k < 32 by omega), nI_1, i9]
      have ga' : ∀ w, zwq (ai_st g 2064466 (8 * v + k) w) (zW C c m) m v := fun w u hu j hj hb => by
        rw [z_st1, if_neg (by omega)]
        exact ga u hu j hj hb
      have gv' : ∀ w j, j < k → v.testBit j = true → (ai_st g 2064466 (8 * v + k) w).1 2064466 (8 * v + j) = nI (zW C c m v j) := fun w j hj hb => by
        rw [z_st1, if_neg (by omega)]
        exact gv j hj hb
      by_cases cb : v.testBit k = true
      · have hl := z_bfl cb
        rw [if_neg (by rw [cb]; exact Bool.noConfusion), z_clr (by omega) (by omega) cb]
        have go : ∀ g1, zF zMS g0 g1 → zwm g1 l C m → zwq g1 (zW C c m) m v → (∀ i, i < k → v.testBit i = true → g1.1 2064466 (8 * v + i) = nI (zW C c m v i)) → g1.1 2064466 (8 * v + k) = zre C c m v k 0 → ∃ g' z6' z7' z8', ai_E (d + 3) 289 120 [some (.inr (.inr (32, 0, 16128))), z1, some (.inl c), some (.inl (nI m)), some (.inl (nI v)), some (.inl (nI k)), some (.inl (nI (v ^^^ 2 ^ k))), some (.inl 0), z8] [] g1 = ai_E (d + 3) 289 28 [some (.inr (.inr (32, 0, 16128))), z1, some (.inl c), some (.inl (nI m)), some (.inl (nI (v + 1))), some (.inl (nI m)), z6', z7', z8'] [] g' ∧ zF zMS g0 g' ∧ zwm g' l C m ∧ zwq g' (zW C c m) m (v + 1) := fun g1 f1 k1 a1 v1 r1 => by
          obtain ⟨g2, z8', w1, w2, w3, w4, w5⟩ := P v k hv (by omega) cb m 0 (Nat.zero_add _) g1 z8 f1 k1 a1 v1 r1
          obtain ⟨g', z6', z7', z8'', y1, y2⟩ := ih g2 (some (.inl (nI (v ^^^ 2 ^ k)))) (some (.inl (nI m))) z8' w2 w3 w4 w5
          exact ⟨g', z6', z7', z8'', w1.trans y1, y2⟩
        by_cases c0 : v ^^^ 2 ^ k = 0
        · obtain ⟨k1, k2, k3⟩ := gk k (by omega)
          rw [c0, if_pos (show nI 0 = 0 from rfl), k8, z_ne (show (2064465 : Nat) ≠ 2064466 by decide), k1, i24 k k2, z_ne (show (2064397 : Nat) ≠ 2064466 by decide), k3, M190 _ _ hc (hC k (by omega))]
          simp only [z_bi]
          have := go (ai_st (ai_st g 2064466 (8 * v + k) (-1)) 2064466 (8 * v + k) (nI (zds c (C k)))) (zF_st (zF_st fg z_wMS) z_wMS) (zwm_st (zwm_st gk)) (fun u hu j hj hb => by rw [z_st1, if_neg (by omega)]; exact ga' _ u hu j hj hb) (fun i hi hb => by rw [z_st1, if_neg (by omega)]; exact gv' _ i hi hb) (by rw [z_stS]; unfold zre; rw [if_pos c0])
          rw [c0] at this
          exact this
        · rw [if_neg (nI_ne0 (Nat.pos_of_ne_zero c0) (by omega))]
          refine go (ai_st g 2064466 (8 * v + k) (-1)) (zF_st fg z_wMS) (zwm_st gk) (ga' _) (gv' _) ?_
          rw [z_stS]
          unfold zre
          rw [if_neg c0]
          rfl
      · rw [if_pos (zbF cb)]
        refine ih _ z6 z7 z8 (zF_st fg z_wMS) (zwm_st gk) (ga' _) fun j hj hb => ?_
        by_cases e : j = k
        · subst e; exact absurd hb cb
        · exact gv' _ j (by omega) hb
  have O : ∀ q v, 1 ≤ v → v + q = 2 ^ m → ∀ g z5 z6 z7 z8, zF zMS g0 g → zwm g l C m → zwq g (zW C c m) m v → ∃ g', ai_E (d + 3) 289 28 [some (.inr (.inr (32, 0, 16128))), z1, some (.inl c), some (.inl (nI m)), some (.inl (nI v)), z5, z6, z7, z8] [] g = some ([.inl (nI (zmn (fun _ => true) (fun k => zW C c m (2 ^ m - 1) k + zds (C k) c) m))], g') ∧ zF zMS g0 g' := by
    intro q
    induction q with
    | zero =>
      intro v hv1 hv g z5 z6 z7 z8 fg gk ga
      have hv : v = 2 ^ m := by omega
      subst hv
      refine ⟨g, ?_, fg⟩
      have cb : (2 ^ m - 1).testBit 0 = true := by rw [Nat.testBit_two_pow_sub_one]; exact decide_eq_true (by omega)
      have w0 := zmn_at (q := fun _ => true) (f := fun k => zW C c m (2 ^ m - 1) k + zds (C k) c) (i := 0) (n := m) (by omega) rfl
      have w1 := zW_le (c := c) hc hC (2 ^ m - 1) 0 (by omega) (by omega) cb
      have w2 := zds_le (hC 0 (by omega)) hc
      have := E g gk ga m 0 (Nat.zero_add _) z6 z7 z8
      have ez : zmo (zmn (fun _ => true) (fun k => zW C c m (2 ^ m - 1) k + zds (C k) c) m) = nI (zmn (fun _ => true) (fun k => zW C c m (2 ^ m - 1) k + zds (C k) c) m) := by unfold zmo; rw [if_neg (by omega)]
      rw [ez] at this
      rw [T289_28, z_bit (by omega), if_pos (by rw [z_le]; omega)]
      exact this
    | succ q ih =>
      intro v hv1 hv g z5 z6 z7 z8 fg gk ga
      obtain ⟨g', z6', z7', z8', w1, w2, w3, w4⟩ := I v hv1 (by omega) m 0 (Nat.zero_add _) g z6 z7 z8 fg gk ga (fun j hj => absurd hj (Nat.not_lt_zero _))
      obtain ⟨g'', y1, y2⟩ := ih (v + 1) (by omega) (by omega) g' (some (.inl (nI m))) z6' z7' z8' w2 w3 w4
      refine ⟨g'', ?_, y2⟩
      rw [T289_28, z_bit (by omega), if_neg (by rw [nI_leI (by omega) (by omega)]; omega)]
      exact w1.trans y1
  obtain ⟨g', w1, w2⟩ := O (2 ^ m - 1) 1 (Nat.le_refl _) (by omega) g0 none none none none zF_rf hg (fun u hu k hk hb => by
    have hu : u = 0 := by omega
    subst hu
    rw [Nat.zero_testBit] at hb
    cases hb)
  exact ⟨g', w1, w2⟩
theorem P_round (x c : Int32) : zPr 128 289 [.inl x, .inl c] := zPr_q fun d h hr => by
  obtain ⟨b0, b1, b2, b8, b5, b4, b3, V⟩ := zR_b hr
  have hp := z_p24 b1.2.2
  by_cases c1 : zar h x 8
  · by_cases c2 : 0 ≤ c.toInt ∧ c.toInt ≤ 255
    · obtain ⟨A, rfl⟩ : ∃ A, x = nI A := ⟨x.toInt.toNat, z_nat (by have := c1.1; omega)⟩
      have hx := z_rg (nI A)
      obtain ⟨A', hA', eA⟩ : ∃ A', A' < 2147483648 ∧ nI A = nI A' := ⟨(nI A).toInt.toNat, by omega, z_nat (by have := c1.1; omega)⟩
      rw [eA] at c1 ⊢
      have c1' := c1
      unfold zar at c1'
      rw [z_T hA'] at c1'
      have hlen := zwl_len (h := h) (A := A') hr (by omega)
      obtain ⟨m, hm⟩ : ∃ m, (zwl h A').length = m := ⟨_, rfl⟩
      have hm8 : m ≤ 8 := by rw [← hm, hlen]; exact c1'.2.2
      have hm1 : 1 ≤ m := by
        obtain ⟨j, j1, j2⟩ := z_tbx (v := A') (m := zn (zsl (zMv h) 0) 1) (by omega) (by omega)
        obtain ⟨k, k1, -⟩ := zen_in (p := fun t => A'.testBit t) j1 j2
        have k1 : k < (zwl h A').length := k1
        omega
      have hl : ∀ k, k < m → (zwl h A').getD k 0 < zn (zsl (zMv h) 0) 1 := fun k hk => (zen_at (by rw [hm]; exact hk)).1
      obtain ⟨h1, a1, a2, a3⟩ := X80 (A := A') (d + 56) hr hA' (by omega)
      have hC : ∀ k, k < m → zi (zsl (zMv h) 0 12 ((zwl h A').getD k 0)) 0 255 := fun k hk => (zC_t hr (hl k hk)).2
      rw [zga, hm] at a3
      obtain ⟨h2, y1, y2⟩ := X81l (C := fun k => zsl (zMv h) 0 12 ((zwl h A').getD k 0)) (d + 55) hm8 hm1 ⟨a3.1, fun k hk => (a3.2 k hk).2.1⟩ c2 hC (some (.inr (.inr (20, 0, 2097281)))) (some (.inl (nI A')))
      have f2 : zF zXS h h2 := zF_tr (zF_mono a2 fun q j => zwX_s) y2
      have hr2 := zR_x hr f2
      have eV := zMv_x f2
      obtain ⟨h3, w1, w2, w3⟩ := M287 (A := A') (d + 58) hr2 hA' (by rw [zwl_V eV]; omega)
      rw [zwl_V eV, hm] at w1 w3
      have f3 : zF zMS h2 h3 := zF_mono w2 fun q j e => by subst e; exact Or.inr ⟨by omega, by omega, by omega⟩
      obtain ⟨h4, v1, v2⟩ := M289l (g0 := h3) (l := fun k => (zwl h A').getD k 0) (C := fun k => zsl (zMv h) 0 12 ((zwl h A').getD k 0)) (d + 56) hm8 hm1 (fun k hk => ⟨w3 k hk, by have := hl k hk; dsimp only; omega, by
        rw [zM_n f3 (zMS_n (by decide) (by decide)), ← eV]
        exact (zs0 (f := 12) (by omega)).symm⟩) c2 hC (some (.inl (nI A')))
      have e2 : nI (2 ^ m) - 1 = nI (2 ^ m - 1) := pk_sub (b := 1) (Nat.two_pow_pos m)
      have g1 := X158 (m := 8) (d + 57) (nI A') hr (by omega)
      have g2 := M288 (m := 8) (d + 57) (nI A') hr2 (by omega)
      have c1h2 : zar h2 (nI A') 8 := by unfold zar; rw [eV]; exact c1
      refine ⟨nI (zmn (fun _ => true) (fun k => zW (fun k => zsl (zMv h) 0 12 ((zwl h A').getD k 0)) c m (2 ^ m - 1) k + zds (zsl (zMv h) 0 12 ((zwl h A').getD k 0)) c) m), h2, h4, ?_, f2, ?_, zF_tr f3 v2⟩
      · rw [T128, show (8 : Int32) = nI 8 from rfl, g1]
        simp only [z_bi, zb_0]
        rw [if_neg (fun q => q c1), X148]
        simp only [z_bi, zb_0]
        rw [if_neg (fun q => q c2), T81, a1]
        simp only [z_bv]
        rw [a3.1, z_bit (by omega), e2, y1]
        rfl
      · rw [T289, show (8 : Int32) = nI 8 from rfl, g2]
        simp only [z_bi, zb_0]
        rw [if_neg (fun q => q c1h2), M188]
        simp only [z_bi, zb_0]
        rw [if_neg (fun q => q c2), w1]
        simp only [z_bi]
        exact v1
    · refine ⟨-1, h, h, ?_, zF_rf, ?_, zF_rf⟩
      · rw [T128, show (8 : Int32) = nI 8 from rfl, X158 (m := 8) (d + 57) x hr (by omega)]
        simp only [z_bi, zb_0]
        rw [if_neg (fun q => q c1), X148]
        simp only [z_bi, zb_0]
        rw [if_pos c2]
      · rw [T289, show (8 : Int32) = nI 8 from rfl, M288 (m := 8) (d + 57) x hr (by omega)]
        simp only [z_bi, zb_0]
        rw [if_neg (fun q => q c1), M188]
        simp only [z_bi, zb_0]
        rw [if_pos c2]
  · refine ⟨-1, h, h, ?_, zF_rf, ?_, zF_rf⟩
    · rw [T128, show (8 : Int32) = nI 8 from rfl, X158 (m := 8) (d + 57) x hr (by omega)]
      simp only [z_bi, zb_0]
      rw [if_pos c1]
    · rw [T289, show (8 : Int32) = nI 8 from rfl, M288 (m := 8) (d + 57) x hr (by omega)]
      simp only [z_bi, zb_0]
      rw [if_pos c1]
