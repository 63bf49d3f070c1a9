/-! WAYS: sets of taps; stations -/
theorem zB_and2 {p q : Nat → Prop} [DecidablePred p] [DecidablePred q] {n : Nat} : nI (zB p n) &&& nI (zB q n) = nI (zB (fun t => p t ∧ q t) n) := by
  rw [z_and]
  congr 1
  apply Nat.eq_of_testBit_eq
  intro i
  rw [Nat.testBit_and, zB_tb, zB_tb, zB_tb]
  by_cases h1 : i < n <;> by_cases h2 : p i <;> by_cases h3 : q i <;> simp [h1, h2, h3]
theorem zB_or {p q : Nat → Prop} [DecidablePred p] [DecidablePred q] {n : Nat} : nI (zB p n) ||| nI (zB q n) = nI (zB (fun t => p t ∨ q t) n) := by
  rw [z_or]
  congr 1
  apply Nat.eq_of_testBit_eq
  intro i
  rw [Nat.testBit_or, zB_tb, zB_tb, zB_tb]
  by_cases h1 : i < n <;> by_cases h2 : p i <;> by_cases h3 : q i <;> simp [h1, h2, h3]
theorem zB_andn2 {p q : Nat → Prop} [DecidablePred p] [DecidablePred q] {n m : Nat} (hn : n ≤ 31) (hm : m ≤ 31) (h : n ≤ m) : nI (zB p n) &&& (nI (zB q m) ^^^ (-1)) = nI (zB (fun t => p t ∧ ¬ q t) n) := by
  obtain ⟨c, e1, -, e2⟩ := z_andn (a := zB p n) (b := zB q m) (zB_31 hn) (zB_31 hm)
  rw [e1]
  congr 1
  apply Nat.eq_of_testBit_eq
  intro i
  rw [e2, zB_tb, zB_tb, zB_tb]
  by_cases h1 : i < n
  · have h2 : i < m := by omega
    by_cases h3 : p i <;> by_cases h4 : q i <;> simp [h1, h2, h3, h4]
  · simp [h1]
/-- the last from a place on, of k -/
def zli (p : Nat → Prop) [DecidablePred p] (lo : Nat) : Nat → Option Nat
  | 0 => none
  | k + 1 => if p (lo + k) then some (lo + k) else zli p lo k
theorem zli_in {p : Nat → Prop} [DecidablePred p] {lo : Nat} : ∀ {k q : Nat}, zli p lo k = some q → lo ≤ q ∧ q < lo + k := by
  intro k
  induction k with
  | zero => intro q e; cases e
  | succ k ih =>
    intro q e
    unfold zli at e
    split at e
    · cases e
      omega
    · have := ih e
      omega
def zsta (p : Nat → Prop) [DecidablePred p] (ev len : Nat) (w : Int32) : Nat → Nat → Nat → Int32 → Int32
  | 0, _, many, asked => if w = 0 then nI many else asked
  | f + 1, st, many, asked => if len < st + ev then (if w = 0 then nI many else asked) else match zli p st ev with
    | none => -1
    | some q => zsta p ev len w f (q + 1) (many + 1) (if nI (many + 1) = w then nI q else asked)
theorem X161 {p : Nat → Prop} [DecidablePred p] {n lo : Nat} (d : Nat) (h : ai_H) (hn : n ≤ 31) : ∀ k, lo + k ≤ n → ∀ z, ai_E (d + 1) 161 2 [some (.inl (nI (zB p n))), some (.inl (nI lo)), z, some (.inl (nI (lo + k) - 1))] [] h = some ([.inl (match zli p lo k with
    | none => -1
    | some q => nI q)], h) := by
  intro k
  induction k with
  | zero =>
    intro hk z
    have e : nI (lo + 0) - 1 < nI lo := by
      rw [z_lt, z_sub, z_T (by omega), z_T (by omega)]
      · simp only [zl0, zl1, zl2, zl3, zl4, zl5, zl6, zl7, zl8, zl9, zl10, zl12, zl15, zl16, zl20, zl22, zl23, zl24, zl27, zl30, zl31, zl32, zl40, zl46, zl48, zl50, zl57, zl59, zl60, zl61, zl62, zl63, zl80, zl96, zl97, zl99, zl100, zl122, zl255, zl360, zl500, zl999, zl9999, zl60000, zl99999, zl16777215, zl1073741824, zlm1, zlm2, zlm3]; omega
      · rw [z_T (by omega)]; simp only [zl0, zl1, zl2, zl3, zl4, zl5, zl6, zl7, zl8, zl9, zl10, zl12, zl15, zl16, zl20, zl22, zl23, zl24, zl27, zl30, zl31, zl32, zl40, zl46, zl48, zl50, zl57, zl59, zl60, zl61, zl62, zl63, zl80, zl96, zl97, zl99, zl100, zl122, zl255, zl360, zl500, zl999, zl9999, zl60000, zl99999, zl16777215, zl1073741824, zlm1, zlm2, zlm3]; omega
      · rw [z_T (by omega)]; simp only [zl0, zl1, zl2, zl3, zl4, zl5, zl6, zl7, zl8, zl9, zl10, zl12, zl15, zl16, zl20, zl22, zl23, zl24, zl27, zl30, zl31, zl32, zl40, zl46, zl48, zl50, zl57, zl59, zl60, zl61, zl62, zl63, zl80, zl96, zl97, zl99, zl100, zl122, zl255, zl360, zl500, zl999, zl9999, zl60000, zl99999, zl16777215, zl1073741824, zlm1, zlm2, zlm3]; omega
    rw [T161_2, if_pos e]
    rfl
  | succ k ih =>
    intro hk z
    have ih := ih (by omega)
    have e : nI (lo + (k + 1)) - 1 = nI (lo + k) := nI_pred (lo + k)
    have e2 : nI (lo + k) + (-1) = nI (lo + k) - 1 := by
      rw [z_eq, z_add, z_sub]
      · simp only [zl0, zl1, zl2, zl3, zl4, zl5, zl6, zl7, zl8, zl9, zl10, zl12, zl15, zl16, zl20, zl22, zl23, zl24, zl27, zl30, zl31, zl32, zl40, zl46, zl48, zl50, zl57, zl59, zl60, zl61, zl62, zl63, zl80, zl96, zl97, zl99, zl100, zl122, zl255, zl360, zl500, zl999, zl9999, zl60000, zl99999, zl16777215, zl1073741824, zlm1, zlm2, zlm3]; omega
      all_goals
        rw [z_T (by omega)]
        simp only [zl0, zl1, zl2, zl3, zl4, zl5, zl6, zl7, zl8, zl9, zl10, zl12, zl15, zl16, zl20, zl22, zl23, zl24, zl27, zl30, zl31, zl32, zl40, zl46, zl48, zl50, zl57, zl59, zl60, zl61, zl62, zl63, zl80, zl96, zl97, zl99, zl100, zl122, zl255, zl360, zl500, zl999, zl9999, zl60000, zl99999, zl16777215, zl1073741824, zlm1, zlm2, zlm3]
        omega
    rw [T161_2, e, if_neg (by rw [nI_ltI (by omega) (by omega)]; omega), X159B _ _ hn (by omega)]
    simp only [z_bi, zb_0, e2]
    unfold zli
    by_cases c : p (lo + k)
    · rw [if_neg (fun x => x c), if_pos c]
    · rw [if_pos c, if_neg c]
      exact ih z
theorem zC_p {h : ai_H} (hr : zR h) {t : Nat} (ht : t < zn (zsl (zMv h) 0) 8) : h.1 268451983 t = zsl (zMv h) 0 20 t ∧ zi (zsl (zMv h) 0 20 t) 0 255 := by
  obtain ⟨b0, b1, b2, b8, b5, b4, b3, V⟩ := zR_b hr
  have hC : zC h 2097281 (zsl (zMv h) 0) := hr.1.1.1
  exact ⟨hC.2.2.2.2.2.2.2.2.2 t ht, V.2.2.2.1.2.1 t ht⟩
/-- a place of the course has a running tap near it -/
abbrev zpl8 (h : ai_H) (x kn : Int32) (s i : Nat) : Prop := ¬ (zcb h x kn s (zsl (zMv h) 0 20 i)).isNone = true
theorem zpl8_i {h : ai_H} {x kn : Int32} {s i : Nat} : zpl8 h x kn s i ↔ ¬ ∀ t, t < zn (zsl (zMv h) 0) 1 → ¬ (zrn h x kn t ∧ zds (zsl (zMv h) 0 20 i) (zsl (zMv h) 0 12 t) ≤ s) := by
  unfold zpl8
  rw [Option.isNone_iff_eq_none]
  exact not_congr znr_none
theorem X10 {h h1 : ai_H} {s : Nat} {x kn : Int32} (d : Nat) (hr1 : zR h1) (eV : zMv h1 = zMv h) (hs : s ≤ 30) : ai_X (d + 3) 10 [.inr (.inr (20, 0, 2097281)), .inl (nI (zB (zrn h x kn) (zn (zsl (zMv h) 0) 1))), .inl (nI s)] h1 = some ([.inl (nI (zB (zpl8 h x kn s) (zn (zsl (zMv h) 0) 8)))], h1) := by
  obtain ⟨b0, b1, b2, b8, b5, b4, b3, V⟩ := zR_b hr1
  have K : ∀ k i, i + k = zn (zsl (zMv h) 0) 8 → ai_E (d + 2) 10 5 [some (.inr (.inr (20, 0, 2097281))), some (.inl (nI (zB (zrn h x kn) (zn (zsl (zMv h) 0) 1)))), some (.inl (nI s)), some (.inl (nI (zB (zpl8 h x kn s) i))), some (.inl (nI i))] [] h1 = some ([.inl (nI (zB (zpl8 h x kn s) (zn (zsl (zMv h) 0) 8)))], h1) := by
    intro k
    induction k with
    | zero =>
      intro i hi
      have hi : i = zn (zsl (zMv h) 0) 8 := by omega
      subst hi
      rw [T10_5, b8.1, eV, if_pos (by rw [z_le]; omega)]
    | succ k ih =>
      intro i hi
      have ih := ih (i + 1) (by omega)
      have l8 : zn (zsl (zMv h) 0) 8 ≤ 20 := by rw [← eV]; exact b8.2.2
      have l1 : zn (zsl (zMv h) 0) 1 ≤ 24 := by rw [← eV]; exact b1.2.2
      have i20 : ∀ f : Nat → Option ai_R, ai_ix (nI i) 20 f = f i := fun f => z_ix (by omega) (by decide)
      obtain ⟨e20, v20⟩ := zC_p hr1 (t := i) (by rw [eV]; omega)
      have hX := X7 (p := zrn h x kn) (s := s) d hr1 v20 hs
      rw [eV] at hX e20
      rw [zB_s] at ih
      rw [T10_5, b8.1, eV, if_neg (by rw [nI_leI (by omega) (by omega)]; omega), i20, e20, hX]
      simp only [z_bi, nI_1]
      by_cases c1 : zpl8 h x kn s i
      · rw [if_neg (fun q => zpl8_i.mp c1 ((zB_n0 (by omega)).mp q)), z_bit (by omega), z_or]
        rw [if_pos c1] at ih
        exact ih
      · rw [if_pos ((zB_n0 (by omega)).mpr (Decidable.of_not_not (fun q => c1 (zpl8_i.mpr q))))]
        rw [if_neg c1] at ih
        exact ih
  rw [T10]
  exact K _ 0 (Nat.zero_add _)
theorem P_stations (x1 x2 x3 x4 x5 : Int32) : zPr 131 294 [.inl x1, .inl x2, .inl x3, .inl x4, .inl x5] := zPr_q fun d h hr => by
  obtain ⟨b0, b1, b2, b8, b5, b4, b3, V⟩ := zR_b hr
  have i0 : ∀ f : Nat → Option ai_R, ai_ix 0 4 f = f 0 := fun f => z_i0 (by decide) (by decide)
  by_cases c1 : 1 ≤ x1.toInt ∧ x1.toInt ≤ 20
  · have n1 : ¬ x1 < 1 := by rw [z_lt]; simp only [zl0, zl1, zl2, zl3, zl4, zl5, zl6, zl7, zl8, zl9, zl10, zl12, zl15, zl16, zl20, zl22, zl23, zl24, zl27, zl30, zl31, zl32, zl40, zl46, zl48, zl50, zl57, zl59, zl60, zl61, zl62, zl63, zl80, zl96, zl97, zl99, zl100, zl122, zl255, zl360, zl500, zl999, zl9999, zl60000, zl99999, zl16777215, zl1073741824, zlm1, zlm2, zlm3]; omega
    have n2 : ¬ (20 : Int32) < x1 := by rw [z_lt]; simp only [zl0, zl1, zl2, zl3, zl4, zl5, zl6, zl7, zl8, zl9, zl10, zl12, zl15, zl16, zl20, zl22, zl23, zl24, zl27, zl30, zl31, zl32, zl40, zl46, zl48, zl50, zl57, zl59, zl60, zl61, zl62, zl63, zl80, zl96, zl97, zl99, zl100, zl122, zl255, zl360, zl500, zl999, zl9999, zl60000, zl99999, zl16777215, zl1073741824, zlm1, zlm2, zlm3]; omega
    by_cases c2 : 0 ≤ x2.toInt ∧ x2.toInt ≤ 30
    · by_cases c3 : 0 ≤ x3.toInt ∧ x3.toInt ≤ 999
      · by_cases c4 : 0 ≤ x4.toInt ∧ x4.toInt ≤ 999
        · by_cases c0 : zn (zsl (zMv h) 0) 8 = 0
          · refine ⟨-1, h, h, ?_, zF_rf, ?_, zF_rf⟩
            · rw [T131, if_neg n1, if_neg n2, X149]
              simp only [z_bi, zb_0]
              rw [if_neg (fun q => q ⟨c2, c3, c4⟩), b8.1, c0]
              by_cases g : x5 < 0
              · rw [if_pos g]
              · rw [if_neg g, if_pos (show nI 0 = 0 from rfl)]
            · rw [T294, M186]
              simp only [z_bi, zb_0, zl0, zl1, zl2, zl3, zl4, zl5, zl6, zl7, zl8, zl9, zl10, zl12, zl15, zl16, zl20, zl22, zl23, zl24, zl27, zl30, zl31, zl32, zl40, zl46, zl48, zl50, zl57, zl59, zl60, zl61, zl62, zl63, zl80, zl96, zl97, zl99, zl100, zl122, zl255, zl360, zl500, zl999, zl9999, zl60000, zl99999, zl16777215, zl1073741824, zlm1, zlm2, zlm3]
              rw [if_neg (fun q => q c1), M261]
              simp only [z_bi, zb_0]
              rw [if_neg (fun q => q c2), M187]
              simp only [z_bi, zb_0]
              rw [if_neg (fun q => q c3), M187]
              simp only [z_bi, zb_0]
              rw [if_neg (fun q => q c4), i0, b8.2.1, c0, if_pos (show nI 0 = 0 from rfl)]
          · have z8 : ¬ nI (zn (zsl (zMv h) 0) 8) = 0 := nI_ne0 (by omega) (by omega)
            by_cases c5 : 0 ≤ x5.toInt
            · have n5 : ¬ x5 < 0 := by rw [z_lt]; simp only [zl0, zl1, zl2, zl3, zl4, zl5, zl6, zl7, zl8, zl9, zl10, zl12, zl15, zl16, zl20, zl22, zl23, zl24, zl27, zl30, zl31, zl32, zl40, zl46, zl48, zl50, zl57, zl59, zl60, zl61, zl62, zl63, zl80, zl96, zl97, zl99, zl100, zl122, zl255, zl360, zl500, zl999, zl9999, zl60000, zl99999, zl16777215, zl1073741824, zlm1, zlm2, zlm3]; omega
              have p5 : 0 ≤ x5 := by rw [z_le]; simp only [zl0, zl1, zl2, zl3, zl4, zl5, zl6, zl7, zl8, zl9, zl10, zl12, zl15, zl16, zl20, zl22, zl23, zl24, zl27, zl30, zl31, zl32, zl40, zl46, zl48, zl50, zl57, zl59, zl60, zl61, zl62, zl63, zl80, zl96, zl97, zl99, zl100, zl122, zl255, zl360, zl500, zl999, zl9999, zl60000, zl99999, zl16777215, zl1073741824, zlm1, zlm2, zlm3]; omega
              obtain ⟨s, hs, rfl⟩ := z_rngI c2
              have hs : s ≤ 30 := by omega
              obtain ⟨ev, hev, rfl⟩ : ∃ e : Nat, (1 ≤ e ∧ e ≤ 20) ∧ x1 = nI e := ⟨x1.toInt.toNat, by omega, z_nat (by omega)⟩
              obtain ⟨h1, a1, a2⟩ := X170r (d + 52) x3 x4 hr
              have hr1 := zR_x hr a2
              have eV := zMv_x a2
              have hX10 := X10 (h := h) (h1 := h1) (s := s) (x := x3) (kn := x4) (d + 56) hr1 eV hs
              obtain ⟨h2, q1, q2, q3⟩ := M259 (d + 53) x3 x4 hr1 c3 c4
              have hr2 := zR_m hr1 q2
              have eV2 := (zMv_m q2).trans eV
              have q3' : ∀ t, t < zn (zsl (zMv h) 0) 1 → h2.1 2064456 t = zb (zrn h x3 x4 t) := fun t ht => by rw [q3 t (by rw [eV]; exact ht)]; unfold zrn; rw [zdry_V eV, eV]
              have m8 : h1.1 2064393 0 = nI (zn (zsl (zMv h) 0) 8) := by rw [a2.1 _ _ (fun q => by have := zXS_r q; revert this; decide)]; exact b8.2.1
              -- the class's walk
              have K : ∀ f i st many asked, i + f = 20 → st ≤ zn (zsl (zMv h) 0) 8 → many ≤ 20 - f → ∀ z0 z2 z3 z4 z12, ai_E (d + 59) 131 78 [z0, some (.inl (nI ev)), z2, z3, z4, some (.inl x5), some (.inl (nI (zn (zsl (zMv h) 0) 8))), some (.inl (nI (zB (zpl8 h x3 x4 s) (zn (zsl (zMv h) 0) 8)))), some (.inl (nI st)), some (.inl (nI many)), some (.inl asked), some (.inl (nI i)), z12] [] h1 = some ([.inl (zsta (zpl8 h x3 x4 s) ev (zn (zsl (zMv h) 0) 8) x5 f st many asked)], h1) := by
                intro f
                induction f with
                | zero =>
                  intro i st many asked hi hst hm z0 z2 z3 z4 z12
                  have hi : i = 20 := by omega
                  subst hi
                  rw [T131_78, if_pos (by decide)]
                  unfold zsta
                  by_cases g : x5 = 0
                  · rw [if_pos g, if_pos g]
                  · rw [if_neg g, if_neg g]
                | succ f ih =>
                  intro i st many asked hi hst hm z0 z2 z3 z4 z12
                  rw [T131_78, if_neg (by rw [show (20 : Int32) = nI 20 from rfl, nI_leI (by omega) (by omega)]; omega), nI_add]
                  unfold zsta
                  by_cases g1 : zn (zsl (zMv h) 0) 8 < st + ev
                  · rw [if_pos (by rw [nI_ltI (by omega) (by omega)]; exact g1), if_pos g1]
                    by_cases g : x5 = 0
                    · rw [if_pos g, if_pos g]
                    · rw [if_neg g, if_neg g]
                  · have hL := X161 (p := zpl8 h x3 x4 s) (n := zn (zsl (zMv h) 0) 8) (lo := st) (d + 57) h1 (by omega) ev (by omega) (some (.inl (nI (st + ev) - 1)))
                    have hL' : ai_X (d + 59) 161 [.inl (nI (zB (zpl8 h x3 x4 s) (zn (zsl (zMv h) 0) 8))), .inl (nI st), .inl (nI (st + ev) - 1)] h1 = _ := (T161 _ _ _ _ _).trans hL
                    rw [if_neg (by rw [nI_ltI (by omega) (by omega)]; exact g1), if_neg g1, hL']
                    simp only [z_bi, nI_1]
                    cases e : zli (zpl8 h x3 x4 s) st ev with
                    | none =>
                      dsimp only
                      rw [if_pos rfl]
                    | some q =>
                      have hq := zli_in e
                      dsimp only
                      rw [if_neg (by rw [z_eq, z_T (by omega)]; simp only [zlm1]; omega), nI_1]
                      by_cases g : nI (many + 1) = x5
                      · rw [if_pos g, if_pos g]
                        exact ih (i + 1) (q + 1) (many + 1) (nI q) (by omega) (by omega) (by omega) _ _ _ _ _
                      · rw [if_neg g, if_neg g]
                        exact ih (i + 1) (q + 1) (many + 1) asked (by omega) (by omega) (by omega) _ _ _ _ _
              -- the reference's walk
              have m8' : ∀ g, zF zMS h2 g → g.1 2064393 0 = nI (zn (zsl (zMv h) 0) 8) := fun g fg => by rw [zM_n fg (zMS_n (by decide) (by decide)), zM_n q2 (zMS_n (by decide) (by decide))]; exact m8
              have K2 : ∀ f st many asked, zn (zsl (zMv h) 0) 8 ≤ st + f → st ≤ zn (zsl (zMv h) 0) 8 → many ≤ st → ∀ g, zF zMS h2 g → (∀ t, t < zn (zsl (zMv h) 0) 1 → g.1 2064456 t = zb (zrn h x3 x4 t)) → (∀ k, k < many → x5 = nI (k + 1) → asked = g.1 2064470 k) → ((many : Int) < x5.toInt → asked = -1) → ∀ z3 z4 z8, ∃ g', ai_E (d + 59) 294 61 [some (.inr (.inr (32, 0, 16128))), some (.inl (nI ev)), some (.inl (nI s)), z3, z4, some (.inl x5), some (.inl (nI many)), some (.inl (nI st - 1)), z8] [] g = some ([.inl (zsta (zpl8 h x3 x4 s) ev (zn (zsl (zMv h) 0) 8) x5 f st many asked)], g') ∧ zF zMS h2 g' := by
                intro f
                have End : ∀ st many asked, st ≤ 20 → many ≤ 20 → ∀ g : ai_H, (∀ k, k < many → x5 = nI (k + 1) → asked = g.1 2064470 k) → ((many : Int) < x5.toInt → asked = -1) → (if x5 = 0 then some ([Sum.inl (nI many)], g) else if nI many < x5 then some ([Sum.inl (-1)], g) else ai_ix (x5 - 1) 20 (fun j2 => some ([Sum.inl (g.1 2064470 j2)], g)) : Option ai_R) = some ([.inl (if x5 = 0 then nI many else asked)], g) := by
                  intro st many asked h1 h2 g w1 w2
                  by_cases g0 : x5 = 0
                  · rw [if_pos g0, if_pos g0]
                  · rw [if_neg g0, if_neg g0]
                    by_cases g1 : (many : Int) < x5.toInt
                    · rw [if_pos (by rw [z_lt, z_T (by omega)]; exact g1), w2 g1]
                    · rw [if_neg (by rw [z_lt, z_T (by omega)]; exact g1)]
                      have g0' : ¬ x5.toInt = 0 := fun q => g0 (by rw [z_eq, q]; rfl)
                      obtain ⟨k, hk, ek⟩ : ∃ k, k < many ∧ x5 = nI (k + 1) := ⟨x5.toInt.toNat - 1, by omega, by rw [show x5.toInt.toNat - 1 + 1 = x5.toInt.toNat by omega]; exact z_nat c5⟩
                      have e := w1 k hk ek
                      rw [ek, nI_pred, z_ix (by omega) (by decide), e]
                have stl : ∀ st, st ≤ 20 → (nI st - 1).toInt = (st : Int) - 1 := fun st hst => by rw [z_sub] <;> rw [z_T (by omega)] <;> simp only [zl0, zl1, zl2, zl3, zl4, zl5, zl6, zl7, zl8, zl9, zl10, zl12, zl15, zl16, zl20, zl22, zl23, zl24, zl27, zl30, zl31, zl32, zl40, zl46, zl48, zl50, zl57, zl59, zl60, zl61, zl62, zl63, zl80, zl96, zl97, zl99, zl100, zl122, zl255, zl360, zl500, zl999, zl9999, zl60000, zl99999, zl16777215, zl1073741824, zlm1, zlm2, zlm3] <;> omega
                have len1 : (nI (zn (zsl (zMv h) 0) 8) - 1).toInt = (zn (zsl (zMv h) 0) 8 : Int) - 1 := stl _ (by omega)
                have tst : ∀ st, st ≤ 20 → (((nI (zn (zsl (zMv h) 0) 8) - 1) - (nI st - 1)) < nI ev ↔ zn (zsl (zMv h) 0) 8 < st + ev) := fun st hst => by
                  rw [z_lt, z_sub, len1, stl st hst, z_T (by omega)]
                  · omega
                  · rw [len1, stl st hst]; omega
                  · rw [len1, stl st hst]; omega
                induction f with
                | zero =>
                  intro st many asked hf hst hm g fg gr w1 w2 z3 z4 z8
                  refine ⟨g, ?_, fg⟩
                  rw [T294_61, i0, m8' g fg, if_pos ((tst st (by omega)).mpr (by omega)), End st many asked (by omega) (by omega) g w1 w2, zsta]
                | succ f ih =>
                  intro st many asked hf hst hm g fg gr w1 w2 z3 z4 z8
                  by_cases g1 : zn (zsl (zMv h) 0) 8 < st + ev
                  · refine ⟨g, ?_, fg⟩
                    rw [T294_61, i0, m8' g fg, if_pos ((tst st (by omega)).mpr g1), End st many asked (by omega) (by omega) g w1 w2]
                    unfold zsta
                    rw [if_pos g1]
                  · have es : zsta (zpl8 h x3 x4 s) ev (zn (zsl (zMv h) 0) 8) x5 (f + 1) st many asked = match zli (zpl8 h x3 x4 s) st ev with
                      | none => -1
                      | some q => zsta (zpl8 h x3 x4 s) ev (zn (zsl (zMv h) 0) 8) x5 f (q + 1) (many + 1) (if nI (many + 1) = x5 then nI q else asked) := by
                      show (if zn (zsl (zMv h) 0) 8 < st + ev then _ else _) = _
                      rw [if_neg g1]
                    -- back from the far end
                    have K3 : ∀ k, k ≤ ev → zli (zpl8 h x3 x4 s) st ev = zli (zpl8 h x3 x4 s) st k → ∃ g', ai_E (d + 59) 294 82 [some (.inr (.inr (32, 0, 16128))), some (.inl (nI ev)), some (.inl (nI s)), z3, z4, some (.inl x5), some (.inl (nI many)), some (.inl (nI st - 1)), some (.inl (nI (st + k) - 1))] [] g = some ([.inl (zsta (zpl8 h x3 x4 s) ev (zn (zsl (zMv h) 0) 8) x5 (f + 1) st many asked)], g') ∧ zF zMS h2 g' := by
                      intro k
                      induction k with
                      | zero =>
                        intro hk ez
                        refine ⟨g, ?_, fg⟩
                        rw [T294_82, Nat.add_zero, if_pos (by rw [z_le]; omega), if_pos rfl, es, ez]
                        rfl
                      | succ k ihk =>
                        intro hk ez
                        have ek : nI (st + (k + 1)) - 1 = nI (st + k) := nI_pred (st + k)
                        have e2 : nI (st + k) + (-1) = nI (st + k) - 1 := by
                          rw [z_eq, z_add, z_sub]
                          · simp only [zl0, zl1, zl2, zl3, zl4, zl5, zl6, zl7, zl8, zl9, zl10, zl12, zl15, zl16, zl20, zl22, zl23, zl24, zl27, zl30, zl31, zl32, zl40, zl46, zl48, zl50, zl57, zl59, zl60, zl61, zl62, zl63, zl80, zl96, zl97, zl99, zl100, zl122, zl255, zl360, zl500, zl999, zl9999, zl60000, zl99999, zl16777215, zl1073741824, zlm1, zlm2, zlm3]; omega
                          all_goals
                            rw [z_T (by omega)]
                            simp only [zl0, zl1, zl2, zl3, zl4, zl5, zl6, zl7, zl8, zl9, zl10, zl12, zl15, zl16, zl20, zl22, zl23, zl24, zl27, zl30, zl31, zl32, zl40, zl46, zl48, zl50, zl57, zl59, zl60, zl61, zl62, zl63, zl80, zl96, zl97, zl99, zl100, zl122, zl255, zl360, zl500, zl999, zl9999, zl60000, zl99999, zl16777215, zl1073741824, zlm1, zlm2, zlm3]
                            omega
                        have i80 : ∀ f : Nat → Option ai_R, ai_ix (nI (st + k)) 80 f = f (st + k) := fun f => z_ix (by omega) (by decide)
                        have n7 : ¬ nI (st + k) ≤ nI st - 1 := by rw [z_le, stl st (by omega), z_T (by omega)]; omega
                        have n7' : ¬ nI (st + k) = nI st - 1 := by rw [z_eq, stl st (by omega), z_T (by omega)]; omega
                        have hrg := zR_m hr2 fg
                        have eVg : zMv g = zMv h := (zMv_m fg).trans eV2
                        have v20 := V.2.2.2.1.2.1 (st + k) (by omega)
                        have m20 : g.1 2064405 (st + k) = zsl (zMv h) 0 20 (st + k) := by rw [← eVg]; exact (zs0 (f := 20) (by omega)).symm
                        have hM := M260 (p := zrn h x3 x4) (s := s) (c := zsl (zMv h) 0 20 (st + k)) (d + 56) hrg v20 hs (fun t ht => gr t (by rw [eVg] at ht; exact ht))
                        rw [eVg] at hM
                        have hneg : zoi (zcb h x3 x4 s (zsl (zMv h) 0 20 (st + k))) < 0 ↔ ¬ zpl8 h x3 x4 s (st + k) := by
                          rw [zoi_neg (fun b e => by have := (znr_some e).1; omega)]
                          exact ⟨fun q c => c q, fun q => Decidable.of_not_not q⟩
                        have hM' : ai_X (d + 59) 260 [.inr (.inr (32, 0, 16128)), .inl (zsl (zMv h) 0 20 (st + k)), .inl (nI s)] g = some ([.inl (zoi (zcb h x3 x4 s (zsl (zMv h) 0 20 (st + k))))], g) := hM
                        have hpos : (0 ≤ zoi (zcb h x3 x4 s (zsl (zMv h) 0 20 (st + k)))) ↔ zpl8 h x3 x4 s (st + k) := by
                          have e : (0 ≤ zoi (zcb h x3 x4 s (zsl (zMv h) 0 20 (st + k)))) ↔ ¬ zoi (zcb h x3 x4 s (zsl (zMv h) 0 20 (st + k))) < 0 := by
                            rw [z_le, z_lt]
                            simp only [zl0]
                            omega
                          rw [e, hneg]
                          exact ⟨fun q => Decidable.of_not_not q, fun q c => c q⟩
                        have ezk : zli (zpl8 h x3 x4 s) st (k + 1) = if zpl8 h x3 x4 s (st + k) then some (st + k) else zli (zpl8 h x3 x4 s) st k := rfl
                        rw [T294_82, ek, if_neg n7, i80, m20, hM']
                        simp only [z_bi]
                        by_cases c : zpl8 h x3 x4 s (st + k)
                        · rw [if_pos (hpos.mpr c), if_neg n7', z_ix (i := many) (by omega) (by decide), nI_1]
                          rw [if_pos c] at ezk
                          rw [es, ez, ezk]
                          dsimp only
                          have e3 : nI (st + k) = nI (st + k + 1) - 1 := (nI_pred (st + k)).symm
                          have := ih (st + k + 1) (many + 1) (if nI (many + 1) = x5 then nI (st + k) else asked) (by omega) (by omega) (by omega) (ai_st g 2064470 many (nI (st + k))) (zF_st fg (Or.inr ⟨by omega, by omega, by omega⟩)) (fun t ht => by rw [z_ne (by decide)]; exact gr t ht) (fun j hj ej => by
                            by_cases ejm : j = many
                            · rw [if_pos (by rw [ej, ejm]), z_st1, if_pos ⟨rfl, ejm⟩]
                            · rw [if_neg (fun x => by
                                rw [ej, nI_eq (by omega) (by omega)] at x
                                omega), z_st1, if_neg (fun x => ejm x.2)]
                              exact w1 j (by omega) ej) (fun hlt => by
                            rw [if_neg (fun x => by
                              rw [← x, z_T (by omega)] at hlt
                              omega)]
                            exact w2 (by omega)) z3 z4 (some (.inl (nI (st + k))))
                          rw [← e3] at this
                          exact this
                        · rw [if_neg (fun x => c (hpos.mp x)), e2]
                          rw [if_neg c] at ezk
                          exact ihk (by omega) (ez.trans ezk)
                    have e4 : (nI st - 1) + nI ev = nI (st + ev) - 1 := by
                      rw [z_eq, z_add, stl st (by omega), z_T (by omega), z_sub, z_T (by omega)]
                      · simp only [zl0, zl1, zl2, zl3, zl4, zl5, zl6, zl7, zl8, zl9, zl10, zl12, zl15, zl16, zl20, zl22, zl23, zl24, zl27, zl30, zl31, zl32, zl40, zl46, zl48, zl50, zl57, zl59, zl60, zl61, zl62, zl63, zl80, zl96, zl97, zl99, zl100, zl122, zl255, zl360, zl500, zl999, zl9999, zl60000, zl99999, zl16777215, zl1073741824, zlm1, zlm2, zlm3]; omega
                      · rw [z_T (by omega)]; simp only [zl0, zl1, zl2, zl3, zl4, zl5, zl6, zl7, zl8, zl9, zl10, zl12, zl15, zl16, zl20, zl22, zl23, zl24, zl27, zl30, zl31, zl32, zl40, zl46, zl48, zl50, zl57, zl59, zl60, zl61, zl62, zl63, zl80, zl96, zl97, zl99, zl100, zl122, zl255, zl360, zl500, zl999, zl9999, zl60000, zl99999, zl16777215, zl1073741824, zlm1, zlm2, zlm3]; omega
                      · rw [z_T (by omega)]; simp only [zl0, zl1, zl2, zl3, zl4, zl5, zl6, zl7, zl8, zl9, zl10, zl12, zl15, zl16, zl20, zl22, zl23, zl24, zl27, zl30, zl31, zl32, zl40, zl46, zl48, zl50, zl57, zl59, zl60, zl61, zl62, zl63, zl80, zl96, zl97, zl99, zl100, zl122, zl255, zl360, zl500, zl999, zl9999, zl60000, zl99999, zl16777215, zl1073741824, zlm1, zlm2, zlm3]; omega
                      · rw [stl st (by omega), z_T (by omega)]; omega
                      · rw [stl st (by omega), z_T (by omega)]; omega
                    obtain ⟨g', y1, y2⟩ := K3 ev (Nat.le_refl _) rfl
                    refine ⟨g', ?_, y2⟩
                    rw [T294_61, i0, m8' g fg, if_neg (fun x => g1 ((tst st (by omega)).mp x)), e4]
                    exact y1
              obtain ⟨h3, y1, y2⟩ := K2 20 0 0 (-1) (by omega) (by omega) (by omega) h2 zF_rf q3' (fun k hk => absurd hk (Nat.not_lt_zero _)) (fun _ => rfl) (some (.inl x3)) (some (.inl x4)) none
              refine ⟨zsta (zpl8 h x3 x4 s) ev (zn (zsl (zMv h) 0) 8) x5 20 0 0 (-1), h1, h3, ?_, a2, ?_, zF_tr q2 y2⟩
              · rw [T131, if_neg n1, if_neg n2, X149]
                simp only [z_bi, zb_0]
                rw [if_neg (fun q => q ⟨c2, c3, c4⟩), if_neg n5, b8.1, if_neg z8, a1]
                simp only [z_bi]
                rw [hX10]
                simp only [z_bi]
                exact K 20 0 0 0 (-1) (by omega) (by omega) (by omega) _ _ _ _ _
              · rw [T294, M186]
                simp only [z_bi, zb_0, zl0, zl1, zl2, zl3, zl4, zl5, zl6, zl7, zl8, zl9, zl10, zl12, zl15, zl16, zl20, zl22, zl23, zl24, zl27, zl30, zl31, zl32, zl40, zl46, zl48, zl50, zl57, zl59, zl60, zl61, zl62, zl63, zl80, zl96, zl97, zl99, zl100, zl122, zl255, zl360, zl500, zl999, zl9999, zl60000, zl99999, zl16777215, zl1073741824, zlm1, zlm2, zlm3]
                rw [if_neg (fun q => q c1), M261]
                simp only [z_bi, zb_0]
                rw [if_neg (fun q => q c2), M187]
                simp only [z_bi, zb_0]
                rw [if_neg (fun q => q c3), M187]
                simp only [z_bi, zb_0]
                rw [if_neg (fun q => q c4), i0, m8, if_neg z8, if_pos p5, q1]
                simp only [z_bv]
                exact y1
            · have n5 : x5 < 0 := by rw [z_lt]; simp only [zl0, zl1, zl2, zl3, zl4, zl5, zl6, zl7, zl8, zl9, zl10, zl12, zl15, zl16, zl20, zl22, zl23, zl24, zl27, zl30, zl31, zl32, zl40, zl46, zl48, zl50, zl57, zl59, zl60, zl61, zl62, zl63, zl80, zl96, zl97, zl99, zl100, zl122, zl255, zl360, zl500, zl999, zl9999, zl60000, zl99999, zl16777215, zl1073741824, zlm1, zlm2, zlm3]; omega
              have p5 : ¬ 0 ≤ x5 := by rw [z_le]; simp only [zl0, zl1, zl2, zl3, zl4, zl5, zl6, zl7, zl8, zl9, zl10, zl12, zl15, zl16, zl20, zl22, zl23, zl24, zl27, zl30, zl31, zl32, zl40, zl46, zl48, zl50, zl57, zl59, zl60, zl61, zl62, zl63, zl80, zl96, zl97, zl99, zl100, zl122, zl255, zl360, zl500, zl999, zl9999, zl60000, zl99999, zl16777215, zl1073741824, zlm1, zlm2, zlm3]; omega
              refine ⟨-1, h, h, ?_, zF_rf, ?_, zF_rf⟩
              · rw [T131, if_neg n1, if_neg n2, X149]
                simp only [z_bi, zb_0]
                rw [if_neg (fun q => q ⟨c2, c3, c4⟩), if_pos n5]
              · rw [T294, M186]
                simp only [z_bi, zb_0, zl0, zl1, zl2, zl3, zl4, zl5, zl6, zl7, zl8, zl9, zl10, zl12, zl15, zl16, zl20, zl22, zl23, zl24, zl27, zl30, zl31, zl32, zl40, zl46, zl48, zl50, zl57, zl59, zl60, zl61, zl62, zl63, zl80, zl96, zl97, zl99, zl100, zl122, zl255, zl360, zl500, zl999, zl9999, zl60000, zl99999, zl16777215, zl1073741824, zlm1, zlm2, zlm3]
                rw [if_neg (fun q => q c1), M261]
                simp only [z_bi, zb_0]
                rw [if_neg (fun q => q c2), M187]
                simp only [z_bi, zb_0]
                rw [if_neg (fun q => q c3), M187]
                simp only [z_bi, zb_0]
                rw [if_neg (fun q => q c4), i0, b8.2.1, if_neg z8, if_neg p5]
        · refine ⟨-1, h, h, ?_, zF_rf, ?_, zF_rf⟩
          · rw [T131, if_neg n1, if_neg n2, X149]
            simp only [z_bi, zb_0]
            rw [if_pos (fun q => c4 q.2.2)]
          · rw [T294, M186]
            simp only [z_bi, zb_0, zl0, zl1, zl2, zl3, zl4, zl5, zl6, zl7, zl8, zl9, zl10, zl12, zl15, zl16, zl20, zl22, zl23, zl24, zl27, zl30, zl31, zl32, zl40, zl46, zl48, zl50, zl57, zl59, zl60, zl61, zl62, zl63, zl80, zl96, zl97, zl99, zl100, zl122, zl255, zl360, zl500, zl999, zl9999, zl60000, zl99999, zl16777215, zl1073741824, zlm1, zlm2, zlm3]
            rw [if_neg (fun q => q c1), M261]
            simp only [z_bi, zb_0]
            rw [if_neg (fun q => q c2), M187]
            simp only [z_bi, zb_0]
            rw [if_neg (fun q => q c3), M187]
            simp only [z_bi, zb_0]
            rw [if_pos c4]
      · refine ⟨-1, h, h, ?_, zF_rf, ?_, zF_rf⟩
        · rw [T131, if_neg n1, if_neg n2, X149]
          simp only [z_bi, zb_0]
          rw [if_pos (fun q => c3 q.2.1)]
        · rw [T294, M186]
          simp only [z_bi, zb_0, zl0, zl1, zl2, zl3, zl4, zl5, zl6, zl7, zl8, zl9, zl10, zl12, zl15, zl16, zl20, zl22, zl23, zl24, zl27, zl30, zl31, zl32, zl40, zl46, zl48, zl50, zl57, zl59, zl60, zl61, zl62, zl63, zl80, zl96, zl97, zl99, zl100, zl122, zl255, zl360, zl500, zl999, zl9999, zl60000, zl99999, zl16777215, zl1073741824, zlm1, zlm2, zlm3]
          rw [if_neg (fun q => q c1), M261]
          simp only [z_bi, zb_0]
          rw [if_neg (fun q => q c2), M187]
          simp only [z_bi, zb_0]
          rw [if_pos c3]
    · refine ⟨-1, h, h, ?_, zF_rf, ?_, zF_rf⟩
      · rw [T131, if_neg n1, if_neg n2, X149]
        simp only [z_bi, zb_0]
        rw [if_pos (fun q => c2 q.1)]
      · rw [T294, M186]
        simp only [z_bi, zb_0, zl0, zl1, zl2, zl3, zl4, zl5, zl6, zl7, zl8, zl9, zl10, zl12, zl15, zl16, zl20, zl22, zl23, zl24, zl27, zl30, zl31, zl32, zl40, zl46, zl48, zl50, zl57, zl59, zl60, zl61, zl62, zl63, zl80, zl96, zl97, zl99, zl100, zl122, zl255, zl360, zl500, zl999, zl9999, zl60000, zl99999, zl16777215, zl1073741824, zlm1, zlm2, zlm3]
        rw [if_neg (fun q => q c1), M261]
        simp only [z_bi, zb_0]
        rw [if_pos c2]
  · refine ⟨-1, h, h, ?_, zF_rf, ?_, zF_rf⟩
    · rw [T131]
      by_cases g : x1 < 1
      · rw [if_pos g]
      · rw [if_neg g, if_pos]
        rw [z_lt] at g ⊢
        simp only [zl0, zl1, zl2, zl3, zl4, zl5, zl6, zl7, zl8, zl9, zl10, zl12, zl15, zl16, zl20, zl22, zl23, zl24, zl27, zl30, zl31, zl32, zl40, zl46, zl48, zl50, zl57, zl59, zl60, zl61, zl62, zl63, zl80, zl96, zl97, zl99, zl100, zl122, zl255, zl360, zl500, zl999, zl9999, zl60000, zl99999, zl16777215, zl1073741824, zlm1, zlm2, zlm3] at g ⊢
        omega
    · rw [T294, M186]
      simp only [z_bi, zb_0, zl0, zl1, zl2, zl3, zl4, zl5, zl6, zl7, zl8, zl9, zl10, zl12, zl15, zl16, zl20, zl22, zl23, zl24, zl27, zl30, zl31, zl32, zl40, zl46, zl48, zl50, zl57, zl59, zl60, zl61, zl62, zl63, zl80, zl96, zl97, zl99, zl100, zl122, zl255, zl360, zl500, zl999, zl9999, zl60000, zl99999, zl16777215, zl1073741824, zlm1, zlm2, zlm3]
      rw [if_pos c1]
