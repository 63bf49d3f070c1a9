/-! NAMES: how a name is read -/
def zbt (μ : zMu) (i : Nat) : Int32 := μ.1 47 i &&& 255
abbrev zltr (c : Int32) : Prop := 97 ≤ c.toInt ∧ c.toInt ≤ 122
abbrev zbad (μ : zMu) (w : Bool) (i : Nat) : Prop := ¬ zltr (zbt μ i) ∧ ¬ (w = true ∧ zbt μ i = 46)
/-- the fault's place in a name of n letters -/
def znf (μ : zMu) (w : Bool) (n : Nat) : Int32 := if n = 0 then 0 else match zfst (fun i => zbad μ w i ∨ 12 ≤ i) n with
  | some j => nI (min j 12)
  | none => -1
theorem znf_ok {μ : zMu} {w : Bool} {n : Nat} (hn : n ≤ 500) : znf μ w n = -1 ↔ 1 ≤ n ∧ n ≤ 12 ∧ ∀ i, i < n → ¬ zbad μ w i := by
  unfold znf
  by_cases c : n = 0
  · rw [if_pos c]
    exact ⟨fun q => absurd q (by decide), fun q => by omega⟩
  · rw [if_neg c]
    cases e : zfst (fun i => zbad μ w i ∨ 12 ≤ i) n with
    | none =>
      have e1 := zfst_none e
      refine ⟨fun _ => ⟨by omega, ?_, fun i hi q => e1 i hi (Or.inl q)⟩, fun _ => rfl⟩
      rcases Nat.lt_or_ge 12 n with g | g
      · exact absurd (Or.inr (Nat.le_refl 12)) (e1 12 g)
      · exact g
    | some j =>
      obtain ⟨e1, e2, e3⟩ := zfst_some e
      refine ⟨fun q => ?_, fun q => ?_⟩
      · have q : nI (min j 12) = -1 := q
        rw [z_eq, z_T (by omega)] at q
        simp only [zlm1] at q
        omega
      · rcases e1 with e1 | e1
        · exact absurd e1 (q.2.2 j e2)
        · omega
theorem X70 (d : Nat) (c : Int32) (h : ai_H) : ai_X (d + 1) 70 [.inl c] h = some ([.inl (zb (zltr c))], h) := by
  rw [T70]
  simp only [z_lt, z_b0, z_b1, zl0, zl1, zl2, zl3, zl4, zl5, zl6, zl7, zl8, zl9, zl10, zl12, zl15, zl16, zl20, zl22, zl23, zl24, zl27, zl30, zl31, zl32, zl40, zl46, zl48, zl50, zl57, zl59, zl60, zl61, zl62, zl63, zl80, zl96, zl97, zl99, zl100, zl122, zl255, zl360, zl500, zl999, zl9999, zl60000, zl99999, zl16777215, zl1073741824, zlm1, zlm2, zlm3]
  by_cases h1 : c.toInt < 97
  · rw [if_pos h1, zb_f (by omega)]
  · rw [if_neg h1]
    by_cases h2 : 122 < c.toInt
    · rw [if_pos h2, zb_f (by omega)]
    · rw [if_neg h2, zb_t (by omega)]
theorem X52 {h : ai_H} {m : Nat} (d : Nat) (x : Int32) (hm : h.1 16387 1 = nI m) (hl : m ≤ 500) : ai_X (d + 1) 52 [.inr (.inr (27, 0, 16387)), .inl x] h = some ([.inl (zb (0 ≤ x.toInt ∧ x.toInt ≤ (m : Int)))], h) := by
  rw [T52, hm]
  simp only [z_lt, z_b0, z_b1, zl0, zl1, zl2, zl3, zl4, zl5, zl6, zl7, zl8, zl9, zl10, zl12, zl15, zl16, zl20, zl22, zl23, zl24, zl27, zl30, zl31, zl32, zl40, zl46, zl48, zl50, zl57, zl59, zl60, zl61, zl62, zl63, zl80, zl96, zl97, zl99, zl100, zl122, zl255, zl360, zl500, zl999, zl9999, zl60000, zl99999, zl16777215, zl1073741824, zlm1, zlm2, zlm3]
  rw [z_T (by omega)]
  by_cases h1 : x.toInt < 0
  · rw [if_pos h1, zb_f (by omega)]
  · rw [if_neg h1]
    by_cases h2 : (m : Int) < x.toInt
    · rw [if_pos h2, zb_f (by omega)]
    · rw [if_neg h2, zb_t (by omega)]
theorem X54 {h : ai_H} {n m : Nat} {w : Bool} (d : Nat) (hr : zR h) (hm : zg (zMv h) 48 = m) (hl : m ≤ 500) (hn : n ≤ m) : ai_X (d + 2) 54 [.inr (.inr (27, 0, 16387)), .inl (nI n), .inl (zb (w = true))] h = some ([.inl (znf (zMv h) w n)], h) := by
  have hT : zTp h (zMv h) := hr.1.2.2.2.2.1
  have tp : ∀ i, i < n → h.1 2097537 i = zbt (zMv h) i := fun i hi => hT.2 i (by omega)
  have l12 : (12 : Int32) = nI 12 := rfl
  have E : ∀ i, n ≤ i ∨ 12 ≤ i → i ≤ 500 → ai_E (d + 1) 54 2 [some (.inr (.inr (27, 0, 16387))), some (.inl (nI n)), some (.inl (zb (w = true))), some (.inl (nI i))] [] h = some ([.inl (if n ≤ 12 then if n = 0 then 0 else -1 else 12)], h) := by
    intro i hi hi5
    have R : (if nI n ≤ 12 then if nI n = 0 then some ([Sum.inl 0], h) else some ([Sum.inl (-1)], h) else some ([Sum.inl 12], h) : Option ai_R) = some ([.inl (if n ≤ 12 then if n = 0 then 0 else -1 else 12)], h) := by
      by_cases g : n ≤ 12
      · rw [if_pos (by rw [l12, nI_leI (by omega) (by omega)]; exact g), if_pos g]
        by_cases g0 : n = 0
        · rw [if_pos g0, if_pos (by rw [g0]; rfl)]
        · rw [if_neg g0, if_neg (nI_ne0 (by omega) (by omega))]
      · rw [if_neg (by rw [l12, nI_leI (by omega) (by omega)]; exact g), if_neg g]
    rw [T54_2]
    by_cases g : n ≤ i
    · rw [if_pos (by rw [nI_leI (by omega) (by omega)]; exact g)]
      exact R
    · rw [if_neg (by rw [nI_leI (by omega) (by omega)]; exact g), if_pos (by rw [l12, nI_leI (by omega) (by omega)]; omega)]
      exact R
  rw [T54]
  unfold znf
  by_cases c : n = 0
  · rw [if_pos c]
    have := E 0 (by omega) (by omega)
    rw [if_pos (by omega), if_pos c] at this
    exact this
  · rw [if_neg c]
    have F := z_find (fun i => ai_E (d + 1) 54 2 [some (.inr (.inr (27, 0, 16387))), some (.inl (nI n)), some (.inl (zb (w = true))), some (.inl (nI i))] [] h) (fun j => some ([.inl (nI (min j 12))], h)) (fun i => zbad (zMv h) w i ∨ 12 ≤ i) n (fun i hi => by
      by_cases g : 12 ≤ i
      · rw [if_pos (Or.inr g), E i (Or.inr g) (by omega), if_neg (by omega), show min i 12 = 12 by omega]
        rfl
      · have i5 : ∀ f : Nat → Option ai_R, ai_ix (nI i) 500 f = f i := fun f => z_ix (by omega) (by decide)
        rw [T54_2, if_neg (by rw [nI_leI (by omega) (by omega)]; omega), if_neg (by rw [l12, nI_leI (by omega) (by omega)]; exact g), i5, tp i hi, X70]
        simp only [z_bi, zb_0, nI_1, i5, tp i hi]
        by_cases g1 : zltr (zbt (zMv h) i)
        · rw [if_neg (fun q => q g1), if_neg (fun q => by rcases q with q | q; exact q.1 g1; exact g q)]
        · rw [if_pos g1]
          by_cases g2 : w = true
          · rw [if_neg (fun q => q g2)]
            by_cases g3 : zbt (zMv h) i = 46
            · rw [if_pos g3, if_neg (fun q => by rcases q with q | q; exact q.2 ⟨g2, g3⟩; exact g q)]
            · rw [if_neg g3, if_pos (Or.inl ⟨g1, fun q => g3 q.2⟩), show min i 12 = i by omega]
          · rw [if_pos g2, if_pos (Or.inl ⟨g1, fun q => g2 q.1⟩), show min i 12 = i by omega])
    have F : ai_E (d + 1) 54 2 [some (.inr (.inr (27, 0, 16387))), some (.inl (nI n)), some (.inl (zb (w = true))), some (.inl (nI 0))] [] h = _ := F
    rw [show (0 : Int32) = nI 0 from rfl, F]
    cases e : zfst (fun i => zbad (zMv h) w i ∨ 12 ≤ i) n with
    | some j => rfl
    | none =>
      dsimp only
      rw [E n (Or.inl (Nat.le_refl _)) (by omega)]
      have e1 := zfst_none e
      have : n ≤ 12 := by
        rcases Nat.lt_or_ge 12 n with g | g
        · exact absurd (Or.inr (Nat.le_refl 12)) (e1 12 g)
        · exact g
      rw [if_pos this, if_neg c]
/-- what reading a name changes in the reference -/
def zMN (q j : Nat) : Prop := zMS q j ∨ (q = 16128 ∧ (j = 48 ∨ j = 49))
theorem z_letF {c : Int32} (hc : zi c 97 122) : vp_nar .byte (Int8.toInt32 (Int32.toInt8 (c - 96))) = c - 96 := by
  unfold zi at hc
  obtain ⟨i, hi, rfl⟩ : ∃ i : Nat, i ≤ 122 ∧ c = nI i := ⟨c.toInt.toNat, by omega, z_nat (by omega)⟩
  rw [z_T (by omega)] at hc
  have : ∀ i, i ≤ 122 → 97 ≤ i → vp_nar .byte (Int8.toInt32 (Int32.toInt8 (nI i - 96))) = nI i - 96 := by decide +kernel
  exact this i hi (by omega)
theorem z_let27 : vp_nar .byte (Int8.toInt32 (Int32.toInt8 27)) = 27 := by decide +kernel
/-- a letter as the reference keeps it -/
def zltk (μ : zMu) (i : Nat) : Int32 := if zbt μ i = 46 then 27 else zbt μ i - 96
theorem M246 {h : ai_H} {n : Nat} {w : Bool} (d : Nat) (hn : n ≤ 500) : ∃ h', ai_X (d + 2) 246 [.inr (.inr (32, 0, 16128)), .inl (nI n), .inl (zb (w = true))] h = some ([.inl (zb (znf (zMv h) w n = -1))], h') ∧ zF zMN h h' ∧ h'.1 16128 48 = 0 ∧ h'.1 16128 49 = znf (zMv h) w n ∧ (znf (zMv h) w n = -1 → ∀ k, k < n → h'.1 2064452 k = zltk (zMv h) k) := by
  have m47 : ∀ {g : ai_H}, zF zMN h g → ∀ i, g.1 2064432 i = (zMv h).1 47 i := fun fg i => (fg.1 _ _ (by unfold zMN zMS; omega)).trans (zMv1 (f := 47) (by omega)).symm
  have l12 : (12 : Int32) = nI 12 := rfl
  have S : ∀ {g : ai_H} {q j : Nat} {v : Int32}, zF zMN h g → (q = 2064452 ∨ (q = 16128 ∧ 48 ≤ j)) → zF zMN h (ai_st g q j v) := fun fg hq => zF_st fg (by unfold zMN zMS; omega)
  -- the end
  have E : ∀ g, zF zMN h g → g.1 16128 48 = 0 → ∀ v, g.1 16128 49 = v → (v = -1 → 1 ≤ n → ∀ k, k < n → g.1 2064452 k = zltk (zMv h) k) → znf (zMv h) w n = (if n = 0 then 0 else v) → (v = -1 ∨ 0 ≤ v.toInt) → ∃ h', (if nI n = 0 then if 0 ≤ ((ai_st g 16128 49 0).1 16128 49) then ai_b01 0 (some ([Sum.inl 0], (ai_st g 16128 49 0))) else ai_b01 1 (some ([Sum.inl 1], (ai_st g 16128 49 0))) else if 0 ≤ (g.1 16128 49) then ai_b01 0 (some ([Sum.inl 0], g)) else ai_b01 1 (some ([Sum.inl 1], g)) : Option ai_R) = some ([.inl (zb (znf (zMv h) w n = -1))], h') ∧ zF zMN h h' ∧ h'.1 16128 48 = 0 ∧ h'.1 16128 49 = znf (zMv h) w n ∧ (znf (zMv h) w n = -1 → ∀ k, k < n → h'.1 2064452 k = zltk (zMv h) k) := by
    intro g fg g48 v gv gl ez hv
    by_cases c : n = 0
    · rw [if_pos c] at ez
      refine ⟨ai_st g 16128 49 0, ?_, S fg (Or.inr ⟨rfl, by decide⟩), ?_, ?_, fun q => ?_⟩
      · rw [if_pos (by rw [c]; rfl), z_stS, if_pos (by decide), z_b0, ez, zb_f (by decide)]
      · rw [z_st1, if_neg (by decide)]; exact g48
      · rw [z_stS, ez]
      · rw [ez] at q; exact absurd q (by decide)
    · rw [if_neg c] at ez
      refine ⟨g, ?_, fg, g48, by rw [gv, ez], fun q => gl (by rw [← ez]; exact q) (by omega)⟩
      rw [if_neg (nI_ne0 (by omega) (by omega)), gv, ez]
      rcases hv with hv | hv
      · rw [hv, if_neg (by decide), z_b1, zb_t rfl]
      · rw [if_pos (by rw [z_le]; exact hv), z_b0, zb_f]
        rw [z_eq]
        simp only [zlm1]
        omega
  have K : ∀ k i, i + k = n → i ≤ 12 → (∀ j, j < i → ¬ zbad (zMv h) w j) → ∀ g, zF zMN h g → g.1 16128 48 = 0 → g.1 16128 49 = -1 → (∀ j, j < i → g.1 2064452 j = zltk (zMv h) j) → ∀ z4 z5, ∃ h', ai_E (d + 1) 246 7 [some (.inr (.inr (32, 0, 16128))), some (.inl (nI n)), some (.inl (zb (w = true))), some (.inl (nI i)), z4, z5] [] g = some ([.inl (zb (znf (zMv h) w n = -1))], h') ∧ zF zMN h h' ∧ h'.1 16128 48 = 0 ∧ h'.1 16128 49 = znf (zMv h) w n ∧ (znf (zMv h) w n = -1 → ∀ k, k < n → h'.1 2064452 k = zltk (zMv h) k) := by
    intro k
    induction k with
    | zero =>
      intro i hi hi2 hb g fg g48 g49 gl z4 z5
      have hi : i = n := by omega
      subst hi
      rw [T246_7, if_pos (by rw [z_le]; omega)]
      refine E g fg g48 (-1) g49 (fun _ _ => gl) ?_ (Or.inl rfl)
      by_cases c : i = 0
      · rw [if_pos c]; unfold znf; rw [if_pos c]
      · rw [if_neg c]
        exact (znf_ok (by omega)).mpr ⟨by omega, hi2, hb⟩
    | succ k ih =>
      intro i hi hi2 hb g fg g48 g49 gl z4 z5
      have i5 : ∀ f : Nat → Option ai_R, ai_ix (nI i) 500 f = f i := fun f => z_ix (by omega) (by decide)
      have cb : (g.1 2064432 i) &&& 255 = zbt (zMv h) i := by rw [m47 fg]; rfl
      have n0 : ¬ n = 0 := by omega
      -- the fault lies here
      have Bad : (zbad (zMv h) w i ∨ 12 ≤ i) → ∀ z4 z5, ∃ h', ai_E (d + 1) 246 7 [some (.inr (.inr (32, 0, 16128))), some (.inl (nI n)), some (.inl (zb (w = true))), some (.inl (nI i + 1)), z4, z5] [] (ai_st g 16128 49 (nI i)) = some ([.inl (zb (znf (zMv h) w n = -1))], h') ∧ zF zMN h h' ∧ h'.1 16128 48 = 0 ∧ h'.1 16128 49 = znf (zMv h) w n ∧ (znf (zMv h) w n = -1 → ∀ k, k < n → h'.1 2064452 k = zltk (zMv h) k) := by
        intro hbad z4 z5
        have ez : znf (zMv h) w n = nI i := by
          unfold znf
          rw [if_neg n0, zfst_is (j := i) (by omega) hbad (fun j hj q => by rcases q with q | q; exact hb j hj q; omega)]
          dsimp only
          rw [show min i 12 = i by omega]
        have E' := E (ai_st g 16128 49 (nI i)) (S fg (Or.inr ⟨rfl, by decide⟩)) (by rw [z_st1, if_neg (by decide)]; exact g48) (nI i) z_stS (fun q => by rw [z_eq, z_T (by omega)] at q; simp only [zlm1] at q; omega) (by rw [if_neg n0]; exact ez) (Or.inr (by rw [z_T (by omega)]; omega))
        rw [T246_7]
        by_cases c : nI n ≤ nI i + 1
        · rw [if_pos c]
          exact E'
        · rw [if_neg c, z_stS, if_pos (nI_pos' (by omega))]
          rw [z_stS] at E'
          exact E'
      have Good : ¬ zbad (zMv h) w i → i < 12 → ∀ z4 z5, ∃ h', ai_E (d + 1) 246 7 [some (.inr (.inr (32, 0, 16128))), some (.inl (nI n)), some (.inl (zb (w = true))), some (.inl (nI i + 1)), z4, z5] [] (ai_st g 2064452 i (zltk (zMv h) i)) = some ([.inl (zb (znf (zMv h) w n = -1))], h') ∧ zF zMN h h' ∧ h'.1 16128 48 = 0 ∧ h'.1 16128 49 = znf (zMv h) w n ∧ (znf (zMv h) w n = -1 → ∀ k, k < n → h'.1 2064452 k = zltk (zMv h) k) := by
        intro hg h12 z4 z5
        rw [nI_1]
        refine ih (i + 1) (by omega) (by omega) (fun j hj => ?_) _ (S fg (Or.inl rfl)) (by rw [z_ne (by decide)]; exact g48) (by rw [z_ne (by decide)]; exact g49) (fun j hj => ?_) z4 z5
        · by_cases q : j = i
          · rw [q]; exact hg
          · exact hb j (by omega)
        · rw [z_st1]
          by_cases q : j = i
          · rw [if_pos ⟨rfl, q⟩, q]
          · rw [if_neg (fun x => q x.2)]; exact gl j (by omega)
      -- the letter's test
      have Tst : ∀ s0 : Int32, (s0 = 0 ∨ s0 = 1) → (s0 = 0 ↔ zbad (zMv h) w i) → ∀ z5, ∃ h', ai_E (d + 1) 246 59 [some (.inr (.inr (32, 0, 16128))), some (.inl (nI n)), some (.inl (zb (w = true))), some (.inl (nI i)), some (.inl (zbt (zMv h) i)), z5] [.inl s0] g = some ([.inl (zb (znf (zMv h) w n = -1))], h') ∧ zF zMN h h' ∧ h'.1 16128 48 = 0 ∧ h'.1 16128 49 = znf (zMv h) w n ∧ (znf (zMv h) w n = -1 → ∀ k, k < n → h'.1 2064452 k = zltk (zMv h) k) := by
        intro s0 h01 hs z5
        rw [T246_59]
        by_cases c : s0 = 0
        · rw [if_pos c]
          exact Bad (Or.inl (hs.mp c)) _ _
        · rw [if_neg c]
          have hg : ¬ zbad (zMv h) w i := fun q => c (hs.mpr q)
          by_cases c12 : i = 12
          · rw [if_pos (by rw [c12]; rfl)]
            exact Bad (Or.inr (by omega)) _ _
          · have j12 : ∀ f : Nat → Option ai_R, ai_ix (nI i) 12 f = f i := fun f => z_ix (by omega) (by decide)
            rw [if_neg (by rw [l12, nI_eq (by omega) (by omega)]; exact c12), j12, j12, z_let27]
            by_cases c46 : zbt (zMv h) i = 46
            · rw [if_pos c46]
              have := Good hg (by omega) (some (.inl (zbt (zMv h) i))) (some (.inl s0))
              rw [show zltk (zMv h) i = 27 from if_pos c46] at this
              exact this
            · rw [if_neg c46]
              have lt : zltr (zbt (zMv h) i) := by
                by_cases q : zltr (zbt (zMv h) i)
                · exact q
                · exact absurd ⟨q, fun x => c46 x.2⟩ hg
              rw [z_letF lt]
              have := Good hg (by omega) (some (.inl (zbt (zMv h) i))) (some (.inl s0))
              rw [show zltk (zMv h) i = zbt (zMv h) i - 96 from if_neg c46] at this
              exact this
      rw [T246_7, if_neg (by rw [nI_leI (by omega) (by omega)]; omega), g49, if_neg (by decide), i5, cb, M186]
      simp only [z_bi, zb_0]
      have l97 : (97 : Int32).toInt = 97 := rfl
      have l122 : (122 : Int32).toInt = 122 := rfl
      rw [l97, l122]
      by_cases c : zltr (zbt (zMv h) i)
      · rw [if_neg (fun q => q c)]
        exact Tst 1 (Or.inr rfl) ⟨fun q => absurd q (by decide), fun q => absurd c q.1⟩ _
      · rw [if_pos c]
        by_cases cw : w = true
        · rw [if_neg (fun q => q cw)]
          by_cases c46 : zbt (zMv h) i = 46
          · rw [if_pos c46]
            exact Tst 1 (Or.inr rfl) ⟨fun q => absurd q (by decide), fun q => absurd ⟨cw, c46⟩ q.2⟩ _
          · rw [if_neg c46]
            exact Tst 0 (Or.inl rfl) ⟨fun _ => ⟨c, fun x => c46 x.2⟩, fun _ => rfl⟩ _
        · rw [if_pos cw]
          exact Tst 0 (Or.inl rfl) ⟨fun _ => ⟨c, fun x => cw x.1⟩, fun _ => rfl⟩ _
  rw [T246, T236, z_b0]
  simp only [z_bv]
  exact K n 0 (by omega) (by decide) (fun j hj => by omega) _ (S (S (S (S (S zF_rf (Or.inr ⟨rfl, by decide⟩)) (Or.inr ⟨rfl, by decide⟩)) (Or.inr ⟨rfl, by decide⟩)) (Or.inr ⟨rfl, by decide⟩)) (Or.inr ⟨rfl, by decide⟩)) (by rw [z_st1, if_neg (by decide), z_st1, if_neg (by decide), z_st1, if_neg (by decide), z_stS]) (by rw [z_st1, if_neg (by decide), z_stS]) (fun j hj => by omega) _ _
