/-! FROST: both sides -/
theorem zhd_n : ∀ n, 1 ≤ n → n ≤ 7 → (zfpl n n []).head? = some (List.range n) := by
  intro n h1 h2
  rcases (show n = 1 ∨ n = 2 ∨ n = 3 ∨ n = 4 ∨ n = 5 ∨ n = 6 ∨ n = 7 by omega) with rfl | rfl | rfl | rfl | rfl | rfl | rfl
  all_goals decide +kernel
/-- the reference's best so far -/
def zle7 (s : Nat × List Nat) : Int32 := if s.1 = 1073741824 then -1 else nI s.1
def zbr (g : ai_H) (n : Nat) (L : Nat → Nat) (s : Nat × List Nat) : Prop := s.1 ≤ 1073741824 ∧ (s.1 < 1073741824 → ∀ k, k < n → g.1 2064468 k = nI (L (zat s.2 k)))
/-- what is told -/
def zfa (L : Nat → Nat) (s : Nat × List Nat) (w : Nat) : Int32 := if w = 0 then nI s.1 else nI (L (zat s.2 (w - 1)))
def zQ6 (q _j : Nat) : Prop := q = 2064467 ∨ q = 2064468
theorem M292l {n sp w : Nat} {L : Nat → Nat} {C : Nat → Int32} {LS CD : Nat → Nat} {c : Int32} (d : Nat) (hn : n ≤ 7) (h1 : 1 ≤ n) (hw : w ≤ n) (hsp : 1 ≤ sp ∧ sp ≤ 99) (hL : zmono L n) (hC : ∀ k, k < n → zi (C k) 0 255) (hLS : ∀ k, k < n → LS k ≤ 999) (hCD : ∀ k, k < 24 → CD k ≤ 100) (hc : zi c 0 255) (z1 : Option ai_V) : ∀ (l : List (List Nat)) (p : List Nat), zchn n (p :: l) = true → (∀ q ∈ p :: l, q.length = n ∧ ∀ x ∈ q, x < n) → ∀ (g : ai_H) (s : Nat × List Nat) z8 z9, zfh g n L C LS CD → zro g n L (zat p) → zbr g n L s → ∃ g', ai_E (d + 4) 292 85 [some (.inr (.inr (32, 0, 16128))), z1, some (.inl c), some (.inl (nI sp)), some (.inl (nI w)), some (.inl (nI n)), some (.inl (zle7 s)), some (.inl 1), z8, z9] [] g = some ([.inl (zfa L ((p :: l).foldl (zfw7 C LS CD sp (c, 0, 0)) s) w)], g') ∧ zF zQ6 g g' := by
  have key : ∀ (g : ai_H) (s : Nat × List Nat) z8 z9 (v : Int32), zbr g n L s → s.1 < 1073741824 → v = 0 → ai_E (d + 4) 292 85 [some (.inr (.inr (32, 0, 16128))), z1, some (.inl c), some (.inl (nI sp)), some (.inl (nI w)), some (.inl (nI n)), some (.inl (zle7 s)), some (.inl v), z8, z9] [] g = some ([.inl (zfa L s w)], g) := by
    intro g s z8 z9 v hb hs hv
    have e : zle7 s = nI s.1 := if_neg (by omega)
    rw [T292_85, if_pos hv, e]
    unfold zfa
    by_cases c0 : w = 0
    · rw [if_pos (by rw [c0]; rfl), if_pos c0]
    · obtain ⟨m, hm⟩ : ∃ m, w = m + 1 := ⟨w - 1, by omega⟩
      rw [if_neg (nI_ne0 (by omega) (by omega)), if_neg c0, hm, nI_pred, z_ix (by omega) (by decide), hb.2 hs m (by omega)]
      rfl
  have cl : ∀ {g g' : ai_H}, zF zQ6 g g' → zfh g n L C LS CD → zfh g' n L C LS CD := fun f h => by
    refine ⟨fun k hk => ?_, fun k hk => ?_⟩
    · rw [f.1 _ _ (by unfold zQ6; omega), f.1 _ _ (by unfold zQ6; omega)]; exact h.1 k hk
    · rw [f.1 _ _ (by unfold zQ6; omega)]; exact h.2 k hk
  have one : ∀ (p : List Nat), p.length = n → ∀ (g : ai_H) (s : Nat × List Nat) z8 z9, zfh g n L C LS CD → zro g n L (zat p) → zbr g n L s → ∃ g' z8' z9', ai_E (d + 4) 292 85 [some (.inr (.inr (32, 0, 16128))), z1, some (.inl c), some (.inl (nI sp)), some (.inl (nI w)), some (.inl (nI n)), some (.inl (zle7 s)), some (.inl 1), z8, z9] [] g = ai_bi (ai_X (d + 4) 290 [.inr (.inr (32, 0, 16128)), .inl (nI n)] g') (fun v h => ai_E (d + 4) 292 85 [some (.inr (.inr (32, 0, 16128))), z1, some (.inl c), some (.inl (nI sp)), some (.inl (nI w)), some (.inl (nI n)), some (.inl (zle7 (zfw7 C LS CD sp (c, 0, 0) s p))), some (.inl v), z8', z9'] [] h) ∧ zF zQ6 g g' ∧ zro g' n L (zat p) ∧ zbr g' n L (zfw7 C LS CD sp (c, 0, 0) s p) ∧ (zfw7 C LS CD sp (c, 0, 0) s p).1 < 1073741824 := by
    intro p hp g s z8 z9 hh hr hb
    obtain ⟨m1, m2⟩ := M291 (n := n) (d + 1) (by omega) hsp hL hC hLS hCD hh hp hr hc
    have m1' : ai_X (d + 4) 291 [.inr (.inr (32, 0, 16128)), .inl (nI n), .inl c, .inl (nI sp)] g = _ := m1
    obtain ⟨v, hv⟩ : ∃ v, (zfo C LS CD sp (c, 0, 0) p).2.2 = v := ⟨_, rfl⟩
    rw [hv] at m1' m2
    have hb1 := hb.1
    -- a better one: the row is kept
    have cp : ∀ q k, k + q = n → ∀ (g2 : ai_H) z7, zF zQ6 g g2 → zro g2 n L (zat p) → (∀ i, i < k → g2.1 2064468 i = nI (L (zat p i))) → ∃ g', ai_E (d + 4) 292 119 [some (.inr (.inr (32, 0, 16128))), z1, some (.inl c), some (.inl (nI sp)), some (.inl (nI w)), some (.inl (nI n)), some (.inl (nI v)), z7, some (.inl (nI v)), some (.inl (nI k))] [] g2 = ai_bi (ai_X (d + 4) 290 [.inr (.inr (32, 0, 16128)), .inl (nI n)] g') (fun v2 h => ai_E (d + 4) 292 85 [some (.inr (.inr (32, 0, 16128))), z1, some (.inl c), some (.inl (nI sp)), some (.inl (nI w)), some (.inl (nI n)), some (.inl (nI v)), some (.inl v2), some (.inl (nI v)), some (.inl (nI n))] [] h) ∧ zF zQ6 g g' ∧ zro g' n L (zat p) ∧ ∀ i, i < n → g'.1 2064468 i = nI (L (zat p i)) := by
      intro q
      induction q with
      | zero =>
        intro k hk g2 z7 f2 r2 b2
        have hk : k = n := by omega
        subst hk
        refine ⟨g2, ?_, f2, r2, b2⟩
        rw [T292_119, if_pos (by rw [z_le]; omega)]
      | succ q ih =>
        intro k hk g2 z7 f2 r2 b2
        have ik : ∀ f : Nat → Option ai_R, ai_ix (nI k) 8 f = f k := fun f => z_ix (by omega) (by decide)
        rw [T292_119, if_neg (by rw [nI_leI (by omega) (by omega)]; omega), ik, ik, (r2 k (by omega)).1, nI_1]
        refine ih (k + 1) (by omega) _ z7 (zF_st f2 (Or.inr rfl)) (fun i hi => by rw [z_ne (by decide)]; exact r2 i hi) fun i hi => ?_
        rw [z_st1]
        by_cases e : i = k
        · subst e; rw [if_pos ⟨rfl, rfl⟩]
        · rw [if_neg (fun q => e q.2)]; exact b2 i (by omega)
    have ew : zfw7 C LS CD sp (c, 0, 0) s p = if v < s.1 then (v, p) else s := by unfold zfw7; rw [hv]
    rw [ew, T292_85, if_neg (show ¬ (1 : Int32) = 0 by decide), m1']
    simp only [z_bi]
    have better : v < s.1 → ∃ g' z8' z9', ai_E (d + 4) 292 119 [some (.inr (.inr (32, 0, 16128))), z1, some (.inl c), some (.inl (nI sp)), some (.inl (nI w)), some (.inl (nI n)), some (.inl (nI v)), some (.inl 1), some (.inl (nI v)), some (.inl 0)] [] g = ai_bi (ai_X (d + 4) 290 [.inr (.inr (32, 0, 16128)), .inl (nI n)] g') (fun v2 h => ai_E (d + 4) 292 85 [some (.inr (.inr (32, 0, 16128))), z1, some (.inl c), some (.inl (nI sp)), some (.inl (nI w)), some (.inl (nI n)), some (.inl (zle7 (v, p))), some (.inl v2), z8', z9'] [] h) ∧ zF zQ6 g g' ∧ zro g' n L (zat p) ∧ zbr g' n L (v, p) ∧ (v, p).1 < 1073741824 := fun hlt => by
      obtain ⟨g', y1, y2, y3, y4⟩ := cp n 0 (Nat.zero_add _) g (some (.inl 1)) zF_rf hr (fun i hi => absurd hi (Nat.not_lt_zero _))
      have e7 : zle7 (v, p) = nI v := if_neg (show ¬ v = 1073741824 by omega)
      rw [e7]
      exact ⟨g', _, _, y1, y2, y3, ⟨show v ≤ 1073741824 by omega, fun _ => y4⟩, show v < 1073741824 by omega⟩
    by_cases c0 : s.1 = 1073741824
    · have e : zle7 s = -1 := if_pos c0
      rw [e, if_pos (by decide), if_pos (by omega)]
      exact better (by omega)
    · have e : zle7 s = nI s.1 := if_neg c0
      rw [e, if_neg (by rw [z_lt, z_T (by omega)]; simp only [zl0]; omega)]
      by_cases cl : v < s.1
      · rw [if_neg (by rw [nI_leI (by omega) (by omega)]; omega), if_pos cl]
        exact better cl
      · rw [if_pos (by rw [nI_leI (by omega) (by omega)]; omega), if_neg cl, e]
        exact ⟨g, some (.inl (nI v)), z9, rfl, zF_rf, hr, hb, by omega⟩
  intro l
  induction l with
  | nil =>
    intro p hch hwf g s z8 z9 hh hr hb
    have hch : ((zfnx n (zat p)).isNone && true) = true := hch
    rw [Bool.and_true] at hch
    have hnone : zfnx n (zat p) = none := Option.isNone_iff_eq_none.mp hch
    obtain ⟨g1, z8', z9', w1, w2, w3, w4, w5⟩ := one p (hwf p List.mem_cons_self).1 g s z8 z9 hh hr hb
    obtain ⟨g2, y1, y2, -⟩ := M290 (d + 3) (by omega) h1 hL w3
    rw [hnone] at y1
    have f12 : zF zQ6 g g2 := zF_tr w2 (zF_mono y2 fun q j e => Or.inl e)
    refine ⟨g2, ?_, f12⟩
    rw [w1, y1]
    simp only [z_bi]
    exact key g2 _ z8' z9' _ ⟨w4.1, fun q k hk => by rw [y2.1 _ _ (by unfold zQ5; decide)]; exact w4.2 q k hk⟩ w5 rfl
  | cons p2 l ih =>
    intro p hch hwf g s z8 z9 hh hr hb
    have hch : ((match zfnx n (zat p) with
      | some r => decide (zls7 n r = p2)
      | none => false) && zchn n (p2 :: l)) = true := hch
    rw [Bool.and_eq_true] at hch
    obtain ⟨g1, z8', z9', w1, w2, w3, w4, w5⟩ := one p (hwf p List.mem_cons_self).1 g s z8 z9 hh hr hb
    obtain ⟨g2, y1, y2, y3⟩ := M290 (d + 3) (by omega) h1 hL w3
    cases e : zfnx n (zat p) with
    | none =>
      rw [e] at hch
      cases hch.1
    | some r =>
      rw [e] at hch y1
      have hp2 : zls7 n r = p2 := of_decide_eq_true hch.1
      have hr2 := y3 r e
      have hz : zro g2 n L (zat p2) := fun i hi => by
        have ez : zat p2 i = r i := by
          rw [← hp2]
          simp [zat, zls7, List.getD, hi]
        rw [ez]
        exact hr2 i hi
      have f12 : zF zQ6 g g2 := zF_tr w2 (zF_mono y2 fun q j e => Or.inl e)
      obtain ⟨g3, u1, u2⟩ := ih p2 hch.2 (fun q hq => hwf q (List.mem_cons_of_mem _ hq)) g2 (zfw7 C LS CD sp (c, 0, 0) s p) z8' z9' (cl f12 hh) hz ⟨w4.1, fun q k hk => by rw [y2.1 _ _ (by unfold zQ5; decide)]; exact w4.2 q k hk⟩
      refine ⟨g3, ?_, zF_tr f12 u2⟩
      rw [w1, y1]
      simp only [z_bi]
      rw [List.foldl_cons]
      exact u1
theorem zfold7_lt {C : Nat → Int32} {LS CD : Nat → Nat} {sp : Nat} {x : zfS} : ∀ (l : List (List Nat)) (s : Nat × List Nat), (l.foldl (zfw7 C LS CD sp x) s).1 ≤ s.1 := by
  intro l
  induction l with
  | nil => intro s; exact Nat.le_refl _
  | cons p l ih =>
    intro s
    refine Nat.le_trans (ih _) ?_
    unfold zfw7
    by_cases c : (zfo C LS CD sp x p).2.2 < s.1
    · rw [if_pos c]; exact Nat.le_of_lt c
    · rw [if_neg c]; exact Nat.le_refl _
theorem P_frost (x c sp w : Int32) : zPr 129 292 [.inl x, .inl c, .inl sp, .inl w] := zPr_q fun d h hr => by
  obtain ⟨b0, b1, b2, b8, b5, b4, b3, V⟩ := zR_b hr
  have hp := z_p24 b1.2.2
  have l01 : (0 : Int32).toInt = 0 := rfl
  by_cases c1 : zar h x 7
  · by_cases c2 : 0 ≤ c.toInt ∧ c.toInt ≤ 255
    · by_cases c3 : 1 ≤ sp.toInt ∧ sp.toInt ≤ 99
      · obtain ⟨A', hA', eA⟩ : ∃ A', A' < 2147483648 ∧ x = nI A' := ⟨x.toInt.toNat, by have := z_rg x; omega, z_nat (by have := c1.1; omega)⟩
        rw [eA] at c1 ⊢
        have c1' := c1
        unfold zar at c1'
        rw [z_T hA'] at c1'
        have hlen := zwl_len (h := h) (A := A') hr (by omega)
        obtain ⟨n, hn⟩ : ∃ n, (zwl h A').length = n := ⟨_, rfl⟩
        have hbc : zcnt (fun i => A'.testBit i = true) 24 = n := by rw [← hlen, hn]
        have hn7 : n ≤ 7 := by rw [← hbc]; exact c1'.2.2
        have hn1 : 1 ≤ n := by
          obtain ⟨j, j1, j2⟩ := z_tbx (v := A') (m := zn (zsl (zMv h) 0) 1) (by omega) (by omega)
          obtain ⟨k, k1, -⟩ := zen_in (p := fun t => A'.testBit t) j1 j2
          have k1 : k < (zwl h A').length := k1
          omega
        have n1 : ¬ sp < 1 := by rw [z_lt]; simp only [zl1]; omega
        have n99 : sp ≤ 99 := by rw [z_le]; simp only [zl99]; omega
        have hX312 := X312 (d + 58) A' h hA'
        rw [zpc_24 (by omega), hbc] at hX312
        have hX158 := X158 (m := 7) (d + 57) (nI A') hr (by omega)
        by_cases c4 : 0 ≤ w.toInt ∧ w.toInt ≤ (n : Int)
        · obtain ⟨S, hS, rfl⟩ : ∃ S : Nat, (1 ≤ S ∧ S ≤ 99) ∧ sp = nI S := ⟨sp.toInt.toNat, by omega, z_nat (by omega)⟩
          obtain ⟨W, hW, rfl⟩ : ∃ W : Nat, W ≤ n ∧ w = nI W := ⟨w.toInt.toNat, by omega, z_nat (by omega)⟩
          have hl : ∀ k, k < n → (zwl h A').getD k 0 < zn (zsl (zMv h) 0) 1 := fun k hk => (zen_at (by rw [hn]; exact hk)).1
          have hmo : zmono (fun k => (zwl h A').getD k 0) n := ⟨fun i hi => by have := hl i hi; dsimp only; omega, fun i j hij hj => zen_up hij (by rw [hn]; exact hj)⟩
          have hC : ∀ k, k < n → zi (zsl (zMv h) 0 12 ((zwl h A').getD k 0)) 0 255 := fun k hk => (zC_t hr (hl k hk)).2
          have vt := V.2.2.1
          have hLS : ∀ k, k < n → (zsl (zMv h) 0 14 ((zwl h A').getD k 0)).toInt.toNat ≤ 999 := fun k hk => by
            have := (vt _ (hl k hk)).2.2.2.1
            unfold zi at this
            omega
          have eLS : ∀ k, k < n → zsl (zMv h) 0 14 ((zwl h A').getD k 0) = nI (zsl (zMv h) 0 14 ((zwl h A').getD k 0)).toInt.toNat := fun k hk => z_nat (vt _ (hl k hk)).2.2.2.1.1
          have vc : ∀ k, k < 24 → zi (zsl (zMv h) 0 16 k) 0 100 := V.2.2.2.1.2.2
          have hCD : ∀ k, k < 24 → (zsl (zMv h) 0 16 k).toInt.toNat ≤ 100 := fun k hk => by
            have := vc k hk
            unfold zi at this
            omega
          have eCD : ∀ k, k < 24 → zsl (zMv h) 0 16 k = nI (zsl (zMv h) 0 16 k).toInt.toNat := fun k hk => z_nat (vc k hk).1
          obtain ⟨h1, a1, a2, a3⟩ := X80 (A := A') (d + 56) hr hA' (by omega)
          rw [zga, hn] at a3
          -- the class's heap as its search begins
          have hD : zD h 2097282 (zsl (zMv h) 0) := hr.1.1.2.1
          have ecold : ∀ k, k < 24 → h.1 268452109 k = zsl (zMv h) 0 16 k := hD.2.1
          have emax : ai_max 1 (nI S) = nI S := by
            unfold ai_max
            by_cases q : (1 : Int32) < nI S
            · rw [if_pos q]
            · rw [if_neg q]
              rw [show (1 : Int32) = nI 1 from rfl, nI_ltI (by omega) (by omega)] at q
              rw [show (1 : Int32) = nI 1 from rfl, show S = 1 by omega]
          obtain ⟨g0, hg0⟩ : ∃ g0, ai_st (ai_st (ai_cpy h1 268452109 (Int32.toNatClampNeg 0) 2097926 (Int32.toNatClampNeg 0) (Int32.toNatClampNeg 24)) 16390 8 (nI S)) 16390 9 1073741824 = g0 := ⟨_, rfl⟩
          have f0 : zF zXS h1 g0 := by
            rw [← hg0]
            exact zF_st (zF_st (zF_cpy zF_rf fun j _ _ => Or.inr (Or.inr (Or.inr (Or.inr (Or.inl (by decide)))))) (Or.inl rfl)) (Or.inl rfl)
          have e0 : (Int32.toNatClampNeg 0) = 0 := rfl
          have e24 : (Int32.toNatClampNeg 24) = 24 := rfl
          have hzfg : zfg g0 n S (fun k => (zwl h A').getD k 0) (fun k => zsl (zMv h) 0 12 ((zwl h A').getD k 0)) (fun k => (zsl (zMv h) 0 14 ((zwl h A').getD k 0)).toInt.toNat) (fun k => (zsl (zMv h) 0 16 k).toInt.toNat) := by
            rw [← hg0, e0, e24]
            refine ⟨?_, ?_, fun k hk => ?_, fun k hk => ?_⟩
            · rw [z_st1, if_neg (by omega), z_st1, if_neg (by omega), z_cpy1, if_neg (by omega)]; exact a3.1
            · rw [z_st1, if_neg (by omega), z_stS]
            · rw [z_ne (by decide), z_ne (by decide), z_ne (by decide), z_ne (by decide), z_ne (by decide), z_ne (by decide), z_cpy1, if_neg (by omega), z_cpy1, if_neg (by omega), z_cpy1, if_neg (by omega)]
              obtain ⟨q1, q2, q3⟩ := a3.2 k hk
              exact ⟨q1, q2, by rw [q3]; exact eLS k hk⟩
            · rw [z_ne (by decide), z_ne (by decide), z_cpy1, if_pos ⟨rfl, by omega, by omega⟩, show 0 + (k - 0) = k by omega, a2.1 _ _ (by unfold zwX; omega), ecold k hk]
              exact eCD k hk
          obtain ⟨d', hd'⟩ : ∃ d', d + 58 = d' + 2 + n := ⟨d + 56 - n, by omega⟩
          obtain ⟨h2, y1, y2, y3, -⟩ := X84 (L := fun k => (zwl h A').getD k 0) (C := fun k => zsl (zMv h) 0 12 ((zwl h A').getD k 0)) (LS := fun k => (zsl (zMv h) 0 14 ((zwl h A').getD k 0)).toInt.toNat) (CD := fun k => (zsl (zMv h) 0 16 k).toInt.toNat) (x0 := (c, 0, 0)) hn7 hS hmo.1 hC hLS hCD n [] (Nat.zero_add _) d' g0 (1073741824, []) hzfg ⟨by rw [← hg0, z_stS]; rfl, Nat.le_refl _, fun q => absurd q (Nat.lt_irrefl _)⟩ (fun k hk => absurd hk (Nat.not_lt_zero _)) c2 (Nat.zero_le _) (Nat.zero_le _)
          have ezB : zB (fun i => zmem [] i = true) n = 0 := zB_0.mpr fun i _ q => by cases q
          rw [ezB] at y1
          have y1 : ai_X (d' + 2 + n) 84 [.inr (.inr (30, 0, 16390)), .inl 0, .inl 0, .inl c, .inl 0, .inl 0] g0 = some ([], h2) := y1
          rw [← hd'] at y1
          obtain ⟨sf, hsf⟩ : ∃ sf, (zfpl n n []).foldl (zfw7 (fun k => zsl (zMv h) 0 12 ((zwl h A').getD k 0)) (fun k => (zsl (zMv h) 0 14 ((zwl h A').getD k 0)).toInt.toNat) (fun k => (zsl (zMv h) 0 16 k).toInt.toNat) S (c, 0, 0)) (1073741824, []) = sf := ⟨_, rfl⟩
          rw [hsf] at y3
          have f2 : zF zXS h h2 := zF_tr (zF_mono a2 fun q j => zwX_s) (zF_tr f0 (zF_mono y2 fun q j => zfX_s))
          have hr2 := zR_x hr f2
          have eV := zMv_x f2
          -- the orders begin with the taps as they stand
          obtain ⟨l, hlst⟩ : ∃ l, zfpl n n [] = List.range n :: l := by
            have := zhd_n n hn1 hn7
            cases e : zfpl n n [] with
            | nil => rw [e] at this; cases this
            | cons p l =>
              rw [e] at this
              have : p = List.range n := Option.some.inj this
              exact ⟨l, by rw [this]⟩
          obtain ⟨h3, w1, w2, w3⟩ := M287 (A := A') (d + 58) hr2 hA' (by rw [zwl_V eV]; omega)
          rw [zwl_V eV, hn] at w1 w3
          have f3 : zF zMS h2 h3 := zF_mono w2 fun q j e => by subst e; exact Or.inr ⟨by omega, by omega, by omega⟩
          have K : ∀ q k, k + q = n → ∀ g, zF zMS h2 g → (∀ i, i < n → g.1 2064465 i = nI ((zwl h A').getD i 0)) → (∀ i, i < k → g.1 2064467 i = nI ((zwl h A').getD i 0)) → ∃ g', ai_E (d + 59) 292 52 [some (.inr (.inr (32, 0, 16128))), some (.inl (nI A')), some (.inl c), some (.inl (nI S)), some (.inl (nI W)), some (.inl (nI n)), some (.inl (nI k)), none, none, none] [] g = ai_E (d + 59) 292 85 [some (.inr (.inr (32, 0, 16128))), some (.inl (nI A')), some (.inl c), some (.inl (nI S)), some (.inl (nI W)), some (.inl (nI n)), some (.inl (-1)), some (.inl 1), none, none] [] g' ∧ zF zMS h2 g' ∧ ∀ i, i < n → g'.1 2064467 i = nI ((zwl h A').getD i 0) := by
            intro q
            induction q with
            | zero =>
              intro k hk g fg gv gr
              have hk : k = n := by omega
              subst hk
              refine ⟨g, ?_, fg, gr⟩
              rw [T292_52, if_pos (by rw [z_le]; omega)]
            | succ q ih =>
              intro k hk g fg gv gr
              have ik : ∀ f : Nat → Option ai_R, ai_ix (nI k) 8 f = f k := fun f => z_ix (by omega) (by decide)
              rw [T292_52, if_neg (by rw [nI_leI (by omega) (by omega)]; omega), ik, ik, gv k (by omega), nI_1]
              refine ih (k + 1) (by omega) _ (zF_st fg (Or.inr ⟨by omega, by omega, by omega⟩)) (fun i hi => by rw [z_ne (by decide)]; exact gv i hi) fun i hi => ?_
              rw [z_st1]
              by_cases e : i = k
              · subst e; rw [if_pos ⟨rfl, rfl⟩]
              · rw [if_neg (fun q => e q.2)]; exact gr i (by omega)
          obtain ⟨h4, u1, u2, u3⟩ := K n 0 (Nat.zero_add _) h3 f3 w3 (fun i hi => absurd hi (Nat.not_lt_zero _))
          have hzfh : zfh h4 n (fun k => (zwl h A').getD k 0) (fun k => zsl (zMv h) 0 12 ((zwl h A').getD k 0)) (fun k => (zsl (zMv h) 0 14 ((zwl h A').getD k 0)).toInt.toNat) (fun k => (zsl (zMv h) 0 16 k).toInt.toNat) := by
            have e12 : ∀ t, zsl (zMv h) 0 12 t = h2.1 2064397 t := fun t => by rw [← eV]; exact zs0 (f := 12) (by omega)
            have e14 : ∀ t, zsl (zMv h) 0 14 t = h2.1 2064399 t := fun t => by rw [← eV]; exact zs0 (f := 14) (by omega)
            have e16 : ∀ t, zsl (zMv h) 0 16 t = h2.1 2064401 t := fun t => by rw [← eV]; exact zs0 (f := 16) (by omega)
            refine ⟨fun k hk => ?_, fun k hk => ?_⟩
            · rw [zM_n u2 (zMS_n (by decide) (by decide)), zM_n u2 (zMS_n (by decide) (by decide)), ← e12, ← e14]
              exact ⟨rfl, eLS k hk⟩
            · rw [zM_n u2 (zMS_n (by decide) (by decide)), ← e16]
              exact eCD k hk
          have hwf : ∀ q ∈ zfpl n n [], q.length = n ∧ ∀ x ∈ q, x < n := fun q hq => by
            obtain ⟨q', e1, e2, e3⟩ := zfpl_at hq
            rw [List.nil_append] at e1
            rw [e1]
            exact ⟨e2, e3⟩
          have hch := zchn_n n hn1 hn7
          rw [hlst] at hch hwf hsf
          obtain ⟨h5, v1, v2⟩ := M292l (n := n) (sp := S) (w := W) (L := fun k => (zwl h A').getD k 0) (C := fun k => zsl (zMv h) 0 12 ((zwl h A').getD k 0)) (LS := fun k => (zsl (zMv h) 0 14 ((zwl h A').getD k 0)).toInt.toNat) (CD := fun k => (zsl (zMv h) 0 16 k).toInt.toNat) (c := c) (d + 55) hn7 hn1 hW hS hmo hC hLS hCD c2 (some (.inl (nI A'))) l (List.range n) hch hwf h4 (1073741824, []) none none hzfh (fun i hi => by
            have ez : zat (List.range n) i = i := by simp [zat, List.getD, hi]
            rw [ez]
            exact ⟨u3 i hi, hi⟩) ⟨Nat.le_refl _, fun q => absurd q (Nat.lt_irrefl _)⟩
          rw [hsf] at v1
          have hslt : sf.1 < 1073741824 := by
            rw [← hsf, List.foldl_cons]
            refine Nat.lt_of_le_of_lt (zfold7_lt l _) ?_
            obtain ⟨-, m2⟩ := M291 (g := h4) (n := n) (sp := S) (L := fun k => (zwl h A').getD k 0) (C := fun k => zsl (zMv h) 0 12 ((zwl h A').getD k 0)) (LS := fun k => (zsl (zMv h) 0 14 ((zwl h A').getD k 0)).toInt.toNat) (CD := fun k => (zsl (zMv h) 0 16 k).toInt.toNat) (p := List.range n) (c := c) d (by omega) hS hmo hC hLS hCD hzfh List.length_range (fun i hi => by
              have ez : zat (List.range n) i = i := by simp [zat, List.getD, hi]
              rw [ez]
              exact ⟨u3 i hi, hi⟩) c2
            unfold zfw7
            rw [if_pos (by dsimp only; omega)]
            dsimp only
            omega
          have g2 := M288 (m := 7) (d + 57) (nI A') hr2 (by omega)
          have c1h2 : zar h2 (nI A') 7 := by unfold zar; rw [eV]; exact c1
          have hM191 := M191 (d + 58) A' h2 hA'
          rw [hbc] at hM191
          refine ⟨zfa (fun k => (zwl h A').getD k 0) sf W, h2, h5, ?_, f2, ?_, zF_tr u2 (zF_mono v2 fun q j e => by rcases e with rfl | rfl <;> exact Or.inr ⟨by omega, by omega, by omega⟩)⟩
          · rw [T129, show (7 : Int32) = nI 7 from rfl, hX158]
            simp only [z_bi, zb_0]
            rw [if_neg (fun q => q c1), X148]
            simp only [z_bi, zb_0]
            rw [if_neg (fun q => q c2), if_neg n1, if_pos n99, hX312]
            simp only [z_bi]
            rw [X146]
            simp only [z_bi, zb_0]
            rw [z_T (show n < 2147483648 by omega), if_neg (fun q => q c4), T83, a1]
            simp only [z_bv]
            rw [show (24 : Int32) = nI 24 from rfl, zcp_0 (by omega) (by omega) (by omega), ← show (24 : Int32) = nI 24 from rfl, emax, hg0, y1]
            simp only [z_bv]
            unfold zfa
            by_cases e : W = 0
            · rw [if_pos (by rw [e]; rfl), if_pos e, y3.1]
            · obtain ⟨m, hm⟩ : ∃ m, W = m + 1 := ⟨W - 1, by omega⟩
              rw [if_neg (nI_ne0 (by omega) (by omega)), if_neg e, hm, nI_pred, z_ix (by omega) (by decide), y3.2.2 hslt m (by omega)]
              rfl
          · rw [T292, show (7 : Int32) = nI 7 from rfl, g2]
            simp only [z_bi, zb_0]
            rw [if_neg (fun q => q c1h2), M188]
            simp only [z_bi, zb_0]
            rw [if_neg (fun q => q c2), M186]
            simp only [z_bi, zb_0, zl1, zl99]
            rw [if_neg (fun q => q c3), hM191]
            simp only [z_bi]
            rw [M186]
            simp only [z_bi, zb_0, l01]
            rw [z_T (show n < 2147483648 by omega), if_neg (fun q => q c4), w1]
            simp only [z_bi]
            exact u1.trans v1
        · refine ⟨-1, h, h, ?_, zF_rf, ?_, zF_rf⟩
          · rw [T129, show (7 : Int32) = nI 7 from rfl, hX158]
            simp only [z_bi, zb_0]
            rw [if_neg (fun q => q c1), X148]
            simp only [z_bi, zb_0]
            rw [if_neg (fun q => q c2), if_neg n1, if_pos n99, hX312]
            simp only [z_bi]
            rw [X146]
            simp only [z_bi, zb_0]
            rw [z_T (show n < 2147483648 by omega), if_pos c4]
          · have hM191 := M191 (d + 58) A' h hA'
            rw [hbc] at hM191
            rw [T292, show (7 : Int32) = nI 7 from rfl, M288 (m := 7) (d + 57) (nI A') hr (by omega)]
            simp only [z_bi, zb_0]
            rw [if_neg (fun q => q c1), M188]
            simp only [z_bi, zb_0]
            rw [if_neg (fun q => q c2), M186]
            simp only [z_bi, zb_0, zl1, zl99]
            rw [if_neg (fun q => q c3), hM191]
            simp only [z_bi]
            rw [M186]
            simp only [z_bi, zb_0, l01]
            rw [z_T (show n < 2147483648 by omega), if_pos c4]
      · refine ⟨-1, h, h, ?_, zF_rf, ?_, zF_rf⟩
        · rw [T129, show (7 : Int32) = nI 7 from rfl, X158 (m := 7) (d + 57) x hr (by omega)]
          simp only [z_bi, zb_0]
          rw [if_neg (fun q => q c1), X148]
          simp only [z_bi, zb_0]
          rw [if_neg (fun q => q c2)]
          by_cases q1 : sp < 1
          · rw [if_pos q1]
          · rw [if_neg q1, if_neg]
            rw [z_lt] at q1
            rw [z_le]
            simp only [zl1] at q1
            simp only [zl99]
            omega
        · rw [T292, show (7 : Int32) = nI 7 from rfl, M288 (m := 7) (d + 57) x hr (by omega)]
          simp only [z_bi, zb_0]
          rw [if_neg (fun q => q c1), M188]
          simp only [z_bi, zb_0]
          rw [if_neg (fun q => q c2), M186]
          simp only [z_bi, zb_0, zl1, zl99]
          rw [if_pos c3]
    · refine ⟨-1, h, h, ?_, zF_rf, ?_, zF_rf⟩
      · rw [T129, show (7 : Int32) = nI 7 from rfl, X158 (m := 7) (d + 57) x hr (by omega)]
        simp only [z_bi, zb_0]
        rw [if_neg (fun q => q c1), X148]
        simp only [z_bi, zb_0]
        rw [if_pos c2]
      · rw [T292, show (7 : Int32) = nI 7 from rfl, M288 (m := 7) (d + 57) x hr (by omega)]
        simp only [z_bi, zb_0]
        rw [if_neg (fun q => q c1), M188]
        simp only [z_bi, zb_0]
        rw [if_pos c2]
  · refine ⟨-1, h, h, ?_, zF_rf, ?_, zF_rf⟩
    · rw [T129, show (7 : Int32) = nI 7 from rfl, X158 (m := 7) (d + 57) x hr (by omega)]
      simp only [z_bi, zb_0]
      rw [if_pos c1]
    · rw [T292, show (7 : Int32) = nI 7 from rfl, M288 (m := 7) (d + 57) x hr (by omega)]
      simp only [z_bi, zb_0]
      rw [if_pos c1]
