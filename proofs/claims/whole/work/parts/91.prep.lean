/-! MENDING: what the class prepares -/
def zpX (q j : Nat) : Prop := q = 2098050 ∨ q = 2098051 ∨ q = 2098053 ∨ (q = 16391 ∧ (j = 0 ∨ j = 3 ∨ j = 5))
theorem zpX_s {q j : Nat} (h : zpX q j) : zXS q j := by
  unfold zXS
  rcases h with rfl | rfl | rfl | ⟨rfl, -⟩
  · exact Or.inr (Or.inr (Or.inr (Or.inr (Or.inr (Or.inl (by decide))))))
  · exact Or.inr (Or.inr (Or.inr (Or.inr (Or.inr (Or.inl (by decide))))))
  · exact Or.inr (Or.inr (Or.inr (Or.inr (Or.inr (Or.inl (by decide))))))
  · exact Or.inr (Or.inl rfl)
theorem zen_mono {p : Nat → Bool} {n : Nat} : ∀ q u, u + q = n → (zen p u).length ≤ (zen p n).length := by
  intro q
  induction q with
  | zero => intro u hu; rw [show u = n by omega]; exact Nat.le_refl _
  | succ q iq =>
    intro u hu
    refine Nat.le_trans ?_ (iq (u + 1) (by omega))
    rw [zen_S]
    by_cases c : p u = true
    · rw [if_pos c, List.length_append]; exact Nat.le_add_right _ _
    · rw [if_neg c]; exact Nat.le_refl _
theorem zen_full {p : Nat → Bool} {n b : Nat} (hb : (zen p n).length ≤ b) : ∀ q u, u + q = n → (zen p u).length = b → zen p n = zen p u := by
  intro q
  induction q with
  | zero => intro u hu _; rw [show u = n by omega]
  | succ q iq =>
    intro u hu h8
    have e : zen p (u + 1) = zen p u := by
      rw [zen_S]
      by_cases c : p u = true
      · have := zen_mono (p := p) (n := n) q (u + 1) (by omega)
        rw [zen_S, if_pos c, List.length_append, h8] at this
        have this : b + 1 ≤ _ := this
        omega
      · rw [if_neg c]
    rw [iq (u + 1) (by omega) (by rw [e]; exact h8), e]
/-- near: a house by its place, a tap -/
def znh (h : ai_H) (s t i : Nat) : Bool := decide (zds (zsl (zMv h) 0 19 i) (zsl (zMv h) 0 12 t) ≤ s)
/-- the wanted houses -/
def zwt (h : ai_H) (l : List Nat) (th : Nat → Prop) [DecidablePred th] (s i : Nat) : Bool := decide (th i) && zex (fun k => znh h s (l.getD k 0) i) l.length
/-- the first twelve of some -/
def zh12 (l : List Nat) : Nat := if 12 ≤ l.length then 12 else l.length
theorem zen_pre {p : Nat → Bool} {n : Nat} : ∀ q u, u + q = n → ∀ k, k < (zen p u).length → (zen p n).getD k 0 = (zen p u).getD k 0 := by
  intro q
  induction q with
  | zero => intro u hu k _; rw [show u = n by omega]
  | succ q iq =>
    intro u hu k hk
    have : (zen p (u + 1)).getD k 0 = (zen p u).getD k 0 := by
      rw [zen_S]
      by_cases c : p u = true
      · rw [if_pos c, z_gdl hk]
      · rw [if_neg c]
    rw [← this]
    refine iq (u + 1) (by omega) k ?_
    have := zen_mono (p := p) 1 u (n := u + 1) rfl
    omega
theorem zex_snoc {f : Nat → Bool} {l : List Nat} {t : Nat} : zex (fun k => f ((l ++ [t]).getD k 0)) (l.length + 1) = (zex (fun k => f (l.getD k 0)) l.length || f t) := by
  have e2 : ∀ m, m ≤ l.length → zex (fun k => f ((l ++ [t]).getD k 0)) m = zex (fun k => f (l.getD k 0)) m := by
    intro m
    induction m with
    | zero => intro _; rfl
    | succ m im =>
      intro hm
      show (zex (fun k => f ((l ++ [t]).getD k 0)) m || f ((l ++ [t]).getD m 0)) = (zex (fun k => f (l.getD k 0)) m || f (l.getD m 0))
      rw [im (by omega), z_gdl (by omega)]
  show (zex (fun k => f ((l ++ [t]).getD k 0)) l.length || f ((l ++ [t]).getD l.length 0)) = _
  rw [e2 _ (Nat.le_refl _), z_gdr (Nat.le_refl _), Nat.sub_self]
  rfl
def zp13 (h g : ai_H) (s : Nat) (p th : Nat → Prop) [DecidablePred p] [DecidablePred th] (l : List Nat) : Prop :=
  g.1 16391 0 = nI l.length ∧ (∀ k, k < l.length → g.1 2098050 k = nI (l.getD k 0) ∧ g.1 2098051 k = nI (zB (fun i => th i ∧ znh h s (l.getD k 0) i = true) (zn (zsl (zMv h) 0) 2))) ∧ g.1 16391 5 = nI (zB (fun i => th i ∧ zex (fun k => znh h s (l.getD k 0) i) l.length = true) (zn (zsl (zMv h) 0) 2))
theorem X13 {h : ai_H} {s : Nat} {p th : Nat → Prop} [DecidablePred p] [DecidablePred th] (d : Nat) (hr : zR h) (hs : s ≤ 30) (hl : (zen (fun t => decide (p t)) (zn (zsl (zMv h) 0) 1)).length ≤ 12) : ∃ g', ai_X (d + 3) 13 [.inr (.inr (21, 0, 16391)), .inr (.inr (20, 0, 2097281)), .inl (nI (zB p (zn (zsl (zMv h) 0) 1))), .inl (nI (zB th (zn (zsl (zMv h) 0) 2))), .inl (nI s)] h = some ([], g') ∧ zF zpX h g' ∧ zp13 h g' s p th (zen (fun t => decide (p t)) (zn (zsl (zMv h) 0) 1)) ∧ g'.1 16391 3 = nI (zh12 (zen (zwt h (zen (fun t => decide (p t)) (zn (zsl (zMv h) 0) 1)) th s) (zn (zsl (zMv h) 0) 2))) ∧ ∀ j, j < zh12 (zen (zwt h (zen (fun t => decide (p t)) (zn (zsl (zMv h) 0) 1)) th s) (zn (zsl (zMv h) 0) 2)) → g'.1 2098053 j = nI (zB (fun t => p t ∧ znh h s t ((zen (zwt h (zen (fun t => decide (p t)) (zn (zsl (zMv h) 0) 1)) th s) (zn (zsl (zMv h) 0) 2)).getD j 0) = true) (zn (zsl (zMv h) 0) 1)) := by
  obtain ⟨b0, b1, b2, b8, b5, b4, b3, V⟩ := zR_b hr
  obtain ⟨n, hn⟩ : ∃ n, zn (zsl (zMv h) 0) 1 = n := ⟨_, rfl⟩
  obtain ⟨nh, hnh⟩ : ∃ nh, zn (zsl (zMv h) 0) 2 = nh := ⟨_, rfl⟩
  unfold zp13
  rw [hn] at b1 hl ⊢
  rw [hnh] at b2 ⊢
  have hn24 : n ≤ 24 := b1.2.2
  have hn30 : nh ≤ 30 := b2.2.2
  have nz : ∀ {q j}, zpX q j → zXS q j := zpX_s
  have keep : ∀ {g : ai_H}, zF zpX h g → ∀ q j, ¬ zpX q j → g.1 q j = h.1 q j := fun f q j c => f.1 q j c
  obtain ⟨lc, hlc⟩ : ∃ lc, zen (fun t => decide (p t)) n = lc := ⟨_, rfl⟩
  -- the houses
  have K2 : ∀ q i, i + q = nh → ∀ g z3, zF zpX h g → (g.1 16391 5 = nI (zB (fun i => th i ∧ zex (fun k => znh h s (lc.getD k 0) i) lc.length = true) nh)) → g.1 16391 3 = nI (zh12 (zen (zwt h lc th s) i)) → (∀ j, j < zh12 (zen (zwt h lc th s) i) → g.1 2098053 j = nI (zB (fun t => p t ∧ znh h s t ((zen (zwt h lc th s) i).getD j 0) = true) n)) → ∃ g', ai_E (d + 2) 13 116 [some (.inr (.inr (21, 0, 16391))), some (.inr (.inr (20, 0, 2097281))), some (.inl (nI (zB p n))), z3, some (.inl (nI s)), some (.inl (nI i))] [] g = some ([], g') ∧ zF zpX h g' ∧ (∀ c j, c ≠ 2098053 → ¬ (c = 16391 ∧ j = 3) → g'.1 c j = g.1 c j) ∧ g'.1 16391 3 = nI (zh12 (zen (zwt h lc th s) nh)) ∧ ∀ j, j < zh12 (zen (zwt h lc th s) nh) → g'.1 2098053 j = nI (zB (fun t => p t ∧ znh h s t ((zen (zwt h lc th s) nh).getD j 0) = true) n) := by
    intro q
    induction q with
    | zero =>
      intro i hi g z3 fg g5 g3 gd
      have hi : i = nh := by omega
      subst hi
      refine ⟨g, ?_, fg, fun _ _ _ _ => rfl, g3, gd⟩
      rw [T13_116, keep fg _ _ (by unfold zpX; omega), b2.1, if_pos (by rw [z_le]; omega)]
    | succ q ih =>
      intro i hi g z3 fg g5 g3 gd
      have ih := ih (i + 1) (by omega)
      rw [T13_116, keep fg _ _ (by unfold zpX; omega), b2.1, if_neg (by rw [nI_leI (by omega) (by omega)]; omega), g3]
      have h12 : zh12 (zen (zwt h lc th s) i) ≤ 12 := by unfold zh12; split <;> omega
      by_cases c12 : 12 ≤ (zen (zwt h lc th s) i).length
      · have e12 : zh12 (zen (zwt h lc th s) i) = 12 := if_pos c12
        have m12 := zen_mono (p := zwt h lc th s) (q + 1) i hi
        have f12 : zh12 (zen (zwt h lc th s) nh) = 12 := if_pos (by omega)
        rw [e12, if_pos (by decide)]
        refine ⟨g, rfl, fg, fun _ _ _ _ => rfl, by rw [g3, e12, f12], fun j hj => ?_⟩
        rw [f12] at hj
        rw [gd j (by omega), zen_pre (q + 1) i hi j (by omega)]
      · have e12 : zh12 (zen (zwt h lc th s) i) = (zen (zwt h lc th s) i).length := if_neg c12
        rw [if_neg (by rw [e12, show (12 : Int32) = nI 12 from rfl, nI_leI (by omega) (by omega)]; omega), g5, X159B _ _ (by omega) (by omega)]
        simp only [z_bi, zb_0, nI_1]
        have ew : zwt h lc th s i = true ↔ (th i ∧ zex (fun k => znh h s (lc.getD k 0) i) lc.length = true) := by unfold zwt; rw [Bool.and_eq_true, decide_eq_true_iff]
        by_cases c : th i ∧ zex (fun k => znh h s (lc.getD k 0) i) lc.length = true
        · have i30 : ∀ f : Nat → Option ai_R, ai_ix (nI i) 30 f = f i := fun f => z_ix (by omega) (by decide)
          have hrg := zR_x hr (zF_mono fg fun _ _ => nz)
          have eV := zMv_x (zF_mono fg fun _ _ => nz)
          obtain ⟨e19, v19⟩ := zC_h hr (t := i) (by omega)
          have hX := X7 (p := p) (s := s) (c := zsl (zMv h) 0 19 i) d hrg v19 hs
          rw [eV, hn] at hX
          have ez : zen (zwt h lc th s) (i + 1) = zen (zwt h lc th s) i ++ [i] := by rw [zen_S, if_pos (ew.mpr c)]
          have eX : zB (fun t => p t ∧ zds (zsl (zMv h) 0 19 i) (zsl (zMv h) 0 12 t) ≤ s) n = zB (fun t => p t ∧ znh h s t i = true) n := zB_c fun t _ => by unfold znh; rw [decide_eq_true_iff]
          rw [if_neg (fun x => x c), i30, keep fg _ _ (by unfold zpX; omega), e19, hX]
          simp only [z_bi]
          rw [g3, e12, z_ix (by omega) (by decide), z_ne (by decide), g3, e12, nI_1, eX]
          rw [ez] at ih
          have e12' : zh12 (zen (zwt h lc th s) i ++ [i]) = (zen (zwt h lc th s) i).length + 1 := by
            unfold zh12
            rw [List.length_append]
            show (if 12 ≤ (zen (zwt h lc th s) i).length + 1 then 12 else (zen (zwt h lc th s) i).length + 1) = _
            by_cases cc : 12 ≤ (zen (zwt h lc th s) i).length + 1
            · rw [if_pos cc]; omega
            · rw [if_neg cc]
          rw [e12'] at ih
          obtain ⟨g', w1, w2, w3, w4, w5⟩ := ih (ai_st (ai_st g 2098053 (zen (zwt h lc th s) i).length (nI (zB (fun t => p t ∧ znh h s t i = true) n))) 16391 3 (nI ((zen (zwt h lc th s) i).length + 1))) z3 (zF_st (zF_st fg (Or.inr (Or.inr (Or.inl rfl)))) (Or.inr (Or.inr (Or.inr ⟨rfl, Or.inr (Or.inl rfl)⟩)))) (by rw [z_st1, if_neg (by decide), z_ne (by decide)]; exact g5) z_stS (fun j hj => by
            rw [z_ne (by decide), z_st1]
            by_cases ej : j = (zen (zwt h lc th s) i).length
            · subst ej
              rw [if_pos ⟨rfl, rfl⟩, z_gdr (Nat.le_refl _), Nat.sub_self]
              rfl
            · rw [if_neg (fun x => ej x.2), z_gdl (by omega)]
              exact gd j (by omega))
          refine ⟨g', w1, w2, fun c' j h1 h2 => ?_, w4, w5⟩
          rw [w3 c' j h1 h2, z_st1, if_neg h2, z_ne h1]
        · rw [if_pos c]
          have ez : zen (zwt h lc th s) (i + 1) = zen (zwt h lc th s) i := by rw [zen_S, if_neg (fun x => c (ew.mp x))]
          rw [ez] at ih
          exact ih g z3 fg g5 g3 gd
  -- the taps
  have K1 : ∀ q t, t + q = n → ∀ g, zF zpX h g → zp13 h g s p th (zen (fun t => decide (p t)) t) → ∃ g', ai_E (d + 2) 13 13 [some (.inr (.inr (21, 0, 16391))), some (.inr (.inr (20, 0, 2097281))), some (.inl (nI (zB p n))), some (.inl (nI (zB th nh))), some (.inl (nI s)), some (.inl (nI t))] [] g = ai_E (d + 2) 13 116 [some (.inr (.inr (21, 0, 16391))), some (.inr (.inr (20, 0, 2097281))), some (.inl (nI (zB p n))), some (.inl (nI (zB th nh))), some (.inl (nI s)), some (.inl 0)] [] (ai_st g' 16391 3 0) ∧ zF zpX h g' ∧ zp13 h g' s p th lc := by
    intro q
    induction q with
    | zero =>
      intro t ht g fg gg
      have ht : t = n := by omega
      subst ht
      rw [hlc] at gg
      refine ⟨g, ?_, fg, gg⟩
      rw [T13_13, keep fg _ _ (by unfold zpX; omega), b1.1, if_pos (by rw [z_le]; omega)]
    | succ q ih =>
      intro t ht g fg gg
      have ih := ih (t + 1) (by omega)
      have hm := zen_mono (p := fun t => decide (p t)) (q + 1) t ht
      rw [T13_13, keep fg _ _ (by unfold zpX; omega), b1.1, if_neg (by rw [nI_leI (by omega) (by omega)]; omega), gg.1]
      by_cases c12 : (zen (fun t => decide (p t)) t).length = 12
      · have e := zen_full hl (q + 1) t ht c12
        rw [if_pos (by rw [c12]; decide)]
        refine ⟨g, rfl, fg, ?_⟩
        rw [← hlc, e]
        exact gg
      · rw [if_neg (by rw [show (12 : Int32) = nI 12 from rfl, nI_leI (by omega) (by omega)]; omega), X159B _ _ (by omega) (by omega)]
        simp only [z_bi, zb_0, nI_1]
        by_cases c : p t
        · have i24 : ∀ f : Nat → Option ai_R, ai_ix (nI t) 24 f = f t := fun f => z_ix (by omega) (by decide)
          obtain ⟨l, hL⟩ : ∃ l, zen (fun t => decide (p t)) t = l := ⟨_, rfl⟩
          have ez : zen (fun t => decide (p t)) (t + 1) = l ++ [t] := by rw [zen_S, if_pos (decide_eq_true c), hL]
          rw [ez] at ih
          rw [hL] at gg hm c12
          have fg1 : zF zpX h (ai_st g 2098050 l.length (nI t)) := zF_st fg (Or.inl rfl)
          have hrg := zR_x hr (zF_mono fg1 fun _ _ => nz)
          have eV := zMv_x (zF_mono fg1 fun _ _ => nz)
          obtain ⟨e12, v12⟩ := zC_t hr (t := t) (by omega)
          have hX := X9 (p := th) (s := s) (c := zsl (zMv h) 0 12 t) d hrg v12 hs
          rw [eV, hnh] at hX
          have eX : zB (fun i => th i ∧ zds (zsl (zMv h) 0 12 t) (zsl (zMv h) 0 19 i) ≤ s) nh = zB (fun i => th i ∧ znh h s t i = true) nh := zB_c fun i _ => by unfold znh; rw [decide_eq_true_iff, zds_sym]
          have il : ∀ f : Nat → Option ai_R, ai_ix (nI l.length) 12 f = f l.length := fun f => z_ix (by omega) (by decide)
          rw [if_neg (fun x => x c), gg.1, il, i24, keep fg1 _ _ (by unfold zpX; omega), e12, hX]
          simp only [z_bi]
          simp only [z_st1, Nat.reduceEqDiff, false_and, and_false, true_and, and_self, if_false, if_true, reduceIte, gg.1, gg.2.2, il, nI_1]
          rw [hnh, eX, zB_or]
          have el : (l ++ [t]).length = l.length + 1 := by rw [List.length_append]; rfl
          refine ih _ (zF_st (zF_st (zF_st fg1 (Or.inr (Or.inl rfl))) (Or.inr (Or.inr (Or.inr ⟨rfl, Or.inr (Or.inr rfl)⟩)))) (Or.inr (Or.inr (Or.inr ⟨rfl, Or.inl rfl⟩)))) ⟨?_, fun k hk => ?_, ?_⟩
          · rw [z_stS, el]
          · rw [el] at hk
            rw [z_ne (by decide), z_ne (by decide), z_ne (by decide), z_st1, z_ne (show (2098051 : Nat) ≠ 16391 by decide), z_ne (show (2098051 : Nat) ≠ 16391 by decide), z_st1]
            by_cases ck : k = l.length
            · subst ck
              rw [if_pos ⟨rfl, rfl⟩, if_pos ⟨rfl, rfl⟩, z_gdr (Nat.le_refl _), Nat.sub_self]
              rw [hnh]
              exact ⟨rfl, rfl⟩
            · rw [if_neg (fun x => ck x.2), if_neg (fun x => ck x.2), z_ne (show (2098051 : Nat) ≠ 2098050 by decide), z_gdl (by omega)]
              exact gg.2.1 k (by omega)
          · rw [z_st1, if_neg (by omega), z_stS, el, hnh]
            refine congrArg nI (zB_c fun i _ => ?_)
            rw [zex_snoc (f := fun t => znh h s t i), Bool.or_eq_true]
            constructor
            · rintro (⟨h1, h2⟩ | ⟨h1, h2⟩)
              · exact ⟨h1, Or.inl h2⟩
              · exact ⟨h1, Or.inr h2⟩
            · rintro ⟨h1, h2 | h2⟩
              · exact Or.inl ⟨h1, h2⟩
              · exact Or.inr ⟨h1, h2⟩
        · rw [if_pos c]
          have ez : zen (fun t => decide (p t)) (t + 1) = zen (fun t => decide (p t)) t := by rw [zen_S, if_neg (fun x => c (of_decide_eq_true x))]
          rw [ez] at ih
          exact ih g fg gg
  have f0 : zF zpX h (ai_st (ai_st h 16391 0 0) 16391 5 0) := zF_st (zF_st zF_rf (Or.inr (Or.inr (Or.inr ⟨rfl, Or.inl rfl⟩)))) (Or.inr (Or.inr (Or.inr ⟨rfl, Or.inr (Or.inr rfl)⟩)))
  obtain ⟨g1, w1, w2, w3⟩ := K1 n 0 (Nat.zero_add _) _ f0 ⟨by rw [z_st1, if_neg (by omega), z_stS]; rfl, fun k hk => absurd hk (Nat.not_lt_zero _), by
    rw [z_stS]
    show (0 : Int32) = nI (zB _ _)
    rw [zB_0.mpr fun i _ c => by
      have : false = true := c.2
      cases this]
    rfl⟩
  obtain ⟨g2, y1, y2, y3, y4, y5⟩ := K2 nh 0 (Nat.zero_add _) (ai_st g1 16391 3 0) (some (.inl (nI (zB th nh)))) (zF_st w2 (Or.inr (Or.inr (Or.inr ⟨rfl, Or.inr (Or.inl rfl)⟩)))) (by rw [z_st1, if_neg (by omega)]; have := w3.2.2; rw [hnh] at this; exact this) (by rw [z_stS]; rfl) (fun j hj => absurd hj (Nat.not_lt_zero _))
  rw [hlc]
  have w3' := w3
  unfold zp13 at w3'
  rw [hnh] at w3'
  refine ⟨g2, ?_, y2, ⟨?_, fun k hk => ?_, ?_⟩, y4, y5⟩
  · rw [T13]
    exact w1.trans y1
  · rw [y3 _ _ (by decide) (by omega), z_st1, if_neg (by omega)]
    exact w3'.1
  · rw [y3 _ _ (by decide) (by omega), y3 _ _ (by decide) (by omega), z_ne (by decide), z_ne (by decide)]
    exact w3'.2.1 k hk
  · rw [y3 _ _ (by decide) (by omega), z_st1, if_neg (by omega)]
    exact w3'.2.2
