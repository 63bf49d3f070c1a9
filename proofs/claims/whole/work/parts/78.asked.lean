/-! THE COUNCIL: the jobs asked; council -/
theorem z_gdl {l1 l2 : List Nat} {k : Nat} (h : k < l1.length) : (l1 ++ l2).getD k 0 = l1.getD k 0 := by
  rw [List.getD_eq_getElem?_getD, List.getD_eq_getElem?_getD, List.getElem?_append_left h]
theorem z_gdr {l1 l2 : List Nat} {k : Nat} (h : l1.length ≤ k) : (l1 ++ l2).getD k 0 = l2.getD (k - l1.length) 0 := by
  rw [List.getD_eq_getElem?_getD, List.getD_eq_getElem?_getD, List.getElem?_append_right h]
abbrev zopn (σ : Nat → Nat → Int32) (j : Nat) : Prop := σ 31 j = -1 ∧ σ 18 j = 0
def zask (σ : Nat → Nat → Int32) : Nat → List Nat
  | 0 => []
  | j + 1 => if (zask σ j).length < 6 ∧ zopn σ j then zask σ j ++ [j] else zask σ j
theorem zask_S {σ : Nat → Nat → Int32} {j : Nat} : zask σ (j + 1) = if (zask σ j).length < 6 ∧ zopn σ j then zask σ j ++ [j] else zask σ j := rfl
theorem zask_le {σ : Nat → Nat → Int32} : ∀ j, (zask σ j).length ≤ 6 := by
  intro j
  induction j with
  | zero => exact Nat.zero_le _
  | succ j ih =>
    rw [zask_S]
    split
    · rename_i c
      rw [List.length_append]
      show (zask σ j).length + 1 ≤ 6
      omega
    · exact ih
theorem zask_lt {σ : Nat → Nat → Int32} : ∀ {j k : Nat}, k < (zask σ j).length → (zask σ j).getD k 0 < j := by
  intro j
  induction j with
  | zero => intro k hk; exact absurd hk (Nat.not_lt_zero _)
  | succ j ih =>
    intro k hk
    rw [zask_S] at hk ⊢
    split at hk
    · rename_i c
      rw [if_pos c]
      rw [List.length_append] at hk
      have hk : k < (zask σ j).length + 1 := hk
      by_cases e : k < (zask σ j).length
      · rw [z_gdl e]
        have := ih e
        omega
      · rw [z_gdr (by omega), show k - (zask σ j).length = 0 by omega]
        show j < j + 1
        omega
    · rename_i c
      rw [if_neg c]
      have := ih hk
      omega
theorem zask_6 {σ : Nat → Nat → Int32} {j : Nat} (h : (zask σ j).length = 6) : ∀ k, zask σ (j + k) = zask σ j := by
  intro k
  induction k with
  | zero => rfl
  | succ k ih => rw [show j + (k + 1) = (j + k) + 1 from rfl, zask_S, ih, if_neg (fun q => by omega)]
/-- the council's data -/
def zcJ (h : ai_H) (k : Nat) : Nat := (zask (zsl (zMv h) 0) (zn (zsl (zMv h) 0) 5)).getD k 0
def zcm (h : ai_H) : Nat := (zask (zsl (zMv h) 0) (zn (zsl (zMv h) 0) 5)).length
def zcC (h : ai_H) (k : Nat) : Nat := (zsl (zMv h) 0 29 (zcJ h k)).toInt.toNat
def zcP (h : ai_H) (k tr : Nat) : Bool := decide (zpj h (zcJ h k) tr)
def zcLf (h : ai_H) (tr : Nat) : Nat := (zsl (zMv h) 0 21 tr).toInt.toNat
def zcou (h : ai_H) : Nat × Nat := zcrf (zcC h) (zcP h) (zg (zMv h) 33) (zcm h) (zcLf h) (6 ^ zcm h)
theorem zcJ_lt {h : ai_H} {k : Nat} (hk : k < zcm h) : zcJ h k < zn (zsl (zMv h) 0) 5 := zask_lt hk
theorem zcP_V {h h1 : ai_H} (e : zMv h1 = zMv h) : zcP h1 = zcP h := by
  funext k tr
  have e2 : zcJ h1 k = zcJ h k := by unfold zcJ; rw [e]
  unfold zcP
  rw [e2]
  exact decide_eq_decide.mpr (zpj_V e)
theorem zcou_V {h h1 : ai_H} (e : zMv h1 = zMv h) : zcou h1 = zcou h ∧ zcm h1 = zcm h ∧ zcJ h1 = zcJ h ∧ zcC h1 = zcC h ∧ zcLf h1 = zcLf h := by
  have e1 : zcm h1 = zcm h := by unfold zcm; rw [e]
  have e2 : zcJ h1 = zcJ h := by funext k; unfold zcJ; rw [e]
  have e3 : zcC h1 = zcC h := by funext k; unfold zcC; rw [e2, e]
  have e4 : zcLf h1 = zcLf h := by funext k; unfold zcLf; rw [e]
  refine ⟨?_, e1, e2, e3, e4⟩
  unfold zcou
  rw [e1, e3, e4, zcP_V e, e]
theorem zcC_ok {h : ai_H} (hr : zR h) {k : Nat} (hk : k < zcm h) : zsl (zMv h) 0 29 (zcJ h k) = nI (zcC h k) ∧ 1 ≤ zcC h k ∧ zcC h k ≤ 9999 := by
  obtain ⟨b0, b1, b2, b8, b5, b4, b3, V⟩ := zR_b hr
  have v := (V.2.2.2.2.2 _ (zcJ_lt hk)).2.2.1
  unfold zi at v
  unfold zcC
  exact ⟨z_nat (by omega), by omega, by omega⟩
theorem zcL_ok {h : ai_H} (hr : zR h) {t : Nat} (ht : t < zg (zMv h) 33) : zsl (zMv h) 0 21 t = nI (zcLf h t) ∧ zcLf h t ≤ 99999 := by
  have v := (hr.2.1.2.2.2.1.1 t ht).1
  have e : zsl (zMv h) 0 21 t = (zMv h).1 21 t := by
    unfold zsl
    rw [Nat.mul_zero, Nat.zero_add]
  rw [← e] at v
  unfold zi at v
  unfold zcLf
  exact ⟨z_nat (by omega), by omega⟩
theorem X178 {h : ai_H} (d : Nat) (hr : zR h) : ∃ h1, ai_X (d + 20) 178 [.inr (.inr (31, 0, 128))] h = some ([], h1) ∧ zF zXS h h1 ∧ h1.1 16388 3 = nI (zcm h) ∧ h1.1 16388 8 = nI (zcou h).1 ∧ h1.1 16388 9 = nI (zcou h).2 ∧ ∀ k, k < zcm h → h1.1 2097669 k = nI (zcJ h k) ∧ h1.1 2097670 k = nI (zcC h k) := by
  obtain ⟨b0, b1, b2, b8, b5, b4, b3, V⟩ := zR_b hr
  obtain ⟨t1, t2, t3⟩ := zR_tr hr
  have cz : ∀ q, q ≠ 16392 → ∀ j, zXS q j → zXS q j := fun _ _ _ x => x
  -- the end: the costs are shared
  have E : ∀ g, zF zXS h g → g.1 16388 3 = nI (zcm h) → (∀ k, k < zcm h → g.1 2097669 k = nI (zcJ h k) ∧ g.1 2097670 k = nI (zcC h k) ∧ g.1 2097671 k = nI (zB (fun tr => zcP h k tr = true) (zg (zMv h) 33))) → ∃ h1, ai_X (d + 19) 76 [.inr (.inr (29, 0, 16388)), .inr (.inr (1, 5, 2097284))] g = some ([], h1) ∧ zF zXS h h1 ∧ h1.1 16388 3 = nI (zcm h) ∧ h1.1 16388 8 = nI (zcou h).1 ∧ h1.1 16388 9 = nI (zcou h).2 ∧ ∀ k, k < zcm h → h1.1 2097669 k = nI (zcJ h k) ∧ h1.1 2097670 k = nI (zcC h k) := by
    intro g fg g3 gk
    have hm := zask_le (σ := zsl (zMv h) 0) (zn (zsl (zMv h) 0) 5)
    have hm : zcm h ≤ 6 := hm
    generalize hg0 : ai_st (ai_st (ai_cpy g 2097284 0 2097672 0 5) 16388 8 1073741824) 16388 9 0 = g0
    have f1 : ∀ q, q ≠ 2097672 → q ≠ 16388 → g0.1 q = g.1 q := fun q n1 n2 => by
      rw [← hg0, z_ne n2, z_ne n2]
      funext j
      rw [z_cpy1, if_neg (fun c => n1 c.1)]
    have f2 : ∀ j, j ≠ 8 → j ≠ 9 → g0.1 16388 j = g.1 16388 j := fun j n1 n2 => by
      rw [← hg0, z_st1, if_neg (fun c => n2 c.2), z_st1, if_neg (fun c => n1 c.2), z_cpy1, if_neg (fun c => absurd c.1 (by decide))]
    have f3 : ∀ j, j < 5 → g0.1 2097672 j = g.1 2097284 j := fun j hj => by
      rw [← hg0, z_ne (by decide), z_ne (by decide), z_cpy1, if_pos ⟨rfl, Nat.zero_le _, by omega⟩, Nat.zero_add]
      rfl
    have f4 : zF zXS h g0 := by
      rw [← hg0]
      exact zF_st (zF_st (zF_cpy fg (fun j _ _ => by unfold zXS; omega)) (by unfold zXS; omega)) (by unfold zXS; omega)
    have hL : ∀ tr, tr < zg (zMv h) 33 → g0.1 2097672 tr = nI (zcLf h tr) ∧ zcLf h tr ≤ 99999 := fun tr ht => by
      obtain ⟨l1, l2⟩ := zcL_ok hr ht
      have h4 := hr.1.1.2.2.2.1 tr ht
      have h4 : h.1 2097284 tr = zsl (zMv h) 0 21 tr := h4
      refine ⟨?_, l2⟩
      rw [f3 tr (by omega), fg.1 2097284 tr (zXS_n (by decide)), h4, l1]
    have p6 := z_p6 hm
    obtain ⟨h1, a1, a2, a3, a4, a5, a6⟩ := X77 (T := zg (zMv h) 33) (m := zcm h) (C := zcC h) (P := zcP h) (V := zcv (zcC h) (zcP h) (zg (zMv h) 33) (zcm h) (zcLf h)) t3 hm (fun k hk => (zcC_ok hr hk).2.2) (zcm h) (Nat.le_refl _) (d + 16 - zcm h) g0 (zcLf h) (1073741824, 0) 0 0
      ⟨by rw [f2 0 (by decide) (by decide), fg.1 _ _ (by unfold zXS; decide)]; exact t1, fun k hk => by
        obtain ⟨k1, k2, k3⟩ := gk k hk
        rw [f1 _ (by decide) (by decide), f1 _ (by decide) (by decide)]
        exact ⟨k2, k3⟩⟩ hL (by rw [← hg0, z_st1, if_neg (by decide), z_stS]; rfl) (by rw [← hg0, z_stS]; rfl) (by decide) (by decide) (by omega) (by omega) (fun r hr => by
        rw [Nat.zero_add]
        cases zcv (zcC h) (zcP h) (zg (zMv h) 33) (zcm h) (zcLf h) r with
        | none => rfl
        | some v => exact congrArg some (Nat.zero_add v).symm)
    rw [show d + 16 - zcm h + 2 + zcm h = d + 18 by omega] at a1
    refine ⟨h1, ?_, ⟨fun q j n => ?_, a2.trans f4.2⟩, by rw [a4 3 (by decide) (by decide), f2 3 (by decide) (by decide)]; exact g3, a5, a6, fun k hk => ?_⟩
    · have e3 : (ai_st (ai_st (ai_cpy g 2097284 0 2097672 0 5) 16388 8 1073741824) 16388 9 0).1 16388 3 = nI (zcm h) := by rw [hg0, f2 3 (by decide) (by decide)]; exact g3
      rw [T76]
      unfold ai_cp
      rw [if_pos (by decide)]
      have e0 : Int32.toNatClampNeg 0 = 0 := rfl
      have e5 : Int32.toNatClampNeg 5 = 5 := rfl
      rw [e0, e5, e3, hg0]
      have a1' : ai_X (d + 18) 77 [.inr (.inr (29, 0, 16388)), .inl (nI (zcm h) - 1), .inl 0, .inl 0] g0 = some ([], h1) := a1
      rw [a1']
      rfl
    · by_cases e : q = 16388
      · subst e
        rw [a4 j (fun c => n (by unfold zXS; omega)) (fun c => n (by unfold zXS; omega))]
        exact f4.1 _ _ n
      · rw [a3 q e]
        exact f4.1 _ _ n
    · obtain ⟨k1, k2, k3⟩ := gk k hk
      rw [a3 _ (by decide), a3 _ (by decide), f1 _ (by decide) (by decide), f1 _ (by decide) (by decide)]
      exact ⟨k1, k2⟩
  have K : ∀ k i, i + k = zn (zsl (zMv h) 0) 5 → ∀ g, zF zXS h g → g.1 16388 3 = nI (zask (zsl (zMv h) 0) i).length → (∀ k, k < (zask (zsl (zMv h) 0) i).length → g.1 2097669 k = nI ((zask (zsl (zMv h) 0) i).getD k 0) ∧ g.1 2097670 k = zsl (zMv h) 0 29 ((zask (zsl (zMv h) 0) i).getD k 0) ∧ g.1 2097671 k = nI (zB (zpj h ((zask (zsl (zMv h) 0) i).getD k 0)) (zg (zMv h) 33))) → ∃ h1, ai_E (d + 19) 178 10 [some (.inr (.inr (31, 0, 128))), some (.inl (nI i))] [] g = some ([], h1) ∧ zF zXS h h1 ∧ h1.1 16388 3 = nI (zcm h) ∧ h1.1 16388 8 = nI (zcou h).1 ∧ h1.1 16388 9 = nI (zcou h).2 ∧ ∀ k, k < zcm h → h1.1 2097669 k = nI (zcJ h k) ∧ h1.1 2097670 k = nI (zcC h k) := by
    intro k
    induction k with
    | zero =>
      intro i hi g fg g3 gk
      have hi : i = zn (zsl (zMv h) 0) 5 := by omega
      subst hi
      have n5 : g.1 2097283 0 = nI (zn (zsl (zMv h) 0) 5) := by rw [fg.1 _ _ (zXS_n (by decide))]; exact b5.1
      obtain ⟨h1, a1, a2⟩ := E g fg g3 (fun k hk => by
        obtain ⟨k1, k2, k3⟩ := gk k hk
        refine ⟨k1, k2.trans (zcC_ok hr hk).1, k3.trans ?_⟩
        rw [zB_c (q := fun tr => zcP h k tr = true)]
        intro tr _
        unfold zcP
        rw [decide_eq_true_eq]
        rfl)
      refine ⟨h1, ?_, a2⟩
      rw [T178_10, n5, if_pos (by rw [z_le]; omega), a1]
      rfl
    | succ k ih =>
      intro i hi g fg g3 gk
      have ih := ih (i + 1) (by omega)
      have n5 : g.1 2097283 0 = nI (zn (zsl (zMv h) 0) 5) := by rw [fg.1 _ _ (zXS_n (by decide))]; exact b5.1
      have hl := zask_le (σ := zsl (zMv h) 0) i
      have l6 : (6 : Int32) = nI 6 := rfl
      by_cases c6 : (zask (zsl (zMv h) 0) i).length = 6
      · have ea : zask (zsl (zMv h) 0) (zn (zsl (zMv h) 0) 5) = zask (zsl (zMv h) 0) i := by
          have := zask_6 c6 (k + 1)
          rw [hi] at this
          exact this
        obtain ⟨h1, a1, a2⟩ := E g fg (by rw [g3]; unfold zcm; rw [ea]) (fun k hk => by
          have hk' := hk
          unfold zcm at hk'
          rw [ea] at hk'
          obtain ⟨k1, k2, k3⟩ := gk k hk'
          have ej : zcJ h k = (zask (zsl (zMv h) 0) i).getD k 0 := by unfold zcJ; rw [ea]
          rw [← ej] at k1 k2 k3
          refine ⟨k1, k2.trans (zcC_ok hr hk).1, k3.trans ?_⟩
          rw [zB_c (q := fun tr => zcP h k tr = true)]
          intro tr _
          unfold zcP
          rw [decide_eq_true_eq])
        refine ⟨h1, ?_, a2⟩
        rw [T178_10, n5, if_neg (by rw [nI_leI (by omega) (by omega)]; omega), g3, c6, if_pos (by decide), a1]
        rfl
      · have i40 : ∀ f : Nat → Option ai_R, ai_ix (nI i) 40 f = f i := fun f => z_ix (by omega) (by decide)
        have hrg := zR_x hr fg
        have eV := zMv_x fg
        obtain ⟨⟨j1, j2, j3, j4, j5⟩, -, -⟩ := zR_job hrg (j := i) (by rw [eV]; omega)
        rw [eV] at j3 j4 j5
        rw [zask_S] at ih
        rw [T178_10, n5, if_neg (by rw [nI_leI (by omega) (by omega)]; omega), g3, if_neg (by rw [l6, nI_leI (by omega) (by omega)]; omega), i40, j4]
        by_cases o1 : zsl (zMv h) 0 31 i = -1
        · rw [if_pos o1, i40, j5]
          by_cases o2 : zsl (zMv h) 0 18 i = 0
          · rw [if_pos o2, i40, j3]
            obtain ⟨g1, q1, q2, q3⟩ := X177 (h := g) (j := i) (d + 13) hrg (by rw [eV]; omega)
            have eB : zB (zpj g i) (zg (zMv g) 33) = zB (zpj h i) (zg (zMv h) 33) := by
              have e33 : zg (zMv g) 33 = zg (zMv h) 33 := by rw [eV]
              rw [e33]
              exact zB_c fun tr _ => zpj_V eV
            rw [eB] at q1
            rw [q1]
            simp only [z_bi]
            have g13 : g1.1 16388 3 = nI (zask (zsl (zMv h) 0) i).length := by rw [q3 _ (by decide)]; exact g3
            have ix : ∀ f : Nat → Option ai_R, ai_ix (nI (zask (zsl (zMv h) 0) i).length) 6 f = f (zask (zsl (zMv h) 0) i).length := fun f => z_ix (by omega) (by decide)
            have fg1 := zF_tr fg q2
            rw [if_pos ⟨by omega, o1, o2⟩] at ih
            rw [T75, g13, if_neg (by rw [l6, nI_leI (by omega) (by omega)]; omega), ix, z_ne (by decide), g13, ix, z_ne (by decide), z_ne (by decide), g13, ix, z_ne (by decide), z_ne (by decide), z_ne (by decide), g13, nI_1, nI_1]
            simp only [z_bv]
            refine ih _ (zF_st (c := 16388) (j := 3) (zF_st (c := 2097671) (zF_st (c := 2097670) (zF_st (c := 2097669) fg1 (by unfold zXS; omega)) (by unfold zXS; omega)) (by unfold zXS; omega)) (by unfold zXS; omega)) ?_ (fun k hk => ?_)
            · rw [z_stS, List.length_append]
              rfl
            · rw [List.length_append] at hk
              have hk : k < (zask (zsl (zMv h) 0) i).length + 1 := hk
              have u1 : ∀ v w x y, (ai_st (ai_st (ai_st (ai_st g1 2097669 (zask (zsl (zMv h) 0) i).length v) 2097670 (zask (zsl (zMv h) 0) i).length w) 2097671 (zask (zsl (zMv h) 0) i).length x) 16388 3 y).1 2097669 k = if k = (zask (zsl (zMv h) 0) i).length then v else g.1 2097669 k := by
                intro v w x y
                rw [z_ne (by decide), z_ne (by decide), z_ne (by decide), z_st1, q3 _ (by decide)]
                by_cases e : k = (zask (zsl (zMv h) 0) i).length
                · rw [if_pos ⟨rfl, e⟩, if_pos e]
                · rw [if_neg (fun c => e c.2), if_neg e]
              have u2 : ∀ v w x y, (ai_st (ai_st (ai_st (ai_st g1 2097669 (zask (zsl (zMv h) 0) i).length v) 2097670 (zask (zsl (zMv h) 0) i).length w) 2097671 (zask (zsl (zMv h) 0) i).length x) 16388 3 y).1 2097670 k = if k = (zask (zsl (zMv h) 0) i).length then w else g.1 2097670 k := by
                intro v w x y
                rw [z_ne (by decide), z_ne (by decide), z_st1, z_ne (by decide), q3 _ (by decide)]
                by_cases e : k = (zask (zsl (zMv h) 0) i).length
                · rw [if_pos ⟨rfl, e⟩, if_pos e]
                · rw [if_neg (fun c => e c.2), if_neg e]
              have u3 : ∀ v w x y, (ai_st (ai_st (ai_st (ai_st g1 2097669 (zask (zsl (zMv h) 0) i).length v) 2097670 (zask (zsl (zMv h) 0) i).length w) 2097671 (zask (zsl (zMv h) 0) i).length x) 16388 3 y).1 2097671 k = if k = (zask (zsl (zMv h) 0) i).length then x else g.1 2097671 k := by
                intro v w x y
                rw [z_ne (by decide), z_st1, z_ne (by decide), z_ne (by decide), q3 _ (by decide)]
                by_cases e : k = (zask (zsl (zMv h) 0) i).length
                · rw [if_pos ⟨rfl, e⟩, if_pos e]
                · rw [if_neg (fun c => e c.2), if_neg e]
              rw [u1, u2, u3]
              by_cases e : k = (zask (zsl (zMv h) 0) i).length
              · subst e
                rw [z_gdr (Nat.le_refl _), Nat.sub_self, if_pos rfl, if_pos rfl, if_pos rfl]
                exact ⟨rfl, rfl, rfl⟩
              · rw [z_gdl (by omega), if_neg e, if_neg e, if_neg e]
                exact gk k (by omega)
          · rw [if_neg o2, nI_1]
            rw [if_neg (fun c => o2 c.2.2)] at ih
            exact ih g fg g3 gk
        · rw [if_neg o1, nI_1]
          rw [if_neg (fun c => o1 c.2.1)] at ih
          exact ih g fg g3 gk
  rw [T178]
  exact K _ 0 (Nat.zero_add _) (ai_st h 16388 3 0) (zF_st zF_rf (by unfold zXS; omega)) z_stS (fun k hk => absurd hk (Nat.not_lt_zero _))
