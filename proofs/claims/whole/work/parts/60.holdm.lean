/-! THE LAW: does a condition hold, the reference's way -/
def zpile (g : ai_H) (S : List Bool) : Prop := ∀ i, i < S.length → g.1 2064447 i = zb (S.getD (S.length - 1 - i) false = true)
theorem zpile_p {g : ai_H} {S : List Bool} {b : Bool} (h : zpile g S) : zpile (ai_st g 2064447 S.length (zb (b = true))) (b :: S) := by
  intro i hi
  have hi : i < S.length + 1 := hi
  show (ai_st g 2064447 S.length (zb (b = true))).1 2064447 i = zb ((b :: S).getD (S.length + 1 - 1 - i) false = true)
  rw [z_st1]
  by_cases c : i = S.length
  · rw [if_pos ⟨rfl, c⟩, show S.length + 1 - 1 - i = 0 by omega]
    rfl
  · rw [if_neg (fun q => c q.2), h i (by omega), show S.length + 1 - 1 - i = (S.length - 1 - i) + 1 by omega]
    rfl
theorem zpile_t {g : ai_H} {S : List Bool} {b : Bool} (h : zpile g (b :: S)) : g.1 2064447 S.length = zb (b = true) ∧ zpile g S := by
  refine ⟨?_, fun i hi => ?_⟩
  · have := h S.length (by show S.length < S.length + 1; omega)
    have e : (b :: S).length - 1 - S.length = 0 := by show S.length + 1 - 1 - S.length = 0; omega
    rw [e] at this
    exact this
  · have := h i (by show i < S.length + 1; omega)
    have e : (b :: S).length - 1 - i = (S.length - 1 - i) + 1 := by show S.length + 1 - 1 - i = _; omega
    rw [e] at this
    exact this
theorem z_nb0 : vp_nar .boolean 0 = 0 := by decide
theorem z_nb1 : vp_nar .boolean 1 = 1 := by decide
theorem M242 {h : ai_H} {x q m n : Nat} (d : Nat) (hx : x < 168) (h0 : h.1 2064425 x = nI q) (h1 : h.1 2064426 x = nI (q + m)) (hq : q + m ≤ 20000)
    (hb : ∀ j, j < m → zi ((zMv h).1 43 (q + j)) 0 3 ∧ zi ((zMv h).1 44 (q + j)) 0 5 ∧ zi ((zMv h).1 45 (q + j)) 0 62 ∧ zi ((zMv h).1 46 (q + j)) 0 99999) (hd : zdep (zMv h) q m = some n) (hn : n ≤ 1) :
    ∃ h', ai_X (d + 1) 242 [.inr (.inr (32, 0, 16128)), .inl (nI x)] h = some ([.inl (zb (zsay (zev (zMv h) (h.1 2064446) q m) = true))], h') ∧ zF zMS h h' ∧ ∀ c, c ≠ 2064447 → h'.1 c = h.1 c := by
  have ixx : ∀ f : Nat → Option ai_R, ai_ix (nI x) 168 f = f x := fun f => z_ix hx (by decide)
  have K : ∀ k j, j + k = m → ∀ g, zF zMS h g → (∀ c, c ≠ 2064447 → g.1 c = h.1 c) → zpile g (zev (zMv h) (h.1 2064446) q j) → ∀ z4, ∃ h', ai_E d 242 9 [some (.inr (.inr (32, 0, 16128))), some (.inl (nI x)), some (.inl (nI (zev (zMv h) (h.1 2064446) q j).length)), some (.inl (nI (q + j))), z4] [] g = some ([.inl (zb (zsay (zev (zMv h) (h.1 2064446) q m) = true))], h') ∧ zF zMS h h' ∧ ∀ c, c ≠ 2064447 → h'.1 c = h.1 c := by
    intro k
    induction k with
    | zero =>
      intro j hj g fg cg pg z4
      have hj : j = m := by omega
      subst hj
      obtain ⟨i1, i2⟩ := zdep_ev (F := h.1 2064446) j n hd
      refine ⟨g, ?_, fg, cg⟩
      rw [T242_9, ixx, cg 2064426 (by decide), h1, if_pos (by rw [z_le]; omega)]
      generalize zev (zMv h) (h.1 2064446) q j = S at *
      cases S with
      | nil =>
        rw [if_pos (show nI (([] : List Bool).length) = 0 from rfl), z_b1]
        rfl
      | cons b s =>
        have e1 : s = [] := by
          have : s.length + 1 = n := i1
          exact List.eq_nil_of_length_eq_zero (by omega)
        subst e1
        rw [if_neg (show ¬ nI ([b].length) = 0 by show ¬ nI 1 = 0; decide), z_i0 (by decide) (by decide), show g.1 2064447 0 = zb (b = true) from (zpile_t pg).1, z_b0, z_b1]
        cases b with
        | false => rw [if_pos (by decide)]; rfl
        | true => rw [if_neg (by decide)]; rfl
    | succ k ih =>
      intro j hj g fg cg pg z4
      have ih := ih (j + 1) (by omega)
      obtain ⟨v1, v2, v3, v4⟩ := hb j (by omega)
      have e43 : g.1 2064428 (q + j) = (zMv h).1 43 (q + j) := by rw [cg 2064428 (by decide)]; exact (zMv1 (f := 43) (by omega)).symm
      have e44 : g.1 2064429 (q + j) = (zMv h).1 44 (q + j) := by rw [cg 2064429 (by decide)]; exact (zMv1 (f := 44) (by omega)).symm
      have e45 : g.1 2064430 (q + j) = (zMv h).1 45 (q + j) := by rw [cg 2064430 (by decide)]; exact (zMv1 (f := 45) (by omega)).symm
      have e46 : g.1 2064431 (q + j) = (zMv h).1 46 (q + j) := by rw [cg 2064431 (by decide)]; exact (zMv1 (f := 46) (by omega)).symm
      have ix : ∀ f : Nat → Option ai_R, ai_ix (nI (q + j)) 20000 f = f (q + j) := fun f => z_ix (by omega) (by omega)
      have hdn : zdep (zMv h) q m ≠ none := by rw [hd]; intro c; cases c
      have st : ∀ i v, zF zMS h (ai_st g 2064447 i v) ∧ ∀ c, c ≠ 2064447 → (ai_st g 2064447 i v).1 c = h.1 c := fun i v => ⟨zF_st fg (Or.inr ⟨by omega, by omega, by omega⟩), fun c hc => by funext i2; rw [z_st1, if_neg (fun x => hc x.1), cg c hc]⟩
      cases e : zdep (zMv h) q j with
      | none => exact absurd e (zdep_le (by omega) hdn)
      | some n =>
        obtain ⟨i1, i2⟩ := zdep_ev (F := h.1 2064446) j n e
        have dn := zdep_le (show j + 1 ≤ m by omega) hdn
        unfold zdep at dn
        rw [e] at dn
        dsimp only at dn
        have eq1 : q + j + 1 = q + (j + 1) := by omega
        have ev : zev (zMv h) (h.1 2064446) q (j + 1) = (if (zMv h).1 43 (q + j) = 0 then zcond (h.1 2064446 ((zMv h).1 44 (q + j)).toInt.toNat) (zop ((zMv h).1 45 (q + j))) ((zMv h).1 46 (q + j)).toInt.toNat :: zev (zMv h) (h.1 2064446) q j
          else if (zMv h).1 43 (q + j) = 1 then (match zev (zMv h) (h.1 2064446) q j with | b :: s => (!b) :: s | [] => [])
          else if (zMv h).1 43 (q + j) = 2 then (match zev (zMv h) (h.1 2064446) q j with | b :: c :: s => (c && b) :: s | s => s)
          else (match zev (zMv h) (h.1 2064446) q j with | b :: c :: s => (c || b) :: s | s => s)) := rfl
        rw [ev] at ih
        generalize zev (zMv h) (h.1 2064446) q j = S at *
        rw [T242_9, ixx, cg 2064426 (by decide), h1, if_neg (by rw [nI_leI (by omega) (by omega)]; omega)]
        simp only [ix, e43, e44, e45, e46, cg 2064446 (by decide), z_nb0, z_nb1, nI_1, eq1]
        by_cases c0 : (zMv h).1 43 (q + j) = 0
        · rw [if_pos c0] at ih dn
          unfold zi at v2 v3 v4
          have ef : (zMv h).1 44 (q + j) = nI ((zMv h).1 44 (q + j)).toInt.toNat := z_nat v2.1
          have ew : (zMv h).1 46 (q + j) = nI ((zMv h).1 46 (q + j)).toInt.toNat := z_nat v4.1
          have ifx : ∀ f : Nat → Option ai_R, ai_ix ((zMv h).1 44 (q + j)) 6 f = f ((zMv h).1 44 (q + j)).toInt.toNat := fun f => by
            rw [ef, z_T (by omega)]
            exact z_ix (by omega) (by decide)
          have isx : ∀ f : Nat → Option ai_R, ai_ix (nI S.length) 300 f = f S.length := fun f => z_ix (by omega) (by decide)
          simp only [ifx, isx]
          rw [if_pos c0]
          generalize hF : h.1 2064446 ((zMv h).1 44 (q + j)).toInt.toNat = F at *
          have fin : ∀ (z : Int32) (b : Bool) z4, zcond F (zop ((zMv h).1 45 (q + j))) ((zMv h).1 46 (q + j)).toInt.toNat = b → z = zb (b = true) → ∃ h', ai_E d 242 9 [some (.inr (.inr (32, 0, 16128))), some (.inl (nI x)), some (.inl (nI (S.length + 1))), some (.inl (nI (q + (j + 1)))), z4] [] (ai_st g 2064447 S.length z) = some ([.inl (zb (zsay (zev (zMv h) (h.1 2064446) q m) = true))], h') ∧ zF zMS h h' ∧ ∀ c, c ≠ 2064447 → h'.1 c = h.1 c := by
            intro z b z4 hz ez
            rw [hz] at ih
            subst ez
            exact ih _ (st _ _).1 (st _ _).2 (zpile_p pg) z4
          by_cases c60 : (zMv h).1 45 (q + j) = 60
          · rw [if_pos c60]
            have eo : zop ((zMv h).1 45 (q + j)) = 0 := by unfold zop; rw [if_pos c60]
            by_cases g1 : (zMv h).1 46 (q + j) ≤ F
            · rw [if_pos g1]
              refine fin 0 false _ ?_ rfl
              unfold zcond
              rw [eo, if_pos rfl, ← ew]
              exact decide_eq_false (by rw [z_lt]; rw [z_le] at g1; omega)
            · rw [if_neg g1]
              refine fin 1 true _ ?_ rfl
              unfold zcond
              rw [eo, if_pos rfl, ← ew]
              exact decide_eq_true (by rw [z_lt]; rw [z_le] at g1; omega)
          · rw [if_neg c60]
            by_cases c62 : (zMv h).1 45 (q + j) = 62
            · rw [if_pos c62]
              have eo : zop ((zMv h).1 45 (q + j)) = 1 := by unfold zop; rw [if_neg c60, if_pos c62]
              by_cases g1 : F ≤ (zMv h).1 46 (q + j)
              · rw [if_pos g1]
                refine fin 0 false _ ?_ rfl
                unfold zcond
                rw [eo, if_neg (by decide), if_pos rfl, ← ew]
                exact decide_eq_false (by rw [z_lt]; rw [z_le] at g1; omega)
              · rw [if_neg g1]
                refine fin 1 true _ ?_ rfl
                unfold zcond
                rw [eo, if_neg (by decide), if_pos rfl, ← ew]
                exact decide_eq_true (by rw [z_lt]; rw [z_le] at g1; omega)
            · rw [if_neg c62]
              have eo : zop ((zMv h).1 45 (q + j)) = 2 := by unfold zop; rw [if_neg c60, if_neg c62]
              by_cases g1 : F = (zMv h).1 46 (q + j)
              · rw [if_pos g1]
                refine fin 1 true _ ?_ rfl
                unfold zcond
                rw [eo, if_neg (by decide), if_neg (by decide), ← ew]
                exact decide_eq_true g1
              · rw [if_neg g1]
                refine fin 0 false _ ?_ rfl
                unfold zcond
                rw [eo, if_neg (by decide), if_neg (by decide), ← ew]
                exact decide_eq_false g1
        · rw [if_neg c0] at ih dn
          rw [if_neg c0, T242_129, ix, e43]
          by_cases c1 : (zMv h).1 43 (q + j) = 1
          · rw [if_pos c1] at ih dn
            rw [if_pos c1]
            cases S with
            | nil =>
              have : n = 0 := i1.symm
              rw [this] at dn
              exact absurd rfl dn
            | cons b s =>
              have i1 : s.length + 1 = n := i1
              have el : nI ((b :: s).length) - 1 = nI s.length := nI_pred _
              have isx : ∀ f : Nat → Option ai_R, ai_ix (nI s.length) 300 f = f s.length := fun f => z_ix (by omega) (by decide)
              obtain ⟨p1, p2⟩ := zpile_t pg
              simp only [el, isx, p1, z_nb0, z_nb1, nI_1, eq1, zb_0]
              cases b with
              | false =>
                rw [if_pos (by decide)]
                exact ih _ (st _ _).1 (st _ _).2 (zpile_p (b := true) p2) _
              | true =>
                rw [if_neg (by decide)]
                exact ih _ (st _ _).1 (st _ _).2 (zpile_p (b := false) p2) _
          · rw [if_neg c1] at ih dn
            rw [if_neg c1, T242_166, ix, e43]
            cases S with
            | nil =>
              have : n = 0 := i1.symm
              rw [this] at dn
              exact absurd rfl dn
            | cons b s =>
              cases s with
              | nil =>
                have : n = 1 := i1.symm
                rw [this] at dn
                exact absurd rfl dn
              | cons c s =>
                have i1 : s.length + 1 + 1 = n := i1
                have el1 : nI ((b :: c :: s).length) + (-1) = nI (s.length + 1) := pk_m1 _
                have el2 : nI (s.length + 1) - 1 = nI s.length := nI_pred _
                have isx : ∀ f : Nat → Option ai_R, ai_ix (nI s.length) 300 f = f s.length := fun f => z_ix (by omega) (by decide)
                have isy : ∀ f : Nat → Option ai_R, ai_ix (nI (s.length + 1)) 300 f = f (s.length + 1) := fun f => z_ix (by omega) (by decide)
                obtain ⟨p1, p2⟩ := zpile_t pg
                have p1 : g.1 2064447 (s.length + 1) = zb (b = true) := p1
                obtain ⟨p3, p4⟩ := zpile_t p2
                rw [el1, el2]
                by_cases c2 : (zMv h).1 43 (q + j) = 2
                · rw [if_pos c2] at ih
                  rw [if_pos c2, T242_186, el2]
                  simp only [isx, isy, p1, p3, z_nb0, z_nb1, nI_1, eq1, zb_0]
                  cases c with
                  | false =>
                    rw [if_pos (by decide)]
                    exact ih _ (st _ _).1 (st _ _).2 (zpile_p (b := false) p4) _
                  | true =>
                    rw [if_neg (by decide)]
                    cases b with
                    | false =>
                      rw [if_pos (by decide)]
                      exact ih _ (st _ _).1 (st _ _).2 (zpile_p (b := false) p4) _
                    | true =>
                      rw [if_neg (by decide)]
                      exact ih _ (st _ _).1 (st _ _).2 (zpile_p (b := true) p4) _
                · rw [if_neg c2] at ih
                  rw [if_neg c2, T242_214, el2]
                  simp only [isx, isy, p1, p3, z_nb0, z_nb1, nI_1, eq1, zb_0]
                  cases c with
                  | false =>
                    rw [if_pos (by decide)]
                    cases b with
                    | false =>
                      rw [if_pos (by decide)]
                      exact ih _ (st _ _).1 (st _ _).2 (zpile_p (b := false) p4) _
                    | true =>
                      rw [if_neg (by decide)]
                      exact ih _ (st _ _).1 (st _ _).2 (zpile_p (b := true) p4) _
                  | true =>
                    rw [if_neg (by decide)]
                    exact ih _ (st _ _).1 (st _ _).2 (zpile_p (b := true) p4) _
  obtain ⟨h', a1, a2, a3⟩ := K m 0 (by omega) h zF_rf (fun _ _ => rfl) (fun i hi => absurd hi (Nat.not_lt_zero _)) none
  refine ⟨h', ?_, a2, a3⟩
  rw [T242, ixx, h0]
  exact a1
