/-! THE COUNCIL: the class's way -/
theorem z_pw6 {p : Nat} (hp : p < 6) : ai_pow.getD p 0 = nI (6 ^ p) := by
  rcases (show p = 0 ∨ p = 1 ∨ p = 2 ∨ p = 3 ∨ p = 4 ∨ p = 5 by omega) with rfl | rfl | rfl | rfl | rfl | rfl <;> rfl
theorem z_p6 {p : Nat} (hp : p ≤ 6) : 6 ^ p ≤ 46656 := Nat.pow_le_pow_right (n := 6) (by decide) hp
/-- the class's table of a council -/
def zch (g : ai_H) (T m : Nat) (C : Nat → Nat) (P : Nat → Nat → Bool) : Prop := g.1 16388 0 = nI T ∧ (∀ k, k < m → g.1 2097670 k = nI (C k) ∧ g.1 2097671 k = nI (zB (fun tr => P k tr = true) T))
theorem X77 {T m : Nat} {C : Nat → Nat} {P : Nat → Nat → Bool} {V : Nat → Option Nat} (hT : T ≤ 5) (hm : m ≤ 6) (hC : ∀ k, k < m → C k ≤ 9999) : ∀ p, p ≤ m → ∀ (d : Nat) (g : ai_H) (L : Nat → Nat) (s : Nat × Nat) (sum c0 : Nat), zch g T m C P → (∀ tr, tr < T → g.1 2097672 tr = nI (L tr) ∧ L tr ≤ 99999) → g.1 16388 8 = nI s.1 → g.1 16388 9 = nI s.2 → s.1 ≤ 1073741824 → s.2 ≤ 50000 → sum + 9999 * p ≤ 60000 → c0 + 6 ^ p ≤ 50000 →
    (∀ r, r < 6 ^ p → V (c0 + r) = (zcv C P T p L r).map (sum + ·)) → ∃ h', ai_X (d + 2 + p) 77 [.inr (.inr (29, 0, 16388)), .inl (nI p - 1), .inl (nI sum), .inl (nI c0)] g = some ([], h') ∧ h'.2 = g.2 ∧ (∀ q, q ≠ 16388 → h'.1 q = g.1 q) ∧ (∀ j, j ≠ 8 → j ≠ 9 → h'.1 16388 j = g.1 16388 j) ∧ h'.1 16388 8 = nI (zfd V c0 (6 ^ p) s).1 ∧ h'.1 16388 9 = nI (zfd V c0 (6 ^ p) s).2 := by
  intro p
  induction p with
  | zero =>
    intro _ d g L s sum c0 hch hL h8 h9 l8 l9 ls lc hV
    have v0 := hV 0 (by decide)
    have e0 : zcv C P T 0 L 0 = some 0 := by
      unfold zcv
      rw [if_pos ⟨fun i hi => by omega, fun tr _ => Nat.zero_le _⟩]
      rfl
    rw [e0] at v0
    have v0 : V (c0 + 0) = some sum := by rw [v0]; rfl
    have ez : zfd V c0 (6 ^ 0) s = if sum < s.1 then (sum, c0) else s := by
      show zstp V s (c0 + 0) = _
      unfold zstp
      rw [v0]
      rfl
    rw [ez]
    rw [show d + 2 + 0 = (d + 1) + 1 from rfl, T77, h8]
    by_cases c : sum < s.1
    · rw [if_pos c, if_pos (by rw [nI_ltI (by omega) (by omega)]; exact c), if_neg (by decide)]
      refine ⟨_, rfl, rfl, fun q hq => by rw [z_ne hq, z_ne hq], fun j a b => ?_, ?_, z_stS⟩
      · rw [z_st1, if_neg (fun x => b x.2), z_st1, if_neg (fun x => a x.2)]
      · rw [z_st1, if_neg (by decide), z_stS]
    · rw [if_neg c, if_neg (by rw [nI_ltI (by omega) (by omega)]; exact c)]
      exact ⟨g, rfl, rfl, fun _ _ => rfl, fun _ _ _ => rfl, h8, h9⟩
  | succ p ih =>
    intro hpm d g L s sum c0 hch hL h8 h9 l8 l9 ls lc hV
    have ih := ih (by omega)
    have pp : 0 < 6 ^ p := Nat.pow_pos (by decide)
    have p6 := z_p6 (p := p + 1) (by omega)
    have pS : 6 ^ (p + 1) = 6 * 6 ^ p := by rw [Nat.pow_succ, Nat.mul_comm]
    rw [pS] at lc p6 hV ⊢
    have i6 : ∀ f : Nat → Option ai_R, ai_ix (nI p) 6 f = f p := fun f => z_ix (by omega) (by decide)
    obtain ⟨c1, c2⟩ := hch
    obtain ⟨c3, c4⟩ := c2 p (by omega)
    have hCp := hC p (by omega)
    rw [show d + 2 + (p + 1) = (d + 2 + p) + 1 from rfl, T77, h8]
    by_cases c : sum < s.1
    · rw [if_pos (by rw [nI_ltI (by omega) (by omega)]; exact c), nI_pred, if_pos (nI_pos' (by omega)), i6, c3, nI_add]
      -- left out of all trusts
      obtain ⟨g0, a1, a2, a3, a4, a5, a6⟩ := ih d g L s (sum + C p) c0 ⟨c1, c2⟩ hL h8 h9 l8 l9 (by omega) (by omega) (fun r hr => by
        have := hV r (by omega)
        have e := zcv_0 (C := C) (P := P) (T := T) (L := L) hr
        rw [Nat.zero_mul, Nat.zero_add] at e
        rw [this, e]
        cases zcv C P T p L r with
        | none => rfl
        | some v => exact congrArg some (Nat.add_assoc sum (C p) v).symm)
      rw [a1]
      simp only [z_bv]
      -- the trusts one by one
      have K : ∀ k i, i + k = T → ∀ g' s', s' = zfd V c0 ((i + 1) * 6 ^ p) s → g'.2 = g.2 → (∀ q, q ≠ 16388 → g'.1 q = g.1 q) → (∀ j, j ≠ 8 → j ≠ 9 → g'.1 16388 j = g.1 16388 j) → g'.1 16388 8 = nI s'.1 → g'.1 16388 9 = nI s'.2 → s'.1 ≤ 1073741824 → s'.2 ≤ 50000 → ∃ h', ai_E (d + 2 + p) 77 47 [some (.inr (.inr (29, 0, 16388))), some (.inl (nI p)), some (.inl (nI sum)), some (.inl (nI c0)), some (.inl (nI (C p))), some (.inl (nI i))] [] g' = some ([], h') ∧ h'.2 = g.2 ∧ (∀ q, q ≠ 16388 → h'.1 q = g.1 q) ∧ (∀ j, j ≠ 8 → j ≠ 9 → h'.1 16388 j = g.1 16388 j) ∧ h'.1 16388 8 = nI (zfd V c0 (6 * 6 ^ p) s).1 ∧ h'.1 16388 9 = nI (zfd V c0 (6 * 6 ^ p) s).2 := by
        intro k
        induction k with
        | zero =>
          intro i hi g' s' es g2 fg fj f8 f9 w8 w9
          have hi : i = T := by omega
          subst hi
          have gT : g'.1 16388 0 = nI i := by rw [fj 0 (by decide) (by decide)]; exact c1
          have eT : zfd V c0 (6 * 6 ^ p) s = s' := by
            obtain ⟨u, hu⟩ : ∃ u, 6 = (i + 1) + u := ⟨6 - (i + 1), by omega⟩
            have e6 : 6 * 6 ^ p = (i + 1) * 6 ^ p + u * 6 ^ p := by rw [← Nat.add_mul, ← hu]
            rw [e6, zfd_add, ← es]
            refine zfd_no fun j hj v ev => ?_
            have hj2 : (i + 1) * 6 ^ p + j < 6 * 6 ^ p := by omega
            rw [Nat.add_assoc, hV _ hj2] at ev
            obtain ⟨w, r', hr', hj'⟩ : ∃ w r', r' < 6 ^ p ∧ j = w * 6 ^ p + r' := ⟨j / 6 ^ p, j % 6 ^ p, Nat.mod_lt _ pp, by rw [Nat.mul_comm]; exact (Nat.div_add_mod j (6 ^ p)).symm⟩
            have hw : w < u := Nat.lt_of_mul_lt_mul_right (a := 6 ^ p) (by omega)
            have hd : (i + 1) * 6 ^ p + j = ((i + w) + 1) * 6 ^ p + r' := by
              rw [show i + w + 1 = (i + 1) + w by omega, Nat.add_mul (i + 1) w, hj']
              omega
            rw [hd, zcv_S hr' (by omega), if_neg (fun x => by have := x.1; omega)] at ev
            cases ev
          rw [eT]
          refine ⟨g', ?_, g2, fg, fj, f8, f9⟩
          rw [T77_47, gT, if_pos (by rw [z_le]; omega)]
        | succ k ihk =>
          intro i hi g' s' es g2 fg fj f8 f9 w8 w9
          have gT : g'.1 16388 0 = nI T := by rw [fj 0 (by decide) (by decide)]; exact c1
          have i5 : ∀ f : Nat → Option ai_R, ai_ix (nI i) 5 f = f i := fun f => z_ix (by omega) (by decide)
          have e4 : g'.1 2097671 p = nI (zB (fun tr => P p tr = true) T) := by rw [fg _ (by decide)]; exact c4
          obtain ⟨e5, e6⟩ := hL i (by omega)
          have e7 : g'.1 2097672 i = nI (L i) := by rw [fg _ (by decide)]; exact e5
          have blk : (i + 1 + 1) * 6 ^ p = (i + 1) * 6 ^ p + 6 ^ p := Nat.succ_mul _ _
          have blk2 : (i + 1) * 6 ^ p + 6 ^ p ≤ 6 * 6 ^ p := by rw [← blk]; exact Nat.mul_le_mul_right _ (by omega)
          -- nothing of this trust's
          have Skip : ¬ (P p i = true ∧ C p ≤ L i) → ∃ h', ai_E (d + 2 + p) 77 47 [some (.inr (.inr (29, 0, 16388))), some (.inl (nI p)), some (.inl (nI sum)), some (.inl (nI c0)), some (.inl (nI (C p))), some (.inl (nI (i + 1)))] [] g' = some ([], h') ∧ h'.2 = g.2 ∧ (∀ q, q ≠ 16388 → h'.1 q = g.1 q) ∧ (∀ j, j ≠ 8 → j ≠ 9 → h'.1 16388 j = g.1 16388 j) ∧ h'.1 16388 8 = nI (zfd V c0 (6 * 6 ^ p) s).1 ∧ h'.1 16388 9 = nI (zfd V c0 (6 * 6 ^ p) s).2 := by
            intro hno
            refine ihk (i + 1) (by omega) g' s' ?_ g2 fg fj f8 f9 w8 w9
            rw [blk, zfd_add, ← es]
            refine (zfd_no fun j hj v ev => ?_).symm
            rw [Nat.add_assoc, hV _ (by omega), zcv_S hj (by omega), if_neg (fun x => hno x.2)] at ev
            cases ev
          have hx : ai_X (d + 2 + p) 159 [.inl (nI (zB (fun tr => P p tr = true) T)), .inl (nI i)] g' = some ([.inl (zb (P p i = true))], g') := by
            rw [show d + 2 + p = (d + 1 + p) + 1 by omega]
            exact X159B _ _ (by omega) (by omega)
          rw [T77_47, gT, if_neg (by rw [nI_leI (by omega) (by omega)]; omega), i6, e4, hx]
          simp only [z_bi, zb_0, nI_1, i5, e7, i6]
          by_cases q1 : P p i = true
          · rw [if_neg (fun x => x q1)]
            by_cases q2 : L i < C p
            · rw [if_pos (by rw [nI_ltI (by omega) (by omega)]; exact q2)]
              exact Skip (fun x => by omega)
            · rw [if_neg (by rw [nI_ltI (by omega) (by omega)]; exact q2), pk_sub (by omega), z_pw6 (by omega), pk_mul, nI_add]
              generalize hg2 : ai_st g' 2097672 i (nI (L i - C p)) = g2'
              have x1 : ∀ q, q ≠ 2097672 → g2'.1 q = g'.1 q := fun q hq => by rw [← hg2, z_ne hq]
              have hch2 : zch g2' T m C P := ⟨by rw [x1 _ (by decide)]; exact gT, fun k hk => by rw [x1 _ (by decide), x1 _ (by decide), fg _ (by decide), fg _ (by decide)]; exact c2 k hk⟩
              have cc : c0 + (i + 1) * 6 ^ p + 6 ^ p ≤ 50000 := by omega
              obtain ⟨h8', b1, b2, b3, b4, b5, b6⟩ := ih d g2' (zupN L i (L i - C p)) s' sum (c0 + (i + 1) * 6 ^ p) hch2 (fun tr htr => by
                unfold zupN
                rw [← hg2, z_st1]
                by_cases e : tr = i
                · rw [if_pos ⟨rfl, e⟩, if_pos e]
                  exact ⟨rfl, by omega⟩
                · rw [if_neg (fun x => e x.2), if_neg e, fg _ (by decide)]
                  exact hL tr htr) (by rw [x1 _ (by decide)]; exact f8) (by rw [x1 _ (by decide)]; exact f9) w8 w9 (by omega) cc (fun r hr => by
                rw [Nat.add_assoc, hV _ (by omega), zcv_S hr (by omega), if_pos ⟨by omega, q1, by omega⟩])
              rw [b1]
              simp only [z_bv]
              have x2 : h8'.1 2097672 i = nI (L i - C p) := by rw [b3 _ (by decide), ← hg2, z_stS]
              rw [x2, nI_add, show L i - C p + C p = L i by omega]
              have es2 : zfd V (c0 + (i + 1) * 6 ^ p) (6 ^ p) s' = zfd V c0 ((i + 1 + 1) * 6 ^ p) s := by rw [blk, zfd_add, ← es]
              rw [es2] at b5 b6
              have bnd := zfd_is (V := V) (a := c0) (s := s) (n := (i + 1 + 1) * 6 ^ p)
              refine ihk (i + 1) (by omega) _ (zfd V c0 ((i + 1 + 1) * 6 ^ p) s) rfl (by show h8'.2 = g.2; rw [b2, ← hg2]; exact g2) (fun q hq => ?_) (fun j j1 j2 => ?_) ?_ ?_ ?_ ?_
              · by_cases e : q = 2097672
                · subst e
                  funext j
                  rw [z_st1]
                  by_cases e2 : j = i
                  · rw [if_pos ⟨rfl, e2⟩, e2, e5]
                  · rw [if_neg (fun x => e2 x.2), b3 _ (by decide), ← hg2, z_st1, if_neg (fun x => e2 x.2), fg _ (by decide)]
                · rw [z_ne e, b3 _ hq, x1 _ e, fg _ hq]
              · rw [z_ne (by decide), b4 j j1 j2, x1 _ (by decide), fj j j1 j2]
              · rw [z_ne (by decide)]; exact b5
              · rw [z_ne (by decide)]; exact b6
              · rcases bnd with e | ⟨i', u1, u2, u3⟩
                · rw [e]; exact l8
                · rw [hV _ (by omega)] at u3
                  cases e : zcv C P T (p + 1) L i' with
                  | none => rw [e] at u3; cases u3
                  | some v =>
                    rw [e] at u3
                    have u3 : sum + v = (zfd V c0 ((i + 1 + 1) * 6 ^ p) s).1 := Option.some.inj u3
                    unfold zcv at e
                    split at e
                    · have e := Option.some.inj e
                      have := zcw_le (C := C) (c := i') (B := 9999) (k := p + 1) (fun j hj => hC j (by omega))
                      omega
                    · cases e
              · rcases bnd with e | ⟨i', u1, u2, u3⟩
                · rw [e]; exact l9
                · rw [u2]; omega
          · rw [if_pos q1]
            exact Skip (fun x => q1 x.1)
      have e1 : zfd V c0 (6 ^ p) s = zfd V c0 ((0 + 1) * 6 ^ p) s := by rw [Nat.zero_add, Nat.one_mul]
      have bnd := zfd_is (V := V) (a := c0) (s := s) (n := 6 ^ p)
      refine K T 0 (by omega) g0 (zfd V c0 (6 ^ p) s) e1 a2 a3 a4 a5 a6 ?_ ?_
      · rcases bnd with e | ⟨i', u1, u2, u3⟩
        · rw [e]; exact l8
        · rw [hV _ (by omega)] at u3
          cases e : zcv C P T (p + 1) L i' with
          | none => rw [e] at u3; cases u3
          | some v =>
            rw [e] at u3
            have u3 : sum + v = (zfd V c0 (6 ^ p) s).1 := Option.some.inj u3
            unfold zcv at e
            split at e
            · have e := Option.some.inj e
              have := zcw_le (C := C) (c := i') (B := 9999) (k := p + 1) (fun j hj => hC j (by omega))
              omega
            · cases e
      · rcases bnd with e | ⟨i', u1, u2, u3⟩
        · rw [e]; exact l9
        · rw [u2]; omega
    · rw [if_neg (by rw [nI_ltI (by omega) (by omega)]; exact c)]
      have eT : zfd V c0 (6 * 6 ^ p) s = s := zfd_no fun i hi v ev => by
        rw [hV i hi] at ev
        cases e : zcv C P T (p + 1) L i with
        | none => rw [e] at ev; cases ev
        | some w =>
          rw [e] at ev
          have : sum + w = v := Option.some.inj ev
          omega
      rw [eT]
      exact ⟨g, rfl, rfl, fun _ _ => rfl, fun _ _ _ => rfl, h8, h9⟩
