/-! NAMES REMEMBERED: the reference's -/
def zga7 (g : ai_H) (D : Nat) (G : Nat → Option Nat) : Prop := ∀ e, e < D → g.1 2064453 e = zmt (G e)
def zgb7 (g : ai_H) (D : Nat) (B : Nat → Option Nat) : Prop := ∀ e, e < D → g.1 2064454 e = zmt (B e)
def zgl7 (g : ai_H) (n : Nat) (ln : Nat → Nat) : Prop := ∀ j, j < n → g.1 2064455 j = nI (ln j)
theorem zmt_e {o : Option Nat} {y : Nat} (hy : y < 30000) (ho : ∀ z, o = some z → z < 30000) : zmt o = nI y ↔ o = some y := by
  cases o with
  | none =>
    refine ⟨fun q => ?_, (fun q => by cases q)⟩
    have q : (-1 : Int32) = nI y := q
    rw [z_eq, z_T (by omega)] at q
    simp only [zlm1] at q
    omega
  | some z =>
    have := ho z rfl
    show nI z = nI y ↔ _
    rw [nI_eq (by omega) (by omega)]
    exact ⟨fun q => by rw [q], fun q => Option.some.inj q⟩
theorem zmt_p {o : Option Nat} (ho : ∀ z, o = some z → z < 30000) : 0 ≤ zmt o ↔ ¬ o = none := by
  cases o with
  | none => exact ⟨fun q => absurd q (by decide), fun q => absurd rfl q⟩
  | some z =>
    have := ho z rfl
    refine ⟨(fun _ q => by cases q), fun _ => ?_⟩
    show 0 ≤ nI z
    rw [z_le, z_T (by omega)]
    simp only [zl0]
    omega
/-- who came to a line, and by whom -/
def zbi7 (M : Nat → Option Nat) (F : Nat → Nat → Bool) (D o x : Nat) (B : Nat → Option Nat) (ln : Nat → Nat) (n : Nat) : Prop :=
  (∀ j, j < n → ln j < D ∧ ¬ ln j = o ∧ ∃ y, B (ln j) = some y ∧ y < 24 ∧ F y (ln j) = true ∧ (y = x ∨ ∃ i, i < j ∧ M (ln i) = some y)) ∧
  (∀ e, e < D → (¬ B e = none ↔ ∃ j, j < n ∧ ln j = e)) ∧ (∀ i j, i < n → j < n → ln i = ln j → i = j) ∧ n = zcnt (fun e => (B e).isSome = true) D
def zlx (ln : Nat → Nat) (n e : Nat) : Nat → Nat := fun j => if j = n then e else ln j
theorem zlx_n {ln : Nat → Nat} {n e : Nat} : zlx ln n e n = e := if_pos rfl
theorem zlx_o {ln : Nat → Nat} {n e j : Nat} (h : ¬ j = n) : zlx ln n e j = ln j := if_neg h
theorem zbi7_s {M : Nat → Option Nat} {F : Nat → Nat → Bool} {D o x n e y : Nat} {B : Nat → Option Nat} {ln : Nat → Nat} (h : zbi7 M F D o x B ln n) (he : e < D) (ho : ¬ e = o) (hB : B e = none) (hy : y < 24) (hF : F y e = true) (hp : y = x ∨ ∃ i, i < n ∧ M (ln i) = some y) : n < D ∧ zbi7 M F D o x (zpt B e y) (zlx ln n e) (n + 1) := by
  obtain ⟨h1, h2, h3, h4⟩ := h
  have hcnt : zcnt (fun q => (zpt B e y q).isSome = true) D = zcnt (fun q => (B q).isSome = true) D + 1 := zcnt_ins (a := e) (by rw [hB]; exact Bool.false_ne_true) he fun q _ => by
    by_cases c : q = e
    · subst c; rw [zpt_s]; exact ⟨fun _ => Or.inl rfl, fun _ => rfl⟩
    · rw [zpt_o c]; exact ⟨Or.inr, fun w => w.resolve_left c⟩
  have hle := zcnt_le (p := fun q => (zpt B e y q).isSome = true) D
  have hne : ∀ j, j < n → ¬ ln j = e := fun j hj q => (h2 e he).mpr ⟨j, hj, q⟩ hB
  refine ⟨by omega, fun j hj => ?_, fun q hq => ?_, fun i j hi hj q => ?_, by omega⟩
  · by_cases c : j = n
    · subst c
      rw [zlx_n]
      refine ⟨he, ho, y, zpt_s, hy, hF, hp.imp id fun ⟨i, i1, i2⟩ => ⟨i, i1, by rw [zlx_o (by omega)]; exact i2⟩⟩
    · rw [zlx_o c]
      obtain ⟨a, b, z, z1, z2, z3, z4⟩ := h1 j (by omega)
      exact ⟨a, b, z, by rw [zpt_o (hne j (by omega))]; exact z1, z2, z3, z4.imp id fun ⟨i, i1, i2⟩ => ⟨i, i1, by rw [zlx_o (by omega)]; exact i2⟩⟩
  · by_cases c : q = e
    · subst c
      rw [zpt_s]
      exact ⟨fun _ => ⟨n, Nat.lt_succ_self _, zlx_n⟩, (fun _ w => by cases w)⟩
    · rw [zpt_o c, h2 q hq]
      constructor
      · rintro ⟨j, j1, j2⟩
        exact ⟨j, by omega, by rw [zlx_o (by omega)]; exact j2⟩
      · rintro ⟨j, j1, j2⟩
        by_cases cj : j = n
        · rw [cj, zlx_n] at j2; exact absurd j2.symm c
        · rw [zlx_o cj] at j2; exact ⟨j, by omega, j2⟩
  · by_cases c1 : i = n
    · by_cases c2 : j = n
      · omega
      · rw [c1, zlx_n, zlx_o c2] at q
        exact absurd q.symm (hne j (by omega))
    · by_cases c2 : j = n
      · rw [c2, zlx_n, zlx_o c1] at q
        exact absurd q (hne i (by omega))
      · rw [zlx_o c1, zlx_o c2] at q
        exact h3 i j (by omega) (by omega) q
/-- what may be handed -/
def zgv (F : Nat → Nat → Bool) (D o tap : Nat) (G : Nat → Option Nat) : Prop := G o = some tap ∧ ∀ e y, G e = some y → e < D ∧ y < 24 ∧ (¬ e = o → F y e = true)
def zQ7 (q _j : Nat) : Prop := q = 2064453
theorem M253 {M : Nat → Option Nat} {F : Nat → Nat → Bool} {D o x tap n : Nat} {B : Nat → Option Nat} {ln : Nat → Nat} {I : Nat → Prop} (d : Nat) (hD : D ≤ 20) (hx : x < 24) (hb : zbi7 M F D o x B ln n) (hMi : ∀ a b y, M a = some y → M b = some y → a = b) (hIx : ¬ I x) (z1 : Option ai_V) : ∀ j, j < n → ∀ (g : ai_H) (G : Nat → Option Nat) z4 z5 z6, g.1 16128 34 = nI D → zga7 g D G → zgb7 g D B → (∀ i, i ≤ j → G (ln i) = M (ln i)) → (∀ a b y, ¬ a = ln j → ¬ b = ln j → G a = some y → G b = some y → a = b) → (∀ y, (∃ e, ¬ e = ln j ∧ G e = some y) ↔ I y) → zgv F D o tap G → ∃ g' G', ai_E d 253 2 [some (.inr (.inr (32, 0, 16128))), z1, some (.inl (nI x)), some (.inl (nI (ln j))), z4, z5, z6] [] g = some ([], g') ∧ zF zQ7 g g' ∧ zga7 g' D G' ∧ (∀ a b y, G' a = some y → G' b = some y → a = b) ∧ (∀ y, (∃ e, G' e = some y) ↔ (I y ∨ y = x)) ∧ zgv F D o tap G' := by
  intro j
  induction j using Nat.strongRecOn with
  | ind j ih =>
    intro hj g G z4 z5 z6 g34 gG gB hgM hgi hgI hgv
    obtain ⟨a1, a2, y, y1, y2, y3, y4⟩ := hb.1 j hj
    have iz : ∀ f : Nat → Option ai_R, ai_ix (nI (ln j)) 20 f = f (ln j) := fun f => z_ix (by omega) (by decide)
    have eB : g.1 2064454 (ln j) = nI y := by rw [gB _ a1, y1]; rfl
    -- who has it
    have K : ∀ q e, e + q = D → ∀ hd : Int32, (∀ e0, (∀ e, e < D → (G e = some y ↔ e = e0)) → e0 < e → hd = nI e0) → ∃ hd' : Int32, ai_E d 253 16 [some (.inr (.inr (32, 0, 16128))), z1, some (.inl (nI x)), some (.inl (nI (ln j))), some (.inl (nI y)), some (.inl hd), some (.inl (nI e))] [] g = (if nI y = nI x then some ([], (ai_st g 2064453 (ln j) (nI y))) else ai_E d 253 2 [some (.inr (.inr (32, 0, 16128))), z1, some (.inl (nI x)), some (.inl hd'), some (.inl (nI y)), some (.inl hd'), some (.inl (nI D))] [] (ai_st g 2064453 (ln j) (nI y))) ∧ ∀ e0, (∀ e, e < D → (G e = some y ↔ e = e0)) → e0 < D → hd' = nI e0 := by
      intro q
      induction q with
      | zero =>
        intro e he hd hh
        have he : e = D := by omega
        subst he
        refine ⟨hd, ?_, hh⟩
        rw [T253_16, g34, if_pos (by rw [z_le]; omega), iz]
      | succ q iq =>
        intro e he hd hh
        have ie : ∀ f : Nat → Option ai_R, ai_ix (nI e) 20 f = f e := fun f => z_ix (by omega) (by decide)
        have ez : zmt (G e) = nI y ↔ G e = some y := zmt_e (by omega) fun z hz => by have := (hgv.2 e z hz).2.1; omega
        rw [T253_16, g34, if_neg (by rw [nI_leI (by omega) (by omega)]; omega), ie, gG e (by omega), nI_1]
        by_cases c : G e = some y
        · rw [if_pos (ez.mpr c)]
          exact iq (e + 1) (by omega) (nI e) fun e0 h1 h2 => by rw [(h1 e (by omega)).mp c]
        · rw [if_neg (fun q => c (ez.mp q))]
          refine iq (e + 1) (by omega) hd fun e0 h1 h2 => hh e0 h1 ?_
          rcases Nat.lt_or_ge e0 e with w | w
          · exact w
          · have : e0 = e := by omega
            subst this
            exact absurd ((h1 e0 (by omega)).mpr rfl) c
    obtain ⟨hd', w1, w2⟩ := K D 0 (Nat.zero_add _) (-1) (fun e0 _ h => absurd h (Nat.not_lt_zero _))
    rw [T253_2, iz, eB, show (0 : Int32) = nI 0 from rfl, w1]
    have gG' : zga7 (ai_st g 2064453 (ln j) (nI y)) D (zpt G (ln j) y) := fun e he => by
      rw [z_st1]
      by_cases c : e = ln j
      · subst c; rw [if_pos ⟨rfl, rfl⟩, zpt_s]; rfl
      · rw [if_neg (fun q => c q.2), zpt_o c]; exact gG e he
    have gv' : zgv F D o tap (zpt G (ln j) y) := by
      refine ⟨by rw [zpt_o (fun q => a2 q.symm)]; exact hgv.1, fun e z hz => ?_⟩
      by_cases c : e = ln j
      · subst c; rw [zpt_s] at hz; cases hz; exact ⟨a1, y2, fun _ => y3⟩
      · rw [zpt_o c] at hz; exact hgv.2 e z hz
    by_cases cx : y = x
    · subst cx
      rw [if_pos rfl]
      refine ⟨_, zpt G (ln j) y, rfl, zF_st zF_rf rfl, gG', fun a b z h1 h2 => ?_, fun z => ⟨?_, ?_⟩, gv'⟩
      · by_cases c1 : a = ln j
        · by_cases c2 : b = ln j
          · rw [c1, c2]
          · rw [c1, zpt_s] at h1
            rw [zpt_o c2] at h2
            cases h1
            exact absurd ((hgI y).mp ⟨b, c2, h2⟩) hIx
        · rw [zpt_o c1] at h1
          by_cases c2 : b = ln j
          · rw [c2, zpt_s] at h2
            cases h2
            exact absurd ((hgI y).mp ⟨a, c1, h1⟩) hIx
          · rw [zpt_o c2] at h2
            exact hgi a b z c1 c2 h1 h2
      · rintro ⟨e, he⟩
        by_cases c : e = ln j
        · rw [c, zpt_s] at he; cases he; exact Or.inr rfl
        · rw [zpt_o c] at he; exact Or.inl ((hgI z).mp ⟨e, c, he⟩)
      · rintro (hz | hz)
        · obtain ⟨e, e1, e2⟩ := (hgI z).mpr hz
          exact ⟨e, by rw [zpt_o e1]; exact e2⟩
        · exact ⟨ln j, by rw [zpt_s, hz]⟩
    · obtain ⟨i, i1, i2⟩ := y4.resolve_left cx
      have hli : ¬ ln i = ln j := fun q => by have := hb.2.2.1 i j (by omega) hj q; omega
      have hGi : G (ln i) = some y := by rw [hgM i (by omega)]; exact i2
      have huni : ∀ e, e < D → (G e = some y ↔ e = ln i) := fun e _ => by
        refine ⟨fun h => ?_, fun h => by rw [h]; exact hGi⟩
        by_cases c : e = ln j
        · rw [c, hgM j (Nat.le_refl _)] at h
          exact absurd (hMi _ _ _ i2 h) hli
        · exact hgi e (ln i) y c hli h hGi
      have ehd := w2 (ln i) huni (hb.1 i (by omega)).1
      rw [if_neg (by rw [nI_eq (by omega) (by omega)]; exact cx), ehd]
      obtain ⟨g', G', u1, u2, u3, u4, u5, u6⟩ := ih i i1 (by omega) (ai_st g 2064453 (ln j) (nI y)) (zpt G (ln j) y) (some (.inl (nI y))) (some (.inl (nI (ln i)))) (some (.inl (nI D))) (by rw [z_ne (by decide)]; exact g34) gG' (fun e he => by rw [z_ne (by decide)]; exact gB e he) (fun k hk => by
        rw [zpt_o (fun q => by have := hb.2.2.1 k j (by omega) hj q; omega)]
        exact hgM k (by omega)) (fun a b z c1 c2 h1 h2 => by
        by_cases e1 : a = ln j
        · by_cases e2 : b = ln j
          · rw [e1, e2]
          · rw [e1, zpt_s] at h1
            rw [zpt_o e2] at h2
            cases h1
            exact absurd (hgi b (ln i) y e2 hli h2 hGi) c2
        · rw [zpt_o e1] at h1
          by_cases e2 : b = ln j
          · rw [e2, zpt_s] at h2
            cases h2
            exact absurd (hgi a (ln i) y e1 hli h1 hGi) c1
          · rw [zpt_o e2] at h2
            exact hgi a b z e1 e2 h1 h2) (fun z => ⟨fun ⟨e, c, h⟩ => by
        by_cases e1 : e = ln j
        · rw [e1, zpt_s] at h
          cases h
          exact (hgI y).mp ⟨ln i, hli, hGi⟩
        · rw [zpt_o e1] at h
          exact (hgI z).mp ⟨e, e1, h⟩, fun hz => by
        obtain ⟨e, e1, e2⟩ := (hgI z).mpr hz
        by_cases c : e = ln i
        · rw [c, hGi] at e2
          cases e2
          exact ⟨ln j, fun q => hli q.symm, zpt_s⟩
        · exact ⟨e, c, by rw [zpt_o e1]; exact e2⟩⟩) gv'
      exact ⟨g', G', u1, zF_tr (zF_st (P := zQ7) zF_rf rfl) u2, u3, u4, u5, u6⟩
/-- behind a handing: a step of a part of a way -/
theorem zmat_h {M G' : Nat → Option Nat} {F : Nat → Nat → Bool} {P : Nat → Prop} {D o t tap : Nat} (hm : zmat M F P D o t) (hp : P t) (hP : ∀ y, P y → ¬ y = tap) (hi : ∀ a b y, G' a = some y → G' b = some y → a = b) (hI : ∀ y, (∃ e, G' e = some y) ↔ ((∃ e, zpt M o tap e = some y) ∨ y = t)) (hv : zgv F D o tap G') : zmat (fun e => if e = o then none else G' e) F P D o (t + 1) ∧ zpt (fun e => if e = o then none else G' e) o tap = G' := by
  obtain ⟨m1, m2, m3⟩ := hm
  have dn : ∀ e y, (if e = o then none else G' e) = some y → ¬ e = o ∧ G' e = some y := fun e y h => by
    by_cases c : e = o
    · rw [if_pos c] at h; cases h
    · rw [if_neg c] at h; exact ⟨c, h⟩
  refine ⟨⟨fun d y h => ?_, fun d e y h1 h2 => hi d e y (dn d y h1).2 (dn e y h2).2, fun y hy hPy => ?_⟩, ?_⟩
  · obtain ⟨c, h⟩ := dn d y h
    have v := hv.2 d y h
    refine ⟨v.1, c, v.2.2 c, ?_⟩
    rcases (hI y).mp ⟨d, h⟩ with ⟨e, he⟩ | e
    · by_cases c2 : e = o
      · rw [c2, zpt_s] at he
        cases he
        exact absurd (hi d o tap h hv.1) c
      · rw [zpt_o c2] at he
        have := (m1 e y he).2.2.2
        exact ⟨by omega, this.2⟩
    · subst e; exact ⟨Nat.lt_succ_self _, hp⟩
  · have go : (∃ e, G' e = some y) → ∃ d, (if d = o then none else G' d) = some y := fun ⟨e, he⟩ => by
      refine ⟨e, ?_⟩
      rw [if_neg]
      · exact he
      · intro c
        rw [c, hv.1] at he
        exact hP y hPy (Option.some.inj he).symm
    by_cases c : y = t
    · exact go ((hI y).mpr (Or.inr c))
    · obtain ⟨d, hd⟩ := m3 y (by omega) hPy
      have : ¬ d = o := (m1 d y hd).2.1
      exact go ((hI y).mpr (Or.inl ⟨d, by rw [zpt_o this]; exact hd⟩))
  · funext e
    show (if e = o then some tap else if e = o then none else G' e) = G' e
    by_cases c : e = o
    · rw [if_pos c, c, hv.1]
    · rw [if_neg c, if_neg c]
