/-! A TEXT IS CUT: the class's Reader -/
theorem z_cut4 {α : Type} {p a b c e : Prop} [Decidable p] [Decidable a] [Decidable b] [Decidable c] [Decidable e] {G A : α} : (if p then A else if a then (if c then G else if b then (if e then G else A) else A) else if b then (if e then G else A) else A) = if ¬ p ∧ ((a ∧ c) ∨ (b ∧ e)) then G else A := by
  by_cases c0 : p
  · rw [if_pos c0, if_neg (fun q => q.1 c0)]
  · by_cases c1 : a
    · by_cases c2 : c
      · rw [if_neg c0, if_pos c1, if_pos c2, if_pos ⟨c0, Or.inl ⟨c1, c2⟩⟩]
      · rw [if_neg c0, if_pos c1, if_neg c2]
        by_cases c3 : b
        · by_cases c4 : e
          · rw [if_pos c3, if_pos c4, if_pos ⟨c0, Or.inr ⟨c3, c4⟩⟩]
          · rw [if_pos c3, if_neg c4, if_neg (fun q => by rcases q.2 with w | w; exact c2 w.2; exact c4 w.2)]
        · rw [if_neg c3, if_neg (fun q => by rcases q.2 with w | w; exact c2 w.2; exact c3 w.1)]
    · rw [if_neg c0, if_neg c1]
      by_cases c3 : b
      · by_cases c4 : e
        · rw [if_pos c3, if_pos c4, if_pos ⟨c0, Or.inr ⟨c3, c4⟩⟩]
        · rw [if_pos c3, if_neg c4, if_neg (fun q => by rcases q.2 with w | w; exact c1 w.1; exact c4 w.2)]
      · rw [if_neg c3, if_neg (fun q => by rcases q.2 with w | w; exact c1 w.1; exact c3 w.1)]
/-- the tokens that begin ahead of i, as they stand -/
def zCu (h : ai_H) (B : Nat → Nat) (n i t : Nat) : Prop := h.1 16387 5 = nI t ∧ ∀ k, k < t → h.1 2097543 k = nI (zpn B n k) ∧ h.1 2097544 k = nI (min (zte B n (zpn B n k)) i - zpn B n k)
/-- what the cutting writes -/
def zQc (q j : Nat) : Prop := (q = 16387 ∧ j = 5) ∨ (2097543 ≤ q ∧ q ≤ 2097545)
theorem zCt_te {B : Nat → Nat} {n i t k : Nat} (h : zCt B n i t) (hk : k + 1 < t) : zte B n (zpn B n k) ≤ i := by
  have := h.1 (k + 1) hk
  have := zpn_ge (B := B) (n := n) (k := k)
  omega
theorem zCu_go {h : ai_H} {B : Nat → Nat} {n i t : Nat} (c : zCt B n i (t + 1)) (u : zCu h B n i (t + 1)) (hlt : i < zte B n (zpn B n t)) : zCu (ai_st h 2097544 t (h.1 2097544 t + 1)) B n (i + 1) (t + 1) := by
  refine ⟨by rw [z_ne (by decide)]; exact u.1, fun k hk => ⟨by rw [z_ne (by decide)]; exact (u.2 k hk).1, ?_⟩⟩
  have a0 := c.1 k hk
  rw [z_st1]
  by_cases e : k = t
  · subst e
    rw [if_pos ⟨rfl, rfl⟩, (u.2 k hk).2, nI_1]
    congr 1
    omega
  · rw [if_neg (fun q => e q.2), (u.2 k hk).2]
    have := zCt_te (k := k) c (by omega)
    congr 1
    omega
theorem zCu_st {h : ai_H} {B : Nat → Nat} {n i t : Nat} (u : zCu h B n i t) (hn : ∀ k, k < t → zte B n (zpn B n k) ≤ i) : zCu h B n (i + 1) t := by
  refine ⟨u.1, fun k hk => ⟨(u.2 k hk).1, ?_⟩⟩
  have := hn k hk
  rw [(u.2 k hk).2]
  congr 1
  omega
theorem zCu_new {h : ai_H} {B : Nat → Nat} {n i t : Nat} (u : zCu h B n i t) (hi : i < n) (hn : ∀ k, k < t → zte B n (zpn B n k) ≤ i) (e : zpn B n t = i) : zCu (ai_st (ai_st (ai_st h 2097543 t (nI i)) 2097544 t 1) 16387 5 (nI (t + 1))) B n (i + 1) (t + 1) := by
  refine ⟨z_stS, fun k hk => ?_⟩
  have k0 : ¬ zkd B n (zpn B n t) = 0 := fun q => by rw [zkd_0] at q; omega
  have te := (zte_le (B := B) (zpn_n (B := B) (n := n) t).1).2.2 k0
  refine ⟨?_, ?_⟩
  · rw [z_ne (show (2097543 : Nat) ≠ 16387 by decide), z_ne (show (2097543 : Nat) ≠ 2097544 by decide), z_st1]
    by_cases c : k = t
    · rw [if_pos ⟨rfl, c⟩, c, e]
    · rw [if_neg (fun q => c q.2)]
      exact (u.2 k (by omega)).1
  · rw [z_ne (show (2097544 : Nat) ≠ 16387 by decide), z_st1, z_ne (show (2097544 : Nat) ≠ 2097543 by decide)]
    by_cases c : k = t
    · rw [if_pos ⟨rfl, c⟩, show (1 : Int32) = nI 1 from rfl, c]
      congr 1
      omega
    · have := hn k (by omega)
      rw [if_neg (fun q => c q.2), (u.2 k (by omega)).2]
      congr 1
      omega
theorem X57a {B : Nat → Nat} {n : Nat} (d : Nat) (hb : ∀ i, B i < 256) (hn : n ≤ 500) : ∀ q i t h v2 v3 z5 z6, i + q = n → zCt B n i t → zCu h B n i t → (∀ j, j < n → h.1 2097537 j = nI (B j)) → v2 = zb (zwas B n 1 i) → v3 = zb (zwas B n 2 i) → ∃ h' T v2' v3' z5' z6', ai_E (d + 1) 57 12 [some (.inr (.inr (27, 0, 16387))), some (.inl (nI n)), some (.inl v2), some (.inl v3), some (.inl (nI i)), z5, z6] [] h = ai_E (d + 1) 57 163 [some (.inr (.inr (27, 0, 16387))), some (.inl (nI n)), v2', v3', some (.inl 0), z5', z6'] [] h' ∧ zCt B n n T ∧ zCu h' B n n T ∧ zF zQc h h' := by
  intro q
  induction q with
  | zero =>
    intro i t h v2 v3 z5 z6 hi c u tp e2 e3
    have hi : i = n := by omega
    subst hi
    refine ⟨h, t, some (.inl v2), some (.inl v3), z5, z6, ?_, c, u, zF_rf⟩
    rw [T57_12, if_pos (z_le.mpr (Int.le_refl _))]
  | succ q ih =>
    intro i t h v2 v3 z5 z6 hi c u tp e2 e3
    have lt := zCt_le c (by omega)
    have bi := hb i
    have i5 : ∀ f : Nat → Option ai_R, ai_ix (nI i) 500 f = f i := fun f => z_ix (by omega) (by decide)
    have tb : (nI (B i)).toInt = (B i : Int) := z_T (by omega)
    have k1 := zkd_1 (B := B) (n := n) (p := i)
    have k2 := zkd_2 (B := B) (n := n) (p := i)
    have p1 : zb (zltr (nI (B i))) = zb (zkd B n i = 1) := zb_c (by unfold zltr; rw [tb]; omega)
    have p2 : zb (48 ≤ (nI (B i)).toInt ∧ (nI (B i)).toInt ≤ 57) = zb (zkd B n i = 2) := zb_c (by rw [tb]; omega)
    have w1 : zb (zkd B n i = 1) = zb (zwas B n 1 (i + 1)) := zb_c (by show _ ↔ 0 < i + 1 ∧ zkd B n (i + 1 - 1) = 1; rw [Nat.add_sub_cancel]; exact ⟨fun q => ⟨Nat.succ_pos i, q⟩, fun q => q.2⟩)
    have w2 : zb (zkd B n i = 2) = zb (zwas B n 2 (i + 1)) := zb_c (by show _ ↔ 0 < i + 1 ∧ zkd B n (i + 1 - 1) = 2; rw [Nat.add_sub_cancel]; exact ⟨fun q => ⟨Nat.succ_pos i, q⟩, fun q => q.2⟩)
    have t0 : (nI t ≤ (0 : Int32)) ↔ t = 0 := by rw [show (0 : Int32) = nI 0 from rfl, nI_leI (by omega) (by omega)]; omega
    subst e2
    subst e3
    rw [T57_12, if_neg (by rw [nI_leI (by omega) (by omega)]; omega), if_neg (by rw [show (500 : Int32) = nI 500 from rfl, nI_leI (by omega) (by omega)]; omega), i5, tp i (by omega), X70, z_bi, p1, i5, tp i (by omega), X66, z_bi, p2, u.1]
    simp only [zb_if, t0]
    rw [z_cut4]
    by_cases g : ¬ t = 0 ∧ ((zkd B n i = 1 ∧ zwas B n 1 i) ∨ (zkd B n i = 2 ∧ zwas B n 2 i))
    · obtain ⟨g1, g2⟩ := g
      obtain ⟨t, rfl⟩ : ∃ s, t = s + 1 := ⟨t - 1, by omega⟩
      have i0 : 0 < i := by rcases g2 with w | w; exact w.2.1; exact w.2.1
      have hlt := (zCt_on c (by omega) i0).mpr g2
      have it : ∀ f : Nat → Option ai_R, ai_ix (nI t) 501 f = f t := fun f => z_ix (by omega) (by decide)
      have e0 : nI (t + 1) - 1 = nI t := by rw [show (1 : Int32) = nI 1 from rfl, nI_subN (by omega) (by omega), Nat.add_sub_cancel]
      have f1 : zF zQc h (ai_st h 2097544 t (h.1 2097544 t + 1)) := zF_st zF_rf (Or.inr ⟨by decide, by decide⟩)
      obtain ⟨h', T, a2, a3, a5, a6, r1, r2, r3, r4⟩ := ih (i + 1) (t + 1) (ai_st h 2097544 t (h.1 2097544 t + 1)) _ _ (some (.inl (zb (zkd B n i = 1)))) (some (.inl (zb (zkd B n i = 2)))) (by omega) (zCt_go c hlt) (zCu_go c u hlt) (fun j hj => by rw [z_ne (by decide)]; exact tp j hj) w1 w2
      refine ⟨h', T, a2, a3, a5, a6, ?_, r2, r3, zF_tr f1 r4⟩
      rw [if_pos ⟨g1, g2⟩, e0, it, it, nI_1]
      exact r1
    · have ng : ∀ k, k < t → zte B n (zpn B n k) ≤ i := fun k hk => by
        by_cases e : k + 1 < t
        · exact zCt_te c e
        · have e : t = k + 1 := by omega
          subst e
          by_cases i0 : 0 < i
          · rcases Nat.lt_or_ge i (zte B n (zpn B n k)) with w | w
            · exact absurd ⟨Nat.succ_ne_zero k, (zCt_on c (by omega) i0).mp w⟩ g
            · exact w
          · have := c.1 k (Nat.lt_succ_self k); omega
      rw [if_neg g, T57_93, i5, tp i (by omega), i5, tp i (by omega), nI_1]
      have b32 : (nI (B i) = (32 : Int32)) ↔ B i = 32 := by rw [show (32 : Int32) = nI 32 from rfl, nI_eq (by omega) (by omega)]
      have b10 : (nI (B i) = (10 : Int32)) ↔ B i = 10 := by rw [show (10 : Int32) = nI 10 from rfl, nI_eq (by omega) (by omega)]
      by_cases bl : B i = 32 ∨ B i = 10
      · obtain ⟨h', T, a2, a3, a5, a6, r1, r2, r3, r4⟩ := ih (i + 1) t h _ _ (some (.inl (zb (zkd B n i = 1)))) (some (.inl (zb (zkd B n i = 2)))) (by omega) (zCt_bl c (by omega) bl) (zCu_st u ng) tp w1 w2
        refine ⟨h', T, a2, a3, a5, a6, ?_, r2, r3, r4⟩
        by_cases bl1 : B i = 32
        · rw [if_pos (b32.mpr bl1)]
          exact r1
        · rw [if_neg (fun w => bl1 (b32.mp w)), if_pos (b10.mpr (bl.resolve_left bl1))]
          exact r1
      · obtain ⟨ep, cn⟩ := zCt_new c (by omega) bl (fun k hk => ng k (by omega))
        have un := zCu_new u (by omega) ng ep
        obtain ⟨g1, eg⟩ : ∃ g, ai_st (ai_st (ai_st h 2097543 t (nI i)) 2097544 t 1) 16387 5 (nI (t + 1)) = g := ⟨_, rfl⟩
        have f1 : zF zQc h g1 := by rw [← eg]; exact zF_st (zF_st (zF_st zF_rf (Or.inr ⟨by decide, by decide⟩)) (Or.inr ⟨by decide, by decide⟩)) (Or.inl ⟨rfl, rfl⟩)
        rw [eg] at un
        have it : ∀ f : Nat → Option ai_R, ai_ix (nI t) 501 f = f t := fun f => z_ix (by omega) (by decide)
        obtain ⟨h', T, a2, a3, a5, a6, r1, r2, r3, r4⟩ := ih (i + 1) (t + 1) g1 _ _ (some (.inl (zb (zkd B n i = 1)))) (some (.inl (zb (zkd B n i = 2)))) (by omega) cn un (fun j hj => by rw [f1.1 _ _ (by unfold zQc; omega)]; exact tp j hj) w1 w2
        refine ⟨h', T, a2, a3, a5, a6, ?_, r2, r3, zF_tr f1 r4⟩
        rw [if_neg (fun w => bl (Or.inl (b32.mp w))), if_neg (fun w => bl (Or.inr (b10.mp w))), u.1, it, z_ne (show (16387 : Nat) ≠ 2097543 by decide), u.1, it, z_ne (show (16387 : Nat) ≠ 2097544 by decide), z_ne (show (16387 : Nat) ≠ 2097543 by decide), u.1, nI_1, eg]
        exact r1
/-- the text, cut -/
def zTb (h : ai_H) (B : Nat → Nat) (n : Nat) : Prop := (∀ i, i < n → h.1 2097537 i = nI (B i)) ∧ ∃ T, T ≤ n ∧ zpn B n T = n ∧ (∀ k, k < T → zpn B n k < n) ∧ h.1 16387 5 = nI T ∧ ∀ k, k ≤ T → h.1 2097543 k = nI (zpn B n k) ∧ h.1 2097544 k = nI (zte B n (zpn B n k) - zpn B n k) ∧ h.1 2097545 k = nI (zsy B n (zpn B n k))
/-- the token at hand -/
def zTk (h : ai_H) (B : Nat → Nat) (n s : Nat) : Prop := h.1 16387 2 = nI s ∧ h.1 16387 3 = nI (zsy B n s) ∧ ∃ k, k ≤ n ∧ h.1 16387 4 = nI k ∧ zpn B n k = s ∧ ∀ j, j < k → zpn B n j < n
def zQk (q j : Nat) : Prop := q = 16387 ∧ (j = 2 ∨ j = 3 ∨ j = 4)
theorem zTb_c {h h' : ai_H} {B : Nat → Nat} {n : Nat} (e : ∀ q j, (q = 16387 ∧ j = 5) ∨ q = 2097537 ∨ (2097543 ≤ q ∧ q ≤ 2097545) → h'.1 q j = h.1 q j) (t : zTb h B n) : zTb h' B n := by
  obtain ⟨t1, T, t2, t3, t4, t5, t6⟩ := t
  refine ⟨fun i hi => (e _ _ (by omega)).trans (t1 i hi), T, t2, t3, t4, (e _ _ (by omega)).trans t5, fun k hk => ?_⟩
  obtain ⟨a1, a2, a3⟩ := t6 k hk
  exact ⟨(e _ _ (by omega)).trans a1, (e _ _ (by omega)).trans a2, (e _ _ (by omega)).trans a3⟩
theorem zTk_c {h h' : ai_H} {B : Nat → Nat} {n s : Nat} (e : ∀ j, j = 2 ∨ j = 3 ∨ j = 4 → h'.1 16387 j = h.1 16387 j) (t : zTk h B n s) : zTk h' B n s := by
  obtain ⟨t1, t2, k, t3, t4, t5⟩ := t
  exact ⟨(e _ (by omega)).trans t1, (e _ (by omega)).trans t2, k, t3, (e _ (by omega)).trans t4, t5⟩
theorem zte_n {B : Nat → Nat} {n : Nat} : zte B n n = n := by
  have := zte_le (B := B) (Nat.le_refl n)
  omega
theorem ztn_n {B : Nat → Nat} {n : Nat} : ztn B n n = n := by
  have := ztn_le (B := B) (Nat.le_refl n)
  omega
theorem X57b {B : Nat → Nat} {n T : Nat} {z2 z3 z5 z6 : Option ai_V} (d : Nat) (hb : ∀ i, B i < 256) (hn : n ≤ 500) (c : zCt B n n T) : ∀ q j h, j + q = T → (∀ i, i < n → h.1 2097537 i = nI (B i)) → zCu h B n n T → (∀ k, k < j → h.1 2097545 k = nI (zsy B n (zpn B n k))) → ∃ h', ai_E (d + 6) 57 163 [some (.inr (.inr (27, 0, 16387))), some (.inl (nI n)), z2, z3, some (.inl (nI j)), z5, z6] [] h = some ([], h') ∧ zTb h' B n ∧ zF zQc h h' := by
  have lt := zCt_le c (Nat.le_refl n)
  have pT : zpn B n T = n := by have := c.2; have := (zpn_n (B := B) (n := n) T).1; omega
  intro q
  induction q with
  | zero =>
    intro j h hj tp u sy
    have hj : j = T := by omega
    subst hj
    have it : ∀ f : Nat → Option ai_R, ai_ix (nI j) 501 f = f j := fun f => z_ix (by omega) (by decide)
    obtain ⟨h', eg⟩ : ∃ g, ai_st (ai_st (ai_st h 2097543 j (nI n)) 2097544 j 0) 2097545 j 21 = g := ⟨_, rfl⟩
    have f1 : zF zQc h h' := by rw [← eg]; exact zF_st (zF_st (zF_st zF_rf (Or.inr ⟨by decide, by decide⟩)) (Or.inr ⟨by decide, by decide⟩)) (Or.inr ⟨by decide, by decide⟩)
    have s5 : h'.1 16387 5 = nI j := by rw [← eg, z_ne (by decide), z_ne (by decide), z_ne (by decide)]; exact u.1
    refine ⟨h', ?_, ⟨fun i hi => by rw [f1.1 _ _ (by unfold zQc; omega)]; exact tp i hi, j, lt, pT, c.1, s5, fun k hk => ?_⟩, f1⟩
    · rw [T57_163, u.1, if_pos (z_le.mpr (Int.le_refl _)), it, z_ne (show (16387 : Nat) ≠ 2097543 by decide), u.1, it, z_ne (show (16387 : Nat) ≠ 2097544 by decide), z_ne (show (16387 : Nat) ≠ 2097543 by decide), u.1, it, eg]
    · rw [← eg, z_ne (show (2097543 : Nat) ≠ 2097545 by decide), z_ne (show (2097543 : Nat) ≠ 2097544 by decide), z_ne (show (2097544 : Nat) ≠ 2097545 by decide), z_st1, z_st1, z_ne (show (2097544 : Nat) ≠ 2097543 by decide), z_st1, z_ne (show (2097545 : Nat) ≠ 2097544 by decide), z_ne (show (2097545 : Nat) ≠ 2097543 by decide)]
      by_cases e : k = j
      · subst e
        have y21 : zsy B n n = 21 := zsy_0.mpr (zkd_0.mpr (Nat.le_refl n))
        rw [if_pos ⟨rfl, rfl⟩, if_pos ⟨rfl, rfl⟩, if_pos ⟨rfl, rfl⟩, pT, zte_n, Nat.sub_self, y21]
        exact ⟨rfl, rfl, rfl⟩
      · have hk : k < j := by omega
        have tl := (zte_le (B := B) (zpn_n (B := B) (n := n) k).1).2.1
        rw [if_neg (fun q => e q.2), if_neg (fun q => e q.2), if_neg (fun q => e q.2), (u.2 k hk).1, (u.2 k hk).2, sy k hk]
        refine ⟨rfl, ?_, rfl⟩
        congr 1
        omega
  | succ q ih =>
    intro j h hj tp u sy
    have hjT : j < T := by omega
    have it : ∀ f : Nat → Option ai_R, ai_ix (nI j) 501 f = f j := fun f => z_ix (by omega) (by decide)
    have tl := (zte_le (B := B) (zpn_n (B := B) (n := n) j).1).2.1
    have l1 : h.1 2097544 j = nI (zte B n (zpn B n j) - zpn B n j) := by
      rw [(u.2 j hjT).2]
      congr 1
      omega
    have x63 : ai_X (d + 6) 63 [.inr (.inr (27, 0, 16387)), .inl (nI (zpn B n j)), .inl (nI (zte B n (zpn B n j) - zpn B n j))] h = _ := X63 d hb hn (c.1 j hjT) tp
    obtain ⟨g, eg⟩ : ∃ g, ai_st h 2097545 j (nI (zsy B n (zpn B n j))) = g := ⟨_, rfl⟩
    have f1 : zF zQc h g := by rw [← eg]; exact zF_st zF_rf (Or.inr ⟨by decide, by decide⟩)
    obtain ⟨h', r1, r2, r3⟩ := ih (j + 1) g (by omega) (fun i hi => by rw [f1.1 _ _ (by unfold zQc; omega)]; exact tp i hi) ⟨by rw [← eg, z_ne (by decide)]; exact u.1, fun k hk => by rw [← eg, z_ne (by decide), z_ne (by decide)]; exact u.2 k hk⟩ (fun k hk => by
      rw [← eg, z_st1]
      by_cases e : k = j
      · rw [if_pos ⟨rfl, e⟩, e]
      · rw [if_neg (fun q => e q.2)]; exact sy k (by omega))
    refine ⟨h', ?_, r2, zF_tr f1 r3⟩
    rw [T57_163, u.1, if_neg (by rw [nI_leI (by omega) (by omega)]; omega), it, it, (u.2 j hjT).1, l1, x63, z_bi, it, eg, nI_1]
    exact r1
theorem X57 {h : ai_H} {B : Nat → Nat} {n : Nat} (d : Nat) (hb : ∀ i, B i < 256) (hn : n ≤ 500) (tp : ∀ i, i < n → h.1 2097537 i = nI (B i)) : ∃ h', ai_X (d + 7) 57 [.inr (.inr (27, 0, 16387)), .inl (nI n)] h = some ([], h') ∧ zTb h' B n ∧ zF zQc h h' := by
  have f0 : zF zQc h (ai_st h 16387 5 0) := zF_st zF_rf (Or.inl ⟨rfl, rfl⟩)
  have tp0 : ∀ i, i < n → (ai_st h 16387 5 0).1 2097537 i = nI (B i) := fun i hi => by rw [z_ne (by decide)]; exact tp i hi
  obtain ⟨g, T, a2, a3, a5, a6, r1, r2, r3, r4⟩ := X57a (d + 5) hb hn n 0 0 (ai_st h 16387 5 0) 0 0 none none (Nat.zero_add n) ⟨fun k hk => absurd hk (Nat.not_lt_zero k), Nat.zero_le _⟩ ⟨z_stS, fun k hk => absurd hk (Nat.not_lt_zero k)⟩ tp0 (zb_f (fun q => absurd q.1 (Nat.lt_irrefl 0))).symm (zb_f (fun q => absurd q.1 (Nat.lt_irrefl 0))).symm
  obtain ⟨h', s1, s2, s3⟩ := X57b (z2 := a2) (z3 := a3) (z5 := a5) (z6 := a6) d hb hn r2 T 0 g (Nat.zero_add T) (fun i hi => by rw [r4.1 _ _ (by unfold zQc; omega)]; exact tp0 i hi) r3 (fun k hk => absurd hk (Nat.not_lt_zero k))
  refine ⟨h', ?_, s2, zF_tr f0 (zF_tr r4 s3)⟩
  rw [T57]
  exact r1.trans s1
theorem X68p {h : ai_H} {k T : Nat} {v : Int32} (d : Nat) (hT : T ≤ 500) (h5 : h.1 16387 5 = nI T) (h4 : h.1 16387 4 = v) (hv : ¬ nI T ≤ v) (e : v + 1 = nI k) (hk : k ≤ T) : ai_X (d + 1) 68 [.inr (.inr (27, 0, 16387))] h = some ([], ai_st (ai_st (ai_st h 16387 4 (nI k)) 16387 2 (h.1 2097543 k)) 16387 3 (h.1 2097545 k)) := by
  have ik : ∀ f : Nat → Option ai_R, ai_ix (nI k) 501 f = f k := fun f => z_ix (by omega) (by decide)
  have n42 : ∀ (g : ai_H) (v : Int32), (ai_st g 16387 2 v).1 16387 4 = g.1 16387 4 := fun g v => z_nj (by decide)
  have n1 : ∀ (g : ai_H) (v : Int32) (j : Nat), (ai_st g 16387 j v).1 2097543 = g.1 2097543 := fun g v j => z_ne (by decide)
  have n2 : ∀ (g : ai_H) (v : Int32) (j : Nat), (ai_st g 16387 j v).1 2097545 = g.1 2097545 := fun g v j => z_ne (by decide)
  rw [T68, h5, h4, if_neg hv, e]
  simp only [z_stS, ik, n42, n1, n2]
/-- the first token, or the next one -/
theorem X68g {h : ai_H} {B : Nat → Nat} {n k : Nat} {v : Int32} (d : Nat) (hn : n ≤ 500) (ht : zTb h B n) (h4 : h.1 16387 4 = v) (e : v + 1 = nI k) (hv : ∀ T, T ≤ n → (nI T ≤ v ↔ T < k)) (hp : ∀ j, j < k → zpn B n j < n) : ∃ h', ai_X (d + 1) 68 [.inr (.inr (27, 0, 16387))] h = some ([], h') ∧ zTk h' B n (zpn B n k) ∧ zF zQk h h' := by
  obtain ⟨t1, T, t2, t3, t4, t5, t6⟩ := ht
  have kT : k ≤ T := by
    rcases Nat.lt_or_ge T k with w | w
    · have := hp T w; omega
    · exact w
  obtain ⟨a1, a2, a3⟩ := t6 k kT
  have X := X68p d (by omega) t5 h4 (fun w => by rw [hv T t2] at w; omega) e kT
  rw [a1, a3] at X
  refine ⟨_, X, ⟨?_, z_stS, k, by omega, ?_, rfl, hp⟩, zF_st (zF_st (zF_st zF_rf ⟨rfl, Or.inr (Or.inr rfl)⟩) ⟨rfl, Or.inl rfl⟩) ⟨rfl, Or.inr (Or.inl rfl)⟩⟩
  · rw [z_nj (by decide), z_stS]
  · rw [z_nj (by decide), z_nj (by decide), z_stS]
theorem X68f {h : ai_H} {B : Nat → Nat} {n : Nat} (d : Nat) (hn : n ≤ 500) (ht : zTb h B n) (h4 : h.1 16387 4 = -1) : ∃ h', ai_X (d + 1) 68 [.inr (.inr (27, 0, 16387))] h = some ([], h') ∧ zTk h' B n (zsk B n 0) ∧ zF zQk h h' :=
  X68g (k := 0) d hn ht h4 (by decide) (fun T hT => by
    have e : (nI T).toInt = (T : Int) := z_T (by omega)
    rw [z_le, e, zlm1]
    omega) (fun j hj => absurd hj (Nat.not_lt_zero j))
theorem X68 {h : ai_H} {B : Nat → Nat} {n s : Nat} (d : Nat) (hn : n ≤ 500) (ht : zTb h B n) (hk : zTk h B n s) : ∃ h', ai_X (d + 1) 68 [.inr (.inr (27, 0, 16387))] h = some ([], h') ∧ zTk h' B n (ztn B n s) ∧ zF zQk h h' := by
  obtain ⟨k1, k2, k, k3, k4, k5, k6⟩ := hk
  rcases Nat.lt_or_ge s n with hs | hs
  · have := X68g (k := k + 1) d hn ht k4 (nI_1 k) (fun T hT => by rw [nI_leI (by omega) (by omega)]; omega) (fun j hj => by
      by_cases e : j = k
      · rw [e, k5]; exact hs
      · exact k6 j (by omega))
    rw [← k5]
    exact this
  · obtain ⟨t1, T, t2, t3, t4, t5, t6⟩ := ht
    have kT : k = T := by
      rcases Nat.lt_or_ge T k with w | w
      · have := k6 T w; omega
      · rcases Nat.lt_or_ge k T with w2 | w2
        · have := t4 k w2; omega
        · omega
    have sn : s = n := by rw [← k5, kT]; exact t3
    subst kT
    have ik : ∀ f : Nat → Option ai_R, ai_ix (nI k) 501 f = f k := fun f => z_ix (by omega) (by decide)
    obtain ⟨a1, a2, a3⟩ := t6 k (Nat.le_refl k)
    have n42 : ∀ (g : ai_H) (v : Int32), (ai_st g 16387 2 v).1 16387 4 = g.1 16387 4 := fun g v => z_nj (by decide)
    have n2 : ∀ (g : ai_H) (v : Int32) (j : Nat), (ai_st g 16387 j v).1 2097545 = g.1 2097545 := fun g v j => z_ne (by decide)
    have X : ai_X (d + 1) 68 [.inr (.inr (27, 0, 16387))] h = some ([], ai_st (ai_st h 16387 2 (nI s)) 16387 3 (nI (zsy B n s))) := by
      rw [T68, t5, k4, if_pos (z_le.mpr (Int.le_refl _))]
      simp only [ik, n42, n2, k4, a1, a3, k5]
    refine ⟨_, X, ⟨?_, ?_, k, k3, ?_, ?_, k6⟩, zF_st (zF_st zF_rf ⟨rfl, Or.inl rfl⟩) ⟨rfl, Or.inr (Or.inl rfl)⟩⟩
    · rw [z_nj (by decide), z_stS, sn, ztn_n]
    · rw [z_stS, sn, ztn_n]
    · rw [z_nj (by decide), z_nj (by decide)]; exact k4
    · rw [k5, sn, ztn_n]
theorem X67 {h : ai_H} {B : Nat → Nat} {n s c : Nat} (d : Nat) (hb : ∀ i, B i < 256) (hk : zTk h B n s) (hc : c = 60 ∨ c = 62 ∨ c = 61 ∨ c = 59 ∨ c = 40 ∨ c = 41) : ai_X (d + 1) 67 [.inr (.inr (27, 0, 16387)), .inl (nI c)] h = some ([.inl (zb (zkd B n s = 3 ∧ B s = c))], h) := by
  have lt := zsy_lt (n := n) (s := s) hb
  rw [T67, hk.2.1, show (100 : Int32) = nI 100 from rfl, nI_add]
  by_cases e : zsy B n s = 100 + c
  · rw [if_pos (by rw [e]), zb_t ((zsy_c hc).mp e)]
    exact z_b1
  · rw [if_neg (by rw [nI_eq (by omega) (by omega)]; exact e), zb_f (fun q => e ((zsy_c hc).mpr q))]
    exact z_b0
/-- the symbol at hand, or its number in the class's text -/
theorem zsym {h : ai_H} {B : Nat → Nat} {n s a : Nat} (hb : ∀ i, B i < 256) (hk : zTk h B n s) (ha : a < 400) : h.1 16387 3 = nI a ↔ zsy B n s = a := by
  have lt := zsy_lt (n := n) (s := s) hb
  rw [hk.2.1, nI_eq (by omega) (by omega)]
theorem X65 {h : ai_H} {B : Nat → Nat} {n s : Nat} (d : Nat) (hb : ∀ i, B i < 256) (hn : n ≤ 500) (ht : zTb h B n) (hk : zTk h B n s) (h2 : zkd B n s = 2) (h5 : zte B n s ≤ s + 5) : ai_X (d + 1) 65 [.inr (.inr (27, 0, 16387))] h = some ([.inl (nI (znu B n s))], h) := by
  obtain ⟨k2, -, k, k3, k4, k5, k6⟩ := hk
  obtain ⟨tp, T, t2, t3, t4, t5, t6⟩ := ht
  have hs : s ≤ n := by rw [← k5]; exact (zpn_n k).1
  have kT : k ≤ T := by
    rcases Nat.lt_or_ge T k with w | w
    · have := k6 T w; omega
    · exact w
  obtain ⟨-, a2, -⟩ := t6 k kT
  rw [k5] at a2
  obtain ⟨u1, u2, u3⟩ := zte_le (B := B) hs
  have inn := zte_in (Or.inr rfl) h2
  have ik : ∀ f : Nat → Option ai_R, ai_ix (nI k) 501 f = f k := fun f => z_ix (by omega) (by decide)
  have K : ∀ q i, i + q = zte B n s - s → ai_E d 65 4 [some (.inr (.inr (27, 0, 16387))), some (.inl (nI (z10n B s i))), some (.inl (nI i))] [] h = some ([.inl (nI (znu B n s))], h) := by
    intro q
    induction q with
    | zero =>
      intro i hi
      rw [T65_4, k4, ik, a2, if_pos (by rw [nI_leI (by omega) (by omega)]; omega), show i = zte B n s - s by omega]
      rfl
    | succ q ih =>
      intro i hi
      have dg := (zkd_2.mp (inn (s + i) (by omega) (by omega))).2
      have lt := z10n_lt (B := B) (s := s) i (fun j hj => (zkd_2.mp (inn (s + j) (by omega) (by omega))).2.2)
      have p := Nat.pow_le_pow_right (n := 10) (by decide) (show i ≤ 4 by omega)
      rw [T65_4, k4, ik, a2, if_neg (by rw [nI_leI (by omega) (by omega)]; omega), k2, nI_add, if_neg (by rw [show (500 : Int32) = nI 500 from rfl, nI_leI (by omega) (by omega)]; omega), z_ix (by omega) (by decide), tp (s + i) (by omega), show (10 : Int32) = nI 10 from rfl, pk_mul, nI_add, show (48 : Int32) = nI 48 from rfl, nI_subN (by omega) (by omega), nI_1]
      have := ih (i + 1) (by omega)
      rw [show z10n B s (i + 1) = z10n B s i * 10 + B (s + i) - 48 by
        show z10n B s i * 10 + (B (s + i) - 48) = _
        omega] at this
      exact this
  rw [T65]
  exact K (zte B n s - s) 0 (Nat.zero_add _)
theorem X62 {h : ai_H} {c : Nat} (d : Nat) (v : Int32) (h9 : h.1 16387 9 = nI c) (hc : c < 500) : ai_X (d + 1) 62 [.inr (.inr (27, 0, 16387)), .inl v] h = some ([], ai_st (ai_st h 2097550 c v) 16387 9 (nI (c + 1))) := by
  rw [T62, h9, if_neg (by rw [nI_leI (by omega) (by omega)]; omega), z_ix hc (by decide), z_ne (by decide), h9, nI_1]
/-- a token's length -/
theorem zTl {h : ai_H} {B : Nat → Nat} {n s : Nat} (hn : n ≤ 500) (ht : zTb h B n) (hk : zTk h B n s) : ∃ k, k ≤ 500 ∧ h.1 16387 4 = nI k ∧ h.1 2097544 k = nI (zte B n s - s) := by
  obtain ⟨-, -, k, k3, k4, k5, k6⟩ := hk
  obtain ⟨tp, T, t2, t3, t4, t5, t6⟩ := ht
  have kT : k ≤ T := by
    rcases Nat.lt_or_ge T k with w | w
    · have := k6 T w; omega
    · exact w
  obtain ⟨-, a2, -⟩ := t6 k kT
  rw [k5] at a2
  exact ⟨k, by omega, k4, a2⟩
/-- symbols and what they say -/
theorem zsy_f {B : Nat → Nat} {n s : Nat} : (zfact (zwv B n s) = -1 ↔ ¬ (zsy B n s = 3 ∨ (6 ≤ zsy B n s ∧ zsy B n s ≤ 10))) ∧ (¬ zfact (zwv B n s) = -1 → nI (zsy B n s) = zfcw (zfact (zwv B n s))) := by
  refine zsy_p (P := fun x v => (zfact v = -1 ↔ ¬ (x = 3 ∨ (6 ≤ x ∧ x ≤ 10))) ∧ (¬ zfact v = -1 → nI x = zfcw (zfact v))) (by decide +kernel) (fun x v hx hv => ?_)
  have e : zfact v = -1 := by
    unfold zfact
    rw [if_neg (show ¬ v = 6491892 from hv 6 (by decide)), if_neg (show ¬ v = 923 from hv 7 (by decide)), if_neg (show ¬ v = 286610 from hv 8 (by decide)), if_neg (show ¬ v = 296854829 from hv 3 (by decide)), if_neg (show ¬ v = 2968 from hv 9 (by decide)), if_neg (show ¬ v = 70517 from hv 10 (by decide))]
  exact ⟨⟨fun _ => by omega, fun _ => e⟩, fun q => absurd e q⟩
theorem zsy_k {B : Nat → Nat} {n s : Nat} : (zwork (zwv B n s) = -1 ↔ ¬ zsy B n s ≤ 5) ∧ (¬ zwork (zwv B n s) = -1 → nI (zsy B n s) = zwork (zwv B n s)) := by
  refine zsy_p (P := fun x v => (zwork v = -1 ↔ ¬ x ≤ 5) ∧ (¬ zwork v = -1 → nI x = zwork v)) (by decide +kernel) (fun x v hx hv => ?_)
  have e : zwork v = -1 := by
    unfold zwork
    rw [if_neg (show ¬ v = 14623 from hv 0 (by decide)), if_neg (show ¬ v = 321926 from hv 1 (by decide)), if_neg (show ¬ v = 10502357 from hv 2 (by decide)), if_neg (show ¬ v = 296854829 from hv 3 (by decide)), if_neg (show ¬ v = 276647 from hv 4 (by decide)), if_neg (show ¬ v = 1132 from hv 5 (by decide))]
  exact ⟨⟨fun _ => by omega, fun _ => e⟩, fun q => absurd e q⟩
theorem zsy_vt {B : Nat → Nat} {n s : Nat} {t : Prop} [Decidable t] (ht : t) : zverd t (zwv B n s) = if zsy B n s = 17 then 1 else if zsy B n s = 18 then 0 else -1 := by
  unfold zverd
  rw [if_pos ht, if_pos ht]
  refine zsy_p (P := fun x v => (if v = 11716 then (1 : Int32) else if v = 261071456 then 0 else -1) = if x = 17 then 1 else if x = 18 then 0 else -1) (by decide +kernel) (fun x v hx hv => ?_)
  rw [if_neg (show ¬ v = 11716 from hv 17 (by decide)), if_neg (show ¬ v = 261071456 from hv 18 (by decide)), if_neg (by omega), if_neg (by omega)]
theorem zsy_vf {B : Nat → Nat} {n s : Nat} {t : Prop} [Decidable t] (ht : ¬ t) : zverd t (zwv B n s) = if zsy B n s = 15 then 1 else if zsy B n s = 16 then 0 else -1 := by
  unfold zverd
  rw [if_neg ht, if_neg ht]
  refine zsy_p (P := fun x v => (if v = 2230 then (1 : Int32) else if v = 10413527 then 0 else -1) = if x = 15 then 1 else if x = 16 then 0 else -1) (by decide +kernel) (fun x v hx hv => ?_)
  rw [if_neg (show ¬ v = 2230 from hv 15 (by decide)), if_neg (show ¬ v = 10413527 from hv 16 (by decide)), if_neg (by omega), if_neg (by omega)]
