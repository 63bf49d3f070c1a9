/-! TOKENS: how a text's bytes are cut -/
def zkd (B : Nat → Nat) (n p : Nat) : Nat := if p < n then (if 97 ≤ B p ∧ B p ≤ 122 then 1 else if 48 ≤ B p ∧ B p ≤ 57 then 2 else if B p = 60 ∨ B p = 62 ∨ B p = 61 ∨ B p = 59 ∨ B p = 40 ∨ B p = 41 then 3 else 4) else 0
theorem zkd_0 {B : Nat → Nat} {n p : Nat} : zkd B n p = 0 ↔ n ≤ p := by
  unfold zkd
  repeat' split
  all_goals omega
theorem zkd_1 {B : Nat → Nat} {n p : Nat} : zkd B n p = 1 ↔ p < n ∧ 97 ≤ B p ∧ B p ≤ 122 := by
  unfold zkd
  repeat' split
  all_goals omega
theorem zkd_2 {B : Nat → Nat} {n p : Nat} : zkd B n p = 2 ↔ p < n ∧ 48 ≤ B p ∧ B p ≤ 57 := by
  unfold zkd
  repeat' split
  all_goals omega
theorem zkd_3 {B : Nat → Nat} {n p : Nat} : zkd B n p = 3 ↔ p < n ∧ (B p = 60 ∨ B p = 62 ∨ B p = 61 ∨ B p = 59 ∨ B p = 40 ∨ B p = 41) := by
  unfold zkd
  repeat' split
  all_goals omega
theorem zkd_le {B : Nat → Nat} {n p : Nat} : zkd B n p ≤ 4 := by
  unfold zkd
  repeat' split
  all_goals omega
/-- on from p while q holds, k at most -/
def zgo (q : Nat → Bool) : Nat → Nat → Nat
  | 0, p => p
  | k + 1, p => if q p = true then zgo q k (p + 1) else p
theorem zgo_ge {q : Nat → Bool} : ∀ k p, p ≤ zgo q k p ∧ zgo q k p ≤ p + k := by
  intro k
  induction k with
  | zero => intro p; exact ⟨Nat.le_refl _, Nat.le_refl _⟩
  | succ k ih =>
    intro p
    unfold zgo
    split
    · have := ih (p + 1); omega
    · omega
theorem zgo_in {q : Nat → Bool} : ∀ k p i, p ≤ i → i < zgo q k p → q i = true := by
  intro k
  induction k with
  | zero => intro p i h1 h2; exact absurd h2 (Nat.not_lt_of_le h1)
  | succ k ih =>
    intro p i h1 h2
    unfold zgo at h2
    split at h2
    · rename_i c
      by_cases e : i = p
      · rw [e]; exact c
      · exact ih (p + 1) i (by omega) h2
    · omega
theorem zgo_at {q : Nat → Bool} : ∀ k p, zgo q k p < p + k → ¬ q (zgo q k p) = true := by
  intro k
  induction k with
  | zero => intro p h; exact absurd h (Nat.lt_irrefl _)
  | succ k ih =>
    intro p h
    unfold zgo at h ⊢
    by_cases c : q p = true
    · rw [if_pos c] at h ⊢; exact ih (p + 1) (by omega)
    · rw [if_neg c]; exact c
def zsk (B : Nat → Nat) (n p : Nat) : Nat := zgo (fun i => decide (B i = 32 ∨ B i = 10)) (n - p) p
def zte (B : Nat → Nat) (n s : Nat) : Nat := if zkd B n s = 1 ∨ zkd B n s = 2 then zgo (fun i => decide (zkd B n i = zkd B n s)) (n - (s + 1)) (s + 1) else if zkd B n s = 0 then s else s + 1
def ztn (B : Nat → Nat) (n s : Nat) : Nat := zsk B n (zte B n s)
theorem zsk_le {B : Nat → Nat} {n p : Nat} (h : p ≤ n) : p ≤ zsk B n p ∧ zsk B n p ≤ n := by
  have := zgo_ge (q := fun i => decide (B i = 32 ∨ B i = 10)) (n - p) p
  unfold zsk
  omega
theorem zte_le {B : Nat → Nat} {n s : Nat} (h : s ≤ n) : s ≤ zte B n s ∧ zte B n s ≤ n ∧ (¬ zkd B n s = 0 → s < zte B n s) := by
  have := zgo_ge (q := fun i => decide (zkd B n i = zkd B n s)) (n - (s + 1)) (s + 1)
  have h0 := zkd_0 (B := B) (n := n) (p := s)
  unfold zte
  split
  · omega
  · split
    · omega
    · omega
theorem ztn_le {B : Nat → Nat} {n s : Nat} (h : s ≤ n) : s ≤ ztn B n s ∧ ztn B n s ≤ n ∧ (¬ zkd B n s = 0 → s < ztn B n s) := by
  have a := zte_le (B := B) h
  have b := zsk_le (B := B) a.2.1
  unfold ztn
  refine ⟨by omega, by omega, fun c => ?_⟩
  have := a.2.2 c
  omega
/-- a text on the class's tape -/
def zTb (h : ai_H) (B : Nat → Nat) (n : Nat) : Prop := h.1 16387 3 = nI n ∧ ∀ i, i < n → h.1 2097537 i = nI (B i)
/-- the class's token at hand -/
def zTk (h : ai_H) (B : Nat → Nat) (n s : Nat) : Prop := h.1 16387 2 = nI s ∧ h.1 16387 4 = nI (zte B n s) ∧ h.1 16387 5 = nI (zkd B n s)
def zQk (q j : Nat) : Prop := q = 16387 ∧ (j = 2 ∨ j = 4 ∨ j = 5)
theorem z_nj {h : ai_H} {a j k : Nat} {v : Int32} (n : k ≠ j) : (ai_st h a j v).1 a k = h.1 a k := by rw [z_st1, if_neg (fun c => n c.2)]
theorem zl41 : (41 : Int32).toInt = 41 := rfl
theorem z_10 : ((1 : Int32) = 0) = False := eq_false (by decide)
theorem z_00 : ((0 : Int32) = 0) = True := eq_true rfl
theorem X69 {h : ai_H} {B : Nat → Nat} {n p : Nat} (d : Nat) (hb : ∀ i, B i < 256) (hn : n ≤ 500) (ht : zTb h B n) (hp : p ≤ 500) : ai_X (d + 2) 69 [.inr (.inr (27, 0, 16387)), .inl (nI p)] h = some ([.inl (nI (zkd B n p))], h) := by
  rw [T69, ht.1]
  by_cases c : p < n
  · rw [if_pos (by rw [nI_ltI (by omega) (by omega)]; exact c), z_ix (by omega) (by decide), ht.2 p c, X70]
    simp only [z_bi]
    have hb := hb p
    unfold zkd
    rw [if_pos c]
    generalize B p = b at hb
    have tb : (nI b).toInt = (b : Int) := z_T (by omega)
    unfold zltr
    rw [tb]
    by_cases c1 : 97 ≤ b ∧ b ≤ 122
    · rw [zb_t (by omega), if_neg (by decide), if_pos c1]
      rfl
    · rw [zb_f (by omega), if_pos rfl, if_neg c1]
      by_cases c2 : 48 ≤ b ∧ b ≤ 57
      · rw [if_pos c2, if_neg (by rw [z_lt, tb, zl48]; omega), if_neg (by rw [z_lt, tb, zl57]; omega)]
        rfl
      · rw [if_neg c2]
        by_cases c3 : b = 60 ∨ b = 62 ∨ b = 61 ∨ b = 59 ∨ b = 40 ∨ b = 41
        · rw [if_pos c3]
          rcases c3 with e | e | e | e | e | e <;> subst e <;> rfl
        · rw [if_neg c3]
          simp only [z_lt, z_eq (x := nI b), tb, z_10, z_00, if_false, if_true, zl41, zl0, zl1, zl2, zl3, zl4, zl5, zl6, zl7, zl8, zl9, zl10, zl12, zl15, zl16, zl20, zl22, zl23, zl24, zl27, zl30, zl31, zl32, zl40, zl46, zl48, zl50, zl57, zl59, zl60, zl61, zl62, zl63, zl80, zl96, zl97, zl99, zl100, zl122, zl255, zl360, zl500, zl999, zl9999, zl60000, zl99999, zl16777215, zl1073741824, zlm1, zlm2, zlm3]
          by_cases c4 : (b : Int) < 48
          · rw [if_pos c4]
            repeat rw [if_neg (by omega)]
            rfl
          · rw [if_neg c4, if_pos (by omega)]
            repeat rw [if_neg (by omega)]
            rfl
  · rw [if_neg (by rw [nI_ltI (by omega) (by omega)]; exact c), zkd_0.mpr (by omega)]
    rfl
theorem X68a {B : Nat → Nat} {n m : Nat} (d : Nat) (hb : ∀ i, B i < 256) (hn : n ≤ 500) (hm : m = 1 ∨ m = 2) : ∀ k e h, e + k = n → zTb h B n → h.1 16387 4 = nI e → h.1 16387 5 = nI m → ∃ h', ai_E (d + 2) 68 114 [some (.inr (.inr (27, 0, 16387)))] [] h = some ([], h') ∧ h'.1 16387 4 = nI (zgo (fun i => decide (zkd B n i = m)) k e) ∧ zF (fun q j => q = 16387 ∧ j = 4) h h' := by
  intro k
  induction k with
  | zero =>
    intro e h he ht h4 h5
    refine ⟨h, ?_, h4, zF_rf⟩
    rw [T68_114, ht.1, h4, if_pos (by rw [nI_leI (by omega) (by omega)]; omega)]
  | succ k ih =>
    intro e h he ht h4 h5
    rw [T68_114, ht.1, h4, if_neg (by rw [nI_leI (by omega) (by omega)]; omega), X69 d hb hn ht (by omega)]
    simp only [z_bi]
    have kl := zkd_le (B := B) (n := n) (p := e)
    unfold zgo
    by_cases c : zkd B n e = m
    · rw [if_pos (by rw [c, h5]), if_pos (by exact decide_eq_true c), h4, nI_1]
      obtain ⟨h', a1, a2, a3⟩ := ih (e + 1) (ai_st h 16387 4 (nI (e + 1))) (by omega) ⟨by rw [z_nj (by decide)]; exact ht.1, fun i hi => by rw [z_ne (by decide)]; exact ht.2 i hi⟩ z_stS (by rw [z_nj (by decide)]; exact h5)
      exact ⟨h', a1, a2, zF_tr (zF_st zF_rf ⟨rfl, rfl⟩) a3⟩
    · rw [if_neg (by rw [h5, nI_eq (by omega) (by omega)]; exact c), if_neg (by rw [decide_eq_true_eq]; exact c)]
      exact ⟨h, rfl, h4, zF_rf⟩
/-- what follows the blanks -/
noncomputable def zx68 (d : Nat) (h : ai_H) : Option ai_R := ai_bi (ai_X d 69 [.inr (.inr (27, 0, 16387)), .inl ((ai_st h 16387 4 (h.1 16387 2)).1 16387 2)] (ai_st h 16387 4 (h.1 16387 2))) (fun v2 h1 => if ((ai_st h1 16387 5 v2).1 16387 5) = 0 then some ([], (ai_st h1 16387 5 v2)) else if ((ai_st (ai_st h1 16387 5 v2) 16387 4 (((ai_st h1 16387 5 v2).1 16387 4) + 1)).1 16387 5) = 1 then ai_E d 68 114 [some (.inr (.inr (27, 0, 16387)))] [] (ai_st (ai_st h1 16387 5 v2) 16387 4 (((ai_st h1 16387 5 v2).1 16387 4) + 1)) else if ((ai_st (ai_st h1 16387 5 v2) 16387 4 (((ai_st h1 16387 5 v2).1 16387 4) + 1)).1 16387 5) = 2 then ai_E d 68 114 [some (.inr (.inr (27, 0, 16387)))] [] (ai_st (ai_st h1 16387 5 v2) 16387 4 (((ai_st h1 16387 5 v2).1 16387 4) + 1)) else some ([], (ai_st (ai_st h1 16387 5 v2) 16387 4 (((ai_st h1 16387 5 v2).1 16387 4) + 1))))
theorem X68b {B : Nat → Nat} {n p : Nat} {h : ai_H} (d : Nat) (hb : ∀ i, B i < 256) (hn : n ≤ 500) (hp : p ≤ n) (ht : zTb h B n) (h2 : h.1 16387 2 = nI p) : ∃ h', zx68 (d + 2) h = some ([], h') ∧ zTk h' B n p ∧ zF zQk h h' := by
  unfold zx68
  rw [h2, z_nj (by decide), h2]
  obtain ⟨g1, e1⟩ : ∃ g, ai_st h 16387 4 (nI p) = g := ⟨_, rfl⟩
  rw [e1]
  have t1 : zTb g1 B n := by rw [← e1]; exact ⟨by rw [z_nj (by decide)]; exact ht.1, fun i hi => by rw [z_ne (by decide)]; exact ht.2 i hi⟩
  have f1 : zF zQk h g1 := by rw [← e1]; exact zF_st zF_rf ⟨rfl, Or.inr (Or.inl rfl)⟩
  have g2 : g1.1 16387 2 = nI p := by rw [← e1, z_nj (by decide)]; exact h2
  have g4 : g1.1 16387 4 = nI p := by rw [← e1, z_stS]
  rw [X69 d hb hn t1 (by omega)]
  simp only [z_bi]
  have kl := zkd_le (B := B) (n := n) (p := p)
  obtain ⟨k, hk⟩ : ∃ k, zkd B n p = k := ⟨_, rfl⟩
  rw [hk] at kl ⊢
  obtain ⟨g, e2⟩ : ∃ g, ai_st g1 16387 5 (nI k) = g := ⟨_, rfl⟩
  rw [e2]
  have t2 : zTb g B n := by rw [← e2]; exact ⟨by rw [z_nj (by decide)]; exact t1.1, fun i hi => by rw [z_ne (by decide)]; exact t1.2 i hi⟩
  have f2 : zF zQk h g := by rw [← e2]; exact zF_st f1 ⟨rfl, Or.inr (Or.inr rfl)⟩
  have q2 : g.1 16387 2 = nI p := by rw [← e2, z_nj (by decide)]; exact g2
  have q4 : g.1 16387 4 = nI p := by rw [← e2, z_nj (by decide)]; exact g4
  have q5 : g.1 16387 5 = nI k := by rw [← e2, z_stS]
  rw [z_nj (by decide), q4, q5, nI_1]
  by_cases c0 : k = 0
  · subst c0
    rw [if_pos (show nI 0 = (0 : Int32) from rfl)]
    refine ⟨g, rfl, ⟨q2, ?_, by rw [q5, hk]⟩, f2⟩
    unfold zte
    rw [hk, if_neg (by decide), if_pos rfl]
    exact q4
  · rw [if_neg (by rw [show (0 : Int32) = nI 0 from rfl, nI_eq (by omega) (by omega)]; exact c0)]
    obtain ⟨w, ew⟩ : ∃ w, ai_st g 16387 4 (nI (p + 1)) = w := ⟨_, rfl⟩
    rw [ew]
    have t3 : zTb w B n := by rw [← ew]; exact ⟨by rw [z_nj (by decide)]; exact t2.1, fun i hi => by rw [z_ne (by decide)]; exact t2.2 i hi⟩
    have f3 : zF zQk h w := by rw [← ew]; exact zF_st f2 ⟨rfl, Or.inr (Or.inl rfl)⟩
    have w2 : w.1 16387 2 = nI p := by rw [← ew, z_nj (by decide)]; exact q2
    have w4 : w.1 16387 4 = nI (p + 1) := by rw [← ew, z_stS]
    have w5 : w.1 16387 5 = nI k := by rw [← ew, z_nj (by decide)]; exact q5
    have hpn : p < n := by
      rcases Nat.lt_or_ge p n with q | q
      · exact q
      · have := (zkd_0 (B := B)).mpr q; omega
    by_cases c : k = 1 ∨ k = 2
    · obtain ⟨h', a1, a2, a3⟩ := X68a (m := k) d hb hn c (n - (p + 1)) (p + 1) w (by omega) t3 w4 w5
      refine ⟨h', ?_, ⟨?_, ?_, ?_⟩, zF_tr f3 (zF_mono a3 fun q j hq => ⟨hq.1, Or.inr (Or.inl hq.2)⟩)⟩
      · rcases c with c | c
        · rw [if_pos (by rw [c]; rfl)]; exact a1
        · rw [if_neg (by rw [c]; decide), if_pos (by rw [c]; rfl)]; exact a1
      · rw [a3.1 16387 2 (by decide)]; exact w2
      · unfold zte
        rw [hk, if_pos c]
        exact a2
      · rw [a3.1 16387 5 (by decide), hk]; exact w5
    · refine ⟨w, ?_, ⟨w2, ?_, by rw [hk]; exact w5⟩, f3⟩
      · rw [if_neg (by rw [show (1 : Int32) = nI 1 from rfl, nI_eq (by omega) (by omega)]; omega), if_neg (by rw [show (2 : Int32) = nI 2 from rfl, nI_eq (by omega) (by omega)]; omega)]
      · unfold zte
        rw [hk, if_neg c, if_neg c0]
        exact w4
theorem X68 {B : Nat → Nat} {n e : Nat} {h : ai_H} (d : Nat) (hb : ∀ i, B i < 256) (hn : n ≤ 500) (he : e ≤ n) (ht : zTb h B n) (h4 : h.1 16387 4 = nI e) : ∃ h', ai_X (d + 3) 68 [.inr (.inr (27, 0, 16387))] h = some ([], h') ∧ zTk h' B n (zsk B n e) ∧ zF zQk h h' := by
  have K : ∀ k p g, p + k = n → zTb g B n → g.1 16387 2 = nI p → zF zQk h g → ∃ h', ai_E (d + 2) 68 8 [some (.inr (.inr (27, 0, 16387)))] [] g = some ([], h') ∧ zTk h' B n (zgo (fun i => decide (B i = 32 ∨ B i = 10)) k p) ∧ zF zQk h h' := by
    intro k
    induction k with
    | zero =>
      intro p g hp t g2 f
      obtain ⟨h', a1, a2, a3⟩ := X68b d hb hn (by omega) t g2
      refine ⟨h', ?_, a2, zF_tr f a3⟩
      rw [T68_8, t.1, g2, if_pos (by rw [nI_leI (by omega) (by omega)]; omega)]
      unfold zx68 at a1
      rw [g2] at a1
      exact a1
    | succ k ih =>
      intro p g hp t g2 f
      have hbp := hb p
      have tb : (nI (B p)).toInt = (B p : Int) := z_T (by omega)
      have st : zTb (ai_st g 16387 2 (nI (p + 1))) B n := ⟨by rw [z_nj (by decide)]; exact t.1, fun i hi => by rw [z_ne (by decide)]; exact t.2 i hi⟩
      have I := ih (p + 1) (ai_st g 16387 2 (nI (p + 1))) (by omega) st z_stS (zF_st f ⟨rfl, Or.inl rfl⟩)
      rw [T68_8, t.1, g2, if_neg (by rw [nI_leI (by omega) (by omega)]; omega), z_ix (by omega) (by decide), z_ix (by omega) (by decide), t.2 p (by omega), nI_1]
      unfold zgo
      by_cases c1 : B p = 32
      · rw [if_pos (by rw [c1]; rfl), if_pos (decide_eq_true (Or.inl c1))]
        exact I
      · rw [if_neg (by rw [z_eq, tb, zl32]; omega)]
        by_cases c2 : B p = 10
        · rw [if_pos (by rw [c2]; rfl), if_pos (decide_eq_true (Or.inr c2))]
          exact I
        · rw [if_neg (by rw [z_eq, tb, zl10]; omega), if_neg (by rw [decide_eq_true_eq]; omega)]
          obtain ⟨h', a1, a2, a3⟩ := X68b d hb hn (by omega) t g2
          refine ⟨h', ?_, a2, zF_tr f a3⟩
          unfold zx68 at a1
          rw [g2] at a1
          exact a1
  rw [T68, h4]
  exact K (n - e) e (ai_st h 16387 2 (nI e)) (by omega) ⟨by rw [z_nj (by decide)]; exact ht.1, fun i hi => by rw [z_ne (by decide)]; exact ht.2 i hi⟩ z_stS (zF_st zF_rf ⟨rfl, Or.inl rfl⟩)
