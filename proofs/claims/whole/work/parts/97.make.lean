/-! OBJECTS MADE: rows, ledgers, the diary, the city, the jobs, a state -/
def zdn : Nat → Nat → Nat → Prop
  | 0, a, q => q = a
  | n + 1, a, q => q = a ∨ zdn n a (zfp q)
theorem zfp_le (q : Nat) : zfp q ≤ q := by
  unfold zfp
  split
  · exact Nat.le_refl _
  · omega
theorem zdn_le : ∀ {n a q : Nat}, zdn n a q → a ≤ q := by
  intro n
  induction n with
  | zero => intro a q h; have h : q = a := h; omega
  | succ n ih =>
    intro a q h
    rcases (show q = a ∨ zdn n a (zfp q) from h) with h | h
    · omega
    · exact Nat.le_trans (ih h) (zfp_le q)
theorem zch_lt {a j : Nat} : a < ai_ch a j := by unfold ai_ch; omega
theorem zdn_a {n a : Nat} : zdn n a a := by
  cases n with
  | zero => rfl
  | succ n => exact Or.inl rfl
theorem zdn_s {n a q : Nat} (h : zdn n a q) : zdn (n + 1) a q := by
  induction n generalizing q with
  | zero => exact Or.inl h
  | succ n ih =>
    rcases (show q = a ∨ zdn n a (zfp q) from h) with h | h
    · exact Or.inl h
    · exact Or.inr (ih h)
theorem zdn_c {n a j q : Nat} (hj : j < 127) (h : zdn n (ai_ch a j) q) : zdn (n + 1) a q := by
  induction n generalizing q with
  | zero =>
    have h : q = ai_ch a j := h
    refine Or.inr ?_
    show zfp q = a
    rw [h, zfp_c hj]
  | succ n ih =>
    rcases (show q = ai_ch a j ∨ zdn n (ai_ch a j) (zfp q) from h) with h | h
    · refine Or.inr ?_
      rw [h, zfp_c hj]
      exact zdn_a
    · exact Or.inr (ih h)
theorem zdn_up {n a j : Nat} : ¬ zdn n (ai_ch a j) a := fun h => by
  have := zdn_le h
  have := @zch_lt a j
  omega
theorem zdn_b {n a j k : Nat} (hk : k < 127) (hjk : ¬ k = j) : ¬ zdn n (ai_ch a j) (ai_ch a k) := fun h => by
  cases n with
  | zero =>
    have h : ai_ch a k = ai_ch a j := h
    rw [z_ch] at h
    exact hjk h
  | succ n =>
    rcases (show ai_ch a k = ai_ch a j ∨ zdn n (ai_ch a j) (zfp (ai_ch a k)) from h) with h | h
    · rw [z_ch] at h; exact hjk h
    · rw [zfp_c hk] at h; exact zdn_up h
theorem zdn_bb {n a j k l : Nat} (hj : j < 127) (hk : k < 127) (hl : l < 127) (hjk : ¬ k = j) : ¬ zdn n (ai_ch a j) (ai_ch (ai_ch a k) l) := fun h => by
  cases n with
  | zero =>
    have h : ai_ch (ai_ch a k) l = ai_ch a j := h
    unfold ai_ch at h
    omega
  | succ n =>
    rcases (show ai_ch (ai_ch a k) l = ai_ch a j ∨ zdn n (ai_ch a j) (zfp (ai_ch (ai_ch a k) l)) from h) with h | h
    · unfold ai_ch at h; omega
    · rw [zfp_c hl] at h; exact zdn_b hk hjk h
/-- all but an object and what hangs on it stands -/
def zfr (n a : Nat) (h h' : ai_H) : Prop := ∀ q, ¬ zdn n a q → h'.1 q = h.1 q ∧ h'.2.2.1 q = h.2.2.1 q ∧ h'.2.2.2.1 q = h.2.2.2.1 q
theorem zfr_rf {n a : Nat} {h : ai_H} : zfr n a h h := fun _ _ => ⟨rfl, rfl, rfl⟩
theorem zfr_tr {n a : Nat} {h h' h'' : ai_H} (x : zfr n a h h') (y : zfr n a h' h'') : zfr n a h h'' := fun q hq => ⟨(y q hq).1.trans (x q hq).1, (y q hq).2.1.trans (x q hq).2.1, (y q hq).2.2.trans (x q hq).2.2⟩
theorem zfr_c {n a j : Nat} {h h' : ai_H} (hj : j < 127) (x : zfr n (ai_ch a j) h h') : zfr (n + 1) a h h' := fun q hq => x q fun c => hq (zdn_c hj c)
theorem zfr_m {n a : Nat} {h h' : ai_H} (x : zfr n a h h') : zfr (n + 1) a h h' := fun q hq => x q fun c => hq (zdn_s c)
/-- so many cells and slots more -/
def zct (c s : Nat) (h h' : ai_H) : Prop := h'.2.2.2.2.1 = h.2.2.2.2.1 + c ∧ h'.2.2.2.2.2.1 = h.2.2.2.2.2.1 + c ∧ h'.2.2.2.2.2.2 = h.2.2.2.2.2.2 + s
theorem zct_rf {h : ai_H} : zct 0 0 h h := ⟨rfl, rfl, rfl⟩
theorem zct_tr {c s c' s' : Nat} {h h' h'' : ai_H} (x : zct c s h h') (y : zct c' s' h' h'') : zct (c + c') (s + s') h h'' := by
  unfold zct at *
  omega
/-- a row made for a field -/
def zmk1 (h : ai_H) (a j k n : Nat) : ai_H := ai_stR (ai_new h (ai_ch a j) (k, n) n) a j (some (ai_ch a j))
theorem zmk1_k {h : ai_H} {a j k n q : Nat} : (zmk1 h a j k n).2.2.2.1 q = if q = ai_ch a j then (k, n) else h.2.2.2.1 q := rfl
theorem zmk1_i {h : ai_H} {a j k n q : Nat} : (zmk1 h a j k n).1 q = if q = ai_ch a j then fun _ => 0 else h.1 q := rfl
theorem zmk1_r {h : ai_H} {a j k n q i : Nat} : (zmk1 h a j k n).2.2.1 q i = if q = a ∧ i = j then some (ai_ch a j) else (if q = ai_ch a j then none else h.2.2.1 q i) := rfl
theorem zmk1_c {h : ai_H} {a j k n : Nat} : zct 1 n h (zmk1 h a j k n) := ⟨rfl, rfl, rfl⟩
theorem zmk1_f {h : ai_H} {a j k n : Nat} (hj : j < 127) : zfr 1 a h (zmk1 h a j k n) := fun q hq => by
  have h1 : ¬ q = a := fun e => hq (Or.inl e)
  have h2 : ¬ q = ai_ch a j := fun e => hq (Or.inr (by rw [e]; exact zfp_c hj))
  refine ⟨by rw [zmk1_i, if_neg h2], funext fun i => by rw [zmk1_r, if_neg (fun c => h1 c.1), if_neg h2], by rw [zmk1_k, if_neg h2]⟩
theorem zstepA (X : ai_H → Option ai_R) {h : ai_H} {a j K k n : Nat} {m : Int32} (hm : m = nI n) (hn : n ≤ 30000) (h1 : h.2.2.2.1 (ai_ch a j) = (0, 0)) (h2 : (h.2.2.2.1 a).1 = K) : (if m < 0 ∨ 30000 < m then none else if h.2.2.2.1 (ai_ch a j) = (0, 0) then if ((ai_new h (ai_ch a j) (k, m.toNatClampNeg) m.toNatClampNeg).2.2.2.1 a).1 = K then X (ai_stR (ai_new h (ai_ch a j) (k, m.toNatClampNeg) m.toNatClampNeg) a j (some (ai_ch a j))) else none else none) = X (zmk1 h a j k n) := by
  subst hm
  have e : (nI n).toNatClampNeg = n := nI_clamp (by omega)
  have e2 : ((ai_new h (ai_ch a j) (k, (nI n).toNatClampNeg) (nI n).toNatClampNeg).2.2.2.1 a).1 = K := by
    show (if a = ai_ch a j then _ else h.2.2.2.1 a).1 = K
    rw [if_neg (by have := @zch_lt a j; omega)]
    exact h2
  rw [if_neg (by
    rintro (c | c)
    · rw [z_lt, z_T (by omega)] at c; simp only [zl0] at c; omega
    · rw [z_lt, z_T (by omega)] at c
      have : (30000 : Int32).toInt = 30000 := rfl
      omega), if_pos h1, if_pos e2, e]
  rfl
/-- a list of rows made, one behind the other -/
def zmks (a : Nat) : List (Nat × Nat) → ai_H → ai_H
  | [], h => h
  | (j, n) :: l, h => zmks a l (zmk1 h a j 1 n)
def zsum : List (Nat × Nat) → Nat
  | [] => 0
  | (_, n) :: l => n + zsum l
theorem zmks_f {a : Nat} : ∀ {l : List (Nat × Nat)} {h : ai_H}, (∀ x ∈ l, x.1 < 127) → zfr 1 a h (zmks a l h) ∧ zct l.length (zsum l) h (zmks a l h) ∧ (zmks a l h).2.2.2.1 a = h.2.2.2.1 a ∧ ((zmks a l h).1 a = h.1 a) := by
  intro l
  induction l with
  | nil => intro h _; exact ⟨zfr_rf, zct_rf, rfl, rfl⟩
  | cons x l ih =>
    intro h hx
    obtain ⟨j, n⟩ := x
    obtain ⟨h1, h2, h3, h4⟩ := ih (h := zmk1 h a j 1 n) fun y hy => hx y (List.mem_cons_of_mem _ hy)
    have na : ¬ a = ai_ch a j := by have := @zch_lt a j; omega
    refine ⟨zfr_tr (zmk1_f (hx _ List.mem_cons_self)) h1, ?_, ?_, ?_⟩
    · have := zct_tr (zmk1_c (h := h) (a := a) (j := j) (k := 1) (n := n)) h2
      unfold zct at *
      show _ = _ + (l.length + 1) ∧ _ = _ + (l.length + 1) ∧ _ = _ + (n + zsum l)
      have e : zmks a ((j, n) :: l) h = zmks a l (zmk1 h a j 1 n) := rfl
      rw [e]
      omega
    · exact h3.trans (by rw [zmk1_k, if_neg na])
    · exact h4.trans (by rw [zmk1_i, if_neg na])
/-- a field's row that is made, or not -/
theorem zmks_o {a j : Nat} : ∀ {l : List (Nat × Nat)} {h : ai_H}, (∀ x ∈ l, ¬ x.1 = j) → (zmks a l h).2.2.2.1 (ai_ch a j) = h.2.2.2.1 (ai_ch a j) ∧ (zmks a l h).2.2.1 a j = h.2.2.1 a j ∧ (zmks a l h).1 (ai_ch a j) = h.1 (ai_ch a j) := by
  intro l
  induction l with
  | nil => intro h _; exact ⟨rfl, rfl, rfl⟩
  | cons x l ih =>
    intro h hx
    obtain ⟨i, n⟩ := x
    have hij : ¬ i = j := hx (i, n) List.mem_cons_self
    obtain ⟨h1, h2, h3⟩ := ih (h := zmk1 h a i 1 n) fun y hy => hx y (List.mem_cons_of_mem _ hy)
    have nc : ¬ ai_ch a j = ai_ch a i := fun c => hij (by rw [z_ch] at c; exact c.symm)
    have na : ¬ a = ai_ch a i := by have := @zch_lt a i; omega
    exact ⟨h1.trans (by rw [zmk1_k, if_neg nc]), h2.trans (by rw [zmk1_r, if_neg (fun c => hij c.2.symm), if_neg na]), h3.trans (by rw [zmk1_i, if_neg nc])⟩
theorem zmks_i {a j n : Nat} : ∀ {l : List (Nat × Nat)} {h : ai_H}, (j, n) ∈ l → l.Pairwise (fun x y => ¬ x.1 = y.1) → (zmks a l h).2.2.2.1 (ai_ch a j) = (1, n) ∧ (zmks a l h).2.2.1 a j = some (ai_ch a j) ∧ (zmks a l h).1 (ai_ch a j) = fun _ => 0 := by
  intro l
  induction l with
  | nil => intro h hm; cases hm
  | cons x l ih =>
    intro h hm hp
    rw [List.pairwise_cons] at hp
    obtain ⟨i, m⟩ := x
    rcases List.mem_cons.mp hm with e | hm
    · cases e
      obtain ⟨h1, h2, h3⟩ := zmks_o (a := a) (j := j) (l := l) (h := zmk1 h a j 1 n) fun y hy c => hp.1 y hy c.symm
      exact ⟨h1.trans (by rw [zmk1_k, if_pos rfl]), h2.trans (by rw [zmk1_r, if_pos ⟨rfl, rfl⟩]), h3.trans (by rw [zmk1_i, if_pos rfl])⟩
    · exact ih hm hp.2
/-- a ledger -/
theorem X36 {h : ai_H} {a n : Nat} (d : Nat) (h1 : 1 ≤ n) (hn : n ≤ 1000) (hk : h.2.2.2.1 a = (45, 0)) (hf : ∀ j, j < 4 → h.2.2.2.1 (ai_ch a j) = (0, 0)) : ai_X (d + 1) 36 [.inr (.inr (45, 0, a)), .inl (nI n)] h = some ([], zmks a [(0, n), (1, n), (2, n), (3, n)] h) := by
  have em : ai_max 0 (nI n) = nI n := by
    unfold ai_max
    rw [if_pos]
    rw [z_lt, z_T (by omega)]
    simp only [zl0]
    omega
  have ka : ∀ l : List (Nat × Nat), (∀ x ∈ l, x.1 < 127) → ((zmks a l h).2.2.2.1 a).1 = 45 := fun l hl => by rw [(zmks_f hl).2.2.1, hk]
  rw [T36, em]
  refine (zstepA (n := n) (h := zmks a [] h) (ai_E d 36 17 [some (.inr (.inr (45, 0, a))), some (.inl (nI n)), some (.inl (nI n))] []) rfl (by omega) (hf 0 (by decide)) ((by rw [show zmks a [] h = h from rfl, hk]))).trans ?_
  rw [T36_17]
  refine (zstepA (n := n) (h := zmks a [(0, n)] h) (ai_E d 36 24 [some (.inr (.inr (45, 0, a))), some (.inl (nI n)), some (.inl (nI n))] []) rfl (by omega) ((zmks_o (a := a) (j := 1) (l := [(0, n)]) (h := h) (by simp)).1.trans (hf 1 (by decide))) (ka [(0, n)] (by simp))).trans ?_
  rw [T36_24]
  refine (zstepA (n := n) (h := zmks a [(0, n), (1, n)] h) (ai_E d 36 31 [some (.inr (.inr (45, 0, a))), some (.inl (nI n)), some (.inl (nI n))] []) rfl (by omega) ((zmks_o (a := a) (j := 2) (l := [(0, n), (1, n)]) (h := h) (by simp)).1.trans (hf 2 (by decide))) (ka [(0, n), (1, n)] (by simp))).trans ?_
  rw [T36_31]
  refine (zstepA (n := n) (h := zmks a [(0, n), (1, n), (2, n)] h) (ai_E d 36 38 [some (.inr (.inr (45, 0, a))), some (.inl (nI n)), some (.inl (nI n))] []) rfl (by omega) ((zmks_o (a := a) (j := 3) (l := [(0, n), (1, n), (2, n)]) (h := h) (by simp)).1.trans (hf 3 (by decide))) (ka [(0, n), (1, n), (2, n)] (by simp))).trans ?_
  rw [T36_38]
  rfl
/-- a city -/
theorem X0 {h : ai_H} {a : Nat} (d : Nat) (hk : h.2.2.2.1 a = (40, 0)) (hf : ∀ j, j < 127 → h.2.2.2.1 (ai_ch a j) = (0, 0)) : ai_X (d + 1) 0 [.inr (.inr (40, 0, a))] h = some ([], zmks a [(6, 24), (7, 24), (8, 24), (9, 24), (10, 24), (11, 24), (12, 24), (13, 30), (14, 20)] h) := by
  have ka : ∀ l : List (Nat × Nat), (∀ x ∈ l, x.1 < 127) → ((zmks a l h).2.2.2.1 a).1 = 40 := fun l hl => by rw [(zmks_f hl).2.2.1, hk]
  rw [T0]
  refine (zstepA (n := 24) (h := zmks a [] h) (ai_E d 0 12 [some (.inr (.inr (40, 0, a)))] []) rfl (by omega) (hf 6 (by decide)) ((by rw [show zmks a [] h = h from rfl, hk]))).trans ?_
  rw [T0_12]
  refine (zstepA (n := 24) (h := zmks a [(6, 24)] h) (ai_E d 0 20 [some (.inr (.inr (40, 0, a)))] []) rfl (by omega) ((zmks_o (a := a) (j := 7) (l := [(6, 24)]) (h := h) (by simp)).1.trans (hf 7 (by decide))) (ka [(6, 24)] (by simp))).trans ?_
  rw [T0_20]
  refine (zstepA (n := 24) (h := zmks a [(6, 24), (7, 24)] h) (ai_E d 0 28 [some (.inr (.inr (40, 0, a)))] []) rfl (by omega) ((zmks_o (a := a) (j := 8) (l := [(6, 24), (7, 24)]) (h := h) (by simp)).1.trans (hf 8 (by decide))) (ka [(6, 24), (7, 24)] (by simp))).trans ?_
  rw [T0_28]
  refine (zstepA (n := 24) (h := zmks a [(6, 24), (7, 24), (8, 24)] h) (ai_E d 0 36 [some (.inr (.inr (40, 0, a)))] []) rfl (by omega) ((zmks_o (a := a) (j := 9) (l := [(6, 24), (7, 24), (8, 24)]) (h := h) (by simp)).1.trans (hf 9 (by decide))) (ka [(6, 24), (7, 24), (8, 24)] (by simp))).trans ?_
  rw [T0_36]
  refine (zstepA (n := 24) (h := zmks a [(6, 24), (7, 24), (8, 24), (9, 24)] h) (ai_E d 0 44 [some (.inr (.inr (40, 0, a)))] []) rfl (by omega) ((zmks_o (a := a) (j := 10) (l := [(6, 24), (7, 24), (8, 24), (9, 24)]) (h := h) (by simp)).1.trans (hf 10 (by decide))) (ka [(6, 24), (7, 24), (8, 24), (9, 24)] (by simp))).trans ?_
  rw [T0_44]
  refine (zstepA (n := 24) (h := zmks a [(6, 24), (7, 24), (8, 24), (9, 24), (10, 24)] h) (ai_E d 0 52 [some (.inr (.inr (40, 0, a)))] []) rfl (by omega) ((zmks_o (a := a) (j := 11) (l := [(6, 24), (7, 24), (8, 24), (9, 24), (10, 24)]) (h := h) (by simp)).1.trans (hf 11 (by decide))) (ka [(6, 24), (7, 24), (8, 24), (9, 24), (10, 24)] (by simp))).trans ?_
  rw [T0_52]
  refine (zstepA (n := 24) (h := zmks a [(6, 24), (7, 24), (8, 24), (9, 24), (10, 24), (11, 24)] h) (ai_E d 0 60 [some (.inr (.inr (40, 0, a)))] []) rfl (by omega) ((zmks_o (a := a) (j := 12) (l := [(6, 24), (7, 24), (8, 24), (9, 24), (10, 24), (11, 24)]) (h := h) (by simp)).1.trans (hf 12 (by decide))) (ka [(6, 24), (7, 24), (8, 24), (9, 24), (10, 24), (11, 24)] (by simp))).trans ?_
  rw [T0_60]
  refine (zstepA (n := 30) (h := zmks a [(6, 24), (7, 24), (8, 24), (9, 24), (10, 24), (11, 24), (12, 24)] h) (ai_E d 0 68 [some (.inr (.inr (40, 0, a)))] []) rfl (by omega) ((zmks_o (a := a) (j := 13) (l := [(6, 24), (7, 24), (8, 24), (9, 24), (10, 24), (11, 24), (12, 24)]) (h := h) (by simp)).1.trans (hf 13 (by decide))) (ka [(6, 24), (7, 24), (8, 24), (9, 24), (10, 24), (11, 24), (12, 24)] (by simp))).trans ?_
  rw [T0_68]
  refine (zstepA (n := 20) (h := zmks a [(6, 24), (7, 24), (8, 24), (9, 24), (10, 24), (11, 24), (12, 24), (13, 30)] h) (ai_E d 0 76 [some (.inr (.inr (40, 0, a)))] []) rfl (by omega) ((zmks_o (a := a) (j := 14) (l := [(6, 24), (7, 24), (8, 24), (9, 24), (10, 24), (11, 24), (12, 24), (13, 30)]) (h := h) (by simp)).1.trans (hf 14 (by decide))) (ka [(6, 24), (7, 24), (8, 24), (9, 24), (10, 24), (11, 24), (12, 24), (13, 30)] (by simp))).trans ?_
  rw [T0_76]
  rfl
/-- jobs -/
theorem X20 {h : ai_H} {a : Nat} (d : Nat) (hk : h.2.2.2.1 a = (43, 0)) (hf : ∀ j, j < 127 → h.2.2.2.1 (ai_ch a j) = (0, 0)) : ai_X (d + 1) 20 [.inr (.inr (43, 0, a))] h = some ([], zmks a [(1, 40), (2, 40), (3, 40), (4, 40), (5, 40), (6, 40)] h) := by
  have ka : ∀ l : List (Nat × Nat), (∀ x ∈ l, x.1 < 127) → ((zmks a l h).2.2.2.1 a).1 = 43 := fun l hl => by rw [(zmks_f hl).2.2.1, hk]
  rw [T20]
  refine (zstepA (n := 40) (h := zmks a [] h) (ai_E d 20 12 [some (.inr (.inr (43, 0, a)))] []) rfl (by omega) (hf 1 (by decide)) ((by rw [show zmks a [] h = h from rfl, hk]))).trans ?_
  rw [T20_12]
  refine (zstepA (n := 40) (h := zmks a [(1, 40)] h) (ai_E d 20 20 [some (.inr (.inr (43, 0, a)))] []) rfl (by omega) ((zmks_o (a := a) (j := 2) (l := [(1, 40)]) (h := h) (by simp)).1.trans (hf 2 (by decide))) (ka [(1, 40)] (by simp))).trans ?_
  rw [T20_20]
  refine (zstepA (n := 40) (h := zmks a [(1, 40), (2, 40)] h) (ai_E d 20 28 [some (.inr (.inr (43, 0, a)))] []) rfl (by omega) ((zmks_o (a := a) (j := 3) (l := [(1, 40), (2, 40)]) (h := h) (by simp)).1.trans (hf 3 (by decide))) (ka [(1, 40), (2, 40)] (by simp))).trans ?_
  rw [T20_28]
  refine (zstepA (n := 40) (h := zmks a [(1, 40), (2, 40), (3, 40)] h) (ai_E d 20 36 [some (.inr (.inr (43, 0, a)))] []) rfl (by omega) ((zmks_o (a := a) (j := 4) (l := [(1, 40), (2, 40), (3, 40)]) (h := h) (by simp)).1.trans (hf 4 (by decide))) (ka [(1, 40), (2, 40), (3, 40)] (by simp))).trans ?_
  rw [T20_36]
  refine (zstepA (n := 40) (h := zmks a [(1, 40), (2, 40), (3, 40), (4, 40)] h) (ai_E d 20 44 [some (.inr (.inr (43, 0, a)))] []) rfl (by omega) ((zmks_o (a := a) (j := 5) (l := [(1, 40), (2, 40), (3, 40), (4, 40)]) (h := h) (by simp)).1.trans (hf 5 (by decide))) (ka [(1, 40), (2, 40), (3, 40), (4, 40)] (by simp))).trans ?_
  rw [T20_44]
  refine (zstepA (n := 40) (h := zmks a [(1, 40), (2, 40), (3, 40), (4, 40), (5, 40)] h) (ai_E d 20 52 [some (.inr (.inr (43, 0, a)))] []) rfl (by omega) ((zmks_o (a := a) (j := 6) (l := [(1, 40), (2, 40), (3, 40), (4, 40), (5, 40)]) (h := h) (by simp)).1.trans (hf 6 (by decide))) (ka [(1, 40), (2, 40), (3, 40), (4, 40), (5, 40)] (by simp))).trans ?_
  rw [T20_52]
  rfl
