/-! WHAT IS READ: the steps are well; statements; texts -/
def zok4 (q : zSt) : Prop := zi q.1 0 3 ∧ zi q.2.1 0 5 ∧ zi q.2.2.1 0 62 ∧ zi q.2.2.2 0 99999
theorem zfact_5 {w : Nat} (h : ¬ zfact w = -1) : zi (zfact w) 0 5 := by
  revert h
  unfold zfact zi
  repeat' split
  all_goals first | (intro _; decide) | (intro h; exact absurd rfl h)
theorem zwork_5 {w : Nat} (h : ¬ zwork w = -1) : zi (zwork w) 0 5 := by
  revert h
  unfold zwork zi
  repeat' split
  all_goals first | (intro _; decide) | (intro h; exact absurd rfl h)
theorem zok4_c {k : Int32} (h : k = 1 ∨ k = 2 ∨ k = 3) : zok4 (k, 0, 0, 0) := by
  unfold zok4 zi
  rcases h with h | h | h <;> subst h <;> decide
theorem zpD_ok {B : Nat → Nat} {n : Nat} : ∀ {f m o s c t b}, zpD B n f m o s c t b → ∀ q, q ∈ c → zok4 q := by
  intro f
  induction f with
  | zero => intro m o s c t b h; exact h.elim
  | succ f ih =>
    intro m o s c t b h
    have ap : ∀ {a b : List zSt}, (∀ q, q ∈ a → zok4 q) → (∀ q, q ∈ b → zok4 q) → ∀ q, q ∈ a ++ b → zok4 q := fun h1 h2 q hq => by
      rcases List.mem_append.mp hq with r | r
      · exact h1 q r
      · exact h2 q r
    have on : ∀ {p : zSt}, zok4 p → ∀ q, q ∈ [p] → zok4 q := fun h1 q hq => by
      rw [List.mem_singleton.mp hq]; exact h1
    have no : ∀ q, q ∈ ([] : List zSt) → zok4 q := fun q hq => by cases hq
    rcases h with ⟨rfl, rfl, rfl, rfl, p1, p2⟩ | ⟨rfl, rfl, rfl, rfl, p1, p2, p3⟩ | ⟨rfl, rfl, rfl, rfl, p1, p2, p3, p4⟩ | ⟨rfl, rfl, rfl, rfl, p1, p2, p3, p4⟩ | ⟨rfl, rfl, rfl, rfl, p1, ho⟩ | ⟨rfl, rfl, p1, ho, r1⟩ | ⟨rfl, rfl, p1, ho, c1, rfl, r1⟩ | ⟨rfl, rfl, p1, ho, r1⟩ | ⟨rfl, rfl, p1, ho, r1, p2⟩ | ⟨rfl, rfl, p1, ho, t1, rfl, r1, p2⟩ | ⟨rfl, rfl, r1⟩ | ⟨rfl, c1, c2, t1, rfl, r1, r2⟩ | ⟨rfl, rfl, rfl, rfl, p1⟩ | ⟨rfl, rfl, p1, r1⟩ | ⟨rfl, p1, c1, c2, t1, rfl, r1, r2⟩ | ⟨rfl, rfl, r1⟩ | ⟨rfl, c1, c2, t1, rfl, r1, r2⟩ | ⟨rfl, rfl, rfl, rfl, p1⟩ | ⟨rfl, rfl, p1, r1⟩ | ⟨rfl, p1, c1, c2, t1, rfl, r1, r2⟩
    · exact no
    · exact no
    · exact no
    · refine on ⟨(show zi 0 0 3 by unfold zi; decide), zfact_5 p2, ?_, ?_⟩
      · show zi (nI (B (ztn B n s))) 0 62
        unfold zi
        have : B (ztn B n s) ≤ 62 := by have := p3.2; omega
        rw [z_T (by omega)]; omega
      · show zi (nI (znu B n (ztn B n (ztn B n s)))) 0 99999
        have := znu_lt p4.1 p4.2
        unfold zi
        rw [z_T (by omega)]; omega
    · exact no
    · exact ih r1
    · exact ap (ih r1) (on (zok4_c (Or.inl rfl)))
    · exact ih r1
    · exact ih r1
    · exact ih r1
    · exact ih r1
    · exact ap (ih r1) (ih r2)
    · exact no
    · exact ih r1
    · exact ap (ap (ih r1) (on (zok4_c (Or.inr (Or.inl rfl))))) (ih r2)
    · exact ih r1
    · exact ap (ih r1) (ih r2)
    · exact no
    · exact ih r1
    · exact ap (ap (ih r1) (on (zok4_c (Or.inr (Or.inr rfl))))) (ih r2)
def zpd1 (k : Int32) (n : Nat) : Option Nat := if k = 0 then (if n < 21 then some (n + 1) else none) else if k = 1 then (if 0 < n then some n else none) else (if 1 < n then some (n - 1) else none)
def zpde : List zSt → Nat → Option Nat
  | [], n => some n
  | q :: r, n => match zpd1 q.1 n with
    | none => none
    | some m => zpde r m
theorem zpde_app : ∀ (a b : List zSt) (n m : Nat), zpde a n = some m → zpde (a ++ b) n = zpde b m := by
  intro a
  induction a with
  | nil => intro b n m h; cases h; rfl
  | cons q a ih =>
    intro b n m h
    show (match zpd1 q.1 n with
      | none => none
      | some m => zpde (a ++ b) m) = _
    have h : (match zpd1 q.1 n with
      | none => none
      | some m => zpde a m) = some m := h
    cases e : zpd1 q.1 n with
    | none => rw [e] at h; cases h
    | some k => rw [e] at h; exact ih b k m h
theorem zpde_1 {q : zSt} {n : Nat} : zpde [q] n = zpd1 q.1 n := by
  show (match zpd1 q.1 n with
      | none => none
      | some m => some m) = _
  cases zpd1 q.1 n <;> rfl
def zpkk (m o : Nat) : Nat := if m = 0 then 2 * o + 2 else if m = 1 ∨ m = 2 then 2 * o + 1 else 2 * o
theorem zpD_dep {B : Nat → Nat} {n : Nat} : ∀ {f m o s c t b}, zpD B n f m o s c t b → b = true → o ≤ 9 → ∀ k, k ≤ zpkk m o → zpde c (if m = 2 ∨ m = 4 then k + 1 else k) = some (k + 1) := by
  intro f
  induction f with
  | zero => intro m o s c t b h; exact h.elim
  | succ f ih =>
    intro m o s c t b h hbt ho9 k hk
    have z0 : ∀ o, zpkk 0 o = 2 * o + 2 := fun _ => rfl
    have z1 : ∀ o, zpkk 1 o = 2 * o + 1 := fun _ => rfl
    have z2 : ∀ o, zpkk 2 o = 2 * o + 1 := fun _ => rfl
    have z3 : ∀ o, zpkk 3 o = 2 * o := fun _ => rfl
    have z4 : ∀ o, zpkk 4 o = 2 * o := fun _ => rfl
    have i0 : ∀ {f' o s c t} k, zpD B n f' 0 o s c t true → f' = f → o ≤ 9 → k ≤ 2 * o + 2 → zpde c k = some (k + 1) := fun k r e h1 h2 => by
      subst e
      have := ih r rfl h1 k (by rw [z0]; exact h2)
      rw [if_neg (by decide)] at this
      exact this
    have bin : ∀ k, zpd1 2 (k + 2) = some (k + 1) ∧ zpd1 3 (k + 2) = some (k + 1) := fun k => by
      unfold zpd1
      constructor
      · rw [if_neg (by decide), if_neg (by decide), if_pos (by omega)]; rfl
      · rw [if_neg (by decide), if_neg (by decide), if_pos (by omega)]; rfl
    rcases h with ⟨rfl, rfl, rfl, rfl, p1, p2⟩ | ⟨rfl, rfl, rfl, rfl, p1, p2, p3⟩ | ⟨rfl, rfl, rfl, rfl, p1, p2, p3, p4⟩ | ⟨rfl, rfl, rfl, rfl, p1, p2, p3, p4⟩ | ⟨rfl, rfl, rfl, rfl, p1, ho⟩ | ⟨rfl, rfl, p1, ho, r1⟩ | ⟨rfl, rfl, p1, ho, c1, rfl, r1⟩ | ⟨rfl, rfl, p1, ho, r1⟩ | ⟨rfl, rfl, p1, ho, r1, p2⟩ | ⟨rfl, rfl, p1, ho, t1, rfl, r1, p2⟩ | ⟨rfl, rfl, r1⟩ | ⟨rfl, c1, c2, t1, rfl, r1, r2⟩ | ⟨rfl, rfl, rfl, rfl, p1⟩ | ⟨rfl, rfl, p1, r1⟩ | ⟨rfl, p1, c1, c2, t1, rfl, r1, r2⟩ | ⟨rfl, rfl, r1⟩ | ⟨rfl, c1, c2, t1, rfl, r1, r2⟩ | ⟨rfl, rfl, rfl, rfl, p1⟩ | ⟨rfl, rfl, p1, r1⟩ | ⟨rfl, p1, c1, c2, t1, rfl, r1, r2⟩
    · cases hbt
    · cases hbt
    · cases hbt
    · rw [if_neg (by decide), zpde_1]
      rw [z0] at hk
      unfold zpd1
      rw [if_pos rfl, if_pos (by omega)]
    · cases hbt
    · cases hbt
    · rw [if_neg (by decide)]
      rw [z0] at hk
      rw [zpde_app _ _ _ _ (i0 k r1 rfl (by omega) (by omega)), zpde_1]
      unfold zpd1
      rw [if_neg (by decide), if_pos rfl, if_pos (by omega)]
    · cases hbt
    · cases hbt
    · rw [z0] at hk
      have := ih r1 rfl (by omega) k (by rw [z3]; omega)
      rw [if_neg (by decide)] at this ⊢
      exact this
    · cases hbt
    · rw [if_neg (by decide)]
      rw [z1] at hk
      rw [zpde_app _ _ _ _ (i0 k r1 rfl ho9 (by omega))]
      have := ih r2 hbt ho9 k (by rw [z2]; omega)
      rw [if_pos (Or.inl rfl)] at this
      exact this
    · rw [if_pos (Or.inl rfl)]; rfl
    · cases hbt
    · rw [if_pos (Or.inl rfl), List.append_assoc]
      rw [z2] at hk
      rw [zpde_app _ _ _ _ (i0 (k + 1) r1 rfl ho9 (by omega)), zpde_app [(2, 0, 0, 0)] _ (k + 1 + 1) (k + 1) (by rw [zpde_1]; exact (bin k).1)]
      have := ih r2 hbt ho9 k (by rw [z2]; omega)
      rw [if_pos (Or.inl rfl)] at this
      exact this
    · cases hbt
    · rw [if_neg (by decide)]
      rw [z3] at hk
      have a1 := ih r1 rfl ho9 k (by rw [z1]; omega)
      rw [if_neg (by decide)] at a1
      rw [zpde_app _ _ _ _ a1]
      have := ih r2 hbt ho9 k (by rw [z4]; omega)
      rw [if_pos (Or.inr rfl)] at this
      exact this
    · rw [if_pos (Or.inr rfl)]; rfl
    · cases hbt
    · rw [if_pos (Or.inr rfl), List.append_assoc]
      rw [z4] at hk
      have a1 := ih r1 rfl ho9 (k + 1) (by rw [z1]; omega)
      rw [if_neg (by decide)] at a1
      rw [zpde_app _ _ _ _ a1, zpde_app [(3, 0, 0, 0)] _ (k + 1 + 1) (k + 1) (by rw [zpde_1]; exact (bin k).2)]
      have := ih r2 hbt ho9 k (by rw [z4]; omega)
      rw [if_pos (Or.inr rfl)] at this
      exact this
/-- a statement from a token to a token -/
def zpsw (B : Nat → Nat) (n : Nat) (tr : Bool) (s : Nat) : Int32 := if tr = true then zwork (zwv B n (ztn B n s)) else 5
def zps2 (B : Nat → Nat) (n : Nat) (tr : Bool) (s : Nat) : Nat := if tr = true then ztn B n (ztn B n s) else ztn B n s
abbrev zsem (B : Nat → Nat) (n s : Nat) : Prop := zkd B n s = 3 ∧ B s = 59
def zpS (B : Nat → Nat) (n : Nat) (tr : Bool) (s : Nat) (c : List zSt) (t : Nat) (b : Bool) : Prop :=
  (b = false ∧ zverd (tr = true) (zwv B n s) = -1 ∧ t = s) ∨
  (b = false ∧ ¬ zverd (tr = true) (zwv B n s) = -1 ∧ zpsw B n tr s = -1 ∧ t = ztn B n s) ∨
  (b = false ∧ ¬ zverd (tr = true) (zwv B n s) = -1 ∧ ¬ zpsw B n tr s = -1 ∧ zwv B n (zps2 B n tr s) = 249 ∧ ∃ f, zpD B n f 3 0 (ztn B n (zps2 B n tr s)) c t false) ∨
  (b = false ∧ ¬ zverd (tr = true) (zwv B n s) = -1 ∧ ¬ zpsw B n tr s = -1 ∧ zwv B n (zps2 B n tr s) = 249 ∧ ∃ f, zpD B n f 3 0 (ztn B n (zps2 B n tr s)) c t true ∧ ¬ zsem B n t) ∨
  (b = true ∧ ¬ zverd (tr = true) (zwv B n s) = -1 ∧ ¬ zpsw B n tr s = -1 ∧ zwv B n (zps2 B n tr s) = 249 ∧ ∃ f t1, zpD B n f 3 0 (ztn B n (zps2 B n tr s)) c t1 true ∧ zsem B n t1 ∧ t = ztn B n t1) ∨
  (b = false ∧ ¬ zverd (tr = true) (zwv B n s) = -1 ∧ ¬ zpsw B n tr s = -1 ∧ ¬ zwv B n (zps2 B n tr s) = 249 ∧ ¬ zsem B n (zps2 B n tr s) ∧ t = zps2 B n tr s) ∨
  (b = true ∧ ¬ zverd (tr = true) (zwv B n s) = -1 ∧ ¬ zpsw B n tr s = -1 ∧ ¬ zwv B n (zps2 B n tr s) = 249 ∧ zsem B n (zps2 B n tr s) ∧ c = [] ∧ t = ztn B n (zps2 B n tr s))
theorem zps2_le {B : Nat → Nat} {n s : Nat} {tr : Bool} (hs : s ≤ n) : ztn B n s ≤ zps2 B n tr s ∧ zps2 B n tr s ≤ n := by
  have a1 := ztn_le (B := B) hs
  have a2 := ztn_le (B := B) a1.2.1
  unfold zps2
  split <;> omega
theorem zverd_k {B : Nat → Nat} {n s : Nat} {tr : Bool} (h : ¬ zverd (tr = true) (zwv B n s) = -1) : ¬ zkd B n s = 0 := fun h3 => by
  rw [zwv_k (by rw [h3]; decide)] at h
  refine h ?_
  unfold zverd
  cases tr <;> rfl
theorem zpS_ex {B : Nat → Nat} {n s : Nat} {tr : Bool} (hs : s ≤ n) : ∃ c t b, zpS B n tr s c t b := by
  have a2 := zps2_le (B := B) (tr := tr) hs
  have a3 := ztn_le (B := B) a2.2
  by_cases p1 : zverd (tr = true) (zwv B n s) = -1
  · exact ⟨[], _, _, Or.inl ⟨rfl, p1, rfl⟩⟩
  · by_cases p2 : zpsw B n tr s = -1
    · exact ⟨[], _, _, Or.inr (Or.inl ⟨rfl, p1, p2, rfl⟩)⟩
    · by_cases p3 : zwv B n (zps2 B n tr s) = 249
      · obtain ⟨c, t, b, r⟩ := zpD_ex (B := B) (n := n) _ 3 0 (ztn B n (zps2 B n tr s)) a3.2.1 (by decide) (Nat.lt_succ_self _)
        cases b with
        | false => exact ⟨c, t, false, Or.inr (Or.inr (Or.inl ⟨rfl, p1, p2, p3, _, r⟩))⟩
        | true =>
          by_cases p4 : zsem B n t
          · exact ⟨c, _, true, Or.inr (Or.inr (Or.inr (Or.inr (Or.inl ⟨rfl, p1, p2, p3, _, t, r, p4, rfl⟩))))⟩
          · exact ⟨c, t, false, Or.inr (Or.inr (Or.inr (Or.inl ⟨rfl, p1, p2, p3, _, r, p4⟩)))⟩
      · by_cases p4 : zsem B n (zps2 B n tr s)
        · exact ⟨[], _, true, Or.inr (Or.inr (Or.inr (Or.inr (Or.inr (Or.inr ⟨rfl, p1, p2, p3, p4, rfl, rfl⟩)))))⟩
        · exact ⟨[], _, false, Or.inr (Or.inr (Or.inr (Or.inr (Or.inr (Or.inl ⟨rfl, p1, p2, p3, p4, rfl⟩)))))⟩
/-- a good statement's tail -/
theorem zpS_good {B : Nat → Nat} {n s t : Nat} {tr : Bool} {c : List zSt} (hs : s ≤ n) (h : zpS B n tr s c t true) : ¬ zverd (tr = true) (zwv B n s) = -1 ∧ ¬ zpsw B n tr s = -1 ∧ s < t ∧ t ≤ n ∧ c.length ≤ t - s ∧ (∀ q, q ∈ c → zok4 q) ∧ zpde c 0 = some (if c = [] then 0 else 1) := by
  have a1 := ztn_le (B := B) hs
  have a2 := zps2_le (B := B) (tr := tr) hs
  have a3 := ztn_le (B := B) a2.2
  rcases h with ⟨q, -⟩ | ⟨q, -⟩ | ⟨q, -⟩ | ⟨q, -⟩ | ⟨-, p1, p2, p3, f, t1, r, p4, e⟩ | ⟨q, -⟩ | ⟨-, p1, p2, p3, p4, e1, e2⟩
  · cases q
  · cases q
  · cases q
  · cases q
  · have ln := zpD_len r a3.2.1
    have a4 := ztn_le (B := B) ln.2.1
    have := a1.2.2 (zverd_k p1)
    have l1 := ln.2.2.2 rfl (Or.inr (Or.inr rfl))
    have dp := zpD_dep r rfl (by decide) 0 (Nat.zero_le _)
    rw [if_neg (by decide)] at dp
    subst e
    refine ⟨p1, p2, by omega, by omega, by omega, zpD_ok r, ?_⟩
    rw [dp, if_neg]
    intro q
    rw [q] at l1
    exact absurd l1.2 (by decide)
  · cases q
  · have a4 := ztn_le (B := B) a2.2
    have := a1.2.2 (zverd_k p1)
    subst e1
    subst e2
    exact ⟨p1, p2, by omega, by omega, Nat.zero_le _, (fun q hq => by cases hq), rfl⟩
abbrev zTx := Int32 × Int32 × List zSt
/-- a text from a token on: i statements stand before -/
def zpL (B : Nat → Nat) (n : Nat) (tr : Bool) : Nat → Nat → Nat → List zTx → Nat → Bool → Prop
  | 0, _, _, _, _, _ => False
  | f + 1, i, s, L, t, b => (zkd B n s = 0 ∧ b = true ∧ L = [] ∧ t = s) ∨ (¬ zkd B n s = 0 ∧ i = 24 ∧ b = false ∧ L = [] ∧ t = s) ∨ (¬ zkd B n s = 0 ∧ i < 24 ∧ b = false ∧ L = [] ∧ ∃ c, zpS B n tr s c t false) ∨ (¬ zkd B n s = 0 ∧ i < 24 ∧ ∃ c s1 L1, zpS B n tr s c s1 true ∧ zpL B n tr f (i + 1) s1 L1 t b ∧ L = (zverd (tr = true) (zwv B n s), zpsw B n tr s, c) :: L1)
theorem zpL_ex {B : Nat → Nat} {n : Nat} {tr : Bool} : ∀ f i s, s ≤ n → i ≤ 24 → n - s < f → ∃ L t b, zpL B n tr f i s L t b := by
  intro f
  induction f with
  | zero => intro i s hs hi hf; exact absurd hf (Nat.not_lt_zero _)
  | succ f ih =>
    intro i s hs hi hf
    by_cases p1 : zkd B n s = 0
    · exact ⟨[], s, true, Or.inl ⟨p1, rfl, rfl, rfl⟩⟩
    · by_cases p2 : i = 24
      · exact ⟨[], s, false, Or.inr (Or.inl ⟨p1, p2, rfl, rfl, rfl⟩)⟩
      · obtain ⟨c, t, b, r⟩ := zpS_ex (B := B) (n := n) (tr := tr) hs
        cases b with
        | false => exact ⟨[], t, false, Or.inr (Or.inr (Or.inl ⟨p1, by omega, rfl, rfl, c, r⟩))⟩
        | true =>
          have g := zpS_good hs r
          obtain ⟨L1, t1, b1, r1⟩ := ih (i + 1) t g.2.2.2.1 (by omega) (by omega)
          exact ⟨_, t1, b1, Or.inr (Or.inr (Or.inr ⟨p1, by omega, c, t, L1, r, r1, rfl⟩))⟩
