/-! TOKENS: how a text's bytes are cut -/
def zkd (B : Nat → Nat) (n p : Nat) : Nat := if p < n then (if 97 ≤ B p ∧ B p ≤ 122 then 1 else if 48 ≤ B p ∧ B p ≤ 57 then 2 else if B p = 60 ∨ B p = 62 ∨ B p = 61 ∨ B p = 59 ∨ B p = 40 ∨ B p = 41 then 3 else 4) else 0
theorem zkd_0 {B : Nat → Nat} {n p : Nat} : zkd B n p = 0 ↔ n ≤ p := by
  unfold zkd
  repeat' split
  all_goals omega
theorem zkd_1 {B : Nat → Nat} {n p : Nat} : zkd B n p = 1 ↔ p < n ∧ 97 ≤ B p ∧ B p ≤ 122 := by
  unfold zkd
  repeat' split
  all_goals omega
theorem zkd_2 {B : Nat → Nat} {n p : Nat} : zkd B n p = 2 ↔ p < n ∧ 48 ≤ B p ∧ B p ≤ 57 := by
  unfold zkd
  repeat' split
  all_goals omega
theorem zkd_3 {B : Nat → Nat} {n p : Nat} : zkd B n p = 3 ↔ p < n ∧ (B p = 60 ∨ B p = 62 ∨ B p = 61 ∨ B p = 59 ∨ B p = 40 ∨ B p = 41) := by
  unfold zkd
  repeat' split
  all_goals omega
theorem zkd_le {B : Nat → Nat} {n p : Nat} : zkd B n p ≤ 4 := by
  unfold zkd
  repeat' split
  all_goals omega
/-- on from p while q holds, k at most -/
def zgo (q : Nat → Bool) : Nat → Nat → Nat
  | 0, p => p
  | k + 1, p => if q p = true then zgo q k (p + 1) else p
theorem zgo_ge {q : Nat → Bool} : ∀ k p, p ≤ zgo q k p ∧ zgo q k p ≤ p + k := by
  intro k
  induction k with
  | zero => intro p; exact ⟨Nat.le_refl _, Nat.le_refl _⟩
  | succ k ih =>
    intro p
    unfold zgo
    split
    · have := ih (p + 1); omega
    · omega
theorem zgo_in {q : Nat → Bool} : ∀ k p i, p ≤ i → i < zgo q k p → q i = true := by
  intro k
  induction k with
  | zero => intro p i h1 h2; exact absurd h2 (Nat.not_lt_of_le h1)
  | succ k ih =>
    intro p i h1 h2
    unfold zgo at h2
    split at h2
    · rename_i c
      by_cases e : i = p
      · rw [e]; exact c
      · exact ih (p + 1) i (by omega) h2
    · omega
theorem zgo_at {q : Nat → Bool} : ∀ k p, zgo q k p < p + k → ¬ q (zgo q k p) = true := by
  intro k
  induction k with
  | zero => intro p h; exact absurd h (Nat.lt_irrefl _)
  | succ k ih =>
    intro p h
    unfold zgo at h ⊢
    by_cases c : q p = true
    · rw [if_pos c] at h ⊢; exact ih (p + 1) (by omega)
    · rw [if_neg c]; exact c
def zsk (B : Nat → Nat) (n p : Nat) : Nat := zgo (fun i => decide (B i = 32 ∨ B i = 10)) (n - p) p
def zte (B : Nat → Nat) (n s : Nat) : Nat := if zkd B n s = 1 ∨ zkd B n s = 2 then zgo (fun i => decide (zkd B n i = zkd B n s)) (n - (s + 1)) (s + 1) else if zkd B n s = 0 then s else s + 1
def ztn (B : Nat → Nat) (n s : Nat) : Nat := zsk B n (zte B n s)
theorem zsk_le {B : Nat → Nat} {n p : Nat} (h : p ≤ n) : p ≤ zsk B n p ∧ zsk B n p ≤ n := by
  have := zgo_ge (q := fun i => decide (B i = 32 ∨ B i = 10)) (n - p) p
  unfold zsk
  omega
theorem zte_le {B : Nat → Nat} {n s : Nat} (h : s ≤ n) : s ≤ zte B n s ∧ zte B n s ≤ n ∧ (¬ zkd B n s = 0 → s < zte B n s) := by
  have := zgo_ge (q := fun i => decide (zkd B n i = zkd B n s)) (n - (s + 1)) (s + 1)
  have h0 := zkd_0 (B := B) (n := n) (p := s)
  unfold zte
  split
  · omega
  · split
    · omega
    · omega
theorem ztn_le {B : Nat → Nat} {n s : Nat} (h : s ≤ n) : s ≤ ztn B n s ∧ ztn B n s ≤ n ∧ (¬ zkd B n s = 0 → s < ztn B n s) := by
  have a := zte_le (B := B) h
  have b := zsk_le (B := B) a.2.1
  unfold ztn
  refine ⟨by omega, by omega, fun c => ?_⟩
  have := a.2.2 c
  omega
/-- where a text's k-th token stands -/
def zpn (B : Nat → Nat) (n : Nat) : Nat → Nat
  | 0 => zsk B n 0
  | k + 1 => ztn B n (zpn B n k)
theorem zpn_n {B : Nat → Nat} {n : Nat} : ∀ k, zpn B n k ≤ n ∧ (k ≤ zpn B n k ∨ zpn B n k = n) := by
  intro k
  induction k with
  | zero => exact ⟨(zsk_le (Nat.zero_le n)).2, Or.inl (Nat.zero_le _)⟩
  | succ k ih =>
    have a := ztn_le (B := B) ih.1
    show ztn B n (zpn B n k) ≤ n ∧ (k + 1 ≤ ztn B n (zpn B n k) ∨ ztn B n (zpn B n k) = n)
    refine ⟨a.2.1, ?_⟩
    by_cases c : zpn B n k < n
    · have := a.2.2 (fun q => by rw [zkd_0] at q; omega)
      have := ih.2
      omega
    · omega
theorem zsk_b {B : Nat → Nat} {n p i : Nat} (h1 : p ≤ i) (h2 : i < zsk B n p) : B i = 32 ∨ B i = 10 := by
  unfold zsk at h2
  exact of_decide_eq_true (zgo_in (n - p) p i h1 h2)
theorem zsk_nb {B : Nat → Nat} {n p : Nat} (hp : p ≤ n) (h : zsk B n p < n) : ¬ (B (zsk B n p) = 32 ∨ B (zsk B n p) = 10) := by
  have := zgo_at (q := fun i => decide (B i = 32 ∨ B i = 10)) (n - p) p (by unfold zsk at h; omega)
  rw [decide_eq_true_eq] at this
  exact this
/-- a token is no blank -/
theorem zpn_nb {B : Nat → Nat} {n : Nat} : ∀ k, zpn B n k < n → ¬ (B (zpn B n k) = 32 ∨ B (zpn B n k) = 10) := by
  intro k
  cases k with
  | zero => intro h; exact zsk_nb (Nat.zero_le n) h
  | succ k =>
    intro h
    exact zsk_nb (zte_le (B := B) (zpn_n k).1).2.1 h
theorem zte_in {B : Nat → Nat} {n s m : Nat} (hm : m = 1 ∨ m = 2) (hk : zkd B n s = m) : ∀ i, s ≤ i → i < zte B n s → zkd B n i = m := by
  intro i h1 h2
  unfold zte at h2
  rw [hk, if_pos hm] at h2
  by_cases e : i = s
  · rw [e]; exact hk
  · exact of_decide_eq_true (zgo_in (n - (s + 1)) (s + 1) i (by omega) h2)
theorem zte_at {B : Nat → Nat} {n s m : Nat} (hm : m = 1 ∨ m = 2) (hk : zkd B n s = m) (h : zte B n s < n) : ¬ zkd B n (zte B n s) = m := by
  have hs : s < n := by
    rcases Nat.lt_or_ge s n with q | q
    · exact q
    · have := (zkd_0 (B := B)).mpr q; omega
  have e : zte B n s = zgo (fun i => decide (zkd B n i = m)) (n - (s + 1)) (s + 1) := by
    unfold zte
    rw [hk, if_pos hm]
  have := zgo_at (q := fun i => decide (zkd B n i = m)) (n - (s + 1)) (s + 1) (by rw [← e]; omega)
  rw [← e, decide_eq_true_eq] at this
  exact this
theorem zte_1 {B : Nat → Nat} {n s : Nat} (h0 : ¬ zkd B n s = 0) (h1 : ¬ (zkd B n s = 1 ∨ zkd B n s = 2)) : zte B n s = s + 1 := by
  unfold zte
  rw [if_neg h1, if_neg h0]
theorem zpn_in {B : Nat → Nat} {n k i : Nat} (h1 : zte B n (zpn B n k) ≤ i) (h2 : i < zpn B n (k + 1)) : B i = 32 ∨ B i = 10 := zsk_b h1 h2
theorem zpn_ge {B : Nat → Nat} {n k : Nat} : zte B n (zpn B n k) ≤ zpn B n (k + 1) := (zsk_le (zte_le (B := B) (zpn_n k).1).2.1).1
/-- t tokens begin ahead of i -/
def zCt (B : Nat → Nat) (n i t : Nat) : Prop := (∀ k, k < t → zpn B n k < i) ∧ i ≤ zpn B n t
theorem zCt_le {B : Nat → Nat} {n i t : Nat} (h : zCt B n i t) (hi : i ≤ n) : t ≤ i := by
  cases t with
  | zero => exact Nat.zero_le _
  | succ k =>
    have a := h.1 k (Nat.lt_succ_self k)
    have := (zpn_n (B := B) (n := n) k).2
    omega
theorem zblk {B : Nat → Nat} {n i : Nat} (h : B i = 32 ∨ B i = 10) (hi : i < n) : zkd B n i = 4 := by
  unfold zkd
  rw [if_pos hi]
  repeat' split
  all_goals omega
/-- ahead of i stands no blank: it is of the token at hand -/
theorem zCt_pre {B : Nat → Nat} {n i t : Nat} (h : zCt B n i (t + 1)) (h0 : 0 < i) (hi : i ≤ n) (hb : ¬ (B (i - 1) = 32 ∨ B (i - 1) = 10)) : i - 1 < zte B n (zpn B n t) := by
  rcases Nat.lt_or_ge (i - 1) (zte B n (zpn B n t)) with q | q
  · exact q
  · exact absurd (zpn_in q (by have := h.2; omega)) hb
theorem zCt_pre0 {B : Nat → Nat} {n i : Nat} (h : zCt B n i 0) (h0 : 0 < i) : B (i - 1) = 32 ∨ B (i - 1) = 10 := zsk_b (Nat.zero_le _) (show i - 1 < zsk B n 0 by have := h.2; have e : zpn B n 0 = zsk B n 0 := rfl; omega)
/-- was the byte ahead of i of the kind m -/
abbrev zwas (B : Nat → Nat) (n m i : Nat) : Prop := 0 < i ∧ zkd B n (i - 1) = m
/-- a token goes on at i just where it and the byte ahead are letters, or digits -/
theorem zCt_on {B : Nat → Nat} {n i t : Nat} (h : zCt B n i (t + 1)) (hi : i < n) (h0 : 0 < i) : (i < zte B n (zpn B n t)) ↔ ((zkd B n i = 1 ∧ zwas B n 1 i) ∨ (zkd B n i = 2 ∧ zwas B n 2 i)) := by
  have a0 := h.1 t (Nat.lt_succ_self t)
  have pn : zpn B n t < n := by omega
  have k0 : ¬ zkd B n (zpn B n t) = 0 := fun q => by rw [zkd_0] at q; omega
  have tl := zte_le (B := B) (zpn_n (B := B) (n := n) t).1
  constructor
  · intro hlt
    by_cases c : zkd B n (zpn B n t) = 1 ∨ zkd B n (zpn B n t) = 2
    · obtain ⟨m, hm⟩ : ∃ m, zkd B n (zpn B n t) = m := ⟨_, rfl⟩
      rw [hm] at c
      have e1 := zte_in c hm i (by omega) hlt
      have e2 := zte_in c hm (i - 1) (by omega) (by omega)
      rcases c with c | c
      · subst c; exact Or.inl ⟨e1, h0, e2⟩
      · subst c; exact Or.inr ⟨e1, h0, e2⟩
    · have := zte_1 k0 c
      omega
  · intro hw
    obtain ⟨m, hm, e1, e2⟩ : ∃ m, (m = 1 ∨ m = 2) ∧ zkd B n i = m ∧ zkd B n (i - 1) = m := by
      rcases hw with ⟨x, y⟩ | ⟨x, y⟩
      · exact ⟨1, Or.inl rfl, x, y.2⟩
      · exact ⟨2, Or.inr rfl, x, y.2⟩
    have nb : ¬ (B (i - 1) = 32 ∨ B (i - 1) = 10) := fun q => by
      have := zblk (n := n) q (by omega)
      omega
    have pr := zCt_pre h h0 (by omega) nb
    have km : zkd B n (zpn B n t) = m := by
      by_cases c : zkd B n (zpn B n t) = 1 ∨ zkd B n (zpn B n t) = 2
      · obtain ⟨m', hm'⟩ : ∃ m', zkd B n (zpn B n t) = m' := ⟨_, rfl⟩
        rw [hm'] at c
        have := zte_in c hm' (i - 1) (by omega) pr
        omega
      · have := zte_1 k0 c
        have e : zpn B n t = i - 1 := by omega
        rw [e]; exact e2
    rcases Nat.lt_or_ge i (zte B n (zpn B n t)) with q | q
    · exact q
    · have e : zte B n (zpn B n t) = i := by omega
      have := zte_at hm km (by omega)
      rw [e] at this
      exact absurd e1 this
theorem zCt_on0 {B : Nat → Nat} {n i : Nat} (h : zCt B n i 0) (hi : i ≤ n) : ¬ zwas B n 1 i ∧ ¬ zwas B n 2 i := by
  refine ⟨fun q => ?_, fun q => ?_⟩ <;>
  · have b := zblk (n := n) (zCt_pre0 h q.1) (by have := q.1; omega)
    have := q.2
    omega
/-- the next byte is of the token at hand -/
theorem zCt_go {B : Nat → Nat} {n i t : Nat} (h : zCt B n i (t + 1)) (hlt : i < zte B n (zpn B n t)) : zCt B n (i + 1) (t + 1) := by
  refine ⟨fun k hk => Nat.lt_succ_of_lt (h.1 k hk), ?_⟩
  have := zpn_ge (B := B) (n := n) (k := t)
  omega
/-- the next byte is a blank -/
theorem zCt_bl {B : Nat → Nat} {n i t : Nat} (h : zCt B n i t) (hi : i < n) (hb : B i = 32 ∨ B i = 10) : zCt B n (i + 1) t := by
  refine ⟨fun k hk => Nat.lt_succ_of_lt (h.1 k hk), ?_⟩
  rcases Nat.lt_or_ge i (zpn B n t) with q | q
  · exact q
  · have e : zpn B n t = i := by have := h.2; omega
    have := zpn_nb (B := B) (n := n) t (by omega)
    rw [e] at this
    exact absurd hb this
/-- the next byte begins a token -/
theorem zCt_new {B : Nat → Nat} {n i t : Nat} (h : zCt B n i t) (hi : i < n) (hb : ¬ (B i = 32 ∨ B i = 10)) (hn : ∀ k, t = k + 1 → zte B n (zpn B n k) ≤ i) : zpn B n t = i ∧ zCt B n (i + 1) (t + 1) := by
  have e : zpn B n t = i := by
    rcases Nat.lt_or_ge i (zpn B n t) with q | q
    · refine absurd ?_ hb
      cases t with
      | zero => exact zsk_b (Nat.zero_le _) q
      | succ k => exact zpn_in (hn k rfl) q
    · have := h.2; omega
  refine ⟨e, fun k hk => ?_, ?_⟩
  · by_cases c : k = t
    · rw [c, e]; exact Nat.lt_succ_self i
    · exact Nat.lt_succ_of_lt (h.1 k (by omega))
  · have k0 : ¬ zkd B n (zpn B n t) = 0 := fun q => by rw [zkd_0, e] at q; omega
    have := (ztn_le (B := B) (zpn_n (B := B) (n := n) t).1).2.2 k0
    rw [e] at this
    show i + 1 ≤ ztn B n (zpn B n t)
    rw [e]
    exact this
