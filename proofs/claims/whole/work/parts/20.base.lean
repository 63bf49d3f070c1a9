/-! THE MATHEMATICS' BASE: what holds of the abstract heap's changes, of rows, of loops; ints as naturals; bits. -/
theorem z_st1 {h : ai_H} {a j : Nat} {v : Int32} {b k : Nat} : (ai_st h a j v).1 b k = if b = a ∧ k = j then v else h.1 b k := by
  show ai_u h.1 a j v b k = _
  unfold ai_u
  by_cases h1 : b = a
  · subst h1
    by_cases h2 : k = j
    · subst h2; simp [upd]
    · simp [upd, h2]
  · simp [h1]
theorem z_st2 {h : ai_H} {a j : Nat} {v : Int32} : (ai_st h a j v).2 = h.2 := rfl
theorem z_stS {h : ai_H} {a j : Nat} {v : Int32} : (ai_st h a j v).1 a j = v := by rw [z_st1, if_pos ⟨rfl, rfl⟩]
theorem z_cpy2 {h : ai_H} {a sp b dp n : Nat} : (ai_cpy h a sp b dp n).2 = h.2 := rfl
theorem z_cpy1 {h : ai_H} {a sp b dp n q k : Nat} : (ai_cpy h a sp b dp n).1 q k = if q = b ∧ dp ≤ k ∧ k < dp + n then h.1 a (sp + (k - dp)) else h.1 q k := by
  show (if q = b then va_cpy (h.1 a) (h.1 b) sp dp n else h.1 q) k = _
  by_cases h1 : q = b
  · subst h1
    rw [if_pos rfl]
    by_cases h2 : dp ≤ k ∧ k < dp + n
    · rw [if_pos ⟨rfl, h2⟩, pk_cpy_in h2.1 h2.2]
    · rw [if_neg (fun c => h2 c.2), pk_cpy_out (by omega)]
  · rw [if_neg h1, if_neg (fun c => h1 c.1)]
theorem z_ix {i n : Nat} {f : Nat → Option ai_R} (hi : i < n) (hn : n < 2147483648) : ai_ix (nI i) n f = f i := by
  have h1 : (nI i).toInt = (i : Int) := nI_toInt (by omega)
  unfold ai_ix
  rw [if_pos (by omega), nI_clamp (by omega)]
theorem z_ixv {x : Int32} {n : Nat} {f : Nat → Option ai_R} (h0 : 0 ≤ x.toInt) (hi : x.toInt < n) : ai_ix x n f = f x.toInt.toNat := by
  unfold ai_ix
  rw [if_pos ⟨h0, hi⟩]
  rfl
theorem z_nat {x : Int32} (h : 0 ≤ x.toInt) : x = nI x.toInt.toNat := by
  apply Int32.toInt_inj.mp
  have := x.toInt_lt
  rw [nI_toInt (by omega)]
  omega
theorem z_le {x y : Int32} : x ≤ y ↔ x.toInt ≤ y.toInt := Int32.le_iff_toInt_le
theorem z_lt {x y : Int32} : x < y ↔ x.toInt < y.toInt := Int32.lt_iff_toInt_lt
theorem z_eq {x y : Int32} : x = y ↔ x.toInt = y.toInt := Int32.toInt_inj.symm
theorem z_T {n : Nat} (h : n < 2147483648) : (nI n).toInt = (n : Int) := nI_toInt h
theorem z_rg (x : Int32) : -2147483648 ≤ x.toInt ∧ x.toInt < 2147483648 := ⟨x.le_toInt, x.toInt_lt⟩
theorem z_add {x y : Int32} (h1 : -2147483648 ≤ x.toInt + y.toInt) (h2 : x.toInt + y.toInt < 2147483648) : (x + y).toInt = x.toInt + y.toInt := by
  rw [Int32.toInt_add]
  simp only [Int.bmod_def]
  omega
theorem z_sub {x y : Int32} (h1 : -2147483648 ≤ x.toInt - y.toInt) (h2 : x.toInt - y.toInt < 2147483648) : (x - y).toInt = x.toInt - y.toInt := by
  rw [Int32.toInt_sub]
  simp only [Int.bmod_def]
  omega
theorem z_neg {x : Int32} (h1 : -2147483648 < x.toInt) : (-x).toInt = -x.toInt := by
  have := z_rg x
  rw [Int32.toInt_neg]
  simp only [Int.bmod_def]
  omega
theorem z_mul {x y : Int32} (h1 : -2147483648 ≤ x.toInt * y.toInt) (h2 : x.toInt * y.toInt < 2147483648) : (x * y).toInt = x.toInt * y.toInt := by
  rw [Int32.toInt_mul]
  generalize x.toInt * y.toInt = z at *
  simp only [Int.bmod_def]
  omega
/-- 0 or 1 -/
def zb (p : Prop) [Decidable p] : Int32 := if p then 1 else 0
theorem zb_t {p : Prop} [Decidable p] (h : p) : zb p = 1 := if_pos h
theorem zb_f {p : Prop} [Decidable p] (h : ¬ p) : zb p = 0 := if_neg h
theorem zb_0 {p : Prop} [Decidable p] : zb p = 0 ↔ ¬ p := by
  unfold zb; by_cases h : p
  · rw [if_pos h]; exact ⟨fun c => absurd c (by decide), fun c => absurd h c⟩
  · rw [if_neg h]; exact ⟨fun _ => h, fun _ => rfl⟩
theorem zb_1 {p : Prop} [Decidable p] : zb p = 1 ↔ p := by
  unfold zb; by_cases h : p
  · rw [if_pos h]; exact ⟨fun _ => h, fun _ => rfl⟩
  · rw [if_neg h]; exact ⟨fun c => absurd c (by decide), fun c => absurd c h⟩
theorem zb_b {p : Prop} [Decidable p] {o : Option ai_R} : ai_b01 (zb p) o = o := by
  unfold ai_b01
  rw [if_pos]
  by_cases h : p
  · right; exact zb_t h
  · left; exact zb_f h
theorem zb_c {p q : Prop} [Decidable p] [Decidable q] (h : p ↔ q) : zb p = zb q := by
  by_cases hp : p
  · rw [zb_t hp, zb_t (h.mp hp)]
  · rw [zb_f hp, zb_f (fun c => hp (h.mpr c))]
theorem z_b1 {o : Option ai_R} : ai_b01 1 o = o := by unfold ai_b01; rw [if_pos (Or.inr rfl)]
theorem z_b0 {o : Option ai_R} : ai_b01 0 o = o := by unfold ai_b01; rw [if_pos (Or.inl rfl)]
theorem z_bi {v : Int32} {h : ai_H} {f : Int32 → ai_H → Option ai_R} : ai_bi (some ([.inl v], h)) f = f v h := rfl
theorem z_bv {h : ai_H} {f : ai_H → Option ai_R} : ai_bv (some ([], h)) f = f h := rfl
theorem z_br {t n a : Nat} {h : ai_H} {f : Nat → Nat → Nat → ai_H → Option ai_R} : ai_br (some ([.inr (.inr (t, n, a))], h)) f = f t n a h := rfl
/-- all but some ints stand -/
def zF (P : Nat → Nat → Prop) (h h' : ai_H) : Prop := (∀ q j, ¬ P q j → h'.1 q j = h.1 q j) ∧ h'.2 = h.2
theorem zF_rf {P : Nat → Nat → Prop} {h : ai_H} : zF P h h := ⟨fun _ _ _ => rfl, rfl⟩
theorem zF_tr {P : Nat → Nat → Prop} {h h' h'' : ai_H} (a : zF P h h') (b : zF P h' h'') : zF P h h'' := ⟨fun q j n => (b.1 q j n).trans (a.1 q j n), b.2.trans a.2⟩
theorem zF_st {P : Nat → Nat → Prop} {h h' : ai_H} (a : zF P h h') {c j : Nat} {v : Int32} (n : P c j) : zF P h (ai_st h' c j v) := by
  refine ⟨fun q i hn => ?_, a.2⟩
  rw [z_st1, if_neg, a.1 q i hn]
  rintro ⟨rfl, rfl⟩
  exact hn n
theorem zF_cpy {P : Nat → Nat → Prop} {h h' : ai_H} (a : zF P h h') {c sp b dp n : Nat} (hb : ∀ j, dp ≤ j → j < dp + n → P b j) : zF P h (ai_cpy h' c sp b dp n) := by
  refine ⟨fun q i hn => ?_, a.2⟩
  rw [z_cpy1, if_neg, a.1 q i hn]
  rintro ⟨rfl, h1, h2⟩
  exact hn (hb _ h1 h2)
theorem zF_mono {P Q : Nat → Nat → Prop} {h h' : ai_H} (a : zF P h h') (m : ∀ q j, P q j → Q q j) : zF Q h h' := ⟨fun q j n => a.1 q j (fun c => n (m q j c)), a.2⟩
/-- an int answer, and all but some ints stand -/
def zA (P : Nat → Nat → Prop) (h : ai_H) (o : Option ai_R) (v : Int32) : Prop := ∃ h', o = some ([.inl v], h') ∧ zF P h h'
theorem zA_of {P : Nat → Nat → Prop} {h : ai_H} {v : Int32} : zA P h (some ([.inl v], h)) v := ⟨h, rfl, zF_rf⟩
/-- loops -/
def zfold {α : Type} (f : Nat → α → α) : Nat → α → α
  | 0, s => s
  | n + 1, s => f n (zfold f n s)
theorem z_for {α : Type} (F : Nat → α → Option ai_R) (I : Nat → α → Prop) (f : Nat → α → α) (n : Nat) (hs : ∀ i s, i < n → I i s → F i s = F (i + 1) (f i s) ∧ I (i + 1) (f i s)) (s : α) (h0 : I 0 s) : F 0 s = F n (zfold f n s) ∧ I n (zfold f n s) := by
  have K : ∀ k, k ≤ n → F 0 s = F k (zfold f k s) ∧ I k (zfold f k s) := by
    intro k
    induction k with
    | zero => intro _; exact ⟨rfl, h0⟩
    | succ k ih =>
      intro hk
      obtain ⟨e1, i1⟩ := ih (by omega)
      obtain ⟨e2, i2⟩ := hs k _ (by omega) i1
      exact ⟨e1.trans e2, i2⟩
  exact K n (Nat.le_refl _)
/-- the first from i on, of k -/
def zf (p : Nat → Prop) [DecidablePred p] : Nat → Nat → Option Nat
  | _, 0 => none
  | i, k + 1 => if p i then some i else zf p (i + 1) k
def zfst (p : Nat → Prop) [DecidablePred p] (n : Nat) : Option Nat := zf p 0 n
theorem z_findI (F G : Nat → Option ai_R) (p : Nat → Prop) [DecidablePred p] (n : Nat) (hs : ∀ i, i < n → F i = if p i then G i else F (i + 1)) : ∀ k i, i + k = n → F i = match zf p i k with
    | some j => G j
    | none => F n := by
  intro k
  induction k with
  | zero => intro i hi; rw [show i = n by omega]; rfl
  | succ k ih =>
    intro i hi
    rw [hs i (by omega)]
    unfold zf
    by_cases hp : p i
    · rw [if_pos hp, if_pos hp]
    · rw [if_neg hp, if_neg hp]; exact ih (i + 1) (by omega)
theorem z_find (F G : Nat → Option ai_R) (p : Nat → Prop) [DecidablePred p] (n : Nat) (hs : ∀ i, i < n → F i = if p i then G i else F (i + 1)) : F 0 = match zfst p n with
    | some j => G j
    | none => F n := z_findI F G p n hs n 0 (by omega)
theorem zf_some {p : Nat → Prop} [DecidablePred p] : ∀ {k i j : Nat}, zf p i k = some j → p j ∧ i ≤ j ∧ j < i + k ∧ ∀ m, i ≤ m → m < j → ¬ p m := by
  intro k
  induction k with
  | zero => intro i j h; cases h
  | succ k ih =>
    intro i j h
    unfold zf at h
    by_cases hp : p i
    · rw [if_pos hp] at h; cases h; exact ⟨hp, by omega, by omega, fun m _ _ => by omega⟩
    · rw [if_neg hp] at h
      obtain ⟨a, b, c, e⟩ := ih h
      refine ⟨a, by omega, by omega, fun m h1 h2 => ?_⟩
      by_cases hm : m = i
      · subst hm; exact hp
      · exact e m (by omega) h2
theorem zf_none {p : Nat → Prop} [DecidablePred p] : ∀ {k i : Nat}, zf p i k = none → ∀ m, i ≤ m → m < i + k → ¬ p m := by
  intro k
  induction k with
  | zero => intro i _ m h1 h2; omega
  | succ k ih =>
    intro i h m h1 h2
    unfold zf at h
    by_cases hp : p i
    · rw [if_pos hp] at h; cases h
    · rw [if_neg hp] at h
      by_cases hm : m = i
      · subst hm; exact hp
      · exact ih h m (by omega) (by omega)
theorem zfst_some {p : Nat → Prop} [DecidablePred p] {n j : Nat} (h : zfst p n = some j) : p j ∧ j < n ∧ ∀ m, m < j → ¬ p m := by
  obtain ⟨a, _, c, e⟩ := zf_some h
  exact ⟨a, by omega, fun m hm => e m (by omega) hm⟩
theorem zfst_none {p : Nat → Prop} [DecidablePred p] {n : Nat} (h : zfst p n = none) : ∀ m, m < n → ¬ p m := fun m hm => zf_none h m (by omega) (by omega)
theorem zfst_is {p : Nat → Prop} [DecidablePred p] {n j : Nat} (hj : j < n) (hp : p j) (hl : ∀ m, m < j → ¬ p m) : zfst p n = some j := by
  cases h : zfst p n with
  | none => exact absurd hp (zfst_none h j hj)
  | some k =>
    obtain ⟨a, b, c⟩ := zfst_some h
    rcases Nat.lt_trichotomy j k with h1 | h1 | h1
    · exact absurd hp (c j h1)
    · rw [h1]
    · exact absurd a (hl k h1)
theorem zfst_no {p : Nat → Prop} [DecidablePred p] {n : Nat} (hl : ∀ m, m < n → ¬ p m) : zfst p n = none := by
  cases h : zfst p n with
  | none => rfl
  | some k =>
    obtain ⟨a, b, c⟩ := zfst_some h
    exact absurd a (hl k b)
theorem zfst_c {p q : Nat → Prop} [DecidablePred p] [DecidablePred q] {n : Nat} (h : ∀ i, i < n → (p i ↔ q i)) : zfst p n = zfst q n := by
  cases e : zfst q n with
  | none => exact zfst_no fun m hm => fun c => zfst_none e m hm ((h m hm).mp c)
  | some j =>
    obtain ⟨a, b, c⟩ := zfst_some e
    exact zfst_is b ((h j b).mpr a) fun m hm => fun c' => c m hm ((h m (by omega)).mp c')
/-- the last below n -/
def zlst (p : Nat → Prop) [DecidablePred p] : Nat → Option Nat
  | 0 => none
  | n + 1 => if p n then some n else zlst p n
theorem zlst_some {p : Nat → Prop} [DecidablePred p] : ∀ {n j : Nat}, zlst p n = some j → p j ∧ j < n ∧ ∀ m, j < m → m < n → ¬ p m := by
  intro n
  induction n with
  | zero => intro j h; cases h
  | succ n ih =>
    intro j h
    unfold zlst at h
    by_cases hp : p n
    · rw [if_pos hp] at h; cases h; exact ⟨hp, by omega, fun m _ _ => by omega⟩
    · rw [if_neg hp] at h
      obtain ⟨a, b, c⟩ := ih h
      refine ⟨a, by omega, fun m h1 h2 => ?_⟩
      by_cases hm : m = n
      · subst hm; exact hp
      · exact c m h1 (by omega)
theorem zlst_none {p : Nat → Prop} [DecidablePred p] : ∀ {n : Nat}, zlst p n = none → ∀ m, m < n → ¬ p m := by
  intro n
  induction n with
  | zero => intro _ m h; omega
  | succ n ih =>
    intro h m hm
    unfold zlst at h
    by_cases hp : p n
    · rw [if_pos hp] at h; cases h
    · rw [if_neg hp] at h
      by_cases hmn : m = n
      · subst hmn; exact hp
      · exact ih h m (by omega)
