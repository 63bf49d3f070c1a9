/-! LEDGERS: rows sorted by days; the last of a kind; all of a kind -/
abbrev zok (s d kn : Int32) (r : zR4) : Prop := r.2.1 ≤ d ∧ r.2.2.2 ≤ kn ∧ r.1 = s
def zrN : zR4 := (0, 0, 0, 0)
/-- the last row that is so -/
def zlv (p : zR4 → Prop) [DecidablePred p] : List zR4 → Option zR4
  | [] => none
  | x :: l => match zlv p l with
    | some y => some y
    | none => if p x then some x else none
theorem zlv_app {p : zR4 → Prop} [DecidablePred p] {x : zR4} : ∀ l, zlv p (l ++ [x]) = if p x then some x else zlv p l := by
  intro l
  induction l with
  | nil => show (match zlv p [] with | some y => some y | none => if p x then some x else none) = _; rfl
  | cons y l ih =>
    show (match zlv p (l ++ [x]) with | some z => some z | none => if p y then some y else none) = _
    rw [ih]
    by_cases h : p x
    · rw [if_pos h, if_pos h]
    · rw [if_neg h, if_neg h]; rfl
theorem zlv_p {p : zR4 → Prop} [DecidablePred p] {y : zR4} : ∀ {l}, zlv p l = some y → p y ∧ y ∈ l := by
  intro l
  induction l with
  | nil => intro h; cases h
  | cons x l ih =>
    intro h
    unfold zlv at h
    cases e : zlv p l with
    | some z =>
      rw [e] at h
      cases h
      exact ⟨(ih e).1, List.mem_cons_of_mem _ (ih e).2⟩
    | none =>
      rw [e] at h
      dsimp only at h
      by_cases c : p x
      · rw [if_pos c] at h; cases h; exact ⟨c, List.mem_cons_self⟩
      · rw [if_neg c] at h; cases h
theorem zlst_zlv {p : zR4 → Prop} [DecidablePred p] (l : List zR4) : ∀ k, k ≤ l.length → (zlst (fun i => p (l.getD i zrN)) k).map (fun i => l.getD i zrN) = zlv p (l.take k) := by
  intro k
  induction k with
  | zero => intro _; rfl
  | succ k ih =>
    intro hk
    have e : l.take (k + 1) = l.take k ++ [l.getD k zrN] := by
      rw [List.take_succ, List.getD_eq_getElem?_getD, List.getElem?_eq_getElem (by omega)]
      rfl
    rw [e, zlv_app]
    unfold zlst
    by_cases c : p (l.getD k zrN)
    · rw [if_pos c, if_pos c]; rfl
    · rw [if_neg c, if_neg c]; exact ih (by omega)
/-- sorted by days -/
def zsd (l : List zR4) : Prop := l.Pairwise (fun x y => x.2.1 ≤ y.2.1)
theorem zins_mem {r x : zR4} : ∀ {l}, x ∈ zins r l ↔ x = r ∨ x ∈ l := by
  intro l
  induction l with
  | nil => simp [zins]
  | cons y l ih =>
    unfold zins
    by_cases c : r.2.1 < y.2.1
    · rw [if_pos c]; simp
    · rw [if_neg c]
      simp only [List.mem_cons, ih]
      constructor
      · rintro (h | h | h)
        · exact Or.inr (Or.inl h)
        · exact Or.inl h
        · exact Or.inr (Or.inr h)
      · rintro (h | h | h)
        · exact Or.inr (Or.inl h)
        · exact Or.inl h
        · exact Or.inr (Or.inr h)
theorem zins_len {r : zR4} : ∀ {l}, (zins r l).length = l.length + 1 := by
  intro l
  induction l with
  | nil => rfl
  | cons y l ih =>
    unfold zins
    by_cases c : r.2.1 < y.2.1
    · rw [if_pos c]; rfl
    · rw [if_neg c]; simp [ih]
theorem zins_sd {r : zR4} : ∀ {l}, zsd l → zsd (zins r l) := by
  intro l
  induction l with
  | nil => intro _; simp [zins, zsd]
  | cons y l ih =>
    intro h
    unfold zsd at h ih ⊢
    rw [List.pairwise_cons] at h
    unfold zins
    by_cases c : r.2.1 < y.2.1
    · rw [if_pos c, List.pairwise_cons, List.pairwise_cons]
      refine ⟨fun z hz => ?_, h⟩
      rw [z_lt] at c
      rw [List.mem_cons] at hz
      rcases hz with rfl | hz
      · rw [z_le]; omega
      · have := h.1 z hz
        rw [z_le] at this ⊢
        omega
    · rw [if_neg c, List.pairwise_cons]
      refine ⟨fun z hz => ?_, ih h.2⟩
      rw [zins_mem] at hz
      rcases hz with rfl | hz
      · rw [z_lt] at c
        rw [z_le]; omega
      · exact h.1 z hz
theorem zled_sd (σ : Nat → Nat → Int32) (k : Int32) : ∀ n, zsd (zled σ k n) := by
  intro n
  induction n with
  | zero => exact List.Pairwise.nil
  | succ n ih =>
    unfold zled
    by_cases c : σ 22 n = k
    · rw [if_pos c]; exact zins_sd ih
    · rw [if_neg c]; exact ih
theorem zled_len (σ : Nat → Nat → Int32) (k : Int32) : ∀ n, (zled σ k n).length = zcnt (fun e => σ 22 e = k) n := by
  intro n
  induction n with
  | zero => rfl
  | succ n ih =>
    unfold zled zcnt
    by_cases c : σ 22 n = k
    · rw [if_pos c, if_pos c, zins_len, ih]
    · rw [if_neg c, if_neg c, ih]; rfl
theorem zled_mem {σ : Nat → Nat → Int32} {k : Int32} {r : zR4} : ∀ {n}, r ∈ zled σ k n ↔ ∃ e, e < n ∧ σ 22 e = k ∧ r = zrow σ e := by
  intro n
  induction n with
  | zero => simp [zled]
  | succ n ih =>
    unfold zled
    by_cases c : σ 22 n = k
    · rw [if_pos c, zins_mem, ih]
      constructor
      · rintro (h | ⟨e, h1, h2⟩)
        · exact ⟨n, by omega, c, h⟩
        · exact ⟨e, by omega, h2⟩
      · rintro ⟨e, h1, h2, h3⟩
        by_cases hn : e = n
        · subst hn; exact Or.inl h3
        · exact Or.inr ⟨e, by omega, h2, h3⟩
    · rw [if_neg c, ih]
      constructor
      · rintro ⟨e, h1, h2⟩
        exact ⟨e, by omega, h2⟩
      · rintro ⟨e, h1, h2, h3⟩
        refine ⟨e, ?_, h2, h3⟩
        by_cases hn : e = n
        · subst hn; exact absurd h2 c
        · omega
/-- the last, behind a row more -/
theorem zlv_ins {p : zR4 → Prop} [DecidablePred p] {r : zR4} : ∀ {l}, zsd l → zlv p (zins r l) = if p r then (match zlv p l with
    | none => some r
    | some y => if y.2.1 ≤ r.2.1 then some r else some y) else zlv p l := by
  intro l
  induction l with
  | nil => intro _; unfold zins zlv; by_cases c : p r <;> simp [zlv, c]
  | cons x l ih =>
    intro h
    unfold zsd at h ih
    rw [List.pairwise_cons] at h
    unfold zins
    by_cases c : r.2.1 < x.2.1
    · rw [if_pos c]
      show (match zlv p (x :: l) with | some y => some y | none => if p r then some r else none) = _
      cases e : zlv p (x :: l) with
      | none => simp only
      | some y =>
        have hy := (zlv_p e).2
        have hxy : x.2.1 ≤ y.2.1 := by
          rw [List.mem_cons] at hy
          rcases hy with rfl | hy
          · rw [z_le]; omega
          · exact h.1 y hy
        simp only
        by_cases cr : p r
        · rw [if_pos cr, if_neg]
          rw [z_le] at hxy ⊢
          rw [z_lt] at c
          omega
        · rw [if_neg cr]
    · rw [if_neg c]
      show (match zlv p (zins r l) with | some y => some y | none => if p x then some x else none) = _
      rw [ih h.2]
      have el : zlv p (x :: l) = match zlv p l with | some y => some y | none => if p x then some x else none := rfl
      rw [el]
      have cx : x.2.1 ≤ r.2.1 := by rw [z_lt] at c; rw [z_le]; omega
      by_cases cr : p r
      · rw [if_pos cr, if_pos cr]
        cases e : zlv p l with
        | none =>
          simp only
          by_cases cp : p x
          · rw [if_pos cp]; simp only [if_pos cx]
          · rw [if_neg cp]
        | some y =>
          simp only
          by_cases cy : y.2.1 ≤ r.2.1
          · rw [if_pos cy]
          · rw [if_neg cy]
      · rw [if_neg cr, if_neg cr]
/-- the reference's last: of what was told of a kind and a subject by a day, known so far, the one of the last day, of these the last told -/
def zbest (σ : Nat → Nat → Int32) (k w d kn : Int32) : Nat → Option Nat
  | 0 => none
  | e + 1 => if σ 22 e = k ∧ σ 23 e = w ∧ σ 24 e ≤ d ∧ σ 26 e ≤ kn ∧ (zbest σ k w d kn e).all (fun b => decide (σ 24 b ≤ σ 24 e)) = true then some e else zbest σ k w d kn e
theorem zbest_p {σ : Nat → Nat → Int32} {k w d kn : Int32} {b : Nat} : ∀ {n}, zbest σ k w d kn n = some b → b < n ∧ σ 22 b = k ∧ σ 23 b = w ∧ σ 24 b ≤ d ∧ σ 26 b ≤ kn := by
  intro n
  induction n with
  | zero => intro h; cases h
  | succ n ih =>
    intro h
    unfold zbest at h
    by_cases c : σ 22 n = k ∧ σ 23 n = w ∧ σ 24 n ≤ d ∧ σ 26 n ≤ kn ∧ (zbest σ k w d kn n).all (fun b => decide (σ 24 b ≤ σ 24 n)) = true
    · rw [if_pos c] at h
      cases h
      exact ⟨by omega, c.1, c.2.1, c.2.2.1, c.2.2.2.1⟩
    · rw [if_neg c] at h
      obtain ⟨a, b⟩ := ih h
      exact ⟨by omega, b⟩
theorem zled_best (σ : Nat → Nat → Int32) (k w d kn : Int32) : ∀ n, zlv (zok w d kn) (zled σ k n) = (zbest σ k w d kn n).map (zrow σ) := by
  intro n
  induction n with
  | zero => rfl
  | succ n ih =>
    unfold zled zbest
    by_cases c : σ 22 n = k
    · rw [if_pos c, zlv_ins (zled_sd σ k n), ih]
      have e1 : (zrow σ n).1 = σ 23 n := rfl
      have e2 : (zrow σ n).2.1 = σ 24 n := rfl
      have e3 : (zrow σ n).2.2.2 = σ 26 n := rfl
      by_cases q : zok w d kn (zrow σ n)
      · rw [if_pos q]
        obtain ⟨q1, q2, q3⟩ := q
        rw [e2] at q1; rw [e3] at q2; rw [e1] at q3
        cases e : zbest σ k w d kn n with
        | none => simp only [Option.map_none]; rw [if_pos ⟨c, q3, q1, q2, rfl⟩]; rfl
        | some b =>
          simp only [Option.map_some]
          have e4 : (zrow σ b).2.1 = σ 24 b := rfl
          rw [e4, e2]
          by_cases g : σ 24 b ≤ σ 24 n
          · rw [if_pos g, if_pos ⟨c, q3, q1, q2, decide_eq_true g⟩]; rfl
          · rw [if_neg g, if_neg (fun k => g (of_decide_eq_true k.2.2.2.2))]; rfl
      · rw [if_neg q, if_neg]
        rintro ⟨g1, g2, g3, g4, g5⟩
        exact q ⟨g3, g4, g2⟩
    · rw [if_neg c, if_neg (fun g => c g.1), ih]
