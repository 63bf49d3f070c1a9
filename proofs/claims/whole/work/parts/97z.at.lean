/-! A TEXT AT ITS PLACE -/
theorem zfl_at : ∀ {L : List zTx} {i : Nat} {q : zTx}, L[i]? = some q → (∀ k s, q.2.2[k]? = some s → (zfl L)[(zfl (L.take i)).length + k]? = some s) ∧ (zfl (L.take (i + 1))).length = (zfl (L.take i)).length + q.2.2.length ∧ (zfl (L.take (i + 1))).length ≤ (zfl L).length := by
  intro L
  induction L with
  | nil => intro i q e; cases e
  | cons a L ih =>
    intro i q e
    cases i with
    | zero =>
      cases e
      refine ⟨fun k s hk => ?_, ?_, ?_⟩
      · rw [List.take_zero, zfl_cons]
        show (a.2.2 ++ zfl L)[0 + k]? = some s
        rw [Nat.zero_add, List.getElem?_append_left (List.getElem?_eq_some_iff.mp hk).1]
        exact hk
      · rw [List.take_succ_cons, List.take_zero, zfl_cons]
        show (a.2.2 ++ []).length = 0 + _
        rw [List.append_nil, Nat.zero_add]
      · rw [List.take_succ_cons, List.take_zero, zfl_cons, zfl_cons]
        show (a.2.2 ++ []).length ≤ _
        rw [List.append_nil, List.length_append]
        omega
    | succ i =>
      obtain ⟨y1, y2, y3⟩ := ih (show L[i]? = some q from e)
      refine ⟨fun k s hk => ?_, ?_, ?_⟩
      · rw [List.take_succ_cons, zfl_cons, zfl_cons, List.length_append, Nat.add_assoc, List.getElem?_append_right (by omega), Nat.add_sub_cancel_left]
        exact y1 k s hk
      · rw [List.take_succ_cons, zfl_cons, List.take_succ_cons, zfl_cons, List.length_append, List.length_append, y2, Nat.add_assoc]
      · rw [List.take_succ_cons, zfl_cons, zfl_cons, List.length_append, List.length_append]
        omega
def zAt (μ : zMu) (w0 p : Nat) (L : List zTx) : Prop := μ.1 36 p = nI L.length ∧ L.length ≤ 24 ∧ (∀ i q, L[i]? = some q → μ.1 38 (24 * p + i) = q.1 ∧ μ.1 39 (24 * p + i) = q.2.1 ∧ μ.1 40 (24 * p + i) = nI (w0 + (zfl (L.take i)).length) ∧ μ.1 41 (24 * p + i) = nI (w0 + (zfl (L.take (i + 1))).length)) ∧ (∀ i q, (zfl L)[i]? = some q → μ.1 43 (w0 + i) = q.1 ∧ μ.1 44 (w0 + i) = q.2.1 ∧ μ.1 45 (w0 + i) = q.2.2.1 ∧ μ.1 46 (w0 + i) = q.2.2.2) ∧ w0 + (zfl L).length ≤ 20000
theorem zenc_q {μ : zMu} {k : Nat} {q : zSt} (h : μ.1 43 k = q.1 ∧ μ.1 44 k = q.2.1 ∧ μ.1 45 k = q.2.2.1 ∧ μ.1 46 k = q.2.2.2) : zenc μ k = zenq q := by
  unfold zenc zenq
  rw [h.1, h.2.1, h.2.2.1, h.2.2.2]
theorem zAt_code {μ : zMu} {w0 p i : Nat} {L : List zTx} {q : zTx} (h : zAt μ w0 p L) (hi : L[i]? = some q) : zcode μ (w0 + (zfl (L.take i)).length) (w0 + (zfl (L.take (i + 1))).length) = q.2.2.map zenq := by
  obtain ⟨y1, y2, y3⟩ := zfl_at hi
  rw [y2]
  refine List.ext_getElem? fun k => ?_
  by_cases c : k < q.2.2.length
  · have e : q.2.2[k]? = some q.2.2[k] := List.getElem?_eq_getElem c
    rw [(zcode_at (by omega)).1, List.getElem?_map, e, Nat.add_assoc, zenc_q (h.2.2.2.1 _ _ (y1 k _ e))]
    rfl
  · rw [List.getElem?_eq_none (by rw [zcode_len]; omega), List.getElem?_eq_none (by rw [List.length_map]; omega)]
theorem zAt_law {μ : zMu} {w0 p : Nat} {L : List zTx} (h : zAt μ w0 p L) : zlaw μ p = zltx L := by
  obtain ⟨h1, h2, h3, h4, h5⟩ := id h
  have cn : (μ.1 36 p).toInt.toNat = L.length := by rw [h1, z_T (by omega)]; exact Int.toNat_natCast _
  refine List.ext_getElem? fun i => ?_
  by_cases c : i < L.length
  · have e : L[i]? = some L[i] := List.getElem?_eq_getElem c
    obtain ⟨k1, k2, k3, k4⟩ := h3 i _ e
    obtain ⟨y1, y2, y3⟩ := zfl_at e
    have t1 : ∀ {x : Nat}, x ≤ 20000 → (nI x).toInt.toNat = x := fun hx => by rw [z_T (by omega)]; exact Int.toNat_natCast _
    rw [zlaw_at (by rw [cn]; exact c), k1, k2, k3, k4, t1 (by omega), t1 (by omega), zAt_code h e]
    unfold zltx
    rw [List.getElem?_map, e]
    rfl
  · rw [List.getElem?_eq_none (by rw [zlaw_len, cn]; omega), List.getElem?_eq_none (by unfold zltx; rw [List.length_map]; omega)]
def zGd (L : List zTx) : Prop := ∀ q, q ∈ L → (q.1 = 0 ∨ q.1 = 1) ∧ zi q.2.1 0 5 ∧ (∀ s, s ∈ q.2.2 → zok4 s) ∧ zpde q.2.2 0 = some (if q.2.2 = [] then 0 else 1)
theorem zverd_3 {t : Prop} [Decidable t] {w : Nat} (h : ¬ zverd t w = -1) : zverd t w = 0 ∨ zverd t w = 1 := by
  revert h
  unfold zverd
  by_cases c1 : w = (if t then 11716 else 2230)
  · rw [if_pos c1]; exact fun _ => Or.inr rfl
  · rw [if_neg c1]
    by_cases c2 : w = (if t then 261071456 else 10413527)
    · rw [if_pos c2]; exact fun _ => Or.inl rfl
    · rw [if_neg c2]; exact fun q => absurd rfl q
theorem zpL_good {B : Nat → Nat} {n : Nat} {tr : Bool} : ∀ {f i s L t b}, zpL B n tr f i s L t b → s ≤ n → zGd L ∧ s ≤ t ∧ t ≤ n := by
  have b1 : ∀ {s t}, s ≤ n → ∀ {c}, zpS B n tr s c t false → s ≤ t ∧ t ≤ n := fun {s t} hs {c} r => by
    have a1 := ztn_le (B := B) hs
    have a2 := zps2_le (B := B) (tr := tr) hs
    have a3 := ztn_le (B := B) a2.2
    rcases r with ⟨-, p1, rfl⟩ | ⟨-, p1, p2, rfl⟩ | ⟨-, p1, p2, p3, f, r⟩ | ⟨-, p1, p2, p3, f, r, p4⟩ | ⟨q, -⟩ | ⟨-, p1, p2, p3, p4, rfl⟩ | ⟨q, -⟩
    · exact ⟨Nat.le_refl _, hs⟩
    · exact ⟨a1.1, a1.2.1⟩
    · have := zpD_len r a3.2.1; omega
    · have := zpD_len r a3.2.1; omega
    · cases q
    · omega
    · cases q
  intro f
  induction f with
  | zero => intro i s L t b r; exact r.elim
  | succ f ih =>
    intro i s L t b r hs
    rcases r with ⟨p1, rfl, rfl, rfl⟩ | ⟨p1, rfl, rfl, rfl, rfl⟩ | ⟨p1, p2, rfl, rfl, c, r⟩ | ⟨p1, p2, c, s1, L1, r, r1, rfl⟩
    · exact ⟨(fun q hq => by cases hq), Nat.le_refl _, hs⟩
    · exact ⟨(fun q hq => by cases hq), Nat.le_refl _, hs⟩
    · have := b1 hs r
      exact ⟨(fun q hq => by cases hq), this⟩
    · have g := zpS_good hs r
      obtain ⟨g1, g2, g3⟩ := ih r1 g.2.2.2.1
      refine ⟨fun q hq => ?_, by omega, g3⟩
      rcases List.mem_cons.mp hq with w | w
      · subst w
        refine ⟨zverd_3 g.1, ?_, g.2.2.2.2.2.1, g.2.2.2.2.2.2⟩
        have n2 := g.2.1
        revert n2
        unfold zpsw
        cases tr with
        | false =>
          intro _
          show zi 5 0 5
          unfold zi; decide
        | true => exact fun n2 => zwork_5 n2
      · exact g1 q w
theorem zpde_snoc : ∀ (l : List zSt) (s : zSt) (n : Nat), zpde (l ++ [s]) n = match zpde l n with
    | none => none
    | some k => zpd1 s.1 k := by
  intro l
  induction l with
  | nil => intro s n; exact zpde_1
  | cons a l ih =>
    intro s n
    show (match zpd1 a.1 n with
      | none => none
      | some m => zpde (l ++ [s]) m) = _
    show _ = match (match zpd1 a.1 n with
      | none => none
      | some m => zpde l m) with
      | none => none
      | some k => zpd1 s.1 k
    cases zpd1 a.1 n with
    | none => rfl
    | some m => exact ih s m
theorem zdep_is {μ : zMu} {a : Nat} {c : List zSt} (h : ∀ k s, c[k]? = some s → μ.1 43 (a + k) = s.1) : ∀ m, m ≤ c.length → zdep μ a m = zpde (c.take m) 0 := by
  intro m
  induction m with
  | zero => intro _; rfl
  | succ m ih =>
    intro hm
    have e : c[m]? = some c[m] := List.getElem?_eq_getElem (by omega)
    rw [List.take_succ, e, Option.toList_some, zpde_snoc, ← ih (by omega), ← h m _ e]
    rfl
theorem zAt_vl {μ : zMu} {w0 p : Nat} {L : List zTx} (h : zAt μ w0 p L) (g : zGd L) (hw : ((w0 + (zfl L).length : Nat) : Int) ≤ (μ.2 42).toInt) (h5 : (zfl L).length ≤ 500) : zVl μ p := by
  have hl := zAt_law h
  obtain ⟨h1, h2, h3, h4, h6⟩ := id h
  have cn : (μ.1 36 p).toInt.toNat = L.length := by rw [h1, z_T (by omega)]; exact Int.toNat_natCast _
  refine ⟨by rw [h1]; unfold zi; rw [z_T (by omega)]; omega, fun i hi => ?_, by rw [hl, zlx_fl, List.length_map]; exact h5⟩
  rw [cn] at hi
  have e : L[i]? = some L[i] := List.getElem?_eq_getElem hi
  obtain ⟨k1, k2, k3, k4⟩ := h3 i _ e
  obtain ⟨g1, g2, g3, g4⟩ := g _ (List.getElem_mem hi)
  obtain ⟨y1, y2, y3⟩ := zfl_at e
  have t1 : ∀ {x : Nat}, x ≤ 20000 → (nI x).toInt = (x : Int) := fun hx => z_T (by omega)
  rw [k1, k2, k3, k4, t1 (by omega), t1 (by omega), Int.toNat_natCast, Int.toNat_natCast]
  refine ⟨by rcases g1 with w | w <;> rw [w] <;> unfold zi <;> decide, g2, by omega, by omega, by omega, ?_⟩
  rw [show w0 + (zfl (L.take (i + 1))).length - (w0 + (zfl (L.take i)).length) = L[i].2.2.length by omega]
  rw [zdep_is (c := L[i].2.2) (fun k s hk => by rw [Nat.add_assoc]; exact (h4 _ _ (y1 k s hk)).1) _ (Nat.le_refl _), List.take_length, g4]
  refine congrArg some ?_
  by_cases c : L[i].2.2 = []
  · rw [if_pos c, if_pos (by rw [y2, c]; rfl)]
  · rw [if_neg c, if_neg]
    rw [nI_eq (by omega) (by omega)]
    have : 0 < L[i].2.2.length := by
      cases e2 : L[i].2.2 with
      | nil => exact absurd e2 c
      | cons a l => exact Nat.succ_pos _
    omega
