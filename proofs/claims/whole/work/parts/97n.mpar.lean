/-! A CONDITION, AS THE REFERENCE READS IT: its steps -/
def zQm (w0 q j : Nat) : Prop := (q = 16128 ∧ (j = 42 ∨ 50 ≤ j)) ∨ (2064428 ≤ q ∧ q ≤ 2064431 ∧ w0 ≤ j) ∨ q = 2064442 ∨ q = 2064443
def zSc (h : ai_H) (k : Nat) (q : zSt) : Prop := h.1 2064428 k = q.1 ∧ h.1 2064429 k = q.2.1 ∧ h.1 2064430 k = q.2.2.1 ∧ h.1 2064431 k = q.2.2.2
def zWr (h : ai_H) (w0 : Nat) (l : List zSt) : Prop := h.1 16128 42 = nI (w0 + l.length) ∧ ∀ i q, l[i]? = some q → zSc h (w0 + i) q
def zOp (h : ai_H) (o : Nat) (op jn : Nat → Int32) : Prop := h.1 16128 59 = nI o ∧ (∀ i, i < o → h.1 2064442 i = op i) ∧ ∀ i, i ≤ o → h.1 2064443 i = jn i
def zuq (f : Nat → Int32) (o : Nat) (v : Int32) : Nat → Int32 := fun i => if i = o then v else f i
/-- the reference, reading -/
def zMst (B : Nat → Nat) (n w0 : Nat) (h : ai_H) (s : Nat) (l : List zSt) (o : Nat) (op jn : Nat → Int32) : Prop := (zUb h B n ∧ zUk h B n s ∧ h.1 16128 56 = 0) ∧ zWr h w0 l ∧ zOp h o op jn
/-- and the fault's place -/
def zGf (P : Nat → Nat → Prop) (h h' : ai_H) : Prop := zG (fun q j => P q j ∨ (q = 16128 ∧ j = 49)) h h'
theorem zG_te {P : Nat → Nat → Prop} {h h' h'' : ai_H} (a : zG P h h') (b : zGf P h' h'') : zGf P h h'' := zG_tr (zG_mono a fun _ _ c => Or.inl c) b
theorem zGf_r {P : Nat → Nat → Prop} {h h' h'' : ai_H} (a : zGf P h h') (b : zG P h' h'') : zGf P h h'' := zG_tr a (zG_mono b fun _ _ c => Or.inl c)
theorem zGf_mono {P Q : Nat → Nat → Prop} {h h' : ai_H} (a : zGf P h h') (m : ∀ q j, P q j → Q q j) : zGf Q h h' := zG_mono a fun q j c => c.elim (fun c => Or.inl (m q j c)) Or.inr
def zFq (w0 : Nat) (r : Option ai_R) (h : ai_H) (t : Nat) : Prop := ∃ h', r = some ([], h') ∧ h'.1 16128 56 = 1 ∧ h'.1 16128 49 = nI t ∧ zGf (zQm w0) h h'
theorem zQu_m {w0 : Nat} : ∀ q j, zQu q j → zQm w0 q j := fun q j h => Or.inl ⟨h.1, Or.inr (by have := h.2.1; omega)⟩
theorem zMst_w {B : Nat → Nat} {n w0 : Nat} {h : ai_H} {s : Nat} {l : List zSt} {o : Nat} {op jn op' jn' : Nat → Int32} (a : zMst B n w0 h s l o op jn) (e1 : ∀ i, i < o → op' i = op i) (e2 : ∀ i, i ≤ o → jn' i = jn i) : zMst B n w0 h s l o op' jn' :=
  ⟨a.1, a.2.1, a.2.2.1, fun i hi => by rw [e1 i hi]; exact a.2.2.2.1 i hi, fun i hi => by rw [e2 i hi]; exact a.2.2.2.2 i hi⟩
theorem zMst_next {B : Nat → Nat} {n w0 : Nat} {h : ai_H} {s : Nat} {l : List zSt} {o : Nat} {op jn : Nat → Int32} (e : Nat) (hb : ∀ i, B i < 256) (hn : n ≤ 500) (hs : s ≤ n) (a : zMst B n w0 h s l o op jn) : ∃ h', ai_X (e + 2) 226 [.inr (.inr (32, 0, 16128))] h = some ([], h') ∧ zMst B n w0 h' (ztn B n s) l o op jn ∧ zG (zQm w0) h h' := by
  obtain ⟨⟨a1, a2, a3⟩, ⟨b1, b2⟩, c1, c2, c3⟩ := a
  obtain ⟨h', d1, d2, d3⟩ := M226 e hb hn (zte_le (B := B) hs).2.1 a1 a2.2.1
  have k : ∀ q j, ¬ zQu q j → h'.1 q j = h.1 q j := d3.1
  have k15 : ∀ j, (j < 51 ∨ 54 < j) → h'.1 16128 j = h.1 16128 j := fun j hj => k _ _ (by unfold zQu; omega)
  have ko : ∀ q j, ¬ q = 16128 → h'.1 q j = h.1 q j := fun q j hq => k _ _ (by unfold zQu; omega)
  refine ⟨h', d1, ⟨⟨⟨?_, fun i hi => ?_⟩, d2, ?_⟩, ⟨?_, fun i q hi => ?_⟩, ?_, fun i hi => ?_, fun i hi => ?_⟩, zG_mono d3 zQu_m⟩
  · rw [k15 50 (by decide)]; exact a1.1
  · rw [ko _ _ (by decide)]; exact a1.2 i hi
  · rw [k15 56 (by decide)]; exact a3
  · rw [k15 42 (by decide)]; exact b1
  · have := b2 i q hi
    unfold zSc at this ⊢
    rw [ko _ _ (by decide), ko _ _ (by decide), ko _ _ (by decide), ko _ _ (by decide)]
    exact this
  · rw [k15 59 (by decide)]; exact c1
  · rw [ko _ _ (by decide)]; exact c2 i hi
  · rw [ko _ _ (by decide)]; exact c3 i hi
theorem zstq_o {h : ai_H} {w q j : Nat} {x1 x2 x3 x4 : Int32} (hq : ¬ (2064428 ≤ q ∧ q ≤ 2064431)) (hj : ¬ (q = 16128 ∧ j = 42)) : (zstq h w x1 x2 x3 x4).1 q j = h.1 q j := by
  unfold zstq
  rw [z_st1, if_neg hj, z_ne (by omega), z_ne (by omega), z_ne (by omega), z_ne (by omega)]
theorem zstq_i {h : ai_H} {w q j : Nat} {x1 x2 x3 x4 : Int32} (hq : ¬ q = 16128) (hj : ¬ j = w) : (zstq h w x1 x2 x3 x4).1 q j = h.1 q j := by
  unfold zstq
  rw [z_ne hq, z_st1, if_neg (fun c => hj c.2), z_st1, if_neg (fun c => hj c.2), z_st1, if_neg (fun c => hj c.2), z_st1, if_neg (fun c => hj c.2)]
theorem zstq_G {h : ai_H} {w0 w : Nat} {x1 x2 x3 x4 : Int32} (hw : w0 ≤ w) : zG (zQm w0) h (zstq h w x1 x2 x3 x4) := by
  unfold zstq
  exact zG_st (zG_st (zG_st (zG_st (zG_st zG_rf (Or.inr (Or.inl ⟨by decide, by decide, hw⟩))) (Or.inr (Or.inl ⟨by decide, by decide, hw⟩))) (Or.inr (Or.inl ⟨by decide, by decide, hw⟩))) (Or.inr (Or.inl ⟨by decide, by decide, hw⟩))) (Or.inl ⟨rfl, Or.inl rfl⟩)
theorem zMst_step {B : Nat → Nat} {n w0 : Nat} {h : ai_H} {s : Nat} {l : List zSt} {o : Nat} {op jn : Nat → Int32} (e : Nat) (q : zSt) (a : zMst B n w0 h s l o op jn) (hl : w0 + l.length < 20000) : ∃ h', ai_X (e + 1) 231 [.inr (.inr (32, 0, 16128)), .inl q.1, .inl q.2.1, .inl q.2.2.1, .inl q.2.2.2] h = some ([], h') ∧ zMst B n w0 h' s (l ++ [q]) o op jn ∧ zG (zQm w0) h h' := by
  obtain ⟨⟨a1, a2, a3⟩, ⟨b1, b2⟩, c1, c2, c3⟩ := a
  have k15 : ∀ j, ¬ j = 42 → (zstq h (w0 + l.length) q.1 q.2.1 q.2.2.1 q.2.2.2).1 16128 j = h.1 16128 j := fun j hj => zstq_o (by decide) (fun c => hj c.2)
  have ko : ∀ c j, ¬ (2064428 ≤ c ∧ c ≤ 2064431) → ¬ c = 16128 → (zstq h (w0 + l.length) q.1 q.2.1 q.2.2.1 q.2.2.2).1 c j = h.1 c j := fun c j h1 h2 => zstq_o h1 (fun c => h2 c.1)
  refine ⟨_, M231 e _ _ _ _ b1 hl, ⟨⟨⟨?_, fun i hi => ?_⟩, ⟨?_, ?_, ?_, a2.2.2.2.1, ?_⟩, ?_⟩, ⟨?_, fun i p hi => ?_⟩, ?_, fun i hi => ?_, fun i hi => ?_⟩, zstq_G (Nat.le_add_right _ _)⟩
  · rw [k15 50 (by decide)]; exact a1.1
  · rw [ko _ _ (by decide) (by decide)]; exact a1.2 i hi
  · rw [k15 52 (by decide)]; exact a2.1
  · rw [k15 51 (by decide)]; exact a2.2.1
  · rw [k15 53 (by decide)]; exact a2.2.2.1
  · rw [k15 54 (by decide)]; exact a2.2.2.2.2
  · rw [k15 56 (by decide)]; exact a3
  · unfold zstq
    rw [z_stS, List.length_append]; rfl
  · by_cases c : i = l.length
    · rw [c, List.getElem?_append_right (Nat.le_refl _), Nat.sub_self] at hi
      cases hi
      rw [c]
      unfold zSc zstq
      refine ⟨?_, ?_, ?_, ?_⟩
      · rw [z_ne (by decide), z_ne (by decide), z_ne (by decide), z_ne (by decide), z_stS]
      · rw [z_ne (by decide), z_ne (by decide), z_ne (by decide), z_stS]
      · rw [z_ne (by decide), z_ne (by decide), z_stS]
      · rw [z_ne (by decide), z_stS]
    · have : i < l.length := by
        obtain ⟨w, -⟩ := List.getElem?_eq_some_iff.mp hi
        rw [List.length_append] at w
        have w : i < l.length + 1 := w
        omega
      rw [List.getElem?_append_left this] at hi
      have := b2 i p hi
      unfold zSc at this ⊢
      rw [zstq_i (by decide) (by omega), zstq_i (by decide) (by omega), zstq_i (by decide) (by omega), zstq_i (by decide) (by omega)]
      exact this
  · rw [k15 59 (by decide)]; exact c1
  · rw [ko _ _ (by decide) (by decide)]; exact c2 i hi
  · rw [ko _ _ (by decide) (by decide)]; exact c3 i hi
theorem zMst_jn {B : Nat → Nat} {n w0 : Nat} {h : ai_H} {s : Nat} {l : List zSt} {o : Nat} {op jn : Nat → Int32} (v : Int32) (a : zMst B n w0 h s l o op jn) : zMst B n w0 (ai_st h 2064443 o v) s l o op (zuq jn o v) ∧ zG (zQm w0) h (ai_st h 2064443 o v) := by
  obtain ⟨⟨a1, a2, a3⟩, ⟨b1, b2⟩, c1, c2, c3⟩ := a
  have k : ∀ q, ¬ q = 2064443 → (ai_st h 2064443 o v).1 q = h.1 q := fun q hq => z_ne hq
  refine ⟨⟨⟨?_, ?_, ?_⟩, ⟨?_, fun i q hi => ?_⟩, ?_, fun i hi => ?_, fun i hi => ?_⟩, zG_st zG_rf (Or.inr (Or.inr (Or.inr rfl)))⟩
  · unfold zUb; rw [k _ (by decide), k _ (by decide)]; exact a1
  · unfold zUk; rw [k _ (by decide)]; exact a2
  · rw [k _ (by decide)]; exact a3
  · rw [k _ (by decide)]; exact b1
  · have := b2 i q hi
    unfold zSc at this ⊢
    rw [k _ (by decide), k _ (by decide), k _ (by decide), k _ (by decide)]
    exact this
  · rw [k _ (by decide)]; exact c1
  · rw [k _ (by decide)]; exact c2 i hi
  · rw [z_st1]
    unfold zuq
    by_cases q : i = o
    · rw [if_pos ⟨rfl, q⟩, if_pos q]
    · rw [if_neg (fun w => q w.2), if_neg q]; exact c3 i hi
theorem zMst_pop {B : Nat → Nat} {n w0 : Nat} {h : ai_H} {s : Nat} {l : List zSt} {o : Nat} {op jn : Nat → Int32} (a : zMst B n w0 h s l (o + 1) op jn) : zMst B n w0 (ai_st h 16128 59 (nI o)) s l o op jn ∧ zG (zQm w0) h (ai_st h 16128 59 (nI o)) := by
  obtain ⟨⟨a1, a2, a3⟩, ⟨b1, b2⟩, c1, c2, c3⟩ := a
  have k : ∀ q, ¬ q = 16128 → (ai_st h 16128 59 (nI o)).1 q = h.1 q := fun q hq => z_ne hq
  have k15 : ∀ j, ¬ j = 59 → (ai_st h 16128 59 (nI o)).1 16128 j = h.1 16128 j := fun j hj => z_nj hj
  refine ⟨⟨⟨zUb_st (by decide) a1, ?_, ?_⟩, ⟨?_, fun i q hi => ?_⟩, ?_, fun i hi => ?_, fun i hi => ?_⟩, zG_st zG_rf (Or.inl ⟨rfl, Or.inr (by decide)⟩)⟩
  · unfold zUk
    rw [k15 51 (by decide), k15 52 (by decide), k15 53 (by decide), k15 54 (by decide)]; exact a2
  · rw [k15 56 (by decide)]; exact a3
  · rw [k15 42 (by decide)]; exact b1
  · have := b2 i q hi
    unfold zSc at this ⊢
    rw [k _ (by decide), k _ (by decide), k _ (by decide), k _ (by decide)]
    exact this
  · exact z_stS
  · rw [k _ (by decide)]; exact c2 i (by omega)
  · rw [k _ (by decide)]; exact c3 i (by omega)
theorem zMst_push {B : Nat → Nat} {n w0 : Nat} {h : ai_H} {s : Nat} {l : List zSt} {o : Nat} {op jn : Nat → Int32} (v : Int32) (a : zMst B n w0 h s l o op jn) : zMst B n w0 (ai_st (ai_st (ai_st h 2064442 o v) 16128 59 (nI (o + 1))) 2064443 (o + 1) 0) s l (o + 1) (zuq op o v) (zuq jn (o + 1) 0) ∧ zG (zQm w0) h (ai_st (ai_st (ai_st h 2064442 o v) 16128 59 (nI (o + 1))) 2064443 (o + 1) 0) := by
  obtain ⟨⟨a1, a2, a3⟩, ⟨b1, b2⟩, c1, c2, c3⟩ := a
  have k : ∀ q, ¬ q = 16128 → ¬ q = 2064442 → ¬ q = 2064443 → (ai_st (ai_st (ai_st h 2064442 o v) 16128 59 (nI (o + 1))) 2064443 (o + 1) 0).1 q = h.1 q := fun q h1 h2 h3 => by rw [z_ne h3, z_ne h1, z_ne h2]
  have k15 : ∀ j, ¬ j = 59 → (ai_st (ai_st (ai_st h 2064442 o v) 16128 59 (nI (o + 1))) 2064443 (o + 1) 0).1 16128 j = h.1 16128 j := fun j hj => by rw [z_ne (by decide), z_nj hj, z_ne (by decide)]
  refine ⟨⟨⟨⟨?_, ?_⟩, ?_, ?_⟩, ⟨?_, fun i q hi => ?_⟩, ?_, fun i hi => ?_, fun i hi => ?_⟩, zG_st (zG_st (zG_st zG_rf (Or.inr (Or.inr (Or.inl rfl)))) (Or.inl ⟨rfl, Or.inr (by decide)⟩)) (Or.inr (Or.inr (Or.inr rfl)))⟩
  · rw [k15 50 (by decide)]; exact a1.1
  · rw [k _ (by decide) (by decide) (by decide)]; exact a1.2
  · unfold zUk
    rw [k15 51 (by decide), k15 52 (by decide), k15 53 (by decide), k15 54 (by decide)]; exact a2
  · rw [k15 56 (by decide)]; exact a3
  · rw [k15 42 (by decide)]; exact b1
  · have := b2 i q hi
    unfold zSc at this ⊢
    rw [k _ (by decide) (by decide) (by decide), k _ (by decide) (by decide) (by decide), k _ (by decide) (by decide) (by decide), k _ (by decide) (by decide) (by decide)]
    exact this
  · rw [z_ne (by decide), z_stS]
  · rw [z_ne (by decide), z_ne (by decide), z_st1]
    unfold zuq
    by_cases q : i = o
    · rw [if_pos ⟨rfl, q⟩, if_pos q]
    · rw [if_neg (fun w => q w.2), if_neg q]; exact c2 i (by omega)
  · rw [z_st1]
    unfold zuq
    by_cases q : i = o + 1
    · rw [if_pos ⟨rfl, q⟩, if_pos q]
    · rw [if_neg (fun w => q w.2), if_neg q, z_ne (by decide), z_ne (by decide)]; exact c3 i (by omega)
theorem zErr {B : Nat → Nat} {n w0 : Nat} {h : ai_H} {s : Nat} {l : List zSt} {o : Nat} {op jn : Nat → Int32} (e : Nat) (a : zMst B n w0 h s l o op jn) : ∃ h', ai_X (e + 1) 227 [.inr (.inr (32, 0, 16128))] h = some ([], h') ∧ h'.1 16128 56 = 1 ∧ h'.1 16128 49 = nI s ∧ h'.1 16128 42 = nI (w0 + l.length) ∧ zGf (zQm w0) h h' := by
  refine ⟨_, M227 e a.1.2.2 a.1.2.1.1, ?_, z_stS, ?_, zG_st (zG_st zG_rf (Or.inl (Or.inl ⟨rfl, Or.inr (by decide)⟩))) (Or.inr ⟨rfl, rfl⟩)⟩
  · rw [z_nj (by decide), z_stS]
  · rw [z_nj (by decide), z_nj (by decide)]; exact a.2.1.1
/-- one comparison -/
theorem M232 {B : Nat → Nat} {n w0 : Nat} {h : ai_H} {s : Nat} {l : List zSt} {o : Nat} {op jn : Nat → Int32} (e : Nat) (hb : ∀ i, B i < 256) (hn : n ≤ 500) (hs : s ≤ n) (a : zMst B n w0 h s l o op jn) (hl : w0 + l.length < 20000) :
    (zfact (zwv B n s) = -1 → zFq w0 (ai_X (e + 3) 232 [.inr (.inr (32, 0, 16128))] h) h s) ∧
    (¬ zfact (zwv B n s) = -1 → ¬ zsg B n (ztn B n s) → zFq w0 (ai_X (e + 3) 232 [.inr (.inr (32, 0, 16128))] h) h (ztn B n s)) ∧
    (¬ zfact (zwv B n s) = -1 → zsg B n (ztn B n s) → ¬ (zkd B n (ztn B n (ztn B n s)) = 2 ∧ zte B n (ztn B n (ztn B n s)) ≤ ztn B n (ztn B n s) + 5) → zFq w0 (ai_X (e + 3) 232 [.inr (.inr (32, 0, 16128))] h) h (ztn B n (ztn B n s))) ∧
    (¬ zfact (zwv B n s) = -1 → zsg B n (ztn B n s) → (zkd B n (ztn B n (ztn B n s)) = 2 ∧ zte B n (ztn B n (ztn B n s)) ≤ ztn B n (ztn B n s) + 5) → ∃ h', ai_X (e + 3) 232 [.inr (.inr (32, 0, 16128))] h = some ([], h') ∧ zMst B n w0 h' (ztn B n (ztn B n (ztn B n s))) (l ++ [(0, zfact (zwv B n s), nI (B (ztn B n s)), nI (znu B n (ztn B n (ztn B n s))))]) o op jn ∧ zG (zQm w0) h h') := by
  have m229 : ai_X (e + 2) 229 [.inr (.inr (32, 0, 16128))] h = _ := M229 (e + 1) hb a.1.2.1 a.1.2.2
  have a1 := ztn_le (B := B) hs
  have a2 := ztn_le (B := B) a1.2.1
  have a3 := ztn_le (B := B) a2.2.1
  obtain ⟨h1, b1, b2, b3⟩ := zMst_next e hb hn hs a
  obtain ⟨h2, c1, c2, c3⟩ := zMst_next e hb hn a1.2.1 b2
  have f2 := zG_tr b3 c3
  have T : ai_X (e + 3) 232 [.inr (.inr (32, 0, 16128))] h = _ := T232 (e + 2) h
  rw [T, m229, z_bi]
  have fp : zfact (zwv B n s) = -1 ∨ 0 ≤ (zfact (zwv B n s)).toInt := by
    unfold zfact
    repeat' split
    all_goals decide
  by_cases p : zfact (zwv B n s) = -1
  · rw [if_neg (by rw [p]; decide)]
    refine ⟨fun _ => ?_, fun w => absurd p w, fun w => absurd p w, fun w => absurd p w⟩
    obtain ⟨h', d1, d2, d3, d4, d5⟩ := zErr (e + 1) a
    have d1 : ai_X (e + 2) 227 [.inr (.inr (32, 0, 16128))] h = some ([], h') := d1
    exact ⟨h', by rw [d1, z_bv], d2, d3, d5⟩
  · have fp := fp.resolve_left p
    rw [if_pos (by rw [z_le, zl0]; exact fp), b1, z_bv]
    have lt := zutk_lt (n := n) (s := ztn B n s) hb
    have lt2 := zutk_lt (n := n) (s := ztn B n (ztn B n s)) hb
    have tk : h1.1 16128 53 = nI (zutk B n (ztn B n s)) := b2.1.2.1.2.2.1
    have tk2 : h2.1 16128 53 = nI (zutk B n (ztn B n (ztn B n s))) := c2.1.2.1.2.2.1
    have q60 : (h1.1 16128 53 = 60) ↔ (zkd B n (ztn B n s) = 3 ∧ B (ztn B n s) = 60) := by rw [tk, show (60 : Int32) = nI 60 from rfl, nI_eq (by omega) (by omega)]; exact zutk_c (by decide)
    have q62 : (h1.1 16128 53 = 62) ↔ (zkd B n (ztn B n s) = 3 ∧ B (ztn B n s) = 62) := by rw [tk, show (62 : Int32) = nI 62 from rfl, nI_eq (by omega) (by omega)]; exact zutk_c (by decide)
    have q61 : (h1.1 16128 53 = 61) ↔ (zkd B n (ztn B n s) = 3 ∧ B (ztn B n s) = 61) := by rw [tk, show (61 : Int32) = nI 61 from rfl, nI_eq (by omega) (by omega)]; exact zutk_c (by decide)
    have q2 : (h2.1 16128 53 = 2) ↔ (zkd B n (ztn B n (ztn B n s)) = 2 ∧ zte B n (ztn B n (ztn B n s)) ≤ ztn B n (ztn B n s) + 5) := by rw [tk2, show (2 : Int32) = nI 2 from rfl, nI_eq (by omega) (by omega)]; exact zutk_2
    refine ⟨fun w => absurd w p, fun _ w => ?_, fun _ w => ?_, fun _ w w2 => ?_⟩
    · rw [if_neg (fun q => w ⟨(q60.mp q).1, Or.inl (q60.mp q).2⟩), if_neg (fun q => w ⟨(q62.mp q).1, Or.inr (Or.inl (q62.mp q).2)⟩), if_neg (fun q => w ⟨(q61.mp q).1, Or.inr (Or.inr (q61.mp q).2)⟩)]
      obtain ⟨h', d1, d2, d3, d4, d5⟩ := zErr (e + 1) b2
      have d1 : ai_X (e + 2) 227 [.inr (.inr (32, 0, 16128))] h1 = some ([], h') := d1
      exact ⟨h', by rw [d1, z_bv], d2, d3, zG_te b3 d5⟩
    · intro w2
      obtain ⟨h3, d1, d2, d3, d4, d5⟩ := zErr (e + 1) c2
      have d1 : ai_X (e + 2) 227 [.inr (.inr (32, 0, 16128))] h2 = some ([], h3) := d1
      have st : ∀ x3 x4, ai_X (e + 2) 231 [.inr (.inr (32, 0, 16128)), .inl 0, .inl (zfact (zwv B n s)), .inl x3, .inl x4] h3 = some ([], zstq h3 (w0 + l.length) 0 (zfact (zwv B n s)) x3 x4) := fun x3 x4 => M231 (e + 1) _ _ _ _ d4 hl
      have F : ∀ x3 x4, zFq w0 (some ([], zstq h3 (w0 + l.length) 0 (zfact (zwv B n s)) x3 x4)) h (ztn B n (ztn B n s)) := fun x3 x4 => ⟨_, rfl, by rw [zstq_o (by decide) (by decide)]; exact d2, by rw [zstq_o (by decide) (by decide)]; exact d3, zG_te f2 (zGf_r d5 (zstq_G (Nat.le_add_right _ _)))⟩
      have R : ∀ x3, zFq w0 (ai_bv (ai_X (e + 2) 226 [.inr (.inr (32, 0, 16128))] h1) (fun h4 => if (h4.1 16128 53) = 2 then ai_bv (ai_X (e + 2) 226 [.inr (.inr (32, 0, 16128))] h4) (fun h5 => ai_bv (ai_X (e + 2) 231 [.inr (.inr (32, 0, 16128)), .inl 0, .inl (zfact (zwv B n s)), .inl x3, .inl (h4.1 16128 54)] h5) (fun h6 => some ([], h6))) else ai_bv (ai_X (e + 2) 227 [.inr (.inr (32, 0, 16128))] h4) (fun h7 => ai_bv (ai_X (e + 2) 231 [.inr (.inr (32, 0, 16128)), .inl 0, .inl (zfact (zwv B n s)), .inl x3, .inl (h4.1 16128 54)] h7) (fun h8 => some ([], h8))))) h (ztn B n (ztn B n s)) := fun x3 => by
        rw [c1, z_bv, if_neg (fun q => w2 (q2.mp q)), d1, z_bv, st, z_bv]
        exact F _ _
      by_cases g1 : h1.1 16128 53 = 60
      · rw [if_pos g1]; exact R _
      · rw [if_neg g1]
        by_cases g2 : h1.1 16128 53 = 62
        · rw [if_pos g2]; exact R _
        · rw [if_neg g2, if_pos (q61.mpr ⟨w.1, by
            rcases w.2 with q | q | q
            · exact absurd (q60.mpr ⟨w.1, q⟩) g1
            · exact absurd (q62.mpr ⟨w.1, q⟩) g2
            · exact q⟩)]
          exact R _
    · obtain ⟨h3, d1, d2, d3⟩ := zMst_next e hb hn a2.2.1 c2
      have hv : h2.1 16128 54 = nI (znu B n (ztn B n (ztn B n s))) := c2.1.2.1.2.2.2.2 w2.1 w2.2
      have hx : h1.1 16128 53 = nI (B (ztn B n s)) := by
        rw [tk]
        unfold zutk
        rw [if_neg (by omega), if_neg (by omega), if_neg (by omega), if_pos w.1]
      obtain ⟨h4, g1, g2, g3⟩ := zMst_step (e + 1) (0, zfact (zwv B n s), nI (B (ztn B n s)), nI (znu B n (ztn B n (ztn B n s)))) d2 hl
      have g1 : ai_X (e + 2) 231 [.inr (.inr (32, 0, 16128)), .inl 0, .inl (zfact (zwv B n s)), .inl (nI (B (ztn B n s))), .inl (nI (znu B n (ztn B n (ztn B n s))))] h3 = some ([], h4) := g1
      refine ⟨h4, ?_, g2, zG_tr f2 (zG_tr d3 g3)⟩
      have R : ai_bv (ai_X (e + 2) 226 [.inr (.inr (32, 0, 16128))] h1) (fun h4 => if (h4.1 16128 53) = 2 then ai_bv (ai_X (e + 2) 226 [.inr (.inr (32, 0, 16128))] h4) (fun h5 => ai_bv (ai_X (e + 2) 231 [.inr (.inr (32, 0, 16128)), .inl 0, .inl (zfact (zwv B n s)), .inl (h1.1 16128 53), .inl (h4.1 16128 54)] h5) (fun h6 => some ([], h6))) else ai_bv (ai_X (e + 2) 227 [.inr (.inr (32, 0, 16128))] h4) (fun h7 => ai_bv (ai_X (e + 2) 231 [.inr (.inr (32, 0, 16128)), .inl 0, .inl (zfact (zwv B n s)), .inl (h1.1 16128 53), .inl (h4.1 16128 54)] h7) (fun h8 => some ([], h8)))) = some ([], h4) := by
        rw [c1, z_bv, if_pos (q2.mpr w2), d1, z_bv, hv, hx, g1, z_bv]
      by_cases g1 : h1.1 16128 53 = 60
      · rw [if_pos g1]; exact R
      · rw [if_neg g1]
        by_cases g2 : h1.1 16128 53 = 62
        · rw [if_pos g2]; exact R
        · rw [if_neg g2, if_pos (q61.mpr ⟨w.1, by
            rcases w.2 with q | q | q
            · exact absurd (q60.mpr ⟨w.1, q⟩) g1
            · exact absurd (q62.mpr ⟨w.1, q⟩) g2
            · exact q⟩)]
          exact R
