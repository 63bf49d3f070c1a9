/-! SOUNDNESS: a step of the abstract machine is a step of the machine. -/
/-- what a method begins with: whether its code stores into locals, how many locals; cells, addresses, heap at its start -/
abbrev ai_Bg : Type := (Bool × Nat) × List Nat × (Nat → Nat) × ai_H
def ai_ext (B : ai_Bg) (names : List Nat) (ad : Nat → Nat) (h : ai_H) : Prop := ∀ n ∈ B.2.1, n ∈ names ∧ ad n = B.2.2.1 n ∧ (h.2.2.2.1 n = B.2.2.2.2.2.2.1 n ∨ (40 ≤ (B.2.2.2.2.2.2.1 n).1 ∧ (B.2.2.2.2.2.2.1 n).1 < 60 ∧ (h.2.2.2.1 n).1 + 20 = (B.2.2.2.2.2.2.1 n).1))
def ai_nl (L : List (Option ai_V)) : Prop := ∀ x : Int64, some (Sum.inr (Sum.inl x)) ∉ L
/-- at a state of a method: the picture, what has become of the start, room -/
def ai_I (O : ai_Om) (s : State) (A : Nat → Prop) (B : ai_Bg) (names : List Nat) (ad : Nat → Nat) (st : ai_S) (H : Heap) (locs : List Loc) (ls : Array Slot) (cells slots : Nat) : Prop :=
  ai_J O s A names ad st H locs ls ∧ ai_ext B names ad st.2.2.2 ∧ (B.1.1 = true → ai_nl st.2.1) ∧ st.2.1.length = B.1.2 ∧ cells + B.2.2.2.2.2.2.2.2.1 = st.2.2.2.2.2.2.2.2.1 ∧ slots + B.2.2.2.2.2.2.2.2.2 = st.2.2.2.2.2.2.2.2.2
def ai_G (p : Program) (l : Launch) (e : Env) (R : Room) (s : State) (m : MethodId) (args : Array Value) (below : List Frame) (meth : Method) (c : Code) (Q : State → Prop) (O : ai_Om) (A : Nat → Prop) (B : ai_Bg) (st : ai_S) : Prop :=
  ∀ (H : Heap) (locs : List Loc) (cells slots : Nat) (names : List Nat) (ad : Nat → Nat) (ls : Array Slot), ai_I O s A B names ad st H locs ls cells slots → W p l e R s m args below meth c H locs cells slots Q (F0 m st.1 ls (st.2.2.1.map (ai_cv O ad)))
section SD
variable {p : Program} {l : Launch} {e : Env} {R : Room} {s : State} {m : MethodId} {args : Array Value} {below : List Frame} {meth : Method} {c : Code} {Q : State → Prop} {cc : ByteArray} {O : ai_Om} {A : Nat → Prop} {B : ai_Bg}
variable {H : Heap} {locs : List Loc} {cells slots : Nat} {names : List Nat} {ad : Nat → Nat} {ls : Array Slot} {pc pc' : Nat} {L : List (Option ai_V)} {S S' : List ai_V} {h : ai_H} {k : ai_K} {r : ai_R}
theorem ai_I.stk (I : ai_I O s A B names ad (pc, L, S, h) H locs ls cells slots) (hS : ∀ v ∈ S', ai_ok names h v) : ai_I O s A B names ad (pc', L, S', h) H locs ls cells slots := by
  obtain ⟨⟨h1, h2, h3, h4, h5, h6, h7, h8, h9⟩, h10, h11, hL, h12, h13⟩ := I
  exact ⟨⟨h1, h2, h3, h4, hS, h6, h7, h8, h9⟩, h10, h11, hL, h12, h13⟩
theorem ai_I.okS (I : ai_I O s A B names ad (pc, L, S, h) H locs ls cells slots) : ∀ v ∈ S, ai_ok names h v := I.1.2.2.2.2.1
theorem ai_I.okL (I : ai_I O s A B names ad (pc, L, S, h) H locs ls cells slots) {i : Nat} {v : ai_V} (hv : ai_nth L i = some (some v)) : ai_ok names h v ∧ ls[i]? = some (.val (ai_cv O ad v)) := ⟨I.1.2.2.2.2.2.1 v (ai_nth_mem hv), I.1.2.2.2.2.2.2.2.2 i v hv⟩
theorem ai_okc {v : ai_V} {S : List ai_V} (h1 : ai_ok names h v) (h2 : ∀ v ∈ S, ai_ok names h v) : ∀ w ∈ v :: S, ai_ok names h w := fun w hw => (List.mem_cons.mp hw).elim (fun q => q ▸ h1) (h2 w)
theorem ai_okt {v : ai_V} {S : List ai_V} (h2 : ∀ w ∈ v :: S, ai_ok names h w) : ∀ v ∈ S, ai_ok names h v := fun w hw => h2 w (List.mem_cons_of_mem _ hw)
theorem ai_okh {v : ai_V} {S : List ai_V} (h2 : ∀ w ∈ v :: S, ai_ok names h w) : ai_ok names h v := h2 v List.mem_cons_self
theorem ai_oki {x : Int32} : ai_ok names h (.inl x) := trivial
theorem ai_okl {x : Int64} : ai_ok names h (.inr (.inl x)) := trivial
/-- a value is pushed -/
theorem sd_push {n : Nat} {v : ai_V} (hok : ∀ names h, ai_ok names h v) (row : ∀ (H : Heap) (locs : List Loc) (cells slots : Nat) (ad : Nat → Nat) (ls : Array Slot) (rest : List Value), va_S A s.heap H locs → W p l e R s m args below meth c H locs cells slots Q (F0 m (pc + n) ls (ai_cv O ad v :: rest)) → W p l e R s m args below meth c H locs cells slots Q (F0 m pc ls rest))
    (hk : ∀ st, k st = some r → ai_G p l e R s m args below meth c Q O A B st) (hr : ai_push n v (pc, L, S, h) k = some r) : ai_G p l e R s m args below meth c Q O A B (pc, L, S, h) := by
  intro H locs cells slots names ad ls I
  exact row H locs cells slots ad ls _ I.1.2.2.1 (hk _ hr H locs cells slots names ad ls (I.stk (ai_okc (hok _ _) I.okS)))
theorem sd_ild {n i : Nat} (row : ∀ (H : Heap) (locs : List Loc) (cells slots : Nat) (ls : Array Slot) (rest : List Value) (x : Int32), ls[i]? = some (.val (.int x)) → W p l e R s m args below meth c H locs cells slots Q (F0 m (pc + n) ls (.int x :: rest)) → W p l e R s m args below meth c H locs cells slots Q (F0 m pc ls rest))
    (hk : ∀ st, k st = some r → ai_G p l e R s m args below meth c Q O A B st) (hr : ai_ild n i (pc, L, S, h) k = some r) : ai_G p l e R s m args below meth c Q O A B (pc, L, S, h) := by
  intro H locs cells slots names ad ls I
  unfold ai_ild at hr
  dsimp only at hr
  split at hr
  · rename_i v hv
    exact row H locs cells slots ls _ v (I.okL hv).2 (hk _ hr H locs cells slots names ad ls (I.stk (ai_okc ai_oki I.okS)))
  · cases hr
theorem sd_lld {n i : Nat} (row : ∀ (H : Heap) (locs : List Loc) (cells slots : Nat) (ls : Array Slot) (rest : List Value) (x : Int64), ls[i]? = some (.val (.long x)) → W p l e R s m args below meth c H locs cells slots Q (F0 m (pc + n) ls (.long x :: rest)) → W p l e R s m args below meth c H locs cells slots Q (F0 m pc ls rest))
    (hk : ∀ st, k st = some r → ai_G p l e R s m args below meth c Q O A B st) (hr : ai_lld n i (pc, L, S, h) k = some r) : ai_G p l e R s m args below meth c Q O A B (pc, L, S, h) := by
  intro H locs cells slots names ad ls I
  unfold ai_lld at hr
  dsimp only at hr
  split at hr
  · rename_i v hv
    exact row H locs cells slots ls _ v (I.okL hv).2 (hk _ hr H locs cells slots names ad ls (I.stk (ai_okc ai_okl I.okS)))
  · cases hr
theorem ai_cv_rn (ad : Nat → Nat) (t l a : Nat) : ai_cv O ad (.inr (.inr (t, l, a))) = .null ∨ ∃ q, ai_cv O ad (.inr (.inr (t, l, a))) = .ref q := by
  unfold ai_cv
  dsimp only
  split
  · exact Or.inl rfl
  · split
    · exact Or.inr ⟨_, rfl⟩
    · split
      · exact Or.inr ⟨_, rfl⟩
      · split
        · exact Or.inr ⟨_, rfl⟩
        · split
          · exact Or.inr ⟨_, rfl⟩
          · split
            · cases O.2.2.2.2.2.1 with
              | none => exact Or.inl rfl
              | some q => exact Or.inr ⟨q, rfl⟩
            · exact Or.inr ⟨_, rfl⟩
theorem sd_ald {n i : Nat} (row : ∀ (H : Heap) (locs : List Loc) (cells slots : Nat) (ls : Array Slot) (rest : List Value) (x : Value), (x = .null ∨ ∃ q, x = .ref q) → ls[i]? = some (.val x) → W p l e R s m args below meth c H locs cells slots Q (F0 m (pc + n) ls (x :: rest)) → W p l e R s m args below meth c H locs cells slots Q (F0 m pc ls rest))
    (hk : ∀ st, k st = some r → ai_G p l e R s m args below meth c Q O A B st) (hr : ai_ald n i (pc, L, S, h) k = some r) : ai_G p l e R s m args below meth c Q O A B (pc, L, S, h) := by
  intro H locs cells slots names ad ls I
  unfold ai_ald at hr
  dsimp only at hr
  split at hr
  · rename_i t l' a hv
    exact row H locs cells slots ls _ _ (ai_cv_rn ad t l' a) (I.okL hv).2 (hk _ hr H locs cells slots names ad ls (I.stk (ai_okc (I.okL hv).1 I.okS)))
  · cases hr
/-- the listed locals -/
def ai_lv (O : ai_Om) (ad : Nat → Nat) (L : List (Option ai_V)) : List (Nat × Value) := (List.range L.length).filterMap (fun i => match ai_nth L i with
  | some (some v) => some (i, ai_cv O ad v)
  | _ => none)
theorem ai_lv_mem {i : Nat} {v : Value} : (i, v) ∈ ai_lv O ad L ↔ ∃ w, ai_nth L i = some (some w) ∧ v = ai_cv O ad w := by
  unfold ai_lv
  rw [List.mem_filterMap]
  constructor
  · rintro ⟨j, -, hj⟩
    split at hj
    · rename_i w hw
      cases hj
      exact ⟨w, hw, rfl⟩
    · cases hj
  · rintro ⟨w, hw, rfl⟩
    refine ⟨i, ?_, by rw [hw]⟩
    rw [List.mem_range]
    rw [ai_nth_eq] at hw
    exact (List.getElem?_eq_some_iff.mp hw).1
theorem ai_I.has (I : ai_I O s A B names ad (pc, L, S, h) H locs ls cells slots) : lv_has ls L.length (ai_lv O ad L) := by
  obtain ⟨⟨h1, h2, h3, h4, h5, h6, h7, h8, h9⟩, h10, h11, hL, h12, h13⟩ := I
  refine ⟨h7, h8, fun q hq => ?_⟩
  obtain ⟨w, hw, he⟩ := ai_lv_mem.mp (show (q.1, q.2) ∈ _ from hq)
  rw [he]; exact h9 _ _ hw
/-- behind a store into a local -/
theorem ai_I.put {i : Nat} {v : ai_V} {ls' : Array Slot} (hB : B.1.1 = true) (I : ai_I O s A B names ad (pc, L, S, h) H locs ls cells slots) (hv : ai_ok names h v) (hn : ∀ x, v ≠ .inr (.inl x)) (hS : ∀ v ∈ S', ai_ok names h v)
    (hl : lv_has ls' L.length ((i, ai_cv O ad v) :: (ai_lv O ad L).filter (fun q => !(q.1 == i) && !(q.1 + 1 == i && q.2.category == 2)))) : ai_I O s A B names ad (pc', ai_put L i (some v), S', h) H locs ls' cells slots := by
  obtain ⟨⟨h1, h2, h3, h4, h5, h6, h7, h8, h9⟩, h10, h11, hL, h12, h13⟩ := I
  refine ⟨⟨h1, h2, h3, h4, hS, ?_, ?_, hl.2.1, ?_⟩, h10, ?_, (by dsimp only at hL ⊢; rw [ai_put_eq, List.length_set]; exact hL), h12, h13⟩
  · intro w hw
    dsimp only at hw
    rw [ai_put_eq] at hw
    rcases List.mem_or_eq_of_mem_set hw with q | q
    · exact h6 w q
    · cases q; exact hv
  · dsimp only
    rw [ai_put_eq, List.length_set]; exact hl.1
  · intro j w hw
    dsimp only at hw
    by_cases hj : j = i
    · subst hj
      have e : w = v := by
        rw [ai_nth_eq, ai_put_eq] at hw
        have hlt : j < L.length := by
          have := (List.getElem?_eq_some_iff.mp hw).1
          rwa [List.length_set] at this
        rw [List.getElem?_set_self hlt] at hw
        exact (Option.some.inj (Option.some.inj hw)).symm
      rw [e]; exact hl.2.2 (j, ai_cv O ad v) List.mem_cons_self
    · have hw2 : ai_nth L j = some (some w) := by
        rw [ai_nth_eq, ai_put_eq, List.getElem?_set_ne (Ne.symm hj)] at hw
        rw [ai_nth_eq]; exact hw
      have hc : (ai_cv O ad w).category = 1 := ai_cat (fun x q => h11 hB x (q ▸ ai_nth_mem hw2))
      refine hl.2.2 (j, ai_cv O ad w) (List.mem_cons_of_mem _ (List.mem_filter.mpr ⟨ai_lv_mem.mpr ⟨w, hw2, rfl⟩, ?_⟩))
      simp [hc, hj]
  · intro _ x hx
    dsimp only at hx
    rw [ai_put_eq] at hx
    rcases List.mem_or_eq_of_mem_set hx with q | q
    · exact h11 hB x q
    · exact hn x (Option.some.inj q).symm
theorem sd_ist {n i : Nat} (hB : B.1.1 = true) (row : ∀ (H : Heap) (locs : List Loc) (cells slots : Nat) (ls : Array Slot) (rest : List Value) (x : Int32) (nL : Nat) (lv : List (Nat × Value)), lv_has ls nL lv → i < nL → (∀ ls', lv_has ls' nL ((i, Value.int x) :: lv.filter (fun q => !(q.1 == i) && !(q.1 + 1 == i && q.2.category == 2))) → W p l e R s m args below meth c H locs cells slots Q (F0 m (pc + n) ls' rest)) → W p l e R s m args below meth c H locs cells slots Q (F0 m pc ls (.int x :: rest)))
    (hk : ∀ st, k st = some r → ai_G p l e R s m args below meth c Q O A B st) (hr : ai_ist n i (pc, L, S, h) k = some r) : ai_G p l e R s m args below meth c Q O A B (pc, L, S, h) := by
  intro H locs cells slots names ad ls I
  rcases S with _ | ⟨v | v, S⟩
  · cases hr
  · unfold ai_ist at hr
    dsimp only at hr
    cases hb : Nat.blt i L.length with
    | false => rw [hb] at hr; cases hr
    | true =>
      rw [hb] at hr
      exact row H locs cells slots ls _ v L.length _ I.has (Nat.blt_eq.mp hb) (fun ls' hl => hk _ hr H locs cells slots names ad ls' (I.put hB ai_oki (fun x q => by cases q) (ai_okt I.okS) hl))
  · cases hr
theorem sd_ast {n i : Nat} (hB : B.1.1 = true) (row : ∀ (H : Heap) (locs : List Loc) (cells slots : Nat) (ls : Array Slot) (rest : List Value) (x : Value) (nL : Nat) (lv : List (Nat × Value)), (x = .null ∨ ∃ q, x = .ref q) → lv_has ls nL lv → i < nL → (∀ ls', lv_has ls' nL ((i, x) :: lv.filter (fun q => !(q.1 == i) && !(q.1 + 1 == i && q.2.category == 2))) → W p l e R s m args below meth c H locs cells slots Q (F0 m (pc + n) ls' rest)) → W p l e R s m args below meth c H locs cells slots Q (F0 m pc ls (x :: rest)))
    (hk : ∀ st, k st = some r → ai_G p l e R s m args below meth c Q O A B st) (hr : ai_ast n i (pc, L, S, h) k = some r) : ai_G p l e R s m args below meth c Q O A B (pc, L, S, h) := by
  intro H locs cells slots names ad ls I
  rcases S with _ | ⟨v | v | ⟨t, l', a⟩, S⟩
  · cases hr
  · cases hr
  · cases hr
  · unfold ai_ast at hr
    dsimp only at hr
    cases hb : Nat.blt i L.length with
    | false => rw [hb] at hr; cases hr
    | true =>
      rw [hb] at hr
      exact row H locs cells slots ls _ _ L.length _ (ai_cv_rn ad t l' a) I.has (Nat.blt_eq.mp hb) (fun ls' hl => hk _ hr H locs cells slots names ad ls' (I.put hB (ai_okh I.okS) (fun x q => by cases q) (ai_okt I.okS) hl))
theorem sd_iinc {i : Nat} {q : Int} (hB : B.1.1 = true) (hx : p.tables.exec = Jvm.exec) (hb : c.code = cc) (hd : decode cc pc = .ok (.iinc i q, 3))
    (hk : ∀ st, k st = some r → ai_G p l e R s m args below meth c Q O A B st) (hr : ai_iinc i q (pc, L, S, h) k = some r) : ai_G p l e R s m args below meth c Q O A B (pc, L, S, h) := by
  intro H locs cells slots names ad ls I
  unfold ai_iinc at hr
  dsimp only at hr
  split at hr
  · rename_i v hv
    cases hlt : Nat.blt i L.length with
    | false => rw [hlt] at hr; cases hr
    | true =>
      rw [hlt] at hr
      obtain ⟨j, hj⟩ := List.getElem?_of_mem (ai_lv_mem (O := O) (ad := ad).mpr ⟨_, hv, rfl⟩)
      exact lv_iinc (v := v + Int32.ofInt q) hx hb hd I.has hj rfl (Nat.blt_eq.mp hlt) rfl (fun ls' hl => hk _ hr H locs cells slots names ad ls' (I.put hB ai_oki (fun x q => by cases q) I.okS hl))
  · cases hr
theorem sd_bin {f : Int32 → Int32 → Int32} (row : ∀ (H : Heap) (locs : List Loc) (cells slots : Nat) (ls : Array Slot) (rest : List Value) (x y : Int32), W p l e R s m args below meth c H locs cells slots Q (F0 m (pc + 1) ls (.int (f x y) :: rest)) → W p l e R s m args below meth c H locs cells slots Q (F0 m pc ls (.int y :: .int x :: rest)))
    (hk : ∀ st, k st = some r → ai_G p l e R s m args below meth c Q O A B st) (hr : ai_bin f (pc, L, S, h) k = some r) : ai_G p l e R s m args below meth c Q O A B (pc, L, S, h) := by
  intro H locs cells slots names ad ls I
  rcases S with _ | ⟨y | v, S⟩
  · cases hr
  · rcases S with _ | ⟨x | v, S⟩
    · cases hr
    · exact row H locs cells slots ls _ x y (hk _ hr H locs cells slots names ad ls (I.stk (ai_okc ai_oki (ai_okt (ai_okt I.okS)))))
    · cases hr
  · cases hr
theorem sd_binD {f : Int32 → Int32 → Int32} (row : ∀ (H : Heap) (locs : List Loc) (cells slots : Nat) (ls : Array Slot) (rest : List Value) (x y : Int32), ¬ y = 0 → W p l e R s m args below meth c H locs cells slots Q (F0 m (pc + 1) ls (.int (f x y) :: rest)) → W p l e R s m args below meth c H locs cells slots Q (F0 m pc ls (.int y :: .int x :: rest)))
    (hk : ∀ st, k st = some r → ai_G p l e R s m args below meth c Q O A B st) (hr : ai_binD f (pc, L, S, h) k = some r) : ai_G p l e R s m args below meth c Q O A B (pc, L, S, h) := by
  intro H locs cells slots names ad ls I
  rcases S with _ | ⟨y | v, S⟩
  · cases hr
  · rcases S with _ | ⟨x | v, S⟩
    · cases hr
    · unfold ai_binD at hr
      dsimp only at hr
      split at hr
      · cases hr
      · rename_i h0
        exact row H locs cells slots ls _ x y h0 (hk _ hr H locs cells slots names ad ls (I.stk (ai_okc ai_oki (ai_okt (ai_okt I.okS)))))
    · cases hr
  · cases hr
theorem sd_binL {f : Int64 → Int64 → Int64} (row : ∀ (H : Heap) (locs : List Loc) (cells slots : Nat) (ls : Array Slot) (rest : List Value) (x y : Int64), W p l e R s m args below meth c H locs cells slots Q (F0 m (pc + 1) ls (.long (f x y) :: rest)) → W p l e R s m args below meth c H locs cells slots Q (F0 m pc ls (.long y :: .long x :: rest)))
    (hk : ∀ st, k st = some r → ai_G p l e R s m args below meth c Q O A B st) (hr : ai_binL f (pc, L, S, h) k = some r) : ai_G p l e R s m args below meth c Q O A B (pc, L, S, h) := by
  intro H locs cells slots names ad ls I
  rcases S with _ | ⟨v | y | v, S⟩
  · cases hr
  · cases hr
  · rcases S with _ | ⟨v | x | v, S⟩
    · cases hr
    · cases hr
    · exact row H locs cells slots ls _ x y (hk _ hr H locs cells slots names ad ls (I.stk (ai_okc ai_okl (ai_okt (ai_okt I.okS)))))
    · cases hr
  · cases hr
theorem sd_lcmp (hx : p.tables.exec = Jvm.exec) (hb : c.code = cc) (hd : decode cc pc = .ok (.lcmp, 1)) (hk : ∀ st, k st = some r → ai_G p l e R s m args below meth c Q O A B st) (hr : ai_lcmp (pc, L, S, h) k = some r) : ai_G p l e R s m args below meth c Q O A B (pc, L, S, h) := by
  intro H locs cells slots names ad ls I
  rcases S with _ | ⟨v | y | v, S⟩
  · cases hr
  · cases hr
  · rcases S with _ | ⟨v | x | v, S⟩
    · cases hr
    · cases hr
    · exact W.lcmp hx hb hd (hk _ hr H locs cells slots names ad ls (I.stk (ai_okc ai_oki (ai_okt (ai_okt I.okS)))))
    · cases hr
  · cases hr
theorem sd_un {f : Int32 → Int32} (row : ∀ (H : Heap) (locs : List Loc) (cells slots : Nat) (ls : Array Slot) (rest : List Value) (x : Int32), W p l e R s m args below meth c H locs cells slots Q (F0 m (pc + 1) ls (.int (f x) :: rest)) → W p l e R s m args below meth c H locs cells slots Q (F0 m pc ls (.int x :: rest)))
    (hk : ∀ st, k st = some r → ai_G p l e R s m args below meth c Q O A B st) (hr : ai_un f (pc, L, S, h) k = some r) : ai_G p l e R s m args below meth c Q O A B (pc, L, S, h) := by
  intro H locs cells slots names ad ls I
  rcases S with _ | ⟨x | v, S⟩
  · cases hr
  · exact row H locs cells slots ls _ x (hk _ hr H locs cells slots names ad ls (I.stk (ai_okc ai_oki (ai_okt I.okS))))
  · cases hr
theorem sd_i2l (hx : p.tables.exec = Jvm.exec) (hb : c.code = cc) (hd : decode cc pc = .ok (.i2l, 1)) (hk : ∀ st, k st = some r → ai_G p l e R s m args below meth c Q O A B st) (hr : ai_i2l (pc, L, S, h) k = some r) : ai_G p l e R s m args below meth c Q O A B (pc, L, S, h) := by
  intro H locs cells slots names ad ls I
  rcases S with _ | ⟨x | v, S⟩
  · cases hr
  · exact lv_i2l hx hb hd rfl (hk _ hr H locs cells slots names ad ls (I.stk (ai_okc ai_okl (ai_okt I.okS))))
  · cases hr
theorem ai_tg_eq {off : Int} (hj : 0 ≤ (pc : Int) + off) : (pc : Int) + off = ((ai_tg pc off : Nat) : Int) := (Int.toNat_of_nonneg hj).symm
theorem sd_icmp {q : ClassFile.Cond} {off : Int} (hx : p.tables.exec = Jvm.exec) (hb : c.code = cc) (hd : decode cc pc = .ok (.if_icmp q off, 3)) (hj : 0 ≤ (pc : Int) + off) (hk : ∀ st, k st = some r → ai_G p l e R s m args below meth c Q O A B st) (hr : ai_icmp q off (pc, L, S, h) k = some r) : ai_G p l e R s m args below meth c Q O A B (pc, L, S, h) := by
  intro H locs cells slots names ad ls I
  have ht := ai_tg_eq hj
  rcases S with _ | ⟨y | v, S⟩
  · cases hr
  · rcases S with _ | ⟨x | v, S⟩
    · cases hr
    · have K : ∀ pc', k (pc', L, S, h) = some r → W p l e R s m args below meth c H locs cells slots Q (F0 m pc' ls (S.map (ai_cv O ad))) := fun pc' q => hk _ q H locs cells slots names ad ls (I.stk (ai_okt (ai_okt I.okS)))
      unfold ai_icmp at hr
      dsimp only at hr
      unfold ai_if at hr
      cases q <;> dsimp only at hr
      · exact lv_icmp_eq hx hb hd ht (fun w => K _ (by rw [if_pos w] at hr; exact hr)) (fun w => K _ (by rw [if_neg w] at hr; exact hr))
      · exact lv_icmp_ne hx hb hd ht (fun w => K _ (by first | (rw [if_neg w] at hr; exact hr) | (rw [if_pos w] at hr; exact hr))) (fun w => K _ (by first | (rw [if_neg w] at hr; exact hr) | (rw [if_pos (Classical.not_not.mp w)] at hr; exact hr) | (rw [if_pos w] at hr; exact hr)))
      · exact lv_icmp_lt hx hb hd ht (fun w => K _ (by rw [if_pos w] at hr; exact hr)) (fun w => K _ (by rw [if_neg w] at hr; exact hr))
      · exact lv_icmp_ge hx hb hd ht (fun w => K _ (by rw [if_pos w] at hr; exact hr)) (fun w => K _ (by rw [if_neg w] at hr; exact hr))
      · exact lv_icmp_gt hx hb hd ht (fun w => K _ (by rw [if_pos w] at hr; exact hr)) (fun w => K _ (by rw [if_neg w] at hr; exact hr))
      · exact lv_icmp_le hx hb hd ht (fun w => K _ (by rw [if_pos w] at hr; exact hr)) (fun w => K _ (by rw [if_neg w] at hr; exact hr))
    · cases hr
  · cases hr
theorem sd_ifz {q : ClassFile.Cond} {off : Int} (hx : p.tables.exec = Jvm.exec) (hb : c.code = cc) (hd : decode cc pc = .ok (.ifCond q off, 3)) (hj : 0 ≤ (pc : Int) + off) (hk : ∀ st, k st = some r → ai_G p l e R s m args below meth c Q O A B st) (hr : ai_ifz q off (pc, L, S, h) k = some r) : ai_G p l e R s m args below meth c Q O A B (pc, L, S, h) := by
  intro H locs cells slots names ad ls I
  have ht := ai_tg_eq hj
  rcases S with _ | ⟨x | v, S⟩
  · cases hr
  · have K : ∀ pc', k (pc', L, S, h) = some r → W p l e R s m args below meth c H locs cells slots Q (F0 m pc' ls (S.map (ai_cv O ad))) := fun pc' q => hk _ q H locs cells slots names ad ls (I.stk (ai_okt I.okS))
    unfold ai_ifz at hr
    dsimp only at hr
    unfold ai_if at hr
    cases q <;> dsimp only at hr
    · exact lv_if_eq hx hb hd ht (fun w => K _ (by rw [if_pos w] at hr; exact hr)) (fun w => K _ (by rw [if_neg w] at hr; exact hr))
    · exact lv_if_ne hx hb hd ht (fun w => K _ (by first | (rw [if_neg w] at hr; exact hr) | (rw [if_pos w] at hr; exact hr))) (fun w => K _ (by first | (rw [if_neg w] at hr; exact hr) | (rw [if_pos (Classical.not_not.mp w)] at hr; exact hr) | (rw [if_pos w] at hr; exact hr)))
    · exact lv_if_lt hx hb hd ht (fun w => K _ (by rw [if_pos w] at hr; exact hr)) (fun w => K _ (by rw [if_neg w] at hr; exact hr))
    · exact lv_if_ge hx hb hd ht (fun w => K _ (by rw [if_pos w] at hr; exact hr)) (fun w => K _ (by rw [if_neg w] at hr; exact hr))
    · exact lv_if_gt hx hb hd ht (fun w => K _ (by rw [if_pos w] at hr; exact hr)) (fun w => K _ (by rw [if_neg w] at hr; exact hr))
    · exact lv_if_le hx hb hd ht (fun w => K _ (by rw [if_pos w] at hr; exact hr)) (fun w => K _ (by rw [if_neg w] at hr; exact hr))
  · cases hr
theorem ai_cv_0 {l' a : Nat} : ai_cv O ad (.inr (.inr (0, l', a))) = .null := rfl
theorem ai_cv_n0 {t l' a : Nat} (ht : ¬ t = 0) (ht2 : ¬ t = 11) : ∃ q, ai_cv O ad (.inr (.inr (t, l', a))) = .ref q := by
  unfold ai_cv
  dsimp only
  rw [if_neg ht]
  split
  · exact ⟨_, rfl⟩
  · split
    · exact ⟨_, rfl⟩
    · split
      · exact ⟨_, rfl⟩
      · split
        · exact ⟨_, rfl⟩
        · exact ⟨_, rfl⟩
theorem sd_ifnull {off : Int} (hx : p.tables.exec = Jvm.exec) (hb : c.code = cc) (hd : decode cc pc = .ok (.ifnull off, 3)) (hj : 0 ≤ (pc : Int) + off) (hk : ∀ st, k st = some r → ai_G p l e R s m args below meth c Q O A B st) (hr : ai_ifn true off (pc, L, S, h) k = some r) : ai_G p l e R s m args below meth c Q O A B (pc, L, S, h) := by
  intro H locs cells slots names ad ls I
  have ht := ai_tg_eq hj
  rcases S with _ | ⟨v | v | ⟨t, l', a⟩, S⟩
  · cases hr
  · cases hr
  · cases hr
  · have K : ∀ pc', k (pc', L, S, h) = some r → W p l e R s m args below meth c H locs cells slots Q (F0 m pc' ls (S.map (ai_cv O ad))) := fun pc' q => hk _ q H locs cells slots names ad ls (I.stk (ai_okt I.okS))
    unfold ai_ifn at hr
    dsimp only at hr
    split at hr
    · rename_i h0
      subst h0
      exact lv_ifnullN hx hb hd ht (K _ hr)
    · rename_i h0
      cases h11 : Nat.beq t 11 with
      | true => rw [h11] at hr; cases hr
      | false =>
      rw [h11] at hr
      obtain ⟨q, hq⟩ := ai_cv_n0 (O := O) (ad := ad) (l' := l') (a := a) h0 (fun e => by rw [e] at h11; cases h11)
      show W p l e R s m args below meth c H locs cells slots Q (F0 m pc ls (ai_cv O ad (.inr (.inr (t, l', a))) :: S.map (ai_cv O ad)))
      rw [hq]
      exact lv_ifnull hx hb hd (K _ hr)
theorem sd_ifnonnull {off : Int} (hx : p.tables.exec = Jvm.exec) (hb : c.code = cc) (hd : decode cc pc = .ok (.ifnonnull off, 3)) (hj : 0 ≤ (pc : Int) + off) (hk : ∀ st, k st = some r → ai_G p l e R s m args below meth c Q O A B st) (hr : ai_ifn false off (pc, L, S, h) k = some r) : ai_G p l e R s m args below meth c Q O A B (pc, L, S, h) := by
  intro H locs cells slots names ad ls I
  have ht := ai_tg_eq hj
  rcases S with _ | ⟨v | v | ⟨t, l', a⟩, S⟩
  · cases hr
  · cases hr
  · cases hr
  · have K : ∀ pc', k (pc', L, S, h) = some r → W p l e R s m args below meth c H locs cells slots Q (F0 m pc' ls (S.map (ai_cv O ad))) := fun pc' q => hk _ q H locs cells slots names ad ls (I.stk (ai_okt I.okS))
    unfold ai_ifn at hr
    dsimp only at hr
    split at hr
    · rename_i h0
      subst h0
      exact lv_ifnonnullN hx hb hd (K _ hr)
    · rename_i h0
      cases h11 : Nat.beq t 11 with
      | true => rw [h11] at hr; cases hr
      | false =>
      rw [h11] at hr
      obtain ⟨q, hq⟩ := ai_cv_n0 (O := O) (ad := ad) (l' := l') (a := a) h0 (fun e => by rw [e] at h11; cases h11)
      show W p l e R s m args below meth c H locs cells slots Q (F0 m pc ls (ai_cv O ad (.inr (.inr (t, l', a))) :: S.map (ai_cv O ad)))
      rw [hq]
      exact lv_ifnonnull hx hb hd ht (K _ hr)
theorem sd_goto {off : Int} (hx : p.tables.exec = Jvm.exec) (hb : c.code = cc) (hd : decode cc pc = .ok (.goto off, 3)) (hj : 0 ≤ (pc : Int) + off) (hk : ∀ st, k st = some r → ai_G p l e R s m args below meth c Q O A B st) (hr : ai_goto off (pc, L, S, h) k = some r) : ai_G p l e R s m args below meth c Q O A B (pc, L, S, h) := by
  intro H locs cells slots names ad ls I
  exact lv_goto hx hb hd (ai_tg_eq hj) (hk _ hr H locs cells slots names ad ls (I.stk I.okS))
theorem ai_sw_at {d lo : Int} {x : Int32} : ∀ (os : List Int) (q : Int), ai_sw d lo os pc q L S h x k = some r → (∃ (i : Nat) (o : Int), os[i]? = some o ∧ x = Int32.ofInt (q + i) ∧ k (ai_tg pc o, L, S, h) = some r) ∨ ((∀ i : Nat, i < os.length → ¬ x = Int32.ofInt (q + i)) ∧ k (ai_tg pc d, L, S, h) = some r) := by
  intro os
  induction os with
  | nil => intro q hr; exact Or.inr ⟨fun i hi => absurd hi (Nat.not_lt_zero _), hr⟩
  | cons o os ih =>
    intro q hr
    unfold ai_sw at hr
    split at hr
    · rename_i e1
      exact Or.inl ⟨0, o, rfl, by rw [e1]; simp, hr⟩
    · rename_i e1
      rcases ih (q + 1) hr with ⟨i, o', h1, h2, h3⟩ | ⟨h1, h2⟩
      · exact Or.inl ⟨i + 1, o', h1, by rw [h2]; congr 1; omega, h3⟩
      · refine Or.inr ⟨fun i hi => ?_, h2⟩
        cases i with
        | zero => simpa using e1
        | succ i =>
          have := h1 i (by simpa using hi)
          intro e2
          exact this (by rw [e2]; congr 1; omega)
theorem sd_tsw {d lo hi : Int} {os : Array Int} {len : Nat} (hx : p.tables.exec = Jvm.exec) (hb : c.code = cc) (hd : decode cc pc = .ok (.tableswitch d lo hi os, len)) (hj : 0 ≤ (pc : Int) + d) (hjs : ∀ o ∈ os.toList, 0 ≤ (pc : Int) + o) (hsz : hi = lo + os.size - 1) (hlo : -1000 ≤ lo) (hhi : lo + os.size ≤ 1000)
    (hk : ∀ st, k st = some r → ai_G p l e R s m args below meth c Q O A B st) (hr : ai_tsw d lo os (pc, L, S, h) k = some r) : ai_G p l e R s m args below meth c Q O A B (pc, L, S, h) := by
  intro H locs cells slots names ad ls I
  rcases S with _ | ⟨x | v, S⟩
  · cases hr
  · have K : ∀ pc', k (pc', L, S, h) = some r → W p l e R s m args below meth c H locs cells slots Q (F0 m pc' ls (S.map (ai_cv O ad))) := fun pc' q => hk _ q H locs cells slots names ad ls (I.stk (ai_okt I.okS))
    have hi32 : ∀ z : Int, -1000 ≤ z → z ≤ 1000 → (Int32.ofInt z).toInt = z := fun z h1 h2 => Int32.toInt_ofInt_of_le (by omega) (by omega)
    rcases ai_sw_at os.toList lo hr with ⟨i, o, h1, h2, h3⟩ | ⟨h1, h2⟩
    · have hil : i < os.size := by
        have := (List.getElem?_eq_some_iff.mp h1).1
        simpa using this
      have hxi : x.toInt = lo + i := by rw [h2]; exact hi32 _ (by omega) (by omega)
      refine lv_tableIn hx hb hd (by omega) (by omega) (off := o) ?_ (ai_tg_eq (hjs o (List.mem_of_getElem? h1))) (K _ h3)
      have e1 : (x.toInt - lo).toNat = i := by omega
      rw [e1, ← Array.getElem?_toList]; exact h1
    · refine lv_tableOut hx hb hd ?_ (ai_tg_eq hj) (K _ h2)
      rcases Int.lt_or_le x.toInt lo with q | q
      · exact Or.inl q
      · refine Or.inr ?_
        rcases Int.lt_or_le hi x.toInt with q2 | q2
        · exact q2
        · exfalso
          refine h1 (x.toInt - lo).toNat (by simp; omega) ?_
          have e2 : lo + ((x.toInt - lo).toNat : Int) = x.toInt := by omega
          rw [e2, Int32.ofInt_toInt]
  · cases hr
theorem sd_dup (hx : p.tables.exec = Jvm.exec) (hb : c.code = cc) (hd : decode cc pc = .ok (.dup, 1)) (hk : ∀ st, k st = some r → ai_G p l e R s m args below meth c Q O A B st) (hr : ai_dup (pc, L, S, h) k = some r) : ai_G p l e R s m args below meth c Q O A B (pc, L, S, h) := by
  intro H locs cells slots names ad ls I
  rcases S with _ | ⟨x | v | v, S⟩
  · cases hr
  · exact lv_dup hx hb hd rfl (hk _ hr H locs cells slots names ad ls (I.stk (ai_okc ai_oki I.okS)))
  · cases hr
  · exact lv_dup hx hb hd (ai_cat (fun x q => by cases q)) (hk _ hr H locs cells slots names ad ls (I.stk (ai_okc (ai_okh I.okS) I.okS)))
theorem sd_dup2 (hx : p.tables.exec = Jvm.exec) (hb : c.code = cc) (hd : decode cc pc = .ok (.dup2, 1)) (hk : ∀ st, k st = some r → ai_G p l e R s m args below meth c Q O A B st) (hr : ai_dup2 (pc, L, S, h) k = some r) : ai_G p l e R s m args below meth c Q O A B (pc, L, S, h) := by
  intro H locs cells slots names ad ls I
  rcases S with _ | ⟨v, S⟩
  · cases hr
  · by_cases hv : ∃ x, v = .inr (.inl x)
    · obtain ⟨x, rfl⟩ := hv; cases hr
    · have hv' : ∀ x, v ≠ .inr (.inl x) := fun x q => hv ⟨x, q⟩
      rcases S with _ | ⟨w, S⟩
      · rcases v with v | v | v <;> cases hr
      · by_cases hw : ∃ x, w = .inr (.inl x)
        · obtain ⟨x, rfl⟩ := hw; rcases v with v | v | v <;> cases hr
        · have hw' : ∀ x, w ≠ .inr (.inl x) := fun x q => hw ⟨x, q⟩
          have hr' : k (pc + 1, L, v :: w :: v :: w :: S, h) = some r := by
            rcases v with v | v | v
            · rcases w with w | w | w
              · exact hr
              · exact absurd rfl (hw' w)
              · exact hr
            · exact absurd rfl (hv' v)
            · rcases w with w | w | w
              · exact hr
              · exact absurd rfl (hw' w)
              · exact hr
          exact lv_dup2_11 hx hb hd (ai_cat hv') (ai_cat hw') (hk _ hr' H locs cells slots names ad ls (I.stk (ai_okc (ai_okh I.okS) (ai_okc (ai_okh (ai_okt I.okS)) I.okS))))
end SD
