/-! SOUNDNESS, 4: what was there stays; objects are made; calls. -/
theorem ai_va_D_w {A A' : Nat → Prop} {ws : va_W} (h : va_D A ws) (hA : ∀ q, A q → A' q) : va_D A' ws := ⟨h.1, fun k q hk => hA _ (h.2 k q hk)⟩
/-- what isn't written: the table of powers, the texts, links among nest mates -/
def ai_RO (O : ai_Om) (A : Nat → Prop) (U : State) (H : Heap) : Prop :=
  va_Z RX9 "POWERS" "[I" (.ref O.2.2.2.2.1) A U H ∧ va_T .int O.2.2.2.2.1 6 (fun j => .int (ai_pow.getD j 0)) A U H ∧
  vk_S ai_txts.length (ai_txts.map List.length) ai_txts O.2.2.1 O.2.2.2.1 A U H ∧ (∀ q ∈ ai_tixs, vk_R RX7 q.1 q.2.1 (O.2.2.1 q.2.2) U) ∧
  (∀ q ∈ ai_nsts, va_Nw (.methodLinkNest q.1 q.2.1 q.2.2.1 q.2.2.2) U) ∧ va_Nw (.castable "[I" "java/lang/Cloneable") U ∧
  va_Z "java/lang/String" "COMPACT_STRINGS" "Z" (.int 1) A U H ∧ va_Z "jdk/internal/util/Preconditions" "SIOOBE_FORMATTER" "Ljava/util/function/BiFunction;" (va_rf O.2.2.2.2.2.1) A U H ∧ va_T .int O.2.2.2.2.2.2.1 O.2.2.2.2.2.2.2.1 (fun j => .int (O.2.2.2.2.2.2.2.2 j)) A U H ∧ va_AO RX4 U ∧ va_AO RX8 U
theorem ai_RO.narrow {O : ai_Om} {A A' : Nat → Prop} {U : State} {H : Heap} (h : ai_RO O A U H) (hA : ∀ q, A' q → A q) : ai_RO O A' U H := by
  obtain ⟨h1, h2, h3, h4, h5, h6, h7, h8, h9, h10, h11⟩ := h
  exact ⟨h1.narrow hA, h2.narrow hA, h3.narrow hA, h4, h5, h6, h7.narrow hA, h8.narrow hA, h9.narrow hA, h10, h11⟩
theorem ai_RO.kept {O : ai_Om} {A : Nat → Prop} {U : State} {H H1 : Heap} (h : ai_RO O A U H) (hq : ∀ a : Nat, a < H.size → ¬ A a → H1[a]? = H[a]?) : ai_RO O A U H1 := by
  obtain ⟨h1, h2, h3, h4, h5, h6, h7, h8, h9, h10, h11⟩ := h
  exact ⟨h1.kept hq, h2.kept hq, h3.kept hq, h4, h5, h6, h7.kept hq, h8.kept hq, h9.kept hq, h10, h11⟩
theorem ai_RO.warm {O : ai_Om} {A : Nat → Prop} {s U : State} {H : Heap} (h : ai_RO O A s H) (hW : s.WarmedH U.vm) : ai_RO O A U H := by
  obtain ⟨h1, h2, h3, h4, h5, h6, h7, h8, h9, h10, h11⟩ := h
  exact ⟨h1.moved hW.alike, h2.moved hW.alike, h3.moved hW.alike, fun q hq => (h4 q hq).warm hW, fun q hq => (h5 q hq).warmM hW, h6.warmC hW, h7.moved hW.alike, h8.moved hW.alike, h9.moved hW.alike, h10.moved hW.alike, h11.moved hW.alike⟩
theorem ai_RO.same {O : ai_Om} {A : Nat → Prop} {s U : State} {H : Heap} (h : ai_RO O A s H) (hv : s.vm = U.vm) : ai_RO O A U H := by
  obtain ⟨h1, h2, h3, h4, h5, h6, h7, h8, h9, h10, h11⟩ := h
  have hal : s.vm.Alike U.vm := hv ▸ Vm.Alike.refl s.vm
  exact ⟨h1.moved hal, h2.moved hal, h3.moved hal, fun q hq => (h4 q hq).same hv.symm, fun q hq => (h5 q hq).same rfl hv, h6.same rfl hv, h7.moved hal, h8.moved hal, h9.moved hal, h10.moved hal, h11.moved hal⟩
/-- a method's world at its start -/
def ai_Pw (O : ai_Om) (names : List Nat) (ad : Nat → Nat) (h : ai_H) (sz : Nat) (U : State) : Prop :=
  U.heap.size = sz ∧ va_P O.1 vwCl (ai_ws O.2.1 ad h names) U.heap ∧ va_K O.1 vwCl (ai_tys O.2.1) U ∧ va_D (fun _ => True) (ai_ws O.2.1 ad h names) ∧ ai_RO O (va_A (ai_ws O.2.1 ad h names) sz) U U.heap
def ai_wm (mi : Nat) : List Cond := Cond.code (ai_y mi).1 (ai_y mi).2.1 (ai_y mi).2.2.1 (ai_y mi).2.2.2 :: ai_Ts
/-- a method's contract, at arguments, a heap, an answer and the heap behind it -/
def ai_Cn (l : Launch) (O : ai_Om) (fr lo mi : Nat) (As : List ai_V) (h : ai_H) (r : ai_R) : Prop :=
  ∀ (names : List Nat) (ad : Nat → Nat) (sz : Nat), ai_wf h names → (∀ v ∈ As, ai_ok names h v) →
    Met l (ai_y mi).1 (ai_wm mi) ({ frames := fr, cells := r.2.2.2.2.2.2.1 - h.2.2.2.2.2.1, slots := r.2.2.2.2.2.2.2 - h.2.2.2.2.2.2, locals := lo }) (va_Pc (As.map (ai_cv O ad)) (ai_Pw O names ad h sz)) (ai_Qc O (va_A (ai_ws O.2.1 ad h names) sz) ((false, 0), names, ad, h) r) (r.2.2.2.2.2.2.1 - h.2.2.2.2.2.1) (r.2.2.2.2.2.2.2 - h.2.2.2.2.2.2) (va_A (ai_ws O.2.1 ad h names) sz)
def ai_Yok (mi n : Nat) : Prop := Cond.code (ai_y mi).1 (ai_y mi).2.1 (ai_y mi).2.2.1 (ai_y mi).2.2.2 ∈ ai_Ts ∧ Cond.initialized (ai_y mi).1.cls ∈ ai_Ts ∧ ((ai_y mi).1.cls ≠ "java/lang/invoke/MethodHandle" ∧ (ai_y mi).1.cls ≠ "java/lang/invoke/VarHandle" ∧ (parseMethodDescriptor (ai_y mi).1.desc).map (fun d => d.parameters.length) = some n) ∧ (ai_y mi).2.2.1 ≤ 21
def ai_Lnk (o idx mi : Nat) : Prop := Cond.methodLink (ai_nmO o) idx (ai_y mi).1 ∈ ai_Ts
def ai_LnkN (o idx mi : Nat) : Prop := ∃ host, (ai_nmO o, idx, (ai_y mi).1, host) ∈ ai_nsts
/-- a call's row -/
def ai_Mtok (o idx : Nat) : ai_Mr → Prop
  | (0, mi, n, t, _) => ∃ n', n = n' + 1 ∧ ai_Yok mi n' ∧ ai_Lnk o idx mi ∧ Cond.instanceMethod (ai_y mi).1 ∈ ai_Ts ∧ Cond.selects (ai_y mi).1.cls (ai_y mi).1 (ai_y mi).1 ∈ ai_Ts ∧ ((∃ ci, ci < 13 ∧ t = 20 + ci ∧ (ai_y mi).1.cls = jg_R ci) ∨ (t = 6 ∧ (ai_y mi).1.cls = "java/lang/String"))
  | (1, mi, n, _, _) => ai_Yok mi n ∧ Cond.static (ai_y mi).1 ∈ ai_Ts ∧ (ai_Lnk o idx mi ∨ ai_LnkN o idx mi)
  | (10, mi, n, t, _) => ∃ n', n = n' + 1 ∧ ai_Yok mi n' ∧ (ai_y mi).2.2.2 = none ∧ (ai_y mi).1.name = "<init>" ∧ Cond.instanceMethod (ai_y mi).1 ∈ ai_Ts ∧ 40 ≤ t ∧ t < 53 ∧ (ai_Lnk o idx mi ∨ ai_LnkN o idx mi)
  | (3, _) => Cond.methodLink (ai_nmO o) idx Lib.Math.max.name ∈ ai_Ts
  | (4, _) => Cond.methodLink (ai_nmO o) idx Lib.Math.min.name ∈ ai_Ts
  | (5, _) => Cond.methodLink (ai_nmO o) idx Lib.Math.abs.name ∈ ai_Ts
  | (6, _) => Cond.methodLink (ai_nmO o) idx arraycopyName ∈ ai_Ts
  | (7, _) => Cond.methodLink (ai_nmO o) idx Lib.objectInit ∈ ai_Ts
  | (9, _) => Cond.methodLink (ai_nmO o) idx ⟨"[I", "clone", "()Ljava/lang/Object;"⟩ ∈ ai_Ts
  | _ => True
/-- the JDK's words -/
def ai_Jok : Prop := Cond.static Lib.Math.max.name ∈ ai_Ts ∧ Cond.code Lib.Math.max.name Lib.Math.max.code 2 (some .int) ∈ ai_Ts ∧ Cond.static Lib.Math.min.name ∈ ai_Ts ∧ Cond.code Lib.Math.min.name Lib.Math.min.code 2 (some .int) ∈ ai_Ts ∧ Cond.static Lib.Math.abs.name ∈ ai_Ts ∧ Cond.code Lib.Math.abs.name Lib.Math.abs.code 1 (some .int) ∈ ai_Ts ∧ Cond.initialized "java/lang/Math" ∈ ai_Ts ∧ Cond.native arraycopyName ∈ ai_Ts ∧ Cond.static arraycopyName ∈ ai_Ts ∧ Cond.initialized "java/lang/System" ∈ ai_Ts ∧
  Cond.instanceMethod Lib.objectInit ∈ ai_Ts ∧ Cond.code Lib.objectInit ⟨#[0xb1]⟩ 1 none ∈ ai_Ts ∧ Cond.sameMethod "[I" "java/lang/Object" "clone" "()Ljava/lang/Object;" ∈ ai_Ts ∧ Cond.native ⟨"java/lang/Object", "clone", "()Ljava/lang/Object;"⟩ ∈ ai_Ts ∧ Cond.instanceMethod ⟨"java/lang/Object", "clone", "()Ljava/lang/Object;"⟩ ∈ ai_Ts ∧ Cond.selects "[I" ⟨"[I", "clone", "()Ljava/lang/Object;"⟩ ⟨"java/lang/Object", "clone", "()Ljava/lang/Object;"⟩ ∈ ai_Ts ∧ Cond.arrayClass .int ∈ ai_Ts ∧ Cond.arrayClass .byte ∈ ai_Ts ∧ Cond.arrayClass .boolean ∈ ai_Ts
section SD
variable {p : Program} {l : Launch} {e : Env} {R : Room} {s : State} {m : MethodId} {args : Array Value} {below : List Frame} {meth : Method} {c : Code} {Q : State → Prop} {cc : ByteArray} {O : ai_Om} {A : Nat → Prop} {B : ai_Bg}
variable {H H1 : Heap} {locs locs1 : List Loc} {cells slots cells' slots' : Nat} {names names' : List Nat} {ad ad' : Nat → Nat} {ls : Array Slot} {pc pc' : Nat} {L : List (Option ai_V)} {S S' As : List ai_V} {h h' : ai_H} {k : ai_K} {r r1 : ai_R} {b : Bool × Nat}
theorem ai_ok_ext {v : ai_V} (hx : ai_ext (b, names, ad, h) names' ad' h') (hv : ai_ok names h v) : ai_ok names' h' v ∧ ai_cv O ad' v = ai_cv O ad v := by
  rcases v with v | v | ⟨t, n, a⟩
  · exact ⟨trivial, rfl⟩
  · exact ⟨trivial, rfl⟩
  · have key : a ∈ names → ad' a = ad a := fun ha => (hx a ha).2.1
    unfold ai_ok at hv ⊢
    unfold ai_cv
    dsimp only at hv ⊢
    rcases hv with q | q | q | q | q | q | q | q | q
    · exact ⟨Or.inl q, by simp [q]⟩
    · exact ⟨Or.inr (Or.inl q), by simp [q.1]⟩
    · exact ⟨Or.inr (Or.inr (Or.inl q)), by simp [q]⟩
    · exact ⟨Or.inr (Or.inr (Or.inr (Or.inl q))), by simp [q]⟩
    · exact ⟨Or.inr (Or.inr (Or.inr (Or.inr (Or.inl q)))), by simp [q.1]⟩
    · exact ⟨Or.inr (Or.inr (Or.inr (Or.inr (Or.inr (Or.inl q))))), by simp [q]⟩
    · obtain ⟨x1, x2, x3⟩ := hx a q.2.2.1
      dsimp only at x2 x3
      rw [x2]
      refine ⟨Or.inr (Or.inr (Or.inr (Or.inr (Or.inr (Or.inr (Or.inl ⟨q.1, q.2.1, x1, ?_⟩)))))), rfl⟩
      rcases x3 with x3 | x3
      · rw [x3]; exact q.2.2.2
      · rw [q.2.2.2] at x3; dsimp only at x3; omega
    · obtain ⟨x1, x2, x3⟩ := hx a q.2.2.1
      dsimp only at x2 x3
      rw [x2]
      refine ⟨Or.inr (Or.inr (Or.inr (Or.inr (Or.inr (Or.inr (Or.inr (Or.inl ⟨q.1, q.2.1, x1, ?_⟩))))))), rfl⟩
      rcases x3 with x3 | x3
      · rw [x3]; exact q.2.2.2
      · omega
    · obtain ⟨x1, x2, x3⟩ := hx a q.2.2.1
      dsimp only at x2 x3
      rw [x2]
      refine ⟨Or.inr (Or.inr (Or.inr (Or.inr (Or.inr (Or.inr (Or.inr (Or.inr ⟨q.1, q.2.1, x1, ?_⟩))))))), rfl⟩
      rcases x3 with x3 | x3
      · rw [x3]; exact q.2.2.2
      · omega
theorem ai_cv_map (hx : ai_ext (b, names, ad, h) names' ad' h') (hS : ∀ v ∈ S, ai_ok names h v) : S.map (ai_cv O ad') = S.map (ai_cv O ad) := List.map_congr_left fun v hv => (ai_ok_ext hx (hS v hv)).2
theorem ai_ext.trans (h1 : ai_ext B names ad h) (h2 : ai_ext (b, names, ad, h) names' ad' h') : ai_ext B names' ad' h' := by
  intro n hn
  obtain ⟨a1, a2, a3⟩ := h1 n hn
  obtain ⟨b1, b2, b3⟩ := h2 n a1
  dsimp only at b2 b3
  refine ⟨b1, b2.trans a2, ?_⟩
  rcases b3 with b3 | b3
  · rw [b3]; exact a3
  · rcases a3 with a3 | a3
    · rw [a3] at b3; exact Or.inr b3
    · omega
theorem ai_I.call (I : ai_I O s A B names ad (pc, L, S, h) H locs ls cells slots) (hx : ai_ext (b, names, ad, h) names' ad' h') (hP : va_P O.1 vwCl (ai_ws O.2.1 ad' h' names') H1) (hD : va_D A (ai_ws O.2.1 ad' h' names')) (hS : va_S A s.heap H1 locs1) (hw : ai_wf h' names') (hS' : ∀ v ∈ S', ai_ok names' h' v)
    (hc : cells' + h.2.2.2.2.2.1 = cells + h'.2.2.2.2.2.1) (hs : slots' + h.2.2.2.2.2.2 = slots + h'.2.2.2.2.2.2) : ai_I O s A B names' ad' (pc', L, S', h') H1 locs1 ls cells' slots' := by
  obtain ⟨⟨h1, h2, h3, h4, h5, h6, h7, h8, h9⟩, h10, h11, hL, h12, h13⟩ := I
  refine ⟨⟨hP, hD, hS, hw, hS', fun v hv => (ai_ok_ext (O := O) hx (h6 v hv)).1, h7, h8, fun i v hv => ?_⟩, h10.trans hx, h11, hL, ?_, ?_⟩
  · rw [(ai_ok_ext (O := O) hx (h6 v (ai_nth_mem hv))).2]; exact h9 i v hv
  · dsimp only at h12 ⊢; omega
  · dsimp only at h13 ⊢; omega
/-- behind a call -/
theorem ai_callg {A1 : Nat → Prop} {B1 : ai_Bg} {mc ms : Nat} {st0 rest : List Value} {a : Array Value} {free : Addr → Prop} (hr : va_Run p l e R s m args below meth c H locs cells slots mc ms (F0 m pc ls st0) rest (ai_Qc O A1 B1 r1 a) free) (hS : va_S A s.heap H locs) (hA : ∀ q, q < H.size → A1 q → A q) (hf : ∀ q, free q → A q)
    (kk : ∀ (names' : List Nat) (ad' : Nat → Nat) (H1 : Heap) (locs1 : List Loc), ai_ext B1 names' ad' r1.2 → va_P O.1 vwCl (ai_ws O.2.1 ad' r1.2 names') H1 → va_D A1 (ai_ws O.2.1 ad' r1.2 names') → ai_wf r1.2 names' → (∀ v ∈ r1.1, ai_ok names' r1.2 v) → va_S A s.heap H1 locs1 → W p l e R s m args below meth c H1 locs1 (cells + mc) (slots + ms) Q (F0 m (pc + 3) ls ((ai_rv O ad' r1.1).toList ++ rest))) : W p l e R s m args below meth c H locs cells slots Q (F0 m pc ls st0) := by
  intro T hT X
  obtain ⟨v, st₀, t, T', L, h0, X', hL, e1, e2, ⟨⟨names', ad', hv, q1, q2, q3, q4, q5⟩, hz, hk⟩, st⟩ := hr T hT X
  cases hv
  rw [h0] at hz hk
  obtain ⟨t2, a1, b1⟩ := kk names' ad' T'.heap (locs ++ L) q1 (by rw [e1]; exact q2) q3 q4 q5
    ⟨Nat.le_trans hS.1 (by rw [e1]; exact hz), fun q h1 h2 => by rw [e1, hk q (Nat.lt_of_lt_of_le h1 hS.1) (fun z => h2 (hA q (Nat.lt_of_lt_of_le h1 hS.1) z))]; exact hS.2.1 q h1 h2, fun q hq => by
      rcases List.mem_append.mp hq with h | h
      · exact hS.2.2 q h
      · exact hf _ (hL q h)⟩ T' rfl X'
  exact ⟨t2, st t2 a1, b1⟩
theorem ai_pops_spec : ∀ (n : Nat) (S acc As S' : List ai_V), ai_pops n S acc = some (As, S') → ∃ X, S = X ++ S' ∧ X.length = n ∧ As = X.reverse ++ acc := by
  intro n
  induction n with
  | zero => intro S acc As S' h; cases h; exact ⟨[], rfl, rfl, rfl⟩
  | succ n ih =>
    intro S acc As S' h
    rcases S with _ | ⟨v, S⟩
    · cases h
    · obtain ⟨X, h1, h2, h3⟩ := ih _ _ _ _ h
      exact ⟨v :: X, by rw [h1]; rfl, by simp [h2], by rw [h3]; simp⟩
theorem ai_inv_some {orc : ai_O} {r0 : ai_Mr} (hr : ai_inv orc r0 pc L As S h k = some r) : ∃ r1, orc r0.2.1 As h = some r1 ∧ k (pc + 3, L, r1.1 ++ S, r1.2) = some r ∧ r1.1.length ≤ 1 := by
  obtain ⟨k0, mi, n, t, q⟩ := r0
  match q with
  | 0 =>
    change ai_bv (orc mi As h) (fun h => k (pc + 3, L, S, h)) = some r at hr
    cases ho : orc mi As h with
    | none => rw [ho] at hr; cases hr
    | some r1 =>
      rw [ho] at hr
      obtain ⟨l1, h1⟩ := r1
      rcases l1 with _ | ⟨v, l1⟩
      · exact ⟨([], h1), rfl, hr, Nat.zero_le _⟩
      · cases hr
  | 1 =>
    change ai_bi (orc mi As h) (fun v h => k (pc + 3, L, .inl v :: S, h)) = some r at hr
    cases ho : orc mi As h with
    | none => rw [ho] at hr; cases hr
    | some r1 =>
      rw [ho] at hr
      obtain ⟨l1, h1⟩ := r1
      rcases l1 with _ | ⟨v | v, l1⟩
      · cases hr
      · rcases l1 with _ | ⟨w, l1⟩
        · exact ⟨([.inl v], h1), rfl, hr, Nat.le_refl _⟩
        · cases hr
      · cases hr
  | q + 2 =>
    change ai_br (orc mi As h) (fun t n a h => k (pc + 3, L, .inr (.inr (t, n, a)) :: S, h)) = some r at hr
    cases ho : orc mi As h with
    | none => rw [ho] at hr; cases hr
    | some r1 =>
      rw [ho] at hr
      obtain ⟨l1, h1⟩ := r1
      rcases l1 with _ | ⟨v | v | ⟨t, n, a⟩, l1⟩
      · cases hr
      · cases hr
      · cases hr
      · rcases l1 with _ | ⟨w, l1⟩
        · exact ⟨([.inr (.inr (t, n, a))], h1), rfl, hr, Nat.le_refl _⟩
        · cases hr
theorem ai_cats_le : ∀ S : List ai_V, (S.map (fun v => (ai_cv O ad v).category)).sum ≤ ai_cats S := by
  intro S
  induction S with
  | nil => exact Nat.le_refl _
  | cons v S ih =>
    rw [List.map_cons, List.sum_cons]
    rcases v with v | v | v
    · have h1 : (ai_cv O ad (.inl v)).category = 1 := rfl
      have h2 : ai_cats (.inl v :: S) = ai_cats S + 1 := rfl
      rw [h1, h2]; omega
    · have h1 : (ai_cv O ad (.inr (.inl v))).category = 2 := rfl
      have h2 : ai_cats (.inr (.inl v) :: S) = ai_cats S + 2 := rfl
      rw [h1, h2]; omega
    · have h1 : (ai_cv O ad (.inr (.inr v))).category = 1 := ai_cat (fun x q => by cases q)
      have h2 : ai_cats (.inr (.inr v) :: S) = ai_cats S + 1 := rfl
      rw [h1, h2]; omega
theorem ai_cats_app : ∀ X S : List ai_V, ai_cats S ≤ ai_cats (X ++ S) := by
  intro X S
  induction X with
  | nil => exact Nat.le_refl _
  | cons v X ih =>
    rcases v with v | v | v
    · show _ ≤ ai_cats (X ++ S) + 1; omega
    · show _ ≤ ai_cats (X ++ S) + 2; omega
    · show _ ≤ ai_cats (X ++ S) + 1; omega
theorem ai_wm_good {mi n : Nat} (hY : ai_Yok mi n) : GoodIn ai_Ts (ai_wm mi) := ai_Ts_good (fun w hw => (List.mem_cons.mp hw).elim (fun q => q ▸ hY.1) id)
theorem ai_Pw_blind {a : Array Value} {U : State} {g : JFrame} {mk : MethodId} {sz : Nat} (q : ai_Pw O names ad h sz U) : ai_Pw O names ad h sz (U.calling g mk a) := by
  obtain ⟨q1, q2, q3, q4, q5⟩ := q
  exact ⟨q1, q2, va_K.moved (u := U) (U := U.calling g mk a) (Vm.Alike.refl U.vm) q3, q4, ai_RO.same (s := U) (U := U.calling g mk a) q5 rfl⟩
theorem ai_I.pre (I : ai_I O s A B names ad (pc, L, S, h) H locs ls cells slots) (hK : va_K O.1 vwCl (ai_tys O.2.1) s) (hA : ∀ q, s.heap.size ≤ q → A q) (hRO : ai_RO O A s s.heap) {U : State} (hU : U.heap = H) (hW : s.WarmedH U.vm) : ai_Pw O names ad h H.size U := by
  have hF : ∀ q, va_A (ai_ws O.2.1 ad h names) H.size q → A q := fun q hq => by
    rcases hq with ⟨j, e1, hj⟩ | hq
    · exact I.1.2.1.2 j (q, e1) hj
    · exact hA q (Nat.le_trans I.1.2.2.1.1 hq)
  refine ⟨by rw [hU], by rw [hU]; exact I.1.1, va_K.moved hW.alike hK, ⟨I.1.2.1.1, fun _ _ _ => trivial⟩, ?_⟩
  rw [hU]
  exact ((hRO.kept (fun a h1 h2 => I.1.2.2.1.2.1 a h1 h2)).warm hW).narrow hF
theorem ai_I.free (I : ai_I O s A B names ad (pc, L, S, h) H locs ls cells slots) (hA : ∀ q, s.heap.size ≤ q → A q) : ∀ q, va_A (ai_ws O.2.1 ad h names) H.size q → A q := fun q hq => by
  rcases hq with ⟨j, e1, hj⟩ | hq
  · exact I.1.2.1.2 j (q, e1) hj
  · exact hA q (Nat.le_trans I.1.2.2.1.1 hq)
/-- behind a call: on with the answer -/
theorem sd_after {mc ms : Nat} {X : List ai_V} {a : Array Value} (I : ai_I O s A B names ad (pc, L, X ++ S, h) H locs ls cells slots) (hA : ∀ q, s.heap.size ≤ q → A q) (hle : ai_le h r1.2) (hmc : mc = r1.2.2.2.2.2.2.1 - h.2.2.2.2.2.1) (hms : ms = r1.2.2.2.2.2.2.2 - h.2.2.2.2.2.2) (hl : r1.1.length ≤ 1)
    (hk : ∀ st, k st = some r → ai_G p l e R s m args below meth c Q O A B st) (hr : k (pc + 3, L, r1.1 ++ S, r1.2) = some r) {free : Addr → Prop} (hfree : ∀ q, free q → va_A (ai_ws O.2.1 ad h names) H.size q)
    (hrun : va_Run p l e R s m args below meth c H locs cells slots mc ms (F0 m pc ls ((X ++ S).map (ai_cv O ad))) (S.map (ai_cv O ad)) (ai_Qc O (va_A (ai_ws O.2.1 ad h names) H.size) ((false, 0), names, ad, h) r1 a) free) :
    W p l e R s m args below meth c H locs cells slots Q (F0 m pc ls ((X ++ S).map (ai_cv O ad))) := by
  refine ai_callg hrun I.1.2.2.1 (fun q _ hq => I.free hA q hq) (fun q hq => I.free hA q (hfree q hq)) (fun names' ad' H1 locs1 q1 q2 q3 q4 q5 q6 => ?_)
  have hSok : ∀ v ∈ S, ai_ok names h v := fun v hv => I.okS v (List.mem_append_right _ hv)
  have K := hk _ hr H1 locs1 (cells + mc) (slots + ms) names' ad' ls (I.call (pc' := pc + 3) (S' := r1.1 ++ S) q1 q2 (ai_va_D_w q3 (I.free hA)) q6 q4 (fun v hv => by
    rcases List.mem_append.mp hv with h | h
    · exact q5 v h
    · exact (ai_ok_ext (O := O) q1 (hSok v h)).1) (by have := hle.2.1; omega) (by have := hle.2.2; omega))
  dsimp only at K
  rw [List.map_append, ai_cv_map q1 hSok] at K
  have e1 : (ai_rv O ad' r1.1).toList = r1.1.map (ai_cv O ad') := by
    obtain ⟨l1, h1⟩ := r1
    rcases l1 with _ | ⟨v, _ | ⟨w, l1⟩⟩
    · rfl
    · rfl
    · simp at hl
  rw [e1]; exact K
end SD
