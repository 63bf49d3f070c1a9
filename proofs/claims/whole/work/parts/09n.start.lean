/-! THE CLAIM OUT OF ONE WALK OF THE LAW'S BODY. Your part is whole_start (and what it stands on); all else here is the same for every law, but numbers. -/
def R_law : String := "CityCupsLaw"
def lw_P (b : Addr) (xs : List Int32) (args : Array Value) (s : State) : Prop := args = #[.ref b] ∧ s.IntsAt b xs ∧ xs.length ≤ 3072 ∧ (Jvm.Cond.and given_1 narrow_1).before args s = true
def lw_Q (_ : Array Value) (s : State) (o : Outcome) (t : State) : Prop := o = .returned (some (.int 1)) ∧ Framed s o t [] 95304 8816338
def lw_Z (below : List Frame) (a : Array Value) (s : State) : State → Prop := fun t => ∃ o, t.status = .running ∧ Ended t below o ∧ lw_Q a s o t
/-- the law's own end, with 1 on the stack, nothing written that was there before, its room as the claim has it -/
theorem lw_ret {p : Program} {l : Launch} {e : Env} {s : State} {m : MethodId} {below : List Frame} {meth : Method} {c : Code} {b : Nat} (hx : p.tables.exec = Jvm.exec) (hb : c.code = code) (hr : meth.sig.returnType = ret) (hlocks : meth.locks = false) {pc : Nat} {H : Heap} {ls : Array Slot} (hdg : decode code pc = .ok (.ireturn, 1)) : W p l e room_1 s m #[Value.ref b] below meth c H [] 95304 8816338 (lw_Z below #[Value.ref b] s) (F0 m pc ls [.int 1]) := by
  intro T hT X
  obtain ⟨fs, hret, hrun, hended, hW, hframe⟩ := X.leave (v := some (.int 1)) (hlocks := hlocks) (fun h => by rw [hr] at h; cases h)
  have hmeth' : T.vm.method? m = some meth := X.method'
  refine ⟨T.setFrames fs, ?_, .returned (some (.int 1)), hrun, hended, rfl, ⟨_, rfl⟩, hW, hframe⟩
  jvm_step X.here [X.here.top, hx, hb, hdg, hmeth', hr, ret, narrow_b1]
  (try refine ⟨rfl, ?_⟩); (try refine ⟨rfl, ?_⟩)
  first | (intro acts; rw [hret _ acts rfl rfl rfl]) | rw [hret _ _ rfl rfl rfl]
  exact Steps.refl _
/-- what holds at the law's entry: the machine, the code, the tables' words (any of lw_tbl by 'hts w (by decide +kernel)'), the script of L ints xs at the cell b, what the Statement gives of the start (any of its parts by flat_of_before) -/
def lw_At (p : Program) (s : State) (m : MethodId) (meth : Method) (c : Code) (b L : Nat) (xs : Nat → Int32) : Prop :=
  p.tables.exec = Jvm.exec ∧ c.code = code ∧ meth.sig.returnType = ret ∧ c.maxLocals = 4 ∧ s.vm.findClass R_law = some m.cls ∧ (∀ w ∈ lw_tbl, w.before #[Value.ref b] s = true) ∧ va_X b L xs s s.heap ∧ b < s.heap.size ∧ meth.locks = false ∧ (Jvm.Cond.and given_1 narrow_1).before #[Value.ref b] s = true
/-! THE WORLD AT THE LAW'S START: classes, arrays' classes, what is read alone. Printed by wip/whole/gen/start.py -/
theorem ai_tw {w : Cond} (k i : Nat) (h : (ai_pc k)[i]? = some w) : w ∈ lw_tbl := ai_pc_in k (List.mem_of_getElem? h)
def ai_flat : List Cond := flatC (Jvm.Cond.and given_1 narrow_1)
def ai_stm (i : Nat) : Term := .string RX7 (ai_tixs.getD i (0, "", 0)).1
def ai_stv (i : Nat) : Term := .field (ai_stm i) "java/lang/String" "value" "[B"
set_option maxRecDepth 100000 in
theorem ai_st1 : (List.range 1).all (fun i => decide (Cond.exactly (ai_stm i) "java/lang/String" ∈ ai_flat) && decide (Cond.eq (.field (ai_stm i) "java/lang/String" "coder" "B") (.int 0) ∈ ai_flat) && decide (Cond.arrayOf (ai_stv i) .byte ∈ ai_flat) && decide (Cond.eq (.length (ai_stv i)) (.int (Int32.ofNat ((ai_txts.map List.length).getD i 0))) ∈ ai_flat)) = true := by decide +kernel
set_option maxRecDepth 100000 in
theorem ai_st2 : (List.range 1).all (fun i => (List.range ((ai_txts.map List.length).getD i 0)).all (fun j => decide (Cond.eq (.elem (ai_stv i) (.int (Int32.ofNat j))) (.int ((ai_txts.getD i []).getD j 0)) ∈ ai_flat))) = true := by decide +kernel
def ai_stn : List (Nat × Nat × Nat) := []
set_option maxRecDepth 100000 in
theorem ai_st3a : ai_stn.all (fun q => decide (ai_flat[q.2.2]? = some (Cond.not (Cond.eq (ai_stm q.1) (ai_stm q.2.1))))) = true := by decide +kernel
set_option maxRecDepth 100000 in
theorem ai_st3b : (List.range 1).all (fun i => (List.range 1).all (fun j => decide (i = j) || ai_stn.any (fun q => decide (q.1 = i) && decide (q.2.1 = j)) || ai_stn.any (fun q => decide (q.1 = j) && decide (q.2.1 = i)))) = true := by decide +kernel
theorem ai_st3c {s : State} {b : Nat} (hn : ∀ w ∈ ai_flat, w.before #[Value.ref b] s = true) {i j : Nat} (h : ai_stn.any (fun q => decide (q.1 = i) && decide (q.2.1 = j)) = true) : (Cond.not (Cond.eq (ai_stm i) (ai_stm j))).before #[Value.ref b] s = true := by
  obtain ⟨q, hq, h1⟩ := List.any_eq_true.mp h
  rw [Bool.and_eq_true, decide_eq_true_eq, decide_eq_true_eq] at h1
  obtain ⟨rfl, rfl⟩ := h1
  exact hn _ (List.mem_of_getElem? (of_decide_eq_true (List.all_eq_true.mp ai_st3a q hq)))
theorem ai_st3 {s : State} {b : Nat} (hn : ∀ w ∈ ai_flat, w.before #[Value.ref b] s = true) {i j : Nat} (hi : i < 1) (hj : j < 1) (hne : i ≠ j) : (Cond.not (Cond.eq (ai_stm i) (ai_stm j))).before #[Value.ref b] s = true ∨ (Cond.not (Cond.eq (ai_stm j) (ai_stm i))).before #[Value.ref b] s = true := by
  have h := List.all_eq_true.mp (List.all_eq_true.mp ai_st3b i (List.mem_range.mpr hi)) j (List.mem_range.mpr hj)
  simp only [Bool.or_eq_true] at h
  rcases h with (h | h) | h
  · exact absurd (of_decide_eq_true h) hne
  · exact Or.inl (ai_st3c hn h)
  · exact Or.inr (ai_st3c hn h)
set_option maxRecDepth 100000 in
theorem ai_st4 : (List.range 6).all (fun j => decide (Cond.eq (.elem (.static RX9 "POWERS" "[I") (.int (Int32.ofNat j))) (.int (ai_pow.getD j 0)) ∈ ai_flat)) = true := by decide +kernel
theorem ai_rg {N : Nat} {f : Nat → Bool} (h : (List.range N).all f = true) {i : Nat} (hi : i < N) : f i = true := List.all_eq_true.mp h i (List.mem_range.mpr hi)
theorem ai_flat_in {w : Cond} (h : decide (w ∈ ai_flat) = true) : w ∈ ai_flat := of_decide_eq_true h
theorem ai_arrp {s : State} {args : Array Value} {ty : FieldType} (h : (Cond.arrayClass ty).before args s = true) (hk : ∀ C, ty ≠ .object C) : ∃ cA, ArrOfT s cA ty ∧ va_RA s cA ty := by
  obtain ⟨c, k, comp, h1, h2, h3⟩ := Cond.arrayClass_spec h
  refine ⟨c, fun n z => ⟨fun k h => (by cases h), k, h2, comp, h3⟩, ?_⟩
  cases ty with
  | object C => exact absurd rfl (hk C)
  | _ => exact h1
theorem ai_arro {s : State} {args : Array Value} {C : String} (h : (Cond.arrayOver (.object C)).before args s = true) : ∃ cA, ArrOfT s cA (.object C) ∧ va_RA s cA (.object C) := by
  obtain ⟨comp, c, k, h1, h2, h3, h4, h5⟩ := Cond.arrayOver_spec h
  exact ⟨c, fun n z => ⟨fun k h => (by cases h), k, h3, comp, h4⟩, k, comp, h3, h4, h1, h5⟩
theorem ai_st5 : ∀ q ∈ ai_tixs, Cond.stringRef RX7 q.1 q.2.1 ∈ lw_tbl := by
  unfold ai_tixs
  exact List.forall_mem_cons.mpr ⟨(ai_tw 3 223 rfl), fun _ h => absurd h List.not_mem_nil⟩
theorem ai_st6 : ∀ q ∈ ai_tixs, q.2.2 < 1 ∧ ai_stm q.2.2 = .string RX7 q.1 := by
  unfold ai_tixs
  exact List.forall_mem_cons.mpr ⟨⟨by decide, rfl⟩, fun _ h => absurd h List.not_mem_nil⟩
theorem ai_st7 : ∀ q ∈ ai_nsts, Cond.methodLinkNest q.1 q.2.1 q.2.2.1 q.2.2.2 ∈ lw_tbl := by
  unfold ai_nsts
  exact List.forall_mem_cons.mpr ⟨(ai_tw 1 32 rfl), List.forall_mem_cons.mpr ⟨(ai_tw 1 38 rfl), List.forall_mem_cons.mpr ⟨(ai_tw 1 110 rfl), List.forall_mem_cons.mpr ⟨(ai_tw 1 211 rfl), List.forall_mem_cons.mpr ⟨(ai_tw 2 26 rfl), List.forall_mem_cons.mpr ⟨(ai_tw 2 78 rfl), List.forall_mem_cons.mpr ⟨(ai_tw 2 125 rfl), List.forall_mem_cons.mpr ⟨(ai_tw 2 159 rfl), List.forall_mem_cons.mpr ⟨(ai_tw 2 198 rfl), List.forall_mem_cons.mpr ⟨(ai_tw 4 226 rfl), List.forall_mem_cons.mpr ⟨(ai_tw 5 46 rfl), List.forall_mem_cons.mpr ⟨(ai_tw 5 47 rfl), List.forall_mem_cons.mpr ⟨(ai_tw 5 77 rfl), List.forall_mem_cons.mpr ⟨(ai_tw 5 157 rfl), List.forall_mem_cons.mpr ⟨(ai_tw 5 162 rfl), List.forall_mem_cons.mpr ⟨(ai_tw 5 220 rfl), fun _ h => absurd h List.not_mem_nil⟩⟩⟩⟩⟩⟩⟩⟩⟩⟩⟩⟩⟩⟩⟩⟩
theorem ai_st8 {s : State} {args : Array Value} (hts : ∀ w ∈ lw_tbl, w.before args s = true) : ∀ {ci : Nat}, ci < 13 → ∃ (cC : ClassId) (iS : Nat → Nat), u_Kn s (jg_R ci) (jg_T ci) (jg_nf ci) cC iS := by
  have K : ∀ (ci n : Nat), ci < 13 → Cond.instantiable (jg_R ci) n ∈ lw_tbl → ∃ (cC : ClassId) (iS : Nat → Nat), u_Kn s (jg_R ci) (jg_T ci) (jg_nf ci) cC iS := fun ci n hc hi => u_known hts (fun w hw => ai_Ts_in ((ai_cok_all ci hc).1 w hw)) (hts _ hi)
  intro ci h
  exact jg_13 (P := fun ci => ∃ (cC : ClassId) (iS : Nat → Nat), u_Kn s (jg_R ci) (jg_T ci) (jg_nf ci) cC iS) (K 0 15 (by decide) (ai_tw 1 37 rfl)) (K 1 8 (by decide) (ai_tw 2 197 rfl)) (K 2 16 (by decide) (ai_tw 1 109 rfl)) (K 3 7 (by decide) (ai_tw 1 210 rfl)) (K 4 4 (by decide) (ai_tw 2 229 rfl)) (K 5 5 (by decide) (ai_tw 1 115 rfl)) (K 6 8 (by decide) (ai_tw 2 124 rfl)) (K 7 14 (by decide) (ai_tw 2 25 rfl)) (K 8 5 (by decide) (ai_tw 1 31 rfl)) (K 9 10 (by decide) (ai_tw 2 77 rfl)) (K 10 10 (by decide) (ai_tw 2 158 rfl)) (K 11 12 (by decide) (ai_tw 1 23 rfl)) (K 12 87 (by decide) (ai_tw 6 119 rfl)) h
theorem ai_start {s : State} {b L : Nat} {xs : Nat → Int32} (hts : ∀ w ∈ lw_tbl, w.before #[Value.ref b] s = true) (hX : va_X b L xs s s.heap) (hbl : b < s.heap.size) (hL : L ≤ 3072) (hgv : (Jvm.Cond.and given_1 narrow_1).before #[Value.ref b] s = true) :
    ∃ O : ai_Om, va_K O.1 vwCl (ai_tys O.2.1) s ∧ ai_RO O (fun q => s.heap.size ≤ q) s s.heap ∧ O.2.2.2.2.2.2 = (b, L, xs) := by
  have hn : ∀ w ∈ ai_flat, w.before #[Value.ref b] s = true := flat_of_before _ hgv
  have hA : ∀ a : Nat, a < s.heap.size → ¬ (fun q : Nat => s.heap.size ≤ q) a := fun a ha h => by
    have h : s.heap.size ≤ a := h
    omega
  have hC : ∀ ci : Nat, ∃ q : ClassId × (Nat → Nat), ci < 13 → u_Kn s (jg_R ci) (jg_T ci) (jg_nf ci) q.1 q.2 := by
    intro ci
    by_cases h : ci < 13
    · obtain ⟨c, i, k⟩ := ai_st8 hts h
      exact ⟨(c, i), fun _ => k⟩
    · exact ⟨(((0 : Nat) : ClassId), fun _ => 0), fun h' => absurd h' h⟩
  obtain ⟨g, hg⟩ := Classical.axiomOfChoice hC
  obtain ⟨a1, b1⟩ := ai_arrp (hts _ (ai_tw 1 107 rfl)) (fun C h => by cases h)
  obtain ⟨a2, b2⟩ := ai_arrp (hts _ (ai_tw 4 98 rfl)) (fun C h => by cases h)
  obtain ⟨a3, b3⟩ := ai_arrp (hts _ (ai_tw 7 146 rfl)) (fun C h => by cases h)
  obtain ⟨a4, b4⟩ := ai_arro (C := RX4) (hts _ (ai_tw 2 83 rfl))
  obtain ⟨a5, b5⟩ := ai_arro (C := RX8) (hts _ (ai_tw 2 23 rfl))
  have e1 := fun i (hi : i < 1) => ai_rg ai_st1 hi
  simp only [Bool.and_eq_true] at e1
  obtain ⟨adK, adV, hS, hE⟩ := vk_Sof (args := #[Value.ref b]) (s := s) (N := 1) (tm := ai_stm) (len := ai_txts.map List.length) (byt := ai_txts) (A := fun q : Nat => s.heap.size ≤ q)
    (fun i hi => co_dec (N := 1) (P := fun i => (ai_txts.map List.length).getD i 0 < 2 ^ 31) (by decide +kernel) hi)
    (fun i hi => hn _ (ai_flat_in (e1 i hi).1.1.1)) (fun i hi => hn _ (ai_flat_in (e1 i hi).1.1.2)) (fun i hi => hn _ (ai_flat_in (e1 i hi).1.2)) (fun i hi => hn _ (ai_flat_in (e1 i hi).2))
    (fun i hi j hj => hn _ (ai_flat_in (ai_rg (ai_rg ai_st2 hi) hj)))
    (fun i j hi hj hne => ai_st3 hn hi hj hne) hA
  have hin : ∀ n : String, Cond.initialized n ∈ lw_tbl → (Cond.initialized n).before #[Value.ref b] s = true := fun n h => hts _ h
  obtain ⟨t, ht, hT⟩ := va_Tof (args := #[Value.ref b]) (s := s) (tm := .static RX9 "POWERS" "[I") (ty := .int) (N := 6) (f := fun j => .int (ai_pow.getD j 0)) (A := fun q : Nat => s.heap.size ≤ q) (by decide) (hn _ (by decide +kernel)) (va_eqt (hn _ (by decide +kernel))) (fun j hj => va_eqt (hn _ (ai_flat_in (ai_rg ai_st4 hj)))) hA
  have hP := va_Zref (hts _ (ai_tw 4 228 rfl)) (hin _ (ai_tw 1 9 rfl)) ht hA
  have hCS := va_Zof (hts _ (ai_tw 3 233 rfl)) (hin _ (ai_tw 1 15 rfl)) (va_eqt (z := 1) (hn _ (by decide +kernel))) hA
  obtain ⟨o, hSI⟩ : ∃ o : Option Nat, va_Z "jdk/internal/util/Preconditions" "SIOOBE_FORMATTER" "Ljava/util/function/BiFunction;" (va_rf o) (fun q => s.heap.size ≤ q) s s.heap := by
    rcases va_Zqof (hts _ (ai_tw 4 9 rfl)) (hin _ (ai_tw 1 17 rfl)) (hn _ (by decide +kernel)) hA with h | ⟨t, h⟩
    · exact ⟨none, h⟩
    · exact ⟨some t, h⟩
  obtain ⟨scr, x1, x2, x3, x4, x5⟩ := hX
  refine ⟨((fun ci => (g ci).1, fun ci => (g ci).2), fun k => match k with | 0 => a1 | 1 => a1 | 2 => a2 | 3 => a3 | 4 => a4 | _ => a5, adK, adV, t, o, b, L, xs), ⟨fun ci q hq => ?_, fun k q hk => ?_⟩, ⟨hP, hT, hS, fun q hq => ?_, fun q hq => ?_, ?_, hCS, hSI, ⟨scr, x1, x2, x3, Nat.le_of_eq x4.symm, by rw [x4], x5, hA b hbl⟩, va_AO.of (hts _ (ai_tw 2 83 rfl)), va_AO.of (hts _ (ai_tw 2 23 rfl))⟩, rfl⟩
  · have hlt : ci < 13 := (List.getElem?_eq_some_iff.mp hq).1
    have e := (jg_cl hlt).symm.trans hq
    cases e
    exact hg ci hlt
  · have hlt : k < 6 := (List.getElem?_eq_some_iff.mp hk).1
    match k, hlt, hk with
    | 0, _, hk => cases hk; exact b1
    | 1, _, hk => cases hk; exact b1
    | 2, _, hk => cases hk; exact b2
    | 3, _, hk => cases hk; exact b3
    | 4, _, hk => cases hk; exact b4
    | 5, _, hk => cases hk; exact b5
  · obtain ⟨q1, q2⟩ := ai_st6 q hq
    have e := hE q.2.2 q1
    rw [q2] at e
    exact vk_R.of (hts _ (ai_st5 q hq)) e
  · exact va_tabs rfl rfl (hts _ (ai_st7 q hq))
  · exact va_tabs rfl rfl (hts _ (ai_tw 4 81 rfl))
/-- what stands behind the law's end -/
theorem ai_lwZ {O : ai_Om} {B : ai_Bg} {h1 : ai_H} {below : List Frame} {b mc ms : Nat} {s : State} (hc : mc ≤ 95304) (hs : ms ≤ 8816338) : ∀ t, MQ below (ai_Qc O (fun q => s.heap.size ≤ q) B ([.inl 1], h1)) #[Value.ref b] s mc ms (fun q => s.heap.size ≤ q) t → lw_Z below #[Value.ref b] s t := by
  rintro t ⟨o, q1, q2, ⟨⟨names, ad, q3, -⟩, -⟩, Lc, ⟨q4, q5, q6⟩, q7⟩
  refine ⟨o, q1, q2, q3, q4, q5, ?_⟩
  obtain ⟨e1, e2, e3, e4, e5, e6⟩ := State.sameButNew.mono q6 hc hs
  refine ⟨e1, e2, e3, e4, e5, fun a c hac => ?_⟩
  obtain ⟨c', f1, f2, f3, f4⟩ := e6 a c hac
  refine ⟨c', f1, f2, f3, fun i _ => f4 i fun hm => ?_⟩
  have h8 : s.heap.size ≤ a := q7 _ hm
  have h9 : a < s.heap.size := (Array.getElem?_eq_some_iff.mp hac).1
  exact absurd h9 (Nat.not_lt.mpr h8)
