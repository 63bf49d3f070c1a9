/-! THE CLAIM OUT OF ONE WALK OF THE LAW'S BODY. Your part is whole_start (and what it stands on); all else here is the same for every law, but numbers. -/
def R_law : String := "CityCupsLaw"
def lw_P (b : Addr) (xs : List Int32) (args : Array Value) (s : State) : Prop := args = #[.ref b] ∧ s.IntsAt b xs ∧ xs.length ≤ 3072 ∧ (Jvm.Cond.and given_1 narrow_1).before args s = true
def lw_Q (_ : Array Value) (s : State) (o : Outcome) (t : State) : Prop := o = .returned (some (.int 1)) ∧ Framed s o t [] 95256 8816482
def lw_Z (below : List Frame) (a : Array Value) (s : State) : State → Prop := fun t => ∃ o, t.status = .running ∧ Ended t below o ∧ lw_Q a s o t
/-- the law's own end, with 1 on the stack, nothing written that was there before, its room as the claim has it -/
theorem lw_ret {p : Program} {l : Launch} {e : Env} {s : State} {m : MethodId} {below : List Frame} {meth : Method} {c : Code} {b : Nat} (hx : p.tables.exec = Jvm.exec) (hb : c.code = code) (hr : meth.sig.returnType = ret) (hlocks : meth.locks = false) {pc : Nat} {H : Heap} {ls : Array Slot} (hdg : decode code pc = .ok (.ireturn, 1)) : W p l e room_1 s m #[Value.ref b] below meth c H [] 95256 8816482 (lw_Z below #[Value.ref b] s) (F0 m pc ls [.int 1]) := by
  intro T hT X
  obtain ⟨fs, hret, hrun, hended, hW, hframe⟩ := X.leave (v := some (.int 1)) (hlocks := hlocks) (fun h => by rw [hr] at h; cases h)
  have hmeth' : T.vm.method? m = some meth := X.method'
  refine ⟨T.setFrames fs, ?_, .returned (some (.int 1)), hrun, hended, rfl, ⟨_, rfl⟩, hW, hframe⟩
  jvm_step X.here [X.here.top, hx, hb, hdg, hmeth', hr, ret, narrow_b1]
  (try refine ⟨rfl, ?_⟩); (try refine ⟨rfl, ?_⟩)
  first | (intro acts; rw [hret _ acts rfl rfl rfl]) | rw [hret _ _ rfl rfl rfl]
  exact Steps.refl _
/-- what holds at the law's entry: the machine, the code, the tables' words (any of lw_tbl by 'hts w (by decide +kernel)'), the script of L ints xs at the cell b, what the Statement gives of the start (any of its parts by flat_of_before) -/
def lw_At (p : Program) (s : State) (m : MethodId) (meth : Method) (c : Code) (b L : Nat) (xs : Nat → Int32) : Prop :=
  p.tables.exec = Jvm.exec ∧ c.code = code ∧ meth.sig.returnType = ret ∧ c.maxLocals = 4 ∧ s.vm.findClass R_law = some m.cls ∧ (∀ w ∈ lw_tbl, w.before #[Value.ref b] s = true) ∧ va_X b L xs s s.heap ∧ b < s.heap.size ∧ meth.locks = false ∧ (Jvm.Cond.and given_1 narrow_1).before #[Value.ref b] s = true
/-! THE WORLD AT THE LAW'S START: classes, arrays' classes, what is read alone. Printed by wip/whole/gen/start.py -/
theorem ai_tw {w : Cond} (k i : Nat) (h : (ai_pc k)[i]? = some w) : w ∈ lw_tbl := ai_pc_in k (List.mem_of_getElem? h)
def ai_flat : List Cond := flatC (Jvm.Cond.and given_1 narrow_1)
def ai_stm (i : Nat) : Term := .string RX7 (ai_tixs.getD i (0, "", 0)).1
def ai_stv (i : Nat) : Term := .field (ai_stm i) "java/lang/String" "value" "[B"
set_option maxRecDepth 100000 in
theorem ai_st1 : (List.range 19).all (fun i => decide (Cond.exactly (ai_stm i) "java/lang/String" ∈ ai_flat) && decide (Cond.eq (.field (ai_stm i) "java/lang/String" "coder" "B") (.int 0) ∈ ai_flat) && decide (Cond.arrayOf (ai_stv i) .byte ∈ ai_flat) && decide (Cond.eq (.length (ai_stv i)) (.int (Int32.ofNat ((ai_txts.map List.length).getD i 0))) ∈ ai_flat)) = true := by decide +kernel
set_option maxRecDepth 100000 in
theorem ai_st2 : (List.range 19).all (fun i => (List.range ((ai_txts.map List.length).getD i 0)).all (fun j => decide (Cond.eq (.elem (ai_stv i) (.int (Int32.ofNat j))) (.int ((ai_txts.getD i []).getD j 0)) ∈ ai_flat))) = true := by decide +kernel
def ai_stn : List (Nat × Nat × Nat) := [(0, 1, 58), (0, 2, 69), (0, 3, 80), (0, 4, 90), (0, 5, 102), (0, 6, 116), (0, 7, 132), (0, 8, 147), (0, 9, 162), (0, 10, 177), (0, 11, 194), (0, 12, 214), (0, 13, 233), (0, 14, 254), (0, 15, 275), (0, 16, 298), (0, 17, 321), (0, 18, 344), (1, 2, 70), (1, 3, 81), (1, 4, 91), (1, 5, 103), (1, 6, 117), (1, 7, 133), (1, 8, 148), (1, 9, 163), (1, 10, 178), (1, 11, 195), (1, 12, 215), (1, 13, 234), (1, 14, 255), (1, 15, 276), (1, 16, 299), (1, 17, 322), (1, 18, 345), (2, 3, 82), (2, 4, 92), (2, 5, 104), (2, 6, 118), (2, 7, 134), (2, 8, 149), (2, 9, 164), (2, 10, 179), (2, 11, 196), (2, 12, 216), (2, 13, 235), (2, 14, 256), (2, 15, 277), (2, 16, 300), (2, 17, 323), (2, 18, 346), (3, 4, 93), (3, 5, 105), (3, 6, 119), (3, 7, 135), (3, 8, 150), (3, 9, 165), (3, 10, 180), (3, 11, 197), (3, 12, 217), (3, 13, 236), (3, 14, 257), (3, 15, 278), (3, 16, 301), (3, 17, 324), (3, 18, 347), (4, 5, 106), (4, 6, 120), (4, 7, 136), (4, 8, 151), (4, 9, 166), (4, 10, 181), (4, 11, 198), (4, 12, 218), (4, 13, 237), (4, 14, 258), (4, 15, 279), (4, 16, 302), (4, 17, 325), (4, 18, 348), (5, 6, 121), (5, 7, 137), (5, 8, 152), (5, 9, 167), (5, 10, 182), (5, 11, 199), (5, 12, 219), (5, 13, 238), (5, 14, 259), (5, 15, 280), (5, 16, 303), (5, 17, 326), (5, 18, 349), (6, 7, 138), (6, 8, 153), (6, 9, 168), (6, 10, 183), (6, 11, 200), (6, 12, 220), (6, 13, 239), (6, 14, 260), (6, 15, 281), (6, 16, 304), (6, 17, 327), (6, 18, 350), (7, 8, 154), (7, 9, 169), (7, 10, 184), (7, 11, 201), (7, 12, 221), (7, 13, 240), (7, 14, 261), (7, 15, 282), (7, 16, 305), (7, 17, 328), (7, 18, 351), (8, 9, 170), (8, 10, 185), (8, 11, 202), (8, 12, 222), (8, 13, 241), (8, 14, 262), (8, 15, 283), (8, 16, 306), (8, 17, 329), (8, 18, 352), (9, 10, 186), (9, 11, 203), (9, 12, 223), (9, 13, 242), (9, 14, 263), (9, 15, 284), (9, 16, 307), (9, 17, 330), (9, 18, 353), (10, 11, 204), (10, 12, 224), (10, 13, 243), (10, 14, 264), (10, 15, 285), (10, 16, 308), (10, 17, 331), (10, 18, 354), (11, 12, 225), (11, 13, 244), (11, 14, 265), (11, 15, 286), (11, 16, 309), (11, 17, 332), (11, 18, 355), (12, 13, 245), (12, 14, 266), (12, 15, 287), (12, 16, 310), (12, 17, 333), (12, 18, 356), (13, 14, 267), (13, 15, 288), (13, 16, 311), (13, 17, 334), (13, 18, 357), (14, 15, 289), (14, 16, 312), (14, 17, 335), (14, 18, 358), (15, 16, 313), (15, 17, 336), (15, 18, 359), (16, 17, 337), (16, 18, 360), (17, 18, 361)]
set_option maxRecDepth 100000 in
theorem ai_st3a : ai_stn.all (fun q => decide (ai_flat[q.2.2]? = some (Cond.not (Cond.eq (ai_stm q.1) (ai_stm q.2.1))))) = true := by decide +kernel
set_option maxRecDepth 100000 in
theorem ai_st3b : (List.range 19).all (fun i => (List.range 19).all (fun j => decide (i = j) || ai_stn.any (fun q => decide (q.1 = i) && decide (q.2.1 = j)) || ai_stn.any (fun q => decide (q.1 = j) && decide (q.2.1 = i)))) = true := by decide +kernel
theorem ai_st3c {s : State} {b : Nat} (hn : ∀ w ∈ ai_flat, w.before #[Value.ref b] s = true) {i j : Nat} (h : ai_stn.any (fun q => decide (q.1 = i) && decide (q.2.1 = j)) = true) : (Cond.not (Cond.eq (ai_stm i) (ai_stm j))).before #[Value.ref b] s = true := by
  obtain ⟨q, hq, h1⟩ := List.any_eq_true.mp h
  rw [Bool.and_eq_true, decide_eq_true_eq, decide_eq_true_eq] at h1
  obtain ⟨rfl, rfl⟩ := h1
  exact hn _ (List.mem_of_getElem? (of_decide_eq_true (List.all_eq_true.mp ai_st3a q hq)))
theorem ai_st3 {s : State} {b : Nat} (hn : ∀ w ∈ ai_flat, w.before #[Value.ref b] s = true) {i j : Nat} (hi : i < 19) (hj : j < 19) (hne : i ≠ j) : (Cond.not (Cond.eq (ai_stm i) (ai_stm j))).before #[Value.ref b] s = true ∨ (Cond.not (Cond.eq (ai_stm j) (ai_stm i))).before #[Value.ref b] s = true := by
  have h := List.all_eq_true.mp (List.all_eq_true.mp ai_st3b i (List.mem_range.mpr hi)) j (List.mem_range.mpr hj)
  simp only [Bool.or_eq_true] at h
  rcases h with (h | h) | h
  · exact absurd (of_decide_eq_true h) hne
  · exact Or.inl (ai_st3c hn h)
  · exact Or.inr (ai_st3c hn h)
set_option maxRecDepth 100000 in
theorem ai_st4 : (List.range 6).all (fun j => decide (Cond.eq (.elem (.static RX9 "POWERS" "[I") (.int (Int32.ofNat j))) (.int (ai_pow.getD j 0)) ∈ ai_flat)) = true := by decide +kernel
theorem ai_rg {N : Nat} {f : Nat → Bool} (h : (List.range N).all f = true) {i : Nat} (hi : i < N) : f i = true := List.all_eq_true.mp h i (List.mem_range.mpr hi)
theorem ai_flat_in {w : Cond} (h : decide (w ∈ ai_flat) = true) : w ∈ ai_flat := of_decide_eq_true h
theorem ai_arrp {s : State} {args : Array Value} {ty : FieldType} (h : (Cond.arrayClass ty).before args s = true) (hk : ∀ C, ty ≠ .object C) : ∃ cA, ArrOfT s cA ty ∧ va_RA s cA ty := by
  obtain ⟨c, k, comp, h1, h2, h3⟩ := Cond.arrayClass_spec h
  refine ⟨c, fun n z => ⟨fun k h => (by cases h), k, h2, comp, h3⟩, ?_⟩
  cases ty with
  | object C => exact absurd rfl (hk C)
  | _ => exact h1
theorem ai_arro {s : State} {args : Array Value} {C : String} (h : (Cond.arrayOver (.object C)).before args s = true) : ∃ cA, ArrOfT s cA (.object C) ∧ va_RA s cA (.object C) := by
  obtain ⟨comp, c, k, h1, h2, h3, h4, h5⟩ := Cond.arrayOver_spec h
  exact ⟨c, fun n z => ⟨fun k h => (by cases h), k, h3, comp, h4⟩, k, comp, h3, h4, h1, h5⟩
theorem ai_st5 : ∀ q ∈ ai_tixs, Cond.stringRef RX7 q.1 q.2.1 ∈ lw_tbl := by
  unfold ai_tixs
  exact List.forall_mem_cons.mpr ⟨(ai_tw 3 218 rfl), List.forall_mem_cons.mpr ⟨(ai_tw 3 219 rfl), List.forall_mem_cons.mpr ⟨(ai_tw 4 32 rfl), List.forall_mem_cons.mpr ⟨(ai_tw 4 33 rfl), List.forall_mem_cons.mpr ⟨(ai_tw 4 38 rfl), List.forall_mem_cons.mpr ⟨(ai_tw 4 39 rfl), List.forall_mem_cons.mpr ⟨(ai_tw 4 40 rfl), List.forall_mem_cons.mpr ⟨(ai_tw 4 41 rfl), List.forall_mem_cons.mpr ⟨(ai_tw 4 42 rfl), List.forall_mem_cons.mpr ⟨(ai_tw 4 43 rfl), List.forall_mem_cons.mpr ⟨(ai_tw 4 44 rfl), List.forall_mem_cons.mpr ⟨(ai_tw 4 57 rfl), List.forall_mem_cons.mpr ⟨(ai_tw 4 70 rfl), List.forall_mem_cons.mpr ⟨(ai_tw 4 71 rfl), List.forall_mem_cons.mpr ⟨(ai_tw 4 72 rfl), List.forall_mem_cons.mpr ⟨(ai_tw 4 73 rfl), List.forall_mem_cons.mpr ⟨(ai_tw 4 74 rfl), List.forall_mem_cons.mpr ⟨(ai_tw 4 87 rfl), List.forall_mem_cons.mpr ⟨(ai_tw 4 88 rfl), fun _ h => absurd h List.not_mem_nil⟩⟩⟩⟩⟩⟩⟩⟩⟩⟩⟩⟩⟩⟩⟩⟩⟩⟩⟩
theorem ai_st6 : ∀ q ∈ ai_tixs, q.2.2 < 19 ∧ ai_stm q.2.2 = .string RX7 q.1 := by
  unfold ai_tixs
  exact List.forall_mem_cons.mpr ⟨⟨by decide, rfl⟩, List.forall_mem_cons.mpr ⟨⟨by decide, rfl⟩, List.forall_mem_cons.mpr ⟨⟨by decide, rfl⟩, List.forall_mem_cons.mpr ⟨⟨by decide, rfl⟩, List.forall_mem_cons.mpr ⟨⟨by decide, rfl⟩, List.forall_mem_cons.mpr ⟨⟨by decide, rfl⟩, List.forall_mem_cons.mpr ⟨⟨by decide, rfl⟩, List.forall_mem_cons.mpr ⟨⟨by decide, rfl⟩, List.forall_mem_cons.mpr ⟨⟨by decide, rfl⟩, List.forall_mem_cons.mpr ⟨⟨by decide, rfl⟩, List.forall_mem_cons.mpr ⟨⟨by decide, rfl⟩, List.forall_mem_cons.mpr ⟨⟨by decide, rfl⟩, List.forall_mem_cons.mpr ⟨⟨by decide, rfl⟩, List.forall_mem_cons.mpr ⟨⟨by decide, rfl⟩, List.forall_mem_cons.mpr ⟨⟨by decide, rfl⟩, List.forall_mem_cons.mpr ⟨⟨by decide, rfl⟩, List.forall_mem_cons.mpr ⟨⟨by decide, rfl⟩, List.forall_mem_cons.mpr ⟨⟨by decide, rfl⟩, List.forall_mem_cons.mpr ⟨⟨by decide, rfl⟩, fun _ h => absurd h List.not_mem_nil⟩⟩⟩⟩⟩⟩⟩⟩⟩⟩⟩⟩⟩⟩⟩⟩⟩⟩⟩
theorem ai_st7 : ∀ q ∈ ai_nsts, Cond.methodLinkNest q.1 q.2.1 q.2.2.1 q.2.2.2 ∈ lw_tbl := by
  unfold ai_nsts
  exact List.forall_mem_cons.mpr ⟨(ai_tw 1 32 rfl), List.forall_mem_cons.mpr ⟨(ai_tw 1 38 rfl), List.forall_mem_cons.mpr ⟨(ai_tw 1 110 rfl), List.forall_mem_cons.mpr ⟨(ai_tw 1 211 rfl), List.forall_mem_cons.mpr ⟨(ai_tw 2 26 rfl), List.forall_mem_cons.mpr ⟨(ai_tw 2 72 rfl), List.forall_mem_cons.mpr ⟨(ai_tw 2 119 rfl), List.forall_mem_cons.mpr ⟨(ai_tw 2 153 rfl), List.forall_mem_cons.mpr ⟨(ai_tw 2 192 rfl), List.forall_mem_cons.mpr ⟨(ai_tw 5 3 rfl), List.forall_mem_cons.mpr ⟨(ai_tw 5 63 rfl), List.forall_mem_cons.mpr ⟨(ai_tw 5 64 rfl), List.forall_mem_cons.mpr ⟨(ai_tw 5 94 rfl), List.forall_mem_cons.mpr ⟨(ai_tw 5 174 rfl), List.forall_mem_cons.mpr ⟨(ai_tw 5 179 rfl), List.forall_mem_cons.mpr ⟨(ai_tw 5 237 rfl), fun _ h => absurd h List.not_mem_nil⟩⟩⟩⟩⟩⟩⟩⟩⟩⟩⟩⟩⟩⟩⟩⟩
theorem ai_st8 {s : State} {args : Array Value} (hts : ∀ w ∈ lw_tbl, w.before args s = true) : ∀ {ci : Nat}, ci < 13 → ∃ (cC : ClassId) (iS : Nat → Nat), u_Kn s (jg_R ci) (jg_T ci) (jg_nf ci) cC iS := by
  have K : ∀ (ci n : Nat), ci < 13 → Cond.instantiable (jg_R ci) n ∈ lw_tbl → ∃ (cC : ClassId) (iS : Nat → Nat), u_Kn s (jg_R ci) (jg_T ci) (jg_nf ci) cC iS := fun ci n hc hi => u_known hts (fun w hw => ai_Ts_in ((ai_cok_all ci hc).1 w hw)) (hts _ hi)
  intro ci h
  exact jg_13 (P := fun ci => ∃ (cC : ClassId) (iS : Nat → Nat), u_Kn s (jg_R ci) (jg_T ci) (jg_nf ci) cC iS) (K 0 15 (by decide) (ai_tw 1 37 rfl)) (K 1 8 (by decide) (ai_tw 2 191 rfl)) (K 2 16 (by decide) (ai_tw 1 109 rfl)) (K 3 7 (by decide) (ai_tw 1 210 rfl)) (K 4 4 (by decide) (ai_tw 2 223 rfl)) (K 5 5 (by decide) (ai_tw 1 115 rfl)) (K 6 8 (by decide) (ai_tw 2 118 rfl)) (K 7 12 (by decide) (ai_tw 2 25 rfl)) (K 8 5 (by decide) (ai_tw 1 31 rfl)) (K 9 10 (by decide) (ai_tw 2 71 rfl)) (K 10 10 (by decide) (ai_tw 2 152 rfl)) (K 11 12 (by decide) (ai_tw 1 23 rfl)) (K 12 87 (by decide) (ai_tw 6 136 rfl)) h
theorem ai_start {s : State} {b L : Nat} {xs : Nat → Int32} (hts : ∀ w ∈ lw_tbl, w.before #[Value.ref b] s = true) (hX : va_X b L xs s s.heap) (hbl : b < s.heap.size) (hL : L ≤ 3072) (hgv : (Jvm.Cond.and given_1 narrow_1).before #[Value.ref b] s = true) :
    ∃ O : ai_Om, va_K O.1 vwCl (ai_tys O.2.1) s ∧ ai_RO O (fun q => s.heap.size ≤ q) s s.heap ∧ O.2.2.2.2.2.2 = (b, L, xs) := by
  have hn : ∀ w ∈ ai_flat, w.before #[Value.ref b] s = true := flat_of_before _ hgv
  have hA : ∀ a : Nat, a < s.heap.size → ¬ (fun q : Nat => s.heap.size ≤ q) a := fun a ha h => by
    have h : s.heap.size ≤ a := h
    omega
  have hC : ∀ ci : Nat, ∃ q : ClassId × (Nat → Nat), ci < 13 → u_Kn s (jg_R ci) (jg_T ci) (jg_nf ci) q.1 q.2 := by
    intro ci
    by_cases h : ci < 13
    · obtain ⟨c, i, k⟩ := ai_st8 hts h
      exact ⟨(c, i), fun _ => k⟩
    · exact ⟨(((0 : Nat) : ClassId), fun _ => 0), fun h' => absurd h' h⟩
  obtain ⟨g, hg⟩ := Classical.axiomOfChoice hC
  obtain ⟨a1, b1⟩ := ai_arrp (hts _ (ai_tw 1 107 rfl)) (fun C h => by cases h)
  obtain ⟨a2, b2⟩ := ai_arrp (hts _ (ai_tw 4 115 rfl)) (fun C h => by cases h)
  obtain ⟨a3, b3⟩ := ai_arrp (hts _ (ai_tw 7 163 rfl)) (fun C h => by cases h)
  obtain ⟨a4, b4⟩ := ai_arro (C := RX4) (hts _ (ai_tw 2 77 rfl))
  obtain ⟨a5, b5⟩ := ai_arro (C := RX8) (hts _ (ai_tw 2 23 rfl))
  have e1 := fun i (hi : i < 19) => ai_rg ai_st1 hi
  simp only [Bool.and_eq_true] at e1
  obtain ⟨adK, adV, hS, hE⟩ := vk_Sof (args := #[Value.ref b]) (s := s) (N := 19) (tm := ai_stm) (len := ai_txts.map List.length) (byt := ai_txts) (A := fun q : Nat => s.heap.size ≤ q)
    (fun i hi => co_dec (N := 19) (P := fun i => (ai_txts.map List.length).getD i 0 < 2 ^ 31) (by decide +kernel) hi)
    (fun i hi => hn _ (ai_flat_in (e1 i hi).1.1.1)) (fun i hi => hn _ (ai_flat_in (e1 i hi).1.1.2)) (fun i hi => hn _ (ai_flat_in (e1 i hi).1.2)) (fun i hi => hn _ (ai_flat_in (e1 i hi).2))
    (fun i hi j hj => hn _ (ai_flat_in (ai_rg (ai_rg ai_st2 hi) hj)))
    (fun i j hi hj hne => ai_st3 hn hi hj hne) hA
  have hin : ∀ n : String, Cond.initialized n ∈ lw_tbl → (Cond.initialized n).before #[Value.ref b] s = true := fun n h => hts _ h
  obtain ⟨t, ht, hT⟩ := va_Tof (args := #[Value.ref b]) (s := s) (tm := .static RX9 "POWERS" "[I") (ty := .int) (N := 6) (f := fun j => .int (ai_pow.getD j 0)) (A := fun q : Nat => s.heap.size ≤ q) (by decide) (hn _ (by decide +kernel)) (va_eqt (hn _ (by decide +kernel))) (fun j hj => va_eqt (hn _ (ai_flat_in (ai_rg ai_st4 hj)))) hA
  have hP := va_Zref (hts _ (ai_tw 5 5 rfl)) (hin _ (ai_tw 1 9 rfl)) ht hA
  have hCS := va_Zof (hts _ (ai_tw 3 233 rfl)) (hin _ (ai_tw 1 15 rfl)) (va_eqt (z := 1) (hn _ (by decide +kernel))) hA
  obtain ⟨o, hSI⟩ : ∃ o : Option Nat, va_Z "jdk/internal/util/Preconditions" "SIOOBE_FORMATTER" "Ljava/util/function/BiFunction;" (va_rf o) (fun q => s.heap.size ≤ q) s s.heap := by
    rcases va_Zqof (hts _ (ai_tw 4 9 rfl)) (hin _ (ai_tw 1 17 rfl)) (hn _ (by decide +kernel)) hA with h | ⟨t, h⟩
    · exact ⟨none, h⟩
    · exact ⟨some t, h⟩
  obtain ⟨scr, x1, x2, x3, x4, x5⟩ := hX
  refine ⟨((fun ci => (g ci).1, fun ci => (g ci).2), fun k => match k with | 0 => a1 | 1 => a1 | 2 => a2 | 3 => a3 | 4 => a4 | _ => a5, adK, adV, t, o, b, L, xs), ⟨fun ci q hq => ?_, fun k q hk => ?_⟩, ⟨hP, hT, hS, fun q hq => ?_, fun q hq => ?_, ?_, hCS, hSI, ⟨scr, x1, x2, x3, Nat.le_of_eq x4.symm, by rw [x4], x5, hA b hbl⟩, va_AO.of (hts _ (ai_tw 2 77 rfl)), va_AO.of (hts _ (ai_tw 2 23 rfl))⟩, rfl⟩
  · have hlt : ci < 13 := (List.getElem?_eq_some_iff.mp hq).1
    have e := (jg_cl hlt).symm.trans hq
    cases e
    exact hg ci hlt
  · have hlt : k < 6 := (List.getElem?_eq_some_iff.mp hk).1
    match k, hlt, hk with
    | 0, _, hk => cases hk; exact b1
    | 1, _, hk => cases hk; exact b1
    | 2, _, hk => cases hk; exact b2
    | 3, _, hk => cases hk; exact b3
    | 4, _, hk => cases hk; exact b4
    | 5, _, hk => cases hk; exact b5
  · obtain ⟨q1, q2⟩ := ai_st6 q hq
    have e := hE q.2.2 q1
    rw [q2] at e
    exact vk_R.of (hts _ (ai_st5 q hq)) e
  · exact va_tabs rfl rfl (hts _ (ai_st7 q hq))
  · exact va_tabs rfl rfl (hts _ (ai_tw 4 98 rfl))
/-- what stands behind the law's end -/
theorem ai_lwZ {O : ai_Om} {B : ai_Bg} {h1 : ai_H} {below : List Frame} {b mc ms : Nat} {s : State} (hc : mc ≤ 95256) (hs : ms ≤ 8816482) : ∀ t, MQ below (ai_Qc O (fun q => s.heap.size ≤ q) B ([.inl 1], h1)) #[Value.ref b] s mc ms (fun q => s.heap.size ≤ q) t → lw_Z below #[Value.ref b] s t := by
  rintro t ⟨o, q1, q2, ⟨⟨names, ad, q3, -⟩, -⟩, Lc, ⟨q4, q5, q6⟩, q7⟩
  refine ⟨o, q1, q2, q3, q4, q5, ?_⟩
  obtain ⟨e1, e2, e3, e4, e5, e6⟩ := State.sameButNew.mono q6 hc hs
  refine ⟨e1, e2, e3, e4, e5, fun a c hac => ?_⟩
  obtain ⟨c', f1, f2, f3, f4⟩ := e6 a c hac
  refine ⟨c', f1, f2, f3, fun i _ => f4 i fun hm => ?_⟩
  have h8 : s.heap.size ≤ a := q7 _ hm
  have h9 : a < s.heap.size := (Array.getElem?_eq_some_iff.mp hac).1
  exact absurd h9 (Nat.not_lt.mpr h8)
