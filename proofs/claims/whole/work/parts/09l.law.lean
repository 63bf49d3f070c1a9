/-! THE LAW: its walk out of a run of the abstract machine. Printed by wip/whole/gen/law.py -/
theorem ai_lawC_at {xs : Nat × (Nat → Int32)} {nm : String} : ∀ pc i, ai_lk (ai_mL xs).2.2.2 pc = some i → (∃ len, decode code pc = .ok (i, len) ∧ ai_lok ret (ai_mL xs).2.1 pc i len = true) ∧ ai_Iok nm 13 (ai_mL xs).1 i := by
  intro pc i hi
  have h4 := List.all_eq_true.mp ai_lawC_ok _ (ai_lk_mem _ _ _ hi)
  rw [Bool.and_eq_true] at h4
  obtain ⟨h4, h6⟩ := h4
  constructor
  · unfold ai_rok at h4
    dsimp only at h4
    split at h4
    · rename_i i' len e
      simp only [Bool.and_eq_true, decide_eq_true_eq] at h4
      obtain ⟨rfl, h5⟩ := h4
      exact ⟨len, e, h5⟩
    · cases h4
  · unfold ai_Iok
    split
    · intro q; cases q
    · cases h6
    · trivial
/-- the heap at the start: nothing made; the next number is 1 -/
def ai_h0 : ai_H := (fun _ _ => 0, fun _ => 0, fun _ _ => none, fun _ => (0, 0), 1, 0, 0)
theorem ai_wf0 : ai_wf ai_h0 [] := by
  unfold ai_wf
  refine ⟨List.nodup_nil, ?_, ?_, ?_, ?_, ?_, ?_⟩ <;> intro n h <;> cases h
theorem ai_law (hM : ∀ mi m, ai_lk ai_tabl mi = some m → ai_Mok mi m) (hS : ∀ mi m, ai_lk ai_tabl mi = some m → m.1.2.2.2.2.1 = none) {p : Program} {e : Env} {s : State} {m : MethodId} {below : List Frame} {meth : Method} {c : Code} (l : Launch) {b : Nat} {xs : Nat × (Nat → Int32)} {O : ai_Om} {d : Nat} {h1 : ai_H} (hexec : p.tables.exec = Jvm.exec) (hcode : c.code = code) (hrt : meth.sig.returnType = ret) (hml : c.maxLocals = 4) (hown : s.vm.findClass "CityCupsLaw" = some m.cls) (hts : ∀ w ∈ lw_tbl, w.before #[Value.ref b] s = true) (hlk : meth.locks = false)
    (hK : va_K O.1 vwCl (ai_tys O.2.1) s) (hRO : ai_RO O (fun q => s.heap.size ≤ q) s s.heap) (hO : O.2.2.2.2.2.2.1 = b) (hd : d ≤ 2000) (hfs : O.2.2.2.2.2.2.2 = xs) (hrun : ai_ex (ai_X d) (ai_mL xs) (0, [some (.inr (.inr (8, 0, 0))), none, none, none], [], ai_h0) = some ([.inl 1], h1))
    (hc : h1.2.2.2.2.2.1 ≤ 95304) (hs : h1.2.2.2.2.2.2 ≤ 8816338) {Q : State → Prop} (hQ : ∀ t, MQ below (ai_Qc O (fun q => s.heap.size ≤ q) ((!ai_nst ai_lawC, 4), [], fun _ => 0, ai_h0) ([.inl 1], h1)) #[Value.ref b] s h1.2.2.2.2.2.1 h1.2.2.2.2.2.2 (fun q => s.heap.size ≤ q) t → Q t) :
    W p l e room_1 s m #[Value.ref b] below meth c s.heap [] 0 0 Q (entryFrame m ([Value.ref b] : List Value).toArray 4) := by
  obtain ⟨n, hn⟩ := (ai_ex_iff (ai_X_m d)).mp hrun
  have C : ai_Cx p s m #[Value.ref b] c code room_1 O (fun q => s.heap.size ≤ q) ((!ai_nst ai_lawC, 4), [], fun _ => 0, ai_h0) 13 (10 + d) (1000 + 40 * d) ([.inl 1], h1) :=
    ⟨hexec, hcode, hml, hown, fun w hw => hts w (ai_Ts_in hw), hK, fun q h => h, hRO, by show 10 + d + 1 ≤ 2048; omega, ⟨by show 40 + (1000 + 40 * d) ≤ 84000; omega, by omega⟩, by show h1.2.2.2.2.2.1 ≤ 95304 + 0; omega, by show h1.2.2.2.2.2.2 ≤ 8816338 + 0; omega⟩
  rw [lg_entry_eq]
  have hl := lv_entry ([Value.ref b]) (n := 4) (Nat.le_of_ble_eq_true rfl)
  generalize (lg_sl [Value.ref b] ++ List.replicate (4 - (lg_sl [Value.ref b]).length) Slot.unset).toArray = ls at hl ⊢
  have K := ai_core (l := l) (e := e) (below := below) C ai_Jok_ok ai_cok_all (mm := ai_mL xs) (mc := h1.2.2.2.2.2.1) (ms := h1.2.2.2.2.2.2) (ret := ret) ai_tb13_ok (ai_sound ai_Jok_ok ai_cok_all hM hS d) (ai_X_m d) hlk hrt rfl rfl (fun ys q => by cases q; exact hfs.symm) ai_lawC_at rfl n _ hn s.heap [] 0 0 [] (fun _ => 0) ls
    ⟨⟨fun k q hk => by simp [ai_ws] at hk, ⟨fun i j p q hk => by simp [ai_ws] at hk, fun k q hk => by simp [ai_ws] at hk⟩, va_S.rf, ai_wf0, fun v hv => absurd (show v ∈ ([] : List ai_V) from hv) List.not_mem_nil, fun v hv => ?_, ?_, hl.2.1, fun i v hv => ?_⟩, fun x hx => absurd (show x ∈ ([] : List Nat) from hx) List.not_mem_nil, fun hb x hx => ?_, rfl, rfl, rfl⟩
  · intro T hT X
    obtain ⟨t, a1, b1⟩ := K T hT X
    exact ⟨t, a1, hQ t b1⟩
  · simp only [List.mem_cons, Option.some.injEq, List.not_mem_nil, or_false] at hv
    rcases hv with hv | hv | hv | hv
    · subst hv; exact Or.inr (Or.inr (Or.inr (Or.inl rfl)))
    · cases hv
    · cases hv
    · cases hv
  · exact hl.1
  · match i, hv with
    | 0, hv =>
      cases hv
      have e1 : ai_cv O (fun _ => 0) (.inr (.inr (8, 0, 0))) = .ref b := by
        show Value.ref O.2.2.2.2.2.2.1 = _
        rw [hO]
      rw [e1]
      exact hl.2.2 (0, Value.ref b) (by simp [lv_args])
    | 1, hv => cases hv
    | 2, hv => cases hv
    | 3, hv => cases hv
    | i + 4, hv => cases hv
  · simp at hx
