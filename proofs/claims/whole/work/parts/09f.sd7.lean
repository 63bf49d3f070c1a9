/-! SOUNDNESS, 7: every instruction; a method. -/
/-- an instruction's length, its jumps, the method's answer -/
def ai_lok (ret : Option FieldType) (bo : Nat) (pc : Nat) (i : ClassFile.Instr) (len : Nat) : Bool := match i with
  | .iconst _ => len == 1
  | .lconst _ => len == 1
  | .aconst_null => len == 1
  | .bipush _ => len == 2
  | .sipush _ => len == 3
  | .ldc _ => len == 2
  | .ldc_w _ => len == 3
  | .ldc2_w _ => len == 3
  | .getstatic _ => len == 3
  | .iload _ => len == 2
  | .iload_n _ => len == 1
  | .lload_n _ => len == 1
  | .aload _ => len == 2
  | .aload_n _ => len == 1
  | .istore _ => len == 2
  | .istore_n _ => len == 1
  | .astore _ => len == 2
  | .astore_n _ => len == 1
  | .iinc _ _ => len == 3
  | .if_icmp _ o => len == 3 && decide (0 ≤ (pc : Int) + o)
  | .ifCond _ o => len == 3 && decide (0 ≤ (pc : Int) + o)
  | .ifnull o => len == 3 && decide (0 ≤ (pc : Int) + o)
  | .ifnonnull o => len == 3 && decide (0 ≤ (pc : Int) + o)
  | .goto o => len == 3 && decide (0 ≤ (pc : Int) + o)
  | .tableswitch d lo hi os => decide (0 ≤ (pc : Int) + d) && (os.toList.all (fun o => decide (0 ≤ (pc : Int) + o)) && (decide (hi = lo + os.size - 1) && (decide (-1000 ≤ lo) && decide (lo + os.size ≤ 1000))))
  | .getfield _ => len == 3
  | .putfield _ => len == 3
  | .new _ => len == 3
  | .newarray _ => len == 2
  | .anewarray _ => len == 3
  | .checkcast _ => len == 3
  | .invokevirtual _ => len == 3
  | .invokestatic _ => len == 3
  | .invokespecial _ => len == 3
  | .ireturn => len == 1 && (match ret with
    | some ty => ai_rty bo ty
    | none => false)
  | .areturn => len == 1 && (match ret with
    | some (.object _) => true
    | some (.array _) => true
    | _ => false)
  | .return_ => len == 1 && decide (ret = none)
  | _ => len == 1
def ai_Tbok (o : Nat) (tb : ai_Tb) : Prop := (∀ idx r, tb.1 idx = some r → ai_Flok o idx r) ∧ (∀ idx r, tb.2.1 idx = some r → ai_Mtok o idx r) ∧ (∀ idx r, tb.2.2.1 idx = some r → ai_Clok o idx r) ∧ (∀ idx v, tb.2.2.2.1 idx = some v → ai_Csok o idx v)
/-- what a constructor's stores and the casts need -/
def ai_Iok (nm : String) (o : Nat) (tb : ai_Tb) (i : ClassFile.Instr) : Prop := match i with
  | .putfield idx => tb.2.2.2.2.2.isSome = true → nm = "<init>" ∧ ∀ r, tb.1 idx = some r → jg_R r.1 = ai_nmO o
  | .checkcast idx => Cond.classLink (ai_nmO o) idx "[I" ∈ ai_Ts
  | _ => True
section SD
variable {p : Program} {l : Launch} {e : Env} {R : Room} {s : State} {m : MethodId} {args : Array Value} {below : List Frame} {meth : Method} {c : Code} {Q : State → Prop} {cc : ByteArray} {O : ai_Om} {A : Nat → Prop} {B : ai_Bg}
variable {H H1 : Heap} {locs locs1 : List Loc} {cells slots cells' slots' : Nat} {names names' : List Nat} {ad ad' : Nat → Nat} {ls : Array Slot} {pc pc' : Nat} {L : List (Option ai_V)} {S S' As X : List ai_V} {h h' : ai_H} {k : ai_K} {r r1 : ai_R} {b : Bool × Nat} {orc : ai_O} {o idx fr lo mi n t q len : Nat} {kinds : List Nat} {tb : ai_Tb} {bo : Nat} {ret : Option FieldType} {i : ClassFile.Instr}
theorem sd_ldcs (C : ai_Cx p s m args c cc R O A B o fr lo r) (htb : ai_Tbok o tb) (hd : decode cc pc = .ok (.ldc idx, 2)) (hk : ∀ st, k st = some r → ai_G p l e R s m args below meth c Q O A B st) (hr : ai_cst ai_cIS (tb.2.2.2.1 idx) 2 (pc, L, S, h) k = some r) : ai_G p l e R s m args below meth c Q O A B (pc, L, S, h) := by
  obtain ⟨hx, hb, hml, hown, hts, hK, hA, hRO, hfr, hlo, -, -⟩ := id C
  unfold ai_cst at hr
  cases hc : tb.2.2.2.1 idx with
  | none => rw [hc] at hr; cases hr
  | some v =>
    rw [hc] at hr
    have hv := htb.2.2.2 idx v hc
    rcases v with x | x | ⟨t, l', a⟩
    · exact sd_push (v := .inl x) (fun _ _ => trivial) (fun H locs cells slots ad ls rest _ K => lv_ldc hx hb hown (hts _ hv) hd K) hk hr
    · cases hr
    · by_cases h6 : t = 6
      · subst h6
        obtain ⟨v0, v1, v2, tx, v3⟩ := hv
        refine sd_push (v := .inr (.inr (6, l', a))) (fun names h => Or.inr (Or.inl ⟨rfl, v2⟩)) (fun H locs cells slots ad ls rest _ K => ?_) hk hr
        have hR := hRO.2.2.2.1 _ v3
        rw [← v1] at hR
        exact va_ldcS hx hb hown hR hd K
      · exfalso
        have : ai_cIS (.inr (.inr (t, l', a))) = false := by
          unfold ai_cIS
          split
          · rename_i e1; cases e1
          · rename_i e1; cases e1; exact absurd rfl h6
          · rfl
        simp only [this, cond_false] at hr
        cases hr
theorem sd_ldcw (C : ai_Cx p s m args c cc R O A B o fr lo r) (htb : ai_Tbok o tb) (hd : decode cc pc = .ok (.ldc_w idx, 3)) (hk : ∀ st, k st = some r → ai_G p l e R s m args below meth c Q O A B st) (hr : ai_cst ai_cI (tb.2.2.2.1 idx) 3 (pc, L, S, h) k = some r) : ai_G p l e R s m args below meth c Q O A B (pc, L, S, h) := by
  obtain ⟨hx, hb, hml, hown, hts, hK, hA, hRO, hfr, hlo, -, -⟩ := id C
  unfold ai_cst at hr
  cases hc : tb.2.2.2.1 idx with
  | none => rw [hc] at hr; cases hr
  | some v =>
    rw [hc] at hr
    have hv := htb.2.2.2 idx v hc
    rcases v with x | x
    · exact sd_push (v := .inl x) (fun _ _ => trivial) (fun H locs cells slots ad ls rest _ K => lv_ldcw hx hb hown (hts _ hv) hd K) hk hr
    · cases hr
theorem sd_ldc2 (C : ai_Cx p s m args c cc R O A B o fr lo r) (htb : ai_Tbok o tb) (hd : decode cc pc = .ok (.ldc2_w idx, 3)) (hk : ∀ st, k st = some r → ai_G p l e R s m args below meth c Q O A B st) (hr : ai_cst ai_cL (tb.2.2.2.1 idx) 3 (pc, L, S, h) k = some r) : ai_G p l e R s m args below meth c Q O A B (pc, L, S, h) := by
  obtain ⟨hx, hb, hml, hown, hts, hK, hA, hRO, hfr, hlo, -, -⟩ := id C
  unfold ai_cst at hr
  cases hc : tb.2.2.2.1 idx with
  | none => rw [hc] at hr; cases hr
  | some v =>
    rw [hc] at hr
    have hv := htb.2.2.2 idx v hc
    rcases v with x | x | x
    · cases hr
    · exact sd_push (v := .inr (.inl x)) (fun _ _ => trivial) (fun H locs cells slots ad ls rest _ K => lv_ldc2 hx hb hown (hts _ hv) hd K) hk hr
    · cases hr
theorem sd_gets (C : ai_Cx p s m args c cc R O A B o fr lo r) (htb : ai_Tbok o tb) (hd : decode cc pc = .ok (.getstatic idx, 3)) (hk : ∀ st, k st = some r → ai_G p l e R s m args below meth c Q O A B st) (hr : ai_gst (tb.2.2.2.1 idx) (pc, L, S, h) k = some r) : ai_G p l e R s m args below meth c Q O A B (pc, L, S, h) := by
  obtain ⟨hx, hb, hml, hown, hts, hK, hA, hRO, hfr, hlo, -, -⟩ := id C
  unfold ai_gst at hr
  cases hc : tb.2.2.2.1 idx with
  | none => rw [hc] at hr; cases hr
  | some v =>
    rw [hc] at hr
    have hv := htb.2.2.2 idx v hc
    split at hr
    · rename_i e1
      cases e1
      refine sd_push (v := .inr (.inr (7, 6, 0))) (fun names h => Or.inr (Or.inr (Or.inl rfl))) (fun H locs cells slots ad ls rest hS K => ?_) hk hr
      exact va_gets hx hb hRO.1 hS hown (hts _ hv) (fun _ q => q) hd K
    · rename_i e1
      cases e1
      refine sd_push (v := .inl 1) (fun names h => trivial) (fun H locs cells slots ad ls rest hS K => ?_) hk hr
      exact va_gets hx hb hRO.2.2.2.2.2.2.1 hS hown (hts _ hv) (fun _ q => q) hd K
    · rename_i e1
      cases e1
      refine sd_push (v := .inr (.inr (11, 0, 0))) (fun names h => Or.inr (Or.inr (Or.inr (Or.inr (Or.inr (Or.inl rfl)))))) (fun H locs cells slots ad ls rest hS K => ?_) hk hr
      exact va_gets hx hb hRO.2.2.2.2.2.2.2.1 hS hown (hts _ hv) (fun _ q => q) hd K
    · cases hr
theorem sd_pop (hx : p.tables.exec = Jvm.exec) (hb : c.code = cc) (hd : decode cc pc = .ok (.pop, 1)) (hk : ∀ st, k st = some r → ai_G p l e R s m args below meth c Q O A B st) (hr : ai_pop (pc, L, S, h) k = some r) : ai_G p l e R s m args below meth c Q O A B (pc, L, S, h) := by
  intro H locs cells slots names ad ls I
  rcases S with _ | ⟨x | v | v, S⟩
  · cases hr
  · exact lv_pop hx hb hd rfl (hk _ hr H locs cells slots names ad ls (I.stk (ai_okt I.okS)))
  · cases hr
  · exact lv_pop hx hb hd (ai_cat (fun x q => by cases q)) (hk _ hr H locs cells slots names ad ls (I.stk (ai_okt I.okS)))
theorem ai_cls1 (hK : va_K O.1 vwCl (ai_tys O.2.1) s) : s.vm.findClass "[I" = some (O.2.1 1) := by
  have h1 : va_RA s (O.2.1 1) .int := (hK.2 1 _ rfl).2
  have h2 : s.vm.findClass ("[" ++ FieldType.int.toString) = some (O.2.1 1) := h1
  rw [show "[" ++ FieldType.int.toString = "[I" by decide] at h2
  exact h2
theorem sd_cast (C : ai_Cx p s m args c cc R O A B o fr lo r) (hl : Cond.classLink (ai_nmO o) idx "[I" ∈ ai_Ts) (hd : decode cc pc = .ok (.checkcast idx, 3)) (hk : ∀ st, k st = some r → ai_G p l e R s m args below meth c Q O A B st) (hr : ai_cast (pc, L, S, h) k = some r) : ai_G p l e R s m args below meth c Q O A B (pc, L, S, h) := by
  intro H locs cells slots names ad ls I
  obtain ⟨hx, hb, hml, hown, hts, hK, hA, hRO, hfr, hlo, -, -⟩ := id C
  unfold ai_cast at hr
  split at hr
  · rename_i e1
    cases e1
    obtain ⟨a1, a2⟩ := ai_arr (ai_okh I.okS) (by omega) (by omega)
    obtain ⟨q0, hq⟩ := ai_pos a1
    exact va_castA hx hb hown (hts _ hl) I.1.1 q0 (by rw [ai_at hq, ai_en_a a2 (by omega)]) (ai_cls1 hK) hd (hk _ hr H locs cells slots names ad ls (I.stk I.okS))
  · cases hr
theorem sd_oinit {t l' a : Nat} (C : ai_Cx p s m args c cc R O A B o fr lo r) (hJ : ai_Jok) (hl : Cond.methodLink (ai_nmO o) idx Lib.objectInit ∈ ai_Ts) (hd : decode cc pc = .ok (.invokespecial idx, 3)) (hk : ∀ st, k st = some r → ai_G p l e R s m args below meth c Q O A B st) (hS8 : ai_cats (.inr (.inr (t, l', a)) :: S) ≤ 8) (hN : ai_isN t = true) (hr : k (pc + 3, L, S, h) = some r) : ai_G p l e R s m args below meth c Q O A B (pc, L, .inr (.inr (t, l', a)) :: S, h) := by
  intro H locs cells slots names ad ls I
  obtain ⟨hx, hb, hml, hown, hts, hK, hA, hRO, hfr, hlo, -, -⟩ := id C
  obtain ⟨-, -, -, -, -, -, -, -, -, -, j1, j2, -⟩ := hJ
  have h8 := ai_sum8 (O := O) (ad := ad) (X := [.inr (.inr (t, l', a))]) (S := S) hS8
  obtain ⟨y1, y2⟩ := ai_okN (O := O) (ad := ad) (ai_okh I.okS) hN
  show W p l e R s m args below meth c H locs cells slots Q (F0 m pc ls (ai_cv O ad (.inr (.inr (t, l', a))) :: S.map (ai_cv O ad)))
  rw [y2]
  refine W.objInit hx hb hown (hts _ hl) (hts _ j1) (hts _ j2) rfl ((I.1.2.2.2.2.2.2.1.trans I.2.2.2.1).trans hml.symm) rfl hd (by omega) ?_ (hk _ hr H locs cells slots names ad ls (I.stk (pc' := pc + 3) (ai_okt I.okS)))
  show 2 * 0 + _ + 12 ≤ R.locals
  omega
theorem sd_clone {n a : Nat} (C : ai_Cx p s m args c cc R O A B o fr lo r) (hJ : ai_Jok) (hm : ∀ st, k st = some r → ai_le st.2.2.2 r.2) (hl : Cond.methodLink (ai_nmO o) idx ⟨"[I", "clone", "()Ljava/lang/Object;"⟩ ∈ ai_Ts) (hd : decode cc pc = .ok (.invokevirtual idx, 3)) (hk : ∀ st, k st = some r → ai_G p l e R s m args below meth c Q O A B st) (hS8 : ai_cats (.inr (.inr (1, n, a)) :: S) ≤ 8) (hr : k (pc + 3, L, .inr (.inr (1, n, ai_dn h)) :: S, ai_dupA h a n) = some r) : ai_G p l e R s m args below meth c Q O A B (pc, L, .inr (.inr (1, n, a)) :: S, h) := by
  intro H locs cells slots names ad ls I
  obtain ⟨hx, hb, hml, hown, hts, hK, hA, hRO, hfr, hlo, -, -⟩ := id C
  obtain ⟨-, -, -, -, -, -, -, -, -, -, -, -, j3, j4, j5, j6, -⟩ := hJ
  have h8 := ai_sum8 (O := O) (ad := ad) (X := [.inr (.inr (1, n, a))]) (S := S) hS8
  have N : ai_isNew h (ai_dn h) (1, n) n (ai_dupA h a n) := ai_isNew_dup
  have hroom := C.room (r1 := ([], ai_dupA h a n)) I N.le (hm _ hr)
  have hc1 := N.c1
  have hc2 := N.c2
  dsimp only at hroom
  rw [hc1, hc2] at hroom
  obtain ⟨a1, a2⟩ := ai_arr (ai_okh I.okS) (by omega) (by omega)
  obtain ⟨q0, hq⟩ := ai_pos a1
  have hw := I.1.2.2.2.1
  refine va_clone hx hb (hml.trans (I.1.2.2.2.2.2.2.1.trans I.2.2.2.1).symm) hown (hts _ hl) (hts _ j3) (hts _ j4) (hts _ j5) (hts _ j6) hRO.2.2.2.2.2.1 hK I.1.1 I.1.2.1 I.1.2.2.1 hA q0 1 (x := (n, .inl (h.1 a))) (by rw [ai_at hq, ai_en_a a2 (by omega)]) rfl (ai_cls1 hK) (fun i v hv => ?_) (by omega) (by omega) (by omega) (by dsimp only; omega) hd (fun q H1 hK1 hP hD hS => ?_)
  · have hv2 : (Array.ofFn (n := n) fun j => Value.int (h.1 a j.val))[i]? = some v := hv
    rw [Array.getElem?_ofFn] at hv2
    split at hv2
    · cases hv2; rfl
    · cases hv2
  · refine ai_fin_new N (tl := n) hk I (ai_dn_new hw) (fun _ => by omega) (Or.inl ⟨by dsimp only; omega, by dsimp only; omega⟩) (Or.inl (by dsimp only; omega)) ?_ hP hD hS (ai_okt I.okS) (fun _ => rfl) hr
    rw [ai_en_a N.e4n (by omega), show (ai_dupA h a n).1 (ai_dn h) = h.1 a from if_pos rfl]
theorem sd_newA {ct : Option (List (Nat × Nat))} {cl : Nat → Option (Nat × Nat)} (C : ai_Cx p s m args c cc R O A B o fr lo r) (hJ : ai_Jok) (hm : ∀ st, k st = some r → ai_le st.2.2.2 r.2) (hcl : ∀ r, cl idx = some r → ai_Clok o idx r) (hd : decode cc pc = .ok (.anewarray idx, 3)) (hk : ∀ st, k st = some r → ai_G p l e R s m args below meth c Q O A B st) (hr : ai_newA ct cl idx (pc, L, S, h) k = some r) : ai_G p l e R s m args below meth c Q O A B (pc, L, S, h) := by
  obtain ⟨-, -, -, -, -, -, -, hRO, -, -, -, -⟩ := id C
  obtain ⟨-, -, -, -, -, -, -, -, -, j1, j2⟩ := hRO
  rcases S with _ | ⟨x | v, S⟩
  · cases hr
  · unfold ai_newA at hr
    dsimp only at hr
    cases hc : cl idx with
    | none => rw [hc] at hr; cases hr
    | some r0 =>
      rw [hc] at hr
      obtain ⟨ci, z⟩ := r0
      have hlk := (hcl _ hc).2.2.1
      dsimp only at hr hlk
      cases h4 : Nat.beq ci 4 with
      | true =>
        rw [h4] at hr
        obtain rfl := Nat.eq_of_beq_eq_true h4
        exact sd_newq_x (ci := 4) C hm ⟨by omega, by omega⟩ rfl j1 hlk hd hk hr
      | false =>
        rw [h4] at hr
        simp only [cond_false] at hr
        cases h8 : Nat.beq ci 8 with
        | true =>
          rw [h8] at hr
          obtain rfl := Nat.eq_of_beq_eq_true h8
          exact sd_newq_x (ci := 8) C hm ⟨by omega, by omega⟩ rfl j2 hlk hd hk hr
        | false => rw [h8] at hr; cases hr
  · cases hr
theorem sd_call (C : ai_Cx p s m args c cc R O A B o fr lo r) (hJ : ai_Jok) (htb : ai_Tbok o tb) (hor : ∀ mi As h r, orc mi As h = some r → ai_Cn l O fr lo mi As h r) (hom : ai_om orc) (hm : ∀ st, k st = some r → ai_le st.2.2.2 r.2) (hk : ∀ st, k st = some r → ai_G p l e R s m args below meth c Q O A B st)
    (hd : (i = .invokevirtual idx ∧ kinds = [0, 9] ∨ i = .invokestatic idx ∧ kinds = [1, 3, 4, 5, 6] ∨ i = .invokespecial idx ∧ kinds = [7, 10]) ∧ decode cc pc = .ok (i, 3)) (hr : ai_call orc tb.2.1 kinds idx (pc, L, S, h) k = some r) : ai_G p l e R s m args below meth c Q O A B (pc, L, S, h) := by
  unfold ai_call at hr
  dsimp only at hr
  cases hc : tb.2.1 idx with
  | none => rw [hc] at hr; cases hr
  | some r0 =>
    rw [hc] at hr
    have hmt := htb.2.1 idx r0 hc
    dsimp only at hr
    cases hb8 : (ai_mem kinds r0.1 && Nat.ble (ai_cats S) 8) with
    | false => rw [hb8] at hr; cases hr
    | true =>
      rw [hb8] at hr
      simp only [Bool.and_eq_true, Nat.ble_eq] at hb8
      obtain ⟨hkin, h8⟩ := hb8
      simp only [cond_true] at hr
      obtain ⟨kd, mi, n, t, q⟩ := r0
      obtain ⟨hd1, hd2⟩ := hd
      dsimp only at hr hkin
      match kd with
      | 0 =>
        have hi : i = .invokevirtual idx := by
          rcases hd1 with ⟨z, rfl⟩ | ⟨z, rfl⟩ | ⟨z, rfl⟩
          · exact z
          · cases hkin
          · cases hkin
        subst hi
        change (match ai_pops n S [] with
          | some (As, S') => ai_rcv t As (ai_inv orc (0, mi, n, t, q) pc L As S' h k)
          | none => none) = some r at hr
        split at hr
        · rename_i As' S2 hp
          obtain ⟨X, x1, x2, x3⟩ := ai_pops_spec _ _ _ _ _ hp
          rw [List.append_nil] at x3
          unfold ai_rcv at hr
          split at hr
          · rename_i t' l' a As''
            split at hr
            · rename_i ht
              subst ht
              have hX : X = As''.reverse ++ [.inr (.inr (t', l', a))] := by
                have := congrArg List.reverse x3
                rw [List.reverse_reverse] at this
                rw [← this]; simp
              subst hX
              have e1 : S = As''.reverse ++ (.inr (.inr (t', l', a)) :: S2) := by rw [x1]; simp
              rw [e1] at h8 ⊢
              refine sd_virt C hor hom hm hmt hd2 hk h8 (by simp at x2 ⊢; omega) ?_
              rw [List.reverse_reverse]; exact hr
            · cases hr
          · cases hr
        · cases hr
      | 1 =>
        have hi : i = .invokestatic idx := by
          rcases hd1 with ⟨z, rfl⟩ | ⟨z, rfl⟩ | ⟨z, rfl⟩
          · cases hkin
          · exact z
          · cases hkin
        subst hi
        change (match ai_pops n S [] with
          | some (As, S') => ai_inv orc (1, mi, n, t, q) pc L As S' h k
          | none => none) = some r at hr
        split at hr
        · rename_i As' S2 hp
          obtain ⟨X, x1, x2, x3⟩ := ai_pops_spec _ _ _ _ _ hp
          rw [List.append_nil] at x3
          subst x3
          rw [x1] at h8 ⊢
          exact sd_stat C hor hom hm hmt hd2 hk h8 x2 hr
        · cases hr
      | 3 =>
        have hi : i = .invokestatic idx := by
          rcases hd1 with ⟨z, rfl⟩ | ⟨z, rfl⟩ | ⟨z, rfl⟩
          · cases hkin
          · exact z
          · cases hkin
        subst hi
        change (match (generalizing := false) S with
          | .inl y :: .inl x :: S => k (pc + 3, L, .inl (ai_max x y) :: S, h)
          | _ => none) = some r at hr
        split at hr
        · exact sd_max hJ hmt hd2 hk C hm h8 hr
        · cases hr
      | 4 =>
        have hi : i = .invokestatic idx := by
          rcases hd1 with ⟨z, rfl⟩ | ⟨z, rfl⟩ | ⟨z, rfl⟩
          · cases hkin
          · exact z
          · cases hkin
        subst hi
        change (match (generalizing := false) S with
          | .inl y :: .inl x :: S => k (pc + 3, L, .inl (ai_min x y) :: S, h)
          | _ => none) = some r at hr
        split at hr
        · exact sd_min hJ hmt hd2 hk C hm h8 hr
        · cases hr
      | 5 =>
        have hi : i = .invokestatic idx := by
          rcases hd1 with ⟨z, rfl⟩ | ⟨z, rfl⟩ | ⟨z, rfl⟩
          · cases hkin
          · exact z
          · cases hkin
        subst hi
        change (match (generalizing := false) S with
          | .inl x :: S => k (pc + 3, L, .inl (ai_abs x) :: S, h)
          | _ => none) = some r at hr
        split at hr
        · exact sd_abs hJ hmt hd2 hk C hm h8 hr
        · cases hr
      | 6 =>
        have hi : i = .invokestatic idx := by
          rcases hd1 with ⟨z, rfl⟩ | ⟨z, rfl⟩ | ⟨z, rfl⟩
          · cases hkin
          · exact z
          · cases hkin
        subst hi
        change (match (generalizing := false) S with
          | .inl n :: .inl dp :: .inr (.inr (1, n1, b)) :: .inl sp :: .inr (.inr (1, n0, a)) :: S => ai_cp sp dp n n0 n1 (k (pc + 3, L, S, ai_cpy h a sp.toNatClampNeg b dp.toNatClampNeg n.toNatClampNeg))
          | _ => none) = some r at hr
        split at hr
        · exact sd_copy hJ hmt hd2 hk C h8 hr
        · cases hr
      | 2 => rcases hd1 with ⟨z, rfl⟩ | ⟨z, rfl⟩ | ⟨z, rfl⟩ <;> cases hkin
      | 7 =>
        have hi : i = .invokespecial idx := by
          rcases hd1 with ⟨z, rfl⟩ | ⟨z, rfl⟩ | ⟨z, rfl⟩
          · cases hkin
          · cases hkin
          · exact z
        subst hi
        change (match (generalizing := false) S with
          | .inr (.inr (t, _, _)) :: S => bif ai_isN t then k (pc + 3, L, S, h) else none
          | _ => none) = some r at hr
        split at hr
        · rename_i t0 l0 a0 S0
          cases hN : ai_isN t0 with
          | false => rw [hN] at hr; cases hr
          | true =>
            rw [hN] at hr
            exact sd_oinit C hJ hmt hd2 hk h8 hN hr
        · cases hr
      | 8 => rcases hd1 with ⟨z, rfl⟩ | ⟨z, rfl⟩ | ⟨z, rfl⟩ <;> cases hkin
      | 9 =>
        have hi : i = .invokevirtual idx := by
          rcases hd1 with ⟨z, rfl⟩ | ⟨z, rfl⟩ | ⟨z, rfl⟩
          · exact z
          · cases hkin
          · cases hkin
        subst hi
        change (match (generalizing := false) S with
          | .inr (.inr (1, n, a)) :: S => k (pc + 3, L, .inr (.inr (1, n, ai_dn h)) :: S, ai_dupA h a n)
          | _ => none) = some r at hr
        split at hr
        · exact sd_clone C hJ hm hmt hd2 hk h8 hr
        · cases hr
      | 10 =>
        have hi : i = .invokespecial idx := by
          rcases hd1 with ⟨z, rfl⟩ | ⟨z, rfl⟩ | ⟨z, rfl⟩
          · cases hkin
          · cases hkin
          · exact z
        subst hi
        change (match ai_pops n S [] with
          | some (.inr (.inr (t0, l, a)) :: As, .inr (.inr (t', _, a')) :: S') => bif Nat.beq t0 t && Nat.beq t' t0 then (if a' = a then ai_bv (orc mi (.inr (.inr (t0, l, a)) :: As) h) (fun h => if (h.2.2.2.1 a).1 = t0 ∧ ai_cmp h a (t0 - 40) = true then k (pc + 3, L, .inr (.inr (t0 - 20, 0, a)) :: S', ai_stK h a (t0 - 20, 0)) else none) else none) else none
          | _ => none) = some r at hr
        split at hr
        · rename_i t0 l' a As'' t' l2 a' S2 hp
          obtain ⟨X, x1, x2, x3⟩ := ai_pops_spec _ _ _ _ _ hp
          rw [List.append_nil] at x3
          cases hb2 : (Nat.beq t0 t && Nat.beq t' t0) with
          | false => rw [hb2] at hr; cases hr
          | true =>
            rw [hb2] at hr
            simp only [Bool.and_eq_true] at hb2
            have ht1 := Nat.eq_of_beq_eq_true hb2.1
            have ht2 := Nat.eq_of_beq_eq_true hb2.2
            subst ht2
            subst ht1
            simp only [cond_true] at hr
            split at hr
            · rename_i ha
              subst ha
              have hX : X = As''.reverse ++ [.inr (.inr (t', l', a'))] := by
                have := congrArg List.reverse x3
                rw [List.reverse_reverse] at this
                rw [← this]; simp
              subst hX
              have e1 : S = As''.reverse ++ (.inr (.inr (t', l', a')) :: .inr (.inr (t', l2, a')) :: S2) := by rw [x1]; simp
              rw [e1] at h8 ⊢
              refine sd_init C hor hom hm hmt hd2 hk h8 (by simp at x2 ⊢; omega) ?_
              rw [List.reverse_reverse]; exact hr
            · cases hr
        · cases hr
      | kd + 11 => cases hr
theorem sd_sem {mc ms : Nat} (C : ai_Cx p s m args c cc R O A B o fr lo r) (hJ : ai_Jok) (hco : ∀ ci, ci < 13 → ai_cok ci) (htb : ai_Tbok o tb) (hor : ∀ mi As h r, orc mi As h = some r → ai_Cn l O fr lo mi As h r) (hom : ai_om orc) (hlk : meth.locks = false) (hrt : meth.sig.returnType = ret)
    (hQ : Q = MQ below (ai_Qc O A B r) args s mc ms A) (hmc : mc + B.2.2.2.2.2.2.2.2.1 = r.2.2.2.2.2.2.1) (hms : ms + B.2.2.2.2.2.2.2.2.2 = r.2.2.2.2.2.2.2) (hm : ∀ st, k st = some r → ai_le st.2.2.2 r.2) (hk : ∀ st, k st = some r → ai_G p l e R s m args below meth c Q O A B st)
    (hd : decode cc pc = .ok (i, len)) (hlo : ai_lok ret bo pc i len = true) (hsc : ∀ xs, tb.2.2.2.2.1 = some xs → xs = O.2.2.2.2.2.2.2) (hio : ai_Iok meth.name o tb i) (hns : ai_isSt i = true → B.1.1 = true) (hr : ai_sem orc tb bo i (pc, L, S, h) k = some r) : ai_G p l e R s m args below meth c Q O A B (pc, L, S, h) := by
  obtain ⟨hx, hb, hml, hown, hts, hK, hA, hRO, hfr, hlo', -, -⟩ := id C
  have hSc : ∀ xs, tb.2.2.2.2.1 = some xs → va_T .int O.2.2.2.2.2.2.1 xs.1 (fun j => .int (xs.2 j)) A s s.heap := fun xs q => by rw [hsc xs q]; exact hRO.2.2.2.2.2.2.2.2.1
  have L1 : ∀ {a b : Nat}, (a == b) = true → a = b := fun h => beq_iff_eq.mp h
  cases i with
  | iconst n => obtain rfl := L1 hlo; exact sd_push (v := .inl (Int32.ofInt n)) (fun _ _ => trivial) (fun H locs cells slots ad ls rest _ K => lv_iconst hx hb hd rfl K) hk hr
  | bipush n => obtain rfl := L1 hlo; exact sd_push (v := .inl (Int8.ofInt n).toInt32) (fun _ _ => trivial) (fun H locs cells slots ad ls rest _ K => lv_bipush hx hb hd rfl K) hk hr
  | sipush n => obtain rfl := L1 hlo; exact sd_push (v := .inl (Int16.ofInt n).toInt32) (fun _ _ => trivial) (fun H locs cells slots ad ls rest _ K => lv_sipush hx hb hd rfl K) hk hr
  | lconst n => obtain rfl := L1 hlo; exact sd_push (v := .inr (.inl (Int64.ofNat n.val))) (fun _ _ => trivial) (fun H locs cells slots ad ls rest _ K => lv_lconst hx hb hd rfl K) hk hr
  | aconst_null => obtain rfl := L1 hlo; exact sd_push (v := .inr (.inr (0, 0, 0))) (fun _ _ => Or.inl rfl) (fun H locs cells slots ad ls rest _ K => lv_null hx hb hd K) hk hr
  | ldc n => obtain rfl := L1 hlo; exact sd_ldcs C htb hd hk hr
  | ldc_w n => obtain rfl := L1 hlo; exact sd_ldcw C htb hd hk hr
  | ldc2_w n => obtain rfl := L1 hlo; exact sd_ldc2 C htb hd hk hr
  | getstatic n => obtain rfl := L1 hlo; exact sd_gets C htb hd hk hr
  | iload n => obtain rfl := L1 hlo; exact sd_ild (fun H locs cells slots ls rest x hl K => lv_iload hx hb hd hl K) hk hr
  | iload_n n => obtain rfl := L1 hlo; exact sd_ild (fun H locs cells slots ls rest x hl K => lv_iload_n hx hb hd rfl hl K) hk hr
  | lload_n n => obtain rfl := L1 hlo; exact sd_lld (fun H locs cells slots ls rest x hl K => lv_lload_n hx hb hd rfl hl K) hk hr
  | aload n =>
    obtain rfl := L1 hlo
    refine sd_ald (fun H locs cells slots ls rest x hx' hl K => ?_) hk hr
    rcases hx' with rfl | ⟨z, rfl⟩
    · exact lv_aloadN hx hb hd hl K
    · exact lv_aload hx hb hd hl K
  | aload_n n =>
    obtain rfl := L1 hlo
    refine sd_ald (fun H locs cells slots ls rest x hx' hl K => ?_) hk hr
    rcases hx' with rfl | ⟨z, rfl⟩
    · exact lv_aload_nN hx hb hd rfl hl K
    · exact lv_aload_n hx hb hd rfl hl K
  | istore n => obtain rfl := L1 hlo; exact sd_ist (hns rfl) (fun H locs cells slots ls rest x nL lv h1 h2 K => lv_istore hx hb hd h1 h2 rfl K) hk hr
  | istore_n n => obtain rfl := L1 hlo; exact sd_ist (hns rfl) (fun H locs cells slots ls rest x nL lv h1 h2 K => lv_istore_n hx hb hd rfl h1 h2 rfl K) hk hr
  | astore n =>
    obtain rfl := L1 hlo
    refine sd_ast (hns rfl) (fun H locs cells slots ls rest x nL lv hx' h1 h2 K => ?_) hk hr
    rcases hx' with rfl | ⟨z, rfl⟩
    · exact lv_astoreN hx hb hd h1 h2 rfl K
    · exact lv_astore hx hb hd h1 h2 rfl K
  | astore_n n =>
    obtain rfl := L1 hlo
    refine sd_ast (hns rfl) (fun H locs cells slots ls rest x nL lv hx' h1 h2 K => ?_) hk hr
    rcases hx' with rfl | ⟨z, rfl⟩
    · exact lv_astore_nN hx hb hd rfl h1 h2 rfl K
    · exact lv_astore_n hx hb hd rfl h1 h2 rfl K
  | iinc n q => obtain rfl := L1 hlo; exact sd_iinc (hns rfl) hx hb hd hk hr
  | iadd => obtain rfl := L1 hlo; exact sd_bin (fun H locs cells slots ls rest x y K => lv_iadd hx hb hd K) hk hr
  | isub => obtain rfl := L1 hlo; exact sd_bin (fun H locs cells slots ls rest x y K => lv_isub hx hb hd K) hk hr
  | imul => obtain rfl := L1 hlo; exact sd_bin (fun H locs cells slots ls rest x y K => lv_imul hx hb hd K) hk hr
  | iand => obtain rfl := L1 hlo; exact sd_bin (fun H locs cells slots ls rest x y K => lv_iand hx hb hd K) hk hr
  | ior => obtain rfl := L1 hlo; exact sd_bin (fun H locs cells slots ls rest x y K => lv_ior hx hb hd K) hk hr
  | ixor => obtain rfl := L1 hlo; exact sd_bin (fun H locs cells slots ls rest x y K => lv_ixor hx hb hd K) hk hr
  | ishl => obtain rfl := L1 hlo; exact sd_bin (fun H locs cells slots ls rest x y K => lv_ishl hx hb hd K) hk hr
  | ishr => obtain rfl := L1 hlo; exact sd_bin (fun H locs cells slots ls rest x y K => lv_ishr hx hb hd K) hk hr
  | iushr => obtain rfl := L1 hlo; exact sd_bin (fun H locs cells slots ls rest x y K => lv_iushr hx hb hd rfl K) hk hr
  | idiv => obtain rfl := L1 hlo; exact sd_binD (fun H locs cells slots ls rest x y h0 K => lv_idiv hx hb hd h0 K) hk hr
  | irem => obtain rfl := L1 hlo; exact sd_binD (fun H locs cells slots ls rest x y h0 K => lv_irem hx hb hd h0 K) hk hr
  | ineg => obtain rfl := L1 hlo; exact sd_un (fun H locs cells slots ls rest x K => lv_ineg hx hb hd K) hk hr
  | i2b => obtain rfl := L1 hlo; exact sd_un (fun H locs cells slots ls rest x K => lv_i2b hx hb hd rfl K) hk hr
  | i2l => obtain rfl := L1 hlo; exact sd_i2l hx hb hd hk hr
  | ladd => obtain rfl := L1 hlo; exact sd_binL (fun H locs cells slots ls rest x y K => lv_ladd hx hb hd K) hk hr
  | lmul => obtain rfl := L1 hlo; exact sd_binL (fun H locs cells slots ls rest x y K => lv_lmul hx hb hd K) hk hr
  | lcmp => obtain rfl := L1 hlo; exact sd_lcmp hx hb hd hk hr
  | if_icmp q o => simp only [ai_lok, Bool.and_eq_true, decide_eq_true_eq] at hlo; obtain ⟨h1, h2⟩ := hlo; obtain rfl := L1 h1; exact sd_icmp hx hb hd h2 hk hr
  | ifCond q o => simp only [ai_lok, Bool.and_eq_true, decide_eq_true_eq] at hlo; obtain ⟨h1, h2⟩ := hlo; obtain rfl := L1 h1; exact sd_ifz hx hb hd h2 hk hr
  | ifnull o => simp only [ai_lok, Bool.and_eq_true, decide_eq_true_eq] at hlo; obtain ⟨h1, h2⟩ := hlo; obtain rfl := L1 h1; exact sd_ifnull hx hb hd h2 hk hr
  | ifnonnull o => simp only [ai_lok, Bool.and_eq_true, decide_eq_true_eq] at hlo; obtain ⟨h1, h2⟩ := hlo; obtain rfl := L1 h1; exact sd_ifnonnull hx hb hd h2 hk hr
  | goto o => simp only [ai_lok, Bool.and_eq_true, decide_eq_true_eq] at hlo; obtain ⟨h1, h2⟩ := hlo; obtain rfl := L1 h1; exact sd_goto hx hb hd h2 hk hr
  | tableswitch d lo hi os =>
    simp only [ai_lok, Bool.and_eq_true, decide_eq_true_eq] at hlo
    obtain ⟨h1, h2, h3, h4, h5⟩ := hlo
    exact sd_tsw hx hb hd h1 (fun o ho => by have := List.all_eq_true.mp h2 o ho; simpa using this) h3 h4 h5 hk hr
  | getfield n => obtain rfl := L1 hlo; exact sd_getf hx hb hts hown hK hco (htb.1 n) hRO.2.2.1 hd hk hr
  | putfield n => obtain rfl := L1 hlo; exact sd_putf hx hb hts hown hK hco (htb.1 n) hio hd hk hr
  | iaload => obtain rfl := L1 hlo; exact sd_iald hx hb hK hRO.2.1 hSc hd hk hr
  | baload => obtain rfl := L1 hlo; exact sd_bald hx hb hK hRO.2.2.1 hd hk hr
  | aaload => obtain rfl := L1 hlo; exact sd_aald hx hb hK hd hk hr
  | iastore => obtain rfl := L1 hlo; exact sd_iast hx hb hK hd hk hr
  | bastore => obtain rfl := L1 hlo; exact sd_bast hx hb hK hd hk hr
  | aastore => obtain rfl := L1 hlo; exact sd_aast hx hb hK hd hk hr
  | arraylength => obtain rfl := L1 hlo; exact sd_alen hx hb hK hRO.2.2.1 hSc hd hk hr
  | dup => obtain rfl := L1 hlo; exact sd_dup hx hb hd hk hr
  | dup2 => obtain rfl := L1 hlo; exact sd_dup2 hx hb hd hk hr
  | new n => obtain rfl := L1 hlo; exact sd_newo C hco hm (htb.2.2.1 n) hd hk hr
  | newarray ty =>
    obtain rfl := L1 hlo
    obtain ⟨-, -, -, -, -, -, -, -, -, -, -, -, -, -, -, -, j1, j2, j3⟩ := id hJ
    cases ty with
    | int => exact sd_newa (at0 := .int) C hm ⟨by omega, by omega⟩ rfl j1 rfl (by decide) hd hk hr
    | byte => exact sd_newa (at0 := .byte) C hm ⟨by omega, by omega⟩ rfl j2 rfl (by decide) hd hk hr
    | boolean => exact sd_newa (at0 := .boolean) C hm ⟨by omega, by omega⟩ rfl j3 rfl (by decide) hd hk hr
    | _ => cases hr
  | anewarray n => obtain rfl := L1 hlo; exact sd_newA C hJ hm (htb.2.2.1 n) hd hk hr
  | checkcast n => obtain rfl := L1 hlo; exact sd_cast C hio hd hk hr
  | pop => obtain rfl := L1 hlo; exact sd_pop hx hb hd hk hr
  | i2c => obtain rfl := L1 hlo; exact sd_un (fun H locs cells slots ls rest x K => lv_i2c hx hb hd rfl K) hk hr
  | invokevirtual n => obtain rfl := L1 hlo; exact sd_call C hJ htb hor hom hm hk ⟨Or.inl ⟨rfl, rfl⟩, hd⟩ hr
  | invokestatic n => obtain rfl := L1 hlo; exact sd_call C hJ htb hor hom hm hk ⟨Or.inr (Or.inl ⟨rfl, rfl⟩), hd⟩ hr
  | invokespecial n => obtain rfl := L1 hlo; exact sd_call C hJ htb hor hom hm hk ⟨Or.inr (Or.inr ⟨rfl, rfl⟩), hd⟩ hr
  | ireturn =>
    simp only [ai_lok, Bool.and_eq_true] at hlo
    obtain ⟨h1, h2⟩ := hlo
    obtain rfl := L1 h1
    split at h2
    · exact sd_iret hx hb hlk hrt h2 hQ hmc hms hd hr
    · cases h2
  | areturn =>
    simp only [ai_lok, Bool.and_eq_true] at hlo
    obtain ⟨h1, h2⟩ := hlo
    obtain rfl := L1 h1
    split at h2
    · exact sd_aret hx hb hlk hrt (Or.inl ⟨_, rfl⟩) hQ hmc hms hd hr
    · exact sd_aret hx hb hlk hrt (Or.inr ⟨_, rfl⟩) hQ hmc hms hd hr
    · cases h2
  | return_ =>
    simp only [ai_lok, Bool.and_eq_true, decide_eq_true_eq] at hlo
    obtain ⟨h1, h2⟩ := hlo
    obtain rfl := L1 h1
    exact sd_vret hx hb hlk (hrt.trans h2) hQ hmc hms hd hr
  | _ => cases hr
end SD
