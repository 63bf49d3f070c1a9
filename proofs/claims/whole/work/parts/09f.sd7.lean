/-! SOUNDNESS, 7: every instruction; a method. -/
/-- an instruction's length, its jumps, the method's answer -/
def ai_lok (ret : Option FieldType) (bo : Bool) (pc : Nat) (i : ClassFile.Instr) (len : Nat) : Bool := match i with
  | .iconst _ => len == 1
  | .lconst _ => len == 1
  | .aconst_null => len == 1
  | .bipush _ => len == 2
  | .sipush _ => len == 3
  | .ldc _ => len == 2
  | .ldc_w _ => len == 3
  | .ldc2_w _ => len == 3
  | .getstatic _ => len == 3
  | .iload _ => len == 2
  | .iload_n _ => len == 1
  | .lload_n _ => len == 1
  | .aload _ => len == 2
  | .aload_n _ => len == 1
  | .istore _ => len == 2
  | .istore_n _ => len == 1
  | .astore _ => len == 2
  | .astore_n _ => len == 1
  | .iinc _ _ => len == 3
  | .if_icmp _ o => len == 3 && decide (0 ≤ (pc : Int) + o)
  | .ifCond _ o => len == 3 && decide (0 ≤ (pc : Int) + o)
  | .ifnull o => len == 3 && decide (0 ≤ (pc : Int) + o)
  | .ifnonnull o => len == 3 && decide (0 ≤ (pc : Int) + o)
  | .goto o => len == 3 && decide (0 ≤ (pc : Int) + o)
  | .tableswitch d lo hi os => decide (0 ≤ (pc : Int) + d) && (os.toList.all (fun o => decide (0 ≤ (pc : Int) + o)) && (decide (hi = lo + os.size - 1) && (decide (-1000 ≤ lo) && decide (lo + os.size ≤ 1000))))
  | .getfield _ => len == 3
  | .putfield _ => len == 3
  | .new _ => len == 3
  | .invokevirtual _ => len == 3
  | .invokestatic _ => len == 3
  | .invokespecial _ => len == 3
  | .ireturn => len == 1 && decide (ret = some (if bo then .boolean else .int))
  | .areturn => len == 1 && (match ret with
    | some (.object _) => true
    | some (.array _) => true
    | _ => false)
  | .return_ => len == 1 && decide (ret = none)
  | _ => len == 1
def ai_Tbok (o : Nat) (tb : ai_Tb) : Prop := (∀ idx r, tb.1 idx = some r → ai_Flok o idx r) ∧ (∀ idx r, tb.2.1 idx = some r → ai_Mtok o idx r) ∧ (∀ idx r, tb.2.2.1 idx = some r → ai_Clok o idx r) ∧ (∀ idx v, tb.2.2.2 idx = some v → ai_Csok o idx v)
section SD
variable {p : Program} {l : Launch} {e : Env} {R : Room} {s : State} {m : MethodId} {args : Array Value} {below : List Frame} {meth : Method} {c : Code} {Q : State → Prop} {cc : ByteArray} {O : ai_Om} {A : Nat → Prop} {B : ai_Bg}
variable {H H1 : Heap} {locs locs1 : List Loc} {cells slots cells' slots' : Nat} {names names' : List Nat} {ad ad' : Nat → Nat} {ls : Array Slot} {pc pc' : Nat} {L : List (Option ai_V)} {S S' As X : List ai_V} {h h' : ai_H} {k : ai_K} {r r1 : ai_R} {b : Bool × Nat} {orc : ai_O} {o idx fr lo mi n t q len : Nat} {kinds : List Nat} {tb : ai_Tb} {bo : Bool} {ret : Option FieldType} {i : ClassFile.Instr}
theorem sd_ldcs (C : ai_Cx p s m args c cc R O A B o fr lo r) (htb : ai_Tbok o tb) (hd : decode cc pc = .ok (.ldc idx, 2)) (hk : ∀ st, k st = some r → ai_G p l e R s m args below meth c Q O A B st) (hr : ai_cst ai_cIS (tb.2.2.2 idx) 2 (pc, L, S, h) k = some r) : ai_G p l e R s m args below meth c Q O A B (pc, L, S, h) := by
  obtain ⟨hx, hb, hml, hown, hts, hK, hA, hRO, hfr, hlo, -, -⟩ := id C
  unfold ai_cst at hr
  cases hc : tb.2.2.2 idx with
  | none => rw [hc] at hr; cases hr
  | some v =>
    rw [hc] at hr
    have hv := htb.2.2.2 idx v hc
    rcases v with x | x | ⟨t, l', a⟩
    · exact sd_push (v := .inl x) (fun _ _ => trivial) (fun H locs cells slots ad ls rest _ K => lv_ldc hx hb hown (hts _ hv) hd K) hk hr
    · cases hr
    · by_cases h6 : t = 6
      · subst h6
        obtain ⟨v0, v1, v2, tx, v3⟩ := hv
        refine sd_push (v := .inr (.inr (6, l', a))) (fun names h => Or.inr (Or.inl ⟨rfl, v2⟩)) (fun H locs cells slots ad ls rest _ K => ?_) hk hr
        have hR := hRO.2.2.2.1 _ v3
        rw [← v1] at hR
        exact va_ldcS hx hb hown hR hd K
      · exfalso
        have : ai_cIS (.inr (.inr (t, l', a))) = false := by
          unfold ai_cIS
          split
          · rename_i e1; cases e1
          · rename_i e1; cases e1; exact absurd rfl h6
          · rfl
        simp only [this, cond_false] at hr
        cases hr
theorem sd_ldcw (C : ai_Cx p s m args c cc R O A B o fr lo r) (htb : ai_Tbok o tb) (hd : decode cc pc = .ok (.ldc_w idx, 3)) (hk : ∀ st, k st = some r → ai_G p l e R s m args below meth c Q O A B st) (hr : ai_cst ai_cI (tb.2.2.2 idx) 3 (pc, L, S, h) k = some r) : ai_G p l e R s m args below meth c Q O A B (pc, L, S, h) := by
  obtain ⟨hx, hb, hml, hown, hts, hK, hA, hRO, hfr, hlo, -, -⟩ := id C
  unfold ai_cst at hr
  cases hc : tb.2.2.2 idx with
  | none => rw [hc] at hr; cases hr
  | some v =>
    rw [hc] at hr
    have hv := htb.2.2.2 idx v hc
    rcases v with x | x
    · exact sd_push (v := .inl x) (fun _ _ => trivial) (fun H locs cells slots ad ls rest _ K => lv_ldcw hx hb hown (hts _ hv) hd K) hk hr
    · cases hr
theorem sd_ldc2 (C : ai_Cx p s m args c cc R O A B o fr lo r) (htb : ai_Tbok o tb) (hd : decode cc pc = .ok (.ldc2_w idx, 3)) (hk : ∀ st, k st = some r → ai_G p l e R s m args below meth c Q O A B st) (hr : ai_cst ai_cL (tb.2.2.2 idx) 3 (pc, L, S, h) k = some r) : ai_G p l e R s m args below meth c Q O A B (pc, L, S, h) := by
  obtain ⟨hx, hb, hml, hown, hts, hK, hA, hRO, hfr, hlo, -, -⟩ := id C
  unfold ai_cst at hr
  cases hc : tb.2.2.2 idx with
  | none => rw [hc] at hr; cases hr
  | some v =>
    rw [hc] at hr
    have hv := htb.2.2.2 idx v hc
    rcases v with x | x | x
    · cases hr
    · exact sd_push (v := .inr (.inl x)) (fun _ _ => trivial) (fun H locs cells slots ad ls rest _ K => lv_ldc2 hx hb hown (hts _ hv) hd K) hk hr
    · cases hr
theorem sd_gets (C : ai_Cx p s m args c cc R O A B o fr lo r) (htb : ai_Tbok o tb) (hd : decode cc pc = .ok (.getstatic idx, 3)) (hk : ∀ st, k st = some r → ai_G p l e R s m args below meth c Q O A B st) (hr : ai_cst ai_cP (tb.2.2.2 idx) 3 (pc, L, S, h) k = some r) : ai_G p l e R s m args below meth c Q O A B (pc, L, S, h) := by
  obtain ⟨hx, hb, hml, hown, hts, hK, hA, hRO, hfr, hlo, -, -⟩ := id C
  unfold ai_cst at hr
  cases hc : tb.2.2.2 idx with
  | none => rw [hc] at hr; cases hr
  | some v =>
    rw [hc] at hr
    have hv := htb.2.2.2 idx v hc
    rcases v with x | x | ⟨t, l', a⟩
    · cases hr
    · cases hr
    · by_cases h7 : t = 7
      · subst h7
        refine sd_push (v := .inr (.inr (7, l', a))) (fun names h => Or.inr (Or.inr (Or.inl rfl))) (fun H locs cells slots ad ls rest hS K => ?_) hk hr
        exact va_gets hx hb hRO.1 hS hown (hts _ hv) (fun _ q => q) hd K
      · exfalso
        have : ai_cP (.inr (.inr (t, l', a))) = false := by
          unfold ai_cP
          split
          · rename_i e1; cases e1; exact absurd rfl h7
          · rfl
        simp only [this, cond_false] at hr
        cases hr
theorem sd_call (C : ai_Cx p s m args c cc R O A B o fr lo r) (hJ : ai_Jok) (htb : ai_Tbok o tb) (hor : ∀ mi As h r, orc mi As h = some r → ai_Cn l O fr lo mi As h r) (hom : ai_om orc) (hm : ∀ st, k st = some r → ai_le st.2.2.2 r.2) (hk : ∀ st, k st = some r → ai_G p l e R s m args below meth c Q O A B st)
    (hd : (i = .invokevirtual idx ∧ kinds = [0] ∨ i = .invokestatic idx ∧ kinds = [1, 3, 4, 5, 6] ∨ i = .invokespecial idx ∧ kinds = [2]) ∧ decode cc pc = .ok (i, 3)) (hr : ai_call orc tb.2.1 kinds idx (pc, L, S, h) k = some r) : ai_G p l e R s m args below meth c Q O A B (pc, L, S, h) := by
  unfold ai_call at hr
  dsimp only at hr
  cases hc : tb.2.1 idx with
  | none => rw [hc] at hr; cases hr
  | some r0 =>
    rw [hc] at hr
    have hmt := htb.2.1 idx r0 hc
    dsimp only at hr
    cases hb8 : (ai_mem kinds r0.1 && Nat.ble (ai_cats S) 8) with
    | false => rw [hb8] at hr; cases hr
    | true =>
      rw [hb8] at hr
      simp only [Bool.and_eq_true, Nat.ble_eq] at hb8
      obtain ⟨hkin, h8⟩ := hb8
      simp only [cond_true] at hr
      obtain ⟨kd, mi, n, t, q⟩ := r0
      obtain ⟨hd1, hd2⟩ := hd
      dsimp only at hr hkin
      match kd with
      | 0 =>
        have hi : i = .invokevirtual idx := by
          rcases hd1 with ⟨z, rfl⟩ | ⟨z, rfl⟩ | ⟨z, rfl⟩
          · exact z
          · cases hkin
          · cases hkin
        subst hi
        change (match ai_pops n S [] with
          | some (As, S') => ai_rcv t As (ai_inv orc (0, mi, n, t, q) pc L As S' h k)
          | none => none) = some r at hr
        split at hr
        · rename_i As' S2 hp
          obtain ⟨X, x1, x2, x3⟩ := ai_pops_spec _ _ _ _ _ hp
          rw [List.append_nil] at x3
          unfold ai_rcv at hr
          split at hr
          · rename_i t' l' a As''
            split at hr
            · rename_i ht
              subst ht
              have hX : X = As''.reverse ++ [.inr (.inr (t', l', a))] := by
                have := congrArg List.reverse x3
                rw [List.reverse_reverse] at this
                rw [← this]; simp
              subst hX
              have e1 : S = As''.reverse ++ (.inr (.inr (t', l', a)) :: S2) := by rw [x1]; simp
              rw [e1] at h8 ⊢
              refine sd_virt C hor hom hm hmt hd2 hk h8 (by simp at x2 ⊢; omega) ?_
              rw [List.reverse_reverse]; exact hr
            · cases hr
          · cases hr
        · cases hr
      | 1 =>
        have hi : i = .invokestatic idx := by
          rcases hd1 with ⟨z, rfl⟩ | ⟨z, rfl⟩ | ⟨z, rfl⟩
          · cases hkin
          · exact z
          · cases hkin
        subst hi
        change (match ai_pops n S [] with
          | some (As, S') => ai_inv orc (1, mi, n, t, q) pc L As S' h k
          | none => none) = some r at hr
        split at hr
        · rename_i As' S2 hp
          obtain ⟨X, x1, x2, x3⟩ := ai_pops_spec _ _ _ _ _ hp
          rw [List.append_nil] at x3
          subst x3
          rw [x1] at h8 ⊢
          exact sd_stat C hor hom hm hmt hd2 hk h8 x2 hr
        · cases hr
      | 2 =>
        have hi : i = .invokespecial idx := by
          rcases hd1 with ⟨z, rfl⟩ | ⟨z, rfl⟩ | ⟨z, rfl⟩
          · cases hkin
          · cases hkin
          · exact z
        subst hi
        change (match ai_pops n S [] with
          | some (.inr (.inr (t0, l, a)) :: As, .inr (.inr (t', _, a')) :: S') => bif Nat.beq t0 t && Nat.beq t' t0 then (if a' = a then ai_bv (orc mi (.inr (.inr (t0, l, a)) :: As) h) (fun h => if (h.2.2.2.1 a).1 = t0 - 20 then k (pc + 3, L, .inr (.inr (t0 - 20, 0, a)) :: S', h) else none) else none) else none
          | _ => none) = some r at hr
        split at hr
        · rename_i t0 l' a As'' t' l2 a' S2 hp
          obtain ⟨X, x1, x2, x3⟩ := ai_pops_spec _ _ _ _ _ hp
          rw [List.append_nil] at x3
          cases hb2 : (Nat.beq t0 t && Nat.beq t' t0) with
          | false => rw [hb2] at hr; cases hr
          | true =>
            rw [hb2] at hr
            simp only [Bool.and_eq_true] at hb2
            have ht1 := Nat.eq_of_beq_eq_true hb2.1
            have ht2 := Nat.eq_of_beq_eq_true hb2.2
            subst ht2
            subst ht1
            simp only [cond_true] at hr
            split at hr
            · rename_i ha
              subst ha
              have hX : X = As''.reverse ++ [.inr (.inr (t', l', a'))] := by
                have := congrArg List.reverse x3
                rw [List.reverse_reverse] at this
                rw [← this]; simp
              subst hX
              have e1 : S = As''.reverse ++ (.inr (.inr (t', l', a')) :: .inr (.inr (t', l2, a')) :: S2) := by rw [x1]; simp
              rw [e1] at h8 ⊢
              refine sd_init C hor hom hm hmt hd2 hk h8 (by simp at x2 ⊢; omega) ?_
              rw [List.reverse_reverse]; exact hr
            · cases hr
        · cases hr
      | 3 =>
        have hi : i = .invokestatic idx := by
          rcases hd1 with ⟨z, rfl⟩ | ⟨z, rfl⟩ | ⟨z, rfl⟩
          · cases hkin
          · exact z
          · cases hkin
        subst hi
        change (match (generalizing := false) S with
          | .inl y :: .inl x :: S => k (pc + 3, L, .inl (ai_max x y) :: S, h)
          | _ => none) = some r at hr
        split at hr
        · exact sd_max hJ hmt hd2 hk C hm h8 hr
        · cases hr
      | 4 =>
        have hi : i = .invokestatic idx := by
          rcases hd1 with ⟨z, rfl⟩ | ⟨z, rfl⟩ | ⟨z, rfl⟩
          · cases hkin
          · exact z
          · cases hkin
        subst hi
        change (match (generalizing := false) S with
          | .inl y :: .inl x :: S => k (pc + 3, L, .inl (ai_min x y) :: S, h)
          | _ => none) = some r at hr
        split at hr
        · exact sd_min hJ hmt hd2 hk C hm h8 hr
        · cases hr
      | 5 =>
        have hi : i = .invokestatic idx := by
          rcases hd1 with ⟨z, rfl⟩ | ⟨z, rfl⟩ | ⟨z, rfl⟩
          · cases hkin
          · exact z
          · cases hkin
        subst hi
        change (match (generalizing := false) S with
          | .inl x :: S => k (pc + 3, L, .inl (ai_abs x) :: S, h)
          | _ => none) = some r at hr
        split at hr
        · exact sd_abs hJ hmt hd2 hk C hm h8 hr
        · cases hr
      | 6 =>
        have hi : i = .invokestatic idx := by
          rcases hd1 with ⟨z, rfl⟩ | ⟨z, rfl⟩ | ⟨z, rfl⟩
          · cases hkin
          · exact z
          · cases hkin
        subst hi
        change (match (generalizing := false) S with
          | .inl n :: .inl dp :: .inr (.inr (1, n1, b)) :: .inl sp :: .inr (.inr (1, n0, a)) :: S => ai_cp sp dp n n0 n1 (k (pc + 3, L, S, ai_cpy h a sp.toNatClampNeg b dp.toNatClampNeg n.toNatClampNeg))
          | _ => none) = some r at hr
        split at hr
        · exact sd_copy hJ hmt hd2 hk C h8 hr
        · cases hr
      | kd + 7 => cases hr
theorem sd_sem {mc ms : Nat} (C : ai_Cx p s m args c cc R O A B o fr lo r) (hJ : ai_Jok) (hco : ∀ ci, ci < 13 → ai_cok ci) (htb : ai_Tbok o tb) (hor : ∀ mi As h r, orc mi As h = some r → ai_Cn l O fr lo mi As h r) (hom : ai_om orc) (hlk : meth.locks = false) (hrt : meth.sig.returnType = ret)
    (hQ : Q = MQ below (ai_Qc O A B r) args s mc ms A) (hmc : mc + B.2.2.2.2.2.2.2.2.1 = r.2.2.2.2.2.2.1) (hms : ms + B.2.2.2.2.2.2.2.2.2 = r.2.2.2.2.2.2.2) (hm : ∀ st, k st = some r → ai_le st.2.2.2 r.2) (hk : ∀ st, k st = some r → ai_G p l e R s m args below meth c Q O A B st)
    (hd : decode cc pc = .ok (i, len)) (hlo : ai_lok ret bo pc i len = true) (hns : ai_isSt i = true → B.1.1 = true) (hr : ai_sem orc tb bo i (pc, L, S, h) k = some r) : ai_G p l e R s m args below meth c Q O A B (pc, L, S, h) := by
  obtain ⟨hx, hb, hml, hown, hts, hK, hA, hRO, hfr, hlo', -, -⟩ := id C
  have L1 : ∀ {a b : Nat}, (a == b) = true → a = b := fun h => beq_iff_eq.mp h
  cases i with
  | iconst n => obtain rfl := L1 hlo; exact sd_push (v := .inl (Int32.ofInt n)) (fun _ _ => trivial) (fun H locs cells slots ad ls rest _ K => lv_iconst hx hb hd rfl K) hk hr
  | bipush n => obtain rfl := L1 hlo; exact sd_push (v := .inl (Int8.ofInt n).toInt32) (fun _ _ => trivial) (fun H locs cells slots ad ls rest _ K => lv_bipush hx hb hd rfl K) hk hr
  | sipush n => obtain rfl := L1 hlo; exact sd_push (v := .inl (Int16.ofInt n).toInt32) (fun _ _ => trivial) (fun H locs cells slots ad ls rest _ K => lv_sipush hx hb hd rfl K) hk hr
  | lconst n => obtain rfl := L1 hlo; exact sd_push (v := .inr (.inl (Int64.ofNat n.val))) (fun _ _ => trivial) (fun H locs cells slots ad ls rest _ K => lv_lconst hx hb hd rfl K) hk hr
  | aconst_null => obtain rfl := L1 hlo; exact sd_push (v := .inr (.inr (0, 0, 0))) (fun _ _ => Or.inl rfl) (fun H locs cells slots ad ls rest _ K => lv_null hx hb hd K) hk hr
  | ldc n => obtain rfl := L1 hlo; exact sd_ldcs C htb hd hk hr
  | ldc_w n => obtain rfl := L1 hlo; exact sd_ldcw C htb hd hk hr
  | ldc2_w n => obtain rfl := L1 hlo; exact sd_ldc2 C htb hd hk hr
  | getstatic n => obtain rfl := L1 hlo; exact sd_gets C htb hd hk hr
  | iload n => obtain rfl := L1 hlo; exact sd_ild (fun H locs cells slots ls rest x hl K => lv_iload hx hb hd hl K) hk hr
  | iload_n n => obtain rfl := L1 hlo; exact sd_ild (fun H locs cells slots ls rest x hl K => lv_iload_n hx hb hd rfl hl K) hk hr
  | lload_n n => obtain rfl := L1 hlo; exact sd_lld (fun H locs cells slots ls rest x hl K => lv_lload_n hx hb hd rfl hl K) hk hr
  | aload n =>
    obtain rfl := L1 hlo
    refine sd_ald (fun H locs cells slots ls rest x hx' hl K => ?_) hk hr
    rcases hx' with rfl | ⟨z, rfl⟩
    · exact lv_aloadN hx hb hd hl K
    · exact lv_aload hx hb hd hl K
  | aload_n n =>
    obtain rfl := L1 hlo
    refine sd_ald (fun H locs cells slots ls rest x hx' hl K => ?_) hk hr
    rcases hx' with rfl | ⟨z, rfl⟩
    · exact lv_aload_nN hx hb hd rfl hl K
    · exact lv_aload_n hx hb hd rfl hl K
  | istore n => obtain rfl := L1 hlo; exact sd_ist (hns rfl) (fun H locs cells slots ls rest x nL lv h1 h2 K => lv_istore hx hb hd h1 h2 rfl K) hk hr
  | istore_n n => obtain rfl := L1 hlo; exact sd_ist (hns rfl) (fun H locs cells slots ls rest x nL lv h1 h2 K => lv_istore_n hx hb hd rfl h1 h2 rfl K) hk hr
  | astore n =>
    obtain rfl := L1 hlo
    refine sd_ast (hns rfl) (fun H locs cells slots ls rest x nL lv hx' h1 h2 K => ?_) hk hr
    rcases hx' with rfl | ⟨z, rfl⟩
    · exact lv_astoreN hx hb hd h1 h2 rfl K
    · exact lv_astore hx hb hd h1 h2 rfl K
  | astore_n n =>
    obtain rfl := L1 hlo
    refine sd_ast (hns rfl) (fun H locs cells slots ls rest x nL lv hx' h1 h2 K => ?_) hk hr
    rcases hx' with rfl | ⟨z, rfl⟩
    · exact lv_astore_nN hx hb hd rfl h1 h2 rfl K
    · exact lv_astore_n hx hb hd rfl h1 h2 rfl K
  | iinc n q => obtain rfl := L1 hlo; exact sd_iinc (hns rfl) hx hb hd hk hr
  | iadd => obtain rfl := L1 hlo; exact sd_bin (fun H locs cells slots ls rest x y K => lv_iadd hx hb hd K) hk hr
  | isub => obtain rfl := L1 hlo; exact sd_bin (fun H locs cells slots ls rest x y K => lv_isub hx hb hd K) hk hr
  | imul => obtain rfl := L1 hlo; exact sd_bin (fun H locs cells slots ls rest x y K => lv_imul hx hb hd K) hk hr
  | iand => obtain rfl := L1 hlo; exact sd_bin (fun H locs cells slots ls rest x y K => lv_iand hx hb hd K) hk hr
  | ior => obtain rfl := L1 hlo; exact sd_bin (fun H locs cells slots ls rest x y K => lv_ior hx hb hd K) hk hr
  | ixor => obtain rfl := L1 hlo; exact sd_bin (fun H locs cells slots ls rest x y K => lv_ixor hx hb hd K) hk hr
  | ishl => obtain rfl := L1 hlo; exact sd_bin (fun H locs cells slots ls rest x y K => lv_ishl hx hb hd K) hk hr
  | ishr => obtain rfl := L1 hlo; exact sd_bin (fun H locs cells slots ls rest x y K => lv_ishr hx hb hd K) hk hr
  | iushr => obtain rfl := L1 hlo; exact sd_bin (fun H locs cells slots ls rest x y K => lv_iushr hx hb hd rfl K) hk hr
  | idiv => obtain rfl := L1 hlo; exact sd_binD (fun H locs cells slots ls rest x y h0 K => lv_idiv hx hb hd h0 K) hk hr
  | irem => obtain rfl := L1 hlo; exact sd_binD (fun H locs cells slots ls rest x y h0 K => lv_irem hx hb hd h0 K) hk hr
  | ineg => obtain rfl := L1 hlo; exact sd_un (fun H locs cells slots ls rest x K => lv_ineg hx hb hd K) hk hr
  | i2b => obtain rfl := L1 hlo; exact sd_un (fun H locs cells slots ls rest x K => lv_i2b hx hb hd rfl K) hk hr
  | i2l => obtain rfl := L1 hlo; exact sd_i2l hx hb hd hk hr
  | ladd => obtain rfl := L1 hlo; exact sd_binL (fun H locs cells slots ls rest x y K => lv_ladd hx hb hd K) hk hr
  | lmul => obtain rfl := L1 hlo; exact sd_binL (fun H locs cells slots ls rest x y K => lv_lmul hx hb hd K) hk hr
  | lcmp => obtain rfl := L1 hlo; exact sd_lcmp hx hb hd hk hr
  | if_icmp q o => simp only [ai_lok, Bool.and_eq_true, decide_eq_true_eq] at hlo; obtain ⟨h1, h2⟩ := hlo; obtain rfl := L1 h1; exact sd_icmp hx hb hd h2 hk hr
  | ifCond q o => simp only [ai_lok, Bool.and_eq_true, decide_eq_true_eq] at hlo; obtain ⟨h1, h2⟩ := hlo; obtain rfl := L1 h1; exact sd_ifz hx hb hd h2 hk hr
  | ifnull o => simp only [ai_lok, Bool.and_eq_true, decide_eq_true_eq] at hlo; obtain ⟨h1, h2⟩ := hlo; obtain rfl := L1 h1; exact sd_ifnull hx hb hd h2 hk hr
  | ifnonnull o => simp only [ai_lok, Bool.and_eq_true, decide_eq_true_eq] at hlo; obtain ⟨h1, h2⟩ := hlo; obtain rfl := L1 h1; exact sd_ifnonnull hx hb hd h2 hk hr
  | goto o => simp only [ai_lok, Bool.and_eq_true, decide_eq_true_eq] at hlo; obtain ⟨h1, h2⟩ := hlo; obtain rfl := L1 h1; exact sd_goto hx hb hd h2 hk hr
  | tableswitch d lo hi os =>
    simp only [ai_lok, Bool.and_eq_true, decide_eq_true_eq] at hlo
    obtain ⟨h1, h2, h3, h4, h5⟩ := hlo
    exact sd_tsw hx hb hd h1 (fun o ho => by have := List.all_eq_true.mp h2 o ho; simpa using this) h3 h4 h5 hk hr
  | getfield n => obtain rfl := L1 hlo; exact sd_getf hx hb hts hown hK hco (htb.1 n) hd hk hr
  | putfield n => obtain rfl := L1 hlo; exact sd_putf hx hb hts hown hK hco (htb.1 n) hd hk hr
  | iaload => obtain rfl := L1 hlo; exact sd_iald hx hb hK hRO.2.1 hd hk hr
  | baload => obtain rfl := L1 hlo; exact sd_bald hx hb hK hd hk hr
  | aaload => obtain rfl := L1 hlo; exact sd_aald hx hb hK hd hk hr
  | iastore => obtain rfl := L1 hlo; exact sd_iast hx hb hK hd hk hr
  | bastore => obtain rfl := L1 hlo; exact sd_bast hx hb hK hd hk hr
  | aastore => obtain rfl := L1 hlo; exact sd_aast hx hb hK hd hk hr
  | arraylength => obtain rfl := L1 hlo; exact sd_alen hx hb hK hd hk hr
  | dup => obtain rfl := L1 hlo; exact sd_dup hx hb hd hk hr
  | dup2 => obtain rfl := L1 hlo; exact sd_dup2 hx hb hd hk hr
  | new n => obtain rfl := L1 hlo; exact sd_newo C hco hm (htb.2.2.1 n) hd hk hr
  | invokevirtual n => obtain rfl := L1 hlo; exact sd_call C hJ htb hor hom hm hk ⟨Or.inl ⟨rfl, rfl⟩, hd⟩ hr
  | invokestatic n => obtain rfl := L1 hlo; exact sd_call C hJ htb hor hom hm hk ⟨Or.inr (Or.inl ⟨rfl, rfl⟩), hd⟩ hr
  | invokespecial n => obtain rfl := L1 hlo; exact sd_call C hJ htb hor hom hm hk ⟨Or.inr (Or.inr ⟨rfl, rfl⟩), hd⟩ hr
  | ireturn =>
    simp only [ai_lok, Bool.and_eq_true, decide_eq_true_eq] at hlo
    obtain ⟨h1, h2⟩ := hlo
    obtain rfl := L1 h1
    refine sd_iret (rt := if bo = true then .boolean else .int) hx hb hlk (by rw [hrt, h2]) ?_ hQ hmc hms hd hr
    cases bo <;> rfl
  | areturn =>
    simp only [ai_lok, Bool.and_eq_true] at hlo
    obtain ⟨h1, h2⟩ := hlo
    obtain rfl := L1 h1
    split at h2
    · exact sd_aret hx hb hlk hrt (Or.inl ⟨_, rfl⟩) hQ hmc hms hd hr
    · exact sd_aret hx hb hlk hrt (Or.inr ⟨_, rfl⟩) hQ hmc hms hd hr
    · cases h2
  | return_ =>
    simp only [ai_lok, Bool.and_eq_true, decide_eq_true_eq] at hlo
    obtain ⟨h1, h2⟩ := hlo
    obtain rfl := L1 h1
    exact sd_vret hx hb hlk (hrt.trans h2) hQ hmc hms hd hr
  | _ => cases hr
end SD
