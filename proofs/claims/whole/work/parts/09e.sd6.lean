/-! SOUNDNESS, 6: objects made; constructors; every instruction. -/
def ai_Clok (o idx : Nat) (r : Nat × Nat) : Prop := r.1 < 13 ∧ r.2 = jg_nf r.1 ∧ Cond.classLink (ai_nmO o) idx (jg_R r.1) ∈ ai_Ts ∧ Cond.instantiable (jg_R r.1) (jg_nf r.1) ∈ ai_Ts ∧ Cond.initialized (jg_R r.1) ∈ ai_Ts
def ai_Csok (o idx : Nat) : ai_V → Prop
  | .inl x => Cond.constant (ai_nmO o) idx x ∈ ai_Ts
  | .inr (.inl x) => Cond.constantLong (ai_nmO o) idx x ∈ ai_Ts
  | .inr (.inr (6, l, k)) => l = 0 ∧ ai_nmO o = RX7 ∧ k < ai_txts.length ∧ ∃ tx, (idx, tx, k) ∈ ai_tixs
  | .inr (.inr (7, _, _)) => Cond.fieldLink (ai_nmO o) idx RX9 "POWERS" "[I" ∈ ai_Ts
  | _ => True
theorem ai_fk_out {ci j : Nat} (h : 13 ≤ ci) : ai_fk ci j = (9, 0, 0) := by
  have e : ai_fkl.getD ci [] = [] := by
    rw [List.getD_eq_getElem?_getD, List.getElem?_eq_none (by show 13 ≤ ci; exact h)]
    rfl
  unfold ai_fk
  rw [e]
  rfl
section SD
variable {p : Program} {l : Launch} {e : Env} {R : Room} {s : State} {m : MethodId} {args : Array Value} {below : List Frame} {meth : Method} {c : Code} {Q : State → Prop} {cc : ByteArray} {O : ai_Om} {A : Nat → Prop} {B : ai_Bg}
variable {H H1 : Heap} {locs locs1 : List Loc} {cells slots cells' slots' : Nat} {names names' : List Nat} {ad ad' : Nat → Nat} {ls : Array Slot} {pc pc' : Nat} {L : List (Option ai_V)} {S S' As X : List ai_V} {h h' : ai_H} {k : ai_K} {r r1 : ai_R} {b : Bool × Nat} {orc : ai_O} {o idx fr lo mi n t q : Nat}
theorem ai_en_new {cA : Nat → ClassId} {kd : Nat × Nat} {x : Nat} (hx : x ≠ ai_dn h) (hcl : ∀ j y, h.2.2.1 x j = some y → ad' y = ad y) : ai_en cA ad' (ai_new h kd n) x = ai_en cA ad h x := by
  have e1 : (ai_new h kd n).1 x = h.1 x := if_neg hx
  have e2 : (ai_new h kd n).2.1 x = h.2.1 x := if_neg hx
  have e3 : ∀ j, (ai_new h kd n).2.2.1 x j = h.2.2.1 x j := fun j => if_neg hx
  have e4 : (ai_new h kd n).2.2.2.1 x = h.2.2.2.1 x := if_neg hx
  have e5 : ∀ j, (h.2.2.1 x j).map ad' = (h.2.2.1 x j).map ad := fun j => by
    cases hq : h.2.2.1 x j with
    | none => rfl
    | some y => simp [hcl j y hq]
  have e6 : ∀ ci, ai_fs ad' (ai_new h kd n) x ci = ai_fs ad h x ci := fun ci => by
    unfold ai_fs
    refine List.map_congr_left fun i _ => ?_
    cases jg_ty ci i <;> unfold ai_fv <;> dsimp only <;> first | rw [e1] | rw [e2] | rw [e3, e5]
  unfold ai_en
  simp only [e1, e3, e4, e5, e6]
theorem ai_dn_new (hw : ai_wf h names) : ai_dn h ∉ names := fun hq => by
  have := hw.2.2.1 _ hq (by unfold ai_dn; omega)
  omega
theorem ai_wf_new {kd : Nat × Nat} (w : ai_wf h names) (hk : ai_kok kd.1) (hci : kd.1 < 20 ∨ 33 ≤ kd.1) : ai_wf (ai_new h kd n) (names ++ [ai_dn h]) := by
  have hdn := ai_dn_new w
  obtain ⟨w1, w2, w3, w4, w5, w6, w7⟩ := w
  have ne : ∀ x, x ∈ names → x ≠ ai_dn h := fun x hx q => hdn (q ▸ hx)
  have e3 : ∀ x, x ∈ names → ∀ j, (ai_new h kd n).2.2.1 x j = h.2.2.1 x j := fun x hx j => if_neg (ne x hx)
  have e4 : ∀ x, x ∈ names → (ai_new h kd n).2.2.2.1 x = h.2.2.2.1 x := fun x hx => if_neg (ne x hx)
  have e3n : ∀ j, (ai_new h kd n).2.2.1 (ai_dn h) j = none := fun j => if_pos rfl
  have e4n : (ai_new h kd n).2.2.2.1 (ai_dn h) = kd := if_pos rfl
  have hdn' : ai_dn (ai_new h kd n) = ai_dn h + 128 := by show 128 * (h.2.2.2.2.1 + 1) = 128 * h.2.2.2.2.1 + 128; omega
  have mm : ∀ {P : Nat → Prop}, (∀ x ∈ names, P x) → P (ai_dn h) → ∀ x ∈ names ++ [ai_dn h], P x := fun h1 h2 x hx => by
    rcases List.mem_append.mp hx with q | q
    · exact h1 x q
    · rw [List.mem_singleton.mp q]; exact h2
  refine ⟨?_, ?_, ?_, ?_, ?_, ?_, ?_⟩
  · rw [List.nodup_append]
    refine ⟨w1, by simp, fun x hx y hy => ?_⟩
    rw [List.mem_singleton.mp hy]; exact ne x hx
  · exact mm (fun x hx => by rw [e4 x hx]; exact w2 x hx) (by rw [e4n]; exact hk)
  · exact mm (fun x hx hx0 => by have := w3 x hx hx0; omega) (fun _ => by omega)
  · exact mm (fun x hx j y hy => List.mem_append_left _ (w4 x hx j y (by rw [← e3 x hx]; exact hy))) (fun j y hy => by rw [e3n] at hy; cases hy)
  · refine mm (fun x hx ci hci j hj => ?_) (fun ci hci' j hj => ?_)
    · rw [e4 x hx] at hci
      have o1 := w5 x hx ci hci j hj
      have cl := w4 x hx j
      have e5 := e3 x hx j
      generalize ai_fk ci j = q at o1 ⊢
      obtain ⟨k1, k2, k3⟩ := q
      match k1 with
      | 0 => trivial
      | 1 => trivial
      | 2 => trivial
      | 3 => exact ⟨e5.trans o1.1, (e4 _ (cl _ o1.1)).trans o1.2⟩
      | 4 => exact ⟨e5.trans o1.1, (e4 _ (cl _ o1.1)).trans o1.2⟩
      | 5 => exact ⟨e5.trans o1.1, (congrArg Prod.fst (e4 _ (cl _ o1.1))).trans o1.2⟩
      | 6 => exact fun z hz => (congrArg Prod.fst (e4 _ (cl _ (e5.symm.trans hz)))).trans (o1 z (e5.symm.trans hz))
      | 7 => exact fun z hz => (congrArg Prod.fst (e4 _ (cl _ (e5.symm.trans hz)))).trans (o1 z (e5.symm.trans hz))
      | k1 + 8 => trivial
    · rw [e4n] at hci'
      rw [ai_fk_out (by omega)]
      trivial
  · refine mm (fun x hx hk4 j y hy => ?_) (fun hk4 j y hy => by rw [e3n] at hy; cases hy)
    rw [e4 x hx] at hk4
    rw [e3 x hx] at hy
    rw [e4 y (w4 x hx j y hy)]
    exact w6 x hx hk4 j y hy
  · refine mm (fun x hx hk4 j y hy => ?_) (fun hk4 j y hy => by rw [e3n] at hy; cases hy)
    rw [e4 x hx] at hk4
    rw [e3 x hx] at hy
    rw [e4 y (w4 x hx j y hy)]
    exact w7 x hx hk4 j y hy
theorem ai_ws_new {cA : Nat → ClassId} {kd : Nat × Nat} {qa : Nat} {e0 : va_E} (w : ai_wf h names) (he : ai_en cA (fun x => if x = ai_dn h then qa else ad x) (ai_new h kd n) (ai_dn h) = e0) : ai_ws cA ad h names ++ [(qa, e0)] = ai_ws cA (fun x => if x = ai_dn h then qa else ad x) (ai_new h kd n) (names ++ [ai_dn h]) := by
  have hdn := ai_dn_new w
  unfold ai_ws
  rw [List.map_append]
  congr 1
  · refine List.map_congr_left fun x hx => ?_
    have hne : x ≠ ai_dn h := fun q => hdn (q ▸ hx)
    rw [ai_en_new (ad := ad) hne (fun j y hy => if_neg (fun q : y = ai_dn h => hdn (q ▸ w.2.2.2.1 x hx j y hy)))]
    dsimp only
    rw [if_neg hne]
  · simp [he]
theorem ai_ext_new {kd : Nat × Nat} {qa : Nat} (w : ai_wf h names) : ai_ext (b, names, ad, h) (names ++ [ai_dn h]) (fun x => if x = ai_dn h then qa else ad x) (ai_new h kd n) := fun x hx => by
  have hne : x ≠ ai_dn h := fun q => ai_dn_new w (q ▸ hx)
  exact ⟨List.mem_append_left _ hx, if_neg hne, Or.inl (if_neg hne)⟩
theorem sd_newo {cl : Nat → Option (Nat × Nat)} (C : ai_Cx p s m args c cc R O A B o fr lo r) (hco : ∀ ci, ci < 13 → ai_cok ci) (hm : ∀ st, k st = some r → ai_le st.2.2.2 r.2) (hcl : ∀ r, cl idx = some r → ai_Clok o idx r)
    (hd : decode cc pc = .ok (.new idx, 3)) (hk : ∀ st, k st = some r → ai_G p l e R s m args below meth c Q O A B st) (hr : ai_newo cl idx (pc, L, S, h) k = some r) : ai_G p l e R s m args below meth c Q O A B (pc, L, S, h) := by
  intro H locs cells slots names ad ls I
  obtain ⟨hx, hb, hml, hown, hts, hK, hA, hRO, hfr, hlo, -, -⟩ := id C
  unfold ai_newo at hr
  dsimp only at hr
  cases hc : cl idx with
  | none => rw [hc] at hr; cases hr
  | some r0 =>
    rw [hc] at hr
    obtain ⟨ci, n⟩ := r0
    obtain ⟨f1, f2, f3, f4, f5⟩ := hcl _ hc
    dsimp only at f1 f2 f3 f4 f5 hr
    subst f2
    have hw := I.1.2.2.2.1
    obtain ⟨c1, c2⟩ := hco ci f1
    have hroom := C.room (r1 := ([], ai_new h (40 + ci, 0) (jg_nf ci))) I (ai_le_new _ _ _) (hm _ hr)
    have hc1 : (ai_new h (40 + ci, 0) (jg_nf ci)).2.2.2.2.2.1 = h.2.2.2.2.2.1 + 1 := rfl
    have hc2 : (ai_new h (40 + ci, 0) (jg_nf ci)).2.2.2.2.2.2 = h.2.2.2.2.2.2 + jg_nf ci := rfl
    dsimp only at hroom
    rw [hc1, hc2] at hroom
    have e3n : ∀ j, (ai_new h (40 + ci, 0) (jg_nf ci)).2.2.1 (ai_dn h) j = none := fun j => if_pos rfl
    have e1n : ∀ j, (ai_new h (40 + ci, 0) (jg_nf ci)).1 (ai_dn h) j = 0 := fun j => by
      show (if ai_dn h = ai_dn h then fun _ => 0 else h.1 (ai_dn h)) j = 0
      rw [if_pos rfl]
    have e2n : (ai_new h (40 + ci, 0) (jg_nf ci)).2.1 (ai_dn h) = 0 := if_pos rfl
    have hfs : ∀ adx, ai_fs adx (ai_new h (40 + ci, 0) (jg_nf ci)) (ai_dn h) ci = ai_fs ad (ai_new h (40 + ci, 0) (jg_nf ci)) (ai_dn h) ci := fun adx => by
      unfold ai_fs
      refine List.map_congr_left fun i _ => ?_
      cases jg_ty ci i <;> first | rfl | (unfold ai_fv; dsimp only; rw [e3n]; rfl)
    refine va_new (fs := ai_fs ad (ai_new h (40 + ci, 0) (jg_nf ci)) (ai_dn h) ci) hx hb hts c1 (jg_ty ci) (jg_tyok f1) hown (hts _ f3) (hts _ f4) (hts _ f5) hK I.1.1 I.1.2.1 I.1.2.2.1 hA (jg_cl f1) (fun j hj => ?_) (by omega) (by omega) hd (fun qa H1 hP hD hS => ?_)
    · unfold vp_V
      rw [List.getD_eq_getElem?_getD, ai_fs_get hj]
      obtain ⟨-, c4, -⟩ := c2 j hj
      generalize (ai_fk ci j).1 = kk at c4
      cases hq : jg_ty ci j <;> rw [hq] at c4 <;> first
        | (simp [ai_fv, e1n, e2n, e3n, defaultValue, va_rf]; done)
        | (exfalso; revert c4; match kk with
            | 0 => intro c4; cases c4
            | 1 => intro c4; cases c4
            | 2 => intro c4; cases c4
            | 3 => intro c4; cases c4
            | 4 => intro c4; cases c4
            | 5 => intro c4; cases c4
            | 6 => intro c4; cases c4
            | 7 => intro c4; cases c4
            | kk + 8 => intro c4; cases c4)
    · have he : ai_en O.2.1 (fun x => if x = ai_dn h then qa else ad x) (ai_new h (40 + ci, 0) (jg_nf ci)) (ai_dn h) = .inr (ci, ai_fs ad (ai_new h (40 + ci, 0) (jg_nf ci)) (ai_dn h) ci) := by
        have e1 : (40 + ci) % 20 = ci := by omega
        rw [ai_en_o (k := 40 + ci) (by show ((ai_uK h.2.2.2.1 (ai_dn h) (40 + ci, 0)) (ai_dn h)).1 = _; unfold ai_uK; rw [if_pos rfl]) (by omega), e1, hfs]
      rw [ai_ws_new hw he] at hP hD
      have hext : ai_ext (B.1, names, ad, h) (names ++ [ai_dn h]) (fun x => if x = ai_dn h then qa else ad x) (ai_new h (40 + ci, 0) (jg_nf ci)) := ai_ext_new hw
      have K := hk _ hr H1 locs (cells + 1) (slots + jg_nf ci) _ _ ls (I.call (pc' := pc + 3) (S' := .inr (.inr (40 + ci, 0, ai_dn h)) :: S) hext hP hD hS (ai_wf_new hw (Or.inr (Or.inr ⟨by omega, by omega⟩)) (Or.inr (by dsimp only; omega))) (ai_okc (by
          unfold ai_ok
          dsimp only
          refine Or.inr (Or.inr (Or.inr (Or.inr (Or.inr ⟨by omega, by omega, by simp, Or.inl ?_⟩))))
          show ((ai_uK h.2.2.2.1 (ai_dn h) (40 + ci, 0)) (ai_dn h)).1 = _
          unfold ai_uK
          rw [if_pos rfl]) (fun v hv => (ai_ok_ext (O := O) hext (I.okS v hv)).1)) (by rw [hc1]; omega) (by rw [hc2]; omega))
      dsimp only at K
      rw [List.map_cons, ai_cv_map hext I.okS, ai_cv_r (Or.inr (by omega : 20 ≤ 40 + ci)), if_pos rfl] at K
      exact K
theorem sd_init {l' l2 a : Nat} (C : ai_Cx p s m args c cc R O A B o fr lo r) (hor : ∀ mi As h r, orc mi As h = some r → ai_Cn l O fr lo mi As h r) (hom : ai_om orc) (hm : ∀ st, k st = some r → ai_le st.2.2.2 r.2) (hmt : ai_Mtok o idx (2, mi, n, t, q))
    (hd : decode cc pc = .ok (.invokespecial idx, 3)) (hk : ∀ st, k st = some r → ai_G p l e R s m args below meth c Q O A B st) (hS8 : ai_cats (X ++ (.inr (.inr (t, l', a)) :: .inr (.inr (t, l2, a)) :: S)) ≤ 8) (hX : X.length + 1 = n) (hr : ai_bv (orc mi (.inr (.inr (t, l', a)) :: X.reverse) h) (fun h => if (h.2.2.2.1 a).1 = t - 20 then k (pc + 3, L, .inr (.inr (t - 20, 0, a)) :: S, h) else none) = some r) : ai_G p l e R s m args below meth c Q O A B (pc, L, X ++ (.inr (.inr (t, l', a)) :: .inr (.inr (t, l2, a)) :: S), h) := by
  intro H locs cells slots names ad ls I
  cases o1 : orc mi (.inr (.inr (t, l', a)) :: X.reverse) h with
  | none => rw [o1] at hr; cases hr
  | some r1 =>
    rw [o1] at hr
    obtain ⟨l1, h1⟩ := r1
    rcases l1 with _ | ⟨v, l1⟩
    · change (if (h1.2.2.2.1 a).1 = t - 20 then k (pc + 3, L, .inr (.inr (t - 20, 0, a)) :: S, h1) else none) = some r at hr
      split at hr
      · rename_i hka
        have hle := hom _ _ _ _ o1
        have hroom := C.room (r1 := ([], h1)) I hle (hm _ hr)
        obtain ⟨hx, hb, hml, hown, hts, hK, hA, hRO, hfr, hlo, -, -⟩ := id C
        obtain ⟨n', y0, ⟨y1, y2, y3, y4⟩, y5, y6, y7, y8, y8', y9⟩ := hmt
        have hokr : ai_ok names h (.inr (.inr (t, l', a))) := I.okS _ (List.mem_append_right _ List.mem_cons_self)
        have ha : a ∈ names := by
          unfold ai_ok at hokr
          dsimp only at hokr
          rcases hokr with z | z | z | z | z | z
          · omega
          · omega
          · omega
          · omega
          · omega
          · exact z.2.2.1
        have hoks : ∀ v ∈ (.inr (.inr (t, l', a)) :: X.reverse : List ai_V), ai_ok names h v := fun v hv => by
          rcases List.mem_cons.mp hv with rfl | hv
          · exact hokr
          · exact I.okS v (List.mem_append_left _ (List.mem_reverse.mp hv))
        have hM := hor _ _ _ _ o1 names ad H.size I.1.2.2.2.1 hoks
        have hcv : ∀ l0, ai_cv O ad (.inr (.inr (t, l0, a))) = .ref (ad a) := fun l0 => ai_cv_r (Or.inr (by omega))
        have hmap : (.inr (.inr (t, l', a)) :: X.reverse : List ai_V).map (ai_cv O ad) = Value.ref (ad a) :: X.reverse.map (ai_cv O ad) := by rw [List.map_cons, hcv]
        rw [hmap] at hM
        have eapp : X ++ (.inr (.inr (t, l', a)) :: .inr (.inr (t, l2, a)) :: S) = (X ++ [.inr (.inr (t, l', a))]) ++ (.inr (.inr (t, l2, a)) :: S) := by simp
        have hR2 : fr + 1 ≤ R.frames ∧ 8 + ((ai_y mi).2.2.1 + 11) + lo ≤ R.locals := ⟨hfr, by omega⟩
        have hsz : ls.size = B.1.2 := I.1.2.2.2.2.2.2.1.trans I.2.2.2.1
        have hPre : PreS s H (va_Pc (Value.ref (ad a) :: X.reverse.map (ai_cv O ad)) (ai_Pw O names ad h H.size)) (Value.ref (ad a) :: X.reverse.map (ai_cv O ad)) := ⟨fun a U g mk q => ⟨q.1, ai_Pw_blind q.2⟩, fun U hU hW => ⟨rfl, I.pre hK hA hRO hU hW⟩⟩
        have hw : ai_wm mi = Cond.code (ai_y mi).1 (ai_y mi).2.1 (ai_y mi).2.2.1 none :: ai_Ts := by unfold ai_wm; rw [y5]
        have hst : (X ++ (.inr (.inr (t, l', a)) :: .inr (.inr (t, l2, a)) :: S)).map (ai_cv O ad) = (X.reverse.map (ai_cv O ad)).reverse ++ .ref (ad a) :: (.inr (.inr (t, l2, a)) :: S : List ai_V).map (ai_cv O ad) := by
          rw [List.map_append, List.map_reverse, List.reverse_reverse, List.map_cons, hcv]
        have hrun : va_Run p l e R s m args below meth c H locs cells slots (h1.2.2.2.2.2.1 - h.2.2.2.2.2.1) (h1.2.2.2.2.2.2 - h.2.2.2.2.2.2) (F0 m pc ls ((X ++ (.inr (.inr (t, l', a)) :: .inr (.inr (t, l2, a)) :: S)).map (ai_cv O ad))) ((.inr (.inr (t, l2, a)) :: S : List ai_V).map (ai_cv O ad)) (ai_Qc O (va_A (ai_ws O.2.1 ad h names) H.size) ((false, 0), names, ad, h) ([], h1) (Value.ref (ad a) :: X.reverse.map (ai_cv O ad)).toArray) (va_A (ai_ws O.2.1 ad h names) H.size) := by
          rcases y9 with y9 | ⟨host, y9⟩
          · exact va_runI (index := idx) (y := (ai_y mi).1) (bytes := (ai_y mi).2.1) (maxL := (ai_y mi).2.2.1) (n := n') ⟨hx, hb, hml, hown, hts⟩ hM (cwI n' hts (ai_wm_good ⟨y1, y2, y3, y4⟩) hw rfl rfl (hts _ y2) (hts _ y9) (hts _ y7) y6 y3 hR2) hPre rfl (by simp; omega) hsz hst (lv_room (ai_sum8 (by rw [← eapp]; exact hS8))) hd hroom
          · exact va_runIN (index := idx) (y := (ai_y mi).1) (bytes := (ai_y mi).2.1) (maxL := (ai_y mi).2.2.1) (n := n') ⟨hx, hb, hml, hown, hts⟩ hM ⟨va_cnB n' hts (ai_wm_good ⟨y1, y2, y3, y4⟩) hw rfl rfl (hRO.2.2.2.2.1 _ y9) (hts _ y2) y3 hR2, y6, hts _ y7⟩ hPre rfl (by simp; omega) hsz hst (lv_room (ai_sum8 (by rw [← eapp]; exact hS8))) hd hroom
        refine ai_callg hrun I.1.2.2.1 (fun q _ hq => I.free hA q hq) (fun q hq => I.free hA q hq) (fun names' ad' H1 locs1 q1 q2 q3 q4 q5 q6 => ?_)
        have hSok : ∀ v ∈ S, ai_ok names h v := fun v hv => I.okS v (List.mem_append_right _ (List.mem_cons_of_mem _ (List.mem_cons_of_mem _ hv)))
        obtain ⟨x1, x2, -⟩ := q1 a ha
        have K := hk _ hr H1 locs1 (cells + (h1.2.2.2.2.2.1 - h.2.2.2.2.2.1)) (slots + (h1.2.2.2.2.2.2 - h.2.2.2.2.2.2)) names' ad' ls (I.call (pc' := pc + 3) (S' := .inr (.inr (t - 20, 0, a)) :: S) q1 q2 (ai_va_D_w q3 (I.free hA)) q6 q4 (ai_okc (by
          unfold ai_ok
          dsimp only
          exact Or.inr (Or.inr (Or.inr (Or.inr (Or.inl ⟨by omega, by omega, x1, hka⟩))))) (fun v hv => (ai_ok_ext (O := O) q1 (hSok v hv)).1)) (by have := hle.2.1; dsimp only at this; omega) (by have := hle.2.2; dsimp only at this; omega))
        dsimp only at K x2
        rw [List.map_cons, ai_cv_map q1 hSok, ai_cv_r (Or.inr (by omega : 20 ≤ t - 20)), x2] at K
        show W p l e R s m args below meth c H1 locs1 _ _ Q (F0 m (pc + 3) ls (ai_cv O ad (.inr (.inr (t, l2, a))) :: S.map (ai_cv O ad)))
        rw [hcv]
        exact K
      · cases hr
    · cases hr
end SD
