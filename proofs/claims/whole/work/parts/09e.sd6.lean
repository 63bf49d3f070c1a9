/-! SOUNDNESS, 6: objects made; constructors; every instruction. -/
def ai_Clok (o idx : Nat) (r : Nat × Nat) : Prop := r.1 < 13 ∧ r.2 = jg_nf r.1 ∧ Cond.classLink (ai_nmO o) idx (jg_R r.1) ∈ ai_Ts ∧ Cond.instantiable (jg_R r.1) (jg_nf r.1) ∈ ai_Ts ∧ Cond.initialized (jg_R r.1) ∈ ai_Ts
def ai_Csok (o idx : Nat) : ai_V → Prop
  | .inl x => Cond.constant (ai_nmO o) idx x ∈ ai_Ts
  | .inr (.inl x) => Cond.constantLong (ai_nmO o) idx x ∈ ai_Ts
  | .inr (.inr (6, l, k)) => l = 0 ∧ ai_nmO o = RX7 ∧ k < ai_txts.length ∧ ∃ tx, (idx, tx, k) ∈ ai_tixs
  | .inr (.inr (7, _, _)) => Cond.fieldLink (ai_nmO o) idx RX9 "POWERS" "[I" ∈ ai_Ts
  | .inr (.inr (10, _, _)) => Cond.fieldLink (ai_nmO o) idx "java/lang/String" "COMPACT_STRINGS" "Z" ∈ ai_Ts
  | .inr (.inr (11, _, _)) => Cond.fieldLink (ai_nmO o) idx "jdk/internal/util/Preconditions" "SIOOBE_FORMATTER" "Ljava/util/function/BiFunction;" ∈ ai_Ts
  | _ => True
section SD
variable {p : Program} {l : Launch} {e : Env} {R : Room} {s : State} {m : MethodId} {args : Array Value} {below : List Frame} {meth : Method} {c : Code} {Q : State → Prop} {cc : ByteArray} {O : ai_Om} {A : Nat → Prop} {B : ai_Bg}
variable {H H1 : Heap} {locs locs1 : List Loc} {cells slots cells' slots' : Nat} {names names' : List Nat} {ad ad' : Nat → Nat} {ls : Array Slot} {pc pc' : Nat} {L : List (Option ai_V)} {S S' As X : List ai_V} {h h' : ai_H} {k : ai_K} {r r1 : ai_R} {b : Bool × Nat} {orc : ai_O} {o idx fr lo mi n t q : Nat}
/-- a heap with one cell more -/
def ai_isNew (h : ai_H) (nn : Nat) (kd : Nat × Nat) (sl : Nat) (h' : ai_H) : Prop := h'.2 = (ai_new h nn kd sl).2 ∧ ∀ x, x ≠ nn → h'.1 x = h.1 x
theorem ai_isNew_new {nn : Nat} {kd : Nat × Nat} {sl : Nat} : ai_isNew h nn kd sl (ai_new h nn kd sl) := ⟨rfl, fun _ hx => if_neg hx⟩
theorem ai_isNew_dup {a n : Nat} : ai_isNew h (ai_dn h) (1, n) n (ai_dupA h a n) := ⟨rfl, fun _ hx => if_neg hx⟩
section NW
variable {nn sl : Nat} {kd : Nat × Nat}
theorem ai_isNew.e2 (N : ai_isNew h nn kd sl h') {x : Nat} (hx : x ≠ nn) : h'.2.1 x = h.2.1 x := by rw [N.1]; exact if_neg hx
theorem ai_isNew.e3 (N : ai_isNew h nn kd sl h') {x : Nat} (hx : x ≠ nn) (j : Nat) : h'.2.2.1 x j = h.2.2.1 x j := by rw [N.1]; exact if_neg hx
theorem ai_isNew.e4 (N : ai_isNew h nn kd sl h') {x : Nat} (hx : x ≠ nn) : h'.2.2.2.1 x = h.2.2.2.1 x := by rw [N.1]; exact if_neg hx
theorem ai_isNew.e3n (N : ai_isNew h nn kd sl h') (j : Nat) : h'.2.2.1 nn j = none := by rw [N.1]; exact if_pos rfl
theorem ai_isNew.e4n (N : ai_isNew h nn kd sl h') : h'.2.2.2.1 nn = kd := by rw [N.1]; exact if_pos rfl
theorem ai_isNew.dn (N : ai_isNew h nn kd sl h') : ai_dn h' = ai_dn h + 128 := by
  unfold ai_dn
  rw [N.1]
  show 128 * (h.2.2.2.2.1 + 1) = 128 * h.2.2.2.2.1 + 128
  omega
theorem ai_isNew.c1 (N : ai_isNew h nn kd sl h') : h'.2.2.2.2.2.1 = h.2.2.2.2.2.1 + 1 := by rw [N.1]; rfl
theorem ai_isNew.c2 (N : ai_isNew h nn kd sl h') : h'.2.2.2.2.2.2 = h.2.2.2.2.2.2 + sl := by rw [N.1]; rfl
theorem ai_isNew.le (N : ai_isNew h nn kd sl h') : ai_le h h' := by
  unfold ai_le
  rw [N.1]
  exact ai_le_new h nn kd sl
theorem ai_en_new (N : ai_isNew h nn kd sl h') {cA : Nat → ClassId} {x : Nat} (hx : x ≠ nn) (hcl : ∀ j y, h.2.2.1 x j = some y → ad' y = ad y) : ai_en cA ad' h' x = ai_en cA ad h x := by
  have e1 := N.2 x hx
  have e2 := N.e2 hx
  have e3 := N.e3 hx
  have e4 := N.e4 hx
  have e5 : ∀ j, (h.2.2.1 x j).map ad' = (h.2.2.1 x j).map ad := fun j => by
    cases hq : h.2.2.1 x j with
    | none => rfl
    | some y => simp [hcl j y hq]
  have e6 : ∀ ci, ai_fs ad' h' x ci = ai_fs ad h x ci := fun ci => by
    unfold ai_fs
    refine List.map_congr_left fun i _ => ?_
    cases jg_ty ci i <;> unfold ai_fv <;> dsimp only <;> first | rw [e1] | rw [e2] | rw [e3, e5]
  unfold ai_en
  simp only [e1, e3, e4, e5, e6]
theorem ai_dn_new (hw : ai_wf h names) : ai_dn h ∉ names := fun hq => by
  have := hw.2.2.1 _ hq (by unfold ai_dn; omega)
  omega
theorem ai_nw_some {ct : Option (List (Nat × Nat))} {f : Nat → Option ai_R} (hw : ai_wf h names) (hr : ai_nw ct pc L h f = some r) : ∃ nn, nn ∉ names ∧ (nn % 128 = 0 → nn < ai_dn h + 128) ∧ f nn = some r := by
  unfold ai_nw at hr
  cases ct with
  | none => exact ⟨_, ai_dn_new hw, fun _ => by omega, hr⟩
  | some hs =>
    dsimp only at hr
    cases hlk : ai_lk hs pc with
    | none => rw [hlk] at hr; exact ⟨_, ai_dn_new hw, fun _ => by omega, hr⟩
    | some j =>
      rw [hlk] at hr
      dsimp only at hr
      rcases L with _ | ⟨_ | v | v | ⟨t, l, a⟩, L⟩
      · cases hr
      · cases hr
      · cases hr
      · cases hr
      · dsimp only at hr
        cases hj : Nat.blt j 127 with
        | false => rw [hj] at hr; cases hr
        | true =>
          rw [hj] at hr
          simp only [cond_true] at hr
          rw [Nat.blt_eq] at hj
          split at hr
          · rename_i hkd
            refine ⟨_, fun hq => ?_, fun hq => ?_, hr⟩
            · have := hw.2.1 _ hq
              rw [hkd] at this
              unfold ai_kok at this
              dsimp only at this
              omega
            · unfold ai_ch at hq
              omega
          · cases hr
theorem ai_wf_new (N : ai_isNew h nn kd sl h') (w : ai_wf h names) (hdn : nn ∉ names) (hnm : nn % 128 = 0 → nn < ai_dn h + 128) (hk : ai_kok kd.1) (hci : kd.1 < 20 ∨ 33 ≤ kd.1) : ai_wf h' (names ++ [nn]) := by
  obtain ⟨w1, w2, w3, w4, w5, w6, w7⟩ := w
  have ne : ∀ x, x ∈ names → x ≠ nn := fun x hx q => hdn (q ▸ hx)
  have e3 : ∀ x, x ∈ names → ∀ j, h'.2.2.1 x j = h.2.2.1 x j := fun x hx j => N.e3 (ne x hx) j
  have e4 : ∀ x, x ∈ names → h'.2.2.2.1 x = h.2.2.2.1 x := fun x hx => N.e4 (ne x hx)
  have e3n := N.e3n
  have e4n := N.e4n
  have hdn' := N.dn
  have mm : ∀ {P : Nat → Prop}, (∀ x ∈ names, P x) → P nn → ∀ x ∈ names ++ [nn], P x := fun h1 h2 x hx => by
    rcases List.mem_append.mp hx with q | q
    · exact h1 x q
    · rw [List.mem_singleton.mp q]; exact h2
  refine ⟨?_, ?_, ?_, ?_, ?_, ?_, ?_⟩
  · rw [List.nodup_append]
    refine ⟨w1, by simp, fun x hx y hy => ?_⟩
    rw [List.mem_singleton.mp hy]; exact ne x hx
  · exact mm (fun x hx => by rw [e4 x hx]; exact w2 x hx) (by rw [e4n]; exact hk)
  · exact mm (fun x hx hx0 => by have := w3 x hx hx0; omega) (fun q => by have := hnm q; omega)
  · exact mm (fun x hx j y hy => List.mem_append_left _ (w4 x hx j y (by rw [← e3 x hx]; exact hy))) (fun j y hy => by rw [e3n] at hy; cases hy)
  · refine mm (fun x hx ci hci j hj => ?_) (fun ci hci' j hj => ?_)
    · rw [e4 x hx] at hci
      have o1 := w5 x hx ci hci j hj
      have cl := w4 x hx j
      have e5 := e3 x hx j
      generalize ai_fk ci j = q at o1 ⊢
      obtain ⟨k1, k2, k3⟩ := q
      match k1 with
      | 0 => trivial
      | 1 => trivial
      | 2 => trivial
      | 3 => exact ⟨e5.trans o1.1, (e4 _ (cl _ o1.1)).trans o1.2⟩
      | 4 => exact ⟨e5.trans o1.1, (e4 _ (cl _ o1.1)).trans o1.2⟩
      | 5 => exact ⟨e5.trans o1.1, (congrArg Prod.fst (e4 _ (cl _ o1.1))).trans o1.2⟩
      | 6 => exact fun z hz => (congrArg Prod.fst (e4 _ (cl _ (e5.symm.trans hz)))).trans (o1 z (e5.symm.trans hz))
      | 7 => exact fun z hz => (congrArg Prod.fst (e4 _ (cl _ (e5.symm.trans hz)))).trans (o1 z (e5.symm.trans hz))
      | k1 + 8 => trivial
    · rw [e4n] at hci'
      rw [ai_fk_out (by omega)]
      trivial
  · refine mm (fun x hx hk4 j y hy => ?_) (fun hk4 j y hy => by rw [e3n] at hy; cases hy)
    rw [e4 x hx] at hk4
    rw [e3 x hx] at hy
    rw [e4 y (w4 x hx j y hy)]
    exact w6 x hx hk4 j y hy
  · refine mm (fun x hx hk4 j y hy => ?_) (fun hk4 j y hy => by rw [e3n] at hy; cases hy)
    rw [e4 x hx] at hk4
    rw [e3 x hx] at hy
    rw [e4 y (w4 x hx j y hy)]
    exact w7 x hx hk4 j y hy
theorem ai_ws_new (N : ai_isNew h nn kd sl h') {cA : Nat → ClassId} {qa : Nat} {e0 : va_E} (w : ai_wf h names) (hdn : nn ∉ names) (he : ai_en cA (fun x => if x = nn then qa else ad x) h' nn = e0) : ai_ws cA ad h names ++ [(qa, e0)] = ai_ws cA (fun x => if x = nn then qa else ad x) h' (names ++ [nn]) := by
  unfold ai_ws
  rw [List.map_append]
  congr 1
  · refine List.map_congr_left fun x hx => ?_
    have hne : x ≠ nn := fun q => hdn (q ▸ hx)
    rw [ai_en_new N (ad := ad) hne (fun j y hy => if_neg (fun q : y = nn => hdn (q ▸ w.2.2.2.1 x hx j y hy)))]
    dsimp only
    rw [if_neg hne]
  · simp [he]
theorem ai_ext_new (N : ai_isNew h nn kd sl h') {qa : Nat} (hdn : nn ∉ names) : ai_ext (b, names, ad, h) (names ++ [nn]) (fun x => if x = nn then qa else ad x) h' := fun x hx => by
  have hne : x ≠ nn := fun q => hdn (q ▸ hx)
  exact ⟨List.mem_append_left _ hx, if_neg hne, Or.inl (N.e4 hne)⟩
/-- behind the making of a cell -/
theorem ai_fin_new (N : ai_isNew h nn kd sl h') {qa tl : Nat} {e0 : va_E} (hk : ∀ st, k st = some r → ai_G p l e R s m args below meth c Q O A B st) (I : ai_I O s A B names ad (pc, L, S, h) H locs ls cells slots) (hdn : nn ∉ names) (hnm : nn % 128 = 0 → nn < ai_dn h + 128) (hkk : ai_kok kd.1) (hci : kd.1 < 20 ∨ 33 ≤ kd.1)
    (he : ai_en O.2.1 (fun x => if x = nn then qa else ad x) h' nn = e0) (hP : va_P O.1 vwCl (ai_ws O.2.1 ad h names ++ [(qa, e0)]) H1) (hD : va_D A (ai_ws O.2.1 ad h names ++ [(qa, e0)])) (hS : va_S A s.heap H1 locs) (hS' : ∀ v ∈ S', ai_ok names h v) (hl : kd.1 ≤ 5 → tl = kd.2) (hr : k (pc', L, .inr (.inr (kd.1, tl, nn)) :: S', h') = some r) :
    W p l e R s m args below meth c H1 locs (cells + 1) (slots + sl) Q (F0 m pc' ls (.ref qa :: S'.map (ai_cv O ad))) := by
  have hw := I.1.2.2.2.1
  rw [ai_ws_new N hw hdn he] at hP hD
  have hext : ai_ext (B.1, names, ad, h) (names ++ [nn]) (fun x => if x = nn then qa else ad x) h' := ai_ext_new N hdn
  have hc1 := N.c1
  have hc2 := N.c2
  have K := hk _ hr H1 locs (cells + 1) (slots + sl) _ _ ls (I.call (pc' := pc') (S' := .inr (.inr (kd.1, tl, nn)) :: S') hext hP hD hS (ai_wf_new N hw hdn hnm hkk hci) (ai_okc (by
      unfold ai_ok
      dsimp only
      rcases hkk with q | q | q
      · exact Or.inr (Or.inr (Or.inr (Or.inr (Or.inr (Or.inr (Or.inl ⟨q.1, q.2, by simp, by rw [N.e4n, hl q.2]⟩))))))
      · exact Or.inr (Or.inr (Or.inr (Or.inr (Or.inr (Or.inr (Or.inr (Or.inl ⟨q.1, q.2, by simp, by rw [N.e4n]⟩)))))))
      · exact Or.inr (Or.inr (Or.inr (Or.inr (Or.inr (Or.inr (Or.inr (Or.inr ⟨q.1, q.2, by simp, Or.inl (by rw [N.e4n])⟩)))))))) (fun v hv => (ai_ok_ext (O := O) hext (hS' v hv)).1)) (by rw [hc1]; omega) (by rw [hc2]; omega))
  dsimp only at K
  rw [List.map_cons, ai_cv_map hext hS', ai_cv_k hkk, if_pos rfl] at K
  exact K
end NW
theorem sd_newo {ct : Option (List (Nat × Nat))} {cl : Nat → Option (Nat × Nat)} (C : ai_Cx p s m args c cc R O A B o fr lo r) (hco : ∀ ci, ci < 13 → ai_cok ci) (hm : ∀ st, k st = some r → ai_le st.2.2.2 r.2) (hcl : ∀ r, cl idx = some r → ai_Clok o idx r)
    (hd : decode cc pc = .ok (.new idx, 3)) (hk : ∀ st, k st = some r → ai_G p l e R s m args below meth c Q O A B st) (hr : ai_newo ct cl idx (pc, L, S, h) k = some r) : ai_G p l e R s m args below meth c Q O A B (pc, L, S, h) := by
  intro H locs cells slots names ad ls I
  obtain ⟨hx, hb, hml, hown, hts, hK, hA, hRO, hfr, hlo, -, -⟩ := id C
  unfold ai_newo at hr
  dsimp only at hr
  cases hc : cl idx with
  | none => rw [hc] at hr; cases hr
  | some r0 =>
    rw [hc] at hr
    obtain ⟨ci, n⟩ := r0
    obtain ⟨f1, f2, f3, f4, f5⟩ := hcl _ hc
    dsimp only at f1 f2 f3 f4 f5 hr
    subst f2
    have hw := I.1.2.2.2.1
    obtain ⟨c1, c2⟩ := hco ci f1
    obtain ⟨nn, n1, n2, hr⟩ := ai_nw_some hw hr
    have N : ai_isNew h nn (40 + ci, 0) (jg_nf ci) (ai_new h nn (40 + ci, 0) (jg_nf ci)) := ai_isNew_new
    have hroom := C.room (r1 := ([], ai_new h nn (40 + ci, 0) (jg_nf ci))) I (ai_le_new _ _ _ _) (hm _ hr)
    have hc1 : (ai_new h nn (40 + ci, 0) (jg_nf ci)).2.2.2.2.2.1 = h.2.2.2.2.2.1 + 1 := rfl
    have hc2 : (ai_new h nn (40 + ci, 0) (jg_nf ci)).2.2.2.2.2.2 = h.2.2.2.2.2.2 + jg_nf ci := rfl
    dsimp only at hroom
    rw [hc1, hc2] at hroom
    have e3n : ∀ j, (ai_new h nn (40 + ci, 0) (jg_nf ci)).2.2.1 (nn) j = none := fun j => if_pos rfl
    have e1n : ∀ j, (ai_new h nn (40 + ci, 0) (jg_nf ci)).1 (nn) j = 0 := fun j => by
      show (if nn = nn then fun _ => 0 else h.1 (nn)) j = 0
      rw [if_pos rfl]
    have e2n : (ai_new h nn (40 + ci, 0) (jg_nf ci)).2.1 (nn) = 0 := if_pos rfl
    have hfs : ∀ adx, ai_fs adx (ai_new h nn (40 + ci, 0) (jg_nf ci)) (nn) ci = ai_fs ad (ai_new h nn (40 + ci, 0) (jg_nf ci)) (nn) ci := fun adx => by
      unfold ai_fs
      refine List.map_congr_left fun i _ => ?_
      cases jg_ty ci i <;> first | rfl | (unfold ai_fv; dsimp only; rw [e3n]; rfl)
    refine va_new (fs := ai_fs ad (ai_new h nn (40 + ci, 0) (jg_nf ci)) (nn) ci) hx hb hts c1 (jg_ty ci) (jg_tyok f1) hown (hts _ f3) (hts _ f4) (hts _ f5) hK I.1.1 I.1.2.1 I.1.2.2.1 hA (jg_cl f1) (fun j hj => ?_) (by omega) (by omega) hd (fun qa H1 hP hD hS => ?_)
    · unfold vp_V
      rw [List.getD_eq_getElem?_getD, ai_fs_get hj]
      obtain ⟨-, c4, -⟩ := c2 j hj
      generalize (ai_fk ci j).1 = kk at c4
      cases hq : jg_ty ci j <;> rw [hq] at c4 <;> first
        | (simp [ai_fv, e1n, e2n, e3n, defaultValue, va_rf]; done)
        | (exfalso; revert c4; match kk with
            | 0 => intro c4; cases c4
            | 1 => intro c4; cases c4
            | 2 => intro c4; cases c4
            | 3 => intro c4; cases c4
            | 4 => intro c4; cases c4
            | 5 => intro c4; cases c4
            | 6 => intro c4; cases c4
            | 7 => intro c4; cases c4
            | kk + 8 => intro c4; cases c4)
    · have he : ai_en O.2.1 (fun x => if x = nn then qa else ad x) (ai_new h nn (40 + ci, 0) (jg_nf ci)) nn = .inr (ci, ai_fs ad (ai_new h nn (40 + ci, 0) (jg_nf ci)) nn ci) := by
        rw [ai_en_o (k := 40 + ci) (by rw [N.e4n]) (by omega), ai_mod20 f1, hfs]
      exact ai_fin_new N (tl := 0) hk I n1 n2 (Or.inr (Or.inr ⟨by dsimp only; omega, by dsimp only; omega⟩)) (Or.inr (by dsimp only; omega)) he hP hD hS I.okS (fun q => by dsimp only at q; omega) hr
theorem ai_RA_inj {U : State} {cA cB : ClassId} {ty : FieldType} (h1 : va_RA U cA ty) (h2 : va_RA U cB ty) : cA = cB := by
  cases ty with
  | object C =>
    obtain ⟨_, _, _, _, _, e1⟩ := h1
    obtain ⟨_, _, _, _, _, e2⟩ := h2
    exact Option.some.inj (e1.symm.trans e2)
  | _ =>
    have e1 : U.vm.findClass _ = some cA := h1
    have e2 : U.vm.findClass _ = some cB := h2
    exact Option.some.inj (e1.symm.trans e2)
theorem ai_cA_eq {kk : Nat} {cA : ClassId} (hK : va_K O.1 vwCl (ai_tys O.2.1) s) (hK1 : va_K O.1 vwCl (ai_tys O.2.1 ++ [(cA, ai_kt kk)]) s) (h5 : 1 ≤ kk ∧ kk ≤ 5) : cA = O.2.1 kk :=
  ai_RA_inj (hK1.2 6 (cA, ai_kt kk) rfl).2 (hK.2 kk _ (ai_tys_at h5)).2
theorem ai_n30 {x : Int32} (hn : ¬ (x < 0 ∨ 30000 < x)) : ¬ x < 0 ∧ x.toNatClampNeg ≤ 30000 := by
  refine ⟨fun q => hn (Or.inl q), ?_⟩
  have h1 : ¬ 30000 < x := fun q => hn (Or.inr q)
  have h2 : x.toInt ≤ 30000 := Int32.le_iff_toInt_le.mp (Int32.not_lt.mp h1)
  show x.toInt.toNat ≤ 30000
  omega
theorem sd_newa {kk : Nat} {at0 : ArrayType} {ct : Option (List (Nat × Nat))} (C : ai_Cx p s m args c cc R O A B o fr lo r) (hm : ∀ st, k st = some r → ai_le st.2.2.2 r.2) (h3 : 1 ≤ kk ∧ kk ≤ 3) (hat : newarray.typeOf at0 = ai_kt kk) (hac : Cond.arrayClass (newarray.typeOf at0) ∈ ai_Ts) (hdv : defaultValue (ai_kt kk) = .int 0) (hcb : componentBytes (ai_kt kk) ≤ 4)
    (hd : decode cc pc = .ok (.newarray at0, 2)) (hk : ∀ st, k st = some r → ai_G p l e R s m args below meth c Q O A B st) (hr : ai_newa ct kk (pc, L, S, h) k = some r) : ai_G p l e R s m args below meth c Q O A B (pc, L, S, h) := by
  intro H locs cells slots names ad ls I
  obtain ⟨hx, hb, hml, hown, hts, hK, hA, hRO, hfr, hlo, -, -⟩ := id C
  rcases S with _ | ⟨x | v, S⟩
  · cases hr
  · change ai_mkA ct 2 kk x pc L S h k = some r at hr
    unfold ai_mkA at hr
    split at hr
    · cases hr
    · rename_i hn
      obtain ⟨hn1, hn2⟩ := ai_n30 hn
      obtain ⟨nn, n1, n2, hr⟩ := ai_nw_some I.1.2.2.2.1 hr
      have N : ai_isNew h nn (kk, x.toNatClampNeg) x.toNatClampNeg (ai_new h nn (kk, x.toNatClampNeg) x.toNatClampNeg) := ai_isNew_new
      have hroom := C.room (r1 := ([], ai_new h nn (kk, x.toNatClampNeg) x.toNatClampNeg)) I N.le (hm _ hr)
      have hc1 := N.c1
      have hc2 := N.c2
      dsimp only at hroom
      rw [hc1, hc2] at hroom
      refine va_newa (a0 := (x.toNatClampNeg, .inl (fun _ => 0))) hx hb (hts _ hac) hat hK I.1.1 I.1.2.1 I.1.2.2.1 hA (fun cA => by rw [hdv]; rfl) hn1 rfl (by have := Nat.mul_le_mul hn2 hcb; omega) (by omega) (by omega) hd (fun q cA H1 hK1 hP hD hS => ?_)
      have hcA := ai_cA_eq hK hK1 ⟨h3.1, by omega⟩
      subst hcA
      refine ai_fin_new N hk I n1 n2 (Or.inl ⟨h3.1, by dsimp only; omega⟩) (Or.inl (by dsimp only; omega)) ?_ hP hD hS (ai_okt I.okS) (fun _ => rfl) hr
      rw [ai_en_a N.e4n (by omega)]
      rw [show (ai_new h nn (kk, x.toNatClampNeg) x.toNatClampNeg).1 nn = fun _ => 0 from if_pos rfl]
  · cases hr
theorem sd_newq_x {kk ci : Nat} {x : Int32} {ct : Option (List (Nat × Nat))} (C : ai_Cx p s m args c cc R O A B o fr lo r) (hm : ∀ st, k st = some r → ai_le st.2.2.2 r.2) (h3 : 4 ≤ kk ∧ kk ≤ 5) (hat : ai_kt kk = .object (jg_R ci)) (hac : va_AO (jg_R ci) s) (hcl : Cond.classLink (ai_nmO o) idx (jg_R ci) ∈ ai_Ts)
    (hd : decode cc pc = .ok (.anewarray idx, 3)) (hk : ∀ st, k st = some r → ai_G p l e R s m args below meth c Q O A B st) (hr : ai_mkA ct 3 kk x pc L S h k = some r) : ai_G p l e R s m args below meth c Q O A B (pc, L, .inl x :: S, h) := by
  intro H locs cells slots names ad ls I
  obtain ⟨hx, hb, hml, hown, hts, hK, hA, hRO, hfr, hlo, -, -⟩ := id C
  unfold ai_mkA at hr
  split at hr
  · cases hr
  · rename_i hn
    obtain ⟨hn1, hn2⟩ := ai_n30 hn
    obtain ⟨nn, n1, n2, hr⟩ := ai_nw_some I.1.2.2.2.1 hr
    have N : ai_isNew h nn (kk, x.toNatClampNeg) x.toNatClampNeg (ai_new h nn (kk, x.toNatClampNeg) x.toNatClampNeg) := ai_isNew_new
    have hroom := C.room (r1 := ([], ai_new h nn (kk, x.toNatClampNeg) x.toNatClampNeg)) I N.le (hm _ hr)
    have hc1 := N.c1
    have hc2 := N.c2
    dsimp only at hroom
    rw [hc1, hc2] at hroom
    refine va_newq hx hb hown (hts _ hcl) hac hK I.1.1 I.1.2.1 I.1.2.2.1 hA hn1 rfl (by omega) (by omega) (by omega) hd (fun q cA H1 hK1 hP hD hS => ?_)
    rw [← hat] at hK1
    have hcA := ai_cA_eq hK hK1 ⟨by omega, h3.2⟩
    subst hcA
    refine ai_fin_new N hk I n1 n2 (Or.inl ⟨by dsimp only; omega, h3.2⟩) (Or.inl (by dsimp only; omega)) ?_ hP hD hS (ai_okt I.okS) (fun _ => rfl) hr
    rw [ai_en_r N.e4n (by omega) (by omega)]
    simp only [N.e3n]
    rfl
/-- an object is whole -/
theorem ai_getD_all {α : Type} {P : α → Prop} {l : List α} {d : α} (hd : P d) (hl : ∀ x ∈ l, P x) (i : Nat) : P (l.getD i d) := by
  rw [List.getD_eq_getElem?_getD]
  cases hq : l[i]? with
  | none => exact hd
  | some x => exact hl x (List.mem_of_getElem? hq)
set_option maxRecDepth 10000 in
theorem ai_fkl_lt : ∀ l ∈ ai_fkl, ∀ q ∈ l, q.2.1 < 13 := by decide
theorem ai_fk_lt (ci j : Nat) : (ai_fk ci j).2.1 < 13 := by
  unfold ai_fk
  refine ai_getD_all (P := fun q : Nat × Nat × Nat => q.2.1 < 13) (by decide) (fun x hx => ?_) j
  exact ai_getD_all (P := fun l : List (Nat × Nat × Nat) => ∀ q ∈ l, q.2.1 < 13) (fun q hq => by cases hq) ai_fkl_lt ci x hx
theorem ai_okb_okf {a j : Nat} {q : Nat × Nat × Nat} (hq : ai_okb h a j q = true) : ai_okf h a j q := by
  obtain ⟨k1, k2, k3⟩ := q
  match k1, hq with
  | 0, _ => trivial
  | 1, _ => trivial
  | 2, _ => trivial
  | 3, hq =>
    obtain ⟨e1, e2⟩ := Bool.and_eq_true_iff.mp hq
    exact ⟨of_decide_eq_true e1, of_decide_eq_true e2⟩
  | 4, hq =>
    obtain ⟨e1, e2⟩ := Bool.and_eq_true_iff.mp hq
    exact ⟨of_decide_eq_true e1, of_decide_eq_true e2⟩
  | 5, hq =>
    obtain ⟨e1, e2⟩ := Bool.and_eq_true_iff.mp hq
    exact ⟨of_decide_eq_true e1, of_decide_eq_true e2⟩
  | 6, hq =>
    intro y hy
    change (match h.2.2.1 a j with
      | some y => decide ((h.2.2.2.1 y).1 = 20 + k2)
      | none => true) = true at hq
    rw [hy] at hq
    exact of_decide_eq_true hq
  | 7, hq =>
    intro y hy
    change (match h.2.2.1 a j with
      | some y => decide ((h.2.2.2.1 y).1 = k2)
      | none => true) = true at hq
    rw [hy] at hq
    exact of_decide_eq_true hq
  | k1 + 8, _ => trivial
theorem ai_cmpF_at {a : Nat} : ∀ (l : List (Nat × Nat × Nat)) (j0 i : Nat) (q : Nat × Nat × Nat), ai_cmpF h a j0 l = true → l[i]? = some q → ai_okb h a (j0 + i) q = true := by
  intro l
  induction l with
  | nil => intro j0 i q _ hi; simp at hi
  | cons x l ih =>
    intro j0 i q hc hi
    obtain ⟨e1, e2⟩ := Bool.and_eq_true_iff.mp hc
    cases i with
    | zero => simp at hi; subst hi; exact e1
    | succ i =>
      have := ih (j0 + 1) i q e2 (by simpa using hi)
      rwa [show j0 + 1 + i = j0 + (i + 1) by omega] at this
theorem ai_okf_all {a ci : Nat} (hc : ai_cmp h a ci = true) (j : Nat) : ai_okf h a j (ai_fk ci j) := by
  unfold ai_fk
  rw [List.getD_eq_getElem?_getD]
  cases hq : (ai_fkl.getD ci [])[j]? with
  | none => trivial
  | some q =>
    have := ai_cmpF_at _ 0 j q hc hq
    rw [Nat.zero_add] at this
    exact ai_okb_okf this
theorem ai_okf_stK {a n j ci : Nat} {v : Nat × Nat} {q : Nat × Nat × Nat} (hq : q.2.1 < 13) (ha : (h.2.2.2.1 a).1 = 40 + ci) (o : ai_okf h n j q) : ai_okf (ai_stK h a v) n j q := by
  have e : ∀ y, y ≠ a → (ai_stK h a v).2.2.2.1 y = h.2.2.2.1 y := fun y hy => if_neg hy
  obtain ⟨k1, k2, k3⟩ := q
  dsimp only at hq
  match k1, o with
  | 0, _ => trivial
  | 1, _ => trivial
  | 2, _ => trivial
  | 3, o =>
    refine ⟨o.1, (e _ (fun z => ?_)).trans o.2⟩
    have := congrArg Prod.fst o.2
    rw [z, ha] at this
    dsimp only at this
    omega
  | 4, o =>
    refine ⟨o.1, (e _ (fun z => ?_)).trans o.2⟩
    have := congrArg Prod.fst o.2
    rw [z, ha] at this
    dsimp only at this
    omega
  | 5, o =>
    refine ⟨o.1, (congrArg Prod.fst (e _ (fun z => ?_))).trans o.2⟩
    have := o.2
    rw [z, ha] at this
    omega
  | 6, o =>
    intro y hy
    have := o y hy
    refine (congrArg Prod.fst (e y (fun z => ?_))).trans this
    rw [z, ha] at this
    omega
  | 7, o =>
    intro y hy
    have := o y hy
    refine (congrArg Prod.fst (e y (fun z => ?_))).trans this
    rw [z, ha] at this
    omega
  | k1 + 8, _ => trivial
theorem ai_wf_stK {a ci : Nat} (w : ai_wf h names) (hci : ci < 13) (ha : (h.2.2.2.1 a).1 = 40 + ci) (hc : ai_cmp h a ci = true) : ai_wf (ai_stK h a (20 + ci, 0)) names := by
  have e : ∀ y, y ≠ a → (ai_stK h a (20 + ci, 0)).2.2.2.1 y = h.2.2.2.1 y := fun y hy => if_neg hy
  have ea : (ai_stK h a (20 + ci, 0)).2.2.2.1 a = (20 + ci, 0) := if_pos rfl
  obtain ⟨w1, w2, w3, w4, w5, w6, w7⟩ := w
  refine ⟨w1, fun n hn => ?_, w3, w4, fun n hn ci' hci' j hj => ?_, fun n hn hk j y hy => ?_, fun n hn hk j y hy => ?_⟩
  · by_cases hna : n = a
    · rw [hna, ea]; exact Or.inr (Or.inl ⟨by dsimp only; omega, by dsimp only; omega⟩)
    · rw [e n hna]; exact w2 n hn
  · refine ai_okf_stK (ai_fk_lt ci' j) ha ?_
    by_cases hna : n = a
    · subst hna
      rw [ea] at hci'
      have : ci' = ci := by dsimp only at hci'; omega
      subst this
      exact ai_okf_all hc j
    · rw [e n hna] at hci'
      exact w5 n hn ci' hci' j hj
  · by_cases hna : n = a
    · subst hna; rw [ea] at hk; dsimp only at hk; omega
    · rw [e n hna] at hk
      have := w6 n hn hk j y hy
      rw [e y (fun z => by rw [z, ha] at this; omega)]
      exact this
  · by_cases hna : n = a
    · subst hna; rw [ea] at hk; dsimp only at hk; omega
    · rw [e n hna] at hk
      have := w7 n hn hk j y hy
      rw [e y (fun z => by rw [z, ha] at this; omega)]
      exact this
theorem ai_ws_stK {cA : Nat → ClassId} {a ci : Nat} (hci : ci < 13) (ha : (h.2.2.2.1 a).1 = 40 + ci) : ai_ws cA ad (ai_stK h a (20 + ci, 0)) names = ai_ws cA ad h names := by
  unfold ai_ws
  refine List.map_congr_left fun n _ => ?_
  congr 1
  by_cases hna : n = a
  · subst hna
    rw [ai_en_o (h := h) ha (by omega), ai_mod20 hci, ai_en_o (h := ai_stK h n (20 + ci, 0)) (k := 20 + ci) (by rw [show (ai_stK h n (20 + ci, 0)).2.2.2.1 n = (20 + ci, 0) from if_pos rfl]) (by omega), show (20 + ci) % 20 = ci by omega]
    rfl
  · have e : (ai_stK h a (20 + ci, 0)).2.2.2.1 n = h.2.2.2.1 n := if_neg hna
    unfold ai_en
    rw [e]
    rfl
theorem ai_ext_stK {a ci : Nat} (q1 : ai_ext (b, names, ad, h) names' ad' h') (ha : (h'.2.2.2.1 a).1 = 40 + ci) (hci : ci < 13) : ai_ext (b, names, ad, h) names' ad' (ai_stK h' a (20 + ci, 0)) := fun n hn => by
  obtain ⟨x1, x2, x3⟩ := q1 n hn
  refine ⟨x1, x2, ?_⟩
  by_cases hna : n = a
  · subst hna
    have ea : (ai_stK h' n (20 + ci, 0)).2.2.2.1 n = (20 + ci, 0) := if_pos rfl
    dsimp only at x3 ⊢
    rw [ea]
    right
    rcases x3 with x3 | x3
    · rw [← x3, ha]; dsimp only; omega
    · rw [ha] at x3; dsimp only; omega
  · have e : (ai_stK h' a (20 + ci, 0)).2.2.2.1 n = h'.2.2.2.1 n := if_neg hna
    rw [e]
    exact x3
theorem sd_init {l' l2 a : Nat} (C : ai_Cx p s m args c cc R O A B o fr lo r) (hor : ∀ mi As h r, orc mi As h = some r → ai_Cn l O fr lo mi As h r) (hom : ai_om orc) (hm : ∀ st, k st = some r → ai_le st.2.2.2 r.2) (hmt : ai_Mtok o idx (10, mi, n, t, q))
    (hd : decode cc pc = .ok (.invokespecial idx, 3)) (hk : ∀ st, k st = some r → ai_G p l e R s m args below meth c Q O A B st) (hS8 : ai_cats (X ++ (.inr (.inr (t, l', a)) :: .inr (.inr (t, l2, a)) :: S)) ≤ 8) (hX : X.length + 1 = n) (hr : ai_bv (orc mi (.inr (.inr (t, l', a)) :: X.reverse) h) (fun h => if (h.2.2.2.1 a).1 = t ∧ ai_cmp h a (t - 40) = true then k (pc + 3, L, .inr (.inr (t - 20, 0, a)) :: S, ai_stK h a (t - 20, 0)) else none) = some r) : ai_G p l e R s m args below meth c Q O A B (pc, L, X ++ (.inr (.inr (t, l', a)) :: .inr (.inr (t, l2, a)) :: S), h) := by
  intro H locs cells slots names ad ls I
  cases o1 : orc mi (.inr (.inr (t, l', a)) :: X.reverse) h with
  | none => rw [o1] at hr; cases hr
  | some r1 =>
    rw [o1] at hr
    obtain ⟨l1, h1⟩ := r1
    rcases l1 with _ | ⟨v, l1⟩
    · change (if (h1.2.2.2.1 a).1 = t ∧ ai_cmp h1 a (t - 40) = true then k (pc + 3, L, .inr (.inr (t - 20, 0, a)) :: S, ai_stK h1 a (t - 20, 0)) else none) = some r at hr
      split at hr
      · rename_i hkc
        obtain ⟨hka, hcm⟩ := hkc
        have hle := hom _ _ _ _ o1
        have hroom := C.room (r1 := ([], h1)) I hle (hm _ hr)
        obtain ⟨hx, hb, hml, hown, hts, hK, hA, hRO, hfr, hlo, -, -⟩ := id C
        obtain ⟨n', y0, ⟨y1, y2, y3, y4⟩, y5, y6, y7, y8, y8', y9⟩ := hmt
        obtain ⟨ci, rfl⟩ : ∃ ci, t = 40 + ci := ⟨t - 40, by omega⟩
        have hci : ci < 13 := by omega
        rw [show 40 + ci - 40 = ci by omega] at hcm
        rw [show 40 + ci - 20 = 20 + ci by omega] at hr
        have hokr : ai_ok names h (.inr (.inr (40 + ci, l', a))) := I.okS _ (List.mem_append_right _ List.mem_cons_self)
        have ha : a ∈ names := by
          unfold ai_ok at hokr
          dsimp only at hokr
          rcases hokr with z | z | z | z | z | z | z | z | z
          · omega
          · omega
          · omega
          · omega
          · omega
          · omega
          · omega
          · omega
          · exact z.2.2.1
        have hoks : ∀ v ∈ (.inr (.inr (40 + ci, l', a)) :: X.reverse : List ai_V), ai_ok names h v := fun v hv => by
          rcases List.mem_cons.mp hv with rfl | hv
          · exact hokr
          · exact I.okS v (List.mem_append_left _ (List.mem_reverse.mp hv))
        have hM := hor _ _ _ _ o1 names ad H.size I.1.2.2.2.1 hoks
        have hcv : ∀ l0, ai_cv O ad (.inr (.inr (40 + ci, l0, a))) = .ref (ad a) := fun l0 => ai_cv_r (Or.inr (by omega))
        have hmap : (.inr (.inr (40 + ci, l', a)) :: X.reverse : List ai_V).map (ai_cv O ad) = Value.ref (ad a) :: X.reverse.map (ai_cv O ad) := by rw [List.map_cons, hcv]
        rw [hmap] at hM
        have eapp : X ++ (.inr (.inr (40 + ci, l', a)) :: .inr (.inr (40 + ci, l2, a)) :: S) = (X ++ [.inr (.inr (40 + ci, l', a))]) ++ (.inr (.inr (40 + ci, l2, a)) :: S) := by simp
        have hR2 : fr + 1 ≤ R.frames ∧ 8 + ((ai_y mi).2.2.1 + 11) + lo ≤ R.locals := ⟨hfr, by omega⟩
        have hsz : ls.size = B.1.2 := I.1.2.2.2.2.2.2.1.trans I.2.2.2.1
        have hPre : PreS s H (va_Pc (Value.ref (ad a) :: X.reverse.map (ai_cv O ad)) (ai_Pw O names ad h H.size)) (Value.ref (ad a) :: X.reverse.map (ai_cv O ad)) := ⟨fun a U g mk q => ⟨q.1, ai_Pw_blind q.2⟩, fun U hU hW => ⟨rfl, I.pre hK hA hRO hU hW⟩⟩
        have hw : ai_wm mi = Cond.code (ai_y mi).1 (ai_y mi).2.1 (ai_y mi).2.2.1 none :: ai_Ts := by unfold ai_wm; rw [y5]
        have hst : (X ++ (.inr (.inr (40 + ci, l', a)) :: .inr (.inr (40 + ci, l2, a)) :: S)).map (ai_cv O ad) = (X.reverse.map (ai_cv O ad)).reverse ++ .ref (ad a) :: (.inr (.inr (40 + ci, l2, a)) :: S : List ai_V).map (ai_cv O ad) := by
          rw [List.map_append, List.map_reverse, List.reverse_reverse, List.map_cons, hcv]
        have hrun : va_Run p l e R s m args below meth c H locs cells slots (h1.2.2.2.2.2.1 - h.2.2.2.2.2.1) (h1.2.2.2.2.2.2 - h.2.2.2.2.2.2) (F0 m pc ls ((X ++ (.inr (.inr (40 + ci, l', a)) :: .inr (.inr (40 + ci, l2, a)) :: S)).map (ai_cv O ad))) ((.inr (.inr (40 + ci, l2, a)) :: S : List ai_V).map (ai_cv O ad)) (ai_Qc O (va_A (ai_ws O.2.1 ad h names) H.size) ((false, 0), names, ad, h) ([], h1) (Value.ref (ad a) :: X.reverse.map (ai_cv O ad)).toArray) (va_A (ai_ws O.2.1 ad h names) H.size) := by
          rcases y9 with y9 | ⟨host, y9⟩
          · exact va_runI (index := idx) (y := (ai_y mi).1) (bytes := (ai_y mi).2.1) (maxL := (ai_y mi).2.2.1) (n := n') ⟨hx, hb, hml, hown, hts⟩ hM (cwI n' hts (ai_wm_good ⟨y1, y2, y3, y4⟩) hw rfl rfl (hts _ y2) (hts _ y9) (hts _ y7) y6 y3 hR2) hPre rfl (by simp; omega) hsz hst (lv_room (ai_sum8 (by rw [← eapp]; exact hS8))) hd hroom
          · exact va_runIN (index := idx) (y := (ai_y mi).1) (bytes := (ai_y mi).2.1) (maxL := (ai_y mi).2.2.1) (n := n') ⟨hx, hb, hml, hown, hts⟩ hM ⟨va_cnB n' hts (ai_wm_good ⟨y1, y2, y3, y4⟩) hw rfl rfl (hRO.2.2.2.2.1 _ y9) (hts _ y2) y3 hR2, y6, hts _ y7⟩ hPre rfl (by simp; omega) hsz hst (lv_room (ai_sum8 (by rw [← eapp]; exact hS8))) hd hroom
        refine ai_callg hrun I.1.2.2.1 (fun q _ hq => I.free hA q hq) (fun q hq => I.free hA q hq) (fun names' ad' H1 locs1 q1 q2 q3 q4 q5 q6 => ?_)
        have hSok : ∀ v ∈ S, ai_ok names h v := fun v hv => I.okS v (List.mem_append_right _ (List.mem_cons_of_mem _ (List.mem_cons_of_mem _ hv)))
        obtain ⟨x1, x2, -⟩ := q1 a ha
        have q1' := ai_ext_stK q1 hka hci
        rw [← ai_ws_stK hci hka] at q2 q3
        have s1 : (ai_stK h1 a (20 + ci, 0)).2.2.2.2.2.1 = h1.2.2.2.2.2.1 := rfl
        have s2 : (ai_stK h1 a (20 + ci, 0)).2.2.2.2.2.2 = h1.2.2.2.2.2.2 := rfl
        have K := hk _ hr H1 locs1 (cells + (h1.2.2.2.2.2.1 - h.2.2.2.2.2.1)) (slots + (h1.2.2.2.2.2.2 - h.2.2.2.2.2.2)) names' ad' ls (I.call (pc' := pc + 3) (S' := .inr (.inr (20 + ci, 0, a)) :: S) q1' q2 (ai_va_D_w q3 (I.free hA)) q6 (ai_wf_stK q4 hci hka hcm) (ai_okc (by
          unfold ai_ok
          dsimp only
          exact Or.inr (Or.inr (Or.inr (Or.inr (Or.inr (Or.inr (Or.inr (Or.inl ⟨by omega, by omega, x1, by rw [show (ai_stK h1 a (20 + ci, 0)).2.2.2.1 a = (20 + ci, 0) from if_pos rfl]⟩)))))))) (fun v hv => (ai_ok_ext (O := O) q1' (hSok v hv)).1)) (by rw [s1]; have := hle.2.1; dsimp only at this; omega) (by rw [s2]; have := hle.2.2; dsimp only at this; omega))
        dsimp only at K x2
        rw [List.map_cons, ai_cv_map q1' hSok, ai_cv_r (Or.inr (by omega : 20 ≤ 20 + ci)), x2] at K
        show W p l e R s m args below meth c H1 locs1 _ _ Q (F0 m (pc + 3) ls (ai_cv O ad (.inr (.inr (40 + ci, l2, a))) :: S.map (ai_cv O ad)))
        rw [hcv]
        exact K
      · cases hr
    · cases hr
end SD
