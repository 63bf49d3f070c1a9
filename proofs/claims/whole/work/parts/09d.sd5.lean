/-! SOUNDNESS, 5: calls by kind; Math; rows copied; objects made. -/
section SD
variable {p : Program} {l : Launch} {e : Env} {R : Room} {s : State} {m : MethodId} {args : Array Value} {below : List Frame} {meth : Method} {c : Code} {Q : State → Prop} {cc : ByteArray} {O : ai_Om} {A : Nat → Prop} {B : ai_Bg}
variable {H H1 : Heap} {locs locs1 : List Loc} {cells slots cells' slots' : Nat} {names names' : List Nat} {ad ad' : Nat → Nat} {ls : Array Slot} {pc pc' : Nat} {L : List (Option ai_V)} {S S' As X : List ai_V} {h h' : ai_H} {k : ai_K} {r r1 : ai_R} {b : Bool × Nat} {orc : ai_O} {o idx fr lo mi n t q : Nat}
/-- what a call needs of its caller -/
def ai_Cx (p : Program) (s : State) (m : MethodId) (args : Array Value) (c : Code) (cc : ByteArray) (R : Room) (O : ai_Om) (A : Nat → Prop) (B : ai_Bg) (o fr lo : Nat) (r : ai_R) : Prop :=
  p.tables.exec = Jvm.exec ∧ c.code = cc ∧ c.maxLocals = B.1.2 ∧ s.vm.findClass (ai_nmO o) = some m.cls ∧ (∀ w ∈ ai_Ts, w.before args s = true) ∧ va_K O.1 vwCl (ai_tys O.2.1) s ∧ (∀ q, s.heap.size ≤ q → A q) ∧ ai_RO O A s s.heap ∧
  fr + 1 ≤ R.frames ∧ (40 + lo ≤ R.locals ∧ 100 ≤ lo) ∧ r.2.2.2.2.2.2.1 ≤ R.cells + B.2.2.2.2.2.2.2.2.1 ∧ r.2.2.2.2.2.2.2 ≤ R.slots + B.2.2.2.2.2.2.2.2.2
theorem ai_Cx.room (C : ai_Cx p s m args c cc R O A B o fr lo r) (I : ai_I O s A B names ad (pc, L, S, h) H locs ls cells slots) (h1 : ai_le h r1.2) (h2 : ai_le r1.2 r.2) : cells + (r1.2.2.2.2.2.2.1 - h.2.2.2.2.2.1) ≤ R.cells ∧ slots + (r1.2.2.2.2.2.2.2 - h.2.2.2.2.2.2) ≤ R.slots := by
  obtain ⟨-, -, -, -, -, -, -, -, -, -, c1, c2⟩ := C
  obtain ⟨-, -, -, -, i1, i2⟩ := I
  dsimp only at i1 i2
  obtain ⟨-, a1, a2⟩ := h1
  obtain ⟨-, b1, b2⟩ := h2
  constructor <;> omega
theorem ai_sum8 (hS : ai_cats (X ++ S) ≤ 8) : ((S.map (ai_cv O ad)).map fun v => v.category).sum ≤ 8 := by
  rw [List.map_map]
  exact Nat.le_trans (ai_cats_le S) (Nat.le_trans (ai_cats_app X S) hS)
theorem sd_stat (C : ai_Cx p s m args c cc R O A B o fr lo r) (hor : ∀ mi As h r, orc mi As h = some r → ai_Cn l O fr lo mi As h r) (hom : ai_om orc) (hm : ∀ st, k st = some r → ai_le st.2.2.2 r.2) (hmt : ai_Mtok o idx (1, mi, n, t, q))
    (hd : decode cc pc = .ok (.invokestatic idx, 3)) (hk : ∀ st, k st = some r → ai_G p l e R s m args below meth c Q O A B st) (hS8 : ai_cats (X ++ S) ≤ 8) (hX : X.length = n) (hr : ai_inv orc (1, mi, n, t, q) pc L X.reverse S h k = some r) : ai_G p l e R s m args below meth c Q O A B (pc, L, X ++ S, h) := by
  intro H locs cells slots names ad ls I
  obtain ⟨r1, o1, o2, o3⟩ := ai_inv_some hr
  have hle := hom _ _ _ _ o1
  have hroom := C.room I hle (hm _ o2)
  obtain ⟨hx, hb, hml, hown, hts, hK, hA, hRO, hfr, hlo, -, -⟩ := id C
  have hoks : ∀ v ∈ X.reverse, ai_ok names h v := fun v hv => I.okS v (List.mem_append_left _ (List.mem_reverse.mp hv))
  have hM := hor _ _ _ _ o1 names ad H.size I.1.2.2.2.1 hoks
  obtain ⟨⟨y1, y2, y3, y4⟩, y5, y6⟩ := hmt
  refine sd_after (a := (X.reverse.map (ai_cv O ad)).toArray) I hA hle rfl rfl o3 hk o2 (free := va_A (ai_ws O.2.1 ad h names) H.size) (fun q hq => hq) ?_
  have hPre : PreS s H (va_Pc (X.reverse.map (ai_cv O ad)) (ai_Pw O names ad h H.size)) (X.reverse.map (ai_cv O ad)) := ⟨fun a U g mk q => ⟨q.1, ai_Pw_blind q.2⟩, fun U hU hW => ⟨rfl, I.pre hK hA hRO hU hW⟩⟩
  have hst : (F0 m pc ls ((X ++ S).map (ai_cv O ad))).stack = (X.reverse.map (ai_cv O ad)).reverse ++ S.map (ai_cv O ad) := by
    show (X ++ S).map (ai_cv O ad) = _
    rw [List.map_append, List.map_reverse, List.reverse_reverse]
  have hsz : ls.size = B.1.2 := I.1.2.2.2.2.2.2.1.trans I.2.2.2.1
  have hR2 : fr + 1 ≤ R.frames ∧ 8 + ((ai_y mi).2.2.1 + 11) + lo ≤ R.locals := ⟨hfr, by omega⟩
  rcases y6 with y6 | ⟨host, y6⟩
  · exact va_runS (index := idx) (y := (ai_y mi).1) (bytes := (ai_y mi).2.1) (maxL := (ai_y mi).2.2.1) (ret := (ai_y mi).2.2.2) (n := n) ⟨hx, hb, hml, hown, hts⟩ hM
      (va_cwS n hts (ai_Ts_good (fun w hw => by
        rcases List.mem_append.mp (show w ∈ ([.methodLink (ai_nmO o) idx (ai_y mi).1, .static (ai_y mi).1, .initialized (ai_y mi).1.cls] : List Cond) ++ ai_wm mi from hw) with hw | hw
        · simp only [List.mem_cons, List.not_mem_nil, or_false] at hw
          rcases hw with rfl | rfl | rfl
          · exact y6
          · exact y5
          · exact y2
        · rcases List.mem_cons.mp hw with rfl | hw
          · exact y1
          · exact hw)) rfl rfl rfl y3 hR2) hPre rfl (by simp [hX]) hsz hst (lv_room (ai_sum8 hS8)) hd hroom
  · exact va_runSN (index := idx) (y := (ai_y mi).1) (bytes := (ai_y mi).2.1) (maxL := (ai_y mi).2.2.1) (ret := (ai_y mi).2.2.2) (n := n) ⟨hx, hb, hml, hown, hts⟩ hM
      ⟨va_cnB n hts (ai_wm_good ⟨y1, y2, y3, y4⟩) rfl rfl rfl (hRO.2.2.2.2.1 _ y6) (hts _ y2) y3 hR2, hts _ y5, trivial⟩ hPre rfl (by simp [hX]) hsz hst (lv_room (ai_sum8 hS8)) hd hroom
theorem sd_virt {l' a : Nat} (C : ai_Cx p s m args c cc R O A B o fr lo r) (hor : ∀ mi As h r, orc mi As h = some r → ai_Cn l O fr lo mi As h r) (hom : ai_om orc) (hm : ∀ st, k st = some r → ai_le st.2.2.2 r.2) (hmt : ai_Mtok o idx (0, mi, n, t, q))
    (hd : decode cc pc = .ok (.invokevirtual idx, 3)) (hk : ∀ st, k st = some r → ai_G p l e R s m args below meth c Q O A B st) (hS8 : ai_cats (X ++ (.inr (.inr (t, l', a)) :: S)) ≤ 8) (hX : X.length + 1 = n) (hr : ai_inv orc (0, mi, n, t, q) pc L (.inr (.inr (t, l', a)) :: X.reverse) S h k = some r) : ai_G p l e R s m args below meth c Q O A B (pc, L, X ++ (.inr (.inr (t, l', a)) :: S), h) := by
  intro H locs cells slots names ad ls I
  obtain ⟨r1, o1, o2, o3⟩ := ai_inv_some hr
  have hle := hom _ _ _ _ o1
  have hroom := C.room I hle (hm _ o2)
  obtain ⟨hx, hb, hml, hown, hts, hK, hA, hRO, hfr, hlo, -, -⟩ := id C
  have hokr : ai_ok names h (.inr (.inr (t, l', a))) := I.okS _ (List.mem_append_right _ List.mem_cons_self)
  have hoks : ∀ v ∈ (.inr (.inr (t, l', a)) :: X.reverse : List ai_V), ai_ok names h v := fun v hv => by
    rcases List.mem_cons.mp hv with rfl | hv
    · exact hokr
    · exact I.okS v (List.mem_append_left _ (List.mem_reverse.mp hv))
  have hM := hor _ _ _ _ o1 names ad H.size I.1.2.2.2.1 hoks
  obtain ⟨n', y0, ⟨y1, y2, y3, y4⟩, y6, y7, y8, y9⟩ := hmt
  have eapp : X ++ (.inr (.inr (t, l', a)) :: S) = (X ++ [.inr (.inr (t, l', a))]) ++ S := by simp
  have hR2 : fr + 1 ≤ R.frames ∧ 8 + ((ai_y mi).2.2.1 + 11) + lo ≤ R.locals := ⟨hfr, by omega⟩
  have hsz : ls.size = B.1.2 := I.1.2.2.2.2.2.2.1.trans I.2.2.2.1
  have hrecv : ∃ b, ai_cv O ad (.inr (.inr (t, l', a))) = .ref b ∧ ∃ cell : Cell, H[b]? = some cell ∧ cell.vm.isStatics = false ∧ s.vm.findClass (ai_y mi).1.cls = some cell.cls := by
    rcases y9 with ⟨ci, z1, z2, z3⟩ | ⟨z2, z3⟩
    · obtain ⟨a1, a2, a3⟩ := ai_obj (O := O) (ad := ad) I.1.2.2.2.1 hokr z2 z1
      obtain ⟨q0, hq⟩ := ai_pos a1
      refine ⟨ad a, ai_cv_r (Or.inr (by omega)), ?_⟩
      rw [z3]
      exact va_recv (q := (jg_R ci, jg_T ci, jg_nf ci)) hK I.1.1 (jg_cl z1) (q0 := q0) (by rw [ai_at hq, a3])
    · subst z2
      have ha : a < ai_txts.length := ai_txt hokr (Or.inl rfl)
      refine ⟨O.2.2.1 a, rfl, ?_⟩
      rw [z3]
      exact vk_recv hRO.2.2.1 ha I.1.2.2.1
  obtain ⟨bb, hbb, hcell⟩ := hrecv
  rw [eapp] at I ⊢
  refine sd_after (a := (Value.ref bb :: X.reverse.map (ai_cv O ad)).toArray) I hA hle rfl rfl o3 hk o2 (free := va_A (ai_ws O.2.1 ad h names) H.size) (fun q hq => hq) ?_
  have hmap : (.inr (.inr (t, l', a)) :: X.reverse : List ai_V).map (ai_cv O ad) = Value.ref bb :: X.reverse.map (ai_cv O ad) := by rw [List.map_cons, hbb]
  rw [hmap] at hM
  refine va_runV (C := (ai_y mi).1.cls) (index := idx) (y := (ai_y mi).1) (bytes := (ai_y mi).2.1) (maxL := (ai_y mi).2.2.1) (ret := (ai_y mi).2.2.2) (n := n') (As := X.reverse.map (ai_cv O ad)) ⟨hx, hb, hml, hown, hts⟩ hM
      (cwV n' hts (ai_Ts_good (fun w hw => by
        rcases List.mem_append.mp (show w ∈ ([.methodLink (ai_nmO o) idx (ai_y mi).1, .instanceMethod (ai_y mi).1, .selects (ai_y mi).1.cls (ai_y mi).1 (ai_y mi).1, .initialized (ai_y mi).1.cls] : List Cond) ++ ai_wm mi from hw) with hw | hw
        · simp only [List.mem_cons, List.not_mem_nil, or_false] at hw
          rcases hw with rfl | rfl | rfl | rfl
          · exact y6
          · exact y7
          · exact y8
          · exact y2
        · rcases List.mem_cons.mp hw with rfl | hw
          · exact y1
          · exact hw)) rfl rfl rfl ⟨rfl, y3⟩ hR2) ⟨fun a U g mk q => ⟨q.1, ai_Pw_blind q.2⟩, hcell, fun U hU hW => ⟨rfl, I.pre hK hA hRO hU hW⟩⟩ rfl (by simp; omega) hsz ?_ (lv_room (ai_sum8 (by rw [← eapp]; exact hS8))) hd hroom
  show ((X ++ [Sum.inr (Sum.inr (t, l', a))]) ++ S).map (ai_cv O ad) = _
  rw [List.map_append, List.map_append, List.map_reverse, List.reverse_reverse]
  simp [hbb]
theorem sd_math {f : Int32 → Int32 → Int32} (hk : ∀ st, k st = some r → ai_G p l e R s m args below meth c Q O A B st) {x y : Int32} (row : ∀ (H : Heap) (locs : List Loc) (cells slots : Nat) (ls : Array Slot) (rest : List Value), ls.size = B.1.2 → cells ≤ R.cells → slots ≤ R.slots → (rest.map fun v => v.category).sum ≤ 8 → W p l e R s m args below meth c H locs cells slots Q (F0 m (pc + 3) ls (.int (f x y) :: rest)) → W p l e R s m args below meth c H locs cells slots Q (F0 m pc ls (.int y :: .int x :: rest)))
    (C : ai_Cx p s m args c cc R O A B o fr lo r) (hm : ∀ st, k st = some r → ai_le st.2.2.2 r.2) (hS8 : ai_cats (.inl y :: .inl x :: S) ≤ 8) (hr : k (pc + 3, L, .inl (f x y) :: S, h) = some r) : ai_G p l e R s m args below meth c Q O A B (pc, L, .inl y :: .inl x :: S, h) := by
  intro H locs cells slots names ad ls I
  have h1 := C.room (r1 := ([], h)) I (ai_le_rf _) (hm _ hr)
  exact row H locs cells slots ls _ (I.1.2.2.2.2.2.2.1.trans I.2.2.2.1) (by have := h1.1; omega) (by have := h1.2; omega) (ai_sum8 (X := [.inl y, .inl x]) hS8) (hk _ hr H locs cells slots names ad ls (I.stk (pc' := pc + 3) (ai_okc ai_oki (ai_okt (ai_okt I.okS)))))
theorem sd_max (hJ : ai_Jok) (hl : Cond.methodLink (ai_nmO o) idx Lib.Math.max.name ∈ ai_Ts) (hd : decode cc pc = .ok (.invokestatic idx, 3)) (hk : ∀ st, k st = some r → ai_G p l e R s m args below meth c Q O A B st) {x y : Int32} (C : ai_Cx p s m args c cc R O A B o fr lo r) (hm : ∀ st, k st = some r → ai_le st.2.2.2 r.2) (hS8 : ai_cats (.inl y :: .inl x :: S) ≤ 8) (hr : k (pc + 3, L, .inl (ai_max x y) :: S, h) = some r) : ai_G p l e R s m args below meth c Q O A B (pc, L, .inl y :: .inl x :: S, h) := by
  obtain ⟨hx, hb, hml, hown, hts, hK, hA, hRO, hfr, hlo, -, -⟩ := id C
  obtain ⟨j1, j2, j3, j4, j5, j6, j7, -⟩ := hJ
  exact sd_math hk (fun H locs cells slots ls rest q1 q2 q3 q4 K => va_mmax hx hb (hml.trans q1.symm) hown (hts _ hl) (hts _ j1) (hts _ j7) (hts _ j2) (by omega) (by omega) q2 q3 hd K) C hm hS8 hr
theorem sd_min (hJ : ai_Jok) (hl : Cond.methodLink (ai_nmO o) idx Lib.Math.min.name ∈ ai_Ts) (hd : decode cc pc = .ok (.invokestatic idx, 3)) (hk : ∀ st, k st = some r → ai_G p l e R s m args below meth c Q O A B st) {x y : Int32} (C : ai_Cx p s m args c cc R O A B o fr lo r) (hm : ∀ st, k st = some r → ai_le st.2.2.2 r.2) (hS8 : ai_cats (.inl y :: .inl x :: S) ≤ 8) (hr : k (pc + 3, L, .inl (ai_min x y) :: S, h) = some r) : ai_G p l e R s m args below meth c Q O A B (pc, L, .inl y :: .inl x :: S, h) := by
  obtain ⟨hx, hb, hml, hown, hts, hK, hA, hRO, hfr, hlo, -, -⟩ := id C
  obtain ⟨j1, j2, j3, j4, j5, j6, j7, -⟩ := hJ
  exact sd_math hk (fun H locs cells slots ls rest q1 q2 q3 q4 K => va_mmin hx hb (hml.trans q1.symm) hown (hts _ hl) (hts _ j3) (hts _ j7) (hts _ j4) (by omega) (by omega) q2 q3 hd K) C hm hS8 hr
theorem sd_abs (hJ : ai_Jok) (hl : Cond.methodLink (ai_nmO o) idx Lib.Math.abs.name ∈ ai_Ts) (hd : decode cc pc = .ok (.invokestatic idx, 3)) (hk : ∀ st, k st = some r → ai_G p l e R s m args below meth c Q O A B st) {x : Int32} (C : ai_Cx p s m args c cc R O A B o fr lo r) (hm : ∀ st, k st = some r → ai_le st.2.2.2 r.2) (hS8 : ai_cats (.inl x :: S) ≤ 8) (hr : k (pc + 3, L, .inl (ai_abs x) :: S, h) = some r) : ai_G p l e R s m args below meth c Q O A B (pc, L, .inl x :: S, h) := by
  intro H locs cells slots names ad ls I
  have h1 := C.room (r1 := ([], h)) I (ai_le_rf _) (hm _ hr)
  obtain ⟨hx, hb, hml, hown, hts, hK, hA, hRO, hfr, hlo, -, -⟩ := id C
  obtain ⟨j1, j2, j3, j4, j5, j6, j7, -⟩ := hJ
  have h8 := ai_sum8 (O := O) (ad := ad) (X := [.inl x]) (S := S) hS8
  exact va_mabs hx hb (hml.trans (I.1.2.2.2.2.2.2.1.trans I.2.2.2.1).symm) hown (hts _ hl) (hts _ j5) (hts _ j7) (hts _ j6) (by omega) (by omega) (by have := h1.1; omega) (by have := h1.2; omega) hd (hk _ hr H locs cells slots names ad ls (I.stk (pc' := pc + 3) (ai_okc ai_oki (ai_okt I.okS))))
theorem ai_en_cpy {cA : Nat → ClassId} {a sp bb dp n x : Nat} (hne : x ≠ bb) : ai_en cA ad (ai_cpy h a sp bb dp n) x = ai_en cA ad h x := by
  have e : (ai_cpy h a sp bb dp n).1 x = h.1 x := if_neg hne
  have e2 : ∀ ci, ai_fs ad (ai_cpy h a sp bb dp n) x ci = ai_fs ad h x ci := fun ci => by
    unfold ai_fs
    refine List.map_congr_left fun i _ => ?_
    cases jg_ty ci i <;> first | rfl | (unfold ai_fv; dsimp only; rw [e])
  unfold ai_en
  rw [e]
  simp only [e2]
  rfl
theorem sd_copy {n1 bb n0 a : Nat} {nn dp sp : Int32} (hJ : ai_Jok) (hl : Cond.methodLink (ai_nmO o) idx arraycopyName ∈ ai_Ts) (hd : decode cc pc = .ok (.invokestatic idx, 3)) (hk : ∀ st, k st = some r → ai_G p l e R s m args below meth c Q O A B st) (C : ai_Cx p s m args c cc R O A B o fr lo r) (hS8 : ai_cats (.inl nn :: .inl dp :: .inr (.inr (1, n1, bb)) :: .inl sp :: .inr (.inr (1, n0, a)) :: S) ≤ 8)
    (hr : ai_cp sp dp nn n0 n1 (k (pc + 3, L, S, ai_cpy h a sp.toNatClampNeg bb dp.toNatClampNeg nn.toNatClampNeg)) = some r) : ai_G p l e R s m args below meth c Q O A B (pc, L, .inl nn :: .inl dp :: .inr (.inr (1, n1, bb)) :: .inl sp :: .inr (.inr (1, n0, a)) :: S, h) := by
  intro H locs cells slots names ad ls I
  obtain ⟨hx, hb, hml, hown, hts, hK, hA, hRO, hfr, hlo, -, -⟩ := id C
  obtain ⟨-, -, -, -, -, -, -, j8, j9, j10, -⟩ := hJ
  unfold ai_cp at hr
  split at hr
  · rename_i hc
    obtain ⟨g1, g2, g3, g4, g5⟩ := hc
    have hw := I.1.2.2.2.1
    obtain ⟨b1, b2⟩ := ai_arr (ai_okh (ai_okt (ai_okt I.okS))) (by omega) (by omega)
    obtain ⟨a1, a2⟩ := ai_arr (ai_okh (ai_okt (ai_okt (ai_okt (ai_okt I.okS))))) (by omega) (by omega)
    obtain ⟨q0, hq0⟩ := ai_pos a1
    obtain ⟨q1, hq1⟩ := ai_pos b1
    have h8 := ai_sum8 (O := O) (ad := ad) (X := [.inl nn, .inl dp, .inr (.inr (1, n1, bb)), .inl sp, .inr (.inr (1, n0, a))]) (S := S) hS8
    have hnat : nativeFrameWords "java/lang/System" "arraycopy" 5 ≤ 60 := by decide +kernel
    refine va_copyi hx hb (hml.trans (I.1.2.2.2.2.2.2.1.trans I.2.2.2.1).symm) hown (hts _ hl) (hts _ j8) (hts _ j9) (hts _ j10) hK I.1.1 I.1.2.1 I.1.2.2.1 q0 q1 1 1 (by rw [ai_at hq0, ai_en_a a2 (by omega)]) (by rw [ai_at hq1, ai_en_a b2 (by omega)]) rfl rfl rfl g1 g2 g3 g4 g5 (fun i hi => rfl) (by omega) (by omega) hd (fun H1 locs1 hP hD hS => ?_)
    have e1 : ai_en O.2.1 ad (ai_cpy h a sp.toNatClampNeg bb dp.toNatClampNeg nn.toNatClampNeg) bb = .inl (O.2.1 1, n1, .inl (va_cpy (h.1 a) (h.1 bb) sp.toNatClampNeg dp.toNatClampNeg nn.toNatClampNeg)) := by
      rw [ai_en_a (h := ai_cpy h a sp.toNatClampNeg bb dp.toNatClampNeg nn.toNatClampNeg) b2 (by omega)]
      have e2 : (ai_cpy h a sp.toNatClampNeg bb dp.toNatClampNeg nn.toNatClampNeg).1 bb = va_cpy (h.1 a) (h.1 bb) sp.toNatClampNeg dp.toNatClampNeg nn.toNatClampNeg := if_pos rfl
      rw [e2]
    rw [ai_set hw.1 hq1 e1 (fun x hx => ai_en_cpy hx)] at hP hD
    exact hk _ hr H1 locs1 cells slots names ad ls (I.mem hP hD hS hw rfl (ai_okt (ai_okt (ai_okt (ai_okt (ai_okt I.okS))))))
  · cases hr
end SD
