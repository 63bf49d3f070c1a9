/-! SOUNDNESS, 2: cells -/
def ai_nmO (o : Nat) : String := match o with
  | 13 => RL
  | 14 => RJ6
  | 15 => RJ9
  | 16 => RJ7
  | 17 => RJ0
  | 18 => RJ1
  | 19 => RJ3
  | o => jg_R o
def ai_fty (k : Nat) (ty : FieldType) : Bool := match k, ty with
  | 0, .int => true
  | 1, .boolean => true
  | 2, .long => true
  | 3, .object _ => true
  | 6, .object _ => true
  | 4, .array _ => true
  | 5, .array _ => true
  | 7, .array _ => true
  | _, _ => false
/-- what the tables say of a class -/
def ai_cok (ci : Nat) : Prop := (∀ w ∈ u_ws (jg_R ci) (jg_T ci) (jg_nf ci), w ∈ ai_Ts) ∧ ∀ j, j < jg_nf ci → ((jg_T ci j).1 = jg_R ci ∧ ai_fty (ai_fk ci j).1 (jg_ty ci j) = true ∧ ((ai_fk ci j).1 = 0 ∨ (ai_fk ci j).1 = 1 ∨ (ai_fk ci j).1 = 2 ∨ (ai_fk ci j).1 = 6 → (jg_T ci j).2.2.2 = false) ∧ (∀ i, i < jg_nf ci → (ai_fk ci i).1 = 2 → (ai_fk ci j).1 = 2 → i = j) ∧ ((ai_fk ci j).1 = 6 → (ai_fk ci j).2.1 < 13))
def ai_FlokN (o idx : Nat) (r : ai_Fr) : Prop := r.1 < 13 ∧ r.2.1 < jg_nf r.1 ∧ Cond.fieldLink (ai_nmO o) idx (jg_R r.1) (jg_T r.1 r.2.1).2.1 (jg_T r.1 r.2.1).2.2.1 ∈ ai_Ts ∧ r.2.2 = ai_fk r.1 r.2.1
def ai_Flok (o idx : Nat) (r : ai_Fr) : Prop := ai_FlokN o idx r ∨ (r = (17, 0, 8, 0, 0) ∧ Cond.fieldLink (ai_nmO o) idx "java/lang/String" "value" "[B" ∈ ai_Ts) ∨ (r = (17, 1, 9, 0, 0) ∧ Cond.fieldLink (ai_nmO o) idx "java/lang/String" "coder" "B" ∈ ai_Ts)
theorem ai_ft_n {ci j kd x len : Nat} (h : kd < 8) : ai_ft (ci, j, kd, x, len) = 20 + ci := by
  match kd, h with
  | 0, _ => rfl
  | 1, _ => rfl
  | 2, _ => rfl
  | 3, _ => rfl
  | 4, _ => rfl
  | 5, _ => rfl
  | 6, _ => rfl
  | 7, _ => rfl
  | k + 8, h => omega
theorem ai_fty_lt {k : Nat} {ty : FieldType} (h : ai_fty k ty = true) : k < 8 := by
  match k, h with
  | 0, _ => decide
  | 1, _ => decide
  | 2, _ => decide
  | 3, _ => decide
  | 4, _ => decide
  | 5, _ => decide
  | 6, _ => decide
  | 7, _ => decide
  | k + 8, h => cases ty <;> cases h
theorem ai_tlen (i : Nat) : (ai_txts.map List.length).getD i 0 = (ai_txts.getD i []).length := by
  rw [List.getD_eq_getElem?_getD, List.getD_eq_getElem?_getD, List.getElem?_map]
  cases ai_txts[i]? <;> rfl
section SD
variable {p : Program} {l : Launch} {e : Env} {R : Room} {s : State} {m : MethodId} {args : Array Value} {below : List Frame} {meth : Method} {c : Code} {Q : State → Prop} {cc : ByteArray} {O : ai_Om} {A : Nat → Prop} {B : ai_Bg}
variable {H H1 : Heap} {locs locs1 : List Loc} {cells slots : Nat} {names : List Nat} {ad : Nat → Nat} {ls : Array Slot} {pc pc' : Nat} {L : List (Option ai_V)} {S S' : List ai_V} {h h' : ai_H} {k : ai_K} {r : ai_R}
theorem ai_ok_kd {v : ai_V} (hkd : h'.2.2.2.1 = h.2.2.2.1) (hv : ai_ok names h v) : ai_ok names h' v := by
  rcases v with v | v | ⟨t, l, a⟩
  · trivial
  · trivial
  · unfold ai_ok at hv ⊢
    dsimp only at hv ⊢
    rw [hkd]; exact hv
/-- behind a store into a cell -/
theorem ai_I.mem (I : ai_I O s A B names ad (pc, L, S, h) H locs ls cells slots) (hP : va_P O.1 vwCl (ai_ws O.2.1 ad h' names) H1) (hD : va_D A (ai_ws O.2.1 ad h' names)) (hS : va_S A s.heap H1 locs1) (hw : ai_wf h' names) (hkd : h'.2.2.2 = h.2.2.2) (hS' : ∀ v ∈ S', ai_ok names h v) : ai_I O s A B names ad (pc', L, S', h') H1 locs1 ls cells slots := by
  obtain ⟨⟨h1, h2, h3, h4, h5, h6, h7, h8, h9⟩, h10, h11, hL, h12, h13⟩ := I
  have hk1 : h'.2.2.2.1 = h.2.2.2.1 := congrArg Prod.fst hkd
  refine ⟨⟨hP, hD, hS, hw, fun v hv => ai_ok_kd hk1 (hS' v hv), fun v hv => ai_ok_kd hk1 (h6 v hv), h7, h8, h9⟩, ?_, h11, hL, ?_, ?_⟩
  · intro n hn
    obtain ⟨q1, q2, q3⟩ := h10 n hn
    refine ⟨q1, q2, ?_⟩
    dsimp only at q3 ⊢
    rw [hk1]; exact q3
  · dsimp only at h12 ⊢
    rw [hkd]; exact h12
  · dsimp only at h13 ⊢
    rw [hkd]; exact h13
theorem ai_obj {t ci l' a : Nat} (hw : ai_wf h names) (hok : ai_ok names h (.inr (.inr (t, l', a)))) (ht : t = 20 + ci) (hci : ci < 13) : a ∈ names ∧ (h.2.2.2.1 a).1 = 20 + ci ∧ ai_en O.2.1 ad h a = .inr (ci, ai_fs ad h a ci) := by
  unfold ai_ok at hok
  dsimp only at hok
  have : a ∈ names ∧ (h.2.2.2.1 a).1 = t := by
    rcases hok with q | q | q | q | q | q | q | q | q
    · omega
    · omega
    · omega
    · omega
    · omega
    · omega
    · omega
    · exact ⟨q.2.2.1, q.2.2.2⟩
    · omega
  refine ⟨this.1, this.2.trans ht, ?_⟩
  have e1 : (20 + ci) % 20 = ci := by omega
  rw [ai_en_o (this.2.trans ht) (by omega), e1]
theorem ai_arr {t n a : Nat} (hok : ai_ok names h (.inr (.inr (t, n, a)))) (h1 : 1 ≤ t) (h5 : t ≤ 5) : a ∈ names ∧ h.2.2.2.1 a = (t, n) := by
  unfold ai_ok at hok
  dsimp only at hok
  rcases hok with q | q | q | q | q | q | q | q | q
  · omega
  · omega
  · omega
  · omega
  · omega
  · omega
  · exact q.2.2
  · omega
  · omega
theorem ai_txt {t n a : Nat} (hok : ai_ok names h (.inr (.inr (t, n, a)))) (h6 : t = 6 ∨ t = 9) : a < ai_txts.length := by
  unfold ai_ok at hok
  dsimp only at hok
  rcases hok with q | q | q | q | q | q | q | q | q
  · omega
  · exact q.2
  · omega
  · omega
  · exact q.2
  · omega
  · omega
  · omega
  · omega
theorem ai_okr {t n a : Nat} (ha : a ∈ names) (hk : ai_kok t) (hkd : h.2.2.2.1 a = (t, n)) : ai_ok names h (.inr (.inr (t, n, a))) := by
  unfold ai_ok
  dsimp only
  rcases hk with q | q | q
  · exact Or.inr (Or.inr (Or.inr (Or.inr (Or.inr (Or.inr (Or.inl ⟨q.1, q.2, ha, hkd⟩))))))
  · exact Or.inr (Or.inr (Or.inr (Or.inr (Or.inr (Or.inr (Or.inr (Or.inl ⟨q.1, q.2, ha, by rw [hkd]⟩)))))))
  · exact Or.inr (Or.inr (Or.inr (Or.inr (Or.inr (Or.inr (Or.inr (Or.inr ⟨q.1, q.2, ha, Or.inl (by rw [hkd])⟩)))))))
theorem ai_oko {t n a : Nat} (ha : a ∈ names) (h20 : 20 ≤ t) (hk : ai_kok t) (hkd : (h.2.2.2.1 a).1 = t) : ai_ok names h (.inr (.inr (t, n, a))) := by
  unfold ai_ok
  dsimp only
  rcases hk with q | q | q
  · omega
  · exact Or.inr (Or.inr (Or.inr (Or.inr (Or.inr (Or.inr (Or.inr (Or.inl ⟨q.1, q.2, ha, hkd⟩)))))))
  · exact Or.inr (Or.inr (Or.inr (Or.inr (Or.inr (Or.inr (Or.inr (Or.inr ⟨q.1, q.2, ha, Or.inl hkd⟩)))))))
theorem ai_cv_k {t n a : Nat} (hk : ai_kok t) : ai_cv O ad (.inr (.inr (t, n, a))) = .ref (ad a) := ai_cv_r (by unfold ai_kok at hk; omega)
/-- a field's value -/
theorem ai_gf_ok {ci j kd x len a : Nat} {f : ai_V → Option ai_R} (hw : ai_wf h names) (ha : a ∈ names) (hkd : (h.2.2.2.1 a).1 = 20 + ci) (hj : j < jg_nf ci) (hfk : (kd, x, len) = ai_fk ci j) (hty : ai_fty (ai_fk ci j).1 (jg_ty ci j) = true) (hr : ai_gf (ci, j, kd, x, len) h a f = some r) :
    ∃ v, f v = some r ∧ ai_fv ad h a (jg_ty ci j) j = ai_cv O ad v ∧ ai_ok names h v := by
  have hof := hw.2.2.2.2.1 a ha ci hkd j hj
  rw [← hfk] at hof hty
  have hcl := hw.2.2.2.1 a ha j
  dsimp only at hty
  have kok : ∀ y, y ∈ names → ai_kok (h.2.2.2.1 y).1 := hw.2.1
  match kd with
  | 0 => exact ⟨_, hr, (by cases hq : jg_ty ci j <;> rw [hq] at hty <;> first | rfl | cases hty), trivial⟩
  | 1 => exact ⟨_, hr, (by cases hq : jg_ty ci j <;> rw [hq] at hty <;> first | rfl | cases hty), trivial⟩
  | 2 => exact ⟨_, hr, (by cases hq : jg_ty ci j <;> rw [hq] at hty <;> first | rfl | cases hty), trivial⟩
  | 3 =>
    obtain ⟨o1, o2⟩ := hof
    have hc := hcl _ o1
    have hk := kok _ hc
    rw [o2] at hk
    refine ⟨_, hr, ?_, ai_okr hc hk o2⟩
    rw [ai_cv_k hk]
    cases hq : jg_ty ci j <;> rw [hq] at hty <;> first | (simp [ai_fv, o1, va_rf]; done) | cases hty
  | 4 =>
    obtain ⟨o1, o2⟩ := hof
    have hc := hcl _ o1
    have hk := kok _ hc
    rw [o2] at hk
    refine ⟨_, hr, ?_, ai_okr hc hk o2⟩
    rw [ai_cv_k hk]
    cases hq : jg_ty ci j <;> rw [hq] at hty <;> first | (simp [ai_fv, o1, va_rf]; done) | cases hty
  | 5 =>
    obtain ⟨o1, o2⟩ := hof
    have hc := hcl _ o1
    have hk := kok _ hc
    rw [o2] at hk
    refine ⟨_, hr, ?_, ai_okr hc hk (Prod.ext o2 rfl)⟩
    rw [ai_cv_k hk]
    cases hq : jg_ty ci j <;> rw [hq] at hty <;> first | (simp [ai_fv, o1, va_rf]; done) | cases hty
  | 6 =>
    change ai_oo (h.2.2.1 a j) (fun y => f (.inr (.inr (20 + x, 0, y)))) = some r at hr
    cases o1 : h.2.2.1 a j with
    | none => rw [o1] at hr; cases hr
    | some y =>
      rw [o1] at hr
      have hc := hcl _ o1
      have o2 := hof y o1
      have hk := kok _ hc
      rw [o2] at hk
      refine ⟨_, hr, ?_, ai_oko hc (Nat.le_add_right 20 x) hk o2⟩
      rw [ai_cv_k hk]
      cases hq : jg_ty ci j <;> rw [hq] at hty <;> first | (simp [ai_fv, o1, va_rf]; done) | cases hty
  | 7 =>
    change ai_oo (h.2.2.1 a j) (fun y => f (.inr (.inr (x, (h.2.2.2.1 y).2, y)))) = some r at hr
    cases o1 : h.2.2.1 a j with
    | none => rw [o1] at hr; cases hr
    | some y =>
      rw [o1] at hr
      have hc := hcl _ o1
      have o2 := hof y o1
      have hk := kok _ hc
      rw [o2] at hk
      refine ⟨_, hr, ?_, ai_okr hc hk (Prod.ext o2 rfl)⟩
      rw [ai_cv_k hk]
      cases hq : jg_ty ci j <;> rw [hq] at hty <;> first | (simp [ai_fv, o1, va_rf]; done) | cases hty
  | kd + 8 => exact absurd (ai_fty_lt hty) (by omega)
theorem sd_getf {fl : Nat → Option ai_Fr} {o idx : Nat} (hx : p.tables.exec = Jvm.exec) (hb : c.code = cc) (hts : ∀ w ∈ ai_Ts, w.before args s = true) (hown : s.vm.findClass (ai_nmO o) = some m.cls) (hK : va_K O.1 vwCl (ai_tys O.2.1) s) (hco : ∀ ci, ci < 13 → ai_cok ci) (hfl : ∀ r, fl idx = some r → ai_Flok o idx r) (hE : vk_S ai_txts.length (ai_txts.map List.length) ai_txts O.2.2.1 O.2.2.2.1 A s s.heap)
    (hd : decode cc pc = .ok (.getfield idx, 3)) (hk : ∀ st, k st = some r → ai_G p l e R s m args below meth c Q O A B st) (hr : ai_getf fl idx (pc, L, S, h) k = some r) : ai_G p l e R s m args below meth c Q O A B (pc, L, S, h) := by
  intro H locs cells slots names ad ls I
  rcases S with _ | ⟨v | v | ⟨t, l', a⟩, S⟩
  · cases hr
  · cases hr
  · cases hr
  · unfold ai_getf at hr
    dsimp only at hr
    cases hf : fl idx with
    | none => rw [hf] at hr; cases hr
    | some r0 =>
      rw [hf] at hr
      dsimp only at hr
      rcases hfl _ hf with ⟨f1, f2, f3, f4⟩ | ⟨e0, f3⟩ | ⟨e0, f3⟩
      · obtain ⟨ci, j, kd, x, len⟩ := r0
        dsimp only at f1 f2 f3 f4 hr
        obtain ⟨c1, c2⟩ := hco ci f1
        obtain ⟨c3, c4, -⟩ := c2 j f2
        have hkd8 : kd < 8 := by
          have := ai_fty_lt c4
          rw [← f4] at this; exact this
        rw [ai_ft_n hkd8] at hr
        cases hbt : Nat.beq t (20 + ci) with
        | false => rw [hbt] at hr; cases hr
        | true =>
          rw [hbt] at hr
          simp only [cond_true] at hr
          have ht := Nat.eq_of_beq_eq_true hbt
          obtain ⟨a1, a2, a3⟩ := ai_obj (O := O) (ad := ad) I.1.2.2.2.1 (ai_okh I.okS) ht f1
          obtain ⟨v, v1, v2, v3⟩ := ai_gf_ok (O := O) (ad := ad) I.1.2.2.2.1 a1 a2 f2 f4 c4 hr
          obtain ⟨q0, hq⟩ := ai_pos a1
          have K := hk _ v1 H locs cells slots names ad ls (I.stk (pc' := pc + 3) (ai_okc v3 (ai_okt I.okS)))
          show W p l e R s m args below meth c H locs cells slots Q (F0 m pc ls (ai_cv O ad (.inr (.inr (t, l', a))) :: S.map (ai_cv O ad)))
          rw [ai_cv_r (Or.inr (by omega))]
          refine va_get hx hb hts c1 hown hK I.1.1 q0 (by rw [ai_at hq, a3]) (jg_cl f1) j f2 (hts _ f3) (fun _ q => by rw [c3] at q; exact q) (ai_fs_get f2) hd ?_
          rw [v2]; exact K
      · subst e0
        change (bif Nat.beq t 6 then k (pc + 3, L, .inr (.inr (9, 0, a)) :: S, h) else none) = some r at hr
        cases hbt : Nat.beq t 6 with
        | false => rw [hbt] at hr; cases hr
        | true =>
          rw [hbt] at hr
          have ht := Nat.eq_of_beq_eq_true hbt
          subst ht
          have ha := ai_txt (ai_okh I.okS) (Or.inl rfl)
          have K := hk _ hr H locs cells slots names ad ls (I.stk (pc' := pc + 3) (ai_okc (Or.inr (Or.inr (Or.inr (Or.inr (Or.inl ⟨rfl, ha⟩))))) (ai_okt I.okS)))
          exact vk_getf hx hb (hE.1 a ha).2.2.1 I.1.2.2.1 hown (hts _ f3) (fun _ q => q) hd K
      · subst e0
        change (bif Nat.beq t 6 then k (pc + 3, L, .inl 0 :: S, h) else none) = some r at hr
        cases hbt : Nat.beq t 6 with
        | false => rw [hbt] at hr; cases hr
        | true =>
          rw [hbt] at hr
          have ht := Nat.eq_of_beq_eq_true hbt
          subst ht
          have ha := ai_txt (ai_okh I.okS) (Or.inl rfl)
          have K := hk _ hr H locs cells slots names ad ls (I.stk (pc' := pc + 3) (ai_okc ai_oki (ai_okt I.okS)))
          exact vk_getf hx hb (hE.1 a ha).2.1 I.1.2.2.1 hown (hts _ f3) (fun _ q => q) hd K
theorem sd_iald {sc : Option (Nat × (Nat → Int32))} (hx : p.tables.exec = Jvm.exec) (hb : c.code = cc) (hK : va_K O.1 vwCl (ai_tys O.2.1) s) (hT : va_T .int O.2.2.2.2.1 6 (fun j => .int (ai_pow.getD j 0)) A s s.heap) (hSc : ∀ xs, sc = some xs → va_T .int O.2.2.2.2.2.2.1 xs.1 (fun j => .int (xs.2 j)) A s s.heap) (hd : decode cc pc = .ok (.iaload, 1)) (hk : ∀ st, k st = some r → ai_G p l e R s m args below meth c Q O A B st) (hr : ai_iald sc (pc, L, S, h) k = some r) : ai_G p l e R s m args below meth c Q O A B (pc, L, S, h) := by
  intro H locs cells slots names ad ls I
  unfold ai_iald at hr
  split at hr
  · rename_i e1
    cases e1
    rename_i i n a S
    obtain ⟨i1, i2⟩ := ai_ix_some hr
    have o2 := ai_okh (ai_okt I.okS)
    obtain ⟨a1, a2⟩ := ai_arr o2 (Nat.le_refl 1) (by omega)
    obtain ⟨q0, hq⟩ := ai_pos a1
    have K := hk _ i2 H locs cells slots names ad ls (I.stk (pc' := pc + 1) (ai_okc ai_oki (ai_okt (ai_okt I.okS))))
    exact va_iald hx hb hK I.1.1 q0 1 (by rw [ai_at hq, ai_en_a a2 (by omega)]) rfl i1 hd K
  · rename_i e1
    cases e1
    obtain ⟨i1, i2⟩ := ai_ix_some hr
    have K := hk _ i2 H locs cells slots names ad ls (I.stk (pc' := pc + 1) (ai_okc ai_oki (ai_okt (ai_okt I.okS))))
    exact va_ti hx hb hT I.1.2.2.1 i1 rfl hd K
  · rename_i e1
    cases e1
    cases hsc : sc with
    | none => rw [hsc] at hr; cases hr
    | some xs =>
      rw [hsc] at hr
      obtain ⟨i1, i2⟩ := ai_ix_some hr
      have K := hk _ i2 H locs cells slots names ad ls (I.stk (pc' := pc + 1) (ai_okc ai_oki (ai_okt (ai_okt I.okS))))
      exact va_ti hx hb (hSc xs hsc) I.1.2.2.1 i1 rfl hd K
  · cases hr
theorem sd_bald (hx : p.tables.exec = Jvm.exec) (hb : c.code = cc) (hK : va_K O.1 vwCl (ai_tys O.2.1) s) (hE : vk_S ai_txts.length (ai_txts.map List.length) ai_txts O.2.2.1 O.2.2.2.1 A s s.heap) (hd : decode cc pc = .ok (.baload, 1)) (hk : ∀ st, k st = some r → ai_G p l e R s m args below meth c Q O A B st) (hr : ai_bald (pc, L, S, h) k = some r) : ai_G p l e R s m args below meth c Q O A B (pc, L, S, h) := by
  intro H locs cells slots names ad ls I
  unfold ai_bald at hr
  split at hr
  · rename_i e1
    cases e1
    obtain ⟨i1, i2⟩ := ai_ix_some hr
    obtain ⟨a1, a2⟩ := ai_arr (ai_okh (ai_okt I.okS)) (by omega) (by omega)
    obtain ⟨q0, hq⟩ := ai_pos a1
    have K := hk _ i2 H locs cells slots names ad ls (I.stk (pc' := pc + 1) (ai_okc ai_oki (ai_okt (ai_okt I.okS))))
    exact va_bald hx hb hK I.1.1 q0 2 (by rw [ai_at hq, ai_en_a a2 (by omega)]) rfl i1 hd K
  · rename_i e1
    cases e1
    obtain ⟨i1, i2⟩ := ai_ix_some hr
    obtain ⟨a1, a2⟩ := ai_arr (ai_okh (ai_okt I.okS)) (by omega) (by omega)
    obtain ⟨q0, hq⟩ := ai_pos a1
    have K := hk _ i2 H locs cells slots names ad ls (I.stk (pc' := pc + 1) (ai_okc ai_oki (ai_okt (ai_okt I.okS))))
    exact va_zald hx hb hK I.1.1 q0 3 (by rw [ai_at hq, ai_en_a a2 (by omega)]) rfl i1 hd K
  · rename_i e1
    cases e1
    obtain ⟨i1, i2⟩ := ai_ix_some hr
    rw [← ai_tlen] at i1
    have ha := ai_txt (ai_okh (ai_okt I.okS)) (Or.inr rfl)
    have K := hk _ i2 H locs cells slots names ad ls (I.stk (pc' := pc + 1) (ai_okc ai_oki (ai_okt (ai_okt I.okS))))
    exact va_tb hx hb (hE.1 _ ha).2.2.2 I.1.2.2.1 i1 rfl hd K
  · cases hr
theorem sd_aald_x {t n a ci : Nat} {i : Int32} {C : String} (hx : p.tables.exec = Jvm.exec) (hb : c.code = cc) (hK : va_K O.1 vwCl (ai_tys O.2.1) s) (ht : 4 ≤ t ∧ t ≤ 5) (hty : (ai_tys O.2.1)[t]? = some (O.2.1 t, .object C)) (hci : 20 ≤ ci ∧ ci < 33) (hw2 : ∀ names, ai_wf h names → ∀ n ∈ names, (h.2.2.2.1 n).1 = t → ∀ j y, h.2.2.1 n j = some y → (h.2.2.2.1 y).1 = ci)
    (hd : decode cc pc = .ok (.aaload, 1)) (hk : ∀ st, k st = some r → ai_G p l e R s m args below meth c Q O A B st) (hr : ai_ix i n (fun j => ai_on (h.2.2.1 a j) (fun y => k (pc + 1, L, .inr (.inr (ci, 0, y)) :: S, h)) (k (pc + 1, L, .inr (.inr (0, 0, 0)) :: S, h))) = some r) : ai_G p l e R s m args below meth c Q O A B (pc, L, .inl i :: .inr (.inr (t, n, a)) :: S, h) := by
  intro H locs cells slots names ad ls I
  obtain ⟨i1, i2⟩ := ai_ix_some hr
  obtain ⟨a1, a2⟩ := ai_arr (ai_okh (ai_okt I.okS)) (by omega) (by omega)
  obtain ⟨q0, hq⟩ := ai_pos a1
  have hw := I.1.2.2.2.1
  show W p l e R s m args below meth c H locs cells slots Q (F0 m pc ls (.int i :: ai_cv O ad (.inr (.inr (t, n, a))) :: S.map (ai_cv O ad)))
  rw [ai_cv_r (Or.inl (by omega))]
  refine va_aldq hx hb hK I.1.1 q0 t (by rw [ai_at hq, ai_en_r a2 (by omega) (by omega)]) hty i1 hd ?_
  cases o1 : h.2.2.1 a i.toNatClampNeg with
  | none =>
    rw [o1] at i2
    have K := hk _ i2 H locs cells slots names ad ls (I.stk (pc' := pc + 1) (ai_okc (Or.inl rfl) (ai_okt (ai_okt I.okS))))
    have e1 : ai_cv O ad (.inr (.inr (0, 0, 0))) = .null := rfl
    simp only [List.map_cons, e1] at K
    simpa [o1, va_rf] using K
  | some y =>
    rw [o1] at i2
    have hy := hw.2.2.2.1 a a1 _ _ o1
    have hky := hw2 names hw a a1 (by rw [a2]) _ _ o1
    have hkk := hw.2.1 y hy
    rw [hky] at hkk
    have K := hk _ i2 H locs cells slots names ad ls (I.stk (pc' := pc + 1) (ai_okc (ai_oko hy hci.1 hkk hky) (ai_okt (ai_okt I.okS))))
    have e1 : ai_cv O ad (.inr (.inr (ci, 0, y))) = .ref (ad y) := ai_cv_r (Or.inr hci.1)
    simp only [List.map_cons, e1] at K
    simpa [o1, va_rf] using K
theorem sd_aald (hx : p.tables.exec = Jvm.exec) (hb : c.code = cc) (hK : va_K O.1 vwCl (ai_tys O.2.1) s) (hd : decode cc pc = .ok (.aaload, 1)) (hk : ∀ st, k st = some r → ai_G p l e R s m args below meth c Q O A B st) (hr : ai_aald (pc, L, S, h) k = some r) : ai_G p l e R s m args below meth c Q O A B (pc, L, S, h) := by
  unfold ai_aald at hr
  split at hr
  · rename_i e1
    cases e1
    exact sd_aald_x hx hb hK ⟨by omega, by omega⟩ rfl ⟨by omega, by omega⟩ (fun names hw => hw.2.2.2.2.2.1) hd hk hr
  · rename_i e1
    cases e1
    exact sd_aald_x hx hb hK ⟨by omega, by omega⟩ rfl ⟨by omega, by omega⟩ (fun names hw => hw.2.2.2.2.2.2) hd hk hr
  · cases hr
theorem sd_alen {sc : Option (Nat × (Nat → Int32))} (hx : p.tables.exec = Jvm.exec) (hb : c.code = cc) (hK : va_K O.1 vwCl (ai_tys O.2.1) s) (hE : vk_S ai_txts.length (ai_txts.map List.length) ai_txts O.2.2.1 O.2.2.2.1 A s s.heap) (hSc : ∀ xs, sc = some xs → va_T .int O.2.2.2.2.2.2.1 xs.1 (fun j => .int (xs.2 j)) A s s.heap) (hd : decode cc pc = .ok (.arraylength, 1)) (hk : ∀ st, k st = some r → ai_G p l e R s m args below meth c Q O A B st) (hr : ai_alen sc (pc, L, S, h) k = some r) : ai_G p l e R s m args below meth c Q O A B (pc, L, S, h) := by
  intro H locs cells slots names ad ls I
  unfold ai_alen at hr
  split at hr
  · rename_i e1
    cases e1
    cases hsc : sc with
    | none => rw [hsc] at hr; cases hr
    | some xs =>
      rw [hsc] at hr
      have K := hk _ hr H locs cells slots names ad ls (I.stk (pc' := pc + 1) (ai_okc ai_oki (ai_okt I.okS)))
      exact va_tlen hx hb (hSc xs hsc) I.1.2.2.1 rfl hd K
  · rename_i e1
    cases e1
    have ha := ai_txt (ai_okh I.okS) (Or.inr rfl)
    have K := hk _ hr H locs cells slots names ad ls (I.stk (pc' := pc + 1) (ai_okc ai_oki (ai_okt I.okS)))
    exact va_tlen hx hb (hE.1 _ ha).2.2.2 I.1.2.2.1 (by rw [ai_tlen]; rfl) hd K
  · rename_i e1
    cases e1
    rename_i t n a S _ _
    cases hbt : (Nat.blt 0 t && Nat.blt t 6) with
    | false => rw [hbt] at hr; cases hr
    | true =>
      rw [hbt] at hr
      simp only [Bool.and_eq_true, Nat.blt_eq] at hbt
      obtain ⟨a1, a2⟩ := ai_arr (ai_okh I.okS) (by omega) (by omega)
      obtain ⟨q0, hq⟩ := ai_pos a1
      have K := hk _ hr H locs cells slots names ad ls (I.stk (pc' := pc + 1) (ai_okc ai_oki (ai_okt I.okS)))
      show W p l e R s m args below meth c H locs cells slots Q (F0 m pc ls (ai_cv O ad (.inr (.inr (t, n, a))) :: S.map (ai_cv O ad)))
      rw [ai_cv_r (Or.inl (by omega))]
      by_cases h4 : t < 4
      · exact va_alen (x := (n, .inl (h.1 a))) (v := nI n) hx hb hK I.1.1 q0 t (by rw [ai_at hq, ai_en_a a2 h4]) (ai_tys_at ⟨by omega, by omega⟩) rfl hd K
      · exact va_alen (x := (n, .inr (.inr (.inr (.inr (fun j => (h.2.2.1 a j).map ad)))))) (v := nI n) hx hb hK I.1.1 q0 t (by rw [ai_at hq, ai_en_r a2 h4 (by omega)]) (ai_tys_at ⟨by omega, by omega⟩) rfl hd K
  · cases hr
theorem ai_en_sta {t n a j : Nat} {v : Int32} (hkd : h.2.2.2.1 a = (t, n)) (h4 : t < 4) : ai_en O.2.1 ad (ai_st h a j v) a = .inl (O.2.1 t, n, .inl (upd (h.1 a) j v)) := by
  rw [ai_en_a (h := ai_st h a j v) hkd h4]
  have e : (ai_st h a j v).1 a = upd (h.1 a) j v := by
    show ai_u h.1 a j v a = _
    simp [ai_u]
  rw [e]
theorem sd_iast (hx : p.tables.exec = Jvm.exec) (hb : c.code = cc) (hK : va_K O.1 vwCl (ai_tys O.2.1) s) (hd : decode cc pc = .ok (.iastore, 1)) (hk : ∀ st, k st = some r → ai_G p l e R s m args below meth c Q O A B st) (hr : ai_iast (pc, L, S, h) k = some r) : ai_G p l e R s m args below meth c Q O A B (pc, L, S, h) := by
  intro H locs cells slots names ad ls I
  unfold ai_iast at hr
  split at hr
  · rename_i e1
    cases e1
    obtain ⟨i1, i2⟩ := ai_ix_some hr
    obtain ⟨a1, a2⟩ := ai_arr (ai_okh (ai_okt (ai_okt I.okS))) (by omega) (by omega)
    obtain ⟨q0, hq⟩ := ai_pos a1
    refine va_iast hx hb hK I.1.1 I.1.2.1 I.1.2.2.1 q0 1 (by rw [ai_at hq, ai_en_a a2 (by omega)]) rfl i1 hd (fun H1 locs1 hP hD hS => ?_)
    rw [ai_set I.1.2.2.2.1.1 hq (ai_en_sta a2 (by omega)) (fun x hx => ai_en_st hx)] at hP hD
    exact hk _ i2 H1 locs1 cells slots names ad ls (I.mem hP hD hS (ai_wf_st _ _ _ I.1.2.2.2.1) rfl (ai_okt (ai_okt (ai_okt I.okS))))
  · cases hr
theorem sd_bast (hx : p.tables.exec = Jvm.exec) (hb : c.code = cc) (hK : va_K O.1 vwCl (ai_tys O.2.1) s) (hd : decode cc pc = .ok (.bastore, 1)) (hk : ∀ st, k st = some r → ai_G p l e R s m args below meth c Q O A B st) (hr : ai_bast (pc, L, S, h) k = some r) : ai_G p l e R s m args below meth c Q O A B (pc, L, S, h) := by
  intro H locs cells slots names ad ls I
  unfold ai_bast at hr
  split at hr
  · rename_i e1
    cases e1
    obtain ⟨i1, i2⟩ := ai_ix_some hr
    obtain ⟨a1, a2⟩ := ai_arr (ai_okh (ai_okt (ai_okt I.okS))) (by omega) (by omega)
    obtain ⟨q0, hq⟩ := ai_pos a1
    refine va_bast hx hb hK I.1.1 I.1.2.1 I.1.2.2.1 q0 2 (by rw [ai_at hq, ai_en_a a2 (by omega)]) rfl i1 hd (fun H1 locs1 hP hD hS => ?_)
    rw [ai_set I.1.2.2.2.1.1 hq (ai_en_sta a2 (by omega)) (fun x hx => ai_en_st hx)] at hP hD
    exact hk _ i2 H1 locs1 cells slots names ad ls (I.mem hP hD hS (ai_wf_st _ _ _ I.1.2.2.2.1) rfl (ai_okt (ai_okt (ai_okt I.okS))))
  · rename_i e1
    cases e1
    obtain ⟨i1, i2⟩ := ai_ix_some hr
    obtain ⟨a1, a2⟩ := ai_arr (ai_okh (ai_okt (ai_okt I.okS))) (by omega) (by omega)
    obtain ⟨q0, hq⟩ := ai_pos a1
    refine va_zast hx hb hK I.1.1 I.1.2.1 I.1.2.2.1 q0 3 (by rw [ai_at hq, ai_en_a a2 (by omega)]) rfl i1 hd (fun H1 locs1 hP hD hS => ?_)
    rw [ai_set I.1.2.2.2.1.1 hq (ai_en_sta a2 (by omega)) (fun x hx => ai_en_st hx)] at hP hD
    exact hk _ i2 H1 locs1 cells slots names ad ls (I.mem hP hD hS (ai_wf_st _ _ _ I.1.2.2.2.1) rfl (ai_okt (ai_okt (ai_okt I.okS))))
  · cases hr
end SD
