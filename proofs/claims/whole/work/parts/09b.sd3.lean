/-! SOUNDNESS, 3: fields are set, references are stored, objects are made, methods end. -/
section SD
variable {p : Program} {l : Launch} {e : Env} {R : Room} {s : State} {m : MethodId} {args : Array Value} {below : List Frame} {meth : Method} {c : Code} {Q : State → Prop} {cc : ByteArray} {O : ai_Om} {A : Nat → Prop} {B : ai_Bg}
variable {H H1 : Heap} {locs locs1 : List Loc} {cells slots : Nat} {names : List Nat} {ad : Nat → Nat} {ls : Array Slot} {pc pc' : Nat} {L : List (Option ai_V)} {S S' : List ai_V} {h h' : ai_H} {k : ai_K} {r : ai_R}
theorem ai_fs_stL {a j ci : Nat} {x : Int64} (hj : j < jg_nf ci) (hty : jg_ty ci j = .long) (hu : ∀ i, i < jg_nf ci → jg_ty ci i = .long → i = j) : (ai_fs ad h a ci).set j (.long x) = ai_fs ad (ai_stL h a x) a ci := by
  apply List.ext_getElem?
  intro k
  by_cases hk : k = j
  · subst hk
    rw [List.getElem?_set_self (by rw [ai_fs_len]; exact hj), ai_fs_get hj, hty]
    simp [ai_fv, ai_stL]
  · rw [List.getElem?_set_ne (Ne.symm hk)]
    by_cases hn : k < jg_nf ci
    · rw [ai_fs_get hn, ai_fs_get hn]
      cases hq : jg_ty ci k <;> first | rfl | exact absurd (hu k hn hq) hk
    · rw [List.getElem?_eq_none (by rw [ai_fs_len]; omega), List.getElem?_eq_none (by rw [ai_fs_len]; omega)]
theorem ai_en_stL {cA : Nat → ClassId} {a n : Nat} {x : Int64} (hne : n ≠ a) : ai_en cA ad (ai_stL h a x) n = ai_en cA ad h n := by
  have e2 : ∀ ci, ai_fs ad (ai_stL h a x) n ci = ai_fs ad h n ci := fun ci => by
    unfold ai_fs
    refine List.map_congr_left fun i _ => ?_
    cases jg_ty ci i <;> first | rfl | simp [ai_fv, ai_stL, hne]
  unfold ai_en
  simp only [e2]
  rfl
theorem ai_fv_stR {a j n i : Nat} {v : Option Nat} {ty : FieldType} (hne : ¬ (n = a ∧ i = j)) : ai_fv ad (ai_stR h a j v) n ty i = ai_fv ad h n ty i := by
  have e : (ai_stR h a j v).2.2.1 n i = h.2.2.1 n i := by
    show ai_uR h.2.2.1 a j v n i = _
    unfold ai_uR
    rw [if_neg hne]
  cases ty <;> first | rfl | (unfold ai_fv; dsimp only; rw [e])
theorem ai_fs_stR {a j ci y : Nat} (hj : j < jg_nf ci) (hty : (∃ C, jg_ty ci j = .object C) ∨ ∃ T, jg_ty ci j = .array T) : (ai_fs ad h a ci).set j (.ref (ad y)) = ai_fs ad (ai_stR h a j (some y)) a ci := by
  apply List.ext_getElem?
  intro k
  by_cases hk : k = j
  · subst hk
    rw [List.getElem?_set_self (by rw [ai_fs_len]; exact hj), ai_fs_get hj]
    rcases hty with ⟨C, hty⟩ | ⟨T, hty⟩
    · rw [hty]; simp [ai_fv, ai_stR, ai_uR, va_rf]
    · rw [hty]; simp [ai_fv, ai_stR, ai_uR, va_rf]
  · rw [List.getElem?_set_ne (Ne.symm hk)]
    by_cases hn : k < jg_nf ci
    · rw [ai_fs_get hn, ai_fs_get hn, ai_fv_stR (fun q => hk q.2)]
    · rw [List.getElem?_eq_none (by rw [ai_fs_len]; omega), List.getElem?_eq_none (by rw [ai_fs_len]; omega)]
theorem ai_en_stR {cA : Nat → ClassId} {a j n : Nat} {v : Option Nat} (hne : n ≠ a) : ai_en cA ad (ai_stR h a j v) n = ai_en cA ad h n := by
  have e2 : ∀ ci, ai_fs ad (ai_stR h a j v) n ci = ai_fs ad h n ci := fun ci => by
    unfold ai_fs
    exact List.map_congr_left fun i _ => ai_fv_stR (fun q => hne q.1)
  have e3 : ∀ i, (ai_stR h a j v).2.2.1 n i = h.2.2.1 n i := fun i => by
    show ai_uR h.2.2.1 a j v n i = _
    unfold ai_uR
    rw [if_neg (fun q => hne q.1)]
  unfold ai_en
  simp only [e2, e3]
  rfl
theorem ai_wf_stR {a j y : Nat} (w : ai_wf h names) (hy : y ∈ names) (q5 : ∀ ci, (h.2.2.2.1 a).1 = 20 + ci → j < jg_nf ci → ai_okf (ai_stR h a j (some y)) a j (ai_fk ci j)) (q4 : (h.2.2.2.1 a).1 = 4 → (h.2.2.2.1 y).1 = 24) (q5' : (h.2.2.2.1 a).1 = 5 → (h.2.2.2.1 y).1 = 28) : ai_wf (ai_stR h a j (some y)) names := by
  have e : ∀ n i, (ai_stR h a j (some y)).2.2.1 n i = if n = a ∧ i = j then some y else h.2.2.1 n i := fun n i => rfl
  obtain ⟨w1, w2, w3, w4, w5, w6, w7⟩ := w
  refine ⟨w1, w2, w3, ?_, ?_, ?_, ?_⟩
  · intro n hn i z hz
    rw [e] at hz
    split at hz
    · cases hz; exact hy
    · exact w4 n hn i z hz
  · intro n hn ci hci i hi
    by_cases hq : n = a ∧ i = j
    · obtain ⟨rfl, rfl⟩ := hq
      exact q5 ci hci hi
    · have o := w5 n hn ci hci i hi
      have e1 : (ai_stR h a j (some y)).2.2.1 n i = h.2.2.1 n i := by rw [e, if_neg hq]
      generalize ai_fk ci i = q at o ⊢
      obtain ⟨k1, k2, k3⟩ := q
      match k1 with
      | 0 => trivial
      | 1 => trivial
      | 2 => trivial
      | 3 => exact ⟨e1.trans o.1, o.2⟩
      | 4 => exact ⟨e1.trans o.1, o.2⟩
      | 5 => exact ⟨e1.trans o.1, o.2⟩
      | 6 => exact fun z hz => o z (e1.symm.trans hz)
      | 7 => exact fun z hz => o z (e1.symm.trans hz)
      | k1 + 8 => trivial
  · intro n hn hk i z hz
    rw [e] at hz
    split at hz
    · rename_i q
      cases hz
      exact q4 (by rw [← q.1]; exact hk)
    · exact w6 n hn hk i z hz
  · intro n hn hk i z hz
    rw [e] at hz
    split at hz
    · rename_i q
      cases hz
      exact q5' (by rw [← q.1]; exact hk)
    · exact w7 n hn hk i z hz
theorem ai_fk_out {ci j : Nat} (h : 13 ≤ ci) : ai_fk ci j = (9, 0, 0) := by
  have e : ai_fkl.getD ci [] = [] := by
    rw [List.getD_eq_getElem?_getD, List.getElem?_eq_none (by show 13 ≤ ci; exact h)]
    rfl
  unfold ai_fk
  rw [e]
  rfl
/-- a reference to a cell -/
theorem ai_okN {t n y : Nat} (hok : ai_ok names h (.inr (.inr (t, n, y)))) (hN : ai_isN t = true) : y ∈ names ∧ ai_cv O ad (.inr (.inr (t, n, y))) = .ref (ad y) := by
  have h1 : (1 ≤ t ∧ t ≤ 5) ∨ 20 ≤ t := by
    unfold ai_isN at hN
    rcases Bool.or_eq_true_iff.mp hN with q | q
    · obtain ⟨q1, q2⟩ := Bool.and_eq_true_iff.mp q
      rw [Nat.blt_eq] at q1 q2
      omega
    · exact Or.inr (Nat.ble_eq.mp q)
  refine ⟨?_, ai_cv_r h1⟩
  unfold ai_ok at hok
  dsimp only at hok
  rcases hok with q | q | q | q | q | q | q | q | q
  · omega
  · omega
  · omega
  · omega
  · omega
  · omega
  · exact q.2.2.1
  · exact q.2.2.1
  · exact q.2.2.1
theorem ai_mod20 {ci : Nat} (h : ci < 13) : (40 + ci) % 20 = ci := by omega
theorem sd_putfR {ci j kd x len o idx t l' a : Nat} {v : ai_V} (hx : p.tables.exec = Jvm.exec) (hb : c.code = cc) (hts : ∀ w ∈ ai_Ts, w.before args s = true) (hown : s.vm.findClass (ai_nmO o) = some m.cls) (hK : va_K O.1 vwCl (ai_tys O.2.1) s) (hco : ∀ ci, ci < 13 → ai_cok ci) (hfl : ai_FlokN o idx (ci, j, kd, x, len)) (m1 : meth.name = "<init>") (m2 : jg_R ci = ai_nmO o)
    (ht : t = 40 + ci) (hkt : (h.2.2.2.1 a).1 = t) (hd : decode cc pc = .ok (.putfield idx, 3)) (hk : ∀ st, k st = some r → ai_G p l e R s m args below meth c Q O A B st) (I : ai_I O s A B names ad (pc, L, v :: .inr (.inr (t, l', a)) :: S, h) H locs ls cells slots) (hr : ai_rawP h a (ci, j, kd, x, len) v (fun h => k (pc + 3, L, S, h)) = some r) :
    W p l e R s m args below meth c H locs cells slots Q (F0 m pc ls ((v :: .inr (.inr (t, l', a)) :: S).map (ai_cv O ad))) := by
  obtain ⟨f1, f2, f3, f4⟩ := hfl
  dsimp only at f1 f2 f3 f4
  have hw := I.1.2.2.2.1
  have hov := ai_okh I.okS
  have hrest := ai_okt (ai_okt I.okS)
  obtain ⟨a1, a0⟩ := ai_okN (O := O) (ad := ad) (ai_okh (ai_okt I.okS)) (show ai_isN t = true by
    unfold ai_isN
    rw [Bool.or_eq_true_iff]
    exact Or.inr (Nat.ble_eq.mpr (by omega)))
  have a2 : (h.2.2.2.1 a).1 = 40 + ci := hkt.trans ht
  have a3 : ai_en O.2.1 ad h a = .inr (ci, ai_fs ad h a ci) := by rw [ai_en_o a2 (by omega), ai_mod20 f1]
  obtain ⟨c1, c2⟩ := hco ci f1
  obtain ⟨c3, c4, c5, c6, c7⟩ := c2 j f2
  obtain ⟨q0, hq⟩ := ai_pos a1
  rw [← f4] at c4 c5 c7
  dsimp only at c4 c5 c7
  have key : ∀ h' : ai_H, ai_en O.2.1 ad h' a = .inr (ci, (ai_fs ad h a ci).set j (ai_cv O ad v)) → (∀ n, n ≠ a → ai_en O.2.1 ad h' n = ai_en O.2.1 ad h n) → narrow (jg_ty ci j) (ai_cv O ad v) = ai_cv O ad v → fits (jg_ty ci j) (ai_cv O ad v) = true → ai_wf h' names → h'.2.2.2 = h.2.2.2 → k (pc + 3, L, S, h') = some r → W p l e R s m args below meth c H locs cells slots Q (F0 m pc ls ((v :: .inr (.inr (t, l', a)) :: S).map (ai_cv O ad))) := by
    intro h' e1 e2 e3 e4 e6 e7 e8
    show W p l e R s m args below meth c H locs cells slots Q (F0 m pc ls (ai_cv O ad v :: ai_cv O ad (.inr (.inr (t, l', a))) :: S.map (ai_cv O ad)))
    rw [a0]
    have fin : ∀ (H1 : Heap) (locs1 : List Loc), va_P O.1 vwCl ((ai_ws O.2.1 ad h names).set q0 (ad a, .inr (ci, (ai_fs ad h a ci).set j (ai_cv O ad v)))) H1 → va_D A ((ai_ws O.2.1 ad h names).set q0 (ad a, .inr (ci, (ai_fs ad h a ci).set j (ai_cv O ad v)))) → va_S A s.heap H1 locs1 → W p l e R s m args below meth c H1 locs1 cells slots Q (F0 m (pc + 3) ls (S.map (ai_cv O ad))) := by
      intro H1 locs1 hP hD hS
      rw [ai_set hw.1 hq e1 e2] at hP hD
      exact hk _ e8 H1 locs1 cells slots names ad ls (I.mem hP hD hS e6 e7 hrest)
    cases hfin : (jg_T ci j).2.2.2 with
    | false => exact va_put hx hb hts c1 (jg_ty ci) (jg_tyok f1) (jg_nm f1) hown hK I.1.1 I.1.2.1 I.1.2.2.1 q0 (by rw [ai_at hq, a3]) (jg_cl f1) j f2 (hts _ f3) (fun _ q => by rw [c3] at q; exact q) hfin (jg_tyok f1 j f2) e3 e4 (by rw [ai_fs_len]; exact f2) hd fin
    | true => exact va_putF hx hb hts c1 (jg_ty ci) (jg_tyok f1) (jg_nm f1) hown hK I.1.1 I.1.2.1 I.1.2.2.1 q0 (by rw [ai_at hq, a3]) (jg_cl f1) j f2 (hts _ f3) (fun _ q => by rw [c3] at q; exact q) hfin m1 (c3.trans m2) (jg_tyok f1 j f2) e3 e4 (by rw [ai_fs_len]; exact f2) hd fin
  have keyI : ∀ y, v = .inl y → ai_isI (jg_ty ci j) = true → narrow (jg_ty ci j) (.int y) = .int y → fits (jg_ty ci j) (.int y) = true → k (pc + 3, L, S, ai_st h a j y) = some r → W p l e R s m args below meth c H locs cells slots Q (F0 m pc ls ((v :: .inr (.inr (t, l', a)) :: S).map (ai_cv O ad))) := by
    intro y hv hi e3 e4 hr2
    subst hv
    refine key (ai_st h a j y) ?_ (fun n hn => ai_en_st hn) e3 e4 (ai_wf_st _ _ _ hw) rfl hr2
    rw [ai_en_o (h := ai_st h a j y) a2 (by omega), ai_mod20 f1]
    show _ = Sum.inr (ci, (ai_fs ad h a ci).set j (.int y))
    rw [ai_fs_st f2 hi]
  have keyR : ∀ t' l2 y, v = .inr (.inr (t', l2, y)) → ((∃ C, jg_ty ci j = .object C) ∨ ∃ T, jg_ty ci j = .array T) → (bif ai_isN t' then k (pc + 3, L, S, ai_stR h a j (some y)) else none) = some r → W p l e R s m args below meth c H locs cells slots Q (F0 m pc ls ((v :: .inr (.inr (t, l', a)) :: S).map (ai_cv O ad))) := by
    intro t' l2 y hv hty hr2
    subst hv
    cases hN : ai_isN t' with
    | false => rw [hN] at hr2; cases hr2
    | true =>
      rw [hN] at hr2
      obtain ⟨y1, y2⟩ := ai_okN (O := O) (ad := ad) hov hN
      refine key (ai_stR h a j (some y)) ?_ (fun n hn => ai_en_stR hn) ?_ ?_ (ai_wf_stR hw y1 (fun ci' hci' _ => ?_) (fun q => by omega) (fun q => by omega)) rfl hr2
      · rw [ai_en_o (h := ai_stR h a j (some y)) a2 (by omega), ai_mod20 f1, y2, ai_fs_stR f2 hty]
      · rw [y2]; rcases hty with ⟨C, hC⟩ | ⟨T, hC⟩ <;> rw [hC] <;> rfl
      · rw [y2]; rcases hty with ⟨C, hC⟩ | ⟨T, hC⟩ <;> rw [hC] <;> rfl
      · rw [ai_fk_out (by omega : 13 ≤ ci')]; trivial
  match kd, v with
  | 0, .inl y => exact keyI y rfl (by cases hq : jg_ty ci j <;> rw [hq] at c4 <;> first | rfl | cases c4) (by cases hq : jg_ty ci j <;> rw [hq] at c4 <;> first | rfl | cases c4) (by cases hq : jg_ty ci j <;> rw [hq] at c4 <;> first | rfl | cases c4) hr
  | 1, .inl y =>
    have hb2 : jg_ty ci j = .boolean := by cases hq : jg_ty ci j <;> rw [hq] at c4 <;> first | rfl | cases c4
    change ai_b01 y (k (pc + 3, L, S, ai_st h a j y)) = some r at hr
    unfold ai_b01 at hr
    split at hr
    · rename_i h01
      exact keyI y rfl (by rw [hb2]; rfl) (by rw [hb2]; rcases h01 with rfl | rfl <;> rfl) (by rw [hb2]; rcases h01 with rfl | rfl <;> rfl) hr
    · cases hr
  | 2, .inr (.inl y) =>
    have hb2 : jg_ty ci j = .long := by cases hq : jg_ty ci j <;> rw [hq] at c4 <;> first | rfl | cases c4
    have hu : ∀ i, i < jg_nf ci → jg_ty ci i = .long → i = j := fun i hi hty => by
      obtain ⟨-, d4, -⟩ := c2 i hi
      refine c6 i hi ?_ (by rw [← f4])
      rw [hty] at d4
      generalize (ai_fk ci i).1 = q at d4
      match q with
      | 0 => cases d4
      | 1 => cases d4
      | 2 => rfl
      | 3 => cases d4
      | 4 => cases d4
      | 5 => cases d4
      | 6 => cases d4
      | 7 => cases d4
      | q + 8 => cases d4
    refine key (ai_stL h a y) ?_ (fun n hn => ai_en_stL hn) (by rw [hb2]; rfl) (by rw [hb2]; rfl) hw rfl hr
    rw [ai_en_o (h := ai_stL h a y) a2 (by omega), ai_mod20 f1]
    show _ = Sum.inr (ci, (ai_fs ad h a ci).set j (.long y))
    rw [ai_fs_stL f2 hb2 hu]
  | 3, .inr (.inr (t', l2, y)) => exact keyR t' l2 y rfl (by cases hq : jg_ty ci j <;> rw [hq] at c4 <;> first | exact Or.inl ⟨_, rfl⟩ | exact Or.inr ⟨_, rfl⟩ | cases c4) hr
  | 4, .inr (.inr (t', l2, y)) => exact keyR t' l2 y rfl (by cases hq : jg_ty ci j <;> rw [hq] at c4 <;> first | exact Or.inl ⟨_, rfl⟩ | exact Or.inr ⟨_, rfl⟩ | cases c4) hr
  | 5, .inr (.inr (t', l2, y)) => exact keyR t' l2 y rfl (by cases hq : jg_ty ci j <;> rw [hq] at c4 <;> first | exact Or.inl ⟨_, rfl⟩ | exact Or.inr ⟨_, rfl⟩ | cases c4) hr
  | 6, .inr (.inr (t', l2, y)) => exact keyR t' l2 y rfl (by cases hq : jg_ty ci j <;> rw [hq] at c4 <;> first | exact Or.inl ⟨_, rfl⟩ | exact Or.inr ⟨_, rfl⟩ | cases c4) hr
  | 7, .inr (.inr (t', l2, y)) => exact keyR t' l2 y rfl (by cases hq : jg_ty ci j <;> rw [hq] at c4 <;> first | exact Or.inl ⟨_, rfl⟩ | exact Or.inr ⟨_, rfl⟩ | cases c4) hr
  | 0, .inr _ => cases hr
  | 1, .inr _ => cases hr
  | 2, .inl _ => cases hr
  | 2, .inr (.inr _) => cases hr
  | 3, .inl _ => cases hr
  | 3, .inr (.inl _) => cases hr
  | 4, .inl _ => cases hr
  | 4, .inr (.inl _) => cases hr
  | 5, .inl _ => cases hr
  | 5, .inr (.inl _) => cases hr
  | 6, .inl _ => cases hr
  | 6, .inr (.inl _) => cases hr
  | 7, .inl _ => cases hr
  | 7, .inr (.inl _) => cases hr
  | kd + 8, _ => exact absurd (ai_fty_lt c4) (by omega)
theorem sd_putf {ct : Option (List (Nat × Nat))} {fl : Nat → Option ai_Fr} {o idx : Nat} (hx : p.tables.exec = Jvm.exec) (hb : c.code = cc) (hts : ∀ w ∈ ai_Ts, w.before args s = true) (hown : s.vm.findClass (ai_nmO o) = some m.cls) (hK : va_K O.1 vwCl (ai_tys O.2.1) s) (hco : ∀ ci, ci < 13 → ai_cok ci) (hfl : ∀ r, fl idx = some r → ai_Flok o idx r)
    (hct : ct.isSome = true → meth.name = "<init>" ∧ ∀ r, fl idx = some r → jg_R r.1 = ai_nmO o) (hd : decode cc pc = .ok (.putfield idx, 3)) (hk : ∀ st, k st = some r → ai_G p l e R s m args below meth c Q O A B st) (hr : ai_putf ct fl idx (pc, L, S, h) k = some r) : ai_G p l e R s m args below meth c Q O A B (pc, L, S, h) := by
  intro H locs cells slots names ad ls I
  rcases S with _ | ⟨v, S⟩
  · cases hr
  rcases S with _ | ⟨w | w | ⟨t, l', a⟩, S⟩
  · cases hr
  · cases hr
  · cases hr
  unfold ai_putf at hr
  dsimp only at hr
  cases hf : fl idx with
  | none => rw [hf] at hr; cases hr
  | some r0 =>
    rw [hf] at hr
    dsimp only at hr
    rcases hfl _ hf with ⟨f1, f2, f3, f4⟩ | ⟨e0, f3⟩ | ⟨e0, f3⟩
    rotate_left
    · subst e0
      have z : ∀ (b1 b2 : Bool) (q : Prop) [Decidable q], (bif b1 then (none : Option ai_R) else (bif b2 then (if q then none else none) else none)) = none := by
        intro b1 b2 q _; cases b1 <;> cases b2 <;> simp
      rcases v with v | v | ⟨t', l2, y⟩ <;> exact absurd (hr.symm.trans (z _ _ _)) (by intro q; cases q)
    · subst e0
      have z : ∀ (b1 b2 : Bool) (q : Prop) [Decidable q], (bif b1 then (none : Option ai_R) else (bif b2 then (if q then none else none) else none)) = none := by
        intro b1 b2 q _; cases b1 <;> cases b2 <;> simp
      rcases v with v | v | ⟨t', l2, y⟩ <;> exact absurd (hr.symm.trans (z _ _ _)) (by intro q; cases q)
    obtain ⟨ci, j, kd, x, len⟩ := r0
    dsimp only at f1 f2 f3 f4 hr
    cases hbt : Nat.beq t (20 + ci) with
    | false =>
      rw [hbt] at hr
      simp only [cond_false] at hr
      cases hbt2 : (ct.isSome && Nat.beq t (40 + ci)) with
      | false => rw [hbt2] at hr; cases hr
      | true =>
        rw [hbt2] at hr
        simp only [cond_true] at hr
        obtain ⟨hs, hb2⟩ := Bool.and_eq_true_iff.mp hbt2
        have ht := Nat.eq_of_beq_eq_true hb2
        by_cases hkt : (h.2.2.2.1 a).1 = t
        · rw [if_pos hkt] at hr
          obtain ⟨m1, m2⟩ := hct hs
          exact sd_putfR hx hb hts hown hK hco ⟨f1, f2, f3, f4⟩ m1 (m2 _ hf) ht hkt hd hk I hr
        · rw [if_neg hkt] at hr; cases hr
    | true =>
      rw [hbt] at hr
      simp only [cond_true] at hr
      have ht := Nat.eq_of_beq_eq_true hbt
      have hw := I.1.2.2.2.1
      obtain ⟨a1, a2, a3⟩ := ai_obj (O := O) (ad := ad) hw (ai_okh (ai_okt I.okS)) ht f1
      change (h.2.2.2.1 a).1 = 20 + ci at a2
      obtain ⟨c1, c2⟩ := hco ci f1
      obtain ⟨c3, c4, c5, c6, c7⟩ := c2 j f2
      obtain ⟨q0, hq⟩ := ai_pos a1
      rw [← f4] at c4 c5 c7
      dsimp only at c4 c5 c7
      have hov := ai_okh I.okS
      have hrest := ai_okt (ai_okt I.okS)
      have key : ∀ h' : ai_H, ai_en O.2.1 ad h' a = .inr (ci, (ai_fs ad h a ci).set j (ai_cv O ad v)) → (∀ n, n ≠ a → ai_en O.2.1 ad h' n = ai_en O.2.1 ad h n) → narrow (jg_ty ci j) (ai_cv O ad v) = ai_cv O ad v → fits (jg_ty ci j) (ai_cv O ad v) = true → (jg_T ci j).2.2.2 = false → ai_wf h' names → h'.2.2.2 = h.2.2.2 → k (pc + 3, L, S, h') = some r → W p l e R s m args below meth c H locs cells slots Q (F0 m pc ls ((v :: .inr (.inr (t, l', a)) :: S).map (ai_cv O ad))) := by
        intro h' e1 e2 e3 e4 e5 e6 e7 e8
        show W p l e R s m args below meth c H locs cells slots Q (F0 m pc ls (ai_cv O ad v :: ai_cv O ad (.inr (.inr (t, l', a))) :: S.map (ai_cv O ad)))
        rw [ai_cv_r (l := l') (Or.inr (by omega : 20 ≤ t))]
        refine va_put hx hb hts c1 (jg_ty ci) (jg_tyok f1) (jg_nm f1) hown hK I.1.1 I.1.2.1 I.1.2.2.1 q0 (by rw [ai_at hq, a3]) (jg_cl f1) j f2 (hts _ f3) (fun _ q => by rw [c3] at q; exact q) e5 (jg_tyok f1 j f2) e3 e4 (by rw [ai_fs_len]; exact f2) hd (fun H1 locs1 hP hD hS => ?_)
        rw [ai_set hw.1 hq e1 e2] at hP hD
        exact hk _ e8 H1 locs1 cells slots names ad ls (I.mem hP hD hS e6 e7 hrest)
      match kd, v with
      | 0, .inl y =>
        have hi : ai_isI (jg_ty ci j) = true := by cases hq : jg_ty ci j <;> rw [hq] at c4 <;> first | rfl | cases c4
        refine key (ai_st h a j y) ?_ (fun n hn => ai_en_st hn) ?_ ?_ (c5 (Or.inl rfl)) (ai_wf_st _ _ _ hw) rfl hr
        · have e1 : (20 + ci) % 20 = ci := by omega
          rw [ai_en_o (h := ai_st h a j y) a2 (by omega), e1]
          show _ = Sum.inr (ci, (ai_fs ad h a ci).set j (.int y))
          rw [ai_fs_st f2 hi]
        · cases hq : jg_ty ci j <;> rw [hq] at c4 <;> first | rfl | cases c4
        · cases hq : jg_ty ci j <;> rw [hq] at c4 <;> first | rfl | cases c4
      | 1, .inl y =>
        have hi : ai_isI (jg_ty ci j) = true := by cases hq : jg_ty ci j <;> rw [hq] at c4 <;> first | rfl | cases c4
        have hb2 : jg_ty ci j = .boolean := by cases hq : jg_ty ci j <;> rw [hq] at c4 <;> first | rfl | cases c4
        change ai_b01 y (k (pc + 3, L, S, ai_st h a j y)) = some r at hr
        unfold ai_b01 at hr
        split at hr
        · rename_i h01
          refine key (ai_st h a j y) ?_ (fun n hn => ai_en_st hn) ?_ ?_ (c5 (Or.inr (Or.inl rfl))) (ai_wf_st _ _ _ hw) rfl hr
          · have e1 : (20 + ci) % 20 = ci := by omega
            rw [ai_en_o (h := ai_st h a j y) a2 (by omega), e1]
            show _ = Sum.inr (ci, (ai_fs ad h a ci).set j (.int y))
            rw [ai_fs_st f2 hi]
          · rw [hb2]; rcases h01 with rfl | rfl <;> rfl
          · rw [hb2]; rcases h01 with rfl | rfl <;> rfl
        · cases hr
      | 2, .inr (.inl y) =>
        have hb2 : jg_ty ci j = .long := by cases hq : jg_ty ci j <;> rw [hq] at c4 <;> first | rfl | cases c4
        have hu : ∀ i, i < jg_nf ci → jg_ty ci i = .long → i = j := fun i hi hty => by
          obtain ⟨-, d4, -⟩ := c2 i hi
          refine c6 i hi ?_ (by rw [← f4])
          rw [hty] at d4
          generalize (ai_fk ci i).1 = q at d4
          match q with
          | 0 => cases d4
          | 1 => cases d4
          | 2 => rfl
          | 3 => cases d4
          | 4 => cases d4
          | 5 => cases d4
          | 6 => cases d4
          | 7 => cases d4
          | q + 8 => cases d4
        refine key (ai_stL h a y) ?_ (fun n hn => ai_en_stL hn) ?_ ?_ (c5 (Or.inr (Or.inr (Or.inl rfl)))) hw rfl hr
        · have e1 : (20 + ci) % 20 = ci := by omega
          rw [ai_en_o (h := ai_stL h a y) a2 (by omega), e1]
          show _ = Sum.inr (ci, (ai_fs ad h a ci).set j (.long y))
          rw [ai_fs_stL f2 hb2 hu]
        · rw [hb2]; rfl
        · rw [hb2]; rfl
      | 6, .inr (.inr (t', l2, y)) =>
        change (if t' = 20 + x then k (pc + 3, L, S, ai_stR h a j (some y)) else none) = some r at hr
        split at hr
        · rename_i ht'
          obtain ⟨C, hC⟩ : ∃ C, jg_ty ci j = .object C := by
            cases hq : jg_ty ci j <;> rw [hq] at c4 <;> first | exact ⟨_, rfl⟩ | cases c4
          have hy : y ∈ names ∧ ((h.2.2.2.1 y).1 = t' ∨ (h.2.2.2.1 y).1 + 20 = t') := by
            unfold ai_ok at hov
            dsimp only at hov
            rcases hov with q | q | q | q | q | q | q | q | q
            · omega
            · omega
            · omega
            · omega
            · omega
            · omega
            · omega
            · exact ⟨q.2.2.1, Or.inl q.2.2.2⟩
            · exact ⟨q.2.2.1, q.2.2.2⟩
          by_cases hlt : (h.2.2.2.1 y).1 = t'
          · have ecv : ai_cv O ad (.inr (.inr (t', l2, y))) = .ref (ad y) := ai_cv_r (Or.inr (by omega))
            refine key (ai_stR h a j (some y)) ?_ (fun n hn => ai_en_stR hn) ?_ ?_ (c5 (Or.inr (Or.inr (Or.inr rfl)))) (ai_wf_stR hw hy.1 (fun ci' hci' _ => ?_) (fun q => by omega) (fun q => by omega)) rfl hr
            · have e1 : (20 + ci) % 20 = ci := by omega
              rw [ai_en_o (h := ai_stR h a j (some y)) a2 (by omega), e1, ecv, ai_fs_stR f2 (Or.inl ⟨C, hC⟩)]
            · rw [hC, ecv]; rfl
            · rw [hC, ecv]; rfl
            · have : ci' = ci := by omega
              subst this
              rw [← f4]
              intro z hz
              have e1 : (ai_stR h a j (some y)).2.2.1 a j = some y := by
                show ai_uR h.2.2.1 a j (some y) a j = _
                simp [ai_uR]
              rw [e1] at hz
              cases hz
              exact hlt.trans ht'
          · have ecv : ai_cv O ad (.inr (.inr (t', l2, y))) = .ref (ad y) := ai_cv_r (Or.inr (by omega))
            exfalso
            unfold ai_ok at hov
            dsimp only at hov
            rcases hov with q | q | q | q | q | q | q | q | q
            · omega
            · omega
            · omega
            · omega
            · omega
            · omega
            · omega
            · exact hlt q.2.2.2
            · have hx13 : x < 13 := c7 rfl
              omega
        · cases hr
      | 0, .inr _ => cases hr
      | 1, .inr _ => cases hr
      | 2, .inl _ => cases hr
      | 2, .inr (.inr _) => cases hr
      | 3, _ => cases hr
      | 4, _ => cases hr
      | 5, _ => cases hr
      | 6, .inl _ => cases hr
      | 6, .inr (.inl _) => cases hr
      | 7, _ => cases hr
      | kd + 8, _ => cases hr
theorem sd_aast_x {t n a ci y l' : Nat} {i : Int32} (hx : p.tables.exec = Jvm.exec) (hb : c.code = cc) (hK : va_K O.1 vwCl (ai_tys O.2.1) s) (ht : 4 ≤ t ∧ t ≤ 5) (hci : ci < 13) (hty : (ai_tys O.2.1)[t]? = some (O.2.1 t, .object (jg_R ci))) (h4 : t = 4 → ci = 4) (h5 : t = 5 → ci = 8)
    (hd : decode cc pc = .ok (.aastore, 1)) (hk : ∀ st, k st = some r → ai_G p l e R s m args below meth c Q O A B st) (hr : ai_ix i n (fun j => k (pc + 1, L, S, ai_stR h a j (some y))) = some r) : ai_G p l e R s m args below meth c Q O A B (pc, L, .inr (.inr (20 + ci, l', y)) :: .inl i :: .inr (.inr (t, n, a)) :: S, h) := by
  intro H locs cells slots names ad ls I
  obtain ⟨i1, i2⟩ := ai_ix_some hr
  have hw := I.1.2.2.2.1
  obtain ⟨a1, a2⟩ := ai_arr (ai_okh (ai_okt (ai_okt I.okS))) (by omega) (by omega)
  obtain ⟨b1, b2, b3⟩ := ai_obj (O := O) (ad := ad) hw (ai_okh I.okS) rfl hci
  obtain ⟨q0, hq⟩ := ai_pos a1
  obtain ⟨q1, hq1⟩ := ai_pos b1
  show W p l e R s m args below meth c H locs cells slots Q (F0 m pc ls (ai_cv O ad (.inr (.inr (20 + ci, l', y))) :: .int i :: ai_cv O ad (.inr (.inr (t, n, a))) :: S.map (ai_cv O ad)))
  rw [ai_cv_r (t := t) (Or.inl (by omega)), ai_cv_r (t := 20 + ci) (Or.inr (by omega))]
  refine va_astq hx hb hK I.1.1 I.1.2.1 I.1.2.2.1 q0 t q1 ci (r := (jg_R ci, jg_T ci, jg_nf ci)) (by rw [ai_at hq, ai_en_r a2 (by omega) (by omega)]) hty (by rw [ai_at hq1, b3]) (jg_cl hci) i1 hd (fun H1 locs1 hP hD hS => ?_)
  have e1 : ai_en O.2.1 ad (ai_stR h a i.toNatClampNeg (some y)) a = .inl (O.2.1 t, n, .inr (.inr (.inr (.inr (va_up (fun j => (h.2.2.1 a j).map ad) i.toNatClampNeg (some (ad y))))))) := by
    rw [ai_en_r (h := ai_stR h a i.toNatClampNeg (some y)) a2 (by omega) (by omega)]
    have e2 : (fun j => ((ai_stR h a i.toNatClampNeg (some y)).2.2.1 a j).map ad) = va_up (fun j => (h.2.2.1 a j).map ad) i.toNatClampNeg (some (ad y)) := by
      funext j
      show (ai_uR h.2.2.1 a i.toNatClampNeg (some y) a j).map ad = _
      by_cases hj : j = i.toNatClampNeg
      · simp [ai_uR, va_up, hj]
      · simp [ai_uR, va_up, hj]
    rw [e2]
  rw [ai_set hw.1 hq e1 (fun x hx => ai_en_stR hx)] at hP hD
  refine hk _ i2 H1 locs1 cells slots names ad ls (I.mem hP hD hS (ai_wf_stR hw b1 (fun ci' hci' _ => ?_) (fun q => ?_) (fun q => ?_)) rfl (ai_okt (ai_okt (ai_okt I.okS))))
  · rw [a2] at hci'; dsimp only at hci'; omega
  · rw [a2] at q; dsimp only at q; rw [b2, h4 q]
  · rw [a2] at q; dsimp only at q; rw [b2, h5 q]
theorem sd_aast (hx : p.tables.exec = Jvm.exec) (hb : c.code = cc) (hK : va_K O.1 vwCl (ai_tys O.2.1) s) (hd : decode cc pc = .ok (.aastore, 1)) (hk : ∀ st, k st = some r → ai_G p l e R s m args below meth c Q O A B st) (hr : ai_aast (pc, L, S, h) k = some r) : ai_G p l e R s m args below meth c Q O A B (pc, L, S, h) := by
  unfold ai_aast at hr
  split at hr
  · rename_i e1
    cases e1
    split at hr
    · rename_i ht
      subst ht
      exact sd_aast_x (ci := 4) hx hb hK ⟨by omega, by omega⟩ (by omega) rfl (fun _ => rfl) (fun q => by omega) hd hk hr
    · cases hr
  · rename_i e1
    cases e1
    split at hr
    · rename_i ht
      subst ht
      exact sd_aast_x (ci := 8) hx hb hK ⟨by omega, by omega⟩ (by omega) rfl (fun q => by omega) (fun _ => rfl) hd hk hr
    · cases hr
  · cases hr
/-- a method's answer, and its world behind it -/
def ai_rv (O : ai_Om) (ad : Nat → Nat) (l : List ai_V) : Option Value := match l with
  | [] => none
  | v :: _ => some (ai_cv O ad v)
def ai_Qc (O : ai_Om) (A : Nat → Prop) (B : ai_Bg) (r : ai_R) : Array Value → State → Outcome → State → Prop := fun _ st oc t =>
  (∃ (names : List Nat) (ad : Nat → Nat), oc = .returned (ai_rv O ad r.1) ∧ ai_ext B names ad r.2 ∧ va_P O.1 vwCl (ai_ws O.2.1 ad r.2 names) t.heap ∧ va_D A (ai_ws O.2.1 ad r.2 names) ∧ ai_wf r.2 names ∧ ∀ v ∈ r.1, ai_ok names r.2 v) ∧ va_F A st t
theorem ai_I.end (I : ai_I O s A B names ad (pc, L, S, h) H locs ls cells slots) {vs : List ai_V} (hv : ∀ v ∈ vs, ai_ok names h v) : ∀ t : State, t.heap = H → ai_Qc O A B (vs, h) args s (.returned (ai_rv O ad vs)) t := by
  obtain ⟨⟨h1, h2, h3, h4, h5, h6, h7, h8, h9⟩, h10, h11, hL, h12, h13⟩ := I
  intro t ht
  exact ⟨⟨names, ad, rfl, h10, by rw [ht]; exact h1, h2, h4, hv⟩, h3.F ht⟩
def ai_rty (bo : Nat) (ty : FieldType) : Bool := match bo, ty with
  | 0, .int => true
  | 1, .boolean => true
  | 1, .byte => true
  | 2, .char => true
  | _, _ => false
theorem sd_iret {mc ms : Nat} {bo : Nat} {rt : FieldType} (hx : p.tables.exec = Jvm.exec) (hb : c.code = cc) (hlk : meth.locks = false) (hrt : meth.sig.returnType = some rt) (hty : ai_rty bo rt = true) (hQ : Q = MQ below (ai_Qc O A B r) args s mc ms A) (hmc : mc + B.2.2.2.2.2.2.2.2.1 = r.2.2.2.2.2.2.1) (hms : ms + B.2.2.2.2.2.2.2.2.2 = r.2.2.2.2.2.2.2)
    (hd : decode cc pc = .ok (.ireturn, 1)) (hr : ai_ret bo (pc, L, S, h) = some r) : ai_G p l e R s m args below meth c Q O A B (pc, L, S, h) := by
  intro H locs cells slots names ad ls I
  rcases S with _ | ⟨v | v, S⟩
  · cases hr
  · rcases S with _ | ⟨w, S⟩
    · have hr' : r = ([.inl v], h) ∧ narrow rt (.int v) = .int v := by
        unfold ai_ret at hr
        dsimp only at hr
        match bo, hty, hr with
        | 0, hty, hr =>
          cases hr
          cases rt <;> first | exact ⟨rfl, rfl⟩ | cases hty
        | 1, hty, hr =>
          change ai_b01 v (some ([.inl v], h)) = some r at hr
          unfold ai_b01 at hr
          split at hr
          · rename_i h01
            cases hr
            refine ⟨rfl, ?_⟩
            cases rt <;> first | (rcases h01 with rfl | rfl <;> rfl) | cases hty
          · cases hr
        | 2, hty, hr =>
          change (if ai_i2c v = v then some ([.inl v], h) else none) = some r at hr
          split at hr
          · rename_i h2
            cases hr
            refine ⟨rfl, ?_⟩
            cases rt <;> first | exact congrArg Value.int h2 | cases hty
          · cases hr
        | bo + 3, hty, hr => cases rt <;> cases hty
      obtain ⟨rfl, hn⟩ := hr'
      obtain ⟨-, -, -, -, h12, h13⟩ := id I
      dsimp only at h12 h13 hmc hms
      have e1 : cells = mc := by omega
      have e2 : slots = ms := by omega
      subst e1; subst e2
      rw [hQ]
      exact W.zret hx hb hrt hn (fun t ht _ => I.end (vs := [.inl v]) (fun w hw => I.okS w hw) t ht) I.1.2.2.1.2.2 hd
    · cases hr
  · cases hr
theorem sd_aret {mc ms : Nat} {rt : FieldType} (hx : p.tables.exec = Jvm.exec) (hb : c.code = cc) (hlk : meth.locks = false) (hrt : meth.sig.returnType = some rt) (hty : (∃ n, rt = .object n) ∨ ∃ t, rt = .array t) (hQ : Q = MQ below (ai_Qc O A B r) args s mc ms A) (hmc : mc + B.2.2.2.2.2.2.2.2.1 = r.2.2.2.2.2.2.1) (hms : ms + B.2.2.2.2.2.2.2.2.2 = r.2.2.2.2.2.2.2)
    (hd : decode cc pc = .ok (.areturn, 1)) (hr : ai_aret (pc, L, S, h) = some r) : ai_G p l e R s m args below meth c Q O A B (pc, L, S, h) := by
  intro H locs cells slots names ad ls I
  rcases S with _ | ⟨v | v | ⟨t, n, a⟩, S⟩
  · cases hr
  · cases hr
  · cases hr
  · rcases S with _ | ⟨w, S⟩
    · cases hr
      obtain ⟨-, -, -, -, h12, h13⟩ := id I
      dsimp only at h12 h13 hmc hms
      have e1 : cells = mc := by omega
      have e2 : slots = ms := by omega
      subst e1; subst e2
      rw [hQ]
      exact W.aret hx hb hrt hty (ai_cv_rn ad t n a) (fun t' ht _ => I.end (vs := [.inr (.inr (t, n, a))]) (fun w hw => I.okS w hw) t' ht) I.1.2.2.1.2.2 hd
    · cases hr
theorem sd_vret {mc ms : Nat} (hx : p.tables.exec = Jvm.exec) (hb : c.code = cc) (hlk : meth.locks = false) (hrt : meth.sig.returnType = none) (hQ : Q = MQ below (ai_Qc O A B r) args s mc ms A) (hmc : mc + B.2.2.2.2.2.2.2.2.1 = r.2.2.2.2.2.2.1) (hms : ms + B.2.2.2.2.2.2.2.2.2 = r.2.2.2.2.2.2.2)
    (hd : decode cc pc = .ok (.return_, 1)) (hr : ai_vret (pc, L, S, h) = some r) : ai_G p l e R s m args below meth c Q O A B (pc, L, S, h) := by
  intro H locs cells slots names ad ls I
  rcases S with _ | ⟨v, S⟩
  · cases hr
    obtain ⟨-, -, -, -, h12, h13⟩ := id I
    dsimp only at h12 h13 hmc hms
    have e1 : cells = mc := by omega
    have e2 : slots = ms := by omega
    subst e1; subst e2
    rw [hQ]
    exact W.vret hx hb hrt (fun t ht _ => I.end (vs := []) (fun w hw => by cases hw) t ht) I.1.2.2.1.2.2 hd
  · cases hr
end SD
