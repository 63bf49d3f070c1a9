/-! A CONDITION, AS THE REFERENCE READS IT: whole -/
noncomputable def zcst (m e : Nat) (x : Option ai_V) (v2 : Int32) (h : ai_H) : Option ai_R := if m = 2 then zCL e v2 h else if m = 4 then zDL e v2 h else zRC e x h
noncomputable def zcen (m e : Nat) (v2 : Int32) (h : ai_H) : Option ai_R := if m = 0 then zCL e v2 h else if m = 1 ∨ m = 2 then zDL e v2 h else zEL e v2 h
def zpq (m j : Nat) : List zSt := if m = 2 then zp2 j else if m = 4 then zp3 j else []
theorem zp2_len {j : Nat} : (zp2 j).length = j % 2 := by
  unfold zp2
  by_cases c : j % 2 = 1
  · rw [if_pos c, c]; rfl
  · rw [if_neg c]
    show 0 = _
    omega
theorem zp3_len {j : Nat} (h : j < 4) : (zp3 j).length = j / 2 := by
  unfold zp3
  by_cases c : 2 ≤ j
  · rw [if_pos c]
    show 1 = _
    omega
  · rw [if_neg c]
    show 0 = _
    omega
theorem zFq_tr {w0 : Nat} {r : Option ai_R} {h h1 : ai_H} {t : Nat} (g : zG (zQm w0) h h1) (f : zFq w0 r h1 t) : zFq w0 r h t := by
  obtain ⟨h', a, b, c, d⟩ := f
  exact ⟨h', a, b, c, zG_te g d⟩
theorem zuq_i {f : Nat → Int32} {o : Nat} {v : Int32} : zuq f o v o = v := by unfold zuq; rw [if_pos rfl]
theorem zuq_n {f : Nat → Int32} {o i : Nat} {v : Int32} (h : ¬ i = o) : zuq f o v i = f i := by unfold zuq; rw [if_neg h]
theorem zuq_u {f : Nat → Int32} {o i : Nat} {v w : Int32} : zuq f o w i = zuq (zuq f o v) o w i := by
  by_cases c : i = o
  · rw [c, zuq_i, zuq_i]
  · rw [zuq_n c, zuq_n c, zuq_n c]
theorem zuq_s {f : Nat → Int32} {o i : Nat} {v : Int32} (e : f o = v) : zuq f o v i = f i := by
  by_cases c : i = o
  · rw [c, zuq_i, e]
  · rw [zuq_n c]
def zMg (B : Nat → Nat) (n w0 m o s : Nat) (c : List zSt) (t : Nat) (b : Bool) : Prop := ∀ e op jn l h j x v2, j < 4 → jn o = nI j → o ≤ 9 → s ≤ n → zMst B n w0 h s l o op jn → l.length + (if m = 4 then 0 else j % 2) + j / 2 ≤ s → (1 ≤ m → o = 0 ∨ op (o - 1) = 2) → (m = 1 → j % 2 = 0) → (m = 3 → j = 0) →
  (b = false → zFq w0 (zcst m e x v2 h) h t) ∧ (b = true → ∃ v' h' j', zcst m e x v2 h = zcen m e v' h' ∧ zMst B n w0 h' t (l ++ zpq m j ++ c) o op (zuq jn o (nI j')) ∧ j' < 4 ∧ (m = 0 → j' = j) ∧ (m = 1 ∨ m = 2 → j' / 2 = j / 2) ∧ (3 ≤ m → ¬ zwv B n t = 423) ∧ zG (zQm w0) h h')
theorem zMg_all {B : Nat → Nat} {n w0 : Nat} (hb : ∀ i, B i < 256) (hn : n ≤ 500) (hw : w0 ≤ 19000) : ∀ f m o s c t b, zpD B n f m o s c t b → zMg B n w0 m o s c t b := by
  have wd : ∀ {s W}, 0 < W → zwv B n s = W → ¬ zkd B n s = 0 := fun h1 h2 h3 => by rw [zwv_w h1 h2] at h3; cases h3
  have pn : ∀ {s}, zkd B n s = 3 ∧ B s = 40 → ¬ zwv B n s = 10631 := fun h1 h2 => by have := zwv_w (by decide) h2; omega
  intro f
  induction f with
  | zero => intro m o s c t b h; exact h.elim
  | succ f ih =>
    intro m o s c t b hD e op jn l g j x v2 hj hjn ho9 hs a hl htop hm1 hm3
    have a1 := ztn_le (B := B) hs
    have X : ∀ {m o s c t b}, zpD B n f m o s c t b → zMg B n w0 m o s c t b := fun r => ih _ _ _ _ _ _ r
    rcases hD with ⟨rfl, rfl, rfl, rfl, p1, p2⟩ | ⟨rfl, rfl, rfl, rfl, p1, p2, p3⟩ | ⟨rfl, rfl, rfl, rfl, p1, p2, p3, p4⟩ | ⟨rfl, rfl, rfl, rfl, p1, p2, p3, p4⟩ | ⟨rfl, rfl, rfl, rfl, p1, ho⟩ | ⟨rfl, rfl, p1, ho, r1⟩ | ⟨rfl, rfl, p1, ho, c1, rfl, r1⟩ | ⟨rfl, rfl, p1, ho, r1⟩ | ⟨rfl, rfl, p1, ho, r1, p2⟩ | ⟨rfl, rfl, p1, ho, t1, rfl, r1, p2⟩ | ⟨rfl, rfl, r1⟩ | ⟨rfl, c1, c2, t1, rfl, r1, r2⟩ | ⟨rfl, rfl, rfl, rfl, p1⟩ | ⟨rfl, rfl, p1, r1⟩ | ⟨rfl, p1, c1, c2, t1, rfl, r1, r2⟩ | ⟨rfl, rfl, r1⟩ | ⟨rfl, c1, c2, t1, rfl, r1, r2⟩ | ⟨rfl, rfl, rfl, rfl, p1⟩ | ⟨rfl, rfl, p1, r1⟩ | ⟨rfl, p1, c1, c2, t1, rfl, r1, r2⟩
    · exact ⟨fun _ => RC_bad e _ hb a p1 ((M232 (e + 1) hb hn hs a (by omega)).1 p2), fun q => (by cases q)⟩
    · exact ⟨fun _ => RC_bad e _ hb a p1 ((M232 (e + 1) hb hn hs a (by omega)).2.1 p2 p3), fun q => (by cases q)⟩
    · exact ⟨fun _ => RC_bad e _ hb a p1 ((M232 (e + 1) hb hn hs a (by omega)).2.2.1 p2 p3 p4), fun q => (by cases q)⟩
    · obtain ⟨h', d1, d2, d3⟩ := (M232 (e + 1) hb hn hs a (by omega)).2.2.2 p2 p3 p4
      refine ⟨fun q => (by cases q), fun _ => ⟨0, h', j, RC_cmp e hb a p1 d1 d2, ?_, hj, fun _ => rfl, fun q => (by omega), fun q => (by omega), d3⟩⟩
      have : l ++ zpq 0 j = l := List.append_nil l
      rw [this]
      exact zMst_w d2 (fun _ _ => rfl) (fun i _ => zuq_s hjn)
    · have : o = 9 := by omega
      subst this
      exact ⟨fun _ => RC_deep e hb a p1, fun q => (by cases q)⟩
    · obtain ⟨x', h1, b1, b2, b3⟩ := RC_pre (x := x) e hb hn hs ho a (Or.inl p1)
      have I := (X r1 e _ _ l h1 0 x' v2 (by decide) zuq_i (by omega) a1.2.1 b2 (by rw [if_neg (by decide)]; rw [if_neg (by decide)] at hl; omega) (fun q => absurd q (by decide)) (fun q => (by cases q)) (fun q => (by cases q))).1 rfl
      refine ⟨fun _ => ?_, fun q => (by cases q)⟩
      show zFq w0 (zRC e x g) g t
      rw [b1]
      exact zFq_tr b3 I
    · obtain ⟨x', h1, b1, b2, b3⟩ := RC_pre (x := x) e hb hn hs ho a (Or.inl p1)
      obtain ⟨v', h2, j', d1, d2, d3, -, -, -, d7⟩ := (X r1 e _ _ l h1 0 x' v2 (by decide) zuq_i (by omega) a1.2.1 b2 (by rw [if_neg (by decide)]; rw [if_neg (by decide)] at hl; omega) (fun q => absurd q (by decide)) (fun q => (by cases q)) (fun q => (by cases q))).2 rfl
      have d1 : zRC e x' h1 = zCL e v' h2 := d1
      have ln := zpD_len r1 a1.2.1
      have e0 : l ++ zpq 0 0 ++ c1 = l ++ c1 := by rw [show l ++ zpq 0 0 = l from List.append_nil l]
      rw [e0] at d2
      rw [if_neg (by decide)] at hl
      obtain ⟨h3, g1, g2, g3⟩ := CL_not (v2 := v') e d2 (by omega) (by rw [zuq_i, if_pos p1]) (by rw [List.length_append]; omega)
      refine ⟨fun q => (by cases q), fun _ => ⟨v', h3, j, ?_, ?_, hj, fun _ => rfl, fun q => (by omega), fun q => (by omega), zG_tr b3 (zG_tr d7 g3)⟩⟩
      · show zRC e x g = zCL e v' h3
        rw [b1, d1, g1]
      · rw [show l ++ zpq 0 j = l from List.append_nil l, ← List.append_assoc]
        refine zMst_w g2 (fun i hi => ?_) (fun i hi => ?_)
        · rw [zuq_n (by omega)]
        · rw [zuq_s hjn, zuq_n (by omega), zuq_n (by omega)]
    · obtain ⟨x', h1, b1, b2, b3⟩ := RC_pre (x := x) e hb hn hs ho a (Or.inr p1)
      have I := (X r1 e _ _ l h1 0 x' v2 (by decide) zuq_i (by omega) a1.2.1 b2 (by rw [if_neg (by decide)]; rw [if_neg (by decide)] at hl; omega) (fun _ => Or.inr (by rw [Nat.add_sub_cancel, zuq_i, if_neg (pn p1)])) (fun q => (by cases q)) (fun _ => rfl)).1 rfl
      refine ⟨fun _ => ?_, fun q => (by cases q)⟩
      show zFq w0 (zRC e x g) g t
      rw [b1]
      exact zFq_tr b3 I
    · obtain ⟨x', h1, b1, b2, b3⟩ := RC_pre (x := x) e hb hn hs ho a (Or.inr p1)
      obtain ⟨v', h2, j', d1, d2, d3, -, -, d6, d7⟩ := (X r1 e _ _ l h1 0 x' v2 (by decide) zuq_i (by omega) a1.2.1 b2 (by rw [if_neg (by decide)]; rw [if_neg (by decide)] at hl; omega) (fun _ => Or.inr (by rw [Nat.add_sub_cancel, zuq_i, if_neg (pn p1)])) (fun q => (by cases q)) (fun _ => rfl)).2 rfl
      have d1 : zRC e x' h1 = zEL e v' h2 := d1
      have ln := zpD_len r1 a1.2.1
      have I := (EL_is (v2 := v') e hb hn ln.2.1 d2 (by omega) (d6 (by decide))).2 p2
      refine ⟨fun _ => ?_, fun q => (by cases q)⟩
      show zFq w0 (zRC e x g) g t
      rw [b1, d1]
      exact zFq_tr (zG_tr b3 d7) I
    · obtain ⟨x', h1, b1, b2, b3⟩ := RC_pre (x := x) e hb hn hs ho a (Or.inr p1)
      obtain ⟨v', h2, j', d1, d2, d3, -, -, d6, d7⟩ := (X r1 e _ _ l h1 0 x' v2 (by decide) zuq_i (by omega) a1.2.1 b2 (by rw [if_neg (by decide)]; rw [if_neg (by decide)] at hl; omega) (fun _ => Or.inr (by rw [Nat.add_sub_cancel, zuq_i, if_neg (pn p1)])) (fun q => (by cases q)) (fun _ => rfl)).2 rfl
      have d1 : zRC e x' h1 = zEL e v' h2 := d1
      have ln := zpD_len r1 a1.2.1
      obtain ⟨h3, g1, g2, g3⟩ := (EL_is (v2 := v') e hb hn ln.2.1 d2 (by omega) (d6 (by decide))).1 p2
      refine ⟨fun q => (by cases q), fun _ => ⟨v', h3, j, ?_, ?_, hj, fun _ => rfl, fun q => (by omega), fun q => (by omega), zG_tr b3 (zG_tr d7 g3)⟩⟩
      · show zRC e x g = zCL e v' h3
        rw [b1, d1, g1]
      · rw [show l ++ zpq 3 0 = l from List.append_nil l] at g2
        rw [show l ++ zpq 0 j = l from List.append_nil l]
        refine zMst_w g2 (fun i hi => ?_) (fun i hi => ?_)
        · rw [zuq_n (by omega)]
        · rw [zuq_s hjn, zuq_n (by omega), zuq_n (by omega)]
    · rw [if_neg (by decide)] at hl
      have I := (X r1 e op jn l g j x v2 hj hjn ho9 hs a (by rw [if_neg (by decide)]; omega) (fun q => absurd q (by decide)) (fun q => (by cases q)) (fun q => (by cases q))).1 rfl
      exact ⟨fun _ => I, fun q => (by cases q)⟩
    · rw [if_neg (by decide)] at hl
      have m1 := hm1 rfl
      obtain ⟨v', h2, j', d1, d2, d3, d4, -, -, d7⟩ := (X r1 e op jn l g j x v2 hj hjn ho9 hs a (by rw [if_neg (by decide)]; omega) (fun q => absurd q (by decide)) (fun q => (by cases q)) (fun q => (by cases q))).2 rfl
      have d4 := d4 rfl
      subst d4
      have d1 : zRC e x g = zCL e v' h2 := d1
      rw [show l ++ zpq 0 j' = l from List.append_nil l] at d2
      have ln := zpD_len r1 hs
      have I := X r2 e op (zuq jn o (nI j')) (l ++ c1) h2 j' x v' hj zuq_i ho9 ln.2.1 d2 (by rw [if_neg (by decide), List.length_append]; omega) (fun _ => htop (by decide)) (fun q => (by cases q)) (fun q => (by cases q))
      have st : zcst 1 e x v2 g = zcst 2 e x v' h2 := d1
      rw [st]
      refine ⟨fun q => zFq_tr d7 (I.1 q), fun q => ?_⟩
      obtain ⟨v3, h3, j3, g1, g2, g3, -, g5, -, g7⟩ := I.2 q
      refine ⟨v3, h3, j3, g1, ?_, g3, fun q => (by cases q), fun _ => g5 (Or.inr rfl), fun q => (by omega), zG_tr d7 g7⟩
      have z2 : zp2 j' = [] := by unfold zp2; rw [if_neg (by omega)]
      have e0 : l ++ c1 ++ zpq 2 j' ++ c2 = l ++ zpq 1 j' ++ (c1 ++ c2) := by
        show l ++ c1 ++ zp2 j' ++ c2 = l ++ [] ++ (c1 ++ c2)
        rw [z2, List.append_nil, List.append_nil, List.append_assoc]
      rw [e0] at g2
      exact zMst_w g2 (fun _ _ => rfl) (fun i _ => zuq_u)
    · rw [if_neg (by decide)] at hl
      have t0 := CL_top (v2 := v2) e a (by omega) (htop (by decide))
      obtain ⟨h1, b1, b2, b3⟩ := BL_nand (v2 := v2) e hb a (by omega) hj hjn (by omega) p1
      refine ⟨fun q => (by cases q), fun _ => ⟨v2, h1, j, ?_, ?_, hj, fun q => (by cases q), fun _ => rfl, fun q => (by omega), b3⟩⟩
      · show zCL e v2 g = zDL e v2 h1
        rw [t0, b1]
      · rw [List.append_nil]
        exact zMst_w b2 (fun _ _ => rfl) (fun i _ => zuq_s hjn)
    · rw [if_neg (by decide)] at hl
      have t0 := CL_top (v2 := v2) e a (by omega) (htop (by decide))
      obtain ⟨x', h1, b1, b2, b3⟩ := BL_and (v2 := v2) e hb hn hs a (by omega) hj hjn (by omega) p1
      have lt := a1.2.2 (wd (by decide) p1)
      have I := (X r1 e op _ (l ++ zp2 j) h1 (j / 2 * 2 + 1) x' v2 (by omega) zuq_i ho9 a1.2.1 b2 (by rw [if_neg (by decide), List.length_append, zp2_len]; omega) (fun q => absurd q (by decide)) (fun q => (by cases q)) (fun q => (by cases q))).1 rfl
      refine ⟨fun _ => ?_, fun q => (by cases q)⟩
      show zFq w0 (zCL e v2 g) g t
      rw [t0, b1]
      exact zFq_tr b3 I
    · rw [if_neg (by decide)] at hl
      have t0 := CL_top (v2 := v2) e a (by omega) (htop (by decide))
      obtain ⟨x', h1, b1, b2, b3⟩ := BL_and (v2 := v2) e hb hn hs a (by omega) hj hjn (by omega) p1
      have lt := a1.2.2 (wd (by decide) p1)
      obtain ⟨v', h2, j', d1, d2, d3, d4, -, -, d7⟩ := (X r1 e op _ (l ++ zp2 j) h1 (j / 2 * 2 + 1) x' v2 (by omega) zuq_i ho9 a1.2.1 b2 (by rw [if_neg (by decide), List.length_append, zp2_len]; omega) (fun q => absurd q (by decide)) (fun q => (by cases q)) (fun q => (by cases q))).2 rfl
      have d4 := d4 rfl
      subst d4
      have d1 : zRC e x' h1 = zCL e v' h2 := d1
      rw [show l ++ zp2 j ++ zpq 0 (j / 2 * 2 + 1) = l ++ zp2 j from List.append_nil _] at d2
      have ln := zpD_len r1 a1.2.1
      have I := X r2 e op _ (l ++ zp2 j ++ c1) h2 (j / 2 * 2 + 1) x' v' (by omega) zuq_i ho9 ln.2.1 d2 (by rw [if_neg (by decide), List.length_append, List.length_append, zp2_len]; omega) (fun _ => htop (by decide)) (fun q => (by cases q)) (fun q => (by cases q))
      have st : zcst 2 e x v2 g = zcst 2 e x' v' h2 := by
        show zCL e v2 g = zCL e v' h2
        rw [t0, b1, d1]
      rw [st]
      refine ⟨fun q => zFq_tr (zG_tr b3 d7) (I.1 q), fun q => ?_⟩
      obtain ⟨v3, h3, j3, g1, g2, g3, -, g5, -, g7⟩ := I.2 q
      refine ⟨v3, h3, j3, g1, ?_, g3, fun q => (by cases q), fun _ => (by have := g5 (Or.inr rfl); omega), fun q => (by omega), zG_tr b3 (zG_tr d7 g7)⟩
      have z2 : zp2 (j / 2 * 2 + 1) = [(2, 0, 0, 0)] := by unfold zp2; rw [if_pos (by omega)]
      have e0 : l ++ zp2 j ++ c1 ++ zpq 2 (j / 2 * 2 + 1) ++ c2 = l ++ zpq 2 j ++ (c1 ++ [(2, 0, 0, 0)] ++ c2) := by
        show l ++ zp2 j ++ c1 ++ zp2 (j / 2 * 2 + 1) ++ c2 = l ++ zp2 j ++ (c1 ++ [(2, 0, 0, 0)] ++ c2)
        rw [z2, ← List.append_assoc, ← List.append_assoc]
      rw [e0] at g2
      exact zMst_w g2 (fun _ _ => rfl) (fun i _ => by rw [← zuq_u, ← zuq_u])
    · rw [if_neg (by decide)] at hl
      have m3 := hm3 rfl
      have I := (X r1 e op jn l g j x v2 hj hjn ho9 hs a (by rw [if_neg (by decide)]; omega) (fun _ => htop (by decide)) (fun _ => (by omega)) (fun q => (by cases q))).1 rfl
      exact ⟨fun _ => I, fun q => (by cases q)⟩
    · rw [if_neg (by decide)] at hl
      have m3 := hm3 rfl
      obtain ⟨v', h2, j', d1, d2, d3, -, d5, -, d7⟩ := (X r1 e op jn l g j x v2 hj hjn ho9 hs a (by rw [if_neg (by decide)]; omega) (fun _ => htop (by decide)) (fun _ => (by omega)) (fun q => (by cases q))).2 rfl
      have d5 := d5 (Or.inl rfl)
      have d1 : zRC e x g = zDL e v' h2 := d1
      rw [show l ++ zpq 1 j = l from List.append_nil l] at d2
      have ln := zpD_len r1 hs
      have I := X r2 e op _ (l ++ c1) h2 j' x v' d3 zuq_i ho9 ln.2.1 d2 (by rw [if_pos rfl, List.length_append]; omega) (fun _ => htop (by decide)) (fun q => (by cases q)) (fun q => (by cases q))
      have st : zcst 3 e x v2 g = zcst 4 e x v' h2 := d1
      rw [st]
      refine ⟨fun q => zFq_tr d7 (I.1 q), fun q => ?_⟩
      obtain ⟨v3, h3, j3, g1, g2, g3, -, -, g6, g7⟩ := I.2 q
      refine ⟨v3, h3, j3, g1, ?_, g3, fun q => (by cases q), fun q => (by omega), fun _ => g6 (by decide), zG_tr d7 g7⟩
      have z3 : zp3 j' = [] := by unfold zp3; rw [if_neg (by omega)]
      have e0 : l ++ c1 ++ zpq 4 j' ++ c2 = l ++ zpq 3 j ++ (c1 ++ c2) := by
        show l ++ c1 ++ zp3 j' ++ c2 = l ++ [] ++ (c1 ++ c2)
        rw [z3, List.append_nil, List.append_nil, List.append_assoc]
      rw [e0] at g2
      exact zMst_w g2 (fun _ _ => rfl) (fun i _ => zuq_u)
    · rw [if_pos rfl] at hl
      obtain ⟨h1, b1, b2, b3⟩ := DL_is (v2 := v2) e a (by omega) hj hjn (by omega)
      refine ⟨fun q => (by cases q), fun _ => ⟨v2, h1, j / 2 * 2, b1, ?_, by omega, fun q => (by cases q), fun q => (by omega), fun _ => p1, b3⟩⟩
      rw [List.append_nil]
      exact b2
    · rw [if_pos rfl] at hl
      obtain ⟨h1, b1, b2, b3⟩ := DL_is (v2 := v2) e a (by omega) hj hjn (by omega)
      obtain ⟨x', h2, c1, c2, c3⟩ := EL_or (v2 := v2) e hb hn hs b2 (by omega) p1
      have lt := a1.2.2 (wd (by decide) p1)
      have I := (X r1 e op _ (l ++ zp3 j) h2 2 x' v2 (by decide) zuq_i ho9 a1.2.1 c2 (by rw [if_neg (by decide), List.length_append, zp3_len hj]; omega) (fun _ => htop (by decide)) (fun _ => rfl) (fun q => (by cases q))).1 rfl
      refine ⟨fun _ => ?_, fun q => (by cases q)⟩
      show zFq w0 (zDL e v2 g) g t
      rw [b1, c1]
      exact zFq_tr (zG_tr b3 c3) I
    · rw [if_pos rfl] at hl
      obtain ⟨h1, b1, b2, b3⟩ := DL_is (v2 := v2) e a (by omega) hj hjn (by omega)
      obtain ⟨x', h2, k1, k2, k3⟩ := EL_or (v2 := v2) e hb hn hs b2 (by omega) p1
      have lt := a1.2.2 (wd (by decide) p1)
      obtain ⟨v', h3, j', d1, d2, d3, -, d5, -, d7⟩ := (X r1 e op _ (l ++ zp3 j) h2 2 x' v2 (by decide) zuq_i ho9 a1.2.1 k2 (by rw [if_neg (by decide), List.length_append, zp3_len hj]; omega) (fun _ => htop (by decide)) (fun _ => rfl) (fun q => (by cases q))).2 rfl
      have d5 := d5 (Or.inl rfl)
      have d1 : zRC e x' h2 = zDL e v' h3 := d1
      rw [show l ++ zp3 j ++ zpq 1 2 = l ++ zp3 j from List.append_nil _] at d2
      have ln := zpD_len r1 a1.2.1
      have I := X r2 e op _ (l ++ zp3 j ++ c1) h3 j' x' v' d3 zuq_i ho9 ln.2.1 d2 (by rw [if_pos rfl, List.length_append, List.length_append, zp3_len hj]; omega) (fun _ => htop (by decide)) (fun q => (by cases q)) (fun q => (by cases q))
      have st : zcst 4 e x v2 g = zcst 4 e x' v' h3 := by
        show zDL e v2 g = zDL e v' h3
        rw [b1, k1, d1]
      rw [st]
      refine ⟨fun q => zFq_tr (zG_tr b3 (zG_tr k3 d7)) (I.1 q), fun q => ?_⟩
      obtain ⟨v3, h4, j3, g1, g2, g3, -, -, g6, g7⟩ := I.2 q
      refine ⟨v3, h4, j3, g1, ?_, g3, fun q => (by cases q), fun q => (by omega), fun _ => g6 (by decide), zG_tr b3 (zG_tr k3 (zG_tr d7 g7))⟩
      have z3 : zp3 j' = [(3, 0, 0, 0)] := by unfold zp3; rw [if_pos (by omega)]
      have e0 : l ++ zp3 j ++ c1 ++ zpq 4 j' ++ c2 = l ++ zpq 4 j ++ (c1 ++ [(3, 0, 0, 0)] ++ c2) := by
        show l ++ zp3 j ++ c1 ++ zp3 j' ++ c2 = l ++ zp3 j ++ (c1 ++ [(3, 0, 0, 0)] ++ c2)
        rw [z3, ← List.append_assoc, ← List.append_assoc]
      rw [e0] at g2
      exact zMst_w g2 (fun _ _ => rfl) (fun i _ => by rw [← zuq_u, ← zuq_u, ← zuq_u])
/-- readCondition -/
theorem M234 {B : Nat → Nat} {n w0 f s t : Nat} {h : ai_H} {l c : List zSt} {op jn : Nat → Int32} {b : Bool} {o : Nat} (e : Nat) (hb : ∀ i, B i < 256) (hn : n ≤ 500) (hw : w0 ≤ 19000) (hs : s ≤ n) (a : zUb h B n ∧ zUk h B n s ∧ h.1 16128 56 = 0) (w : zWr h w0 l) (hl : l.length ≤ s) (r : zpD B n f 3 0 s c t b) :
    (b = false → zFq w0 (ai_X (e + 5) 234 [.inr (.inr (32, 0, 16128))] h) h t) ∧ (b = true → ∃ h', ai_X (e + 5) 234 [.inr (.inr (32, 0, 16128))] h = some ([], h') ∧ (zUb h' B n ∧ zUk h' B n t ∧ h'.1 16128 56 = 0) ∧ zWr h' w0 (l ++ c) ∧ zG (zQm w0) h h') := by
  obtain ⟨g, eg⟩ : ∃ g, ai_st (ai_st h 16128 59 0) 2064443 0 0 = g := ⟨_, rfl⟩
  have fg : zG (zQm w0) h g := by rw [← eg]; exact zG_st (zG_st zG_rf (Or.inl ⟨rfl, Or.inr (by decide)⟩)) (Or.inr (Or.inr (Or.inr rfl)))
  have k15 : ∀ j, ¬ j = 59 → g.1 16128 j = h.1 16128 j := fun j hj => by rw [← eg, z_ne (by decide), z_nj hj]
  have ko : ∀ q, ¬ q = 16128 → ¬ q = 2064443 → g.1 q = h.1 q := fun q h1 h2 => by rw [← eg, z_ne h2, z_ne h1]
  have A : zMst B n w0 g s l 0 op (fun _ => 0) := by
    refine ⟨⟨⟨?_, ?_⟩, ?_, ?_⟩, ⟨?_, fun i q hi => ?_⟩, ?_, fun i hi => absurd hi (Nat.not_lt_zero _), fun i hi => ?_⟩
    · rw [k15 50 (by decide)]; exact a.1.1
    · rw [ko _ (by decide) (by decide)]; exact a.1.2
    · have := a.2.1
      unfold zUk at this ⊢
      rw [k15 51 (by decide), k15 52 (by decide), k15 53 (by decide), k15 54 (by decide), ← eg]
      exact this
    · rw [k15 56 (by decide)]; exact a.2.2
    · rw [k15 42 (by decide)]; exact w.1
    · have := w.2 i q hi
      unfold zSc at this ⊢
      rw [ko _ (by decide) (by decide), ko _ (by decide) (by decide), ko _ (by decide) (by decide), ko _ (by decide) (by decide)]
      exact this
    · rw [← eg, z_ne (by decide), z_stS]; rfl
    · rw [show i = 0 by omega, ← eg, z_stS]
  have I := zMg_all hb hn hw _ _ _ _ _ _ _ r e op (fun _ => 0) l g 0 none 0 (by decide) rfl (by decide) hs A (by rw [if_neg (by decide)]; omega) (fun _ => Or.inl rfl) (fun q => (by cases q)) (fun _ => rfl)
  have T : ai_X (e + 5) 234 [.inr (.inr (32, 0, 16128))] h = zRC e none g := by
    have T0 : ai_X (e + 5) 234 [.inr (.inr (32, 0, 16128))] h = _ := T234 (e + 4) h
    rw [T0, show (0 : Int32) = nI 0 from rfl, z_ix (by decide) (by decide), ← eg]
    rfl
  rw [T]
  refine ⟨fun q => zFq_tr fg (I.1 q), fun q => ?_⟩
  obtain ⟨v', h2, j', d1, d2, -, -, -, d6, d7⟩ := I.2 q
  have d1 : zRC e none g = zEL e v' h2 := d1
  rw [show l ++ zpq 3 0 = l from List.append_nil l] at d2
  obtain ⟨h3, e1, e2, e3⟩ := EL_end (v2 := v') e hb d2 (d6 (by decide))
  exact ⟨h3, by rw [d1, e1], e2.1, e2.2.1, zG_tr fg (zG_tr d7 e3)⟩
