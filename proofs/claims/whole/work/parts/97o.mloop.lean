/-! A CONDITION, AS THE REFERENCE READS IT: by the rules -/
noncomputable def zRC (e : Nat) (x : Option ai_V) (h : ai_H) : Option ai_R := ai_E (e + 4) 234 14 [some (.inr (.inr (32, 0, 16128))), some (.inl 1), x] [] h
noncomputable def zKc (e : Nat) (v2 : Int32) (r : Option ai_R) : Option ai_R := ai_bi r (fun v5 h4 => if v5 = 0 then ai_E (e + 4) 234 14 [some (.inr (.inr (32, 0, 16128))), some (.inl 0), some (.inl v2)] [] h4 else ai_E (e + 4) 234 14 [some (.inr (.inr (32, 0, 16128))), some (.inl 1), some (.inl v2)] [] h4)
noncomputable def zCL (e : Nat) (v2 : Int32) (h : ai_H) : Option ai_R := zKc e v2 (ai_E (e + 3) 233 13 [some (.inr (.inr (32, 0, 16128))), some (.inl 1)] [] h)
noncomputable def zBL (e : Nat) (v2 : Int32) (h : ai_H) : Option ai_R := zKc e v2 (ai_E (e + 3) 233 56 [some (.inr (.inr (32, 0, 16128))), some (.inl 1)] [] h)
noncomputable def zDL (e : Nat) (v2 : Int32) (h : ai_H) : Option ai_R := zKc e v2 (ai_E (e + 3) 233 142 [some (.inr (.inr (32, 0, 16128))), some (.inl 1)] [] h)
noncomputable def zEL (e : Nat) (v2 : Int32) (h : ai_H) : Option ai_R := zKc e v2 (ai_E (e + 3) 233 185 [some (.inr (.inr (32, 0, 16128))), some (.inl 1)] [] h)
theorem zKc_0 {e : Nat} {v2 : Int32} {h : ai_H} : zKc e v2 (some ([.inl 0], h)) = some ([], h) := by
  unfold zKc
  rw [z_bi, if_pos rfl, T234_14, if_pos rfl]
theorem zKc_1 {e : Nat} {v2 : Int32} {h : ai_H} : zKc e v2 (some ([.inl 1], h)) = zRC e (some (.inl v2)) h := by
  unfold zKc
  rw [z_bi, if_neg (by decide)]
  rfl
def zp2 (j : Nat) : List zSt := if j % 2 = 1 then [(2, 0, 0, 0)] else []
def zp3 (j : Nat) : List zSt := if 2 ≤ j then [(3, 0, 0, 0)] else []
section
variable {B : Nat → Nat} {n w0 : Nat} {h : ai_H} {s : Nat} {l : List zSt} {o : Nat} {op jn : Nat → Int32}
theorem RC_is {x : Option ai_V} (e : Nat) (hb : ∀ i, B i < 256) (a : zMst B n w0 h s l o op jn) : zRC e x h = if zwv B n s = 10631 then ai_E (e + 4) 234 46 [some (.inr (.inr (32, 0, 16128))), some (.inl 1), some (.inl 1)] [] h else if zkd B n s = 3 ∧ B s = 40 then ai_E (e + 4) 234 46 [some (.inr (.inr (32, 0, 16128))), some (.inl 1), some (.inl 0)] [] h else ai_bv (ai_X (e + 4) 232 [.inr (.inr (32, 0, 16128))] h) (fun h3 => if (h3.1 16128 56) = 0 then ai_bi (ai_X (e + 4) 233 [.inr (.inr (32, 0, 16128))] h3) (fun v5 h4 => if v5 = 0 then ai_E (e + 4) 234 14 [some (.inr (.inr (32, 0, 16128))), some (.inl 0), some (.inl 0)] [] h4 else ai_E (e + 4) 234 14 [some (.inr (.inr (32, 0, 16128))), some (.inl 1), some (.inl 0)] [] h4) else ai_E (e + 4) 234 14 [some (.inr (.inr (32, 0, 16128))), some (.inl 0), some (.inl 0)] [] h3) := by
  have w : ai_X (e + 4) 228 [.inr (.inr (32, 0, 16128)), .inr (.inl 10631)] h = some ([.inl (zb (zwv B n s = 10631))], h) := M228 (W := 10631) (e + 3) hb a.1.2.1 a.1.2.2 (by decide) (by decide)
  have lt := zutk_lt (n := n) (s := s) hb
  have q40 : (h.1 16128 53 = 40) ↔ (zkd B n s = 3 ∧ B s = 40) := by rw [a.1.2.1.2.2.1, show (40 : Int32) = nI 40 from rfl, nI_eq (by omega) (by omega)]; exact zutk_c (by decide)
  unfold zRC
  rw [T234_14, if_neg (by decide), a.1.2.2, if_pos rfl, w, z_bi, zb_if]
  by_cases p1 : zwv B n s = 10631
  · rw [if_pos p1, if_pos p1, zb_t p1]
  · rw [if_neg p1, if_neg p1, zb_f p1]
    by_cases p2 : zkd B n s = 3 ∧ B s = 40
    · rw [if_pos (q40.mpr p2), if_pos p2]
    · rw [if_neg (fun q => p2 (q40.mp q)), if_neg p2]
theorem RC_deep {x : Option ai_V} (e : Nat) (hb : ∀ i, B i < 256) (a : zMst B n w0 h s l 9 op jn) (p : zpre B n s) : zFq w0 (zRC e x h) h s := by
  obtain ⟨h', d1, d2, d3, d4, d5⟩ := zErr (e + 3) a
  have d1 : ai_X (e + 4) 227 [.inr (.inr (32, 0, 16128))] h = some ([], h') := d1
  have c9 : h.1 16128 59 = 9 := a.2.2.1
  refine ⟨h', ?_, d2, d3, d5⟩
  rw [RC_is e hb a]
  by_cases p1 : zwv B n s = 10631
  · rw [if_pos p1, T234_46, if_pos c9, d1, z_bv]
  · rw [if_neg p1, if_pos (p.resolve_left p1), T234_46, if_pos c9, d1, z_bv]
theorem RC_pre {x : Option ai_V} (e : Nat) (hb : ∀ i, B i < 256) (hn : n ≤ 500) (hs : s ≤ n) (ho : o < 9) (a : zMst B n w0 h s l o op jn) (p : zpre B n s) : ∃ x' h', zRC e x h = zRC e x' h' ∧ zMst B n w0 h' (ztn B n s) l (o + 1) (zuq op o (if zwv B n s = 10631 then 1 else 2)) (zuq jn (o + 1) 0) ∧ zG (zQm w0) h h' := by
  have c0 := a.2.2.1
  have n9 : ¬ h.1 16128 59 = 9 := by rw [c0, show (9 : Int32) = nI 9 from rfl, nI_eq (by omega) (by omega)]; omega
  rw [RC_is e hb a]
  have K : ∀ v : Int32, ∃ h', ai_X (e + 4) 226 [.inr (.inr (32, 0, 16128))] (ai_st (ai_st (ai_st h 2064442 o v) 16128 59 (nI (o + 1))) 2064443 (o + 1) 0) = some ([], h') ∧ zMst B n w0 h' (ztn B n s) l (o + 1) (zuq op o v) (zuq jn (o + 1) 0) ∧ zG (zQm w0) h h' := fun v => by
    obtain ⟨u1, u2⟩ := zMst_push v a
    obtain ⟨h', d1, d2, d3⟩ := zMst_next (e + 2) hb hn hs u1
    exact ⟨h', d1, d2, zG_tr u2 d3⟩
  have e1 : ∀ v : Int32, (ai_st h 2064442 o v).1 16128 59 = nI o := fun v => by rw [z_ne (by decide)]; exact c0
  by_cases p1 : zwv B n s = 10631
  · obtain ⟨h', d1, d2, d3⟩ := K 1
    rw [if_pos p1, if_pos p1, T234_46, if_neg n9, if_neg (by decide), c0, z_ix (by omega) (by decide)]
    simp only [e1, nI_1, z_stS]
    rw [z_ix (by omega) (by decide), d1, z_bv]
    exact ⟨_, h', rfl, d2, d3⟩
  · obtain ⟨h', d1, d2, d3⟩ := K 2
    rw [if_neg p1, if_neg p1, if_pos (p.resolve_left p1), T234_46, if_neg n9, if_pos rfl, c0, z_ix (by omega) (by decide)]
    simp only [e1, nI_1, z_stS]
    rw [z_ix (by omega) (by decide), d1, z_bv]
    exact ⟨_, h', rfl, d2, d3⟩
theorem RC_bad {x : Option ai_V} (e t : Nat) (hb : ∀ i, B i < 256) (a : zMst B n w0 h s l o op jn) (p : ¬ zpre B n s) (f : zFq w0 (ai_X (e + 4) 232 [.inr (.inr (32, 0, 16128))] h) h t) : zFq w0 (zRC e x h) h t := by
  obtain ⟨h', d1, d2, d3, d4⟩ := f
  refine ⟨h', ?_, d2, d3, d4⟩
  rw [RC_is e hb a, if_neg (fun q => p (Or.inl q)), if_neg (fun q => p (Or.inr q)), d1, z_bv, if_neg (by rw [d2]; decide), T234_14, if_pos rfl]
theorem RC_cmp {x : Option ai_V} {h' : ai_H} {s' : Nat} {l' : List zSt} (e : Nat) (hb : ∀ i, B i < 256) (a : zMst B n w0 h s l o op jn) (p : ¬ zpre B n s) (f : ai_X (e + 4) 232 [.inr (.inr (32, 0, 16128))] h = some ([], h')) (a' : zMst B n w0 h' s' l' o op jn) : zRC e x h = zCL e 0 h' := by
  rw [RC_is e hb a, if_neg (fun q => p (Or.inl q)), if_neg (fun q => p (Or.inr q)), f, z_bv, if_pos a'.1.2.2]
  have T : ai_X (e + 4) 233 [.inr (.inr (32, 0, 16128))] h' = _ := T233 (e + 3) h'
  rw [T, T233_2, if_neg (by decide), if_pos a'.1.2.2]
  rfl
theorem CL_not {v2 : Int32} (e : Nat) (a : zMst B n w0 h s l (o + 1) op jn) (ho : o < 11) (hop : op o = 1) (hl : w0 + l.length < 20000) : ∃ h', zCL e v2 h = zCL e v2 h' ∧ zMst B n w0 h' s (l ++ [(1, 0, 0, 0)]) o op jn ∧ zG (zQm w0) h h' := by
  have c0 := a.2.2.1
  have c1 : h.1 2064442 o = 1 := (a.2.2.2.1 o (Nat.lt_succ_self o)).trans hop
  obtain ⟨u1, u2⟩ := zMst_pop a
  obtain ⟨h', d1, d2, d3⟩ := zMst_step (e + 2) (1, 0, 0, 0) u1 hl
  have d1 : ai_X (e + 3) 231 [.inr (.inr (32, 0, 16128)), .inl 1, .inl 0, .inl 0, .inl 0] (ai_st h 16128 59 (nI o)) = some ([], h') := d1
  refine ⟨h', ?_, d2, zG_tr u2 d3⟩
  unfold zCL
  have e0 : nI (o + 1) - 1 = nI o := by rw [show (1 : Int32) = nI 1 from rfl, nI_subN (by omega) (by omega), Nat.add_sub_cancel]
  rw [T233_13, c0, if_neg (by rw [show (0 : Int32) = nI 0 from rfl, nI_leI (by omega) (by omega)]; omega), e0, z_ix (by omega) (by decide), if_pos c1, d1, z_bv]
theorem CL_top {v2 : Int32} (e : Nat) (a : zMst B n w0 h s l o op jn) (ho : o < 11) (ht : o = 0 ∨ op (o - 1) = 2) : zCL e v2 h = zBL e v2 h := by
  have c0 := a.2.2.1
  unfold zCL zBL
  rw [T233_13, c0]
  by_cases c : o = 0
  · rw [if_pos (by rw [c]; decide)]
  · obtain ⟨q, rfl⟩ : ∃ q, o = q + 1 := ⟨o - 1, by omega⟩
    have c1 : h.1 2064442 q = 2 := (a.2.2.2.1 q (Nat.lt_succ_self q)).trans (ht.resolve_left c)
    have e0 : nI (q + 1) - 1 = nI q := by rw [show (1 : Int32) = nI 1 from rfl, nI_subN (by omega) (by omega), Nat.add_sub_cancel]
    rw [if_neg (by rw [show (0 : Int32) = nI 0 from rfl, nI_leI (by omega) (by omega)]; omega), e0, z_ix (by omega) (by decide), if_neg (by rw [c1]; decide)]
theorem zrem2 : ∀ j, j < 4 → (ai_rem (nI j) 2 = 1 ↔ j % 2 = 1) ∧ nI j / 2 * 2 = nI (j / 2 * 2) ∧ nI j / 2 * 2 + 1 = nI (j / 2 * 2 + 1) := by decide +kernel
theorem BL_and {v2 : Int32} {j : Nat} (e : Nat) (hb : ∀ i, B i < 256) (hn : n ≤ 500) (hs : s ≤ n) (a : zMst B n w0 h s l o op jn) (ho : o < 11) (hj : j < 4) (hjn : jn o = nI j) (hl : w0 + l.length < 20000) (hw : zwv B n s = 1111) : ∃ x h', zBL e v2 h = zRC e x h' ∧ zMst B n w0 h' (ztn B n s) (l ++ zp2 j) o op (zuq jn o (nI (j / 2 * 2 + 1))) ∧ zG (zQm w0) h h' := by
  have w : ai_X (e + 3) 228 [.inr (.inr (32, 0, 16128)), .inr (.inl 1111)] h = some ([.inl (zb (zwv B n s = 1111))], h) := M228 (W := 1111) (e + 2) hb a.1.2.1 a.1.2.2 (by decide) (by decide)
  obtain ⟨r1, r2, r3⟩ := zrem2 j hj
  have c0 := a.2.2.1
  have c1 : h.1 2064443 o = nI j := (a.2.2.2.2 o (Nat.le_refl o)).trans hjn
  have i0 : ∀ f : Nat → Option ai_R, ai_ix (nI o) 12 f = f o := fun f => z_ix (by omega) (by decide)
  unfold zBL
  rw [T233_56, w, z_bi, zb_if, if_pos hw, c0, i0, if_neg (by decide), c1]
  unfold zp2
  by_cases p : j % 2 = 1
  · rw [if_pos (r1.mpr p), if_pos p]
    obtain ⟨h1, d1, d2, d3⟩ := zMst_step (e + 2) (2, 0, 0, 0) a hl
    have d1 : ai_X (e + 3) 231 [.inr (.inr (32, 0, 16128)), .inl 2, .inl 0, .inl 0, .inl 0] h = some ([], h1) := d1
    have c2 : h1.1 2064443 o = nI j := (d2.2.2.2.2 o (Nat.le_refl o)).trans hjn
    obtain ⟨u1, u2⟩ := zMst_jn (nI (j / 2 * 2 + 1)) d2
    obtain ⟨h2, g1, g2, g3⟩ := zMst_next (e + 1) hb hn hs u1
    have g1 : ai_X (e + 3) 226 [.inr (.inr (32, 0, 16128))] (ai_st h1 2064443 o (nI (j / 2 * 2 + 1))) = some ([], h2) := g1
    rw [d1, z_bv, d2.2.2.1, i0, if_neg (by decide), i0, c2, r3, g1, z_bv, z_b1, zKc_1]
    exact ⟨_, h2, rfl, g2, zG_tr d3 (zG_tr u2 g3)⟩
  · rw [if_neg (fun q => p (r1.mp q)), if_neg p, List.append_nil]
    obtain ⟨u1, u2⟩ := zMst_jn (nI (j / 2 * 2 + 1)) a
    obtain ⟨h2, g1, g2, g3⟩ := zMst_next (e + 1) hb hn hs u1
    have g1 : ai_X (e + 3) 226 [.inr (.inr (32, 0, 16128))] (ai_st h 2064443 o (nI (j / 2 * 2 + 1))) = some ([], h2) := g1
    rw [i0, if_neg (by decide), i0, c1, r3, g1, z_bv, z_b1, zKc_1]
    exact ⟨_, h2, rfl, g2, zG_tr u2 g3⟩
theorem BL_nand {v2 : Int32} {j : Nat} (e : Nat) (hb : ∀ i, B i < 256) (a : zMst B n w0 h s l o op jn) (ho : o < 11) (hj : j < 4) (hjn : jn o = nI j) (hl : w0 + l.length < 20000) (hw : ¬ zwv B n s = 1111) : ∃ h', zBL e v2 h = zDL e v2 h' ∧ zMst B n w0 h' s (l ++ zp2 j) o op jn ∧ zG (zQm w0) h h' := by
  have w : ai_X (e + 3) 228 [.inr (.inr (32, 0, 16128)), .inr (.inl 1111)] h = some ([.inl (zb (zwv B n s = 1111))], h) := M228 (W := 1111) (e + 2) hb a.1.2.1 a.1.2.2 (by decide) (by decide)
  obtain ⟨r1, r2, r3⟩ := zrem2 j hj
  have c0 := a.2.2.1
  have c1 : h.1 2064443 o = nI j := (a.2.2.2.2 o (Nat.le_refl o)).trans hjn
  have i0 : ∀ f : Nat → Option ai_R, ai_ix (nI o) 12 f = f o := fun f => z_ix (by omega) (by decide)
  unfold zBL
  rw [T233_56, w, z_bi, zb_if, if_neg hw, c0, i0, if_neg (by decide), c1]
  unfold zp2
  by_cases p : j % 2 = 1
  · rw [if_pos (r1.mpr p), if_pos p]
    obtain ⟨h1, d1, d2, d3⟩ := zMst_step (e + 2) (2, 0, 0, 0) a hl
    have d1 : ai_X (e + 3) 231 [.inr (.inr (32, 0, 16128)), .inl 2, .inl 0, .inl 0, .inl 0] h = some ([], h1) := d1
    rw [d1, z_bv]
    exact ⟨h1, rfl, d2, d3⟩
  · rw [if_neg (fun q => p (r1.mp q)), if_neg p, List.append_nil]
    exact ⟨h, rfl, a, zG_rf⟩
theorem DL_is {v2 : Int32} {j : Nat} (e : Nat) (a : zMst B n w0 h s l o op jn) (ho : o < 11) (hj : j < 4) (hjn : jn o = nI j) (hl : w0 + l.length < 20000) : ∃ h', zDL e v2 h = zEL e v2 h' ∧ zMst B n w0 h' s (l ++ zp3 j) o op (zuq jn o (nI (j / 2 * 2))) ∧ zG (zQm w0) h h' := by
  obtain ⟨r1, r2, r3⟩ := zrem2 j hj
  have c0 := a.2.2.1
  have c1 : h.1 2064443 o = nI j := (a.2.2.2.2 o (Nat.le_refl o)).trans hjn
  have i0 : ∀ f : Nat → Option ai_R, ai_ix (nI o) 12 f = f o := fun f => z_ix (by omega) (by decide)
  obtain ⟨u1, u2⟩ := zMst_jn (nI (j / 2 * 2)) a
  unfold zDL
  rw [T233_142, c0, i0, if_neg (by decide), i0, c1, r2, u1.2.2.1, i0, z_stS]
  unfold zp3
  by_cases p : 2 ≤ j
  · rw [if_neg (by rw [show (1 : Int32) = nI 1 from rfl, nI_leI (by omega) (by omega)]; omega), if_pos p]
    obtain ⟨h1, d1, d2, d3⟩ := zMst_step (e + 2) (3, 0, 0, 0) u1 hl
    have d1 : ai_X (e + 3) 231 [.inr (.inr (32, 0, 16128)), .inl 3, .inl 0, .inl 0, .inl 0] (ai_st h 2064443 o (nI (j / 2 * 2))) = some ([], h1) := d1
    rw [d1, z_bv]
    exact ⟨h1, rfl, d2, zG_tr u2 d3⟩
  · rw [if_pos (by rw [show (1 : Int32) = nI 1 from rfl, nI_leI (by omega) (by omega)]; omega), if_neg p, List.append_nil]
    exact ⟨_, rfl, u1, u2⟩
theorem EL_or {v2 : Int32} (e : Nat) (hb : ∀ i, B i < 256) (hn : n ≤ 500) (hs : s ≤ n) (a : zMst B n w0 h s l o op jn) (ho : o < 11) (hw : zwv B n s = 423) : ∃ x h', zEL e v2 h = zRC e x h' ∧ zMst B n w0 h' (ztn B n s) l o op (zuq jn o (nI 2)) ∧ zG (zQm w0) h h' := by
  have c0 := a.2.2.1
  have i0 : ∀ f : Nat → Option ai_R, ai_ix (nI o) 12 f = f o := fun f => z_ix (by omega) (by decide)
  obtain ⟨u1, u2⟩ := zMst_jn 0 a
  have w : ai_X (e + 3) 228 [.inr (.inr (32, 0, 16128)), .inr (.inl 423)] (ai_st h 2064443 o 0) = some ([.inl (zb (zwv B n s = 423))], ai_st h 2064443 o 0) := M228 (W := 423) (e + 2) hb u1.1.2.1 u1.1.2.2 (by decide) (by decide)
  obtain ⟨w1, w2⟩ := zMst_jn (nI 2) u1
  obtain ⟨h2, g1, g2, g3⟩ := zMst_next (e + 1) hb hn hs w1
  have g1 : ai_X (e + 3) 226 [.inr (.inr (32, 0, 16128))] (ai_st (ai_st h 2064443 o 0) 2064443 o 2) = some ([], h2) := g1
  unfold zEL
  rw [T233_185, c0, i0, w, z_bi, zb_if, if_pos hw, u1.2.2.1, i0, g1, z_bv, z_b1, zKc_1]
  refine ⟨_, h2, rfl, zMst_w g2 (fun _ _ => rfl) (fun i _ => ?_), zG_tr u2 (zG_tr w2 g3)⟩
  unfold zuq
  by_cases c : i = o
  · rw [if_pos c, if_pos c]
  · rw [if_neg c, if_neg c, if_neg c]
theorem EL_is {v2 : Int32} (e : Nat) (hb : ∀ i, B i < 256) (hn : n ≤ 500) (hs : s ≤ n) (a : zMst B n w0 h s l (o + 1) op jn) (ho : o < 10) (hw : ¬ zwv B n s = 423) :
    ((zkd B n s = 3 ∧ B s = 41) → ∃ h', zEL e v2 h = zCL e v2 h' ∧ zMst B n w0 h' (ztn B n s) l o op jn ∧ zG (zQm w0) h h') ∧ (¬ (zkd B n s = 3 ∧ B s = 41) → zFq w0 (zEL e v2 h) h s) := by
  have c0 := a.2.2.1
  have i0 : ∀ f : Nat → Option ai_R, ai_ix (nI (o + 1)) 12 f = f (o + 1) := fun f => z_ix (by omega) (by decide)
  obtain ⟨u1, u2⟩ := zMst_jn 0 a
  have w : ai_X (e + 3) 228 [.inr (.inr (32, 0, 16128)), .inr (.inl 423)] (ai_st h 2064443 (o + 1) 0) = some ([.inl (zb (zwv B n s = 423))], ai_st h 2064443 (o + 1) 0) := M228 (W := 423) (e + 2) hb u1.1.2.1 u1.1.2.2 (by decide) (by decide)
  have lt := zutk_lt (n := n) (s := s) hb
  have q41 : ((ai_st h 2064443 (o + 1) 0).1 16128 53 = 41) ↔ (zkd B n s = 3 ∧ B s = 41) := by rw [u1.1.2.1.2.2.1, show (41 : Int32) = nI 41 from rfl, nI_eq (by omega) (by omega)]; exact zutk_c (by decide)
  have e0 : nI (o + 1) - 1 = nI o := by rw [show (1 : Int32) = nI 1 from rfl, nI_subN (by omega) (by omega), Nat.add_sub_cancel]
  unfold zEL
  rw [T233_185, c0, i0, w, z_bi, zb_if, if_neg hw, u1.2.2.1, if_neg (by rw [show (0 : Int32) = nI 0 from rfl, nI_leI (by omega) (by omega)]; omega), if_neg (by decide), e0]
  refine ⟨fun q => ?_, fun q => ?_⟩
  · obtain ⟨y1, y2⟩ := zMst_pop u1
    obtain ⟨h2, g1, g2, g3⟩ := zMst_next (e + 1) hb hn hs y1
    have g1 : ai_X (e + 3) 226 [.inr (.inr (32, 0, 16128))] (ai_st (ai_st h 2064443 (o + 1) 0) 16128 59 (nI o)) = some ([], h2) := g1
    refine ⟨h2, ?_, zMst_w g2 (fun _ _ => rfl) (fun i hi => ?_), zG_tr u2 (zG_tr y2 g3)⟩
    · rw [if_pos (q41.mpr q), g1, z_bv, T233_2, if_neg (by decide), if_pos g2.1.2.2]
      rfl
    · unfold zuq; rw [if_neg (by omega)]
  · obtain ⟨h', d1, d2, d3, d4, d5⟩ := zErr (e + 2) u1
    have d1 : ai_X (e + 3) 227 [.inr (.inr (32, 0, 16128))] (ai_st h 2064443 (o + 1) 0) = some ([], h') := d1
    exact ⟨h', by rw [if_neg (fun w => q (q41.mp w)), d1, z_bv, z_b0, zKc_0], d2, d3, zG_te u2 d5⟩
theorem EL_end {v2 : Int32} (e : Nat) (hb : ∀ i, B i < 256) (a : zMst B n w0 h s l 0 op jn) (hw : ¬ zwv B n s = 423) : ∃ h', zEL e v2 h = some ([], h') ∧ zMst B n w0 h' s l 0 op (zuq jn 0 0) ∧ zG (zQm w0) h h' := by
  have c0 := a.2.2.1
  have i0 : ∀ f : Nat → Option ai_R, ai_ix (nI 0) 12 f = f 0 := fun f => z_ix (by omega) (by decide)
  obtain ⟨u1, u2⟩ := zMst_jn 0 a
  have w : ai_X (e + 3) 228 [.inr (.inr (32, 0, 16128)), .inr (.inl 423)] (ai_st h 2064443 0 0) = some ([.inl (zb (zwv B n s = 423))], ai_st h 2064443 0 0) := M228 (W := 423) (e + 2) hb u1.1.2.1 u1.1.2.2 (by decide) (by decide)
  refine ⟨_, ?_, u1, u2⟩
  unfold zEL
  rw [T233_185, c0, i0, w, z_bi, zb_if, if_neg hw, u1.2.2.1, if_pos (by decide), if_pos rfl, z_b0, zKc_0]
end
