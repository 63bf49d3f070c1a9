/-! MENDING: both sides -/
theorem M259k {h : ai_H} (d : Nat) (x kn : Int32) (hr : zR h) (hx : 0 ≤ x.toInt ∧ x.toInt ≤ 999) (hk : 0 ≤ kn.toInt ∧ kn.toInt ≤ 999) : ∃ h1, ai_X (d + 6) 259 [.inr (.inr (32, 0, 16128)), .inl x, .inl kn] h = some ([], h1) ∧ zF zMS h h1 ∧ (∀ t, t < zn (zsl (zMv h) 0) 1 → h1.1 2064456 t = zb (zrn h x kn t)) ∧ (∀ q, q ≠ 2064446 → q ≠ 2064447 → q ≠ 2064456 → h1.1 q = h.1 q) := by
  obtain ⟨b0, b1, b2, b8, b5, b4, b3, V⟩ := zR_b hr
  have i0 : ∀ f : Nat → Option ai_R, ai_ix 0 4 f = f 0 := fun f => z_i0 (by decide) (by decide)
  have K : ∀ k i, i + k = zn (zsl (zMv h) 0) 1 → ∀ g, zF zMS h g → (∀ t, t < i → g.1 2064456 t = zb (zrn h x kn t)) → (∀ q, q ≠ 2064446 → q ≠ 2064447 → q ≠ 2064456 → g.1 q = h.1 q) → ∃ h1, ai_E (d + 5) 259 2 [some (.inr (.inr (32, 0, 16128))), some (.inl x), some (.inl kn), some (.inl (nI i))] [] g = some ([], h1) ∧ zF zMS h h1 ∧ (∀ t, t < zn (zsl (zMv h) 0) 1 → h1.1 2064456 t = zb (zrn h x kn t)) ∧ (∀ q, q ≠ 2064446 → q ≠ 2064447 → q ≠ 2064456 → h1.1 q = h.1 q) := by
    intro k
    induction k with
    | zero =>
      intro i hi g fg cg gk
      have hi : i = zn (zsl (zMv h) 0) 1 := by omega
      subst hi
      refine ⟨g, ?_, fg, cg, gk⟩
      rw [T259_2, i0, zM_n fg (by unfold zMS; omega), b1.2.1, if_pos (by rw [z_le]; omega)]
    | succ k ih =>
      intro i hi g fg cg gk
      have i24 : ∀ f : Nat → Option ai_R, ai_ix (nI i) 24 f = f i := fun f => z_ix (by omega) (by decide)
      have hrg := zR_m hr fg
      have eV := zMv_m fg
      obtain ⟨g1, q1, q2, q3⟩ := M258 (h := g) (t := i) d x kn hrg (by rw [eV]; omega) hx hk
      rw [zru_V eV] at q1
      have fg1 : zF zMS h g1 := zF_tr fg q2
      have sm : ∀ v, zF zMS h (ai_st g1 2064456 i v) := fun v => zF_st fg1 (Or.inr ⟨by omega, by omega, by omega⟩)
      have en : ∀ v, v = zb (zrn h x kn i) → ∀ t, t < i + 1 → (ai_st g1 2064456 i v).1 2064456 t = zb (zrn h x kn t) := by
        intro v ev t ht
        rw [z_st1]
        by_cases c : t = i
        · subst c
          rw [if_pos ⟨rfl, rfl⟩, ev]
        · rw [if_neg (fun q => c q.2), q3 2064456 (by decide) (by decide)]
          exact cg t (by omega)
      have kk : ∀ v q, q ≠ 2064446 → q ≠ 2064447 → q ≠ 2064456 → (ai_st g1 2064456 i v).1 q = h.1 q := fun v q n1 n2 n3 => by rw [z_ne n3, q3 q n1 n2, gk q n1 n2 n3]
      rw [T259_2, i0, zM_n fg (by unfold zMS; omega), b1.2.1, if_neg (by rw [nI_leI (by omega) (by omega)]; omega), q1]
      simp only [z_bi, zru_0, i24, nI_1, z_nb0, z_nb1]
      by_cases c : zrn h x kn i
      · rw [if_pos c]
        exact ih (i + 1) (by omega) _ (sm 1) (en 1 (zb_t c).symm) (kk 1)
      · rw [if_neg c]
        exact ih (i + 1) (by omega) _ (sm 0) (en 0 (zb_f c).symm) (kk 0)
  rw [T259]
  exact K _ 0 (Nat.zero_add _) h zF_rf (fun t ht => by omega) (fun _ _ _ _ => rfl)
theorem M266l {h : ai_H} {s : Nat} {x kn : Int32} {lc : List Nat} (d : Nat) (hr : zR h) (hs : s ≤ 30) (h12 : lc.length ≤ 12) (hlt : ∀ k, k < lc.length → lc.getD k 0 < zn (zsl (zMv h) 0) 1) (z2 z3 : Option ai_V) (x4 : Int32) : ∀ q i, i + q = zn (zsl (zMv h) 0) 2 → ∀ g z9 z10, zF zMS h g → (∀ t, t < zn (zsl (zMv h) 0) 1 → g.1 2064456 t = zb (zrn h x kn t)) → (∀ k, k < lc.length → g.1 2064457 k = nI (lc.getD k 0)) → (∀ j, j < (zen (zwt h lc (zth h x kn s) s) i).length → g.1 2064458 j = nI (zB (fun k => znh h s (lc.getD k 0) ((zen (zwt h lc (zth h x kn s) s) i).getD j 0) = true) lc.length)) → ∃ g' z9' z10', ai_E (d + 4) 266 65 [some (.inr (.inr (32, 0, 16128))), some (.inl (nI s)), z2, z3, some (.inl x4), some (.inl (nI lc.length)), some (.inl (nI (zen (zwt h lc (zth h x kn s) s) i).length)), some (.inl (nI (zcnt (fun i => zth h x kn s i ∧ ¬ zwt h lc (zth h x kn s) s i = true) i))), some (.inl (nI i)), z9, z10] [] g = ai_E (d + 4) 266 65 [some (.inr (.inr (32, 0, 16128))), some (.inl (nI s)), z2, z3, some (.inl x4), some (.inl (nI lc.length)), some (.inl (nI (zen (zwt h lc (zth h x kn s) s) (zn (zsl (zMv h) 0) 2)).length)), some (.inl (nI (zcnt (fun i => zth h x kn s i ∧ ¬ zwt h lc (zth h x kn s) s i = true) (zn (zsl (zMv h) 0) 2)))), some (.inl (nI (zn (zsl (zMv h) 0) 2))), z9', z10'] [] g' ∧ zF zMS h g' ∧ (∀ k, k < lc.length → g'.1 2064457 k = nI (lc.getD k 0)) ∧ ∀ j, j < (zen (zwt h lc (zth h x kn s) s) (zn (zsl (zMv h) 0) 2)).length → g'.1 2064458 j = nI (zB (fun k => znh h s (lc.getD k 0) ((zen (zwt h lc (zth h x kn s) s) (zn (zsl (zMv h) 0) 2)).getD j 0) = true) lc.length) := by
  obtain ⟨b0, b1, b2, b8, b5, b4, b3, V⟩ := zR_b hr
  obtain ⟨nh, hnh⟩ : ∃ nh, zn (zsl (zMv h) 0) 2 = nh := ⟨_, rfl⟩
  obtain ⟨W, hW⟩ : ∃ W, zwt h lc (zth h x kn s) s = W := ⟨_, rfl⟩
  have ew : ∀ i, W i = true ↔ (zth h x kn s i ∧ zex (fun k => znh h s (lc.getD k 0) i) lc.length = true) := fun i => by rw [← hW]; unfold zwt; rw [Bool.and_eq_true, decide_eq_true_iff]
  rw [hW, hnh]
  rw [hnh] at b2
  have hn30 : nh ≤ 30 := b2.2.2
  have lle : ∀ i, (zen W i).length ≤ i := fun i => by rw [zen_len]; exact zcnt_le i
  intro q
  induction q with
  | zero =>
    intro i hi g z9 z10 fg gr gl gd
    have hi : i = nh := by omega
    subst hi
    exact ⟨g, z9, z10, rfl, fg, gl, gd⟩
  | succ q ih =>
    intro i hi g z9 z10 fg gr gl gd
    have ih := ih (i + 1) (by omega)
    have hl := lle i
    have hrg := zR_m hr fg
    have eV := zMv_m fg
    have m19 : g.1 2064404 i = zsl (zMv h) 0 19 i := by rw [zM_n fg (zMS_n (by decide) (by decide))]; exact (zs0 (f := 19) (by omega)).symm
    obtain ⟨v, v1, v2⟩ := M260h (h := h) (h2 := g) (s := s) (i := i) (x := x) (kn := kn) (d + 1) hrg eV hs (by omega) gr
    have hcl : zcnt (fun i => zth h x kn s i ∧ ¬ W i = true) i ≤ i := zcnt_le i
    have i120 : ∀ f : Nat → Option ai_R, ai_ix (nI i) 120 f = f i := fun f => z_ix (by omega) (by decide)
    have ec : zcnt (fun i => zth h x kn s i ∧ ¬ W i = true) (i + 1) = zcnt (fun i => zth h x kn s i ∧ ¬ W i = true) i + if zth h x kn s i ∧ ¬ W i = true then 1 else 0 := rfl
    rw [ec, zen_S] at ih
    rw [T266_65, z_i0 (by decide) (by decide), zM_n fg (zMS_n (by decide) (by decide)), b2.2.1, if_neg (by rw [nI_leI (by omega) (by omega)]; omega), i120, m19, v1]
    simp only [z_bi, nI_1]
    by_cases ct : zth h x kn s i
    · rw [if_pos (v2.mpr ct)]
      obtain ⟨e19, v19⟩ := zC_h hr (t := i) (by omega)
      -- the taps near to it
      have K : ∀ q k, k + q = lc.length → ai_E (d + 4) 266 100 [some (.inr (.inr (32, 0, 16128))), some (.inl (nI s)), z2, z3, some (.inl x4), some (.inl (nI lc.length)), some (.inl (nI (zen W i).length)), some (.inl (nI (zcnt (fun i => zth h x kn s i ∧ ¬ W i = true) i))), some (.inl (nI i)), some (.inl (nI (zB (fun k => znh h s (lc.getD k 0) i = true) k))), some (.inl (nI k))] [] g = ai_E (d + 4) 266 100 [some (.inr (.inr (32, 0, 16128))), some (.inl (nI s)), z2, z3, some (.inl x4), some (.inl (nI lc.length)), some (.inl (nI (zen W i).length)), some (.inl (nI (zcnt (fun i => zth h x kn s i ∧ ¬ W i = true) i))), some (.inl (nI i)), some (.inl (nI (zB (fun k => znh h s (lc.getD k 0) i = true) lc.length))), some (.inl (nI lc.length))] [] g := by
        intro q
        induction q with
        | zero => intro k hk; rw [show k = lc.length by omega]
        | succ q iq =>
          intro k hk
          have iq := iq (k + 1) (by omega)
          have hk24 := hlt k (by omega)
          obtain ⟨e12, v12⟩ := zC_t hr hk24
          have m12 : g.1 2064397 (lc.getD k 0) = zsl (zMv h) 0 12 (lc.getD k 0) := by rw [zM_n fg (zMS_n (by decide) (by decide))]; exact (zs0 (f := 12) (by omega)).symm
          have hz := zds_le v19 v12
          rw [zB_s] at iq
          rw [T266_100, if_neg (by rw [nI_leI (by omega) (by omega)]; omega), i120, z_ix (by omega) (by decide), gl k (by omega), z_ix (by omega) (by decide), m19, m12, M190 _ _ v19 v12]
          simp only [z_bi, nI_1]
          by_cases c : znh h s (lc.getD k 0) i = true
          · have c' : zds (zsl (zMv h) 0 19 i) (zsl (zMv h) 0 12 (lc.getD k 0)) ≤ s := of_decide_eq_true c
            rw [if_neg (by rw [nI_ltI (by omega) (by omega)]; omega), z_bit (by omega), z_or]
            rw [if_pos c] at iq
            exact iq
          · have c' : ¬ zds (zsl (zMv h) 0 19 i) (zsl (zMv h) 0 12 (lc.getD k 0)) ≤ s := fun q => c (decide_eq_true q)
            rw [if_pos (by rw [nI_ltI (by omega) (by omega)]; omega), show (0 : Int32) = nI 0 from rfl, z_or, Nat.or_zero]
            rw [if_neg c] at iq
            exact iq
      have K0 := K lc.length 0 (Nat.zero_add _)
      have e0 : zB (fun k => znh h s (lc.getD k 0) i = true) 0 = 0 := rfl
      rw [e0, show nI 0 = 0 from rfl] at K0
      rw [K0, T266_100, if_pos (by rw [z_le]; omega)]
      have hz0 : nI (zB (fun k => znh h s (lc.getD k 0) i = true) lc.length) = 0 ↔ ¬ W i = true := by
        rw [zB_n0 (by omega), ew, zex_iff]
        exact ⟨fun q c => by obtain ⟨k, k1, k2⟩ := c.2; exact q k k1 k2, fun q k k1 k2 => q ⟨ct, k, k1, k2⟩⟩
      by_cases cw : W i = true
      · rw [if_neg (fun q => hz0.mp q cw), z_ix (by omega) (by decide)]
        rw [if_pos cw, if_neg (fun q => q.2 cw), Nat.add_zero] at ih
        have el : (zen W i ++ [i]).length = (zen W i).length + 1 := by rw [List.length_append]; rfl
        rw [el] at ih
        simp only [nI_1]
        refine ih _ _ _ (zF_st fg (Or.inr ⟨by omega, by omega, by omega⟩)) (fun t ht => by rw [z_ne (by decide)]; exact gr t ht) (fun k hk => by rw [z_ne (by decide)]; exact gl k hk) fun j hj => ?_
        rw [z_st1]
        by_cases ej : j = (zen W i).length
        · subst ej
          rw [if_pos ⟨rfl, rfl⟩, z_gdr (Nat.le_refl _), Nat.sub_self]
          rfl
        · rw [if_neg (fun q => ej q.2), z_gdl (by omega)]
          exact gd j (by omega)
      · rw [if_pos (hz0.mpr cw)]
        rw [if_neg cw, if_pos ⟨ct, cw⟩] at ih
        simp only [nI_1]
        exact ih g _ _ fg gr gl gd
    · rw [if_neg (fun q => ct (v2.mp q))]
      have cw : ¬ W i = true := fun q => ct ((ew i).mp q).1
      rw [if_neg cw, if_neg (fun q => ct q.1), Nat.add_zero] at ih
      exact ih g _ _ fg gr gl gd
theorem znh_V {h h1 : ai_H} {s : Nat} (e : zMv h1 = zMv h) : znh h1 s = znh h s := funext fun t => funext fun i => by unfold znh; rw [e]
theorem zwt_V {h h1 : ai_H} {s : Nat} {l : List Nat} {th : Nat → Prop} [DecidablePred th] (e : zMv h1 = zMv h) : zwt h1 l th s = zwt h l th s := funext fun i => by unfold zwt; rw [znh_V e]
theorem zth_V {h h1 : ai_H} {x kn : Int32} {s i : Nat} (e : zMv h1 = zMv h) : zth h1 x kn s i ↔ zth h x kn s i := by unfold zth; rw [zcb_V e, e]
theorem P_mend (x1 x2 x3 x4 : Int32) : zPr 123 266 [.inl x1, .inl x2, .inl x3, .inl x4] := zPr_q fun d h hr => by
  obtain ⟨b0, b1, b2, b8, b5, b4, b3, V⟩ := zR_b hr
  have l01 : (0 : Int32).toInt = 0 := rfl
  have l02 : (2 : Int32).toInt = 2 := rfl
  by_cases c1 : 0 ≤ x1.toInt ∧ x1.toInt ≤ 30
  · by_cases c2 : 0 ≤ x2.toInt ∧ x2.toInt ≤ 999
    · by_cases c3 : 0 ≤ x3.toInt ∧ x3.toInt ≤ 999
      · by_cases c4 : 0 ≤ x4.toInt ∧ x4.toInt ≤ 2
        · obtain ⟨s, hs, rfl⟩ := z_rngI c1
          have hs : s ≤ 30 := by omega
          obtain ⟨n, hn⟩ : ∃ n, zn (zsl (zMv h) 0) 1 = n := ⟨_, rfl⟩
          obtain ⟨nh, hnh⟩ : ∃ nh, zn (zsl (zMv h) 0) 2 = nh := ⟨_, rfl⟩
          rw [hn] at b1
          rw [hnh] at b2
          have hn24 : n ≤ 24 := b1.2.2
          have hn30 : nh ≤ 30 := b2.2.2
          obtain ⟨h1, a1, a2⟩ := X170 (b := true) (d + 52) x2 x3 hr
          rw [hn] at a1
          have a1 : ai_X (d + 59) 170 [.inr (.inr (31, 0, 128)), .inl 1, .inl x2, .inl x3] h = some ([.inl (nI (zB (fun t => zshut (zsl (zMv h) 0) (nI t) x2 x3 = true ∧ zdry h t x2 x3 = 0) n))], h1) := a1
          have hr1 := zR_x hr a2
          have eV1 := zMv_x a2
          obtain ⟨lc, hlc⟩ : ∃ lc, zen (fun t => decide (zshut (zsl (zMv h) 0) (nI t) x2 x3 = true ∧ zdry h t x2 x3 = 0)) n = lc := ⟨_, rfl⟩
          have hN : zcnt (fun t => zshut (zsl (zMv h) 0) (nI t) x2 x3 = true ∧ zdry h t x2 x3 = 0) n = lc.length := by
            rw [← hlc, zen_len]
            exact zcnt_c fun t _ => (decide_eq_true_iff).symm
          have hNn : lc.length ≤ n := by rw [← hN]; exact zcnt_le n
          have hX312 := X312B (p := fun t => zshut (zsl (zMv h) 0) (nI t) x2 x3 = true ∧ zdry h t x2 x3 = 0) (n := n) (d + 58) h1 (by omega)
          rw [hN] at hX312
          by_cases cN : lc.length ≤ 12
          · obtain ⟨h2, p1, p2⟩ := X171 (s := s) (d + 51) x2 x3 hr1 hs
            have ez : zB (zth h1 x2 x3 s) (zn (zsl (zMv h1) 0) 2) = zB (zth h x2 x3 s) nh := by
              have e2 : zn (zsl (zMv h1) 0) 2 = nh := by rw [eV1, hnh]
              rw [e2]
              exact zB_c fun i _ => zth_V eV1
            rw [ez] at p1
            have hr2 := zR_x hr1 p2
            have eV2 := (zMv_x p2).trans eV1
            have hX := X13 (h := h2) (s := s) (p := fun t => zshut (zsl (zMv h) 0) (nI t) x2 x3 = true ∧ zdry h t x2 x3 = 0) (th := zth h x2 x3 s) (d + 56) hr2 hs (by rw [eV2, hn, hlc]; exact cN)
            rw [eV2, hn, hnh, hlc, zwt_V eV2] at hX
            obtain ⟨g, q1, q2, q3, q4, q5⟩ := hX
            unfold zp13 at q3
            rw [eV2, hnh, znh_V eV2] at q3
            rw [znh_V eV2] at q5
            obtain ⟨lw, hlw⟩ : ∃ lw, zen (zwt h lc (zth h x2 x3 s) s) nh = lw := ⟨_, rfl⟩
            rw [hlw] at q4 q5
            have f2 : zF zXS h g := zF_tr (zF_tr a2 p2) (zF_mono q2 fun _ _ => zpX_s)
            have hat : ∀ k, k < lc.length → lc.getD k 0 < n ∧ (zshut (zsl (zMv h) 0) (nI (lc.getD k 0)) x2 x3 = true ∧ zdry h (lc.getD k 0) x2 x3 = 0) := fun k hk => by
              rw [← hlc] at hk ⊢
              have := zen_at hk
              exact ⟨this.1, of_decide_eq_true this.2⟩
            have hin : ∀ t, t < n → (zshut (zsl (zMv h) 0) (nI t) x2 x3 = true ∧ zdry h t x2 x3 = 0) → ∃ k, k < lc.length ∧ lc.getD k 0 = t := fun t ht hp => by
              rw [← hlc]
              exact zen_in ht (decide_eq_true hp)
            have wat : ∀ j, j < lw.length → lw.getD j 0 < nh ∧ zth h x2 x3 s (lw.getD j 0) ∧ zex (fun k => znh h s (lc.getD k 0) (lw.getD j 0)) lc.length = true := fun j hj => by
              rw [← hlw] at hj ⊢
              have h1 := zen_at hj
              have h2 := h1.2
              unfold zwt at h2
              rw [Bool.and_eq_true] at h2
              exact ⟨h1.1, of_decide_eq_true h2.1, h2.2⟩
            have win : ∀ i, i < nh → zth h x2 x3 s i → zex (fun k => znh h s (lc.getD k 0) i) lc.length = true → ∃ j, j < lw.length ∧ lw.getD j 0 = i := fun i hi h1 h2 => by
              rw [← hlw]
              refine zen_in hi ?_
              unfold zwt
              rw [Bool.and_eq_true]
              exact ⟨decide_eq_true h1, h2⟩
            have lwn : lw.length ≤ nh := by rw [← hlw, zen_len]; exact zcnt_le nh
            -- the class up to what is asked
            have hcl : ∀ f : Option ai_R, (if x4 = 2 then ai_bi (ai_X (d + 59) 312 [.inl (nI (zB (zth h x2 x3 s) nh) &&& ((g.1 16391 5) ^^^ (-1)))] g) (fun v13 h12 => some ([.inl v13], h12)) else if x4 = 0 then ai_bi (ai_X (d + 59) 14 [.inr (.inr (21, 0, 16391))] g) (fun v15 h14 => some ([.inl v15], h14)) else ai_bi (ai_X (d + 59) 16 [.inr (.inr (21, 0, 16391))] g) (fun v17 h16 => some ([.inl v17], h16))) = f → ai_X (d + 60) 123 [.inr (.inr (31, 0, 128)), .inl (nI s), .inl x2, .inl x3, .inl x4] h = f := fun f hf => by
              rw [T123, X149]
              simp only [z_bi, zb_0]
              rw [if_neg (fun q => q ⟨c1, c2, c3⟩), X146]
              simp only [z_bi, zb_0]
              rw [if_neg (fun q => q c4), a1]
              simp only [z_bi]
              rw [hX312]
              simp only [z_bi]
              rw [if_pos (by rw [show (12 : Int32) = nI 12 from rfl, nI_leI (by omega) (by omega)]; exact cN), p1]
              simp only [z_bi]
              rw [q1]
              simp only [z_bv]
              exact hf
            -- the reference up to what is asked, behind any scratch
            have hmd : ∀ g2, zF zXS h g2 → ∃ g3, zF zMS g2 g3 ∧ (∀ k, k < lc.length → g3.1 2064457 k = nI (lc.getD k 0)) ∧ (∀ j, j < lw.length → g3.1 2064458 j = nI (zB (fun k => znh h s (lc.getD k 0) (lw.getD j 0) = true) lc.length)) ∧ ai_X (d + 60) 266 [.inr (.inr (32, 0, 16128)), .inl (nI s), .inl x2, .inl x3, .inl x4] g2 = (if x4 = 2 then some ([.inl (nI (zcnt (fun i => zth h x2 x3 s i ∧ ¬ zwt h lc (zth h x2 x3 s) s i = true) nh))], g3) else if x4 = 1 then (if (12 : Int32) ≤ nI lw.length then ai_bi (ai_X (d + 59) 268 [.inr (.inr (32, 0, 16128)), .inl 12] g3) (fun v3 h2 => some ([.inl v3], h2)) else ai_bi (ai_X (d + 59) 268 [.inr (.inr (32, 0, 16128)), .inl (nI lw.length)] g3) (fun v5 h4 => some ([.inl v5], h4))) else ai_bi (ai_X (d + 59) 267 [.inr (.inr (32, 0, 16128)), .inl (nI lc.length), .inl (nI lw.length)] g3) (fun v7 h6 => some ([.inl v7], h6))) := fun g2 fg2 => by
              have hrg := zR_x hr fg2
              have eVg := zMv_x fg2
              obtain ⟨g4, w1, w2, w3⟩ := M265 (d + 53) x2 x3 hrg
              have ep : (fun t => decide (zshut (zsl (zMv g2) 0) (nI t) x2 x3 = true ∧ zdry g2 t x2 x3 = 0)) = (fun t => decide (zshut (zsl (zMv h) 0) (nI t) x2 x3 = true ∧ zdry h t x2 x3 = 0)) := funext fun t => by rw [zdry_V eVg, eVg]
              rw [ep, eVg, hn, hlc] at w1 w3
              have hr4 := zR_m hrg w2
              have eV4 := (zMv_m w2).trans eVg
              obtain ⟨g5, u1, u2, u3, u4⟩ := M259k (d + 53) x2 x3 hr4 c2 c3
              have hr5 := zR_m hr4 u2
              have eV5 := (zMv_m u2).trans eV4
              have f5 : zF zMS g2 g5 := zF_tr w2 u2
              have u3' : ∀ t, t < zn (zsl (zMv g2) 0) 1 → g5.1 2064456 t = zb (zrn g2 x2 x3 t) := fun t ht => by
                rw [u3 t (by rw [eV4, ← eVg]; exact ht)]
                unfold zrn
                rw [zdry_V (eV4.trans eVg.symm), eV4.trans eVg.symm]
              have w3' : ∀ k, k < lc.length → g5.1 2064457 k = nI (lc.getD k 0) := fun k hk => by
                rw [u4 2064457 (by decide) (by decide) (by decide)]
                exact w3 k hk
              obtain ⟨g6, z9', z10', y1, y2, y3, y4⟩ := M266l (h := g2) (s := s) (x := x2) (kn := x3) (lc := lc) (d + 55) hrg hs cN (fun k hk => by rw [eVg, hn]; exact (hat k hk).1) (some (.inl x2)) (some (.inl x3)) x4 nh 0 (by rw [eVg, hnh]; omega) g5 none none f5 u3' w3' (fun j hj => absurd hj (Nat.not_lt_zero _))
              have eth : ∀ i, zth g2 x2 x3 s i ↔ zth h x2 x3 s i := fun i => zth_V eVg
              have eW : zwt g2 lc (zth g2 x2 x3 s) s = zwt h lc (zth h x2 x3 s) s := funext fun i => by
                rw [zwt_V eVg]
                unfold zwt
                rw [decide_eq_decide.mpr (eth i)]
              rw [eW, eVg, hnh, hlw, znh_V eVg] at y4
              have en2 : zn (zsl (zMv g2) 0) 2 = nh := by rw [eVg, hnh]
              rw [eW, en2, hlw] at y1
              have ec : zcnt (fun i => zth g2 x2 x3 s i ∧ ¬ zwt h lc (zth h x2 x3 s) s i = true) nh = zcnt (fun i => zth h x2 x3 s i ∧ ¬ zwt h lc (zth h x2 x3 s) s i = true) nh := zcnt_c fun i _ => and_congr_left fun _ => eth i
              rw [ec] at y1
              have m2 : g6.1 2064387 0 = nI nh := by rw [zM_n y2 (zMS_n (by decide) (by decide)), fg2.1 _ _ (fun q => by have := zXS_r q; revert this; decide)]; exact b2.2.1
              refine ⟨g6, y2, y3, y4, ?_⟩
              rw [T266, M261]
              simp only [z_bi, zb_0]
              rw [if_neg (fun q => q c1), M187]
              simp only [z_bi, zb_0]
              rw [if_neg (fun q => q c2), M187]
              simp only [z_bi, zb_0]
              rw [if_neg (fun q => q c3), M186]
              simp only [z_bi, zb_0, l01, l02]
              rw [if_neg (fun q => q c4), w1]
              simp only [z_bi]
              rw [if_pos (by rw [show (12 : Int32) = nI 12 from rfl, nI_leI (by omega) (by omega)]; exact cN), u1]
              simp only [z_bv]
              refine y1.trans ?_
              rw [T266_65, z_i0 (by decide) (by decide), m2, if_pos (by rw [z_le]; omega)]
            by_cases k2 : x4 = 2
            · obtain ⟨g3, r1, -, -, r4⟩ := hmd g f2
              refine ⟨nI (zcnt (fun i => zth h x2 x3 s i ∧ ¬ zwt h lc (zth h x2 x3 s) s i = true) nh), g, g3, hcl _ ?_, f2, ?_, r1⟩
              · rw [if_pos k2, q3.2.2, zB_andn2 (by omega) (by omega) (Nat.le_refl _), X312B _ _ (by omega)]
                simp only [z_bi]
                rw [zcnt_c (p := fun t => zth h x2 x3 s t ∧ ¬ (zth h x2 x3 s t ∧ zex (fun k => znh h s (lc.getD k 0) t) lc.length = true)) (q := fun i => zth h x2 x3 s i ∧ ¬ zwt h lc (zth h x2 x3 s) s i = true) fun i _ => by unfold zwt; rw [Bool.and_eq_true, decide_eq_true_iff]]
              · rw [r4, if_pos k2]
            · by_cases k0 : x4 = 0
              · -- the fewest
                have hcov : ∀ S, S < 2 ^ lc.length → (zcov (fun k i => znh h s (lc.getD k 0) i) (zth h x2 x3 s) lc.length nh S = true ↔ ∀ j, j < lw.length → zex (fun k => S.testBit k && znh h s (lc.getD k 0) (lw.getD j 0)) lc.length = true) := fun S _ => by
                  rw [zcov_i]
                  constructor
                  · intro q j hj
                    obtain ⟨j1, j2, j3⟩ := wat j hj
                    exact q _ j1 j2 j3
                  · intro q i hi i2 i3
                    obtain ⟨j, j1, j2⟩ := win i hi i2 i3
                    rw [← j2]
                    exact q j j1
                have hall : zcov (fun k i => znh h s (lc.getD k 0) i) (zth h x2 x3 s) lc.length nh (2 ^ lc.length - 1) = true := by
                  rw [zcov_i]
                  intro i _ _ i3
                  obtain ⟨k, k1, k2⟩ := zex_iff.mp i3
                  exact zex_iff.mpr ⟨k, k1, by rw [Bool.and_eq_true, Nat.testBit_two_pow_sub_one]; exact ⟨decide_eq_true k1, k2⟩⟩
                obtain ⟨d', hd'⟩ : ∃ d', d + 58 = d' + lc.length + 1 := ⟨d + 57 - lc.length, by omega⟩
                have hco : zco (ai_st (ai_st g 16391 6 (nI (lc.length + 1))) 16391 7 0) (fun k => lc.getD k 0) (fun k i => znh h s (lc.getD k 0) i) (zth h x2 x3 s) lc.length nh := by
                  refine ⟨fun k hk => ?_, ?_⟩
                  · rw [z_ne (by decide), z_ne (by decide), z_ne (by decide), z_ne (by decide)]
                    have := (hat k hk).1
                    exact ⟨(q3.2.1 k hk).1, by dsimp only; omega, (q3.2.1 k hk).2⟩
                  · rw [z_st1, if_neg (by omega), z_st1, if_neg (by omega)]
                    exact q3.2.2
                obtain ⟨g', y1, y2, y3, y4, y5, -⟩ := X15 (L := fun k => lc.getD k 0) (p := fun k i => znh h s (lc.getD k 0) i) (th := zth h x2 x3 s) (N := lc.length) (nh := nh) cN hn30 lc.length (Nat.le_refl _) d' (ai_st (ai_st g 16391 6 (nI (lc.length + 1))) 16391 7 0) 0 (lc.length + 1, 0) hco (by rw [Nat.mul_zero]; exact Nat.two_pow_pos _) (by rw [z_st1, if_neg (by omega), z_stS]) (by
                  rw [z_stS]
                  have : ∀ n, zmk (fun k => lc.getD k 0) 0 n = 0 := by
                    intro n
                    induction n with
                    | zero => rfl
                    | succ n ih => show (if Nat.testBit 0 n = true then _ else zmk (fun k => lc.getD k 0) 0 n) = 0; rw [Nat.zero_testBit, if_neg Bool.false_ne_true, ih]
                  rw [this]
                  rfl) (by dsimp only; omega)
                have z1 : zhe (fun k i => znh h s (lc.getD k 0) i) (zth h x2 x3 s) lc.length nh (2 ^ lc.length * 0) = 0 := by
                  unfold zhe
                  refine zB_0.mpr fun i _ q => ?_
                  obtain ⟨k, -, k2⟩ := zex_iff.mp q.2
                  rw [Nat.mul_zero, Nat.zero_testBit] at k2
                  cases k2
                have z2 : zmk (fun k => lc.getD k 0) (2 ^ lc.length * 0) lc.length = 0 := by
                  rw [Nat.mul_zero]
                  have : ∀ n, zmk (fun k => lc.getD k 0) 0 n = 0 := by
                    intro n
                    induction n with
                    | zero => rfl
                    | succ n ih => show (if Nat.testBit 0 n = true then _ else zmk (fun k => lc.getD k 0) 0 n) = 0; rw [Nat.zero_testBit, if_neg Bool.false_ne_true, ih]
                  exact this _
                have z3 : zpo (2 ^ lc.length * 0) lc.length = 0 := by
                  rw [Nat.mul_zero]
                  unfold zpo
                  have : ∀ n, zcnt (fun k => Nat.testBit 0 k = true) n = 0 := by
                    intro n
                    induction n with
                    | zero => rfl
                    | succ n ih => show zcnt _ n + (if Nat.testBit 0 n = true then 1 else 0) = 0; rw [ih, Nat.zero_testBit, if_neg Bool.false_ne_true]
                  exact this _
                rw [z1, z2, z3, show nI 0 = 0 from rfl] at y1
                rw [Nat.mul_zero] at y5
                have fg' : zF zXS h g' := by
                  refine ⟨fun q j nq => ?_, by rw [y2]; exact f2.2⟩
                  rw [y3 q j (fun c => nq (by rw [c.1]; exact Or.inr (Or.inl rfl))), z_st1, if_neg (fun c => nq (by rw [c.1]; exact Or.inr (Or.inl rfl))), z_st1, if_neg (fun c => nq (by rw [c.1]; exact Or.inr (Or.inl rfl)))]
                  exact f2.1 q j nq
                obtain ⟨g3, r1, r2, r3, r4⟩ := hmd g' fg'
                have hM := M267 (g := g3) (L := fun k => lc.getD k 0) (r := fun j k => znh h s (lc.getD k 0) (lw.getD j 0)) (cov := zcov (fun k i => znh h s (lc.getD k 0) i) (zth h x2 x3 s) lc.length nh) (N := lc.length) (M := lw.length) (d + 57) cN (by omega) (fun k hk => ⟨r2 k hk, by have := (hat k hk).1; omega⟩) r3 hcov hall
                refine ⟨nI (zmk (fun k => lc.getD k 0) (zfd (zmV (zcov (fun k i => znh h s (lc.getD k 0) i) (zth h x2 x3 s) lc.length nh) lc.length) 0 (2 ^ lc.length) (lc.length + 1, 0)).2 lc.length), g', g3, hcl _ ?_, fg', ?_, r1⟩
                · rw [if_neg k2, if_pos k0, T14, q3.1, nI_1, hd', z_st1 (j := 7), if_neg (by omega), z_st1 (j := 6), if_neg (by omega), q3.1, y1]
                  simp only [z_bv, z_bi]
                  rw [y5]
                · rw [r4, if_neg k2, if_neg (by rw [k0]; decide), hM]
                  rfl
              · -- the most apart
                have k1 : x4 = 1 := by
                  have n2 : ¬ x4.toInt = 2 := fun q => k2 (by rw [z_eq, q]; rfl)
                  have n0 : ¬ x4.toInt = 0 := fun q => k0 (by rw [z_eq, q]; rfl)
                  rw [z_eq]
                  show x4.toInt = 1
                  omega
                obtain ⟨m, hm⟩ : ∃ m, zh12 lw = m := ⟨_, rfl⟩
                have hm12 : m ≤ 12 := by rw [← hm]; unfold zh12; split <;> omega
                have hml : m ≤ lw.length := by rw [← hm]; unfold zh12; split <;> omega
                rw [hm] at q4 q5
                obtain ⟨d', hd'⟩ : ∃ d', d + 58 = d' + m + 1 := ⟨d + 57 - m, by omega⟩
                have hQ : ∀ i, i < m → ∀ j, j < m → (zex (fun k => znh h s (lc.getD k 0) (lw.getD i 0) && znh h s (lc.getD k 0) (lw.getD j 0)) lc.length = true ↔ ∃ t, t < n ∧ ((zshut (zsl (zMv h) 0) (nI t) x2 x3 = true ∧ zdry h t x2 x3 = 0) ∧ znh h s t (lw.getD i 0) = true) ∧ ((zshut (zsl (zMv h) 0) (nI t) x2 x3 = true ∧ zdry h t x2 x3 = 0) ∧ znh h s t (lw.getD j 0) = true)) := fun i _ j _ => by
                  rw [zex_iff]
                  constructor
                  · rintro ⟨k, k1, k2⟩
                    rw [Bool.and_eq_true] at k2
                    exact ⟨lc.getD k 0, (hat k k1).1, ⟨(hat k k1).2, k2.1⟩, (hat k k1).2, k2.2⟩
                  · rintro ⟨t, t1, ⟨t2, t3⟩, -, t4⟩
                    obtain ⟨k, k1, k2⟩ := hin t t1 t2
                    exact ⟨k, k1, by rw [k2, Bool.and_eq_true]; exact ⟨t3, t4⟩⟩
                obtain ⟨g', b', y1, y2, y3, y4, -, y6⟩ := X17 (w := fun j t => (zshut (zsl (zMv h) 0) (nI t) x2 x3 = true ∧ zdry h t x2 x3 = 0) ∧ znh h s t (lw.getD j 0) = true) (Q := fun i j => zex (fun k => znh h s (lc.getD k 0) (lw.getD i 0) && znh h s (lc.getD k 0) (lw.getD j 0)) lc.length) (m := m) (n := n) hm12 hn24 hQ m 0 (Nat.zero_add _) d' (ai_st g 16391 6 (-1)) (fun _ => false) 0 0 ⟨by rw [z_st1, if_neg (by omega)]; exact q4, fun j hj => by rw [z_ne (by decide)]; exact q5 j hj⟩ (Nat.le_refl _) (by omega) (by rw [z_stS]; rfl)
                have z1 : zB (fun t => zex (fun j => false && decide ((zshut (zsl (zMv h) 0) (nI t) x2 x3 = true ∧ zdry h t x2 x3 = 0) ∧ znh h s t (lw.getD j 0) = true)) m = true) n = 0 := by
                  refine zB_0.mpr fun t _ q => ?_
                  obtain ⟨j, -, j2⟩ := zex_iff.mp q
                  cases j2
                rw [z1, show nI 0 = 0 from rfl] at y1
                rw [if_pos (by omega), Nat.zero_add] at y6
                have fg' : zF zXS h g' := by
                  refine ⟨fun q j nq => ?_, by rw [y2]; exact f2.2⟩
                  rw [y3 q j (fun c => nq (by rw [c.1]; exact Or.inr (Or.inl rfl))), z_st1, if_neg (fun c => nq (by rw [c.1]; exact Or.inr (Or.inl rfl)))]
                  exact f2.1 q j nq
                obtain ⟨g3, r1, r2, r3, r4⟩ := hmd g' fg'
                have hM := M268 (g := g3) (r := fun j k => znh h s (lc.getD k 0) (lw.getD j 0)) (N := lc.length) (m := m) (d + 57) (by omega) hm12 (fun j hj => r3 j (by omega))
                rw [zmx_pk] at hM
                refine ⟨nI (zpk (fun i j => zex (fun k => znh h s (lc.getD k 0) (lw.getD i 0) && znh h s (lc.getD k 0) (lw.getD j 0)) lc.length) m m 0 (fun _ => false)), g', g3, hcl _ ?_, fg', ?_, r1⟩
                · rw [if_neg k2, if_neg k0, T16, hd', y1]
                  simp only [z_bv, z_bi]
                  rw [y4, y6, nI_pred]
                · rw [r4, if_neg k2, if_pos k1]
                  by_cases e : 12 ≤ lw.length
                  · have em : m = 12 := by rw [← hm]; exact if_pos e
                    rw [if_pos (by rw [show (12 : Int32) = nI 12 from rfl, nI_leI (by omega) (by omega)]; exact e)]
                    rw [em] at hM ⊢
                    rw [show (12 : Int32) = nI 12 from rfl, hM]
                    rfl
                  · have em : m = lw.length := by rw [← hm]; exact if_neg e
                    rw [if_neg (by rw [show (12 : Int32) = nI 12 from rfl, nI_leI (by omega) (by omega)]; exact e)]
                    rw [em] at hM ⊢
                    rw [hM]
                    rfl
          · have hrg := zR_x hr a2
            obtain ⟨g4, w1, w2, w3⟩ := M265 (d + 53) x2 x3 hrg
            have ep : (fun t => decide (zshut (zsl (zMv h1) 0) (nI t) x2 x3 = true ∧ zdry h1 t x2 x3 = 0)) = (fun t => decide (zshut (zsl (zMv h) 0) (nI t) x2 x3 = true ∧ zdry h t x2 x3 = 0)) := funext fun t => by rw [zdry_V eV1, eV1]
            rw [ep, eV1, hn, hlc] at w1
            refine ⟨-1, h1, g4, ?_, a2, ?_, w2⟩
            · rw [T123, X149]
              simp only [z_bi, zb_0]
              rw [if_neg (fun q => q ⟨c1, c2, c3⟩), X146]
              simp only [z_bi, zb_0]
              rw [if_neg (fun q => q c4), a1]
              simp only [z_bi]
              rw [hX312]
              simp only [z_bi]
              rw [if_neg (by rw [show (12 : Int32) = nI 12 from rfl, nI_leI (by omega) (by omega)]; exact cN)]
            · rw [T266, M261]
              simp only [z_bi, zb_0]
              rw [if_neg (fun q => q c1), M187]
              simp only [z_bi, zb_0]
              rw [if_neg (fun q => q c2), M187]
              simp only [z_bi, zb_0]
              rw [if_neg (fun q => q c3), M186]
              simp only [z_bi, zb_0, l01, l02]
              rw [if_neg (fun q => q c4), w1]
              simp only [z_bi]
              rw [if_neg (by rw [show (12 : Int32) = nI 12 from rfl, nI_leI (by omega) (by omega)]; exact cN)]
        · refine ⟨-1, h, h, ?_, zF_rf, ?_, zF_rf⟩
          · rw [T123, X149]
            simp only [z_bi, zb_0]
            rw [if_neg (fun q => q ⟨c1, c2, c3⟩), X146]
            simp only [z_bi, zb_0, l02]
            rw [if_pos c4]
          · rw [T266, M261]
            simp only [z_bi, zb_0]
            rw [if_neg (fun q => q c1), M187]
            simp only [z_bi, zb_0]
            rw [if_neg (fun q => q c2), M187]
            simp only [z_bi, zb_0]
            rw [if_neg (fun q => q c3), M186]
            simp only [z_bi, zb_0, l01, l02]
            rw [if_pos c4]
      · refine ⟨-1, h, h, ?_, zF_rf, ?_, zF_rf⟩
        · rw [T123, X149]
          simp only [z_bi, zb_0]
          rw [if_pos (fun q => c3 q.2.2)]
        · rw [T266, M261]
          simp only [z_bi, zb_0]
          rw [if_neg (fun q => q c1), M187]
          simp only [z_bi, zb_0]
          rw [if_neg (fun q => q c2), M187]
          simp only [z_bi, zb_0]
          rw [if_pos c3]
    · refine ⟨-1, h, h, ?_, zF_rf, ?_, zF_rf⟩
      · rw [T123, X149]
        simp only [z_bi, zb_0]
        rw [if_pos (fun q => c2 q.2.1)]
      · rw [T266, M261]
        simp only [z_bi, zb_0]
        rw [if_neg (fun q => q c1), M187]
        simp only [z_bi, zb_0]
        rw [if_pos c2]
  · refine ⟨-1, h, h, ?_, zF_rf, ?_, zF_rf⟩
    · rw [T123, X149]
      simp only [z_bi, zb_0]
      rw [if_pos (fun q => c1 q.1)]
    · rw [T266, M261]
      simp only [z_bi, zb_0]
      rw [if_pos c1]
