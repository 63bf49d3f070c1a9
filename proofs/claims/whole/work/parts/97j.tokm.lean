/-! TOKENS: the reference's, whole; words, faults, steps -/
theorem zte_go {B : Nat → Nat} {n p m : Nat} (hm : m = 1 ∨ m = 2) (hk : zkd B n p = m) : zgo (fun i => decide (zkd B n i = m)) (n - p) p = zte B n p := by
  have hp : p < n := by
    rcases Nat.lt_or_ge p n with q | q
    · exact q
    · have := (zkd_0 (B := B)).mpr q; omega
  unfold zte
  rw [hk, if_pos hm, show n - p = (n - (p + 1)) + 1 by omega]
  show (if decide (zkd B n p = m) = true then _ else _) = _
  rw [if_pos (decide_eq_true hk)]
noncomputable def zx226 (d : Nat) (h : ai_H) : Option ai_R := ai_bi (ai_X d 225 [.inr (.inr (32, 0, 16128))] (ai_st h 16128 52 (h.1 16128 51))) (fun v6 h5 => if 0 ≤ v6 then ai_bi (ai_X d 186 [.inl v6, .inl 97, .inl 122] (ai_st (ai_stL h5 16128 (-1)) 16128 54 0)) (fun v8 h7 => if v8 = 0 then ai_bi (ai_X d 186 [.inl v6, .inl 48, .inl 57] h7) (fun v10 h9 => if v10 = 0 then if v6 = 40 then some ([], (ai_st (ai_st h9 16128 53 v6) 16128 51 (((ai_st h9 16128 53 v6).1 16128 51) + 1))) else if v6 = 41 then some ([], (ai_st (ai_st h9 16128 53 v6) 16128 51 (((ai_st h9 16128 53 v6).1 16128 51) + 1))) else if v6 = 59 then some ([], (ai_st (ai_st h9 16128 53 v6) 16128 51 (((ai_st h9 16128 53 v6).1 16128 51) + 1))) else if v6 = 60 then some ([], (ai_st (ai_st h9 16128 53 v6) 16128 51 (((ai_st h9 16128 53 v6).1 16128 51) + 1))) else if v6 = 62 then some ([], (ai_st (ai_st h9 16128 53 v6) 16128 51 (((ai_st h9 16128 53 v6).1 16128 51) + 1))) else if v6 = 61 then some ([], (ai_st (ai_st h9 16128 53 v6) 16128 51 (((ai_st h9 16128 53 v6).1 16128 51) + 1))) else some ([], (ai_st (ai_st h9 16128 53 3) 16128 51 (((ai_st h9 16128 53 3).1 16128 51) + 1))) else ai_E d 226 168 [some (.inr (.inr (32, 0, 16128))), some (.inl v6)] [] h9) else ai_E d 226 89 [some (.inr (.inr (32, 0, 16128))), some (.inl v6)] [] (ai_stL (ai_st h7 16128 53 1) 16128 0)) else some ([], (ai_st (ai_st (ai_stL h5 16128 (-1)) 16128 54 0) 16128 53 0)))
theorem M226t {B : Nat → Nat} {n p : Nat} {h : ai_H} (d : Nat) (hb : ∀ i, B i < 256) (hn : n ≤ 500) (hp : p ≤ n) (ht : zUb h B n) (h51 : h.1 16128 51 = nI p) : ∃ h', zx226 (d + 1) h = some ([], h') ∧ zUk h' B n p ∧ zG zQu h h' := by
  unfold zx226
  rw [h51]
  obtain ⟨g0, e0⟩ : ∃ g, ai_st h 16128 52 (nI p) = g := ⟨_, rfl⟩
  rw [e0]
  have t0 : zUb g0 B n := by rw [← e0]; exact zUb_st (by decide) ht
  have f0 : zG zQu h g0 := by rw [← e0]; exact zG_st zG_rf ⟨rfl, by decide, by decide⟩
  have a51 : g0.1 16128 51 = nI p := by rw [← e0, z_nj (by decide)]; exact h51
  have a52 : g0.1 16128 52 = nI p := by rw [← e0, z_stS]
  rw [M225 d hn t0 a51 (by omega), z_bi]
  obtain ⟨g1, e1⟩ : ∃ g, ai_st (ai_stL g0 16128 (-1)) 16128 54 0 = g := ⟨_, rfl⟩
  rw [e1]
  have t1 : zUb g1 B n := by rw [← e1]; exact zUb_st (by decide) (zUb_stL t0)
  have f1 : zG zQu h g1 := by rw [← e1]; exact zG_st (zG_stL f0) ⟨rfl, by decide, by decide⟩
  have b51 : g1.1 16128 51 = nI p := by rw [← e1, z_nj (by decide)]; exact a51
  have b52 : g1.1 16128 52 = nI p := by rw [← e1, z_nj (by decide)]; exact a52
  have b54 : g1.1 16128 54 = nI 0 := by rw [← e1, z_stS]; rfl
  have bx : g1.2.1 16128 = -1 := by rw [← e1]; exact z_stLS
  by_cases c : p < n
  · have hbp := hb p
    rw [if_pos c, if_pos (by rw [z_le, z_T (by omega), zl0]; omega), M186, z_bi, z_T (by omega), zl97, zl122, zb_if]
    by_cases c1 : 97 ≤ B p ∧ B p ≤ 122
    · have k1 : zkd B n p = 1 := zkd_1.mpr ⟨c, c1⟩
      rw [if_pos (by omega)]
      obtain ⟨h', u1, u2, u3, u4⟩ := M226w (p := p) d (some (.inl (nI (B p)))) hb hn (n - p) p (ai_stL (ai_st g1 16128 53 1) 16128 0) (by omega) (Nat.le_refl _) (fun i h1 h2 => absurd h2 (Nat.not_lt_of_le h1)) (zUb_stL (zUb_st (by decide) t1)) (by show (ai_st g1 16128 53 1).1 16128 51 = _; rw [z_nj (by decide)]; exact b51) (by show (ai_st g1 16128 53 1).1 16128 52 = _; rw [z_nj (by decide)]; exact b52) (by
        rw [z_stLS, if_pos (by omega), Nat.sub_self]
        rfl)
      rw [zte_go (Or.inl rfl) k1] at u2 u3
      refine ⟨h', u1, ⟨?_, u2, ?_, ?_, fun q => absurd (k1.symm.trans q) (by decide)⟩, zG_tr (zG_stL (zG_st f1 ⟨rfl, by decide, by decide⟩)) (zG_mono u4 fun q j hq => ⟨hq.1, by omega, by omega⟩)⟩
      · rw [u4.1 16128 52 (by omega)]
        show (ai_st g1 16128 53 1).1 16128 52 = _
        rw [z_nj (by decide)]; exact b52
      · rw [u4.1 16128 53 (by omega), zutk_1.mpr k1]
        show (ai_st g1 16128 53 1).1 16128 53 = _
        rw [z_stS]; rfl
      · rw [u3]
        unfold zutx
        by_cases c2 : zte B n p ≤ p + 10
        · rw [if_pos c2, if_pos ⟨k1, c2⟩]
        · rw [if_neg c2, if_neg (fun q => c2 q.2)]
    · rw [if_neg (by omega), M186, z_bi, z_T (by omega), zl48, zl57, zb_if]
      by_cases c2 : 48 ≤ B p ∧ B p ≤ 57
      · have k2 : zkd B n p = 2 := zkd_2.mpr ⟨c, c2⟩
        rw [if_pos (show (48 : Int) ≤ (B p : Int) ∧ (B p : Int) ≤ 57 by omega)]
        obtain ⟨h', u1, u2, u3, u4, u5, u6⟩ := M226n (p := p) d (some (.inl (nI (B p)))) hb hn (n - p) p g1 0 (by omega) (Nat.le_refl _) (fun i h1 h2 => absurd h2 (Nat.not_lt_of_le h1)) t1 b51 b52 b54 (by decide) (fun _ => by rw [Nat.sub_self]; rfl)
        rw [zte_go (Or.inr rfl) k2] at u2 u3 u4
        refine ⟨h', u1, ⟨?_, u2, ?_, ?_, fun _ q => ?_⟩, zG_tr f1 (zG_mono u6 fun q j hq => ⟨hq.1, by omega, by omega⟩)⟩
        · rw [u6.1 16128 52 (by omega)]; exact b52
        · rw [u3]
          unfold zutk
          rw [if_neg (show ¬ zkd B n p = 0 by omega), if_neg (show ¬ zkd B n p = 1 by omega), if_pos k2]
        · rw [u5, bx]
          unfold zutx
          rw [if_neg (by omega)]
        · rw [u4 q]; rfl
      · rw [if_neg (show ¬ ((48 : Int) ≤ (B p : Int) ∧ (B p : Int) ≤ 57) by omega)]
        have kn1 : ¬ zkd B n p = 1 := fun q => c1 (zkd_1.mp q).2
        have kn2 : ¬ zkd B n p = 2 := fun q => c2 (zkd_2.mp q).2
        have kn0 : ¬ zkd B n p = 0 := fun q => by have := zkd_0.mp q; omega
        have te : zte B n p = p + 1 := by
          unfold zte
          rw [if_neg (by omega), if_neg kn0]
        have tx : zutx B n p = -1 := by
          unfold zutx
          rw [if_neg (fun q => kn1 q.1)]
        have e51 : ∀ v, (ai_st g1 16128 53 v).1 16128 51 = nI p := fun v => by rw [z_nj (by decide)]; exact b51
        have F : ∀ v, v = nI (zutk B n p) → zUk (ai_st (ai_st g1 16128 53 v) 16128 51 (nI (p + 1))) B n p ∧ zG zQu h (ai_st (ai_st g1 16128 53 v) 16128 51 (nI (p + 1))) := fun v hv => by
          refine ⟨⟨by rw [z_nj (by decide), z_nj (by decide)]; exact b52, by rw [z_stS, te], by rw [z_nj (by decide), z_stS, hv], by rw [tx]; exact bx, fun q => absurd q kn2⟩, zG_st (zG_st f1 ⟨rfl, by decide, by decide⟩) ⟨rfl, by decide, by decide⟩⟩
        simp only [e51, nI_1]
        by_cases c3 : B p = 60 ∨ B p = 62 ∨ B p = 61 ∨ B p = 59 ∨ B p = 40 ∨ B p = 41
        · have k3 : zkd B n p = 3 := zkd_3.mpr ⟨c, c3⟩
          have ek : nI (B p) = nI (zutk B n p) := by
            unfold zutk
            rw [if_neg kn0, if_neg kn1, if_neg kn2, if_pos k3]
          refine ⟨_, ?_, F _ ek⟩
          rcases c3 with q | q | q | q | q | q <;> rw [q] <;> rfl
        · have k3 : ¬ zkd B n p = 3 := fun q => c3 (zkd_3.mp q).2
          have ek : (3 : Int32) = nI (zutk B n p) := by
            unfold zutk
            rw [if_neg kn0, if_neg kn1, if_neg kn2, if_neg k3]
            rfl
          refine ⟨_, ?_, F _ ek⟩
          have tb : (nI (B p)).toInt = (B p : Int) := z_T (by omega)
          simp only [z_eq (x := nI (B p)), tb, zl41, zl0, zl1, zl2, zl3, zl4, zl5, zl6, zl7, zl8, zl9, zl10, zl12, zl15, zl16, zl20, zl22, zl23, zl24, zl27, zl30, zl31, zl32, zl40, zl46, zl48, zl50, zl57, zl59, zl60, zl61, zl62, zl63, zl80, zl96, zl97, zl99, zl100, zl122, zl255, zl360, zl500, zl999, zl9999, zl60000, zl99999, zl16777215, zl1073741824, zlm1, zlm2, zlm3]
          repeat rw [if_neg (by omega)]
  · have k0 : zkd B n p = 0 := zkd_0.mpr (by omega)
    rw [if_neg c, if_neg (by decide)]
    refine ⟨_, rfl, ⟨?_, ?_, ?_, ?_, fun q => absurd (k0.symm.trans q) (by decide)⟩, ?_⟩
    · rw [z_nj (by decide)]; exact b52
    · rw [z_nj (by decide), b51]
      unfold zte
      rw [if_neg (by omega), if_pos k0]
    · rw [z_stS, zutk_0.mpr k0]; rfl
    · show g1.2.1 16128 = _
      rw [bx]
      unfold zutx
      rw [if_neg (by omega)]
    · exact zG_st f1 ⟨rfl, by decide, by decide⟩
theorem M226 {B : Nat → Nat} {n e : Nat} {h : ai_H} (d : Nat) (hb : ∀ i, B i < 256) (hn : n ≤ 500) (he : e ≤ n) (ht : zUb h B n) (h51 : h.1 16128 51 = nI e) : ∃ h', ai_X (d + 2) 226 [.inr (.inr (32, 0, 16128))] h = some ([], h') ∧ zUk h' B n (zsk B n e) ∧ zG zQu h h' := by
  have K : ∀ k p g, p + k = n → zUb g B n → g.1 16128 51 = nI p → zG zQu h g → ∃ h', ai_E (d + 1) 226 0 [some (.inr (.inr (32, 0, 16128))), none] [] g = some ([], h') ∧ zUk h' B n (zgo (fun i => decide (B i = 32 ∨ B i = 10)) k p) ∧ zG zQu h h' := by
    intro k
    induction k with
    | zero =>
      intro p g hp t g51 f
      obtain ⟨h', a1, a2, a3⟩ := M226t d hb hn (by omega) t g51
      refine ⟨h', ?_, a2, zG_tr f a3⟩
      rw [T226_0, M225 d hn t g51 (by omega), if_neg (show ¬ p < n by omega), z_bi, if_neg (show ¬ (-1 : Int32) = 32 by decide), M225 d hn t g51 (by omega), if_neg (show ¬ p < n by omega), z_bi, if_neg (show ¬ (-1 : Int32) = 10 by decide)]
      exact a1
    | succ k ih =>
      intro p g hp t g51 f
      have hbp := hb p
      have tb : (nI (B p)).toInt = (B p : Int) := z_T (by omega)
      have I := ih (p + 1) (ai_st g 16128 51 (nI (p + 1))) (by omega) (zUb_st (by decide) t) z_stS (zG_st f ⟨rfl, by decide, by decide⟩)
      rw [T226_0, M225 d hn t g51 (by omega), if_pos (show p < n by omega), z_bi, M225 d hn t g51 (by omega), if_pos (show p < n by omega), z_bi, g51, nI_1]
      unfold zgo
      by_cases c1 : B p = 32
      · rw [if_pos (by rw [c1]; rfl), if_pos (decide_eq_true (Or.inl c1))]
        exact I
      · rw [if_neg (by rw [z_eq, tb, zl32]; omega)]
        by_cases c2 : B p = 10
        · rw [if_pos (by rw [c2]; rfl), if_pos (decide_eq_true (Or.inr c2))]
          exact I
        · rw [if_neg (by rw [z_eq, tb, zl10]; omega), if_neg (by rw [decide_eq_true_eq]; omega)]
          obtain ⟨h', a1, a2, a3⟩ := M226t d hb hn (by omega) t g51
          refine ⟨h', ?_, a2, zG_tr f a3⟩
          unfold zx226 at a1
          rw [g51] at a1
          exact a1
  have := K (n - e) e h (by omega) ht h51 zG_rf
  rw [T226_0] at this
  rw [T226]
  exact this
