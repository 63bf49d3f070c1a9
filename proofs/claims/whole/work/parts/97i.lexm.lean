/-! TOKENS AND WORDS: the reference's -/
/-- all but some ints and the longs stand -/
def zG (P : Nat → Nat → Prop) (h h' : ai_H) : Prop := (∀ q j, ¬ P q j → h'.1 q j = h.1 q j) ∧ h'.2.2 = h.2.2
theorem zG_rf {P : Nat → Nat → Prop} {h : ai_H} : zG P h h := ⟨fun _ _ _ => rfl, rfl⟩
theorem zG_tr {P : Nat → Nat → Prop} {h h' h'' : ai_H} (a : zG P h h') (b : zG P h' h'') : zG P h h'' := ⟨fun q j n => (b.1 q j n).trans (a.1 q j n), b.2.trans a.2⟩
theorem zG_st {P : Nat → Nat → Prop} {h h' : ai_H} (a : zG P h h') {c j : Nat} {v : Int32} (n : P c j) : zG P h (ai_st h' c j v) := by
  refine ⟨fun q i hn => ?_, a.2⟩
  rw [z_st1, if_neg, a.1 q i hn]
  rintro ⟨rfl, rfl⟩
  exact hn n
theorem zG_stL {P : Nat → Nat → Prop} {h h' : ai_H} (a : zG P h h') {c : Nat} {v : Int64} : zG P h (ai_stL h' c v) := a
theorem zG_mono {P Q : Nat → Nat → Prop} {h h' : ai_H} (a : zG P h h') (m : ∀ q j, P q j → Q q j) : zG Q h h' := ⟨fun q j n => a.1 q j (fun c => n (m q j c)), a.2⟩
/-- a text on the reference's tape -/
def zUb (h : ai_H) (B : Nat → Nat) (n : Nat) : Prop := h.1 16128 50 = nI n ∧ ∀ i, i < n → h.1 2064432 i &&& 255 = nI (B i)
def zutk (B : Nat → Nat) (n s : Nat) : Nat := if zkd B n s = 0 then 0 else if zkd B n s = 1 then 1 else if zkd B n s = 2 then (if zte B n s ≤ s + 5 then 2 else 3) else if zkd B n s = 3 then B s else 3
def zutx (B : Nat → Nat) (n s : Nat) : Int64 := if zkd B n s = 1 ∧ zte B n s ≤ s + 10 then Int64.ofNat (z27 B s (zte B n s - s)) else -1
/-- the reference's token at hand -/
def zUk (h : ai_H) (B : Nat → Nat) (n s : Nat) : Prop := h.1 16128 52 = nI s ∧ h.1 16128 51 = nI (zte B n s) ∧ h.1 16128 53 = nI (zutk B n s) ∧ h.2.1 16128 = zutx B n s ∧ (zkd B n s = 2 → zte B n s ≤ s + 5 → h.1 16128 54 = nI (znu B n s))
def zQu (q j : Nat) : Prop := q = 16128 ∧ 51 ≤ j ∧ j ≤ 54
theorem zutk_1 {B : Nat → Nat} {n s : Nat} : zutk B n s = 1 ↔ zkd B n s = 1 := by
  have k3 := zkd_3 (B := B) (n := n) (p := s)
  unfold zutk
  repeat' split
  all_goals omega
theorem zutk_0 {B : Nat → Nat} {n s : Nat} : zutk B n s = 0 ↔ zkd B n s = 0 := by
  have k3 := zkd_3 (B := B) (n := n) (p := s)
  unfold zutk
  repeat' split
  all_goals omega
theorem zutk_2 {B : Nat → Nat} {n s : Nat} : zutk B n s = 2 ↔ zkd B n s = 2 ∧ zte B n s ≤ s + 5 := by
  have k3 := zkd_3 (B := B) (n := n) (p := s)
  unfold zutk
  repeat' split
  all_goals omega
theorem zutk_c {B : Nat → Nat} {n s c : Nat} (hc : 40 ≤ c) : zutk B n s = c ↔ zkd B n s = 3 ∧ B s = c := by
  unfold zutk
  repeat' split
  all_goals omega
theorem zutk_lt {B : Nat → Nat} {n s : Nat} (hb : ∀ i, B i < 256) : zutk B n s < 256 := by
  have := hb s
  unfold zutk
  repeat' split
  all_goals omega
theorem zlgn {n : Nat} (h : n < 9223372036854775808) : (Int64.ofNat n).toInt = (n : Int) := by
  rw [Int64.toInt_ofNat_of_lt (by omega)]
theorem zlg0 {x y : Int64} : lg_cmp x y = 0 ↔ x = y := by
  unfold lg_cmp
  simp only [gt_iff_lt, Int64.lt_iff_toInt_lt, ← Int64.toInt_inj]
  repeat' split
  all_goals (constructor <;> intro hh <;> first | omega | decide | exact absurd hh (by decide))
theorem z_stLS {h : ai_H} {a : Nat} {v : Int64} : (ai_stL h a v).2.1 a = v := by
  show (if a = a then v else h.2.1 a) = v
  rw [if_pos rfl]
theorem M225 {h : ai_H} {B : Nat → Nat} {n p : Nat} (d : Nat) (hn : n ≤ 500) (ht : zUb h B n) (h51 : h.1 16128 51 = nI p) (hp : p ≤ 500) : ai_X (d + 1) 225 [.inr (.inr (32, 0, 16128))] h = some ([.inl (if p < n then nI (B p) else -1)], h) := by
  rw [T225, ht.1, h51]
  by_cases c : p < n
  · rw [if_neg (by rw [nI_leI (by omega) (by omega)]; omega), z_ix (by omega) (by decide), ht.2 p c, if_pos c]
  · rw [if_pos (by rw [nI_leI (by omega) (by omega)]; omega), if_neg c]
theorem zUb_st {h : ai_H} {B : Nat → Nat} {n j : Nat} {v : Int32} (hj : ¬ j = 50) (ht : zUb h B n) : zUb (ai_st h 16128 j v) B n := ⟨by rw [z_nj (fun c => hj c.symm)]; exact ht.1, fun i hi => by rw [z_ne (by decide)]; exact ht.2 i hi⟩
theorem zUb_stL {h : ai_H} {B : Nat → Nat} {n a : Nat} {v : Int64} (ht : zUb h B n) : zUb (ai_stL h a v) B n := ht
theorem z64a {z b : Nat} (hz : z < 9223372036854775808) (hz2 : z * 27 + (b - 96) < 9223372036854775808) (h1 : 96 ≤ b) (h2 : b < 256) : Int64.ofNat z * 27 + Int32.toInt64 (nI b - 96) = Int64.ofNat (z * 27 + (b - 96)) := by
  rw [Int64.ofNat_add, Int64.ofNat_mul, show (96 : Int32) = nI 96 from rfl, nI_subN h1 (by omega)]
  have : Int32.toInt64 (nI (b - 96)) = Int64.ofNat (b - 96) := by
    rw [← Int64.toInt_inj, zlgn (by omega), Int32.toInt_toInt64, z_T (by omega)]
  rw [this]
  rfl
/-- a word's letters -/
theorem M226w {B : Nat → Nat} {n p : Nat} (d : Nat) (x : Option ai_V) (hb : ∀ i, B i < 256) (hn : n ≤ 500) : ∀ k e h, e + k = n → p ≤ e → (∀ i, p ≤ i → i < e → zkd B n i = 1) → zUb h B n → h.1 16128 51 = nI e → h.1 16128 52 = nI p → h.2.1 16128 = (if e ≤ p + 10 then Int64.ofNat (z27 B p (e - p)) else -1) → ∃ h', ai_E (d + 1) 226 89 [some (.inr (.inr (32, 0, 16128))), x] [] h = some ([], h') ∧ h'.1 16128 51 = nI (zgo (fun i => decide (zkd B n i = 1)) k e) ∧ h'.2.1 16128 = (if zgo (fun i => decide (zkd B n i = 1)) k e ≤ p + 10 then Int64.ofNat (z27 B p (zgo (fun i => decide (zkd B n i = 1)) k e - p)) else -1) ∧ zG (fun q j => q = 16128 ∧ j = 51) h h' := by
  intro k
  induction k with
  | zero =>
    intro e h he hpe hin ht h51 h52 hx
    refine ⟨h, ?_, h51, hx, zG_rf⟩
    rw [T226_89, M225 d hn ht h51 (by omega), if_neg (by omega), z_bi, M186, z_bi, zb_f (by rw [zlm1, zl97]; omega), if_pos rfl]
  | succ k ih =>
    intro e h he hpe hin ht h51 h52 hx
    have hbe := hb e
    rw [T226_89, M225 d hn ht h51 (by omega), if_pos (by omega), z_bi, M186, z_bi, z_T (by omega), zl97, zl122, zb_if]
    unfold zgo
    by_cases c : zkd B n e = 1
    · have c2 := (zkd_1.mp c).2
      rw [if_pos (by omega), if_pos (decide_eq_true c), h51, h52, nI_subN hpe (by omega)]
      have hin2 : ∀ i, p ≤ i → i < e + 1 → zkd B n i = 1 := fun i h1 h2 => by
        by_cases q : i = e
        · rw [q]; exact c
        · exact hin i h1 (by omega)
      by_cases c10 : 10 ≤ e - p
      · rw [if_pos (by rw [show (10 : Int32) = nI 10 from rfl, nI_leI (by omega) (by omega)]; exact c10)]
        have e1 : (ai_stL h 16128 (-1)).1 16128 51 = nI e := h51
        rw [e1, nI_1]
        obtain ⟨h', a1, a2, a3, a4⟩ := ih (e + 1) (ai_st (ai_stL h 16128 (-1)) 16128 51 (nI (e + 1))) (by omega) (by omega) hin2 (zUb_st (by decide) (zUb_stL ht)) z_stS (by rw [z_nj (by decide)]; exact h52) (by
          rw [if_neg (by omega)]
          exact z_stLS)
        exact ⟨h', a1, a2, a3, zG_tr (zG_st (zG_stL zG_rf) ⟨rfl, rfl⟩) a4⟩
      · rw [if_neg (by rw [show (10 : Int32) = nI 10 from rfl, nI_leI (by omega) (by omega)]; exact c10), M225 d hn ht h51 (by omega), if_pos (by omega), z_bi]
        have e1 : ∀ v, (ai_stL h 16128 v).1 16128 51 = nI e := fun v => h51
        rw [e1, nI_1, hx, if_pos (by omega)]
        have lt := z27_lt (B := B) (s := p) hb (e - p) (fun i hi => (zkd_1.mp (hin (p + i) (by omega) (by omega))).2.2)
        have pw := Nat.pow_le_pow_right (n := 27) (by decide) (show e - p ≤ 9 by omega)
        rw [z64a (by omega) (by omega) (by omega) hbe]
        obtain ⟨h', a1, a2, a3, a4⟩ := ih (e + 1) (ai_st (ai_stL h 16128 (Int64.ofNat (z27 B p (e - p) * 27 + (B e - 96)))) 16128 51 (nI (e + 1))) (by omega) (by omega) hin2 (zUb_st (by decide) (zUb_stL ht)) z_stS (by rw [z_nj (by decide)]; exact h52) (by
          rw [if_pos (by omega), show e + 1 - p = (e - p) + 1 by omega]
          show _ = Int64.ofNat (z27 B p (e - p) * 27 + (B (p + (e - p)) - 96))
          rw [show p + (e - p) = e by omega]
          exact z_stLS)
        exact ⟨h', a1, a2, a3, zG_tr (zG_st (zG_stL zG_rf) ⟨rfl, rfl⟩) a4⟩
    · have c2 : ¬ (97 ≤ B e ∧ B e ≤ 122) := fun q => c (zkd_1.mpr ⟨by omega, q⟩)
      rw [if_neg (by omega), if_neg (by rw [decide_eq_true_eq]; exact c)]
      exact ⟨h, rfl, h51, hx, zG_rf⟩
/-- a number's digits -/
theorem M226n {B : Nat → Nat} {n p : Nat} (d : Nat) (x : Option ai_V) (hb : ∀ i, B i < 256) (hn : n ≤ 500) : ∀ k e h v, e + k = n → p ≤ e → (∀ i, p ≤ i → i < e → zkd B n i = 2) → zUb h B n → h.1 16128 51 = nI e → h.1 16128 52 = nI p → h.1 16128 54 = nI v → v < 10000000 → (e ≤ p + 5 → v = z10n B p (e - p)) → ∃ h', ai_E (d + 1) 226 168 [some (.inr (.inr (32, 0, 16128))), x] [] h = some ([], h') ∧ h'.1 16128 51 = nI (zgo (fun i => decide (zkd B n i = 2)) k e) ∧ h'.1 16128 53 = nI (if zgo (fun i => decide (zkd B n i = 2)) k e ≤ p + 5 then 2 else 3) ∧ (zgo (fun i => decide (zkd B n i = 2)) k e ≤ p + 5 → h'.1 16128 54 = nI (z10n B p (zgo (fun i => decide (zkd B n i = 2)) k e - p))) ∧ h'.2 = h.2 ∧ zG (fun q j => q = 16128 ∧ (j = 51 ∨ j = 53 ∨ j = 54)) h h' := by
  have fin : ∀ e h v, p ≤ e → e ≤ 500 → h.1 16128 51 = nI e → h.1 16128 52 = nI p → h.1 16128 54 = nI v → (e ≤ p + 5 → v = z10n B p (e - p)) → ∃ h', (if 5 < h.1 16128 51 - h.1 16128 52 then some (([] : List ai_V), ai_st h 16128 53 3) else some ([], ai_st h 16128 53 2)) = some ([], h') ∧ h'.1 16128 51 = nI e ∧ h'.1 16128 53 = nI (if e ≤ p + 5 then 2 else 3) ∧ (e ≤ p + 5 → h'.1 16128 54 = nI (z10n B p (e - p))) ∧ h'.2 = h.2 ∧ zG (fun q j => q = 16128 ∧ (j = 51 ∨ j = 53 ∨ j = 54)) h h' := by
    intro e h v hpe he h51 h52 h54 hv
    rw [h51, h52, nI_subN hpe (by omega)]
    by_cases c : e ≤ p + 5
    · rw [if_neg (by rw [show (5 : Int32) = nI 5 from rfl, nI_ltI (by omega) (by omega)]; omega), if_pos c]
      exact ⟨_, rfl, by rw [z_nj (by decide)]; exact h51, z_stS, fun _ => by rw [z_nj (by decide), h54, hv c], rfl, zG_st zG_rf ⟨rfl, Or.inr (Or.inl rfl)⟩⟩
    · rw [if_pos (by rw [show (5 : Int32) = nI 5 from rfl, nI_ltI (by omega) (by omega)]; omega), if_neg c]
      exact ⟨_, rfl, by rw [z_nj (by decide)]; exact h51, z_stS, fun q => absurd q c, rfl, zG_st zG_rf ⟨rfl, Or.inr (Or.inl rfl)⟩⟩
  intro k
  induction k with
  | zero =>
    intro e h v he hpe hin ht h51 h52 h54 hv hv5
    rw [T226_168, M225 d hn ht h51 (by omega), if_neg (by omega), z_bi, M186, z_bi, zb_f (by rw [zlm1, zl48]; omega), if_pos rfl]
    exact fin e h v hpe (by omega) h51 h52 h54 hv5
  | succ k ih =>
    intro e h v he hpe hin ht h51 h52 h54 hv hv5
    have hbe := hb e
    rw [T226_168, M225 d hn ht h51 (by omega), if_pos (show e < n by omega), z_bi, M186, z_bi, z_T (by omega), zl48, zl57, zb_if]
    unfold zgo
    by_cases c : zkd B n e = 2
    · have c2 := (zkd_2.mp c).2
      rw [if_pos (show (48 : Int) ≤ (B e : Int) ∧ (B e : Int) ≤ 57 by omega), if_pos (decide_eq_true c)]
      have hin2 : ∀ i, p ≤ i → i < e + 1 → zkd B n i = 2 := fun i h1 h2 => by
        by_cases q : i = e
        · rw [q]; exact c
        · exact hin i h1 (by omega)
      by_cases c6 : 1000000 ≤ v
      · rw [if_pos (by rw [h54, show (1000000 : Int32) = nI 1000000 from rfl, nI_leI (by omega) (by omega)]; exact c6), h51, nI_1]
        have n5 : ¬ e ≤ p + 5 := fun q => by
          have lt := z10n_lt (B := B) (s := p) (e - p) (fun i hi => (zkd_2.mp (hin (p + i) (by omega) (by omega))).2.2)
          have pw := Nat.pow_le_pow_right (n := 10) (by decide) (show e - p ≤ 5 by omega)
          have := hv5 q
          omega
        obtain ⟨h', a1, a2, a3, a4, a5, a6⟩ := ih (e + 1) (ai_st h 16128 51 (nI (e + 1))) v (by omega) (by omega) hin2 (zUb_st (by decide) ht) z_stS (by rw [z_nj (by decide)]; exact h52) (by rw [z_nj (by decide)]; exact h54) hv (fun q => absurd (show e ≤ p + 5 by omega) n5)
        exact ⟨h', a1, a2, a3, a4, a5, zG_tr (zG_st zG_rf ⟨rfl, Or.inl rfl⟩) a6⟩
      · rw [if_neg (by rw [h54, show (1000000 : Int32) = nI 1000000 from rfl, nI_leI (by omega) (by omega)]; exact c6), M225 d hn ht h51 (by omega), if_pos (show e < n by omega), z_bi, h54, show (10 : Int32) = nI 10 from rfl, pk_mul, nI_add, show (48 : Int32) = nI 48 from rfl, nI_subN (by omega) (by omega), z_nj (by decide), h51, nI_1]
        obtain ⟨h', a1, a2, a3, a4, a5, a6⟩ := ih (e + 1) (ai_st (ai_st h 16128 54 (nI (10 * v + B e - 48))) 16128 51 (nI (e + 1))) (10 * v + B e - 48) (by omega) (by omega) hin2 (zUb_st (by decide) (zUb_st (by decide) ht)) z_stS (by rw [z_nj (by decide), z_nj (by decide)]; exact h52) (by rw [z_nj (by decide), z_stS]) (by omega) (fun q => by
          rw [show e + 1 - p = (e - p) + 1 by omega]
          show _ = z10n B p (e - p) * 10 + (B (p + (e - p)) - 48)
          rw [show p + (e - p) = e by omega, ← hv5 (by omega)]
          omega)
        exact ⟨h', a1, a2, a3, a4, a5, zG_tr (zG_st (zG_st zG_rf ⟨rfl, Or.inr (Or.inr rfl)⟩) ⟨rfl, Or.inl rfl⟩) a6⟩
    · have c2 : ¬ (48 ≤ B e ∧ B e ≤ 57) := fun q => c (zkd_2.mpr ⟨by omega, q⟩)
      rw [if_neg (show ¬ ((48 : Int) ≤ (B e : Int) ∧ (B e : Int) ≤ 57) by omega), if_neg (show ¬ decide (zkd B n e = 2) = true by rw [decide_eq_true_eq]; exact c)]
      exact fin e h v hpe (by omega) h51 h52 h54 hv5
