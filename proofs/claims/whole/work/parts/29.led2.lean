/-! LEDGERS: the class's methods -/
def zoI (o : Option Nat) : Int32 := match o with
  | some i => nI i
  | none => -1
abbrev zlat (s d kn : Int32) (l : List zR4) : Option Nat := zlst (fun i => zok s d kn (l.getD i zrN)) l.length
theorem zlst_s {p : Nat → Prop} [DecidablePred p] {n : Nat} : zlst p (n + 1) = if p n then some n else zlst p n := rfl
theorem zL_row {h : ai_H} {a : Nat} {l : List zR4} (hl : zL h a l) {i : Nat} (hi : i < l.length) : l.getD i zrN = zLr h a i := by
  rw [List.getD_eq_getElem?_getD, hl.2 i hi]
  rfl
theorem zlat_v (s d kn : Int32) (l : List zR4) : (zlat s d kn l).map (fun i => l.getD i zrN) = zlv (zok s d kn) l := by
  have := zlst_zlv (p := zok s d kn) l l.length (Nat.le_refl _)
  rw [List.take_length] at this
  exact this
theorem X39 {h : ai_H} {a n : Nat} {l : List zR4} (d : Nat) (s dd kn : Int32) (hl : zL h a l) (hk : zLk h a n) (hn : l.length ≤ n) (hn2 : n ≤ 1000) : ai_X (d + 1) 39 [.inr (.inr (25, 0, a)), .inl s, .inl dd, .inl kn] h = some ([.inl (zoI (zlat s dd kn l))], h) := by
  obtain ⟨k0, k1, k2, k3⟩ := hk
  have K : ∀ i, i ≤ l.length → ai_E d 39 8 [some (.inr (.inr (25, 0, a))), some (.inl s), some (.inl dd), some (.inl kn), some (.inl (nI i + (-1)))] [] h = some ([.inl (zoI (zlst (fun i => zok s dd kn (l.getD i zrN)) i))], h) := by
    intro i
    induction i with
    | zero =>
      intro _
      rw [T39_8, if_pos (by decide)]
      rfl
    | succ i ih =>
      intro hi
      have c0 : ¬ nI i < 0 := nI_pos (by omega)
      have er := zL_row hl (i := i) (by omega)
      have e0 : (l.getD i zrN).1 = h.1 (ai_ch a 0) i := by rw [er]; rfl
      have e1 : (l.getD i zrN).2.1 = h.1 (ai_ch a 1) i := by rw [er]; rfl
      have e3 : (l.getD i zrN).2.2.2 = h.1 (ai_ch a 3) i := by rw [er]; rfl
      rw [T39_8, pk_m1, if_neg c0, k0, k1, k3, z_ix (by omega) (by omega), ih (by omega)]
      rw [zlst_s]
      by_cases c1 : dd < h.1 (ai_ch a 1) i
      · rw [if_pos c1, if_neg]
        rintro ⟨q, -, -⟩
        rw [e1, z_le] at q
        rw [z_lt] at c1
        omega
      · rw [if_neg c1, z_ix (by omega) (by omega)]
        have c1' : h.1 (ai_ch a 1) i ≤ dd := by rw [z_lt] at c1; rw [z_le]; omega
        by_cases c3 : kn < h.1 (ai_ch a 3) i
        · rw [if_pos c3, if_neg]
          rintro ⟨-, q, -⟩
          rw [e3, z_le] at q
          rw [z_lt] at c3
          omega
        · rw [if_neg c3, z_ix (by omega) (by omega)]
          have c3' : h.1 (ai_ch a 3) i ≤ kn := by rw [z_lt] at c3; rw [z_le]; omega
          by_cases c2 : h.1 (ai_ch a 0) i = s
          · rw [if_pos c2, if_pos ⟨by rw [e1]; exact c1', by rw [e3]; exact c3', by rw [e0]; exact c2⟩]
            rfl
          · rw [if_neg c2, if_neg]
            rintro ⟨-, -, q⟩
            rw [e0] at q
            exact c2 q
  rw [T39, hl.1, Int32.sub_eq_add_neg]
  exact K l.length (Nat.le_refl _)
theorem zlat_lt {s d kn : Int32} {l : List zR4} {i : Nat} (h : zlat s d kn l = some i) : i < l.length := (zlst_some h).2.1
/-- is it so: the last row, and what it says -/
def zso (s d kn : Int32) (l : List zR4) : Prop := match zlv (zok s d kn) l with
  | some r => ¬ r.2.2.1 = 0
  | none => False
theorem zso_d (s d kn : Int32) (l : List zR4) : zso s d kn l ∨ ¬ zso s d kn l := Classical.em _
def zsob (s d kn : Int32) (l : List zR4) : Bool := match zlv (zok s d kn) l with
  | some r => !decide (r.2.2.1 = 0)
  | none => false
theorem X40 {h : ai_H} {a n : Nat} {l : List zR4} (d : Nat) (s dd kn : Int32) (hl : zL h a l) (hk : zLk h a n) (hn : l.length ≤ n) (hn2 : n ≤ 1000) : ai_X (d + 2) 40 [.inr (.inr (25, 0, a)), .inl s, .inl dd, .inl kn] h = some ([.inl (zb (zsob s dd kn l = true))], h) := by
  rw [T40, X39 _ _ _ _ hl hk hn hn2]
  simp only [z_bi]
  have e := zlat_v s dd kn l
  unfold zsob
  rw [← e]
  cases c : zlat s dd kn l with
  | none =>
    show (if (-1 : Int32) = -1 then _ else _) = _
    rw [if_pos rfl, z_b0]
    rfl
  | some i =>
    have hi := zlat_lt c
    have er := zL_row hl hi
    have e2 : (l.getD i zrN).2.2.1 = h.1 (ai_ch a 2) i := by rw [er]; rfl
    have c1 : ¬ nI i = -1 := by rw [z_eq, z_T (by omega)]; simp only [zl0, zl1, zl2, zl3, zl4, zl5, zl6, zl7, zl8, zl9, zl10, zl12, zl15, zl16, zl20, zl22, zl23, zl24, zl27, zl30, zl31, zl32, zl40, zl46, zl48, zl50, zl57, zl59, zl60, zl61, zl62, zl63, zl80, zl96, zl97, zl99, zl100, zl122, zl255, zl360, zl500, zl999, zl9999, zl60000, zl99999, zl16777215, zl1073741824, zlm1, zlm2, zlm3]; omega
    show (if nI i = -1 then _ else _) = _
    rw [if_neg c1]
    show ai_ix (nI i) _ _ = _
    rw [hk.2.2.1, z_ix (by omega) (by omega)]
    simp only [Option.map_some]
    rw [z_b0, z_b1]
    by_cases c2 : h.1 (ai_ch a 2) i = 0
    · rw [if_pos c2, zb_f]
      simp only [e2, c2, decide_true, Bool.not_true, Bool.false_eq_true, not_false_eq_true]
    · rw [if_neg c2, zb_t]
      simp only [e2, c2, decide_false, Bool.not_false]
theorem zso_b {s d kn : Int32} {l : List zR4} : zso s d kn l ↔ zsob s d kn l = true := by
  unfold zso zsob
  cases zlv (zok s d kn) l with
  | none => simp
  | some r => simp
theorem X38 {h : ai_H} {a n i : Nat} {l : List zR4} (d : Nat) (f t kn : Int32) (hl : zL h a l) (hk : zLk h a n) (hn : l.length ≤ n) (hn2 : n ≤ 1000) (hi : i < l.length) : ai_X (d + 1) 38 [.inr (.inr (25, 0, a)), .inl (nI i), .inl f, .inl t, .inl kn] h = some ([.inl (zb (f ≤ (l.getD i zrN).2.1 ∧ (l.getD i zrN).2.1 ≤ t ∧ (l.getD i zrN).2.2.2 ≤ kn))], h) := by
  obtain ⟨k0, k1, k2, k3⟩ := hk
  have er := zL_row hl hi
  have e1 : (l.getD i zrN).2.1 = h.1 (ai_ch a 1) i := by rw [er]; rfl
  have e3 : (l.getD i zrN).2.2.2 = h.1 (ai_ch a 3) i := by rw [er]; rfl
  rw [T38, k1, k3, z_ix (by omega) (by omega), e1, e3]
  simp only [z_lt, z_le, z_b0, z_b1]
  by_cases c1 : (h.1 (ai_ch a 1) i).toInt < f.toInt
  · rw [if_pos c1, zb_f (by omega)]
  · rw [if_neg c1, z_ix (by omega) (by omega)]
    by_cases c2 : t.toInt < (h.1 (ai_ch a 1) i).toInt
    · rw [if_pos c2, zb_f (by omega)]
    · rw [if_neg c2, z_ix (by omega) (by omega)]
      by_cases c3 : kn.toInt < (h.1 (ai_ch a 3) i).toInt
      · rw [if_pos c3, zb_f (by omega)]
      · rw [if_neg c3, zb_t (by omega)]
