/-! FROST: the class's search -/
theorem zchn_n : ∀ n, 1 ≤ n → n ≤ 7 → zchn n (zfpl n n []) = true := by
  intro n h1 h2
  rcases (show n = 1 ∨ n = 2 ∨ n = 3 ∨ n = 4 ∨ n = 5 ∨ n = 6 ∨ n = 7 by omega) with rfl | rfl | rfl | rfl | rfl | rfl | rfl
  · exact zchn_1
  · exact zchn_2
  · exact zchn_3
  · exact zchn_4
  · exact zchn_5
  · exact zchn_6
  · exact zchn_7
abbrev zfS : Type := Int32 × Nat × Nat
/-- a way on: the cell, the hour, the loss -/
def zfc (C : Nat → Int32) (LS CD : Nat → Nat) (sp : Nat) (x : zfS) (i : Nat) : zfS :=
  (C i, (if x.2.1 + (zds x.1 (C i) + sp - 1) / sp < 23 then x.2.1 + (zds x.1 (C i) + sp - 1) / sp else 23), x.2.2 + LS i * CD (if x.2.1 + (zds x.1 (C i) + sp - 1) / sp < 23 then x.2.1 + (zds x.1 (C i) + sp - 1) / sp else 23))
abbrev zfo (C : Nat → Int32) (LS CD : Nat → Nat) (sp : Nat) (x : zfS) (p : List Nat) : zfS := p.foldl (zfc C LS CD sp) x
theorem zfo_le {C : Nat → Int32} {LS CD : Nat → Nat} {sp : Nat} : ∀ (q : List Nat) (x : zfS), x.2.2 ≤ (zfo C LS CD sp x q).2.2 := by
  intro q
  induction q with
  | nil => intro x; exact Nat.le_refl _
  | cons i q ih =>
    intro x
    refine Nat.le_trans ?_ (ih (zfc C LS CD sp x i))
    exact Nat.le_add_right _ _
def zfw7 (C : Nat → Int32) (LS CD : Nat → Nat) (sp : Nat) (x : zfS) (s : Nat × List Nat) (p : List Nat) : Nat × List Nat := if (zfo C LS CD sp x p).2.2 < s.1 then ((zfo C LS CD sp x p).2.2, p) else s
theorem zcat_S {α : Type} {F : Nat → List α} {n : Nat} : zcat F (n + 1) = zcat F n ++ F n := rfl
theorem zcat_mem {α : Type} {F : Nat → List α} {a : α} : ∀ {n}, a ∈ zcat F n → ∃ i, i < n ∧ a ∈ F i := by
  intro n
  induction n with
  | zero => intro h; cases h
  | succ n ih =>
    intro h
    rw [zcat_S, List.mem_append] at h
    rcases h with h | h
    · obtain ⟨i, h1, h2⟩ := ih h
      exact ⟨i, by omega, h2⟩
    · exact ⟨n, Nat.lt_succ_self _, h⟩
theorem zfpl_S {n f : Nat} {pre : List Nat} : zfpl n (f + 1) pre = zcat (fun i => if zmem pre i = true then [] else zfpl n f (pre ++ [i])) n := rfl
theorem zfpl_at {n : Nat} : ∀ {f pre p}, p ∈ zfpl n f pre → ∃ q : List Nat, p = pre ++ q ∧ q.length = f ∧ ∀ x ∈ q, x < n := by
  intro f
  induction f with
  | zero =>
    intro pre p h
    have h : p ∈ [pre] := h
    rw [List.mem_singleton] at h
    exact ⟨[], by rw [h, List.append_nil], rfl, fun x hx => by cases hx⟩
  | succ f ih =>
    intro pre p h
    rw [zfpl_S] at h
    obtain ⟨i, h1, h2⟩ := zcat_mem h
    by_cases c : zmem pre i = true
    · rw [if_pos c] at h2; cases h2
    · rw [if_neg c] at h2
      obtain ⟨q, q1, q2, q3⟩ := ih h2
      refine ⟨i :: q, by rw [q1, List.append_assoc]; rfl, by rw [List.length_cons, q2], fun x hx => ?_⟩
      rcases List.mem_cons.mp hx with e | hx
      · subst e; exact h1
      · exact q3 x hx
theorem zfw7_no {C : Nat → Int32} {LS CD : Nat → Nat} {sp : Nat} {x : zfS} {s : Nat × List Nat} : ∀ (l : List (List Nat)), (∀ p ∈ l, s.1 ≤ (zfo C LS CD sp x p).2.2) → l.foldl (zfw7 C LS CD sp x) s = s := by
  intro l
  induction l with
  | nil => intro _; rfl
  | cons p l ih =>
    intro h
    have e : zfw7 C LS CD sp x s p = s := if_neg (by have := h p List.mem_cons_self; omega)
    rw [List.foldl_cons, e]
    exact ih fun q hq => h q (List.mem_cons_of_mem _ hq)
theorem zcp_0 {n a b : Nat} {o : Option ai_R} (h1 : n ≤ a) (h2 : n ≤ b) (h3 : n < 2147483648) : ai_cp 0 0 (nI n) a b o = o := by
  unfold ai_cp
  have e : (nI n).toNatClampNeg = n := nI_clamp h3
  have e0 : (0 : Int32).toNatClampNeg = 0 := rfl
  rw [e, e0, if_pos]
  refine ⟨by decide, by decide, ?_, by omega, by omega⟩
  rw [z_lt, z_T h3]
  simp only [zl0]
  omega
theorem zB_ins {p q : Nat → Prop} [DecidablePred p] [DecidablePred q] {n a : Nat} (ha : a < n) (h : ∀ i, i < n → (q i ↔ (p i ∨ i = a))) : zB p n ||| 2 ^ a = zB q n := by
  apply Nat.eq_of_testBit_eq
  intro i
  rw [Nat.testBit_or, zB_tb, zB_tb, Nat.testBit_two_pow]
  by_cases hi : i < n
  · have := h i hi
    by_cases e : i = a
    · subst e; simp [this, hi]
    · have e' : ¬ a = i := fun q => e q.symm
      simp [this, hi, e, e']
  · have e' : ¬ a = i := by omega
    simp [hi, e']
theorem zmem_app {pre : List Nat} {i j : Nat} : zmem (pre ++ [i]) j = true ↔ (zmem pre j = true ∨ j = i) := by
  unfold zmem
  rw [List.any_append, Bool.or_eq_true]
  refine or_congr_right ?_
  show (Nat.beq i j || false) = true ↔ _
  rw [Bool.or_false]
  exact ⟨fun q => (Nat.eq_of_beq_eq_true q).symm, fun q => by rw [q]; exact Nat.beq_refl i⟩
/-- what the class's search stands on -/
def zfg (g : ai_H) (n sp : Nat) (L : Nat → Nat) (C : Nat → Int32) (LS CD : Nat → Nat) : Prop := g.1 16390 0 = nI n ∧ g.1 16390 8 = nI sp ∧ (∀ k, k < n → g.1 2097922 k = nI (L k) ∧ g.1 2097923 k = C k ∧ g.1 2097924 k = nI (LS k)) ∧ ∀ k, k < 24 → g.1 2097926 k = nI (CD k)
def zfX (q j : Nat) : Prop := q = 2097927 ∨ q = 2097928 ∨ (q = 16390 ∧ j = 9)
theorem zfX_s {q j : Nat} (h : zfX q j) : zXS q j := by
  unfold zXS
  rcases h with rfl | rfl | ⟨rfl, -⟩
  · exact Or.inr (Or.inr (Or.inr (Or.inr (Or.inl (by decide)))))
  · exact Or.inr (Or.inr (Or.inr (Or.inr (Or.inl (by decide)))))
  · exact Or.inl rfl
theorem zfg_c {g g' : ai_H} {n sp : Nat} {L : Nat → Nat} {C : Nat → Int32} {LS CD : Nat → Nat} (f : zF zfX g g') (h : zfg g n sp L C LS CD) : zfg g' n sp L C LS CD := by
  obtain ⟨h1, h2, h3, h4⟩ := h
  refine ⟨by rw [f.1 _ _ (by unfold zfX; omega)]; exact h1, by rw [f.1 _ _ (by unfold zfX; omega)]; exact h2, fun k hk => ?_, fun k hk => ?_⟩
  · rw [f.1 _ _ (by unfold zfX; omega), f.1 _ _ (by unfold zfX; omega), f.1 _ _ (by unfold zfX; omega)]
    exact h3 k hk
  · rw [f.1 _ _ (by unfold zfX; omega)]
    exact h4 k hk
def zfb (g : ai_H) (n : Nat) (L : Nat → Nat) (s : Nat × List Nat) : Prop := g.1 16390 9 = nI s.1 ∧ s.1 ≤ 1073741824 ∧ (s.1 < 1073741824 → ∀ k, k < n → g.1 2097928 k = nI (L (zat s.2 k)))
theorem zat_app {pre : List Nat} {i k : Nat} : zat (pre ++ [i]) k = if k = pre.length then i else zat pre k := by
  unfold zat
  by_cases e : k = pre.length
  · subst e
    rw [if_pos rfl, z_gdr (Nat.le_refl _), Nat.sub_self]
    rfl
  · rw [if_neg e]
    by_cases l : k < pre.length
    · rw [z_gdl l]
    · rw [z_gdr (by omega)]
      have : pre.getD k 0 = 0 := by simp [List.getD, List.getElem?_eq_none (show pre.length ≤ k by omega)]
      rw [this]
      obtain ⟨m, hm⟩ : ∃ m, k - pre.length = m + 1 := ⟨k - pre.length - 1, by omega⟩
      rw [hm]
      rfl
theorem X84 {n sp : Nat} {L : Nat → Nat} {C : Nat → Int32} {LS CD : Nat → Nat} {x0 : zfS} (hn : n ≤ 7) (hsp : 1 ≤ sp ∧ sp ≤ 99) (hL : ∀ k, k < n → L k < 24) (hC : ∀ k, k < n → zi (C k) 0 255) (hLS : ∀ k, k < n → LS k ≤ 999) (hCD : ∀ k, k < 24 → CD k ≤ 100) : ∀ f (pre : List Nat), pre.length + f = n → ∀ (d : Nat) (g : ai_H) (s : Nat × List Nat), zfg g n sp L C LS CD → zfb g n L s → (∀ k, k < pre.length → g.1 2097927 k = nI (L (zat pre k))) → zi (zfo C LS CD sp x0 pre).1 0 255 → (zfo C LS CD sp x0 pre).2.1 ≤ 23 → (zfo C LS CD sp x0 pre).2.2 ≤ 99900 * pre.length → ∃ g', ai_X (d + 2 + f) 84 [.inr (.inr (30, 0, 16390)), .inl (nI pre.length), .inl (nI (zB (fun i => zmem pre i = true) n)), .inl (zfo C LS CD sp x0 pre).1, .inl (nI (zfo C LS CD sp x0 pre).2.1), .inl (nI (zfo C LS CD sp x0 pre).2.2)] g = some ([], g') ∧ zF zfX g g' ∧ zfb g' n L ((zfpl n f pre).foldl (zfw7 C LS CD sp x0) s) ∧ ∀ k, k < pre.length → g'.1 2097927 k = nI (L (zat pre k)) := by
  intro f
  induction f with
  | zero =>
    intro pre hp d g s hg hb ho hc hh hs
    have hp : pre.length = n := by omega
    have e1 : (zfpl n 0 pre).foldl (zfw7 C LS CD sp x0) s = zfw7 C LS CD sp x0 s pre := rfl
    rw [e1, T84, hb.1]
    unfold zfw7
    by_cases c : (zfo C LS CD sp x0 pre).2.2 < s.1
    · rw [if_pos (by rw [nI_ltI (by omega) (by have := hb.2.1; omega)]; exact c), if_neg (by rw [hg.1, nI_ltI (by omega) (by omega)]; omega), z_st1, if_neg (by omega), hg.1, zcp_0 (by omega) (by omega) (by omega), if_pos c]
      have ec : (nI n).toNatClampNeg = n := nI_clamp (by omega)
      have e0 : (0 : Int32).toNatClampNeg = 0 := rfl
      rw [ec, e0]
      refine ⟨_, rfl, zF_cpy (zF_st zF_rf (Or.inr (Or.inr ⟨rfl, rfl⟩))) (fun j _ _ => Or.inr (Or.inl rfl)), ⟨?_, ?_, fun _ k hk => ?_⟩, fun k hk => ?_⟩
      · rw [z_cpy1, if_neg (by omega), z_stS]
      · dsimp only; have := hb.2.1; omega
      · rw [z_cpy1, if_pos ⟨rfl, by omega, by omega⟩, z_ne (by decide), show 0 + (k - 0) = k by omega]
        exact ho k (by omega)
      · rw [z_cpy1, if_neg (by omega), z_ne (by decide)]
        exact ho k hk
    · rw [if_neg (by rw [nI_ltI (by omega) (by have := hb.2.1; omega)]; exact c), if_neg c]
      exact ⟨g, rfl, zF_rf, hb, ho⟩
  | succ f ih =>
    intro pre hp d g s hg hb ho hc hh hs
    rw [show d + 2 + (f + 1) = d + 2 + f + 1 by omega, T84, hb.1]
    by_cases c : (zfo C LS CD sp x0 pre).2.2 < s.1
    · rw [if_pos (by rw [nI_ltI (by omega) (by have := hb.2.1; omega)]; exact c), if_pos (by rw [hg.1, nI_ltI (by omega) (by omega)]; omega)]
      rw [zfpl_S]
      obtain ⟨x, hx⟩ : ∃ x, zfo C LS CD sp x0 pre = x := ⟨_, rfl⟩
      rw [hx] at hc hh hs
      rw [hx]
      have K : ∀ q i, i + q = n → ∀ g2 s2 z7 z8, zF zfX g g2 → zfb g2 n L s2 → (∀ k, k < pre.length → g2.1 2097927 k = nI (L (zat pre k))) → s2 = (zcat (fun i => if zmem pre i = true then [] else zfpl n f (pre ++ [i])) i).foldl (zfw7 C LS CD sp x0) s → ∃ g', ai_E (d + 2 + f) 84 45 [some (.inr (.inr (30, 0, 16390))), some (.inl (nI pre.length)), some (.inl (nI (zB (fun i => zmem pre i = true) n))), some (.inl x.1), some (.inl (nI x.2.1)), some (.inl (nI x.2.2)), some (.inl (nI i)), z7, z8] [] g2 = some ([], g') ∧ zF zfX g g' ∧ zfb g' n L ((zcat (fun i => if zmem pre i = true then [] else zfpl n f (pre ++ [i])) n).foldl (zfw7 C LS CD sp x0) s) ∧ ∀ k, k < pre.length → g'.1 2097927 k = nI (L (zat pre k)) := by
        intro q
        induction q with
        | zero =>
          intro i hi g2 s2 z7 z8 fg bg og es
          have hi : i = n := by omega
          subst hi
          refine ⟨g2, ?_, fg, by rw [← es]; exact bg, og⟩
          rw [T84_45, (zfg_c fg hg).1, if_pos (by rw [z_le]; omega)]
        | succ q iq =>
          intro i hi g2 s2 z7 z8 fg bg og es
          have hg2 := zfg_c fg hg
          have hgi := hg2.2.2.1 i (by omega)
          have i8 : ∀ f : Nat → Option ai_R, ai_ix (nI i) 8 f = f i := fun f => z_ix (by omega) (by decide)
          have iq := iq (i + 1) (by omega)
          have h159 := X159B (p := fun i => zmem pre i = true) (n := n) (i := i) (d + 1 + f) g2 (by omega) (by omega)
          rw [show d + 1 + f + 1 = d + 2 + f by omega] at h159
          rw [T84_45, hg2.1, if_neg (by rw [nI_leI (by omega) (by omega)]; omega), h159]
          simp only [z_bi, zb_0, nI_1]
          by_cases cm : zmem pre i = true
          · rw [if_neg (fun q => q cm)]
            refine iq g2 s2 z7 z8 fg bg og ?_
            rw [zcat_S, if_pos cm, List.append_nil]
            exact es
          · rw [if_pos cm]
            have hz := zds_le hc (hC i (by omega))
            have nsp : ¬ nI sp = 0 := nI_ne0 (by omega) (by omega)
            have e1 : nI (zds x.1 (C i)) + nI sp - 1 = nI (zds x.1 (C i) + sp - 1) := by rw [nI_add]; exact pk_sub (b := 1) (by omega)
            have hd : (zds x.1 (C i) + sp - 1) / sp ≤ 129 := Nat.le_trans (Nat.div_le_self _ _) (by omega)
            have e2 : ai_min 23 (nI x.2.1 + (nI (zds x.1 (C i)) + nI sp - 1) / nI sp) = nI (zfc C LS CD sp x i).2.1 := by
              rw [e1, nI_div (by omega) (by omega), nI_add, show (23 : Int32) = nI 23 from rfl, nI_min (by omega) (by omega)]
              rfl
            have h23 : (zfc C LS CD sp x i).2.1 ≤ 23 := by
              show (if _ < 23 then _ else 23) ≤ 23
              split <;> omega
            have e3 : (zfc C LS CD sp x i).2.2 = x.2.2 + LS i * CD (zfc C LS CD sp x i).2.1 := rfl
            have hLC : LS i * CD (zfc C LS CD sp x i).2.1 ≤ 99900 := Nat.mul_le_mul (hLS i (by omega)) (hCD _ (by omega))
            have e4 : zfo C LS CD sp x0 (pre ++ [i]) = zfc C LS CD sp x i := by
              show (pre ++ [i]).foldl _ _ = _
              rw [List.foldl_append]
              show zfc C LS CD sp (zfo C LS CD sp x0 pre) i = _
              rw [hx]
            have el : (pre ++ [i]).length = pre.length + 1 := by rw [List.length_append]; rfl
            have f1 : zF zfX g (ai_st g2 2097927 pre.length (nI (L i))) := zF_st fg (Or.inl rfl)
            have hg3 := zfg_c f1 hg
            have eB : zB (fun j => zmem pre j = true) n ||| 2 ^ i = zB (fun j => zmem (pre ++ [i]) j = true) n := zB_ins (by omega) fun j _ => zmem_app
            obtain ⟨g', w1, w2, w3, w4⟩ := ih (pre ++ [i]) (by rw [el]; omega) d (ai_st g2 2097927 pre.length (nI (L i))) s2 hg3 ⟨by rw [z_ne (by decide)]; exact bg.1, bg.2.1, fun q k hk => by rw [z_ne (by decide)]; exact bg.2.2 q k hk⟩ (fun k hk => by
              rw [el] at hk
              rw [z_st1, zat_app]
              by_cases e : k = pre.length
              · rw [if_pos ⟨rfl, e⟩, if_pos e]
              · rw [if_neg (fun q => e q.2), if_neg e]
                exact og k (by omega)) (by rw [e4]; exact hC i (by omega)) (by rw [e4]; exact h23) (by rw [e4, el, e3]; omega)
            rw [e4, el, ← eB, e3] at w1
            have h162 := X162 (a := x.1) (b := C i) (d + 1 + f) g2 hc (hC i (by omega))
            rw [show d + 1 + f + 1 = d + 2 + f by omega] at h162
            rw [i8, hgi.2.1, h162]
            simp only [z_bi, i8]
            rw [hg2.2.1, if_neg nsp, z_ix (show pre.length < 8 by omega) (by decide), hgi.1, e2, z_ix (show (zfc C LS CD sp x i).2.1 < 24 by omega) (by decide), z_ne (show (2097923 : Nat) ≠ 2097927 by decide), hgi.2.1, z_ne (show (2097924 : Nat) ≠ 2097927 by decide), hgi.2.2, z_ne (show (2097926 : Nat) ≠ 2097927 by decide), hg2.2.2.2 _ (show (zfc C LS CD sp x i).2.1 < 24 by omega), pk_mul, nI_add, z_bit (by omega), z_or]
            have w1' : ai_X (d + 2 + f) 84 [.inr (.inr (30, 0, 16390)), .inl (nI (pre.length + 1)), .inl (nI (zB (fun i => zmem pre i = true) n ||| 2 ^ i)), .inl (C i), .inl (nI (zfc C LS CD sp x i).2.1), .inl (nI (x.2.2 + LS i * CD (zfc C LS CD sp x i).2.1))] (ai_st g2 2097927 pre.length (nI (L i))) = some ([], g') := w1
            rw [w1']
            simp only [z_bv]
            refine iq g' _ _ _ (zF_tr f1 w2) w3 (fun k hk => ?_) ?_
            · have := w4 k (by rw [el]; omega)
              rw [zat_app, if_neg (by omega)] at this
              exact this
            · rw [zcat_S, if_neg cm, List.foldl_append, ← es]
      obtain ⟨g', w⟩ := K n 0 (Nat.zero_add _) g s none none zF_rf hb ho rfl
      exact ⟨g', w⟩
    · rw [if_neg (by rw [nI_ltI (by omega) (by have := hb.2.1; omega)]; exact c)]
      rw [zfw7_no]
      · exact ⟨g, rfl, zF_rf, hb, ho⟩
      · intro p hpm
        obtain ⟨q, q1, -⟩ := zfpl_at hpm
        rw [q1]
        show s.1 ≤ ((pre ++ q).foldl (zfc C LS CD sp) x0).2.2
        rw [List.foldl_append]
        have := zfo_le (C := C) (LS := LS) (CD := CD) (sp := sp) q (zfo C LS CD sp x0 pre)
        exact Nat.le_trans (by omega) this
