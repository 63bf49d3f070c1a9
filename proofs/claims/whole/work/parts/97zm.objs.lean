/-! OBJECTS' ROWS, made one behind the other: what the sub-objects' constructors and the reference's leave. Written by gen97zm.py -/
theorem zdn_cmp : ∀ {n m c c' q : Nat}, zdn n c q → zdn m c' q → zdn m c' c ∨ zdn n c c' := by
  intro n
  induction n with
  | zero =>
    intro m c c' q h1 h2
    have e : q = c := h1
    rw [e] at h2
    exact Or.inl h2
  | succ n ih =>
    intro m c c' q h1 h2
    rcases (show q = c ∨ zdn n c (zfp q) from h1) with e | k1
    · rw [e] at h2
      exact Or.inl h2
    · cases m with
      | zero =>
        have e : q = c' := h2
        rw [← e]
        exact Or.inr h1
      | succ m =>
        rcases (show q = c' ∨ zdn m c' (zfp q) from h2) with e | k2
        · rw [← e]
          exact Or.inr h1
        · rcases ih k1 k2 with k | k
          · exact Or.inl (zdn_s k)
          · exact Or.inr (zdn_s k)
theorem zdn_dis {n m a i j q : Nat} (hi : i < 127) (hj : j < 127) (hij : ¬ i = j) (h1 : zdn n (ai_ch a i) q) : ¬ zdn m (ai_ch a j) q := fun h2 => by
  rcases zdn_cmp h1 h2 with k | k
  · exact zdn_b hi hij k
  · exact zdn_b hj (fun c => hij c.symm) k
theorem zdn_mo {n m a q : Nat} (hnm : n ≤ m) (h : zdn n a q) : zdn m a q := by
  induction hnm with
  | refl => exact h
  | step _ ih => exact zdn_s ih
theorem zdn_root {n a q : Nat} (hn : n ≤ 6) (ha : a % 128 = 0) (h : zdn n a q) : zroot q = a := by
  have h6 : zdn 6 a q := zdn_mo hn h
  have z : ∀ x, x = a → zfp x = a := fun x e => by rw [e]; exact zfp_r ha
  rcases (show q = a ∨ zfp q = a ∨ zfp (zfp q) = a ∨ zfp (zfp (zfp q)) = a ∨ zfp (zfp (zfp (zfp q))) = a ∨ zfp (zfp (zfp (zfp (zfp q)))) = a ∨ zfp (zfp (zfp (zfp (zfp (zfp q))))) = a from h6) with e | e | e | e | e | e | e
  · exact z _ (z _ (z _ (z _ (z _ (z _ e)))))
  · exact z _ (z _ (z _ (z _ (z _ e))))
  · exact z _ (z _ (z _ (z _ e)))
  · exact z _ (z _ (z _ e))
  · exact z _ (z _ e)
  · exact z _ e
  · exact e
theorem zdn_1 {n a j : Nat} (hj : j < 127) : zdn (n + 1) a (ai_ch a j) := zdn_c hj zdn_a
theorem zdn_2 {n a i j : Nat} (hi : i < 127) (hj : j < 127) : zdn (n + 2) a (ai_ch (ai_ch a i) j) := zdn_c hi (zdn_1 hj)
theorem zdn_3 {n a i j k : Nat} (hi : i < 127) (hj : j < 127) (hk : k < 127) : zdn (n + 3) a (ai_ch (ai_ch (ai_ch a i) j) k) := zdn_c hi (zdn_2 hj hk)
/-- a new state depends on its cells alone -/
theorem znst_c {h h' : ai_H} {s : Nat} (e : ∀ q, zdn 3 s q → h'.1 q = h.1 q ∧ (¬ q = s → h'.2.2.2.1 q = h.2.2.2.1 q)) (x : znst h s) : znst h' s := by
  obtain ⟨x1, x2, x3, x4, x5, x6, x7⟩ := x
  have e1 : ∀ j, j < 127 → h'.1 (ai_ch s j) = h.1 (ai_ch s j) := fun j hj => (e _ (zdn_1 hj)).1
  have e2 : ∀ i j, i < 127 → j < 127 → h'.1 (ai_ch (ai_ch s i) j) = h.1 (ai_ch (ai_ch s i) j) := fun i j hi hj => (e _ (zdn_2 hi hj)).1
  have e3 : ∀ i j k, i < 127 → j < 127 → k < 127 → h'.2.2.2.1 (ai_ch (ai_ch (ai_ch s i) j) k) = h.2.2.2.1 (ai_ch (ai_ch (ai_ch s i) j) k) := fun i j k hi hj hk => (e _ (zdn_3 hi hj hk)).2 (fun c => by unfold ai_ch at c; omega)
  refine ⟨fun k hk => ⟨?_, ?_⟩, ?_, fun j h1 h2 => ?_, ?_, ?_, ?_, ?_⟩
  · have y := (x1 k hk).1
    unfold zLk at y ⊢
    rw [e3 1 k 0 (by decide) (by omega) (by decide), e3 1 k 1 (by decide) (by omega) (by decide), e3 1 k 2 (by decide) (by omega) (by decide), e3 1 k 3 (by decide) (by omega) (by decide)]
    exact y
  · rw [e2 1 k (by decide) (by omega)]
    exact (x1 k hk).2
  · rw [e1 0 (by decide)]
    exact x2
  · rw [e2 0 j (by decide) (by omega)]
    exact x3 j h1 h2
  · rw [e2 1 12 (by decide) (by decide)]
    exact x4
  · rw [e1 1 (by decide)]
    exact x5
  · rw [e1 2 (by decide)]
    exact x6
  · rw [e1 3 (by decide)]
    exact x7
def zqsum : List (Nat × Nat × Nat) → Nat
  | [] => 0
  | x :: l => x.2.2 + zqsum l
/-- an object at b of which so many rows are made -/
def zqs (b K : Nat) (h0 : ai_H) (fb : Nat → Int32) (l : List (Nat × Nat × Nat)) (h : ai_H) : Prop :=
  h.2.2.2.1 b = (K, 0) ∧ h.1 b = fb ∧ (∀ x ∈ l, h.2.2.2.1 (ai_ch b x.1) = x.2 ∧ h.2.2.1 b x.1 = some (ai_ch b x.1)) ∧ (∀ j, j < 127 → (∀ x ∈ l, ¬ x.1 = j) → h.2.2.2.1 (ai_ch b j) = (0, 0)) ∧ (∀ q, zdn 1 b q → ¬ q = b → h.1 q = fun _ => 0) ∧ zfr 1 b h0 h ∧ zct l.length (zqsum l) h0 h
theorem zqs_0 {b K : Nat} {h : ai_H} {fb : Nat → Int32} (hk : h.2.2.2.1 b = (K, 0)) (hb : h.1 b = fb) (hf : ∀ j, j < 127 → h.2.2.2.1 (ai_ch b j) = (0, 0)) (hz : ∀ q, zdn 1 b q → ¬ q = b → h.1 q = fun _ => 0) : zqs b K h fb [] h := ⟨hk, hb, fun x hx => absurd hx List.not_mem_nil, fun j hj _ => hf j hj, hz, zfr_rf, zct_rf⟩
theorem zqs_1 {b K j k n : Nat} {h0 h : ai_H} {fb : Nat → Int32} {l : List (Nat × Nat × Nat)} (hj : j < 127) (hl : ∀ x ∈ l, ¬ x.1 = j) (I : zqs b K h0 fb l h) : zqs b K h0 fb ((j, k, n) :: l) (zmk1 h b j k n) := by
  obtain ⟨i1, i2, i3, i4, i5, i6, i7⟩ := I
  have na : ¬ b = ai_ch b j := z_chn
  refine ⟨by rw [zmk1_k, if_neg na]; exact i1, by rw [zmk1_i, if_neg na]; exact i2, fun x hx => ?_, fun i hi hx => ?_, fun q hq hn => ?_, zfr_tr i6 (zmk1_f hj), ?_⟩
  · rcases List.mem_cons.mp hx with e | hx
    · subst e
      show (zmk1 h b j k n).2.2.2.1 (ai_ch b j) = (k, n) ∧ (zmk1 h b j k n).2.2.1 b j = some (ai_ch b j)
      exact ⟨by rw [zmk1_k, if_pos rfl], by rw [zmk1_r, if_pos ⟨rfl, rfl⟩]⟩
    · have n1 := hl x hx
      have nc : ¬ ai_ch b x.1 = ai_ch b j := fun c => n1 (by rw [z_ch] at c; exact c)
      exact ⟨by rw [zmk1_k, if_neg nc]; exact (i3 x hx).1, by rw [zmk1_r, if_neg (fun c => n1 c.2), if_neg na]; exact (i3 x hx).2⟩
  · have n1 : ¬ j = i := hx (j, k, n) List.mem_cons_self
    rw [zmk1_k, if_neg (fun c => n1 (by rw [z_ch] at c; exact c.symm))]
    exact i4 i hi (fun x hx' => hx x (List.mem_cons_of_mem _ hx'))
  · rw [zmk1_i]
    by_cases c : q = ai_ch b j
    · rw [if_pos c]
    · rw [if_neg c]
      exact i5 q hq hn
  · have := zct_tr i7 (zmk1_c (h := h) (a := b) (j := j) (k := k) (n := n))
    unfold zct at *
    show _ = _ + (l.length + 1) ∧ _ = _ + (l.length + 1) ∧ _ = _ + (n + zqsum l)
    omega
theorem zqs_n {x : Option ai_R} {X : ai_H → Option ai_R} {b KK k j : Nat} {h0 h : ai_H} {fb : Nat → Int32} {l : List (Nat × Nat × Nat)} {m : Int32} (n : Nat) (T : x = if m < 0 ∨ 30000 < m then none else if h.2.2.2.1 (ai_ch b j) = (0, 0) then if ((ai_new h (ai_ch b j) (k, m.toNatClampNeg) m.toNatClampNeg).2.2.2.1 b).1 = KK then X (ai_stR (ai_new h (ai_ch b j) (k, m.toNatClampNeg) m.toNatClampNeg) b j (some (ai_ch b j))) else none else none) (I : zqs b KK h0 fb l h) (hm : m = nI n) (hn : n ≤ 30000) (hj : j < 127) (hl : ∀ y ∈ l, ¬ y.1 = j) : ∃ g, x = X g ∧ zqs b KK h0 fb ((j, k, n) :: l) g := ⟨zmk1 h b j k n, T.trans (zstepA X hm hn (I.2.2.2.1 j hj hl) (congrArg Prod.fst I.1)), zqs_1 hj hl I⟩
theorem zqs_v {x : Option ai_R} {X : ai_H → Option ai_R} {b KK i : Nat} {h0 h : ai_H} {fb : Nat → Int32} {l : List (Nat × Nat × Nat)} {v : Int32} (T : x = if (h.2.2.2.1 b).1 = KK then X (ai_st h b i v) else none) (I : zqs b KK h0 fb l h) : ∃ g, x = X g ∧ zqs b KK h0 (fun y => if y = i then v else fb y) l g := by
  obtain ⟨i1, i2, i3, i4, i5, i6, i7⟩ := I
  refine ⟨ai_st h b i v, T.trans (if_pos (congrArg Prod.fst i1)), i1, funext fun y => ?_, i3, i4, fun q hq hn => ?_, fun q hq => ?_, i7⟩
  · rw [z_st1, i2]
    by_cases c : y = i
    · rw [if_pos ⟨rfl, c⟩, if_pos c]
    · rw [if_neg (fun w => c w.2), if_neg c]
  · rw [z_ne hn]
    exact i5 q hq hn
  · have n1 : ¬ q = b := fun e => hq (Or.inl e)
    exact ⟨by rw [z_ne n1]; exact (i6 q hq).1, (i6 q hq).2⟩
/-- are the fields whole, by what is made -/
def zchk (l6 : List (Nat × Nat)) (l : List (Nat × Nat × Nat)) : Nat → List (Nat × Nat × Nat) → Bool
  | _, [] => true
  | i, (t, x, n) :: fk => (match t with
    | 3 => decide ((i, 20 + x, 0) ∈ l)
    | 4 => decide ((i, x, n) ∈ l)
    | 5 => false
    | 6 => decide ((i, x) ∈ l6)
    | 7 => false
    | _ => true) && zchk l6 l (i + 1) fk
theorem zcmpF {h : ai_H} {b : Nat} {l6 : List (Nat × Nat)} {l : List (Nat × Nat × Nat)} (H : ∀ x ∈ l, h.2.2.2.1 (ai_ch b x.1) = x.2 ∧ h.2.2.1 b x.1 = some (ai_ch b x.1)) (H6 : ∀ p ∈ l6, ∀ n, ai_okb h b p.1 (6, p.2, n) = true) : ∀ (fk : List (Nat × Nat × Nat)) (i : Nat), zchk l6 l i fk = true → ai_cmpF h b i fk = true := by
  intro fk
  induction fk with
  | nil => intro i _; rfl
  | cons q fk ih =>
    intro i hq
    obtain ⟨t, x, n⟩ := q
    have hq2 := (Bool.and_eq_true _ _).mp (show (_ && zchk l6 l (i + 1) fk) = true from hq)
    have h1 := hq2.1
    have h3 := ih _ hq2.2
    show (ai_okb h b i (t, x, n) && ai_cmpF h b (i + 1) fk) = true
    rw [h3, Bool.and_true]
    match t, h1 with
    | 0, _ => rfl
    | 1, _ => rfl
    | 2, _ => rfl
    | 3, h1 =>
      obtain ⟨a1, a2⟩ := H _ (of_decide_eq_true h1)
      have a1 : h.2.2.2.1 (ai_ch b i) = (20 + x, 0) := a1
      have a2 : h.2.2.1 b i = some (ai_ch b i) := a2
      show (decide (h.2.2.1 b i = some (ai_ch b i)) && decide (h.2.2.2.1 (ai_ch b i) = (20 + x, 0))) = true
      rw [decide_eq_true a2, decide_eq_true a1]
      rfl
    | 4, h1 =>
      obtain ⟨a1, a2⟩ := H _ (of_decide_eq_true h1)
      have a1 : h.2.2.2.1 (ai_ch b i) = (x, n) := a1
      have a2 : h.2.2.1 b i = some (ai_ch b i) := a2
      show (decide (h.2.2.1 b i = some (ai_ch b i)) && decide (h.2.2.2.1 (ai_ch b i) = (x, n))) = true
      rw [decide_eq_true a2, decide_eq_true a1]
      rfl
    | 5, h1 => exact (Bool.false_ne_true h1).elim
    | 6, h1 => exact H6 _ (of_decide_eq_true h1) n
    | 7, h1 => exact (Bool.false_ne_true h1).elim
    | t + 8, _ => rfl
theorem zqs_c {b K ci : Nat} {h0 h : ai_H} {fb : Nat → Int32} {l : List (Nat × Nat × Nat)} (I : zqs b K h0 fb l h) (hc : zchk [] l 0 (ai_fkl.getD ci []) = true) : ai_cmp h b ci = true := zcmpF I.2.2.1 (fun p hp => absurd hp List.not_mem_nil) _ _ hc

theorem zX50 (d : Nat) (h : ai_H) (b : Nat) (hk : h.2.2.2.1 b = (47, 0)) (hf : ∀ j, j < 127 → h.2.2.2.1 (ai_ch b j) = (0, 0)) (hz : ∀ q, zdn 1 b q → ¬ q = b → h.1 q = fun _ => 0) : ∃ g, ai_X (d + 1) 50 [.inr (.inr (47, 0, b))] h = some ([], g) ∧ zqs b 47 h (h.1 b) [(13, 1, 500), (12, 1, 24), (11, 1, 24), (10, 1, 24), (8, 1, 501), (7, 1, 501), (6, 1, 501), (0, 1, 500)] g := by
  obtain ⟨g1, e1, I1⟩ := zqs_n 500 (T50 d b h) (zqs_0 hk rfl hf hz) rfl (by decide) (by decide) (by decide +kernel)
  obtain ⟨g2, e2, I2⟩ := zqs_n 501 (T50_13 d b g1) I1 rfl (by decide) (by decide) (by decide +kernel)
  obtain ⟨g3, e3, I3⟩ := zqs_n 501 (T50_22 d b g2) I2 rfl (by decide) (by decide) (by decide +kernel)
  obtain ⟨g4, e4, I4⟩ := zqs_n 501 (T50_31 d b g3) I3 rfl (by decide) (by decide) (by decide +kernel)
  obtain ⟨g5, e5, I5⟩ := zqs_n 24 (T50_40 d b g4) I4 rfl (by decide) (by decide) (by decide +kernel)
  obtain ⟨g6, e6, I6⟩ := zqs_n 24 (T50_48 d b g5) I5 rfl (by decide) (by decide) (by decide +kernel)
  obtain ⟨g7, e7, I7⟩ := zqs_n 24 (T50_56 d b g6) I6 rfl (by decide) (by decide) (by decide +kernel)
  obtain ⟨g8, e8, I8⟩ := zqs_n 500 (T50_64 d b g7) I7 rfl (by decide) (by decide) (by decide +kernel)
  exact ⟨g8, e1.trans (e2.trans (e3.trans (e4.trans (e5.trans (e6.trans (e7.trans (e8.trans (T50_73 d _ g8)))))))), I8⟩
theorem zX73 (d : Nat) (h : ai_H) (b : Nat) (hk : h.2.2.2.1 b = (49, 0)) (hf : ∀ j, j < 127 → h.2.2.2.1 (ai_ch b j) = (0, 0)) (hz : ∀ q, zdn 1 b q → ¬ q = b → h.1 q = fun _ => 0) : ∃ g, ai_X (d + 1) 73 [.inr (.inr (49, 0, b))] h = some ([], g) ∧ zqs b 49 h (h.1 b) [(7, 1, 5), (6, 1, 6), (5, 1, 6), (4, 1, 6), (2, 4, 5), (1, 1, 5)] g := by
  obtain ⟨g1, e1, I1⟩ := zqs_n 5 (T73 d b h) (zqs_0 hk rfl hf hz) rfl (by decide) (by decide) (by decide +kernel)
  obtain ⟨g2, e2, I2⟩ := zqs_n 5 (T73_11 d b g1) I1 rfl (by decide) (by decide) (by decide +kernel)
  obtain ⟨g3, e3, I3⟩ := zqs_n 6 (T73_19 d b g2) I2 rfl (by decide) (by decide) (by decide +kernel)
  obtain ⟨g4, e4, I4⟩ := zqs_n 6 (T73_27 d b g3) I3 rfl (by decide) (by decide) (by decide +kernel)
  obtain ⟨g5, e5, I5⟩ := zqs_n 6 (T73_35 d b g4) I4 rfl (by decide) (by decide) (by decide +kernel)
  obtain ⟨g6, e6, I6⟩ := zqs_n 5 (T73_43 d b g5) I5 rfl (by decide) (by decide) (by decide +kernel)
  exact ⟨g6, e1.trans (e2.trans (e3.trans (e4.trans (e5.trans (e6.trans (T73_50 d _ g6)))))), I6⟩
theorem zX43 (d : Nat) (h : ai_H) (b : Nat) (hk : h.2.2.2.1 b = (46, 0)) (hf : ∀ j, j < 127 → h.2.2.2.1 (ai_ch b j) = (0, 0)) (hz : ∀ q, zdn 1 b q → ¬ q = b → h.1 q = fun _ => 0) : ∃ g, ai_X (d + 1) 43 [.inr (.inr (46, 0, b))] h = some ([], g) ∧ zqs b 46 h (h.1 b) [(6, 1, 20), (5, 1, 240), (4, 1, 20), (3, 1, 288), (2, 1, 24), (1, 1, 24)] g := by
  obtain ⟨g1, e1, I1⟩ := zqs_n 24 (T43 d b h) (zqs_0 hk rfl hf hz) rfl (by decide) (by decide) (by decide +kernel)
  obtain ⟨g2, e2, I2⟩ := zqs_n 24 (T43_12 d b g1) I1 rfl (by decide) (by decide) (by decide +kernel)
  obtain ⟨g3, e3, I3⟩ := zqs_n 288 (T43_20 d b g2) I2 rfl (by decide) (by decide) (by decide +kernel)
  obtain ⟨g4, e4, I4⟩ := zqs_n 20 (T43_29 d b g3) I3 rfl (by decide) (by decide) (by decide +kernel)
  obtain ⟨g5, e5, I5⟩ := zqs_n 240 (T43_37 d b g4) I4 rfl (by decide) (by decide) (by decide +kernel)
  obtain ⟨g6, e6, I6⟩ := zqs_n 20 (T43_46 d b g5) I5 rfl (by decide) (by decide) (by decide +kernel)
  exact ⟨g6, e1.trans (e2.trans (e3.trans (e4.trans (e5.trans (e6.trans (T43_54 d _ g6)))))), I6⟩
theorem zX79 (d : Nat) (h : ai_H) (b : Nat) (hk : h.2.2.2.1 b = (50, 0)) (hf : ∀ j, j < 127 → h.2.2.2.1 (ai_ch b j) = (0, 0)) (hz : ∀ q, zdn 1 b q → ¬ q = b → h.1 q = fun _ => 0) : ∃ g, ai_X (d + 1) 79 [.inr (.inr (50, 0, b))] h = some ([], g) ∧ zqs b 50 h (h.1 b) [(7, 1, 8), (6, 1, 8), (5, 1, 24), (4, 1, 2048), (3, 1, 8), (2, 1, 8), (1, 1, 8)] g := by
  obtain ⟨g1, e1, I1⟩ := zqs_n 8 (T79 d b h) (zqs_0 hk rfl hf hz) rfl (by decide) (by decide) (by decide +kernel)
  obtain ⟨g2, e2, I2⟩ := zqs_n 8 (T79_12 d b g1) I1 rfl (by decide) (by decide) (by decide +kernel)
  obtain ⟨g3, e3, I3⟩ := zqs_n 8 (T79_20 d b g2) I2 rfl (by decide) (by decide) (by decide +kernel)
  obtain ⟨g4, e4, I4⟩ := zqs_n 2048 (T79_28 d b g3) I3 rfl (by decide) (by decide) (by decide +kernel)
  obtain ⟨g5, e5, I5⟩ := zqs_n 24 (T79_37 d b g4) I4 rfl (by decide) (by decide) (by decide +kernel)
  obtain ⟨g6, e6, I6⟩ := zqs_n 8 (T79_45 d b g5) I5 rfl (by decide) (by decide) (by decide +kernel)
  obtain ⟨g7, e7, I7⟩ := zqs_n 8 (T79_53 d b g6) I6 rfl (by decide) (by decide) (by decide +kernel)
  exact ⟨g7, e1.trans (e2.trans (e3.trans (e4.trans (e5.trans (e6.trans (e7.trans (T79_61 d _ g7))))))), I7⟩
theorem zX12 (d : Nat) (h : ai_H) (b : Nat) (hk : h.2.2.2.1 b = (41, 0)) (hf : ∀ j, j < 127 → h.2.2.2.1 (ai_ch b j) = (0, 0)) (hz : ∀ q, zdn 1 b q → ¬ q = b → h.1 q = fun _ => 0) : ∃ g, ai_X (d + 1) 12 [.inr (.inr (41, 0, b))] h = some ([], g) ∧ zqs b 41 h (h.1 b) [(4, 1, 12), (2, 1, 12), (1, 1, 12)] g := by
  obtain ⟨g1, e1, I1⟩ := zqs_n 12 (T12 d b h) (zqs_0 hk rfl hf hz) rfl (by decide) (by decide) (by decide +kernel)
  obtain ⟨g2, e2, I2⟩ := zqs_n 12 (T12_12 d b g1) I1 rfl (by decide) (by decide) (by decide +kernel)
  obtain ⟨g3, e3, I3⟩ := zqs_n 12 (T12_20 d b g2) I2 rfl (by decide) (by decide) (by decide +kernel)
  exact ⟨g3, e1.trans (e2.trans (e3.trans (T12_28 d _ g3))), I3⟩
def zl185 : List (Nat × Nat × Nat) := [(86, 1, 24), (85, 1, 20), (84, 1, 24), (83, 1, 8), (82, 1, 8), (81, 1, 2048), (80, 1, 8), (76, 3, 30), (75, 1, 5), (74, 1, 6), (73, 1, 30), (72, 1, 24), (71, 3, 24), (70, 1, 20), (69, 1, 20), (68, 1, 20), (67, 2, 12), (66, 2, 288), (65, 2, 240), (64, 1, 24), (63, 1, 20), (62, 3, 300), (61, 1, 6), (60, 1, 20001), (58, 1, 12), (57, 1, 12), (47, 2, 500), (46, 1, 20000), (45, 1, 20000), (44, 1, 20000), (43, 1, 20000), (41, 1, 168), (40, 1, 168), (39, 1, 168), (38, 3, 168), (37, 1, 5), (36, 1, 7), (31, 1, 160), (30, 1, 160), (29, 1, 160), (28, 1, 160), (27, 1, 160), (26, 1, 2400), (25, 1, 2400), (24, 1, 2400), (23, 1, 2400), (22, 1, 2400), (21, 1, 20), (20, 1, 80), (19, 1, 120), (18, 3, 160), (17, 3, 96), (16, 1, 96), (15, 1, 96), (14, 1, 96), (13, 1, 96), (12, 1, 96), (11, 1, 96), (10, 1, 96), (9, 1, 4), (8, 1, 4), (7, 1, 4), (6, 1, 4), (5, 1, 4), (4, 1, 4), (3, 1, 4), (2, 1, 4), (1, 1, 4), (0, 1, 4)]
theorem zX185 (d : Nat) (h : ai_H) (b : Nat) (hk : h.2.2.2.1 b = (52, 0)) (hf : ∀ j, j < 127 → h.2.2.2.1 (ai_ch b j) = (0, 0)) (hz : ∀ q, zdn 1 b q → ¬ q = b → h.1 q = fun _ => 0) : ∃ g, ai_X (d + 1) 185 [.inr (.inr (52, 0, b))] h = some ([], g) ∧ zqs b 52 h (fun y => if y = 49 then -1 else h.1 b y) zl185 g := by
  obtain ⟨g1, e1, I1⟩ := zqs_n 4 (T185 d b h) (zqs_0 hk rfl hf hz) rfl (by decide) (by decide) (by decide +kernel)
  obtain ⟨g2, e2, I2⟩ := zqs_n 4 (T185_11 d b g1) I1 rfl (by decide) (by decide) (by decide +kernel)
  obtain ⟨g3, e3, I3⟩ := zqs_n 4 (T185_18 d b g2) I2 rfl (by decide) (by decide) (by decide +kernel)
  obtain ⟨g4, e4, I4⟩ := zqs_n 4 (T185_25 d b g3) I3 rfl (by decide) (by decide) (by decide +kernel)
  obtain ⟨g5, e5, I5⟩ := zqs_n 4 (T185_32 d b g4) I4 rfl (by decide) (by decide) (by decide +kernel)
  obtain ⟨g6, e6, I6⟩ := zqs_n 4 (T185_39 d b g5) I5 rfl (by decide) (by decide) (by decide +kernel)
  obtain ⟨g7, e7, I7⟩ := zqs_n 4 (T185_46 d b g6) I6 rfl (by decide) (by decide) (by decide +kernel)
  obtain ⟨g8, e8, I8⟩ := zqs_n 4 (T185_53 d b g7) I7 rfl (by decide) (by decide) (by decide +kernel)
  obtain ⟨g9, e9, I9⟩ := zqs_n 4 (T185_60 d b g8) I8 rfl (by decide) (by decide) (by decide +kernel)
  obtain ⟨g10, e10, I10⟩ := zqs_n 4 (T185_67 d b g9) I9 rfl (by decide) (by decide) (by decide +kernel)
  obtain ⟨g11, e11, I11⟩ := zqs_n 96 (T185_74 d b g10) I10 rfl (by decide) (by decide) (by decide +kernel)
  obtain ⟨g12, e12, I12⟩ := zqs_n 96 (T185_82 d b g11) I11 rfl (by decide) (by decide) (by decide +kernel)
  obtain ⟨g13, e13, I13⟩ := zqs_n 96 (T185_90 d b g12) I12 rfl (by decide) (by decide) (by decide +kernel)
  obtain ⟨g14, e14, I14⟩ := zqs_n 96 (T185_98 d b g13) I13 rfl (by decide) (by decide) (by decide +kernel)
  obtain ⟨g15, e15, I15⟩ := zqs_n 96 (T185_106 d b g14) I14 rfl (by decide) (by decide) (by decide +kernel)
  obtain ⟨g16, e16, I16⟩ := zqs_n 96 (T185_114 d b g15) I15 rfl (by decide) (by decide) (by decide +kernel)
  obtain ⟨g17, e17, I17⟩ := zqs_n 96 (T185_122 d b g16) I16 rfl (by decide) (by decide) (by decide +kernel)
  obtain ⟨g18, e18, I18⟩ := zqs_n 96 (T185_130 d b g17) I17 rfl (by decide) (by decide) (by decide +kernel)
  obtain ⟨g19, e19, I19⟩ := zqs_n 160 (T185_138 d b g18) I18 rfl (by decide) (by decide) (by decide +kernel)
  obtain ⟨g20, e20, I20⟩ := zqs_n 120 (T185_147 d b g19) I19 rfl (by decide) (by decide) (by decide +kernel)
  obtain ⟨g21, e21, I21⟩ := zqs_n 80 (T185_155 d b g20) I20 rfl (by decide) (by decide) (by decide +kernel)
  obtain ⟨g22, e22, I22⟩ := zqs_n 20 (T185_163 d b g21) I21 rfl (by decide) (by decide) (by decide +kernel)
  obtain ⟨g23, e23, I23⟩ := zqs_n 2400 (T185_171 d b g22) I22 rfl (by decide) (by decide) (by decide +kernel)
  obtain ⟨g24, e24, I24⟩ := zqs_n 2400 (T185_180 d b g23) I23 rfl (by decide) (by decide) (by decide +kernel)
  obtain ⟨g25, e25, I25⟩ := zqs_n 2400 (T185_189 d b g24) I24 rfl (by decide) (by decide) (by decide +kernel)
  obtain ⟨g26, e26, I26⟩ := zqs_n 2400 (T185_198 d b g25) I25 rfl (by decide) (by decide) (by decide +kernel)
  obtain ⟨g27, e27, I27⟩ := zqs_n 2400 (T185_207 d b g26) I26 rfl (by decide) (by decide) (by decide +kernel)
  obtain ⟨g28, e28, I28⟩ := zqs_n 160 (T185_216 d b g27) I27 rfl (by decide) (by decide) (by decide +kernel)
  obtain ⟨g29, e29, I29⟩ := zqs_n 160 (T185_225 d b g28) I28 rfl (by decide) (by decide) (by decide +kernel)
  obtain ⟨g30, e30, I30⟩ := zqs_n 160 (T185_234 d b g29) I29 rfl (by decide) (by decide) (by decide +kernel)
  obtain ⟨g31, e31, I31⟩ := zqs_n 160 (T185_243 d b g30) I30 rfl (by decide) (by decide) (by decide +kernel)
  obtain ⟨g32, e32, I32⟩ := zqs_n 160 (T185_252 d b g31) I31 rfl (by decide) (by decide) (by decide +kernel)
  obtain ⟨g33, e33, I33⟩ := zqs_n 7 (T185_261 d b g32) I32 rfl (by decide) (by decide) (by decide +kernel)
  obtain ⟨g34, e34, I34⟩ := zqs_n 5 (T185_269 d b g33) I33 rfl (by decide) (by decide) (by decide +kernel)
  obtain ⟨g35, e35, I35⟩ := zqs_n 168 (T185_276 d b g34) I34 rfl (by decide) (by decide) (by decide +kernel)
  obtain ⟨g36, e36, I36⟩ := zqs_n 168 (T185_285 d b g35) I35 rfl (by decide) (by decide) (by decide +kernel)
  obtain ⟨g37, e37, I37⟩ := zqs_n 168 (T185_294 d b g36) I36 rfl (by decide) (by decide) (by decide +kernel)
  obtain ⟨g38, e38, I38⟩ := zqs_n 168 (T185_303 d b g37) I37 rfl (by decide) (by decide) (by decide +kernel)
  obtain ⟨g39, e39, I39⟩ := zqs_n 20000 (T185_312 d b g38) I38 rfl (by decide) (by decide) (by decide +kernel)
  obtain ⟨g40, e40, I40⟩ := zqs_n 20000 (T185_321 d b g39) I39 rfl (by decide) (by decide) (by decide +kernel)
  obtain ⟨g41, e41, I41⟩ := zqs_n 20000 (T185_330 d b g40) I40 rfl (by decide) (by decide) (by decide +kernel)
  obtain ⟨g42, e42, I42⟩ := zqs_n 20000 (T185_339 d b g41) I41 rfl (by decide) (by decide) (by decide +kernel)
  obtain ⟨g43, e43, I43⟩ := zqs_n 500 (T185_348 d b g42) I42 rfl (by decide) (by decide) (by decide +kernel)
  obtain ⟨g44, e44, I44⟩ := zqs_v (T185_357 d b g43) I43
  obtain ⟨g45, e45, I45⟩ := zqs_n 12 (T185_362 d b g44) I44 rfl (by decide) (by decide) (by decide +kernel)
  obtain ⟨g46, e46, I46⟩ := zqs_n 12 (T185_370 d b g45) I45 rfl (by decide) (by decide) (by decide +kernel)
  obtain ⟨g47, e47, I47⟩ := zqs_n 20001 (T185_378 d b g46) I46 rfl (by decide) (by decide) (by decide +kernel)
  obtain ⟨g48, e48, I48⟩ := zqs_n 6 (T185_387 d b g47) I47 rfl (by decide) (by decide) (by decide +kernel)
  obtain ⟨g49, e49, I49⟩ := zqs_n 300 (T185_395 d b g48) I48 rfl (by decide) (by decide) (by decide +kernel)
  obtain ⟨g50, e50, I50⟩ := zqs_n 20 (T185_404 d b g49) I49 rfl (by decide) (by decide) (by decide +kernel)
  obtain ⟨g51, e51, I51⟩ := zqs_n 24 (T185_412 d b g50) I50 rfl (by decide) (by decide) (by decide +kernel)
  obtain ⟨g52, e52, I52⟩ := zqs_n 240 (T185_420 d b g51) I51 rfl (by decide) (by decide) (by decide +kernel)
  obtain ⟨g53, e53, I53⟩ := zqs_n 288 (T185_429 d b g52) I52 rfl (by decide) (by decide) (by decide +kernel)
  obtain ⟨g54, e54, I54⟩ := zqs_n 12 (T185_438 d b g53) I53 rfl (by decide) (by decide) (by decide +kernel)
  obtain ⟨g55, e55, I55⟩ := zqs_n 20 (T185_446 d b g54) I54 rfl (by decide) (by decide) (by decide +kernel)
  obtain ⟨g56, e56, I56⟩ := zqs_n 20 (T185_454 d b g55) I55 rfl (by decide) (by decide) (by decide +kernel)
  obtain ⟨g57, e57, I57⟩ := zqs_n 20 (T185_462 d b g56) I56 rfl (by decide) (by decide) (by decide +kernel)
  obtain ⟨g58, e58, I58⟩ := zqs_n 24 (T185_470 d b g57) I57 rfl (by decide) (by decide) (by decide +kernel)
  obtain ⟨g59, e59, I59⟩ := zqs_n 24 (T185_478 d b g58) I58 rfl (by decide) (by decide) (by decide +kernel)
  obtain ⟨g60, e60, I60⟩ := zqs_n 30 (T185_486 d b g59) I59 rfl (by decide) (by decide) (by decide +kernel)
  obtain ⟨g61, e61, I61⟩ := zqs_n 6 (T185_494 d b g60) I60 rfl (by decide) (by decide) (by decide +kernel)
  obtain ⟨g62, e62, I62⟩ := zqs_n 5 (T185_502 d b g61) I61 rfl (by decide) (by decide) (by decide +kernel)
  obtain ⟨g63, e63, I63⟩ := zqs_n 30 (T185_509 d b g62) I62 rfl (by decide) (by decide) (by decide +kernel)
  obtain ⟨g64, e64, I64⟩ := zqs_n 8 (T185_517 d b g63) I63 rfl (by decide) (by decide) (by decide +kernel)
  obtain ⟨g65, e65, I65⟩ := zqs_n 2048 (T185_525 d b g64) I64 rfl (by decide) (by decide) (by decide +kernel)
  obtain ⟨g66, e66, I66⟩ := zqs_n 8 (T185_534 d b g65) I65 rfl (by decide) (by decide) (by decide +kernel)
  obtain ⟨g67, e67, I67⟩ := zqs_n 8 (T185_542 d b g66) I66 rfl (by decide) (by decide) (by decide +kernel)
  obtain ⟨g68, e68, I68⟩ := zqs_n 24 (T185_550 d b g67) I67 rfl (by decide) (by decide) (by decide +kernel)
  obtain ⟨g69, e69, I69⟩ := zqs_n 20 (T185_558 d b g68) I68 rfl (by decide) (by decide) (by decide +kernel)
  obtain ⟨g70, e70, I70⟩ := zqs_n 24 (T185_566 d b g69) I69 rfl (by decide) (by decide) (by decide +kernel)
  exact ⟨g70, e1.trans (e2.trans (e3.trans (e4.trans (e5.trans (e6.trans (e7.trans (e8.trans (e9.trans (e10.trans (e11.trans (e12.trans (e13.trans (e14.trans (e15.trans (e16.trans (e17.trans (e18.trans (e19.trans (e20.trans (e21.trans (e22.trans (e23.trans (e24.trans (e25.trans (e26.trans (e27.trans (e28.trans (e29.trans (e30.trans (e31.trans (e32.trans (e33.trans (e34.trans (e35.trans (e36.trans (e37.trans (e38.trans (e39.trans (e40.trans (e41.trans (e42.trans (e43.trans (e44.trans (e45.trans (e46.trans (e47.trans (e48.trans (e49.trans (e50.trans (e51.trans (e52.trans (e53.trans (e54.trans (e55.trans (e56.trans (e57.trans (e58.trans (e59.trans (e60.trans (e61.trans (e62.trans (e63.trans (e64.trans (e65.trans (e66.trans (e67.trans (e68.trans (e69.trans (e70.trans (T185_574 d _ g70)))))))))))))))))))))))))))))))))))))))))))))))))))))))))))))))))))))), I70⟩
