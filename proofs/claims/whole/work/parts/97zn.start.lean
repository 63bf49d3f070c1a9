/-! THE START: the class made -/
/-- the class that is being made: so many fields stand, so many cells and slots are made -/
def zqi (l : List (Nat × Nat × Nat)) (c s : Nat) (h : ai_H) : Prop :=
  h.2.2.2.1 128 = (51, 0) ∧ (∀ x ∈ l, x.1 < 127 ∧ h.2.2.2.1 (ai_ch 128 x.1) = x.2 ∧ h.2.2.1 128 x.1 = some (ai_ch 128 x.1)) ∧ (∀ j, j < 127 → (∀ x ∈ l, ¬ x.1 = j) → ∀ q, zdn 3 (ai_ch 128 j) q → h.2.2.2.1 q = (0, 0)) ∧ (∀ q, ¬ zdn 3 (ai_ch 128 0) q → h.1 q = fun _ => 0) ∧ (∀ q, ¬ zdn 4 128 q → h.2.2.2.1 q = (0, 0)) ∧ (h.2.2.2.2.1 = c + 1 ∧ h.2.2.2.2.2.1 = c ∧ h.2.2.2.2.2.2 = s) ∧ znst h (ai_ch 128 0)
theorem zqi_0 (d : Nat) : ∃ g, ai_X (d + 6) 85 [.inr (.inr (51, 0, 128))] (ai_new ai_h0 128 (51, 0) 12) = ai_E (d + 5) 85 15 [some (.inr (.inr (51, 0, 128)))] [] g ∧ zqi [(0, 28, 0)] 82 3002 g := by
  have k0 : ∀ q, (ai_new ai_h0 128 (51, 0) 12).2.2.2.1 q = if q = 128 then (51, 0) else (0, 0) := fun q => by rw [znew_k]; rfl
  have i0 : ∀ q, (ai_new ai_h0 128 (51, 0) 12).1 q = fun _ => 0 := fun q => by
    rw [znew_i]
    by_cases c : q = 128
    · rw [if_pos c]
    · rw [if_neg c]; rfl
  obtain ⟨h0, eh0⟩ : ∃ w, ai_new ai_h0 128 (51, 0) 12 = w := ⟨_, rfl⟩
  have ct0 : h0.2.2.2.2.1 = 2 ∧ h0.2.2.2.2.2.1 = 1 ∧ h0.2.2.2.2.2.2 = 12 := by rw [← eh0]; exact ⟨rfl, rfl, rfl⟩
  rw [eh0] at k0 i0 ⊢
  obtain ⟨g, x1, x2, x3, x4, -, x6, x7⟩ := X71 (h := ai_new h0 (ai_ch 128 0) (48, 0) 5) (a := ai_ch 128 0) (d + 1) (by rw [znew_k, if_pos rfl]) (fun q hq hn => by
    rw [znew_k, if_neg hn, k0, if_neg (fun c => by rw [c] at hq; exact zdn_up hq)])
  have x1 : ai_X (d + 5) 71 [.inr (.inr (48, 0, ai_ch 128 0))] (ai_new h0 (ai_ch 128 0) (48, 0) 5) = some ([], g) := x1
  have kg : ∀ q, ¬ zdn 3 (ai_ch 128 0) q → g.2.2.2.1 q = h0.2.2.2.1 q := fun q hq => by
    rw [(x2 q hq).2.2, znew_k, if_neg (fun c => hq (by rw [c]; exact zdn_a))]
  have g128 : g.2.2.2.1 128 = (51, 0) := by rw [kg 128 zdn_up, k0, if_pos rfl]
  have z128 : (zput g 128 0 (ai_ch 128 0) 28).2.2.2.1 128 = (51, 0) := by rw [zput_k, if_neg z_chn]; exact g128
  refine ⟨zput g 128 0 (ai_ch 128 0) 28, ?_, z128, fun x hx => ?_, fun j hj hx q hq => ?_, fun q hq => ?_, fun q hq => ?_, ?_, ?_⟩
  · rw [T85, if_pos (by rw [k0, if_neg (by decide)]), if_pos rfl, x1]
    simp only [z_bv]
    rw [if_pos ⟨by rw [x3], x4⟩, if_pos (show ((ai_stK g (ai_ch 128 0) (28, 0)).2.2.2.1 128).1 = 51 from congrArg Prod.fst z128)]
    rfl
  · rw [List.mem_singleton.mp hx]
    show 0 < 127 ∧ (zput g 128 0 (ai_ch 128 0) 28).2.2.2.1 (ai_ch 128 0) = (28, 0) ∧ (zput g 128 0 (ai_ch 128 0) 28).2.2.1 128 0 = some (ai_ch 128 0)
    exact ⟨by decide, by rw [zput_k, if_pos rfl], by rw [zput_r, if_pos ⟨rfl, rfl⟩]⟩
  · have n0 : ¬ 0 = j := hx _ List.mem_cons_self
    have nd : ¬ zdn 3 (ai_ch 128 0) q := zdn_dis hj (by decide) (fun c => n0 c.symm) hq
    rw [zput_k, if_neg (fun c => nd (by rw [c]; exact zdn_a)), kg q nd, k0, if_neg (fun c => by rw [c] at hq; exact zdn_up hq)]
  · rw [zput_i, (x2 q hq).1, znew_i, if_neg (fun c => hq (by rw [c]; exact zdn_a))]
    exact i0 q
  · have nd : ¬ zdn 3 (ai_ch 128 0) q := fun c => hq (zdn_c (by decide) c)
    rw [zput_k, if_neg (fun c => nd (by rw [c]; exact zdn_a)), kg q nd, k0, if_neg (fun c => hq (by rw [c]; exact zdn_a))]
  · have := zct_tr (zct_tr (znew_c (h := h0) (c := ai_ch 128 0) (s := 5) (x := (48, 0))) x7) (zput_c (a := 128) (k := 0) (c := ai_ch 128 0) (K := 28))
    unfold zct at this
    omega
  · exact znst_c (fun q hq => ⟨by rw [zput_i], fun n => by rw [zput_k, if_neg n]⟩) x6
theorem zqi_n {x : Option ai_R} {X : ai_H → Option ai_R} {k j c s : Nat} {h : ai_H} {l : List (Nat × Nat × Nat)} {m : Int32} (n : Nat) (T : x = if m < 0 ∨ 30000 < m then none else if h.2.2.2.1 (ai_ch 128 j) = (0, 0) then if ((ai_new h (ai_ch 128 j) (k, m.toNatClampNeg) m.toNatClampNeg).2.2.2.1 128).1 = 51 then X (ai_stR (ai_new h (ai_ch 128 j) (k, m.toNatClampNeg) m.toNatClampNeg) 128 j (some (ai_ch 128 j))) else none else none) (I : zqi l c s h) (hm : m = nI n) (hn : n ≤ 30000) (hj : j < 127) (hj0 : ¬ j = 0) (hl : ∀ y ∈ l, ¬ y.1 = j) : ∃ g, x = X g ∧ zqi ((j, k, n) :: l) (c + 1) (s + n) g := by
  obtain ⟨i1, i2, i3, i4, i5, i6, i7⟩ := I
  have na : ¬ 128 = ai_ch 128 j := z_chn
  refine ⟨zmk1 h 128 j k n, T.trans (zstepA X hm hn (i3 j hj hl _ zdn_a) (congrArg Prod.fst i1)), by rw [zmk1_k, if_neg na]; exact i1, fun x hx => ?_, fun i hi hx q hq => ?_, fun q hq => ?_, fun q hq => ?_, ?_, znst_c (fun q hq => ?_) i7⟩
  · rcases List.mem_cons.mp hx with e | hx
    · subst e
      show j < 127 ∧ (zmk1 h 128 j k n).2.2.2.1 (ai_ch 128 j) = (k, n) ∧ (zmk1 h 128 j k n).2.2.1 128 j = some (ai_ch 128 j)
      exact ⟨hj, by rw [zmk1_k, if_pos rfl], by rw [zmk1_r, if_pos ⟨rfl, rfl⟩]⟩
    · have n1 := hl x hx
      have nc : ¬ ai_ch 128 x.1 = ai_ch 128 j := fun c => n1 (by rw [z_ch] at c; exact c)
      exact ⟨(i2 x hx).1, by rw [zmk1_k, if_neg nc]; exact (i2 x hx).2.1, by rw [zmk1_r, if_neg (fun c => n1 c.2), if_neg na]; exact (i2 x hx).2.2⟩
  · have n1 : ¬ j = i := hx (j, k, n) List.mem_cons_self
    rw [zmk1_k, if_neg (fun c => by rw [c] at hq; exact zdn_b hj n1 hq)]
    exact i3 i hi (fun x hx' => hx x (List.mem_cons_of_mem _ hx')) q hq
  · rw [zmk1_i]
    by_cases c : q = ai_ch 128 j
    · rw [if_pos c]
    · rw [if_neg c]
      exact i4 q hq
  · rw [zmk1_k, if_neg (fun c => hq (by rw [c]; exact zdn_1 hj))]
    exact i5 q hq
  · have := zmk1_c (h := h) (a := 128) (j := j) (k := k) (n := n)
    unfold zct at this
    omega
  · have nq : ¬ q = ai_ch 128 j := fun c => by rw [c] at hq; exact zdn_b hj hj0 hq
    exact ⟨by rw [zmk1_i, if_neg nq], fun _ => by rw [zmk1_k, if_neg nq]⟩
theorem zqi_s {x : Option ai_R} {X : ai_H → Option ai_R} {d mi ci K K' nf j c s : Nat} {h : ai_H} {l lj : List (Nat × Nat × Nat)} (c' s' : Nat) (T : x = if h.2.2.2.1 (ai_ch 128 j) = (0, 0) then if (ai_ch 128 j) = (ai_ch 128 j) then ai_bv (ai_X d mi [.inr (.inr (K, 0, (ai_ch 128 j)))] (ai_new h (ai_ch 128 j) (K, 0) nf)) (fun h1 => if (h1.2.2.2.1 (ai_ch 128 j)).1 = K ∧ ai_cmp h1 (ai_ch 128 j) ci = true then if ((ai_stK h1 (ai_ch 128 j) (K', 0)).2.2.2.1 128).1 = 51 then X (ai_stR (ai_stK h1 (ai_ch 128 j) (K', 0)) 128 j (some (ai_ch 128 j))) else none else none) else none else none)
    (I : zqi l c s h) (C : ∀ (h : ai_H) (b : Nat), h.2.2.2.1 b = (K, 0) → (∀ j, j < 127 → h.2.2.2.1 (ai_ch b j) = (0, 0)) → (∀ q, zdn 1 b q → ¬ q = b → h.1 q = fun _ => 0) → ∃ g, ai_X d mi [.inr (.inr (K, 0, b))] h = some ([], g) ∧ zqs b K h (h.1 b) lj g) (hc : zchk [] lj 0 (ai_fkl.getD ci []) = true) (hj : j < 127) (hj0 : ¬ j = 0) (hl : ∀ y ∈ l, ¬ y.1 = j) (hc' : c + 1 + lj.length = c') (hs' : s + nf + zqsum lj = s') : ∃ g, x = X g ∧ zqi ((j, K', 0) :: l) c' s' g := by
  obtain ⟨i1, i2, i3, i4, i5, i6, i7⟩ := I
  have na : ¬ 128 = ai_ch 128 j := z_chn
  have up1 : ∀ q, zdn 1 (ai_ch 128 j) q → ¬ zdn 3 (ai_ch 128 0) q := fun q hq => zdn_dis hj (by decide) hj0 hq
  obtain ⟨g, X1, J⟩ := C (ai_new h (ai_ch 128 j) (K, 0) nf) (ai_ch 128 j) (by rw [znew_k, if_pos rfl]) (fun i hi => by
    rw [znew_k, if_neg (fun c => z_chn c.symm)]
    exact i3 j hj hl _ (zdn_1 hi)) (fun q hq hn => by
    rw [znew_i, if_neg hn]
    exact i4 q (up1 q hq))
  have cm : ai_cmp g (ai_ch 128 j) ci = true := zqs_c J hc
  obtain ⟨j1, j2, j3, j4, j5, j6, j7⟩ := J
  have fr : ∀ q, ¬ zdn 1 (ai_ch 128 j) q → g.1 q = h.1 q ∧ g.2.2.1 q = h.2.2.1 q ∧ g.2.2.2.1 q = h.2.2.2.1 q := fun q hq => by
    have nq : ¬ q = ai_ch 128 j := fun c => hq (by rw [c]; exact zdn_a)
    obtain ⟨f1, f2, f3⟩ := j6 q hq
    exact ⟨by rw [f1, znew_i, if_neg nq], by rw [f2]; exact funext fun i => by rw [znew_r, if_neg nq], by rw [f3, znew_k, if_neg nq]⟩
  have nb : ∀ q, ¬ zdn 1 (ai_ch 128 j) q → ¬ q = ai_ch 128 j := fun q hq c => hq (by rw [c]; exact zdn_a)
  have z128 : (zput g 128 j (ai_ch 128 j) K').2.2.2.1 128 = (51, 0) := by rw [zput_k, if_neg na, (fr 128 zdn_up).2.2]; exact i1
  refine ⟨zput g 128 j (ai_ch 128 j) K', ?_, z128, fun x hx => ?_, fun i hi hx q hq => ?_, fun q hq => ?_, fun q hq => ?_, ?_, znst_c (fun q hq => ?_) i7⟩
  · rw [T, if_pos (i3 j hj hl _ zdn_a), if_pos rfl, X1]
    simp only [z_bv]
    rw [if_pos ⟨by rw [j1], cm⟩, if_pos (show ((ai_stK g (ai_ch 128 j) (K', 0)).2.2.2.1 128).1 = 51 from congrArg Prod.fst z128)]
    rfl
  · rcases List.mem_cons.mp hx with e | hx
    · subst e
      show j < 127 ∧ (zput g 128 j (ai_ch 128 j) K').2.2.2.1 (ai_ch 128 j) = (K', 0) ∧ (zput g 128 j (ai_ch 128 j) K').2.2.1 128 j = some (ai_ch 128 j)
      exact ⟨hj, by rw [zput_k, if_pos rfl], by rw [zput_r, if_pos ⟨rfl, rfl⟩]⟩
    · have n1 := hl x hx
      have nd : ¬ zdn 1 (ai_ch 128 j) (ai_ch 128 x.1) := zdn_b (i2 x hx).1 n1
      exact ⟨(i2 x hx).1, by rw [zput_k, if_neg (nb _ nd), (fr _ nd).2.2]; exact (i2 x hx).2.1, by rw [zput_r, if_neg (fun c => n1 c.2), (fr 128 zdn_up).2.1]; exact (i2 x hx).2.2⟩
  · have n1 : ¬ j = i := hx (j, K', 0) List.mem_cons_self
    have nd : ¬ zdn 1 (ai_ch 128 j) q := zdn_dis hi hj (fun c => n1 c.symm) hq
    rw [zput_k, if_neg (nb _ nd), (fr _ nd).2.2]
    exact i3 i hi (fun x hx' => hx x (List.mem_cons_of_mem _ hx')) q hq
  · rw [zput_i]
    by_cases c : zdn 1 (ai_ch 128 j) q
    · by_cases e : q = ai_ch 128 j
      · rw [e, j2, znew_i, if_pos rfl]
      · exact j5 q c e
    · rw [(fr q c).1]
      exact i4 q hq
  · have nd : ¬ zdn 1 (ai_ch 128 j) q := fun c => hq (zdn_mo (n := 2) (by decide) (zdn_c hj c))
    rw [zput_k, if_neg (nb _ nd), (fr _ nd).2.2]
    exact i5 q hq
  · have := zct_tr (zct_tr (znew_c (h := h) (c := ai_ch 128 j) (s := nf) (x := (K, 0))) j7) (zput_c (a := 128) (k := j) (c := ai_ch 128 j) (K := K'))
    unfold zct at this
    omega
  · have nd : ¬ zdn 1 (ai_ch 128 j) q := zdn_dis (by decide) hj (fun c => hj0 c.symm) hq
    exact ⟨by rw [zput_i, (fr q nd).1], fun _ => by rw [zput_k, if_neg (nb _ nd), (fr _ nd).2.2]⟩
def zl85 : List (Nat × Nat × Nat) := [(8, 1, 24), (7, 1, 11), (6, 21, 0), (5, 30, 0), (4, 26, 0), (3, 29, 0), (2, 27, 0), (1, 5, 3), (0, 28, 0)]
theorem zqi_9 (d : Nat) : ∃ g, ai_X (d + 6) 85 [.inr (.inr (51, 0, 128))] (ai_new ai_h0 128 (51, 0) 12) = ai_E (d + 5) 85 94 [some (.inr (.inr (51, 0, 128)))] [] g ∧ zqi zl85 120 8462 g := by
  obtain ⟨g1, e1, I1⟩ := zqi_0 d
  obtain ⟨g2, e2, I2⟩ := zqi_n 3 (T85_15 (d + 5) 128 g1) I1 rfl (by decide) (by decide) (by decide) (by decide)
  obtain ⟨g3, e3, I3⟩ := zqi_s 92 5594 (T85_23 (d + 5) 128 g2) I2 (zX50 (d + 4)) (by decide +kernel) (by decide) (by decide) (by decide) (by decide +kernel) (by decide +kernel)
  obtain ⟨g4, e4, I4⟩ := zqi_s 99 5637 (T85_34 (d + 5) 128 g3) I3 (zX73 (d + 4)) (by decide +kernel) (by decide) (by decide) (by decide) (by decide +kernel) (by decide +kernel)
  obtain ⟨g5, e5, I5⟩ := zqi_s 106 6261 (T85_45 (d + 5) 128 g4) I4 (zX43 (d + 4)) (by decide +kernel) (by decide) (by decide) (by decide) (by decide +kernel) (by decide +kernel)
  obtain ⟨g6, e6, I6⟩ := zqi_s 114 8383 (T85_56 (d + 5) 128 g5) I5 (zX79 (d + 4)) (by decide +kernel) (by decide) (by decide) (by decide) (by decide +kernel) (by decide +kernel)
  obtain ⟨g7, e7, I7⟩ := zqi_s 118 8427 (T85_67 (d + 5) 128 g6) I6 (zX12 (d + 4)) (by decide +kernel) (by decide) (by decide) (by decide) (by decide +kernel) (by decide +kernel)
  obtain ⟨g8, e8, I8⟩ := zqi_n 11 (T85_78 (d + 5) 128 g7) I7 rfl (by decide) (by decide) (by decide) (by decide)
  obtain ⟨g9, e9, I9⟩ := zqi_n 24 (T85_86 (d + 5) 128 g8) I8 rfl (by decide) (by decide) (by decide) (by decide)
  exact ⟨g9, e1.trans (e2.trans (e3.trans (e4.trans (e5.trans (e6.trans (e7.trans (e8.trans e9))))))), I9⟩
