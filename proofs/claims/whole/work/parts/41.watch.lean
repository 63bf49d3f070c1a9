/-! SUMS OVER LEDGERS; watch -/
def zsm (g : Nat → Int32) : Nat → Int32
  | 0 => 0
  | n + 1 => zsm g n + g n
def zls (f : zR4 → Int32) : List zR4 → Int32
  | [] => 0
  | x :: l => f x + zls f l
theorem zsm_c {f g : Nat → Int32} : ∀ {n}, (∀ i, i < n → f i = g i) → zsm f n = zsm g n := by
  intro n
  induction n with
  | zero => intro _; rfl
  | succ n ih =>
    intro h
    unfold zsm
    rw [ih fun i hi => h i (by omega), h n (by omega)]
theorem zls_app {f : zR4 → Int32} {x : zR4} : ∀ l, zls f (l ++ [x]) = zls f l + f x := by
  intro l
  induction l with
  | nil => show f x + 0 = 0 + f x; rw [Int32.add_zero, Int32.zero_add]
  | cons y l ih => show f y + zls f (l ++ [x]) = f y + zls f l + f x; rw [ih, Int32.add_assoc]
theorem zsm_zls {f : zR4 → Int32} (l : List zR4) : zsm (fun i => f (l.getD i zrN)) l.length = zls f l := by
  have K : ∀ k, k ≤ l.length → zsm (fun i => f (l.getD i zrN)) k = zls f (l.take k) := by
    intro k
    induction k with
    | zero => intro _; rfl
    | succ k ih =>
      intro hk
      rw [z_tk (by omega), zls_app, ← ih (by omega)]
      rfl
  have := K l.length (Nat.le_refl _)
  rw [List.take_length] at this
  exact this
theorem zls_ins {f : zR4 → Int32} {r : zR4} : ∀ {l}, zls f (zins r l) = f r + zls f l := by
  intro l
  induction l with
  | nil => rfl
  | cons x l ih =>
    unfold zins
    by_cases c : r.2.1 < x.2.1
    · rw [if_pos c]; rfl
    · rw [if_neg c]
      show f x + zls f (zins r l) = f r + (f x + zls f l)
      rw [ih, ← Int32.add_assoc, ← Int32.add_assoc, Int32.add_comm (f x)]
theorem zls_led {f : zR4 → Int32} {σ : Nat → Nat → Int32} {k : Int32} : ∀ n, zls f (zled σ k n) = zsm (fun e => if σ 22 e = k then f (zrow σ e) else 0) n := by
  intro n
  induction n with
  | zero => rfl
  | succ n ih =>
    unfold zled zsm
    by_cases c : σ 22 n = k
    · rw [if_pos c, if_pos c, zls_ins, ih, Int32.add_comm]
    · rw [if_neg c, if_neg c, ih, Int32.add_zero]
/-- how many rows -/
def zlc (p : zR4 → Prop) [DecidablePred p] : List zR4 → Nat
  | [] => 0
  | x :: l => (if p x then 1 else 0) + zlc p l
theorem zlc_le {p : zR4 → Prop} [DecidablePred p] : ∀ l, zlc p l ≤ l.length := by
  intro l
  induction l with
  | nil => exact Nat.le_refl 0
  | cons x l ih =>
    show (if p x then 1 else 0) + zlc p l ≤ l.length + 1
    split <;> omega
theorem zls_zlc {p : zR4 → Prop} [DecidablePred p] : ∀ l, zls (fun r => if p r then 1 else 0) l = nI (zlc p l) := by
  intro l
  induction l with
  | nil => rfl
  | cons x l ih =>
    show (if p x then (1 : Int32) else 0) + zls _ l = nI ((if p x then 1 else 0) + zlc p l)
    rw [ih]
    split
    · rw [show (1 : Int32) = nI 1 from rfl, nI_add]
    · rw [Int32.zero_add, Nat.zero_add]
/-- hours' remainders -/
def zfm (x : Int32) : Int32 := if 0 ≤ (x ^^^ 24) then ai_rem x 24 else if ai_rem x 24 = 0 then ai_rem x 24 else ai_rem x 24 + 24
theorem zfm_ok : ∀ a, a < 24 → ∀ b, b < 24 → zfm (nI a - nI b) = nI ((a + 24 - b) % 24) := by decide +kernel
theorem zrm_ok : ∀ a, a < 24 → ∀ b, b < 24 → ai_rem ((nI a - nI b) + 24) 24 = nI ((a + 24 - b) % 24) := by decide +kernel
theorem X313 (d : Nat) (x : Int32) (h : ai_H) : ai_X (d + 1) 313 [.inl x, .inl 24] h = some ([.inl (zfm x)], h) := by
  rw [T313, if_neg (by decide)]
  unfold zfm
  by_cases c1 : 0 ≤ (x ^^^ 24)
  · rw [if_pos c1, if_pos c1]
  · rw [if_neg c1, if_neg c1]
    by_cases c2 : ai_rem x 24 = 0
    · rw [if_pos c2, if_pos c2]
    · rw [if_neg c2, if_neg c2]
/-- damage that a watch of so many hours from an hour on would have seen -/
abbrev zdm (b : Nat) (hours kn : Int32) (r : zR4) : Prop := r.2.2.2 ≤ kn ∧ nI ((r.2.2.1.toInt.toNat + 24 - b) % 24) < hours
def zdms (σ : Nat → Nat → Int32) (hours kn : Int32) (b : Nat) : Nat := zlc (zdm b hours kn) (zled σ 7 (zn σ 4))
theorem X182 {h : ai_H} {b : Nat} (d : Nat) (hours kn : Int32) (hr : zR h) (hb : b < 24) : ai_X (d + 2) 182 [.inr (.inr (31, 0, 128)), .inl (nI b), .inl hours, .inl kn] h = some ([.inl (nI (zdms (zsl (zMv h) 0) hours kn b))], h) := by
  obtain ⟨l1, ⟨k0, k1, k2, k3⟩, l3, l4⟩ := zR_led hr (k := 7) (by decide)
  have V : zV (zsl (zMv h) 0) := hr.2.1.2.1 0 (Nat.zero_le _)
  unfold zdms
  have hwhat : ∀ r ∈ zled (zsl (zMv h) 0) (nI 7) (zn (zsl (zMv h) 0) 4), zi r.2.2.1 0 23 := by
    intro r hr
    obtain ⟨e, he, h1, rfl⟩ := zled_mem.mp hr
    have v := (V.2.2.2.2.1.1 e (by omega)).2.2.2.2.2.2.2.2.2.2 h1
    have : (zrow (zsl (zMv h) 0) e).2.2.1 = zsl (zMv h) 0 25 e := by
      unfold zrow
      dsimp only
      rw [h1, if_neg (by decide)]
    rw [this]
    exact v
  have e7 : (7 : Int32) = nI 7 := rfl
  rw [e7]
  generalize zled (zsl (zMv h) 0) (nI 7) (zn (zsl (zMv h) 0) 4) = l at *
  have K : ∀ k i, i + k = l.length → ∀ z0, ai_E (d + 1) 182 18 [z0, some (.inl (nI b)), some (.inl hours), some (.inl kn), some (.inr (.inr (25, 0, 268452104))), some (.inl (zsm (fun i => (fun r => if zdm b hours kn r then 1 else 0) (l.getD i zrN)) i)), some (.inl (nI i))] [] h = some ([.inl (nI (zlc (zdm b hours kn) l))], h) := by
    intro k
    induction k with
    | zero =>
      intro i hi z0
      have hi : i = l.length := by omega
      subst hi
      rw [T182_18, show h.1 268452104 4 = nI l.length from l1.1, if_pos (by rw [z_le]; omega)]
      have e : zsm (fun i => (fun r => if zdm b hours kn r then 1 else 0) (l.getD i zrN)) l.length = nI (zlc (zdm b hours kn) l) := (zsm_zls (f := fun r => if zdm b hours kn r then 1 else 0) l).trans (zls_zlc l)
      exact congrArg (fun z => some ([Sum.inl z], h)) e
    | succ k ih =>
      intro i hi z0
      have er := zL_row l1 (i := i) (by omega)
      have e2 : (l.getD i zrN).2.2.1 = h.1 34361869315 i := by rw [er]; rfl
      have e3 : (l.getD i zrN).2.2.2 = h.1 34361869316 i := by rw [er]; rfl
      have hm : l.getD i zrN ∈ l := by
        rw [List.getD_eq_getElem?_getD, List.getElem?_eq_getElem (show i < l.length by omega)]
        exact List.getElem_mem _
      have hw := hwhat _ hm
      obtain ⟨a, ha, ea⟩ := z_rngI hw
      have k2' : (h.2.2.2.1 34361869315).2 = zmost 7 := k2
      have k3' : (h.2.2.2.1 34361869316).2 = zmost 7 := k3
      have ix : ∀ f : Nat → Option ai_R, ai_ix (nI i) (zmost 7) f = f i := fun f => z_ix (by omega) (by omega)
      have ih := ih (i + 1) (by omega) z0
      have es : zsm (fun i => (fun r => if zdm b hours kn r then 1 else 0) (l.getD i zrN)) (i + 1) = zsm (fun i => (fun r => if zdm b hours kn r then 1 else 0) (l.getD i zrN)) i + if zdm b hours kn (l.getD i zrN) then 1 else 0 := rfl
      rw [es] at ih
      rw [T182_18, show h.1 268452104 4 = nI l.length from l1.1, if_neg (by rw [nI_leI (by omega) (by omega)]; omega), k2', k3']
      simp only [ix, nI_1]
      by_cases c1 : kn < h.1 34361869316 i
      · rw [if_pos c1]
        rw [if_neg (fun q => by have := q.1; rw [e3, z_le] at this; rw [z_lt] at c1; omega), Int32.add_zero] at ih
        exact ih
      · rw [if_neg c1]
        have c1' : h.1 34361869316 i ≤ kn := by rw [z_lt] at c1; rw [z_le]; omega
        have ta : (nI a).toInt.toNat = a := by rw [z_T (by omega)]; rfl
        rw [← e2, ea, X313, zfm_ok a (by omega) b hb]
        simp only [z_bi]
        by_cases c2 : hours ≤ nI ((a + 24 - b) % 24)
        · rw [if_pos c2]
          rw [if_neg (fun q => by have := q.2; rw [ea, ta, z_lt] at this; rw [z_le] at c2; omega), Int32.add_zero] at ih
          exact ih
        · rw [if_neg c2]
          rw [if_pos ⟨by rw [e3]; exact c1', by rw [ea, ta, z_lt]; rw [z_le] at c2; omega⟩] at ih
          exact ih
  rw [T182]
  exact K l.length 0 (by omega) _
/-- the first hour of those that see most, and how many -/
def zwst (c : Nat → Nat) : Nat → Nat × Nat
  | 0 => (0, 0)
  | i + 1 => if c i ≤ (zwst c i).2 then zwst c i else (i, c i)
theorem zwst_le {c : Nat → Nat} {m : Nat} (h : ∀ i, c i ≤ m) : ∀ i, (zwst c i).1 ≤ i ∧ (zwst c i).2 ≤ m := by
  intro i
  induction i with
  | zero => exact ⟨Nat.le_refl _, Nat.zero_le _⟩
  | succ i ih =>
    unfold zwst
    split
    · exact ⟨by omega, ih.2⟩
    · exact ⟨by show i ≤ i + 1; omega, h i⟩
theorem P_watch (hours kn w : Int32) : zPr 139 304 [.inl hours, .inl kn, .inl w] := zPr_q fun d h hr => by
  obtain ⟨b0, b1, b2, b8, b5, b4, b3, V⟩ := zR_b hr
  have i0 : ∀ f : Nat → Option ai_R, ai_ix 0 4 f = f 0 := fun f => z_i0 (by decide) (by decide)
  by_cases c1 : 1 ≤ hours.toInt ∧ hours.toInt ≤ 24
  · by_cases c2 : 0 ≤ kn.toInt ∧ kn.toInt ≤ 999
    · by_cases c3 : 0 ≤ w.toInt ∧ w.toInt ≤ 1
      · obtain ⟨-, -, l3, l4⟩ := zR_led hr (k := 7) (by decide)
        have hcap : ∀ b, zdms (zsl (zMv h) 0) hours kn b ≤ 80 := fun b => Nat.le_trans (zlc_le _) (Nat.le_trans l3 l4)
        have hw := zwst_le hcap
        -- the class's hours
        have KX : ∀ k i, i + k = 24 → ∀ z7, ai_E (d + 59) 139 37 [some (.inr (.inr (31, 0, 128))), some (.inl hours), some (.inl kn), some (.inl w), some (.inl (nI (zwst (zdms (zsl (zMv h) 0) hours kn) i).1)), some (.inl (nI (zwst (zdms (zsl (zMv h) 0) hours kn) i).2)), some (.inl (nI i)), z7] [] h = some ([.inl (if w = 0 then nI (zwst (zdms (zsl (zMv h) 0) hours kn) 24).1 else nI (zwst (zdms (zsl (zMv h) 0) hours kn) 24).2)], h) := by
          intro k
          induction k with
          | zero =>
            intro i hi z7
            have hi : i = 24 := by omega
            subst hi
            rw [T139_37, if_pos (by decide)]
            by_cases q : w = 0
            · rw [if_pos q, if_pos q]
            · rw [if_neg q, if_neg q]
          | succ k ih =>
            intro i hi z7
            rw [T139_37, if_neg (by rw [show (24 : Int32) = nI 24 from rfl, nI_leI (by omega) (by omega)]; omega), X182 _ _ _ hr (by omega)]
            simp only [z_bi, nI_1]
            have hc := hcap i
            have hm := (hw i).2
            have ih := fun z => ih (i + 1) (by omega) z
            have es : zwst (zdms (zsl (zMv h) 0) hours kn) (i + 1) = if zdms (zsl (zMv h) 0) hours kn i ≤ (zwst (zdms (zsl (zMv h) 0) hours kn) i).2 then zwst (zdms (zsl (zMv h) 0) hours kn) i else (i, zdms (zsl (zMv h) 0) hours kn i) := rfl
            rw [es] at ih
            by_cases q : zdms (zsl (zMv h) 0) hours kn i ≤ (zwst (zdms (zsl (zMv h) 0) hours kn) i).2
            · rw [if_pos ((nI_leI (by omega) (by omega)).mpr q)]
              rw [if_pos q] at ih
              exact ih _
            · rw [if_neg (fun x => q ((nI_leI (by omega) (by omega)).mp x))]
              rw [if_neg q] at ih
              exact ih _
        -- the reference's count of an hour
        have KC : ∀ k i b, i + k = zn (zsl (zMv h) 0) 4 → b < 24 → ∀ x4 x5, ai_E (d + 59) 304 50 [some (.inr (.inr (32, 0, 16128))), some (.inl hours), some (.inl kn), some (.inl w), some (.inl x4), some (.inl x5), some (.inl (nI b)), some (.inl (zsm (fun e => if zsl (zMv h) 0 22 e = 7 then (fun r => if zdm b hours kn r then 1 else 0) (zrow (zsl (zMv h) 0) e) else 0) i)), some (.inl (nI i))] [] h =
            ai_E (d + 59) 304 37 [some (.inr (.inr (32, 0, 16128))), some (.inl hours), some (.inl kn), some (.inl w), some (.inl (if x5 < nI (zdms (zsl (zMv h) 0) hours kn b) then nI b else x4)), some (.inl (if x5 < nI (zdms (zsl (zMv h) 0) hours kn b) then nI (zdms (zsl (zMv h) 0) hours kn b) else x5)), some (.inl (nI (b + 1))), some (.inl (nI (zdms (zsl (zMv h) 0) hours kn b))), some (.inl (nI (zn (zsl (zMv h) 0) 4)))] [] h := by
          intro k
          induction k with
          | zero =>
            intro i b hi hb x4 x5
            have hi : i = zn (zsl (zMv h) 0) 4 := by omega
            subst hi
            have e : zsm (fun e => if zsl (zMv h) 0 22 e = 7 then (fun r => if zdm b hours kn r then 1 else 0) (zrow (zsl (zMv h) 0) e) else 0) (zn (zsl (zMv h) 0) 4) = nI (zdms (zsl (zMv h) 0) hours kn b) := (zls_led (f := fun r => if zdm b hours kn r then 1 else 0) _).symm.trans (zls_zlc _)
            rw [T304_50, i0, b4.1, if_pos (by rw [z_le]; omega), e]
            simp only [nI_1]
            by_cases q : x5 < nI (zdms (zsl (zMv h) 0) hours kn b)
            · rw [if_pos q, if_pos q, if_pos q]
            · rw [if_neg q, if_neg q, if_neg q]
          | succ k ih =>
            intro i b hi hb x4 x5
            have ih := ih (i + 1) b (by omega) hb x4 x5
            have e22 : h.1 2064407 i = zsl (zMv h) 0 22 i := (zs0 (f := 22) (by omega)).symm
            have e25 : h.1 2064410 i = zsl (zMv h) 0 25 i := (zs0 (f := 25) (by omega)).symm
            have e26 : h.1 2064411 i = zsl (zMv h) 0 26 i := (zs0 (f := 26) (by omega)).symm
            have ix : ∀ f : Nat → Option ai_R, ai_ix (nI i) 2400 f = f i := fun f => z_ix (by omega) (by decide)
            have es : zsm (fun e => if zsl (zMv h) 0 22 e = 7 then (fun r => if zdm b hours kn r then 1 else 0) (zrow (zsl (zMv h) 0) e) else 0) (i + 1) = zsm (fun e => if zsl (zMv h) 0 22 e = 7 then (fun r => if zdm b hours kn r then 1 else 0) (zrow (zsl (zMv h) 0) e) else 0) i + if zsl (zMv h) 0 22 i = 7 then (if zdm b hours kn (zrow (zsl (zMv h) 0) i) then 1 else 0) else 0 := rfl
            rw [es] at ih
            rw [T304_50, i0, b4.1, if_neg (by rw [nI_leI (by omega) (by omega)]; omega)]
            simp only [ix, nI_1, e22, e25, e26]
            by_cases q : zsl (zMv h) 0 22 i = 7
            · rw [if_pos q]
              rw [if_pos q] at ih
              have r1 : (zrow (zsl (zMv h) 0) i).2.2.2 = zsl (zMv h) 0 26 i := rfl
              have r2 : (zrow (zsl (zMv h) 0) i).2.2.1 = zsl (zMv h) 0 25 i := by
                unfold zrow
                dsimp only
                rw [q, if_neg (by decide)]
              by_cases q1 : kn < zsl (zMv h) 0 26 i
              · rw [if_pos q1]
                rw [if_neg (fun x => by have := x.1; rw [r1, z_le] at this; rw [z_lt] at q1; omega), Int32.add_zero] at ih
                exact ih
              · rw [if_neg q1, if_neg (by decide)]
                have q1' : zsl (zMv h) 0 26 i ≤ kn := by rw [z_lt] at q1; rw [z_le]; omega
                obtain ⟨a, ha, ea⟩ := z_rngI ((V.2.2.2.2.1.1 i (by omega)).2.2.2.2.2.2.2.2.2.2 q)
                have ta : (nI a).toInt.toNat = a := by rw [z_T (by omega)]; rfl
                rw [ea, zrm_ok a (by omega) b hb]
                by_cases q2 : hours ≤ nI ((a + 24 - b) % 24)
                · rw [if_pos q2]
                  rw [if_neg (fun x => by have := x.2; rw [r2, ea, ta, z_lt] at this; rw [z_le] at q2; omega), Int32.add_zero] at ih
                  exact ih
                · rw [if_neg q2]
                  rw [if_pos ⟨by rw [r1]; exact q1', by rw [r2, ea, ta, z_lt]; rw [z_le] at q2; omega⟩] at ih
                  exact ih
            · rw [if_neg q]
              rw [if_neg q, Int32.add_zero] at ih
              exact ih
        have KM : ∀ k i, i + k = 24 → 0 < i → ∀ z7 z8, ai_E (d + 59) 304 37 [some (.inr (.inr (32, 0, 16128))), some (.inl hours), some (.inl kn), some (.inl w), some (.inl (nI (zwst (zdms (zsl (zMv h) 0) hours kn) i).1)), some (.inl (nI (zwst (zdms (zsl (zMv h) 0) hours kn) i).2)), some (.inl (nI i)), z7, z8] [] h = some ([.inl (if w = 0 then nI (zwst (zdms (zsl (zMv h) 0) hours kn) 24).1 else nI (zwst (zdms (zsl (zMv h) 0) hours kn) 24).2)], h) := by
          intro k
          induction k with
          | zero =>
            intro i hi h0 z7 z8
            have hi : i = 24 := by omega
            subst hi
            rw [T304_37, if_pos (by decide)]
            by_cases q : w = 0
            · rw [if_pos q, if_pos q]
            · rw [if_neg q, if_neg q]
          | succ k ih =>
            intro i hi h0 z7 z8
            rw [T304_37, if_neg (by rw [show (24 : Int32) = nI 24 from rfl, nI_leI (by omega) (by omega)]; omega), show ai_E (d + 59) 304 50 [some (.inr (.inr (32, 0, 16128))), some (.inl hours), some (.inl kn), some (.inl w), some (.inl (nI (zwst (zdms (zsl (zMv h) 0) hours kn) i).1)), some (.inl (nI (zwst (zdms (zsl (zMv h) 0) hours kn) i).2)), some (.inl (nI i)), some (.inl 0), some (.inl 0)] [] h = _ from KC (zn (zsl (zMv h) 0) 4) 0 i (by omega) (by omega) _ _]
            have hc := hcap i
            have hm := (hw i).2
            have ih := fun z z' => ih (i + 1) (by omega) (by omega) z z'
            have es : zwst (zdms (zsl (zMv h) 0) hours kn) (i + 1) = if zdms (zsl (zMv h) 0) hours kn i ≤ (zwst (zdms (zsl (zMv h) 0) hours kn) i).2 then zwst (zdms (zsl (zMv h) 0) hours kn) i else (i, zdms (zsl (zMv h) 0) hours kn i) := rfl
            rw [es] at ih
            by_cases q : zdms (zsl (zMv h) 0) hours kn i ≤ (zwst (zdms (zsl (zMv h) 0) hours kn) i).2
            · have q' : ¬ nI (zwst (zdms (zsl (zMv h) 0) hours kn) i).2 < nI (zdms (zsl (zMv h) 0) hours kn i) := by rw [nI_ltI (by omega) (by omega)]; omega
              rw [if_neg q', if_neg q']
              rw [if_pos q] at ih
              exact ih _ _
            · have q' : nI (zwst (zdms (zsl (zMv h) 0) hours kn) i).2 < nI (zdms (zsl (zMv h) 0) hours kn i) := by rw [nI_ltI (by omega) (by omega)]; omega
              rw [if_pos q', if_pos q']
              rw [if_neg q] at ih
              exact ih _ _
        refine ⟨if w = 0 then nI (zwst (zdms (zsl (zMv h) 0) hours kn) 24).1 else nI (zwst (zdms (zsl (zMv h) 0) hours kn) 24).2, h, h, ?_, zF_rf, ?_, zF_rf⟩
        · rw [T139]
          simp only [z_lt, zl0, zl1, zl2, zl3, zl4, zl5, zl6, zl7, zl8, zl9, zl10, zl12, zl15, zl16, zl20, zl22, zl23, zl24, zl27, zl30, zl31, zl32, zl40, zl46, zl48, zl50, zl57, zl59, zl60, zl61, zl62, zl63, zl80, zl96, zl97, zl99, zl100, zl122, zl255, zl360, zl500, zl999, zl9999, zl60000, zl99999, zl16777215, zl1073741824, zlm1, zlm2, zlm3]
          rw [if_neg (by omega), if_neg (by omega), X147]
          simp only [z_bi, zb_0]
          rw [if_neg (fun q => q c2), X146]
          simp only [z_bi, zb_0, zl0, zl1, zl2, zl3, zl4, zl5, zl6, zl7, zl8, zl9, zl10, zl12, zl15, zl16, zl20, zl22, zl23, zl24, zl27, zl30, zl31, zl32, zl40, zl46, zl48, zl50, zl57, zl59, zl60, zl61, zl62, zl63, zl80, zl96, zl97, zl99, zl100, zl122, zl255, zl360, zl500, zl999, zl9999, zl60000, zl99999, zl16777215, zl1073741824, zlm1, zlm2, zlm3]
          rw [if_neg (fun q => q c3)]
          exact KX 24 0 (by omega) none
        · rw [T304, M186]
          simp only [z_bi, zb_0, zl0, zl1, zl2, zl3, zl4, zl5, zl6, zl7, zl8, zl9, zl10, zl12, zl15, zl16, zl20, zl22, zl23, zl24, zl27, zl30, zl31, zl32, zl40, zl46, zl48, zl50, zl57, zl59, zl60, zl61, zl62, zl63, zl80, zl96, zl97, zl99, zl100, zl122, zl255, zl360, zl500, zl999, zl9999, zl60000, zl99999, zl16777215, zl1073741824, zlm1, zlm2, zlm3]
          rw [if_neg (fun q => q c1), M187]
          simp only [z_bi, zb_0]
          rw [if_neg (fun q => q c2), M186]
          simp only [z_bi, zb_0, zl0, zl1, zl2, zl3, zl4, zl5, zl6, zl7, zl8, zl9, zl10, zl12, zl15, zl16, zl20, zl22, zl23, zl24, zl27, zl30, zl31, zl32, zl40, zl46, zl48, zl50, zl57, zl59, zl60, zl61, zl62, zl63, zl80, zl96, zl97, zl99, zl100, zl122, zl255, zl360, zl500, zl999, zl9999, zl60000, zl99999, zl16777215, zl1073741824, zlm1, zlm2, zlm3]
          rw [if_neg (fun q => q c3), T304_37, if_neg (by decide), show ai_E (d + 59) 304 50 [some (.inr (.inr (32, 0, 16128))), some (.inl hours), some (.inl kn), some (.inl w), some (.inl 0), some (.inl (-1)), some (.inl 0), some (.inl 0), some (.inl 0)] [] h = _ from KC (zn (zsl (zMv h) 0) 4) 0 0 (by omega) (by omega) 0 (-1)]
          have hc := hcap 0
          have q' : (-1 : Int32) < nI (zdms (zsl (zMv h) 0) hours kn 0) := by rw [z_lt, z_T (by omega)]; simp only [zl0, zl1, zl2, zl3, zl4, zl5, zl6, zl7, zl8, zl9, zl10, zl12, zl15, zl16, zl20, zl22, zl23, zl24, zl27, zl30, zl31, zl32, zl40, zl46, zl48, zl50, zl57, zl59, zl60, zl61, zl62, zl63, zl80, zl96, zl97, zl99, zl100, zl122, zl255, zl360, zl500, zl999, zl9999, zl60000, zl99999, zl16777215, zl1073741824, zlm1, zlm2, zlm3]; omega
          rw [if_pos q', if_pos q']
          have e1 : zwst (zdms (zsl (zMv h) 0) hours kn) 1 = (0, zdms (zsl (zMv h) 0) hours kn 0) := by
            show (if zdms (zsl (zMv h) 0) hours kn 0 ≤ 0 then ((0, 0) : Nat × Nat) else (0, zdms (zsl (zMv h) 0) hours kn 0)) = _
            by_cases q : zdms (zsl (zMv h) 0) hours kn 0 ≤ 0
            · rw [if_pos q, show zdms (zsl (zMv h) 0) hours kn 0 = 0 by omega]
            · rw [if_neg q]
          have := fun z7 z8 => KM 23 1 (by omega) (by omega) z7 z8
          rw [e1] at this
          exact this _ _
      · refine ⟨-1, h, h, ?_, zF_rf, ?_, zF_rf⟩
        · rw [T139]
          simp only [z_lt, zl0, zl1, zl2, zl3, zl4, zl5, zl6, zl7, zl8, zl9, zl10, zl12, zl15, zl16, zl20, zl22, zl23, zl24, zl27, zl30, zl31, zl32, zl40, zl46, zl48, zl50, zl57, zl59, zl60, zl61, zl62, zl63, zl80, zl96, zl97, zl99, zl100, zl122, zl255, zl360, zl500, zl999, zl9999, zl60000, zl99999, zl16777215, zl1073741824, zlm1, zlm2, zlm3]
          rw [if_neg (by omega), if_neg (by omega), X147]
          simp only [z_bi, zb_0]
          rw [if_neg (fun q => q c2), X146]
          simp only [z_bi, zb_0, zl0, zl1, zl2, zl3, zl4, zl5, zl6, zl7, zl8, zl9, zl10, zl12, zl15, zl16, zl20, zl22, zl23, zl24, zl27, zl30, zl31, zl32, zl40, zl46, zl48, zl50, zl57, zl59, zl60, zl61, zl62, zl63, zl80, zl96, zl97, zl99, zl100, zl122, zl255, zl360, zl500, zl999, zl9999, zl60000, zl99999, zl16777215, zl1073741824, zlm1, zlm2, zlm3]
          rw [if_pos c3]
        · rw [T304, M186]
          simp only [z_bi, zb_0, zl0, zl1, zl2, zl3, zl4, zl5, zl6, zl7, zl8, zl9, zl10, zl12, zl15, zl16, zl20, zl22, zl23, zl24, zl27, zl30, zl31, zl32, zl40, zl46, zl48, zl50, zl57, zl59, zl60, zl61, zl62, zl63, zl80, zl96, zl97, zl99, zl100, zl122, zl255, zl360, zl500, zl999, zl9999, zl60000, zl99999, zl16777215, zl1073741824, zlm1, zlm2, zlm3]
          rw [if_neg (fun q => q c1), M187]
          simp only [z_bi, zb_0]
          rw [if_neg (fun q => q c2), M186]
          simp only [z_bi, zb_0, zl0, zl1, zl2, zl3, zl4, zl5, zl6, zl7, zl8, zl9, zl10, zl12, zl15, zl16, zl20, zl22, zl23, zl24, zl27, zl30, zl31, zl32, zl40, zl46, zl48, zl50, zl57, zl59, zl60, zl61, zl62, zl63, zl80, zl96, zl97, zl99, zl100, zl122, zl255, zl360, zl500, zl999, zl9999, zl60000, zl99999, zl16777215, zl1073741824, zlm1, zlm2, zlm3]
          rw [if_pos c3]
    · refine ⟨-1, h, h, ?_, zF_rf, ?_, zF_rf⟩
      · rw [T139]
        simp only [z_lt, zl0, zl1, zl2, zl3, zl4, zl5, zl6, zl7, zl8, zl9, zl10, zl12, zl15, zl16, zl20, zl22, zl23, zl24, zl27, zl30, zl31, zl32, zl40, zl46, zl48, zl50, zl57, zl59, zl60, zl61, zl62, zl63, zl80, zl96, zl97, zl99, zl100, zl122, zl255, zl360, zl500, zl999, zl9999, zl60000, zl99999, zl16777215, zl1073741824, zlm1, zlm2, zlm3]
        rw [if_neg (by omega), if_neg (by omega), X147]
        simp only [z_bi, zb_0]
        rw [if_pos c2]
      · rw [T304, M186]
        simp only [z_bi, zb_0, zl0, zl1, zl2, zl3, zl4, zl5, zl6, zl7, zl8, zl9, zl10, zl12, zl15, zl16, zl20, zl22, zl23, zl24, zl27, zl30, zl31, zl32, zl40, zl46, zl48, zl50, zl57, zl59, zl60, zl61, zl62, zl63, zl80, zl96, zl97, zl99, zl100, zl122, zl255, zl360, zl500, zl999, zl9999, zl60000, zl99999, zl16777215, zl1073741824, zlm1, zlm2, zlm3]
        rw [if_neg (fun q => q c1), M187]
        simp only [z_bi, zb_0]
        rw [if_pos c2]
  · refine ⟨-1, h, h, ?_, zF_rf, ?_, zF_rf⟩
    · rw [T139]
      simp only [z_lt, zl0, zl1, zl2, zl3, zl4, zl5, zl6, zl7, zl8, zl9, zl10, zl12, zl15, zl16, zl20, zl22, zl23, zl24, zl27, zl30, zl31, zl32, zl40, zl46, zl48, zl50, zl57, zl59, zl60, zl61, zl62, zl63, zl80, zl96, zl97, zl99, zl100, zl122, zl255, zl360, zl500, zl999, zl9999, zl60000, zl99999, zl16777215, zl1073741824, zlm1, zlm2, zlm3]
      by_cases q : hours.toInt < 1
      · rw [if_pos q]
      · rw [if_neg q, if_pos (by omega)]
    · rw [T304, M186]
      simp only [z_bi, zb_0, zl0, zl1, zl2, zl3, zl4, zl5, zl6, zl7, zl8, zl9, zl10, zl12, zl15, zl16, zl20, zl22, zl23, zl24, zl27, zl30, zl31, zl32, zl40, zl46, zl48, zl50, zl57, zl59, zl60, zl61, zl62, zl63, zl80, zl96, zl97, zl99, zl100, zl122, zl255, zl360, zl500, zl999, zl9999, zl60000, zl99999, zl16777215, zl1073741824, zlm1, zlm2, zlm3]
      rw [if_pos c1]
