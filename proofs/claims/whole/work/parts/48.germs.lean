/-! germs -/
theorem zab_tb {σ : Nat → Nat → Int32} {i : Nat} (b : Nat) (h2 : ∀ j, j ≤ i → σ 10 j = -1 ∨ zi (σ 10 j) 0 ((j : Int) - 1)) : (zab σ i).testBit b = (decide (i = b) || (!decide (σ 10 i = -1) && (zab σ (σ 10 i).toInt.toNat).testBit b)) := by
  have e0 : zab σ i = if σ 10 i = -1 then 2 ^ i else 2 ^ i ||| zabF σ i (σ 10 i).toInt.toNat := rfl
  rw [e0]
  by_cases e : σ 10 i = -1
  · rw [if_pos e, Nat.testBit_two_pow]
    simp [e]
  · have h3 := h2 i (Nat.le_refl _)
    unfold zi at h3
    have h4 : (σ 10 i).toInt.toNat < i := by
      rcases h3 with h3 | h3
      · exact absurd h3 e
      · omega
    rw [if_neg e, zabF_k _ _ h4 (fun j hj => h2 j (by omega)), Nat.testBit_or, Nat.testBit_two_pow]
    simp [e]
theorem M269 {h : ai_H} {b : Nat} (d : Nat) (hr : zR h) (hb : b < 30000) : ∀ a, a < zn (zsl (zMv h) 0) 0 → ai_X (d + 1) 269 [.inr (.inr (32, 0, 16128)), .inl (nI a), .inl (nI b)] h = some ([.inl (zb ((zab (zsl (zMv h) 0) a).testBit b = true))], h) := by
  obtain ⟨b0, b1, b2, b8, b5, b4, b3, V⟩ := zR_b hr
  have K : ∀ a, a < zn (zsl (zMv h) 0) 0 → ∀ z1, ai_E d 269 2 [some (.inr (.inr (32, 0, 16128))), z1, some (.inl (nI b)), some (.inl (nI a))] [] h = some ([.inl (zb ((zab (zsl (zMv h) 0) a).testBit b = true))], h) := by
    intro a
    induction a using Nat.strongRecOn with
    | ind a ih =>
      intro ha z1
      have e10 : h.1 2064395 a = zsl (zMv h) 0 10 a := (zs0 (f := 10) (by omega)).symm
      have et := zab_tb (σ := zsl (zMv h) 0) (i := a) b (fun j hj => V.2.1 j (by omega))
      rw [T269_2, if_neg (nI_pos (by omega)), z_ix (by omega) (by decide), e10, z_b1]
      by_cases c : nI a = nI b
      · rw [if_pos c]
        rw [nI_eq (by omega) (by omega)] at c
        rw [zb_t (by rw [et, c]; simp)]
      · rw [if_neg c]
        rw [nI_eq (by omega) (by omega)] at c
        rcases V.2.1 a ha with g | g
        · rw [g, T269_2, if_pos (by decide), z_b0, zb_f (by rw [et, g]; simp [c])]
        · unfold zi at g
          have e : zsl (zMv h) 0 10 a = nI (zsl (zMv h) 0 10 a).toInt.toNat := z_nat g.1
          have n1 : ¬ zsl (zMv h) 0 10 a = -1 := by
            rw [z_eq]
            simp only [zl0, zl1, zl2, zl3, zl4, zl5, zl6, zl7, zl8, zl9, zl10, zl12, zl15, zl16, zl20, zl22, zl23, zl24, zl27, zl30, zl31, zl32, zl40, zl46, zl48, zl50, zl57, zl59, zl60, zl61, zl62, zl63, zl80, zl96, zl97, zl99, zl100, zl122, zl255, zl360, zl500, zl999, zl9999, zl60000, zl99999, zl16777215, zl1073741824, zlm1, zlm2, zlm3]
            omega
          have et2 : (zab (zsl (zMv h) 0) a).testBit b = (zab (zsl (zMv h) 0) (zsl (zMv h) 0 10 a).toInt.toNat).testBit b := by
            rw [et]
            simp [c, n1]
          have q := ih (zsl (zMv h) 0 10 a).toInt.toNat (by omega) (by omega) z1
          rw [← e] at q
          rw [q, et2]
  intro a ha
  rw [T269]
  exact K a ha _
/-- a tap's node -/
abbrev znd (σ : Nat → Nat → Int32) (t : Nat) : Nat := (σ 11 t).toInt.toNat
theorem z_nd {h : ai_H} {t : Nat} (hr : zR h) (ht : t < zn (zsl (zMv h) 0) 1) : znd (zsl (zMv h) 0) t < zn (zsl (zMv h) 0) 0 ∧ zsl (zMv h) 0 11 t = nI (znd (zsl (zMv h) 0) t) ∧ h.1 268451977 t = nI (znd (zsl (zMv h) 0) t) ∧ h.1 2064396 t = nI (znd (zsl (zMv h) 0) t) ∧ h.1 268451976 (znd (zsl (zMv h) 0) t) = nI (zab (zsl (zMv h) 0) (znd (zsl (zMv h) 0) t)) ∧ zab (zsl (zMv h) 0) (znd (zsl (zMv h) 0) t) < 2147483648 := by
  obtain ⟨b0, b1, b2, b8, b5, b4, b3, V⟩ := zR_b hr
  have hC : zC h 2097281 (zsl (zMv h) 0) := hr.1.1.1
  obtain ⟨v1, -⟩ := V.2.2.1 t ht
  unfold zi at v1
  have e : zsl (zMv h) 0 11 t = nI (znd (zsl (zMv h) 0) t) := z_nat v1.1
  have l : znd (zsl (zMv h) 0) t < zn (zsl (zMv h) 0) 0 := by unfold znd; omega
  refine ⟨l, e, ?_, ?_, (hC.2.2.2.2.2.2.1 _ l).2, ?_⟩
  · exact (show h.1 268451977 t = zsl (zMv h) 0 11 t from (hC.2.2.2.2.2.2.2.1 t ht).1).trans e
  · exact ((zs0 (f := 11) (by omega)).symm).trans e
  · exact zp31 (zab_lt (fun j hj => V.2.1 j (by omega))) (by omega)
theorem X5 {h : ai_H} {t : Nat} (d : Nat) (hr : zR h) (ht : t < zn (zsl (zMv h) 0) 1) : ai_X (d + 1) 5 [.inr (.inr (20, 0, 2097281)), .inl (nI t)] h = some ([.inl (nI (zab (zsl (zMv h) 0) (znd (zsl (zMv h) 0) t)))], h) := by
  obtain ⟨b0, b1, b2, b8, b5, b4, b3, V⟩ := zR_b hr
  obtain ⟨n1, n2, n3, n4, n5, n6⟩ := z_nd hr ht
  rw [T5, z_ix (by omega) (by decide), n3, z_ix (by omega) (by decide), n5]
/-- masks -/
theorem zB_and {n w : Nat} {b : Nat → Bool} : nI (zB (fun i => b i = true) n) &&& nI w = nI (zB (fun i => (b i && w.testBit i) = true) n) := by
  rw [z_and]
  congr 1
  apply Nat.eq_of_testBit_eq
  intro i
  rw [Nat.testBit_and, zB_tb, zB_tb]
  by_cases c : i < n <;> cases b i <;> simp [c]
theorem zB_andn {n w : Nat} {b : Nat → Bool} (hn : n ≤ 31) (hw : w < 2147483648) : nI (zB (fun i => b i = true) n) &&& (nI w ^^^ (-1)) = nI (zB (fun i => (b i && !w.testBit i) = true) n) := by
  obtain ⟨c, c1, c2, c3⟩ := z_andn (zB_31 (p := fun i => b i = true) hn) hw
  rw [c1]
  congr 1
  apply Nat.eq_of_testBit_eq
  intro i
  rw [c3, zB_tb, zB_tb]
  by_cases c : i < n <;> cases b i <;> simp [c]
theorem zB_all (n : Nat) : zB (fun i => (fun _ => true : Nat → Bool) i = true) n = 2 ^ n - 1 := by
  apply Nat.eq_of_testBit_eq
  intro i
  rw [zB_tb, Nat.testBit_two_pow_sub_one]
  simp
theorem z_full {n : Nat} (hn : n < 31) : (1 : Int32) <<< (nI n &&& 31) - 1 = nI (zB (fun i => (fun _ => true : Nat → Bool) i = true) n) := by
  obtain ⟨k, hk⟩ : ∃ k, 2 ^ n = k + 1 := ⟨2 ^ n - 1, by have := Nat.two_pow_pos n; omega⟩
  rw [zB_all, z_bit hn, hk, nI_pred]
  rfl
def zall (g : Nat → Nat → Bool) : Nat → Nat → Bool
  | 0, _ => true
  | e + 1, x => zall g e x && g e x
def zany (g : Nat → Bool) : Nat → Bool
  | 0 => false
  | e + 1 => zany g e || g e
theorem zall_p {g : Nat → Nat → Bool} {x : Nat} : ∀ {n}, zall g n x = true ↔ ∀ e, e < n → g e x = true := by
  intro n
  induction n with
  | zero => exact ⟨fun _ e he => by omega, fun _ => rfl⟩
  | succ n ih =>
    unfold zall
    rw [Bool.and_eq_true, ih]
    constructor
    · rintro ⟨a, b⟩ e he
      rcases Nat.lt_or_ge e n with c | c
      · exact a e c
      · have : e = n := by omega
        rw [this]
        exact b
    · intro a
      exact ⟨fun e he => a e (by omega), a n (by omega)⟩
theorem zany_p {g : Nat → Bool} : ∀ {n}, zany g n = true ↔ ∃ e, e < n ∧ g e = true := by
  intro n
  induction n with
  | zero => exact ⟨fun q => (by cases q), fun ⟨e, he, _⟩ => by omega⟩
  | succ n ih =>
    unfold zany
    rw [Bool.or_eq_true, ih]
    constructor
    · rintro (⟨e, a, b⟩ | b)
      · exact ⟨e, by omega, b⟩
      · exact ⟨n, by omega, b⟩
    · rintro ⟨e, a, b⟩
      rcases Nat.lt_or_ge e n with c | c
      · exact Or.inl ⟨e, c, b⟩
      · have : e = n := by omega
        rw [this] at b
        exact Or.inr b
/-- is a node still possible by a row; did germs come -/
def zgb (σ : Nat → Nat → Int32) (f t kn : Int32) (r : zR4) (i : Nat) : Bool := !decide (zsp f t kn r) || ((zab σ (znd σ r.1.toInt.toNat)).testBit i == !decide (r.2.2.1 = 0))
def zge (f t kn : Int32) (r : zR4) : Bool := decide (zsp f t kn r) && !decide (r.2.2.1 = 0)
theorem zbqd {a b : Bool} : (a == b) = decide (a = b) := by cases a <;> cases b <;> rfl
theorem zbq_f {b : Bool} : (b == false) = !b := by cases b <;> rfl
theorem zbq_t {b : Bool} : (b == true) = b := by cases b <;> rfl
theorem zb_or1 {b : Bool} : zb (b = true) ||| 1 = zb ((b || true) = true) := by cases b <;> decide
theorem zb_or0 {b : Bool} : zb (b = true) ||| 0 = zb ((b || false) = true) := by cases b <;> decide
theorem P_germs (dd w kn : Int32) : zPr 125 270 [.inl dd, .inl w, .inl kn] := zPr_q fun d h hr => by
  obtain ⟨b0, b1, b2, b8, b5, b4, b3, V⟩ := zR_b hr
  have i0 : ∀ f : Nat → Option ai_R, ai_ix 0 4 f = f 0 := fun f => z_i0 (by decide) (by decide)
  by_cases c : 0 ≤ dd.toInt ∧ dd.toInt ≤ 999
  · by_cases c1 : 1 ≤ w.toInt ∧ w.toInt ≤ 60
    · by_cases c2 : 0 ≤ kn.toInt ∧ kn.toInt ≤ 999
      · obtain ⟨l1, lk, l3, l4⟩ := zR_led hr (k := 2) (by decide)
        obtain ⟨k0, k1, k2, k3⟩ := id lk
        have k0' : (h.2.2.2.1 34361868673).2 = zmost 2 := k0
        have k2' : (h.2.2.2.1 34361868675).2 = zmost 2 := k2
        have hwho : ∀ r ∈ zled (zsl (zMv h) 0) (nI 2) (zn (zsl (zMv h) 0) 4), 0 ≤ r.1.toInt ∧ r.1.toInt < (zn (zsl (zMv h) 0) 1 : Int) := by
          intro r hm
          obtain ⟨e, he, h1, rfl⟩ := zled_mem.mp hm
          obtain ⟨a1, a2, a3, a4, a5, a6, a7, a8, a9⟩ := V.2.2.2.2.1.1 e he
          exact ⟨a5, a8 (by rw [h1]; decide) (by rw [h1]; decide) (by rw [h1]; decide)⟩
        have emem := @zled_mem (zsl (zMv h) 0) (nI 2)
        have emem := fun r => @emem r (zn (zsl (zMv h) 0) 4)
        generalize zled (zsl (zMv h) 0) (nI 2) (zn (zsl (zMv h) 0) 4) = l at *
        have KX : ∀ k i, i + k = l.length → ∀ z8 z9, ai_E (d + 59) 125 61 [some (.inr (.inr (31, 0, 128))), some (.inl dd), some (.inl w), some (.inl kn), some (.inr (.inr (25, 0, 268452099))), some (.inl (nI (zB (fun x => zall (fun i => zgb (zsl (zMv h) 0) (dd - w + 1) dd kn (l.getD i zrN)) i x = true) (zn (zsl (zMv h) 0) 0)))), some (.inl (zb (zany (fun i => zge (dd - w + 1) dd kn (l.getD i zrN)) i = true))), some (.inl (nI i)), z8, z9] [] h =
            some ([.inl (if zany (fun i => zge (dd - w + 1) dd kn (l.getD i zrN)) l.length = true then nI (zB (fun x => zall (fun i => zgb (zsl (zMv h) 0) (dd - w + 1) dd kn (l.getD i zrN)) l.length x = true) (zn (zsl (zMv h) 0) 0)) else 0)], h) := by
          intro k
          induction k with
          | zero =>
            intro i hi z8 z9
            have hi : i = l.length := by omega
            subst hi
            rw [T125_61, show h.1 268452099 4 = nI l.length from l1.1, if_pos (by rw [z_le]; omega)]
            simp only [zb_0]
            by_cases q : zany (fun i => zge (dd - w + 1) dd kn (l.getD i zrN)) l.length = true
            · rw [if_neg (fun x => x q), if_pos q]
            · rw [if_pos q, if_neg q]
          | succ k ih =>
            intro i hi z8 z9
            have ih := fun z8 z9 => ih (i + 1) (by omega) z8 z9
            have er := zL_row l1 (i := i) (by omega)
            have e0 : (l.getD i zrN).1 = h.1 34361868673 i := by rw [er]; rfl
            have e2 : (l.getD i zrN).2.2.1 = h.1 34361868675 i := by rw [er]; rfl
            obtain ⟨t, ht, et⟩ := z_rng (hwho _ (z_mem (l := l) (i := i) (by omega)))
            have ix : ∀ f : Nat → Option ai_R, ai_ix (nI i) (zmost 2) f = f i := fun f => z_ix (by omega) (by omega)
            have g1 : ∀ x, zall (fun i => zgb (zsl (zMv h) 0) (dd - w + 1) dd kn (l.getD i zrN)) (i + 1) x = (zall (fun i => zgb (zsl (zMv h) 0) (dd - w + 1) dd kn (l.getD i zrN)) i x && zgb (zsl (zMv h) 0) (dd - w + 1) dd kn (l.getD i zrN) x) := fun x => rfl
            have g2 : zany (fun i => zge (dd - w + 1) dd kn (l.getD i zrN)) (i + 1) = (zany (fun i => zge (dd - w + 1) dd kn (l.getD i zrN)) i || zge (dd - w + 1) dd kn (l.getD i zrN)) := rfl
            simp only [g1, g2] at ih
            rw [T125_61, show h.1 268452099 4 = nI l.length from l1.1, if_neg (by rw [nI_leI (by omega) (by omega)]; omega), show ai_X (d + 59) 38 [.inr (.inr (25, 0, 268452099)), .inl (nI i), .inl (dd - w + 1), .inl dd, .inl kn] h = _ from X38 (d + 58) (dd - w + 1) dd kn l1 lk l3 (by omega) (by omega)]
            simp only [z_bi, zb_0, nI_1, k0', k2', ix, ← e0, ← e2]
            by_cases q : zsp (dd - w + 1) dd kn (l.getD i zrN)
            · rw [if_neg (fun x => x q), et, X5 _ hr ht]
              simp only [z_bi, k2', ix, ← e2, if_true]
              have em : ∀ x, zgb (zsl (zMv h) 0) (dd - w + 1) dd kn (l.getD i zrN) x = ((zab (zsl (zMv h) 0) (znd (zsl (zMv h) 0) t)).testBit x == !decide ((l.getD i zrN).2.2.1 = 0)) := by
                intro x
                unfold zgb
                rw [decide_eq_true q, et, z_T (by omega)]
                rfl
              have ee : zge (dd - w + 1) dd kn (l.getD i zrN) = !decide ((l.getD i zrN).2.2.1 = 0) := by
                unfold zge
                rw [decide_eq_true q]
                rfl
              simp only [em, ee] at ih
              have n6 := (z_nd hr ht).2.2.2.2.2
              by_cases q2 : (l.getD i zrN).2.2.1 = 0
              · rw [if_pos q2, T125_142, zB_andn (by omega) n6, nI_1]
                simp only [q2, decide_true, Bool.not_true, zbq_f] at ih
                obtain ⟨bz, hbz⟩ : ∃ b, zany (fun i => zge (dd - w + 1) dd kn (l.getD i zrN)) i = b := ⟨_, rfl⟩
                rw [hbz] at ih ⊢
                cases bz with
                | false =>
                  rw [if_pos (show zb (false = true) = 0 by decide), if_pos (show (0 : Int32) = 0 from rfl)]
                  exact ih _ _
                | true =>
                  rw [if_neg (show ¬ zb (true = true) = 0 by decide)]
                  exact ih _ _
              · rw [if_neg q2, if_neg (by decide), T125_142, zB_and, nI_1]
                simp only [decide_eq_false q2, Bool.not_false, zbq_t] at ih
                obtain ⟨bz, hbz⟩ : ∃ b, zany (fun i => zge (dd - w + 1) dd kn (l.getD i zrN)) i = b := ⟨_, rfl⟩
                rw [hbz] at ih ⊢
                cases bz with
                | false =>
                  rw [if_pos (show zb (false = true) = 0 by decide), if_neg (show ¬ (1 : Int32) = 0 by decide)]
                  exact ih _ _
                | true =>
                  rw [if_neg (show ¬ zb (true = true) = 0 by decide)]
                  exact ih _ _
            · rw [if_pos q]
              have em : ∀ x, zgb (zsl (zMv h) 0) (dd - w + 1) dd kn (l.getD i zrN) x = true := by
                intro x
                unfold zgb
                rw [decide_eq_false q]
                rfl
              have ee : zge (dd - w + 1) dd kn (l.getD i zrN) = false := by
                unfold zge
                rw [decide_eq_false q]
                rfl
              simp only [em, ee, Bool.and_true, Bool.or_false] at ih
              exact ih _ _
        -- the reference's nodes
        have KI : ∀ e, e < zn (zsl (zMv h) 0) 4 → zsl (zMv h) 0 22 e = 2 → ∀ (b : Bool) (x5 : Int32), ∀ k x, x + k = zn (zsl (zMv h) 0) 0 → ∀ A, A < 2147483648 → ∃ C, ai_E (d + 59) 270 127 [some (.inr (.inr (32, 0, 16128))), some (.inl dd), some (.inl w), some (.inl kn), some (.inl (nI A)), some (.inl x5), some (.inl (nI e)), some (.inl (zb (b = true))), some (.inl (nI x))] [] h = ai_E (d + 59) 270 44 [some (.inr (.inr (32, 0, 16128))), some (.inl dd), some (.inl w), some (.inl kn), some (.inl (nI C)), some (.inl x5), some (.inl (nI (e + 1))), some (.inl (zb (b = true))), some (.inl (nI (zn (zsl (zMv h) 0) 0)))] [] h ∧ C < 2147483648 ∧
            ∀ y, C.testBit y = (A.testBit y && (decide (y < x) || decide (zn (zsl (zMv h) 0) 0 ≤ y) || ((zab (zsl (zMv h) 0) (znd (zsl (zMv h) 0) (zsl (zMv h) 0 23 e).toInt.toNat)).testBit y == b))) := by
          intro e he ek b x5
          have v := V.2.2.2.2.1.1 e he
          obtain ⟨a1, a2, a3, a4, a5, a6, a7, a8, a9⟩ := v
          have a8 := a8 (by rw [ek]; decide) (by rw [ek]; decide) (by rw [ek]; decide)
          obtain ⟨t, ht, et⟩ := z_rng ⟨a5, a8⟩
          rw [et, z_T (by omega), Int.toNat_natCast]
          have e23 : h.1 2064408 e = nI t := ((zs0 (f := 23) (by omega)).symm).trans et
          have n6 := z_nd hr ht
          have ix : ∀ f : Nat → Option ai_R, ai_ix (nI e) 2400 f = f e := fun f => z_ix (by omega) (by decide)
          intro k
          induction k with
          | zero =>
            intro x hx A hA
            have hx : x = zn (zsl (zMv h) 0) 0 := by omega
            subst hx
            refine ⟨A, ?_, hA, fun y => ?_⟩
            · rw [T270_127, i0, b0.2.1, if_pos (by rw [z_le]; omega)]
              simp only [nI_1]
            · by_cases g : y < zn (zsl (zMv h) 0) 0
              · simp [g]
              · simp [g, show zn (zsl (zMv h) 0) 0 ≤ y by omega]
          | succ k ih =>
            intro x hx A hA
            have xx : ¬ (decide (x < x) = true) := by simp
            rw [T270_127, i0, b0.2.1, if_neg (by rw [nI_leI (by omega) (by omega)]; omega), ix, e23, z_ix (show t < 96 by omega) (by decide), n6.2.2.2.1, M269 _ hr (by omega) _ n6.1]
            simp only [z_bi, nI_1]
            by_cases g : (zab (zsl (zMv h) 0) (znd (zsl (zMv h) 0) t)).testBit x = b
            · obtain ⟨C, q1, q2, q3⟩ := ih (x + 1) (by omega) A hA
              refine ⟨C, ?_, q2, fun y => ?_⟩
              · rw [if_pos (by rw [g])]
                exact q1
              · rw [q3 y]
                by_cases g2 : y = x
                · rw [g2, g]
                  simp
                · have : (y < x + 1) ↔ y < x := by omega
                  simp only [this]
            · have g3 : ¬ zb ((zab (zsl (zMv h) 0) (znd (zsl (zMv h) 0) t)).testBit x = true) = zb (b = true) := by
                revert g
                cases (zab (zsl (zMv h) 0) (znd (zsl (zMv h) 0) t)).testBit x <;> cases b <;> decide
              obtain ⟨A1, q1, q2, q3⟩ := z_andn (a := A) (b := 2 ^ x) hA (Nat.lt_of_lt_of_le (Nat.pow_lt_pow_right (by decide) (show x < 24 by omega)) (by decide))
              obtain ⟨C, r1, r2, r3⟩ := ih (x + 1) (by omega) A1 (by omega)
              refine ⟨C, ?_, r2, fun y => ?_⟩
              · rw [if_neg g3, z_bit (by omega), q1]
                exact r1
              · rw [r3 y, q3 y, Nat.testBit_two_pow]
                by_cases g2 : y = x
                · have g4 : ((zab (zsl (zMv h) 0) (znd (zsl (zMv h) 0) t)).testBit x == b) = false := by
                    revert g
                    cases (zab (zsl (zMv h) 0) (znd (zsl (zMv h) 0) t)).testBit x <;> cases b <;> decide
                  rw [g2, g4]
                  simp [show ¬ zn (zsl (zMv h) 0) 0 ≤ x by omega]
                · have : (y < x + 1) ↔ y < x := by omega
                  have g5 : ¬ x = y := fun q => g2 q.symm
                  simp [this, g5]
        have KM : ∀ R, R = (some ([.inl (if zany (fun e => decide (zsl (zMv h) 0 22 e = 2) && zge (dd - w + 1) dd kn (zrow (zsl (zMv h) 0) e)) (zn (zsl (zMv h) 0) 4) = true then nI (zB (fun x => zall (fun e x => !decide (zsl (zMv h) 0 22 e = 2) || zgb (zsl (zMv h) 0) (dd - w + 1) dd kn (zrow (zsl (zMv h) 0) e) x) (zn (zsl (zMv h) 0) 4) x = true) (zn (zsl (zMv h) 0) 0)) else 0)], h) : Option ai_R) → ∀ k i, i + k = zn (zsl (zMv h) 0) 4 → ∀ z7 z8, ai_E (d + 59) 270 44 [some (.inr (.inr (32, 0, 16128))), some (.inl dd), some (.inl w), some (.inl kn), some (.inl (nI (zB (fun x => zall (fun e x => !decide (zsl (zMv h) 0 22 e = 2) || zgb (zsl (zMv h) 0) (dd - w + 1) dd kn (zrow (zsl (zMv h) 0) e) x) i x = true) (zn (zsl (zMv h) 0) 0)))), some (.inl (zb (zany (fun e => decide (zsl (zMv h) 0 22 e = 2) && zge (dd - w + 1) dd kn (zrow (zsl (zMv h) 0) e)) i = true))), some (.inl (nI i)), z7, z8] [] h =
            R := by
          intro R hR k
          induction k with
          | zero =>
            intro i hi z7 z8
            have hi : i = zn (zsl (zMv h) 0) 4 := by omega
            subst hi
            rw [hR, T270_44, i0, b4.1, if_pos (by rw [z_le]; omega)]
            simp only [zb_0]
            by_cases q : zany (fun e => decide (zsl (zMv h) 0 22 e = 2) && zge (dd - w + 1) dd kn (zrow (zsl (zMv h) 0) e)) (zn (zsl (zMv h) 0) 4) = true
            · rw [if_neg (fun x => x q), if_pos q]
            · rw [if_pos q, if_neg q]
          | succ k ih =>
            intro i hi z7 z8
            have ih := fun z7 z8 => ih (i + 1) (by omega) z7 z8
            have e22 : h.1 2064407 i = zsl (zMv h) 0 22 i := (zs0 (f := 22) (by omega)).symm
            have e24 : h.1 2064409 i = zsl (zMv h) 0 24 i := (zs0 (f := 24) (by omega)).symm
            have e25 : h.1 2064410 i = zsl (zMv h) 0 25 i := (zs0 (f := 25) (by omega)).symm
            have e26 : h.1 2064411 i = zsl (zMv h) 0 26 i := (zs0 (f := 26) (by omega)).symm
            have ix : ∀ f : Nat → Option ai_R, ai_ix (nI i) 2400 f = f i := fun f => z_ix (by omega) (by decide)
            have g1 : ∀ x, zall (fun e x => !decide (zsl (zMv h) 0 22 e = 2) || zgb (zsl (zMv h) 0) (dd - w + 1) dd kn (zrow (zsl (zMv h) 0) e) x) (i + 1) x = (zall (fun e x => !decide (zsl (zMv h) 0 22 e = 2) || zgb (zsl (zMv h) 0) (dd - w + 1) dd kn (zrow (zsl (zMv h) 0) e) x) i x && (!decide (zsl (zMv h) 0 22 i = 2) || zgb (zsl (zMv h) 0) (dd - w + 1) dd kn (zrow (zsl (zMv h) 0) i) x)) := fun x => rfl
            have g2 : zany (fun e => decide (zsl (zMv h) 0 22 e = 2) && zge (dd - w + 1) dd kn (zrow (zsl (zMv h) 0) e)) (i + 1) = (zany (fun e => decide (zsl (zMv h) 0 22 e = 2) && zge (dd - w + 1) dd kn (zrow (zsl (zMv h) 0) e)) i || (decide (zsl (zMv h) 0 22 i = 2) && zge (dd - w + 1) dd kn (zrow (zsl (zMv h) 0) i))) := rfl
            simp only [g1, g2] at ih
            have r1 : (zrow (zsl (zMv h) 0) i).2.1 = zsl (zMv h) 0 24 i := rfl
            have r3 : (zrow (zsl (zMv h) 0) i).2.2.2 = zsl (zMv h) 0 26 i := rfl
            have no : ¬ (zsl (zMv h) 0 22 i = 2 ∧ zsp (dd - w + 1) dd kn (zrow (zsl (zMv h) 0) i)) → ∀ z7 z8, ai_E (d + 59) 270 44 [some (.inr (.inr (32, 0, 16128))), some (.inl dd), some (.inl w), some (.inl kn), some (.inl (nI (zB (fun x => zall (fun e x => !decide (zsl (zMv h) 0 22 e = 2) || zgb (zsl (zMv h) 0) (dd - w + 1) dd kn (zrow (zsl (zMv h) 0) e) x) i x = true) (zn (zsl (zMv h) 0) 0)))), some (.inl (zb (zany (fun e => decide (zsl (zMv h) 0 22 e = 2) && zge (dd - w + 1) dd kn (zrow (zsl (zMv h) 0) e)) i = true))), some (.inl (nI (i + 1))), z7, z8] [] h = R := by
              intro c z7 z8
              have em : ∀ x, (!decide (zsl (zMv h) 0 22 i = 2) || zgb (zsl (zMv h) 0) (dd - w + 1) dd kn (zrow (zsl (zMv h) 0) i) x) = true := by
                intro x
                by_cases c1 : zsl (zMv h) 0 22 i = 2
                · unfold zgb
                  rw [decide_eq_false (fun q => c ⟨c1, q⟩)]
                  simp
                · simp [c1]
              have ee : (decide (zsl (zMv h) 0 22 i = 2) && zge (dd - w + 1) dd kn (zrow (zsl (zMv h) 0) i)) = false := by
                by_cases c1 : zsl (zMv h) 0 22 i = 2
                · unfold zge
                  rw [decide_eq_false (fun q => c ⟨c1, q⟩)]
                  simp
                · simp [c1]
              simp only [em, ee, Bool.and_true, Bool.or_false] at ih
              exact ih z7 z8
            rw [T270_44, i0, b4.1, if_neg (by rw [nI_leI (by omega) (by omega)]; omega)]
            simp only [ix, e22, e24, e25, e26, M186, z_bi, zb_0, nI_1]
            by_cases q1 : zsl (zMv h) 0 22 i = 2
            · rw [if_pos q1]
              by_cases q2 : (dd - w + 1).toInt ≤ (zsl (zMv h) 0 24 i).toInt ∧ (zsl (zMv h) 0 24 i).toInt ≤ dd.toInt
              · rw [if_neg (fun q => q q2)]
                by_cases q3 : zsl (zMv h) 0 26 i ≤ kn
                · rw [if_pos q3]
                  have sp : zsp (dd - w + 1) dd kn (zrow (zsl (zMv h) 0) i) := by
                    unfold zsp
                    rw [r1, r3, z_le, z_le]
                    exact ⟨q2.1, q2.2, q3⟩
                  have r2 := zrow25 (σ := zsl (zMv h) 0) (e := i) (by rw [q1]; decide)
                  have v9 := (V.2.2.2.2.1.1 i (by omega)).2.2.2.2.2.2.2.2.1 (Or.inr (Or.inl q1))
                  unfold zi at v9
                  have em : ∀ x, (!decide (zsl (zMv h) 0 22 i = 2) || zgb (zsl (zMv h) 0) (dd - w + 1) dd kn (zrow (zsl (zMv h) 0) i) x) = ((zab (zsl (zMv h) 0) (znd (zsl (zMv h) 0) (zsl (zMv h) 0 23 i).toInt.toNat)).testBit x == !decide (zsl (zMv h) 0 25 i = 0)) := by
                    intro x
                    unfold zgb
                    rw [decide_eq_true sp, decide_eq_true q1, r2]
                    rfl
                  have ee : (decide (zsl (zMv h) 0 22 i = 2) && zge (dd - w + 1) dd kn (zrow (zsl (zMv h) 0) i)) = !decide (zsl (zMv h) 0 25 i = 0) := by
                    unfold zge
                    rw [decide_eq_true sp, decide_eq_true q1, r2]
                    rfl
                  simp only [em, ee] at ih
                  have fin : ∀ C b, (∀ y, C.testBit y = ((zB (fun x => zall (fun e x => !decide (zsl (zMv h) 0 22 e = 2) || zgb (zsl (zMv h) 0) (dd - w + 1) dd kn (zrow (zsl (zMv h) 0) e) x) i x = true) (zn (zsl (zMv h) 0) 0)).testBit y && (decide (y < 0) || decide (zn (zsl (zMv h) 0) 0 ≤ y) || ((zab (zsl (zMv h) 0) (znd (zsl (zMv h) 0) (zsl (zMv h) 0 23 i).toInt.toNat)).testBit y == b)))) → C = zB (fun x => (zall (fun e x => !decide (zsl (zMv h) 0 22 e = 2) || zgb (zsl (zMv h) 0) (dd - w + 1) dd kn (zrow (zsl (zMv h) 0) e) x) i x && ((zab (zsl (zMv h) 0) (znd (zsl (zMv h) 0) (zsl (zMv h) 0 23 i).toInt.toNat)).testBit x == b)) = true) (zn (zsl (zMv h) 0) 0) := by
                    intro C b hC
                    apply Nat.eq_of_testBit_eq
                    intro y
                    rw [hC y, zB_tb, zB_tb]
                    by_cases g : y < zn (zsl (zMv h) 0) 0
                    · have : ¬ zn (zsl (zMv h) 0) 0 ≤ y := by omega
                      simp [g, this]
                      rw [zbqd]
                    · simp [g]
                  by_cases q4 : zsl (zMv h) 0 25 i = 1
                  · rw [if_pos q4]
                    have n0 : ¬ zsl (zMv h) 0 25 i = 0 := by rw [q4]; decide
                    simp only [decide_eq_false n0, Bool.not_false] at ih
                    obtain ⟨C, s1, s2, s3⟩ := KI i (by omega) q1 true (zb (zany (fun e => decide (zsl (zMv h) 0 22 e = 2) && zge (dd - w + 1) dd kn (zrow (zsl (zMv h) 0) e)) i = true) ||| 1) (zn (zsl (zMv h) 0) 0) 0 (by omega) (zB (fun x => zall (fun e x => !decide (zsl (zMv h) 0 22 e = 2) || zgb (zsl (zMv h) 0) (dd - w + 1) dd kn (zrow (zsl (zMv h) 0) e) x) i x = true) (zn (zsl (zMv h) 0) 0)) (zB_31 (by omega))
                    refine Eq.trans s1 ?_
                    rw [fin C true s3, zb_or1]
                    exact ih _ _
                  · rw [if_neg q4]
                    have n0 : zsl (zMv h) 0 25 i = 0 := by
                      rw [z_eq] at q4 ⊢
                      simp only [zl0, zl1, zl2, zl3, zl4, zl5, zl6, zl7, zl8, zl9, zl10, zl12, zl15, zl16, zl20, zl22, zl23, zl24, zl27, zl30, zl31, zl32, zl40, zl46, zl48, zl50, zl57, zl59, zl60, zl61, zl62, zl63, zl80, zl96, zl97, zl99, zl100, zl122, zl255, zl360, zl500, zl999, zl9999, zl60000, zl99999, zl16777215, zl1073741824, zlm1, zlm2, zlm3] at q4 ⊢
                      omega
                    simp only [decide_eq_true n0, Bool.not_true] at ih
                    obtain ⟨C, s1, s2, s3⟩ := KI i (by omega) q1 false (zb (zany (fun e => decide (zsl (zMv h) 0 22 e = 2) && zge (dd - w + 1) dd kn (zrow (zsl (zMv h) 0) e)) i = true) ||| 0) (zn (zsl (zMv h) 0) 0) 0 (by omega) (zB (fun x => zall (fun e x => !decide (zsl (zMv h) 0 22 e = 2) || zgb (zsl (zMv h) 0) (dd - w + 1) dd kn (zrow (zsl (zMv h) 0) e) x) i x = true) (zn (zsl (zMv h) 0) 0)) (zB_31 (by omega))
                    refine Eq.trans s1 ?_
                    rw [fin C false s3, zb_or0]
                    exact ih _ _
                · rw [if_neg q3]
                  exact no (fun x => q3 (by have := x.2.2.2; rw [r3] at this; exact this)) _ _
              · rw [if_pos q2]
                exact no (fun x => q2 ⟨by have := x.2.1; rw [r1, z_le] at this; exact this, by have := x.2.2.1; rw [r1, z_le] at this; exact this⟩) _ _
            · rw [if_neg q1]
              exact no (fun x => q1 x.1) _ _
        -- the same rows
        have EA : ∀ x, zall (fun i => zgb (zsl (zMv h) 0) (dd - w + 1) dd kn (l.getD i zrN)) l.length x = true ↔ zall (fun e x => !decide (zsl (zMv h) 0 22 e = 2) || zgb (zsl (zMv h) 0) (dd - w + 1) dd kn (zrow (zsl (zMv h) 0) e) x) (zn (zsl (zMv h) 0) 4) x = true := by
          intro x
          rw [zall_p, zall_p]
          constructor
          · intro q e he
            by_cases g : zsl (zMv h) 0 22 e = 2
            · obtain ⟨i, hi, ei⟩ := List.getElem_of_mem ((emem (zrow (zsl (zMv h) 0) e)).mpr ⟨e, he, g, rfl⟩)
              have := q i hi
              rw [List.getD_eq_getElem?_getD, List.getElem?_eq_getElem hi] at this
              have ei' : (some l[i]).getD zrN = zrow (zsl (zMv h) 0) e := ei
              rw [ei'] at this
              rw [this]
              simp
            · simp [g]
          · intro q i hi
            obtain ⟨e, he, h1, h2⟩ := (emem _).mp (z_mem (l := l) hi)
            have := q e he
            rw [decide_eq_true (show zsl (zMv h) 0 22 e = 2 from h1), ← h2] at this
            exact this
        have EO : zany (fun i => zge (dd - w + 1) dd kn (l.getD i zrN)) l.length = true ↔ zany (fun e => decide (zsl (zMv h) 0 22 e = 2) && zge (dd - w + 1) dd kn (zrow (zsl (zMv h) 0) e)) (zn (zsl (zMv h) 0) 4) = true := by
          rw [zany_p, zany_p]
          constructor
          · rintro ⟨i, hi, q⟩
            obtain ⟨e, he, h1, h2⟩ := (emem _).mp (z_mem (l := l) hi)
            refine ⟨e, he, ?_⟩
            rw [decide_eq_true (show zsl (zMv h) 0 22 e = 2 from h1), ← h2, q]
            rfl
          · rintro ⟨e, he, q⟩
            rw [Bool.and_eq_true] at q
            obtain ⟨i, hi, ei⟩ := List.getElem_of_mem ((emem (zrow (zsl (zMv h) 0) e)).mpr ⟨e, he, of_decide_eq_true q.1, rfl⟩)
            refine ⟨i, hi, ?_⟩
            rw [List.getD_eq_getElem?_getD, List.getElem?_eq_getElem hi]
            have ei' : (some l[i]).getD zrN = zrow (zsl (zMv h) 0) e := ei
            rw [ei']
            exact q.2
        have EB := zB_c (n := zn (zsl (zMv h) 0) 0) (fun x _ => EA x)
        have w1 : ¬ w < 1 := by rw [z_lt]; simp only [zl0, zl1, zl2, zl3, zl4, zl5, zl6, zl7, zl8, zl9, zl10, zl12, zl15, zl16, zl20, zl22, zl23, zl24, zl27, zl30, zl31, zl32, zl40, zl46, zl48, zl50, zl57, zl59, zl60, zl61, zl62, zl63, zl80, zl96, zl97, zl99, zl100, zl122, zl255, zl360, zl500, zl999, zl9999, zl60000, zl99999, zl16777215, zl1073741824, zlm1, zlm2, zlm3]; omega
        have w2 : ¬ 60 < w := by rw [z_lt]; simp only [zl0, zl1, zl2, zl3, zl4, zl5, zl6, zl7, zl8, zl9, zl10, zl12, zl15, zl16, zl20, zl22, zl23, zl24, zl27, zl30, zl31, zl32, zl40, zl46, zl48, zl50, zl57, zl59, zl60, zl61, zl62, zl63, zl80, zl96, zl97, zl99, zl100, zl122, zl255, zl360, zl500, zl999, zl9999, zl60000, zl99999, zl16777215, zl1073741824, zlm1, zlm2, zlm3]; omega
        refine ⟨if zany (fun i => zge (dd - w + 1) dd kn (l.getD i zrN)) l.length = true then nI (zB (fun x => zall (fun i => zgb (zsl (zMv h) 0) (dd - w + 1) dd kn (l.getD i zrN)) l.length x = true) (zn (zsl (zMv h) 0) 0)) else 0, h, h, ?_, zF_rf, ?_, zF_rf⟩
        · rw [T125, X147]
          simp only [z_bi, zb_0]
          rw [if_neg (fun q => q c), if_neg w1, if_neg w2, X147]
          simp only [z_bi, zb_0]
          rw [if_neg (fun q => q c2), b0.1, z_full (by omega)]
          exact KX l.length 0 (by omega) _ _
        · rw [T270, M187]
          simp only [z_bi, zb_0]
          rw [if_neg (fun q => q c), M186]
          simp only [z_bi, zb_0, zl0, zl1, zl2, zl3, zl4, zl5, zl6, zl7, zl8, zl9, zl10, zl12, zl15, zl16, zl20, zl22, zl23, zl24, zl27, zl30, zl31, zl32, zl40, zl46, zl48, zl50, zl57, zl59, zl60, zl61, zl62, zl63, zl80, zl96, zl97, zl99, zl100, zl122, zl255, zl360, zl500, zl999, zl9999, zl60000, zl99999, zl16777215, zl1073741824, zlm1, zlm2, zlm3]
          rw [if_neg (fun q => q c1), M187]
          simp only [z_bi, zb_0]
          rw [if_neg (fun q => q c2), i0, b0.2.1, z_full (by omega)]
          refine (KM _ rfl (zn (zsl (zMv h) 0) 4) 0 (by omega) _ _).trans ?_
          rw [EB]
          by_cases g : zany (fun i => zge (dd - w + 1) dd kn (l.getD i zrN)) l.length = true
          · rw [if_pos g, if_pos (EO.mp g)]
          · rw [if_neg g, if_neg (fun q => g (EO.mpr q))]
      · refine ⟨-1, h, h, ?_, zF_rf, ?_, zF_rf⟩
        · rw [T125, X147]
          simp only [z_bi, zb_0]
          rw [if_neg (fun q => q c), if_neg (by rw [z_lt]; simp only [zl0, zl1, zl2, zl3, zl4, zl5, zl6, zl7, zl8, zl9, zl10, zl12, zl15, zl16, zl20, zl22, zl23, zl24, zl27, zl30, zl31, zl32, zl40, zl46, zl48, zl50, zl57, zl59, zl60, zl61, zl62, zl63, zl80, zl96, zl97, zl99, zl100, zl122, zl255, zl360, zl500, zl999, zl9999, zl60000, zl99999, zl16777215, zl1073741824, zlm1, zlm2, zlm3]; omega), if_neg (by rw [z_lt]; simp only [zl0, zl1, zl2, zl3, zl4, zl5, zl6, zl7, zl8, zl9, zl10, zl12, zl15, zl16, zl20, zl22, zl23, zl24, zl27, zl30, zl31, zl32, zl40, zl46, zl48, zl50, zl57, zl59, zl60, zl61, zl62, zl63, zl80, zl96, zl97, zl99, zl100, zl122, zl255, zl360, zl500, zl999, zl9999, zl60000, zl99999, zl16777215, zl1073741824, zlm1, zlm2, zlm3]; omega), X147]
          simp only [z_bi, zb_0]
          rw [if_pos c2]
        · rw [T270, M187]
          simp only [z_bi, zb_0]
          rw [if_neg (fun q => q c), M186]
          simp only [z_bi, zb_0, zl0, zl1, zl2, zl3, zl4, zl5, zl6, zl7, zl8, zl9, zl10, zl12, zl15, zl16, zl20, zl22, zl23, zl24, zl27, zl30, zl31, zl32, zl40, zl46, zl48, zl50, zl57, zl59, zl60, zl61, zl62, zl63, zl80, zl96, zl97, zl99, zl100, zl122, zl255, zl360, zl500, zl999, zl9999, zl60000, zl99999, zl16777215, zl1073741824, zlm1, zlm2, zlm3]
          rw [if_neg (fun q => q c1), M187]
          simp only [z_bi, zb_0]
          rw [if_pos c2]
    · refine ⟨-1, h, h, ?_, zF_rf, ?_, zF_rf⟩
      · rw [T125, X147]
        simp only [z_bi, zb_0]
        rw [if_neg (fun q => q c)]
        by_cases g : w < 1
        · rw [if_pos g]
        · rw [if_neg g, if_pos (by rw [z_lt] at g ⊢; simp only [zl0, zl1, zl2, zl3, zl4, zl5, zl6, zl7, zl8, zl9, zl10, zl12, zl15, zl16, zl20, zl22, zl23, zl24, zl27, zl30, zl31, zl32, zl40, zl46, zl48, zl50, zl57, zl59, zl60, zl61, zl62, zl63, zl80, zl96, zl97, zl99, zl100, zl122, zl255, zl360, zl500, zl999, zl9999, zl60000, zl99999, zl16777215, zl1073741824, zlm1, zlm2, zlm3] at g ⊢; omega)]
      · rw [T270, M187]
        simp only [z_bi, zb_0]
        rw [if_neg (fun q => q c), M186]
        simp only [z_bi, zb_0, zl0, zl1, zl2, zl3, zl4, zl5, zl6, zl7, zl8, zl9, zl10, zl12, zl15, zl16, zl20, zl22, zl23, zl24, zl27, zl30, zl31, zl32, zl40, zl46, zl48, zl50, zl57, zl59, zl60, zl61, zl62, zl63, zl80, zl96, zl97, zl99, zl100, zl122, zl255, zl360, zl500, zl999, zl9999, zl60000, zl99999, zl16777215, zl1073741824, zlm1, zlm2, zlm3]
        rw [if_pos c1]
  · refine ⟨-1, h, h, ?_, zF_rf, ?_, zF_rf⟩
    · rw [T125, X147]
      simp only [z_bi, zb_0]
      rw [if_pos c]
    · rw [T270, M187]
      simp only [z_bi, zb_0]
      rw [if_pos c]
