/-! MENDING: the class's search for the fewest, for the most apart -/
/-- bits of a list's places -/
def zmk (L : Nat → Nat) (S : Nat) : Nat → Nat
  | 0 => 0
  | k + 1 => if S.testBit k = true then zmk L S k ||| 2 ^ L k else zmk L S k
theorem zmk_tb {L : Nat → Nat} {S t : Nat} : ∀ n, (zmk L S n).testBit t = zex (fun k => S.testBit k && decide (L k = t)) n := by
  intro n
  induction n with
  | zero => exact Nat.zero_testBit t
  | succ n ih =>
    show (if S.testBit n = true then zmk L S n ||| 2 ^ L n else zmk L S n).testBit t = (zex _ n || (S.testBit n && decide (L n = t)))
    by_cases c : S.testBit n = true
    · rw [if_pos c, Nat.testBit_or, ih, Nat.testBit_two_pow, c, Bool.true_and]
    · rw [if_neg c, ih, zbF c, Bool.false_and, Bool.or_false]
theorem zmk_lt {L : Nat → Nat} {S b : Nat} : ∀ {n}, (∀ k, k < n → L k < b) → zmk L S n < 2 ^ b := by
  intro n h
  refine Nat.lt_pow_two_of_testBit _ fun i hi => ?_
  rw [zmk_tb]
  refine zbF fun c => ?_
  obtain ⟨k, k1, k2⟩ := zex_iff.mp c
  rw [Bool.and_eq_true] at k2
  have := of_decide_eq_true k2.2
  have := h k k1
  omega
theorem zbeq {a b : Bool} (h : a = true ↔ b = true) : a = b := by
  cases a <;> cases b <;> simp_all
theorem zmk_add {L : Nat → Nat} {S S' j n : Nat} (hj : j < n) (h : ∀ i, i < n → S'.testBit i = (S.testBit i || decide (i = j))) : zmk L S' n = zmk L S n ||| 2 ^ L j := by
  apply Nat.eq_of_testBit_eq
  intro t
  rw [Nat.testBit_or, zmk_tb, zmk_tb, Nat.testBit_two_pow]
  apply zbeq
  rw [Bool.or_eq_true, zex_iff, zex_iff, decide_eq_true_iff]
  constructor
  · rintro ⟨k, k1, k2⟩
    rw [h k k1, Bool.and_eq_true, Bool.or_eq_true] at k2
    rcases k2.1 with q | q
    · exact Or.inl ⟨k, k1, by rw [Bool.and_eq_true]; exact ⟨q, k2.2⟩⟩
    · have e := of_decide_eq_true q
      subst e
      exact Or.inr (of_decide_eq_true k2.2)
  · rintro (⟨k, k1, k2⟩ | e)
    · rw [Bool.and_eq_true] at k2
      exact ⟨k, k1, by rw [h k k1, Bool.and_eq_true, Bool.or_eq_true]; exact ⟨Or.inl k2.1, k2.2⟩⟩
    · exact ⟨j, hj, by rw [h j hj, Bool.and_eq_true, Bool.or_eq_true]; exact ⟨Or.inr (decide_eq_true rfl), decide_eq_true e⟩⟩
/-- how many are taken -/
def zpo (S n : Nat) : Nat := zcnt (fun k => S.testBit k = true) n
/-- the codes' worth: how many, where all are reached -/
def zmV (cov : Nat → Bool) (n : Nat) (S : Nat) : Option Nat := if cov S = true then some (zpo S n) else none
theorem zmV_some {cov : Nat → Bool} {n S v : Nat} (h : zmV cov n S = some v) : cov S = true ∧ v = zpo S n := by
  unfold zmV at h
  by_cases c : cov S = true
  · rw [if_pos c] at h; cases h; exact ⟨c, rfl⟩
  · rw [if_neg c] at h; cases h
theorem z_tbr {j q r : Nat} (hr : r < 2 ^ j) (i : Nat) : (2 ^ j * q + r).testBit i = if i < j then r.testBit i else q.testBit (i - j) := Nat.testBit_two_pow_mul_add q hr i
theorem zpo_le {j q r n : Nat} (hr : r < 2 ^ j) : zpo (2 ^ j * q) n ≤ zpo (2 ^ j * q + r) n := by
  refine zcnt_mono fun i _ h => ?_
  have h0 := z_tbr (j := j) (q := q) (r := 0) (Nat.two_pow_pos j) i
  rw [Nat.add_zero] at h0
  rw [h0] at h
  rw [z_tbr hr]
  by_cases c : i < j
  · rw [if_pos c, Nat.zero_testBit] at h; cases h
  · rw [if_neg c] at h ⊢; exact h
theorem z_half {j q i : Nat} : (2 ^ j * (2 * q + 1)).testBit i = ((2 ^ j * (2 * q)).testBit i || decide (i = j)) := by
  have h0 := z_tbr (j := j) (q := 2 * q + 1) (r := 0) (Nat.two_pow_pos j) i
  have h1 := z_tbr (j := j) (q := 2 * q) (r := 0) (Nat.two_pow_pos j) i
  rw [Nat.add_zero] at h0 h1
  rw [h0, h1]
  by_cases c : i < j
  · rw [if_pos c, if_pos c, Nat.zero_testBit, decide_eq_false (by omega)]; rfl
  · rw [if_neg c, if_neg c]
    by_cases e : i = j
    · subst e
      rw [Nat.sub_self, Nat.testBit_zero, Nat.testBit_zero, decide_eq_true rfl, Bool.or_true]
      exact decide_eq_true (by omega)
    · obtain ⟨k, hk⟩ : ∃ k, i - j = k + 1 := ⟨i - j - 1, by omega⟩
      rw [hk, decide_eq_false e, Bool.or_false, Nat.testBit_succ, Nat.testBit_succ]
      congr 1
      omega
/-- what the class's search stands on -/
def zco (g : ai_H) (L : Nat → Nat) (p : Nat → Nat → Bool) (th : Nat → Prop) [DecidablePred th] (N nh : Nat) : Prop := (∀ k, k < N → g.1 2098050 k = nI (L k) ∧ L k < 24 ∧ g.1 2098051 k = nI (zB (fun i => th i ∧ p k i = true) nh)) ∧ g.1 16391 5 = nI (zB (fun i => th i ∧ zex (fun k => p k i) N = true) nh)
def zhe (p : Nat → Nat → Bool) (th : Nat → Prop) [DecidablePred th] (N nh S : Nat) : Nat := zB (fun i => th i ∧ zex (fun k => S.testBit k && p k i) N = true) nh
def zcov (p : Nat → Nat → Bool) (th : Nat → Prop) [DecidablePred th] (N nh S : Nat) : Bool := decide (zB (fun i => (th i ∧ zex (fun k => p k i) N = true) ∧ ¬ (th i ∧ zex (fun k => S.testBit k && p k i) N = true)) nh = 0)
theorem zcov_i {p : Nat → Nat → Bool} {th : Nat → Prop} [DecidablePred th] {N nh S : Nat} : zcov p th N nh S = true ↔ ∀ i, i < nh → th i → zex (fun k => p k i) N = true → zex (fun k => S.testBit k && p k i) N = true := by
  unfold zcov
  rw [decide_eq_true_iff, zB_0]
  exact ⟨fun h i hi h1 h2 => Decidable.of_not_not fun c => h i hi ⟨⟨h1, h2⟩, fun q => c q.2⟩, fun h i hi c => c.2 ⟨c.1.1, h i hi c.1.1 c.1.2⟩⟩
theorem zco_c {g g' : ai_H} {L : Nat → Nat} {p : Nat → Nat → Bool} {th : Nat → Prop} [DecidablePred th] {N nh : Nat} (e : ∀ q j, ¬ (q = 16391 ∧ (j = 6 ∨ j = 7)) → g'.1 q j = g.1 q j) (h : zco g L p th N nh) : zco g' L p th N nh := by
  refine ⟨fun k hk => ?_, ?_⟩
  · rw [e 2098050 k (by omega), e 2098051 k (by omega)]; exact h.1 k hk
  · rw [e 16391 5 (by decide)]; exact h.2
theorem X15 {L : Nat → Nat} {p : Nat → Nat → Bool} {th : Nat → Prop} [DecidablePred th] {N nh : Nat} (hN : N ≤ 12) (hn : nh ≤ 30) : ∀ j, j ≤ N → ∀ (d : Nat) (g : ai_H) (q : Nat) (s : Nat × Nat), zco g L p th N nh → 2 ^ j * q < 2 ^ N → g.1 16391 6 = nI s.1 → g.1 16391 7 = nI (zmk L s.2 N) → s.1 ≤ 100 → ∃ g', ai_X (d + j + 1) 15 [.inr (.inr (21, 0, 16391)), .inl (nI j), .inl (nI (zhe p th N nh (2 ^ j * q))), .inl (nI (zmk L (2 ^ j * q) N)), .inl (nI (zpo (2 ^ j * q) N))] g = some ([], g') ∧ g'.2 = g.2 ∧ (∀ q j, ¬ (q = 16391 ∧ (j = 6 ∨ j = 7)) → g'.1 q j = g.1 q j) ∧ g'.1 16391 6 = nI (zfd (zmV (zcov p th N nh) N) (2 ^ j * q) (2 ^ j) s).1 ∧ g'.1 16391 7 = nI (zmk L (zfd (zmV (zcov p th N nh) N) (2 ^ j * q) (2 ^ j) s).2 N) ∧ (zfd (zmV (zcov p th N nh) N) (2 ^ j * q) (2 ^ j) s).1 ≤ 100 := by
  intro j
  induction j with
  | zero =>
    intro hj d g q s hg hq h6 h7 hs
    rw [Nat.pow_zero, Nat.one_mul] at hq ⊢
    have hcl := zcnt_le (p := fun k => q.testBit k = true) N
    have hpo : zpo q N ≤ N := hcl
    have e1 : zfd (zmV (zcov p th N nh) N) q 1 s = zstp (zmV (zcov p th N nh) N) s q := rfl
    rw [T15, h6, hg.2]
    unfold zhe
    rw [zB_andn2 (by omega) (by omega) (Nat.le_refl _), e1]
    unfold zstp zmV
    by_cases c1 : zpo q N < s.1
    · rw [if_pos (by rw [nI_ltI (by omega) (by omega)]; exact c1)]
      by_cases c2 : zcov p th N nh q = true
      · rw [if_pos (by rw [of_decide_eq_true c2]; rfl), if_pos c2]
        dsimp only
        rw [if_pos c1]
        refine ⟨_, rfl, rfl, fun x y hxy => ?_, ?_, ?_, by dsimp only; omega⟩
        · rw [z_st1, if_neg (by omega), z_st1, if_neg (by omega)]
        · rw [z_st1, if_neg (by omega), z_stS]
        · rw [z_stS]
      · have n0 : ¬ nI (zB (fun i => (th i ∧ zex (fun k => p k i) N = true) ∧ ¬ (th i ∧ zex (fun k => q.testBit k && p k i) N = true)) nh) = 0 := nI_ne0 (Nat.pos_of_ne_zero fun e => c2 (decide_eq_true e)) (zB_31 (by omega))
        rw [if_neg n0, if_pos (show nI 0 ≤ 0 by decide), if_neg c2]
        exact ⟨g, rfl, rfl, fun _ _ _ => rfl, h6, h7, hs⟩
    · rw [if_neg (by rw [nI_ltI (by omega) (by omega)]; exact c1)]
      refine ⟨g, rfl, rfl, fun _ _ _ => rfl, ?_⟩
      by_cases c2 : zcov p th N nh q = true
      · rw [if_pos c2]
        dsimp only
        rw [if_neg c1]
        exact ⟨h6, h7, hs⟩
      · rw [if_neg c2]
        exact ⟨h6, h7, hs⟩
  | succ j ih =>
    intro hj d g q s hg hq h6 h7 hs
    have hpo : zpo (2 ^ (j + 1) * q) N ≤ N := zcnt_le _
    have ep : 2 ^ (j + 1) * q = 2 ^ j * (2 * q) := by rw [Nat.pow_succ, Nat.mul_assoc]
    have e2 : 2 ^ (j + 1) = 2 ^ j + 2 ^ j := by rw [Nat.pow_succ]; omega
    have hmono : ∀ r, r < 2 ^ (j + 1) → ∀ v, zmV (zcov p th N nh) N (2 ^ (j + 1) * q + r) = some v → zpo (2 ^ (j + 1) * q) N ≤ v := fun r hr v hv => by
      rw [(zmV_some hv).2]
      exact zpo_le hr
    rw [T15, h6, hg.2]
    have ehe : zhe p th N nh (2 ^ (j + 1) * q) = zB (fun i => th i ∧ zex (fun k => (2 ^ (j + 1) * q).testBit k && p k i) N = true) nh := rfl
    by_cases c1 : zpo (2 ^ (j + 1) * q) N < s.1
    · rw [if_pos (by rw [nI_ltI (by omega) (by omega)]; exact c1), ehe, zB_andn2 (by omega) (by omega) (Nat.le_refl _)]
      by_cases c2 : zcov p th N nh (2 ^ (j + 1) * q) = true
      · -- covered already: the rest can be no better
        have ev : zmV (zcov p th N nh) N (2 ^ (j + 1) * q) = some (zpo (2 ^ (j + 1) * q) N) := by unfold zmV; rw [if_pos c2]
        have es : zfd (zmV (zcov p th N nh) N) (2 ^ (j + 1) * q) (2 ^ (j + 1)) s = (zpo (2 ^ (j + 1) * q) N, 2 ^ (j + 1) * q) := by
          have hp := Nat.two_pow_pos (j + 1)
          obtain ⟨m, hm⟩ : ∃ m, 2 ^ (j + 1) = 1 + m := ⟨2 ^ (j + 1) - 1, by omega⟩
          have e0 : zfd (zmV (zcov p th N nh) N) (2 ^ (j + 1) * q) 1 s = (zpo (2 ^ (j + 1) * q) N, 2 ^ (j + 1) * q) := by
            show zstp (zmV (zcov p th N nh) N) s (2 ^ (j + 1) * q) = _
            unfold zstp
            rw [ev]
            dsimp only
            rw [if_pos c1]
          have : ∀ X, X = 2 ^ (j + 1) * q → zfd (zmV (zcov p th N nh) N) X (1 + m) s = zfd (zmV (zcov p th N nh) N) (X + 1) m (zfd (zmV (zcov p th N nh) N) X 1 s) := fun X _ => zfd_add m
          have h3 := this _ rfl
          rw [e0] at h3
          rw [show zfd (zmV (zcov p th N nh) N) (2 ^ (j + 1) * q) (2 ^ (j + 1)) s = zfd (zmV (zcov p th N nh) N) (2 ^ (j + 1) * q) (1 + m) s from by rw [← hm], h3]
          refine zfd_no fun i hi v hv => ?_
          refine hmono (1 + i) (by omega) v ?_
          rw [← Nat.add_assoc]
          exact hv
        rw [if_pos (by rw [of_decide_eq_true c2]; rfl), es]
        refine ⟨_, rfl, rfl, fun x y hxy => ?_, ?_, ?_, by dsimp only; omega⟩
        · rw [z_st1, if_neg (by omega), z_st1, if_neg (by omega)]
        · rw [z_st1, if_neg (by omega), z_stS]
        · rw [z_stS]
      · have n0 : ¬ nI (zB (fun i => (th i ∧ zex (fun k => p k i) N = true) ∧ ¬ (th i ∧ zex (fun k => (2 ^ (j + 1) * q).testBit k && p k i) N = true)) nh) = 0 := nI_ne0 (Nat.pos_of_ne_zero fun e => c2 (decide_eq_true e)) (zB_31 (by omega))
        have i12 : ∀ f : Nat → Option ai_R, ai_ix (nI j) 12 f = f j := fun f => z_ix (by omega) (by decide)
        have hq1 : 2 ^ j * (2 * q) < 2 ^ N := by rw [← ep]; exact hq
        have hq2 : 2 ^ j * (2 * q + 1) < 2 ^ N := by
          refine Nat.lt_pow_two_of_testBit _ fun i hi => ?_
          rw [z_half, Nat.testBit_lt_two_pow (Nat.lt_of_lt_of_le hq1 (Nat.pow_le_pow_right (by decide) hi)), decide_eq_false (by omega)]
          rfl
        obtain ⟨g1, a1, a2, a3, a4, a5, a6⟩ := ih (by omega) d g (2 * q) s hg hq1 h6 h7 hs
        obtain ⟨g2, y1, y2, y3, y4, y5, y6⟩ := ih (by omega) d g1 (2 * q + 1) (zfd (zmV (zcov p th N nh) N) (2 ^ j * (2 * q)) (2 ^ j) s) (zco_c a3 hg) hq2 a4 a5 a6
        have hg1 := (zco_c a3 hg).1 j (by omega)
        have b1 : zhe p th N nh (2 ^ j * (2 * q + 1)) = zB (fun i => (th i ∧ zex (fun k => (2 ^ j * (2 * q)).testBit k && p k i) N = true) ∨ (th i ∧ p j i = true)) nh := zB_c fun i _ => by
          constructor
          · rintro ⟨h1, h2⟩
            obtain ⟨k, k1, k2⟩ := zex_iff.mp h2
            rw [z_half, Bool.and_eq_true, Bool.or_eq_true] at k2
            rcases k2.1 with w | w
            · exact Or.inl ⟨h1, zex_iff.mpr ⟨k, k1, by rw [Bool.and_eq_true]; exact ⟨w, k2.2⟩⟩⟩
            · have e := of_decide_eq_true w
              subst e
              exact Or.inr ⟨h1, k2.2⟩
          · rintro (⟨h1, h2⟩ | ⟨h1, h2⟩)
            · obtain ⟨k, k1, k2⟩ := zex_iff.mp h2
              rw [Bool.and_eq_true] at k2
              exact ⟨h1, zex_iff.mpr ⟨k, k1, by rw [z_half, Bool.and_eq_true, Bool.or_eq_true]; exact ⟨Or.inl k2.1, k2.2⟩⟩⟩
            · exact ⟨h1, zex_iff.mpr ⟨j, by omega, by rw [z_half, Bool.and_eq_true, Bool.or_eq_true]; exact ⟨Or.inr (decide_eq_true rfl), h2⟩⟩⟩
        have b2 : zmk L (2 ^ j * (2 * q + 1)) N = zmk L (2 ^ j * (2 * q)) N ||| 2 ^ L j := zmk_add (by omega) fun i _ => z_half
        have b3 : zpo (2 ^ j * (2 * q + 1)) N = zpo (2 ^ j * (2 * q)) N + 1 := by
          refine zcnt_ins (a := j) ?_ (by omega) fun i _ => ?_
          · have h0 := z_tbr (j := j) (q := 2 * q) (r := 0) (Nat.two_pow_pos j) j
            rw [Nat.add_zero] at h0
            rw [h0, if_neg (by omega), Nat.sub_self, Nat.testBit_zero]
            exact fun c => by have := of_decide_eq_true c; omega
          · rw [z_half, Bool.or_eq_true, decide_eq_true_iff]
            exact Or.comm
        have es : zfd (zmV (zcov p th N nh) N) (2 ^ (j + 1) * q) (2 ^ (j + 1)) s = zfd (zmV (zcov p th N nh) N) (2 ^ j * (2 * q + 1)) (2 ^ j) (zfd (zmV (zcov p th N nh) N) (2 ^ j * (2 * q)) (2 ^ j) s) := by
          rw [ep, e2, zfd_add, show 2 ^ j * (2 * q) + 2 ^ j = 2 ^ j * (2 * q + 1) by rw [Nat.mul_add, Nat.mul_one]]
        have nj : ¬ nI (j + 1) ≤ 0 := by rw [show (0 : Int32) = nI 0 from rfl, nI_leI (by omega) (by omega)]; omega
        have pj : nI (j + 1) - 1 = nI j := nI_pred j
        have hL := hg1.2.1
        rw [if_neg n0, if_neg nj, pj, ← ehe, ep, show d + (j + 1) = d + j + 1 by omega, a1]
        simp only [z_bv]
        rw [i12, i12, hg1.1, hg1.2.2, z_bit (by omega), z_or (zmk L (2 ^ j * (2 * q)) N), ← b2, nI_1, ← b3]
        unfold zhe
        rw [zB_or, ← b1, y1]
        simp only [z_bv]
        rw [← ep, es]
        exact ⟨g2, rfl, y2.trans a2, fun x y hxy => (y3 x y hxy).trans (a3 x y hxy), y4, y5, y6⟩
    · rw [if_neg (by rw [nI_ltI (by omega) (by omega)]; exact c1)]
      have es : zfd (zmV (zcov p th N nh) N) (2 ^ (j + 1) * q) (2 ^ (j + 1)) s = s := zfd_no fun i hi v hv => by
        have := hmono i hi v hv
        omega
      rw [es]
      exact ⟨g, rfl, rfl, fun _ _ _ => rfl, h6, h7, hs⟩
/-- the most apart from a place on -/
def zpk (Q : Nat → Nat → Bool) (m : Nat) : Nat → Nat → (Nat → Bool) → Nat
  | 0, _, _ => 0
  | k + 1, a, U => if ¬ zex (fun j => U j && Q a j) m = true ∧ zpk Q m k (a + 1) U ≤ 1 + zpk Q m k (a + 1) (fun j => U j || decide (j = a)) then 1 + zpk Q m k (a + 1) (fun j => U j || decide (j = a)) else zpk Q m k (a + 1) U
theorem zpk_S {Q : Nat → Nat → Bool} {m k a : Nat} {U : Nat → Bool} : zpk Q m (k + 1) a U = if ¬ zex (fun j => U j && Q a j) m = true ∧ zpk Q m k (a + 1) U ≤ 1 + zpk Q m k (a + 1) (fun j => U j || decide (j = a)) then 1 + zpk Q m k (a + 1) (fun j => U j || decide (j = a)) else zpk Q m k (a + 1) U := rfl
theorem zpk_le {Q : Nat → Nat → Bool} {m : Nat} : ∀ k a U, zpk Q m k a U ≤ k := by
  intro k
  induction k with
  | zero => intro a U; exact Nat.le_refl _
  | succ k ih =>
    intro a U
    have h1 := ih (a + 1) U
    have h2 := ih (a + 1) (fun j => U j || decide (j = a))
    rw [zpk_S]
    by_cases c : ¬ zex (fun j => U j && Q a j) m = true ∧ zpk Q m k (a + 1) U ≤ 1 + zpk Q m k (a + 1) (fun j => U j || decide (j = a))
    · rw [if_pos c]; omega
    · rw [if_neg c]; omega
/-- what the class's packing stands on -/
def zpw (g : ai_H) (w : Nat → Nat → Prop) [∀ j, DecidablePred (w j)] (m n : Nat) : Prop := g.1 16391 3 = nI m ∧ ∀ j, j < m → g.1 2098053 j = nI (zB (w j) n)
theorem X17 {w : Nat → Nat → Prop} [∀ j, DecidablePred (w j)] {Q : Nat → Nat → Bool} {m n : Nat} (hm : m ≤ 12) (hn : n ≤ 24) (hQ : ∀ i, i < m → ∀ j, j < m → (Q i j = true ↔ ∃ t, t < n ∧ w i t ∧ w j t)) : ∀ k a, a + k = m → ∀ (d : Nat) (g : ai_H) (U : Nat → Bool) (c b : Nat), zpw g w m n → c ≤ a → b ≤ 100 → g.1 16391 6 = nI b - 1 → ∃ g' b', ai_X (d + k + 1) 17 [.inr (.inr (21, 0, 16391)), .inl (nI a), .inl (nI (zB (fun t => zex (fun j => U j && decide (w j t)) m = true) n)), .inl (nI c)] g = some ([], g') ∧ g'.2 = g.2 ∧ (∀ q j, ¬ (q = 16391 ∧ j = 6) → g'.1 q j = g.1 q j) ∧ g'.1 16391 6 = nI b' - 1 ∧ b' ≤ 100 ∧ b' = (if b < c + zpk Q m k a U + 1 then c + zpk Q m k a U + 1 else b) := by
  intro k
  induction k with
  | zero =>
    intro a ha d g U c b hg hc hb h6
    have ha : a = m := by omega
    subst ha
    have e1 : (nI c + nI a) - nI a = nI c := by rw [nI_add, pk_sub (by omega), show c + a - a = c by omega]
    have lt : nI b - 1 < nI c ↔ b < c + 1 := by
      rw [z_lt, z_sub, z_T (by omega), z_T (by omega)]
      · simp only [zl1]; omega
      · rw [z_T (by omega)]; simp only [zl1]; omega
      · rw [z_T (by omega)]; simp only [zl1]; omega
    rw [T17, hg.1, h6, e1]
    by_cases c1 : b < c + 1
    · rw [if_pos (lt.mpr c1), if_neg (by rw [z_lt]; omega)]
      refine ⟨_, c + 1, rfl, rfl, fun x y hxy => ?_, ?_, by omega, ?_⟩
      · rw [z_st1, if_neg hxy]
      · rw [z_stS, nI_pred]
      · show _ = if b < c + 0 + 1 then c + 0 + 1 else b
        rw [Nat.add_zero, if_pos c1]
    · rw [if_neg (fun q => c1 (lt.mp q))]
      refine ⟨g, b, rfl, rfl, fun _ _ _ => rfl, h6, hb, ?_⟩
      show _ = if b < c + 0 + 1 then c + 0 + 1 else b
      rw [Nat.add_zero, if_neg c1]
  | succ k ih =>
    intro a ha d g U c b hg hc hb h6
    have e1 : (nI c + nI m) - nI a = nI (c + (k + 1)) := by rw [nI_add, pk_sub (by omega), show c + m - a = c + (k + 1) by omega]
    have lt : nI b - 1 < nI (c + (k + 1)) ↔ b < c + (k + 1) + 1 := by
      rw [z_lt, z_sub, z_T (by omega), z_T (by omega)]
      · simp only [zl1]; omega
      · rw [z_T (by omega)]; simp only [zl1]; omega
      · rw [z_T (by omega)]; simp only [zl1]; omega
    have hle := zpk_le (Q := Q) (m := m) (k + 1) a U
    have hl1 := zpk_le (Q := Q) (m := m) k (a + 1) U
    have hl2 := zpk_le (Q := Q) (m := m) k (a + 1) (fun j => U j || decide (j = a))
    have i12 : ∀ f : Nat → Option ai_R, ai_ix (nI a) 12 f = f a := fun f => z_ix (by omega) (by decide)
    rw [T17, hg.1, h6, e1]
    by_cases c1 : b < c + (k + 1) + 1
    · rw [if_pos (lt.mpr c1), if_pos (by rw [nI_ltI (by omega) (by omega)]; omega), i12, hg.2 a (by omega), zB_and2]
      have h0 : nI (zB (fun t => w a t ∧ zex (fun j => U j && decide (w j t)) m = true) n) = 0 ↔ ¬ zex (fun j => U j && Q a j) m = true := by
        rw [zB_n0 (by omega), zex_iff]
        constructor
        · rintro h ⟨j, j1, j2⟩
          rw [Bool.and_eq_true] at j2
          obtain ⟨t, t1, t2, t3⟩ := (hQ a (by omega) j j1).mp j2.2
          exact h t t1 ⟨t2, zex_iff.mpr ⟨j, j1, by rw [Bool.and_eq_true]; exact ⟨j2.1, decide_eq_true t3⟩⟩⟩
        · rintro h t t1 ⟨t2, t3⟩
          obtain ⟨j, j1, j2⟩ := zex_iff.mp t3
          rw [Bool.and_eq_true] at j2
          exact h ⟨j, j1, by rw [Bool.and_eq_true]; exact ⟨j2.1, (hQ a (by omega) j j1).mpr ⟨t, t1, t2, of_decide_eq_true j2.2⟩⟩⟩
      by_cases c2 : zex (fun j => U j && Q a j) m = true
      · obtain ⟨g1, b1, y1, y2, y3, y4, y5, y6⟩ := ih (a + 1) (by omega) d g U c b hg (by omega) hb h6
        rw [if_neg (fun q => h0.mp q c2), nI_1, show d + (k + 1) = d + k + 1 by omega, y1]
        simp only [z_bv]
        refine ⟨g1, b1, rfl, y2, y3, y4, y5, ?_⟩
        have es : zpk Q m (k + 1) a U = zpk Q m k (a + 1) U := by rw [zpk_S, if_neg (fun q => q.1 c2)]
        rw [y6, es]
      · have e2 : zB (fun t => zex (fun j => U j && decide (w j t)) m = true ∨ w a t) n = zB (fun t => zex (fun j => (U j || decide (j = a)) && decide (w j t)) m = true) n := zB_c fun t _ => by
          rw [zex_iff, zex_iff]
          constructor
          · rintro (⟨j, j1, j2⟩ | h)
            · rw [Bool.and_eq_true] at j2
              exact ⟨j, j1, by rw [Bool.and_eq_true, Bool.or_eq_true]; exact ⟨Or.inl j2.1, j2.2⟩⟩
            · exact ⟨a, by omega, by rw [Bool.and_eq_true, Bool.or_eq_true]; exact ⟨Or.inr (decide_eq_true rfl), decide_eq_true h⟩⟩
          · rintro ⟨j, j1, j2⟩
            rw [Bool.and_eq_true, Bool.or_eq_true] at j2
            rcases j2.1 with q | q
            · exact Or.inl ⟨j, j1, by rw [Bool.and_eq_true]; exact ⟨q, j2.2⟩⟩
            · have e := of_decide_eq_true q
              subst e
              exact Or.inr (of_decide_eq_true j2.2)
        obtain ⟨g1, b1, y1, y2, y3, y4, y5, y6⟩ := ih (a + 1) (by omega) d g (fun j => U j || decide (j = a)) (c + 1) b hg (by omega) hb h6
        have hg1 : zpw g1 w m n := ⟨by rw [y3 _ _ (by decide)]; exact hg.1, fun j hj => by rw [y3 _ _ (by omega)]; exact hg.2 j hj⟩
        obtain ⟨g2, b2, w1, w2, w3, w4, w5, w6⟩ := ih (a + 1) (by omega) d g1 U c b1 hg1 (by omega) y5 y4
        rw [if_pos (h0.mpr c2), i12, hg.2 a (by omega), nI_1, nI_1, zB_or, e2, show d + (k + 1) = d + k + 1 by omega, y1]
        simp only [z_bv]
        rw [w1]
        simp only [z_bv]
        refine ⟨g2, b2, rfl, w2.trans y2, fun x y hxy => (w3 x y hxy).trans (y3 x y hxy), w4, w5, ?_⟩
        rw [w6, y6, zpk_S]
        by_cases c3 : zpk Q m k (a + 1) U ≤ 1 + zpk Q m k (a + 1) (fun j => U j || decide (j = a))
        · rw [if_pos (show ¬ zex (fun j => U j && Q a j) m = true ∧ zpk Q m k (a + 1) U ≤ 1 + zpk Q m k (a + 1) (fun j => U j || decide (j = a)) from ⟨c2, c3⟩)]
          generalize zpk Q m k (a + 1) U = u1 at *
          generalize zpk Q m k (a + 1) (fun j => U j || decide (j = a)) = u2 at *
          by_cases q1 : b < c + 1 + u2 + 1
          · rw [if_pos q1, if_neg (by omega), if_pos (by omega)]; omega
          · rw [if_neg q1, if_neg (by omega), if_neg (by omega)]
        · rw [if_neg (show ¬ (¬ zex (fun j => U j && Q a j) m = true ∧ zpk Q m k (a + 1) U ≤ 1 + zpk Q m k (a + 1) (fun j => U j || decide (j = a))) from fun q => c3 q.2)]
          generalize zpk Q m k (a + 1) U = u1 at *
          generalize zpk Q m k (a + 1) (fun j => U j || decide (j = a)) = u2 at *
          by_cases q1 : b < c + 1 + u2 + 1
          · rw [if_pos q1]
            by_cases q2 : b < c + u1 + 1
            · rw [if_pos q2, if_pos (by omega)]
            · omega
          · rw [if_neg q1]
    · rw [if_neg (fun q => c1 (lt.mp q))]
      refine ⟨g, b, rfl, rfl, fun _ _ _ => rfl, h6, hb, ?_⟩
      rw [if_neg (by omega)]
