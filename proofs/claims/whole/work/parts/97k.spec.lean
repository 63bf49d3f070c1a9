/-! WORDS, FAULTS, STEPS: the reference's; how a condition is read, for both -/
theorem zwv_lt {B : Nat → Nat} {n s : Nat} (hb : ∀ i, B i < 256) : zwv B n s < 9223372036854775808 := by
  unfold zwv
  by_cases c : zkd B n s = 1 ∧ zte B n s ≤ s + 10
  · rw [if_pos c]
    have inn := zte_in (Or.inl rfl) c.1
    have lt := z27_lt (B := B) (s := s) hb (zte B n s - s) (fun i hi => (zkd_1.mp (inn (s + i) (by omega) (by omega))).2.2)
    have pw := Nat.pow_le_pow_right (n := 27) (by decide) (show zte B n s - s ≤ 10 by omega)
    omega
  · rw [if_neg c]; decide
theorem zlgw {B : Nat → Nat} {n s W : Nat} (hb : ∀ i, B i < 256) (hW : 0 < W) (hW2 : W < 9223372036854775808) : (lg_cmp (zutx B n s) (Int64.ofNat W) = 0) ↔ (zwv B n s = W) := by
  have lt := zwv_lt (B := B) (n := n) (s := s) hb
  rw [zlg0, ← Int64.toInt_inj, zlgn hW2]
  unfold zutx
  unfold zwv at lt ⊢
  by_cases c : zkd B n s = 1 ∧ zte B n s ≤ s + 10
  · rw [if_pos c] at lt
    rw [if_pos c, if_pos c, zlgn lt]
    omega
  · rw [if_neg c, if_neg c]
    have : (-1 : Int64).toInt = -1 := by decide
    rw [this]
    omega
theorem zwv_w {B : Nat → Nat} {n s W : Nat} (hW : 0 < W) (h : zwv B n s = W) : zkd B n s = 1 := by
  by_cases c : zkd B n s = 1
  · exact c
  · rw [zwv_k c] at h; omega
theorem zutk_i1 {B : Nat → Nat} {n s : Nat} (hb : ∀ i, B i < 256) : nI (zutk B n s) = 1 ↔ zkd B n s = 1 := by
  have := zutk_lt (n := n) (s := s) hb
  rw [show (1 : Int32) = nI 1 from rfl, nI_eq (by omega) (by omega)]
  exact zutk_1
theorem M228 {h : ai_H} {B : Nat → Nat} {n s W : Nat} (d : Nat) (hb : ∀ i, B i < 256) (hk : zUk h B n s) (h56 : h.1 16128 56 = 0) (hW : 0 < W) (hW2 : W < 9223372036854775808) : ai_X (d + 1) 228 [.inr (.inr (32, 0, 16128)), .inr (.inl (Int64.ofNat W))] h = some ([.inl (zb (zwv B n s = W))], h) := by
  obtain ⟨-, -, k3, k4, -⟩ := hk
  rw [T228, h56, if_pos rfl, k3, k4]
  by_cases c : zkd B n s = 1
  · rw [if_pos ((zutk_i1 hb).mpr c)]
    by_cases c2 : zwv B n s = W
    · rw [if_pos ((zlgw hb hW hW2).mpr c2), zb_t c2]
      exact z_b1
    · rw [if_neg (fun q => c2 ((zlgw hb hW hW2).mp q)), zb_f c2]
      exact z_b0
  · rw [if_neg (fun q => c ((zutk_i1 hb).mp q)), zb_f (fun q => c (zwv_w hW q))]
    exact z_b0
theorem M229 {h : ai_H} {B : Nat → Nat} {n s : Nat} (d : Nat) (hb : ∀ i, B i < 256) (hk : zUk h B n s) (h56 : h.1 16128 56 = 0) : ai_X (d + 1) 229 [.inr (.inr (32, 0, 16128))] h = some ([.inl (zfact (zwv B n s))], h) := by
  obtain ⟨-, -, k3, k4, -⟩ := hk
  have l := fun W => zlgw (B := B) (n := n) (s := s) (W := W) hb
  have l1 : (lg_cmp (zutx B n s) 6491892 = 0) ↔ (zwv B n s = 6491892) := l 6491892 (by decide) (by decide)
  have l2 : (lg_cmp (zutx B n s) 923 = 0) ↔ (zwv B n s = 923) := l 923 (by decide) (by decide)
  have l3 : (lg_cmp (zutx B n s) 286610 = 0) ↔ (zwv B n s = 286610) := l 286610 (by decide) (by decide)
  have l4 : (lg_cmp (zutx B n s) 296854829 = 0) ↔ (zwv B n s = 296854829) := l 296854829 (by decide) (by decide)
  have l5 : (lg_cmp (zutx B n s) 2968 = 0) ↔ (zwv B n s = 2968) := l 2968 (by decide) (by decide)
  have l6 : (lg_cmp (zutx B n s) 70517 = 0) ↔ (zwv B n s = 70517) := l 70517 (by decide) (by decide)
  rw [T229, h56, if_pos rfl, k3, k4]
  by_cases c : zkd B n s = 1
  · rw [if_pos ((zutk_i1 hb).mpr c)]
    simp only [l1, l2, l3, l4, l5, l6]
    unfold zfact
    repeat' split
    all_goals rfl
  · rw [if_neg (fun q => c ((zutk_i1 hb).mp q)), zwv_k c]
    rfl
theorem M230 {h : ai_H} {B : Nat → Nat} {n s : Nat} (d : Nat) (hb : ∀ i, B i < 256) (hk : zUk h B n s) (h56 : h.1 16128 56 = 0) : ai_X (d + 1) 230 [.inr (.inr (32, 0, 16128))] h = some ([.inl (zwork (zwv B n s))], h) := by
  obtain ⟨-, -, k3, k4, -⟩ := hk
  have l := fun W => zlgw (B := B) (n := n) (s := s) (W := W) hb
  have l1 : (lg_cmp (zutx B n s) 14623 = 0) ↔ (zwv B n s = 14623) := l 14623 (by decide) (by decide)
  have l2 : (lg_cmp (zutx B n s) 321926 = 0) ↔ (zwv B n s = 321926) := l 321926 (by decide) (by decide)
  have l3 : (lg_cmp (zutx B n s) 10502357 = 0) ↔ (zwv B n s = 10502357) := l 10502357 (by decide) (by decide)
  have l4 : (lg_cmp (zutx B n s) 296854829 = 0) ↔ (zwv B n s = 296854829) := l 296854829 (by decide) (by decide)
  have l5 : (lg_cmp (zutx B n s) 276647 = 0) ↔ (zwv B n s = 276647) := l 276647 (by decide) (by decide)
  have l6 : (lg_cmp (zutx B n s) 1132 = 0) ↔ (zwv B n s = 1132) := l 1132 (by decide) (by decide)
  rw [T230, h56, if_pos rfl, k3, k4]
  by_cases c : zkd B n s = 1
  · rw [if_pos ((zutk_i1 hb).mpr c)]
    simp only [l1, l2, l3, l4, l5, l6]
    unfold zwork
    repeat' split
    all_goals rfl
  · rw [if_neg (fun q => c ((zutk_i1 hb).mp q)), zwv_k c]
    rfl
theorem M227 {h : ai_H} {s : Nat} (d : Nat) (h56 : h.1 16128 56 = 0) (h52 : h.1 16128 52 = nI s) : ai_X (d + 1) 227 [.inr (.inr (32, 0, 16128))] h = some ([], ai_st (ai_st h 16128 56 1) 16128 49 (nI s)) := by
  rw [T227, h56, if_pos rfl, z_nj (by decide), h52]
  exact z_b1
theorem M227w {h : ai_H} (d : Nat) (h56 : h.1 16128 56 = 1) : ai_X (d + 1) 227 [.inr (.inr (32, 0, 16128))] h = some ([], h) := by
  rw [T227, h56, if_neg (by decide)]
/-- a step written -/
def zstq (h : ai_H) (w : Nat) (x1 x2 x3 x4 : Int32) : ai_H := ai_st (ai_st (ai_st (ai_st (ai_st h 2064428 w x1) 2064429 w x2) 2064430 w x3) 2064431 w x4) 16128 42 (nI (w + 1))
theorem M231 {h : ai_H} {w : Nat} (d : Nat) (x1 x2 x3 x4 : Int32) (h42 : h.1 16128 42 = nI w) (hw : w < 20000) : ai_X (d + 1) 231 [.inr (.inr (32, 0, 16128)), .inl x1, .inl x2, .inl x3, .inl x4] h = some ([], zstq h w x1 x2 x3 x4) := by
  have n0 : ∀ {g : ai_H} {a j : Nat} {v : Int32}, ¬ a = 16128 → (ai_st g a j v).1 16128 42 = g.1 16128 42 := fun n => congrFun (z_ne (fun c => n c.symm)) 42
  rw [T231]
  simp only [n0 (show ¬ (2064428 : Nat) = 16128 by decide), n0 (show ¬ (2064429 : Nat) = 16128 by decide), n0 (show ¬ (2064430 : Nat) = 16128 by decide), n0 (show ¬ (2064431 : Nat) = 16128 by decide), h42, z_ix hw (show 20000 < 2147483648 by decide), nI_1]
  rfl
abbrev zSt := Int32 × Int32 × Int32 × Int32
/-- a step as the class writes it -/
def zenq (q : zSt) : Int32 := if q.1 = 0 then (zfcw q.2.1 * 3 + (if q.2.2.1 = 60 then 0 else if q.2.2.1 = 62 then 1 else 2)) * 100000 + q.2.2.2 else if q.1 = 1 then -1 else if q.1 = 2 then -2 else -3
abbrev zpre (B : Nat → Nat) (n s : Nat) : Prop := zwv B n s = 10631 ∨ (zkd B n s = 3 ∧ B s = 40)
abbrev zsg (B : Nat → Nat) (n s : Nat) : Prop := zkd B n s = 3 ∧ (B s = 60 ∨ B s = 62 ∨ B s = 61)
/-- how a condition is read: 0 one, 1 all, 2 all's rest, 3 any, 4 any's rest; o are open; from a token to a token: well or not, and the steps -/
def zpD (B : Nat → Nat) (n : Nat) : Nat → Nat → Nat → Nat → List zSt → Nat → Bool → Prop
  | 0, _, _, _, _, _, _ => False
  | f + 1, m, o, s, c, t, b => (m = 0 ∧ b = false ∧ c = [] ∧ t = s ∧ ¬ zpre B n s ∧ zfact (zwv B n s) = -1) ∨ (m = 0 ∧ b = false ∧ c = [] ∧ t = ztn B n s ∧ ¬ zpre B n s ∧ ¬ zfact (zwv B n s) = -1 ∧ ¬ zsg B n (ztn B n s)) ∨ (m = 0 ∧ b = false ∧ c = [] ∧ t = ztn B n (ztn B n s) ∧ ¬ zpre B n s ∧ ¬ zfact (zwv B n s) = -1 ∧ zsg B n (ztn B n s) ∧ ¬ (zkd B n (ztn B n (ztn B n s)) = 2 ∧ zte B n (ztn B n (ztn B n s)) ≤ ztn B n (ztn B n s) + 5)) ∨ (m = 0 ∧ b = true ∧ c = [(0, zfact (zwv B n s), nI (B (ztn B n s)), nI (znu B n (ztn B n (ztn B n s))))] ∧ t = ztn B n (ztn B n (ztn B n s)) ∧ ¬ zpre B n s ∧ ¬ zfact (zwv B n s) = -1 ∧ zsg B n (ztn B n s) ∧ (zkd B n (ztn B n (ztn B n s)) = 2 ∧ zte B n (ztn B n (ztn B n s)) ≤ ztn B n (ztn B n s) + 5)) ∨ (m = 0 ∧ b = false ∧ c = [] ∧ t = s ∧ zpre B n s ∧ 9 ≤ o) ∨ (m = 0 ∧ b = false ∧ zwv B n s = 10631 ∧ o < 9 ∧ zpD B n f 0 (o + 1) (ztn B n s) c t false) ∨ (m = 0 ∧ b = true ∧ zwv B n s = 10631 ∧ o < 9 ∧ ∃ c1, c = c1 ++ [(1, 0, 0, 0)] ∧ zpD B n f 0 (o + 1) (ztn B n s) c1 t true) ∨ (m = 0 ∧ b = false ∧ (zkd B n s = 3 ∧ B s = 40) ∧ o < 9 ∧ zpD B n f 3 (o + 1) (ztn B n s) c t false) ∨ (m = 0 ∧ b = false ∧ (zkd B n s = 3 ∧ B s = 40) ∧ o < 9 ∧ zpD B n f 3 (o + 1) (ztn B n s) c t true ∧ ¬ (zkd B n t = 3 ∧ B t = 41)) ∨ (m = 0 ∧ b = true ∧ (zkd B n s = 3 ∧ B s = 40) ∧ o < 9 ∧ ∃ t1, t = ztn B n t1 ∧ zpD B n f 3 (o + 1) (ztn B n s) c t1 true ∧ (zkd B n t1 = 3 ∧ B t1 = 41)) ∨ (m = 1 ∧ b = false ∧ zpD B n f 0 o s c t false) ∨ (m = 1 ∧ ∃ c1 c2 t1, c = c1 ++ c2 ∧ zpD B n f 0 o s c1 t1 true ∧ zpD B n f 2 o t1 c2 t b) ∨ (m = 2 ∧ b = true ∧ c = [] ∧ t = s ∧ ¬ zwv B n s = 1111) ∨ (m = 2 ∧ b = false ∧ zwv B n s = 1111 ∧ zpD B n f 0 o (ztn B n s) c t false) ∨ (m = 2 ∧ zwv B n s = 1111 ∧ ∃ c1 c2 t1, c = c1 ++ [(2, 0, 0, 0)] ++ c2 ∧ zpD B n f 0 o (ztn B n s) c1 t1 true ∧ zpD B n f 2 o t1 c2 t b) ∨ (m = 3 ∧ b = false ∧ zpD B n f 1 o s c t false) ∨ (m = 3 ∧ ∃ c1 c2 t1, c = c1 ++ c2 ∧ zpD B n f 1 o s c1 t1 true ∧ zpD B n f 4 o t1 c2 t b) ∨ (m = 4 ∧ b = true ∧ c = [] ∧ t = s ∧ ¬ zwv B n s = 423) ∨ (m = 4 ∧ b = false ∧ zwv B n s = 423 ∧ zpD B n f 1 o (ztn B n s) c t false) ∨ (m = 4 ∧ zwv B n s = 423 ∧ ∃ c1 c2 t1, c = c1 ++ [(3, 0, 0, 0)] ++ c2 ∧ zpD B n f 1 o (ztn B n s) c1 t1 true ∧ zpD B n f 4 o t1 c2 t b)
theorem zpD_len {B : Nat → Nat} {n : Nat} : ∀ {f m o s c t b}, zpD B n f m o s c t b → s ≤ n → s ≤ t ∧ t ≤ n ∧ c.length ≤ t - s ∧ (b = true → (m = 0 ∨ m = 1 ∨ m = 3) → s < t ∧ 1 ≤ c.length) := by
  have wd : ∀ {s W}, 0 < W → zwv B n s = W → ¬ zkd B n s = 0 := fun h1 h2 h3 => by rw [zwv_w h1 h2] at h3; cases h3
  have fc : ∀ {s}, ¬ zfact (zwv B n s) = -1 → ¬ zkd B n s = 0 := fun h1 h3 => by
    rw [zwv_k (by rw [h3]; decide)] at h1
    exact h1 rfl
  intro f
  induction f with
  | zero => intro m o s c t b h; exact h.elim
  | succ f ih =>
    intro m o s c t b h hs
    have a1 := ztn_le (B := B) hs
    have a2 := ztn_le (B := B) a1.2.1
    have a3 := ztn_le (B := B) a2.2.1
    rcases h with ⟨rfl, rfl, rfl, rfl, p1, p2⟩ | ⟨rfl, rfl, rfl, rfl, p1, p2, p3⟩ | ⟨rfl, rfl, rfl, rfl, p1, p2, p3, p4⟩ | ⟨rfl, rfl, rfl, rfl, p1, p2, p3, p4⟩ | ⟨rfl, rfl, rfl, rfl, p1, ho⟩ | ⟨rfl, rfl, p1, ho, r1⟩ | ⟨rfl, rfl, p1, ho, c1, rfl, r1⟩ | ⟨rfl, rfl, p1, ho, r1⟩ | ⟨rfl, rfl, p1, ho, r1, p2⟩ | ⟨rfl, rfl, p1, ho, t1, rfl, r1, p2⟩ | ⟨rfl, rfl, r1⟩ | ⟨rfl, c1, c2, t1, rfl, r1, r2⟩ | ⟨rfl, rfl, rfl, rfl, p1⟩ | ⟨rfl, rfl, p1, r1⟩ | ⟨rfl, p1, c1, c2, t1, rfl, r1, r2⟩ | ⟨rfl, rfl, r1⟩ | ⟨rfl, c1, c2, t1, rfl, r1, r2⟩ | ⟨rfl, rfl, rfl, rfl, p1⟩ | ⟨rfl, rfl, p1, r1⟩ | ⟨rfl, p1, c1, c2, t1, rfl, r1, r2⟩
    · exact ⟨Nat.le_refl _, hs, Nat.zero_le _, fun q => by cases q⟩
    · exact ⟨by omega, by omega, Nat.zero_le _, fun q => by cases q⟩
    · exact ⟨by omega, by omega, Nat.zero_le _, fun q => by cases q⟩
    · have := a1.2.2 (fc p2)
      refine ⟨by omega, by omega, ?_, fun _ _ => ⟨by omega, Nat.le_refl _⟩⟩
      show 1 ≤ _
      omega
    · exact ⟨Nat.le_refl _, hs, Nat.zero_le _, fun q => by cases q⟩
    · have := ih r1 a1.2.1
      exact ⟨by omega, by omega, by omega, fun q => by cases q⟩
    · have := ih r1 a1.2.1
      have := a1.2.2 (wd (by decide) p1)
      rw [List.length_append]
      refine ⟨by omega, by omega, ?_, fun _ _ => ⟨by omega, ?_⟩⟩
      · show _ + 1 ≤ _
        omega
      · show 1 ≤ _ + 1
        omega
    · have := ih r1 a1.2.1
      exact ⟨by omega, by omega, by omega, fun q => by cases q⟩
    · have := ih r1 a1.2.1
      exact ⟨by omega, by omega, by omega, fun q => by cases q⟩
    · have i1 := ih r1 a1.2.1
      have a2 := ztn_le (B := B) i1.2.1
      have := i1.2.2.2 rfl (Or.inr (Or.inr rfl))
      exact ⟨by omega, by omega, by omega, fun _ _ => ⟨by omega, by omega⟩⟩
    · have := ih r1 hs
      exact ⟨by omega, by omega, by omega, fun q => by cases q⟩
    · have i1 := ih r1 hs
      have i2 := ih r2 i1.2.1
      have := i1.2.2.2 rfl (Or.inl rfl)
      rw [List.length_append]
      exact ⟨by omega, by omega, by omega, fun _ _ => ⟨by omega, by omega⟩⟩
    · exact ⟨Nat.le_refl _, hs, Nat.zero_le _, fun _ q => by omega⟩
    · have := ih r1 a1.2.1
      exact ⟨by omega, by omega, by omega, fun q => by cases q⟩
    · have i1 := ih r1 a1.2.1
      have i2 := ih r2 i1.2.1
      have := a1.2.2 (wd (by decide) p1)
      rw [List.length_append, List.length_append]
      refine ⟨by omega, by omega, ?_, fun _ q => by omega⟩
      show _ + 1 + _ ≤ _
      omega
    · have := ih r1 hs
      exact ⟨by omega, by omega, by omega, fun q => by cases q⟩
    · have i1 := ih r1 hs
      have i2 := ih r2 i1.2.1
      have := i1.2.2.2 rfl (Or.inr (Or.inl rfl))
      rw [List.length_append]
      exact ⟨by omega, by omega, by omega, fun _ _ => ⟨by omega, by omega⟩⟩
    · exact ⟨Nat.le_refl _, hs, Nat.zero_le _, fun _ q => by omega⟩
    · have := ih r1 a1.2.1
      exact ⟨by omega, by omega, by omega, fun q => by cases q⟩
    · have i1 := ih r1 a1.2.1
      have i2 := ih r2 i1.2.1
      have := a1.2.2 (wd (by decide) p1)
      rw [List.length_append, List.length_append]
      refine ⟨by omega, by omega, ?_, fun _ q => by omega⟩
      show _ + 1 + _ ≤ _
      omega
theorem zpD_ex {B : Nat → Nat} {n : Nat} : ∀ k m o s, s ≤ n → m ≤ 4 → 5 * (n - s) + (if m = 0 then 0 else if m = 1 then 1 else if m = 3 then 2 else 0) < k → ∃ c t b, zpD B n k m o s c t b := by
  intro k
  induction k with
  | zero => intro m o s hs hm hk; exact absurd hk (Nat.not_lt_zero _)
  | succ k ih =>
    intro m o s hs hm hk
    have a1 := ztn_le (B := B) hs
    have sub : ∀ W, 0 < W → zwv B n s = W → s < ztn B n s := fun W h1 h2 => a1.2.2 (by rw [zwv_w h1 h2]; decide)
    have cs : m = 0 ∨ m = 1 ∨ m = 2 ∨ m = 3 ∨ m = 4 := by omega
    rcases cs with e | e | e | e | e <;> subst e
    · rw [if_pos rfl] at hk
      by_cases p : zpre B n s
      · by_cases ho : o < 9
        · have lt : s < ztn B n s := by
            rcases p with q | q
            · exact sub _ (by decide) q
            · exact a1.2.2 (by rw [q.1]; decide)
          by_cases p1 : zwv B n s = 10631
          · obtain ⟨c, t, b, r⟩ := ih 0 (o + 1) (ztn B n s) a1.2.1 (by decide) (by rw [if_pos rfl]; omega)
            cases b with
            | false => exact ⟨_, _, _, Or.inr (Or.inr (Or.inr (Or.inr (Or.inr (Or.inl ⟨rfl, rfl, p1, ho, r⟩)))))⟩
            | true => exact ⟨_, _, _, Or.inr (Or.inr (Or.inr (Or.inr (Or.inr (Or.inr (Or.inl ⟨rfl, rfl, p1, ho, _, rfl, r⟩))))))⟩
          · have p2 : zkd B n s = 3 ∧ B s = 40 := by
              rcases p with q | q
              · exact absurd q p1
              · exact q
            obtain ⟨c, t, b, r⟩ := ih 3 (o + 1) (ztn B n s) a1.2.1 (by decide) (by rw [if_neg (by decide), if_neg (by decide), if_pos rfl]; omega)
            cases b with
            | false => exact ⟨_, _, _, Or.inr (Or.inr (Or.inr (Or.inr (Or.inr (Or.inr (Or.inr (Or.inl ⟨rfl, rfl, p2, ho, r⟩)))))))⟩
            | true =>
              by_cases p3 : zkd B n t = 3 ∧ B t = 41
              · exact ⟨_, _, _, Or.inr (Or.inr (Or.inr (Or.inr (Or.inr (Or.inr (Or.inr (Or.inr (Or.inr (Or.inl ⟨rfl, rfl, p2, ho, _, rfl, r, p3⟩)))))))))⟩
              · exact ⟨_, _, _, Or.inr (Or.inr (Or.inr (Or.inr (Or.inr (Or.inr (Or.inr (Or.inr (Or.inl ⟨rfl, rfl, p2, ho, r, p3⟩))))))))⟩
        · exact ⟨_, _, _, Or.inr (Or.inr (Or.inr (Or.inr (Or.inl ⟨rfl, rfl, rfl, rfl, p, Nat.le_of_not_lt ho⟩))))⟩
      · by_cases p1 : zfact (zwv B n s) = -1
        · exact ⟨_, _, _, Or.inl ⟨rfl, rfl, rfl, rfl, p, p1⟩⟩
        · by_cases p2 : zsg B n (ztn B n s)
          · by_cases p3 : (zkd B n (ztn B n (ztn B n s)) = 2 ∧ zte B n (ztn B n (ztn B n s)) ≤ ztn B n (ztn B n s) + 5)
            · exact ⟨_, _, _, Or.inr (Or.inr (Or.inr (Or.inl ⟨rfl, rfl, rfl, rfl, p, p1, p2, p3⟩)))⟩
            · exact ⟨_, _, _, Or.inr (Or.inr (Or.inl ⟨rfl, rfl, rfl, rfl, p, p1, p2, p3⟩))⟩
          · exact ⟨_, _, _, Or.inr (Or.inl ⟨rfl, rfl, rfl, rfl, p, p1, p2⟩)⟩
    · rw [if_neg (by decide), if_pos rfl] at hk
      obtain ⟨c, t, b, r⟩ := ih 0 o s hs (by decide) (by rw [if_pos rfl]; omega)
      cases b with
      | false => exact ⟨_, _, _, Or.inr (Or.inr (Or.inr (Or.inr (Or.inr (Or.inr (Or.inr (Or.inr (Or.inr (Or.inr (Or.inl ⟨rfl, rfl, r⟩))))))))))⟩
      | true =>
        have l := zpD_len r hs
        have := l.2.2.2 rfl (Or.inl rfl)
        obtain ⟨c', t', b', r'⟩ := ih 2 o t l.2.1 (by decide) (by rw [if_neg (by decide), if_neg (by decide), if_neg (by decide)]; omega)
        exact ⟨_, _, _, Or.inr (Or.inr (Or.inr (Or.inr (Or.inr (Or.inr (Or.inr (Or.inr (Or.inr (Or.inr (Or.inr (Or.inl ⟨rfl, _, _, _, rfl, r, r'⟩)))))))))))⟩
    · by_cases p : zwv B n s = 1111
      · have lt := sub _ (by decide) p
        rw [if_neg (by decide), if_neg (by decide), if_neg (by decide)] at hk
        obtain ⟨c, t, b, r⟩ := ih 0 o (ztn B n s) a1.2.1 (by decide) (by rw [if_pos rfl]; omega)
        cases b with
        | false => exact ⟨_, _, _, Or.inr (Or.inr (Or.inr (Or.inr (Or.inr (Or.inr (Or.inr (Or.inr (Or.inr (Or.inr (Or.inr (Or.inr (Or.inr (Or.inl ⟨rfl, rfl, p, r⟩)))))))))))))⟩
        | true =>
          have l := zpD_len r a1.2.1
          obtain ⟨c', t', b', r'⟩ := ih 2 o t l.2.1 (by decide) (by rw [if_neg (by decide), if_neg (by decide), if_neg (by decide)]; omega)
          exact ⟨_, _, _, Or.inr (Or.inr (Or.inr (Or.inr (Or.inr (Or.inr (Or.inr (Or.inr (Or.inr (Or.inr (Or.inr (Or.inr (Or.inr (Or.inr (Or.inl ⟨rfl, p, _, _, _, rfl, r, r'⟩))))))))))))))⟩
      · exact ⟨_, _, _, Or.inr (Or.inr (Or.inr (Or.inr (Or.inr (Or.inr (Or.inr (Or.inr (Or.inr (Or.inr (Or.inr (Or.inr (Or.inl ⟨rfl, rfl, rfl, rfl, p⟩))))))))))))⟩
    · rw [if_neg (by decide), if_neg (by decide), if_pos rfl] at hk
      obtain ⟨c, t, b, r⟩ := ih 1 o s hs (by decide) (by rw [if_neg (by decide), if_pos rfl]; omega)
      cases b with
      | false => exact ⟨_, _, _, Or.inr (Or.inr (Or.inr (Or.inr (Or.inr (Or.inr (Or.inr (Or.inr (Or.inr (Or.inr (Or.inr (Or.inr (Or.inr (Or.inr (Or.inr (Or.inl ⟨rfl, rfl, r⟩)))))))))))))))⟩
      | true =>
        have l := zpD_len r hs
        have := l.2.2.2 rfl (Or.inr (Or.inl rfl))
        obtain ⟨c', t', b', r'⟩ := ih 4 o t l.2.1 (by decide) (by rw [if_neg (by decide), if_neg (by decide), if_neg (by decide)]; omega)
        exact ⟨_, _, _, Or.inr (Or.inr (Or.inr (Or.inr (Or.inr (Or.inr (Or.inr (Or.inr (Or.inr (Or.inr (Or.inr (Or.inr (Or.inr (Or.inr (Or.inr (Or.inr (Or.inl ⟨rfl, _, _, _, rfl, r, r'⟩))))))))))))))))⟩
    · by_cases p : zwv B n s = 423
      · have lt := sub _ (by decide) p
        rw [if_neg (by decide), if_neg (by decide), if_neg (by decide)] at hk
        obtain ⟨c, t, b, r⟩ := ih 1 o (ztn B n s) a1.2.1 (by decide) (by rw [if_neg (by decide), if_pos rfl]; omega)
        cases b with
        | false => exact ⟨_, _, _, Or.inr (Or.inr (Or.inr (Or.inr (Or.inr (Or.inr (Or.inr (Or.inr (Or.inr (Or.inr (Or.inr (Or.inr (Or.inr (Or.inr (Or.inr (Or.inr (Or.inr (Or.inr (Or.inl ⟨rfl, rfl, p, r⟩))))))))))))))))))⟩
        | true =>
          have l := zpD_len r a1.2.1
          obtain ⟨c', t', b', r'⟩ := ih 4 o t l.2.1 (by decide) (by rw [if_neg (by decide), if_neg (by decide), if_neg (by decide)]; omega)
          exact ⟨_, _, _, Or.inr (Or.inr (Or.inr (Or.inr (Or.inr (Or.inr (Or.inr (Or.inr (Or.inr (Or.inr (Or.inr (Or.inr (Or.inr (Or.inr (Or.inr (Or.inr (Or.inr (Or.inr (Or.inr (⟨rfl, p, _, _, _, rfl, r, r'⟩)))))))))))))))))))⟩
      · exact ⟨_, _, _, Or.inr (Or.inr (Or.inr (Or.inr (Or.inr (Or.inr (Or.inr (Or.inr (Or.inr (Or.inr (Or.inr (Or.inr (Or.inr (Or.inr (Or.inr (Or.inr (Or.inr (Or.inl ⟨rfl, rfl, rfl, rfl, p⟩)))))))))))))))))⟩
