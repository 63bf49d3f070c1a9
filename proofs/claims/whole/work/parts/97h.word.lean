/-! WORDS, SIGNS, NUMBERS: the class's -/
theorem zte_in {B : Nat → Nat} {n s m : Nat} (hm : m = 1 ∨ m = 2) (hk : zkd B n s = m) : ∀ i, s ≤ i → i < zte B n s → zkd B n i = m := by
  intro i h1 h2
  unfold zte at h2
  rw [hk, if_pos hm] at h2
  by_cases e : i = s
  · rw [e]; exact hk
  · exact of_decide_eq_true (zgo_in (n - (s + 1)) (s + 1) i (by omega) h2)
def z27 (B : Nat → Nat) (s : Nat) : Nat → Nat
  | 0 => 0
  | k + 1 => z27 B s k * 27 + (B (s + k) - 96)
theorem z27_inj {B C : Nat → Nat} {s t : Nat} : ∀ k l, (∀ i, i < k → 97 ≤ B (s + i) ∧ B (s + i) ≤ 122) → (∀ i, i < l → 97 ≤ C (t + i) ∧ C (t + i) ≤ 122) → z27 B s k = z27 C t l → k = l ∧ ∀ i, i < k → B (s + i) = C (t + i) := by
  intro k
  induction k with
  | zero =>
    intro l hB hC e
    cases l with
    | zero => exact ⟨rfl, fun i hi => absurd hi (Nat.not_lt_zero _)⟩
    | succ l =>
      exfalso
      have e : 0 = z27 C t l * 27 + (C (t + l) - 96) := e
      have := hC l (by omega)
      omega
  | succ k ih =>
    intro l hB hC e
    cases l with
    | zero =>
      exfalso
      have e : z27 B s k * 27 + (B (s + k) - 96) = 0 := e
      have := hB k (by omega)
      omega
    | succ l =>
      have e : z27 B s k * 27 + (B (s + k) - 96) = z27 C t l * 27 + (C (t + l) - 96) := e
      have b1 := hB k (by omega)
      have c1 := hC l (by omega)
      obtain ⟨e1, e2⟩ := ih l (fun i hi => hB i (by omega)) (fun i hi => hC i (by omega)) (by omega)
      subst e1
      refine ⟨rfl, fun i hi => ?_⟩
      by_cases c : i = k
      · subst c; omega
      · exact e2 i (by omega)
theorem z27_c {B C : Nat → Nat} {s t : Nat} : ∀ k, (∀ i, i < k → B (s + i) = C (t + i)) → z27 B s k = z27 C t k := by
  intro k
  induction k with
  | zero => intro _; rfl
  | succ k ih =>
    intro h
    show z27 B s k * 27 + (B (s + k) - 96) = z27 C t k * 27 + (C (t + k) - 96)
    rw [ih (fun i hi => h i (by omega)), h k (by omega)]
theorem z27_lt {B : Nat → Nat} {s : Nat} (h : ∀ i, B i < 256) : ∀ k, (∀ i, i < k → B (s + i) ≤ 122) → z27 B s k < 27 ^ k := by
  intro k
  induction k with
  | zero => intro _; exact Nat.one_pos
  | succ k ih =>
    intro hk
    show z27 B s k * 27 + (B (s + k) - 96) < 27 ^ (k + 1)
    have := ih (fun i hi => hk i (by omega))
    have := hk k (by omega)
    rw [Nat.pow_succ]
    omega
/-- the word at hand as a number; 0: none, or too long a one -/
def zwv (B : Nat → Nat) (n s : Nat) : Nat := if zkd B n s = 1 ∧ zte B n s ≤ s + 10 then z27 B s (zte B n s - s) else 0
def zlt (a : Nat) : Nat → Nat := fun i => ((ai_txts.getD a []).getD i 0).toInt.toNat
def zlit (a : Nat) : Nat := z27 (zlt a) 0 (ai_txts.getD a []).length
theorem zlt_ok : ∀ a, a < 19 → (1 ≤ (ai_txts.getD a []).length ∧ (ai_txts.getD a []).length ≤ 7) ∧ ∀ i, i < (ai_txts.getD a []).length → (97 ≤ zlt a i ∧ zlt a i ≤ 122) ∧ (ai_txts.getD a []).getD i 0 = nI (zlt a i) ∧ ai_i2c (((ai_txts.getD a []).getD i 0) &&& 255) = (ai_txts.getD a []).getD i 0 ∧ ai_i2c ((ai_txts.getD a []).getD i 0) = (ai_txts.getD a []).getD i 0 := by decide +kernel
theorem X314 {a : Nat} {h : ai_H} (d : Nat) : ai_X (d + 2) 314 [.inr (.inr (6, 0, a))] h = some ([.inl (nI (ai_txts.getD a []).length >>> 0)], h) := by
  rw [T314, T316, if_neg (by decide), z_b0]
  rfl
theorem X315 {a i : Nat} {h : ai_H} (d : Nat) (ha : a < 19) (hi : i < (ai_txts.getD a []).length) : ai_X (d + 4) 315 [.inr (.inr (6, 0, a)), .inl (nI i)] h = some ([.inl (nI (zlt a i))], h) := by
  obtain ⟨⟨l1, l2⟩, l3⟩ := zlt_ok a ha
  obtain ⟨-, p1, p2, p3⟩ := l3 i hi
  rw [T315, T317, if_neg (by decide), if_pos rfl, z_b1]
  simp only [z_bi]
  rw [if_neg (by decide), T319, T318, T326, if_neg (by rw [show (0 : Int32) = nI 0 from rfl, nI_ltI (by omega) (by omega)]; omega), if_pos (by rw [nI_ltI (by omega) (by omega)]; exact hi)]
  simp only [z_bi, z_bv]
  rw [z_ix hi (by omega), p2, p3, if_pos rfl, z_bi, p3, if_pos rfl, p1]
theorem X66 {h : ai_H} {B : Nat → Nat} {n s a W : Nat} (d : Nat) (hb : ∀ i, B i < 256) (hn : n ≤ 500) (hs : s ≤ n) (ht : zTb h B n) (hk : zTk h B n s) (ha : a < 19) (hW : zlit a = W) : ai_X (d + 5) 66 [.inr (.inr (27, 0, 16387)), .inr (.inr (6, 0, a))] h = some ([.inl (zb (zwv B n s = W))], h) := by
  obtain ⟨⟨l1, l2⟩, l3⟩ := zlt_ok a ha
  obtain ⟨k2, k4, k5⟩ := hk
  obtain ⟨u1, u2, u3⟩ := zte_le (B := B) hs
  have kl := zkd_le (B := B) (n := n) (p := s)
  obtain ⟨L, hL⟩ : ∃ L, (ai_txts.getD a []).length = L := ⟨_, rfl⟩
  obtain ⟨e, he⟩ : ∃ e, zte B n s = e := ⟨_, rfl⟩
  rw [hL] at l1 l2 l3
  rw [he] at k4 u1 u2 u3
  have sh : nI L >>> 0 = nI L := by
    have : ∀ L, L < 8 → nI L >>> 0 = nI L := by decide +kernel
    exact this L (by omega)
  have hWL : W = z27 (zlt a) 0 L := by rw [← hW, ← hL]; rfl
  rw [T66, k5]
  by_cases c : zkd B n s = 1
  · have inn := zte_in (Or.inl rfl) c
    rw [he] at inn
    have let_ : ∀ i, i < e - s → 97 ≤ B (s + i) ∧ B (s + i) ≤ 122 := fun i hi => (zkd_1.mp (inn (s + i) (by omega) (by omega))).2
    rw [if_pos (by rw [c]; rfl), X314, hL, sh, z_bi, k4, k2, nI_subN (by omega) (by omega)]
    by_cases c2 : e - s = L
    · rw [if_pos (by rw [c2])]
      have K : ∀ q i, i + q = L → (∀ j, j < i → B (s + j) = zlt a j) → ai_E (d + 4) 66 28 [some (.inr (.inr (27, 0, 16387))), some (.inr (.inr (6, 0, a))), some (.inl (nI i))] [] h = some ([.inl (zb (∀ j, j < L → B (s + j) = zlt a j))], h) := by
        intro q
        induction q with
        | zero =>
          intro i hi hj
          have : i = L := by omega
          subst this
          rw [T66_28, X314, hL, sh, z_bi, if_pos (by rw [nI_leI (by omega) (by omega)]; omega), zb_t hj]
          exact z_b1
        | succ q ih =>
          intro i hi hj
          rw [T66_28, X314, hL, sh, z_bi, if_neg (by rw [nI_leI (by omega) (by omega)]; omega), k2, nI_add, z_ix (by omega) (by decide), X315 d ha (by rw [hL]; omega), z_bi, ht.2 (s + i) (by omega)]
          have hbi := hb (s + i)
          have li := (l3 i (by omega)).1
          by_cases c3 : B (s + i) = zlt a i
          · rw [if_pos (by rw [c3]), nI_1]
            exact ih (i + 1) (by omega) (fun j hj2 => by
              by_cases e : j = i
              · rw [e]; exact c3
              · exact hj j (by omega))
          · rw [if_neg (by rw [nI_eq (by omega) (by omega)]; exact c3), zb_f (fun w => c3 (w i (by omega)))]
            exact z_b0
      have := K L 0 (Nat.zero_add _) (fun j hj => absurd hj (Nat.not_lt_zero _))
      rw [show (0 : Int32) = nI 0 from rfl, this]
      have iff : (∀ j, j < L → B (s + j) = zlt a j) ↔ zwv B n s = W := by
        unfold zwv
        rw [he, if_pos ⟨c, by omega⟩, hWL, c2]
        constructor
        · intro w
          exact z27_c L (fun i hi => by rw [Nat.zero_add]; exact w i hi)
        · intro w j hj
          have := (z27_inj L L (fun i hi => let_ i (by omega)) (fun i hi => by rw [Nat.zero_add]; exact (l3 i hi).1) w).2 j hj
          rw [Nat.zero_add] at this
          exact this
      rw [zb_c iff]
    · rw [if_neg (by rw [nI_eq (by omega) (by omega)]; exact c2), z_b0, zb_f]
      unfold zwv
      rw [he]
      intro w
      by_cases c3 : e ≤ s + 10
      · rw [if_pos ⟨c, c3⟩, hWL] at w
        exact c2 (z27_inj (e - s) L let_ (fun i hi => by rw [Nat.zero_add]; exact (l3 i hi).1) w).1
      · rw [if_neg (fun q => c3 q.2), hWL] at w
        obtain ⟨L', rfl⟩ : ∃ L', L = L' + 1 := ⟨L - 1, by omega⟩
        have w : 0 = z27 (zlt a) 0 L' * 27 + (zlt a (0 + L') - 96) := w
        have := (l3 L' (by omega)).1
        rw [Nat.zero_add] at w
        omega
  · rw [if_neg (by rw [show (1 : Int32) = nI 1 from rfl, nI_eq (by omega) (by omega)]; exact c), z_b0, zb_f]
    unfold zwv
    rw [if_neg (fun q => c q.1), hWL]
    intro w
    obtain ⟨L', rfl⟩ : ∃ L', L = L' + 1 := ⟨L - 1, by omega⟩
    have w : 0 = z27 (zlt a) 0 L' * 27 + (zlt a (0 + L') - 96) := w
    have := (l3 L' (by omega)).1
    rw [Nat.zero_add] at w
    omega
theorem X67 {h : ai_H} {B : Nat → Nat} {n s c : Nat} (d : Nat) (hb : ∀ i, B i < 256) (hn : n ≤ 500) (ht : zTb h B n) (hk : zTk h B n s) (hc : c < 256) : ai_X (d + 1) 67 [.inr (.inr (27, 0, 16387)), .inl (nI c)] h = some ([.inl (zb (zkd B n s = 3 ∧ B s = c))], h) := by
  have kl := zkd_le (B := B) (n := n) (p := s)
  have hbs := hb s
  rw [T67, hk.2.2, hk.1]
  by_cases e : zkd B n s = 3
  · have := (zkd_3.mp e).1
    rw [if_pos (by rw [e]; rfl), z_ix (by omega) (by decide), ht.2 s this]
    by_cases e2 : B s = c
    · rw [if_pos (by rw [e2]), zb_t ⟨e, e2⟩]
      exact z_b1
    · rw [if_neg (by rw [nI_eq (by omega) (by omega)]; exact e2), zb_f (fun q => e2 q.2)]
      exact z_b0
  · rw [if_neg (by rw [show (3 : Int32) = nI 3 from rfl, nI_eq (by omega) (by omega)]; exact e), zb_f (fun q => e q.1)]
    exact z_b0
def z10n (B : Nat → Nat) (s : Nat) : Nat → Nat
  | 0 => 0
  | k + 1 => z10n B s k * 10 + (B (s + k) - 48)
theorem z10n_lt {B : Nat → Nat} {s : Nat} : ∀ k, (∀ i, i < k → B (s + i) ≤ 57) → z10n B s k < 10 ^ k := by
  intro k
  induction k with
  | zero => intro _; exact Nat.one_pos
  | succ k ih =>
    intro hk
    show z10n B s k * 10 + (B (s + k) - 48) < 10 ^ (k + 1)
    have := ih (fun i hi => hk i (by omega))
    have := hk k (by omega)
    rw [Nat.pow_succ]
    omega
/-- the number at hand -/
def znu (B : Nat → Nat) (n s : Nat) : Nat := z10n B s (zte B n s - s)
theorem znu_lt {B : Nat → Nat} {n s : Nat} (h : zkd B n s = 2) (he : zte B n s ≤ s + 5) : znu B n s < 100000 := by
  have inn := zte_in (Or.inr rfl) h
  have := z10n_lt (B := B) (s := s) (zte B n s - s) (fun i hi => (zkd_2.mp (inn (s + i) (by omega) (by omega))).2.2)
  have p := Nat.pow_le_pow_right (n := 10) (by decide) (show zte B n s - s ≤ 5 by omega)
  unfold znu
  omega
theorem X65 {h : ai_H} {B : Nat → Nat} {n s : Nat} (d : Nat) (hb : ∀ i, B i < 256) (hn : n ≤ 500) (hs : s ≤ n) (ht : zTb h B n) (hk : zTk h B n s) (h2 : zkd B n s = 2) (h5 : zte B n s ≤ s + 5) : ai_X (d + 1) 65 [.inr (.inr (27, 0, 16387))] h = some ([.inl (nI (znu B n s))], h) := by
  obtain ⟨k2, k4, k5⟩ := hk
  obtain ⟨u1, u2, u3⟩ := zte_le (B := B) hs
  have inn := zte_in (Or.inr rfl) h2
  have K : ∀ q i, i + q = zte B n s - s → ai_E d 65 7 [some (.inr (.inr (27, 0, 16387))), some (.inl (nI (z10n B s i))), some (.inl (nI (s + i)))] [] h = some ([.inl (nI (znu B n s))], h) := by
    intro q
    induction q with
    | zero =>
      intro i hi
      rw [T65_7, k4, if_pos (by rw [nI_leI (by omega) (by omega)]; omega), show i = zte B n s - s by omega]
      rfl
    | succ q ih =>
      intro i hi
      have dg := (zkd_2.mp (inn (s + i) (by omega) (by omega))).2
      have lt := z10n_lt (B := B) (s := s) i (fun j hj => (zkd_2.mp (inn (s + j) (by omega) (by omega))).2.2)
      have p := Nat.pow_le_pow_right (n := 10) (by decide) (show i ≤ 4 by omega)
      rw [T65_7, k4, if_neg (by rw [nI_leI (by omega) (by omega)]; omega), if_neg (by rw [show (500 : Int32) = nI 500 from rfl, nI_leI (by omega) (by omega)]; omega), z_ix (by omega) (by decide), ht.2 (s + i) (by omega), show (10 : Int32) = nI 10 from rfl, pk_mul, nI_add, show (48 : Int32) = nI 48 from rfl, nI_subN (by omega) (by omega), nI_1]
      have := ih (i + 1) (by omega)
      rw [show z10n B s (i + 1) = z10n B s i * 10 + B (s + i) - 48 by
        show z10n B s i * 10 + (B (s + i) - 48) = _
        omega] at this
      exact this
  rw [T65, k2]
  exact K (zte B n s - s) 0 (Nat.zero_add _)
theorem X62 {h : ai_H} {c : Nat} (d : Nat) (v : Int32) (h7 : h.1 16387 7 = nI c) (hc : c < 500) : ai_X (d + 1) 62 [.inr (.inr (27, 0, 16387)), .inl v] h = some ([], ai_st (ai_st h 2097548 c v) 16387 7 (nI (c + 1))) := by
  rw [T62, h7, if_neg (by rw [nI_leI (by omega) (by omega)]; omega), z_ix hc (by decide), z_ne (by decide), h7, nI_1]
def zfact (w : Nat) : Int32 := if w = 6491892 then 0 else if w = 923 then 1 else if w = 286610 then 2 else if w = 296854829 then 3 else if w = 2968 then 4 else if w = 70517 then 5 else -1
def zwork (w : Nat) : Int32 := if w = 14623 then 0 else if w = 321926 then 1 else if w = 10502357 then 2 else if w = 296854829 then 3 else if w = 276647 then 4 else if w = 1132 then 5 else -1
def zverd (t : Prop) [Decidable t] (w : Nat) : Int32 := if w = (if t then 11716 else 2230) then 1 else if w = (if t then 261071456 else 10413527) then 0 else -1
theorem zb_if {p : Prop} [Decidable p] {α : Type} {x y : α} : (if zb p = 0 then x else y) = if p then y else x := by
  by_cases c : p
  · rw [zb_t c, if_neg (by decide), if_pos c]
  · rw [zb_f c, if_pos rfl, if_neg c]
theorem X64 {h : ai_H} {B : Nat → Nat} {n s : Nat} (d : Nat) (hb : ∀ i, B i < 256) (hn : n ≤ 500) (hs : s ≤ n) (ht : zTb h B n) (hk : zTk h B n s) : ai_X (d + 6) 64 [.inr (.inr (27, 0, 16387))] h = some ([.inl (zfact (zwv B n s))], h) := by
  have w := fun a W => X66 (a := a) (W := W) d hb hn hs ht hk
  have w12 := w 12 6491892 (by decide) (by decide)
  have w13 := w 13 923 (by decide) (by decide)
  have w14 := w 14 286610 (by decide) (by decide)
  have w7 := w 7 296854829 (by decide) (by decide)
  have w15 := w 15 2968 (by decide) (by decide)
  have w16 := w 16 70517 (by decide) (by decide)
  rw [T64]
  simp only [w12, w13, w14, w7, w15, w16, z_bi, zb_if]
  unfold zfact
  repeat' split
  all_goals rfl
theorem X63 {h : ai_H} {B : Nat → Nat} {n s : Nat} (d : Nat) (hb : ∀ i, B i < 256) (hn : n ≤ 500) (hs : s ≤ n) (ht : zTb h B n) (hk : zTk h B n s) : ai_X (d + 6) 63 [.inr (.inr (27, 0, 16387))] h = some ([.inl (zwork (zwv B n s))], h) := by
  have w := fun a W => X66 (a := a) (W := W) d hb hn hs ht hk
  have w4 := w 4 14623 (by decide) (by decide)
  have w5 := w 5 321926 (by decide) (by decide)
  have w6 := w 6 10502357 (by decide) (by decide)
  have w7 := w 7 296854829 (by decide) (by decide)
  have w8 := w 8 276647 (by decide) (by decide)
  have w9 := w 9 1132 (by decide) (by decide)
  rw [T63]
  simp only [w4, w5, w6, w7, w8, w9, z_bi, zb_if]
  unfold zwork
  repeat' split
  all_goals rfl
theorem X57 {h : ai_H} {B : Nat → Nat} {n s : Nat} (d : Nat) (t : Prop) [Decidable t] (hb : ∀ i, B i < 256) (hn : n ≤ 500) (hs : s ≤ n) (ht : zTb h B n) (hk : zTk h B n s) : ai_X (d + 6) 57 [.inr (.inr (27, 0, 16387)), .inl (zb t)] h = some ([.inl (zverd t (zwv B n s))], h) := by
  have w := fun a W => X66 (a := a) (W := W) d hb hn hs ht hk
  have w0 := w 0 11716 (by decide) (by decide)
  have w1 := w 1 2230 (by decide) (by decide)
  have w2 := w 2 261071456 (by decide) (by decide)
  have w3 := w 3 10413527 (by decide) (by decide)
  rw [T57]
  simp only [w0, w1, w2, w3, z_bi, zb_if]
  unfold zverd
  by_cases c : t
  · simp only [c, if_true]
    repeat' split
    all_goals rfl
  · simp only [c, if_false]
    repeat' split
    all_goals rfl
