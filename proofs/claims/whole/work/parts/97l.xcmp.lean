/-! A CONDITION, AS THE CLASS READS IT -/
def zQp (q j : Nat) : Prop := (q = 16387 ∧ (j = 2 ∨ j = 3 ∨ j = 4 ∨ j = 9)) ∨ q = 2097550
def zCo (h : ai_H) (l : List zSt) : Prop := h.1 16387 9 = nI l.length ∧ ∀ i v, l[i]? = some v → h.1 2097550 i = zenq v
theorem zQk_p : ∀ q j, zQk q j → zQp q j := fun q j h => Or.inl ⟨h.1, by rcases h.2 with e | e | e <;> omega⟩
theorem zTb_F {h h' : ai_H} {B : Nat → Nat} {n : Nat} (f : zF zQp h h') (t : zTb h B n) : zTb h' B n := zTb_c (fun q j hq => f.1 q j (by unfold zQp; omega)) t
theorem zCo_k {h h' : ai_H} {l : List zSt} (f : zF zQk h h') (t : zCo h l) : zCo h' l := by
  refine ⟨(f.1 16387 9 ?_).trans t.1, fun i v hi => (f.1 2097550 i ?_).trans (t.2 i v hi)⟩
  · unfold zQk; omega
  · unfold zQk; omega
theorem X67D {h : ai_H} {B : Nat → Nat} {n s D : Nat} (c : Nat) (hD : 1 ≤ D) (hb : ∀ i, B i < 256) (hk : zTk h B n s) (hc : c = 60 ∨ c = 62 ∨ c = 61 ∨ c = 59 ∨ c = 40 ∨ c = 41) : ai_X D 67 [.inr (.inr (27, 0, 16387)), .inl (nI c)] h = some ([.inl (zb (zkd B n s = 3 ∧ B s = c))], h) := by
  obtain ⟨e, rfl⟩ : ∃ e, D = e + 1 := ⟨D - 1, by omega⟩
  exact X67 e hb hk hc
theorem X68D {h : ai_H} {B : Nat → Nat} {n s D : Nat} (hD : 1 ≤ D) (hn : n ≤ 500) (ht : zTb h B n) (hk : zTk h B n s) : ∃ h', ai_X D 68 [.inr (.inr (27, 0, 16387))] h = some ([], h') ∧ zTk h' B n (ztn B n s) ∧ zTb h' B n ∧ zF zQk h h' := by
  obtain ⟨e, rfl⟩ : ∃ e, D = e + 1 := ⟨D - 1, by omega⟩
  obtain ⟨h', a1, a2, a3⟩ := X68 e hn ht hk
  exact ⟨h', a1, a2, zTb_F (zF_mono a3 zQk_p) ht, a3⟩
theorem X62D {h : ai_H} {B : Nat → Nat} {n s D : Nat} {l : List zSt} (q : zSt) (hD : 1 ≤ D) (ht : zTb h B n) (hk : zTk h B n s) (hc : zCo h l) (hl : l.length < 500) : ∃ h', ai_X D 62 [.inr (.inr (27, 0, 16387)), .inl (zenq q)] h = some ([], h') ∧ zTk h' B n s ∧ zTb h' B n ∧ zCo h' (l ++ [q]) ∧ zF zQp h h' := by
  obtain ⟨e, rfl⟩ : ∃ e, D = e + 1 := ⟨D - 1, by omega⟩
  have f : zF zQp h (ai_st (ai_st h 2097550 l.length (zenq q)) 16387 9 (nI (l.length + 1))) := zF_st (zF_st zF_rf (Or.inr rfl)) (Or.inl ⟨rfl, Or.inr (Or.inr (Or.inr rfl))⟩)
  refine ⟨_, X62 e (zenq q) hc.1 hl, zTk_c (fun j hj => by rw [z_nj (by omega), z_ne (by decide)]) hk, zTb_F f ht, ⟨?_, fun i v hi => ?_⟩, f⟩
  · rw [z_stS, List.length_append]; rfl
  · rw [z_ne (by decide), z_st1]
    by_cases c : i = l.length
    · rw [if_pos ⟨rfl, c⟩]
      rw [c, List.getElem?_append_right (Nat.le_refl _), Nat.sub_self] at hi
      cases hi
      rfl
    · rw [if_neg (fun w => c w.2)]
      have : i < l.length := by
        have := List.getElem?_eq_some_iff.mp hi
        obtain ⟨w, -⟩ := this
        rw [List.length_append] at w
        have w : i < l.length + 1 := w
        omega
      rw [List.getElem?_append_left this] at hi
      exact hc.2 i v hi
theorem z_sel {α : Type} {p a b : Prop} [Decidable p] [Decidable a] [Decidable b] {X Y : α} : (if p then X else if a then Y else if b then X else Y) = if p ∨ (¬ a ∧ b) then X else Y := by
  by_cases c0 : p
  · rw [if_pos c0, if_pos (Or.inl c0)]
  · by_cases c1 : a
    · rw [if_neg c0, if_pos c1, if_neg (fun q => by rcases q with w | w; exact c0 w; exact w.1 c1)]
    · by_cases c2 : b
      · rw [if_neg c0, if_neg c1, if_pos c2, if_pos (Or.inr ⟨c1, c2⟩)]
      · rw [if_neg c0, if_neg c1, if_neg c2, if_neg (fun q => by rcases q with w | w; exact c0 w; exact c2 w.2)]
/-- one comparison -/
theorem X61 {h : ai_H} {B : Nat → Nat} {n s D : Nat} {l : List zSt} (hD : 7 ≤ D) (hb : ∀ i, B i < 256) (hn : n ≤ 500) (hs : s ≤ n) (ht : zTb h B n) (hk : zTk h B n s) (hc : zCo h l) (hl : l.length ≤ s) :
    (zfact (zwv B n s) = -1 → ai_X D 61 [.inr (.inr (27, 0, 16387))] h = some ([.inl 0], h)) ∧
    (¬ zfact (zwv B n s) = -1 → ¬ zsg B n (ztn B n s) → ∃ h', ai_X D 61 [.inr (.inr (27, 0, 16387))] h = some ([.inl 0], h') ∧ zTk h' B n (ztn B n s) ∧ zF zQp h h') ∧
    (¬ zfact (zwv B n s) = -1 → zsg B n (ztn B n s) → ¬ (zkd B n (ztn B n (ztn B n s)) = 2 ∧ zte B n (ztn B n (ztn B n s)) ≤ ztn B n (ztn B n s) + 5) → ∃ h', ai_X D 61 [.inr (.inr (27, 0, 16387))] h = some ([.inl 0], h') ∧ zTk h' B n (ztn B n (ztn B n s)) ∧ zF zQp h h') ∧
    (¬ zfact (zwv B n s) = -1 → zsg B n (ztn B n s) → (zkd B n (ztn B n (ztn B n s)) = 2 ∧ zte B n (ztn B n (ztn B n s)) ≤ ztn B n (ztn B n s) + 5) → ∃ h', ai_X D 61 [.inr (.inr (27, 0, 16387))] h = some ([.inl 1], h') ∧ zTk h' B n (ztn B n (ztn B n (ztn B n s))) ∧ zCo h' (l ++ [(0, zfact (zwv B n s), nI (B (ztn B n s)), nI (znu B n (ztn B n (ztn B n s))))]) ∧ zF zQp h h') := by
  obtain ⟨e, rfl⟩ : ∃ e, D = e + 7 := ⟨D - 7, by omega⟩
  have a1 := ztn_le (B := B) hs
  have a2 := ztn_le (B := B) a1.2.1
  have a3 := ztn_le (B := B) a2.2.1
  obtain ⟨h1, b1, b2, b3, b4⟩ := X68D (D := e + 6) (by omega) hn ht hk
  have s60 : ai_X (e + 6) 67 [.inr (.inr (27, 0, 16387)), .inl 60] h1 = _ := X67D 60 (by omega) hb b2 (by decide)
  have s62 : ai_X (e + 6) 67 [.inr (.inr (27, 0, 16387)), .inl 62] h1 = _ := X67D 62 (by omega) hb b2 (by decide)
  have s61 : ai_X (e + 6) 67 [.inr (.inr (27, 0, 16387)), .inl 61] h1 = _ := X67D 61 (by omega) hb b2 (by decide)
  obtain ⟨h2, c1, c2, c3, c4⟩ := X68D (D := e + 6) (by omega) hn b3 b2
  have f1 := zF_mono b4 zQk_p
  have f2 := zF_tr f1 (zF_mono c4 zQk_p)
  have E : ∀ sg : Int32, ¬ sg = -1 → sg = (if B (ztn B n s) = 60 then 0 else if B (ztn B n s) = 62 then 1 else 2) → ¬ zfact (zwv B n s) = -1 →
      (¬ (zkd B n (ztn B n (ztn B n s)) = 2 ∧ zte B n (ztn B n (ztn B n s)) ≤ ztn B n (ztn B n s) + 5) → ∃ h', ai_E (e + 6) 61 68 [some (.inr (.inr (27, 0, 16387))), some (.inl (zfcw (zfact (zwv B n s)))), none] [.inl sg] h1 = some ([.inl 0], h') ∧ zTk h' B n (ztn B n (ztn B n s)) ∧ zF zQp h h') ∧
      ((zkd B n (ztn B n (ztn B n s)) = 2 ∧ zte B n (ztn B n (ztn B n s)) ≤ ztn B n (ztn B n s) + 5) → ∃ h', ai_E (e + 6) 61 68 [some (.inr (.inr (27, 0, 16387))), some (.inl (zfcw (zfact (zwv B n s)))), none] [.inl sg] h1 = some ([.inl 1], h') ∧ zTk h' B n (ztn B n (ztn B n (ztn B n s))) ∧ zCo h' (l ++ [(0, zfact (zwv B n s), nI (B (ztn B n s)), nI (znu B n (ztn B n (ztn B n s))))]) ∧ zF zQp h h') := by
    intro sg hsg1 hsg2 hf
    have kl := zkd_le (B := B) (n := n) (p := ztn B n (ztn B n s))
    have te := zte_le (B := B) a2.2.1
    obtain ⟨kk, kl5, k4, k44⟩ := zTl hn c3 c2
    have z20 : h2.1 16387 3 = 20 ↔ zkd B n (ztn B n (ztn B n s)) = 2 := (zsym hb c2 (show 20 < 400 by decide)).trans zsy_2
    rw [T61_68, if_neg hsg1, c1, z_bv]
    by_cases q1 : zkd B n (ztn B n (ztn B n s)) = 2
    · rw [if_pos (z20.mpr q1), k4, z_ix (show kk < 501 by omega) (by decide), k44]
      by_cases q2 : zte B n (ztn B n (ztn B n s)) ≤ ztn B n (ztn B n s) + 5
      · refine ⟨fun w => absurd ⟨q1, q2⟩ w, fun _ => ?_⟩
        rw [if_pos (by rw [show (5 : Int32) = nI 5 from rfl, nI_leI (by omega) (by omega)]; omega)]
        have x65 : ai_X (e + 6) 65 [.inr (.inr (27, 0, 16387))] h2 = _ := X65 (e + 5) hb hn c3 c2 q1 q2
        have lw : l.length < 500 := by
          have : ¬ zkd B n s = 0 := fun w => hf (by rw [zwv_k (by rw [w]; decide)]; rfl)
          have := a1.2.2 this
          omega
        obtain ⟨h3, d1, d2, d3, d4, d5⟩ := X62D (D := e + 6) (0, zfact (zwv B n s), nI (B (ztn B n s)), nI (znu B n (ztn B n (ztn B n s)))) (by omega) c3 c2 (zCo_k c4 (zCo_k b4 hc)) lw
        obtain ⟨h4, g1, g2, g3, g4⟩ := X68D (D := e + 6) (by omega) hn d3 d2
        refine ⟨h4, ?_, g2, zCo_k g4 d4, zF_tr f2 (zF_tr d5 (zF_mono g4 zQk_p))⟩
        have ev : ((zfcw (zfact (zwv B n s)) * 3 + sg) * 100000 + nI (znu B n (ztn B n (ztn B n s)))) = zenq (0, zfact (zwv B n s), nI (B (ztn B n s)), nI (znu B n (ztn B n (ztn B n s)))) := by
          unfold zenq
          dsimp only
          rw [if_pos rfl, hsg2]
          have hbb := hb (ztn B n s)
          have i60 : (nI (B (ztn B n s)) = 60) ↔ B (ztn B n s) = 60 := by rw [show (60 : Int32) = nI 60 from rfl, nI_eq (by omega) (by omega)]
          have i62 : (nI (B (ztn B n s)) = 62) ↔ B (ztn B n s) = 62 := by rw [show (62 : Int32) = nI 62 from rfl, nI_eq (by omega) (by omega)]
          simp only [i60, i62]
        rw [x65, z_bi, T31, z_bi, ev, d1, z_bv, g1, z_bv]
        exact z_b1
      · refine ⟨fun _ => ⟨h2, ?_, c2, f2⟩, fun w => absurd w.2 q2⟩
        rw [if_neg (by rw [show (5 : Int32) = nI 5 from rfl, nI_leI (by omega) (by omega)]; omega)]
        exact z_b0
    · refine ⟨fun _ => ⟨h2, ?_, c2, f2⟩, fun w => absurd w.1 q1⟩
      rw [if_neg (fun w => q1 (z20.mp w))]
      exact z_b0
  have T : ai_X (e + 7) 61 [.inr (.inr (27, 0, 16387))] h = _ := T61 (e + 6) h
  have lt := zsy_lt (n := n) (s := s) hb
  have S : (nI (zsy B n s) = 3 ∨ (¬ nI (zsy B n s) < 6 ∧ nI (zsy B n s) ≤ 10)) ↔ ¬ zfact (zwv B n s) = -1 := by
    rw [zsy_f.1, show (3 : Int32) = nI 3 from rfl, show (6 : Int32) = nI 6 from rfl, show (10 : Int32) = nI 10 from rfl, nI_eq (by omega) (by omega), nI_ltI (by omega) (by omega), nI_leI (by omega) (by omega)]
    omega
  rw [T, hk.2.1, z_sel]
  by_cases p : zfact (zwv B n s) = -1
  · rw [if_neg (fun q => S.mp q p)]
    exact ⟨fun _ => z_b0, fun w => absurd p w, fun w => absurd p w, fun w => absurd p w⟩
  · rw [if_pos (S.mpr p), zsy_f.2 p, b1, z_bv, s60, z_bi, s62, z_bi, s61, z_bi]
    simp only [zb_if]
    suffices H : _ ∧ _ ∧ _ from ⟨fun w => absurd w p, fun _ => H.1, fun _ => H.2.1, fun _ => H.2.2⟩
    refine ⟨?_, ?_⟩
    · intro w
      rw [if_neg (fun q => w ⟨q.1, Or.inl q.2⟩), if_neg (fun q => w ⟨q.1, Or.inr (Or.inl q.2)⟩), if_neg (fun q => w ⟨q.1, Or.inr (Or.inr q.2)⟩), T61_68, if_pos rfl]
      exact ⟨h1, z_b0, b2, f1⟩
    · have R : zsg B n (ztn B n s) → ∃ sg : Int32, ¬ sg = -1 ∧ sg = (if B (ztn B n s) = 60 then 0 else if B (ztn B n s) = 62 then 1 else 2) ∧ (if zkd B n (ztn B n s) = 3 ∧ B (ztn B n s) = 60 then ai_E (e + 6) 61 68 [some (.inr (.inr (27, 0, 16387))), some (.inl (zfcw (zfact (zwv B n s)))), none] [.inl 0] h1 else if zkd B n (ztn B n s) = 3 ∧ B (ztn B n s) = 62 then ai_E (e + 6) 61 68 [some (.inr (.inr (27, 0, 16387))), some (.inl (zfcw (zfact (zwv B n s)))), none] [.inl 1] h1 else if zkd B n (ztn B n s) = 3 ∧ B (ztn B n s) = 61 then ai_E (e + 6) 61 68 [some (.inr (.inr (27, 0, 16387))), some (.inl (zfcw (zfact (zwv B n s)))), none] [.inl 2] h1 else ai_E (e + 6) 61 68 [some (.inr (.inr (27, 0, 16387))), some (.inl (zfcw (zfact (zwv B n s)))), none] [.inl (-1)] h1) = ai_E (e + 6) 61 68 [some (.inr (.inr (27, 0, 16387))), some (.inl (zfcw (zfact (zwv B n s)))), none] [.inl sg] h1 := by
        intro w
        obtain ⟨w1, w2⟩ := w
        rcases w2 with q | q | q
        · exact ⟨0, by decide, by rw [if_pos q], by rw [if_pos ⟨w1, q⟩]⟩
        · exact ⟨1, by decide, by rw [if_neg (by omega), if_pos q], by rw [if_neg (by omega), if_pos ⟨w1, q⟩]⟩
        · exact ⟨2, by decide, by rw [if_neg (by omega), if_neg (by omega)], by rw [if_neg (by omega), if_neg (by omega), if_pos ⟨w1, q⟩]⟩
      refine ⟨fun w => ?_, fun w => ?_⟩
      · obtain ⟨sg, r1, r2, r3⟩ := R w
        rw [r3]
        exact (E sg r1 r2 p).1
      · obtain ⟨sg, r1, r2, r3⟩ := R w
        rw [r3]
        exact (E sg r1 r2 p).2
