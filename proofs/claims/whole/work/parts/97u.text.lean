/-! A TEXT: both sides' loops -/
def zfl (L : List zTx) : List zSt := L.flatMap (fun q => q.2.2)
def zXL (h : ai_H) : Nat → Nat → List zTx → Prop
  | _, _, [] => True
  | k, p, q :: r => (h.1 2097547 k = q.1 ∧ h.1 2097548 k = q.2.1 ∧ h.1 2097549 k = nI (p + q.2.2.length)) ∧ zXL h (k + 1) (p + q.2.2.length) r
def zRL (h : ai_H) : Nat → Nat → List zTx → Prop
  | _, _, [] => True
  | k, p, q :: r => zSr h k q.1 q.2.1 p (p + q.2.2.length) ∧ zRL h (k + 1) (p + q.2.2.length) r
def zQt (i q j : Nat) : Prop := zQp q j ∨ (2097547 ≤ q ∧ q ≤ 2097549 ∧ i ≤ j)
def zQl (w0 i q j : Nat) : Prop := zQm w0 q j ∨ (q = 2064421 ∧ j = 6) ∨ (2064423 ≤ q ∧ q ≤ 2064426 ∧ 144 + i ≤ j)
noncomputable def zx55 (d m : Nat) (h : ai_H) : Option ai_R := ai_br (ai_X d 325 [.inr (.inr (1, 24, 2097547)), .inl (nI m)] (ai_new h (ai_dn h) (44, 0) 4)) (fun t2 n3 a4 h1 => ai_br (ai_X d 325 [.inr (.inr (1, 24, 2097548)), .inl (nI m)] h1) (fun t6 n7 a8 h5 => ai_br (ai_X d 325 [.inr (.inr (1, 24, 2097549)), .inl (nI m)] h5) (fun t10 n11 a12 h9 => ai_br (ai_X d 325 [.inr (.inr (1, 500, 2097550)), .inl (h9.1 16387 9)] h9) (fun t14 n15 a16 h13 => if (ai_dn h) = (ai_dn h) then ai_bv (ai_X d 30 [.inr (.inr (44, 0, (ai_dn h))), .inr (.inr (t2, n3, a4)), .inr (.inr (t6, n7, a8)), .inr (.inr (t10, n11, a12)), .inr (.inr (t14, n15, a16))] h13) (fun h17 => if (h17.2.2.2.1 (ai_dn h)).1 = 44 ∧ ai_cmp h17 (ai_dn h) 4 = true then some ([.inr (.inr (24, 0, (ai_dn h)))], (ai_stK h17 (ai_dn h) (24, 0))) else none) else none))))
theorem zx55_is {d : Nat} {x3 : Nat} {z1 : Option ai_V} {x2 : Int32} {h : ai_H} (hi : x3 ≤ 24) (hk : h.1 16387 3 = 21) : ai_E d 55 24 [some (.inr (.inr (27, 0, 16387))), z1, some (.inl x2), some (.inl (nI x3)), some (.inl (nI x3))] [] h = zx55 d x3 h := by
  rw [T55_24, if_neg (by rw [show (24 : Int32) = nI 24 from rfl, nI_ltI (by omega) (by omega)]; omega), if_pos hk]
  rfl
theorem X55L {B : Nat → Nat} {n d : Nat} {tr : Bool} {z1 : Option ai_V} (hd : 38 ≤ d) (hb : ∀ i, B i < 256) (hn : n ≤ 500) : ∀ f i s L t b l h, zpL B n tr f i s L t b → s ≤ n → i ≤ 24 → zTb h B n → zTk h B n s → zCo h l → l.length ≤ s →
    (b = false → ∃ h', ai_E d 55 24 [some (.inr (.inr (27, 0, 16387))), z1, some (.inl (zb (tr = true))), some (.inl (nI i)), some (.inl (nI i))] [] h = some ([.inr (.inr (0, 0, 0))], h') ∧ h'.1 16387 2 = nI t ∧ zF (zQt i) h h') ∧
    (b = true → ∃ h', ai_E d 55 24 [some (.inr (.inr (27, 0, 16387))), z1, some (.inl (zb (tr = true))), some (.inl (nI i)), some (.inl (nI i))] [] h = zx55 d (i + L.length) h' ∧ zCo h' (l ++ zfl L) ∧ i + L.length ≤ 24 ∧ (l ++ zfl L).length ≤ n ∧ zXL h' i l.length L ∧ zF (zQt i) h h') := by
  intro f
  induction f with
  | zero => intro i s L t b l h r; exact r.elim
  | succ f ih =>
    intro i s L t b l h r hs hi ht hk hc hl
    have k0 : h.1 16387 3 = 21 ↔ zkd B n s = 0 := (zsym hb hk (show 21 < 400 by decide)).trans zsy_0
    rcases r with ⟨p1, rfl, rfl, rfl⟩ | ⟨p1, rfl, rfl, rfl, rfl⟩ | ⟨p1, p2, rfl, rfl, c, r⟩ | ⟨p1, p2, c, s1, L1, r, r1, rfl⟩
    · refine ⟨fun q => (by cases q), fun _ => ⟨h, zx55_is hi (k0.mpr p1), ?_, hi, ?_, trivial, zF_rf⟩⟩
      · show zCo h (l ++ []); rw [List.append_nil]; exact hc
      · show (l ++ []).length ≤ n; rw [List.append_nil]; omega
    · refine ⟨fun _ => ⟨h, ?_, hk.1, zF_rf⟩, fun q => (by cases q)⟩
      rw [T55_24, if_neg (by decide), if_neg (fun q => p1 (k0.mp q)), if_pos (show nI 24 = (24 : Int32) from rfl)]
    · obtain ⟨e, rfl⟩ : ∃ e, d = e + 1 := ⟨d - 1, by omega⟩
      obtain ⟨h1, b1, b2, b3, b4, b5⟩ := X56 (d := e) (by omega) hb hn hs ht hk hc hl p2 r
      have b1 : ai_X (e + 1) 56 [.inr (.inr (27, 0, 16387)), .inl (nI i), .inl (zb (tr = true))] h = some ([.inl 0], h1) := b1
      refine ⟨fun _ => ⟨h1, ?_, b2.1, zF_mono b5 fun q j hq => ?_⟩, fun q => (by cases q)⟩
      · rw [T55_24, if_neg (by rw [show (24 : Int32) = nI 24 from rfl, nI_ltI (by omega) (by omega)]; omega), if_neg (fun q => p1 (k0.mp q)), if_neg (by rw [show (24 : Int32) = nI 24 from rfl, nI_eq (by omega) (by omega)]; omega), b1, z_bi, if_pos rfl]
      · rcases hq with hq | hq
        · exact Or.inl hq
        · exact Or.inr ⟨hq.1, hq.2.1, by omega⟩
    · obtain ⟨e, rfl⟩ : ∃ e, d = e + 1 := ⟨d - 1, by omega⟩
      obtain ⟨h1, b1, b2, b3, b4, b5⟩ := X56 (d := e) (by omega) hb hn hs ht hk hc hl p2 r
      have b1 : ai_X (e + 1) 56 [.inr (.inr (27, 0, 16387)), .inl (nI i), .inl (zb (tr = true))] h = some ([.inl 1], h1) := b1
      obtain ⟨b6, b7, b8, b9⟩ := b4 rfl
      have g := zpS_good hs r
      have f1 : zF (zQt i) h h1 := zF_mono b5 fun q j hq => by
        rcases hq with hq | hq
        · exact Or.inl hq
        · exact Or.inr ⟨hq.1, hq.2.1, by omega⟩
      have I := ih (i + 1) s1 L1 t b (l ++ c) h1 r1 g.2.2.2.1 (by omega) b3 b2 b6 (by rw [List.length_append]; omega)
      have st : ai_E (e + 1) 55 24 [some (.inr (.inr (27, 0, 16387))), z1, some (.inl (zb (tr = true))), some (.inl (nI i)), some (.inl (nI i))] [] h = ai_E (e + 1) 55 24 [some (.inr (.inr (27, 0, 16387))), z1, some (.inl (zb (tr = true))), some (.inl (nI (i + 1))), some (.inl (nI (i + 1)))] [] h1 := by
        rw [T55_24, if_neg (by rw [show (24 : Int32) = nI 24 from rfl, nI_ltI (by omega) (by omega)]; omega), if_neg (fun q => p1 (k0.mp q)), if_neg (by rw [show (24 : Int32) = nI 24 from rfl, nI_eq (by omega) (by omega)]; omega), b1, z_bi, if_neg (by decide), nI_1]
      rw [st]
      have up : ∀ q j, zQt (i + 1) q j → zQt i q j := fun q j hq => by
        rcases hq with hq | hq
        · exact Or.inl hq
        · exact Or.inr ⟨hq.1, hq.2.1, by omega⟩
      refine ⟨fun q => ?_, fun q => ?_⟩
      · obtain ⟨h', x1, x2, x3⟩ := I.1 q
        exact ⟨h', x1, x2, zF_tr f1 (zF_mono x3 up)⟩
      · obtain ⟨h', x1, x2, x4, x5, x6, x7⟩ := I.2 q
        have e0 : l ++ c ++ zfl L1 = l ++ zfl ((zverd (tr = true) (zwv B n s), zpsw B n tr s, c) :: L1) := by
          show l ++ c ++ zfl L1 = l ++ (c ++ zfl L1)
          rw [List.append_assoc]
        rw [e0] at x2 x5
        have ki : ∀ q, 2097547 ≤ q → q ≤ 2097549 → h'.1 q i = h1.1 q i := fun q h1 h2 => by
          rw [x7.1 q i (by unfold zQt zQp; omega)]
        have en : i + 1 + L1.length = i + ((zverd (tr = true) (zwv B n s), zpsw B n tr s, c) :: L1).length := by show _ = i + (L1.length + 1); omega
        rw [en] at x1
        refine ⟨h', x1, x2, by show i + (L1.length + 1) ≤ 24; omega, x5, ⟨⟨?_, ?_, ?_⟩, ?_⟩, zF_tr f1 (zF_mono x7 up)⟩
        · rw [ki _ (by decide) (by decide)]; exact b7
        · rw [ki _ (by decide) (by decide)]; exact b8
        · rw [ki _ (by decide) (by decide), b9, List.length_append]
        · rw [List.length_append] at x6; exact x6
theorem M237L {B : Nat → Nat} {n w0 p : Nat} {tr : Bool} {z1 z5 : Option ai_V} (e : Nat) (hb : ∀ i, B i < 256) (hn : n ≤ 500) (hw : w0 ≤ 19000) (hp : p < 7) : ∀ f i s L t b l h, zpL B n tr f i s L t b → s ≤ n → i ≤ 24 → zRs B n w0 h s l → l.length ≤ s → h.1 2064421 6 = nI i →
    (b = false → ∃ h', ai_E (e + 6) 237 23 [some (.inr (.inr (32, 0, 16128))), z1, some (.inl (zb (tr = true))), some (.inl (nI p)), some (.inl (nI w0)), z5] [] h = some ([.inl 0], h') ∧ h'.1 16128 49 = nI t ∧ h'.1 16128 42 = nI w0 ∧ zGf (zQl w0 i) h h') ∧
    (b = true → ∃ h', ai_E (e + 6) 237 23 [some (.inr (.inr (32, 0, 16128))), z1, some (.inl (zb (tr = true))), some (.inl (nI p)), some (.inl (nI w0)), z5] [] h = ai_E (e + 6) 237 76 [some (.inr (.inr (32, 0, 16128))), z1, some (.inl (zb (tr = true))), some (.inl (nI p)), some (.inl (nI w0)), some (.inl (nI 0))] [] (ai_st h' 2064421 p (nI (i + L.length))) ∧ zRs B n w0 h' t (l ++ zfl L) ∧ zRL h' (144 + i) (w0 + l.length) L ∧ zG (zQl w0 i) h h') := by
  have rst : ∀ {h : ai_H}, h.1 16128 56 = 1 → ai_E (e + 6) 237 23 [some (.inr (.inr (32, 0, 16128))), z1, some (.inl (zb (tr = true))), some (.inl (nI p)), some (.inl (nI w0)), z5] [] h = some ([.inl 0], ai_st h 16128 42 (nI w0)) := fun {h} h56 => by
    rw [T237_23, h56]
    by_cases c : h.1 16128 53 = 0
    · rw [if_pos c, if_neg (by decide), z_b0]
    · rw [if_neg c, if_neg (by decide), if_neg (by decide), z_b0]
  have bad : ∀ {i t h h'}, h'.1 16128 56 = 1 → h'.1 16128 49 = nI t → zGf (zQl w0 i) h h' → ∃ h2, ai_E (e + 6) 237 23 [some (.inr (.inr (32, 0, 16128))), z1, some (.inl (zb (tr = true))), some (.inl (nI p)), some (.inl (nI w0)), z5] [] h' = some ([.inl 0], h2) ∧ h2.1 16128 49 = nI t ∧ h2.1 16128 42 = nI w0 ∧ zGf (zQl w0 i) h h2 := fun h1 h2 h3 => ⟨_, rst h1, by rw [z_nj (by decide)]; exact h2, z_stS, zG_st h3 (Or.inl (Or.inl (Or.inl ⟨rfl, Or.inl rfl⟩)))⟩
  intro f
  induction f with
  | zero => intro i s L t b l h r; exact r.elim
  | succ f ih =>
    intro i s L t b l h r hs hi a hl h6
    have lt := zutk_lt (n := n) (s := s) hb
    have k0 : h.1 16128 53 = 0 ↔ zkd B n s = 0 := by rw [a.1.2.1.2.2.1, show (0 : Int32) = nI 0 from rfl, nI_eq (by omega) (by omega)]; exact zutk_0
    have nm : ∀ {i} q j, zQn w0 i q j → zQl w0 i q j := fun q j hq => by
      rcases hq with hq | hq | hq
      · exact Or.inl hq
      · exact Or.inr (Or.inl hq)
      · exact Or.inr (Or.inr ⟨hq.1, hq.2.1, by omega⟩)
    rcases r with ⟨p1, rfl, rfl, rfl⟩ | ⟨p1, rfl, rfl, rfl, rfl⟩ | ⟨p1, p2, rfl, rfl, c, r⟩ | ⟨p1, p2, c, s1, L1, r, r1, rfl⟩
    · refine ⟨fun q => (by cases q), fun _ => ⟨h, ?_, ?_, trivial, zG_rf⟩⟩
      · rw [T237_23, if_pos (k0.mpr p1), if_pos a.1.2.2, show (6 : Int32) = nI 6 from rfl, z_ix (by decide) (by decide), z_ix hp (by decide), h6]
        rfl
      · show zRs B n w0 h _ (l ++ []); rw [List.append_nil]; exact a
    · obtain ⟨h', d1, d2, d3, d4⟩ := M235f e a h6 (zb (tr = true))
      refine ⟨fun _ => ?_, fun q => (by cases q)⟩
      rw [T237_23, if_neg (fun q => p1 (k0.mp q)), if_pos a.1.2.2, d1, z_bv]
      exact bad d2 d3 (zGf_mono d4 fun q j hq => Or.inl hq)
    · obtain ⟨h', d1, d2, d3, d4⟩ := (M235 e hb hn hw hs p2 hl a h6 r).1 rfl
      refine ⟨fun _ => ?_, fun q => (by cases q)⟩
      rw [T237_23, if_neg (fun q => p1 (k0.mp q)), if_pos a.1.2.2, d1, z_bv]
      exact bad d2 d3 (zGf_mono d4 nm)
    · obtain ⟨h1, d1, d2, d3, d4, d5⟩ := (M235 e hb hn hw hs p2 hl a h6 r).2 rfl
      have g := zpS_good hs r
      have I := ih (i + 1) s1 L1 t b (l ++ c) h1 r1 g.2.2.2.1 (by omega) d2 (by rw [List.length_append]; omega) d3
      rw [T237_23, if_neg (fun q => p1 (k0.mp q)), if_pos a.1.2.2, d1, z_bv]
      have up : ∀ q j, zQl w0 (i + 1) q j → zQl w0 i q j := fun q j hq => by
        rcases hq with hq | hq | hq
        · exact Or.inl hq
        · exact Or.inr (Or.inl hq)
        · exact Or.inr (Or.inr ⟨hq.1, hq.2.1, by omega⟩)
      refine ⟨fun q => ?_, fun q => ?_⟩
      · obtain ⟨h', x1, x2, x3, x4⟩ := I.1 q
        exact ⟨h', x1, x2, x3, zG_te (zG_mono d5 nm) (zGf_mono x4 up)⟩
      · obtain ⟨h', x1, x2, x3, x4⟩ := I.2 q
        have e0 : l ++ c ++ zfl L1 = l ++ zfl ((zverd (tr = true) (zwv B n s), zpsw B n tr s, c) :: L1) := by
          show l ++ c ++ zfl L1 = l ++ (c ++ zfl L1)
          rw [List.append_assoc]
        rw [e0] at x2
        have ki : ∀ q, 2064423 ≤ q → q ≤ 2064426 → h'.1 q (144 + i) = h1.1 q (144 + i) := fun q h1 h2 => x4.1 q _ (by unfold zQl zQm; omega)
        refine ⟨h', ?_, x2, ⟨?_, ?_⟩, zG_tr (zG_mono d5 nm) (zG_mono x4 up)⟩
        · rw [x1, show i + 1 + L1.length = i + ((zverd (tr = true) (zwv B n s), zpsw B n tr s, c) :: L1).length by show _ = i + (L1.length + 1); omega]
        · obtain ⟨y1, y2, y3, y4⟩ := d4
          refine ⟨by rw [ki _ (by decide) (by decide)]; exact y1, by rw [ki _ (by decide) (by decide)]; exact y2, by rw [ki _ (by decide) (by decide)]; exact y3, by rw [ki _ (by decide) (by decide), y4, List.length_append, Nat.add_assoc]⟩
        · rw [List.length_append, ← Nat.add_assoc w0] at x3; exact x3
/-- the copies to a text's place -/
theorem M237c {p : Nat} {z1 z2 z4 : Option ai_V} (e : Nat) (hp : p < 6) : ∀ k i h, i + k = 24 → ∃ h', ai_E e 237 76 [some (.inr (.inr (32, 0, 16128))), z1, z2, some (.inl (nI p)), z4, some (.inl (nI i))] [] h = some ([.inl 1], h') ∧ zF (fun q j => 2064423 ≤ q ∧ q ≤ 2064426 ∧ 24 * p + i ≤ j ∧ j < 24 * p + 24) h h' ∧ ∀ m, i ≤ m → m < 24 → h'.1 2064423 (24 * p + m) = vp_nar .boolean (h.1 2064423 (144 + m)) ∧ ∀ q, 2064424 ≤ q → q ≤ 2064426 → h'.1 q (24 * p + m) = h.1 q (144 + m) := by
  intro k
  induction k with
  | zero =>
    intro i h hi
    refine ⟨h, ?_, zF_rf, fun m h1 h2 => (by omega)⟩
    rw [T237_76, if_pos (by rw [show (24 : Int32) = nI 24 from rfl, nI_leI (by omega) (by omega)]; omega), z_b1]
  | succ k ih =>
    intro i h hi
    have e1 : (144 : Int32) + nI i = nI (144 + i) := by rw [show (144 : Int32) = nI 144 from rfl, nI_add]
    have e2 : (24 : Int32) * nI p + nI i = nI (24 * p + i) := by rw [show (24 : Int32) = nI 24 from rfl, pk_mul, nI_add]
    have i1 : ∀ f : Nat → Option ai_R, ai_ix (nI (144 + i)) 168 f = f (144 + i) := fun f => z_ix (by omega) (by decide)
    have i2 : ∀ f : Nat → Option ai_R, ai_ix (nI (24 * p + i)) 168 f = f (24 * p + i) := fun f => z_ix (by omega) (by decide)
    obtain ⟨g, eg⟩ : ∃ g, ai_st (ai_st (ai_st (ai_st h 2064423 (24 * p + i) (vp_nar .boolean (h.1 2064423 (144 + i)))) 2064424 (24 * p + i) (h.1 2064424 (144 + i))) 2064425 (24 * p + i) (h.1 2064425 (144 + i))) 2064426 (24 * p + i) (h.1 2064426 (144 + i)) = g := ⟨_, rfl⟩
    have vg : ∀ q j, g.1 q j = if 2064423 ≤ q ∧ q ≤ 2064426 ∧ j = 24 * p + i then (if q = 2064423 then vp_nar .boolean (h.1 2064423 (144 + i)) else h.1 q (144 + i)) else h.1 q j := fun q j => by
      rw [← eg, z_st1, z_st1, z_st1, z_st1]
      by_cases c : 2064423 ≤ q ∧ q ≤ 2064426 ∧ j = 24 * p + i
      · rw [if_pos c]
        obtain ⟨c1, c2, rfl⟩ := c
        have : q = 2064423 ∨ q = 2064424 ∨ q = 2064425 ∨ q = 2064426 := by omega
        rcases this with w | w | w | w <;> subst w <;> simp
      · rw [if_neg c, if_neg (by omega), if_neg (by omega), if_neg (by omega), if_neg (by omega)]
    have g2 : g.2 = h.2 := by rw [← eg]; rfl
    obtain ⟨h', d1, d2, d3⟩ := ih (i + 1) g (by omega)
    refine ⟨h', ?_, ⟨fun q j hn => ?_, by rw [d2.2, g2]⟩, fun m h1 h2 => ?_⟩
    · rw [T237_76, if_neg (by rw [show (24 : Int32) = nI 24 from rfl, nI_leI (by omega) (by omega)]; omega), e1, e2]
      simp only [i1, i2, nI_1]
      have n1 : ∀ {a b j : Nat} {v : Int32} {w : ai_H}, ¬ a = b → (ai_st w b j v).1 a = w.1 a := fun h => z_ne h
      rw [n1 (show ¬ (2064424 : Nat) = 2064423 by decide), n1 (show ¬ (2064425 : Nat) = 2064424 by decide), n1 (show ¬ (2064425 : Nat) = 2064423 by decide), n1 (show ¬ (2064426 : Nat) = 2064425 by decide), n1 (show ¬ (2064426 : Nat) = 2064424 by decide), n1 (show ¬ (2064426 : Nat) = 2064423 by decide), eg]
      exact d1
    · rw [d2.1 q j (by omega), vg, if_neg (by omega)]
    · by_cases c : m = i
      · subst c
        refine ⟨?_, fun q h3 h4 => ?_⟩
        · rw [d2.1 _ _ (by omega), vg, if_pos (by omega), if_pos rfl]
        · rw [d2.1 _ _ (by omega), vg, if_pos (by omega), if_neg (by omega)]
      · obtain ⟨y1, y2⟩ := d3 m (by omega) h2
        refine ⟨?_, fun q h3 h4 => ?_⟩
        · rw [y1, vg, if_neg (by omega)]
        · rw [y2 q h3 h4, vg, if_neg (by omega)]
