/-! THE LAW: does a condition hold -/
def zop (v : Int32) : Nat := if v = 60 then 0 else if v = 62 then 1 else 2
def zev (μ : zMu) (F : Nat → Int32) (a : Nat) : Nat → List Bool
  | 0 => []
  | k + 1 => if μ.1 43 (a + k) = 0 then zcond (F (μ.1 44 (a + k)).toInt.toNat) (zop (μ.1 45 (a + k))) (μ.1 46 (a + k)).toInt.toNat :: zev μ F a k
    else if μ.1 43 (a + k) = 1 then (match zev μ F a k with | b :: s => (!b) :: s | [] => [])
    else if μ.1 43 (a + k) = 2 then (match zev μ F a k with | b :: c :: s => (c && b) :: s | s => s)
    else (match zev μ F a k with | b :: c :: s => (c || b) :: s | s => s)
theorem zdep_ev {μ : zMu} {F : Nat → Int32} {a : Nat} : ∀ k n, zdep μ a k = some n → (zev μ F a k).length = n ∧ n ≤ 21 := by
  intro k
  induction k with
  | zero =>
    intro n h
    have h : some 0 = some n := h
    cases h
    exact ⟨rfl, by decide⟩
  | succ k ih =>
    intro n h
    unfold zdep at h
    cases e : zdep μ a k with
    | none => rw [e] at h; cases h
    | some m =>
      rw [e] at h
      obtain ⟨i1, i2⟩ := ih m e
      dsimp only at h
      unfold zev
      by_cases c0 : μ.1 43 (a + k) = 0
      · rw [if_pos c0] at h
        rw [if_pos c0]
        by_cases g : m < 21
        · rw [if_pos g] at h
          cases h
          exact ⟨by rw [List.length_cons, i1], by omega⟩
        · rw [if_neg g] at h; cases h
      · rw [if_neg c0] at h
        rw [if_neg c0]
        by_cases c1 : μ.1 43 (a + k) = 1
        · rw [if_pos c1] at h
          rw [if_pos c1]
          by_cases g : 0 < m
          · rw [if_pos g] at h
            cases h
            cases e2 : zev μ F a k with
            | nil => rw [e2] at i1; simp at i1; omega
            | cons b s => rw [e2] at i1; exact ⟨i1, i2⟩
          · rw [if_neg g] at h; cases h
        · rw [if_neg c1] at h
          rw [if_neg c1]
          by_cases g : 1 < m
          · rw [if_pos g] at h
            cases h
            cases e2 : zev μ F a k with
            | nil => rw [e2] at i1; simp at i1; omega
            | cons b s =>
              cases s with
              | nil => rw [e2] at i1; simp at i1; omega
              | cons c s =>
                rw [e2] at i1
                have i1 : s.length + 1 + 1 = m := i1
                by_cases c2 : μ.1 43 (a + k) = 2
                · rw [if_pos c2]
                  exact ⟨by show s.length + 1 = _; omega, by omega⟩
                · rw [if_neg c2]
                  exact ⟨by show s.length + 1 = _; omega, by omega⟩
          · rw [if_neg g] at h; cases h
theorem zdep_le {μ : zMu} {a : Nat} : ∀ {m j}, j ≤ m → zdep μ a m ≠ none → zdep μ a j ≠ none := by
  intro m
  induction m with
  | zero => intro j hj h; rw [show j = 0 by omega]; exact h
  | succ m ih =>
    intro j hj h
    by_cases c : j = m + 1
    · rw [c]; exact h
    · refine ih (by omega) fun e => h ?_
      unfold zdep
      rw [e]
/-- what a pile says -/
def zsay : List Bool → Bool
  | [] => true
  | b :: _ => b
theorem zsay_1 {s : List Bool} : zpl s % 2 = (zsay s).toNat := by
  cases s with
  | nil => rfl
  | cons b s => exact zpl_top.1
theorem zfx_le {f : Nat} (h : f ≤ 5) : zfx f ≤ 10 := by
  unfold zfx
  repeat' split
  all_goals omega
theorem zfx_w {x : Int32} (h : 0 ≤ x.toInt ∧ x.toInt ≤ 5) : ∃ n, zfcw x = nI n ∧ zfx x.toInt.toNat = n ∧ n ≤ 10 := by
  have l : zfx x.toInt.toNat ≤ 10 := zfx_le (by omega)
  refine ⟨zfx x.toInt.toNat, ?_, rfl, l⟩
  obtain ⟨k, hk, rfl⟩ : ∃ k, k ≤ 5 ∧ x = nI k := ⟨x.toInt.toNat, by omega, (z_nat h.1)⟩
  rw [z_T (by omega), Int.toNat_natCast]
  rcases (show k = 0 ∨ k = 1 ∨ k = 2 ∨ k = 3 ∨ k = 4 ∨ k = 5 by omega) with rfl | rfl | rfl | rfl | rfl | rfl <;> decide
theorem zenc_0 {μ : zMu} {k : Nat} (h0 : μ.1 43 k = 0) (h1 : zi (μ.1 44 k) 0 5) (h2 : zi (μ.1 46 k) 0 99999) : zenc μ k = nI ((zfx (μ.1 44 k).toInt.toNat * 3 + zop (μ.1 45 k)) * 100000 + (μ.1 46 k).toInt.toNat) := by
  unfold zi at h1 h2
  have ho : zop (μ.1 45 k) ≤ 2 := by
    unfold zop
    split
    · omega
    · split <;> omega
  have eo : (if μ.1 45 k = 60 then (0 : Int32) else if μ.1 45 k = 62 then 1 else 2) = nI (zop (μ.1 45 k)) := by
    unfold zop
    by_cases c : μ.1 45 k = 60
    · rw [if_pos c, if_pos c]; rfl
    · rw [if_neg c, if_neg c]
      by_cases c2 : μ.1 45 k = 62
      · rw [if_pos c2, if_pos c2]; rfl
      · rw [if_neg c2, if_neg c2]; rfl
  unfold zenc
  rw [if_pos h0, eo]
  obtain ⟨n, e2, l2, l10⟩ := zfx_w h1
  rw [e2, l2]
  generalize μ.1 46 k = v at *
  generalize zop (μ.1 45 k) = o at *
  have l3 : (3 : Int32).toInt = 3 := rfl
  have l5 : (100000 : Int32).toInt = 100000 := rfl
  have tf : (nI n).toInt = (n : Int) := z_T (by omega)
  have m1 : (nI n * 3).toInt = (n : Int) * 3 := by rw [z_mul] <;> rw [tf, l3] <;> omega
  have m2 : (nI n * 3 + nI o).toInt = (n : Int) * 3 + o := by rw [z_add] <;> rw [m1, z_T (by omega)] <;> omega
  have m3 : ((nI n * 3 + nI o) * 100000).toInt = ((n : Int) * 3 + o) * 100000 := by rw [z_mul] <;> rw [m2, l5] <;> omega
  rw [z_eq, z_add, m3, z_T (by omega)]
  · omega
  · rw [m3]; omega
  · rw [m3]; omega
/-- the facts as the class keeps them -/
def zfG (h : ai_H) (b f : Nat) : Int32 := h.1 b (zfx f)
theorem X34 {h : ai_H} {μ : zMu} {a y3 b3 p m L q : Nat} (d : Nat) (hy : h.2.2.1 a 3 = some y3) (hL : (h.2.2.2.1 y3).2 = L) (hl : p + m ≤ L) (hl2 : L ≤ 30000) (hc : ∀ j, j < m → h.1 y3 (p + j) = zenc μ (q + j))
    (hb : ∀ j, j < m → zi (μ.1 43 (q + j)) 0 3 ∧ zi (μ.1 44 (q + j)) 0 5 ∧ zi (μ.1 45 (q + j)) 0 62 ∧ zi (μ.1 46 (q + j)) 0 99999) (hd : zdep μ q m ≠ none) : ai_X (d + 2) 34 [.inr (.inr (24, 0, a)), .inl (nI p), .inl (nI (p + m)), .inr (.inr (1, 11, b3))] h = some ([.inl (zb (zsay (zev μ (zfG h b3) q m) = true))], h) := by
  have K : ∀ k j, j + k = m → ∀ z1 z6, ai_E (d + 1) 34 6 [some (.inr (.inr (24, 0, a))), z1, some (.inl (nI (p + m))), some (.inr (.inr (1, 11, b3))), some (.inl (nI (zpl (zev μ (zfG h b3) q j)))), some (.inl (nI (p + j))), z6] [] h = some ([.inl (zb (zsay (zev μ (zfG h b3) q m) = true))], h) := by
    intro k
    induction k with
    | zero =>
      intro j hj z1 z6
      have hj : j = m := by omega
      subst hj
      rw [T34_6, if_pos (by rw [z_le]; omega), z_and1, zsay_1, z_b0, z_b1]
      cases zsay (zev μ (zfG h b3) q j) with
      | false => rw [if_pos (show nI (false.toNat) = 0 from rfl)]; rfl
      | true => rw [if_neg (show ¬ nI (true.toNat) = 0 by decide)]; rfl
    | succ k ih =>
      intro j hj z1 z6
      have ih := ih (j + 1) (by omega)
      obtain ⟨v1, v2, v3, v4⟩ := hb j (by omega)
      have ix : ∀ f : Nat → Option ai_R, ai_ix (nI (p + j)) L f = f (p + j) := fun f => z_ix (by omega) (by omega)
      cases e : zdep μ q j with
      | none => exact absurd e (zdep_le (by omega) hd)
      | some n =>
        obtain ⟨i1, i2⟩ := zdep_ev (F := zfG h b3) j n e
        have dn := zdep_le (show j + 1 ≤ m by omega) hd
        unfold zdep at dn
        rw [e] at dn
        dsimp only at dn
        rw [T34_6, if_neg (by rw [nI_leI (by omega) (by omega)]; omega), hy]
        simp only [ai_oo, hL, ix, hc j (by omega), nI_1]
        rw [if_neg (by rw [nI_leI (by omega) (by omega)]; omega)]
        have eq1 : p + j + 1 = p + (j + 1) := by omega
        rw [eq1]
        have ev : zev μ (zfG h b3) q (j + 1) = (if μ.1 43 (q + j) = 0 then zcond (h.1 b3 (zfx (μ.1 44 (q + j)).toInt.toNat)) (zop (μ.1 45 (q + j))) (μ.1 46 (q + j)).toInt.toNat :: zev μ (zfG h b3) q j
          else if μ.1 43 (q + j) = 1 then (match zev μ (zfG h b3) q j with | b :: s => (!b) :: s | [] => [])
          else if μ.1 43 (q + j) = 2 then (match zev μ (zfG h b3) q j with | b :: c :: s => (c && b) :: s | s => s)
          else (match zev μ (zfG h b3) q j with | b :: c :: s => (c || b) :: s | s => s)) := rfl
        rw [ev] at ih
        generalize zev μ (zfG h b3) q j = S at *
        by_cases c0 : μ.1 43 (q + j) = 0
        · have en := zenc_0 c0 v2 v4
          rw [if_pos c0] at ih dn
          unfold zi at v2 v4
          have ho : zop (μ.1 45 (q + j)) < 3 := by
            unfold zop
            split
            · omega
            · split <;> omega
          have fl := zfx_le (f := (μ.1 44 (q + j)).toInt.toNat) (by omega)
          have neg : ∀ r : Int32, r.toInt < 0 → ¬ zenc μ (q + j) = r := fun r hr => by
            rw [en, z_eq, z_T (by omega)]
            omega
          rw [if_neg (neg (-3) (by decide)), if_neg (neg (-2) (by decide)), if_neg (neg (-1) (by decide)), en, X35 _ (by omega) ho (by omega)]
          simp only [z_bi, zb_0]
          have hn : n < 21 := by
            rcases Nat.lt_or_ge n 21 with g | g
            · exact g
            · rw [if_neg (by omega)] at dn
              exact absurd rfl dn
          have push := zpl_push (b := zcond (h.1 b3 (zfx (μ.1 44 (q + j)).toInt.toNat)) (zop (μ.1 45 (q + j))) (μ.1 46 (q + j)).toInt.toNat) (s := S) (by omega)
          by_cases g : zcond (h.1 b3 (zfx (μ.1 44 (q + j)).toInt.toNat)) (zop (μ.1 45 (q + j))) (μ.1 46 (q + j)).toInt.toNat = true
          · rw [if_neg (fun x => x g)]
            rw [if_pos g] at push
            rw [push]
            exact ih _ _
          · rw [if_pos g]
            rw [if_neg g] at push
            rw [push]
            exact ih _ _
        · rw [if_neg c0] at ih dn
          by_cases c1 : μ.1 43 (q + j) = 1
          · have en : zenc μ (q + j) = -1 := by unfold zenc; rw [if_neg c0, if_pos c1]
            rw [if_pos c1] at ih
            rw [en, if_neg (by decide), if_neg (by decide), if_pos rfl]
            rw [if_pos c1] at dn
            cases S with
            | nil =>
              have : n = 0 := i1.symm
              rw [this] at dn
              exact absurd rfl dn
            | cons b s =>
              rw [zpl_not]
              exact ih _ _
          · rw [if_neg c1] at ih dn
            cases S with
            | nil =>
              have : n = 0 := i1.symm
              rw [this] at dn
              exact absurd rfl dn
            | cons b s =>
              cases s with
              | nil =>
                have : n = 1 := i1.symm
                rw [this] at dn
                exact absurd rfl dn
              | cons c s =>
                have i1 : s.length + 1 + 1 = n := i1
                by_cases c2 : μ.1 43 (q + j) = 2
                · have en : zenc μ (q + j) = -2 := by unfold zenc; rw [if_neg c0, if_neg c1, if_pos c2]
                  rw [if_pos c2] at ih
                  rw [en, if_neg (by decide), if_pos rfl, zpl_and (by omega)]
                  exact ih _ _
                · have en : zenc μ (q + j) = -3 := by unfold zenc; rw [if_neg c0, if_neg c1, if_neg c2]
                  rw [if_neg c2] at ih
                  rw [en, if_pos rfl, zpl_or (by omega)]
                  exact ih _ _
  rw [T34]
  exact K m 0 (by omega) _ _
