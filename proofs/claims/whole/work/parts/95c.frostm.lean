/-! FROST: the reference's -/
theorem z_dec {n : Nat} : nI (n + 1) + (-1) = nI n := by
  rw [← Int32.sub_eq_add_neg]
  exact nI_pred n
/-- the row that the reference turns -/
def zro (g : ai_H) (n : Nat) (L r : Nat → Nat) : Prop := ∀ i, i < n → g.1 2064467 i = nI (L (r i)) ∧ r i < n
def zmono (L : Nat → Nat) (n : Nat) : Prop := (∀ i, i < n → L i < 24) ∧ ∀ i j, i < j → j < n → L i < L j
theorem zmono_le {L : Nat → Nat} {n i j : Nat} (h : zmono L n) (hi : i < n) (hj : j < n) : nI (L i) ≤ nI (L j) ↔ i ≤ j := by
  have h1 := h.1 i hi
  have h2 := h.1 j hj
  rw [nI_leI (by omega) (by omega)]
  rcases Nat.lt_trichotomy i j with c | c | c
  · have := h.2 i j c hj; omega
  · subst c; omega
  · have := h.2 j i c hi; omega
def zQ5 (q _j : Nat) : Prop := q = 2064467
theorem zQ5_r {j : Nat} : zQ5 2064467 j := rfl
theorem zsw_st {g : ai_H} {n : Nat} {L r : Nat → Nat} {i j : Nat} (hi : i < n) (hj : j < n) (hg : zro g n L r) : zro (ai_st (ai_st g 2064467 i (g.1 2064467 j)) 2064467 j (g.1 2064467 i)) n L (zsw r i j) := by
  intro q hq
  have h1 := hg i hi
  have h2 := hg j hj
  rw [z_st1]
  unfold zsw
  by_cases e : q = j
  · rw [if_pos ⟨rfl, e⟩, if_pos e]; exact h1
  · rw [if_neg (fun c => e c.2), if_neg e, z_st1]
    by_cases e2 : q = i
    · rw [if_pos ⟨rfl, e2⟩, if_pos e2]; exact h2
    · rw [if_neg (fun c => e2 c.2), if_neg e2]; exact hg q hq
theorem M290r {n : Nat} {L : Nat → Nat} (d : Nat) (hn : n ≤ 8) (z1 z2 z3 : Option ai_V) : ∀ f lo hi, hi ≤ lo + 2 * f → hi < n → lo ≤ 100 → ∀ (g : ai_H) (r : Nat → Nat) z4, zro g n L r → ∃ g', ai_E d 290 100 [some (.inr (.inr (32, 0, 16128))), z1, z2, z3, z4, some (.inl (nI lo)), some (.inl (nI hi))] [] g = some ([.inl 1], g') ∧ zF zQ5 g g' ∧ zro g' n L (zrv f r lo hi) := by
  intro f
  induction f with
  | zero =>
    intro lo hi h1 h2 h3 g r z4 hg
    refine ⟨g, ?_, zF_rf, hg⟩
    rw [T290_100, if_pos (by rw [nI_leI (by omega) (by omega)]; omega), z_b1]
  | succ f ih =>
    intro lo hi h1 h2 h3 g r z4 hg
    have es : zrv (f + 1) r lo hi = if hi ≤ lo then r else zrv f (zsw r lo hi) (lo + 1) (hi - 1) := rfl
    rw [es]
    by_cases c : hi ≤ lo
    · refine ⟨g, ?_, zF_rf, by rw [if_pos c]; exact hg⟩
      rw [T290_100, if_pos (by rw [nI_leI (by omega) (by omega)]; exact c), z_b1]
    · rw [if_neg c]
      obtain ⟨m, hm⟩ : ∃ m, hi = m + 1 := ⟨hi - 1, by omega⟩
      have il : ∀ f : Nat → Option ai_R, ai_ix (nI lo) 8 f = f lo := fun f => z_ix (by omega) (by decide)
      have ih8 : ∀ f : Nat → Option ai_R, ai_ix (nI hi) 8 f = f hi := fun f => z_ix (by omega) (by decide)
      have ed : nI hi + (-1) = nI (hi - 1) := by rw [hm]; exact z_dec
      obtain ⟨g', w1, w2, w3⟩ := ih (lo + 1) (hi - 1) (by omega) (by omega) (by omega) _ _ (some (.inl (g.1 2064467 lo))) (zsw_st (i := lo) (j := hi) (by omega) h2 hg)
      refine ⟨g', ?_, zF_tr (zF_st (P := zQ5) (zF_st zF_rf zQ5_r) zQ5_r) w2, w3⟩
      rw [T290_100, if_neg (by rw [nI_leI (by omega) (by omega)]; exact c), il, ih8, il, ih8, nI_1, ed]
      exact w1
theorem M290j {n k : Nat} {L : Nat → Nat} {g : ai_H} {r : Nat → Nat} (d : Nat) (hn : n ≤ 8) (hL : zmono L n) (hk : k + 1 < n) (hg : zro g n L r) (hle : r k ≤ r (k + 1)) : ∀ j, k + 1 ≤ j → j < n → ∀ z4 z5 z6, (k + 1 ≤ zfj r (r k) j ∧ zfj r (r k) j ≤ j) ∧ ai_E d 290 41 [some (.inr (.inr (32, 0, 16128))), some (.inl (nI n)), some (.inl (nI k)), some (.inl (nI j)), z4, z5, z6] [] g = ai_E d 290 100 [some (.inr (.inr (32, 0, 16128))), some (.inl (nI n)), some (.inl (nI k)), some (.inl (nI (zfj r (r k) j))), some (.inl (g.1 2064467 k)), some (.inl (nI (k + 1))), some (.inl (nI (n - 1)))] [] (ai_st (ai_st g 2064467 k (g.1 2064467 (zfj r (r k) j))) 2064467 (zfj r (r k) j) (g.1 2064467 k)) := by
  intro j
  induction j with
  | zero => intro h; omega
  | succ j ih =>
    intro h1 h2 z4 z5 z6
    have ik : ∀ f : Nat → Option ai_R, ai_ix (nI k) 8 f = f k := fun f => z_ix (by omega) (by decide)
    have ij : ∀ f : Nat → Option ai_R, ai_ix (nI (j + 1)) 8 f = f (j + 1) := fun f => z_ix (by omega) (by decide)
    obtain ⟨k1, k2⟩ := hg k (by omega)
    obtain ⟨j1, j2⟩ := hg (j + 1) h2
    have en : nI n - 1 = nI (n - 1) := pk_sub (b := 1) (by omega)
    have es : zfj r (r k) (j + 1) = if r k ≤ r (j + 1) then j + 1 else zfj r (r k) j := rfl
    rw [es]
    by_cases c : r k ≤ r (j + 1)
    · rw [if_pos c]
      refine ⟨⟨h1, Nat.le_refl _⟩, ?_⟩
      rw [T290_41, ij, ik, if_pos (by rw [k1, j1, zmono_le hL k2 j2]; exact c), ik, ij, ik, ij, nI_1, en]
    · rw [if_neg c]
      have hj : k + 1 ≤ j := by
        rcases Nat.lt_or_ge k j with q | q
        · exact q
        · have e : j = k := by omega
          subst e
          exact absurd hle c
      obtain ⟨w1, w2⟩ := ih hj (by omega) z4 z5 z6
      refine ⟨⟨w1.1, by omega⟩, ?_⟩
      rw [T290_41, ij, ik, if_neg (by rw [k1, j1, zmono_le hL k2 j2]; exact c), z_dec]
      exact w2
theorem M290k {n : Nat} {L : Nat → Nat} {g : ai_H} {r : Nat → Nat} (d : Nat) (hn : n ≤ 8) (h1 : 1 ≤ n) (hL : zmono L n) (hg : zro g n L r) (z3 z4 z5 z6 : Option ai_V) : ∀ k, k ≤ n - 1 → ai_E d 290 4 [some (.inr (.inr (32, 0, 16128))), some (.inl (nI n)), some (.inl (nI k - 1)), z3, z4, z5, z6] [] g = (match zfk r k with
    | none => some ([.inl 0], g)
    | some q => ai_E d 290 41 [some (.inr (.inr (32, 0, 16128))), some (.inl (nI n)), some (.inl (nI q)), some (.inl (nI (n - 1))), z4, z5, z6] [] g) ∧ ∀ q, zfk r k = some q → q + 1 < n ∧ r q ≤ r (q + 1) := by
  intro k
  induction k with
  | zero =>
    intro _
    refine ⟨?_, fun q e => by cases e⟩
    rw [T290_4, if_pos (by decide), if_neg (by decide), z_b0]
    rfl
  | succ k ih =>
    intro hk
    obtain ⟨w1, w2⟩ := ih (by omega)
    have ik : ∀ f : Nat → Option ai_R, ai_ix (nI k) 8 f = f k := fun f => z_ix (by omega) (by decide)
    have ik1 : ∀ f : Nat → Option ai_R, ai_ix (nI (k + 1)) 8 f = f (k + 1) := fun f => z_ix (by omega) (by decide)
    obtain ⟨k1, k2⟩ := hg k (by omega)
    obtain ⟨j1, j2⟩ := hg (k + 1) (by omega)
    have en : nI n - 1 = nI (n - 1) := pk_sub (b := 1) (by omega)
    have ed : nI k + (-1) = nI k - 1 := by rw [← Int32.sub_eq_add_neg]
    have es : zfk r (k + 1) = if r k ≤ r (k + 1) then some k else zfk r k := rfl
    have n0 : ¬ nI k < 0 := by rw [z_lt, z_T (by omega)]; simp only [zl0]; omega
    have p0 : 0 ≤ nI k := by rw [z_le, z_T (by omega)]; simp only [zl0]; omega
    rw [es, nI_pred, T290_4, if_neg n0, ik, nI_1, ik1, k1, j1]
    by_cases c : r k ≤ r (k + 1)
    · rw [if_pos c, if_pos (by rw [zmono_le hL k2 j2]; exact c), if_pos p0, en]
      refine ⟨rfl, fun q e => ?_⟩
      cases e
      exact ⟨by omega, c⟩
    · rw [if_neg c, if_neg (by rw [zmono_le hL k2 j2]; exact c), ed]
      exact ⟨w1, w2⟩
theorem M290 {n : Nat} {L : Nat → Nat} {g : ai_H} {r : Nat → Nat} (d : Nat) (hn : n ≤ 8) (h1 : 1 ≤ n) (hL : zmono L n) (hg : zro g n L r) : ∃ g', ai_X (d + 1) 290 [.inr (.inr (32, 0, 16128)), .inl (nI n)] g = some ([.inl (if (zfnx n r).isSome = true then 1 else 0)], g') ∧ zF zQ5 g g' ∧ ∀ r', zfnx n r = some r' → zro g' n L r' := by
  have e2 : nI n - 2 = nI (n - 1) - 1 := by
    rw [z_eq, z_sub, z_sub, z_T (by omega), z_T (by omega)]
    · simp only [zl1, zl2]; omega
    · rw [z_T (by omega)]; simp only [zl1]; omega
    · rw [z_T (by omega)]; simp only [zl1]; omega
    · rw [z_T (by omega)]; simp only [zl2]; omega
    · rw [z_T (by omega)]; simp only [zl2]; omega
  obtain ⟨w1, w2⟩ := M290k d hn h1 hL hg none none none none (n - 1) (Nat.le_refl _)
  rw [T290, e2, w1]
  unfold zfnx
  cases e : zfk r (n - 1) with
  | none => exact ⟨g, rfl, zF_rf, fun r' q => by cases q⟩
  | some k =>
    obtain ⟨k1, k2⟩ := w2 k e
    obtain ⟨⟨y1, y2⟩, y3⟩ := M290j d hn hL k1 hg k2 (n - 1) (by omega) (by omega) none none none
    dsimp only
    rw [y3]
    obtain ⟨g', u1, u2, u3⟩ := M290r (n := n) (L := L) d hn (some (.inl (nI n))) (some (.inl (nI k))) (some (.inl (nI (zfj r (r k) (n - 1))))) n (k + 1) (n - 1) (by omega) (by omega) (by omega) _ _ (some (.inl (g.1 2064467 k))) (zsw_st (i := k) (j := zfj r (r k) (n - 1)) (by omega) (by omega) hg)
    refine ⟨g', u1, zF_tr (zF_st (P := zQ5) (zF_st zF_rf zQ5_r) zQ5_r) u2, fun r' q => ?_⟩
    cases q
    exact u3
/-- what the reference's loss of an order stands on -/
def zfh (g : ai_H) (n : Nat) (L : Nat → Nat) (C : Nat → Int32) (LS CD : Nat → Nat) : Prop := (∀ k, k < n → g.1 2064397 (L k) = C k ∧ g.1 2064399 (L k) = nI (LS k)) ∧ ∀ k, k < 24 → g.1 2064401 k = nI (CD k)
theorem M291 {g : ai_H} {n sp : Nat} {L : Nat → Nat} {C : Nat → Int32} {LS CD : Nat → Nat} {p : List Nat} {c : Int32} (d : Nat) (hn : n ≤ 8) (hsp : 1 ≤ sp ∧ sp ≤ 99) (hL : zmono L n) (hC : ∀ k, k < n → zi (C k) 0 255) (hLS : ∀ k, k < n → LS k ≤ 999) (hCD : ∀ k, k < 24 → CD k ≤ 100) (hh : zfh g n L C LS CD) (hp : p.length = n) (hg : zro g n L (zat p)) (hc : zi c 0 255) : ai_X (d + 3) 291 [.inr (.inr (32, 0, 16128)), .inl (nI n), .inl c, .inl (nI sp)] g = some ([.inl (nI (zfo C LS CD sp (c, 0, 0) p).2.2)], g) ∧ (zfo C LS CD sp (c, 0, 0) p).2.2 ≤ 99900 * n := by
  have K : ∀ q k, k + q = n → ∀ (x : zfS) z2 z8, zi x.1 0 255 → x.2.1 ≤ 23 → x.2.2 ≤ 99900 * k → ai_E (d + 2) 291 12 [some (.inr (.inr (32, 0, 16128))), some (.inl (nI n)), z2, some (.inl (nI sp)), some (.inl x.1), some (.inl (nI x.2.1)), some (.inl (nI x.2.2)), some (.inl (nI k)), z8] [] g = some ([.inl (nI (zfo C LS CD sp x (p.drop k)).2.2)], g) ∧ (zfo C LS CD sp x (p.drop k)).2.2 ≤ 99900 * n := by
    intro q
    induction q with
    | zero =>
      intro k hk x z2 z8 x1 x2 x3
      have hk : k = n := by omega
      subst hk
      have e : p.drop k = [] := by rw [← hp]; exact List.drop_length
      rw [T291_12, if_pos (by rw [z_le]; omega), e]
      exact ⟨rfl, x3⟩
    | succ q ih =>
      intro k hk x z2 z8 x1 x2 x3
      have hkp : k < p.length := by omega
      have ed : p.drop k = zat p k :: p.drop (k + 1) := by
        rw [List.drop_eq_getElem_cons hkp]
        congr 1
        simp [zat, List.getD, hkp]
      obtain ⟨g1, g2⟩ := hg k (by omega)
      have l1 := hL.1 _ g2
      obtain ⟨c1, c2⟩ := hh.1 _ g2
      have vC := hC _ g2
      have hz := zds_le x1 vC
      have nsp : ¬ nI sp = 0 := nI_ne0 (by omega) (by omega)
      have e1 : nI (zds x.1 (C (zat p k))) + nI sp - 1 = nI (zds x.1 (C (zat p k)) + sp - 1) := by rw [nI_add]; exact pk_sub (b := 1) (by omega)
      have hd : (zds x.1 (C (zat p k)) + sp - 1) / sp ≤ 129 := Nat.le_trans (Nat.div_le_self _ _) (by omega)
      have ik : ∀ f : Nat → Option ai_R, ai_ix (nI k) 8 f = f k := fun f => z_ix (by omega) (by decide)
      have iL : ∀ f : Nat → Option ai_R, ai_ix (nI (L (zat p k))) 96 f = f (L (zat p k)) := fun f => z_ix (by omega) (by decide)
      have h23 : (zfc C LS CD sp x (zat p k)).2.1 ≤ 23 := by
        show (if _ < 23 then _ else 23) ≤ 23
        split <;> omega
      have e3 : (zfc C LS CD sp x (zat p k)).2.2 = x.2.2 + LS (zat p k) * CD (zfc C LS CD sp x (zat p k)).2.1 := rfl
      have hLC : LS (zat p k) * CD (zfc C LS CD sp x (zat p k)).2.1 ≤ 99900 := Nat.mul_le_mul (hLS _ g2) (hCD _ (by omega))
      have ih := ih (k + 1) (by omega) (zfc C LS CD sp x (zat p k)) z2 (some (.inl (C (zat p k)))) vC h23 (by rw [e3]; omega)
      rw [ed]
      refine ⟨?_, ih.2⟩
      rw [T291_12, if_neg (by rw [nI_leI (by omega) (by omega)]; omega), ik, g1, iL, c1, M190 _ _ x1 vC]
      simp only [z_bi, ik, g1, iL, c1, c2]
      rw [if_neg nsp, e1, nI_div (by omega) (by omega), nI_add]
      have fin : ∀ y, (zfc C LS CD sp x (zat p k)).2.1 = y → ai_E (d + 2) 291 12 [some (.inr (.inr (32, 0, 16128))), some (.inl (nI n)), z2, some (.inl (nI sp)), some (.inl (C (zat p k))), some (.inl (nI y)), some (.inl (nI x.2.2 + nI (LS (zat p k)) * g.1 2064401 y)), some (.inl (nI k + 1)), some (.inl (C (zat p k)))] [] g = some ([.inl (nI (zfo C LS CD sp x (zat p k :: p.drop (k + 1))).2.2)], g) := fun y hy => by
        rw [← hy, hh.2 _ (show (zfc C LS CD sp x (zat p k)).2.1 < 24 by omega), pk_mul, nI_add, nI_1]
        exact ih.1
      by_cases c : x.2.1 + (zds x.1 (C (zat p k)) + sp - 1) / sp < 23
      · rw [if_pos (by rw [show (23 : Int32) = nI 23 from rfl, nI_leI (by omega) (by omega)]; omega), z_ix (by omega) (by decide)]
        exact fin _ (if_pos c)
      · have e23 : (zfc C LS CD sp x (zat p k)).2.1 = 23 := if_neg c
        by_cases c2 : x.2.1 + (zds x.1 (C (zat p k)) + sp - 1) / sp = 23
        · rw [if_pos (by rw [show (23 : Int32) = nI 23 from rfl, nI_leI (by omega) (by omega)]; omega), z_ix (by omega) (by decide)]
          exact fin _ (by rw [e23, c2])
        · rw [if_neg (by rw [show (23 : Int32) = nI 23 from rfl, nI_leI (by omega) (by omega)]; omega), show (23 : Int32) = nI 23 from rfl, z_ix (show 23 < 96 by decide) (by decide)]
          exact fin _ e23
  have := K n 0 (Nat.zero_add _) (c, 0, 0) (some (.inl c)) none hc (Nat.zero_le _) (Nat.zero_le _)
  rw [List.drop_zero] at this
  refine ⟨?_, this.2⟩
  rw [T291]
  exact this.1
