/-! THE PROMISES THAT TELL: shut .. plant -/
theorem zS_led {h h1 : ai_H} {T k : Nat} {σ σ' : Nat → Nat → Int32} (hk : k < 12) (f : zFc (ai_ch 2097282 k) h h1) (hl : zL h1 (ai_ch 2097282 k) (zled σ' (nI k) (zn σ' 4))) (ho : ∀ j, j < 12 → j ≠ k → zled σ' (nI j) (zn σ' 4) = zled σ (nI j) (zn σ 4)) (a : ∀ f, f ≠ 4 → ¬ (22 ≤ f ∧ f ≤ 26) → σ' f = σ f) (hs : zS h 16385 T σ) : zS h1 16385 T σ' := by
  obtain ⟨h1', h2, h3, h4, h5⟩ := hs
  have ak : ai_ch 2097282 k = 268452097 + k := by unfold ai_ch; omega
  have zk : zfp (ai_ch 2097282 k) = 2097282 := zfp_c (by omega)
  have k1 : zfp 2097281 = 16385 := rfl
  have k2 : zfp 2097282 = 16385 := rfl
  have k3 : zfp 2097283 = 16385 := rfl
  have k4 : zfp 2097284 = 16385 := rfl
  have nk : ∀ q, (zfp q = 2097281 ∨ q = 2097281 ∨ zfp q = 2097283 ∨ q = 2097283 ∨ q = 2097284 ∨ q = 2097282) → h1.1 q = h.1 q := fun q hq => f.1 q fun c => by
    rcases c with rfl | c
    · rw [zk] at hq; omega
    · rw [c] at hq
      rcases hq with hq | hq | hq | hq | hq | hq
      · omega
      · rw [hq, k1] at c; omega
      · omega
      · rw [hq, k3] at c; omega
      · rw [hq, k4] at c; omega
      · rw [hq, k2] at c; omega
  have nc : ∀ j, j < 127 → j ≠ k → h1.1 (ai_ch 2097282 j) = h.1 (ai_ch 2097282 j) := fun j hj hne => f.1 _ fun c => by
    rw [z_ch, zfp_c hj, z_cha'] at c
    rcases c with c | c
    · exact hne c
    · exact c
  have nr : ∀ j i, j < 12 → j ≠ k → i < 127 → h1.1 (ai_ch (ai_ch 2097282 j) i) = h.1 (ai_ch (ai_ch 2097282 j) i) := fun j i hj hne hi => f.1 _ fun c => by
    rw [zfp_c hi, z_ch] at c
    rcases c with c | c
    · have := congrArg zfp c
      rw [zfp_c hi, zk, z_cha] at this
      exact this
    · exact hne c
  refine ⟨?_, ⟨fun j hj => ?_, fun i hi => ?_, ?_, ?_, ?_⟩, zJ_s (fun g hg => a g (by omega) (by omega)) (zJ_c (fun q hq => nk q ?_) h3), fun t ht => ?_, fun j hj => ?_⟩
  · have e : ai_ch 16385 0 = 2097281 := rfl
    rw [e] at h1' ⊢
    have := zC_c (h' := h1) (fun q hq => nk q (by omega)) h1'
    unfold zC at this ⊢
    have z : ∀ g, g ≠ 4 → ¬ (22 ≤ g ∧ g ≤ 26) → zn σ' g = zn σ g := fun g x y => zn_c (a g x y)
    have zz : ∀ i, zab σ' i = zab σ i := fun i => by
      unfold zab
      have : ∀ k i, zabF σ' k i = zabF σ k i := by
        intro k
        induction k with
        | zero => intro i; rfl
        | succ k ih => intro i; unfold zabF; rw [a 10 (by decide) (by decide), ih]
      exact this _ _
    simp only [zz]
    rw [a 0 (by decide) (by decide), a 1 (by decide) (by decide), a 2 (by decide) (by decide), a 8 (by decide) (by decide), a 10 (by decide) (by decide), a 17 (by decide) (by decide), a 11 (by decide) (by decide), a 12 (by decide) (by decide), a 13 (by decide) (by decide), a 14 (by decide) (by decide), a 15 (by decide) (by decide), a 19 (by decide) (by decide), a 20 (by decide) (by decide), z 0 (by decide) (by decide), z 1 (by decide) (by decide), z 2 (by decide) (by decide), z 8 (by decide) (by decide)]
    exact this
  · have e : ai_ch 16385 1 = 2097282 := rfl
    rw [e] at h2 ⊢
    by_cases c : j = k
    · subst c; exact hl
    · rw [ho j hj c]
      exact zL_c (nc j (by omega) c) (fun i hi => nr j i hj c hi) (h2.1 j hj)
  · have e : ai_ch 16385 1 = 2097282 := rfl
    rw [e] at h2 ⊢
    rw [nc 12 (by decide) (by omega), a 16 (by decide) (by decide)]
    exact h2.2.1 i hi
  · have e : ai_ch 16385 1 = 2097282 := rfl
    rw [e] at h2 ⊢
    rw [nk 2097282 (by omega), a 3 (by decide) (by decide)]
    exact h2.2.2.1
  · have e : ai_ch 16385 1 = 2097282 := rfl
    rw [e] at h2 ⊢
    rw [nk 2097282 (by omega), a 6 (by decide) (by decide)]
    exact h2.2.2.2.1
  · have e : ai_ch 16385 1 = 2097282 := rfl
    rw [e] at h2 ⊢
    rw [nk 2097282 (by omega), a 7 (by decide) (by decide)]
    exact h2.2.2.2.2
  · have e : ai_ch 16385 2 = 2097283 := rfl
    rw [e] at hq
    omega
  · have e : ai_ch 16385 3 = 2097284 := rfl
    rw [e] at h4 ⊢
    rw [nk 2097284 (by omega), a 21 (by decide) (by decide)]
    exact h4 t ht
  · unfold zLk
    rw [f.2]
    exact h5 j hj
/-- a row that may be told -/
def zVt1 (σ : Nat → Nat → Int32) (k : Nat) (w v : Int32) : Prop := zi v 0 9999 ∧ 0 ≤ w.toInt ∧ (k = 4 → w.toInt < (zn σ 0 : Int)) ∧ (k = 1 ∨ k = 5 → w = 0) ∧ (¬ k = 1 → ¬ k = 4 → ¬ k = 5 → w.toInt < (zn σ 1 : Int)) ∧ (k = 0 ∨ k = 2 ∨ k = 3 ∨ k = 10 ∨ k = 11 → zi v 0 1) ∧ (k = 1 ∨ k = 5 → zi v 0 100) ∧ (k = 7 → zi v 0 23)
theorem tell_core {h : ai_H} {k : Nat} {w dd v : Int32} (d d' : Nat) (hr : zR h) (hk : k < 12) (hd : 0 ≤ dd.toInt ∧ dd.toInt ≤ (h.1 2097282 13).toInt) (hv : zVt1 (zsl (zMv h) 0) k w v) : ∃ r h1 h2, ai_X (d + 1) 37 [.inr (.inr (25, 0, ai_ch 2097282 k)), .inl w, .inl dd, .inl (if nI k = 6 then 1 else v), .inl (h.1 2097282 13)] h = some ([.inl r], h1) ∧
    ai_X (d' + 2) 208 [.inr (.inr (32, 0, 16128)), .inl (nI k), .inl (nI (zmost k)), .inl w, .inl dd, .inl v] h1 = some ([.inl r], h2) ∧ zR h2 ∧ zK h h2 ∧ (∀ q, zroot q = 16128 → h1.1 q = h.1 q) := by
  obtain ⟨r1, r2, r3, r4⟩ := id hr
  have V : zV (zsl (zMv h) 0) := r2.2.1 0 (Nat.zero_le _)
  have hD : zD h 2097282 (zsl (zMv h) 0) := r1.1.2.1
  have hK : zLk h (ai_ch 2097282 k) (zmost k) := r1.1.2.2.2.2 k hk
  have hT : h.1 2097282 13 = zsl (zMv h) 0 3 0 := hD.2.2.1
  have hL := hD.1 k hk
  have hlen := zled_len (zsl (zMv h) 0) (nI k) (zn (zsl (zMv h) 0) 4)
  have hcap := V.2.2.2.2.1.2 k hk
  have hz : zmost k ≤ 80 := by
    rcases (show k = 0 ∨ k = 1 ∨ k = 2 ∨ k = 3 ∨ k = 4 ∨ k = 5 ∨ k = 6 ∨ k = 7 ∨ k = 8 ∨ k = 9 ∨ k = 10 ∨ k = 11 by omega) with rfl | rfl | rfl | rfl | rfl | rfl | rfl | rfl | rfl | rfl | rfl | rfl <;> decide
  obtain ⟨hn, hnl, -⟩ := zn_eq V.1.2.2.2.2.2.1
  have hm : h.1 2064389 0 = nI (zn (zsl (zMv h) 0) 4) := (zs0 (f := 4) (by omega)).symm.trans hn
  have ht : h.1 2064388 0 = zsl (zMv h) 0 3 0 := (zs0 (f := 3) (by omega)).symm
  have e22 : ∀ i, zsl (zMv h) 0 22 i = h.1 2064407 i := fun i => zs0 (f := 22) (by omega)
  have ec : zcnt (fun e => zsl (zMv h) 0 22 e = nI k) (zn (zsl (zMv h) 0) 4) = zcnt (fun e => h.1 2064407 e = nI k) (zn (zsl (zMv h) 0) 4) := zcnt_c fun i _ => by rw [e22]
  by_cases c : zcnt (fun e => zsl (zMv h) 0 22 e = nI k) (zn (zsl (zMv h) 0) 4) < zmost k
  · obtain ⟨h1, a1, a2, a3⟩ := X37 d w dd (if nI k = 6 then 1 else v) (h.1 2097282 13) hL (zled_sd _ _ _) hK (by rw [hlen]; exact c) (by omega)
    have fin : (∀ q, ¬ zin q → h1.1 q = h.1 q) ∧ h1.2 = h.2 := by
      refine ⟨fun q n => a2.1 q (fun x => n ?_), a2.2⟩
      have zk : zfp (ai_ch 2097282 k) = 2097282 := zfp_c (by omega)
      have k2 : zfp 2097282 = 16385 := rfl
      unfold zin
      rcases x with rfl | x
      · exact Or.inr (Or.inl (by rw [zk, k2]))
      · exact Or.inr (Or.inr (by rw [x, zk, k2]))
    have nM : ∀ q, zroot q = 16128 → h1.1 q = h.1 q := fun q hq => fin.1 q fun k => by rw [zin_r k] at hq; omega
    have n1 : h1.1 2064389 0 = nI (zn (zsl (zMv h) 0) 4) := by rw [nM _ (by decide)]; exact hm
    have t1 : h1.1 2064388 0 = h.1 2097282 13 := by rw [nM _ (by decide), ht, hT]
    have c1 : zcnt (fun e => h1.1 2064407 e = nI k) (zn (zsl (zMv h) 0) 4) = zcnt (fun e => zsl (zMv h) 0 22 e = nI k) (zn (zsl (zMv h) 0) 4) := by rw [ec, nM 2064407 (by decide)]
    have eV : zMv h1 = zMv h := zMv_c (fun f hf => nM _ (zMr (by omega))) (fun j _ => by rw [nM 16128 (by decide)])
    have hlt := zVe_lt V.2.2.2.2.1 hk c
    have hne : ¬ nI (zcnt (fun e => h1.1 2064407 e = nI k) (zn (zsl (zMv h) 0) 4)) = nI (zmost k) := by
      rw [c1, nI_eq (by omega) (by omega)]
      omega
    have b1 := M208_go (h := h1) d' (nI k) (nI (zmost k)) w dd v n1 (by omega) (by rw [t1]; exact hd) hne
    rw [c1, ← hlen] at b1
    refine ⟨_, h1, _, a1, b1, ?_, zK_of a2.2, nM⟩
    refine zR_now hr (μ' := zmu (zmu (zmu (zmu (zmu (zmu (zMv h) 22 (zn (zsl (zMv h) 0) 4) (nI k)) 23 (zn (zsl (zMv h) 0) 4) w) 24 (zn (zsl (zMv h) 0) 4) dd) 25 (zn (zsl (zMv h) 0) 4) v) 26 (zn (zsl (zMv h) 0) 4) (zsl (zMv h) 0 3 0)) 4 0 (nI (zn (zsl (zMv h) 0) 4 + 1)))
      (zEq0_mu (zEq0_mu (zEq0_mu (zEq0_mu (zEq0_mu (zEq0_mu zEq0_rf (by decide) hlt) (by decide) hlt) (by decide) hlt) (by decide) hlt) (by decide) hlt) (by decide) (by decide)) fin ?_ (zFm_st (zFm_st (zFm_st (zFm_st (zFm_st (zFm_st zFm_rf (by decide)) (by decide)) (by decide)) (by decide)) (by decide)) (by decide)) rfl ?_ ?_ (fun t ht => ?_)
    · simp only [zsl_up]
      have z4 := zsT_zn (σ := zsl (zMv h) 0) (k := nI k) (w := w) (dd := dd) (v := v) (show zn (zsl (zMv h) 0) 4 < 30000 by omega)
      refine zS_led (σ' := zsT (zsl (zMv h) 0) (nI k) w dd v) hk a2 ?_ (fun j hj hjk => ?_) (fun f x y => zsT_n x y) r1.1
      · rw [z4, zled_tell, if_pos rfl, ← hT]
        exact a3
      · rw [z4, zled_tell, if_neg]
        rw [nI_eq (by omega) (by omega)]
        exact fun x => hjk x.symm
    · have e1 := zMv_st (h := h1) (f := 22) (i := zn (zsl (zMv h) 0) 4) (v := nI k) (by omega)
      have e2 := zMv_st (h := ai_st h1 2064407 (zn (zsl (zMv h) 0) 4) (nI k)) (f := 23) (i := zn (zsl (zMv h) 0) 4) (v := w) (by omega)
      have e3 := zMv_st (h := ai_st (ai_st h1 2064407 (zn (zsl (zMv h) 0) 4) (nI k)) 2064408 (zn (zsl (zMv h) 0) 4) w) (f := 24) (i := zn (zsl (zMv h) 0) 4) (v := dd) (by omega)
      have e4 := zMv_st (h := ai_st (ai_st (ai_st h1 2064407 (zn (zsl (zMv h) 0) 4) (nI k)) 2064408 (zn (zsl (zMv h) 0) 4) w) 2064409 (zn (zsl (zMv h) 0) 4) dd) (f := 25) (i := zn (zsl (zMv h) 0) 4) (v := v) (by omega)
      have e5 := zMv_st (h := ai_st (ai_st (ai_st (ai_st h1 2064407 (zn (zsl (zMv h) 0) 4) (nI k)) 2064408 (zn (zsl (zMv h) 0) 4) w) 2064409 (zn (zsl (zMv h) 0) 4) dd) 2064410 (zn (zsl (zMv h) 0) 4) v) (f := 26) (i := zn (zsl (zMv h) 0) 4) (v := h1.1 2064388 0) (by omega)
      have e6 := zMv_st (h := ai_st (ai_st (ai_st (ai_st (ai_st h1 2064407 (zn (zsl (zMv h) 0) 4) (nI k)) 2064408 (zn (zsl (zMv h) 0) 4) w) 2064409 (zn (zsl (zMv h) 0) 4) dd) 2064410 (zn (zsl (zMv h) 0) 4) v) 2064411 (zn (zsl (zMv h) 0) 4) (h1.1 2064388 0)) (f := 4) (i := 0) (v := nI (zn (zsl (zMv h) 0) 4 + 1)) (by omega)
      refine e6.trans ?_
      rw [show zMv (ai_st (ai_st (ai_st (ai_st (ai_st h1 2064407 (zn (zsl (zMv h) 0) 4) (nI k)) 2064408 (zn (zsl (zMv h) 0) 4) w) 2064409 (zn (zsl (zMv h) 0) 4) dd) 2064410 (zn (zsl (zMv h) 0) 4) v) 2064411 (zn (zsl (zMv h) 0) 4) (h1.1 2064388 0)) = _ from e5, show zMv (ai_st (ai_st (ai_st (ai_st h1 2064407 (zn (zsl (zMv h) 0) 4) (nI k)) 2064408 (zn (zsl (zMv h) 0) 4) w) 2064409 (zn (zsl (zMv h) 0) 4) dd) 2064410 (zn (zsl (zMv h) 0) 4) v) = _ from e4, show zMv (ai_st (ai_st (ai_st h1 2064407 (zn (zsl (zMv h) 0) 4) (nI k)) 2064408 (zn (zsl (zMv h) 0) 4) w) 2064409 (zn (zsl (zMv h) 0) 4) dd) = _ from e3, show zMv (ai_st (ai_st h1 2064407 (zn (zsl (zMv h) 0) 4) (nI k)) 2064408 (zn (zsl (zMv h) 0) 4) w) = _ from e2, show zMv (ai_st h1 2064407 (zn (zsl (zMv h) 0) 4) (nI k)) = _ from e1, eV, t1, hT]
    · simp only [zsl_up]
      exact zV_tell V hk c (by rw [hT] at hd; exact hd) hv
    · exact (r2.2.2.2.1.1 t ht).1
  · have hge : zmost k ≤ (zled (zsl (zMv h) 0) (nI k) (zn (zsl (zMv h) 0) 4)).length := by rw [hlen]; omega
    refine ⟨-1, h, h, X37_no d w dd _ _ hL hK hge (by omega), M208_full d' (nI k) (nI (zmost k)) w dd v hm (by omega) ?_, hr, zK_of rfl, fun _ _ => rfl⟩
    rw [← ec]
    exact congrArg nI (by omega)
