/-! THE START: the relation stands behind both constructors -/
def zmu0 : zMu := (fun _ _ => 0, fun j => if j = 49 then -1 else 0)
theorem zi0 {b : Int} (h : 0 ≤ b) : zi 0 0 b := by
  unfold zi
  rw [zl0]
  exact ⟨Int.le_refl _, h⟩
theorem zn0 {f : Nat} : zn (fun _ _ => 0) f = 0 := by
  show (0 : Int32).toInt.toNat = 0
  rw [zl0]
  rfl
theorem zV0 : zV (fun _ _ => 0) := by
  have v : ∀ {f i : Nat} {P : Prop}, i < zn (fun _ _ => 0) f → P := fun {f i P} h => by rw [zn0] at h; exact absurd h (Nat.not_lt_zero _)
  refine ⟨⟨zi0 (by decide), zi0 (by decide), zi0 (by decide), zi0 (by decide), zi0 (by decide), zi0 (by decide), zi0 (by decide), zi0 (by decide), zi0 (by decide)⟩, fun i hi => v hi, fun t ht => v ht, ⟨fun i hi => v hi, fun i hi => v hi, fun i _ => zi0 (by decide)⟩, ⟨fun e he => v he, fun k _ => ?_⟩, fun j hj => v hj⟩
  rw [zn0]
  exact Nat.zero_le _
theorem zVm0 : zVm zmu0 := by
  have g0 : ∀ {j : Nat}, ¬ j = 49 → zg zmu0 j = 0 := fun {j} h => by
    show ((if j = 49 then (-1 : Int32) else 0).toInt).toNat = 0
    rw [if_neg h, zl0]
    rfl
  have s0 : ∀ {j : Nat}, ¬ j = 49 → zmu0.2 j = 0 := fun {j} h => if_neg h
  have z0 : (0 : Int32).toInt.toNat = 0 := by rw [zl0]; rfl
  have no : ∀ {i : Nat} {P : Prop}, i < 0 → P := fun h => absurd h (Nat.not_lt_zero _)
  refine ⟨⟨?_, ?_, ?_, ?_, ?_, ?_⟩, fun k _ => zV0, fun i hi => ?_, ⟨fun t ht => ?_, fun i hi => ?_⟩, ⟨fun t _ => ⟨zi0 (by decide), fun k hk => ?_⟩, fun d hd => ?_⟩, fun i hi => ?_, ⟨?_, fun k hk => ?_, fun t _ _ => rfl⟩, fun t ht => ?_, fun h => absurd (s0 (by decide)) h⟩
  · rw [s0 (by decide)]; exact zi0 (by decide)
  · rw [s0 (by decide)]; exact zi0 (by decide)
  · rw [s0 (by decide)]; exact zi0 (by decide)
  · rw [s0 (by decide)]; exact zi0 (by decide)
  · rw [s0 (by decide)]; exact zi0 (by decide)
  · rw [show zmu0.2 49 = -1 from rfl]
    unfold zi
    rw [zlm1]
    exact ⟨by decide, by decide⟩
  · rw [g0 (by decide)] at hi; exact no hi
  · rw [g0 (by decide)] at ht; exact no ht
  · rw [g0 (by decide)] at hi; exact no hi
  · rw [show zmu0.1 64 t = 0 from rfl, z0] at hk; exact no hk
  · rw [g0 (by decide)] at hd; exact no hd
  · rw [g0 (by decide)] at hi; exact no hi
  · rw [s0 (by decide), g0 (by decide)]; exact zi0 (by decide)
  · rw [s0 (by decide), z0] at hk; exact no hk
  · rw [g0 (by decide)] at ht; exact no ht
/-- a heap whose ints are nothing but two signs, with a new state in the class and an empty law -/
theorem zR_0 {h : ai_H} (I : ∀ q j, ¬ zdn 3 (ai_ch 128 0) q → h.1 q j = if q = 128 ∧ j = 11 then (-1 : Int32) else if q = 16128 ∧ j = 49 then (-1 : Int32) else 0) (N : znst h (ai_ch 128 0)) (Rl : h.2.2.1 128 9 = some 15488) (Rk : ∀ k, k < 4 → h.2.2.1 15488 k = some (15616 + 128 * k) ∧ h.2.2.2.1 (15616 + 128 * k) = (1, 0)) (dn : 16128 < ai_dn h) (fr : zFree h) : zR h := by
  have nr : ∀ q, ¬ zroot q = 128 → ¬ zdn 3 (ai_ch 128 0) q := fun q hq c => hq (zdn_root (n := 4) (by decide) (by decide) (zdn_c (by decide) c))
  have rm : ∀ f, f < 87 → ∀ j, h.1 (2064385 + f) j = 0 := fun f hf j => by
    rw [I _ _ (nr _ (by rw [zMr hf]; decide)), if_neg (by omega), if_neg (by omega)]
  have r15 : ∀ j, h.1 16128 j = if j = 49 then (-1 : Int32) else 0 := fun j => by
    rw [I _ _ (nr _ (by decide)), if_neg (by omega)]
    by_cases c : j = 49
    · rw [if_pos ⟨rfl, c⟩, if_pos c]
    · rw [if_neg (fun w => c w.2), if_neg c]
  have M : zMv h = zmu0 := by
    unfold zMv zmu0
    congr 1
    · funext f i
      by_cases c : f < 50 ∨ (63 ≤ f ∧ f < 67)
      · rw [if_pos c, rm f (by omega)]
      · rw [if_neg c]
    · funext j
      by_cases c : j < 50
      · rw [if_pos c, r15]
      · rw [if_neg c, if_neg (by omega)]
  have g0 : ∀ {j : Nat}, ¬ j = 49 → zg zmu0 j = 0 := fun {j} h => by
    show ((if j = 49 then (-1 : Int32) else 0).toInt).toNat = 0
    rw [if_neg h, zl0]
    rfl
  have z0 : (0 : Int32).toInt.toNat = 0 := by rw [zl0]; rfl
  have no : ∀ {i : Nat} {P : Prop}, i < 0 → P := fun h => absurd h (Nat.not_lt_zero _)
  have v : ∀ {f i : Nat} {P : Prop}, i < zn (fun _ _ => 0) f → P := fun {f i P} h => by rw [zn0] at h; exact absurd h (Nat.not_lt_zero _)
  have iz : ∀ q j, ¬ zdn 3 (ai_ch 128 0) q → ¬ q = 128 → ¬ q = 16128 → h.1 q j = 0 := fun q j h1 h2 h3 => by rw [I q j h1, if_neg (fun c => h2 c.1), if_neg (fun c => h3 c.1)]
  have nb : ∀ k, k < 127 → ¬ k = 0 → ¬ zdn 3 (ai_ch 128 0) (ai_ch 128 k) := fun k hk h0 => zdn_b hk h0
  have nbb : ∀ k l, k < 127 → l < 127 → ¬ k = 0 → ¬ zdn 3 (ai_ch 128 0) (ai_ch (ai_ch 128 k) l) := fun k l hk hl h0 => zdn_bb (by decide) hk hl h0
  obtain ⟨x1, x2, x3, x4, ⟨x5, x6, x7⟩, x8, x9⟩ := N
  have s0 : ∀ k, zsl zmu0 k = fun _ _ => 0 := fun k => rfl
  refine ⟨?_, by rw [M]; exact zVm0, fr, dn⟩
  rw [M]
  refine ⟨?_, ?_, ⟨?_, fun i hi => ?_⟩, ⟨?_, fun t _ => ⟨?_, ?_, fun k hk => ?_⟩, fun d hd => ?_⟩, ⟨?_, fun i hi => ?_⟩, ⟨?_, fun t ht => ?_, 15488, Rl, ?_⟩⟩
  · rw [s0, g0 (by decide)]
    refine ⟨⟨?_, ?_, ?_, ?_, ?_, ?_, fun i hi => v hi, fun t ht => v ht, fun i hi => v hi, fun i hi => v hi⟩, ⟨fun k hk => ⟨?_, fun i hi => ?_⟩, fun i _ => ?_, ?_, ?_, ?_⟩, ⟨?_, fun j hj => v hj⟩, fun t ht => no ht, fun k hk => (x1 k hk).1⟩
    · show h.1 (ai_ch (ai_ch 128 0) 0) 0 = 0; rw [x2]
    · show h.1 (ai_ch (ai_ch 128 0) 0) 1 = 0; rw [x2]
    · show h.1 (ai_ch (ai_ch 128 0) 0) 2 = 0; rw [x2]
    · show h.1 (ai_ch (ai_ch 128 0) 0) 3 = 0; rw [x2]
    · rw [zn0]; show h.1 (ai_ch (ai_ch 128 0) 0) 4 = 0; rw [x2]
    · rw [zn0]; show h.1 (ai_ch (ai_ch 128 0) 0) 5 = 0; rw [x2]
    · rw [zn0]; exact (x1 k hk).2
    · rw [zn0] at hi; exact no hi
    · show h.1 (ai_ch (ai_ch (ai_ch 128 0) 1) 12) i = 0; rw [x4]
    · exact x5
    · exact x6
    · exact x7.trans (show (-1 : Int32) = 0 - 1 by decide)
    · show h.1 (ai_ch (ai_ch 128 0) 2) 0 = 0; rw [x8]
  · rw [I 128 11 zdn_up, if_pos ⟨rfl, rfl⟩]; rfl
  · rw [I 128 10 zdn_up, if_neg (by omega), if_neg (by omega)]; rfl
  · rw [g0 (by decide)] at hi; exact no hi
  · exact iz 16389 0 (nb 4 (by decide) (by decide)) (by decide) (by decide)
  · exact iz 2097794 t (nbb 4 1 (by decide) (by decide) (by decide)) (by decide) (by decide)
  · rw [g0 (by decide)]; exact iz 2097795 t (nbb 4 2 (by decide) (by decide) (by decide)) (by decide) (by decide)
  · rw [show zmu0.1 64 t = 0 from rfl, z0] at hk; exact no hk
  · rw [g0 (by decide)] at hd; exact no hd
  · exact iz 16387 1 (nb 2 (by decide) (by decide)) (by decide) (by decide)
  · rw [g0 (by decide)] at hi; exact no hi
  · exact iz 16388 0 (nb 3 (by decide) (by decide)) (by decide) (by decide)
  · rw [g0 (by decide)] at ht; exact no ht
  · rw [if_pos (show zmu0.2 35 = 0 from rfl)]
    have m : ∀ k, k < 5 → zrt h (15488 + 128 * k) := fun k hk => ⟨by omega, by omega, by omega⟩
    refine ⟨m 0 (by decide), 15616, 15744, 15872, 16000, ⟨m 1 (by decide), m 2 (by decide), m 3 (by decide), m 4 (by decide)⟩, (Rk 0 (by decide)).1, (Rk 1 (by decide)).1, (Rk 2 (by decide)).1, (Rk 3 (by decide)).1, ?_, ?_, ?_, ?_, fun i q hi => ?_, fun i v hi => ?_⟩
    · exact congrArg Prod.snd (Rk 0 (by decide)).2
    · exact congrArg Prod.snd (Rk 1 (by decide)).2
    · exact congrArg Prod.snd (Rk 2 (by decide)).2
    · exact congrArg Prod.snd (Rk 3 (by decide)).2
    · cases hi
    · cases hi
/-- both constructors -/
theorem zstart (d : Nat) : ∃ g g2, ai_X (d + 6) 85 [.inr (.inr (51, 0, 128))] (ai_new ai_h0 128 (51, 0) 12) = some ([], g) ∧ ((g.2.2.2.1 128).1 = 51 ∧ ai_cmp g 128 11 = true) ∧ ai_dn (ai_stK g 128 (31, 0)) = 16128 ∧ ai_X (d + 6) 185 [.inr (.inr (52, 0, 16128))] (ai_new (ai_stK g 128 (31, 0)) 16128 (52, 0) 87) = some ([], g2) ∧ ((g2.2.2.2.1 16128).1 = 52 ∧ ai_cmp g2 16128 12 = true) ∧ zR (ai_stK g2 16128 (32, 0)) ∧ (ai_stK g2 16128 (32, 0)).2.2.2.2.2.1 = 195 ∧ (ai_stK g2 16128 (32, 0)).2.2.2.2.2.2 = 8466 + (87 + zqsum zl185) := by
  obtain ⟨g, x1, x2, x3, x4, x5, x6, x7, x8, c1, c2, c3⟩ := zX85 d
  obtain ⟨G, eG⟩ : ∃ w, ai_stK g 128 (31, 0) = w := ⟨_, rfl⟩
  have dG : ai_dn G = 16128 := by rw [← eG]; show 128 * g.2.2.2.2.1 = 16128; omega
  have Gk : ∀ q, G.2.2.2.1 q = if q = 128 then (31, 0) else g.2.2.2.1 q := fun q => by rw [← eG]; rfl
  have Gi : G.1 = g.1 := by rw [← eG]; rfl
  have Gr : G.2.2.1 = g.2.2.1 := by rw [← eG]; rfl
  have Gc : G.2.2.2.2 = g.2.2.2.2 := by rw [← eG]; rfl
  have nr : ∀ q, ¬ zroot q = 128 → ¬ zdn 4 128 q := fun q hq c => hq (zdn_root (n := 4) (by decide) (by decide) c)
  have rc : ∀ j, j < 127 → zroot (ai_ch 16128 j) = 16128 := fun j hj => zr1 (by decide) hj
  obtain ⟨g2, y1, J⟩ := zX185 (d + 5) (ai_new G 16128 (52, 0) 87) 16128 (by rw [znew_k, if_pos rfl]) (fun j hj => by
    rw [znew_k, if_neg (fun c => z_chn c.symm), Gk, if_neg (by unfold ai_ch; omega)]
    exact x6 _ (nr _ (by rw [rc j hj]; decide)) (by unfold ai_ch; omega)) (fun q hq hn => by
    rw [znew_i, if_neg hn, Gi]
    have k := zdn_root (n := 1) (by decide) (by decide) hq
    have nd : ¬ zdn 3 (ai_ch 128 0) q := fun c => nr q (by rw [k]; decide) (zdn_c (by decide) c)
    funext j
    rw [x5 q j nd, if_neg (fun c => by rw [c.1] at k; revert k; decide)])
  have cm : ai_cmp g2 16128 12 = true := zqs_c J (by decide +kernel)
  obtain ⟨j1, j2, j3, j4, j5, j6, j7⟩ := J
  have fr : ∀ q, ¬ zdn 1 16128 q → g2.1 q = g.1 q ∧ g2.2.2.1 q = g.2.2.1 q ∧ g2.2.2.2.1 q = G.2.2.2.1 q := fun q hq => by
    have nq : ¬ q = 16128 := fun c => hq (by rw [c]; exact zdn_a)
    obtain ⟨f1, f2, f3⟩ := j6 q hq
    exact ⟨by rw [f1, znew_i, if_neg nq, Gi], by rw [f2]; exact funext fun i => by rw [znew_r, if_neg nq, Gr], by rw [f3, znew_k, if_neg nq]⟩
  have n1 : ∀ q, ¬ zroot q = 16128 → ¬ zdn 1 16128 q := fun q hq c => hq (zdn_root (n := 1) (by decide) (by decide) c)
  have r3 : ∀ q, zdn 3 (ai_ch 128 0) q → zroot q = 128 := fun q hq => zdn_root (n := 4) (by decide) (by decide) (zdn_c (by decide) hq)
  obtain ⟨H, eH⟩ : ∃ w, ai_stK g2 16128 (32, 0) = w := ⟨_, rfl⟩
  have Hk : ∀ q, H.2.2.2.1 q = if q = 16128 then (32, 0) else g2.2.2.2.1 q := fun q => by rw [← eH]; rfl
  have Hi : H.1 = g2.1 := by rw [← eH]; rfl
  have Hr : H.2.2.1 = g2.2.2.1 := by rw [← eH]; rfl
  have Hc : H.2.2.2.2 = g2.2.2.2.2 := by rw [← eH]; rfl
  have cl : zl185.length = 69 := rfl
  have ct : g2.2.2.2.2.1 = 196 ∧ g2.2.2.2.2.2.1 = 195 ∧ g2.2.2.2.2.2.2 = 8466 + (87 + zqsum zl185) := by
    have t := zct_tr (znew_c (h := G) (c := 16128) (s := 87) (x := (52, 0))) j7
    unfold zct at t
    rw [cl, Gc] at t
    omega
  have dH : ai_dn H = 25088 := by
    unfold ai_dn
    rw [Hc]
    omega
  refine ⟨g, g2, x1, ⟨by rw [x2], x3⟩, by rw [eG]; exact dG, by rw [eG]; exact y1, ⟨by rw [j1], cm⟩, ?_, ?_⟩
  · rw [eH]
    refine zR_0 (fun q j hq => ?_) (znst_c (fun q hq => ?_) x4) ?_ (fun k hk => ?_) (by rw [dH]; decide) (fun q hq => ?_)
    · rw [Hi]
      by_cases c : zdn 1 16128 q
      · by_cases e : q = 16128
        · rw [e, j2]
          show (if j = 49 then (-1 : Int32) else (ai_new G 16128 (52, 0) 87).1 16128 j) = if 16128 = 128 ∧ j = 11 then (-1 : Int32) else if 16128 = 16128 ∧ j = 49 then (-1 : Int32) else 0
          by_cases c2 : j = 49
          · rw [if_pos c2, if_neg (by omega), if_pos ⟨rfl, c2⟩]
          · rw [if_neg c2, znew_i, if_pos rfl, if_neg (by omega), if_neg (fun w => c2 w.2)]
        · rw [j5 q c e, if_neg (fun w => by rw [w.1] at c; have := zdn_root (n := 1) (by decide) (by decide) c; revert this; decide), if_neg (fun w => e w.1)]
      · have e : ¬ q = 16128 := fun w => c (by rw [w]; exact zdn_a)
        rw [(fr q c).1, x5 q j hq]
        by_cases c2 : q = 128 ∧ j = 11
        · rw [if_pos c2, if_pos c2]
        · rw [if_neg c2, if_neg c2, if_neg (fun w => e w.1)]
    · have k := r3 q hq
      have nd : ¬ zdn 1 16128 q := n1 q (by rw [k]; decide)
      have e1 : ¬ q = 16128 := fun c => by rw [c] at k; revert k; decide
      have e2 : ¬ q = 128 := fun c => by rw [c] at hq; exact zdn_up hq
      exact ⟨by rw [Hi, (fr q nd).1], fun _ => by rw [Hk, if_neg e1, (fr q nd).2.2, Gk, if_neg e2]⟩
    · rw [Hr, (fr 128 (n1 128 (by decide))).2.1]
      exact x7
    · have e1 : ¬ zdn 1 16128 15488 := n1 15488 (by decide)
      have e2 : ¬ zdn 1 16128 (15616 + 128 * k) := n1 _ (by rw [zr0 (by omega)]; omega)
      rw [Hr, (fr _ e1).2.1, Hk, if_neg (by omega), (fr _ e2).2.2, Gk, if_neg (by omega)]
      exact x8 k hk
    · rw [dH] at hq
      have le : zroot q ≤ q := by
        unfold zroot
        exact Nat.le_trans (zfp_le _) (Nat.le_trans (zfp_le _) (Nat.le_trans (zfp_le _) (Nat.le_trans (zfp_le _) (Nat.le_trans (zfp_le _) (zfp_le _)))))
      rw [Hk, if_neg (by omega), (fr q (n1 q (by omega))).2.2, Gk, if_neg (by omega)]
      exact x6 q (nr q (by omega)) (by omega)
  · rw [eH, Hc]
    exact ct.2
