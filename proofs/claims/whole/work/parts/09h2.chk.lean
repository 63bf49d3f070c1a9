def ai_mtc (o : Nat) (e : Nat × ai_Mr) (p : Nat × Nat) : Bool := match e.2 with
  | (0, mi, n, t, _) => ai_wc (Cond.methodLink (ai_nmO o) e.1 (ai_y mi).1) p && (match ai_lk ai_yks mi with
    | some y => decide (y.2.1 = 0) && (decide (n = y.1 + 1) && (if y.2.2.2.2.2.2 < 13 then decide (t = 20 + y.2.2.2.2.2.2) else decide (t = 6)))
    | none => false)
  | (1, mi, n, _, _) => (if p.1 = 99 then ai_nin ai_nsts (ai_nmO o) e.1 (ai_y mi).1 else ai_wc (Cond.methodLink (ai_nmO o) e.1 (ai_y mi).1) p) && (match ai_lk ai_yks mi with
    | some y => decide (y.2.1 = 1) && decide (n = y.1)
    | none => false)
  | (10, mi, n, t, _) => (if p.1 = 99 then ai_nin ai_nsts (ai_nmO o) e.1 (ai_y mi).1 else ai_wc (Cond.methodLink (ai_nmO o) e.1 (ai_y mi).1) p) && (match ai_lk ai_yks mi with
    | some y => decide (y.2.1 = 2) && (decide (n = y.1 + 1) && (decide (40 ≤ t) && decide (t < 53)))
    | none => false)
  | (3, _) => ai_wc (Cond.methodLink (ai_nmO o) e.1 Lib.Math.max.name) p
  | (4, _) => ai_wc (Cond.methodLink (ai_nmO o) e.1 Lib.Math.min.name) p
  | (5, _) => ai_wc (Cond.methodLink (ai_nmO o) e.1 Lib.Math.abs.name) p
  | (6, _) => ai_wc (Cond.methodLink (ai_nmO o) e.1 arraycopyName) p
  | (7, _) => ai_wc (Cond.methodLink (ai_nmO o) e.1 Lib.objectInit) p
  | (9, _) => ai_wc (Cond.methodLink (ai_nmO o) e.1 ⟨"[I", "clone", "()Ljava/lang/Object;"⟩) p
  | _ => true
theorem ai_mtc_ok {o : Nat} {e : Nat × ai_Mr} {p : Nat × Nat} (h : ai_mtc o e p = true) : ai_Mtok o e.1 e.2 := by
  obtain ⟨idx, kd, mi, n, t, q⟩ := e
  match kd with
  | 0 =>
    change (ai_wc (Cond.methodLink (ai_nmO o) idx (ai_y mi).1) p && (match ai_lk ai_yks mi with
    | some y => decide (y.2.1 = 0) && (decide (n = y.1 + 1) && (if y.2.2.2.2.2.2 < 13 then decide (t = 20 + y.2.2.2.2.2.2) else decide (t = 6)))
    | none => false)) = true at h
    rw [Bool.and_eq_true] at h
    obtain ⟨h1, h2⟩ := h
    split at h2
    · rename_i y hy
      simp only [Bool.and_eq_true, decide_eq_true_eq] at h2
      obtain ⟨h2, h3, h4⟩ := h2
      obtain ⟨a1, a2, -, -⟩ := ai_yc_ok (ai_yks_c _ (ai_lk_mem _ _ _ hy)) (ai_yks_ok _ (ai_lk_mem _ _ _ hy))
      obtain ⟨b1, b2, b3⟩ := a2 h2
      refine ⟨y.1, h3, a1, ai_wc_in h1, b1, b2, ?_⟩
      split at h4
      · rename_i hc
        rw [if_pos hc] at b3
        exact Or.inl ⟨_, hc, of_decide_eq_true h4, b3⟩
      · rename_i hc
        rw [if_neg hc] at b3
        exact Or.inr ⟨of_decide_eq_true h4, b3⟩
    · cases h2
  | 1 =>
    change ((if p.1 = 99 then ai_nin ai_nsts (ai_nmO o) idx (ai_y mi).1 else ai_wc (Cond.methodLink (ai_nmO o) idx (ai_y mi).1) p) && (match ai_lk ai_yks mi with
    | some y => decide (y.2.1 = 1) && decide (n = y.1)
    | none => false)) = true at h
    rw [Bool.and_eq_true] at h
    obtain ⟨h1, h2⟩ := h
    split at h2
    · rename_i y hy
      simp only [Bool.and_eq_true, decide_eq_true_eq] at h2
      obtain ⟨h2, h3⟩ := h2
      obtain ⟨a1, -, a2, -⟩ := ai_yc_ok (ai_yks_c _ (ai_lk_mem _ _ _ hy)) (ai_yks_ok _ (ai_lk_mem _ _ _ hy))
      refine ⟨by rw [h3]; exact a1, a2 h2, ?_⟩
      split at h1
      · exact Or.inr (ai_nin_ok h1)
      · exact Or.inl (ai_wc_in h1)
    · cases h2
  | 2 => trivial
  | 3 => exact ai_wc_in h
  | 4 => exact ai_wc_in h
  | 5 => exact ai_wc_in h
  | 6 => exact ai_wc_in h
  | 7 => exact ai_wc_in h
  | 8 => trivial
  | 9 => exact ai_wc_in h
  | 10 =>
    change ((if p.1 = 99 then ai_nin ai_nsts (ai_nmO o) idx (ai_y mi).1 else ai_wc (Cond.methodLink (ai_nmO o) idx (ai_y mi).1) p) && (match ai_lk ai_yks mi with
    | some y => decide (y.2.1 = 2) && (decide (n = y.1 + 1) && (decide (40 ≤ t) && decide (t < 53)))
    | none => false)) = true at h
    rw [Bool.and_eq_true] at h
    obtain ⟨h1, h2⟩ := h
    split at h2
    · rename_i y hy
      simp only [Bool.and_eq_true, decide_eq_true_eq] at h2
      obtain ⟨h2, h3, h4, h5⟩ := h2
      obtain ⟨a1, -, -, a2⟩ := ai_yc_ok (ai_yks_c _ (ai_lk_mem _ _ _ hy)) (ai_yks_ok _ (ai_lk_mem _ _ _ hy))
      obtain ⟨b1, b2, b3⟩ := a2 h2
      refine ⟨y.1, h3, a1, b3, b2, b1, h4, h5, ?_⟩
      split at h1
      · exact Or.inr (ai_nin_ok h1)
      · exact Or.inl (ai_wc_in h1)
    · cases h2
  | kd + 11 => trivial
def ai_clc (o : Nat) (e : Nat × (Nat × Nat)) (p : (Nat × Nat) × (Nat × Nat) × (Nat × Nat)) : Bool := decide (e.2.1 < 13) && (decide (e.2.2 = jg_nf e.2.1) && (ai_wc (Cond.classLink (ai_nmO o) e.1 (jg_R e.2.1)) p.1 && (ai_wc (Cond.instantiable (jg_R e.2.1) (jg_nf e.2.1)) p.2.1 && ai_wc (Cond.initialized (jg_R e.2.1)) p.2.2)))
theorem ai_clc_ok {o : Nat} {e : Nat × (Nat × Nat)} {p : (Nat × Nat) × (Nat × Nat) × (Nat × Nat)} (h : ai_clc o e p = true) : ai_Clok o e.1 e.2 := by
  unfold ai_clc at h
  simp only [Bool.and_eq_true, decide_eq_true_eq] at h
  exact ⟨h.1, h.2.1, ai_wc_in h.2.2.1, ai_wc_in h.2.2.2.1, ai_wc_in h.2.2.2.2⟩
def ai_csc (o : Nat) (e : Nat × ai_V) (p : Nat × Nat) : Bool := match e.2 with
  | .inl x => ai_wc (Cond.constant (ai_nmO o) e.1 x) p
  | .inr (.inl x) => ai_wc (Cond.constantLong (ai_nmO o) e.1 x) p
  | .inr (.inr (t, l, k)) => if t = 6 then decide (l = 0) && (decide (ai_nmO o = RX7) && (decide (k < ai_txts.length) && ai_tixs.any (fun q => decide (q.1 = e.1) && decide (q.2.2 = k)))) else if t = 7 then ai_wc (Cond.fieldLink (ai_nmO o) e.1 RX9 "POWERS" "[I") p else if t = 10 then ai_wc (Cond.fieldLink (ai_nmO o) e.1 "java/lang/String" "COMPACT_STRINGS" "Z") p else if t = 11 then ai_wc (Cond.fieldLink (ai_nmO o) e.1 "jdk/internal/util/Preconditions" "SIOOBE_FORMATTER" "Ljava/util/function/BiFunction;") p else false
theorem ai_csc_ok {o : Nat} {e : Nat × ai_V} {p : Nat × Nat} (h : ai_csc o e p = true) : ai_Csok o e.1 e.2 := by
  obtain ⟨idx, v⟩ := e
  rcases v with x | x | ⟨t, l, k⟩
  · exact ai_wc_in h
  · exact ai_wc_in h
  · change (if t = 6 then decide (l = 0) && (decide (ai_nmO o = RX7) && (decide (k < ai_txts.length) && ai_tixs.any (fun q => decide (q.1 = idx) && decide (q.2.2 = k)))) else if t = 7 then ai_wc (Cond.fieldLink (ai_nmO o) idx RX9 "POWERS" "[I") p else if t = 10 then ai_wc (Cond.fieldLink (ai_nmO o) idx "java/lang/String" "COMPACT_STRINGS" "Z") p else if t = 11 then ai_wc (Cond.fieldLink (ai_nmO o) idx "jdk/internal/util/Preconditions" "SIOOBE_FORMATTER" "Ljava/util/function/BiFunction;") p else false) = true at h
    split at h
    · rename_i ht
      subst ht
      simp only [Bool.and_eq_true, decide_eq_true_eq] at h
      obtain ⟨h1, h2, h3, h4⟩ := h
      obtain ⟨q, hq, h5⟩ := List.any_eq_true.mp h4
      simp only [Bool.and_eq_true, decide_eq_true_eq] at h5
      obtain ⟨a, b, c⟩ := q
      dsimp only at h5
      obtain ⟨rfl, rfl⟩ := h5
      exact ⟨h1, h2, h3, b, hq⟩
    · split at h
      · rename_i ht
        subst ht
        exact ai_wc_in h
      · split at h
        · rename_i ht
          subst ht
          exact ai_wc_in h
        · split at h
          · rename_i ht
            subst ht
            exact ai_wc_in h
          · cases h
set_option maxRecDepth 100000 in
theorem ai_fl0_ok : ai_all2 (ai_flc 0) ai_fl0 [(1, 42), (1, 46), (1, 49), (1, 51), (1, 53), (1, 55), (1, 57), (1, 59), (1, 60), (1, 62), (1, 65), (1, 67), (1, 70), (1, 72), (1, 75)] = true := by decide +kernel
set_option maxRecDepth 100000 in
theorem ai_mt0_ok : ai_all2 (ai_mtc 0) ai_mt0 [(1, 41), (99, 0), (99, 0), (5, 192), (6, 81)] = true := by decide +kernel
set_option maxRecDepth 100000 in
theorem ai_cl0_ok : ai_all2 (ai_clc 0) ai_cl0 [] = true := by decide +kernel
set_option maxRecDepth 100000 in
theorem ai_cs0_ok : ai_all2 (ai_csc 0) ai_cs0 [] = true := by decide +kernel
theorem ai_tb0_ok : ai_Tbok 0 ai_tb0 := ⟨fun i r h => by obtain ⟨b, hb⟩ := ai_all2_at ai_fl0_ok _ (ai_lk_mem _ _ _ h); exact ai_flc_ok hb, fun i r h => by obtain ⟨b, hb⟩ := ai_all2_at ai_mt0_ok _ (ai_lk_mem _ _ _ h); exact ai_mtc_ok hb, fun i r h => by obtain ⟨b, hb⟩ := ai_all2_at ai_cl0_ok _ (ai_lk_mem _ _ _ h); exact ai_clc_ok hb, fun i r h => by obtain ⟨b, hb⟩ := ai_all2_at ai_cs0_ok _ (ai_lk_mem _ _ _ h); exact ai_csc_ok hb⟩
set_option maxRecDepth 100000 in
theorem ai_fl1_ok : ai_all2 (ai_flc 1) ai_fl1 [(1, 45), (1, 48), (1, 64), (1, 73), (2, 202), (2, 203), (2, 204), (2, 205), (2, 206), (2, 207), (2, 209), (2, 210)] = true := by decide +kernel
set_option maxRecDepth 100000 in
theorem ai_mt1_ok : ai_all2 (ai_mtc 1) ai_mt1 [(2, 201), (99, 0), (5, 78), (5, 82), (5, 87), (5, 95)] = true := by decide +kernel
set_option maxRecDepth 100000 in
theorem ai_cl1_ok : ai_all2 (ai_clc 1) ai_cl1 [] = true := by decide +kernel
set_option maxRecDepth 100000 in
theorem ai_cs1_ok : ai_all2 (ai_csc 1) ai_cs1 [] = true := by decide +kernel
theorem ai_tb1_ok : ai_Tbok 1 ai_tb1 := ⟨fun i r h => by obtain ⟨b, hb⟩ := ai_all2_at ai_fl1_ok _ (ai_lk_mem _ _ _ h); exact ai_flc_ok hb, fun i r h => by obtain ⟨b, hb⟩ := ai_all2_at ai_mt1_ok _ (ai_lk_mem _ _ _ h); exact ai_mtc_ok hb, fun i r h => by obtain ⟨b, hb⟩ := ai_all2_at ai_cl1_ok _ (ai_lk_mem _ _ _ h); exact ai_clc_ok hb, fun i r h => by obtain ⟨b, hb⟩ := ai_all2_at ai_cs1_ok _ (ai_lk_mem _ _ _ h); exact ai_csc_ok hb⟩
set_option maxRecDepth 100000 in
theorem ai_fl2_ok : ai_all2 (ai_flc 2) ai_fl2 [(1, 144), (1, 146), (1, 148), (1, 150), (1, 152), (1, 154), (1, 156), (1, 158), (1, 160), (1, 162), (1, 164), (1, 166), (1, 168), (1, 170), (1, 172), (1, 174)] = true := by decide +kernel
set_option maxRecDepth 100000 in
theorem ai_mt2_ok : ai_all2 (ai_mtc 2) ai_mt2 [(1, 113), (1, 116), (6, 86), (6, 92)] = true := by decide +kernel
set_option maxRecDepth 100000 in
theorem ai_cl2_ok : ai_all2 (ai_clc 2) ai_cl2 [((1, 114), (1, 115), (1, 5))] = true := by decide +kernel
set_option maxRecDepth 100000 in
theorem ai_cs2_ok : ai_all2 (ai_csc 2) ai_cs2 [] = true := by decide +kernel
theorem ai_tb2_ok : ai_Tbok 2 ai_tb2 := ⟨fun i r h => by obtain ⟨b, hb⟩ := ai_all2_at ai_fl2_ok _ (ai_lk_mem _ _ _ h); exact ai_flc_ok hb, fun i r h => by obtain ⟨b, hb⟩ := ai_all2_at ai_mt2_ok _ (ai_lk_mem _ _ _ h); exact ai_mtc_ok hb, fun i r h => by obtain ⟨b, hb⟩ := ai_all2_at ai_cl2_ok _ (ai_lk_mem _ _ _ h); exact ai_clc_ok hb, fun i r h => by obtain ⟨b, hb⟩ := ai_all2_at ai_cs2_ok _ (ai_lk_mem _ _ _ h); exact ai_csc_ok hb⟩
set_option maxRecDepth 100000 in
theorem ai_fl3_ok : ai_all2 (ai_flc 3) ai_fl3 [(1, 215), (1, 217), (1, 219), (1, 221), (1, 223), (1, 224), (1, 226)] = true := by decide +kernel
set_option maxRecDepth 100000 in
theorem ai_mt3_ok : ai_all2 (ai_mtc 3) ai_mt3 [(1, 214), (5, 5), (5, 9), (6, 19), (6, 36), (6, 97)] = true := by decide +kernel
set_option maxRecDepth 100000 in
theorem ai_cl3_ok : ai_all2 (ai_clc 3) ai_cl3 [] = true := by decide +kernel
set_option maxRecDepth 100000 in
theorem ai_cs3_ok : ai_all2 (ai_csc 3) ai_cs3 [] = true := by decide +kernel
theorem ai_tb3_ok : ai_Tbok 3 ai_tb3 := ⟨fun i r h => by obtain ⟨b, hb⟩ := ai_all2_at ai_fl3_ok _ (ai_lk_mem _ _ _ h); exact ai_flc_ok hb, fun i r h => by obtain ⟨b, hb⟩ := ai_all2_at ai_mt3_ok _ (ai_lk_mem _ _ _ h); exact ai_mtc_ok hb, fun i r h => by obtain ⟨b, hb⟩ := ai_all2_at ai_cl3_ok _ (ai_lk_mem _ _ _ h); exact ai_clc_ok hb, fun i r h => by obtain ⟨b, hb⟩ := ai_all2_at ai_cs3_ok _ (ai_lk_mem _ _ _ h); exact ai_csc_ok hb⟩
set_option maxRecDepth 100000 in
theorem ai_fl4_ok : ai_all2 (ai_flc 4) ai_fl4 [(2, 234), (2, 235), (2, 236), (2, 237)] = true := by decide +kernel
set_option maxRecDepth 100000 in
theorem ai_mt4_ok : ai_all2 (ai_mtc 4) ai_mt4 [(2, 233), (4, 193), (4, 197)] = true := by decide +kernel
set_option maxRecDepth 100000 in
theorem ai_cl4_ok : ai_all2 (ai_clc 4) ai_cl4 [] = true := by decide +kernel
set_option maxRecDepth 100000 in
theorem ai_cs4_ok : ai_all2 (ai_csc 4) ai_cs4 [(4, 67)] = true := by decide +kernel
theorem ai_tb4_ok : ai_Tbok 4 ai_tb4 := ⟨fun i r h => by obtain ⟨b, hb⟩ := ai_all2_at ai_fl4_ok _ (ai_lk_mem _ _ _ h); exact ai_flc_ok hb, fun i r h => by obtain ⟨b, hb⟩ := ai_all2_at ai_mt4_ok _ (ai_lk_mem _ _ _ h); exact ai_mtc_ok hb, fun i r h => by obtain ⟨b, hb⟩ := ai_all2_at ai_cl4_ok _ (ai_lk_mem _ _ _ h); exact ai_clc_ok hb, fun i r h => by obtain ⟨b, hb⟩ := ai_all2_at ai_cs4_ok _ (ai_lk_mem _ _ _ h); exact ai_csc_ok hb⟩
set_option maxRecDepth 100000 in
theorem ai_fl5_ok : ai_all2 (ai_flc 5) ai_fl5 [(1, 123), (1, 125), (1, 127), (1, 129), (1, 131)] = true := by decide +kernel
set_option maxRecDepth 100000 in
theorem ai_mt5_ok : ai_all2 (ai_mtc 5) ai_mt5 [(1, 119), (1, 120), (4, 188), (6, 90), (6, 91)] = true := by decide +kernel
set_option maxRecDepth 100000 in
theorem ai_cl5_ok : ai_all2 (ai_clc 5) ai_cl5 [] = true := by decide +kernel
set_option maxRecDepth 100000 in
theorem ai_cs5_ok : ai_all2 (ai_csc 5) ai_cs5 [] = true := by decide +kernel
theorem ai_tb5_ok : ai_Tbok 5 ai_tb5 := ⟨fun i r h => by obtain ⟨b, hb⟩ := ai_all2_at ai_fl5_ok _ (ai_lk_mem _ _ _ h); exact ai_flc_ok hb, fun i r h => by obtain ⟨b, hb⟩ := ai_all2_at ai_mt5_ok _ (ai_lk_mem _ _ _ h); exact ai_mtc_ok hb, fun i r h => by obtain ⟨b, hb⟩ := ai_all2_at ai_cl5_ok _ (ai_lk_mem _ _ _ h); exact ai_clc_ok hb, fun i r h => by obtain ⟨b, hb⟩ := ai_all2_at ai_cs5_ok _ (ai_lk_mem _ _ _ h); exact ai_csc_ok hb⟩
set_option maxRecDepth 100000 in
theorem ai_fl6_ok : ai_all2 (ai_flc 6) ai_fl6 [(2, 129), (2, 131), (2, 133), (2, 135), (2, 136), (2, 137), (2, 138), (2, 139)] = true := by decide +kernel
set_option maxRecDepth 100000 in
theorem ai_mt6_ok : ai_all2 (ai_mtc 6) ai_mt6 [(2, 128), (4, 121), (4, 122), (4, 134), (99, 0), (5, 221), (5, 224)] = true := by decide +kernel
set_option maxRecDepth 100000 in
theorem ai_cl6_ok : ai_all2 (ai_clc 6) ai_cl6 [] = true := by decide +kernel
set_option maxRecDepth 100000 in
theorem ai_cs6_ok : ai_all2 (ai_csc 6) ai_cs6 [] = true := by decide +kernel
theorem ai_tb6_ok : ai_Tbok 6 ai_tb6 := ⟨fun i r h => by obtain ⟨b, hb⟩ := ai_all2_at ai_fl6_ok _ (ai_lk_mem _ _ _ h); exact ai_flc_ok hb, fun i r h => by obtain ⟨b, hb⟩ := ai_all2_at ai_mt6_ok _ (ai_lk_mem _ _ _ h); exact ai_mtc_ok hb, fun i r h => by obtain ⟨b, hb⟩ := ai_all2_at ai_cl6_ok _ (ai_lk_mem _ _ _ h); exact ai_clc_ok hb, fun i r h => by obtain ⟨b, hb⟩ := ai_all2_at ai_cs6_ok _ (ai_lk_mem _ _ _ h); exact ai_csc_ok hb⟩
set_option maxRecDepth 100000 in
theorem ai_fl7_ok : ai_all2 (ai_flc 7) ai_fl7 [(2, 30), (2, 32), (2, 34), (2, 36), (2, 37), (2, 38), (2, 39), (2, 40), (2, 41), (2, 42), (2, 43), (2, 44), (2, 45), (2, 46)] = true := by decide +kernel
set_option maxRecDepth 100000 in
theorem ai_mt7_ok : ai_all2 (ai_mtc 7) ai_mt7 [(2, 29), (3, 205), (3, 209), (3, 212), (3, 215), (3, 219), (3, 224), (3, 234), (4, 32), (4, 36), (4, 40), (4, 44), (4, 48), (4, 52), (4, 56), (4, 60), (4, 64), (4, 68), (4, 73), (4, 89)] = true := by decide +kernel
set_option maxRecDepth 100000 in
theorem ai_cl7_ok : ai_all2 (ai_clc 7) ai_cl7 [((4, 72), (2, 229), (1, 13))] = true := by decide +kernel
set_option maxRecDepth 100000 in
theorem ai_cs7_ok : ai_all2 (ai_csc 7) ai_cs7 [(3, 223)] = true := by decide +kernel
theorem ai_tb7_ok : ai_Tbok 7 ai_tb7 := ⟨fun i r h => by obtain ⟨b, hb⟩ := ai_all2_at ai_fl7_ok _ (ai_lk_mem _ _ _ h); exact ai_flc_ok hb, fun i r h => by obtain ⟨b, hb⟩ := ai_all2_at ai_mt7_ok _ (ai_lk_mem _ _ _ h); exact ai_mtc_ok hb, fun i r h => by obtain ⟨b, hb⟩ := ai_all2_at ai_cl7_ok _ (ai_lk_mem _ _ _ h); exact ai_clc_ok hb, fun i r h => by obtain ⟨b, hb⟩ := ai_all2_at ai_cs7_ok _ (ai_lk_mem _ _ _ h); exact ai_csc_ok hb⟩
set_option maxRecDepth 100000 in
theorem ai_fl8_ok : ai_all2 (ai_flc 8) ai_fl8 [(2, 3), (2, 5), (2, 7), (2, 9)] = true := by decide +kernel
set_option maxRecDepth 100000 in
theorem ai_mt8_ok : ai_all2 (ai_mtc 8) ai_mt8 [(1, 35), (99, 0), (99, 0), (99, 0), (6, 77), (6, 82), (6, 93)] = true := by decide +kernel
set_option maxRecDepth 100000 in
theorem ai_cl8_ok : ai_all2 (ai_clc 8) ai_cl8 [((1, 36), (1, 37), (1, 3)), ((1, 108), (1, 109), (1, 4)), ((1, 209), (1, 210), (1, 7))] = true := by decide +kernel
set_option maxRecDepth 100000 in
theorem ai_cs8_ok : ai_all2 (ai_csc 8) ai_cs8 [] = true := by decide +kernel
theorem ai_tb8_ok : ai_Tbok 8 ai_tb8 := ⟨fun i r h => by obtain ⟨b, hb⟩ := ai_all2_at ai_fl8_ok _ (ai_lk_mem _ _ _ h); exact ai_flc_ok hb, fun i r h => by obtain ⟨b, hb⟩ := ai_all2_at ai_mt8_ok _ (ai_lk_mem _ _ _ h); exact ai_mtc_ok hb, fun i r h => by obtain ⟨b, hb⟩ := ai_all2_at ai_cl8_ok _ (ai_lk_mem _ _ _ h); exact ai_clc_ok hb, fun i r h => by obtain ⟨b, hb⟩ := ai_all2_at ai_cs8_ok _ (ai_lk_mem _ _ _ h); exact ai_csc_ok hb⟩
set_option maxRecDepth 100000 in
theorem ai_fl9_ok : ai_all2 (ai_flc 9) ai_fl9 [(2, 84), (2, 86), (2, 88), (2, 90), (2, 92), (2, 94), (2, 96), (2, 97), (2, 98), (2, 100)] = true := by decide +kernel
set_option maxRecDepth 100000 in
theorem ai_mt9_ok : ai_all2 (ai_mtc 9) ai_mt9 [(2, 81), (4, 220), (4, 222), (99, 0)] = true := by decide +kernel
set_option maxRecDepth 100000 in
theorem ai_cl9_ok : ai_all2 (ai_clc 9) ai_cl9 [((2, 82), (2, 229), (1, 13))] = true := by decide +kernel
set_option maxRecDepth 100000 in
theorem ai_cs9_ok : ai_all2 (ai_csc 9) ai_cs9 [(4, 221), (4, 227)] = true := by decide +kernel
theorem ai_tb9_ok : ai_Tbok 9 ai_tb9 := ⟨fun i r h => by obtain ⟨b, hb⟩ := ai_all2_at ai_fl9_ok _ (ai_lk_mem _ _ _ h); exact ai_flc_ok hb, fun i r h => by obtain ⟨b, hb⟩ := ai_all2_at ai_mt9_ok _ (ai_lk_mem _ _ _ h); exact ai_mtc_ok hb, fun i r h => by obtain ⟨b, hb⟩ := ai_all2_at ai_cl9_ok _ (ai_lk_mem _ _ _ h); exact ai_clc_ok hb, fun i r h => by obtain ⟨b, hb⟩ := ai_all2_at ai_cs9_ok _ (ai_lk_mem _ _ _ h); exact ai_csc_ok hb⟩
set_option maxRecDepth 100000 in
theorem ai_fl10_ok : ai_all2 (ai_flc 10) ai_fl10 [(1, 44), (1, 63), (1, 68), (2, 163), (2, 164), (2, 165), (2, 166), (2, 167), (2, 168), (2, 169), (2, 170), (2, 172), (2, 173)] = true := by decide +kernel
set_option maxRecDepth 100000 in
theorem ai_mt10_ok : ai_all2 (ai_mtc 10) ai_mt10 [(2, 162), (5, 153), (99, 0), (5, 158), (99, 0), (5, 164), (5, 173), (5, 174), (5, 175)] = true := by decide +kernel
set_option maxRecDepth 100000 in
theorem ai_cl10_ok : ai_all2 (ai_clc 10) ai_cl10 [] = true := by decide +kernel
set_option maxRecDepth 100000 in
theorem ai_cs10_ok : ai_all2 (ai_csc 10) ai_cs10 [(5, 163)] = true := by decide +kernel
theorem ai_tb10_ok : ai_Tbok 10 ai_tb10 := ⟨fun i r h => by obtain ⟨b, hb⟩ := ai_all2_at ai_fl10_ok _ (ai_lk_mem _ _ _ h); exact ai_flc_ok hb, fun i r h => by obtain ⟨b, hb⟩ := ai_all2_at ai_mt10_ok _ (ai_lk_mem _ _ _ h); exact ai_mtc_ok hb, fun i r h => by obtain ⟨b, hb⟩ := ai_all2_at ai_cl10_ok _ (ai_lk_mem _ _ _ h); exact ai_clc_ok hb, fun i r h => by obtain ⟨b, hb⟩ := ai_all2_at ai_cs10_ok _ (ai_lk_mem _ _ _ h); exact ai_csc_ok hb⟩
set_option maxRecDepth 100000 in
theorem ai_fl11_ok : ai_all2 (ai_flc 11) ai_fl11 [(1, 43), (1, 47), (1, 50), (1, 52), (1, 54), (1, 56), (1, 58), (1, 61), (1, 66), (1, 69), (1, 71), (1, 74), (1, 124), (1, 126), (1, 128), (1, 130), (1, 132), (1, 145), (1, 147), (1, 149), (1, 151), (1, 153), (1, 155), (1, 157), (1, 159), (1, 161), (1, 163), (1, 165), (1, 167), (1, 169), (1, 171), (1, 173), (1, 175), (1, 216), (1, 218), (1, 220), (1, 222), (1, 225), (1, 227), (2, 4), (2, 6), (2, 8), (2, 10), (2, 11), (2, 31), (2, 33), (2, 35), (2, 85), (2, 87), (2, 89), (2, 91), (2, 93), (2, 95), (2, 99), (2, 101), (2, 130), (2, 132), (2, 134), (2, 171), (2, 174), (2, 208), (3, 7), (3, 8), (3, 9), (3, 10), (3, 11), (3, 12), (3, 13), (3, 14), (3, 15), (3, 16), (3, 17), (3, 18)] = true := by decide +kernel
set_option maxRecDepth 100000 in
theorem ai_mt11_ok : ai_all2 (ai_mtc 11) ai_mt11 [(1, 27), (99, 0), (99, 0), (99, 0), (99, 0), (99, 0), (99, 0), (2, 230), (3, 48), (3, 52), (3, 55), (3, 63), (3, 67), (3, 75), (3, 83), (3, 91), (3, 103), (3, 107), (3, 111), (3, 119), (3, 171), (3, 178), (3, 185), (3, 189), (3, 197), (3, 201), (4, 90), (4, 94), (4, 105), (4, 113), (4, 117), (4, 130), (4, 148), (4, 152), (4, 160), (4, 168), (4, 172), (4, 176), (4, 180), (4, 184), (4, 189), (4, 208), (4, 212), (4, 216), (4, 233), (5, 1), (5, 10), (5, 15), (5, 19), (5, 27), (5, 31), (5, 34), (5, 38), (5, 42), (5, 50), (5, 57), (5, 61), (5, 65), (5, 68), (5, 73), (5, 83), (5, 91), (5, 103), (5, 108), (5, 112), (5, 120), (5, 124), (5, 132), (5, 133), (5, 137), (5, 145), (5, 149), (5, 169), (5, 183), (5, 184), (5, 188), (5, 197), (5, 201), (5, 208), (5, 216), (5, 236), (5, 239), (6, 7), (6, 15), (6, 23), (6, 27), (6, 32), (6, 41), (6, 45), (6, 52), (6, 56), (6, 61), (6, 73), (6, 106), (6, 110), (6, 114)] = true := by decide +kernel
set_option maxRecDepth 100000 in
theorem ai_cl11_ok : ai_all2 (ai_clc 11) ai_cl11 [((1, 30), (1, 31), (1, 2)), ((2, 24), (2, 25), (1, 8)), ((2, 76), (2, 77), (1, 9)), ((2, 123), (2, 124), (1, 10)), ((2, 157), (2, 158), (1, 11)), ((2, 196), (2, 197), (1, 12)), ((2, 228), (2, 229), (1, 13))] = true := by decide +kernel
set_option maxRecDepth 100000 in
theorem ai_cs11_ok : ai_all2 (ai_csc 11) ai_cs11 [(3, 66), (4, 103), (4, 104)] = true := by decide +kernel
theorem ai_tb11_ok : ai_Tbok 11 ai_tb11 := ⟨fun i r h => by obtain ⟨b, hb⟩ := ai_all2_at ai_fl11_ok _ (ai_lk_mem _ _ _ h); exact ai_flc_ok hb, fun i r h => by obtain ⟨b, hb⟩ := ai_all2_at ai_mt11_ok _ (ai_lk_mem _ _ _ h); exact ai_mtc_ok hb, fun i r h => by obtain ⟨b, hb⟩ := ai_all2_at ai_cl11_ok _ (ai_lk_mem _ _ _ h); exact ai_clc_ok hb, fun i r h => by obtain ⟨b, hb⟩ := ai_all2_at ai_cs11_ok _ (ai_lk_mem _ _ _ h); exact ai_csc_ok hb⟩
set_option maxRecDepth 100000 in
theorem ai_fl12_ok : ai_all2 (ai_flc 12) ai_fl12 [(6, 124), (6, 125), (6, 126), (6, 127), (6, 128), (6, 129), (6, 130), (6, 131), (6, 132), (6, 133), (6, 134), (6, 135), (6, 136), (6, 137), (6, 138), (6, 139), (6, 140), (6, 141), (6, 142), (6, 143), (6, 144), (6, 145), (6, 146), (6, 147), (6, 148), (6, 149), (6, 150), (6, 151), (6, 152), (6, 153), (6, 154), (6, 155), (6, 156), (6, 157), (6, 158), (6, 159), (6, 160), (6, 161), (6, 162), (6, 163), (6, 164), (6, 165), (6, 166), (6, 167), (6, 168), (6, 169), (6, 170), (6, 171), (6, 172), (6, 173), (6, 174), (6, 175), (6, 176), (6, 177), (6, 178), (6, 179), (6, 180), (6, 181), (6, 182), (6, 183), (6, 184), (6, 185), (6, 186), (6, 187), (6, 188), (6, 189), (6, 190), (6, 191), (6, 192), (6, 193), (6, 194), (6, 195), (6, 196), (6, 197), (6, 198), (6, 199), (6, 200), (6, 201), (6, 202), (6, 203), (6, 204), (6, 205), (6, 206), (6, 207), (6, 208), (6, 209), (6, 210)] = true := by decide +kernel
set_option maxRecDepth 100000 in
theorem ai_mt12_ok : ai_all2 (ai_mtc 12) ai_mt12 [(6, 123), (7, 151), (7, 159), (7, 166), (7, 174), (7, 198), (7, 214), (7, 218), (8, 34), (8, 38), (8, 42), (8, 46), (8, 53), (8, 57), (8, 63), (8, 69), (8, 80), (8, 85), (8, 89), (8, 98), (8, 102), (8, 108), (8, 126), (8, 134), (8, 138), (8, 142), (8, 151), (8, 155), (8, 159), (8, 163), (8, 175), (8, 178), (8, 182), (8, 186), (8, 190), (8, 194), (8, 198), (8, 202), (8, 210), (8, 214), (8, 217), (8, 221), (8, 222), (8, 226), (8, 229), (9, 4), (9, 8), (9, 12), (9, 15), (9, 23), (9, 31), (9, 47), (9, 55), (9, 67), (9, 71), (9, 75), (9, 87), (9, 95), (9, 99), (9, 107), (9, 111), (9, 127), (9, 130), (9, 134), (9, 138), (9, 150), (9, 158), (9, 167), (9, 183), (9, 187)] = true := by decide +kernel
set_option maxRecDepth 100000 in
theorem ai_cl12_ok : ai_all2 (ai_clc 12) ai_cl12 [] = true := by decide +kernel
set_option maxRecDepth 100000 in
theorem ai_cs12_ok : ai_all2 (ai_csc 12) ai_cs12 [(7, 177), (8, 50), (8, 51), (8, 52), (8, 61), (8, 62), (8, 67), (8, 68), (8, 73), (8, 74), (8, 75), (8, 76), (8, 77), (8, 78), (8, 79), (8, 84), (8, 93), (8, 94), (8, 95), (8, 96), (8, 97), (8, 106), (8, 107), (8, 116), (8, 117)] = true := by decide +kernel
theorem ai_tb12_ok : ai_Tbok 12 ai_tb12 := ⟨fun i r h => by obtain ⟨b, hb⟩ := ai_all2_at ai_fl12_ok _ (ai_lk_mem _ _ _ h); exact ai_flc_ok hb, fun i r h => by obtain ⟨b, hb⟩ := ai_all2_at ai_mt12_ok _ (ai_lk_mem _ _ _ h); exact ai_mtc_ok hb, fun i r h => by obtain ⟨b, hb⟩ := ai_all2_at ai_cl12_ok _ (ai_lk_mem _ _ _ h); exact ai_clc_ok hb, fun i r h => by obtain ⟨b, hb⟩ := ai_all2_at ai_cs12_ok _ (ai_lk_mem _ _ _ h); exact ai_csc_ok hb⟩
set_option maxRecDepth 100000 in
theorem ai_fl13_ok : ai_all2 (ai_flc 13) ai_fl13 [] = true := by decide +kernel
set_option maxRecDepth 100000 in
theorem ai_mt13_ok : ai_all2 (ai_mtc 13) ai_mt13 [(1, 24), (3, 44), (3, 59), (3, 71), (3, 79), (3, 87), (3, 95), (3, 99), (3, 115), (3, 123), (3, 127), (3, 131), (3, 135), (3, 139), (3, 143), (3, 147), (3, 151), (3, 155), (3, 159), (3, 163), (3, 167), (3, 174), (3, 181), (3, 193), (4, 99), (4, 109), (4, 126), (4, 140), (4, 144), (4, 156), (4, 164), (4, 200), (4, 204), (4, 229), (4, 237), (5, 11), (5, 23), (5, 53), (5, 69), (5, 99), (5, 104), (5, 116), (5, 128), (5, 141), (5, 165), (5, 179), (5, 193), (5, 204), (5, 212), (5, 228), (5, 232), (6, 3), (6, 11), (6, 28), (6, 37), (6, 48), (6, 57), (6, 65), (6, 69), (6, 98), (6, 102), (6, 120), (7, 147), (7, 155), (7, 162), (7, 170), (7, 178), (7, 182), (7, 186), (7, 190), (7, 194), (7, 202), (7, 206), (7, 210), (7, 222), (7, 226), (7, 230), (7, 234), (7, 238), (8, 2), (8, 6), (8, 10), (8, 14), (8, 18), (8, 22), (8, 26), (8, 30), (8, 112), (8, 118), (8, 122), (8, 130), (8, 146), (8, 147), (8, 167), (8, 171), (8, 206), (8, 232), (8, 236), (9, 0), (9, 19), (9, 27), (9, 35), (9, 39), (9, 43), (9, 51), (9, 59), (9, 63), (9, 79), (9, 83), (9, 91), (9, 103), (9, 115), (9, 119), (9, 123), (9, 142), (9, 146), (9, 154), (9, 159), (9, 163), (9, 171), (9, 175), (9, 179)] = true := by decide +kernel
set_option maxRecDepth 100000 in
theorem ai_cl13_ok : ai_all2 (ai_clc 13) ai_cl13 [((1, 22), (1, 23), (1, 1)), ((6, 118), (6, 119), (1, 14))] = true := by decide +kernel
set_option maxRecDepth 100000 in
theorem ai_cs13_ok : ai_all2 (ai_csc 13) ai_cs13 [] = true := by decide +kernel
theorem ai_tb13_ok : ai_Tbok 13 ai_tb13 := ⟨fun i r h => by obtain ⟨b, hb⟩ := ai_all2_at ai_fl13_ok _ (ai_lk_mem _ _ _ h); exact ai_flc_ok hb, fun i r h => by obtain ⟨b, hb⟩ := ai_all2_at ai_mt13_ok _ (ai_lk_mem _ _ _ h); exact ai_mtc_ok hb, fun i r h => by obtain ⟨b, hb⟩ := ai_all2_at ai_cl13_ok _ (ai_lk_mem _ _ _ h); exact ai_clc_ok hb, fun i r h => by obtain ⟨b, hb⟩ := ai_all2_at ai_cs13_ok _ (ai_lk_mem _ _ _ h); exact ai_csc_ok hb⟩
set_option maxRecDepth 100000 in
theorem ai_fl14_ok : ai_all2 (ai_flc 14) ai_fl14 [] = true := by decide +kernel
set_option maxRecDepth 100000 in
theorem ai_mt14_ok : ai_all2 (ai_mtc 14) ai_mt14 [] = true := by decide +kernel
set_option maxRecDepth 100000 in
theorem ai_cl14_ok : ai_all2 (ai_clc 14) ai_cl14 [] = true := by decide +kernel
set_option maxRecDepth 100000 in
theorem ai_cs14_ok : ai_all2 (ai_csc 14) ai_cs14 [(4, 137), (4, 138), (4, 139)] = true := by decide +kernel
theorem ai_tb14_ok : ai_Tbok 14 ai_tb14 := ⟨fun i r h => by obtain ⟨b, hb⟩ := ai_all2_at ai_fl14_ok _ (ai_lk_mem _ _ _ h); exact ai_flc_ok hb, fun i r h => by obtain ⟨b, hb⟩ := ai_all2_at ai_mt14_ok _ (ai_lk_mem _ _ _ h); exact ai_mtc_ok hb, fun i r h => by obtain ⟨b, hb⟩ := ai_all2_at ai_cl14_ok _ (ai_lk_mem _ _ _ h); exact ai_clc_ok hb, fun i r h => by obtain ⟨b, hb⟩ := ai_all2_at ai_cs14_ok _ (ai_lk_mem _ _ _ h); exact ai_csc_ok hb⟩
set_option maxRecDepth 100000 in
theorem ai_fl15_ok : ai_all2 (ai_flc 15) ai_fl15 [] = true := by decide +kernel
set_option maxRecDepth 100000 in
theorem ai_mt15_ok : ai_all2 (ai_mtc 15) ai_mt15 [] = true := by decide +kernel
set_option maxRecDepth 100000 in
theorem ai_cl15_ok : ai_all2 (ai_clc 15) ai_cl15 [] = true := by decide +kernel
set_option maxRecDepth 100000 in
theorem ai_cs15_ok : ai_all2 (ai_csc 15) ai_cs15 [] = true := by decide +kernel
theorem ai_tb15_ok : ai_Tbok 15 ai_tb15 := ⟨fun i r h => by obtain ⟨b, hb⟩ := ai_all2_at ai_fl15_ok _ (ai_lk_mem _ _ _ h); exact ai_flc_ok hb, fun i r h => by obtain ⟨b, hb⟩ := ai_all2_at ai_mt15_ok _ (ai_lk_mem _ _ _ h); exact ai_mtc_ok hb, fun i r h => by obtain ⟨b, hb⟩ := ai_all2_at ai_cl15_ok _ (ai_lk_mem _ _ _ h); exact ai_clc_ok hb, fun i r h => by obtain ⟨b, hb⟩ := ai_all2_at ai_cs15_ok _ (ai_lk_mem _ _ _ h); exact ai_csc_ok hb⟩
set_option maxRecDepth 100000 in
theorem ai_fl16_ok : ai_all2 (ai_flc 16) ai_fl16 [] = true := by decide +kernel
set_option maxRecDepth 100000 in
theorem ai_mt16_ok : ai_all2 (ai_mtc 16) ai_mt16 [(4, 76), (4, 83), (4, 86)] = true := by decide +kernel
set_option maxRecDepth 100000 in
theorem ai_cl16_ok : ai_all2 (ai_clc 16) ai_cl16 [] = true := by decide +kernel
set_option maxRecDepth 100000 in
theorem ai_cs16_ok : ai_all2 (ai_csc 16) ai_cs16 [] = true := by decide +kernel
theorem ai_tb16_ok : ai_Tbok 16 ai_tb16 := ⟨fun i r h => by obtain ⟨b, hb⟩ := ai_all2_at ai_fl16_ok _ (ai_lk_mem _ _ _ h); exact ai_flc_ok hb, fun i r h => by obtain ⟨b, hb⟩ := ai_all2_at ai_mt16_ok _ (ai_lk_mem _ _ _ h); exact ai_mtc_ok hb, fun i r h => by obtain ⟨b, hb⟩ := ai_all2_at ai_cl16_ok _ (ai_lk_mem _ _ _ h); exact ai_clc_ok hb, fun i r h => by obtain ⟨b, hb⟩ := ai_all2_at ai_cs16_ok _ (ai_lk_mem _ _ _ h); exact ai_csc_ok hb⟩
set_option maxRecDepth 100000 in
theorem ai_fl17_ok : ai_all2 (ai_flc 17) ai_fl17 [(9, 191), (9, 192)] = true := by decide +kernel
set_option maxRecDepth 100000 in
theorem ai_mt17_ok : ai_all2 (ai_mtc 17) ai_mt17 [(3, 228), (3, 238), (4, 2), (4, 10), (4, 13)] = true := by decide +kernel
set_option maxRecDepth 100000 in
theorem ai_cl17_ok : ai_all2 (ai_clc 17) ai_cl17 [] = true := by decide +kernel
set_option maxRecDepth 100000 in
theorem ai_cs17_ok : ai_all2 (ai_csc 17) ai_cs17 [(3, 232), (4, 8)] = true := by decide +kernel
theorem ai_tb17_ok : ai_Tbok 17 ai_tb17 := ⟨fun i r h => by obtain ⟨b, hb⟩ := ai_all2_at ai_fl17_ok _ (ai_lk_mem _ _ _ h); exact ai_flc_ok hb, fun i r h => by obtain ⟨b, hb⟩ := ai_all2_at ai_mt17_ok _ (ai_lk_mem _ _ _ h); exact ai_mtc_ok hb, fun i r h => by obtain ⟨b, hb⟩ := ai_all2_at ai_cl17_ok _ (ai_lk_mem _ _ _ h); exact ai_clc_ok hb, fun i r h => by obtain ⟨b, hb⟩ := ai_all2_at ai_cs17_ok _ (ai_lk_mem _ _ _ h); exact ai_csc_ok hb⟩
set_option maxRecDepth 100000 in
theorem ai_fl18_ok : ai_all2 (ai_flc 18) ai_fl18 [] = true := by decide +kernel
set_option maxRecDepth 100000 in
theorem ai_mt18_ok : ai_all2 (ai_mtc 18) ai_mt18 [(4, 5)] = true := by decide +kernel
set_option maxRecDepth 100000 in
theorem ai_cl18_ok : ai_all2 (ai_clc 18) ai_cl18 [] = true := by decide +kernel
set_option maxRecDepth 100000 in
theorem ai_cs18_ok : ai_all2 (ai_csc 18) ai_cs18 [] = true := by decide +kernel
theorem ai_tb18_ok : ai_Tbok 18 ai_tb18 := ⟨fun i r h => by obtain ⟨b, hb⟩ := ai_all2_at ai_fl18_ok _ (ai_lk_mem _ _ _ h); exact ai_flc_ok hb, fun i r h => by obtain ⟨b, hb⟩ := ai_all2_at ai_mt18_ok _ (ai_lk_mem _ _ _ h); exact ai_mtc_ok hb, fun i r h => by obtain ⟨b, hb⟩ := ai_all2_at ai_cl18_ok _ (ai_lk_mem _ _ _ h); exact ai_clc_ok hb, fun i r h => by obtain ⟨b, hb⟩ := ai_all2_at ai_cs18_ok _ (ai_lk_mem _ _ _ h); exact ai_csc_ok hb⟩
set_option maxRecDepth 100000 in
theorem ai_fl19_ok : ai_all2 (ai_flc 19) ai_fl19 [] = true := by decide +kernel
set_option maxRecDepth 100000 in
theorem ai_mt19_ok : ai_all2 (ai_mtc 19) ai_mt19 [] = true := by decide +kernel
set_option maxRecDepth 100000 in
theorem ai_cl19_ok : ai_all2 (ai_clc 19) ai_cl19 [] = true := by decide +kernel
set_option maxRecDepth 100000 in
theorem ai_cs19_ok : ai_all2 (ai_csc 19) ai_cs19 [] = true := by decide +kernel
theorem ai_tb19_ok : ai_Tbok 19 ai_tb19 := ⟨fun i r h => by obtain ⟨b, hb⟩ := ai_all2_at ai_fl19_ok _ (ai_lk_mem _ _ _ h); exact ai_flc_ok hb, fun i r h => by obtain ⟨b, hb⟩ := ai_all2_at ai_mt19_ok _ (ai_lk_mem _ _ _ h); exact ai_mtc_ok hb, fun i r h => by obtain ⟨b, hb⟩ := ai_all2_at ai_cl19_ok _ (ai_lk_mem _ _ _ h); exact ai_clc_ok hb, fun i r h => by obtain ⟨b, hb⟩ := ai_all2_at ai_cs19_ok _ (ai_lk_mem _ _ _ h); exact ai_csc_ok hb⟩
set_option maxRecDepth 100000 in
theorem ai_cok0_w : ai_all2 ai_wc (u_ws (jg_R 0) (jg_T 0) (jg_nf 0)) [(1, 76), (1, 78), (1, 80), (1, 82), (1, 84), (1, 86), (1, 88), (1, 90), (1, 92), (1, 94), (1, 96), (1, 98), (1, 100), (1, 102), (1, 104)] = true := by decide +kernel
set_option maxRecDepth 100000 in
theorem ai_cok0_f : (List.range (jg_nf 0)).all (fun j => decide ((jg_T 0 j).1 = jg_R 0) && (ai_fty (ai_fk 0 j).1 (jg_ty 0 j) && ((!(decide ((ai_fk 0 j).1 = 0 ∨ (ai_fk 0 j).1 = 1 ∨ (ai_fk 0 j).1 = 2 ∨ (ai_fk 0 j).1 = 6)) || decide ((jg_T 0 j).2.2.2 = false)) && ((!(decide ((ai_fk 0 j).1 = 2)) || (List.range (jg_nf 0)).all (fun i => !(decide ((ai_fk 0 i).1 = 2)) || decide (i = j))) && (!(decide ((ai_fk 0 j).1 = 6)) || decide ((ai_fk 0 j).2.1 < 13)))))) = true := by decide +kernel
set_option maxRecDepth 100000 in
theorem ai_cok1_w : ai_all2 ai_wc (u_ws (jg_R 1) (jg_T 1) (jg_nf 1)) [(2, 211), (2, 213), (2, 215), (2, 217), (2, 219), (2, 221), (2, 223), (2, 225)] = true := by decide +kernel
set_option maxRecDepth 100000 in
theorem ai_cok1_f : (List.range (jg_nf 1)).all (fun j => decide ((jg_T 1 j).1 = jg_R 1) && (ai_fty (ai_fk 1 j).1 (jg_ty 1 j) && ((!(decide ((ai_fk 1 j).1 = 0 ∨ (ai_fk 1 j).1 = 1 ∨ (ai_fk 1 j).1 = 2 ∨ (ai_fk 1 j).1 = 6)) || decide ((jg_T 1 j).2.2.2 = false)) && ((!(decide ((ai_fk 1 j).1 = 2)) || (List.range (jg_nf 1)).all (fun i => !(decide ((ai_fk 1 i).1 = 2)) || decide (i = j))) && (!(decide ((ai_fk 1 j).1 = 6)) || decide ((ai_fk 1 j).2.1 < 13)))))) = true := by decide +kernel
set_option maxRecDepth 100000 in
theorem ai_cok2_w : ai_all2 ai_wc (u_ws (jg_R 2) (jg_T 2) (jg_nf 2)) [(1, 176), (1, 178), (1, 180), (1, 182), (1, 184), (1, 186), (1, 188), (1, 190), (1, 192), (1, 194), (1, 196), (1, 198), (1, 200), (1, 202), (1, 204), (1, 206)] = true := by decide +kernel
set_option maxRecDepth 100000 in
theorem ai_cok2_f : (List.range (jg_nf 2)).all (fun j => decide ((jg_T 2 j).1 = jg_R 2) && (ai_fty (ai_fk 2 j).1 (jg_ty 2 j) && ((!(decide ((ai_fk 2 j).1 = 0 ∨ (ai_fk 2 j).1 = 1 ∨ (ai_fk 2 j).1 = 2 ∨ (ai_fk 2 j).1 = 6)) || decide ((jg_T 2 j).2.2.2 = false)) && ((!(decide ((ai_fk 2 j).1 = 2)) || (List.range (jg_nf 2)).all (fun i => !(decide ((ai_fk 2 i).1 = 2)) || decide (i = j))) && (!(decide ((ai_fk 2 j).1 = 6)) || decide ((ai_fk 2 j).2.1 < 13)))))) = true := by decide +kernel
set_option maxRecDepth 100000 in
theorem ai_cok3_w : ai_all2 ai_wc (u_ws (jg_R 3) (jg_T 3) (jg_nf 3)) [(1, 228), (1, 230), (1, 232), (1, 234), (1, 236), (1, 238), (2, 0)] = true := by decide +kernel
set_option maxRecDepth 100000 in
theorem ai_cok3_f : (List.range (jg_nf 3)).all (fun j => decide ((jg_T 3 j).1 = jg_R 3) && (ai_fty (ai_fk 3 j).1 (jg_ty 3 j) && ((!(decide ((ai_fk 3 j).1 = 0 ∨ (ai_fk 3 j).1 = 1 ∨ (ai_fk 3 j).1 = 2 ∨ (ai_fk 3 j).1 = 6)) || decide ((jg_T 3 j).2.2.2 = false)) && ((!(decide ((ai_fk 3 j).1 = 2)) || (List.range (jg_nf 3)).all (fun i => !(decide ((ai_fk 3 i).1 = 2)) || decide (i = j))) && (!(decide ((ai_fk 3 j).1 = 6)) || decide ((ai_fk 3 j).2.1 < 13)))))) = true := by decide +kernel
set_option maxRecDepth 100000 in
theorem ai_cok4_w : ai_all2 ai_wc (u_ws (jg_R 4) (jg_T 4) (jg_nf 4)) [(2, 238), (3, 0), (3, 2), (3, 4)] = true := by decide +kernel
set_option maxRecDepth 100000 in
theorem ai_cok4_f : (List.range (jg_nf 4)).all (fun j => decide ((jg_T 4 j).1 = jg_R 4) && (ai_fty (ai_fk 4 j).1 (jg_ty 4 j) && ((!(decide ((ai_fk 4 j).1 = 0 ∨ (ai_fk 4 j).1 = 1 ∨ (ai_fk 4 j).1 = 2 ∨ (ai_fk 4 j).1 = 6)) || decide ((jg_T 4 j).2.2.2 = false)) && ((!(decide ((ai_fk 4 j).1 = 2)) || (List.range (jg_nf 4)).all (fun i => !(decide ((ai_fk 4 i).1 = 2)) || decide (i = j))) && (!(decide ((ai_fk 4 j).1 = 6)) || decide ((ai_fk 4 j).2.1 < 13)))))) = true := by decide +kernel
set_option maxRecDepth 100000 in
theorem ai_cok5_w : ai_all2 ai_wc (u_ws (jg_R 5) (jg_T 5) (jg_nf 5)) [(1, 133), (1, 135), (1, 137), (1, 139), (1, 141)] = true := by decide +kernel
set_option maxRecDepth 100000 in
theorem ai_cok5_f : (List.range (jg_nf 5)).all (fun j => decide ((jg_T 5 j).1 = jg_R 5) && (ai_fty (ai_fk 5 j).1 (jg_ty 5 j) && ((!(decide ((ai_fk 5 j).1 = 0 ∨ (ai_fk 5 j).1 = 1 ∨ (ai_fk 5 j).1 = 2 ∨ (ai_fk 5 j).1 = 6)) || decide ((jg_T 5 j).2.2.2 = false)) && ((!(decide ((ai_fk 5 j).1 = 2)) || (List.range (jg_nf 5)).all (fun i => !(decide ((ai_fk 5 i).1 = 2)) || decide (i = j))) && (!(decide ((ai_fk 5 j).1 = 6)) || decide ((ai_fk 5 j).2.1 < 13)))))) = true := by decide +kernel
set_option maxRecDepth 100000 in
theorem ai_cok6_w : ai_all2 ai_wc (u_ws (jg_R 6) (jg_T 6) (jg_nf 6)) [(2, 140), (2, 142), (2, 144), (2, 146), (2, 148), (2, 150), (2, 152), (2, 154)] = true := by decide +kernel
set_option maxRecDepth 100000 in
theorem ai_cok6_f : (List.range (jg_nf 6)).all (fun j => decide ((jg_T 6 j).1 = jg_R 6) && (ai_fty (ai_fk 6 j).1 (jg_ty 6 j) && ((!(decide ((ai_fk 6 j).1 = 0 ∨ (ai_fk 6 j).1 = 1 ∨ (ai_fk 6 j).1 = 2 ∨ (ai_fk 6 j).1 = 6)) || decide ((jg_T 6 j).2.2.2 = false)) && ((!(decide ((ai_fk 6 j).1 = 2)) || (List.range (jg_nf 6)).all (fun i => !(decide ((ai_fk 6 i).1 = 2)) || decide (i = j))) && (!(decide ((ai_fk 6 j).1 = 6)) || decide ((ai_fk 6 j).2.1 < 13)))))) = true := by decide +kernel
set_option maxRecDepth 100000 in
theorem ai_cok7_w : ai_all2 ai_wc (u_ws (jg_R 7) (jg_T 7) (jg_nf 7)) [(2, 47), (2, 49), (2, 51), (2, 53), (2, 55), (2, 57), (2, 59), (2, 61), (2, 63), (2, 65), (2, 67), (2, 69), (2, 71), (2, 73)] = true := by decide +kernel
set_option maxRecDepth 100000 in
theorem ai_cok7_f : (List.range (jg_nf 7)).all (fun j => decide ((jg_T 7 j).1 = jg_R 7) && (ai_fty (ai_fk 7 j).1 (jg_ty 7 j) && ((!(decide ((ai_fk 7 j).1 = 0 ∨ (ai_fk 7 j).1 = 1 ∨ (ai_fk 7 j).1 = 2 ∨ (ai_fk 7 j).1 = 6)) || decide ((jg_T 7 j).2.2.2 = false)) && ((!(decide ((ai_fk 7 j).1 = 2)) || (List.range (jg_nf 7)).all (fun i => !(decide ((ai_fk 7 i).1 = 2)) || decide (i = j))) && (!(decide ((ai_fk 7 j).1 = 6)) || decide ((ai_fk 7 j).2.1 < 13)))))) = true := by decide +kernel
set_option maxRecDepth 100000 in
theorem ai_cok8_w : ai_all2 ai_wc (u_ws (jg_R 8) (jg_T 8) (jg_nf 8)) [(2, 12), (2, 14), (2, 16), (2, 18), (2, 20)] = true := by decide +kernel
set_option maxRecDepth 100000 in
theorem ai_cok8_f : (List.range (jg_nf 8)).all (fun j => decide ((jg_T 8 j).1 = jg_R 8) && (ai_fty (ai_fk 8 j).1 (jg_ty 8 j) && ((!(decide ((ai_fk 8 j).1 = 0 ∨ (ai_fk 8 j).1 = 1 ∨ (ai_fk 8 j).1 = 2 ∨ (ai_fk 8 j).1 = 6)) || decide ((jg_T 8 j).2.2.2 = false)) && ((!(decide ((ai_fk 8 j).1 = 2)) || (List.range (jg_nf 8)).all (fun i => !(decide ((ai_fk 8 i).1 = 2)) || decide (i = j))) && (!(decide ((ai_fk 8 j).1 = 6)) || decide ((ai_fk 8 j).2.1 < 13)))))) = true := by decide +kernel
set_option maxRecDepth 100000 in
theorem ai_cok9_w : ai_all2 ai_wc (u_ws (jg_R 9) (jg_T 9) (jg_nf 9)) [(2, 102), (2, 104), (2, 106), (2, 108), (2, 110), (2, 112), (2, 114), (2, 116), (2, 118), (2, 120)] = true := by decide +kernel
set_option maxRecDepth 100000 in
theorem ai_cok9_f : (List.range (jg_nf 9)).all (fun j => decide ((jg_T 9 j).1 = jg_R 9) && (ai_fty (ai_fk 9 j).1 (jg_ty 9 j) && ((!(decide ((ai_fk 9 j).1 = 0 ∨ (ai_fk 9 j).1 = 1 ∨ (ai_fk 9 j).1 = 2 ∨ (ai_fk 9 j).1 = 6)) || decide ((jg_T 9 j).2.2.2 = false)) && ((!(decide ((ai_fk 9 j).1 = 2)) || (List.range (jg_nf 9)).all (fun i => !(decide ((ai_fk 9 i).1 = 2)) || decide (i = j))) && (!(decide ((ai_fk 9 j).1 = 6)) || decide ((ai_fk 9 j).2.1 < 13)))))) = true := by decide +kernel
set_option maxRecDepth 100000 in
theorem ai_cok10_w : ai_all2 ai_wc (u_ws (jg_R 10) (jg_T 10) (jg_nf 10)) [(2, 175), (2, 177), (2, 179), (2, 181), (2, 183), (2, 185), (2, 187), (2, 189), (2, 191), (2, 193)] = true := by decide +kernel
set_option maxRecDepth 100000 in
theorem ai_cok10_f : (List.range (jg_nf 10)).all (fun j => decide ((jg_T 10 j).1 = jg_R 10) && (ai_fty (ai_fk 10 j).1 (jg_ty 10 j) && ((!(decide ((ai_fk 10 j).1 = 0 ∨ (ai_fk 10 j).1 = 1 ∨ (ai_fk 10 j).1 = 2 ∨ (ai_fk 10 j).1 = 6)) || decide ((jg_T 10 j).2.2.2 = false)) && ((!(decide ((ai_fk 10 j).1 = 2)) || (List.range (jg_nf 10)).all (fun i => !(decide ((ai_fk 10 i).1 = 2)) || decide (i = j))) && (!(decide ((ai_fk 10 j).1 = 6)) || decide ((ai_fk 10 j).2.1 < 13)))))) = true := by decide +kernel
set_option maxRecDepth 100000 in
theorem ai_cok11_w : ai_all2 ai_wc (u_ws (jg_R 11) (jg_T 11) (jg_nf 11)) [(3, 19), (3, 21), (3, 23), (3, 25), (3, 27), (3, 29), (3, 31), (3, 33), (3, 35), (3, 37), (3, 39), (3, 41)] = true := by decide +kernel
set_option maxRecDepth 100000 in
theorem ai_cok11_f : (List.range (jg_nf 11)).all (fun j => decide ((jg_T 11 j).1 = jg_R 11) && (ai_fty (ai_fk 11 j).1 (jg_ty 11 j) && ((!(decide ((ai_fk 11 j).1 = 0 ∨ (ai_fk 11 j).1 = 1 ∨ (ai_fk 11 j).1 = 2 ∨ (ai_fk 11 j).1 = 6)) || decide ((jg_T 11 j).2.2.2 = false)) && ((!(decide ((ai_fk 11 j).1 = 2)) || (List.range (jg_nf 11)).all (fun i => !(decide ((ai_fk 11 i).1 = 2)) || decide (i = j))) && (!(decide ((ai_fk 11 j).1 = 6)) || decide ((ai_fk 11 j).2.1 < 13)))))) = true := by decide +kernel
set_option maxRecDepth 100000 in
theorem ai_cok12_w : ai_all2 ai_wc (u_ws (jg_R 12) (jg_T 12) (jg_nf 12)) [(6, 211), (6, 213), (6, 215), (6, 217), (6, 219), (6, 221), (6, 223), (6, 225), (6, 227), (6, 229), (6, 231), (6, 233), (6, 235), (6, 237), (6, 239), (7, 1), (7, 3), (7, 5), (7, 7), (7, 9), (7, 11), (7, 13), (7, 15), (7, 17), (7, 19), (7, 21), (7, 23), (7, 25), (7, 27), (7, 29), (7, 31), (7, 33), (7, 35), (7, 37), (7, 39), (7, 41), (7, 43), (7, 45), (7, 47), (7, 49), (7, 51), (7, 53), (7, 55), (7, 57), (7, 59), (7, 61), (7, 63), (7, 65), (7, 67), (7, 69), (7, 71), (7, 73), (7, 75), (7, 77), (7, 79), (7, 81), (7, 83), (7, 85), (7, 87), (7, 89), (7, 91), (7, 93), (7, 95), (7, 97), (7, 99), (7, 101), (7, 103), (7, 105), (7, 107), (7, 109), (7, 111), (7, 113), (7, 115), (7, 117), (7, 119), (7, 121), (7, 123), (7, 125), (7, 127), (7, 129), (7, 131), (7, 133), (7, 135), (7, 137), (7, 139), (7, 141), (7, 143)] = true := by decide +kernel
set_option maxRecDepth 100000 in
theorem ai_cok12_f : (List.range (jg_nf 12)).all (fun j => decide ((jg_T 12 j).1 = jg_R 12) && (ai_fty (ai_fk 12 j).1 (jg_ty 12 j) && ((!(decide ((ai_fk 12 j).1 = 0 ∨ (ai_fk 12 j).1 = 1 ∨ (ai_fk 12 j).1 = 2 ∨ (ai_fk 12 j).1 = 6)) || decide ((jg_T 12 j).2.2.2 = false)) && ((!(decide ((ai_fk 12 j).1 = 2)) || (List.range (jg_nf 12)).all (fun i => !(decide ((ai_fk 12 i).1 = 2)) || decide (i = j))) && (!(decide ((ai_fk 12 j).1 = 6)) || decide ((ai_fk 12 j).2.1 < 13)))))) = true := by decide +kernel
theorem ai_cok_of {ci : Nat} {ps : List (Nat × Nat)} (hw : ai_all2 ai_wc (u_ws (jg_R ci) (jg_T ci) (jg_nf ci)) ps = true) (hf : (List.range (jg_nf ci)).all (fun j => decide ((jg_T ci j).1 = jg_R ci) && (ai_fty (ai_fk ci j).1 (jg_ty ci j) && ((!(decide ((ai_fk ci j).1 = 0 ∨ (ai_fk ci j).1 = 1 ∨ (ai_fk ci j).1 = 2 ∨ (ai_fk ci j).1 = 6)) || decide ((jg_T ci j).2.2.2 = false)) && ((!(decide ((ai_fk ci j).1 = 2)) || (List.range (jg_nf ci)).all (fun i => !(decide ((ai_fk ci i).1 = 2)) || decide (i = j))) && (!(decide ((ai_fk ci j).1 = 6)) || decide ((ai_fk ci j).2.1 < 13)))))) = true) : ai_cok ci := by
  refine ⟨fun w hw' => ?_, fun j hj => ?_⟩
  · obtain ⟨b, hb⟩ := ai_all2_at hw w hw'
    exact ai_wc_in hb
  · have h := List.all_eq_true.mp hf j (List.mem_range.mpr hj)
    simp only [Bool.and_eq_true, Bool.or_eq_true, Bool.not_eq_true', decide_eq_true_eq, decide_eq_false_iff_not] at h
    obtain ⟨h1, h2, h3, h4, h5⟩ := h
    refine ⟨h1, h2, fun q => ?_, fun i hi q1 q2 => ?_, fun q => ?_⟩
    · rcases h3 with h3 | h3
      · exact absurd q h3
      · exact h3
    · rcases h4 with h4 | h4
      · exact absurd q2 h4
      · have h6 := List.all_eq_true.mp h4 i (List.mem_range.mpr hi)
        simp only [Bool.or_eq_true, Bool.not_eq_true', decide_eq_true_eq, decide_eq_false_iff_not] at h6
        rcases h6 with h6 | h6
        · exact absurd q1 h6
        · exact h6
    · rcases h5 with h5 | h5
      · exact absurd q h5
      · exact h5
theorem ai_cok_all : ∀ ci, ci < 13 → ai_cok ci := fun _ h => jg_13 (P := ai_cok) (ai_cok_of ai_cok0_w ai_cok0_f) (ai_cok_of ai_cok1_w ai_cok1_f) (ai_cok_of ai_cok2_w ai_cok2_f) (ai_cok_of ai_cok3_w ai_cok3_f) (ai_cok_of ai_cok4_w ai_cok4_f) (ai_cok_of ai_cok5_w ai_cok5_f) (ai_cok_of ai_cok6_w ai_cok6_f) (ai_cok_of ai_cok7_w ai_cok7_f) (ai_cok_of ai_cok8_w ai_cok8_f) (ai_cok_of ai_cok9_w ai_cok9_f) (ai_cok_of ai_cok10_w ai_cok10_f) (ai_cok_of ai_cok11_w ai_cok11_f) (ai_cok_of ai_cok12_w ai_cok12_f) h
theorem ai_Jok_ok : ai_Jok := ⟨ai_wc_in (p := (1, 121)) (by decide +kernel), ai_wc_in (p := (1, 122)) (by decide +kernel), ai_wc_in (p := (4, 84)) (by decide +kernel), ai_wc_in (p := (4, 85)) (by decide +kernel), ai_wc_in (p := (5, 51)) (by decide +kernel), ai_wc_in (p := (5, 52)) (by decide +kernel), ai_wc_in (p := (1, 6)) (by decide +kernel), ai_wc_in (p := (4, 88)) (by decide +kernel), ai_wc_in (p := (4, 87)) (by decide +kernel), ai_wc_in (p := (1, 20)) (by decide +kernel), ai_wc_in (p := (1, 28)) (by decide +kernel), ai_wc_in (p := (1, 29)) (by decide +kernel), ai_wc_in (p := (4, 77)) (by decide +kernel), ai_wc_in (p := (4, 78)) (by decide +kernel), ai_wc_in (p := (4, 79)) (by decide +kernel), ai_wc_in (p := (4, 80)) (by decide +kernel), ai_wc_in (p := (1, 107)) (by decide +kernel), ai_wc_in (p := (4, 98)) (by decide +kernel), ai_wc_in (p := (7, 146)) (by decide +kernel)⟩
def ai_rok (b : ByteArray) (ret : Option FieldType) (bo : Nat) (q : Nat × ClassFile.Instr) : Bool := match decode b q.1 with
  | .ok (i, len) => decide (i = q.2) && ai_lok ret bo q.1 q.2 len
  | _ => false
def ai_iok (nm : String) (o : Nat) (tb : ai_Tb) (i : ClassFile.Instr) : Bool := match i with
  | .putfield idx => if tb.2.2.2.2.2.isSome = true then decide (nm = "<init>") && (match tb.1 idx with
    | some r => decide (jg_R r.1 = ai_nmO o)
    | none => true) else true
  | .checkcast idx => ai_wc (Cond.classLink (ai_nmO o) idx "[I") (4, 82)
  | _ => true
theorem ai_iok_ok {nm : String} {o : Nat} {tb : ai_Tb} {i : ClassFile.Instr} (h : ai_iok nm o tb i = true) : ai_Iok nm o tb i := by
  unfold ai_iok at h
  unfold ai_Iok
  split at h
  · intro hs
    rw [if_pos hs] at h
    simp only [Bool.and_eq_true, decide_eq_true_eq] at h
    refine ⟨h.1, fun r hr => ?_⟩
    have h2 := h.2
    rw [hr] at h2
    exact of_decide_eq_true h2
  · exact ai_wc_in h
  · split
    · rename_i hx _; exact absurd rfl (hx _)
    · rename_i hx; exact absurd rfl (hx _)
    · trivial
def ai_mc (o mi : Nat) (m : ai_Mi) : Bool := plainFor (ai_y mi).1 && (decide (m.2.2.1 = (ai_y mi).2.2.1) && m.2.2.2.all (fun q => ai_rok (ai_y mi).2.1 (ai_y mi).2.2.2 m.2.1 q && ai_iok (ai_y mi).1.name o m.1 q.2))
theorem ai_mc_ok {mi o : Nat} {m : ai_Mi} (h : ai_mc o mi m = true) (ht : ai_Tbok o m.1) (hc : (ai_y mi).1.cls = ai_nmO o) : ai_Mok mi m := by
  unfold ai_mc at h
  simp only [Bool.and_eq_true, decide_eq_true_eq] at h
  obtain ⟨h1, h2, h3⟩ := h
  refine ⟨o, ht, hc, h1, h2, fun pc i hi => ?_⟩
  have h4 := List.all_eq_true.mp h3 _ (ai_lk_mem _ _ _ hi)
  rw [Bool.and_eq_true] at h4
  obtain ⟨h4, h6⟩ := h4
  refine ⟨?_, ai_iok_ok h6⟩
  unfold ai_rok at h4
  dsimp only at h4
  split at h4
  · rename_i i' len e
    simp only [Bool.and_eq_true, decide_eq_true_eq] at h4
    obtain ⟨rfl, h5⟩ := h4
    exact ⟨len, e, h5⟩
  · cases h4
