def ai_mtc (o : Nat) (e : Nat × ai_Mr) (p : Nat × Nat) : Bool := match e.2 with
  | (0, mi, n, t, _) => ai_wc (Cond.methodLink (ai_nmO o) e.1 (ai_y mi).1) p && (match ai_lk ai_yks mi with
    | some y => decide (y.2.1 = 0) && (decide (n = y.1 + 1) && (if y.2.2.2.2.2.2 < 13 then decide (t = 20 + y.2.2.2.2.2.2) else decide (t = 6)))
    | none => false)
  | (1, mi, n, _, _) => (if p.1 = 99 then ai_nin ai_nsts (ai_nmO o) e.1 (ai_y mi).1 else ai_wc (Cond.methodLink (ai_nmO o) e.1 (ai_y mi).1) p) && (match ai_lk ai_yks mi with
    | some y => decide (y.2.1 = 1) && decide (n = y.1)
    | none => false)
  | (10, mi, n, t, _) => (if p.1 = 99 then ai_nin ai_nsts (ai_nmO o) e.1 (ai_y mi).1 else ai_wc (Cond.methodLink (ai_nmO o) e.1 (ai_y mi).1) p) && (match ai_lk ai_yks mi with
    | some y => decide (y.2.1 = 2) && (decide (n = y.1 + 1) && (decide (40 ≤ t) && decide (t < 53)))
    | none => false)
  | (3, _) => ai_wc (Cond.methodLink (ai_nmO o) e.1 Lib.Math.max.name) p
  | (4, _) => ai_wc (Cond.methodLink (ai_nmO o) e.1 Lib.Math.min.name) p
  | (5, _) => ai_wc (Cond.methodLink (ai_nmO o) e.1 Lib.Math.abs.name) p
  | (6, _) => ai_wc (Cond.methodLink (ai_nmO o) e.1 arraycopyName) p
  | (7, _) => ai_wc (Cond.methodLink (ai_nmO o) e.1 Lib.objectInit) p
  | (9, _) => ai_wc (Cond.methodLink (ai_nmO o) e.1 ⟨"[I", "clone", "()Ljava/lang/Object;"⟩) p
  | _ => true
theorem ai_mtc_ok {o : Nat} {e : Nat × ai_Mr} {p : Nat × Nat} (h : ai_mtc o e p = true) : ai_Mtok o e.1 e.2 := by
  obtain ⟨idx, kd, mi, n, t, q⟩ := e
  match kd with
  | 0 =>
    change (ai_wc (Cond.methodLink (ai_nmO o) idx (ai_y mi).1) p && (match ai_lk ai_yks mi with
    | some y => decide (y.2.1 = 0) && (decide (n = y.1 + 1) && (if y.2.2.2.2.2.2 < 13 then decide (t = 20 + y.2.2.2.2.2.2) else decide (t = 6)))
    | none => false)) = true at h
    rw [Bool.and_eq_true] at h
    obtain ⟨h1, h2⟩ := h
    split at h2
    · rename_i y hy
      simp only [Bool.and_eq_true, decide_eq_true_eq] at h2
      obtain ⟨h2, h3, h4⟩ := h2
      obtain ⟨a1, a2, -, -⟩ := ai_yc_ok (ai_yks_c _ (ai_lk_mem _ _ _ hy)) (ai_yks_ok _ (ai_lk_mem _ _ _ hy))
      obtain ⟨b1, b2, b3⟩ := a2 h2
      refine ⟨y.1, h3, a1, ai_wc_in h1, b1, b2, ?_⟩
      split at h4
      · rename_i hc
        rw [if_pos hc] at b3
        exact Or.inl ⟨_, hc, of_decide_eq_true h4, b3⟩
      · rename_i hc
        rw [if_neg hc] at b3
        exact Or.inr ⟨of_decide_eq_true h4, b3⟩
    · cases h2
  | 1 =>
    change ((if p.1 = 99 then ai_nin ai_nsts (ai_nmO o) idx (ai_y mi).1 else ai_wc (Cond.methodLink (ai_nmO o) idx (ai_y mi).1) p) && (match ai_lk ai_yks mi with
    | some y => decide (y.2.1 = 1) && decide (n = y.1)
    | none => false)) = true at h
    rw [Bool.and_eq_true] at h
    obtain ⟨h1, h2⟩ := h
    split at h2
    · rename_i y hy
      simp only [Bool.and_eq_true, decide_eq_true_eq] at h2
      obtain ⟨h2, h3⟩ := h2
      obtain ⟨a1, -, a2, -⟩ := ai_yc_ok (ai_yks_c _ (ai_lk_mem _ _ _ hy)) (ai_yks_ok _ (ai_lk_mem _ _ _ hy))
      refine ⟨by rw [h3]; exact a1, a2 h2, ?_⟩
      split at h1
      · exact Or.inr (ai_nin_ok h1)
      · exact Or.inl (ai_wc_in h1)
    · cases h2
  | 2 => trivial
  | 3 => exact ai_wc_in h
  | 4 => exact ai_wc_in h
  | 5 => exact ai_wc_in h
  | 6 => exact ai_wc_in h
  | 7 => exact ai_wc_in h
  | 8 => trivial
  | 9 => exact ai_wc_in h
  | 10 =>
    change ((if p.1 = 99 then ai_nin ai_nsts (ai_nmO o) idx (ai_y mi).1 else ai_wc (Cond.methodLink (ai_nmO o) idx (ai_y mi).1) p) && (match ai_lk ai_yks mi with
    | some y => decide (y.2.1 = 2) && (decide (n = y.1 + 1) && (decide (40 ≤ t) && decide (t < 53)))
    | none => false)) = true at h
    rw [Bool.and_eq_true] at h
    obtain ⟨h1, h2⟩ := h
    split at h2
    · rename_i y hy
      simp only [Bool.and_eq_true, decide_eq_true_eq] at h2
      obtain ⟨h2, h3, h4, h5⟩ := h2
      obtain ⟨a1, -, -, a2⟩ := ai_yc_ok (ai_yks_c _ (ai_lk_mem _ _ _ hy)) (ai_yks_ok _ (ai_lk_mem _ _ _ hy))
      obtain ⟨b1, b2, b3⟩ := a2 h2
      refine ⟨y.1, h3, a1, b3, b2, b1, h4, h5, ?_⟩
      split at h1
      · exact Or.inr (ai_nin_ok h1)
      · exact Or.inl (ai_wc_in h1)
    · cases h2
  | kd + 11 => trivial
def ai_clc (o : Nat) (e : Nat × (Nat × Nat)) (p : (Nat × Nat) × (Nat × Nat) × (Nat × Nat)) : Bool := decide (e.2.1 < 13) && (decide (e.2.2 = jg_nf e.2.1) && (ai_wc (Cond.classLink (ai_nmO o) e.1 (jg_R e.2.1)) p.1 && (ai_wc (Cond.instantiable (jg_R e.2.1) (jg_nf e.2.1)) p.2.1 && ai_wc (Cond.initialized (jg_R e.2.1)) p.2.2)))
theorem ai_clc_ok {o : Nat} {e : Nat × (Nat × Nat)} {p : (Nat × Nat) × (Nat × Nat) × (Nat × Nat)} (h : ai_clc o e p = true) : ai_Clok o e.1 e.2 := by
  unfold ai_clc at h
  simp only [Bool.and_eq_true, decide_eq_true_eq] at h
  exact ⟨h.1, h.2.1, ai_wc_in h.2.2.1, ai_wc_in h.2.2.2.1, ai_wc_in h.2.2.2.2⟩
def ai_csc (o : Nat) (e : Nat × ai_V) (p : Nat × Nat) : Bool := match e.2 with
  | .inl x => ai_wc (Cond.constant (ai_nmO o) e.1 x) p
  | .inr (.inl x) => ai_wc (Cond.constantLong (ai_nmO o) e.1 x) p
  | .inr (.inr (t, l, k)) => if t = 6 then decide (l = 0) && (decide (ai_nmO o = RX7) && (decide (k < ai_txts.length) && ai_tixs.any (fun q => decide (q.1 = e.1) && decide (q.2.2 = k)))) else if t = 7 then ai_wc (Cond.fieldLink (ai_nmO o) e.1 RX9 "POWERS" "[I") p else if t = 10 then ai_wc (Cond.fieldLink (ai_nmO o) e.1 "java/lang/String" "COMPACT_STRINGS" "Z") p else if t = 11 then ai_wc (Cond.fieldLink (ai_nmO o) e.1 "jdk/internal/util/Preconditions" "SIOOBE_FORMATTER" "Ljava/util/function/BiFunction;") p else false
theorem ai_csc_ok {o : Nat} {e : Nat × ai_V} {p : Nat × Nat} (h : ai_csc o e p = true) : ai_Csok o e.1 e.2 := by
  obtain ⟨idx, v⟩ := e
  rcases v with x | x | ⟨t, l, k⟩
  · exact ai_wc_in h
  · exact ai_wc_in h
  · change (if t = 6 then decide (l = 0) && (decide (ai_nmO o = RX7) && (decide (k < ai_txts.length) && ai_tixs.any (fun q => decide (q.1 = idx) && decide (q.2.2 = k)))) else if t = 7 then ai_wc (Cond.fieldLink (ai_nmO o) idx RX9 "POWERS" "[I") p else if t = 10 then ai_wc (Cond.fieldLink (ai_nmO o) idx "java/lang/String" "COMPACT_STRINGS" "Z") p else if t = 11 then ai_wc (Cond.fieldLink (ai_nmO o) idx "jdk/internal/util/Preconditions" "SIOOBE_FORMATTER" "Ljava/util/function/BiFunction;") p else false) = true at h
    split at h
    · rename_i ht
      subst ht
      simp only [Bool.and_eq_true, decide_eq_true_eq] at h
      obtain ⟨h1, h2, h3, h4⟩ := h
      obtain ⟨q, hq, h5⟩ := List.any_eq_true.mp h4
      simp only [Bool.and_eq_true, decide_eq_true_eq] at h5
      obtain ⟨a, b, c⟩ := q
      dsimp only at h5
      obtain ⟨rfl, rfl⟩ := h5
      exact ⟨h1, h2, h3, b, hq⟩
    · split at h
      · rename_i ht
        subst ht
        exact ai_wc_in h
      · split at h
        · rename_i ht
          subst ht
          exact ai_wc_in h
        · split at h
          · rename_i ht
            subst ht
            exact ai_wc_in h
          · cases h
set_option maxRecDepth 100000 in
theorem ai_fl0_ok : ai_all2 (ai_flc 0) ai_fl0 [(1, 42), (1, 46), (1, 49), (1, 51), (1, 53), (1, 55), (1, 57), (1, 59), (1, 60), (1, 62), (1, 65), (1, 67), (1, 70), (1, 72), (1, 75)] = true := by decide +kernel
set_option maxRecDepth 100000 in
theorem ai_mt0_ok : ai_all2 (ai_mtc 0) ai_mt0 [(1, 41), (99, 0), (99, 0), (5, 209), (6, 98)] = true := by decide +kernel
set_option maxRecDepth 100000 in
theorem ai_cl0_ok : ai_all2 (ai_clc 0) ai_cl0 [] = true := by decide +kernel
set_option maxRecDepth 100000 in
theorem ai_cs0_ok : ai_all2 (ai_csc 0) ai_cs0 [] = true := by decide +kernel
theorem ai_tb0_ok : ai_Tbok 0 ai_tb0 := ⟨fun i r h => by obtain ⟨b, hb⟩ := ai_all2_at ai_fl0_ok _ (ai_lk_mem _ _ _ h); exact ai_flc_ok hb, fun i r h => by obtain ⟨b, hb⟩ := ai_all2_at ai_mt0_ok _ (ai_lk_mem _ _ _ h); exact ai_mtc_ok hb, fun i r h => by obtain ⟨b, hb⟩ := ai_all2_at ai_cl0_ok _ (ai_lk_mem _ _ _ h); exact ai_clc_ok hb, fun i r h => by obtain ⟨b, hb⟩ := ai_all2_at ai_cs0_ok _ (ai_lk_mem _ _ _ h); exact ai_csc_ok hb⟩
set_option maxRecDepth 100000 in
theorem ai_fl1_ok : ai_all2 (ai_flc 1) ai_fl1 [(1, 45), (1, 48), (1, 64), (1, 73), (2, 196), (2, 197), (2, 198), (2, 199), (2, 200), (2, 201), (2, 203), (2, 204)] = true := by decide +kernel
set_option maxRecDepth 100000 in
theorem ai_mt1_ok : ai_all2 (ai_mtc 1) ai_mt1 [(2, 195), (99, 0), (5, 95), (5, 99), (5, 104), (5, 112)] = true := by decide +kernel
set_option maxRecDepth 100000 in
theorem ai_cl1_ok : ai_all2 (ai_clc 1) ai_cl1 [] = true := by decide +kernel
set_option maxRecDepth 100000 in
theorem ai_cs1_ok : ai_all2 (ai_csc 1) ai_cs1 [] = true := by decide +kernel
theorem ai_tb1_ok : ai_Tbok 1 ai_tb1 := ⟨fun i r h => by obtain ⟨b, hb⟩ := ai_all2_at ai_fl1_ok _ (ai_lk_mem _ _ _ h); exact ai_flc_ok hb, fun i r h => by obtain ⟨b, hb⟩ := ai_all2_at ai_mt1_ok _ (ai_lk_mem _ _ _ h); exact ai_mtc_ok hb, fun i r h => by obtain ⟨b, hb⟩ := ai_all2_at ai_cl1_ok _ (ai_lk_mem _ _ _ h); exact ai_clc_ok hb, fun i r h => by obtain ⟨b, hb⟩ := ai_all2_at ai_cs1_ok _ (ai_lk_mem _ _ _ h); exact ai_csc_ok hb⟩
set_option maxRecDepth 100000 in
theorem ai_fl2_ok : ai_all2 (ai_flc 2) ai_fl2 [(1, 144), (1, 146), (1, 148), (1, 150), (1, 152), (1, 154), (1, 156), (1, 158), (1, 160), (1, 162), (1, 164), (1, 166), (1, 168), (1, 170), (1, 172), (1, 174)] = true := by decide +kernel
set_option maxRecDepth 100000 in
theorem ai_mt2_ok : ai_all2 (ai_mtc 2) ai_mt2 [(1, 113), (1, 116), (6, 103), (6, 109)] = true := by decide +kernel
set_option maxRecDepth 100000 in
theorem ai_cl2_ok : ai_all2 (ai_clc 2) ai_cl2 [((1, 114), (1, 115), (1, 5))] = true := by decide +kernel
set_option maxRecDepth 100000 in
theorem ai_cs2_ok : ai_all2 (ai_csc 2) ai_cs2 [] = true := by decide +kernel
theorem ai_tb2_ok : ai_Tbok 2 ai_tb2 := ⟨fun i r h => by obtain ⟨b, hb⟩ := ai_all2_at ai_fl2_ok _ (ai_lk_mem _ _ _ h); exact ai_flc_ok hb, fun i r h => by obtain ⟨b, hb⟩ := ai_all2_at ai_mt2_ok _ (ai_lk_mem _ _ _ h); exact ai_mtc_ok hb, fun i r h => by obtain ⟨b, hb⟩ := ai_all2_at ai_cl2_ok _ (ai_lk_mem _ _ _ h); exact ai_clc_ok hb, fun i r h => by obtain ⟨b, hb⟩ := ai_all2_at ai_cs2_ok _ (ai_lk_mem _ _ _ h); exact ai_csc_ok hb⟩
set_option maxRecDepth 100000 in
theorem ai_fl3_ok : ai_all2 (ai_flc 3) ai_fl3 [(1, 215), (1, 217), (1, 219), (1, 221), (1, 223), (1, 224), (1, 226)] = true := by decide +kernel
set_option maxRecDepth 100000 in
theorem ai_mt3_ok : ai_all2 (ai_mtc 3) ai_mt3 [(1, 214), (5, 22), (5, 26), (6, 36), (6, 53), (6, 114)] = true := by decide +kernel
set_option maxRecDepth 100000 in
theorem ai_cl3_ok : ai_all2 (ai_clc 3) ai_cl3 [] = true := by decide +kernel
set_option maxRecDepth 100000 in
theorem ai_cs3_ok : ai_all2 (ai_csc 3) ai_cs3 [] = true := by decide +kernel
theorem ai_tb3_ok : ai_Tbok 3 ai_tb3 := ⟨fun i r h => by obtain ⟨b, hb⟩ := ai_all2_at ai_fl3_ok _ (ai_lk_mem _ _ _ h); exact ai_flc_ok hb, fun i r h => by obtain ⟨b, hb⟩ := ai_all2_at ai_mt3_ok _ (ai_lk_mem _ _ _ h); exact ai_mtc_ok hb, fun i r h => by obtain ⟨b, hb⟩ := ai_all2_at ai_cl3_ok _ (ai_lk_mem _ _ _ h); exact ai_clc_ok hb, fun i r h => by obtain ⟨b, hb⟩ := ai_all2_at ai_cs3_ok _ (ai_lk_mem _ _ _ h); exact ai_csc_ok hb⟩
set_option maxRecDepth 100000 in
theorem ai_fl4_ok : ai_all2 (ai_flc 4) ai_fl4 [(2, 228), (2, 229), (2, 230), (2, 231)] = true := by decide +kernel
set_option maxRecDepth 100000 in
theorem ai_mt4_ok : ai_all2 (ai_mtc 4) ai_mt4 [(2, 227), (4, 210), (4, 214)] = true := by decide +kernel
set_option maxRecDepth 100000 in
theorem ai_cl4_ok : ai_all2 (ai_clc 4) ai_cl4 [] = true := by decide +kernel
set_option maxRecDepth 100000 in
theorem ai_cs4_ok : ai_all2 (ai_csc 4) ai_cs4 [(4, 82)] = true := by decide +kernel
theorem ai_tb4_ok : ai_Tbok 4 ai_tb4 := ⟨fun i r h => by obtain ⟨b, hb⟩ := ai_all2_at ai_fl4_ok _ (ai_lk_mem _ _ _ h); exact ai_flc_ok hb, fun i r h => by obtain ⟨b, hb⟩ := ai_all2_at ai_mt4_ok _ (ai_lk_mem _ _ _ h); exact ai_mtc_ok hb, fun i r h => by obtain ⟨b, hb⟩ := ai_all2_at ai_cl4_ok _ (ai_lk_mem _ _ _ h); exact ai_clc_ok hb, fun i r h => by obtain ⟨b, hb⟩ := ai_all2_at ai_cs4_ok _ (ai_lk_mem _ _ _ h); exact ai_csc_ok hb⟩
set_option maxRecDepth 100000 in
theorem ai_fl5_ok : ai_all2 (ai_flc 5) ai_fl5 [(1, 123), (1, 125), (1, 127), (1, 129), (1, 131)] = true := by decide +kernel
set_option maxRecDepth 100000 in
theorem ai_mt5_ok : ai_all2 (ai_mtc 5) ai_mt5 [(1, 119), (1, 120), (4, 205), (6, 107), (6, 108)] = true := by decide +kernel
set_option maxRecDepth 100000 in
theorem ai_cl5_ok : ai_all2 (ai_clc 5) ai_cl5 [] = true := by decide +kernel
set_option maxRecDepth 100000 in
theorem ai_cs5_ok : ai_all2 (ai_csc 5) ai_cs5 [] = true := by decide +kernel
theorem ai_tb5_ok : ai_Tbok 5 ai_tb5 := ⟨fun i r h => by obtain ⟨b, hb⟩ := ai_all2_at ai_fl5_ok _ (ai_lk_mem _ _ _ h); exact ai_flc_ok hb, fun i r h => by obtain ⟨b, hb⟩ := ai_all2_at ai_mt5_ok _ (ai_lk_mem _ _ _ h); exact ai_mtc_ok hb, fun i r h => by obtain ⟨b, hb⟩ := ai_all2_at ai_cl5_ok _ (ai_lk_mem _ _ _ h); exact ai_clc_ok hb, fun i r h => by obtain ⟨b, hb⟩ := ai_all2_at ai_cs5_ok _ (ai_lk_mem _ _ _ h); exact ai_csc_ok hb⟩
set_option maxRecDepth 100000 in
theorem ai_fl6_ok : ai_all2 (ai_flc 6) ai_fl6 [(2, 123), (2, 125), (2, 127), (2, 129), (2, 130), (2, 131), (2, 132), (2, 133)] = true := by decide +kernel
set_option maxRecDepth 100000 in
theorem ai_mt6_ok : ai_all2 (ai_mtc 6) ai_mt6 [(2, 122), (4, 138), (4, 139), (4, 151), (99, 0), (5, 238), (6, 1)] = true := by decide +kernel
set_option maxRecDepth 100000 in
theorem ai_cl6_ok : ai_all2 (ai_clc 6) ai_cl6 [] = true := by decide +kernel
set_option maxRecDepth 100000 in
theorem ai_cs6_ok : ai_all2 (ai_csc 6) ai_cs6 [] = true := by decide +kernel
theorem ai_tb6_ok : ai_Tbok 6 ai_tb6 := ⟨fun i r h => by obtain ⟨b, hb⟩ := ai_all2_at ai_fl6_ok _ (ai_lk_mem _ _ _ h); exact ai_flc_ok hb, fun i r h => by obtain ⟨b, hb⟩ := ai_all2_at ai_mt6_ok _ (ai_lk_mem _ _ _ h); exact ai_mtc_ok hb, fun i r h => by obtain ⟨b, hb⟩ := ai_all2_at ai_cl6_ok _ (ai_lk_mem _ _ _ h); exact ai_clc_ok hb, fun i r h => by obtain ⟨b, hb⟩ := ai_all2_at ai_cs6_ok _ (ai_lk_mem _ _ _ h); exact ai_csc_ok hb⟩
set_option maxRecDepth 100000 in
theorem ai_fl7_ok : ai_all2 (ai_flc 7) ai_fl7 [(2, 30), (2, 32), (2, 34), (2, 36), (2, 37), (2, 38), (2, 39), (2, 40), (2, 41), (2, 42), (2, 43), (2, 44)] = true := by decide +kernel
set_option maxRecDepth 100000 in
theorem ai_mt7_ok : ai_all2 (ai_mtc 7) ai_mt7 [(2, 29), (3, 199), (3, 203), (3, 207), (3, 210), (3, 214), (3, 220), (3, 224), (3, 234), (4, 34), (4, 45), (4, 49), (4, 53), (4, 58), (4, 62), (4, 66), (4, 75), (4, 79), (4, 83), (4, 90), (4, 106)] = true := by decide +kernel
set_option maxRecDepth 100000 in
theorem ai_cl7_ok : ai_all2 (ai_clc 7) ai_cl7 [((4, 89), (2, 223), (1, 13))] = true := by decide +kernel
set_option maxRecDepth 100000 in
theorem ai_cs7_ok : ai_all2 (ai_csc 7) ai_cs7 [(3, 218), (3, 219), (4, 32), (4, 33), (4, 38), (4, 39), (4, 40), (4, 41), (4, 42), (4, 43), (4, 44), (4, 57), (4, 70), (4, 71), (4, 72), (4, 73), (4, 74), (4, 87), (4, 88)] = true := by decide +kernel
theorem ai_tb7_ok : ai_Tbok 7 ai_tb7 := ⟨fun i r h => by obtain ⟨b, hb⟩ := ai_all2_at ai_fl7_ok _ (ai_lk_mem _ _ _ h); exact ai_flc_ok hb, fun i r h => by obtain ⟨b, hb⟩ := ai_all2_at ai_mt7_ok _ (ai_lk_mem _ _ _ h); exact ai_mtc_ok hb, fun i r h => by obtain ⟨b, hb⟩ := ai_all2_at ai_cl7_ok _ (ai_lk_mem _ _ _ h); exact ai_clc_ok hb, fun i r h => by obtain ⟨b, hb⟩ := ai_all2_at ai_cs7_ok _ (ai_lk_mem _ _ _ h); exact ai_csc_ok hb⟩
set_option maxRecDepth 100000 in
theorem ai_fl8_ok : ai_all2 (ai_flc 8) ai_fl8 [(2, 3), (2, 5), (2, 7), (2, 9)] = true := by decide +kernel
set_option maxRecDepth 100000 in
theorem ai_mt8_ok : ai_all2 (ai_mtc 8) ai_mt8 [(1, 35), (99, 0), (99, 0), (99, 0), (6, 94), (6, 99), (6, 110)] = true := by decide +kernel
set_option maxRecDepth 100000 in
theorem ai_cl8_ok : ai_all2 (ai_clc 8) ai_cl8 [((1, 36), (1, 37), (1, 3)), ((1, 108), (1, 109), (1, 4)), ((1, 209), (1, 210), (1, 7))] = true := by decide +kernel
set_option maxRecDepth 100000 in
theorem ai_cs8_ok : ai_all2 (ai_csc 8) ai_cs8 [] = true := by decide +kernel
theorem ai_tb8_ok : ai_Tbok 8 ai_tb8 := ⟨fun i r h => by obtain ⟨b, hb⟩ := ai_all2_at ai_fl8_ok _ (ai_lk_mem _ _ _ h); exact ai_flc_ok hb, fun i r h => by obtain ⟨b, hb⟩ := ai_all2_at ai_mt8_ok _ (ai_lk_mem _ _ _ h); exact ai_mtc_ok hb, fun i r h => by obtain ⟨b, hb⟩ := ai_all2_at ai_cl8_ok _ (ai_lk_mem _ _ _ h); exact ai_clc_ok hb, fun i r h => by obtain ⟨b, hb⟩ := ai_all2_at ai_cs8_ok _ (ai_lk_mem _ _ _ h); exact ai_csc_ok hb⟩
set_option maxRecDepth 100000 in
theorem ai_fl9_ok : ai_all2 (ai_flc 9) ai_fl9 [(2, 78), (2, 80), (2, 82), (2, 84), (2, 86), (2, 88), (2, 90), (2, 91), (2, 92), (2, 94)] = true := by decide +kernel
set_option maxRecDepth 100000 in
theorem ai_mt9_ok : ai_all2 (ai_mtc 9) ai_mt9 [(2, 75), (4, 237), (4, 239), (99, 0)] = true := by decide +kernel
set_option maxRecDepth 100000 in
theorem ai_cl9_ok : ai_all2 (ai_clc 9) ai_cl9 [((2, 76), (2, 223), (1, 13))] = true := by decide +kernel
set_option maxRecDepth 100000 in
theorem ai_cs9_ok : ai_all2 (ai_csc 9) ai_cs9 [(4, 238), (5, 4)] = true := by decide +kernel
theorem ai_tb9_ok : ai_Tbok 9 ai_tb9 := ⟨fun i r h => by obtain ⟨b, hb⟩ := ai_all2_at ai_fl9_ok _ (ai_lk_mem _ _ _ h); exact ai_flc_ok hb, fun i r h => by obtain ⟨b, hb⟩ := ai_all2_at ai_mt9_ok _ (ai_lk_mem _ _ _ h); exact ai_mtc_ok hb, fun i r h => by obtain ⟨b, hb⟩ := ai_all2_at ai_cl9_ok _ (ai_lk_mem _ _ _ h); exact ai_clc_ok hb, fun i r h => by obtain ⟨b, hb⟩ := ai_all2_at ai_cs9_ok _ (ai_lk_mem _ _ _ h); exact ai_csc_ok hb⟩
set_option maxRecDepth 100000 in
theorem ai_fl10_ok : ai_all2 (ai_flc 10) ai_fl10 [(1, 44), (1, 63), (1, 68), (2, 157), (2, 158), (2, 159), (2, 160), (2, 161), (2, 162), (2, 163), (2, 164), (2, 166), (2, 167)] = true := by decide +kernel
set_option maxRecDepth 100000 in
theorem ai_mt10_ok : ai_all2 (ai_mtc 10) ai_mt10 [(2, 156), (5, 170), (99, 0), (5, 175), (99, 0), (5, 181), (5, 190), (5, 191), (5, 192)] = true := by decide +kernel
set_option maxRecDepth 100000 in
theorem ai_cl10_ok : ai_all2 (ai_clc 10) ai_cl10 [] = true := by decide +kernel
set_option maxRecDepth 100000 in
theorem ai_cs10_ok : ai_all2 (ai_csc 10) ai_cs10 [(5, 180)] = true := by decide +kernel
theorem ai_tb10_ok : ai_Tbok 10 ai_tb10 := ⟨fun i r h => by obtain ⟨b, hb⟩ := ai_all2_at ai_fl10_ok _ (ai_lk_mem _ _ _ h); exact ai_flc_ok hb, fun i r h => by obtain ⟨b, hb⟩ := ai_all2_at ai_mt10_ok _ (ai_lk_mem _ _ _ h); exact ai_mtc_ok hb, fun i r h => by obtain ⟨b, hb⟩ := ai_all2_at ai_cl10_ok _ (ai_lk_mem _ _ _ h); exact ai_clc_ok hb, fun i r h => by obtain ⟨b, hb⟩ := ai_all2_at ai_cs10_ok _ (ai_lk_mem _ _ _ h); exact ai_csc_ok hb⟩
set_option maxRecDepth 100000 in
theorem ai_fl11_ok : ai_all2 (ai_flc 11) ai_fl11 [(1, 43), (1, 47), (1, 50), (1, 52), (1, 54), (1, 56), (1, 58), (1, 61), (1, 66), (1, 69), (1, 71), (1, 74), (1, 124), (1, 126), (1, 128), (1, 130), (1, 132), (1, 145), (1, 147), (1, 149), (1, 151), (1, 153), (1, 155), (1, 157), (1, 159), (1, 161), (1, 163), (1, 165), (1, 167), (1, 169), (1, 171), (1, 173), (1, 175), (1, 216), (1, 218), (1, 220), (1, 222), (1, 225), (1, 227), (2, 4), (2, 6), (2, 8), (2, 10), (2, 11), (2, 31), (2, 33), (2, 35), (2, 79), (2, 81), (2, 83), (2, 85), (2, 87), (2, 89), (2, 93), (2, 95), (2, 124), (2, 126), (2, 128), (2, 165), (2, 168), (2, 202), (3, 1), (3, 2), (3, 3), (3, 4), (3, 5), (3, 6), (3, 7), (3, 8), (3, 9), (3, 10), (3, 11), (3, 12)] = true := by decide +kernel
set_option maxRecDepth 100000 in
theorem ai_mt11_ok : ai_all2 (ai_mtc 11) ai_mt11 [(1, 27), (99, 0), (99, 0), (99, 0), (99, 0), (99, 0), (99, 0), (2, 224), (3, 42), (3, 46), (3, 49), (3, 57), (3, 61), (3, 69), (3, 77), (3, 85), (3, 97), (3, 101), (3, 105), (3, 113), (3, 165), (3, 172), (3, 179), (3, 183), (3, 191), (3, 195), (4, 107), (4, 111), (4, 122), (4, 130), (4, 134), (4, 147), (4, 165), (4, 169), (4, 177), (4, 185), (4, 189), (4, 193), (4, 197), (4, 201), (4, 206), (4, 225), (4, 229), (4, 233), (5, 10), (5, 18), (5, 27), (5, 32), (5, 36), (5, 44), (5, 48), (5, 51), (5, 55), (5, 59), (5, 67), (5, 74), (5, 78), (5, 82), (5, 85), (5, 90), (5, 100), (5, 108), (5, 120), (5, 125), (5, 129), (5, 137), (5, 141), (5, 149), (5, 150), (5, 154), (5, 162), (5, 166), (5, 186), (5, 200), (5, 201), (5, 205), (5, 214), (5, 218), (5, 225), (5, 233), (6, 13), (6, 16), (6, 24), (6, 32), (6, 40), (6, 44), (6, 49), (6, 58), (6, 62), (6, 69), (6, 73), (6, 78), (6, 90), (6, 123), (6, 127), (6, 131)] = true := by decide +kernel
set_option maxRecDepth 100000 in
theorem ai_cl11_ok : ai_all2 (ai_clc 11) ai_cl11 [((1, 30), (1, 31), (1, 2)), ((2, 24), (2, 25), (1, 8)), ((2, 70), (2, 71), (1, 9)), ((2, 117), (2, 118), (1, 10)), ((2, 151), (2, 152), (1, 11)), ((2, 190), (2, 191), (1, 12)), ((2, 222), (2, 223), (1, 13))] = true := by decide +kernel
set_option maxRecDepth 100000 in
theorem ai_cs11_ok : ai_all2 (ai_csc 11) ai_cs11 [(3, 60), (4, 120), (4, 121)] = true := by decide +kernel
theorem ai_tb11_ok : ai_Tbok 11 ai_tb11 := ⟨fun i r h => by obtain ⟨b, hb⟩ := ai_all2_at ai_fl11_ok _ (ai_lk_mem _ _ _ h); exact ai_flc_ok hb, fun i r h => by obtain ⟨b, hb⟩ := ai_all2_at ai_mt11_ok _ (ai_lk_mem _ _ _ h); exact ai_mtc_ok hb, fun i r h => by obtain ⟨b, hb⟩ := ai_all2_at ai_cl11_ok _ (ai_lk_mem _ _ _ h); exact ai_clc_ok hb, fun i r h => by obtain ⟨b, hb⟩ := ai_all2_at ai_cs11_ok _ (ai_lk_mem _ _ _ h); exact ai_csc_ok hb⟩
set_option maxRecDepth 100000 in
theorem ai_fl12_ok : ai_all2 (ai_flc 12) ai_fl12 [(6, 141), (6, 142), (6, 143), (6, 144), (6, 145), (6, 146), (6, 147), (6, 148), (6, 149), (6, 150), (6, 151), (6, 152), (6, 153), (6, 154), (6, 155), (6, 156), (6, 157), (6, 158), (6, 159), (6, 160), (6, 161), (6, 162), (6, 163), (6, 164), (6, 165), (6, 166), (6, 167), (6, 168), (6, 169), (6, 170), (6, 171), (6, 172), (6, 173), (6, 174), (6, 175), (6, 176), (6, 177), (6, 178), (6, 179), (6, 180), (6, 181), (6, 182), (6, 183), (6, 184), (6, 185), (6, 186), (6, 187), (6, 188), (6, 189), (6, 190), (6, 191), (6, 192), (6, 193), (6, 194), (6, 195), (6, 196), (6, 197), (6, 198), (6, 199), (6, 200), (6, 201), (6, 202), (6, 203), (6, 204), (6, 205), (6, 206), (6, 207), (6, 208), (6, 209), (6, 210), (6, 211), (6, 212), (6, 213), (6, 214), (6, 215), (6, 216), (6, 217), (6, 218), (6, 219), (6, 220), (6, 221), (6, 222), (6, 223), (6, 224), (6, 225), (6, 226), (6, 227)] = true := by decide +kernel
set_option maxRecDepth 100000 in
theorem ai_mt12_ok : ai_all2 (ai_mtc 12) ai_mt12 [(6, 140), (7, 168), (7, 176), (7, 183), (7, 191), (7, 215), (7, 231), (7, 235), (8, 51), (8, 55), (8, 59), (8, 63), (8, 70), (8, 74), (8, 80), (8, 86), (8, 97), (8, 102), (8, 106), (8, 115), (8, 119), (8, 125), (8, 143), (8, 151), (8, 155), (8, 159), (8, 168), (8, 172), (8, 176), (8, 180), (8, 192), (8, 195), (8, 199), (8, 203), (8, 207), (8, 211), (8, 215), (8, 219), (8, 227), (8, 231), (8, 234), (8, 238), (8, 239), (9, 3), (9, 6), (9, 21), (9, 25), (9, 29), (9, 32), (9, 40), (9, 48), (9, 64), (9, 72), (9, 84), (9, 88), (9, 92), (9, 104), (9, 112), (9, 116), (9, 124), (9, 128), (9, 144), (9, 147), (9, 151), (9, 155), (9, 167), (9, 175), (9, 184), (9, 200), (9, 204)] = true := by decide +kernel
set_option maxRecDepth 100000 in
theorem ai_cl12_ok : ai_all2 (ai_clc 12) ai_cl12 [] = true := by decide +kernel
set_option maxRecDepth 100000 in
theorem ai_cs12_ok : ai_all2 (ai_csc 12) ai_cs12 [(7, 194), (8, 67), (8, 68), (8, 69), (8, 78), (8, 79), (8, 84), (8, 85), (8, 90), (8, 91), (8, 92), (8, 93), (8, 94), (8, 95), (8, 96), (8, 101), (8, 110), (8, 111), (8, 112), (8, 113), (8, 114), (8, 123), (8, 124), (8, 133), (8, 134)] = true := by decide +kernel
theorem ai_tb12_ok : ai_Tbok 12 ai_tb12 := ⟨fun i r h => by obtain ⟨b, hb⟩ := ai_all2_at ai_fl12_ok _ (ai_lk_mem _ _ _ h); exact ai_flc_ok hb, fun i r h => by obtain ⟨b, hb⟩ := ai_all2_at ai_mt12_ok _ (ai_lk_mem _ _ _ h); exact ai_mtc_ok hb, fun i r h => by obtain ⟨b, hb⟩ := ai_all2_at ai_cl12_ok _ (ai_lk_mem _ _ _ h); exact ai_clc_ok hb, fun i r h => by obtain ⟨b, hb⟩ := ai_all2_at ai_cs12_ok _ (ai_lk_mem _ _ _ h); exact ai_csc_ok hb⟩
set_option maxRecDepth 100000 in
theorem ai_fl13_ok : ai_all2 (ai_flc 13) ai_fl13 [] = true := by decide +kernel
set_option maxRecDepth 100000 in
theorem ai_mt13_ok : ai_all2 (ai_mtc 13) ai_mt13 [(1, 24), (3, 38), (3, 53), (3, 65), (3, 73), (3, 81), (3, 89), (3, 93), (3, 109), (3, 117), (3, 121), (3, 125), (3, 129), (3, 133), (3, 137), (3, 141), (3, 145), (3, 149), (3, 153), (3, 157), (3, 161), (3, 168), (3, 175), (3, 187), (4, 116), (4, 126), (4, 143), (4, 157), (4, 161), (4, 173), (4, 181), (4, 217), (4, 221), (5, 6), (5, 14), (5, 28), (5, 40), (5, 70), (5, 86), (5, 116), (5, 121), (5, 133), (5, 145), (5, 158), (5, 182), (5, 196), (5, 210), (5, 221), (5, 229), (6, 5), (6, 9), (6, 20), (6, 28), (6, 45), (6, 54), (6, 65), (6, 74), (6, 82), (6, 86), (6, 115), (6, 119), (6, 137), (7, 164), (7, 172), (7, 179), (7, 187), (7, 195), (7, 199), (7, 203), (7, 207), (7, 211), (7, 219), (7, 223), (7, 227), (7, 239), (8, 3), (8, 7), (8, 11), (8, 15), (8, 19), (8, 23), (8, 27), (8, 31), (8, 35), (8, 39), (8, 43), (8, 47), (8, 129), (8, 135), (8, 139), (8, 147), (8, 163), (8, 164), (8, 184), (8, 188), (8, 223), (9, 9), (9, 13), (9, 17), (9, 36), (9, 44), (9, 52), (9, 56), (9, 60), (9, 68), (9, 76), (9, 80), (9, 96), (9, 100), (9, 108), (9, 120), (9, 132), (9, 136), (9, 140), (9, 159), (9, 163), (9, 171), (9, 176), (9, 180), (9, 188), (9, 192), (9, 196)] = true := by decide +kernel
set_option maxRecDepth 100000 in
theorem ai_cl13_ok : ai_all2 (ai_clc 13) ai_cl13 [((1, 22), (1, 23), (1, 1)), ((6, 135), (6, 136), (1, 14))] = true := by decide +kernel
set_option maxRecDepth 100000 in
theorem ai_cs13_ok : ai_all2 (ai_csc 13) ai_cs13 [] = true := by decide +kernel
theorem ai_tb13_ok : ai_Tbok 13 ai_tb13 := ⟨fun i r h => by obtain ⟨b, hb⟩ := ai_all2_at ai_fl13_ok _ (ai_lk_mem _ _ _ h); exact ai_flc_ok hb, fun i r h => by obtain ⟨b, hb⟩ := ai_all2_at ai_mt13_ok _ (ai_lk_mem _ _ _ h); exact ai_mtc_ok hb, fun i r h => by obtain ⟨b, hb⟩ := ai_all2_at ai_cl13_ok _ (ai_lk_mem _ _ _ h); exact ai_clc_ok hb, fun i r h => by obtain ⟨b, hb⟩ := ai_all2_at ai_cs13_ok _ (ai_lk_mem _ _ _ h); exact ai_csc_ok hb⟩
set_option maxRecDepth 100000 in
theorem ai_fl14_ok : ai_all2 (ai_flc 14) ai_fl14 [] = true := by decide +kernel
set_option maxRecDepth 100000 in
theorem ai_mt14_ok : ai_all2 (ai_mtc 14) ai_mt14 [] = true := by decide +kernel
set_option maxRecDepth 100000 in
theorem ai_cl14_ok : ai_all2 (ai_clc 14) ai_cl14 [] = true := by decide +kernel
set_option maxRecDepth 100000 in
theorem ai_cs14_ok : ai_all2 (ai_csc 14) ai_cs14 [(4, 154), (4, 155), (4, 156)] = true := by decide +kernel
theorem ai_tb14_ok : ai_Tbok 14 ai_tb14 := ⟨fun i r h => by obtain ⟨b, hb⟩ := ai_all2_at ai_fl14_ok _ (ai_lk_mem _ _ _ h); exact ai_flc_ok hb, fun i r h => by obtain ⟨b, hb⟩ := ai_all2_at ai_mt14_ok _ (ai_lk_mem _ _ _ h); exact ai_mtc_ok hb, fun i r h => by obtain ⟨b, hb⟩ := ai_all2_at ai_cl14_ok _ (ai_lk_mem _ _ _ h); exact ai_clc_ok hb, fun i r h => by obtain ⟨b, hb⟩ := ai_all2_at ai_cs14_ok _ (ai_lk_mem _ _ _ h); exact ai_csc_ok hb⟩
set_option maxRecDepth 100000 in
theorem ai_fl15_ok : ai_all2 (ai_flc 15) ai_fl15 [] = true := by decide +kernel
set_option maxRecDepth 100000 in
theorem ai_mt15_ok : ai_all2 (ai_mtc 15) ai_mt15 [] = true := by decide +kernel
set_option maxRecDepth 100000 in
theorem ai_cl15_ok : ai_all2 (ai_clc 15) ai_cl15 [] = true := by decide +kernel
set_option maxRecDepth 100000 in
theorem ai_cs15_ok : ai_all2 (ai_csc 15) ai_cs15 [] = true := by decide +kernel
theorem ai_tb15_ok : ai_Tbok 15 ai_tb15 := ⟨fun i r h => by obtain ⟨b, hb⟩ := ai_all2_at ai_fl15_ok _ (ai_lk_mem _ _ _ h); exact ai_flc_ok hb, fun i r h => by obtain ⟨b, hb⟩ := ai_all2_at ai_mt15_ok _ (ai_lk_mem _ _ _ h); exact ai_mtc_ok hb, fun i r h => by obtain ⟨b, hb⟩ := ai_all2_at ai_cl15_ok _ (ai_lk_mem _ _ _ h); exact ai_clc_ok hb, fun i r h => by obtain ⟨b, hb⟩ := ai_all2_at ai_cs15_ok _ (ai_lk_mem _ _ _ h); exact ai_csc_ok hb⟩
set_option maxRecDepth 100000 in
theorem ai_fl16_ok : ai_all2 (ai_flc 16) ai_fl16 [] = true := by decide +kernel
set_option maxRecDepth 100000 in
theorem ai_mt16_ok : ai_all2 (ai_mtc 16) ai_mt16 [(4, 93), (4, 100), (4, 103)] = true := by decide +kernel
set_option maxRecDepth 100000 in
theorem ai_cl16_ok : ai_all2 (ai_clc 16) ai_cl16 [] = true := by decide +kernel
set_option maxRecDepth 100000 in
theorem ai_cs16_ok : ai_all2 (ai_csc 16) ai_cs16 [] = true := by decide +kernel
theorem ai_tb16_ok : ai_Tbok 16 ai_tb16 := ⟨fun i r h => by obtain ⟨b, hb⟩ := ai_all2_at ai_fl16_ok _ (ai_lk_mem _ _ _ h); exact ai_flc_ok hb, fun i r h => by obtain ⟨b, hb⟩ := ai_all2_at ai_mt16_ok _ (ai_lk_mem _ _ _ h); exact ai_mtc_ok hb, fun i r h => by obtain ⟨b, hb⟩ := ai_all2_at ai_cl16_ok _ (ai_lk_mem _ _ _ h); exact ai_clc_ok hb, fun i r h => by obtain ⟨b, hb⟩ := ai_all2_at ai_cs16_ok _ (ai_lk_mem _ _ _ h); exact ai_csc_ok hb⟩
set_option maxRecDepth 100000 in
theorem ai_fl17_ok : ai_all2 (ai_flc 17) ai_fl17 [(9, 208), (9, 209)] = true := by decide +kernel
set_option maxRecDepth 100000 in
theorem ai_mt17_ok : ai_all2 (ai_mtc 17) ai_mt17 [(3, 228), (3, 238), (4, 2), (4, 10), (4, 13)] = true := by decide +kernel
set_option maxRecDepth 100000 in
theorem ai_cl17_ok : ai_all2 (ai_clc 17) ai_cl17 [] = true := by decide +kernel
set_option maxRecDepth 100000 in
theorem ai_cs17_ok : ai_all2 (ai_csc 17) ai_cs17 [(3, 232), (4, 8)] = true := by decide +kernel
theorem ai_tb17_ok : ai_Tbok 17 ai_tb17 := ⟨fun i r h => by obtain ⟨b, hb⟩ := ai_all2_at ai_fl17_ok _ (ai_lk_mem _ _ _ h); exact ai_flc_ok hb, fun i r h => by obtain ⟨b, hb⟩ := ai_all2_at ai_mt17_ok _ (ai_lk_mem _ _ _ h); exact ai_mtc_ok hb, fun i r h => by obtain ⟨b, hb⟩ := ai_all2_at ai_cl17_ok _ (ai_lk_mem _ _ _ h); exact ai_clc_ok hb, fun i r h => by obtain ⟨b, hb⟩ := ai_all2_at ai_cs17_ok _ (ai_lk_mem _ _ _ h); exact ai_csc_ok hb⟩
set_option maxRecDepth 100000 in
theorem ai_fl18_ok : ai_all2 (ai_flc 18) ai_fl18 [] = true := by decide +kernel
set_option maxRecDepth 100000 in
theorem ai_mt18_ok : ai_all2 (ai_mtc 18) ai_mt18 [(4, 5)] = true := by decide +kernel
set_option maxRecDepth 100000 in
theorem ai_cl18_ok : ai_all2 (ai_clc 18) ai_cl18 [] = true := by decide +kernel
set_option maxRecDepth 100000 in
theorem ai_cs18_ok : ai_all2 (ai_csc 18) ai_cs18 [] = true := by decide +kernel
theorem ai_tb18_ok : ai_Tbok 18 ai_tb18 := ⟨fun i r h => by obtain ⟨b, hb⟩ := ai_all2_at ai_fl18_ok _ (ai_lk_mem _ _ _ h); exact ai_flc_ok hb, fun i r h => by obtain ⟨b, hb⟩ := ai_all2_at ai_mt18_ok _ (ai_lk_mem _ _ _ h); exact ai_mtc_ok hb, fun i r h => by obtain ⟨b, hb⟩ := ai_all2_at ai_cl18_ok _ (ai_lk_mem _ _ _ h); exact ai_clc_ok hb, fun i r h => by obtain ⟨b, hb⟩ := ai_all2_at ai_cs18_ok _ (ai_lk_mem _ _ _ h); exact ai_csc_ok hb⟩
set_option maxRecDepth 100000 in
theorem ai_fl19_ok : ai_all2 (ai_flc 19) ai_fl19 [] = true := by decide +kernel
set_option maxRecDepth 100000 in
theorem ai_mt19_ok : ai_all2 (ai_mtc 19) ai_mt19 [] = true := by decide +kernel
set_option maxRecDepth 100000 in
theorem ai_cl19_ok : ai_all2 (ai_clc 19) ai_cl19 [] = true := by decide +kernel
set_option maxRecDepth 100000 in
theorem ai_cs19_ok : ai_all2 (ai_csc 19) ai_cs19 [] = true := by decide +kernel
theorem ai_tb19_ok : ai_Tbok 19 ai_tb19 := ⟨fun i r h => by obtain ⟨b, hb⟩ := ai_all2_at ai_fl19_ok _ (ai_lk_mem _ _ _ h); exact ai_flc_ok hb, fun i r h => by obtain ⟨b, hb⟩ := ai_all2_at ai_mt19_ok _ (ai_lk_mem _ _ _ h); exact ai_mtc_ok hb, fun i r h => by obtain ⟨b, hb⟩ := ai_all2_at ai_cl19_ok _ (ai_lk_mem _ _ _ h); exact ai_clc_ok hb, fun i r h => by obtain ⟨b, hb⟩ := ai_all2_at ai_cs19_ok _ (ai_lk_mem _ _ _ h); exact ai_csc_ok hb⟩
set_option maxRecDepth 100000 in
theorem ai_cok0_w : ai_all2 ai_wc (u_ws (jg_R 0) (jg_T 0) (jg_nf 0)) [(1, 76), (1, 78), (1, 80), (1, 82), (1, 84), (1, 86), (1, 88), (1, 90), (1, 92), (1, 94), (1, 96), (1, 98), (1, 100), (1, 102), (1, 104)] = true := by decide +kernel
set_option maxRecDepth 100000 in
theorem ai_cok0_f : (List.range (jg_nf 0)).all (fun j => decide ((jg_T 0 j).1 = jg_R 0) && (ai_fty (ai_fk 0 j).1 (jg_ty 0 j) && ((!(decide ((ai_fk 0 j).1 = 0 ∨ (ai_fk 0 j).1 = 1 ∨ (ai_fk 0 j).1 = 2 ∨ (ai_fk 0 j).1 = 6)) || decide ((jg_T 0 j).2.2.2 = false)) && ((!(decide ((ai_fk 0 j).1 = 2)) || (List.range (jg_nf 0)).all (fun i => !(decide ((ai_fk 0 i).1 = 2)) || decide (i = j))) && (!(decide ((ai_fk 0 j).1 = 6)) || decide ((ai_fk 0 j).2.1 < 13)))))) = true := by decide +kernel
set_option maxRecDepth 100000 in
theorem ai_cok1_w : ai_all2 ai_wc (u_ws (jg_R 1) (jg_T 1) (jg_nf 1)) [(2, 205), (2, 207), (2, 209), (2, 211), (2, 213), (2, 215), (2, 217), (2, 219)] = true := by decide +kernel
set_option maxRecDepth 100000 in
theorem ai_cok1_f : (List.range (jg_nf 1)).all (fun j => decide ((jg_T 1 j).1 = jg_R 1) && (ai_fty (ai_fk 1 j).1 (jg_ty 1 j) && ((!(decide ((ai_fk 1 j).1 = 0 ∨ (ai_fk 1 j).1 = 1 ∨ (ai_fk 1 j).1 = 2 ∨ (ai_fk 1 j).1 = 6)) || decide ((jg_T 1 j).2.2.2 = false)) && ((!(decide ((ai_fk 1 j).1 = 2)) || (List.range (jg_nf 1)).all (fun i => !(decide ((ai_fk 1 i).1 = 2)) || decide (i = j))) && (!(decide ((ai_fk 1 j).1 = 6)) || decide ((ai_fk 1 j).2.1 < 13)))))) = true := by decide +kernel
set_option maxRecDepth 100000 in
theorem ai_cok2_w : ai_all2 ai_wc (u_ws (jg_R 2) (jg_T 2) (jg_nf 2)) [(1, 176), (1, 178), (1, 180), (1, 182), (1, 184), (1, 186), (1, 188), (1, 190), (1, 192), (1, 194), (1, 196), (1, 198), (1, 200), (1, 202), (1, 204), (1, 206)] = true := by decide +kernel
set_option maxRecDepth 100000 in
theorem ai_cok2_f : (List.range (jg_nf 2)).all (fun j => decide ((jg_T 2 j).1 = jg_R 2) && (ai_fty (ai_fk 2 j).1 (jg_ty 2 j) && ((!(decide ((ai_fk 2 j).1 = 0 ∨ (ai_fk 2 j).1 = 1 ∨ (ai_fk 2 j).1 = 2 ∨ (ai_fk 2 j).1 = 6)) || decide ((jg_T 2 j).2.2.2 = false)) && ((!(decide ((ai_fk 2 j).1 = 2)) || (List.range (jg_nf 2)).all (fun i => !(decide ((ai_fk 2 i).1 = 2)) || decide (i = j))) && (!(decide ((ai_fk 2 j).1 = 6)) || decide ((ai_fk 2 j).2.1 < 13)))))) = true := by decide +kernel
set_option maxRecDepth 100000 in
theorem ai_cok3_w : ai_all2 ai_wc (u_ws (jg_R 3) (jg_T 3) (jg_nf 3)) [(1, 228), (1, 230), (1, 232), (1, 234), (1, 236), (1, 238), (2, 0)] = true := by decide +kernel
set_option maxRecDepth 100000 in
theorem ai_cok3_f : (List.range (jg_nf 3)).all (fun j => decide ((jg_T 3 j).1 = jg_R 3) && (ai_fty (ai_fk 3 j).1 (jg_ty 3 j) && ((!(decide ((ai_fk 3 j).1 = 0 ∨ (ai_fk 3 j).1 = 1 ∨ (ai_fk 3 j).1 = 2 ∨ (ai_fk 3 j).1 = 6)) || decide ((jg_T 3 j).2.2.2 = false)) && ((!(decide ((ai_fk 3 j).1 = 2)) || (List.range (jg_nf 3)).all (fun i => !(decide ((ai_fk 3 i).1 = 2)) || decide (i = j))) && (!(decide ((ai_fk 3 j).1 = 6)) || decide ((ai_fk 3 j).2.1 < 13)))))) = true := by decide +kernel
set_option maxRecDepth 100000 in
theorem ai_cok4_w : ai_all2 ai_wc (u_ws (jg_R 4) (jg_T 4) (jg_nf 4)) [(2, 232), (2, 234), (2, 236), (2, 238)] = true := by decide +kernel
set_option maxRecDepth 100000 in
theorem ai_cok4_f : (List.range (jg_nf 4)).all (fun j => decide ((jg_T 4 j).1 = jg_R 4) && (ai_fty (ai_fk 4 j).1 (jg_ty 4 j) && ((!(decide ((ai_fk 4 j).1 = 0 ∨ (ai_fk 4 j).1 = 1 ∨ (ai_fk 4 j).1 = 2 ∨ (ai_fk 4 j).1 = 6)) || decide ((jg_T 4 j).2.2.2 = false)) && ((!(decide ((ai_fk 4 j).1 = 2)) || (List.range (jg_nf 4)).all (fun i => !(decide ((ai_fk 4 i).1 = 2)) || decide (i = j))) && (!(decide ((ai_fk 4 j).1 = 6)) || decide ((ai_fk 4 j).2.1 < 13)))))) = true := by decide +kernel
set_option maxRecDepth 100000 in
theorem ai_cok5_w : ai_all2 ai_wc (u_ws (jg_R 5) (jg_T 5) (jg_nf 5)) [(1, 133), (1, 135), (1, 137), (1, 139), (1, 141)] = true := by decide +kernel
set_option maxRecDepth 100000 in
theorem ai_cok5_f : (List.range (jg_nf 5)).all (fun j => decide ((jg_T 5 j).1 = jg_R 5) && (ai_fty (ai_fk 5 j).1 (jg_ty 5 j) && ((!(decide ((ai_fk 5 j).1 = 0 ∨ (ai_fk 5 j).1 = 1 ∨ (ai_fk 5 j).1 = 2 ∨ (ai_fk 5 j).1 = 6)) || decide ((jg_T 5 j).2.2.2 = false)) && ((!(decide ((ai_fk 5 j).1 = 2)) || (List.range (jg_nf 5)).all (fun i => !(decide ((ai_fk 5 i).1 = 2)) || decide (i = j))) && (!(decide ((ai_fk 5 j).1 = 6)) || decide ((ai_fk 5 j).2.1 < 13)))))) = true := by decide +kernel
set_option maxRecDepth 100000 in
theorem ai_cok6_w : ai_all2 ai_wc (u_ws (jg_R 6) (jg_T 6) (jg_nf 6)) [(2, 134), (2, 136), (2, 138), (2, 140), (2, 142), (2, 144), (2, 146), (2, 148)] = true := by decide +kernel
set_option maxRecDepth 100000 in
theorem ai_cok6_f : (List.range (jg_nf 6)).all (fun j => decide ((jg_T 6 j).1 = jg_R 6) && (ai_fty (ai_fk 6 j).1 (jg_ty 6 j) && ((!(decide ((ai_fk 6 j).1 = 0 ∨ (ai_fk 6 j).1 = 1 ∨ (ai_fk 6 j).1 = 2 ∨ (ai_fk 6 j).1 = 6)) || decide ((jg_T 6 j).2.2.2 = false)) && ((!(decide ((ai_fk 6 j).1 = 2)) || (List.range (jg_nf 6)).all (fun i => !(decide ((ai_fk 6 i).1 = 2)) || decide (i = j))) && (!(decide ((ai_fk 6 j).1 = 6)) || decide ((ai_fk 6 j).2.1 < 13)))))) = true := by decide +kernel
set_option maxRecDepth 100000 in
theorem ai_cok7_w : ai_all2 ai_wc (u_ws (jg_R 7) (jg_T 7) (jg_nf 7)) [(2, 45), (2, 47), (2, 49), (2, 51), (2, 53), (2, 55), (2, 57), (2, 59), (2, 61), (2, 63), (2, 65), (2, 67)] = true := by decide +kernel
set_option maxRecDepth 100000 in
theorem ai_cok7_f : (List.range (jg_nf 7)).all (fun j => decide ((jg_T 7 j).1 = jg_R 7) && (ai_fty (ai_fk 7 j).1 (jg_ty 7 j) && ((!(decide ((ai_fk 7 j).1 = 0 ∨ (ai_fk 7 j).1 = 1 ∨ (ai_fk 7 j).1 = 2 ∨ (ai_fk 7 j).1 = 6)) || decide ((jg_T 7 j).2.2.2 = false)) && ((!(decide ((ai_fk 7 j).1 = 2)) || (List.range (jg_nf 7)).all (fun i => !(decide ((ai_fk 7 i).1 = 2)) || decide (i = j))) && (!(decide ((ai_fk 7 j).1 = 6)) || decide ((ai_fk 7 j).2.1 < 13)))))) = true := by decide +kernel
set_option maxRecDepth 100000 in
theorem ai_cok8_w : ai_all2 ai_wc (u_ws (jg_R 8) (jg_T 8) (jg_nf 8)) [(2, 12), (2, 14), (2, 16), (2, 18), (2, 20)] = true := by decide +kernel
set_option maxRecDepth 100000 in
theorem ai_cok8_f : (List.range (jg_nf 8)).all (fun j => decide ((jg_T 8 j).1 = jg_R 8) && (ai_fty (ai_fk 8 j).1 (jg_ty 8 j) && ((!(decide ((ai_fk 8 j).1 = 0 ∨ (ai_fk 8 j).1 = 1 ∨ (ai_fk 8 j).1 = 2 ∨ (ai_fk 8 j).1 = 6)) || decide ((jg_T 8 j).2.2.2 = false)) && ((!(decide ((ai_fk 8 j).1 = 2)) || (List.range (jg_nf 8)).all (fun i => !(decide ((ai_fk 8 i).1 = 2)) || decide (i = j))) && (!(decide ((ai_fk 8 j).1 = 6)) || decide ((ai_fk 8 j).2.1 < 13)))))) = true := by decide +kernel
set_option maxRecDepth 100000 in
theorem ai_cok9_w : ai_all2 ai_wc (u_ws (jg_R 9) (jg_T 9) (jg_nf 9)) [(2, 96), (2, 98), (2, 100), (2, 102), (2, 104), (2, 106), (2, 108), (2, 110), (2, 112), (2, 114)] = true := by decide +kernel
set_option maxRecDepth 100000 in
theorem ai_cok9_f : (List.range (jg_nf 9)).all (fun j => decide ((jg_T 9 j).1 = jg_R 9) && (ai_fty (ai_fk 9 j).1 (jg_ty 9 j) && ((!(decide ((ai_fk 9 j).1 = 0 ∨ (ai_fk 9 j).1 = 1 ∨ (ai_fk 9 j).1 = 2 ∨ (ai_fk 9 j).1 = 6)) || decide ((jg_T 9 j).2.2.2 = false)) && ((!(decide ((ai_fk 9 j).1 = 2)) || (List.range (jg_nf 9)).all (fun i => !(decide ((ai_fk 9 i).1 = 2)) || decide (i = j))) && (!(decide ((ai_fk 9 j).1 = 6)) || decide ((ai_fk 9 j).2.1 < 13)))))) = true := by decide +kernel
set_option maxRecDepth 100000 in
theorem ai_cok10_w : ai_all2 ai_wc (u_ws (jg_R 10) (jg_T 10) (jg_nf 10)) [(2, 169), (2, 171), (2, 173), (2, 175), (2, 177), (2, 179), (2, 181), (2, 183), (2, 185), (2, 187)] = true := by decide +kernel
set_option maxRecDepth 100000 in
theorem ai_cok10_f : (List.range (jg_nf 10)).all (fun j => decide ((jg_T 10 j).1 = jg_R 10) && (ai_fty (ai_fk 10 j).1 (jg_ty 10 j) && ((!(decide ((ai_fk 10 j).1 = 0 ∨ (ai_fk 10 j).1 = 1 ∨ (ai_fk 10 j).1 = 2 ∨ (ai_fk 10 j).1 = 6)) || decide ((jg_T 10 j).2.2.2 = false)) && ((!(decide ((ai_fk 10 j).1 = 2)) || (List.range (jg_nf 10)).all (fun i => !(decide ((ai_fk 10 i).1 = 2)) || decide (i = j))) && (!(decide ((ai_fk 10 j).1 = 6)) || decide ((ai_fk 10 j).2.1 < 13)))))) = true := by decide +kernel
set_option maxRecDepth 100000 in
theorem ai_cok11_w : ai_all2 ai_wc (u_ws (jg_R 11) (jg_T 11) (jg_nf 11)) [(3, 13), (3, 15), (3, 17), (3, 19), (3, 21), (3, 23), (3, 25), (3, 27), (3, 29), (3, 31), (3, 33), (3, 35)] = true := by decide +kernel
set_option maxRecDepth 100000 in
theorem ai_cok11_f : (List.range (jg_nf 11)).all (fun j => decide ((jg_T 11 j).1 = jg_R 11) && (ai_fty (ai_fk 11 j).1 (jg_ty 11 j) && ((!(decide ((ai_fk 11 j).1 = 0 ∨ (ai_fk 11 j).1 = 1 ∨ (ai_fk 11 j).1 = 2 ∨ (ai_fk 11 j).1 = 6)) || decide ((jg_T 11 j).2.2.2 = false)) && ((!(decide ((ai_fk 11 j).1 = 2)) || (List.range (jg_nf 11)).all (fun i => !(decide ((ai_fk 11 i).1 = 2)) || decide (i = j))) && (!(decide ((ai_fk 11 j).1 = 6)) || decide ((ai_fk 11 j).2.1 < 13)))))) = true := by decide +kernel
set_option maxRecDepth 100000 in
theorem ai_cok12_w : ai_all2 ai_wc (u_ws (jg_R 12) (jg_T 12) (jg_nf 12)) [(6, 228), (6, 230), (6, 232), (6, 234), (6, 236), (6, 238), (7, 0), (7, 2), (7, 4), (7, 6), (7, 8), (7, 10), (7, 12), (7, 14), (7, 16), (7, 18), (7, 20), (7, 22), (7, 24), (7, 26), (7, 28), (7, 30), (7, 32), (7, 34), (7, 36), (7, 38), (7, 40), (7, 42), (7, 44), (7, 46), (7, 48), (7, 50), (7, 52), (7, 54), (7, 56), (7, 58), (7, 60), (7, 62), (7, 64), (7, 66), (7, 68), (7, 70), (7, 72), (7, 74), (7, 76), (7, 78), (7, 80), (7, 82), (7, 84), (7, 86), (7, 88), (7, 90), (7, 92), (7, 94), (7, 96), (7, 98), (7, 100), (7, 102), (7, 104), (7, 106), (7, 108), (7, 110), (7, 112), (7, 114), (7, 116), (7, 118), (7, 120), (7, 122), (7, 124), (7, 126), (7, 128), (7, 130), (7, 132), (7, 134), (7, 136), (7, 138), (7, 140), (7, 142), (7, 144), (7, 146), (7, 148), (7, 150), (7, 152), (7, 154), (7, 156), (7, 158), (7, 160)] = true := by decide +kernel
set_option maxRecDepth 100000 in
theorem ai_cok12_f : (List.range (jg_nf 12)).all (fun j => decide ((jg_T 12 j).1 = jg_R 12) && (ai_fty (ai_fk 12 j).1 (jg_ty 12 j) && ((!(decide ((ai_fk 12 j).1 = 0 ∨ (ai_fk 12 j).1 = 1 ∨ (ai_fk 12 j).1 = 2 ∨ (ai_fk 12 j).1 = 6)) || decide ((jg_T 12 j).2.2.2 = false)) && ((!(decide ((ai_fk 12 j).1 = 2)) || (List.range (jg_nf 12)).all (fun i => !(decide ((ai_fk 12 i).1 = 2)) || decide (i = j))) && (!(decide ((ai_fk 12 j).1 = 6)) || decide ((ai_fk 12 j).2.1 < 13)))))) = true := by decide +kernel
theorem ai_cok_of {ci : Nat} {ps : List (Nat × Nat)} (hw : ai_all2 ai_wc (u_ws (jg_R ci) (jg_T ci) (jg_nf ci)) ps = true) (hf : (List.range (jg_nf ci)).all (fun j => decide ((jg_T ci j).1 = jg_R ci) && (ai_fty (ai_fk ci j).1 (jg_ty ci j) && ((!(decide ((ai_fk ci j).1 = 0 ∨ (ai_fk ci j).1 = 1 ∨ (ai_fk ci j).1 = 2 ∨ (ai_fk ci j).1 = 6)) || decide ((jg_T ci j).2.2.2 = false)) && ((!(decide ((ai_fk ci j).1 = 2)) || (List.range (jg_nf ci)).all (fun i => !(decide ((ai_fk ci i).1 = 2)) || decide (i = j))) && (!(decide ((ai_fk ci j).1 = 6)) || decide ((ai_fk ci j).2.1 < 13)))))) = true) : ai_cok ci := by
  refine ⟨fun w hw' => ?_, fun j hj => ?_⟩
  · obtain ⟨b, hb⟩ := ai_all2_at hw w hw'
    exact ai_wc_in hb
  · have h := List.all_eq_true.mp hf j (List.mem_range.mpr hj)
    simp only [Bool.and_eq_true, Bool.or_eq_true, Bool.not_eq_true', decide_eq_true_eq, decide_eq_false_iff_not] at h
    obtain ⟨h1, h2, h3, h4, h5⟩ := h
    refine ⟨h1, h2, fun q => ?_, fun i hi q1 q2 => ?_, fun q => ?_⟩
    · rcases h3 with h3 | h3
      · exact absurd q h3
      · exact h3
    · rcases h4 with h4 | h4
      · exact absurd q2 h4
      · have h6 := List.all_eq_true.mp h4 i (List.mem_range.mpr hi)
        simp only [Bool.or_eq_true, Bool.not_eq_true', decide_eq_true_eq, decide_eq_false_iff_not] at h6
        rcases h6 with h6 | h6
        · exact absurd q1 h6
        · exact h6
    · rcases h5 with h5 | h5
      · exact absurd q h5
      · exact h5
theorem ai_cok_all : ∀ ci, ci < 13 → ai_cok ci := fun _ h => jg_13 (P := ai_cok) (ai_cok_of ai_cok0_w ai_cok0_f) (ai_cok_of ai_cok1_w ai_cok1_f) (ai_cok_of ai_cok2_w ai_cok2_f) (ai_cok_of ai_cok3_w ai_cok3_f) (ai_cok_of ai_cok4_w ai_cok4_f) (ai_cok_of ai_cok5_w ai_cok5_f) (ai_cok_of ai_cok6_w ai_cok6_f) (ai_cok_of ai_cok7_w ai_cok7_f) (ai_cok_of ai_cok8_w ai_cok8_f) (ai_cok_of ai_cok9_w ai_cok9_f) (ai_cok_of ai_cok10_w ai_cok10_f) (ai_cok_of ai_cok11_w ai_cok11_f) (ai_cok_of ai_cok12_w ai_cok12_f) h
theorem ai_Jok_ok : ai_Jok := ⟨ai_wc_in (p := (1, 121)) (by decide +kernel), ai_wc_in (p := (1, 122)) (by decide +kernel), ai_wc_in (p := (4, 101)) (by decide +kernel), ai_wc_in (p := (4, 102)) (by decide +kernel), ai_wc_in (p := (5, 68)) (by decide +kernel), ai_wc_in (p := (5, 69)) (by decide +kernel), ai_wc_in (p := (1, 6)) (by decide +kernel), ai_wc_in (p := (4, 105)) (by decide +kernel), ai_wc_in (p := (4, 104)) (by decide +kernel), ai_wc_in (p := (1, 20)) (by decide +kernel), ai_wc_in (p := (1, 28)) (by decide +kernel), ai_wc_in (p := (1, 29)) (by decide +kernel), ai_wc_in (p := (4, 94)) (by decide +kernel), ai_wc_in (p := (4, 95)) (by decide +kernel), ai_wc_in (p := (4, 96)) (by decide +kernel), ai_wc_in (p := (4, 97)) (by decide +kernel), ai_wc_in (p := (1, 107)) (by decide +kernel), ai_wc_in (p := (4, 115)) (by decide +kernel), ai_wc_in (p := (7, 163)) (by decide +kernel)⟩
def ai_rok (b : ByteArray) (ret : Option FieldType) (bo : Nat) (q : Nat × ClassFile.Instr) : Bool := match decode b q.1 with
  | .ok (i, len) => decide (i = q.2) && ai_lok ret bo q.1 q.2 len
  | _ => false
def ai_iok (nm : String) (o : Nat) (tb : ai_Tb) (i : ClassFile.Instr) : Bool := match i with
  | .putfield idx => if tb.2.2.2.2.2.isSome = true then decide (nm = "<init>") && (match tb.1 idx with
    | some r => decide (jg_R r.1 = ai_nmO o)
    | none => true) else true
  | .checkcast idx => ai_wc (Cond.classLink (ai_nmO o) idx "[I") (4, 99)
  | _ => true
theorem ai_iok_ok {nm : String} {o : Nat} {tb : ai_Tb} {i : ClassFile.Instr} (h : ai_iok nm o tb i = true) : ai_Iok nm o tb i := by
  unfold ai_iok at h
  unfold ai_Iok
  split at h
  · intro hs
    rw [if_pos hs] at h
    simp only [Bool.and_eq_true, decide_eq_true_eq] at h
    refine ⟨h.1, fun r hr => ?_⟩
    have h2 := h.2
    rw [hr] at h2
    exact of_decide_eq_true h2
  · exact ai_wc_in h
  · split
    · rename_i hx _; exact absurd rfl (hx _)
    · rename_i hx; exact absurd rfl (hx _)
    · trivial
def ai_mc (o mi : Nat) (m : ai_Mi) : Bool := plainFor (ai_y mi).1 && (decide (m.2.2.1 = (ai_y mi).2.2.1) && m.2.2.2.all (fun q => ai_rok (ai_y mi).2.1 (ai_y mi).2.2.2 m.2.1 q && ai_iok (ai_y mi).1.name o m.1 q.2))
theorem ai_mc_ok {mi o : Nat} {m : ai_Mi} (h : ai_mc o mi m = true) (ht : ai_Tbok o m.1) (hc : (ai_y mi).1.cls = ai_nmO o) : ai_Mok mi m := by
  unfold ai_mc at h
  simp only [Bool.and_eq_true, decide_eq_true_eq] at h
  obtain ⟨h1, h2, h3⟩ := h
  refine ⟨o, ht, hc, h1, h2, fun pc i hi => ?_⟩
  have h4 := List.all_eq_true.mp h3 _ (ai_lk_mem _ _ _ hi)
  rw [Bool.and_eq_true] at h4
  obtain ⟨h4, h6⟩ := h4
  refine ⟨?_, ai_iok_ok h6⟩
  unfold ai_rok at h4
  dsimp only at h4
  split at h4
  · rename_i i' len e
    simp only [Bool.and_eq_true, decide_eq_true_eq] at h4
    obtain ⟨rfl, h5⟩ := h4
    exact ⟨len, e, h5⟩
  · cases h4
