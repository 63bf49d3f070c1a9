/-! THE TABLES: every row of the abstract machine's is a word of the Statement's tables; every instruction is decoded so. Printed by wip/whole/gen/chk.py -/
def ai_pc (k : Nat) : List Cond := match k with
  | 0 => k2_sels lw_privs
  | 1 => tables_1_1
  | 2 => tables_1_2
  | 3 => tables_1_3
  | 4 => tables_1_4
  | 5 => tables_1_5
  | 6 => tables_1_6
  | 7 => tables_1_7
  | 8 => tables_1_8
  | _ => tables_1_9
theorem ai_pc_in (k : Nat) {w : Cond} (h : w ∈ ai_pc k) : w ∈ lw_tbl := by
  unfold lw_tbl tables_1
  unfold ai_pc at h
  split at h
  · exact List.mem_append_left _ h
  · exact List.mem_append_right _ (List.mem_append_left _ h)
  · exact List.mem_append_right _ (List.mem_append_right _ (List.mem_append_left _ h))
  · exact List.mem_append_right _ (List.mem_append_right _ (List.mem_append_right _ (List.mem_append_left _ h)))
  · exact List.mem_append_right _ (List.mem_append_right _ (List.mem_append_right _ (List.mem_append_right _ (List.mem_append_left _ h))))
  · exact List.mem_append_right _ (List.mem_append_right _ (List.mem_append_right _ (List.mem_append_right _ (List.mem_append_right _ (List.mem_append_left _ h)))))
  · exact List.mem_append_right _ (List.mem_append_right _ (List.mem_append_right _ (List.mem_append_right _ (List.mem_append_right _ (List.mem_append_right _ (List.mem_append_left _ h))))))
  · exact List.mem_append_right _ (List.mem_append_right _ (List.mem_append_right _ (List.mem_append_right _ (List.mem_append_right _ (List.mem_append_right _ (List.mem_append_right _ (List.mem_append_left _ h)))))))
  · exact List.mem_append_right _ (List.mem_append_right _ (List.mem_append_right _ (List.mem_append_right _ (List.mem_append_right _ (List.mem_append_right _ (List.mem_append_right _ (List.mem_append_right _ (List.mem_append_left _ h))))))))
  · exact List.mem_append_right _ (List.mem_append_right _ (List.mem_append_right _ (List.mem_append_right _ (List.mem_append_right _ (List.mem_append_right _ (List.mem_append_right _ (List.mem_append_right _ (List.mem_append_right _ h))))))))
/-- a word at its place -/
def ai_wc (w : Cond) (p : Nat × Nat) : Bool := decide ((ai_pc p.1)[p.2]? = some w) && goodWord w
theorem ai_wc_in {w : Cond} {p : Nat × Nat} (h : ai_wc w p = true) : w ∈ ai_Ts := by
  unfold ai_wc at h
  simp only [Bool.and_eq_true, decide_eq_true_eq] at h
  exact List.mem_filter.mpr ⟨ai_pc_in p.1 (List.mem_of_getElem? h.1), h.2⟩
def ai_all2 {α β : Type} (f : α → β → Bool) : List α → List β → Bool
  | [], [] => true
  | a :: l, b :: m => f a b && ai_all2 f l m
  | _, _ => false
theorem ai_cw {w : Cond} (k i : Nat) (h : (ai_pc k)[i]? = some w) (hg : goodWord w = true) : w ∈ ai_Ts := List.mem_filter.mpr ⟨ai_pc_in k (List.mem_of_getElem? h), hg⟩
theorem ai_all2_at {α β : Type} {f : α → β → Bool} : ∀ {l : List α} {m : List β}, ai_all2 f l m = true → ∀ a ∈ l, ∃ b, f a b = true := by
  intro l
  induction l with
  | nil => intro m _ a h; cases h
  | cons x l ih =>
    intro m h a ha
    rcases m with _ | ⟨b, m⟩
    · cases h
    · unfold ai_all2 at h
      simp only [Bool.and_eq_true] at h
      rcases List.mem_cons.mp ha with rfl | ha
      · exact ⟨b, h.1⟩
      · exact ih h.2 a ha
def ai_flc1 (o : Nat) (e : Nat × ai_Fr) (p : Nat × Nat) : Bool := decide (e.2.1 < 13) && (decide (e.2.2.1 < jg_nf e.2.1) && (ai_wc (Cond.fieldLink (ai_nmO o) e.1 (jg_R e.2.1) (jg_T e.2.1 e.2.2.1).2.1 (jg_T e.2.1 e.2.2.1).2.2.1) p && decide (e.2.2.2 = ai_fk e.2.1 e.2.2.1)))
def ai_flc (o : Nat) (e : Nat × ai_Fr) (p : Nat × Nat) : Bool := if e.2.1 < 13 then ai_flc1 o e p else (if e.2.2.1 = 0 then decide (e.2 = (17, 0, 8, 0, 0)) && ai_wc (Cond.fieldLink (ai_nmO o) e.1 "java/lang/String" "value" "[B") p else decide (e.2 = (17, 1, 9, 0, 0)) && ai_wc (Cond.fieldLink (ai_nmO o) e.1 "java/lang/String" "coder" "B") p)
theorem ai_flc_ok {o : Nat} {e : Nat × ai_Fr} {p : Nat × Nat} (h : ai_flc o e p = true) : ai_Flok o e.1 e.2 := by
  unfold ai_flc at h
  split at h
  · unfold ai_flc1 at h
    simp only [Bool.and_eq_true, decide_eq_true_eq] at h
    exact Or.inl ⟨h.1, h.2.1, ai_wc_in h.2.2.1, h.2.2.2⟩
  · split at h
    · simp only [Bool.and_eq_true, decide_eq_true_eq] at h
      exact Or.inr (Or.inl ⟨h.1, ai_wc_in h.2⟩)
    · simp only [Bool.and_eq_true, decide_eq_true_eq] at h
      exact Or.inr (Or.inr ⟨h.1, ai_wc_in h.2⟩)
/-- a method's words: its parameters, kind (0 of an object, 1 static, 2 constructor), places of code, initialized, instance or static, selects; its class -/
abbrev ai_Yk : Type := Nat × Nat × (Nat × Nat) × (Nat × Nat) × (Nat × Nat) × (Nat × Nat) × Nat
def ai_yc (mi : Nat) (y : ai_Yk) : Bool :=
  (ai_wc (Cond.initialized (ai_y mi).1.cls) y.2.2.2.1 && (decide ((ai_y mi).1.cls ≠ "java/lang/invoke/MethodHandle" ∧ (ai_y mi).1.cls ≠ "java/lang/invoke/VarHandle" ∧ (parseMethodDescriptor (ai_y mi).1.desc).map (fun d => d.parameters.length) = some y.1) && (decide ((ai_y mi).2.2.1 ≤ 21) &&
  (match y.2.1 with
  | 0 => ai_wc (Cond.instanceMethod (ai_y mi).1) y.2.2.2.2.1 && (ai_wc (Cond.selects (ai_y mi).1.cls (ai_y mi).1 (ai_y mi).1) y.2.2.2.2.2.1 && (if y.2.2.2.2.2.2 < 13 then decide ((ai_y mi).1.cls = jg_R y.2.2.2.2.2.2) else decide ((ai_y mi).1.cls = "java/lang/String")))
  | 1 => ai_wc (Cond.static (ai_y mi).1) y.2.2.2.2.1
  | _ => ai_wc (Cond.instanceMethod (ai_y mi).1) y.2.2.2.2.1 && (decide ((ai_y mi).1.name = "<init>") && decide ((ai_y mi).2.2.2 = none))))))
theorem ai_yc_ok {mi : Nat} {y : ai_Yk} (hcd : Cond.code (ai_y mi).1 (ai_y mi).2.1 (ai_y mi).2.2.1 (ai_y mi).2.2.2 ∈ ai_Ts) (h : ai_yc mi y = true) : ai_Yok mi y.1 ∧ (y.2.1 = 0 → Cond.instanceMethod (ai_y mi).1 ∈ ai_Ts ∧ Cond.selects (ai_y mi).1.cls (ai_y mi).1 (ai_y mi).1 ∈ ai_Ts ∧ (if y.2.2.2.2.2.2 < 13 then (ai_y mi).1.cls = jg_R y.2.2.2.2.2.2 else (ai_y mi).1.cls = "java/lang/String")) ∧ (y.2.1 = 1 → Cond.static (ai_y mi).1 ∈ ai_Ts) ∧ (y.2.1 = 2 → Cond.instanceMethod (ai_y mi).1 ∈ ai_Ts ∧ (ai_y mi).1.name = "<init>" ∧ (ai_y mi).2.2.2 = none) := by
  obtain ⟨n, kd, p1, p2, p3, p4, ci⟩ := y
  unfold ai_yc at h
  simp only [Bool.and_eq_true, decide_eq_true_eq] at h
  obtain ⟨h2, h3, h4, h5⟩ := h
  refine ⟨⟨hcd, ai_wc_in h2, h3, h4⟩, ?_, ?_, ?_⟩
  · intro hk
    dsimp only at hk h5 ⊢
    subst hk
    simp only [Bool.and_eq_true] at h5
    obtain ⟨a1, a2, a3⟩ := h5
    refine ⟨ai_wc_in a1, ai_wc_in a2, ?_⟩
    split at a3
    · rename_i hc; rw [if_pos hc]; exact of_decide_eq_true a3
    · rename_i hc; rw [if_neg hc]; exact of_decide_eq_true a3
  · intro hk
    dsimp only at hk h5
    subst hk
    exact ai_wc_in h5
  · intro hk
    dsimp only at hk h5
    subst hk
    simp only [Bool.and_eq_true, decide_eq_true_eq] at h5
    exact ⟨ai_wc_in h5.1, h5.2.1, h5.2.2⟩
def ai_nin (l : List (String × Nat × MethodName × String)) (own : String) (idx : Nat) (y : MethodName) : Bool := l.any (fun q => decide (q.1 = own) && (decide (q.2.1 = idx) && decide (q.2.2.1 = y)))
theorem ai_nin_ok {l : List (String × Nat × MethodName × String)} {own : String} {idx : Nat} {y : MethodName} (h : ai_nin l own idx y = true) : ∃ host, (own, idx, y, host) ∈ l := by
  obtain ⟨q, hq, h1⟩ := List.any_eq_true.mp h
  simp only [Bool.and_eq_true, decide_eq_true_eq] at h1
  obtain ⟨h1, h2, h3⟩ := h1
  obtain ⟨a, b, c, d⟩ := q
  dsimp only at h1 h2 h3
  subst h1; subst h2; subst h3
  exact ⟨d, hq⟩

theorem ai_cw0 : Cond.code yX0_init cX0_init 1 none ∈ ai_Ts := ai_cw 1 40 rfl rfl
theorem ai_cw1 : Cond.code yX0_addNode cX0_addNode 2 (some .int) ∈ ai_Ts := ai_cw 3 58 rfl rfl
theorem ai_cw2 : Cond.code yX0_addTap cX0_addTap 6 (some .int) ∈ ai_Ts := ai_cw 3 70 rfl rfl
theorem ai_cw3 : Cond.code yX0_addHouse cX0_addHouse 2 (some .int) ∈ ai_Ts := ai_cw 3 78 rfl rfl
theorem ai_cw4 : Cond.code yX0_addPlace cX0_addPlace 2 (some .int) ∈ ai_Ts := ai_cw 3 86 rfl rfl
theorem ai_cw5 : Cond.code yX0_aboveTap cX0_aboveTap 2 (some .int) ∈ ai_Ts := ai_cw 5 115 rfl rfl
theorem ai_cw6 : Cond.code yX0_nearest cX0_nearest 7 (some .int) ∈ ai_Ts := ai_cw 5 45 rfl rfl
theorem ai_cw7 : Cond.code yX0_tapsNear cX0_tapsNear 6 (some .int) ∈ ai_Ts := ai_cw 5 64 rfl rfl
theorem ai_cw8 : Cond.code yX0_tapsNearAny cX0_tapsNearAny 6 (some .int) ∈ ai_Ts := ai_cw 5 191 rfl rfl
theorem ai_cw9 : Cond.code yX0_housesNear cX0_housesNear 6 (some .int) ∈ ai_Ts := ai_cw 5 81 rfl rfl
theorem ai_cw10 : Cond.code yX0_placesNearAny cX0_placesNearAny 5 (some .int) ∈ ai_Ts := ai_cw 5 200 rfl rfl
theorem ai_cw11 : Cond.code yX0_become cX0_become 2 none ∈ ai_Ts := ai_cw 6 80 rfl rfl
theorem ai_cw12 : Cond.code yX1_init cX1_init 1 none ∈ ai_Ts := ai_cw 2 200 rfl rfl
theorem ai_cw13 : Cond.code yX1_prepare cX1_prepare 6 none ∈ ai_Ts := ai_cw 5 76 rfl rfl
theorem ai_cw14 : Cond.code yX1_fewestTaps cX1_fewestTaps 1 (some .int) ∈ ai_Ts := ai_cw 5 86 rfl rfl
theorem ai_cw15 : Cond.code yX1_choose cX1_choose 5 none ∈ ai_Ts := ai_cw 5 90 rfl rfl
theorem ai_cw16 : Cond.code yX1_mostApart cX1_mostApart 1 (some .int) ∈ ai_Ts := ai_cw 5 94 rfl rfl
theorem ai_cw17 : Cond.code yX1_pack cX1_pack 4 none ∈ ai_Ts := ai_cw 5 98 rfl rfl
theorem ai_cw18 : Cond.code yX2_init cX2_init 1 none ∈ ai_Ts := ai_cw 1 112 rfl rfl
theorem ai_cw19 : Cond.code yX2_become cX2_become 2 none ∈ ai_Ts := ai_cw 6 85 rfl rfl
theorem ai_cw20 : Cond.code yX3_init cX3_init 1 none ∈ ai_Ts := ai_cw 1 213 rfl rfl
theorem ai_cw21 : Cond.code yX3_add cX3_add 5 (some .int) ∈ ai_Ts := ai_cw 4 155 rfl rfl
theorem ai_cw22 : Cond.code yX3_lateness cX3_lateness 4 (some .int) ∈ ai_Ts := ai_cw 5 8 rfl rfl
theorem ai_cw23 : Cond.code yX3_latenessOfAll cX3_latenessOfAll 4 (some .int) ∈ ai_Ts := ai_cw 5 4 rfl rfl
theorem ai_cw24 : Cond.code yX3_howManyDone cX3_howManyDone 3 (some .int) ∈ ai_Ts := ai_cw 6 109 rfl rfl
theorem ai_cw25 : Cond.code yX3_howManyPaid cX3_howManyPaid 3 (some .int) ∈ ai_Ts := ai_cw 6 113 rfl rfl
theorem ai_cw26 : Cond.code yX3_isStoneDone cX3_isStoneDone 3 (some .boolean) ∈ ai_Ts := ai_cw 6 22 rfl rfl
theorem ai_cw27 : Cond.code yX3_lastStone cX3_lastStone 5 (some .int) ∈ ai_Ts := ai_cw 6 18 rfl rfl
theorem ai_cw28 : Cond.code yX3_nextStone cX3_nextStone 5 (some .int) ∈ ai_Ts := ai_cw 6 35 rfl rfl
theorem ai_cw29 : Cond.code yX3_become cX3_become 2 none ∈ ai_Ts := ai_cw 6 96 rfl rfl
theorem ai_cw30 : Cond.code yX4_init cX4_init 5 none ∈ ai_Ts := ai_cw 2 232 rfl rfl
theorem ai_cw31 : Cond.code yX4_comparison cX4_comparison 3 (some .int) ∈ ai_Ts := ai_cw 4 66 rfl rfl
theorem ai_cw32 : Cond.code yX4_statements cX4_statements 1 (some .int) ∈ ai_Ts := ai_cw 4 97 rfl rfl
theorem ai_cw33 : Cond.code yX4_says cX4_says 6 (some .boolean) ∈ ai_Ts := ai_cw 4 192 rfl rfl
theorem ai_cw34 : Cond.code yX4_holds cX4_holds 7 (some .boolean) ∈ ai_Ts := ai_cw 4 196 rfl rfl
theorem ai_cw35 : Cond.code yX4_compares cX4_compares 5 (some .boolean) ∈ ai_Ts := ai_cw 4 199 rfl rfl
theorem ai_cw36 : Cond.code yX5_init cX5_init 3 none ∈ ai_Ts := ai_cw 1 118 rfl rfl
theorem ai_cw37 : Cond.code yX5_tell cX5_tell 6 (some .int) ∈ ai_Ts := ai_cw 3 114 rfl rfl
theorem ai_cw38 : Cond.code yX5_counts cX5_counts 5 (some .boolean) ∈ ai_Ts := ai_cw 5 111 rfl rfl
theorem ai_cw39 : Cond.code yX5_latest cX5_latest 5 (some .int) ∈ ai_Ts := ai_cw 4 183 rfl rfl
theorem ai_cw40 : Cond.code yX5_isSo cX5_isSo 5 (some .boolean) ∈ ai_Ts := ai_cw 4 187 rfl rfl
theorem ai_cw41 : Cond.code yX5_thoseSo cX5_thoseSo 6 (some .int) ∈ ai_Ts := ai_cw 5 41 rfl rfl
theorem ai_cw42 : Cond.code yX5_become cX5_become 2 none ∈ ai_Ts := ai_cw 6 89 rfl rfl
theorem ai_cw43 : Cond.code yX6_init cX6_init 1 none ∈ ai_Ts := ai_cw 2 127 rfl rfl
theorem ai_cw44 : Cond.code yX6_addDonor cX6_addDonor 4 (some .int) ∈ ai_Ts := ai_cw 4 120 rfl rfl
theorem ai_cw45 : Cond.code yX6_wear cX6_wear 5 (some .int) ∈ ai_Ts := ai_cw 4 133 rfl rfl
theorem ai_cw46 : Cond.code yX6_isFit cX6_isFit 6 (some .boolean) ∈ ai_Ts := ai_cw 4 125 rfl rfl
theorem ai_cw47 : Cond.code yX6_wornAmong cX6_wornAmong 4 (some .int) ∈ ai_Ts := ai_cw 6 117 rfl rfl
theorem ai_cw48 : Cond.code yX6_someWayHas cX6_someWayHas 5 (some .boolean) ∈ ai_Ts := ai_cw 5 219 rfl rfl
theorem ai_cw49 : Cond.code yX6_findDonor cX6_findDonor 4 (some .boolean) ∈ ai_Ts := ai_cw 5 227 rfl rfl
theorem ai_cw50 : Cond.code yX7_init cX7_init 1 none ∈ ai_Ts := ai_cw 2 28 rfl rfl
theorem ai_cw51 : Cond.code yX7_hasRoom cX7_hasRoom 1 (some .boolean) ∈ ai_Ts := ai_cw 3 188 rfl rfl
theorem ai_cw52 : Cond.code yX7_has cX7_has 2 (some .boolean) ∈ ai_Ts := ai_cw 3 200 rfl rfl
theorem ai_cw53 : Cond.code yX7_put cX7_put 3 none ∈ ai_Ts := ai_cw 3 192 rfl rfl
theorem ai_cw54 : Cond.code yX7_faultOfName cX7_faultOfName 4 (some .int) ∈ ai_Ts := ai_cw 4 116 rfl rfl
theorem ai_cw55 : Cond.code yX7_readLaw cX7_readLaw 5 (some (.object "CityCups$Law")) ∈ ai_Ts := ai_cw 3 204 rfl rfl
theorem ai_cw56 : Cond.code yX7_readStatement cX7_readStatement 4 (some .boolean) ∈ ai_Ts := ai_cw 4 39 rfl rfl
theorem ai_cw57 : Cond.code yX7_cut cX7_cut 7 none ∈ ai_Ts := ai_cw 3 208 rfl rfl
theorem ai_cw58 : Cond.code yX7_readAny cX7_readAny 3 (some .boolean) ∈ ai_Ts := ai_cw 4 43 rfl rfl
theorem ai_cw59 : Cond.code yX7_readAll cX7_readAll 3 (some .boolean) ∈ ai_Ts := ai_cw 4 47 rfl rfl
theorem ai_cw60 : Cond.code yX7_readOne cX7_readOne 3 (some .boolean) ∈ ai_Ts := ai_cw 4 51 rfl rfl
theorem ai_cw61 : Cond.code yX7_readComparison cX7_readComparison 3 (some .boolean) ∈ ai_Ts := ai_cw 4 59 rfl rfl
theorem ai_cw62 : Cond.code yX7_emit cX7_emit 2 none ∈ ai_Ts := ai_cw 4 71 rfl rfl
theorem ai_cw63 : Cond.code yX7_symbolOf cX7_symbolOf 3 (some .int) ∈ ai_Ts := ai_cw 3 218 rfl rfl
theorem ai_cw64 : Cond.code yX7_wordOf cX7_wordOf 7 (some .int) ∈ ai_Ts := ai_cw 3 222 rfl rfl
theorem ai_cw65 : Cond.code yX7_numberAtHand cX7_numberAtHand 3 (some .int) ∈ ai_Ts := ai_cw 4 63 rfl rfl
theorem ai_cw66 : Cond.code yX7_isDigit cX7_isDigit 1 (some .boolean) ∈ ai_Ts := ai_cw 3 214 rfl rfl
theorem ai_cw67 : Cond.code yX7_isSign cX7_isSign 2 (some .boolean) ∈ ai_Ts := ai_cw 4 55 rfl rfl
theorem ai_cw68 : Cond.code yX7_readToken cX7_readToken 1 none ∈ ai_Ts := ai_cw 4 35 rfl rfl
theorem ai_cw70 : Cond.code yX7_isLetter cX7_isLetter 1 (some .boolean) ∈ ai_Ts := ai_cw 3 211 rfl rfl
theorem ai_cw71 : Cond.code yX8_init cX8_init 1 none ∈ ai_Ts := ai_cw 1 34 rfl rfl
theorem ai_cw72 : Cond.code yX8_become cX8_become 4 none ∈ ai_Ts := ai_cw 6 76 rfl rfl
theorem ai_cw73 : Cond.code yX9_init cX9_init 1 none ∈ ai_Ts := ai_cw 2 80 rfl rfl
theorem ai_cw74 : Cond.code yX9_add cX9_add 3 (some .int) ∈ ai_Ts := ai_cw 4 108 rfl rfl
theorem ai_cw75 : Cond.code yX9_ask cX9_ask 4 none ∈ ai_Ts := ai_cw 4 215 rfl rfl
theorem ai_cw76 : Cond.code yX9_share cX9_share 2 none ∈ ai_Ts := ai_cw 4 219 rfl rfl
theorem ai_cw77 : Cond.code yX9_decide cX9_decide 6 none ∈ ai_Ts := ai_cw 4 225 rfl rfl
theorem ai_cw78 : Cond.code yX9_payerOf cX9_payerOf 2 (some .int) ∈ ai_Ts := ai_cw 4 236 rfl rfl
theorem ai_cw79 : Cond.code yX10_init cX10_init 1 none ∈ ai_Ts := ai_cw 2 161 rfl rfl
theorem ai_cw80 : Cond.code yX10_gather cX10_gather 4 none ∈ ai_Ts := ai_cw 5 156 rfl rfl
theorem ai_cw81 : Cond.code yX10_shortestRound cX10_shortestRound 7 (some .int) ∈ ai_Ts := ai_cw 5 152 rfl rfl
theorem ai_cw82 : Cond.code yX10_shortestTo cX10_shortestTo 8 (some .int) ∈ ai_Ts := ai_cw 5 161 rfl rfl
theorem ai_cw83 : Cond.code yX10_planShutting cX10_planShutting 6 none ∈ ai_Ts := ai_cw 5 172 rfl rfl
theorem ai_cw84 : Cond.code yX10_goOn cX10_goOn 9 none ∈ ai_Ts := ai_cw 5 178 rfl rfl
theorem ai_cw85 : Cond.code yX11_init cX11_init 1 none ∈ ai_Ts := ai_cw 1 26 rfl rfl
theorem ai_cw86 : Cond.code yX11_node cX11_node 2 (some .int) ∈ ai_Ts := ai_cw 3 47 rfl rfl
theorem ai_cw87 : Cond.code yX11_tap cX11_tap 6 (some .int) ∈ ai_Ts := ai_cw 3 62 rfl rfl
theorem ai_cw88 : Cond.code yX11_house cX11_house 2 (some .int) ∈ ai_Ts := ai_cw 3 74 rfl rfl
theorem ai_cw89 : Cond.code yX11_course cX11_course 2 (some .int) ∈ ai_Ts := ai_cw 3 82 rfl rfl
theorem ai_cw90 : Cond.code yX11_hard cX11_hard 3 (some .boolean) ∈ ai_Ts := ai_cw 3 90 rfl rfl
theorem ai_cw91 : Cond.code yX11_day cX11_day 2 (some .boolean) ∈ ai_Ts := ai_cw 3 98 rfl rfl
theorem ai_cw92 : Cond.code yX11_shut cX11_shut 4 (some .int) ∈ ai_Ts := ai_cw 3 102 rfl rfl
theorem ai_cw93 : Cond.code yX11_level cX11_level 3 (some .int) ∈ ai_Ts := ai_cw 3 118 rfl rfl
theorem ai_cw94 : Cond.code yX11_bottle cX11_bottle 4 (some .int) ∈ ai_Ts := ai_cw 3 126 rfl rfl
theorem ai_cw95 : Cond.code yX11_test cX11_test 4 (some .int) ∈ ai_Ts := ai_cw 3 130 rfl rfl
theorem ai_cw96 : Cond.code yX11_flow cX11_flow 4 (some .int) ∈ ai_Ts := ai_cw 3 134 rfl rfl
theorem ai_cw97 : Cond.code yX11_error cX11_error 2 (some .boolean) ∈ ai_Ts := ai_cw 3 138 rfl rfl
theorem ai_cw98 : Cond.code yX11_cold cX11_cold 3 (some .boolean) ∈ ai_Ts := ai_cw 3 142 rfl rfl
theorem ai_cw99 : Cond.code yX11_night cX11_night 3 (some .int) ∈ ai_Ts := ai_cw 3 146 rfl rfl
theorem ai_cw100 : Cond.code yX11_burst cX11_burst 3 (some .int) ∈ ai_Ts := ai_cw 3 150 rfl rfl
theorem ai_cw101 : Cond.code yX11_damage cX11_damage 4 (some .int) ∈ ai_Ts := ai_cw 3 154 rfl rfl
theorem ai_cw102 : Cond.code yX11_hurt cX11_hurt 4 (some .int) ∈ ai_Ts := ai_cw 3 158 rfl rfl
theorem ai_cw103 : Cond.code yX11_fill cX11_fill 4 (some .int) ∈ ai_Ts := ai_cw 3 162 rfl rfl
theorem ai_cw104 : Cond.code yX11_cup cX11_cup 4 (some .int) ∈ ai_Ts := ai_cw 3 166 rfl rfl
theorem ai_cw105 : Cond.code yX11_plant cX11_plant 4 (some .int) ∈ ai_Ts := ai_cw 3 170 rfl rfl
theorem ai_cw106 : Cond.code yX11_ban cX11_ban 2 (some .boolean) ∈ ai_Ts := ai_cw 3 177 rfl rfl
theorem ai_cw107 : Cond.code yX11_feed cX11_feed 6 (some .int) ∈ ai_Ts := ai_cw 3 184 rfl rfl
theorem ai_cw108 : Cond.code yX11_cap cX11_cap 3 (some .int) ∈ ai_Ts := ai_cw 3 196 rfl rfl
theorem ai_cw109 : Cond.code yX11_trust cX11_trust 5 (some .int) ∈ ai_Ts := ai_cw 4 102 rfl rfl
theorem ai_cw110 : Cond.code yX11_donor cX11_donor 3 (some .int) ∈ ai_Ts := ai_cw 4 112 rfl rfl
theorem ai_cw111 : Cond.code yX11_worn cX11_worn 4 (some .int) ∈ ai_Ts := ai_cw 4 129 rfl rfl
theorem ai_cw112 : Cond.code yX11_fault cX11_fault 1 (some .int) ∈ ai_Ts := ai_cw 4 143 rfl rfl
theorem ai_cw113 : Cond.code yX11_job cX11_job 5 (some .int) ∈ ai_Ts := ai_cw 4 147 rfl rfl
theorem ai_cw114 : Cond.code yX11_done cX11_done 3 (some .boolean) ∈ ai_Ts := ai_cw 4 159 rfl rfl
theorem ai_cw115 : Cond.code yX11_pays cX11_pays 3 (some .int) ∈ ai_Ts := ai_cw 4 167 rfl rfl
theorem ai_cw116 : Cond.code yX11_payers cX11_payers 4 (some .int) ∈ ai_Ts := ai_cw 4 203 rfl rfl
theorem ai_cw117 : Cond.code yX11_council cX11_council 2 (some .int) ∈ ai_Ts := ai_cw 4 207 rfl rfl
theorem ai_cw118 : Cond.code yX11_settle cX11_settle 3 (some .int) ∈ ai_Ts := ai_cw 4 232 rfl rfl
theorem ai_cw119 : Cond.code yX11_late cX11_late 2 (some .int) ∈ ai_Ts := ai_cw 5 0 rfl rfl
theorem ai_cw120 : Cond.code yX11_runs cX11_runs 4 (some .int) ∈ ai_Ts := ai_cw 5 14 rfl rfl
theorem ai_cw121 : Cond.code yX11_covered cX11_covered 5 (some .int) ∈ ai_Ts := ai_cw 5 26 rfl rfl
theorem ai_cw122 : Cond.code yX11_thirsty cX11_thirsty 5 (some .int) ∈ ai_Ts := ai_cw 5 56 rfl rfl
theorem ai_cw123 : Cond.code yX11_mend cX11_mend 7 (some .int) ∈ ai_Ts := ai_cw 5 72 rfl rfl
theorem ai_cw124 : Cond.code yX11_gift cX11_gift 5 (some .int) ∈ ai_Ts := ai_cw 5 102 rfl rfl
theorem ai_cw125 : Cond.code yX11_germs cX11_germs 10 (some .int) ∈ ai_Ts := ai_cw 5 107 rfl rfl
theorem ai_cw126 : Cond.code yX11_lead cX11_lead 4 (some .int) ∈ ai_Ts := ai_cw 5 119 rfl rfl
theorem ai_cw127 : Cond.code yX11_drips cX11_drips 10 (some .int) ∈ ai_Ts := ai_cw 5 131 rfl rfl
theorem ai_cw128 : Cond.code yX11_round cX11_round 3 (some .int) ∈ ai_Ts := ai_cw 5 144 rfl rfl
theorem ai_cw129 : Cond.code yX11_frost cX11_frost 5 (some .int) ∈ ai_Ts := ai_cw 5 168 rfl rfl
theorem ai_cw130 : Cond.code yX11_horse cX11_horse 10 (some .int) ∈ ai_Ts := ai_cw 5 182 rfl rfl
theorem ai_cw131 : Cond.code yX11_stations cX11_stations 13 (some .int) ∈ ai_Ts := ai_cw 5 196 rfl rfl
theorem ai_cw132 : Cond.code yX11_fits cX11_fits 3 (some .int) ∈ ai_Ts := ai_cw 5 207 rfl rfl
theorem ai_cw133 : Cond.code yX11_could cX11_could 3 (some .int) ∈ ai_Ts := ai_cw 5 215 rfl rfl
theorem ai_cw134 : Cond.code yX11_remembers cX11_remembers 4 (some .int) ∈ ai_Ts := ai_cw 5 231 rfl rfl
theorem ai_cw135 : Cond.code yX11_beside cX11_beside 11 (some .int) ∈ ai_Ts := ai_cw 5 235 rfl rfl
theorem ai_cw136 : Cond.code yX11_hurts cX11_hurts 10 (some .int) ∈ ai_Ts := ai_cw 6 6 rfl rfl
theorem ai_cw137 : Cond.code yX11_wears cX11_wears 5 (some .int) ∈ ai_Ts := ai_cw 6 14 rfl rfl
theorem ai_cw138 : Cond.code yX11_gone cX11_gone 6 (some .int) ∈ ai_Ts := ai_cw 6 31 rfl rfl
theorem ai_cw139 : Cond.code yX11_watch cX11_watch 8 (some .int) ∈ ai_Ts := ai_cw 6 40 rfl rfl
theorem ai_cw140 : Cond.code yX11_filled cX11_filled 7 (some .int) ∈ ai_Ts := ai_cw 6 51 rfl rfl
theorem ai_cw141 : Cond.code yX11_busiest cX11_busiest 6 (some .int) ∈ ai_Ts := ai_cw 6 60 rfl rfl
theorem ai_cw142 : Cond.code yX11_banned cX11_banned 6 (some .int) ∈ ai_Ts := ai_cw 6 68 rfl rfl
theorem ai_cw143 : Cond.code yX11_image cX11_image 2 (some .int) ∈ ai_Ts := ai_cw 6 72 rfl rfl
theorem ai_cw144 : Cond.code yX11_back cX11_back 2 (some .boolean) ∈ ai_Ts := ai_cw 6 101 rfl rfl
theorem ai_cw145 : Cond.code yX11_count cX11_count 2 (some .int) ∈ ai_Ts := ai_cw 6 105 rfl rfl
theorem ai_cw146 : Cond.code yX11_isWithin cX11_isWithin 2 (some .boolean) ∈ ai_Ts := ai_cw 3 54 rfl rfl
theorem ai_cw147 : Cond.code yX11_isDay cX11_isDay 1 (some .boolean) ∈ ai_Ts := ai_cw 3 180 rfl rfl
theorem ai_cw148 : Cond.code yX11_isCell cX11_isCell 1 (some .boolean) ∈ ai_Ts := ai_cw 3 65 rfl rfl
theorem ai_cw149 : Cond.code yX11_isWalk cX11_isWalk 3 (some .boolean) ∈ ai_Ts := ai_cw 5 33 rfl rfl
theorem ai_cw150 : Cond.code yX11_isSpan cX11_isSpan 3 (some .boolean) ∈ ai_Ts := ai_cw 5 238 rfl rfl
theorem ai_cw151 : Cond.code yX11_isPast cX11_isPast 2 (some .boolean) ∈ ai_Ts := ai_cw 3 110 rfl rfl
theorem ai_cw152 : Cond.code yX11_isNode cX11_isNode 2 (some .boolean) ∈ ai_Ts := ai_cw 3 51 rfl rfl
theorem ai_cw153 : Cond.code yX11_isTap cX11_isTap 2 (some .boolean) ∈ ai_Ts := ai_cw 3 94 rfl rfl
theorem ai_cw154 : Cond.code yX11_isHouse cX11_isHouse 2 (some .boolean) ∈ ai_Ts := ai_cw 5 30 rfl rfl
theorem ai_cw155 : Cond.code yX11_isJob cX11_isJob 2 (some .boolean) ∈ ai_Ts := ai_cw 4 163 rfl rfl
theorem ai_cw156 : Cond.code yX11_isJobOf cX11_isJobOf 4 (some .boolean) ∈ ai_Ts := ai_cw 4 151 rfl rfl
theorem ai_cw157 : Cond.code yX11_isWorn cX11_isWorn 2 (some .boolean) ∈ ai_Ts := ai_cw 5 211 rfl rfl
theorem ai_cw158 : Cond.code yX11_areTaps cX11_areTaps 3 (some .boolean) ∈ ai_Ts := ai_cw 5 148 rfl rfl
theorem ai_cw159 : Cond.code yX11_isIn cX11_isIn 2 (some .boolean) ∈ ai_Ts := ai_cw 3 173 rfl rfl
theorem ai_cw160 : Cond.code yX11_pick cX11_pick 4 (some .int) ∈ ai_Ts := ai_cw 5 67 rfl rfl
theorem ai_cw161 : Cond.code yX11_lastIn cX11_lastIn 4 (some .int) ∈ ai_Ts := ai_cw 5 203 rfl rfl
theorem ai_cw162 : Cond.code yX11_stepsBetween cX11_stepsBetween 2 (some .int) ∈ ai_Ts := ai_cw 5 49 rfl rfl
theorem ai_cw163 : Cond.code yX11_tellOfTap cX11_tellOfTap 5 (some .int) ∈ ai_Ts := ai_cw 3 106 rfl rfl
theorem ai_cw164 : Cond.code yX11_tellOfCity cX11_tellOfCity 4 (some .int) ∈ ai_Ts := ai_cw 3 122 rfl rfl
theorem ai_cw165 : Cond.code yX11_endText cX11_endText 2 none ∈ ai_Ts := ai_cw 4 93 rfl rfl
theorem ai_cw166 : Cond.code yX11_isShut cX11_isShut 4 (some .boolean) ∈ ai_Ts := ai_cw 5 18 rfl rfl
theorem ai_cw167 : Cond.code yX11_troughsOn cX11_troughsOn 3 (some .int) ∈ ai_Ts := ai_cw 5 187 rfl rfl
theorem ai_cw168 : Cond.code yX11_gatherFacts cX11_gatherFacts 7 none ∈ ai_Ts := ai_cw 4 179 rfl rfl
theorem ai_cw169 : Cond.code yX11_isCapped cX11_isCapped 4 (some .boolean) ∈ ai_Ts := ai_cw 5 22 rfl rfl
theorem ai_cw170 : Cond.code yX11_uncappedTaps cX11_uncappedTaps 7 (some .int) ∈ ai_Ts := ai_cw 5 37 rfl rfl
theorem ai_cw171 : Cond.code yX11_thirstyHouses cX11_thirstyHouses 7 (some .int) ∈ ai_Ts := ai_cw 5 60 rfl rfl
theorem ai_cw172 : Cond.code yX11_cleanPipes cX11_cleanPipes 5 (some .int) ∈ ai_Ts := ai_cw 5 123 rfl rfl
theorem ai_cw173 : Cond.code yX11_isLeadSure cX11_isLeadSure 6 (some .boolean) ∈ ai_Ts := ai_cw 5 127 rfl rfl
theorem ai_cw174 : Cond.code yX11_leastFlow cX11_leastFlow 5 (some .int) ∈ ai_Ts := ai_cw 5 140 rfl rfl
theorem ai_cw175 : Cond.code yX11_mostFlow cX11_mostFlow 5 (some .int) ∈ ai_Ts := ai_cw 5 136 rfl rfl
theorem ai_cw176 : Cond.code yX11_payersOf cX11_payersOf 8 (some .int) ∈ ai_Ts := ai_cw 4 175 rfl rfl
theorem ai_cw177 : Cond.code yX11_payersOfJob cX11_payersOfJob 2 (some .int) ∈ ai_Ts := ai_cw 4 171 rfl rfl
theorem ai_cw178 : Cond.code yX11_deliberate cX11_deliberate 2 none ∈ ai_Ts := ai_cw 4 211 rfl rfl
theorem ai_cw179 : Cond.code yX11_expectedBursts cX11_expectedBursts 9 (some .int) ∈ ai_Ts := ai_cw 6 2 rfl rfl
theorem ai_cw180 : Cond.code yX11_isByIce cX11_isByIce 6 (some .boolean) ∈ ai_Ts := ai_cw 6 10 rfl rfl
theorem ai_cw181 : Cond.code yX11_stoneDays cX11_stoneDays 2 (some .int) ∈ ai_Ts := ai_cw 6 26 rfl rfl
theorem ai_cw182 : Cond.code yX11_damagesSeen cX11_damagesSeen 7 (some .int) ∈ ai_Ts := ai_cw 6 44 rfl rfl
theorem ai_cw183 : Cond.code yX11_sumFillings cX11_sumFillings 6 none ∈ ai_Ts := ai_cw 6 55 rfl rfl
theorem ai_cw184 : Cond.code yX11_tapsAheadOf cX11_tapsAheadOf 4 (some .int) ∈ ai_Ts := ai_cw 6 64 rfl rfl
theorem ai_cw185 : Cond.code yX12_init cX12_init 1 none ∈ ai_Ts := ai_cw 6 122 rfl rfl
theorem ai_cw186 : Cond.code yX12_within cX12_within 3 (some .boolean) ∈ ai_Ts := ai_cw 7 161 rfl rfl
theorem ai_cw187 : Cond.code yX12_isDay cX12_isDay 1 (some .boolean) ∈ ai_Ts := ai_cw 8 177 rfl rfl
theorem ai_cw188 : Cond.code yX12_isCell cX12_isCell 1 (some .boolean) ∈ ai_Ts := ai_cw 7 176 rfl rfl
theorem ai_cw189 : Cond.code yX12_apart cX12_apart 2 (some .int) ∈ ai_Ts := ai_cw 8 231 rfl rfl
theorem ai_cw190 : Cond.code yX12_steps cX12_steps 2 (some .int) ∈ ai_Ts := ai_cw 8 228 rfl rfl
theorem ai_cw191 : Cond.code yX12_bitsOf cX12_bitsOf 3 (some .int) ∈ ai_Ts := ai_cw 9 14 rfl rfl
theorem ai_cw192 : Cond.code yX12_copies cX12_copies 6 none ∈ ai_Ts := ai_cw 7 154 rfl rfl
theorem ai_cw193 : Cond.code yX12_image cX12_image 2 (some .int) ∈ ai_Ts := ai_cw 7 150 rfl rfl
theorem ai_cw194 : Cond.code yX12_back cX12_back 3 (some .boolean) ∈ ai_Ts := ai_cw 7 158 rfl rfl
theorem ai_cw195 : Cond.code yX12_isTap cX12_isTap 2 (some .boolean) ∈ ai_Ts := ai_cw 7 201 rfl rfl
theorem ai_cw196 : Cond.code yX12_isNode cX12_isNode 2 (some .boolean) ∈ ai_Ts := ai_cw 7 169 rfl rfl
theorem ai_cw197 : Cond.code yX12_isHouse cX12_isHouse 2 (some .boolean) ∈ ai_Ts := ai_cw 8 213 rfl rfl
theorem ai_cw198 : Cond.code yX12_node cX12_node 2 (some .int) ∈ ai_Ts := ai_cw 7 165 rfl rfl
theorem ai_cw199 : Cond.code yX12_tap cX12_tap 7 (some .int) ∈ ai_Ts := ai_cw 7 173 rfl rfl
theorem ai_cw200 : Cond.code yX12_house cX12_house 2 (some .int) ∈ ai_Ts := ai_cw 7 181 rfl rfl
theorem ai_cw201 : Cond.code yX12_day cX12_day 2 (some .boolean) ∈ ai_Ts := ai_cw 7 185 rfl rfl
theorem ai_cw202 : Cond.code yX12_error cX12_error 2 (some .boolean) ∈ ai_Ts := ai_cw 7 189 rfl rfl
theorem ai_cw203 : Cond.code yX12_cold cX12_cold 3 (some .boolean) ∈ ai_Ts := ai_cw 7 193 rfl rfl
theorem ai_cw204 : Cond.code yX12_hard cX12_hard 3 (some .boolean) ∈ ai_Ts := ai_cw 7 197 rfl rfl
theorem ai_cw205 : Cond.code yX12_ban cX12_ban 2 (some .boolean) ∈ ai_Ts := ai_cw 7 205 rfl rfl
theorem ai_cw206 : Cond.code yX12_course cX12_course 2 (some .int) ∈ ai_Ts := ai_cw 7 209 rfl rfl
theorem ai_cw207 : Cond.code yX12_toldOf cX12_toldOf 4 (some .int) ∈ ai_Ts := ai_cw 7 221 rfl rfl
theorem ai_cw208 : Cond.code yX12_tells cX12_tells 7 (some .int) ∈ ai_Ts := ai_cw 7 217 rfl rfl
theorem ai_cw209 : Cond.code yX12_shut cX12_shut 4 (some .int) ∈ ai_Ts := ai_cw 7 213 rfl rfl
theorem ai_cw210 : Cond.code yX12_level cX12_level 3 (some .int) ∈ ai_Ts := ai_cw 7 225 rfl rfl
theorem ai_cw211 : Cond.code yX12_bottle cX12_bottle 4 (some .int) ∈ ai_Ts := ai_cw 7 229 rfl rfl
theorem ai_cw212 : Cond.code yX12_test cX12_test 4 (some .int) ∈ ai_Ts := ai_cw 7 233 rfl rfl
theorem ai_cw213 : Cond.code yX12_flow cX12_flow 4 (some .int) ∈ ai_Ts := ai_cw 7 237 rfl rfl
theorem ai_cw214 : Cond.code yX12_night cX12_night 3 (some .int) ∈ ai_Ts := ai_cw 8 1 rfl rfl
theorem ai_cw215 : Cond.code yX12_burst cX12_burst 3 (some .int) ∈ ai_Ts := ai_cw 8 5 rfl rfl
theorem ai_cw216 : Cond.code yX12_damage cX12_damage 4 (some .int) ∈ ai_Ts := ai_cw 8 9 rfl rfl
theorem ai_cw217 : Cond.code yX12_hurt cX12_hurt 4 (some .int) ∈ ai_Ts := ai_cw 8 13 rfl rfl
theorem ai_cw218 : Cond.code yX12_fill cX12_fill 4 (some .int) ∈ ai_Ts := ai_cw 8 17 rfl rfl
theorem ai_cw219 : Cond.code yX12_cup cX12_cup 4 (some .int) ∈ ai_Ts := ai_cw 8 21 rfl rfl
theorem ai_cw220 : Cond.code yX12_plant cX12_plant 4 (some .int) ∈ ai_Ts := ai_cw 8 25 rfl rfl
theorem ai_cw221 : Cond.code yX12_last cX12_last 8 (some .int) ∈ ai_Ts := ai_cw 8 185 rfl rfl
theorem ai_cw222 : Cond.code yX12_isShut cX12_isShut 4 (some .boolean) ∈ ai_Ts := ai_cw 8 181 rfl rfl
theorem ai_cw223 : Cond.code yX12_hasTrough cX12_hasTrough 4 (some .boolean) ∈ ai_Ts := ai_cw 8 197 rfl rfl
theorem ai_cw224 : Cond.code yX12_feed cX12_feed 8 (some .int) ∈ ai_Ts := ai_cw 8 29 rfl rfl
theorem ai_cw225 : Cond.code yX12_here cX12_here 1 (some .int) ∈ ai_Ts := ai_cw 8 49 rfl rfl
theorem ai_cw226 : Cond.code yX12_next cX12_next 2 none ∈ ai_Ts := ai_cw 8 45 rfl rfl
theorem ai_cw227 : Cond.code yX12_errs cX12_errs 1 none ∈ ai_Ts := ai_cw 8 60 rfl rfl
theorem ai_cw228 : Cond.code yX12_is cX12_is 3 (some .boolean) ∈ ai_Ts := ai_cw 8 66 rfl rfl
theorem ai_cw229 : Cond.code yX12_wordHere cX12_wordHere 1 (some .int) ∈ ai_Ts := ai_cw 8 92 rfl rfl
theorem ai_cw230 : Cond.code yX12_workHere cX12_workHere 1 (some .int) ∈ ai_Ts := ai_cw 8 72 rfl rfl
theorem ai_cw231 : Cond.code yX12_step cX12_step 5 none ∈ ai_Ts := ai_cw 8 101 rfl rfl
theorem ai_cw232 : Cond.code yX12_readTest cX12_readTest 4 none ∈ ai_Ts := ai_cw 8 88 rfl rfl
theorem ai_cw233 : Cond.code yX12_closes cX12_closes 2 (some .boolean) ∈ ai_Ts := ai_cw 8 105 rfl rfl
theorem ai_cw234 : Cond.code yX12_readCondition cX12_readCondition 3 none ∈ ai_Ts := ai_cw 8 83 rfl rfl
theorem ai_cw235 : Cond.code yX12_readStatement cX12_readStatement 4 none ∈ ai_Ts := ai_cw 8 56 rfl rfl
theorem ai_cw236 : Cond.code yX12_beginsText cX12_beginsText 2 none ∈ ai_Ts := ai_cw 8 41 rfl rfl
theorem ai_cw237 : Cond.code yX12_reads cX12_reads 6 (some .boolean) ∈ ai_Ts := ai_cw 8 37 rfl rfl
theorem ai_cw238 : Cond.code yX12_packs cX12_packs 5 none ∈ ai_Ts := ai_cw 8 111 rfl rfl
theorem ai_cw239 : Cond.code yX12_cap cX12_cap 2 (some .int) ∈ ai_Ts := ai_cw 8 33 rfl rfl
theorem ai_cw240 : Cond.code yX12_trust cX12_trust 4 (some .int) ∈ ai_Ts := ai_cw 8 115 rfl rfl
theorem ai_cw241 : Cond.code yX12_fault cX12_fault 1 (some .int) ∈ ai_Ts := ai_cw 8 121 rfl rfl
theorem ai_cw242 : Cond.code yX12_holds cX12_holds 5 (some .boolean) ∈ ai_Ts := ai_cw 8 205 rfl rfl
theorem ai_cw243 : Cond.code yX12_asked cX12_asked 5 none ∈ ai_Ts := ai_cw 8 193 rfl rfl
theorem ai_cw244 : Cond.code yX12_saysSo cX12_saysSo 4 (some .boolean) ∈ ai_Ts := ai_cw 8 201 rfl rfl
theorem ai_cw245 : Cond.code yX12_isCapped cX12_isCapped 4 (some .boolean) ∈ ai_Ts := ai_cw 8 189 rfl rfl
theorem ai_cw246 : Cond.code yX12_readsName cX12_readsName 6 (some .boolean) ∈ ai_Ts := ai_cw 8 129 rfl rfl
theorem ai_cw247 : Cond.code yX12_donor cX12_donor 3 (some .int) ∈ ai_Ts := ai_cw 8 125 rfl rfl
theorem ai_cw248 : Cond.code yX12_worn cX12_worn 4 (some .int) ∈ ai_Ts := ai_cw 8 133 rfl rfl
theorem ai_cw249 : Cond.code yX12_doesFit cX12_doesFit 4 (some .boolean) ∈ ai_Ts := ai_cw 8 145 rfl rfl
theorem ai_cw250 : Cond.code yX12_hasName cX12_hasName 2 (some .boolean) ∈ ai_Ts := ai_cw 8 141 rfl rfl
theorem ai_cw251 : Cond.code yX12_fits cX12_fits 5 (some .int) ∈ ai_Ts := ai_cw 8 137 rfl rfl
theorem ai_cw252 : Cond.code yX12_getsOne cX12_getsOne 8 (some .boolean) ∈ ai_Ts := ai_cw 8 162 rfl rfl
theorem ai_cw253 : Cond.code yX12_hands cX12_hands 7 none ∈ ai_Ts := ai_cw 8 166 rfl rfl
theorem ai_cw254 : Cond.code yX12_isWay cX12_isWay 4 (some .boolean) ∈ ai_Ts := ai_cw 8 158 rfl rfl
theorem ai_cw255 : Cond.code yX12_couldGive cX12_couldGive 3 (some .boolean) ∈ ai_Ts := ai_cw 8 154 rfl rfl
theorem ai_cw256 : Cond.code yX12_could cX12_could 3 (some .int) ∈ ai_Ts := ai_cw 8 150 rfl rfl
theorem ai_cw257 : Cond.code yX12_remembers cX12_remembers 5 (some .int) ∈ ai_Ts := ai_cw 8 170 rfl rfl
theorem ai_cw258 : Cond.code yX12_runs cX12_runs 4 (some .int) ∈ ai_Ts := ai_cw 8 174 rfl rfl
theorem ai_cw259 : Cond.code yX12_findRunning cX12_findRunning 4 none ∈ ai_Ts := ai_cw 8 220 rfl rfl
theorem ai_cw260 : Cond.code yX12_coveredBy cX12_coveredBy 5 (some .int) ∈ ai_Ts := ai_cw 8 225 rfl rfl
theorem ai_cw261 : Cond.code yX12_isWalk cX12_isWalk 1 (some .boolean) ∈ ai_Ts := ai_cw 8 216 rfl rfl
theorem ai_cw262 : Cond.code yX12_covered cX12_covered 5 (some .int) ∈ ai_Ts := ai_cw 8 209 rfl rfl
theorem ai_cw263 : Cond.code yX12_thirsty cX12_thirsty 7 (some .int) ∈ ai_Ts := ai_cw 8 235 rfl rfl
theorem ai_cw264 : Cond.code yX12_gift cX12_gift 7 (some .int) ∈ ai_Ts := ai_cw 8 239 rfl rfl
theorem ai_cw265 : Cond.code yX12_couldOpen cX12_couldOpen 5 (some .int) ∈ ai_Ts := ai_cw 9 7 rfl rfl
theorem ai_cw266 : Cond.code yX12_mend cX12_mend 11 (some .int) ∈ ai_Ts := ai_cw 9 3 rfl rfl
theorem ai_cw267 : Cond.code yX12_fewest cX12_fewest 7 (some .int) ∈ ai_Ts := ai_cw 9 18 rfl rfl
theorem ai_cw268 : Cond.code yX12_bound cX12_bound 7 (some .int) ∈ ai_Ts := ai_cw 9 11 rfl rfl
theorem ai_cw269 : Cond.code yX12_isBelow cX12_isBelow 4 (some .boolean) ∈ ai_Ts := ai_cw 9 26 rfl rfl
theorem ai_cw270 : Cond.code yX12_germs cX12_germs 9 (some .int) ∈ ai_Ts := ai_cw 9 22 rfl rfl
theorem ai_cw271 : Cond.code yX12_isSurelyNot cX12_isSurelyNot 4 (some .boolean) ∈ ai_Ts := ai_cw 9 34 rfl rfl
theorem ai_cw272 : Cond.code yX12_lead cX12_lead 6 (some .int) ∈ ai_Ts := ai_cw 9 30 rfl rfl
theorem ai_cw273 : Cond.code yX12_drips cX12_drips 11 (some .int) ∈ ai_Ts := ai_cw 9 38 rfl rfl
theorem ai_cw274 : Cond.code yX12_isJob cX12_isJob 2 (some .boolean) ∈ ai_Ts := ai_cw 9 50 rfl rfl
theorem ai_cw275 : Cond.code yX12_job cX12_job 6 (some .int) ∈ ai_Ts := ai_cw 9 42 rfl rfl
theorem ai_cw276 : Cond.code yX12_done cX12_done 3 (some .boolean) ∈ ai_Ts := ai_cw 9 46 rfl rfl
theorem ai_cw277 : Cond.code yX12_mayPay cX12_mayPay 5 (some .boolean) ∈ ai_Ts := ai_cw 9 58 rfl rfl
theorem ai_cw278 : Cond.code yX12_pays cX12_pays 3 (some .int) ∈ ai_Ts := ai_cw 9 54 rfl rfl
theorem ai_cw279 : Cond.code yX12_payers cX12_payers 6 (some .int) ∈ ai_Ts := ai_cw 9 62 rfl rfl
theorem ai_cw280 : Cond.code yX12_findAsked cX12_findAsked 3 none ∈ ai_Ts := ai_cw 9 74 rfl rfl
theorem ai_cw281 : Cond.code yX12_costOf cX12_costOf 7 (some .int) ∈ ai_Ts := ai_cw 9 78 rfl rfl
theorem ai_cw282 : Cond.code yX12_findCouncil cX12_findCouncil 4 none ∈ ai_Ts := ai_cw 9 70 rfl rfl
theorem ai_cw283 : Cond.code yX12_council cX12_council 2 (some .int) ∈ ai_Ts := ai_cw 9 66 rfl rfl
theorem ai_cw284 : Cond.code yX12_settle cX12_settle 4 (some .int) ∈ ai_Ts := ai_cw 9 82 rfl rfl
theorem ai_cw285 : Cond.code yX12_lateOf cX12_lateOf 3 (some .int) ∈ ai_Ts := ai_cw 9 90 rfl rfl
theorem ai_cw286 : Cond.code yX12_late cX12_late 4 (some .int) ∈ ai_Ts := ai_cw 9 86 rfl rfl
theorem ai_cw287 : Cond.code yX12_listed cX12_listed 4 (some .int) ∈ ai_Ts := ai_cw 9 102 rfl rfl
theorem ai_cw288 : Cond.code yX12_areTaps cX12_areTaps 3 (some .boolean) ∈ ai_Ts := ai_cw 9 98 rfl rfl
theorem ai_cw289 : Cond.code yX12_round cX12_round 9 (some .int) ∈ ai_Ts := ai_cw 9 94 rfl rfl
theorem ai_cw290 : Cond.code yX12_goesOn cX12_goesOn 7 (some .boolean) ∈ ai_Ts := ai_cw 9 114 rfl rfl
theorem ai_cw291 : Cond.code yX12_frostOf cX12_frostOf 9 (some .int) ∈ ai_Ts := ai_cw 9 110 rfl rfl
theorem ai_cw292 : Cond.code yX12_frost cX12_frost 10 (some .int) ∈ ai_Ts := ai_cw 9 106 rfl rfl
theorem ai_cw293 : Cond.code yX12_horse cX12_horse 10 (some .int) ∈ ai_Ts := ai_cw 9 118 rfl rfl
theorem ai_cw294 : Cond.code yX12_stations cX12_stations 9 (some .int) ∈ ai_Ts := ai_cw 9 122 rfl rfl
theorem ai_cw295 : Cond.code yX12_chanceOf cX12_chanceOf 5 (some .int) ∈ ai_Ts := ai_cw 9 137 rfl rfl
theorem ai_cw296 : Cond.code yX12_isAsked cX12_isAsked 6 (some .boolean) ∈ ai_Ts := ai_cw 9 141 rfl rfl
theorem ai_cw297 : Cond.code yX12_areDays cX12_areDays 3 (some .boolean) ∈ ai_Ts := ai_cw 9 129 rfl rfl
theorem ai_cw298 : Cond.code yX12_expected cX12_expected 8 (some .int) ∈ ai_Ts := ai_cw 9 133 rfl rfl
theorem ai_cw299 : Cond.code yX12_beside cX12_beside 9 (some .int) ∈ ai_Ts := ai_cw 9 126 rfl rfl
theorem ai_cw300 : Cond.code yX12_hurts cX12_hurts 9 (some .int) ∈ ai_Ts := ai_cw 9 145 rfl rfl
theorem ai_cw301 : Cond.code yX12_stoneOf cX12_stoneOf 6 (some .int) ∈ ai_Ts := ai_cw 9 153 rfl rfl
theorem ai_cw302 : Cond.code yX12_wears cX12_wears 4 (some .int) ∈ ai_Ts := ai_cw 9 149 rfl rfl
theorem ai_cw303 : Cond.code yX12_gone cX12_gone 3 (some .int) ∈ ai_Ts := ai_cw 9 157 rfl rfl
theorem ai_cw304 : Cond.code yX12_watch cX12_watch 9 (some .int) ∈ ai_Ts := ai_cw 9 162 rfl rfl
theorem ai_cw305 : Cond.code yX12_bottlesOf cX12_bottlesOf 7 (some .int) ∈ ai_Ts := ai_cw 9 170 rfl rfl
theorem ai_cw306 : Cond.code yX12_filled cX12_filled 5 (some .int) ∈ ai_Ts := ai_cw 9 166 rfl rfl
theorem ai_cw307 : Cond.code yX12_busiest cX12_busiest 8 (some .int) ∈ ai_Ts := ai_cw 9 174 rfl rfl
theorem ai_cw308 : Cond.code yX12_banned cX12_banned 6 (some .int) ∈ ai_Ts := ai_cw 9 178 rfl rfl
theorem ai_cw309 : Cond.code yX12_jobsSo cX12_jobsSo 4 (some .int) ∈ ai_Ts := ai_cw 9 186 rfl rfl
theorem ai_cw310 : Cond.code yX12_names cX12_names 3 (some .int) ∈ ai_Ts := ai_cw 9 190 rfl rfl
theorem ai_cw311 : Cond.code yX12_count cX12_count 2 (some .int) ∈ ai_Ts := ai_cw 9 182 rfl rfl
theorem ai_cw312 : Cond.code yJ6_bitCount_0f7a4 cJ6_bitCount_0f7a4 1 (some .int) ∈ ai_Ts := ai_cw 4 136 rfl rfl
theorem ai_cw313 : Cond.code yJ9_floorMod_7cf53 cJ9_floorMod_7cf53 3 (some .int) ∈ ai_Ts := ai_cw 6 47 rfl rfl
theorem ai_cw314 : Cond.code yJ0_length_8abf5 cJ0_length_8abf5 1 (some .int) ∈ ai_Ts := ai_cw 3 227 rfl rfl
theorem ai_cw315 : Cond.code yJ0_charAt_5068e cJ0_charAt_5068e 2 (some .char) ∈ ai_Ts := ai_cw 3 237 rfl rfl
theorem ai_cw316 : Cond.code yJ0_coder_7d493 cJ0_coder_7d493 1 (some .byte) ∈ ai_Ts := ai_cw 3 231 rfl rfl
theorem ai_cw317 : Cond.code yJ0_isLatin1_aae02 cJ0_isLatin1_aae02 1 (some .boolean) ∈ ai_Ts := ai_cw 4 1 rfl rfl
theorem ai_cw318 : Cond.code yJ0_checkIndex_df160 cJ0_checkIndex_df160 2 none ∈ ai_Ts := ai_cw 4 7 rfl rfl
theorem ai_cw319 : Cond.code yJ1_charAt_3b067 cJ1_charAt_3b067 2 (some .char) ∈ ai_Ts := ai_cw 4 4 rfl rfl
theorem ai_cw320 : Cond.code yJ2_getChar_3b067 cJ2_getChar_3b067 2 (some .char) ∈ ai_Ts := ai_cw 4 25 rfl rfl
theorem ai_cw321 : Cond.code yJ2_length_9d52b cJ2_length_9d52b 1 (some .int) ∈ ai_Ts := ai_cw 4 21 rfl rfl
theorem ai_cw322 : Cond.code yJ2_charAt_3b067 cJ2_charAt_3b067 2 (some .char) ∈ ai_Ts := ai_cw 4 15 rfl rfl
theorem ai_cw323 : Cond.code yJ2_checkIndex_2214a cJ2_checkIndex_2214a 2 none ∈ ai_Ts := ai_cw 4 18 rfl rfl
theorem ai_cw324 : Cond.code yJ7_fill_53178 cJ7_fill_53178 4 none ∈ ai_Ts := ai_cw 5 223 rfl rfl
theorem ai_cw325 : Cond.code yJ7_copyOf_59c91 cJ7_copyOf_59c91 3 (some (.array .int)) ∈ ai_Ts := ai_cw 4 75 rfl rfl
theorem ai_cw326 : Cond.code yJ3_checkIndex_8e157 cJ3_checkIndex_8e157 3 (some .int) ∈ ai_Ts := ai_cw 4 12 rfl rfl
def ai_yk0 : List (Nat × ai_Yk) := [(0, (0, 2, (1, 40), (1, 3), (1, 39), (0, 0), 0)), (1, (1, 0, (3, 58), (1, 3), (3, 56), (3, 57), 0)), (2, (5, 0, (3, 70), (1, 3), (3, 68), (3, 69), 0)), (3, (1, 0, (3, 78), (1, 3), (3, 76), (3, 77), 0)), (4, (1, 0, (3, 86), (1, 3), (3, 84), (3, 85), 0)), (5, (1, 0, (5, 115), (1, 3), (5, 113), (5, 114), 0)), (6, (3, 0, (5, 45), (1, 3), (5, 43), (5, 44), 0)), (7, (3, 0, (5, 64), (1, 3), (5, 62), (5, 63), 0)), (8, (3, 0, (5, 191), (1, 3), (5, 189), (5, 190), 0)), (9, (3, 0, (5, 81), (1, 3), (5, 79), (5, 80), 0)), (10, (2, 0, (5, 200), (1, 3), (5, 198), (5, 199), 0)), (11, (1, 0, (6, 80), (1, 3), (6, 78), (6, 79), 0)), (12, (0, 2, (2, 200), (1, 12), (2, 199), (0, 0), 1)), (13, (4, 0, (5, 76), (1, 12), (5, 74), (5, 75), 1)), (14, (0, 0, (5, 86), (1, 12), (5, 84), (5, 85), 1)), (15, (4, 0, (5, 90), (1, 12), (5, 89), (0, 32), 1)), (16, (0, 0, (5, 94), (1, 12), (5, 92), (5, 93), 1)), (17, (3, 0, (5, 98), (1, 12), (5, 97), (0, 33), 1)), (18, (0, 2, (1, 112), (1, 4), (1, 111), (0, 0), 2)), (19, (1, 0, (6, 85), (1, 4), (6, 83), (6, 84), 2)), (20, (0, 2, (1, 213), (1, 7), (1, 212), (0, 0), 3)), (21, (4, 0, (4, 155), (1, 7), (4, 153), (4, 154), 3)), (22, (2, 0, (5, 8), (1, 7), (5, 6), (5, 7), 3)), (23, (1, 0, (5, 4), (1, 7), (5, 2), (5, 3), 3)), (24, (0, 0, (6, 109), (1, 7), (6, 107), (6, 108), 3)), (25, (0, 0, (6, 113), (1, 7), (6, 111), (6, 112), 3)), (26, (2, 0, (6, 22), (1, 7), (6, 21), (0, 47), 3)), (27, (2, 0, (6, 18), (1, 7), (6, 16), (6, 17), 3)), (28, (2, 0, (6, 35), (1, 7), (6, 33), (6, 34), 3)), (29, (1, 0, (6, 96), (1, 7), (6, 94), (6, 95), 3))]
set_option maxRecDepth 100000 in
theorem ai_yk0_c : ∀ q ∈ ai_yk0, Cond.code (ai_y q.1).1 (ai_y q.1).2.1 (ai_y q.1).2.2.1 (ai_y q.1).2.2.2 ∈ ai_Ts := List.forall_mem_cons.mpr ⟨ai_cw0, List.forall_mem_cons.mpr ⟨ai_cw1, List.forall_mem_cons.mpr ⟨ai_cw2, List.forall_mem_cons.mpr ⟨ai_cw3, List.forall_mem_cons.mpr ⟨ai_cw4, List.forall_mem_cons.mpr ⟨ai_cw5, List.forall_mem_cons.mpr ⟨ai_cw6, List.forall_mem_cons.mpr ⟨ai_cw7, List.forall_mem_cons.mpr ⟨ai_cw8, List.forall_mem_cons.mpr ⟨ai_cw9, List.forall_mem_cons.mpr ⟨ai_cw10, List.forall_mem_cons.mpr ⟨ai_cw11, List.forall_mem_cons.mpr ⟨ai_cw12, List.forall_mem_cons.mpr ⟨ai_cw13, List.forall_mem_cons.mpr ⟨ai_cw14, List.forall_mem_cons.mpr ⟨ai_cw15, List.forall_mem_cons.mpr ⟨ai_cw16, List.forall_mem_cons.mpr ⟨ai_cw17, List.forall_mem_cons.mpr ⟨ai_cw18, List.forall_mem_cons.mpr ⟨ai_cw19, List.forall_mem_cons.mpr ⟨ai_cw20, List.forall_mem_cons.mpr ⟨ai_cw21, List.forall_mem_cons.mpr ⟨ai_cw22, List.forall_mem_cons.mpr ⟨ai_cw23, List.forall_mem_cons.mpr ⟨ai_cw24, List.forall_mem_cons.mpr ⟨ai_cw25, List.forall_mem_cons.mpr ⟨ai_cw26, List.forall_mem_cons.mpr ⟨ai_cw27, List.forall_mem_cons.mpr ⟨ai_cw28, List.forall_mem_cons.mpr ⟨ai_cw29, fun _ h => absurd h List.not_mem_nil⟩⟩⟩⟩⟩⟩⟩⟩⟩⟩⟩⟩⟩⟩⟩⟩⟩⟩⟩⟩⟩⟩⟩⟩⟩⟩⟩⟩⟩⟩
set_option maxRecDepth 100000 in
theorem ai_yk0_ok : ai_yk0.all (fun q => ai_yc q.1 q.2) = true := by decide +kernel
def ai_yk1 : List (Nat × ai_Yk) := [(30, (4, 2, (2, 232), (1, 13), (2, 231), (0, 0), 4)), (31, (3, 1, (4, 66), (1, 13), (4, 65), (0, 0), 4)), (32, (0, 0, (4, 97), (1, 13), (4, 95), (4, 96), 4)), (33, (2, 0, (4, 192), (1, 13), (4, 190), (4, 191), 4)), (34, (3, 0, (4, 196), (1, 13), (4, 195), (0, 24), 4)), (35, (2, 1, (4, 199), (1, 13), (4, 198), (0, 0), 4)), (36, (1, 2, (1, 118), (1, 5), (1, 117), (0, 0), 5)), (37, (4, 0, (3, 114), (1, 5), (3, 112), (3, 113), 5)), (38, (4, 0, (5, 111), (1, 5), (5, 109), (5, 110), 5)), (39, (3, 0, (4, 183), (1, 5), (4, 181), (4, 182), 5)), (40, (3, 0, (4, 187), (1, 5), (4, 185), (4, 186), 5)), (41, (2, 0, (5, 41), (1, 5), (5, 39), (5, 40), 5)), (42, (1, 0, (6, 89), (1, 5), (6, 87), (6, 88), 5)), (43, (0, 2, (2, 127), (1, 10), (2, 126), (0, 0), 6)), (44, (2, 0, (4, 120), (1, 10), (4, 118), (4, 119), 6)), (45, (3, 0, (4, 133), (1, 10), (4, 131), (4, 132), 6)), (46, (2, 0, (4, 125), (1, 10), (4, 124), (0, 18), 6)), (47, (1, 0, (6, 117), (1, 10), (6, 115), (6, 116), 6)), (48, (3, 0, (5, 219), (1, 10), (5, 217), (5, 218), 6)), (49, (2, 0, (5, 227), (1, 10), (5, 226), (0, 44), 6)), (50, (0, 2, (2, 28), (1, 8), (2, 27), (0, 0), 7)), (51, (0, 0, (3, 188), (1, 8), (3, 186), (3, 187), 7)), (52, (1, 0, (3, 200), (1, 8), (3, 198), (3, 199), 7)), (53, (1, 0, (3, 192), (1, 8), (3, 190), (3, 191), 7)), (54, (2, 0, (4, 116), (1, 8), (4, 114), (4, 115), 7)), (55, (2, 0, (3, 204), (1, 8), (3, 202), (3, 203), 7)), (56, (2, 0, (4, 39), (1, 8), (4, 38), (0, 9), 7)), (57, (1, 0, (3, 208), (1, 8), (3, 207), (0, 5), 7)), (58, (1, 0, (4, 43), (1, 8), (4, 42), (0, 10), 7)), (59, (1, 0, (4, 47), (1, 8), (4, 46), (0, 11), 7))]
set_option maxRecDepth 100000 in
theorem ai_yk1_c : ∀ q ∈ ai_yk1, Cond.code (ai_y q.1).1 (ai_y q.1).2.1 (ai_y q.1).2.2.1 (ai_y q.1).2.2.2 ∈ ai_Ts := List.forall_mem_cons.mpr ⟨ai_cw30, List.forall_mem_cons.mpr ⟨ai_cw31, List.forall_mem_cons.mpr ⟨ai_cw32, List.forall_mem_cons.mpr ⟨ai_cw33, List.forall_mem_cons.mpr ⟨ai_cw34, List.forall_mem_cons.mpr ⟨ai_cw35, List.forall_mem_cons.mpr ⟨ai_cw36, List.forall_mem_cons.mpr ⟨ai_cw37, List.forall_mem_cons.mpr ⟨ai_cw38, List.forall_mem_cons.mpr ⟨ai_cw39, List.forall_mem_cons.mpr ⟨ai_cw40, List.forall_mem_cons.mpr ⟨ai_cw41, List.forall_mem_cons.mpr ⟨ai_cw42, List.forall_mem_cons.mpr ⟨ai_cw43, List.forall_mem_cons.mpr ⟨ai_cw44, List.forall_mem_cons.mpr ⟨ai_cw45, List.forall_mem_cons.mpr ⟨ai_cw46, List.forall_mem_cons.mpr ⟨ai_cw47, List.forall_mem_cons.mpr ⟨ai_cw48, List.forall_mem_cons.mpr ⟨ai_cw49, List.forall_mem_cons.mpr ⟨ai_cw50, List.forall_mem_cons.mpr ⟨ai_cw51, List.forall_mem_cons.mpr ⟨ai_cw52, List.forall_mem_cons.mpr ⟨ai_cw53, List.forall_mem_cons.mpr ⟨ai_cw54, List.forall_mem_cons.mpr ⟨ai_cw55, List.forall_mem_cons.mpr ⟨ai_cw56, List.forall_mem_cons.mpr ⟨ai_cw57, List.forall_mem_cons.mpr ⟨ai_cw58, List.forall_mem_cons.mpr ⟨ai_cw59, fun _ h => absurd h List.not_mem_nil⟩⟩⟩⟩⟩⟩⟩⟩⟩⟩⟩⟩⟩⟩⟩⟩⟩⟩⟩⟩⟩⟩⟩⟩⟩⟩⟩⟩⟩⟩
set_option maxRecDepth 100000 in
theorem ai_yk1_ok : ai_yk1.all (fun q => ai_yc q.1 q.2) = true := by decide +kernel
def ai_yk2 : List (Nat × ai_Yk) := [(60, (1, 0, (4, 51), (1, 8), (4, 50), (0, 12), 7)), (61, (0, 0, (4, 59), (1, 8), (4, 58), (0, 14), 7)), (62, (1, 0, (4, 71), (1, 8), (4, 70), (0, 16), 7)), (63, (2, 0, (3, 218), (1, 8), (3, 217), (0, 6), 7)), (64, (2, 0, (3, 222), (1, 8), (3, 221), (0, 7), 7)), (65, (0, 0, (4, 63), (1, 8), (4, 62), (0, 15), 7)), (66, (1, 1, (3, 214), (1, 8), (3, 213), (0, 0), 7)), (67, (1, 0, (4, 55), (1, 8), (4, 54), (0, 13), 7)), (68, (0, 0, (4, 35), (1, 8), (4, 34), (0, 8), 7)), (70, (1, 1, (3, 211), (1, 8), (3, 210), (0, 0), 7)), (71, (0, 2, (1, 34), (1, 2), (1, 33), (0, 0), 8)), (72, (2, 0, (6, 76), (1, 2), (6, 74), (6, 75), 8)), (73, (0, 2, (2, 80), (1, 9), (2, 79), (0, 0), 9)), (74, (2, 0, (4, 108), (1, 9), (4, 106), (4, 107), 9)), (75, (3, 0, (4, 215), (1, 9), (4, 213), (4, 214), 9)), (76, (1, 0, (4, 219), (1, 9), (4, 217), (4, 218), 9)), (77, (3, 0, (4, 225), (1, 9), (4, 224), (0, 26), 9)), (78, (1, 0, (4, 236), (1, 9), (4, 234), (4, 235), 9)), (79, (0, 2, (2, 161), (1, 11), (2, 160), (0, 0), 10)), (80, (2, 0, (5, 156), (1, 11), (5, 155), (0, 39), 10)), (81, (3, 0, (5, 152), (1, 11), (5, 150), (5, 151), 10)), (82, (3, 0, (5, 161), (1, 11), (5, 160), (0, 40), 10)), (83, (5, 0, (5, 172), (1, 11), (5, 170), (5, 171), 10)), (84, (5, 0, (5, 178), (1, 11), (5, 177), (0, 41), 10)), (85, (0, 2, (1, 26), (1, 1), (1, 25), (0, 0), 11)), (86, (1, 0, (3, 47), (1, 1), (3, 45), (3, 46), 11)), (87, (5, 0, (3, 62), (1, 1), (3, 60), (3, 61), 11)), (88, (1, 0, (3, 74), (1, 1), (3, 72), (3, 73), 11)), (89, (1, 0, (3, 82), (1, 1), (3, 80), (3, 81), 11)), (90, (2, 0, (3, 90), (1, 1), (3, 88), (3, 89), 11))]
set_option maxRecDepth 100000 in
theorem ai_yk2_c : ∀ q ∈ ai_yk2, Cond.code (ai_y q.1).1 (ai_y q.1).2.1 (ai_y q.1).2.2.1 (ai_y q.1).2.2.2 ∈ ai_Ts := List.forall_mem_cons.mpr ⟨ai_cw60, List.forall_mem_cons.mpr ⟨ai_cw61, List.forall_mem_cons.mpr ⟨ai_cw62, List.forall_mem_cons.mpr ⟨ai_cw63, List.forall_mem_cons.mpr ⟨ai_cw64, List.forall_mem_cons.mpr ⟨ai_cw65, List.forall_mem_cons.mpr ⟨ai_cw66, List.forall_mem_cons.mpr ⟨ai_cw67, List.forall_mem_cons.mpr ⟨ai_cw68, List.forall_mem_cons.mpr ⟨ai_cw70, List.forall_mem_cons.mpr ⟨ai_cw71, List.forall_mem_cons.mpr ⟨ai_cw72, List.forall_mem_cons.mpr ⟨ai_cw73, List.forall_mem_cons.mpr ⟨ai_cw74, List.forall_mem_cons.mpr ⟨ai_cw75, List.forall_mem_cons.mpr ⟨ai_cw76, List.forall_mem_cons.mpr ⟨ai_cw77, List.forall_mem_cons.mpr ⟨ai_cw78, List.forall_mem_cons.mpr ⟨ai_cw79, List.forall_mem_cons.mpr ⟨ai_cw80, List.forall_mem_cons.mpr ⟨ai_cw81, List.forall_mem_cons.mpr ⟨ai_cw82, List.forall_mem_cons.mpr ⟨ai_cw83, List.forall_mem_cons.mpr ⟨ai_cw84, List.forall_mem_cons.mpr ⟨ai_cw85, List.forall_mem_cons.mpr ⟨ai_cw86, List.forall_mem_cons.mpr ⟨ai_cw87, List.forall_mem_cons.mpr ⟨ai_cw88, List.forall_mem_cons.mpr ⟨ai_cw89, List.forall_mem_cons.mpr ⟨ai_cw90, fun _ h => absurd h List.not_mem_nil⟩⟩⟩⟩⟩⟩⟩⟩⟩⟩⟩⟩⟩⟩⟩⟩⟩⟩⟩⟩⟩⟩⟩⟩⟩⟩⟩⟩⟩⟩
set_option maxRecDepth 100000 in
theorem ai_yk2_ok : ai_yk2.all (fun q => ai_yc q.1 q.2) = true := by decide +kernel
def ai_yk3 : List (Nat × ai_Yk) := [(91, (1, 0, (3, 98), (1, 1), (3, 96), (3, 97), 11)), (92, (3, 0, (3, 102), (1, 1), (3, 100), (3, 101), 11)), (93, (2, 0, (3, 118), (1, 1), (3, 116), (3, 117), 11)), (94, (3, 0, (3, 126), (1, 1), (3, 124), (3, 125), 11)), (95, (3, 0, (3, 130), (1, 1), (3, 128), (3, 129), 11)), (96, (3, 0, (3, 134), (1, 1), (3, 132), (3, 133), 11)), (97, (1, 0, (3, 138), (1, 1), (3, 136), (3, 137), 11)), (98, (2, 0, (3, 142), (1, 1), (3, 140), (3, 141), 11)), (99, (2, 0, (3, 146), (1, 1), (3, 144), (3, 145), 11)), (100, (2, 0, (3, 150), (1, 1), (3, 148), (3, 149), 11)), (101, (3, 0, (3, 154), (1, 1), (3, 152), (3, 153), 11)), (102, (3, 0, (3, 158), (1, 1), (3, 156), (3, 157), 11)), (103, (3, 0, (3, 162), (1, 1), (3, 160), (3, 161), 11)), (104, (3, 0, (3, 166), (1, 1), (3, 164), (3, 165), 11)), (105, (3, 0, (3, 170), (1, 1), (3, 168), (3, 169), 11)), (106, (1, 0, (3, 177), (1, 1), (3, 175), (3, 176), 11)), (107, (5, 0, (3, 184), (1, 1), (3, 182), (3, 183), 11)), (108, (1, 0, (3, 196), (1, 1), (3, 194), (3, 195), 11)), (109, (3, 0, (4, 102), (1, 1), (4, 100), (4, 101), 11)), (110, (1, 0, (4, 112), (1, 1), (4, 110), (4, 111), 11)), (111, (2, 0, (4, 129), (1, 1), (4, 127), (4, 128), 11)), (112, (0, 0, (4, 143), (1, 1), (4, 141), (4, 142), 11)), (113, (4, 0, (4, 147), (1, 1), (4, 145), (4, 146), 11)), (114, (2, 0, (4, 159), (1, 1), (4, 157), (4, 158), 11)), (115, (2, 0, (4, 167), (1, 1), (4, 165), (4, 166), 11)), (116, (3, 0, (4, 203), (1, 1), (4, 201), (4, 202), 11)), (117, (1, 0, (4, 207), (1, 1), (4, 205), (4, 206), 11)), (118, (0, 0, (4, 232), (1, 1), (4, 230), (4, 231), 11)), (119, (1, 0, (5, 0), (1, 1), (4, 238), (4, 239), 11)), (120, (3, 0, (5, 14), (1, 1), (5, 12), (5, 13), 11))]
set_option maxRecDepth 100000 in
theorem ai_yk3_c : ∀ q ∈ ai_yk3, Cond.code (ai_y q.1).1 (ai_y q.1).2.1 (ai_y q.1).2.2.1 (ai_y q.1).2.2.2 ∈ ai_Ts := List.forall_mem_cons.mpr ⟨ai_cw91, List.forall_mem_cons.mpr ⟨ai_cw92, List.forall_mem_cons.mpr ⟨ai_cw93, List.forall_mem_cons.mpr ⟨ai_cw94, List.forall_mem_cons.mpr ⟨ai_cw95, List.forall_mem_cons.mpr ⟨ai_cw96, List.forall_mem_cons.mpr ⟨ai_cw97, List.forall_mem_cons.mpr ⟨ai_cw98, List.forall_mem_cons.mpr ⟨ai_cw99, List.forall_mem_cons.mpr ⟨ai_cw100, List.forall_mem_cons.mpr ⟨ai_cw101, List.forall_mem_cons.mpr ⟨ai_cw102, List.forall_mem_cons.mpr ⟨ai_cw103, List.forall_mem_cons.mpr ⟨ai_cw104, List.forall_mem_cons.mpr ⟨ai_cw105, List.forall_mem_cons.mpr ⟨ai_cw106, List.forall_mem_cons.mpr ⟨ai_cw107, List.forall_mem_cons.mpr ⟨ai_cw108, List.forall_mem_cons.mpr ⟨ai_cw109, List.forall_mem_cons.mpr ⟨ai_cw110, List.forall_mem_cons.mpr ⟨ai_cw111, List.forall_mem_cons.mpr ⟨ai_cw112, List.forall_mem_cons.mpr ⟨ai_cw113, List.forall_mem_cons.mpr ⟨ai_cw114, List.forall_mem_cons.mpr ⟨ai_cw115, List.forall_mem_cons.mpr ⟨ai_cw116, List.forall_mem_cons.mpr ⟨ai_cw117, List.forall_mem_cons.mpr ⟨ai_cw118, List.forall_mem_cons.mpr ⟨ai_cw119, List.forall_mem_cons.mpr ⟨ai_cw120, fun _ h => absurd h List.not_mem_nil⟩⟩⟩⟩⟩⟩⟩⟩⟩⟩⟩⟩⟩⟩⟩⟩⟩⟩⟩⟩⟩⟩⟩⟩⟩⟩⟩⟩⟩⟩
set_option maxRecDepth 100000 in
theorem ai_yk3_ok : ai_yk3.all (fun q => ai_yc q.1 q.2) = true := by decide +kernel
def ai_yk4 : List (Nat × ai_Yk) := [(121, (4, 0, (5, 26), (1, 1), (5, 24), (5, 25), 11)), (122, (4, 0, (5, 56), (1, 1), (5, 54), (5, 55), 11)), (123, (4, 0, (5, 72), (1, 1), (5, 70), (5, 71), 11)), (124, (4, 0, (5, 102), (1, 1), (5, 100), (5, 101), 11)), (125, (3, 0, (5, 107), (1, 1), (5, 105), (5, 106), 11)), (126, (2, 0, (5, 119), (1, 1), (5, 117), (5, 118), 11)), (127, (4, 0, (5, 131), (1, 1), (5, 129), (5, 130), 11)), (128, (2, 0, (5, 144), (1, 1), (5, 142), (5, 143), 11)), (129, (4, 0, (5, 168), (1, 1), (5, 166), (5, 167), 11)), (130, (5, 0, (5, 182), (1, 1), (5, 180), (5, 181), 11)), (131, (5, 0, (5, 196), (1, 1), (5, 194), (5, 195), 11)), (132, (2, 0, (5, 207), (1, 1), (5, 205), (5, 206), 11)), (133, (2, 0, (5, 215), (1, 1), (5, 213), (5, 214), 11)), (134, (1, 0, (5, 231), (1, 1), (5, 229), (5, 230), 11)), (135, (4, 0, (5, 235), (1, 1), (5, 233), (5, 234), 11)), (136, (4, 0, (6, 6), (1, 1), (6, 4), (6, 5), 11)), (137, (2, 0, (6, 14), (1, 1), (6, 12), (6, 13), 11)), (138, (1, 0, (6, 31), (1, 1), (6, 29), (6, 30), 11)), (139, (3, 0, (6, 40), (1, 1), (6, 38), (6, 39), 11)), (140, (4, 0, (6, 51), (1, 1), (6, 49), (6, 50), 11)), (141, (4, 0, (6, 60), (1, 1), (6, 58), (6, 59), 11)), (142, (3, 0, (6, 68), (1, 1), (6, 66), (6, 67), 11)), (143, (0, 0, (6, 72), (1, 1), (6, 70), (6, 71), 11)), (144, (1, 0, (6, 101), (1, 1), (6, 99), (6, 100), 11)), (145, (1, 0, (6, 105), (1, 1), (6, 103), (6, 104), 11)), (146, (2, 1, (3, 54), (1, 1), (3, 53), (0, 0), 11)), (147, (1, 1, (3, 180), (1, 1), (3, 179), (0, 0), 11)), (148, (1, 1, (3, 65), (1, 1), (3, 64), (0, 0), 11)), (149, (3, 1, (5, 33), (1, 1), (5, 32), (0, 0), 11)), (150, (3, 1, (5, 238), (1, 1), (5, 237), (0, 0), 11))]
set_option maxRecDepth 100000 in
theorem ai_yk4_c : ∀ q ∈ ai_yk4, Cond.code (ai_y q.1).1 (ai_y q.1).2.1 (ai_y q.1).2.2.1 (ai_y q.1).2.2.2 ∈ ai_Ts := List.forall_mem_cons.mpr ⟨ai_cw121, List.forall_mem_cons.mpr ⟨ai_cw122, List.forall_mem_cons.mpr ⟨ai_cw123, List.forall_mem_cons.mpr ⟨ai_cw124, List.forall_mem_cons.mpr ⟨ai_cw125, List.forall_mem_cons.mpr ⟨ai_cw126, List.forall_mem_cons.mpr ⟨ai_cw127, List.forall_mem_cons.mpr ⟨ai_cw128, List.forall_mem_cons.mpr ⟨ai_cw129, List.forall_mem_cons.mpr ⟨ai_cw130, List.forall_mem_cons.mpr ⟨ai_cw131, List.forall_mem_cons.mpr ⟨ai_cw132, List.forall_mem_cons.mpr ⟨ai_cw133, List.forall_mem_cons.mpr ⟨ai_cw134, List.forall_mem_cons.mpr ⟨ai_cw135, List.forall_mem_cons.mpr ⟨ai_cw136, List.forall_mem_cons.mpr ⟨ai_cw137, List.forall_mem_cons.mpr ⟨ai_cw138, List.forall_mem_cons.mpr ⟨ai_cw139, List.forall_mem_cons.mpr ⟨ai_cw140, List.forall_mem_cons.mpr ⟨ai_cw141, List.forall_mem_cons.mpr ⟨ai_cw142, List.forall_mem_cons.mpr ⟨ai_cw143, List.forall_mem_cons.mpr ⟨ai_cw144, List.forall_mem_cons.mpr ⟨ai_cw145, List.forall_mem_cons.mpr ⟨ai_cw146, List.forall_mem_cons.mpr ⟨ai_cw147, List.forall_mem_cons.mpr ⟨ai_cw148, List.forall_mem_cons.mpr ⟨ai_cw149, List.forall_mem_cons.mpr ⟨ai_cw150, fun _ h => absurd h List.not_mem_nil⟩⟩⟩⟩⟩⟩⟩⟩⟩⟩⟩⟩⟩⟩⟩⟩⟩⟩⟩⟩⟩⟩⟩⟩⟩⟩⟩⟩⟩⟩
set_option maxRecDepth 100000 in
theorem ai_yk4_ok : ai_yk4.all (fun q => ai_yc q.1 q.2) = true := by decide +kernel
def ai_yk5 : List (Nat × ai_Yk) := [(151, (1, 0, (3, 110), (1, 1), (3, 109), (0, 3), 11)), (152, (1, 0, (3, 51), (1, 1), (3, 50), (0, 0), 11)), (153, (1, 0, (3, 94), (1, 1), (3, 93), (0, 1), 11)), (154, (1, 0, (5, 30), (1, 1), (5, 29), (0, 29), 11)), (155, (1, 0, (4, 163), (1, 1), (4, 162), (0, 20), 11)), (156, (3, 0, (4, 151), (1, 1), (4, 150), (0, 19), 11)), (157, (1, 0, (5, 211), (1, 1), (5, 210), (0, 43), 11)), (158, (2, 0, (5, 148), (1, 1), (5, 147), (0, 38), 11)), (159, (2, 1, (3, 173), (1, 1), (3, 172), (0, 0), 11)), (160, (2, 1, (5, 67), (1, 1), (5, 66), (0, 0), 11)), (161, (3, 1, (5, 203), (1, 1), (5, 202), (0, 0), 11)), (162, (2, 1, (5, 49), (1, 1), (5, 48), (0, 0), 11)), (163, (4, 0, (3, 106), (1, 1), (3, 105), (0, 2), 11)), (164, (3, 0, (3, 122), (1, 1), (3, 121), (0, 4), 11)), (165, (1, 0, (4, 93), (1, 1), (4, 92), (0, 17), 11)), (166, (3, 0, (5, 18), (1, 1), (5, 17), (0, 27), 11)), (167, (2, 0, (5, 187), (1, 1), (5, 186), (0, 42), 11)), (168, (4, 0, (4, 179), (1, 1), (4, 178), (0, 23), 11)), (169, (3, 0, (5, 22), (1, 1), (5, 21), (0, 28), 11)), (170, (3, 0, (5, 37), (1, 1), (5, 36), (0, 30), 11)), (171, (3, 0, (5, 60), (1, 1), (5, 59), (0, 31), 11)), (172, (1, 0, (5, 123), (1, 1), (5, 122), (0, 34), 11)), (173, (3, 0, (5, 127), (1, 1), (5, 126), (0, 35), 11)), (174, (3, 0, (5, 140), (1, 1), (5, 139), (0, 37), 11)), (175, (3, 0, (5, 136), (1, 1), (5, 135), (0, 36), 11)), (176, (3, 0, (4, 175), (1, 1), (4, 174), (0, 22), 11)), (177, (1, 0, (4, 171), (1, 1), (4, 170), (0, 21), 11)), (178, (0, 0, (4, 211), (1, 1), (4, 210), (0, 25), 11)), (179, (3, 0, (6, 2), (1, 1), (6, 1), (0, 45), 11)), (180, (3, 0, (6, 10), (1, 1), (6, 9), (0, 46), 11))]
set_option maxRecDepth 100000 in
theorem ai_yk5_c : ∀ q ∈ ai_yk5, Cond.code (ai_y q.1).1 (ai_y q.1).2.1 (ai_y q.1).2.2.1 (ai_y q.1).2.2.2 ∈ ai_Ts := List.forall_mem_cons.mpr ⟨ai_cw151, List.forall_mem_cons.mpr ⟨ai_cw152, List.forall_mem_cons.mpr ⟨ai_cw153, List.forall_mem_cons.mpr ⟨ai_cw154, List.forall_mem_cons.mpr ⟨ai_cw155, List.forall_mem_cons.mpr ⟨ai_cw156, List.forall_mem_cons.mpr ⟨ai_cw157, List.forall_mem_cons.mpr ⟨ai_cw158, List.forall_mem_cons.mpr ⟨ai_cw159, List.forall_mem_cons.mpr ⟨ai_cw160, List.forall_mem_cons.mpr ⟨ai_cw161, List.forall_mem_cons.mpr ⟨ai_cw162, List.forall_mem_cons.mpr ⟨ai_cw163, List.forall_mem_cons.mpr ⟨ai_cw164, List.forall_mem_cons.mpr ⟨ai_cw165, List.forall_mem_cons.mpr ⟨ai_cw166, List.forall_mem_cons.mpr ⟨ai_cw167, List.forall_mem_cons.mpr ⟨ai_cw168, List.forall_mem_cons.mpr ⟨ai_cw169, List.forall_mem_cons.mpr ⟨ai_cw170, List.forall_mem_cons.mpr ⟨ai_cw171, List.forall_mem_cons.mpr ⟨ai_cw172, List.forall_mem_cons.mpr ⟨ai_cw173, List.forall_mem_cons.mpr ⟨ai_cw174, List.forall_mem_cons.mpr ⟨ai_cw175, List.forall_mem_cons.mpr ⟨ai_cw176, List.forall_mem_cons.mpr ⟨ai_cw177, List.forall_mem_cons.mpr ⟨ai_cw178, List.forall_mem_cons.mpr ⟨ai_cw179, List.forall_mem_cons.mpr ⟨ai_cw180, fun _ h => absurd h List.not_mem_nil⟩⟩⟩⟩⟩⟩⟩⟩⟩⟩⟩⟩⟩⟩⟩⟩⟩⟩⟩⟩⟩⟩⟩⟩⟩⟩⟩⟩⟩⟩
set_option maxRecDepth 100000 in
theorem ai_yk5_ok : ai_yk5.all (fun q => ai_yc q.1 q.2) = true := by decide +kernel
def ai_yk6 : List (Nat × ai_Yk) := [(181, (1, 0, (6, 26), (1, 1), (6, 25), (0, 48), 11)), (182, (3, 0, (6, 44), (1, 1), (6, 43), (0, 49), 11)), (183, (3, 0, (6, 55), (1, 1), (6, 54), (0, 50), 11)), (184, (1, 0, (6, 64), (1, 1), (6, 63), (0, 51), 11)), (185, (0, 2, (6, 122), (1, 14), (6, 121), (0, 0), 12)), (186, (3, 1, (7, 161), (1, 14), (7, 160), (0, 0), 12)), (187, (1, 1, (8, 177), (1, 14), (8, 176), (0, 0), 12)), (188, (1, 1, (7, 176), (1, 14), (7, 175), (0, 0), 12)), (189, (2, 1, (8, 231), (1, 14), (8, 230), (0, 0), 12)), (190, (2, 1, (8, 228), (1, 14), (8, 227), (0, 0), 12)), (191, (1, 1, (9, 14), (1, 14), (9, 13), (0, 0), 12)), (192, (2, 0, (7, 154), (1, 14), (7, 153), (0, 52), 12)), (193, (0, 0, (7, 150), (1, 14), (7, 148), (7, 149), 12)), (194, (1, 0, (7, 158), (1, 14), (7, 156), (7, 157), 12)), (195, (1, 0, (7, 201), (1, 14), (7, 200), (0, 54), 12)), (196, (1, 0, (7, 169), (1, 14), (7, 168), (0, 53), 12)), (197, (1, 0, (8, 213), (1, 14), (8, 212), (0, 85), 12)), (198, (1, 0, (7, 165), (1, 14), (7, 163), (7, 164), 12)), (199, (5, 0, (7, 173), (1, 14), (7, 171), (7, 172), 12)), (200, (1, 0, (7, 181), (1, 14), (7, 179), (7, 180), 12)), (201, (1, 0, (7, 185), (1, 14), (7, 183), (7, 184), 12)), (202, (1, 0, (7, 189), (1, 14), (7, 187), (7, 188), 12)), (203, (2, 0, (7, 193), (1, 14), (7, 191), (7, 192), 12)), (204, (2, 0, (7, 197), (1, 14), (7, 195), (7, 196), 12)), (205, (1, 0, (7, 205), (1, 14), (7, 203), (7, 204), 12)), (206, (1, 0, (7, 209), (1, 14), (7, 207), (7, 208), 12)), (207, (1, 0, (7, 221), (1, 14), (7, 220), (0, 56), 12)), (208, (5, 0, (7, 217), (1, 14), (7, 216), (0, 55), 12)), (209, (3, 0, (7, 213), (1, 14), (7, 211), (7, 212), 12)), (210, (2, 0, (7, 225), (1, 14), (7, 223), (7, 224), 12))]
set_option maxRecDepth 100000 in
theorem ai_yk6_c : ∀ q ∈ ai_yk6, Cond.code (ai_y q.1).1 (ai_y q.1).2.1 (ai_y q.1).2.2.1 (ai_y q.1).2.2.2 ∈ ai_Ts := List.forall_mem_cons.mpr ⟨ai_cw181, List.forall_mem_cons.mpr ⟨ai_cw182, List.forall_mem_cons.mpr ⟨ai_cw183, List.forall_mem_cons.mpr ⟨ai_cw184, List.forall_mem_cons.mpr ⟨ai_cw185, List.forall_mem_cons.mpr ⟨ai_cw186, List.forall_mem_cons.mpr ⟨ai_cw187, List.forall_mem_cons.mpr ⟨ai_cw188, List.forall_mem_cons.mpr ⟨ai_cw189, List.forall_mem_cons.mpr ⟨ai_cw190, List.forall_mem_cons.mpr ⟨ai_cw191, List.forall_mem_cons.mpr ⟨ai_cw192, List.forall_mem_cons.mpr ⟨ai_cw193, List.forall_mem_cons.mpr ⟨ai_cw194, List.forall_mem_cons.mpr ⟨ai_cw195, List.forall_mem_cons.mpr ⟨ai_cw196, List.forall_mem_cons.mpr ⟨ai_cw197, List.forall_mem_cons.mpr ⟨ai_cw198, List.forall_mem_cons.mpr ⟨ai_cw199, List.forall_mem_cons.mpr ⟨ai_cw200, List.forall_mem_cons.mpr ⟨ai_cw201, List.forall_mem_cons.mpr ⟨ai_cw202, List.forall_mem_cons.mpr ⟨ai_cw203, List.forall_mem_cons.mpr ⟨ai_cw204, List.forall_mem_cons.mpr ⟨ai_cw205, List.forall_mem_cons.mpr ⟨ai_cw206, List.forall_mem_cons.mpr ⟨ai_cw207, List.forall_mem_cons.mpr ⟨ai_cw208, List.forall_mem_cons.mpr ⟨ai_cw209, List.forall_mem_cons.mpr ⟨ai_cw210, fun _ h => absurd h List.not_mem_nil⟩⟩⟩⟩⟩⟩⟩⟩⟩⟩⟩⟩⟩⟩⟩⟩⟩⟩⟩⟩⟩⟩⟩⟩⟩⟩⟩⟩⟩⟩
set_option maxRecDepth 100000 in
theorem ai_yk6_ok : ai_yk6.all (fun q => ai_yc q.1 q.2) = true := by decide +kernel
def ai_yk7 : List (Nat × ai_Yk) := [(211, (3, 0, (7, 229), (1, 14), (7, 227), (7, 228), 12)), (212, (3, 0, (7, 233), (1, 14), (7, 231), (7, 232), 12)), (213, (3, 0, (7, 237), (1, 14), (7, 235), (7, 236), 12)), (214, (2, 0, (8, 1), (1, 14), (7, 239), (8, 0), 12)), (215, (2, 0, (8, 5), (1, 14), (8, 3), (8, 4), 12)), (216, (3, 0, (8, 9), (1, 14), (8, 7), (8, 8), 12)), (217, (3, 0, (8, 13), (1, 14), (8, 11), (8, 12), 12)), (218, (3, 0, (8, 17), (1, 14), (8, 15), (8, 16), 12)), (219, (3, 0, (8, 21), (1, 14), (8, 19), (8, 20), 12)), (220, (3, 0, (8, 25), (1, 14), (8, 23), (8, 24), 12)), (221, (5, 0, (8, 185), (1, 14), (8, 184), (0, 79), 12)), (222, (3, 0, (8, 181), (1, 14), (8, 180), (0, 78), 12)), (223, (3, 0, (8, 197), (1, 14), (8, 196), (0, 82), 12)), (224, (5, 0, (8, 29), (1, 14), (8, 27), (8, 28), 12)), (225, (0, 0, (8, 49), (1, 14), (8, 48), (0, 60), 12)), (226, (0, 0, (8, 45), (1, 14), (8, 44), (0, 59), 12)), (227, (0, 0, (8, 60), (1, 14), (8, 59), (0, 62), 12)), (228, (1, 0, (8, 66), (1, 14), (8, 65), (0, 63), 12)), (229, (0, 0, (8, 92), (1, 14), (8, 91), (0, 67), 12)), (230, (0, 0, (8, 72), (1, 14), (8, 71), (0, 64), 12)), (231, (4, 0, (8, 101), (1, 14), (8, 100), (0, 68), 12)), (232, (0, 0, (8, 88), (1, 14), (8, 87), (0, 66), 12)), (233, (0, 0, (8, 105), (1, 14), (8, 104), (0, 69), 12)), (234, (0, 0, (8, 83), (1, 14), (8, 82), (0, 65), 12)), (235, (1, 0, (8, 56), (1, 14), (8, 55), (0, 61), 12)), (236, (1, 0, (8, 41), (1, 14), (8, 40), (0, 58), 12)), (237, (3, 0, (8, 37), (1, 14), (8, 36), (0, 57), 12)), (238, (0, 0, (8, 111), (1, 14), (8, 110), (0, 70), 12)), (239, (1, 0, (8, 33), (1, 14), (8, 31), (8, 32), 12)), (240, (3, 0, (8, 115), (1, 14), (8, 113), (8, 114), 12))]
set_option maxRecDepth 100000 in
theorem ai_yk7_c : ∀ q ∈ ai_yk7, Cond.code (ai_y q.1).1 (ai_y q.1).2.1 (ai_y q.1).2.2.1 (ai_y q.1).2.2.2 ∈ ai_Ts := List.forall_mem_cons.mpr ⟨ai_cw211, List.forall_mem_cons.mpr ⟨ai_cw212, List.forall_mem_cons.mpr ⟨ai_cw213, List.forall_mem_cons.mpr ⟨ai_cw214, List.forall_mem_cons.mpr ⟨ai_cw215, List.forall_mem_cons.mpr ⟨ai_cw216, List.forall_mem_cons.mpr ⟨ai_cw217, List.forall_mem_cons.mpr ⟨ai_cw218, List.forall_mem_cons.mpr ⟨ai_cw219, List.forall_mem_cons.mpr ⟨ai_cw220, List.forall_mem_cons.mpr ⟨ai_cw221, List.forall_mem_cons.mpr ⟨ai_cw222, List.forall_mem_cons.mpr ⟨ai_cw223, List.forall_mem_cons.mpr ⟨ai_cw224, List.forall_mem_cons.mpr ⟨ai_cw225, List.forall_mem_cons.mpr ⟨ai_cw226, List.forall_mem_cons.mpr ⟨ai_cw227, List.forall_mem_cons.mpr ⟨ai_cw228, List.forall_mem_cons.mpr ⟨ai_cw229, List.forall_mem_cons.mpr ⟨ai_cw230, List.forall_mem_cons.mpr ⟨ai_cw231, List.forall_mem_cons.mpr ⟨ai_cw232, List.forall_mem_cons.mpr ⟨ai_cw233, List.forall_mem_cons.mpr ⟨ai_cw234, List.forall_mem_cons.mpr ⟨ai_cw235, List.forall_mem_cons.mpr ⟨ai_cw236, List.forall_mem_cons.mpr ⟨ai_cw237, List.forall_mem_cons.mpr ⟨ai_cw238, List.forall_mem_cons.mpr ⟨ai_cw239, List.forall_mem_cons.mpr ⟨ai_cw240, fun _ h => absurd h List.not_mem_nil⟩⟩⟩⟩⟩⟩⟩⟩⟩⟩⟩⟩⟩⟩⟩⟩⟩⟩⟩⟩⟩⟩⟩⟩⟩⟩⟩⟩⟩⟩
set_option maxRecDepth 100000 in
theorem ai_yk7_ok : ai_yk7.all (fun q => ai_yc q.1 q.2) = true := by decide +kernel
def ai_yk8 : List (Nat × ai_Yk) := [(241, (0, 0, (8, 121), (1, 14), (8, 119), (8, 120), 12)), (242, (1, 0, (8, 205), (1, 14), (8, 204), (0, 84), 12)), (243, (4, 0, (8, 193), (1, 14), (8, 192), (0, 81), 12)), (244, (2, 0, (8, 201), (1, 14), (8, 200), (0, 83), 12)), (245, (3, 0, (8, 189), (1, 14), (8, 188), (0, 80), 12)), (246, (2, 0, (8, 129), (1, 14), (8, 128), (0, 71), 12)), (247, (1, 0, (8, 125), (1, 14), (8, 123), (8, 124), 12)), (248, (2, 0, (8, 133), (1, 14), (8, 131), (8, 132), 12)), (249, (2, 0, (8, 145), (1, 14), (8, 144), (0, 73), 12)), (250, (1, 0, (8, 141), (1, 14), (8, 140), (0, 72), 12)), (251, (2, 0, (8, 137), (1, 14), (8, 135), (8, 136), 12)), (252, (2, 0, (8, 162), (1, 14), (8, 161), (0, 76), 12)), (253, (2, 0, (8, 166), (1, 14), (8, 165), (0, 77), 12)), (254, (2, 0, (8, 158), (1, 14), (8, 157), (0, 75), 12)), (255, (2, 0, (8, 154), (1, 14), (8, 153), (0, 74), 12)), (256, (2, 0, (8, 150), (1, 14), (8, 148), (8, 149), 12)), (257, (1, 0, (8, 170), (1, 14), (8, 168), (8, 169), 12)), (258, (3, 0, (8, 174), (1, 14), (8, 172), (8, 173), 12)), (259, (2, 0, (8, 220), (1, 14), (8, 219), (0, 86), 12)), (260, (2, 0, (8, 225), (1, 14), (8, 224), (0, 87), 12)), (261, (1, 1, (8, 216), (1, 14), (8, 215), (0, 0), 12)), (262, (4, 0, (8, 209), (1, 14), (8, 207), (8, 208), 12)), (263, (4, 0, (8, 235), (1, 14), (8, 233), (8, 234), 12)), (264, (4, 0, (8, 239), (1, 14), (8, 237), (8, 238), 12)), (265, (2, 0, (9, 7), (1, 14), (9, 6), (0, 88), 12)), (266, (4, 0, (9, 3), (1, 14), (9, 1), (9, 2), 12)), (267, (2, 0, (9, 18), (1, 14), (9, 17), (0, 90), 12)), (268, (1, 0, (9, 11), (1, 14), (9, 10), (0, 89), 12)), (269, (2, 0, (9, 26), (1, 14), (9, 25), (0, 91), 12)), (270, (3, 0, (9, 22), (1, 14), (9, 20), (9, 21), 12))]
set_option maxRecDepth 100000 in
theorem ai_yk8_c : ∀ q ∈ ai_yk8, Cond.code (ai_y q.1).1 (ai_y q.1).2.1 (ai_y q.1).2.2.1 (ai_y q.1).2.2.2 ∈ ai_Ts := List.forall_mem_cons.mpr ⟨ai_cw241, List.forall_mem_cons.mpr ⟨ai_cw242, List.forall_mem_cons.mpr ⟨ai_cw243, List.forall_mem_cons.mpr ⟨ai_cw244, List.forall_mem_cons.mpr ⟨ai_cw245, List.forall_mem_cons.mpr ⟨ai_cw246, List.forall_mem_cons.mpr ⟨ai_cw247, List.forall_mem_cons.mpr ⟨ai_cw248, List.forall_mem_cons.mpr ⟨ai_cw249, List.forall_mem_cons.mpr ⟨ai_cw250, List.forall_mem_cons.mpr ⟨ai_cw251, List.forall_mem_cons.mpr ⟨ai_cw252, List.forall_mem_cons.mpr ⟨ai_cw253, List.forall_mem_cons.mpr ⟨ai_cw254, List.forall_mem_cons.mpr ⟨ai_cw255, List.forall_mem_cons.mpr ⟨ai_cw256, List.forall_mem_cons.mpr ⟨ai_cw257, List.forall_mem_cons.mpr ⟨ai_cw258, List.forall_mem_cons.mpr ⟨ai_cw259, List.forall_mem_cons.mpr ⟨ai_cw260, List.forall_mem_cons.mpr ⟨ai_cw261, List.forall_mem_cons.mpr ⟨ai_cw262, List.forall_mem_cons.mpr ⟨ai_cw263, List.forall_mem_cons.mpr ⟨ai_cw264, List.forall_mem_cons.mpr ⟨ai_cw265, List.forall_mem_cons.mpr ⟨ai_cw266, List.forall_mem_cons.mpr ⟨ai_cw267, List.forall_mem_cons.mpr ⟨ai_cw268, List.forall_mem_cons.mpr ⟨ai_cw269, List.forall_mem_cons.mpr ⟨ai_cw270, fun _ h => absurd h List.not_mem_nil⟩⟩⟩⟩⟩⟩⟩⟩⟩⟩⟩⟩⟩⟩⟩⟩⟩⟩⟩⟩⟩⟩⟩⟩⟩⟩⟩⟩⟩⟩
set_option maxRecDepth 100000 in
theorem ai_yk8_ok : ai_yk8.all (fun q => ai_yc q.1 q.2) = true := by decide +kernel
def ai_yk9 : List (Nat × ai_Yk) := [(271, (2, 0, (9, 34), (1, 14), (9, 33), (0, 92), 12)), (272, (2, 0, (9, 30), (1, 14), (9, 28), (9, 29), 12)), (273, (4, 0, (9, 38), (1, 14), (9, 36), (9, 37), 12)), (274, (1, 0, (9, 50), (1, 14), (9, 49), (0, 93), 12)), (275, (4, 0, (9, 42), (1, 14), (9, 40), (9, 41), 12)), (276, (2, 0, (9, 46), (1, 14), (9, 44), (9, 45), 12)), (277, (4, 0, (9, 58), (1, 14), (9, 57), (0, 94), 12)), (278, (2, 0, (9, 54), (1, 14), (9, 52), (9, 53), 12)), (279, (3, 0, (9, 62), (1, 14), (9, 60), (9, 61), 12)), (280, (0, 0, (9, 74), (1, 14), (9, 73), (0, 96), 12)), (281, (1, 0, (9, 78), (1, 14), (9, 77), (0, 97), 12)), (282, (0, 0, (9, 70), (1, 14), (9, 69), (0, 95), 12)), (283, (1, 0, (9, 66), (1, 14), (9, 64), (9, 65), 12)), (284, (0, 0, (9, 82), (1, 14), (9, 80), (9, 81), 12)), (285, (1, 0, (9, 90), (1, 14), (9, 89), (0, 98), 12)), (286, (1, 0, (9, 86), (1, 14), (9, 84), (9, 85), 12)), (287, (1, 0, (9, 102), (1, 14), (9, 101), (0, 100), 12)), (288, (2, 0, (9, 98), (1, 14), (9, 97), (0, 99), 12)), (289, (2, 0, (9, 94), (1, 14), (9, 92), (9, 93), 12)), (290, (1, 0, (9, 114), (1, 14), (9, 113), (0, 102), 12)), (291, (3, 0, (9, 110), (1, 14), (9, 109), (0, 101), 12)), (292, (4, 0, (9, 106), (1, 14), (9, 104), (9, 105), 12)), (293, (5, 0, (9, 118), (1, 14), (9, 116), (9, 117), 12)), (294, (5, 0, (9, 122), (1, 14), (9, 120), (9, 121), 12)), (295, (2, 0, (9, 137), (1, 14), (9, 136), (0, 104), 12)), (296, (5, 0, (9, 141), (1, 14), (9, 140), (0, 105), 12)), (297, (3, 1, (9, 129), (1, 14), (9, 128), (0, 0), 12)), (298, (3, 0, (9, 133), (1, 14), (9, 132), (0, 103), 12)), (299, (4, 0, (9, 126), (1, 14), (9, 124), (9, 125), 12)), (300, (4, 0, (9, 145), (1, 14), (9, 143), (9, 144), 12))]
set_option maxRecDepth 100000 in
theorem ai_yk9_c : ∀ q ∈ ai_yk9, Cond.code (ai_y q.1).1 (ai_y q.1).2.1 (ai_y q.1).2.2.1 (ai_y q.1).2.2.2 ∈ ai_Ts := List.forall_mem_cons.mpr ⟨ai_cw271, List.forall_mem_cons.mpr ⟨ai_cw272, List.forall_mem_cons.mpr ⟨ai_cw273, List.forall_mem_cons.mpr ⟨ai_cw274, List.forall_mem_cons.mpr ⟨ai_cw275, List.forall_mem_cons.mpr ⟨ai_cw276, List.forall_mem_cons.mpr ⟨ai_cw277, List.forall_mem_cons.mpr ⟨ai_cw278, List.forall_mem_cons.mpr ⟨ai_cw279, List.forall_mem_cons.mpr ⟨ai_cw280, List.forall_mem_cons.mpr ⟨ai_cw281, List.forall_mem_cons.mpr ⟨ai_cw282, List.forall_mem_cons.mpr ⟨ai_cw283, List.forall_mem_cons.mpr ⟨ai_cw284, List.forall_mem_cons.mpr ⟨ai_cw285, List.forall_mem_cons.mpr ⟨ai_cw286, List.forall_mem_cons.mpr ⟨ai_cw287, List.forall_mem_cons.mpr ⟨ai_cw288, List.forall_mem_cons.mpr ⟨ai_cw289, List.forall_mem_cons.mpr ⟨ai_cw290, List.forall_mem_cons.mpr ⟨ai_cw291, List.forall_mem_cons.mpr ⟨ai_cw292, List.forall_mem_cons.mpr ⟨ai_cw293, List.forall_mem_cons.mpr ⟨ai_cw294, List.forall_mem_cons.mpr ⟨ai_cw295, List.forall_mem_cons.mpr ⟨ai_cw296, List.forall_mem_cons.mpr ⟨ai_cw297, List.forall_mem_cons.mpr ⟨ai_cw298, List.forall_mem_cons.mpr ⟨ai_cw299, List.forall_mem_cons.mpr ⟨ai_cw300, fun _ h => absurd h List.not_mem_nil⟩⟩⟩⟩⟩⟩⟩⟩⟩⟩⟩⟩⟩⟩⟩⟩⟩⟩⟩⟩⟩⟩⟩⟩⟩⟩⟩⟩⟩⟩
set_option maxRecDepth 100000 in
theorem ai_yk9_ok : ai_yk9.all (fun q => ai_yc q.1 q.2) = true := by decide +kernel
def ai_yk10 : List (Nat × ai_Yk) := [(301, (2, 0, (9, 153), (1, 14), (9, 152), (0, 106), 12)), (302, (2, 0, (9, 149), (1, 14), (9, 147), (9, 148), 12)), (303, (1, 0, (9, 157), (1, 14), (9, 155), (9, 156), 12)), (304, (3, 0, (9, 162), (1, 14), (9, 160), (9, 161), 12)), (305, (4, 0, (9, 170), (1, 14), (9, 169), (0, 107), 12)), (306, (4, 0, (9, 166), (1, 14), (9, 164), (9, 165), 12)), (307, (4, 0, (9, 174), (1, 14), (9, 172), (9, 173), 12)), (308, (3, 0, (9, 178), (1, 14), (9, 176), (9, 177), 12)), (309, (1, 0, (9, 186), (1, 14), (9, 185), (0, 108), 12)), (310, (0, 0, (9, 190), (1, 14), (9, 189), (0, 109), 12)), (311, (1, 0, (9, 182), (1, 14), (9, 180), (9, 181), 12)), (312, (1, 1, (4, 136), (1, 21), (4, 135), (0, 0), 99)), (313, (2, 1, (6, 47), (1, 6), (6, 46), (0, 0), 99)), (314, (0, 0, (3, 227), (1, 15), (3, 225), (3, 226), 99)), (315, (1, 0, (3, 237), (1, 15), (3, 235), (3, 236), 99)), (316, (0, 0, (3, 231), (1, 15), (3, 229), (3, 230), 99)), (317, (0, 0, (4, 1), (1, 15), (3, 239), (4, 0), 99)), (318, (2, 1, (4, 7), (1, 15), (4, 6), (0, 0), 99)), (319, (2, 1, (4, 4), (1, 16), (4, 3), (0, 0), 99)), (320, (2, 1, (4, 25), (1, 18), (4, 24), (0, 0), 99)), (321, (1, 1, (4, 21), (1, 18), (4, 20), (0, 0), 99)), (322, (2, 1, (4, 15), (1, 18), (4, 14), (0, 0), 99)), (323, (2, 1, (4, 18), (1, 18), (4, 17), (0, 0), 99)), (324, (2, 1, (5, 223), (1, 19), (5, 222), (0, 0), 99)), (325, (2, 1, (4, 75), (1, 19), (4, 74), (0, 0), 99)), (326, (3, 1, (4, 12), (1, 17), (4, 11), (0, 0), 99))]
set_option maxRecDepth 100000 in
theorem ai_yk10_c : ∀ q ∈ ai_yk10, Cond.code (ai_y q.1).1 (ai_y q.1).2.1 (ai_y q.1).2.2.1 (ai_y q.1).2.2.2 ∈ ai_Ts := List.forall_mem_cons.mpr ⟨ai_cw301, List.forall_mem_cons.mpr ⟨ai_cw302, List.forall_mem_cons.mpr ⟨ai_cw303, List.forall_mem_cons.mpr ⟨ai_cw304, List.forall_mem_cons.mpr ⟨ai_cw305, List.forall_mem_cons.mpr ⟨ai_cw306, List.forall_mem_cons.mpr ⟨ai_cw307, List.forall_mem_cons.mpr ⟨ai_cw308, List.forall_mem_cons.mpr ⟨ai_cw309, List.forall_mem_cons.mpr ⟨ai_cw310, List.forall_mem_cons.mpr ⟨ai_cw311, List.forall_mem_cons.mpr ⟨ai_cw312, List.forall_mem_cons.mpr ⟨ai_cw313, List.forall_mem_cons.mpr ⟨ai_cw314, List.forall_mem_cons.mpr ⟨ai_cw315, List.forall_mem_cons.mpr ⟨ai_cw316, List.forall_mem_cons.mpr ⟨ai_cw317, List.forall_mem_cons.mpr ⟨ai_cw318, List.forall_mem_cons.mpr ⟨ai_cw319, List.forall_mem_cons.mpr ⟨ai_cw320, List.forall_mem_cons.mpr ⟨ai_cw321, List.forall_mem_cons.mpr ⟨ai_cw322, List.forall_mem_cons.mpr ⟨ai_cw323, List.forall_mem_cons.mpr ⟨ai_cw324, List.forall_mem_cons.mpr ⟨ai_cw325, List.forall_mem_cons.mpr ⟨ai_cw326, fun _ h => absurd h List.not_mem_nil⟩⟩⟩⟩⟩⟩⟩⟩⟩⟩⟩⟩⟩⟩⟩⟩⟩⟩⟩⟩⟩⟩⟩⟩⟩⟩
set_option maxRecDepth 100000 in
theorem ai_yk10_ok : ai_yk10.all (fun q => ai_yc q.1 q.2) = true := by decide +kernel
def ai_yks : List (Nat × ai_Yk) := ai_yk0 ++ (ai_yk1 ++ (ai_yk2 ++ (ai_yk3 ++ (ai_yk4 ++ (ai_yk5 ++ (ai_yk6 ++ (ai_yk7 ++ (ai_yk8 ++ (ai_yk9 ++ (ai_yk10))))))))))
theorem ai_yks_c : ∀ q ∈ ai_yks, Cond.code (ai_y q.1).1 (ai_y q.1).2.1 (ai_y q.1).2.2.1 (ai_y q.1).2.2.2 ∈ ai_Ts := by
  show ∀ q ∈ ai_yk0 ++ (ai_yk1 ++ (ai_yk2 ++ (ai_yk3 ++ (ai_yk4 ++ (ai_yk5 ++ (ai_yk6 ++ (ai_yk7 ++ (ai_yk8 ++ (ai_yk9 ++ (ai_yk10)))))))))), _
  exact List.forall_mem_append.mpr ⟨ai_yk0_c, List.forall_mem_append.mpr ⟨ai_yk1_c, List.forall_mem_append.mpr ⟨ai_yk2_c, List.forall_mem_append.mpr ⟨ai_yk3_c, List.forall_mem_append.mpr ⟨ai_yk4_c, List.forall_mem_append.mpr ⟨ai_yk5_c, List.forall_mem_append.mpr ⟨ai_yk6_c, List.forall_mem_append.mpr ⟨ai_yk7_c, List.forall_mem_append.mpr ⟨ai_yk8_c, List.forall_mem_append.mpr ⟨ai_yk9_c, ai_yk10_c⟩⟩⟩⟩⟩⟩⟩⟩⟩⟩
theorem ai_yks_ok : ∀ q ∈ ai_yks, ai_yc q.1 q.2 = true := by
  show ∀ q ∈ ai_yk0 ++ (ai_yk1 ++ (ai_yk2 ++ (ai_yk3 ++ (ai_yk4 ++ (ai_yk5 ++ (ai_yk6 ++ (ai_yk7 ++ (ai_yk8 ++ (ai_yk9 ++ (ai_yk10)))))))))), ai_yc q.1 q.2 = true
  exact List.forall_mem_append.mpr ⟨List.all_eq_true.mp ai_yk0_ok, List.forall_mem_append.mpr ⟨List.all_eq_true.mp ai_yk1_ok, List.forall_mem_append.mpr ⟨List.all_eq_true.mp ai_yk2_ok, List.forall_mem_append.mpr ⟨List.all_eq_true.mp ai_yk3_ok, List.forall_mem_append.mpr ⟨List.all_eq_true.mp ai_yk4_ok, List.forall_mem_append.mpr ⟨List.all_eq_true.mp ai_yk5_ok, List.forall_mem_append.mpr ⟨List.all_eq_true.mp ai_yk6_ok, List.forall_mem_append.mpr ⟨List.all_eq_true.mp ai_yk7_ok, List.forall_mem_append.mpr ⟨List.all_eq_true.mp ai_yk8_ok, List.forall_mem_append.mpr ⟨List.all_eq_true.mp ai_yk9_ok, List.all_eq_true.mp ai_yk10_ok⟩⟩⟩⟩⟩⟩⟩⟩⟩⟩
