/-! THE ABSTRACT HEAP AND THE MACHINE'S: the words' list, the classes' tables, the cells' pictures, what holds of a heap that is well made. -/
def ai_Ts : List Cond := lw_tbl.filter goodWord
theorem ai_Ts_good {ws : List Cond} (h : ∀ w ∈ ws, w ∈ ai_Ts) : GoodIn ai_Ts ws := fun w hw => ⟨h w hw, good_of_word (List.mem_filter.mp (h w hw)).2⟩
theorem ai_Ts_in {w : Cond} (h : w ∈ ai_Ts) : w ∈ lw_tbl := (List.mem_filter.mp h).1
def jg_ty (ci : Nat) : Nat → FieldType := match ci with
  | 0 => tyX0 | 1 => tyX1 | 2 => tyX2 | 3 => tyX3 | 4 => tyX4 | 5 => tyX5 | 6 => tyX6 | 7 => tyX7 | 8 => tyX8 | 9 => tyX9 | 10 => tyX10 | 11 => tyX11 | _ => tyX12
def jg_T (ci : Nat) : u_T := match ci with
  | 0 => TX0 | 1 => TX1 | 2 => TX2 | 3 => TX3 | 4 => TX4 | 5 => TX5 | 6 => TX6 | 7 => TX7 | 8 => TX8 | 9 => TX9 | 10 => TX10 | 11 => TX11 | _ => TX12
def jg_R (ci : Nat) : String := match ci with
  | 0 => RX0 | 1 => RX1 | 2 => RX2 | 3 => RX3 | 4 => RX4 | 5 => RX5 | 6 => RX6 | 7 => RX7 | 8 => RX8 | 9 => RX9 | 10 => RX10 | 11 => RX11 | _ => RX12
def jg_nf (ci : Nat) : Nat := match ci with
  | 0 => 15 | 1 => 8 | 2 => 16 | 3 => 7 | 4 => 4 | 5 => 5 | 6 => 8 | 7 => 14 | 8 => 5 | 9 => 10 | 10 => 10 | 11 => 12 | _ => 87
theorem jg_13 {P : Nat → Prop} (h0 : P 0) (h1 : P 1) (h2 : P 2) (h3 : P 3) (h4 : P 4) (h5 : P 5) (h6 : P 6) (h7 : P 7) (h8 : P 8) (h9 : P 9) (h10 : P 10) (h11 : P 11) (h12 : P 12) {ci : Nat} (h : ci < 13) : P ci := by
  have : ci = 0 ∨ ci = 1 ∨ ci = 2 ∨ ci = 3 ∨ ci = 4 ∨ ci = 5 ∨ ci = 6 ∨ ci = 7 ∨ ci = 8 ∨ ci = 9 ∨ ci = 10 ∨ ci = 11 ∨ ci = 12 := by omega
  rcases this with rfl | rfl | rfl | rfl | rfl | rfl | rfl | rfl | rfl | rfl | rfl | rfl | rfl <;> assumption
theorem jg_cl {ci : Nat} (h : ci < 13) : vwCl[ci]? = some (jg_R ci, jg_T ci, jg_nf ci) := jg_13 (P := fun ci => vwCl[ci]? = some (jg_R ci, jg_T ci, jg_nf ci)) rfl rfl rfl rfl rfl rfl rfl rfl rfl rfl rfl rfl rfl h
theorem jg_tyok {ci : Nat} (h : ci < 13) : ∀ k, k < jg_nf ci → parseFieldDescriptor (jg_T ci k).2.2.1 = some (jg_ty ci k) := jg_13 (P := fun ci => ∀ k, k < jg_nf ci → parseFieldDescriptor (jg_T ci k).2.2.1 = some (jg_ty ci k)) tyX0_ok tyX1_ok tyX2_ok tyX3_ok tyX4_ok tyX5_ok tyX6_ok tyX7_ok tyX8_ok tyX9_ok tyX10_ok tyX11_ok tyX12_ok h
theorem jg_nm {ci : Nat} (h : ci < 13) : ∀ a, a < jg_nf ci → ∀ b, b < jg_nf ci → a ≠ b → (jg_T ci a).2.1 ≠ (jg_T ci b).2.1 := jg_13 (P := fun ci => ∀ a, a < jg_nf ci → ∀ b, b < jg_nf ci → a ≠ b → (jg_T ci a).2.1 ≠ (jg_T ci b).2.1) nmX0 nmX1 nmX2 nmX3 nmX4 nmX5 nmX6 nmX7 nmX8 nmX9 nmX10 nmX11 nmX12 h
/-- what the program fixes: the classes' numbers and slots; the arrays' classes by their kind; the texts' cells; their bytes' cells; the table of powers' cell; the library's static that is null or not; the script's cell, its length, its numbers -/
abbrev ai_Om : Type := va_G × (Nat → ClassId) × (Nat → Nat) × (Nat → Nat) × Nat × Option Nat × Nat × Nat × (Nat → Int32)
def ai_fv (ad : Nat → Nat) (h : ai_H) (n : Nat) (ty : FieldType) (j : Nat) : Value := match ty with
  | .long => .long (h.2.1 n)
  | .object _ => va_rf ((h.2.2.1 n j).map ad)
  | .array _ => va_rf ((h.2.2.1 n j).map ad)
  | _ => .int (h.1 n j)
def ai_fs (ad : Nat → Nat) (h : ai_H) (n ci : Nat) : List Value := (List.range (jg_nf ci)).map (fun j => ai_fv ad h n (jg_ty ci j) j)
def ai_en (cA : Nat → ClassId) (ad : Nat → Nat) (h : ai_H) (n : Nat) : va_E :=
  if (h.2.2.2.1 n).1 < 4 then .inl (cA (h.2.2.2.1 n).1, (h.2.2.2.1 n).2, .inl (h.1 n))
  else if (h.2.2.2.1 n).1 < 20 then .inl (cA (h.2.2.2.1 n).1, (h.2.2.2.1 n).2, .inr (.inr (.inr (.inr (fun j => (h.2.2.1 n j).map ad)))))
  else .inr ((h.2.2.2.1 n).1 % 20, ai_fs ad h n ((h.2.2.2.1 n).1 % 20))
def ai_ws (cA : Nat → ClassId) (ad : Nat → Nat) (h : ai_H) (names : List Nat) : va_W := names.map (fun n => (ad n, ai_en cA ad h n))
def ai_kt (k : Nat) : FieldType := match k with
  | 1 => .int
  | 2 => .byte
  | 3 => .boolean
  | 4 => .object RX4
  | _ => .object RX8
def ai_tys (cA : Nat → ClassId) : List (ClassId × FieldType) := [(cA 0, .int), (cA 1, .int), (cA 2, .byte), (cA 3, .boolean), (cA 4, .object RX4), (cA 5, .object RX8)]
theorem ai_at {cA : Nat → ClassId} {ad : Nat → Nat} {h : ai_H} {names : List Nat} {q n : Nat} (hq : names[q]? = some n) : (ai_ws cA ad h names)[q]? = some (ad n, ai_en cA ad h n) := by
  simp [ai_ws, hq]
theorem ai_pos {names : List Nat} {n : Nat} (h : n ∈ names) : ∃ q : Nat, names[q]? = some n := List.getElem?_of_mem h
theorem ai_en_a {cA : Nat → ClassId} {ad : Nat → Nat} {h : ai_H} {n k l : Nat} (hk : h.2.2.2.1 n = (k, l)) (h4 : k < 4) : ai_en cA ad h n = .inl (cA k, l, .inl (h.1 n)) := by
  unfold ai_en; rw [hk, if_pos h4]
theorem ai_en_r {cA : Nat → ClassId} {ad : Nat → Nat} {h : ai_H} {n k l : Nat} (hk : h.2.2.2.1 n = (k, l)) (h4 : ¬ k < 4) (h20 : k < 20) : ai_en cA ad h n = .inl (cA k, l, .inr (.inr (.inr (.inr (fun j => (h.2.2.1 n j).map ad))))) := by
  unfold ai_en; rw [hk, if_neg h4, if_pos h20]
theorem ai_en_o {cA : Nat → ClassId} {ad : Nat → Nat} {h : ai_H} {n k : Nat} (hk : (h.2.2.2.1 n).1 = k) (h20 : 20 ≤ k) : ai_en cA ad h n = .inr (k % 20, ai_fs ad h n (k % 20)) := by
  unfold ai_en; rw [hk, if_neg (by omega), if_neg (by omega)]
theorem ai_fs_get {ad : Nat → Nat} {h : ai_H} {n ci j : Nat} (hj : j < jg_nf ci) : (ai_fs ad h n ci)[j]? = some (ai_fv ad h n (jg_ty ci j) j) := by
  simp [ai_fs, List.getElem?_range hj]
theorem ai_fs_len {ad : Nat → Nat} {h : ai_H} {n ci : Nat} : (ai_fs ad h n ci).length = jg_nf ci := by simp [ai_fs]
/-- a cell changes: its place in the world -/
theorem ai_set {cA : Nat → ClassId} {ad : Nat → Nat} {h h' : ai_H} {names : List Nat} {q n : Nat} {e : va_E} (hn : names.Nodup) (hq : names[q]? = some n) (h2 : ai_en cA ad h' n = e) (h3 : ∀ x, x ≠ n → ai_en cA ad h' x = ai_en cA ad h x) :
    (ai_ws cA ad h names).set q (ad n, e) = ai_ws cA ad h' names := by
  apply List.ext_getElem?
  intro k
  have hlt : q < names.length := (List.getElem?_eq_some_iff.mp hq).1
  by_cases hk : k = q
  · subst hk
    rw [List.getElem?_set_self (by simpa [ai_ws] using hlt), ai_at hq, h2]
  · rw [List.getElem?_set_ne (Ne.symm hk)]
    cases hm : names[k]? with
    | none => simp [ai_ws, hm]
    | some x =>
      rw [ai_at hm, ai_at hm, h3 x]
      intro e1
      subst e1
      have hkl : k < names.length := (List.getElem?_eq_some_iff.mp hm).1
      have e2 : names[k] = x := (List.getElem?_eq_some_iff.mp hm).2
      have e3 : names[q] = x := (List.getElem?_eq_some_iff.mp hq).2
      exact hk ((List.getElem_inj hn).mp (e2.trans e3.symm))
/-- the fields' rows, by class -/
def ai_okf (h : ai_H) (n j : Nat) : Nat × Nat × Nat → Prop
  | (3, x, _) => h.2.2.1 n j = some (ai_ch n j) ∧ h.2.2.2.1 (ai_ch n j) = (20 + x, 0)
  | (4, x, l) => h.2.2.1 n j = some (ai_ch n j) ∧ h.2.2.2.1 (ai_ch n j) = (x, l)
  | (5, x, _) => h.2.2.1 n j = some (ai_ch n j) ∧ (h.2.2.2.1 (ai_ch n j)).1 = x
  | (6, x, _) => ∀ y, h.2.2.1 n j = some y → (h.2.2.2.1 y).1 = 20 + x
  | (7, x, _) => ∀ y, h.2.2.1 n j = some y → (h.2.2.2.1 y).1 = x
  | _ => True
def ai_fk (ci j : Nat) : Nat × Nat × Nat := (ai_fkl.getD ci []).getD j (9, 0, 0)
def ai_kok (k : Nat) : Prop := (1 ≤ k ∧ k ≤ 5) ∨ (20 ≤ k ∧ k < 33) ∨ (40 ≤ k ∧ k < 53)
def ai_wf (h : ai_H) (names : List Nat) : Prop :=
  names.Nodup ∧ (∀ n ∈ names, ai_kok (h.2.2.2.1 n).1) ∧ (∀ n ∈ names, n % 128 = 0 → n < ai_dn h) ∧ (∀ n ∈ names, ∀ j y, h.2.2.1 n j = some y → y ∈ names) ∧
  (∀ n ∈ names, ∀ ci, (h.2.2.2.1 n).1 = 20 + ci → ∀ j, j < jg_nf ci → ai_okf h n j (ai_fk ci j)) ∧
  (∀ n ∈ names, (h.2.2.2.1 n).1 = 4 → ∀ j y, h.2.2.1 n j = some y → (h.2.2.2.1 y).1 = 24) ∧ (∀ n ∈ names, (h.2.2.2.1 n).1 = 5 → ∀ j y, h.2.2.1 n j = some y → (h.2.2.2.1 y).1 = 28)
/-- a value that may stand in a frame -/
def ai_ok (names : List Nat) (h : ai_H) (v : ai_V) : Prop := match v with
  | .inr (.inr (t, l, a)) => (t = 0) ∨ (t = 6 ∧ a < ai_txts.length) ∨ t = 7 ∨ t = 8 ∨ (t = 9 ∧ a < ai_txts.length) ∨ t = 11 ∨ (1 ≤ t ∧ t ≤ 5 ∧ a ∈ names ∧ h.2.2.2.1 a = (t, l)) ∨ (20 ≤ t ∧ t < 33 ∧ a ∈ names ∧ (h.2.2.2.1 a).1 = t) ∨ (40 ≤ t ∧ t < 53 ∧ a ∈ names ∧ ((h.2.2.2.1 a).1 = t ∨ (h.2.2.2.1 a).1 + 20 = t))
  | _ => True
def ai_cv (O : ai_Om) (ad : Nat → Nat) (v : ai_V) : Value := match v with
  | .inl x => .int x
  | .inr (.inl x) => .long x
  | .inr (.inr (t, _, a)) => if t = 0 then .null else if t = 6 then .ref (O.2.2.1 a) else if t = 7 then .ref O.2.2.2.2.1 else if t = 8 then .ref O.2.2.2.2.2.2.1 else if t = 9 then .ref (O.2.2.2.1 a) else if t = 11 then va_rf O.2.2.2.2.2.1 else .ref (ad a)
theorem ai_cv_r {O : ai_Om} {ad : Nat → Nat} {t l a : Nat} (h : 1 ≤ t ∧ t ≤ 5 ∨ 20 ≤ t) : ai_cv O ad (.inr (.inr (t, l, a))) = .ref (ad a) := by
  unfold ai_cv
  dsimp only
  rw [if_neg (by omega), if_neg (by omega), if_neg (by omega), if_neg (by omega), if_neg (by omega), if_neg (by omega)]
theorem ai_cat {O : ai_Om} {ad : Nat → Nat} {v : ai_V} (h : ∀ x, v ≠ .inr (.inl x)) : (ai_cv O ad v).category = 1 := by
  rcases v with v | v | ⟨t, l, a⟩
  · rfl
  · exact absurd rfl (h v)
  · unfold ai_cv
    dsimp only
    split
    · rfl
    · split
      · rfl
      · split
        · rfl
        · split
          · rfl
          · split
            · rfl
            · split
              · cases O.2.2.2.2.2.1 <;> rfl
              · rfl
/-- frame and heap of the abstract machine in the machine -/
def ai_J (O : ai_Om) (s : State) (A : Nat → Prop) (names : List Nat) (ad : Nat → Nat) (st : ai_S) (H : Heap) (locs : List Loc) (ls : Array Slot) : Prop :=
  va_P O.1 vwCl (ai_ws O.2.1 ad st.2.2.2 names) H ∧ va_D A (ai_ws O.2.1 ad st.2.2.2 names) ∧ va_S A s.heap H locs ∧ ai_wf st.2.2.2 names ∧ (∀ v ∈ st.2.2.1, ai_ok names st.2.2.2 v) ∧ (∀ v, some v ∈ st.2.1 → ai_ok names st.2.2.2 v) ∧
  ls.size = st.2.1.length ∧ lv_wf ls ∧ (∀ (i : Nat) (v : ai_V), ai_nth st.2.1 i = some (some v) → ls[i]? = some (.val (ai_cv O ad v)))
theorem ai_nth_eq {α : Type} (l : List α) (i : Nat) : ai_nth l i = l[i]? := by
  induction l generalizing i with
  | nil => simp [ai_nth]
  | cons a l ih => cases i with
    | zero => rfl
    | succ i => simp [ai_nth, ih]
theorem ai_put_eq {α : Type} (l : List α) (i : Nat) (b : α) : ai_put l i b = l.set i b := by
  induction l generalizing i with
  | nil => rfl
  | cons a l ih => cases i with
    | zero => rfl
    | succ i => simp [ai_put, ih]
theorem ai_nth_mem {α : Type} {l : List α} {i : Nat} {v : α} (h : ai_nth l i = some v) : v ∈ l := by
  rw [ai_nth_eq] at h; exact List.mem_of_getElem? h
/-- an int in a cell changes -/
theorem ai_wf_st {h : ai_H} {names : List Nat} (a j : Nat) (v : Int32) (w : ai_wf h names) : ai_wf (ai_st h a j v) names := w
theorem ai_ok_st {h : ai_H} {names : List Nat} {a j : Nat} {v : Int32} {x : ai_V} : ai_ok names (ai_st h a j v) x ↔ ai_ok names h x := Iff.rfl
theorem ai_fv_st {ad : Nat → Nat} {h : ai_H} {a j n i : Nat} {v : Int32} {ty : FieldType} (hne : ¬ (n = a ∧ i = j)) : ai_fv ad (ai_st h a j v) n ty i = ai_fv ad h n ty i := by
  have e : (ai_st h a j v).1 n i = h.1 n i := by
    show ai_u h.1 a j v n i = _
    unfold ai_u
    by_cases h1 : n = a
    · rw [if_pos h1]
      subst h1
      by_cases h2 : i = j
      · exact absurd ⟨rfl, h2⟩ hne
      · simp [upd, h2]
    · rw [if_neg h1]
  cases ty <;> first | rfl | exact congrArg Value.int e
theorem ai_en_st {cA : Nat → ClassId} {ad : Nat → Nat} {h : ai_H} {a j n : Nat} {v : Int32} (hne : n ≠ a) : ai_en cA ad (ai_st h a j v) n = ai_en cA ad h n := by
  have e : (ai_st h a j v).1 n = h.1 n := by
    show ai_u h.1 a j v n = _
    unfold ai_u
    rw [if_neg hne]
  have e2 : ∀ ci, ai_fs ad (ai_st h a j v) n ci = ai_fs ad h n ci := fun ci => by
    unfold ai_fs
    exact List.map_congr_left fun i _ => ai_fv_st (fun q => hne q.1)
  unfold ai_en
  rw [e]
  simp only [e2]
  rfl
def ai_isI (ty : FieldType) : Bool := match ty with
  | .long => false
  | .object _ => false
  | .array _ => false
  | _ => true
theorem ai_fv_i {ad : Nat → Nat} {h : ai_H} {n j : Nat} {ty : FieldType} (hi : ai_isI ty = true) : ai_fv ad h n ty j = .int (h.1 n j) := by
  cases ty <;> first | rfl | cases hi
theorem ai_fs_st {ad : Nat → Nat} {h : ai_H} {a j ci : Nat} {v : Int32} (hj : j < jg_nf ci) (hi : ai_isI (jg_ty ci j) = true) : (ai_fs ad h a ci).set j (.int v) = ai_fs ad (ai_st h a j v) a ci := by
  apply List.ext_getElem?
  intro k
  by_cases hk : k = j
  · subst hk
    rw [List.getElem?_set_self (by rw [ai_fs_len]; exact hj), ai_fs_get hj, ai_fv_i hi]
    show _ = some (Value.int (ai_u h.1 a k v a k))
    simp [ai_u, upd]
  · rw [List.getElem?_set_ne (Ne.symm hk)]
    by_cases hn : k < jg_nf ci
    · rw [ai_fs_get hn, ai_fs_get hn, ai_fv_st (fun q => hk q.2)]
    · rw [List.getElem?_eq_none (by rw [ai_fs_len]; omega), List.getElem?_eq_none (by rw [ai_fs_len]; omega)]
theorem ai_tys_at {cA : Nat → ClassId} {k : Nat} (h : 1 ≤ k ∧ k ≤ 5) : (ai_tys cA)[k]? = some (cA k, ai_kt k) := by
  have : k = 1 ∨ k = 2 ∨ k = 3 ∨ k = 4 ∨ k = 5 := by omega
  rcases this with rfl | rfl | rfl | rfl | rfl <;> rfl
theorem ai_ix_some {i : Int32} {n : Nat} {f : Nat → Option ai_R} {r : ai_R} (h : ai_ix i n f = some r) : vp_in i n ∧ f i.toNatClampNeg = some r := by
  unfold ai_ix at h
  split at h
  · rename_i c; exact ⟨vp_in_iff.mpr c, h⟩
  · cases h
