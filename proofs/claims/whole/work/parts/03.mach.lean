/-! THE MACHINE, SEEN FROM ABOVE: one abstract heap (cells by numbers), a judgement jg_G over the kit's W, a rule an instruction. -/
def jg_ty (ci : Nat) : Nat → FieldType := match ci with
  | 0 => tyX0 | 1 => tyX1 | 2 => tyX2 | 3 => tyX3 | 4 => tyX4 | 5 => tyX5 | 6 => tyX6 | 7 => tyX7 | 8 => tyX8 | 9 => tyX9 | 10 => tyX10 | 11 => tyX11 | _ => tyX12
def jg_T (ci : Nat) : u_T := match ci with
  | 0 => TX0 | 1 => TX1 | 2 => TX2 | 3 => TX3 | 4 => TX4 | 5 => TX5 | 6 => TX6 | 7 => TX7 | 8 => TX8 | 9 => TX9 | 10 => TX10 | 11 => TX11 | _ => TX12
def jg_R (ci : Nat) : String := match ci with
  | 0 => RX0 | 1 => RX1 | 2 => RX2 | 3 => RX3 | 4 => RX4 | 5 => RX5 | 6 => RX6 | 7 => RX7 | 8 => RX8 | 9 => RX9 | 10 => RX10 | 11 => RX11 | _ => RX12
def jg_nf (ci : Nat) : Nat := match ci with
  | 0 => 15 | 1 => 8 | 2 => 16 | 3 => 7 | 4 => 4 | 5 => 5 | 6 => 8 | 7 => 12 | 8 => 5 | 9 => 10 | 10 => 10 | 11 => 12 | _ => 87
theorem jg_13 {P : Nat → Prop} (h0 : P 0) (h1 : P 1) (h2 : P 2) (h3 : P 3) (h4 : P 4) (h5 : P 5) (h6 : P 6) (h7 : P 7) (h8 : P 8) (h9 : P 9) (h10 : P 10) (h11 : P 11) (h12 : P 12) {ci : Nat} (h : ci < 13) : P ci := by
  have : ci = 0 ∨ ci = 1 ∨ ci = 2 ∨ ci = 3 ∨ ci = 4 ∨ ci = 5 ∨ ci = 6 ∨ ci = 7 ∨ ci = 8 ∨ ci = 9 ∨ ci = 10 ∨ ci = 11 ∨ ci = 12 := by omega
  rcases this with rfl | rfl | rfl | rfl | rfl | rfl | rfl | rfl | rfl | rfl | rfl | rfl | rfl <;> assumption
theorem jg_cl {ci : Nat} (h : ci < 13) : vwCl[ci]? = some (jg_R ci, jg_T ci, jg_nf ci) := jg_13 (P := fun ci => vwCl[ci]? = some (jg_R ci, jg_T ci, jg_nf ci)) rfl rfl rfl rfl rfl rfl rfl rfl rfl rfl rfl rfl rfl h
theorem jg_tyok {ci : Nat} (h : ci < 13) : ∀ k, k < jg_nf ci → parseFieldDescriptor (jg_T ci k).2.2.1 = some (jg_ty ci k) := jg_13 (P := fun ci => ∀ k, k < jg_nf ci → parseFieldDescriptor (jg_T ci k).2.2.1 = some (jg_ty ci k)) tyX0_ok tyX1_ok tyX2_ok tyX3_ok tyX4_ok tyX5_ok tyX6_ok tyX7_ok tyX8_ok tyX9_ok tyX10_ok tyX11_ok tyX12_ok h
theorem jg_nm {ci : Nat} (h : ci < 13) : ∀ a, a < jg_nf ci → ∀ b, b < jg_nf ci → a ≠ b → (jg_T ci a).2.1 ≠ (jg_T ci b).2.1 := jg_13 (P := fun ci => ∀ a, a < jg_nf ci → ∀ b, b < jg_nf ci → a ≠ b → (jg_T ci a).2.1 ≠ (jg_T ci b).2.1) nmX0 nmX1 nmX2 nmX3 nmX4 nmX5 nmX6 nmX7 nmX8 nmX9 nmX10 nmX11 nmX12 h
theorem jg_in {ci : Nat} (h : ci < 13) : ∀ w ∈ u_ws (jg_R ci) (jg_T ci) (jg_nf ci), w ∈ wsL_law := jg_13 (P := fun ci => ∀ w ∈ u_ws (jg_R ci) (jg_T ci) (jg_nf ci), w ∈ wsL_law) inlX0 inlX1 inlX2 inlX3 inlX4 inlX5 inlX6 inlX7 inlX8 inlX9 inlX10 inlX11 inlX12 h
/-- shape of the abstract heap: how many cells; of each its kind (below 13: an object of that class; 100 int, 101 byte, 102 boolean, 103 State, 104 Law: arrays), its length, its references -/
abbrev jg_Sh : Type := Nat × (Nat → Nat) × (Nat → Nat) × (Nat → Nat → Option Nat)
abbrev jg_Hi : Type := Nat → Nat → Int32
def jg_u (hi : jg_Hi) (c j : Nat) (v : Int32) : jg_Hi := fun q => if q = c then upd (hi c) j v else hi q
def jg_cv (ad : Nat → Nat) (v : Value) : Value := match v with
  | .ref c => .ref (ad c)
  | w => w
def jg_fv (ad : Nat → Nat) (hr : Nat → Option Nat) (hi : Nat → Int32) (hl : Int64) (ty : FieldType) (j : Nat) : Value := match ty with
  | .long => .long hl
  | .object _ => va_rf ((hr j).map ad)
  | .array _ => va_rf ((hr j).map ad)
  | _ => .int (hi j)
def jg_fs (ad : Nat → Nat) (hr : Nat → Option Nat) (hi : Nat → Int32) (hl : Int64) (ci : Nat) : List Value := (List.range (jg_nf ci)).map (fun j => jg_fv ad hr hi hl (jg_ty ci j) j)
def jg_en (cA : Nat → ClassId) (ad : Nat → Nat) (sh : jg_Sh) (hi : jg_Hi) (hl : Nat → Int64) (c : Nat) : va_E :=
  if sh.2.1 c < 13 then .inr (sh.2.1 c, jg_fs ad (sh.2.2.2 c) (hi c) (hl c) (sh.2.1 c))
  else if sh.2.1 c < 103 then .inl (cA (sh.2.1 c), sh.2.2.1 c, .inl (hi c))
  else .inl (cA (sh.2.1 c), sh.2.2.1 c, .inr (.inr (.inr (.inr (fun j => (sh.2.2.2 c j).map ad)))))
def jg_ws (cA : Nat → ClassId) (ad : Nat → Nat) (sh : jg_Sh) (hi : jg_Hi) (hl : Nat → Int64) : va_W := (List.range sh.1).map (fun c => (ad c, jg_en cA ad sh hi hl c))
theorem jg_at {cA : Nat → ClassId} {ad : Nat → Nat} {sh : jg_Sh} {hi : jg_Hi} {hl : Nat → Int64} {c : Nat} (h : c < sh.1) : (jg_ws cA ad sh hi hl)[c]? = some (ad c, jg_en cA ad sh hi hl c) := by
  simp [jg_ws, List.getElem?_range h]
theorem jg_en_o {cA : Nat → ClassId} {ad : Nat → Nat} {sh : jg_Sh} {hi : jg_Hi} {hl : Nat → Int64} {c ci : Nat} (ht : sh.2.1 c = ci) (hc : ci < 13) : jg_en cA ad sh hi hl c = .inr (ci, jg_fs ad (sh.2.2.2 c) (hi c) (hl c) ci) := by
  unfold jg_en
  rw [ht, if_pos hc]
theorem jg_en_a {cA : Nat → ClassId} {ad : Nat → Nat} {sh : jg_Sh} {hi : jg_Hi} {hl : Nat → Int64} {c k n : Nat} (ht : sh.2.1 c = k) (hk : 100 ≤ k) (hk2 : k < 103) (hn : sh.2.2.1 c = n) : jg_en cA ad sh hi hl c = .inl (cA k, n, .inl (hi c)) := by
  unfold jg_en
  rw [ht, if_neg (by omega), if_pos hk2, hn]
theorem jg_en_r {cA : Nat → ClassId} {ad : Nat → Nat} {sh : jg_Sh} {hi : jg_Hi} {hl : Nat → Int64} {c k n : Nat} (ht : sh.2.1 c = k) (hk : 103 ≤ k) (hn : sh.2.2.1 c = n) : jg_en cA ad sh hi hl c = .inl (cA k, n, .inr (.inr (.inr (.inr (fun j => (sh.2.2.2 c j).map ad))))) := by
  unfold jg_en
  rw [ht, if_neg (by omega), if_neg (by omega), hn]
theorem jg_set {cA : Nat → ClassId} {ad : Nat → Nat} {sh sh' : jg_Sh} {hi hi' : jg_Hi} {hl hl' : Nat → Int64} {c : Nat} {e : va_E} (hc : c < sh.1) (h1 : sh'.1 = sh.1) (h2 : jg_en cA ad sh' hi' hl' c = e) (h3 : ∀ q, q ≠ c → jg_en cA ad sh' hi' hl' q = jg_en cA ad sh hi hl q) :
    (jg_ws cA ad sh hi hl).set c (ad c, e) = jg_ws cA ad sh' hi' hl' := by
  apply List.ext_getElem?
  intro k
  by_cases hk : k = c
  · subst hk
    rw [List.getElem?_set_self (by simp [jg_ws, hc]), jg_at (by omega), h2]
  · rw [List.getElem?_set_ne (Ne.symm hk)]
    unfold jg_ws
    rw [h1, List.getElem?_map, List.getElem?_map]
    by_cases hn : k < sh.1
    · rw [List.getElem?_range hn]
      simp [h3 k hk]
    · simp [List.getElem?_eq_none (l := List.range sh.1) (i := k) (by simp; omega)]
theorem jg_u_s (hi : jg_Hi) (c j : Nat) (v : Int32) : jg_u hi c j v c = upd (hi c) j v := by simp [jg_u]
theorem jg_u_n {hi : jg_Hi} {c j q : Nat} {v : Int32} (h : q ≠ c) : jg_u hi c j v q = hi q := by simp [jg_u, h]
theorem jg_en_c {cA : Nat → ClassId} {ad : Nat → Nat} {sh : jg_Sh} {hi hi' : jg_Hi} {hl hl' : Nat → Int64} {q : Nat} (h1 : hi' q = hi q) (h2 : hl' q = hl q) : jg_en cA ad sh hi' hl' q = jg_en cA ad sh hi hl q := by
  unfold jg_en
  rw [h1, h2]
/-- a store into an int array -/
theorem jg_set_a {cA : Nat → ClassId} {ad : Nat → Nat} {sh : jg_Sh} {hi : jg_Hi} {hl : Nat → Int64} {c k n j : Nat} {v : Int32} (hc : c < sh.1) (ht : sh.2.1 c = k) (hk : 100 ≤ k) (hk2 : k < 103) (hn : sh.2.2.1 c = n) :
    (jg_ws cA ad sh hi hl).set c (ad c, .inl (cA k, n, .inl (upd (hi c) j v))) = jg_ws cA ad sh (jg_u hi c j v) hl :=
  jg_set hc rfl (by rw [jg_en_a ht hk hk2 hn, jg_u_s]) (fun q hq => jg_en_c (jg_u_n hq) rfl)
theorem jg_fs_get {ad : Nat → Nat} {hr : Nat → Option Nat} {hi : Nat → Int32} {hl : Int64} {ci j : Nat} (h : j < jg_nf ci) : (jg_fs ad hr hi hl ci)[j]? = some (jg_fv ad hr hi hl (jg_ty ci j) j) := by
  simp [jg_fs, List.getElem?_range h]
def jg_isI (ty : FieldType) : Bool := match ty with
  | .long => false
  | .object _ => false
  | .array _ => false
  | _ => true
theorem jg_fv_i {ad : Nat → Nat} {hr : Nat → Option Nat} {hi : Nat → Int32} {hl : Int64} {ty : FieldType} {j : Nat} (h : jg_isI ty = true) : jg_fv ad hr hi hl ty j = .int (hi j) := by
  cases ty <;> first | rfl | cases h
theorem jg_fs_set {ad : Nat → Nat} {hr : Nat → Option Nat} {hi : Nat → Int32} {hl : Int64} {ci j : Nat} {v : Int32} (h : j < jg_nf ci) (hty : jg_isI (jg_ty ci j) = true) : (jg_fs ad hr hi hl ci).set j (.int v) = jg_fs ad hr (upd hi j v) hl ci := by
  apply List.ext_getElem?
  intro k
  by_cases hk : k = j
  · subst hk
    rw [List.getElem?_set_self (by simp [jg_fs, h]), jg_fs_get h, jg_fv_i hty]
    simp [upd]
  · rw [List.getElem?_set_ne (Ne.symm hk)]
    unfold jg_fs
    rw [List.getElem?_map, List.getElem?_map]
    by_cases hn : k < jg_nf ci
    · rw [List.getElem?_range hn]
      simp only [Option.map_some, Option.some.injEq]
      cases jg_ty ci k <;> simp [jg_fv, upd, hk]
    · simp [List.getElem?_eq_none (l := List.range (jg_nf ci)) (i := k) (by simp; omega)]
/-- a store into an int field -/
theorem jg_set_f {cA : Nat → ClassId} {ad : Nat → Nat} {sh : jg_Sh} {hi : jg_Hi} {hl : Nat → Int64} {c ci j : Nat} {v : Int32} (hc : c < sh.1) (ht : sh.2.1 c = ci) (hci : ci < 13) (hj : j < jg_nf ci) (hty : jg_isI (jg_ty ci j) = true) :
    (jg_ws cA ad sh hi hl).set c (ad c, .inr (ci, (jg_fs ad (sh.2.2.2 c) (hi c) (hl c) ci).set j (.int v))) = jg_ws cA ad sh (jg_u hi c j v) hl :=
  jg_set hc rfl (by rw [jg_en_o ht hci, jg_u_s, jg_fs_set hj hty]) (fun q hq => jg_en_c (jg_u_n hq) rfl)
