/-! THE ABSTRACT MACHINE'S RUN: it has a value exactly when some number of steps has one; unfolding; the order of what is made. -/
def ai_le (h h' : ai_H) : Prop := h.2.2.2.2.1 ≤ h'.2.2.2.2.1 ∧ h.2.2.2.2.2.1 ≤ h'.2.2.2.2.2.1 ∧ h.2.2.2.2.2.2 ≤ h'.2.2.2.2.2.2
theorem ai_le_rf (h : ai_H) : ai_le h h := ⟨Nat.le_refl _, Nat.le_refl _, Nat.le_refl _⟩
theorem ai_le_tr {h h' h'' : ai_H} (a : ai_le h h') (b : ai_le h' h'') : ai_le h h'' := ⟨Nat.le_trans a.1 b.1, Nat.le_trans a.2.1 b.2.1, Nat.le_trans a.2.2 b.2.2⟩
theorem ai_le_of {h h' : ai_H} (e : h'.2.2.2.2 = h.2.2.2.2) : ai_le h h' := by
  unfold ai_le; rw [e]; exact ⟨Nat.le_refl _, Nat.le_refl _, Nat.le_refl _⟩
theorem ai_le_new (h : ai_H) (q : Nat) (kd : Nat × Nat) (n : Nat) : ai_le h (ai_new h q kd n) := ⟨Nat.le_succ _, Nat.le_succ _, Nat.le_add_right _ _⟩
def ai_om (orc : ai_O) : Prop := ∀ mi As h r, orc mi As h = some r → ai_le h r.2
/-- a step's value comes from one later state, or from none -/
def ai_P (h0 : ai_H) (F : ai_K → Option ai_R) : Prop := ∀ (r : ai_R) (k : ai_K), F k = some r → (∃ st, ai_le h0 st.2.2.2 ∧ k st = some r ∧ ∀ k', k' st = some r → F k' = some r) ∨ (ai_le h0 r.2 ∧ ∀ k' : ai_K, F k' = some r)
theorem ai_P_k {h0 : ai_H} {st : ai_S} (hl : ai_le h0 st.2.2.2) : ai_P h0 (fun k => k st) := fun _ _ hk => Or.inl ⟨st, hl, hk, fun _ h => h⟩
theorem ai_P_none {h0 : ai_H} : ai_P h0 (fun _ => none) := fun _ _ hk => by cases hk
theorem ai_P_some {h0 : ai_H} {r0 : ai_R} (hl : ai_le h0 r0.2) : ai_P h0 (fun _ => some r0) := fun r k hk => by
  cases hk; exact Or.inr ⟨hl, fun _ => rfl⟩
theorem ai_P_ite {h0 : ai_H} {c : Prop} [Decidable c] {A B : ai_K → Option ai_R} (hA : ai_P h0 A) (hB : ai_P h0 B) : ai_P h0 (fun k => if c then A k else B k) := by
  intro r k hk
  by_cases h : c
  · simp only [if_pos h] at hk ⊢; exact hA r k hk
  · simp only [if_neg h] at hk ⊢; exact hB r k hk
theorem ai_P_bif {h0 : ai_H} {c : Bool} {A B : ai_K → Option ai_R} (hA : ai_P h0 A) (hB : ai_P h0 B) : ai_P h0 (fun k => bif c then A k else B k) := by
  cases c
  · exact hB
  · exact hA
theorem ai_P_ix {h0 : ai_H} {i : Int32} {n : Nat} {f : Nat → ai_K → Option ai_R} (hf : ∀ j, ai_P h0 (f j)) : ai_P h0 (fun k => ai_ix i n (fun j => f j k)) := by
  unfold ai_ix; exact ai_P_ite (hf _) ai_P_none
theorem ai_P_oo {h0 : ai_H} {o : Option Nat} {f : Nat → ai_K → Option ai_R} (hf : ∀ j, ai_P h0 (f j)) : ai_P h0 (fun k => ai_oo o (fun j => f j k)) := by
  cases o
  · exact ai_P_none
  · exact hf _
theorem ai_P_on {h0 : ai_H} {o : Option Nat} {f : Nat → ai_K → Option ai_R} {g : ai_K → Option ai_R} (hf : ∀ j, ai_P h0 (f j)) (hg : ai_P h0 g) : ai_P h0 (fun k => ai_on o (fun j => f j k) (g k)) := by
  cases o
  · exact hg
  · exact hf _
theorem ai_P_b01 {h0 : ai_H} {v : Int32} {A : ai_K → Option ai_R} (hA : ai_P h0 A) : ai_P h0 (fun k => ai_b01 v (A k)) := by
  unfold ai_b01; exact ai_P_ite hA ai_P_none
theorem ai_P_cp {h0 : ai_H} {sp dp n : Int32} {n0 n1 : Nat} {A : ai_K → Option ai_R} (hA : ai_P h0 A) : ai_P h0 (fun k => ai_cp sp dp n n0 n1 (A k)) := by
  unfold ai_cp; exact ai_P_ite hA ai_P_none
theorem ai_P_if {h0 : ai_H} {c : ClassFile.Cond} {x y : Int32} {A B : ai_K → Option ai_R} (hA : ai_P h0 A) (hB : ai_P h0 B) : ai_P h0 (fun k => ai_if c x y (A k) (B k)) := by
  cases c <;> unfold ai_if <;> dsimp only <;> first | exact ai_P_ite hA hB | exact ai_P_ite hB hA
theorem ai_P_bi {h0 : ai_H} {o : Option ai_R} {f : Int32 → ai_H → ai_K → Option ai_R} (ho : ∀ r, o = some r → ai_le h0 r.2) (hf : ∀ v h, ai_le h0 h → ai_P h0 (f v h)) : ai_P h0 (fun k => ai_bi o (fun v h => f v h k)) := by
  unfold ai_bi
  rcases o with _ | ⟨l, h⟩
  · exact ai_P_none
  · have := ho _ rfl
    rcases l with _ | ⟨v | v, l⟩
    · exact ai_P_none
    · rcases l with _ | ⟨w, l⟩
      · exact hf v h this
      · exact ai_P_none
    · exact ai_P_none
theorem ai_P_bv {h0 : ai_H} {o : Option ai_R} {f : ai_H → ai_K → Option ai_R} (ho : ∀ r, o = some r → ai_le h0 r.2) (hf : ∀ h, ai_le h0 h → ai_P h0 (f h)) : ai_P h0 (fun k => ai_bv o (fun h => f h k)) := by
  unfold ai_bv
  rcases o with _ | ⟨l, h⟩
  · exact ai_P_none
  · have := ho _ rfl
    rcases l with _ | ⟨v, l⟩
    · exact hf h this
    · exact ai_P_none
theorem ai_P_br {h0 : ai_H} {o : Option ai_R} {f : Nat → Nat → Nat → ai_H → ai_K → Option ai_R} (ho : ∀ r, o = some r → ai_le h0 r.2) (hf : ∀ t n a h, ai_le h0 h → ai_P h0 (f t n a h)) : ai_P h0 (fun k => ai_br o (fun t n a h => f t n a h k)) := by
  unfold ai_br
  rcases o with _ | ⟨l, h⟩
  · exact ai_P_none
  · have := ho _ rfl
    rcases l with _ | ⟨v | v | ⟨t, n, a⟩, l⟩
    · exact ai_P_none
    · exact ai_P_none
    · exact ai_P_none
    · rcases l with _ | ⟨w, l⟩
      · exact hf t n a h this
      · exact ai_P_none
theorem ai_P_sw {d lo : Int} {os : List Int} {pc : Nat} {q : Int} {L : List (Option ai_V)} {S : List ai_V} {h : ai_H} {x : Int32} : ai_P h (ai_sw d lo os pc q L S h x) := by
  induction os generalizing q with
  | nil => exact ai_P_k (ai_le_rf _)
  | cons o os ih => exact ai_P_ite (ai_P_k (ai_le_rf _)) ih
theorem ai_P_inv {orc : ai_O} (ho : ai_om orc) {r : ai_Mr} {pc : Nat} {L : List (Option ai_V)} {As S : List ai_V} {h : ai_H} : ai_P h (ai_inv orc r pc L As S h) := by
  obtain ⟨a, mi, c, t, q⟩ := r
  rcases q with _ | q
  · exact ai_P_bv (ho _ _ _) (fun h hl => ai_P_k hl)
  · rcases q with _ | q
    · exact ai_P_bi (ho _ _ _) (fun v h hl => ai_P_k hl)
    · exact ai_P_br (ho _ _ _) (fun t n a h hl => ai_P_k hl)
theorem ai_P_rcv {h0 : ai_H} {t : Nat} {As : List ai_V} {A : ai_K → Option ai_R} (hA : ai_P h0 A) : ai_P h0 (fun k => ai_rcv t As (A k)) := by
  unfold ai_rcv
  rcases As with _ | ⟨v | v | ⟨t', n, a⟩, l⟩
  · exact ai_P_none
  · exact ai_P_none
  · exact ai_P_none
  · exact ai_P_ite hA ai_P_none
theorem ai_le_dupA (h : ai_H) (a n : Nat) : ai_le h (ai_dupA h a n) := ⟨Nat.le_succ _, Nat.le_succ _, Nat.le_add_right _ _⟩
theorem ai_P_nw {h0 : ai_H} {ct : Option (List (Nat × Nat))} {pc : Nat} {L : List (Option ai_V)} {h : ai_H} {f : Nat → ai_K → Option ai_R} (hf : ∀ n, ai_P h0 (f n)) : ai_P h0 (fun k => ai_nw ct pc L h (fun n => f n k)) := by
  unfold ai_nw
  cases ct with
  | none => exact hf _
  | some hs =>
    dsimp only
    cases ai_lk hs pc with
    | none => exact hf _
    | some j =>
      dsimp only
      rcases L with _ | ⟨_ | v | v | ⟨t, l, a⟩, L⟩
      · exact ai_P_none
      · exact ai_P_none
      · exact ai_P_none
      · exact ai_P_none
      · exact ai_P_bif (ai_P_ite (hf _) ai_P_none) ai_P_none
theorem ai_P_call {orc : ai_O} (ho : ai_om orc) {mt : Nat → Option ai_Mr} {kinds : List Nat} {idx : Nat} {st : ai_S} : ai_P st.2.2.2 (ai_call orc mt kinds idx st) := by
  obtain ⟨pc, L, S, h⟩ := st
  intro r k hk
  unfold ai_call at hk ⊢
  dsimp only at hk ⊢
  split at hk
  · rename_i r0 e0
    cases hb : (ai_mem kinds r0.1 && Nat.ble (ai_cats S) 8) with
    | false => rw [hb] at hk; cases hk
    | true =>
      rw [hb] at hk
      simp only [cond_true] at hk ⊢
      split at hk
      · rename_i e1
        split at hk
        · rename_i e2
          exact ai_P_rcv (ai_P_inv ho) r k hk
        · cases hk
      · rename_i e1
        split at hk
        · rename_i e2
          exact ai_P_inv ho r k hk
        · cases hk
      · rename_i e1
        split at hk
        · exact ai_P_k (ai_le_rf _) r k hk
        · cases hk
      · rename_i e1
        split at hk
        · exact ai_P_k (ai_le_rf _) r k hk
        · cases hk
      · rename_i e1
        split at hk
        · exact ai_P_k (ai_le_rf _) r k hk
        · cases hk
      · rename_i e1
        split at hk
        · exact ai_P_cp (ai_P_k (ai_le_of rfl)) r k hk
        · cases hk
      · split at hk
        · exact ai_P_bif (ai_P_k (ai_le_of rfl)) ai_P_none r k hk
        · cases hk
      · split at hk
        · exact ai_P_k (ai_le_dupA _ _ _) r k hk
        · cases hk
      · split at hk
        · exact ai_P_bif (ai_P_ite (ai_P_bv (ho _ _ _) (fun h hl => ai_P_ite (ai_P_k (ai_le_tr hl (ai_le_of rfl))) ai_P_none)) ai_P_none) ai_P_none r k hk
        · cases hk
      · cases hk
  · cases hk
theorem ai_P_push {n : Nat} {v : ai_V} {st : ai_S} : ai_P st.2.2.2 (ai_push n v st) := ai_P_k (st := (st.1 + n, st.2.1, v :: st.2.2.1, st.2.2.2)) (ai_le_rf _)
theorem ai_P_gf {r : ai_Fr} {h : ai_H} {a : Nat} {f : ai_V → ai_K → Option ai_R} (hf : ∀ v, ai_P h (f v)) : ai_P h (fun k => ai_gf r h a (fun v => f v k)) := by
  obtain ⟨c, j, q, x, n⟩ := r
  match q with
  | 0 => exact hf _
  | 1 => exact hf _
  | 2 => exact hf _
  | 3 => exact hf _
  | 4 => exact hf _
  | 5 => exact hf _
  | 6 => exact ai_P_oo (fun _ => hf _)
  | 7 => exact ai_P_oo (fun _ => hf _)
  | 8 => exact hf _
  | 9 => exact hf _
  | q + 10 => exact ai_P_none
theorem ai_cst_P (f : ai_V → Bool) (tbo : Option ai_V) (n : Nat) (st : ai_S) : ai_P st.2.2.2 (ai_cst f tbo n st) := by
  cases tbo with
  | none => exact ai_P_none
  | some v => exact ai_P_bif ai_P_push ai_P_none
theorem ai_ild_P (n i : Nat) (st : ai_S) : ai_P st.2.2.2 (ai_ild n i st) := by
  obtain ⟨pc, L, S, h⟩ := st
  intro r k hk
  unfold ai_ild at hk ⊢
  dsimp only at hk ⊢
  split at hk <;> (first | (cases hk; done) | skip) <;> (first | cases hk | exact ai_P_k (ai_le_of rfl) r k hk)
theorem ai_lld_P (n i : Nat) (st : ai_S) : ai_P st.2.2.2 (ai_lld n i st) := by
  obtain ⟨pc, L, S, h⟩ := st
  intro r k hk
  unfold ai_lld at hk ⊢
  dsimp only at hk ⊢
  split at hk <;> (first | (cases hk; done) | skip) <;> (first | cases hk | exact ai_P_k (ai_le_of rfl) r k hk)
theorem ai_ald_P (n i : Nat) (st : ai_S) : ai_P st.2.2.2 (ai_ald n i st) := by
  obtain ⟨pc, L, S, h⟩ := st
  intro r k hk
  unfold ai_ald at hk ⊢
  dsimp only at hk ⊢
  split at hk <;> (first | (cases hk; done) | skip) <;> (first | cases hk | exact ai_P_k (ai_le_of rfl) r k hk)
theorem ai_ist_P (n i : Nat) (st : ai_S) : ai_P st.2.2.2 (ai_ist n i st) := by
  obtain ⟨pc, L, S, h⟩ := st
  intro r k hk
  unfold ai_ist at hk ⊢
  dsimp only at hk ⊢
  split at hk <;> first | (cases hk; done) | (rename_i e; cases e; exact ai_P_bif (ai_P_k (ai_le_of rfl)) ai_P_none r k hk) | exact ai_P_bif (ai_P_k (ai_le_of rfl)) ai_P_none r k hk
theorem ai_ast_P (n i : Nat) (st : ai_S) : ai_P st.2.2.2 (ai_ast n i st) := by
  obtain ⟨pc, L, S, h⟩ := st
  intro r k hk
  unfold ai_ast at hk ⊢
  dsimp only at hk ⊢
  split at hk <;> first | (cases hk; done) | (rename_i e; cases e; exact ai_P_bif (ai_P_k (ai_le_of rfl)) ai_P_none r k hk) | exact ai_P_bif (ai_P_k (ai_le_of rfl)) ai_P_none r k hk
theorem ai_iinc_P (i : Nat) (c : Int) (st : ai_S) : ai_P st.2.2.2 (ai_iinc i c st) := by
  obtain ⟨pc, L, S, h⟩ := st
  intro r k hk
  unfold ai_iinc at hk ⊢
  dsimp only at hk ⊢
  split at hk <;> (first | (cases hk; done) | skip) <;> (first | cases hk | exact ai_P_bif (ai_P_k (ai_le_of rfl)) ai_P_none r k hk)
theorem ai_bin_P (f : Int32 → Int32 → Int32) (st : ai_S) : ai_P st.2.2.2 (ai_bin f st) := by
  obtain ⟨pc, L, S, h⟩ := st
  intro r k hk
  unfold ai_bin at hk ⊢
  dsimp only at hk ⊢
  split at hk <;> first | (cases hk; done) | (rename_i e; cases e; exact ai_P_k (ai_le_of rfl) r k hk) | exact ai_P_k (ai_le_of rfl) r k hk
theorem ai_binD_P (f : Int32 → Int32 → Int32) (st : ai_S) : ai_P st.2.2.2 (ai_binD f st) := by
  obtain ⟨pc, L, S, h⟩ := st
  intro r k hk
  unfold ai_binD at hk ⊢
  dsimp only at hk ⊢
  split at hk <;> first | (cases hk; done) | (rename_i e; cases e; exact ai_P_ite ai_P_none (ai_P_k (ai_le_of rfl)) r k hk) | exact ai_P_ite ai_P_none (ai_P_k (ai_le_of rfl)) r k hk
theorem ai_binL_P (f : Int64 → Int64 → Int64) (st : ai_S) : ai_P st.2.2.2 (ai_binL f st) := by
  obtain ⟨pc, L, S, h⟩ := st
  intro r k hk
  unfold ai_binL at hk ⊢
  dsimp only at hk ⊢
  split at hk <;> first | (cases hk; done) | (rename_i e; cases e; exact ai_P_k (ai_le_of rfl) r k hk) | exact ai_P_k (ai_le_of rfl) r k hk
theorem ai_un_P (f : Int32 → Int32) (st : ai_S) : ai_P st.2.2.2 (ai_un f st) := by
  obtain ⟨pc, L, S, h⟩ := st
  intro r k hk
  unfold ai_un at hk ⊢
  dsimp only at hk ⊢
  split at hk <;> first | (cases hk; done) | (rename_i e; cases e; exact ai_P_k (ai_le_of rfl) r k hk) | exact ai_P_k (ai_le_of rfl) r k hk
theorem ai_i2l_P  (st : ai_S) : ai_P st.2.2.2 (ai_i2l st) := by
  obtain ⟨pc, L, S, h⟩ := st
  intro r k hk
  unfold ai_i2l at hk ⊢
  dsimp only at hk ⊢
  split at hk <;> first | (cases hk; done) | (rename_i e; cases e; exact ai_P_k (ai_le_of rfl) r k hk) | exact ai_P_k (ai_le_of rfl) r k hk
theorem ai_lcmp_P  (st : ai_S) : ai_P st.2.2.2 (ai_lcmp st) := by
  obtain ⟨pc, L, S, h⟩ := st
  intro r k hk
  unfold ai_lcmp at hk ⊢
  dsimp only at hk ⊢
  split at hk <;> first | (cases hk; done) | (rename_i e; cases e; exact ai_P_k (ai_le_of rfl) r k hk) | exact ai_P_k (ai_le_of rfl) r k hk
theorem ai_icmp_P (c : ClassFile.Cond) (o : Int) (st : ai_S) : ai_P st.2.2.2 (ai_icmp c o st) := by
  obtain ⟨pc, L, S, h⟩ := st
  intro r k hk
  unfold ai_icmp at hk ⊢
  dsimp only at hk ⊢
  split at hk <;> first | (cases hk; done) | (rename_i e; cases e; (refine ai_P_if ?_ ?_ r k hk <;> exact ai_P_k (ai_le_of rfl))) | (refine ai_P_if ?_ ?_ r k hk <;> exact ai_P_k (ai_le_of rfl))
theorem ai_ifz_P (c : ClassFile.Cond) (o : Int) (st : ai_S) : ai_P st.2.2.2 (ai_ifz c o st) := by
  obtain ⟨pc, L, S, h⟩ := st
  intro r k hk
  unfold ai_ifz at hk ⊢
  dsimp only at hk ⊢
  split at hk <;> first | (cases hk; done) | (rename_i e; cases e; (refine ai_P_if ?_ ?_ r k hk <;> exact ai_P_k (ai_le_of rfl))) | (refine ai_P_if ?_ ?_ r k hk <;> exact ai_P_k (ai_le_of rfl))
theorem ai_ifn_P (b : Bool) (o : Int) (st : ai_S) : ai_P st.2.2.2 (ai_ifn b o st) := by
  obtain ⟨pc, L, S, h⟩ := st
  rcases S with _ | ⟨v | v | ⟨t, n, a⟩, S⟩
  · exact ai_P_none
  · exact ai_P_none
  · exact ai_P_none
  · intro r k hk
    unfold ai_ifn at hk ⊢
    dsimp only at hk ⊢
    by_cases h0 : t = 0
    · simp only [if_pos h0] at hk ⊢; exact ai_P_k (ai_le_of rfl) r k hk
    · simp only [if_neg h0] at hk ⊢; exact ai_P_bif ai_P_none (ai_P_k (ai_le_of rfl)) r k hk
theorem ai_tsw_P (d lo : Int) (os : Array Int) (st : ai_S) : ai_P st.2.2.2 (ai_tsw d lo os st) := by
  obtain ⟨pc, L, S, h⟩ := st
  intro r k hk
  unfold ai_tsw at hk ⊢
  dsimp only at hk ⊢
  split at hk <;> first | (cases hk; done) | (rename_i e; cases e; exact ai_P_sw r k hk) | exact ai_P_sw r k hk
theorem ai_iald_P (sc : Option (Nat × (Nat → Int32))) (st : ai_S) : ai_P st.2.2.2 (ai_iald sc st) := by
  obtain ⟨pc, L, S, h⟩ := st
  intro r k hk
  unfold ai_iald at hk ⊢
  dsimp only at hk ⊢
  split at hk <;> first | (rename_i e; cases e; cases sc with
      | none => cases hk
      | some xs => exact ai_P_ix (fun _ => ai_P_k (ai_le_of rfl)) r k hk) | (cases hk; done) | (rename_i e; cases e; exact ai_P_ix (fun _ => ai_P_k (ai_le_of rfl)) r k hk) | exact ai_P_ix (fun _ => ai_P_k (ai_le_of rfl)) r k hk
theorem ai_bald_P  (st : ai_S) : ai_P st.2.2.2 (ai_bald st) := by
  obtain ⟨pc, L, S, h⟩ := st
  intro r k hk
  unfold ai_bald at hk ⊢
  dsimp only at hk ⊢
  split at hk <;> first | (cases hk; done) | (rename_i e; cases e; exact ai_P_ix (fun _ => ai_P_k (ai_le_of rfl)) r k hk) | exact ai_P_ix (fun _ => ai_P_k (ai_le_of rfl)) r k hk
theorem ai_aald_P  (st : ai_S) : ai_P st.2.2.2 (ai_aald st) := by
  obtain ⟨pc, L, S, h⟩ := st
  intro r k hk
  unfold ai_aald at hk ⊢
  dsimp only at hk ⊢
  split at hk <;> first | (cases hk; done) | (rename_i e; cases e; (refine ai_P_ix (fun _ => ?_) r k hk; refine ai_P_on (fun _ => ?_) ?_ <;> exact ai_P_k (ai_le_of rfl))) | (refine ai_P_ix (fun _ => ?_) r k hk; refine ai_P_on (fun _ => ?_) ?_ <;> exact ai_P_k (ai_le_of rfl))
theorem ai_iast_P  (st : ai_S) : ai_P st.2.2.2 (ai_iast st) := by
  obtain ⟨pc, L, S, h⟩ := st
  intro r k hk
  unfold ai_iast at hk ⊢
  dsimp only at hk ⊢
  split at hk <;> first | (cases hk; done) | (rename_i e; cases e; exact ai_P_ix (fun _ => ai_P_k (ai_le_of rfl)) r k hk) | exact ai_P_ix (fun _ => ai_P_k (ai_le_of rfl)) r k hk
theorem ai_bast_P  (st : ai_S) : ai_P st.2.2.2 (ai_bast st) := by
  obtain ⟨pc, L, S, h⟩ := st
  intro r k hk
  unfold ai_bast at hk ⊢
  dsimp only at hk ⊢
  split at hk <;> first | (cases hk; done) | (rename_i e; cases e; exact ai_P_ix (fun _ => ai_P_k (ai_le_of rfl)) r k hk) | exact ai_P_ix (fun _ => ai_P_k (ai_le_of rfl)) r k hk
theorem ai_aast_P  (st : ai_S) : ai_P st.2.2.2 (ai_aast st) := by
  obtain ⟨pc, L, S, h⟩ := st
  intro r k hk
  unfold ai_aast at hk ⊢
  dsimp only at hk ⊢
  split at hk <;> first | (cases hk; done) | (rename_i e; cases e; exact ai_P_ite (ai_P_ix (fun _ => ai_P_k (ai_le_of rfl))) ai_P_none r k hk) | exact ai_P_ite (ai_P_ix (fun _ => ai_P_k (ai_le_of rfl))) ai_P_none r k hk
theorem ai_alen_P (sc : Option (Nat × (Nat → Int32))) (st : ai_S) : ai_P st.2.2.2 (ai_alen sc st) := by
  obtain ⟨pc, L, S, h⟩ := st
  intro r k hk
  unfold ai_alen at hk ⊢
  dsimp only at hk ⊢
  split at hk
  · rename_i e; cases e; cases sc with
      | none => cases hk
      | some xs => exact ai_P_k (ai_le_of rfl) r k hk
  · rename_i e; cases e; exact ai_P_k (ai_le_of rfl) r k hk
  · rename_i e
    cases e
    exact ai_P_bif (ai_P_k (ai_le_of rfl)) ai_P_none r k hk
  · cases hk
theorem ai_dup_P  (st : ai_S) : ai_P st.2.2.2 (ai_dup st) := by
  obtain ⟨pc, L, S, h⟩ := st
  intro r k hk
  unfold ai_dup at hk ⊢
  dsimp only at hk ⊢
  split at hk <;> first | (cases hk; done) | (rename_i e; cases e; exact ai_P_k (ai_le_of rfl) r k hk) | exact ai_P_k (ai_le_of rfl) r k hk
theorem ai_dup2_P  (st : ai_S) : ai_P st.2.2.2 (ai_dup2 st) := by
  obtain ⟨pc, L, S, h⟩ := st
  intro r k hk
  unfold ai_dup2 at hk ⊢
  dsimp only at hk ⊢
  split at hk <;> first | (cases hk; done) | (rename_i e; cases e; exact ai_P_k (ai_le_of rfl) r k hk) | exact ai_P_k (ai_le_of rfl) r k hk
theorem ai_getf_P (fl : Nat → Option ai_Fr) (n : Nat) (st : ai_S) : ai_P st.2.2.2 (ai_getf fl n st) := by
  obtain ⟨pc, L, S, h⟩ := st
  rcases S with _ | ⟨v | v | ⟨t, l, a⟩, S⟩
  · exact ai_P_none
  · exact ai_P_none
  · exact ai_P_none
  · intro r k hk
    unfold ai_getf at hk ⊢
    dsimp only at hk ⊢
    cases e : fl n with
    | none => rw [e] at hk; cases hk
    | some r0 =>
      rw [e] at hk
      dsimp only at hk ⊢
      exact ai_P_bif (ai_P_gf (f := fun v k => k (_, _, v :: _, _)) (fun v => ai_P_k (ai_le_of rfl))) ai_P_none r k hk
theorem ai_rawP_P {h : ai_H} {a : Nat} {q : ai_Fr} {v : ai_V} {f : ai_H → ai_K → Option ai_R} (hf : ∀ h', h'.2.2.2.2 = h.2.2.2.2 → ai_P h (f h')) : ai_P h (fun k => ai_rawP h a q v (fun h' => f h' k)) := by
  intro r k hk
  unfold ai_rawP at hk ⊢
  split at hk <;> (try dsimp only at hk ⊢) <;> first | (cases hk; done) | exact hf _ (by rfl) r k hk | exact ai_P_b01 (A := fun k => f _ k) (hf _ (by rfl)) r k hk | exact ai_P_bif (A := fun k => f _ k) (hf _ (by rfl)) ai_P_none r k hk
theorem ai_putf_P (ct : Option (List (Nat × Nat))) (fl : Nat → Option ai_Fr) (n : Nat) (st : ai_S) : ai_P st.2.2.2 (ai_putf ct fl n st) := by
  obtain ⟨pc, L, S, h⟩ := st
  intro r k hk
  unfold ai_putf at hk ⊢
  dsimp only at hk ⊢
  split at hk
  · rename_i e
    cases e
    split at hk
    · rename_i t l a S x r0 e0
      cases hb : Nat.beq t (20 + r0.1) with
      | false =>
        rw [hb] at hk
        simp only [cond_false] at hk ⊢
        cases hb2 : (ct.isSome && Nat.beq t (40 + r0.1)) with
        | false => rw [hb2] at hk; cases hk
        | true =>
          rw [hb2] at hk
          simp only [cond_true] at hk ⊢
          by_cases hc : (h.2.2.2.1 a).1 = t
          · rw [if_pos hc] at hk
            simp only [if_pos hc]
            exact ai_rawP_P (f := fun h k => k (_, _, _, h)) (fun h' e => ai_P_k (ai_le_of e)) r k hk
          · rw [if_neg hc] at hk; cases hk
      | true =>
        rw [hb] at hk
        simp only [cond_true] at hk ⊢
        split at hk <;> first | cases hk | exact ai_P_k (ai_le_of rfl) r k hk | exact ai_P_b01 (ai_P_k (ai_le_of rfl)) r k hk | exact ai_P_ite (ai_P_k (ai_le_of rfl)) ai_P_none r k hk
    · cases hk
  · cases hk
theorem ai_newo_P (ct : Option (List (Nat × Nat))) (cl : Nat → Option (Nat × Nat)) (n : Nat) (st : ai_S) : ai_P st.2.2.2 (ai_newo ct cl n st) := by
  obtain ⟨pc, L, S, h⟩ := st
  intro r k hk
  unfold ai_newo at hk ⊢
  dsimp only at hk ⊢
  split at hk
  · rename_i e0
    exact ai_P_nw (fun _ => ai_P_k (ai_le_new _ _ _ _)) r k hk
  · cases hk
theorem ai_mkA_P (ct : Option (List (Nat × Nat))) (len kk : Nat) (m : Int32) (pc : Nat) (L : List (Option ai_V)) (S : List ai_V) (h : ai_H) : ai_P h (ai_mkA ct len kk m pc L S h) := by
  unfold ai_mkA
  exact ai_P_ite ai_P_none (ai_P_nw (fun _ => ai_P_k (ai_le_new _ _ _ _)))
theorem ai_newa_P (ct : Option (List (Nat × Nat))) (kk : Nat) (st : ai_S) : ai_P st.2.2.2 (ai_newa ct kk st) := by
  obtain ⟨pc, L, S, h⟩ := st
  intro r k hk
  unfold ai_newa at hk ⊢
  dsimp only at hk ⊢
  split at hk
  · rename_i e; cases e; exact ai_mkA_P _ _ _ _ _ _ _ _ r k hk
  · cases hk
theorem ai_newA_P (ct : Option (List (Nat × Nat))) (cl : Nat → Option (Nat × Nat)) (n : Nat) (st : ai_S) : ai_P st.2.2.2 (ai_newA ct cl n st) := by
  obtain ⟨pc, L, S, h⟩ := st
  intro r k hk
  unfold ai_newA at hk ⊢
  dsimp only at hk ⊢
  split at hk
  · rename_i e; cases e
    split at hk
    · exact ai_P_bif (ai_mkA_P _ _ _ _ _ _ _ _) (ai_P_bif (ai_mkA_P _ _ _ _ _ _ _ _) ai_P_none) r k hk
    · cases hk
  · cases hk
theorem ai_cast_P (st : ai_S) : ai_P st.2.2.2 (ai_cast st) := by
  obtain ⟨pc, L, S, h⟩ := st
  intro r k hk
  unfold ai_cast at hk ⊢
  dsimp only at hk ⊢
  split at hk
  · rename_i e; cases e; exact ai_P_k (ai_le_of rfl) r k hk
  · cases hk
theorem ai_pop_P (st : ai_S) : ai_P st.2.2.2 (ai_pop st) := by
  obtain ⟨pc, L, S, h⟩ := st
  intro r k hk
  unfold ai_pop at hk ⊢
  dsimp only at hk ⊢
  split at hk <;> first | (cases hk; done) | (rename_i e; cases e; exact ai_P_k (ai_le_of rfl) r k hk) | exact ai_P_k (ai_le_of rfl) r k hk
theorem ai_gst_P (o : Option ai_V) (st : ai_S) : ai_P st.2.2.2 (ai_gst o st) := by
  intro r k hk
  unfold ai_gst at hk ⊢
  split at hk <;> first | (cases hk; done) | exact ai_P_push r k hk
theorem ai_ret_P (b : Nat) (st : ai_S) : ai_P st.2.2.2 (fun _ => ai_ret b st) := by
  obtain ⟨pc, L, S, h⟩ := st
  intro r k hk
  unfold ai_ret at hk ⊢
  dsimp only at hk ⊢
  split at hk
  · rename_i e
    cases e
    split at hk
    · exact ai_P_some (ai_le_rf _) r k hk
    · exact ai_P_b01 (ai_P_some (ai_le_rf _)) r k hk
    · exact ai_P_ite (ai_P_some (ai_le_rf _)) ai_P_none r k hk
  · cases hk
theorem ai_aret_P (st : ai_S) : ai_P st.2.2.2 (fun _ => ai_aret st) := by
  obtain ⟨pc, L, S, h⟩ := st
  intro r k hk
  unfold ai_aret at hk ⊢
  dsimp only at hk ⊢
  split at hk <;> first | (cases hk; done) | (rename_i e; cases e; exact ai_P_some (ai_le_rf _) r k hk)
theorem ai_vret_P (st : ai_S) : ai_P st.2.2.2 (fun _ => ai_vret st) := by
  obtain ⟨pc, L, S, h⟩ := st
  intro r k hk
  unfold ai_vret at hk ⊢
  dsimp only at hk ⊢
  split at hk <;> first | (rename_i e; cases e; exact ai_P_some (ai_le_rf _) r k hk) | (cases hk; done)
theorem ai_P_sem {orc : ai_O} (ho : ai_om orc) {tb : ai_Tb} {rt : Nat} {i : ClassFile.Instr} {st : ai_S} : ai_P st.2.2.2 (ai_sem orc tb rt i st) := by
  by_cases hn : ∃ t, i = .newarray t
  · obtain ⟨t, rfl⟩ := hn
    unfold ai_sem
    cases t <;> dsimp only <;> first | exact ai_newa_P _ _ _ | exact ai_P_none
  cases i <;> (try exact absurd ⟨_, rfl⟩ hn) <;> unfold ai_sem <;> dsimp only <;> first
    | exact ai_P_none
    | exact ai_P_push
    | exact ai_P_call ho
    | exact ai_cst_P _ _ _ _
    | exact ai_ild_P _ _ _
    | exact ai_lld_P _ _ _
    | exact ai_ald_P _ _ _
    | exact ai_ist_P _ _ _
    | exact ai_ast_P _ _ _
    | exact ai_iinc_P _ _ _
    | exact ai_bin_P _ _
    | exact ai_binD_P _ _
    | exact ai_binL_P _ _
    | exact ai_un_P _ _
    | exact ai_i2l_P _
    | exact ai_lcmp_P _
    | exact ai_icmp_P _ _ _
    | exact ai_ifz_P _ _ _
    | exact ai_ifn_P _ _ _
    | exact ai_tsw_P _ _ _ _
    | exact ai_iald_P _ _
    | exact ai_bald_P _
    | exact ai_aald_P _
    | exact ai_iast_P _
    | exact ai_bast_P _
    | exact ai_aast_P _
    | exact ai_alen_P _ _
    | exact ai_dup_P _
    | exact ai_dup2_P _
    | exact ai_getf_P _ _ _
    | exact ai_putf_P _ _ _ _
    | exact ai_newo_P _ _ _ _
    | exact ai_newA_P _ _ _ _
    | exact ai_cast_P _
    | exact ai_pop_P _
    | exact ai_gst_P _ _
    | exact ai_ret_P _ _
    | exact ai_aret_P _
    | exact ai_vret_P _
    | exact ai_P_k (ai_le_rf _)
theorem ai_P_step {orc : ai_O} (ho : ai_om orc) {tb : ai_Tb} {rt : Nat} {cd : List (Nat × ClassFile.Instr)} {st : ai_S} : ai_P st.2.2.2 (ai_step orc tb rt cd st) := by
  unfold ai_step
  split
  · exact ai_P_sem ho
  · exact ai_P_none
section EX
variable {orc : ai_O} (ho : ai_om orc) {tb : ai_Tb} {rt : Nat} {cd : List (Nat × ClassFile.Instr)}
theorem ai_it_up (ho : ai_om orc) (n : Nat) : ∀ (st : ai_S) (r : ai_R), ai_it orc tb rt cd n st = some r → ai_it orc tb rt cd (n + 1) st = some r := by
  induction n with
  | zero => intro st r h; cases h
  | succ n ih =>
    intro st r h
    rcases ai_P_step ho r _ h with ⟨st', -, h1, h2⟩ | ⟨-, h2⟩
    · exact h2 _ (ih _ _ h1)
    · exact h2 _
theorem ai_it_le (ho : ai_om orc) {n m : Nat} (h : n ≤ m) {st : ai_S} {r : ai_R} (e : ai_it orc tb rt cd n st = some r) : ai_it orc tb rt cd m st = some r := by
  induction h with
  | refl => exact e
  | step _ ih => exact ai_it_up ho _ _ _ ih
theorem ai_it_m (ho : ai_om orc) (n : Nat) : ∀ (st : ai_S) (r : ai_R), ai_it orc tb rt cd n st = some r → ai_le st.2.2.2 r.2 := by
  induction n with
  | zero => intro st r h; cases h
  | succ n ih =>
    intro st r h
    rcases ai_P_step ho r _ h with ⟨st', hl, h1, -⟩ | ⟨hl, -⟩
    · exact ai_le_tr hl (ih _ _ h1)
    · exact hl
end EX
theorem ai_ex_iff {orc : ai_O} (ho : ai_om orc) {m : ai_Mi} {st : ai_S} {r : ai_R} : ai_ex orc m st = some r ↔ ∃ n, ai_it orc m.1 m.2.1 m.2.2.2 n st = some r := by
  unfold ai_ex
  by_cases h : ∃ n r, ai_it orc m.1 m.2.1 m.2.2.2 n st = some r
  · rw [dif_pos h]
    have h1 := Classical.choose_spec (Classical.choose_spec h)
    generalize Classical.choose (Classical.choose_spec h) = r0 at h1 ⊢
    generalize Classical.choose h = n0 at h1
    constructor
    · intro e; cases e; exact ⟨n0, h1⟩
    · rintro ⟨n, hn⟩
      have e1 := ai_it_le ho (Nat.le_max_left n0 n) h1
      have e2 := ai_it_le ho (Nat.le_max_right n0 n) hn
      rw [e1] at e2; exact e2
  · rw [dif_neg h]
    constructor
    · intro e; cases e
    · rintro ⟨n, hn⟩; exact absurd ⟨n, r, hn⟩ h
theorem ai_opt {a b : Option ai_R} (h : ∀ r, a = some r ↔ b = some r) : a = b := by
  cases a with
  | none => cases b with
    | none => rfl
    | some y => exact (h y).mpr rfl
  | some x => exact ((h x).mp rfl).symm
theorem ai_ex_step {orc : ai_O} (ho : ai_om orc) {m : ai_Mi} {st : ai_S} : ai_ex orc m st = ai_step orc m.1 m.2.1 m.2.2.2 st (ai_ex orc m) := by
  refine ai_opt fun r => ?_
  rw [ai_ex_iff ho]
  constructor
  · rintro ⟨n, hn⟩
    rcases n with _ | n
    · cases hn
    · rcases ai_P_step ho r _ hn with ⟨st', -, h1, h2⟩ | ⟨-, h2⟩
      · exact h2 _ ((ai_ex_iff ho).mpr ⟨n, h1⟩)
      · exact h2 _
  · intro h
    rcases ai_P_step ho r _ h with ⟨st', -, h1, h2⟩ | ⟨-, h2⟩
    · obtain ⟨n, hn⟩ := (ai_ex_iff ho).mp h1
      exact ⟨n + 1, h2 _ hn⟩
    · exact ⟨1, h2 _⟩
theorem ai_ex_go {orc : ai_O} (ho : ai_om orc) {m : ai_Mi} (cut : List Nat) (n : Nat) : ∀ st : ai_S, ai_ex orc m st = ai_go orc m.1 m.2.1 m.2.2.2 cut (ai_ex orc m) n st := by
  induction n with
  | zero => intro st; rfl
  | succ n ih =>
    intro st
    unfold ai_go
    cases ai_mem cut st.1
    · show _ = ai_step orc m.1 m.2.1 m.2.2.2 st (ai_go orc m.1 m.2.1 m.2.2.2 cut (ai_ex orc m) n)
      rw [ai_ex_step ho, show ai_go orc m.1 m.2.1 m.2.2.2 cut (ai_ex orc m) n = ai_ex orc m from funext fun st => (ih st).symm]
    · rfl
theorem ai_ex_m {orc : ai_O} (ho : ai_om orc) {m : ai_Mi} {st : ai_S} {r : ai_R} (h : ai_ex orc m st = some r) : ai_le st.2.2.2 r.2 := by
  obtain ⟨n, hn⟩ := (ai_ex_iff ho).mp h
  exact ai_it_m ho n _ _ hn
