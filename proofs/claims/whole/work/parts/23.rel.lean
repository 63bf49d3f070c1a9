/-! WHAT THE CLASS'S CELLS HOLD, BY THE REFERENCE'S: a view of the reference's rows and scalars; the class's part of the heap told by it. -/
abbrev zMu : Type := (Nat → Nat → Int32) × (Nat → Int32)
/-- the reference's rows and scalars -/
def zMv (h : ai_H) : zMu := (fun f i => if f < 50 ∨ (63 ≤ f ∧ f < 67) then h.1 (2064385 + f) i else 0, fun j => if j < 50 then h.1 16128 j else 0)
def zst (f : Nat) : Nat := if f < 10 then 1 else if f < 18 then 24 else if f = 18 then 40 else if f = 19 then 30 else if f = 20 then 20 else if f = 21 then 5 else if f < 27 then 600 else 40
/-- a slice: now (0), or an image -/
def zsl (μ : zMu) (k : Nat) : Nat → Nat → Int32 := fun f i => μ.1 f (zst f * k + i)
def zn (σ : Nat → Nat → Int32) (f : Nat) : Nat := (σ f 0).toInt.toNat
def zi (x : Int32) (a b : Int) : Prop := a ≤ x.toInt ∧ x.toInt ≤ b
theorem zn_eq {σ : Nat → Nat → Int32} {f : Nat} {b : Int} (h : zi (σ f 0) 0 b) : σ f 0 = nI (zn σ f) ∧ (zn σ f : Int) ≤ b ∧ zn σ f < 2147483648 := by
  have := z_rg (σ f 0)
  unfold zi at h
  unfold zn
  exact ⟨z_nat h.1, by omega, by omega⟩
/-- bits of the nodes on the way up -/
def zabF (σ : Nat → Nat → Int32) : Nat → Nat → Nat
  | 0, _ => 0
  | k + 1, i => if σ 10 i = -1 then 2 ^ i else 2 ^ i ||| zabF σ k (σ 10 i).toInt.toNat
def zab (σ : Nat → Nat → Int32) (i : Nat) : Nat := zabF σ (i + 1) i
/-- counts are in their bounds -/
def zVc (σ : Nat → Nat → Int32) : Prop := zi (σ 0 0) 0 24 ∧ zi (σ 1 0) 0 24 ∧ zi (σ 2 0) 0 30 ∧ zi (σ 8 0) 0 20 ∧ zi (σ 3 0) 0 999 ∧ zi (σ 4 0) 0 600 ∧ zi (σ 5 0) 0 40 ∧ zi (σ 6 0) 0 99 ∧ zi (σ 7 0) 0 1000
def zVn (σ : Nat → Nat → Int32) : Prop := ∀ i, i < zn σ 0 → σ 10 i = -1 ∨ zi (σ 10 i) 0 ((i : Int) - 1)
def zVt (σ : Nat → Nat → Int32) : Prop := ∀ t, t < zn σ 1 → zi (σ 11 t) 0 ((zn σ 0 : Int) - 1) ∧ zi (σ 12 t) 0 255 ∧ zi (σ 13 t) 0 60000 ∧ zi (σ 14 t) 0 999 ∧ zi (σ 15 t) 1 99 ∧ zi (σ 17 t) 0 1
def zVh (σ : Nat → Nat → Int32) : Prop := (∀ i, i < zn σ 2 → zi (σ 19 i) 0 255) ∧ (∀ i, i < zn σ 8 → zi (σ 20 i) 0 255) ∧ ∀ i, i < 24 → zi (σ 16 i) 0 100
def zmost (k : Nat) : Nat := match k with
  | 0 => 80 | 1 => 40 | 2 => 60 | 3 => 40 | 4 => 60 | 5 => 40 | 6 => 40 | 7 => 40 | 8 => 40 | 9 => 80 | 10 => 40 | _ => 40
/-- a row of what was told -/
def zVr (σ : Nat → Nat → Int32) (e : Nat) : Prop := zi (σ 22 e) 0 11 ∧ zi (σ 24 e) 0 999 ∧ zi (σ 26 e) 0 999 ∧ zi (σ 25 e) 0 9999 ∧ 0 ≤ (σ 23 e).toInt ∧
  (σ 22 e = 4 → (σ 23 e).toInt < (zn σ 0 : Int)) ∧ (σ 22 e = 1 ∨ σ 22 e = 5 → σ 23 e = 0) ∧ (¬ σ 22 e = 1 → ¬ σ 22 e = 4 → ¬ σ 22 e = 5 → (σ 23 e).toInt < (zn σ 1 : Int)) ∧
  (σ 22 e = 0 ∨ σ 22 e = 2 ∨ σ 22 e = 3 ∨ σ 22 e = 10 ∨ σ 22 e = 11 → zi (σ 25 e) 0 1) ∧ (σ 22 e = 1 ∨ σ 22 e = 5 → zi (σ 25 e) 0 100) ∧ (σ 22 e = 7 → zi (σ 25 e) 0 23)
def zVe (σ : Nat → Nat → Int32) : Prop := (∀ e, e < zn σ 4 → zVr σ e) ∧ ∀ k, k < 12 → zcnt (fun e => σ 22 e = nI k) (zn σ 4) ≤ zmost k
def zVj (σ : Nat → Nat → Int32) : Prop := ∀ j, j < zn σ 5 → zi (σ 27 j) 0 ((zn σ 1 : Int) - 1) ∧ zi (σ 28 j) 0 4 ∧ zi (σ 29 j) 1 9999 ∧ zi (σ 30 j) 0 999 ∧ zi (σ 31 j) (-1) 999 ∧ zi (σ 18 j) 0 1
/-- what holds of a slice -/
def zV (σ : Nat → Nat → Int32) : Prop := zVc σ ∧ zVn σ ∧ zVt σ ∧ zVh σ ∧ zVe σ ∧ zVj σ
/-- the city at a cell -/
def zC (h : ai_H) (c : Nat) (σ : Nat → Nat → Int32) : Prop :=
  h.1 c 0 = σ 0 0 ∧ h.1 c 1 = σ 1 0 ∧ h.1 c 2 = σ 2 0 ∧ h.1 c 3 = σ 8 0 ∧ h.1 c 4 = nI (zB (fun i => ¬ σ 10 i = -1) (zn σ 0)) ∧ h.1 c 5 = nI (zB (fun t => ¬ σ 17 t = 0) (zn σ 1)) ∧
  (∀ i, i < zn σ 0 → h.1 (ai_ch c 6) i = σ 10 i ∧ h.1 (ai_ch c 7) i = nI (zab σ i)) ∧
  (∀ t, t < zn σ 1 → h.1 (ai_ch c 8) t = σ 11 t ∧ h.1 (ai_ch c 9) t = σ 12 t ∧ h.1 (ai_ch c 10) t = σ 13 t ∧ h.1 (ai_ch c 11) t = σ 14 t ∧ h.1 (ai_ch c 12) t = σ 15 t) ∧
  (∀ i, i < zn σ 2 → h.1 (ai_ch c 13) i = σ 19 i) ∧ (∀ i, i < zn σ 8 → h.1 (ai_ch c 14) i = σ 20 i)
abbrev zR4 : Type := Int32 × Int32 × Int32 × Int32
def zrow (σ : Nat → Nat → Int32) (e : Nat) : zR4 := (σ 23 e, σ 24 e, if σ 22 e = 6 then 1 else σ 25 e, σ 26 e)
def zins (r : zR4) : List zR4 → List zR4
  | [] => [r]
  | x :: l => if r.2.1 < x.2.1 then r :: x :: l else x :: zins r l
/-- the rows of a kind, by days, of one day as told -/
def zled (σ : Nat → Nat → Int32) (k : Int32) : Nat → List zR4
  | 0 => []
  | e + 1 => if σ 22 e = k then zins (zrow σ e) (zled σ k e) else zled σ k e
def zLr (h : ai_H) (a i : Nat) : zR4 := (h.1 (ai_ch a 0) i, h.1 (ai_ch a 1) i, h.1 (ai_ch a 2) i, h.1 (ai_ch a 3) i)
/-- a ledger at a cell -/
def zL (h : ai_H) (a : Nat) (l : List zR4) : Prop := h.1 a 4 = nI l.length ∧ ∀ i, i < l.length → l[i]? = some (zLr h a i)
def zLk (h : ai_H) (a n : Nat) : Prop := (h.2.2.2.1 (ai_ch a 0)).2 = n ∧ (h.2.2.2.1 (ai_ch a 1)).2 = n ∧ (h.2.2.2.1 (ai_ch a 2)).2 = n ∧ (h.2.2.2.1 (ai_ch a 3)).2 = n
def zD (h : ai_H) (c : Nat) (σ : Nat → Nat → Int32) : Prop :=
  (∀ k, k < 12 → zL h (ai_ch c k) (zled σ (nI k) (zn σ 4))) ∧ (∀ i, i < 24 → h.1 (ai_ch c 12) i = σ 16 i) ∧ h.1 c 13 = σ 3 0 ∧ h.1 c 14 = σ 6 0 ∧ h.1 c 15 = σ 7 0 - 1
def zJ (h : ai_H) (c : Nat) (σ : Nat → Nat → Int32) : Prop :=
  h.1 c 0 = σ 5 0 ∧ ∀ j, j < zn σ 5 → h.1 (ai_ch c 1) j = σ 27 j ∧ h.1 (ai_ch c 2) j = σ 28 j ∧ h.1 (ai_ch c 3) j = σ 29 j ∧ h.1 (ai_ch c 4) j = σ 30 j ∧ h.1 (ai_ch c 5) j = σ 31 j ∧ h.1 (ai_ch c 6) j = σ 18 j
/-- a state at a cell; T: how many trusts' coin it keeps -/
def zS (h : ai_H) (s T : Nat) (σ : Nat → Nat → Int32) : Prop :=
  zC h (ai_ch s 0) σ ∧ zD h (ai_ch s 1) σ ∧ zJ h (ai_ch s 2) σ ∧ (∀ t, t < T → h.1 (ai_ch s 3) t = σ 21 t) ∧ ∀ k, k < 12 → zLk h (ai_ch (ai_ch s 1) k) (zmost k)
/-- the root of a cell's path -/
def zfp (q : Nat) : Nat := if q % 128 = 0 then q else q / 128
def zroot (q : Nat) : Nat := zfp (zfp (zfp (zfp (zfp (zfp q)))))
theorem zfp_r {r : Nat} (h : r % 128 = 0) : zfp r = r := if_pos h
theorem zfp_c {a j : Nat} (h : j < 127) : zfp (ai_ch a j) = a := by
  unfold zfp ai_ch
  rw [if_neg (by omega)]
  omega
theorem zr0 {y : Nat} (h : y % 128 = 0) : zroot y = y := by unfold zroot; simp only [zfp_r h]
theorem zr1 {y j : Nat} (h : y % 128 = 0) (hj : j < 127) : zroot (ai_ch y j) = y := by unfold zroot; rw [zfp_c hj]; simp only [zfp_r h]
theorem zr2 {y j k : Nat} (h : y % 128 = 0) (hj : j < 127) (hk : k < 127) : zroot (ai_ch (ai_ch y j) k) = y := by unfold zroot; rw [zfp_c hk, zfp_c hj]; simp only [zfp_r h]
theorem zr3 {y j k l : Nat} (h : y % 128 = 0) (hj : j < 127) (hk : k < 127) (hl : l < 127) : zroot (ai_ch (ai_ch (ai_ch y j) k) l) = y := by unfold zroot; rw [zfp_c hl, zfp_c hk, zfp_c hj]; simp only [zfp_r h]
theorem zr4 {y j k l m : Nat} (h : y % 128 = 0) (hj : j < 127) (hk : k < 127) (hl : l < 127) (hm : m < 127) : zroot (ai_ch (ai_ch (ai_ch (ai_ch y j) k) l) m) = y := by unfold zroot; rw [zfp_c hm, zfp_c hl, zfp_c hk, zfp_c hj]; simp only [zfp_r h]
/-- the class's ints alone change -/
def zFx (h h' : ai_H) : Prop := (∀ q, ¬ zroot q = 128 → h'.1 q = h.1 q) ∧ h'.2 = h.2
/-- the reference's alone -/
def zFm (h h' : ai_H) : Prop := (∀ q, ¬ zroot q = 16128 → h'.1 q = h.1 q) ∧ h'.2.2 = h.2.2
theorem zFx_rf {h : ai_H} : zFx h h := ⟨fun _ _ => rfl, rfl⟩
theorem zFm_rf {h : ai_H} : zFm h h := ⟨fun _ _ => rfl, rfl⟩
theorem zFx_tr {h h' h'' : ai_H} (a : zFx h h') (b : zFx h' h'') : zFx h h'' := ⟨fun q n => (b.1 q n).trans (a.1 q n), b.2.trans a.2⟩
theorem zFm_tr {h h' h'' : ai_H} (a : zFm h h') (b : zFm h' h'') : zFm h h'' := ⟨fun q n => (b.1 q n).trans (a.1 q n), b.2.trans a.2⟩
theorem zFx_st {h h' : ai_H} {c j : Nat} {v : Int32} (a : zFx h h') (r : zroot c = 128) : zFx h (ai_st h' c j v) := by
  refine ⟨fun q n => ?_, a.2⟩
  funext i
  rw [z_st1, if_neg, a.1 q n]
  rintro ⟨rfl, -⟩
  exact n r
theorem zFm_st {h h' : ai_H} {c j : Nat} {v : Int32} (a : zFm h h') (r : zroot c = 16128) : zFm h (ai_st h' c j v) := by
  refine ⟨fun q n => ?_, a.2⟩
  funext i
  rw [z_st1, if_neg, a.1 q n]
  rintro ⟨rfl, -⟩
  exact n r
theorem zMv1 {h : ai_H} {f i : Nat} (hf : f < 50 ∨ (63 ≤ f ∧ f < 67)) : (zMv h).1 f i = h.1 (2064385 + f) i := if_pos hf
theorem zMr {f : Nat} (hf : f < 87) : zroot (2064385 + f) = 16128 := by
  rw [show 2064385 + f = ai_ch 16128 f from by unfold ai_ch; omega, zr1 (by decide) (by omega)]
/-- the view depends on the cells that it shows -/
theorem zMv_c {h h' : ai_H} (a : ∀ f, f < 50 ∨ (63 ≤ f ∧ f < 67) → h'.1 (2064385 + f) = h.1 (2064385 + f)) (b : ∀ j, j < 50 → h'.1 16128 j = h.1 16128 j) : zMv h' = zMv h := by
  unfold zMv
  congr 1
  · funext f i
    by_cases hf : f < 50 ∨ (63 ≤ f ∧ f < 67)
    · rw [if_pos hf, if_pos hf, a f hf]
    · rw [if_neg hf, if_neg hf]
  · funext j
    by_cases hj : j < 50
    · rw [if_pos hj, if_pos hj, b j hj]
    · rw [if_neg hj, if_neg hj]
theorem zMv_Fx {h h' : ai_H} (a : zFx h h') : zMv h' = zMv h := by
  refine zMv_c (fun f hf => a.1 _ ?_) (fun j _ => by rw [a.1 16128 (by decide)])
  rw [zMr (by omega)]
  decide
/-- a view with a place changed -/
def zmu (μ : zMu) (f i : Nat) (v : Int32) : zMu := (fun g j => if g = f ∧ j = i then v else μ.1 g j, μ.2)
def zmuS (μ : zMu) (j : Nat) (v : Int32) : zMu := (μ.1, fun q => if q = j then v else μ.2 q)
theorem zMv_st {h : ai_H} {f i : Nat} {v : Int32} (hf : f < 50 ∨ (63 ≤ f ∧ f < 67)) : zMv (ai_st h (2064385 + f) i v) = zmu (zMv h) f i v := by
  unfold zMv zmu
  congr 1
  · funext g j
    dsimp only
    rw [z_st1]
    by_cases hg : g < 50 ∨ (63 ≤ g ∧ g < 67)
    · rw [if_pos hg, if_pos hg]
      by_cases h2 : g = f ∧ j = i
      · rw [if_pos h2, if_pos ⟨by omega, h2.2⟩]
      · rw [if_neg h2, if_neg (fun c => h2 ⟨by omega, c.2⟩)]
    · rw [if_neg hg, if_neg hg, if_neg (fun c => hg (by omega))]
  · funext j
    dsimp only
    by_cases hj : j < 50
    · rw [if_pos hj, if_pos hj, z_st1, if_neg (by omega)]
    · rw [if_neg hj, if_neg hj]
theorem zMv_stS {h : ai_H} {j : Nat} {v : Int32} (hj : j < 50) : zMv (ai_st h 16128 j v) = zmuS (zMv h) j v := by
  unfold zMv zmuS
  congr 1
  · funext g i
    dsimp only
    rw [z_st1]
    by_cases hg : g < 50 ∨ (63 ≤ g ∧ g < 67)
    · rw [if_pos hg, if_pos hg, if_neg (by omega)]
    · rw [if_neg hg, if_neg hg]
  · funext q
    dsimp only
    by_cases hq : q < 50
    · rw [if_pos hq, if_pos hq, z_st1]
      by_cases h2 : q = j
      · rw [if_pos h2, if_pos ⟨rfl, h2⟩]
      · rw [if_neg h2, if_neg (fun c => h2 c.2)]
    · rw [if_neg hq, if_neg hq, if_neg (by omega)]
/-- a slice with a place changed -/
def zup (σ : Nat → Nat → Int32) (f i : Nat) (v : Int32) : Nat → Nat → Int32 := fun g j => if g = f ∧ j = i then v else σ g j
theorem zsl_up {μ : zMu} {f i : Nat} {v : Int32} : zsl (zmu μ f i v) 0 = zup (zsl μ 0) f i v := by
  funext g j
  unfold zsl zmu zup
  dsimp only
  rw [Nat.mul_zero, Nat.zero_add]
theorem zsl_keep {μ : zMu} {f i k : Nat} {v : Int32} (hi : i < zst f) (hk : 0 < k) : zsl (zmu μ f i v) k = zsl μ k := by
  funext g j
  unfold zsl zmu
  dsimp only
  rw [if_neg]
  rintro ⟨rfl, e⟩
  have : zst g * 1 ≤ zst g * k := Nat.mul_le_mul_left _ hk
  omega
