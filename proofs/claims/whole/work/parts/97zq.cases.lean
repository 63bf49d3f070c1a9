/-! THE LAW'S CASES, one by one. Written by gen97zq.py -/
theorem zcall {mx mm : Nat} {A : List ai_V} (P : zPr mx mm A) {h : ai_H} (hr : zR h) : ∃ v h1 h2, ai_X 66 mx (.inr (.inr (31, 0, 128)) :: A) h = some ([.inl v], h1) ∧ ai_X 66 mm (.inr (.inr (32, 0, 16128)) :: A) h1 = some ([.inl v], h2) ∧ zR h2 ∧ zK h h2 := P 6 h hr
theorem zx1 {a n : Nat} (ha : a + 6 ≤ n) (hb : n ≤ 3072) {f : Nat → Option ai_R} : ai_ix (nI a + 1) n f = f (a + 1) := by
  rw [show (1 : Int32) = nI 1 from rfl, nI_add]
  exact z_ix (by omega) (by omega)
theorem zx2 {a n : Nat} (ha : a + 6 ≤ n) (hb : n ≤ 3072) {f : Nat → Option ai_R} : ai_ix (nI a + 2) n f = f (a + 2) := by
  rw [show (2 : Int32) = nI 2 from rfl, nI_add]
  exact z_ix (by omega) (by omega)
theorem zx3 {a n : Nat} (ha : a + 6 ≤ n) (hb : n ≤ 3072) {f : Nat → Option ai_R} : ai_ix (nI a + 3) n f = f (a + 3) := by
  rw [show (3 : Int32) = nI 3 from rfl, nI_add]
  exact z_ix (by omega) (by omega)
theorem zx4 {a n : Nat} (ha : a + 6 ≤ n) (hb : n ≤ 3072) {f : Nat → Option ai_R} : ai_ix (nI a + 4) n f = f (a + 4) := by
  rw [show (4 : Int32) = nI 4 from rfl, nI_add]
  exact z_ix (by omega) (by omega)
theorem zx5 {a n : Nat} (ha : a + 6 ≤ n) (hb : n ≤ 3072) {f : Nat → Option ai_R} : ai_ix (nI a + 5) n f = f (a + 5) := by
  rw [show (5 : Int32) = nI 5 from rfl, nI_add]
  exact z_ix (by omega) (by omega)
/-- a case of the law: behind it the relation stands, and the law goes on -/
def zCase (xs : Nat × (Nat → Int32)) (pc a : Nat) : Prop := ∀ h, zR h → ∃ h2, zR h2 ∧ zK h h2 ∧ ∀ r, ai_EL 66 xs (2654, [some (.inr (.inr (8, 0, 0))), some (.inr (.inr (31, 0, 128))), some (.inr (.inr (32, 0, 16128))), some (.inl (nI a))], [], h2) = some r → ai_EL 66 xs (pc, [some (.inr (.inr (8, 0, 0))), some (.inr (.inr (31, 0, 128))), some (.inr (.inr (32, 0, 16128))), some (.inl (nI a))], [], h) = some r
theorem zC_288 {xs : Nat × (Nat → Int32)} {a : Nat} (ha : a + 6 ≤ xs.1) (hb : xs.1 ≤ 3072) : zCase xs 288 a := fun h hr => by
  obtain ⟨v, h1, h2, a1, a2, a3, a4⟩ := zcall (show zPr 86 198 [.inl (xs.2 (a + 1))] from P_node _) hr
  refine ⟨h2, a3, a4, fun r e => TL_288 ?_⟩
  rw [zx1 ha hb, a1, z_bi, zx1 ha hb, a2, z_bi, if_pos rfl]
  exact e
theorem zC_311 {xs : Nat × (Nat → Int32)} {a : Nat} (ha : a + 6 ≤ xs.1) (hb : xs.1 ≤ 3072) : zCase xs 311 a := fun h hr => by
  by_cases c : xs.2 (a + 4) = 0
  · obtain ⟨v, h1, h2, a1, a2, a3, a4⟩ := zcall (show zPr 87 199 [.inl (xs.2 (a + 1)), .inl (xs.2 (a + 2)), .inl (xs.2 (a + 3)), .inl 0, .inl (xs.2 (a + 5))] from P_tap _ _ _ _ _ (Or.inl rfl)) hr
    refine ⟨h2, a3, a4, fun r e => TL_311 ?_⟩
    rw [zx1 ha hb, zx2 ha hb, zx3 ha hb, zx4 ha hb, if_pos c, zx5 ha hb, a1, z_bi, zx1 ha hb, zx2 ha hb, zx3 ha hb, zx4 ha hb, if_pos c, zx5 ha hb, a2, z_bi, if_pos rfl]
    exact e
  · obtain ⟨v, h1, h2, a1, a2, a3, a4⟩ := zcall (show zPr 87 199 [.inl (xs.2 (a + 1)), .inl (xs.2 (a + 2)), .inl (xs.2 (a + 3)), .inl 1, .inl (xs.2 (a + 5))] from P_tap _ _ _ _ _ (Or.inr rfl)) hr
    refine ⟨h2, a3, a4, fun r e => TL_311 ?_⟩
    rw [zx1 ha hb, zx2 ha hb, zx3 ha hb, zx4 ha hb, if_neg c, zx5 ha hb, a1, z_bi, zx1 ha hb, zx2 ha hb, zx3 ha hb, zx4 ha hb, if_neg c, zx5 ha hb, a2, z_bi, if_pos rfl]
    exact e
theorem zC_390 {xs : Nat × (Nat → Int32)} {a : Nat} (ha : a + 6 ≤ xs.1) (hb : xs.1 ≤ 3072) : zCase xs 390 a := fun h hr => by
  obtain ⟨v, h1, h2, a1, a2, a3, a4⟩ := zcall (show zPr 88 200 [.inl (xs.2 (a + 1))] from P_house _) hr
  refine ⟨h2, a3, a4, fun r e => TL_390 ?_⟩
  rw [zx1 ha hb, a1, z_bi, zx1 ha hb, a2, z_bi, if_pos rfl]
  exact e
theorem zC_413 {xs : Nat × (Nat → Int32)} {a : Nat} (ha : a + 6 ≤ xs.1) (hb : xs.1 ≤ 3072) : zCase xs 413 a := fun h hr => by
  obtain ⟨v, h1, h2, a1, a2, a3, a4⟩ := zcall (show zPr 91 201 [.inl (xs.2 (a + 1))] from P_day _) hr
  refine ⟨h2, a3, a4, fun r e => TL_413 ?_⟩
  rw [zx1 ha hb, a1, z_bi, zx1 ha hb, a2, z_bi, if_pos rfl]
  exact e
theorem zC_436 {xs : Nat × (Nat → Int32)} {a : Nat} (ha : a + 6 ≤ xs.1) (hb : xs.1 ≤ 3072) : zCase xs 436 a := fun h hr => by
  by_cases c : xs.2 (a + 3) = 0
  · obtain ⟨v, h1, h2, a1, a2, a3, a4⟩ := zcall (show zPr 92 209 [.inl (xs.2 (a + 1)), .inl (xs.2 (a + 2)), .inl 0] from P_shut _ _ _ (Or.inl rfl)) hr
    refine ⟨h2, a3, a4, fun r e => TL_436 ?_⟩
    rw [zx1 ha hb, zx2 ha hb, zx3 ha hb, if_pos c, a1, z_bi, zx1 ha hb, zx2 ha hb, zx3 ha hb, if_pos c, a2, z_bi, if_pos rfl]
    exact e
  · obtain ⟨v, h1, h2, a1, a2, a3, a4⟩ := zcall (show zPr 92 209 [.inl (xs.2 (a + 1)), .inl (xs.2 (a + 2)), .inl 1] from P_shut _ _ _ (Or.inr rfl)) hr
    refine ⟨h2, a3, a4, fun r e => TL_436 ?_⟩
    rw [zx1 ha hb, zx2 ha hb, zx3 ha hb, if_neg c, a1, z_bi, zx1 ha hb, zx2 ha hb, zx3 ha hb, if_neg c, a2, z_bi, if_pos rfl]
    exact e
theorem zC_495 {xs : Nat × (Nat → Int32)} {a : Nat} (ha : a + 6 ≤ xs.1) (hb : xs.1 ≤ 3072) : zCase xs 495 a := fun h hr => by
  obtain ⟨v, h1, h2, a1, a2, a3, a4⟩ := zcall (show zPr 93 210 [.inl (xs.2 (a + 1)), .inl (xs.2 (a + 2))] from P_level _ _) hr
  refine ⟨h2, a3, a4, fun r e => TL_495 ?_⟩
  rw [zx1 ha hb, zx2 ha hb, a1, z_bi, zx1 ha hb, zx2 ha hb, a2, z_bi, if_pos rfl]
  exact e
theorem zC_528 {xs : Nat × (Nat → Int32)} {a : Nat} (ha : a + 6 ≤ xs.1) (hb : xs.1 ≤ 3072) : zCase xs 528 a := fun h hr => by
  by_cases c : xs.2 (a + 3) = 0
  · obtain ⟨v, h1, h2, a1, a2, a3, a4⟩ := zcall (show zPr 94 211 [.inl (xs.2 (a + 1)), .inl (xs.2 (a + 2)), .inl 0] from P_bottle _ _ _ (Or.inl rfl)) hr
    refine ⟨h2, a3, a4, fun r e => TL_528 ?_⟩
    rw [zx1 ha hb, zx2 ha hb, zx3 ha hb, if_pos c, a1, z_bi, zx1 ha hb, zx2 ha hb, zx3 ha hb, if_pos c, a2, z_bi, if_pos rfl]
    exact e
  · obtain ⟨v, h1, h2, a1, a2, a3, a4⟩ := zcall (show zPr 94 211 [.inl (xs.2 (a + 1)), .inl (xs.2 (a + 2)), .inl 1] from P_bottle _ _ _ (Or.inr rfl)) hr
    refine ⟨h2, a3, a4, fun r e => TL_528 ?_⟩
    rw [zx1 ha hb, zx2 ha hb, zx3 ha hb, if_neg c, a1, z_bi, zx1 ha hb, zx2 ha hb, zx3 ha hb, if_neg c, a2, z_bi, if_pos rfl]
    exact e
theorem zC_587 {xs : Nat × (Nat → Int32)} {a : Nat} (ha : a + 6 ≤ xs.1) (hb : xs.1 ≤ 3072) : zCase xs 587 a := fun h hr => by
  by_cases c : xs.2 (a + 3) = 0
  · obtain ⟨v, h1, h2, a1, a2, a3, a4⟩ := zcall (show zPr 95 212 [.inl (xs.2 (a + 1)), .inl (xs.2 (a + 2)), .inl 0] from P_test _ _ _ (Or.inl rfl)) hr
    refine ⟨h2, a3, a4, fun r e => TL_587 ?_⟩
    rw [zx1 ha hb, zx2 ha hb, zx3 ha hb, if_pos c, a1, z_bi, zx1 ha hb, zx2 ha hb, zx3 ha hb, if_pos c, a2, z_bi, if_pos rfl]
    exact e
  · obtain ⟨v, h1, h2, a1, a2, a3, a4⟩ := zcall (show zPr 95 212 [.inl (xs.2 (a + 1)), .inl (xs.2 (a + 2)), .inl 1] from P_test _ _ _ (Or.inr rfl)) hr
    refine ⟨h2, a3, a4, fun r e => TL_587 ?_⟩
    rw [zx1 ha hb, zx2 ha hb, zx3 ha hb, if_neg c, a1, z_bi, zx1 ha hb, zx2 ha hb, zx3 ha hb, if_neg c, a2, z_bi, if_pos rfl]
    exact e
theorem zC_646 {xs : Nat × (Nat → Int32)} {a : Nat} (ha : a + 6 ≤ xs.1) (hb : xs.1 ≤ 3072) : zCase xs 646 a := fun h hr => by
  obtain ⟨v, h1, h2, a1, a2, a3, a4⟩ := zcall (show zPr 96 213 [.inl (xs.2 (a + 1)), .inl (xs.2 (a + 2)), .inl (xs.2 (a + 3))] from P_flow _ _ _) hr
  refine ⟨h2, a3, a4, fun r e => TL_646 ?_⟩
  rw [zx1 ha hb, zx2 ha hb, zx3 ha hb, a1, z_bi, zx1 ha hb, zx2 ha hb, zx3 ha hb, a2, z_bi, if_pos rfl]
  exact e
theorem zC_689 {xs : Nat × (Nat → Int32)} {a : Nat} (ha : a + 6 ≤ xs.1) (hb : xs.1 ≤ 3072) : zCase xs 689 a := fun h hr => by
  obtain ⟨v, h1, h2, a1, a2, a3, a4⟩ := zcall (show zPr 97 202 [.inl (xs.2 (a + 1))] from P_error _) hr
  refine ⟨h2, a3, a4, fun r e => TL_689 ?_⟩
  rw [zx1 ha hb, a1, z_bi, zx1 ha hb, a2, z_bi, if_pos rfl]
  exact e
theorem zC_712 {xs : Nat × (Nat → Int32)} {a : Nat} (ha : a + 6 ≤ xs.1) (hb : xs.1 ≤ 3072) : zCase xs 712 a := fun h hr => by
  obtain ⟨v, h1, h2, a1, a2, a3, a4⟩ := zcall (show zPr 98 203 [.inl (xs.2 (a + 1)), .inl (xs.2 (a + 2))] from P_cold _ _) hr
  refine ⟨h2, a3, a4, fun r e => TL_712 ?_⟩
  rw [zx1 ha hb, zx2 ha hb, a1, z_bi, zx1 ha hb, zx2 ha hb, a2, z_bi, if_pos rfl]
  exact e
theorem zC_745 {xs : Nat × (Nat → Int32)} {a : Nat} (ha : a + 6 ≤ xs.1) (hb : xs.1 ≤ 3072) : zCase xs 745 a := fun h hr => by
  obtain ⟨v, h1, h2, a1, a2, a3, a4⟩ := zcall (show zPr 107 224 [.inl (xs.2 (a + 1)), .inl (xs.2 (a + 2)), .inl (xs.2 (a + 3)), .inl (xs.2 (a + 4)), .inl (xs.2 (a + 5))] from P_feed _ _ _ _ _) hr
  refine ⟨h2, a3, a4, fun r e => TL_745 ?_⟩
  rw [zx1 ha hb, zx2 ha hb, zx3 ha hb, zx4 ha hb, zx5 ha hb, a1, z_bi, zx1 ha hb, zx2 ha hb, zx3 ha hb, zx4 ha hb, zx5 ha hb, a2, z_bi, if_pos rfl]
  exact e
theorem zC_808 {xs : Nat × (Nat → Int32)} {a : Nat} (ha : a + 6 ≤ xs.1) (hb : xs.1 ≤ 3072) : zCase xs 808 a := fun h hr => by
  obtain ⟨v, h1, h2, a1, a2, a3, a4⟩ := zcall (show zPr 108 239 [.inl (xs.2 (a + 1))] from P_cap) hr
  refine ⟨h2, a3, a4, fun r e => TL_808 ?_⟩
  rw [zx1 ha hb, a1, z_bi, zx1 ha hb, a2, z_bi, if_pos rfl]
  exact e
theorem zC_831 {xs : Nat × (Nat → Int32)} {a : Nat} (ha : a + 6 ≤ xs.1) (hb : xs.1 ≤ 3072) : zCase xs 831 a := fun h hr => by
  obtain ⟨v, h1, h2, a1, a2, a3, a4⟩ := zcall (show zPr 109 240 [.inl (xs.2 (a + 1)), .inl (xs.2 (a + 2)), .inl (xs.2 (a + 3))] from P_trust) hr
  refine ⟨h2, a3, a4, fun r e => TL_831 ?_⟩
  rw [zx1 ha hb, zx2 ha hb, zx3 ha hb, a1, z_bi, zx1 ha hb, zx2 ha hb, zx3 ha hb, a2, z_bi, if_pos rfl]
  exact e
theorem zC_874 {xs : Nat × (Nat → Int32)} {a : Nat} (ha : a + 6 ≤ xs.1) (hb : xs.1 ≤ 3072) : zCase xs 874 a := fun h hr => by
  obtain ⟨v, h1, h2, a1, a2, a3, a4⟩ := zcall (show zPr 110 247 [.inl (xs.2 (a + 1))] from P_donor _) hr
  refine ⟨h2, a3, a4, fun r e => TL_874 ?_⟩
  rw [zx1 ha hb, a1, z_bi, zx1 ha hb, a2, z_bi, if_pos rfl]
  exact e
theorem zC_897 {xs : Nat × (Nat → Int32)} {a : Nat} (ha : a + 6 ≤ xs.1) (hb : xs.1 ≤ 3072) : zCase xs 897 a := fun h hr => by
  obtain ⟨v, h1, h2, a1, a2, a3, a4⟩ := zcall (show zPr 111 248 [.inl (xs.2 (a + 1)), .inl (xs.2 (a + 2))] from P_worn _ _) hr
  refine ⟨h2, a3, a4, fun r e => TL_897 ?_⟩
  rw [zx1 ha hb, zx2 ha hb, a1, z_bi, zx1 ha hb, zx2 ha hb, a2, z_bi, if_pos rfl]
  exact e
theorem zC_930 {xs : Nat × (Nat → Int32)} {a : Nat} (ha : a + 6 ≤ xs.1) (hb : xs.1 ≤ 3072) : zCase xs 930 a := fun h hr => by
  obtain ⟨v, h1, h2, a1, a2, a3, a4⟩ := zcall (show zPr 112 241 [] from P_fault) hr
  refine ⟨h2, a3, a4, fun r e => TL_930 ?_⟩
  rw [a1, z_bi, a2, z_bi, if_pos rfl]
  exact e
theorem zC_943 {xs : Nat × (Nat → Int32)} {a : Nat} (ha : a + 6 ≤ xs.1) (hb : xs.1 ≤ 3072) : zCase xs 943 a := fun h hr => by
  obtain ⟨v, h1, h2, a1, a2, a3, a4⟩ := zcall (show zPr 113 275 [.inl (xs.2 (a + 1)), .inl (xs.2 (a + 2)), .inl (xs.2 (a + 3)), .inl (xs.2 (a + 4))] from P_job _ _ _ _) hr
  refine ⟨h2, a3, a4, fun r e => TL_943 ?_⟩
  rw [zx1 ha hb, zx2 ha hb, zx3 ha hb, zx4 ha hb, a1, z_bi, zx1 ha hb, zx2 ha hb, zx3 ha hb, zx4 ha hb, a2, z_bi, if_pos rfl]
  exact e
theorem zC_996 {xs : Nat × (Nat → Int32)} {a : Nat} (ha : a + 6 ≤ xs.1) (hb : xs.1 ≤ 3072) : zCase xs 996 a := fun h hr => by
  obtain ⟨v, h1, h2, a1, a2, a3, a4⟩ := zcall (show zPr 114 276 [.inl (xs.2 (a + 1)), .inl (xs.2 (a + 2))] from P_done _ _) hr
  refine ⟨h2, a3, a4, fun r e => TL_996 ?_⟩
  rw [zx1 ha hb, zx2 ha hb, a1, z_bi, zx1 ha hb, zx2 ha hb, a2, z_bi, if_pos rfl]
  exact e
theorem zC_1029 {xs : Nat × (Nat → Int32)} {a : Nat} (ha : a + 6 ≤ xs.1) (hb : xs.1 ≤ 3072) : zCase xs 1029 a := fun h hr => by
  obtain ⟨v, h1, h2, a1, a2, a3, a4⟩ := zcall (show zPr 120 258 [.inl (xs.2 (a + 1)), .inl (xs.2 (a + 2)), .inl (xs.2 (a + 3))] from P_runs _ _ _) hr
  refine ⟨h2, a3, a4, fun r e => TL_1029 ?_⟩
  rw [zx1 ha hb, zx2 ha hb, zx3 ha hb, a1, z_bi, zx1 ha hb, zx2 ha hb, zx3 ha hb, a2, z_bi, if_pos rfl]
  exact e
theorem zC_1072 {xs : Nat × (Nat → Int32)} {a : Nat} (ha : a + 6 ≤ xs.1) (hb : xs.1 ≤ 3072) : zCase xs 1072 a := fun h hr => by
  obtain ⟨v, h1, h2, a1, a2, a3, a4⟩ := zcall (show zPr 121 262 [.inl (xs.2 (a + 1)), .inl (xs.2 (a + 2)), .inl (xs.2 (a + 3)), .inl (xs.2 (a + 4))] from P_covered _ _ _ _) hr
  refine ⟨h2, a3, a4, fun r e => TL_1072 ?_⟩
  rw [zx1 ha hb, zx2 ha hb, zx3 ha hb, zx4 ha hb, a1, z_bi, zx1 ha hb, zx2 ha hb, zx3 ha hb, zx4 ha hb, a2, z_bi, if_pos rfl]
  exact e
theorem zC_1125 {xs : Nat × (Nat → Int32)} {a : Nat} (ha : a + 6 ≤ xs.1) (hb : xs.1 ≤ 3072) : zCase xs 1125 a := fun h hr => by
  obtain ⟨v, h1, h2, a1, a2, a3, a4⟩ := zcall (show zPr 122 263 [.inl (xs.2 (a + 1)), .inl (xs.2 (a + 2)), .inl (xs.2 (a + 3)), .inl (xs.2 (a + 4))] from P_thirsty _ _ _ _) hr
  refine ⟨h2, a3, a4, fun r e => TL_1125 ?_⟩
  rw [zx1 ha hb, zx2 ha hb, zx3 ha hb, zx4 ha hb, a1, z_bi, zx1 ha hb, zx2 ha hb, zx3 ha hb, zx4 ha hb, a2, z_bi, if_pos rfl]
  exact e
theorem zC_1178 {xs : Nat × (Nat → Int32)} {a : Nat} (ha : a + 6 ≤ xs.1) (hb : xs.1 ≤ 3072) : zCase xs 1178 a := fun h hr => by
  obtain ⟨v, h1, h2, a1, a2, a3, a4⟩ := zcall (show zPr 123 266 [.inl (xs.2 (a + 1)), .inl (xs.2 (a + 2)), .inl (xs.2 (a + 3)), .inl (xs.2 (a + 4))] from P_mend _ _ _ _) hr
  refine ⟨h2, a3, a4, fun r e => TL_1178 ?_⟩
  rw [zx1 ha hb, zx2 ha hb, zx3 ha hb, zx4 ha hb, a1, z_bi, zx1 ha hb, zx2 ha hb, zx3 ha hb, zx4 ha hb, a2, z_bi, if_pos rfl]
  exact e
theorem zC_1231 {xs : Nat × (Nat → Int32)} {a : Nat} (ha : a + 6 ≤ xs.1) (hb : xs.1 ≤ 3072) : zCase xs 1231 a := fun h hr => by
  obtain ⟨v, h1, h2, a1, a2, a3, a4⟩ := zcall (show zPr 125 270 [.inl (xs.2 (a + 1)), .inl (xs.2 (a + 2)), .inl (xs.2 (a + 3))] from P_germs _ _ _) hr
  refine ⟨h2, a3, a4, fun r e => TL_1231 ?_⟩
  rw [zx1 ha hb, zx2 ha hb, zx3 ha hb, a1, z_bi, zx1 ha hb, zx2 ha hb, zx3 ha hb, a2, z_bi, if_pos rfl]
  exact e
theorem zC_1274 {xs : Nat × (Nat → Int32)} {a : Nat} (ha : a + 6 ≤ xs.1) (hb : xs.1 ≤ 3072) : zCase xs 1274 a := fun h hr => by
  obtain ⟨v, h1, h2, a1, a2, a3, a4⟩ := zcall (show zPr 126 272 [.inl (xs.2 (a + 1)), .inl (xs.2 (a + 2))] from P_lead _ _) hr
  refine ⟨h2, a3, a4, fun r e => TL_1274 ?_⟩
  rw [zx1 ha hb, zx2 ha hb, a1, z_bi, zx1 ha hb, zx2 ha hb, a2, z_bi, if_pos rfl]
  exact e
theorem zC_1307 {xs : Nat × (Nat → Int32)} {a : Nat} (ha : a + 6 ≤ xs.1) (hb : xs.1 ≤ 3072) : zCase xs 1307 a := fun h hr => by
  obtain ⟨v, h1, h2, a1, a2, a3, a4⟩ := zcall (show zPr 127 273 [.inl (xs.2 (a + 1)), .inl (xs.2 (a + 2)), .inl (xs.2 (a + 3)), .inl (xs.2 (a + 4))] from P_drips _ _ _ _) hr
  refine ⟨h2, a3, a4, fun r e => TL_1307 ?_⟩
  rw [zx1 ha hb, zx2 ha hb, zx3 ha hb, zx4 ha hb, a1, z_bi, zx1 ha hb, zx2 ha hb, zx3 ha hb, zx4 ha hb, a2, z_bi, if_pos rfl]
  exact e
theorem zC_1360 {xs : Nat × (Nat → Int32)} {a : Nat} (ha : a + 6 ≤ xs.1) (hb : xs.1 ≤ 3072) : zCase xs 1360 a := fun h hr => by
  obtain ⟨v, h1, h2, a1, a2, a3, a4⟩ := zcall (show zPr 115 278 [.inl (xs.2 (a + 1)), .inl (xs.2 (a + 2))] from P_pays _ _) hr
  refine ⟨h2, a3, a4, fun r e => TL_1360 ?_⟩
  rw [zx1 ha hb, zx2 ha hb, a1, z_bi, zx1 ha hb, zx2 ha hb, a2, z_bi, if_pos rfl]
  exact e
theorem zC_1393 {xs : Nat × (Nat → Int32)} {a : Nat} (ha : a + 6 ≤ xs.1) (hb : xs.1 ≤ 3072) : zCase xs 1393 a := fun h hr => by
  obtain ⟨v, h1, h2, a1, a2, a3, a4⟩ := zcall (show zPr 117 283 [.inl (xs.2 (a + 1))] from P_council _) hr
  refine ⟨h2, a3, a4, fun r e => TL_1393 ?_⟩
  rw [zx1 ha hb, a1, z_bi, zx1 ha hb, a2, z_bi, if_pos rfl]
  exact e
theorem zC_1416 {xs : Nat × (Nat → Int32)} {a : Nat} (ha : a + 6 ≤ xs.1) (hb : xs.1 ≤ 3072) : zCase xs 1416 a := fun h hr => by
  obtain ⟨v, h1, h2, a1, a2, a3, a4⟩ := zcall (show zPr 118 284 [] from P_settle) hr
  refine ⟨h2, a3, a4, fun r e => TL_1416 ?_⟩
  rw [a1, z_bi, a2, z_bi, if_pos rfl]
  exact e
theorem zC_1429 {xs : Nat × (Nat → Int32)} {a : Nat} (ha : a + 6 ≤ xs.1) (hb : xs.1 ≤ 3072) : zCase xs 1429 a := fun h hr => by
  obtain ⟨v, h1, h2, a1, a2, a3, a4⟩ := zcall (show zPr 119 286 [.inl (xs.2 (a + 1))] from P_late _) hr
  refine ⟨h2, a3, a4, fun r e => TL_1429 ?_⟩
  rw [zx1 ha hb, a1, z_bi, zx1 ha hb, a2, z_bi, if_pos rfl]
  exact e
theorem zC_1452 {xs : Nat × (Nat → Int32)} {a : Nat} (ha : a + 6 ≤ xs.1) (hb : xs.1 ≤ 3072) : zCase xs 1452 a := fun h hr => by
  obtain ⟨v, h1, h2, a1, a2, a3, a4⟩ := zcall (show zPr 128 289 [.inl (xs.2 (a + 1)), .inl (xs.2 (a + 2))] from P_round _ _) hr
  refine ⟨h2, a3, a4, fun r e => TL_1452 ?_⟩
  rw [zx1 ha hb, zx2 ha hb, a1, z_bi, zx1 ha hb, zx2 ha hb, a2, z_bi, if_pos rfl]
  exact e
theorem zC_1485 {xs : Nat × (Nat → Int32)} {a : Nat} (ha : a + 6 ≤ xs.1) (hb : xs.1 ≤ 3072) : zCase xs 1485 a := fun h hr => by
  obtain ⟨v, h1, h2, a1, a2, a3, a4⟩ := zcall (show zPr 129 292 [.inl (xs.2 (a + 1)), .inl (xs.2 (a + 2)), .inl (xs.2 (a + 3)), .inl (xs.2 (a + 4))] from P_frost _ _ _ _) hr
  refine ⟨h2, a3, a4, fun r e => TL_1485 ?_⟩
  rw [zx1 ha hb, zx2 ha hb, zx3 ha hb, zx4 ha hb, a1, z_bi, zx1 ha hb, zx2 ha hb, zx3 ha hb, zx4 ha hb, a2, z_bi, if_pos rfl]
  exact e
theorem zC_1538 {xs : Nat × (Nat → Int32)} {a : Nat} (ha : a + 6 ≤ xs.1) (hb : xs.1 ≤ 3072) : zCase xs 1538 a := fun h hr => by
  obtain ⟨v, h1, h2, a1, a2, a3, a4⟩ := zcall (show zPr 132 251 [.inl (xs.2 (a + 1)), .inl (xs.2 (a + 2))] from P_fits _ _) hr
  refine ⟨h2, a3, a4, fun r e => TL_1538 ?_⟩
  rw [zx1 ha hb, zx2 ha hb, a1, z_bi, zx1 ha hb, zx2 ha hb, a2, z_bi, if_pos rfl]
  exact e
theorem zC_1571 {xs : Nat × (Nat → Int32)} {a : Nat} (ha : a + 6 ≤ xs.1) (hb : xs.1 ≤ 3072) : zCase xs 1571 a := fun h hr => by
  obtain ⟨v, h1, h2, a1, a2, a3, a4⟩ := zcall (show zPr 124 264 [.inl (xs.2 (a + 1)), .inl (xs.2 (a + 2)), .inl (xs.2 (a + 3)), .inl (xs.2 (a + 4))] from P_gift _ _ _ _) hr
  refine ⟨h2, a3, a4, fun r e => TL_1571 ?_⟩
  rw [zx1 ha hb, zx2 ha hb, zx3 ha hb, zx4 ha hb, a1, z_bi, zx1 ha hb, zx2 ha hb, zx3 ha hb, zx4 ha hb, a2, z_bi, if_pos rfl]
  exact e
theorem zC_1624 {xs : Nat × (Nat → Int32)} {a : Nat} (ha : a + 6 ≤ xs.1) (hb : xs.1 ≤ 3072) : zCase xs 1624 a := fun h hr => by
  obtain ⟨v, h1, h2, a1, a2, a3, a4⟩ := zcall (show zPr 90 204 [.inl (xs.2 (a + 1)), .inl (xs.2 (a + 2))] from P_hard _ _) hr
  refine ⟨h2, a3, a4, fun r e => TL_1624 ?_⟩
  rw [zx1 ha hb, zx2 ha hb, a1, z_bi, zx1 ha hb, zx2 ha hb, a2, z_bi, if_pos rfl]
  exact e
theorem zC_1657 {xs : Nat × (Nat → Int32)} {a : Nat} (ha : a + 6 ≤ xs.1) (hb : xs.1 ≤ 3072) : zCase xs 1657 a := fun h hr => by
  obtain ⟨v, h1, h2, a1, a2, a3, a4⟩ := zcall (show zPr 99 214 [.inl (xs.2 (a + 1)), .inl (xs.2 (a + 2))] from P_night _ _) hr
  refine ⟨h2, a3, a4, fun r e => TL_1657 ?_⟩
  rw [zx1 ha hb, zx2 ha hb, a1, z_bi, zx1 ha hb, zx2 ha hb, a2, z_bi, if_pos rfl]
  exact e
theorem zC_1690 {xs : Nat × (Nat → Int32)} {a : Nat} (ha : a + 6 ≤ xs.1) (hb : xs.1 ≤ 3072) : zCase xs 1690 a := fun h hr => by
  obtain ⟨v, h1, h2, a1, a2, a3, a4⟩ := zcall (show zPr 100 215 [.inl (xs.2 (a + 1)), .inl (xs.2 (a + 2))] from P_burst _ _) hr
  refine ⟨h2, a3, a4, fun r e => TL_1690 ?_⟩
  rw [zx1 ha hb, zx2 ha hb, a1, z_bi, zx1 ha hb, zx2 ha hb, a2, z_bi, if_pos rfl]
  exact e
theorem zC_1723 {xs : Nat × (Nat → Int32)} {a : Nat} (ha : a + 6 ≤ xs.1) (hb : xs.1 ≤ 3072) : zCase xs 1723 a := fun h hr => by
  obtain ⟨v, h1, h2, a1, a2, a3, a4⟩ := zcall (show zPr 101 216 [.inl (xs.2 (a + 1)), .inl (xs.2 (a + 2)), .inl (xs.2 (a + 3))] from P_damage _ _ _) hr
  refine ⟨h2, a3, a4, fun r e => TL_1723 ?_⟩
  rw [zx1 ha hb, zx2 ha hb, zx3 ha hb, a1, z_bi, zx1 ha hb, zx2 ha hb, zx3 ha hb, a2, z_bi, if_pos rfl]
  exact e
theorem zC_1766 {xs : Nat × (Nat → Int32)} {a : Nat} (ha : a + 6 ≤ xs.1) (hb : xs.1 ≤ 3072) : zCase xs 1766 a := fun h hr => by
  obtain ⟨v, h1, h2, a1, a2, a3, a4⟩ := zcall (show zPr 102 217 [.inl (xs.2 (a + 1)), .inl (xs.2 (a + 2)), .inl (xs.2 (a + 3))] from P_hurt _ _ _) hr
  refine ⟨h2, a3, a4, fun r e => TL_1766 ?_⟩
  rw [zx1 ha hb, zx2 ha hb, zx3 ha hb, a1, z_bi, zx1 ha hb, zx2 ha hb, zx3 ha hb, a2, z_bi, if_pos rfl]
  exact e
theorem zC_1809 {xs : Nat × (Nat → Int32)} {a : Nat} (ha : a + 6 ≤ xs.1) (hb : xs.1 ≤ 3072) : zCase xs 1809 a := fun h hr => by
  obtain ⟨v, h1, h2, a1, a2, a3, a4⟩ := zcall (show zPr 103 218 [.inl (xs.2 (a + 1)), .inl (xs.2 (a + 2)), .inl (xs.2 (a + 3))] from P_fill _ _ _) hr
  refine ⟨h2, a3, a4, fun r e => TL_1809 ?_⟩
  rw [zx1 ha hb, zx2 ha hb, zx3 ha hb, a1, z_bi, zx1 ha hb, zx2 ha hb, zx3 ha hb, a2, z_bi, if_pos rfl]
  exact e
theorem zC_1852 {xs : Nat × (Nat → Int32)} {a : Nat} (ha : a + 6 ≤ xs.1) (hb : xs.1 ≤ 3072) : zCase xs 1852 a := fun h hr => by
  by_cases c : xs.2 (a + 3) = 0
  · obtain ⟨v, h1, h2, a1, a2, a3, a4⟩ := zcall (show zPr 104 219 [.inl (xs.2 (a + 1)), .inl (xs.2 (a + 2)), .inl 0] from P_cup _ _ _ (Or.inl rfl)) hr
    refine ⟨h2, a3, a4, fun r e => TL_1852 ?_⟩
    rw [zx1 ha hb, zx2 ha hb, zx3 ha hb, if_pos c, a1, z_bi, zx1 ha hb, zx2 ha hb, zx3 ha hb, if_pos c, a2, z_bi, if_pos rfl]
    exact e
  · obtain ⟨v, h1, h2, a1, a2, a3, a4⟩ := zcall (show zPr 104 219 [.inl (xs.2 (a + 1)), .inl (xs.2 (a + 2)), .inl 1] from P_cup _ _ _ (Or.inr rfl)) hr
    refine ⟨h2, a3, a4, fun r e => TL_1852 ?_⟩
    rw [zx1 ha hb, zx2 ha hb, zx3 ha hb, if_neg c, a1, z_bi, zx1 ha hb, zx2 ha hb, zx3 ha hb, if_neg c, a2, z_bi, if_pos rfl]
    exact e
theorem zC_1911 {xs : Nat × (Nat → Int32)} {a : Nat} (ha : a + 6 ≤ xs.1) (hb : xs.1 ≤ 3072) : zCase xs 1911 a := fun h hr => by
  by_cases c : xs.2 (a + 3) = 0
  · obtain ⟨v, h1, h2, a1, a2, a3, a4⟩ := zcall (show zPr 105 220 [.inl (xs.2 (a + 1)), .inl (xs.2 (a + 2)), .inl 0] from P_plant _ _ _ (Or.inl rfl)) hr
    refine ⟨h2, a3, a4, fun r e => TL_1911 ?_⟩
    rw [zx1 ha hb, zx2 ha hb, zx3 ha hb, if_pos c, a1, z_bi, zx1 ha hb, zx2 ha hb, zx3 ha hb, if_pos c, a2, z_bi, if_pos rfl]
    exact e
  · obtain ⟨v, h1, h2, a1, a2, a3, a4⟩ := zcall (show zPr 105 220 [.inl (xs.2 (a + 1)), .inl (xs.2 (a + 2)), .inl 1] from P_plant _ _ _ (Or.inr rfl)) hr
    refine ⟨h2, a3, a4, fun r e => TL_1911 ?_⟩
    rw [zx1 ha hb, zx2 ha hb, zx3 ha hb, if_neg c, a1, z_bi, zx1 ha hb, zx2 ha hb, zx3 ha hb, if_neg c, a2, z_bi, if_pos rfl]
    exact e
theorem zC_1970 {xs : Nat × (Nat → Int32)} {a : Nat} (ha : a + 6 ≤ xs.1) (hb : xs.1 ≤ 3072) : zCase xs 1970 a := fun h hr => by
  obtain ⟨v, h1, h2, a1, a2, a3, a4⟩ := zcall (show zPr 106 205 [.inl (xs.2 (a + 1))] from P_ban _) hr
  refine ⟨h2, a3, a4, fun r e => TL_1970 ?_⟩
  rw [zx1 ha hb, a1, z_bi, zx1 ha hb, a2, z_bi, if_pos rfl]
  exact e
theorem zC_1993 {xs : Nat × (Nat → Int32)} {a : Nat} (ha : a + 6 ≤ xs.1) (hb : xs.1 ≤ 3072) : zCase xs 1993 a := fun h hr => by
  obtain ⟨v, h1, h2, a1, a2, a3, a4⟩ := zcall (show zPr 89 206 [.inl (xs.2 (a + 1))] from P_course _) hr
  refine ⟨h2, a3, a4, fun r e => TL_1993 ?_⟩
  rw [zx1 ha hb, a1, z_bi, zx1 ha hb, a2, z_bi, if_pos rfl]
  exact e
theorem zC_2016 {xs : Nat × (Nat → Int32)} {a : Nat} (ha : a + 6 ≤ xs.1) (hb : xs.1 ≤ 3072) : zCase xs 2016 a := fun h hr => by
  obtain ⟨v, h1, h2, a1, a2, a3, a4⟩ := zcall (show zPr 135 299 [.inl (xs.2 (a + 1)), .inl (xs.2 (a + 2)), .inl (xs.2 (a + 3)), .inl (xs.2 (a + 4))] from P_beside _ _ _ _) hr
  refine ⟨h2, a3, a4, fun r e => TL_2016 ?_⟩
  rw [zx1 ha hb, zx2 ha hb, zx3 ha hb, zx4 ha hb, a1, z_bi, zx1 ha hb, zx2 ha hb, zx3 ha hb, zx4 ha hb, a2, z_bi, if_pos rfl]
  exact e
theorem zC_2069 {xs : Nat × (Nat → Int32)} {a : Nat} (ha : a + 6 ≤ xs.1) (hb : xs.1 ≤ 3072) : zCase xs 2069 a := fun h hr => by
  obtain ⟨v, h1, h2, a1, a2, a3, a4⟩ := zcall (show zPr 136 300 [.inl (xs.2 (a + 1)), .inl (xs.2 (a + 2)), .inl (xs.2 (a + 3)), .inl (xs.2 (a + 4))] from P_hurts _ _ _ _) hr
  refine ⟨h2, a3, a4, fun r e => TL_2069 ?_⟩
  rw [zx1 ha hb, zx2 ha hb, zx3 ha hb, zx4 ha hb, a1, z_bi, zx1 ha hb, zx2 ha hb, zx3 ha hb, zx4 ha hb, a2, z_bi, if_pos rfl]
  exact e
theorem zC_2122 {xs : Nat × (Nat → Int32)} {a : Nat} (ha : a + 6 ≤ xs.1) (hb : xs.1 ≤ 3072) : zCase xs 2122 a := fun h hr => by
  obtain ⟨v, h1, h2, a1, a2, a3, a4⟩ := zcall (show zPr 137 302 [.inl (xs.2 (a + 1)), .inl (xs.2 (a + 2))] from P_wears _ _) hr
  refine ⟨h2, a3, a4, fun r e => TL_2122 ?_⟩
  rw [zx1 ha hb, zx2 ha hb, a1, z_bi, zx1 ha hb, zx2 ha hb, a2, z_bi, if_pos rfl]
  exact e
theorem zC_2155 {xs : Nat × (Nat → Int32)} {a : Nat} (ha : a + 6 ≤ xs.1) (hb : xs.1 ≤ 3072) : zCase xs 2155 a := fun h hr => by
  obtain ⟨v, h1, h2, a1, a2, a3, a4⟩ := zcall (show zPr 138 303 [.inl (xs.2 (a + 1))] from P_gone _) hr
  refine ⟨h2, a3, a4, fun r e => TL_2155 ?_⟩
  rw [zx1 ha hb, a1, z_bi, zx1 ha hb, a2, z_bi, if_pos rfl]
  exact e
theorem zC_2178 {xs : Nat × (Nat → Int32)} {a : Nat} (ha : a + 6 ≤ xs.1) (hb : xs.1 ≤ 3072) : zCase xs 2178 a := fun h hr => by
  obtain ⟨v, h1, h2, a1, a2, a3, a4⟩ := zcall (show zPr 130 293 [.inl (xs.2 (a + 1)), .inl (xs.2 (a + 2)), .inl (xs.2 (a + 3)), .inl (xs.2 (a + 4)), .inl (xs.2 (a + 5))] from P_horse _ _ _ _ _) hr
  refine ⟨h2, a3, a4, fun r e => TL_2178 ?_⟩
  rw [zx1 ha hb, zx2 ha hb, zx3 ha hb, zx4 ha hb, zx5 ha hb, a1, z_bi, zx1 ha hb, zx2 ha hb, zx3 ha hb, zx4 ha hb, zx5 ha hb, a2, z_bi, if_pos rfl]
  exact e
theorem zC_2241 {xs : Nat × (Nat → Int32)} {a : Nat} (ha : a + 6 ≤ xs.1) (hb : xs.1 ≤ 3072) : zCase xs 2241 a := fun h hr => by
  obtain ⟨v, h1, h2, a1, a2, a3, a4⟩ := zcall (show zPr 131 294 [.inl (xs.2 (a + 1)), .inl (xs.2 (a + 2)), .inl (xs.2 (a + 3)), .inl (xs.2 (a + 4)), .inl (xs.2 (a + 5))] from P_stations _ _ _ _ _) hr
  refine ⟨h2, a3, a4, fun r e => TL_2241 ?_⟩
  rw [zx1 ha hb, zx2 ha hb, zx3 ha hb, zx4 ha hb, zx5 ha hb, a1, z_bi, zx1 ha hb, zx2 ha hb, zx3 ha hb, zx4 ha hb, zx5 ha hb, a2, z_bi, if_pos rfl]
  exact e
theorem zC_2304 {xs : Nat × (Nat → Int32)} {a : Nat} (ha : a + 6 ≤ xs.1) (hb : xs.1 ≤ 3072) : zCase xs 2304 a := fun h hr => by
  obtain ⟨v, h1, h2, a1, a2, a3, a4⟩ := zcall (show zPr 139 304 [.inl (xs.2 (a + 1)), .inl (xs.2 (a + 2)), .inl (xs.2 (a + 3))] from P_watch _ _ _) hr
  refine ⟨h2, a3, a4, fun r e => TL_2304 ?_⟩
  rw [zx1 ha hb, zx2 ha hb, zx3 ha hb, a1, z_bi, zx1 ha hb, zx2 ha hb, zx3 ha hb, a2, z_bi, if_pos rfl]
  exact e
theorem zC_2347 {xs : Nat × (Nat → Int32)} {a : Nat} (ha : a + 6 ≤ xs.1) (hb : xs.1 ≤ 3072) : zCase xs 2347 a := fun h hr => by
  obtain ⟨v, h1, h2, a1, a2, a3, a4⟩ := zcall (show zPr 140 306 [.inl (xs.2 (a + 1)), .inl (xs.2 (a + 2)), .inl (xs.2 (a + 3)), .inl (xs.2 (a + 4))] from P_filled _ _ _ _) hr
  refine ⟨h2, a3, a4, fun r e => TL_2347 ?_⟩
  rw [zx1 ha hb, zx2 ha hb, zx3 ha hb, zx4 ha hb, a1, z_bi, zx1 ha hb, zx2 ha hb, zx3 ha hb, zx4 ha hb, a2, z_bi, if_pos rfl]
  exact e
theorem zC_2400 {xs : Nat × (Nat → Int32)} {a : Nat} (ha : a + 6 ≤ xs.1) (hb : xs.1 ≤ 3072) : zCase xs 2400 a := fun h hr => by
  obtain ⟨v, h1, h2, a1, a2, a3, a4⟩ := zcall (show zPr 141 307 [.inl (xs.2 (a + 1)), .inl (xs.2 (a + 2)), .inl (xs.2 (a + 3)), .inl (xs.2 (a + 4))] from P_busiest _ _ _ _) hr
  refine ⟨h2, a3, a4, fun r e => TL_2400 ?_⟩
  rw [zx1 ha hb, zx2 ha hb, zx3 ha hb, zx4 ha hb, a1, z_bi, zx1 ha hb, zx2 ha hb, zx3 ha hb, zx4 ha hb, a2, z_bi, if_pos rfl]
  exact e
theorem zC_2453 {xs : Nat × (Nat → Int32)} {a : Nat} (ha : a + 6 ≤ xs.1) (hb : xs.1 ≤ 3072) : zCase xs 2453 a := fun h hr => by
  obtain ⟨v, h1, h2, a1, a2, a3, a4⟩ := zcall (show zPr 142 308 [.inl (xs.2 (a + 1)), .inl (xs.2 (a + 2)), .inl (xs.2 (a + 3))] from P_banned _ _ _) hr
  refine ⟨h2, a3, a4, fun r e => TL_2453 ?_⟩
  rw [zx1 ha hb, zx2 ha hb, zx3 ha hb, a1, z_bi, zx1 ha hb, zx2 ha hb, zx3 ha hb, a2, z_bi, if_pos rfl]
  exact e
theorem zC_2496 {xs : Nat × (Nat → Int32)} {a : Nat} (ha : a + 6 ≤ xs.1) (hb : xs.1 ≤ 3072) : zCase xs 2496 a := fun h hr => by
  obtain ⟨v, h1, h2, a1, a2, a3, a4⟩ := zcall (show zPr 116 279 [.inl (xs.2 (a + 1)), .inl (xs.2 (a + 2)), .inl (xs.2 (a + 3))] from P_payers _ _ _) hr
  refine ⟨h2, a3, a4, fun r e => TL_2496 ?_⟩
  rw [zx1 ha hb, zx2 ha hb, zx3 ha hb, a1, z_bi, zx1 ha hb, zx2 ha hb, zx3 ha hb, a2, z_bi, if_pos rfl]
  exact e
theorem zC_2539 {xs : Nat × (Nat → Int32)} {a : Nat} (ha : a + 6 ≤ xs.1) (hb : xs.1 ≤ 3072) : zCase xs 2539 a := fun h hr => by
  obtain ⟨v, h1, h2, a1, a2, a3, a4⟩ := zcall (show zPr 133 256 [.inl (xs.2 (a + 1)), .inl (xs.2 (a + 2))] from P_could _ _) hr
  refine ⟨h2, a3, a4, fun r e => TL_2539 ?_⟩
  rw [zx1 ha hb, zx2 ha hb, a1, z_bi, zx1 ha hb, zx2 ha hb, a2, z_bi, if_pos rfl]
  exact e
theorem zC_2572 {xs : Nat × (Nat → Int32)} {a : Nat} (ha : a + 6 ≤ xs.1) (hb : xs.1 ≤ 3072) : zCase xs 2572 a := fun h hr => by
  obtain ⟨v, h1, h2, a1, a2, a3, a4⟩ := zcall (show zPr 134 257 [.inl (xs.2 (a + 1))] from P_remembers _) hr
  refine ⟨h2, a3, a4, fun r e => TL_2572 ?_⟩
  rw [zx1 ha hb, a1, z_bi, zx1 ha hb, a2, z_bi, if_pos rfl]
  exact e
theorem zC_2595 {xs : Nat × (Nat → Int32)} {a : Nat} (ha : a + 6 ≤ xs.1) (hb : xs.1 ≤ 3072) : zCase xs 2595 a := fun h hr => by
  obtain ⟨v, h1, h2, a1, a2, a3, a4⟩ := zcall (show zPr 143 193 [] from P_image) hr
  refine ⟨h2, a3, a4, fun r e => TL_2595 ?_⟩
  rw [a1, z_bi, a2, z_bi, if_pos rfl]
  exact e
theorem zC_2608 {xs : Nat × (Nat → Int32)} {a : Nat} (ha : a + 6 ≤ xs.1) (hb : xs.1 ≤ 3072) : zCase xs 2608 a := fun h hr => by
  obtain ⟨v, h1, h2, a1, a2, a3, a4⟩ := zcall (show zPr 144 194 [.inl (xs.2 (a + 1))] from P_back _) hr
  refine ⟨h2, a3, a4, fun r e => TL_2608 ?_⟩
  rw [zx1 ha hb, a1, z_bi, zx1 ha hb, a2, z_bi, if_pos rfl]
  exact e
theorem zC_2631 {xs : Nat × (Nat → Int32)} {a : Nat} (ha : a + 6 ≤ xs.1) (hb : xs.1 ≤ 3072) : zCase xs 2631 a := fun h hr => by
  obtain ⟨v, h1, h2, a1, a2, a3, a4⟩ := zcall (show zPr 145 311 [.inl (xs.2 (a + 1))] from P_count _) hr
  refine ⟨h2, a3, a4, fun r e => TL_2631 ?_⟩
  rw [zx1 ha hb, a1, z_bi, zx1 ha hb, a2, z_bi, if_pos rfl]
  exact e
