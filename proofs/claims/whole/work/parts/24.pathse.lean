-- 117 HeavyChainsModel.notes()V  cuts [0, 12, 48]
theorem q117 : cdOf 117 = some mt117 := rfl
-- 6+
theorem b117_0_0 {E : env} {M : mem} {rv : Option Value} {M2 : mem}  (h0 : ¬ M.1 83 17 = 8) (k : Rm E 117 48 [vr 83, vi 0] [] M rv M2) : Rm E 117 0 [vr 83, vn] [] M rv M2 := by
  refine R_S q117 3 (pc2 := 6) (ls2 := [vr 83, vn]) (st2 := [.int 8, .int (M.1 83 17)]) rfl ?_
  refine R_ict q117 rfl (decide_eq_true h0) ?_
  show Rm E 117 46 [vr 83, vn] [] M _ _
  refine R_S q117 2 (pc2 := 48) (ls2 := [vr 83, vi 0]) (st2 := []) rfl ?_
  exact k
-- 6-
theorem b117_0_1 {E : env} {M : mem} {rv : Option Value} {M2 : mem}  (h0 : ¬ (¬ M.1 83 17 = 8)) (k : Rm E 117 12 [vr 83, vi 90] [] M rv M2) : Rm E 117 0 [vr 83, vn] [] M rv M2 := by
  refine R_S q117 3 (pc2 := 6) (ls2 := [vr 83, vn]) (st2 := [.int 8, .int (M.1 83 17)]) rfl ?_
  refine R_icf q117 rfl (decide_eq_false h0) ?_
  show Rm E 117 9 [vr 83, vn] [] M _ _
  refine R_S q117 2 (pc2 := 12) (ls2 := [vr 83, vi 90]) (st2 := []) rfl ?_
  exact k
-- 16+
theorem b117_12_0 {E : env} {M : mem} {rv : Option Value} {M2 : mem} {x1 : Int32} {N1 : mem} (h0 : 720 ≤ x1) (eN1 : N1 = upM M 83 17 7) (k : Rm E 117 48 [vr 83, vi 0] [] N1 rv M2) : Rm E 117 12 [vr 83, vi x1] [] M rv M2 := by
  refine R_S q117 2 (pc2 := 16) (ls2 := [vr 83, vi x1]) (st2 := [.int 720, .int x1]) rfl ?_
  refine R_ict q117 rfl (decide_eq_true h0) ?_
  show Rm E 117 40 [vr 83, vi x1] [] M _ _
  refine R_S q117 2 (pc2 := 43) (ls2 := [vr 83, vi x1]) (st2 := [.int 7, .ref 83]) rfl ?_
  refine R_pf q117 rfl rfl rfl rfl rfl eN1 ?_
  show Rm E 117 46 [vr 83, vi x1] [] N1 _ _
  refine R_S q117 2 (pc2 := 48) (ls2 := [vr 83, vi 0]) (st2 := []) rfl ?_
  exact k
-- 16-
theorem b117_12_1 {E : env} {M : mem} {rv : Option Value} {M2 : mem} {x1 : Int32} {N1 : mem} (h0 : ¬ (720 ≤ x1)) (h1 : inR x1 720) (h2 : inR (x1 - 90) 720) (eN1 : N1 = upM M 94 ((x1 - 90).toNatClampNeg) (M.1 94 x1.toNatClampNeg)) (k : Rm E 117 12 [vr 83, vi (x1 + 1)] [] N1 rv M2) : Rm E 117 12 [vr 83, vi x1] [] M rv M2 := by
  refine R_S q117 2 (pc2 := 16) (ls2 := [vr 83, vi x1]) (st2 := [.int 720, .int x1]) rfl ?_
  refine R_icf q117 rfl (decide_eq_false h0) ?_
  show Rm E 117 19 [vr 83, vi x1] [] M _ _
  refine R_S q117 8 (pc2 := 32) (ls2 := [vr 83, vi x1]) (st2 := [.int x1, .ref 94, .int (x1 - 90), .ref 94]) rfl ?_
  refine R_ial q117 rfl rfl h1 ?_
  show Rm E 117 33 [vr 83, vi x1] [.int (M.1 94 x1.toNatClampNeg), .int (x1 - 90), .ref 94] M _ _
  refine R_ias q117 rfl rfl h2 eN1 ?_
  show Rm E 117 34 [vr 83, vi x1] [] N1 _ _
  refine R_S q117 2 (pc2 := 12) (ls2 := [vr 83, vi (x1 + 1)]) (st2 := []) rfl ?_
  exact k
-- 51+
theorem b117_48_0 {E : env} {M : mem} {x1 : Int32} {N1 : mem} (h0 : 90 ≤ x1) (eN1 : N1 = upM M 83 17 (M.1 83 17 + 1)) : Rm E 117 48 [vr 83, vi x1] [] M none N1 := by
  refine R_S q117 2 (pc2 := 51) (ls2 := [vr 83, vi x1]) (st2 := [.int 90, .int x1]) rfl ?_
  refine R_ict q117 rfl (decide_eq_true h0) ?_
  show Rm E 117 80 [vr 83, vi x1] [] M _ _
  refine R_S q117 5 (pc2 := 87) (ls2 := [vr 83, vi x1]) (st2 := [.int (M.1 83 17 + 1), .ref 83]) rfl ?_
  refine R_pf q117 rfl rfl rfl rfl rfl eN1 ?_
  show Rm E 117 90 [vr 83, vi x1] [] N1 _ _
  exact R_ret rfl q117 rfl rfl rfl rfl rfl
-- 51-
theorem b117_48_1 {E : env} {M : mem} {rv : Option Value} {M2 : mem} {x1 : Int32} {N1 : mem} (h0 : ¬ (90 ≤ x1)) (h1 : inR x1 90) (h2 : inR ((90 * M.1 83 17) + x1) 720) (eN1 : N1 = upM M 94 (((90 * M.1 83 17) + x1).toNatClampNeg) (M.1 84 x1.toNatClampNeg)) (k : Rm E 117 48 [vr 83, vi (x1 + 1)] [] N1 rv M2) : Rm E 117 48 [vr 83, vi x1] [] M rv M2 := by
  refine R_S q117 2 (pc2 := 51) (ls2 := [vr 83, vi x1]) (st2 := [.int 90, .int x1]) rfl ?_
  refine R_icf q117 rfl (decide_eq_false h0) ?_
  show Rm E 117 54 [vr 83, vi x1] [] M _ _
  refine R_S q117 11 (pc2 := 72) (ls2 := [vr 83, vi x1]) (st2 := [.int x1, .ref 84, .int ((90 * M.1 83 17) + x1), .ref 94]) rfl ?_
  refine R_ial q117 rfl rfl h1 ?_
  show Rm E 117 73 [vr 83, vi x1] [.int (M.1 84 x1.toNatClampNeg), .int ((90 * M.1 83 17) + x1), .ref 94] M _ _
  refine R_ias q117 rfl rfl h2 eN1 ?_
  show Rm E 117 74 [vr 83, vi x1] [] N1 _ _
  refine R_S q117 2 (pc2 := 48) (ls2 := [vr 83, vi (x1 + 1)]) (st2 := []) rfl ?_
  exact k
-- 118 HeavyChainsModel.added(III)I  cuts [0]
theorem q118 : cdOf 118 = some mt118 := rfl
-- 3+ 14+ 28+
theorem b118_0_0 {E : env} {M : mem} {x0 x1 x2 : Int32}  (h0 : ¬ x2 = 1) (h1 : ¬ x2 = 3) (h2 : x2 ≤ 1) : Rm E 118 0 [vi x0, vi x1, vi x2, vn] [] M (some (.int (x0 + x1))) M := by
  refine R_S q118 3 (pc2 := 3) (ls2 := [vi x0, vi x1, vi x2, vn]) (st2 := [.int 1, .int x2, .int x0]) rfl ?_
  refine R_ict q118 rfl (decide_eq_true h0) ?_
  show Rm E 118 12 [vi x0, vi x1, vi x2, vn] [.int x0] M _ _
  refine R_S q118 2 (pc2 := 14) (ls2 := [vi x0, vi x1, vi x2, vn]) (st2 := [.int 3, .int x2, .int x0]) rfl ?_
  refine R_ict q118 rfl (decide_eq_true h1) ?_
  show Rm E 118 23 [vi x0, vi x1, vi x2, vn] [.int x0] M _ _
  refine R_S q118 5 (pc2 := 28) (ls2 := [vi x0, vi x1, vi x2, vi (x0 + x1)]) (st2 := [.int 1, .int x2]) rfl ?_
  refine R_ict q118 rfl (decide_eq_true h2) ?_
  show Rm E 118 39 [vi x0, vi x1, vi x2, vi (x0 + x1)] [] M _ _
  refine R_S q118 1 (pc2 := 40) (ls2 := [vi x0, vi x1, vi x2, vi (x0 + x1)]) (st2 := [.int (x0 + x1)]) rfl ?_
  exact R_ret rfl q118 rfl rfl rfl rfl (stpR_i rfl rfl)
-- 3+ 14+ 28- 32+
theorem b118_0_1 {E : env} {M : mem} {x0 x1 x2 : Int32}  (h0 : ¬ x2 = 1) (h1 : ¬ x2 = 3) (h2 : ¬ (x2 ≤ 1)) (h3 : 0 ≤ (x0 + x1)) : Rm E 118 0 [vi x0, vi x1, vi x2, vn] [] M (some (.int (x0 + x1))) M := by
  refine R_S q118 3 (pc2 := 3) (ls2 := [vi x0, vi x1, vi x2, vn]) (st2 := [.int 1, .int x2, .int x0]) rfl ?_
  refine R_ict q118 rfl (decide_eq_true h0) ?_
  show Rm E 118 12 [vi x0, vi x1, vi x2, vn] [.int x0] M _ _
  refine R_S q118 2 (pc2 := 14) (ls2 := [vi x0, vi x1, vi x2, vn]) (st2 := [.int 3, .int x2, .int x0]) rfl ?_
  refine R_ict q118 rfl (decide_eq_true h1) ?_
  show Rm E 118 23 [vi x0, vi x1, vi x2, vn] [.int x0] M _ _
  refine R_S q118 5 (pc2 := 28) (ls2 := [vi x0, vi x1, vi x2, vi (x0 + x1)]) (st2 := [.int 1, .int x2]) rfl ?_
  refine R_icf q118 rfl (decide_eq_false h2) ?_
  show Rm E 118 31 [vi x0, vi x1, vi x2, vi (x0 + x1)] [] M _ _
  refine R_S q118 1 (pc2 := 32) (ls2 := [vi x0, vi x1, vi x2, vi (x0 + x1)]) (st2 := [.int (x0 + x1)]) rfl ?_
  refine R_ift q118 rfl (decide_eq_true h3) ?_
  show Rm E 118 39 [vi x0, vi x1, vi x2, vi (x0 + x1)] [] M _ _
  refine R_S q118 1 (pc2 := 40) (ls2 := [vi x0, vi x1, vi x2, vi (x0 + x1)]) (st2 := [.int (x0 + x1)]) rfl ?_
  exact R_ret rfl q118 rfl rfl rfl rfl (stpR_i rfl rfl)
-- 3+ 14+ 28- 32-
theorem b118_0_2 {E : env} {M : mem} {x0 x1 x2 : Int32}  (h0 : ¬ x2 = 1) (h1 : ¬ x2 = 3) (h2 : ¬ (x2 ≤ 1)) (h3 : ¬ (0 ≤ (x0 + x1))) : Rm E 118 0 [vi x0, vi x1, vi x2, vn] [] M (some (.int 0)) M := by
  refine R_S q118 3 (pc2 := 3) (ls2 := [vi x0, vi x1, vi x2, vn]) (st2 := [.int 1, .int x2, .int x0]) rfl ?_
  refine R_ict q118 rfl (decide_eq_true h0) ?_
  show Rm E 118 12 [vi x0, vi x1, vi x2, vn] [.int x0] M _ _
  refine R_S q118 2 (pc2 := 14) (ls2 := [vi x0, vi x1, vi x2, vn]) (st2 := [.int 3, .int x2, .int x0]) rfl ?_
  refine R_ict q118 rfl (decide_eq_true h1) ?_
  show Rm E 118 23 [vi x0, vi x1, vi x2, vn] [.int x0] M _ _
  refine R_S q118 5 (pc2 := 28) (ls2 := [vi x0, vi x1, vi x2, vi (x0 + x1)]) (st2 := [.int 1, .int x2]) rfl ?_
  refine R_icf q118 rfl (decide_eq_false h2) ?_
  show Rm E 118 31 [vi x0, vi x1, vi x2, vi (x0 + x1)] [] M _ _
  refine R_S q118 1 (pc2 := 32) (ls2 := [vi x0, vi x1, vi x2, vi (x0 + x1)]) (st2 := [.int (x0 + x1)]) rfl ?_
  refine R_iff q118 rfl (decide_eq_false h3) ?_
  show Rm E 118 35 [vi x0, vi x1, vi x2, vi (x0 + x1)] [] M _ _
  refine R_S q118 2 (pc2 := 40) (ls2 := [vi x0, vi x1, vi x2, vi (x0 + x1)]) (st2 := [.int 0]) rfl ?_
  exact R_ret rfl q118 rfl rfl rfl rfl (stpR_i rfl rfl)
-- 3+ 14- 28+
theorem b118_0_3 {E : env} {M : mem} {x0 x1 x2 : Int32}  (h0 : ¬ x2 = 1) (h1 : ¬ (¬ x2 = 3)) (h2 : x2 ≤ 1) : Rm E 118 0 [vi x0, vi x1, vi x2, vn] [] M (some (.int (x0 + (x1 / 2)))) M := by
  refine R_S q118 3 (pc2 := 3) (ls2 := [vi x0, vi x1, vi x2, vn]) (st2 := [.int 1, .int x2, .int x0]) rfl ?_
  refine R_ict q118 rfl (decide_eq_true h0) ?_
  show Rm E 118 12 [vi x0, vi x1, vi x2, vn] [.int x0] M _ _
  refine R_S q118 2 (pc2 := 14) (ls2 := [vi x0, vi x1, vi x2, vn]) (st2 := [.int 3, .int x2, .int x0]) rfl ?_
  refine R_icf q118 rfl (decide_eq_false h1) ?_
  show Rm E 118 17 [vi x0, vi x1, vi x2, vn] [.int x0] M _ _
  refine R_S q118 8 (pc2 := 28) (ls2 := [vi x0, vi x1, vi x2, vi (x0 + (x1 / 2))]) (st2 := [.int 1, .int x2]) rfl ?_
  refine R_ict q118 rfl (decide_eq_true h2) ?_
  show Rm E 118 39 [vi x0, vi x1, vi x2, vi (x0 + (x1 / 2))] [] M _ _
  refine R_S q118 1 (pc2 := 40) (ls2 := [vi x0, vi x1, vi x2, vi (x0 + (x1 / 2))]) (st2 := [.int (x0 + (x1 / 2))]) rfl ?_
  exact R_ret rfl q118 rfl rfl rfl rfl (stpR_i rfl rfl)
-- 3+ 14- 28- 32+
theorem b118_0_4 {E : env} {M : mem} {x0 x1 x2 : Int32}  (h0 : ¬ x2 = 1) (h1 : ¬ (¬ x2 = 3)) (h2 : ¬ (x2 ≤ 1)) (h3 : 0 ≤ (x0 + (x1 / 2))) : Rm E 118 0 [vi x0, vi x1, vi x2, vn] [] M (some (.int (x0 + (x1 / 2)))) M := by
  refine R_S q118 3 (pc2 := 3) (ls2 := [vi x0, vi x1, vi x2, vn]) (st2 := [.int 1, .int x2, .int x0]) rfl ?_
  refine R_ict q118 rfl (decide_eq_true h0) ?_
  show Rm E 118 12 [vi x0, vi x1, vi x2, vn] [.int x0] M _ _
  refine R_S q118 2 (pc2 := 14) (ls2 := [vi x0, vi x1, vi x2, vn]) (st2 := [.int 3, .int x2, .int x0]) rfl ?_
  refine R_icf q118 rfl (decide_eq_false h1) ?_
  show Rm E 118 17 [vi x0, vi x1, vi x2, vn] [.int x0] M _ _
  refine R_S q118 8 (pc2 := 28) (ls2 := [vi x0, vi x1, vi x2, vi (x0 + (x1 / 2))]) (st2 := [.int 1, .int x2]) rfl ?_
  refine R_icf q118 rfl (decide_eq_false h2) ?_
  show Rm E 118 31 [vi x0, vi x1, vi x2, vi (x0 + (x1 / 2))] [] M _ _
  refine R_S q118 1 (pc2 := 32) (ls2 := [vi x0, vi x1, vi x2, vi (x0 + (x1 / 2))]) (st2 := [.int (x0 + (x1 / 2))]) rfl ?_
  refine R_ift q118 rfl (decide_eq_true h3) ?_
  show Rm E 118 39 [vi x0, vi x1, vi x2, vi (x0 + (x1 / 2))] [] M _ _
  refine R_S q118 1 (pc2 := 40) (ls2 := [vi x0, vi x1, vi x2, vi (x0 + (x1 / 2))]) (st2 := [.int (x0 + (x1 / 2))]) rfl ?_
  exact R_ret rfl q118 rfl rfl rfl rfl (stpR_i rfl rfl)
-- 3+ 14- 28- 32-
theorem b118_0_5 {E : env} {M : mem} {x0 x1 x2 : Int32}  (h0 : ¬ x2 = 1) (h1 : ¬ (¬ x2 = 3)) (h2 : ¬ (x2 ≤ 1)) (h3 : ¬ (0 ≤ (x0 + (x1 / 2)))) : Rm E 118 0 [vi x0, vi x1, vi x2, vn] [] M (some (.int 0)) M := by
  refine R_S q118 3 (pc2 := 3) (ls2 := [vi x0, vi x1, vi x2, vn]) (st2 := [.int 1, .int x2, .int x0]) rfl ?_
  refine R_ict q118 rfl (decide_eq_true h0) ?_
  show Rm E 118 12 [vi x0, vi x1, vi x2, vn] [.int x0] M _ _
  refine R_S q118 2 (pc2 := 14) (ls2 := [vi x0, vi x1, vi x2, vn]) (st2 := [.int 3, .int x2, .int x0]) rfl ?_
  refine R_icf q118 rfl (decide_eq_false h1) ?_
  show Rm E 118 17 [vi x0, vi x1, vi x2, vn] [.int x0] M _ _
  refine R_S q118 8 (pc2 := 28) (ls2 := [vi x0, vi x1, vi x2, vi (x0 + (x1 / 2))]) (st2 := [.int 1, .int x2]) rfl ?_
  refine R_icf q118 rfl (decide_eq_false h2) ?_
  show Rm E 118 31 [vi x0, vi x1, vi x2, vi (x0 + (x1 / 2))] [] M _ _
  refine R_S q118 1 (pc2 := 32) (ls2 := [vi x0, vi x1, vi x2, vi (x0 + (x1 / 2))]) (st2 := [.int (x0 + (x1 / 2))]) rfl ?_
  refine R_iff q118 rfl (decide_eq_false h3) ?_
  show Rm E 118 35 [vi x0, vi x1, vi x2, vi (x0 + (x1 / 2))] [] M _ _
  refine R_S q118 2 (pc2 := 40) (ls2 := [vi x0, vi x1, vi x2, vi (x0 + (x1 / 2))]) (st2 := [.int 0]) rfl ?_
  exact R_ret rfl q118 rfl rfl rfl rfl (stpR_i rfl rfl)
-- 3- 28+
theorem b118_0_6 {E : env} {M : mem} {x0 x1 x2 : Int32}  (h0 : ¬ (¬ x2 = 1)) (h1 : x2 ≤ 1) : Rm E 118 0 [vi x0, vi x1, vi x2, vn] [] M (some (.int (x0 + (2 * x1)))) M := by
  refine R_S q118 3 (pc2 := 3) (ls2 := [vi x0, vi x1, vi x2, vn]) (st2 := [.int 1, .int x2, .int x0]) rfl ?_
  refine R_icf q118 rfl (decide_eq_false h0) ?_
  show Rm E 118 6 [vi x0, vi x1, vi x2, vn] [.int x0] M _ _
  refine R_S q118 8 (pc2 := 28) (ls2 := [vi x0, vi x1, vi x2, vi (x0 + (2 * x1))]) (st2 := [.int 1, .int x2]) rfl ?_
  refine R_ict q118 rfl (decide_eq_true h1) ?_
  show Rm E 118 39 [vi x0, vi x1, vi x2, vi (x0 + (2 * x1))] [] M _ _
  refine R_S q118 1 (pc2 := 40) (ls2 := [vi x0, vi x1, vi x2, vi (x0 + (2 * x1))]) (st2 := [.int (x0 + (2 * x1))]) rfl ?_
  exact R_ret rfl q118 rfl rfl rfl rfl (stpR_i rfl rfl)
-- 3- 28- 32+
theorem b118_0_7 {E : env} {M : mem} {x0 x1 x2 : Int32}  (h0 : ¬ (¬ x2 = 1)) (h1 : ¬ (x2 ≤ 1)) (h2 : 0 ≤ (x0 + (2 * x1))) : Rm E 118 0 [vi x0, vi x1, vi x2, vn] [] M (some (.int (x0 + (2 * x1)))) M := by
  refine R_S q118 3 (pc2 := 3) (ls2 := [vi x0, vi x1, vi x2, vn]) (st2 := [.int 1, .int x2, .int x0]) rfl ?_
  refine R_icf q118 rfl (decide_eq_false h0) ?_
  show Rm E 118 6 [vi x0, vi x1, vi x2, vn] [.int x0] M _ _
  refine R_S q118 8 (pc2 := 28) (ls2 := [vi x0, vi x1, vi x2, vi (x0 + (2 * x1))]) (st2 := [.int 1, .int x2]) rfl ?_
  refine R_icf q118 rfl (decide_eq_false h1) ?_
  show Rm E 118 31 [vi x0, vi x1, vi x2, vi (x0 + (2 * x1))] [] M _ _
  refine R_S q118 1 (pc2 := 32) (ls2 := [vi x0, vi x1, vi x2, vi (x0 + (2 * x1))]) (st2 := [.int (x0 + (2 * x1))]) rfl ?_
  refine R_ift q118 rfl (decide_eq_true h2) ?_
  show Rm E 118 39 [vi x0, vi x1, vi x2, vi (x0 + (2 * x1))] [] M _ _
  refine R_S q118 1 (pc2 := 40) (ls2 := [vi x0, vi x1, vi x2, vi (x0 + (2 * x1))]) (st2 := [.int (x0 + (2 * x1))]) rfl ?_
  exact R_ret rfl q118 rfl rfl rfl rfl (stpR_i rfl rfl)
-- 3- 28- 32-
theorem b118_0_8 {E : env} {M : mem} {x0 x1 x2 : Int32}  (h0 : ¬ (¬ x2 = 1)) (h1 : ¬ (x2 ≤ 1)) (h2 : ¬ (0 ≤ (x0 + (2 * x1)))) : Rm E 118 0 [vi x0, vi x1, vi x2, vn] [] M (some (.int 0)) M := by
  refine R_S q118 3 (pc2 := 3) (ls2 := [vi x0, vi x1, vi x2, vn]) (st2 := [.int 1, .int x2, .int x0]) rfl ?_
  refine R_icf q118 rfl (decide_eq_false h0) ?_
  show Rm E 118 6 [vi x0, vi x1, vi x2, vn] [.int x0] M _ _
  refine R_S q118 8 (pc2 := 28) (ls2 := [vi x0, vi x1, vi x2, vi (x0 + (2 * x1))]) (st2 := [.int 1, .int x2]) rfl ?_
  refine R_icf q118 rfl (decide_eq_false h1) ?_
  show Rm E 118 31 [vi x0, vi x1, vi x2, vi (x0 + (2 * x1))] [] M _ _
  refine R_S q118 1 (pc2 := 32) (ls2 := [vi x0, vi x1, vi x2, vi (x0 + (2 * x1))]) (st2 := [.int (x0 + (2 * x1))]) rfl ?_
  refine R_iff q118 rfl (decide_eq_false h2) ?_
  show Rm E 118 35 [vi x0, vi x1, vi x2, vi (x0 + (2 * x1))] [] M _ _
  refine R_S q118 2 (pc2 := 40) (ls2 := [vi x0, vi x1, vi x2, vi (x0 + (2 * x1))]) (st2 := [.int 0]) rfl ?_
  exact R_ret rfl q118 rfl rfl rfl rfl (stpR_i rfl rfl)
-- 119 HeavyChainsModel.mayAdd(II)Z  cuts [0, 5]
theorem q119 : cdOf 119 = some mt119 := rfl
-- 
theorem b119_0_0 {E : env} {M : mem} {rv : Option Value} {M2 : mem} {x1 x2 : Int32}  (k : Rm E 119 5 [vr 83, vi x1, vi x2, vi 1, vi 0] [] M rv M2) : Rm E 119 0 [vr 83, vi x1, vi x2, vn, vn] [] M rv M2 := by
  refine R_S q119 4 (pc2 := 5) (ls2 := [vr 83, vi x1, vi x2, vi 1, vi 0]) (st2 := []) rfl ?_
  exact k
-- 11+
theorem b119_5_0 {E : env} {M : mem} {x1 x2 x3 x4 : Int32}  (h0 : M.1 83 14 ≤ x4) (h1 : x3 = 0 ∨ x3 = 1) : Rm E 119 5 [vr 83, vi x1, vi x2, vi x3, vi x4] [] M (some (.int x3)) M := by
  refine R_S q119 3 (pc2 := 11) (ls2 := [vr 83, vi x1, vi x2, vi x3, vi x4]) (st2 := [.int (M.1 83 14), .int x4]) rfl ?_
  refine R_ict q119 rfl (decide_eq_true h0) ?_
  show Rm E 119 60 [vr 83, vi x1, vi x2, vi x3, vi x4] [] M _ _
  refine R_S q119 1 (pc2 := 61) (ls2 := [vr 83, vi x1, vi x2, vi x3, vi x4]) (st2 := [.int x3]) rfl ?_
  exact R_ret rfl q119 rfl rfl rfl rfl (stpR_z rfl rfl h1)
-- 11- 15+
theorem b119_5_1 {E : env} {M : mem} {rv : Option Value} {M2 : mem} {x1 x2 x3 x4 : Int32}  (h0 : ¬ (M.1 83 14 ≤ x4)) (h1 : x3 = 0) (k : Rm E 119 5 [vr 83, vi x1, vi x2, vi 0, vi (x4 + 1)] [] M rv M2) : Rm E 119 5 [vr 83, vi x1, vi x2, vi x3, vi x4] [] M rv M2 := by
  refine R_S q119 3 (pc2 := 11) (ls2 := [vr 83, vi x1, vi x2, vi x3, vi x4]) (st2 := [.int (M.1 83 14), .int x4]) rfl ?_
  refine R_icf q119 rfl (decide_eq_false h0) ?_
  show Rm E 119 14 [vr 83, vi x1, vi x2, vi x3, vi x4] [] M _ _
  refine R_S q119 1 (pc2 := 15) (ls2 := [vr 83, vi x1, vi x2, vi x3, vi x4]) (st2 := [.int x3]) rfl ?_
  refine R_ift q119 rfl (decide_eq_true h1) ?_
  show Rm E 119 52 [vr 83, vi x1, vi x2, vi x3, vi x4] [] M _ _
  refine R_S q119 4 (pc2 := 5) (ls2 := [vr 83, vi x1, vi x2, vi 0, vi (x4 + 1)]) (st2 := []) rfl ?_
  exact k
-- 11- 15- call X10_added call X10_in 45+
theorem b119_5_2 {E : env} {M : mem} {rv : Option Value} {M2 : mem} {x1 x2 x3 x4 : Int32} {c1 : Int32} {c2 : Int32} (h0 : ¬ (M.1 83 14 ≤ x4)) (h1 : ¬ (x3 = 0)) (h2 : inR x4 60) (h3 : inR (M.1 93 x4.toNatClampNeg) 90) (h4 : Rm E 118 0 [vi (M.1 84 (M.1 93 x4.toNatClampNeg).toNatClampNeg), vi x1, vi x2, vn] [] M (some (.int c1)) M) (h5 : Rm E 88 0 [vl (((c1 : Int32)).toInt64), vn, vl (-9999), vn, vl 9999, vn] [] M (some (.int c2)) M) (h6 : c2 = 0) (k : Rm E 119 5 [vr 83, vi x1, vi x2, vi 0, vi (x4 + 1)] [] M rv M2) : Rm E 119 5 [vr 83, vi x1, vi x2, vi x3, vi x4] [] M rv M2 := by
  refine R_S q119 3 (pc2 := 11) (ls2 := [vr 83, vi x1, vi x2, vi x3, vi x4]) (st2 := [.int (M.1 83 14), .int x4]) rfl ?_
  refine R_icf q119 rfl (decide_eq_false h0) ?_
  show Rm E 119 14 [vr 83, vi x1, vi x2, vi x3, vi x4] [] M _ _
  refine R_S q119 1 (pc2 := 15) (ls2 := [vr 83, vi x1, vi x2, vi x3, vi x4]) (st2 := [.int x3]) rfl ?_
  refine R_iff q119 rfl (decide_eq_false h1) ?_
  show Rm E 119 18 [vr 83, vi x1, vi x2, vi x3, vi x4] [] M _ _
  refine R_S q119 5 (pc2 := 28) (ls2 := [vr 83, vi x1, vi x2, vi x3, vi x4]) (st2 := [.int x4, .ref 93, .ref 84]) rfl ?_
  refine R_ial q119 rfl rfl h2 ?_
  show Rm E 119 29 [vr 83, vi x1, vi x2, vi x3, vi x4] [.int (M.1 93 x4.toNatClampNeg), .ref 84] M _ _
  refine R_ial q119 rfl rfl h3 ?_
  show Rm E 119 30 [vr 83, vi x1, vi x2, vi x3, vi x4] [.int (M.1 84 (M.1 93 x4.toNatClampNeg).toNatClampNeg)] M _ _
  refine R_S q119 2 (pc2 := 32) (ls2 := [vr 83, vi x1, vi x2, vi x3, vi x4]) (st2 := [.int x2, .int x1, .int (M.1 84 (M.1 93 x4.toNatClampNeg).toNatClampNeg)]) rfl ?_
  refine R_call q119 rfl rfl rfl rfl rfl rfl h4 ?_
  show Rm E 119 35 [vr 83, vi x1, vi x2, vi x3, vi x4] [.int c1] M _ _
  refine R_S q119 3 (pc2 := 42) (ls2 := [vr 83, vi x1, vi x2, vi x3, vi x4]) (st2 := [.long 9999, .long (-9999), .long (((c1 : Int32)).toInt64)]) rfl ?_
  refine R_call q119 rfl rfl rfl rfl rfl rfl h5 ?_
  show Rm E 119 45 [vr 83, vi x1, vi x2, vi x3, vi x4] [.int c2] M _ _
  refine R_ift q119 rfl (decide_eq_true h6) ?_
  show Rm E 119 52 [vr 83, vi x1, vi x2, vi x3, vi x4] [] M _ _
  refine R_S q119 4 (pc2 := 5) (ls2 := [vr 83, vi x1, vi x2, vi 0, vi (x4 + 1)]) (st2 := []) rfl ?_
  exact k
-- 11- 15- call X10_added call X10_in 45-
theorem b119_5_3 {E : env} {M : mem} {rv : Option Value} {M2 : mem} {x1 x2 x3 x4 : Int32} {c1 : Int32} {c2 : Int32} (h0 : ¬ (M.1 83 14 ≤ x4)) (h1 : ¬ (x3 = 0)) (h2 : inR x4 60) (h3 : inR (M.1 93 x4.toNatClampNeg) 90) (h4 : Rm E 118 0 [vi (M.1 84 (M.1 93 x4.toNatClampNeg).toNatClampNeg), vi x1, vi x2, vn] [] M (some (.int c1)) M) (h5 : Rm E 88 0 [vl (((c1 : Int32)).toInt64), vn, vl (-9999), vn, vl 9999, vn] [] M (some (.int c2)) M) (h6 : ¬ (c2 = 0)) (k : Rm E 119 5 [vr 83, vi x1, vi x2, vi 1, vi (x4 + 1)] [] M rv M2) : Rm E 119 5 [vr 83, vi x1, vi x2, vi x3, vi x4] [] M rv M2 := by
  refine R_S q119 3 (pc2 := 11) (ls2 := [vr 83, vi x1, vi x2, vi x3, vi x4]) (st2 := [.int (M.1 83 14), .int x4]) rfl ?_
  refine R_icf q119 rfl (decide_eq_false h0) ?_
  show Rm E 119 14 [vr 83, vi x1, vi x2, vi x3, vi x4] [] M _ _
  refine R_S q119 1 (pc2 := 15) (ls2 := [vr 83, vi x1, vi x2, vi x3, vi x4]) (st2 := [.int x3]) rfl ?_
  refine R_iff q119 rfl (decide_eq_false h1) ?_
  show Rm E 119 18 [vr 83, vi x1, vi x2, vi x3, vi x4] [] M _ _
  refine R_S q119 5 (pc2 := 28) (ls2 := [vr 83, vi x1, vi x2, vi x3, vi x4]) (st2 := [.int x4, .ref 93, .ref 84]) rfl ?_
  refine R_ial q119 rfl rfl h2 ?_
  show Rm E 119 29 [vr 83, vi x1, vi x2, vi x3, vi x4] [.int (M.1 93 x4.toNatClampNeg), .ref 84] M _ _
  refine R_ial q119 rfl rfl h3 ?_
  show Rm E 119 30 [vr 83, vi x1, vi x2, vi x3, vi x4] [.int (M.1 84 (M.1 93 x4.toNatClampNeg).toNatClampNeg)] M _ _
  refine R_S q119 2 (pc2 := 32) (ls2 := [vr 83, vi x1, vi x2, vi x3, vi x4]) (st2 := [.int x2, .int x1, .int (M.1 84 (M.1 93 x4.toNatClampNeg).toNatClampNeg)]) rfl ?_
  refine R_call q119 rfl rfl rfl rfl rfl rfl h4 ?_
  show Rm E 119 35 [vr 83, vi x1, vi x2, vi x3, vi x4] [.int c1] M _ _
  refine R_S q119 3 (pc2 := 42) (ls2 := [vr 83, vi x1, vi x2, vi x3, vi x4]) (st2 := [.long 9999, .long (-9999), .long (((c1 : Int32)).toInt64)]) rfl ?_
  refine R_call q119 rfl rfl rfl rfl rfl rfl h5 ?_
  show Rm E 119 45 [vr 83, vi x1, vi x2, vi x3, vi x4] [.int c2] M _ _
  refine R_iff q119 rfl (decide_eq_false h6) ?_
  show Rm E 119 48 [vr 83, vi x1, vi x2, vi x3, vi x4] [] M _ _
  refine R_S q119 5 (pc2 := 5) (ls2 := [vr 83, vi x1, vi x2, vi 1, vi (x4 + 1)]) (st2 := []) rfl ?_
  exact k
-- 120 HeavyChainsModel.adds(II)V  cuts [0, 2]
theorem q120 : cdOf 120 = some mt120 := rfl
-- 
theorem b120_0_0 {E : env} {M : mem} {rv : Option Value} {M2 : mem} {x1 x2 : Int32}  (k : Rm E 120 2 [vr 83, vi x1, vi x2, vi 0] [] M rv M2) : Rm E 120 0 [vr 83, vi x1, vi x2, vn] [] M rv M2 := by
  refine R_S q120 2 (pc2 := 2) (ls2 := [vr 83, vi x1, vi x2, vi 0]) (st2 := []) rfl ?_
  exact k
-- 7+
theorem b120_2_0 {E : env} {M : mem} {x1 x2 x3 : Int32}  (h0 : M.1 83 14 ≤ x3) : Rm E 120 2 [vr 83, vi x1, vi x2, vi x3] [] M none M := by
  refine R_S q120 3 (pc2 := 7) (ls2 := [vr 83, vi x1, vi x2, vi x3]) (st2 := [.int (M.1 83 14), .int x3]) rfl ?_
  refine R_ict q120 rfl (decide_eq_true h0) ?_
  show Rm E 120 43 [vr 83, vi x1, vi x2, vi x3] [] M _ _
  exact R_ret rfl q120 rfl rfl rfl rfl rfl
-- 7- call X10_added
theorem b120_2_1 {E : env} {M : mem} {rv : Option Value} {M2 : mem} {x1 x2 x3 : Int32} {c1 : Int32} {N1 : mem} (h0 : ¬ (M.1 83 14 ≤ x3)) (h1 : inR x3 60) (h2 : inR x3 60) (h3 : inR (M.1 93 x3.toNatClampNeg) 90) (h4 : Rm E 118 0 [vi (M.1 84 (M.1 93 x3.toNatClampNeg).toNatClampNeg), vi x1, vi x2, vn] [] M (some (.int c1)) M) (h5 : inR (M.1 93 x3.toNatClampNeg) 90) (eN1 : N1 = upM M 84 ((M.1 93 x3.toNatClampNeg).toNatClampNeg) c1) (k : Rm E 120 2 [vr 83, vi x1, vi x2, vi (x3 + 1)] [] N1 rv M2) : Rm E 120 2 [vr 83, vi x1, vi x2, vi x3] [] M rv M2 := by
  refine R_S q120 3 (pc2 := 7) (ls2 := [vr 83, vi x1, vi x2, vi x3]) (st2 := [.int (M.1 83 14), .int x3]) rfl ?_
  refine R_icf q120 rfl (decide_eq_false h0) ?_
  show Rm E 120 10 [vr 83, vi x1, vi x2, vi x3] [] M _ _
  refine R_S q120 5 (pc2 := 19) (ls2 := [vr 83, vi x1, vi x2, vi x3]) (st2 := [.int x3, .ref 93, .ref 84]) rfl ?_
  refine R_ial q120 rfl rfl h1 ?_
  show Rm E 120 20 [vr 83, vi x1, vi x2, vi x3] [.int (M.1 93 x3.toNatClampNeg), .ref 84] M _ _
  refine R_S q120 5 (pc2 := 29) (ls2 := [vr 83, vi x1, vi x2, vi x3]) (st2 := [.int x3, .ref 93, .ref 84, .int (M.1 93 x3.toNatClampNeg), .ref 84]) rfl ?_
  refine R_ial q120 rfl rfl h2 ?_
  show Rm E 120 30 [vr 83, vi x1, vi x2, vi x3] [.int (M.1 93 x3.toNatClampNeg), .ref 84, .int (M.1 93 x3.toNatClampNeg), .ref 84] M _ _
  refine R_ial q120 rfl rfl h3 ?_
  show Rm E 120 31 [vr 83, vi x1, vi x2, vi x3] [.int (M.1 84 (M.1 93 x3.toNatClampNeg).toNatClampNeg), .int (M.1 93 x3.toNatClampNeg), .ref 84] M _ _
  refine R_S q120 2 (pc2 := 33) (ls2 := [vr 83, vi x1, vi x2, vi x3]) (st2 := [.int x2, .int x1, .int (M.1 84 (M.1 93 x3.toNatClampNeg).toNatClampNeg), .int (M.1 93 x3.toNatClampNeg), .ref 84]) rfl ?_
  refine R_call q120 rfl rfl rfl rfl rfl rfl h4 ?_
  show Rm E 120 36 [vr 83, vi x1, vi x2, vi x3] [.int c1, .int (M.1 93 x3.toNatClampNeg), .ref 84] M _ _
  refine R_ias q120 rfl rfl h5 eN1 ?_
  show Rm E 120 37 [vr 83, vi x1, vi x2, vi x3] [] N1 _ _
  refine R_S q120 2 (pc2 := 2) (ls2 := [vr 83, vi x1, vi x2, vi (x3 + 1)]) (st2 := []) rfl ?_
  exact k
-- 121 HeavyChainsModel.isAdding(II)Z  cuts [0]
theorem q121 : cdOf 121 = some mt121 := rfl
-- call X10_in 11+
theorem b121_0_0 {E : env} {M : mem} {x0 x1 : Int32} {c1 : Int32} (h0 : Rm E 88 0 [vl (((x0 : Int32)).toInt64), vn, vl (-999), vn, vl 999, vn] [] M (some (.int c1)) M) (h1 : c1 = 0) : Rm E 121 0 [vi x0, vi x1] [] M (some (.int 0)) M := by
  refine R_S q121 4 (pc2 := 8) (ls2 := [vi x0, vi x1]) (st2 := [.long 999, .long (-999), .long (((x0 : Int32)).toInt64)]) rfl ?_
  refine R_call q121 rfl rfl rfl rfl rfl rfl h0 ?_
  show Rm E 121 11 [vi x0, vi x1] [.int c1] M _ _
  refine R_ift q121 rfl (decide_eq_true h1) ?_
  show Rm E 121 30 [vi x0, vi x1] [] M _ _
  refine R_S q121 1 (pc2 := 31) (ls2 := [vi x0, vi x1]) (st2 := [.int 0]) rfl ?_
  exact R_ret rfl q121 rfl rfl rfl rfl rfl
-- call X10_in 11- call X10_in 23+
theorem b121_0_1 {E : env} {M : mem} {x0 x1 : Int32} {c1 : Int32} {c2 : Int32} (h0 : Rm E 88 0 [vl (((x0 : Int32)).toInt64), vn, vl (-999), vn, vl 999, vn] [] M (some (.int c1)) M) (h1 : ¬ (c1 = 0)) (h2 : Rm E 88 0 [vl (((x1 : Int32)).toInt64), vn, vl 0, vn, vl 3, vn] [] M (some (.int c2)) M) (h3 : c2 = 0) : Rm E 121 0 [vi x0, vi x1] [] M (some (.int 0)) M := by
  refine R_S q121 4 (pc2 := 8) (ls2 := [vi x0, vi x1]) (st2 := [.long 999, .long (-999), .long (((x0 : Int32)).toInt64)]) rfl ?_
  refine R_call q121 rfl rfl rfl rfl rfl rfl h0 ?_
  show Rm E 121 11 [vi x0, vi x1] [.int c1] M _ _
  refine R_iff q121 rfl (decide_eq_false h1) ?_
  show Rm E 121 14 [vi x0, vi x1] [] M _ _
  refine R_S q121 4 (pc2 := 20) (ls2 := [vi x0, vi x1]) (st2 := [.long 3, .long 0, .long (((x1 : Int32)).toInt64)]) rfl ?_
  refine R_call q121 rfl rfl rfl rfl rfl rfl h2 ?_
  show Rm E 121 23 [vi x0, vi x1] [.int c2] M _ _
  refine R_ift q121 rfl (decide_eq_true h3) ?_
  show Rm E 121 30 [vi x0, vi x1] [] M _ _
  refine R_S q121 1 (pc2 := 31) (ls2 := [vi x0, vi x1]) (st2 := [.int 0]) rfl ?_
  exact R_ret rfl q121 rfl rfl rfl rfl rfl
-- call X10_in 11- call X10_in 23-
theorem b121_0_2 {E : env} {M : mem} {x0 x1 : Int32} {c1 : Int32} {c2 : Int32} (h0 : Rm E 88 0 [vl (((x0 : Int32)).toInt64), vn, vl (-999), vn, vl 999, vn] [] M (some (.int c1)) M) (h1 : ¬ (c1 = 0)) (h2 : Rm E 88 0 [vl (((x1 : Int32)).toInt64), vn, vl 0, vn, vl 3, vn] [] M (some (.int c2)) M) (h3 : ¬ (c2 = 0)) : Rm E 121 0 [vi x0, vi x1] [] M (some (.int 1)) M := by
  refine R_S q121 4 (pc2 := 8) (ls2 := [vi x0, vi x1]) (st2 := [.long 999, .long (-999), .long (((x0 : Int32)).toInt64)]) rfl ?_
  refine R_call q121 rfl rfl rfl rfl rfl rfl h0 ?_
  show Rm E 121 11 [vi x0, vi x1] [.int c1] M _ _
  refine R_iff q121 rfl (decide_eq_false h1) ?_
  show Rm E 121 14 [vi x0, vi x1] [] M _ _
  refine R_S q121 4 (pc2 := 20) (ls2 := [vi x0, vi x1]) (st2 := [.long 3, .long 0, .long (((x1 : Int32)).toInt64)]) rfl ?_
  refine R_call q121 rfl rfl rfl rfl rfl rfl h2 ?_
  show Rm E 121 23 [vi x0, vi x1] [.int c2] M _ _
  refine R_iff q121 rfl (decide_eq_false h3) ?_
  show Rm E 121 26 [vi x0, vi x1] [] M _ _
  refine R_S q121 2 (pc2 := 31) (ls2 := [vi x0, vi x1]) (st2 := [.int 1]) rfl ?_
  exact R_ret rfl q121 rfl rfl rfl rfl rfl
-- 122 HeavyChainsModel.addsLaid(II)I  cuts [0]
theorem q122 : cdOf 122 = some mt122 := rfl
-- call X10_mayAdd 6+ call X10_notes call X10_adds call X10_sumOf
theorem b122_0_0 {E : env} {M : mem} {x1 x2 : Int32} {c1 : Int32} {N1 : mem} {N2 : mem} {c4 : Int32} (h0 : Rm E 119 0 [vr 83, vi x1, vi x2, vn, vn] [] M (some (.int c1)) M) (h1 : ¬ c1 = 0) (h2 : Rm E 117 0 [vr 83, vn] [] M none N1) (h3 : Rm E 120 0 [vr 83, vi x1, vi x2, vn] [] N1 none N2) (h4 : Rm E 107 0 [vr 83, vn, vn] [] N2 (some (.int c4)) N2) : Rm E 122 0 [vr 83, vi x1, vi x2] [] M (some (.int (c4 + 1000000))) N2 := by
  refine R_S q122 3 (pc2 := 3) (ls2 := [vr 83, vi x1, vi x2]) (st2 := [.int x2, .int x1, .ref 83]) rfl ?_
  refine R_call q122 rfl rfl rfl rfl rfl rfl h0 ?_
  show Rm E 122 6 [vr 83, vi x1, vi x2] [.int c1] M _ _
  refine R_ift q122 rfl (decide_eq_true h1) ?_
  show Rm E 122 12 [vr 83, vi x1, vi x2] [] M _ _
  refine R_S q122 1 (pc2 := 13) (ls2 := [vr 83, vi x1, vi x2]) (st2 := [.ref 83]) rfl ?_
  refine R_call q122 rfl rfl rfl rfl rfl rfl h2 ?_
  show Rm E 122 16 [vr 83, vi x1, vi x2] [] N1 _ _
  refine R_S q122 3 (pc2 := 19) (ls2 := [vr 83, vi x1, vi x2]) (st2 := [.int x2, .int x1, .ref 83]) rfl ?_
  refine R_call q122 rfl rfl rfl rfl rfl rfl h3 ?_
  show Rm E 122 22 [vr 83, vi x1, vi x2] [] N2 _ _
  refine R_S q122 1 (pc2 := 23) (ls2 := [vr 83, vi x1, vi x2]) (st2 := [.ref 83]) rfl ?_
  refine R_call q122 rfl rfl rfl rfl rfl rfl h4 ?_
  show Rm E 122 26 [vr 83, vi x1, vi x2] [.int c4] N2 _ _
  refine R_S q122 2 (pc2 := 29) (ls2 := [vr 83, vi x1, vi x2]) (st2 := [.int (c4 + 1000000)]) rfl ?_
  exact R_ret rfl q122 rfl rfl rfl rfl (stpR_i rfl rfl)
-- call X10_mayAdd 6-
theorem b122_0_1 {E : env} {M : mem} {x1 x2 : Int32} {c1 : Int32} (h0 : Rm E 119 0 [vr 83, vi x1, vi x2, vn, vn] [] M (some (.int c1)) M) (h1 : ¬ (¬ c1 = 0)) : Rm E 122 0 [vr 83, vi x1, vi x2] [] M (some (.int (-2))) M := by
  refine R_S q122 3 (pc2 := 3) (ls2 := [vr 83, vi x1, vi x2]) (st2 := [.int x2, .int x1, .ref 83]) rfl ?_
  refine R_call q122 rfl rfl rfl rfl rfl rfl h0 ?_
  show Rm E 122 6 [vr 83, vi x1, vi x2] [.int c1] M _ _
  refine R_iff q122 rfl (decide_eq_false h1) ?_
  show Rm E 122 9 [vr 83, vi x1, vi x2] [] M _ _
  refine R_S q122 1 (pc2 := 11) (ls2 := [vr 83, vi x1, vi x2]) (st2 := [.int (-2)]) rfl ?_
  exact R_ret rfl q122 rfl rfl rfl rfl (stpR_i rfl rfl)
-- 123 HeavyChainsModel.add(IIII)I  cuts [0]
theorem q123 : cdOf 123 = some mt123 := rfl
-- call X10_isPost 5+
theorem b123_0_0 {E : env} {M : mem} {x1 x2 x3 x4 : Int32} {c1 : Int32} (h0 : Rm E 91 0 [vr 83, vi x1] [] M (some (.int c1)) M) (h1 : c1 = 0) : Rm E 123 0 [vr 83, vi x1, vi x2, vi x3, vi x4] [] M (some (.int (-1))) M := by
  refine R_S q123 2 (pc2 := 2) (ls2 := [vr 83, vi x1, vi x2, vi x3, vi x4]) (st2 := [.int x1, .ref 83]) rfl ?_
  refine R_call q123 rfl rfl rfl rfl rfl rfl h0 ?_
  show Rm E 123 5 [vr 83, vi x1, vi x2, vi x3, vi x4] [.int c1] M _ _
  refine R_ift q123 rfl (decide_eq_true h1) ?_
  show Rm E 123 25 [vr 83, vi x1, vi x2, vi x3, vi x4] [] M _ _
  refine R_S q123 1 (pc2 := 26) (ls2 := [vr 83, vi x1, vi x2, vi x3, vi x4]) (st2 := [.int (-1)]) rfl ?_
  exact R_ret rfl q123 rfl rfl rfl rfl (stpR_i rfl rfl)
-- call X10_isPost 5- call X10_isPost 13+
theorem b123_0_1 {E : env} {M : mem} {x1 x2 x3 x4 : Int32} {c1 : Int32} {c2 : Int32} (h0 : Rm E 91 0 [vr 83, vi x1] [] M (some (.int c1)) M) (h1 : ¬ (c1 = 0)) (h2 : Rm E 91 0 [vr 83, vi x2] [] M (some (.int c2)) M) (h3 : c2 = 0) : Rm E 123 0 [vr 83, vi x1, vi x2, vi x3, vi x4] [] M (some (.int (-1))) M := by
  refine R_S q123 2 (pc2 := 2) (ls2 := [vr 83, vi x1, vi x2, vi x3, vi x4]) (st2 := [.int x1, .ref 83]) rfl ?_
  refine R_call q123 rfl rfl rfl rfl rfl rfl h0 ?_
  show Rm E 123 5 [vr 83, vi x1, vi x2, vi x3, vi x4] [.int c1] M _ _
  refine R_iff q123 rfl (decide_eq_false h1) ?_
  show Rm E 123 8 [vr 83, vi x1, vi x2, vi x3, vi x4] [] M _ _
  refine R_S q123 2 (pc2 := 10) (ls2 := [vr 83, vi x1, vi x2, vi x3, vi x4]) (st2 := [.int x2, .ref 83]) rfl ?_
  refine R_call q123 rfl rfl rfl rfl rfl rfl h2 ?_
  show Rm E 123 13 [vr 83, vi x1, vi x2, vi x3, vi x4] [.int c2] M _ _
  refine R_ift q123 rfl (decide_eq_true h3) ?_
  show Rm E 123 25 [vr 83, vi x1, vi x2, vi x3, vi x4] [] M _ _
  refine R_S q123 1 (pc2 := 26) (ls2 := [vr 83, vi x1, vi x2, vi x3, vi x4]) (st2 := [.int (-1)]) rfl ?_
  exact R_ret rfl q123 rfl rfl rfl rfl (stpR_i rfl rfl)
-- call X10_isPost 5- call X10_isPost 13- call X10_isAdding 22+ call X10_lays call X10_addsLaid
theorem b123_0_2 {E : env} {M : mem} {x1 x2 x3 x4 : Int32} {c1 : Int32} {c2 : Int32} {c3 : Int32} {N1 : mem} {c5 : Int32} {N2 : mem} (h0 : Rm E 91 0 [vr 83, vi x1] [] M (some (.int c1)) M) (h1 : ¬ (c1 = 0)) (h2 : Rm E 91 0 [vr 83, vi x2] [] M (some (.int c2)) M) (h3 : ¬ (c2 = 0)) (h4 : Rm E 121 0 [vi x3, vi x4] [] M (some (.int c3)) M) (h5 : ¬ c3 = 0) (h6 : Rm E 105 0 [vr 83, vi x1, vi x2, vn, vn, vn, vn] [] M none N1) (h7 : Rm E 122 0 [vr 83, vi x3, vi x4] [] N1 (some (.int c5)) N2) : Rm E 123 0 [vr 83, vi x1, vi x2, vi x3, vi x4] [] M (some (.int c5)) N2 := by
  refine R_S q123 2 (pc2 := 2) (ls2 := [vr 83, vi x1, vi x2, vi x3, vi x4]) (st2 := [.int x1, .ref 83]) rfl ?_
  refine R_call q123 rfl rfl rfl rfl rfl rfl h0 ?_
  show Rm E 123 5 [vr 83, vi x1, vi x2, vi x3, vi x4] [.int c1] M _ _
  refine R_iff q123 rfl (decide_eq_false h1) ?_
  show Rm E 123 8 [vr 83, vi x1, vi x2, vi x3, vi x4] [] M _ _
  refine R_S q123 2 (pc2 := 10) (ls2 := [vr 83, vi x1, vi x2, vi x3, vi x4]) (st2 := [.int x2, .ref 83]) rfl ?_
  refine R_call q123 rfl rfl rfl rfl rfl rfl h2 ?_
  show Rm E 123 13 [vr 83, vi x1, vi x2, vi x3, vi x4] [.int c2] M _ _
  refine R_iff q123 rfl (decide_eq_false h3) ?_
  show Rm E 123 16 [vr 83, vi x1, vi x2, vi x3, vi x4] [] M _ _
  refine R_S q123 2 (pc2 := 19) (ls2 := [vr 83, vi x1, vi x2, vi x3, vi x4]) (st2 := [.int x4, .int x3]) rfl ?_
  refine R_call q123 rfl rfl rfl rfl rfl rfl h4 ?_
  show Rm E 123 22 [vr 83, vi x1, vi x2, vi x3, vi x4] [.int c3] M _ _
  refine R_ift q123 rfl (decide_eq_true h5) ?_
  show Rm E 123 27 [vr 83, vi x1, vi x2, vi x3, vi x4] [] M _ _
  refine R_S q123 3 (pc2 := 30) (ls2 := [vr 83, vi x1, vi x2, vi x3, vi x4]) (st2 := [.int x2, .int x1, .ref 83]) rfl ?_
  refine R_call q123 rfl rfl rfl rfl rfl rfl h6 ?_
  show Rm E 123 33 [vr 83, vi x1, vi x2, vi x3, vi x4] [] N1 _ _
  refine R_S q123 3 (pc2 := 37) (ls2 := [vr 83, vi x1, vi x2, vi x3, vi x4]) (st2 := [.int x4, .int x3, .ref 83]) rfl ?_
  refine R_call q123 rfl rfl rfl rfl rfl rfl h7 ?_
  show Rm E 123 40 [vr 83, vi x1, vi x2, vi x3, vi x4] [.int c5] N2 _ _
  exact R_ret rfl q123 rfl rfl rfl rfl (stpR_i rfl rfl)
-- call X10_isPost 5- call X10_isPost 13- call X10_isAdding 22-
theorem b123_0_3 {E : env} {M : mem} {x1 x2 x3 x4 : Int32} {c1 : Int32} {c2 : Int32} {c3 : Int32} (h0 : Rm E 91 0 [vr 83, vi x1] [] M (some (.int c1)) M) (h1 : ¬ (c1 = 0)) (h2 : Rm E 91 0 [vr 83, vi x2] [] M (some (.int c2)) M) (h3 : ¬ (c2 = 0)) (h4 : Rm E 121 0 [vi x3, vi x4] [] M (some (.int c3)) M) (h5 : ¬ (¬ c3 = 0)) : Rm E 123 0 [vr 83, vi x1, vi x2, vi x3, vi x4] [] M (some (.int (-1))) M := by
  refine R_S q123 2 (pc2 := 2) (ls2 := [vr 83, vi x1, vi x2, vi x3, vi x4]) (st2 := [.int x1, .ref 83]) rfl ?_
  refine R_call q123 rfl rfl rfl rfl rfl rfl h0 ?_
  show Rm E 123 5 [vr 83, vi x1, vi x2, vi x3, vi x4] [.int c1] M _ _
  refine R_iff q123 rfl (decide_eq_false h1) ?_
  show Rm E 123 8 [vr 83, vi x1, vi x2, vi x3, vi x4] [] M _ _
  refine R_S q123 2 (pc2 := 10) (ls2 := [vr 83, vi x1, vi x2, vi x3, vi x4]) (st2 := [.int x2, .ref 83]) rfl ?_
  refine R_call q123 rfl rfl rfl rfl rfl rfl h2 ?_
  show Rm E 123 13 [vr 83, vi x1, vi x2, vi x3, vi x4] [.int c2] M _ _
  refine R_iff q123 rfl (decide_eq_false h3) ?_
  show Rm E 123 16 [vr 83, vi x1, vi x2, vi x3, vi x4] [] M _ _
  refine R_S q123 2 (pc2 := 19) (ls2 := [vr 83, vi x1, vi x2, vi x3, vi x4]) (st2 := [.int x4, .int x3]) rfl ?_
  refine R_call q123 rfl rfl rfl rfl rfl rfl h4 ?_
  show Rm E 123 22 [vr 83, vi x1, vi x2, vi x3, vi x4] [.int c3] M _ _
  refine R_iff q123 rfl (decide_eq_false h5) ?_
  show Rm E 123 25 [vr 83, vi x1, vi x2, vi x3, vi x4] [] M _ _
  refine R_S q123 1 (pc2 := 26) (ls2 := [vr 83, vi x1, vi x2, vi x3, vi x4]) (st2 := [.int (-1)]) rfl ?_
  exact R_ret rfl q123 rfl rfl rfl rfl (stpR_i rfl rfl)
-- 124 HeavyChainsModel.pour(III)I  cuts [0]
theorem q124 : cdOf 124 = some mt124 := rfl
-- call X10_isPost 5+
theorem b124_0_0 {E : env} {M : mem} {x1 x2 x3 : Int32} {c1 : Int32} (h0 : Rm E 91 0 [vr 83, vi x1] [] M (some (.int c1)) M) (h1 : c1 = 0) : Rm E 124 0 [vr 83, vi x1, vi x2, vi x3] [] M (some (.int (-1))) M := by
  refine R_S q124 2 (pc2 := 2) (ls2 := [vr 83, vi x1, vi x2, vi x3]) (st2 := [.int x1, .ref 83]) rfl ?_
  refine R_call q124 rfl rfl rfl rfl rfl rfl h0 ?_
  show Rm E 124 5 [vr 83, vi x1, vi x2, vi x3] [.int c1] M _ _
  refine R_ift q124 rfl (decide_eq_true h1) ?_
  show Rm E 124 16 [vr 83, vi x1, vi x2, vi x3] [] M _ _
  refine R_S q124 1 (pc2 := 17) (ls2 := [vr 83, vi x1, vi x2, vi x3]) (st2 := [.int (-1)]) rfl ?_
  exact R_ret rfl q124 rfl rfl rfl rfl (stpR_i rfl rfl)
-- call X10_isPost 5- call X10_isAdding 13+ call X10_laysBelow call X10_addsLaid
theorem b124_0_1 {E : env} {M : mem} {x1 x2 x3 : Int32} {c1 : Int32} {c2 : Int32} {N1 : mem} {c4 : Int32} {N2 : mem} (h0 : Rm E 91 0 [vr 83, vi x1] [] M (some (.int c1)) M) (h1 : ¬ (c1 = 0)) (h2 : Rm E 121 0 [vi x2, vi x3] [] M (some (.int c2)) M) (h3 : ¬ c2 = 0) (h4 : Rm E 106 0 [vr 83, vi x1, vn] [] M none N1) (h5 : Rm E 122 0 [vr 83, vi x2, vi x3] [] N1 (some (.int c4)) N2) : Rm E 124 0 [vr 83, vi x1, vi x2, vi x3] [] M (some (.int c4)) N2 := by
  refine R_S q124 2 (pc2 := 2) (ls2 := [vr 83, vi x1, vi x2, vi x3]) (st2 := [.int x1, .ref 83]) rfl ?_
  refine R_call q124 rfl rfl rfl rfl rfl rfl h0 ?_
  show Rm E 124 5 [vr 83, vi x1, vi x2, vi x3] [.int c1] M _ _
  refine R_iff q124 rfl (decide_eq_false h1) ?_
  show Rm E 124 8 [vr 83, vi x1, vi x2, vi x3] [] M _ _
  refine R_S q124 2 (pc2 := 10) (ls2 := [vr 83, vi x1, vi x2, vi x3]) (st2 := [.int x3, .int x2]) rfl ?_
  refine R_call q124 rfl rfl rfl rfl rfl rfl h2 ?_
  show Rm E 124 13 [vr 83, vi x1, vi x2, vi x3] [.int c2] M _ _
  refine R_ift q124 rfl (decide_eq_true h3) ?_
  show Rm E 124 18 [vr 83, vi x1, vi x2, vi x3] [] M _ _
  refine R_S q124 2 (pc2 := 20) (ls2 := [vr 83, vi x1, vi x2, vi x3]) (st2 := [.int x1, .ref 83]) rfl ?_
  refine R_call q124 rfl rfl rfl rfl rfl rfl h4 ?_
  show Rm E 124 23 [vr 83, vi x1, vi x2, vi x3] [] N1 _ _
  refine R_S q124 3 (pc2 := 26) (ls2 := [vr 83, vi x1, vi x2, vi x3]) (st2 := [.int x3, .int x2, .ref 83]) rfl ?_
  refine R_call q124 rfl rfl rfl rfl rfl rfl h5 ?_
  show Rm E 124 29 [vr 83, vi x1, vi x2, vi x3] [.int c4] N2 _ _
  exact R_ret rfl q124 rfl rfl rfl rfl (stpR_i rfl rfl)
-- call X10_isPost 5- call X10_isAdding 13-
theorem b124_0_2 {E : env} {M : mem} {x1 x2 x3 : Int32} {c1 : Int32} {c2 : Int32} (h0 : Rm E 91 0 [vr 83, vi x1] [] M (some (.int c1)) M) (h1 : ¬ (c1 = 0)) (h2 : Rm E 121 0 [vi x2, vi x3] [] M (some (.int c2)) M) (h3 : ¬ (¬ c2 = 0)) : Rm E 124 0 [vr 83, vi x1, vi x2, vi x3] [] M (some (.int (-1))) M := by
  refine R_S q124 2 (pc2 := 2) (ls2 := [vr 83, vi x1, vi x2, vi x3]) (st2 := [.int x1, .ref 83]) rfl ?_
  refine R_call q124 rfl rfl rfl rfl rfl rfl h0 ?_
  show Rm E 124 5 [vr 83, vi x1, vi x2, vi x3] [.int c1] M _ _
  refine R_iff q124 rfl (decide_eq_false h1) ?_
  show Rm E 124 8 [vr 83, vi x1, vi x2, vi x3] [] M _ _
  refine R_S q124 2 (pc2 := 10) (ls2 := [vr 83, vi x1, vi x2, vi x3]) (st2 := [.int x3, .int x2]) rfl ?_
  refine R_call q124 rfl rfl rfl rfl rfl rfl h2 ?_
  show Rm E 124 13 [vr 83, vi x1, vi x2, vi x3] [.int c2] M _ _
  refine R_iff q124 rfl (decide_eq_false h3) ?_
  show Rm E 124 16 [vr 83, vi x1, vi x2, vi x3] [] M _ _
  refine R_S q124 1 (pc2 := 17) (ls2 := [vr 83, vi x1, vi x2, vi x3]) (st2 := [.int (-1)]) rfl ?_
  exact R_ret rfl q124 rfl rfl rfl rfl (stpR_i rfl rfl)
-- 125 HeavyChainsModel.set(II)I  cuts [0]
theorem q125 : cdOf 125 = some mt125 := rfl
-- call X10_isPost 5+
theorem b125_0_0 {E : env} {M : mem} {x1 x2 : Int32} {c1 : Int32} (h0 : Rm E 91 0 [vr 83, vi x1] [] M (some (.int c1)) M) (h1 : c1 = 0) : Rm E 125 0 [vr 83, vi x1, vi x2, vn] [] M (some (.int (-1))) M := by
  refine R_S q125 2 (pc2 := 2) (ls2 := [vr 83, vi x1, vi x2, vn]) (st2 := [.int x1, .ref 83]) rfl ?_
  refine R_call q125 rfl rfl rfl rfl rfl rfl h0 ?_
  show Rm E 125 5 [vr 83, vi x1, vi x2, vn] [.int c1] M _ _
  refine R_ift q125 rfl (decide_eq_true h1) ?_
  show Rm E 125 22 [vr 83, vi x1, vi x2, vn] [] M _ _
  refine R_S q125 1 (pc2 := 23) (ls2 := [vr 83, vi x1, vi x2, vn]) (st2 := [.int (-1)]) rfl ?_
  exact R_ret rfl q125 rfl rfl rfl rfl (stpR_i rfl rfl)
-- call X10_isPost 5- call X10_in 19+ 33+ call X10_notes
theorem b125_0_1 {E : env} {M : mem} {x1 x2 : Int32} {c1 : Int32} {c2 : Int32} {N1 : mem} {N2 : mem} (h0 : Rm E 91 0 [vr 83, vi x1] [] M (some (.int c1)) M) (h1 : ¬ (c1 = 0)) (h2 : Rm E 88 0 [vl (((x2 : Int32)).toInt64), vn, vl (-9999), vn, vl 9999, vn] [] M (some (.int c2)) M) (h3 : ¬ c2 = 0) (h4 : inR x1 90) (h5 : ¬ M.1 84 x1.toNatClampNeg = x2) (h6 : Rm E 117 0 [vr 83, vn] [] M none N1) (h7 : inR x1 90) (eN2 : N2 = upM N1 84 (x1.toNatClampNeg) x2) : Rm E 125 0 [vr 83, vi x1, vi x2, vn] [] M (some (.int (M.1 84 x1.toNatClampNeg + 1000000))) N2 := by
  refine R_S q125 2 (pc2 := 2) (ls2 := [vr 83, vi x1, vi x2, vn]) (st2 := [.int x1, .ref 83]) rfl ?_
  refine R_call q125 rfl rfl rfl rfl rfl rfl h0 ?_
  show Rm E 125 5 [vr 83, vi x1, vi x2, vn] [.int c1] M _ _
  refine R_iff q125 rfl (decide_eq_false h1) ?_
  show Rm E 125 8 [vr 83, vi x1, vi x2, vn] [] M _ _
  refine R_S q125 4 (pc2 := 16) (ls2 := [vr 83, vi x1, vi x2, vn]) (st2 := [.long 9999, .long (-9999), .long (((x2 : Int32)).toInt64)]) rfl ?_
  refine R_call q125 rfl rfl rfl rfl rfl rfl h2 ?_
  show Rm E 125 19 [vr 83, vi x1, vi x2, vn] [.int c2] M _ _
  refine R_ift q125 rfl (decide_eq_true h3) ?_
  show Rm E 125 24 [vr 83, vi x1, vi x2, vn] [] M _ _
  refine R_S q125 3 (pc2 := 29) (ls2 := [vr 83, vi x1, vi x2, vn]) (st2 := [.int x1, .ref 84]) rfl ?_
  refine R_ial q125 rfl rfl h4 ?_
  show Rm E 125 30 [vr 83, vi x1, vi x2, vn] [.int (M.1 84 x1.toNatClampNeg)] M _ _
  refine R_S q125 3 (pc2 := 33) (ls2 := [vr 83, vi x1, vi x2, vi (M.1 84 x1.toNatClampNeg)]) (st2 := [.int x2, .int (M.1 84 x1.toNatClampNeg)]) rfl ?_
  refine R_ict q125 rfl (decide_eq_true h5) ?_
  show Rm E 125 39 [vr 83, vi x1, vi x2, vi (M.1 84 x1.toNatClampNeg)] [] M _ _
  refine R_S q125 1 (pc2 := 40) (ls2 := [vr 83, vi x1, vi x2, vi (M.1 84 x1.toNatClampNeg)]) (st2 := [.ref 83]) rfl ?_
  refine R_call q125 rfl rfl rfl rfl rfl rfl h6 ?_
  show Rm E 125 43 [vr 83, vi x1, vi x2, vi (M.1 84 x1.toNatClampNeg)] [] N1 _ _
  refine R_S q125 4 (pc2 := 49) (ls2 := [vr 83, vi x1, vi x2, vi (M.1 84 x1.toNatClampNeg)]) (st2 := [.int x2, .int x1, .ref 84]) rfl ?_
  refine R_ias q125 rfl rfl h7 eN2 ?_
  show Rm E 125 50 [vr 83, vi x1, vi x2, vi (M.1 84 x1.toNatClampNeg)] [] N2 _ _
  refine R_S q125 3 (pc2 := 54) (ls2 := [vr 83, vi x1, vi x2, vi (M.1 84 x1.toNatClampNeg)]) (st2 := [.int (M.1 84 x1.toNatClampNeg + 1000000)]) rfl ?_
  exact R_ret rfl q125 rfl rfl rfl rfl (stpR_i rfl rfl)
-- call X10_isPost 5- call X10_in 19+ 33-
theorem b125_0_2 {E : env} {M : mem} {x1 x2 : Int32} {c1 : Int32} {c2 : Int32} (h0 : Rm E 91 0 [vr 83, vi x1] [] M (some (.int c1)) M) (h1 : ¬ (c1 = 0)) (h2 : Rm E 88 0 [vl (((x2 : Int32)).toInt64), vn, vl (-9999), vn, vl 9999, vn] [] M (some (.int c2)) M) (h3 : ¬ c2 = 0) (h4 : inR x1 90) (h5 : ¬ (¬ M.1 84 x1.toNatClampNeg = x2)) : Rm E 125 0 [vr 83, vi x1, vi x2, vn] [] M (some (.int (-2))) M := by
  refine R_S q125 2 (pc2 := 2) (ls2 := [vr 83, vi x1, vi x2, vn]) (st2 := [.int x1, .ref 83]) rfl ?_
  refine R_call q125 rfl rfl rfl rfl rfl rfl h0 ?_
  show Rm E 125 5 [vr 83, vi x1, vi x2, vn] [.int c1] M _ _
  refine R_iff q125 rfl (decide_eq_false h1) ?_
  show Rm E 125 8 [vr 83, vi x1, vi x2, vn] [] M _ _
  refine R_S q125 4 (pc2 := 16) (ls2 := [vr 83, vi x1, vi x2, vn]) (st2 := [.long 9999, .long (-9999), .long (((x2 : Int32)).toInt64)]) rfl ?_
  refine R_call q125 rfl rfl rfl rfl rfl rfl h2 ?_
  show Rm E 125 19 [vr 83, vi x1, vi x2, vn] [.int c2] M _ _
  refine R_ift q125 rfl (decide_eq_true h3) ?_
  show Rm E 125 24 [vr 83, vi x1, vi x2, vn] [] M _ _
  refine R_S q125 3 (pc2 := 29) (ls2 := [vr 83, vi x1, vi x2, vn]) (st2 := [.int x1, .ref 84]) rfl ?_
  refine R_ial q125 rfl rfl h4 ?_
  show Rm E 125 30 [vr 83, vi x1, vi x2, vn] [.int (M.1 84 x1.toNatClampNeg)] M _ _
  refine R_S q125 3 (pc2 := 33) (ls2 := [vr 83, vi x1, vi x2, vi (M.1 84 x1.toNatClampNeg)]) (st2 := [.int x2, .int (M.1 84 x1.toNatClampNeg)]) rfl ?_
  refine R_icf q125 rfl (decide_eq_false h5) ?_
  show Rm E 125 36 [vr 83, vi x1, vi x2, vi (M.1 84 x1.toNatClampNeg)] [] M _ _
  refine R_S q125 1 (pc2 := 38) (ls2 := [vr 83, vi x1, vi x2, vi (M.1 84 x1.toNatClampNeg)]) (st2 := [.int (-2)]) rfl ?_
  exact R_ret rfl q125 rfl rfl rfl rfl (stpR_i rfl rfl)
-- call X10_isPost 5- call X10_in 19-
theorem b125_0_3 {E : env} {M : mem} {x1 x2 : Int32} {c1 : Int32} {c2 : Int32} (h0 : Rm E 91 0 [vr 83, vi x1] [] M (some (.int c1)) M) (h1 : ¬ (c1 = 0)) (h2 : Rm E 88 0 [vl (((x2 : Int32)).toInt64), vn, vl (-9999), vn, vl 9999, vn] [] M (some (.int c2)) M) (h3 : ¬ (¬ c2 = 0)) : Rm E 125 0 [vr 83, vi x1, vi x2, vn] [] M (some (.int (-1))) M := by
  refine R_S q125 2 (pc2 := 2) (ls2 := [vr 83, vi x1, vi x2, vn]) (st2 := [.int x1, .ref 83]) rfl ?_
  refine R_call q125 rfl rfl rfl rfl rfl rfl h0 ?_
  show Rm E 125 5 [vr 83, vi x1, vi x2, vn] [.int c1] M _ _
  refine R_iff q125 rfl (decide_eq_false h1) ?_
  show Rm E 125 8 [vr 83, vi x1, vi x2, vn] [] M _ _
  refine R_S q125 4 (pc2 := 16) (ls2 := [vr 83, vi x1, vi x2, vn]) (st2 := [.long 9999, .long (-9999), .long (((x2 : Int32)).toInt64)]) rfl ?_
  refine R_call q125 rfl rfl rfl rfl rfl rfl h2 ?_
  show Rm E 125 19 [vr 83, vi x1, vi x2, vn] [.int c2] M _ _
  refine R_iff q125 rfl (decide_eq_false h3) ?_
  show Rm E 125 22 [vr 83, vi x1, vi x2, vn] [] M _ _
  refine R_S q125 1 (pc2 := 23) (ls2 := [vr 83, vi x1, vi x2, vn]) (st2 := [.int (-1)]) rfl ?_
  exact R_ret rfl q125 rfl rfl rfl rfl (stpR_i rfl rfl)
-- 126 HeavyChainsModel.shape(III)I  cuts [0]
theorem q126 : cdOf 126 = some mt126 := rfl
-- call X10_isPost 5+
theorem b126_0_0 {E : env} {M : mem} {x1 x2 x3 : Int32} {c1 : Int32} (h0 : Rm E 91 0 [vr 83, vi x1] [] M (some (.int c1)) M) (h1 : c1 = 0) : Rm E 126 0 [vr 83, vi x1, vi x2, vi x3, vn] [] M (some (.int (-1))) M := by
  refine R_S q126 2 (pc2 := 2) (ls2 := [vr 83, vi x1, vi x2, vi x3, vn]) (st2 := [.int x1, .ref 83]) rfl ?_
  refine R_call q126 rfl rfl rfl rfl rfl rfl h0 ?_
  show Rm E 126 5 [vr 83, vi x1, vi x2, vi x3, vn] [.int c1] M _ _
  refine R_ift q126 rfl (decide_eq_true h1) ?_
  show Rm E 126 32 [vr 83, vi x1, vi x2, vi x3, vn] [] M _ _
  refine R_S q126 1 (pc2 := 33) (ls2 := [vr 83, vi x1, vi x2, vi x3, vn]) (st2 := [.int (-1)]) rfl ?_
  exact R_ret rfl q126 rfl rfl rfl rfl (stpR_i rfl rfl)
-- call X10_isPost 5- call X10_in 17+
theorem b126_0_1 {E : env} {M : mem} {x1 x2 x3 : Int32} {c1 : Int32} {c2 : Int32} (h0 : Rm E 91 0 [vr 83, vi x1] [] M (some (.int c1)) M) (h1 : ¬ (c1 = 0)) (h2 : Rm E 88 0 [vl (((x2 : Int32)).toInt64), vn, vl 0, vn, vl 9, vn] [] M (some (.int c2)) M) (h3 : c2 = 0) : Rm E 126 0 [vr 83, vi x1, vi x2, vi x3, vn] [] M (some (.int (-1))) M := by
  refine R_S q126 2 (pc2 := 2) (ls2 := [vr 83, vi x1, vi x2, vi x3, vn]) (st2 := [.int x1, .ref 83]) rfl ?_
  refine R_call q126 rfl rfl rfl rfl rfl rfl h0 ?_
  show Rm E 126 5 [vr 83, vi x1, vi x2, vi x3, vn] [.int c1] M _ _
  refine R_iff q126 rfl (decide_eq_false h1) ?_
  show Rm E 126 8 [vr 83, vi x1, vi x2, vi x3, vn] [] M _ _
  refine R_S q126 4 (pc2 := 14) (ls2 := [vr 83, vi x1, vi x2, vi x3, vn]) (st2 := [.long 9, .long 0, .long (((x2 : Int32)).toInt64)]) rfl ?_
  refine R_call q126 rfl rfl rfl rfl rfl rfl h2 ?_
  show Rm E 126 17 [vr 83, vi x1, vi x2, vi x3, vn] [.int c2] M _ _
  refine R_ift q126 rfl (decide_eq_true h3) ?_
  show Rm E 126 32 [vr 83, vi x1, vi x2, vi x3, vn] [] M _ _
  refine R_S q126 1 (pc2 := 33) (ls2 := [vr 83, vi x1, vi x2, vi x3, vn]) (st2 := [.int (-1)]) rfl ?_
  exact R_ret rfl q126 rfl rfl rfl rfl (stpR_i rfl rfl)
-- call X10_isPost 5- call X10_in 17- call X10_in 29+ 66+ call X10_notes
theorem b126_0_2 {E : env} {M : mem} {x1 x2 x3 : Int32} {c1 : Int32} {c2 : Int32} {c3 : Int32} {N1 : mem} {N2 : mem} {N3 : mem} (h0 : Rm E 91 0 [vr 83, vi x1] [] M (some (.int c1)) M) (h1 : ¬ (c1 = 0)) (h2 : Rm E 88 0 [vl (((x2 : Int32)).toInt64), vn, vl 0, vn, vl 9, vn] [] M (some (.int c2)) M) (h3 : ¬ (c2 = 0)) (h4 : Rm E 88 0 [vl (((x3 : Int32)).toInt64), vn, vl 0, vn, vl 9, vn] [] M (some (.int c3)) M) (h5 : ¬ c3 = 0) (h6 : inR (30 + x1) 90) (h7 : inR (60 + x1) 90) (h8 : ¬ ((10 * M.1 84 (30 + x1).toNatClampNeg) + M.1 84 (60 + x1).toNatClampNeg) = ((10 * x2) + x3)) (h9 : Rm E 117 0 [vr 83, vn] [] M none N1) (h10 : inR (30 + x1) 90) (eN2 : N2 = upM N1 84 ((30 + x1).toNatClampNeg) x2) (h11 : inR (60 + x1) 90) (eN3 : N3 = upM N2 84 ((60 + x1).toNatClampNeg) x3) : Rm E 126 0 [vr 83, vi x1, vi x2, vi x3, vn] [] M (some (.int ((10 * M.1 84 (30 + x1).toNatClampNeg) + M.1 84 (60 + x1).toNatClampNeg))) N3 := by
  refine R_S q126 2 (pc2 := 2) (ls2 := [vr 83, vi x1, vi x2, vi x3, vn]) (st2 := [.int x1, .ref 83]) rfl ?_
  refine R_call q126 rfl rfl rfl rfl rfl rfl h0 ?_
  show Rm E 126 5 [vr 83, vi x1, vi x2, vi x3, vn] [.int c1] M _ _
  refine R_iff q126 rfl (decide_eq_false h1) ?_
  show Rm E 126 8 [vr 83, vi x1, vi x2, vi x3, vn] [] M _ _
  refine R_S q126 4 (pc2 := 14) (ls2 := [vr 83, vi x1, vi x2, vi x3, vn]) (st2 := [.long 9, .long 0, .long (((x2 : Int32)).toInt64)]) rfl ?_
  refine R_call q126 rfl rfl rfl rfl rfl rfl h2 ?_
  show Rm E 126 17 [vr 83, vi x1, vi x2, vi x3, vn] [.int c2] M _ _
  refine R_iff q126 rfl (decide_eq_false h3) ?_
  show Rm E 126 20 [vr 83, vi x1, vi x2, vi x3, vn] [] M _ _
  refine R_S q126 4 (pc2 := 26) (ls2 := [vr 83, vi x1, vi x2, vi x3, vn]) (st2 := [.long 9, .long 0, .long (((x3 : Int32)).toInt64)]) rfl ?_
  refine R_call q126 rfl rfl rfl rfl rfl rfl h4 ?_
  show Rm E 126 29 [vr 83, vi x1, vi x2, vi x3, vn] [.int c3] M _ _
  refine R_ift q126 rfl (decide_eq_true h5) ?_
  show Rm E 126 34 [vr 83, vi x1, vi x2, vi x3, vn] [] M _ _
  refine R_S q126 6 (pc2 := 44) (ls2 := [vr 83, vi x1, vi x2, vi x3, vn]) (st2 := [.int (30 + x1), .ref 84, .int 10]) rfl ?_
  refine R_ial q126 rfl rfl h6 ?_
  show Rm E 126 45 [vr 83, vi x1, vi x2, vi x3, vn] [.int (M.1 84 (30 + x1).toNatClampNeg), .int 10] M _ _
  refine R_S q126 6 (pc2 := 54) (ls2 := [vr 83, vi x1, vi x2, vi x3, vn]) (st2 := [.int (60 + x1), .ref 84, .int (10 * M.1 84 (30 + x1).toNatClampNeg)]) rfl ?_
  refine R_ial q126 rfl rfl h7 ?_
  show Rm E 126 55 [vr 83, vi x1, vi x2, vi x3, vn] [.int (M.1 84 (60 + x1).toNatClampNeg), .int (10 * M.1 84 (30 + x1).toNatClampNeg)] M _ _
  refine R_S q126 8 (pc2 := 66) (ls2 := [vr 83, vi x1, vi x2, vi x3, vi ((10 * M.1 84 (30 + x1).toNatClampNeg) + M.1 84 (60 + x1).toNatClampNeg)]) (st2 := [.int ((10 * x2) + x3), .int ((10 * M.1 84 (30 + x1).toNatClampNeg) + M.1 84 (60 + x1).toNatClampNeg)]) rfl ?_
  refine R_ict q126 rfl (decide_eq_true h8) ?_
  show Rm E 126 72 [vr 83, vi x1, vi x2, vi x3, vi ((10 * M.1 84 (30 + x1).toNatClampNeg) + M.1 84 (60 + x1).toNatClampNeg)] [] M _ _
  refine R_S q126 1 (pc2 := 73) (ls2 := [vr 83, vi x1, vi x2, vi x3, vi ((10 * M.1 84 (30 + x1).toNatClampNeg) + M.1 84 (60 + x1).toNatClampNeg)]) (st2 := [.ref 83]) rfl ?_
  refine R_call q126 rfl rfl rfl rfl rfl rfl h9 ?_
  show Rm E 126 76 [vr 83, vi x1, vi x2, vi x3, vi ((10 * M.1 84 (30 + x1).toNatClampNeg) + M.1 84 (60 + x1).toNatClampNeg)] [] N1 _ _
  refine R_S q126 6 (pc2 := 85) (ls2 := [vr 83, vi x1, vi x2, vi x3, vi ((10 * M.1 84 (30 + x1).toNatClampNeg) + M.1 84 (60 + x1).toNatClampNeg)]) (st2 := [.int x2, .int (30 + x1), .ref 84]) rfl ?_
  refine R_ias q126 rfl rfl h10 eN2 ?_
  show Rm E 126 86 [vr 83, vi x1, vi x2, vi x3, vi ((10 * M.1 84 (30 + x1).toNatClampNeg) + M.1 84 (60 + x1).toNatClampNeg)] [] N2 _ _
  refine R_S q126 6 (pc2 := 95) (ls2 := [vr 83, vi x1, vi x2, vi x3, vi ((10 * M.1 84 (30 + x1).toNatClampNeg) + M.1 84 (60 + x1).toNatClampNeg)]) (st2 := [.int x3, .int (60 + x1), .ref 84]) rfl ?_
  refine R_ias q126 rfl rfl h11 eN3 ?_
  show Rm E 126 96 [vr 83, vi x1, vi x2, vi x3, vi ((10 * M.1 84 (30 + x1).toNatClampNeg) + M.1 84 (60 + x1).toNatClampNeg)] [] N3 _ _
  refine R_S q126 1 (pc2 := 98) (ls2 := [vr 83, vi x1, vi x2, vi x3, vi ((10 * M.1 84 (30 + x1).toNatClampNeg) + M.1 84 (60 + x1).toNatClampNeg)]) (st2 := [.int ((10 * M.1 84 (30 + x1).toNatClampNeg) + M.1 84 (60 + x1).toNatClampNeg)]) rfl ?_
  exact R_ret rfl q126 rfl rfl rfl rfl (stpR_i rfl rfl)
-- call X10_isPost 5- call X10_in 17- call X10_in 29+ 66-
theorem b126_0_3 {E : env} {M : mem} {x1 x2 x3 : Int32} {c1 : Int32} {c2 : Int32} {c3 : Int32} (h0 : Rm E 91 0 [vr 83, vi x1] [] M (some (.int c1)) M) (h1 : ¬ (c1 = 0)) (h2 : Rm E 88 0 [vl (((x2 : Int32)).toInt64), vn, vl 0, vn, vl 9, vn] [] M (some (.int c2)) M) (h3 : ¬ (c2 = 0)) (h4 : Rm E 88 0 [vl (((x3 : Int32)).toInt64), vn, vl 0, vn, vl 9, vn] [] M (some (.int c3)) M) (h5 : ¬ c3 = 0) (h6 : inR (30 + x1) 90) (h7 : inR (60 + x1) 90) (h8 : ¬ (¬ ((10 * M.1 84 (30 + x1).toNatClampNeg) + M.1 84 (60 + x1).toNatClampNeg) = ((10 * x2) + x3))) : Rm E 126 0 [vr 83, vi x1, vi x2, vi x3, vn] [] M (some (.int (-2))) M := by
  refine R_S q126 2 (pc2 := 2) (ls2 := [vr 83, vi x1, vi x2, vi x3, vn]) (st2 := [.int x1, .ref 83]) rfl ?_
  refine R_call q126 rfl rfl rfl rfl rfl rfl h0 ?_
  show Rm E 126 5 [vr 83, vi x1, vi x2, vi x3, vn] [.int c1] M _ _
  refine R_iff q126 rfl (decide_eq_false h1) ?_
  show Rm E 126 8 [vr 83, vi x1, vi x2, vi x3, vn] [] M _ _
  refine R_S q126 4 (pc2 := 14) (ls2 := [vr 83, vi x1, vi x2, vi x3, vn]) (st2 := [.long 9, .long 0, .long (((x2 : Int32)).toInt64)]) rfl ?_
  refine R_call q126 rfl rfl rfl rfl rfl rfl h2 ?_
  show Rm E 126 17 [vr 83, vi x1, vi x2, vi x3, vn] [.int c2] M _ _
  refine R_iff q126 rfl (decide_eq_false h3) ?_
  show Rm E 126 20 [vr 83, vi x1, vi x2, vi x3, vn] [] M _ _
  refine R_S q126 4 (pc2 := 26) (ls2 := [vr 83, vi x1, vi x2, vi x3, vn]) (st2 := [.long 9, .long 0, .long (((x3 : Int32)).toInt64)]) rfl ?_
  refine R_call q126 rfl rfl rfl rfl rfl rfl h4 ?_
  show Rm E 126 29 [vr 83, vi x1, vi x2, vi x3, vn] [.int c3] M _ _
  refine R_ift q126 rfl (decide_eq_true h5) ?_
  show Rm E 126 34 [vr 83, vi x1, vi x2, vi x3, vn] [] M _ _
  refine R_S q126 6 (pc2 := 44) (ls2 := [vr 83, vi x1, vi x2, vi x3, vn]) (st2 := [.int (30 + x1), .ref 84, .int 10]) rfl ?_
  refine R_ial q126 rfl rfl h6 ?_
  show Rm E 126 45 [vr 83, vi x1, vi x2, vi x3, vn] [.int (M.1 84 (30 + x1).toNatClampNeg), .int 10] M _ _
  refine R_S q126 6 (pc2 := 54) (ls2 := [vr 83, vi x1, vi x2, vi x3, vn]) (st2 := [.int (60 + x1), .ref 84, .int (10 * M.1 84 (30 + x1).toNatClampNeg)]) rfl ?_
  refine R_ial q126 rfl rfl h7 ?_
  show Rm E 126 55 [vr 83, vi x1, vi x2, vi x3, vn] [.int (M.1 84 (60 + x1).toNatClampNeg), .int (10 * M.1 84 (30 + x1).toNatClampNeg)] M _ _
  refine R_S q126 8 (pc2 := 66) (ls2 := [vr 83, vi x1, vi x2, vi x3, vi ((10 * M.1 84 (30 + x1).toNatClampNeg) + M.1 84 (60 + x1).toNatClampNeg)]) (st2 := [.int ((10 * x2) + x3), .int ((10 * M.1 84 (30 + x1).toNatClampNeg) + M.1 84 (60 + x1).toNatClampNeg)]) rfl ?_
  refine R_icf q126 rfl (decide_eq_false h8) ?_
  show Rm E 126 69 [vr 83, vi x1, vi x2, vi x3, vi ((10 * M.1 84 (30 + x1).toNatClampNeg) + M.1 84 (60 + x1).toNatClampNeg)] [] M _ _
  refine R_S q126 1 (pc2 := 71) (ls2 := [vr 83, vi x1, vi x2, vi x3, vi ((10 * M.1 84 (30 + x1).toNatClampNeg) + M.1 84 (60 + x1).toNatClampNeg)]) (st2 := [.int (-2)]) rfl ?_
  exact R_ret rfl q126 rfl rfl rfl rfl (stpR_i rfl rfl)
-- call X10_isPost 5- call X10_in 17- call X10_in 29-
theorem b126_0_4 {E : env} {M : mem} {x1 x2 x3 : Int32} {c1 : Int32} {c2 : Int32} {c3 : Int32} (h0 : Rm E 91 0 [vr 83, vi x1] [] M (some (.int c1)) M) (h1 : ¬ (c1 = 0)) (h2 : Rm E 88 0 [vl (((x2 : Int32)).toInt64), vn, vl 0, vn, vl 9, vn] [] M (some (.int c2)) M) (h3 : ¬ (c2 = 0)) (h4 : Rm E 88 0 [vl (((x3 : Int32)).toInt64), vn, vl 0, vn, vl 9, vn] [] M (some (.int c3)) M) (h5 : ¬ (¬ c3 = 0)) : Rm E 126 0 [vr 83, vi x1, vi x2, vi x3, vn] [] M (some (.int (-1))) M := by
  refine R_S q126 2 (pc2 := 2) (ls2 := [vr 83, vi x1, vi x2, vi x3, vn]) (st2 := [.int x1, .ref 83]) rfl ?_
  refine R_call q126 rfl rfl rfl rfl rfl rfl h0 ?_
  show Rm E 126 5 [vr 83, vi x1, vi x2, vi x3, vn] [.int c1] M _ _
  refine R_iff q126 rfl (decide_eq_false h1) ?_
  show Rm E 126 8 [vr 83, vi x1, vi x2, vi x3, vn] [] M _ _
  refine R_S q126 4 (pc2 := 14) (ls2 := [vr 83, vi x1, vi x2, vi x3, vn]) (st2 := [.long 9, .long 0, .long (((x2 : Int32)).toInt64)]) rfl ?_
  refine R_call q126 rfl rfl rfl rfl rfl rfl h2 ?_
  show Rm E 126 17 [vr 83, vi x1, vi x2, vi x3, vn] [.int c2] M _ _
  refine R_iff q126 rfl (decide_eq_false h3) ?_
  show Rm E 126 20 [vr 83, vi x1, vi x2, vi x3, vn] [] M _ _
  refine R_S q126 4 (pc2 := 26) (ls2 := [vr 83, vi x1, vi x2, vi x3, vn]) (st2 := [.long 9, .long 0, .long (((x3 : Int32)).toInt64)]) rfl ?_
  refine R_call q126 rfl rfl rfl rfl rfl rfl h4 ?_
  show Rm E 126 29 [vr 83, vi x1, vi x2, vi x3, vn] [.int c3] M _ _
  refine R_iff q126 rfl (decide_eq_false h5) ?_
  show Rm E 126 32 [vr 83, vi x1, vi x2, vi x3, vn] [] M _ _
  refine R_S q126 1 (pc2 := 33) (ls2 := [vr 83, vi x1, vi x2, vi x3, vn]) (st2 := [.int (-1)]) rfl ?_
  exact R_ret rfl q126 rfl rfl rfl rfl (stpR_i rfl rfl)
-- 127 HeavyChainsModel.undo()I  cuts [0, 22]
theorem q127 : cdOf 127 = some mt127 := rfl
-- 4+
theorem b127_0_0 {E : env} {M : mem} {rv : Option Value} {M2 : mem} {N1 : mem} (h0 : ¬ M.1 83 17 = 0) (eN1 : N1 = upM M 83 17 (M.1 83 17 - 1)) (k : Rm E 127 22 [vr 83, vi 0] [] N1 rv M2) : Rm E 127 0 [vr 83, vn] [] M rv M2 := by
  refine R_S q127 2 (pc2 := 4) (ls2 := [vr 83, vn]) (st2 := [.int (M.1 83 17)]) rfl ?_
  refine R_ift q127 rfl (decide_eq_true h0) ?_
  show Rm E 127 10 [vr 83, vn] [] M _ _
  refine R_S q127 5 (pc2 := 17) (ls2 := [vr 83, vn]) (st2 := [.int (M.1 83 17 - 1), .ref 83]) rfl ?_
  refine R_pf q127 rfl rfl rfl rfl rfl eN1 ?_
  show Rm E 127 20 [vr 83, vn] [] N1 _ _
  refine R_S q127 2 (pc2 := 22) (ls2 := [vr 83, vi 0]) (st2 := []) rfl ?_
  exact k
-- 4-
theorem b127_0_1 {E : env} {M : mem}  (h0 : ¬ (¬ M.1 83 17 = 0)) : Rm E 127 0 [vr 83, vn] [] M (some (.int (-2))) M := by
  refine R_S q127 2 (pc2 := 4) (ls2 := [vr 83, vn]) (st2 := [.int (M.1 83 17)]) rfl ?_
  refine R_iff q127 rfl (decide_eq_false h0) ?_
  show Rm E 127 7 [vr 83, vn] [] M _ _
  refine R_S q127 1 (pc2 := 9) (ls2 := [vr 83, vn]) (st2 := [.int (-2)]) rfl ?_
  exact R_ret rfl q127 rfl rfl rfl rfl (stpR_i rfl rfl)
-- 25+
theorem b127_22_0 {E : env} {M : mem} {x1 : Int32}  (h0 : 90 ≤ x1) : Rm E 127 22 [vr 83, vi x1] [] M (some (.int (M.1 83 17))) M := by
  refine R_S q127 2 (pc2 := 25) (ls2 := [vr 83, vi x1]) (st2 := [.int 90, .int x1]) rfl ?_
  refine R_ict q127 rfl (decide_eq_true h0) ?_
  show Rm E 127 54 [vr 83, vi x1] [] M _ _
  refine R_S q127 2 (pc2 := 58) (ls2 := [vr 83, vi x1]) (st2 := [.int (M.1 83 17)]) rfl ?_
  exact R_ret rfl q127 rfl rfl rfl rfl (stpR_i rfl rfl)
-- 25-
theorem b127_22_1 {E : env} {M : mem} {rv : Option Value} {M2 : mem} {x1 : Int32} {N1 : mem} (h0 : ¬ (90 ≤ x1)) (h1 : inR ((90 * M.1 83 17) + x1) 720) (h2 : inR x1 90) (eN1 : N1 = upM M 84 (x1.toNatClampNeg) (M.1 94 ((90 * M.1 83 17) + x1).toNatClampNeg)) (k : Rm E 127 22 [vr 83, vi (x1 + 1)] [] N1 rv M2) : Rm E 127 22 [vr 83, vi x1] [] M rv M2 := by
  refine R_S q127 2 (pc2 := 25) (ls2 := [vr 83, vi x1]) (st2 := [.int 90, .int x1]) rfl ?_
  refine R_icf q127 rfl (decide_eq_false h0) ?_
  show Rm E 127 28 [vr 83, vi x1] [] M _ _
  refine R_S q127 11 (pc2 := 46) (ls2 := [vr 83, vi x1]) (st2 := [.int ((90 * M.1 83 17) + x1), .ref 94, .int x1, .ref 84]) rfl ?_
  refine R_ial q127 rfl rfl h1 ?_
  show Rm E 127 47 [vr 83, vi x1] [.int (M.1 94 ((90 * M.1 83 17) + x1).toNatClampNeg), .int x1, .ref 84] M _ _
  refine R_ias q127 rfl rfl h2 eN1 ?_
  show Rm E 127 48 [vr 83, vi x1] [] N1 _ _
  refine R_S q127 2 (pc2 := 22) (ls2 := [vr 83, vi (x1 + 1)]) (st2 := []) rfl ?_
  exact k
-- 128 HeavyChainsModel.isMarked(I)Z  cuts [0]
theorem q128 : cdOf 128 = some mt128 := rfl
-- 10+
theorem b128_0_0 {E : env} {M : mem} {x1 : Int32}  (h0 : ¬ (lg_cmp ((M.2 >>> (x1.toInt64 &&& 63)) &&& 1) 1) = 0) : Rm E 128 0 [vr 83, vi x1] [] M (some (.int 0)) M := by
  refine R_S q128 8 (pc2 := 10) (ls2 := [vr 83, vi x1]) (st2 := [.int (lg_cmp ((M.2 >>> (x1.toInt64 &&& 63)) &&& 1) 1)]) rfl ?_
  refine R_ift q128 rfl (decide_eq_true h0) ?_
  show Rm E 128 17 [vr 83, vi x1] [] M _ _
  refine R_S q128 1 (pc2 := 18) (ls2 := [vr 83, vi x1]) (st2 := [.int 0]) rfl ?_
  exact R_ret rfl q128 rfl rfl rfl rfl rfl
-- 10-
theorem b128_0_1 {E : env} {M : mem} {x1 : Int32}  (h0 : ¬ (¬ (lg_cmp ((M.2 >>> (x1.toInt64 &&& 63)) &&& 1) 1) = 0)) : Rm E 128 0 [vr 83, vi x1] [] M (some (.int 1)) M := by
  refine R_S q128 8 (pc2 := 10) (ls2 := [vr 83, vi x1]) (st2 := [.int (lg_cmp ((M.2 >>> (x1.toInt64 &&& 63)) &&& 1) 1)]) rfl ?_
  refine R_iff q128 rfl (decide_eq_false h0) ?_
  show Rm E 128 13 [vr 83, vi x1] [] M _ _
  refine R_S q128 2 (pc2 := 18) (ls2 := [vr 83, vi x1]) (st2 := [.int 1]) rfl ?_
  exact R_ret rfl q128 rfl rfl rfl rfl rfl
-- 129 HeavyChainsModel.mark(III)I  cuts [0, 40]
theorem q129 : cdOf 129 = some mt129 := rfl
-- call X10_isPost 5+
theorem b129_0_0 {E : env} {M : mem} {x1 x2 x3 : Int32} {c1 : Int32} (h0 : Rm E 91 0 [vr 83, vi x1] [] M (some (.int c1)) M) (h1 : c1 = 0) : Rm E 129 0 [vr 83, vi x1, vi x2, vi x3, vn, vn, vn] [] M (some (.int (-1))) M := by
  refine R_S q129 2 (pc2 := 2) (ls2 := [vr 83, vi x1, vi x2, vi x3, vn, vn, vn]) (st2 := [.int x1, .ref 83]) rfl ?_
  refine R_call q129 rfl rfl rfl rfl rfl rfl h0 ?_
  show Rm E 129 5 [vr 83, vi x1, vi x2, vi x3, vn, vn, vn] [.int c1] M _ _
  refine R_ift q129 rfl (decide_eq_true h1) ?_
  show Rm E 129 26 [vr 83, vi x1, vi x2, vi x3, vn, vn, vn] [] M _ _
  refine R_S q129 1 (pc2 := 27) (ls2 := [vr 83, vi x1, vi x2, vi x3, vn, vn, vn]) (st2 := [.int (-1)]) rfl ?_
  exact R_ret rfl q129 rfl rfl rfl rfl (stpR_i rfl rfl)
-- call X10_isPost 5- call X10_isPost 13+
theorem b129_0_1 {E : env} {M : mem} {x1 x2 x3 : Int32} {c1 : Int32} {c2 : Int32} (h0 : Rm E 91 0 [vr 83, vi x1] [] M (some (.int c1)) M) (h1 : ¬ (c1 = 0)) (h2 : Rm E 91 0 [vr 83, vi x2] [] M (some (.int c2)) M) (h3 : c2 = 0) : Rm E 129 0 [vr 83, vi x1, vi x2, vi x3, vn, vn, vn] [] M (some (.int (-1))) M := by
  refine R_S q129 2 (pc2 := 2) (ls2 := [vr 83, vi x1, vi x2, vi x3, vn, vn, vn]) (st2 := [.int x1, .ref 83]) rfl ?_
  refine R_call q129 rfl rfl rfl rfl rfl rfl h0 ?_
  show Rm E 129 5 [vr 83, vi x1, vi x2, vi x3, vn, vn, vn] [.int c1] M _ _
  refine R_iff q129 rfl (decide_eq_false h1) ?_
  show Rm E 129 8 [vr 83, vi x1, vi x2, vi x3, vn, vn, vn] [] M _ _
  refine R_S q129 2 (pc2 := 10) (ls2 := [vr 83, vi x1, vi x2, vi x3, vn, vn, vn]) (st2 := [.int x2, .ref 83]) rfl ?_
  refine R_call q129 rfl rfl rfl rfl rfl rfl h2 ?_
  show Rm E 129 13 [vr 83, vi x1, vi x2, vi x3, vn, vn, vn] [.int c2] M _ _
  refine R_ift q129 rfl (decide_eq_true h3) ?_
  show Rm E 129 26 [vr 83, vi x1, vi x2, vi x3, vn, vn, vn] [] M _ _
  refine R_S q129 1 (pc2 := 27) (ls2 := [vr 83, vi x1, vi x2, vi x3, vn, vn, vn]) (st2 := [.int (-1)]) rfl ?_
  exact R_ret rfl q129 rfl rfl rfl rfl (stpR_i rfl rfl)
-- call X10_isPost 5- call X10_isPost 13- call X10_in 23+ call X10_lays
theorem b129_0_2 {E : env} {M : mem} {rv : Option Value} {M2 : mem} {x1 x2 x3 : Int32} {c1 : Int32} {c2 : Int32} {c3 : Int32} {N1 : mem} (h0 : Rm E 91 0 [vr 83, vi x1] [] M (some (.int c1)) M) (h1 : ¬ (c1 = 0)) (h2 : Rm E 91 0 [vr 83, vi x2] [] M (some (.int c2)) M) (h3 : ¬ (c2 = 0)) (h4 : Rm E 88 0 [vl (((x3 : Int32)).toInt64), vn, vl 0, vn, vl 1, vn] [] M (some (.int c3)) M) (h5 : ¬ c3 = 0) (h6 : Rm E 105 0 [vr 83, vi x1, vi x2, vn, vn, vn, vn] [] M none N1) (k : Rm E 129 40 [vr 83, vn, vn, vi x3, vi 0, vi 0, vn] [] N1 rv M2) : Rm E 129 0 [vr 83, vi x1, vi x2, vi x3, vn, vn, vn] [] M rv M2 := by
  refine R_S q129 2 (pc2 := 2) (ls2 := [vr 83, vi x1, vi x2, vi x3, vn, vn, vn]) (st2 := [.int x1, .ref 83]) rfl ?_
  refine R_call q129 rfl rfl rfl rfl rfl rfl h0 ?_
  show Rm E 129 5 [vr 83, vi x1, vi x2, vi x3, vn, vn, vn] [.int c1] M _ _
  refine R_iff q129 rfl (decide_eq_false h1) ?_
  show Rm E 129 8 [vr 83, vi x1, vi x2, vi x3, vn, vn, vn] [] M _ _
  refine R_S q129 2 (pc2 := 10) (ls2 := [vr 83, vi x1, vi x2, vi x3, vn, vn, vn]) (st2 := [.int x2, .ref 83]) rfl ?_
  refine R_call q129 rfl rfl rfl rfl rfl rfl h2 ?_
  show Rm E 129 13 [vr 83, vi x1, vi x2, vi x3, vn, vn, vn] [.int c2] M _ _
  refine R_iff q129 rfl (decide_eq_false h3) ?_
  show Rm E 129 16 [vr 83, vi x1, vi x2, vi x3, vn, vn, vn] [] M _ _
  refine R_S q129 4 (pc2 := 20) (ls2 := [vr 83, vi x1, vi x2, vi x3, vn, vn, vn]) (st2 := [.long 1, .long 0, .long (((x3 : Int32)).toInt64)]) rfl ?_
  refine R_call q129 rfl rfl rfl rfl rfl rfl h4 ?_
  show Rm E 129 23 [vr 83, vi x1, vi x2, vi x3, vn, vn, vn] [.int c3] M _ _
  refine R_ift q129 rfl (decide_eq_true h5) ?_
  show Rm E 129 28 [vr 83, vi x1, vi x2, vi x3, vn, vn, vn] [] M _ _
  refine R_S q129 3 (pc2 := 31) (ls2 := [vr 83, vi x1, vi x2, vi x3, vn, vn, vn]) (st2 := [.int x2, .int x1, .ref 83]) rfl ?_
  refine R_call q129 rfl rfl rfl rfl rfl rfl h6 ?_
  show Rm E 129 34 [vr 83, vi x1, vi x2, vi x3, vn, vn, vn] [] N1 _ _
  refine R_S q129 4 (pc2 := 40) (ls2 := [vr 83, vi x1, vi x2, vi x3, vi 0, vi 0, vn]) (st2 := []) rfl ?_
  exact R_w (ls := [vr 83, vn, vn, vi x3, vi 0, vi 0, vn]) (show lsle _ _ from ⟨rfl, ⟨rfl, ⟨rfl, ⟨rfl, trivial⟩⟩⟩⟩) k
-- call X10_isPost 5- call X10_isPost 13- call X10_in 23-
theorem b129_0_3 {E : env} {M : mem} {x1 x2 x3 : Int32} {c1 : Int32} {c2 : Int32} {c3 : Int32} (h0 : Rm E 91 0 [vr 83, vi x1] [] M (some (.int c1)) M) (h1 : ¬ (c1 = 0)) (h2 : Rm E 91 0 [vr 83, vi x2] [] M (some (.int c2)) M) (h3 : ¬ (c2 = 0)) (h4 : Rm E 88 0 [vl (((x3 : Int32)).toInt64), vn, vl 0, vn, vl 1, vn] [] M (some (.int c3)) M) (h5 : ¬ (¬ c3 = 0)) : Rm E 129 0 [vr 83, vi x1, vi x2, vi x3, vn, vn, vn] [] M (some (.int (-1))) M := by
  refine R_S q129 2 (pc2 := 2) (ls2 := [vr 83, vi x1, vi x2, vi x3, vn, vn, vn]) (st2 := [.int x1, .ref 83]) rfl ?_
  refine R_call q129 rfl rfl rfl rfl rfl rfl h0 ?_
  show Rm E 129 5 [vr 83, vi x1, vi x2, vi x3, vn, vn, vn] [.int c1] M _ _
  refine R_iff q129 rfl (decide_eq_false h1) ?_
  show Rm E 129 8 [vr 83, vi x1, vi x2, vi x3, vn, vn, vn] [] M _ _
  refine R_S q129 2 (pc2 := 10) (ls2 := [vr 83, vi x1, vi x2, vi x3, vn, vn, vn]) (st2 := [.int x2, .ref 83]) rfl ?_
  refine R_call q129 rfl rfl rfl rfl rfl rfl h2 ?_
  show Rm E 129 13 [vr 83, vi x1, vi x2, vi x3, vn, vn, vn] [.int c2] M _ _
  refine R_iff q129 rfl (decide_eq_false h3) ?_
  show Rm E 129 16 [vr 83, vi x1, vi x2, vi x3, vn, vn, vn] [] M _ _
  refine R_S q129 4 (pc2 := 20) (ls2 := [vr 83, vi x1, vi x2, vi x3, vn, vn, vn]) (st2 := [.long 1, .long 0, .long (((x3 : Int32)).toInt64)]) rfl ?_
  refine R_call q129 rfl rfl rfl rfl rfl rfl h4 ?_
  show Rm E 129 23 [vr 83, vi x1, vi x2, vi x3, vn, vn, vn] [.int c3] M _ _
  refine R_iff q129 rfl (decide_eq_false h5) ?_
  show Rm E 129 26 [vr 83, vi x1, vi x2, vi x3, vn, vn, vn] [] M _ _
  refine R_S q129 1 (pc2 := 27) (ls2 := [vr 83, vi x1, vi x2, vi x3, vn, vn, vn]) (st2 := [.int (-1)]) rfl ?_
  exact R_ret rfl q129 rfl rfl rfl rfl (stpR_i rfl rfl)
-- 46+
theorem b129_40_0 {E : env} {M : mem} {x3 x4 x5 : Int32}  (h0 : M.1 83 14 ≤ x5) : Rm E 129 40 [vr 83, vn, vn, vi x3, vi x4, vi x5, vn] [] M (some (.int x4)) M := by
  refine R_S q129 3 (pc2 := 46) (ls2 := [vr 83, vn, vn, vi x3, vi x4, vi x5, vn]) (st2 := [.int (M.1 83 14), .int x5]) rfl ?_
  refine R_ict q129 rfl (decide_eq_true h0) ?_
  show Rm E 129 128 [vr 83, vn, vn, vi x3, vi x4, vi x5, vn] [] M _ _
  refine R_S q129 1 (pc2 := 130) (ls2 := [vr 83, vn, vn, vi x3, vi x4, vi x5, vn]) (st2 := [.int x4]) rfl ?_
  exact R_ret rfl q129 rfl rfl rfl rfl (stpR_i rfl rfl)
-- 46- call X10_isMarked 62+ 70+
theorem b129_40_1 {E : env} {M : mem} {rv : Option Value} {M2 : mem} {x3 x4 x5 : Int32} {c1 : Int32} {N1 : mem} (h0 : ¬ (M.1 83 14 ≤ x5)) (h1 : inR x5 60) (h2 : Rm E 128 0 [vr 83, vi (M.1 93 x5.toNatClampNeg)] [] M (some (.int c1)) M) (h3 : ¬ x3 = 1) (h4 : c1 = 0) (eN1 : N1 = (M.1, (M.2 ^^^ 0))) (k : Rm E 129 40 [vr 83, vn, vn, vi x3, vi (x4 + 0), vi (x5 + 1), vn] [] N1 rv M2) : Rm E 129 40 [vr 83, vn, vn, vi x3, vi x4, vi x5, vn] [] M rv M2 := by
  refine R_S q129 3 (pc2 := 46) (ls2 := [vr 83, vn, vn, vi x3, vi x4, vi x5, vn]) (st2 := [.int (M.1 83 14), .int x5]) rfl ?_
  refine R_icf q129 rfl (decide_eq_false h0) ?_
  show Rm E 129 49 [vr 83, vn, vn, vi x3, vi x4, vi x5, vn] [] M _ _
  refine R_S q129 4 (pc2 := 56) (ls2 := [vr 83, vn, vn, vi x3, vi x4, vi x5, vn]) (st2 := [.int x5, .ref 93, .ref 83]) rfl ?_
  refine R_ial q129 rfl rfl h1 ?_
  show Rm E 129 57 [vr 83, vn, vn, vi x3, vi x4, vi x5, vn] [.int (M.1 93 x5.toNatClampNeg), .ref 83] M _ _
  refine R_call q129 rfl rfl rfl rfl rfl rfl h2 ?_
  show Rm E 129 60 [vr 83, vn, vn, vi x3, vi x4, vi x5, vn] [.int c1] M _ _
  refine R_S q129 2 (pc2 := 62) (ls2 := [vr 83, vn, vn, vi x3, vi x4, vi x5, vn]) (st2 := [.int 1, .int x3, .int c1]) rfl ?_
  refine R_ict q129 rfl (decide_eq_true h3) ?_
  show Rm E 129 69 [vr 83, vn, vn, vi x3, vi x4, vi x5, vn] [.int c1] M _ _
  refine R_S q129 1 (pc2 := 70) (ls2 := [vr 83, vn, vn, vi x3, vi x4, vi x5, vn]) (st2 := [.int 0, .int c1]) rfl ?_
  refine R_ict q129 rfl (decide_eq_true h4) ?_
  show Rm E 129 77 [vr 83, vn, vn, vi x3, vi x4, vi x5, vn] [] M _ _
  refine R_S q129 9 (pc2 := 104) (ls2 := [vr 83, vn, vn, vi x3, vi x4, vi x5, vi 0]) (st2 := [.long (M.2 ^^^ 0), .ref 83]) rfl ?_
  refine R_pl q129 rfl eN1 ?_
  show Rm E 129 107 [vr 83, vn, vn, vi x3, vi x4, vi x5, vi 0] [] N1 _ _
  refine R_S q129 8 (pc2 := 40) (ls2 := [vr 83, vn, vn, vi x3, vi (x4 + 0), vi (x5 + 1), vi 0]) (st2 := []) rfl ?_
  exact R_w (ls := [vr 83, vn, vn, vi x3, vi (x4 + 0), vi (x5 + 1), vn]) (show lsle _ _ from ⟨rfl, ⟨rfl, ⟨rfl, ⟨rfl, trivial⟩⟩⟩⟩) k
-- 46- call X10_isMarked 62+ 70-
theorem b129_40_2 {E : env} {M : mem} {rv : Option Value} {M2 : mem} {x3 x4 x5 : Int32} {c1 : Int32} {N1 : mem} (h0 : ¬ (M.1 83 14 ≤ x5)) (h1 : inR x5 60) (h2 : Rm E 128 0 [vr 83, vi (M.1 93 x5.toNatClampNeg)] [] M (some (.int c1)) M) (h3 : ¬ x3 = 1) (h4 : ¬ (c1 = 0)) (h5 : inR x5 60) (eN1 : N1 = (M.1, (M.2 ^^^ (1 <<< ((M.1 93 x5.toNatClampNeg).toInt64 &&& 63))))) (k : Rm E 129 40 [vr 83, vn, vn, vi x3, vi (x4 + 1), vi (x5 + 1), vn] [] N1 rv M2) : Rm E 129 40 [vr 83, vn, vn, vi x3, vi x4, vi x5, vn] [] M rv M2 := by
  refine R_S q129 3 (pc2 := 46) (ls2 := [vr 83, vn, vn, vi x3, vi x4, vi x5, vn]) (st2 := [.int (M.1 83 14), .int x5]) rfl ?_
  refine R_icf q129 rfl (decide_eq_false h0) ?_
  show Rm E 129 49 [vr 83, vn, vn, vi x3, vi x4, vi x5, vn] [] M _ _
  refine R_S q129 4 (pc2 := 56) (ls2 := [vr 83, vn, vn, vi x3, vi x4, vi x5, vn]) (st2 := [.int x5, .ref 93, .ref 83]) rfl ?_
  refine R_ial q129 rfl rfl h1 ?_
  show Rm E 129 57 [vr 83, vn, vn, vi x3, vi x4, vi x5, vn] [.int (M.1 93 x5.toNatClampNeg), .ref 83] M _ _
  refine R_call q129 rfl rfl rfl rfl rfl rfl h2 ?_
  show Rm E 129 60 [vr 83, vn, vn, vi x3, vi x4, vi x5, vn] [.int c1] M _ _
  refine R_S q129 2 (pc2 := 62) (ls2 := [vr 83, vn, vn, vi x3, vi x4, vi x5, vn]) (st2 := [.int 1, .int x3, .int c1]) rfl ?_
  refine R_ict q129 rfl (decide_eq_true h3) ?_
  show Rm E 129 69 [vr 83, vn, vn, vi x3, vi x4, vi x5, vn] [.int c1] M _ _
  refine R_S q129 1 (pc2 := 70) (ls2 := [vr 83, vn, vn, vi x3, vi x4, vi x5, vn]) (st2 := [.int 0, .int c1]) rfl ?_
  refine R_icf q129 rfl (decide_eq_false h4) ?_
  show Rm E 129 73 [vr 83, vn, vn, vi x3, vi x4, vi x5, vn] [] M _ _
  refine R_S q129 12 (pc2 := 97) (ls2 := [vr 83, vn, vn, vi x3, vi x4, vi x5, vi 1]) (st2 := [.int x5, .ref 93, .long 1, .long (M.2), .ref 83]) rfl ?_
  refine R_ial q129 rfl rfl h5 ?_
  show Rm E 129 98 [vr 83, vn, vn, vi x3, vi x4, vi x5, vi 1] [.int (M.1 93 x5.toNatClampNeg), .long 1, .long (M.2), .ref 83] M _ _
  refine R_S q129 3 (pc2 := 104) (ls2 := [vr 83, vn, vn, vi x3, vi x4, vi x5, vi 1]) (st2 := [.long (M.2 ^^^ (1 <<< ((M.1 93 x5.toNatClampNeg).toInt64 &&& 63))), .ref 83]) rfl ?_
  refine R_pl q129 rfl eN1 ?_
  show Rm E 129 107 [vr 83, vn, vn, vi x3, vi x4, vi x5, vi 1] [] N1 _ _
  refine R_S q129 9 (pc2 := 40) (ls2 := [vr 83, vn, vn, vi x3, vi (x4 + 1), vi (x5 + 1), vi 1]) (st2 := []) rfl ?_
  exact R_w (ls := [vr 83, vn, vn, vi x3, vi (x4 + 1), vi (x5 + 1), vn]) (show lsle _ _ from ⟨rfl, ⟨rfl, ⟨rfl, ⟨rfl, trivial⟩⟩⟩⟩) k
-- 46- call X10_isMarked 62- 70+
theorem b129_40_3 {E : env} {M : mem} {rv : Option Value} {M2 : mem} {x3 x4 x5 : Int32} {c1 : Int32} {N1 : mem} (h0 : ¬ (M.1 83 14 ≤ x5)) (h1 : inR x5 60) (h2 : Rm E 128 0 [vr 83, vi (M.1 93 x5.toNatClampNeg)] [] M (some (.int c1)) M) (h3 : ¬ (¬ x3 = 1)) (h4 : c1 = 1) (eN1 : N1 = (M.1, (M.2 ^^^ 0))) (k : Rm E 129 40 [vr 83, vn, vn, vi x3, vi (x4 + 0), vi (x5 + 1), vn] [] N1 rv M2) : Rm E 129 40 [vr 83, vn, vn, vi x3, vi x4, vi x5, vn] [] M rv M2 := by
  refine R_S q129 3 (pc2 := 46) (ls2 := [vr 83, vn, vn, vi x3, vi x4, vi x5, vn]) (st2 := [.int (M.1 83 14), .int x5]) rfl ?_
  refine R_icf q129 rfl (decide_eq_false h0) ?_
  show Rm E 129 49 [vr 83, vn, vn, vi x3, vi x4, vi x5, vn] [] M _ _
  refine R_S q129 4 (pc2 := 56) (ls2 := [vr 83, vn, vn, vi x3, vi x4, vi x5, vn]) (st2 := [.int x5, .ref 93, .ref 83]) rfl ?_
  refine R_ial q129 rfl rfl h1 ?_
  show Rm E 129 57 [vr 83, vn, vn, vi x3, vi x4, vi x5, vn] [.int (M.1 93 x5.toNatClampNeg), .ref 83] M _ _
  refine R_call q129 rfl rfl rfl rfl rfl rfl h2 ?_
  show Rm E 129 60 [vr 83, vn, vn, vi x3, vi x4, vi x5, vn] [.int c1] M _ _
  refine R_S q129 2 (pc2 := 62) (ls2 := [vr 83, vn, vn, vi x3, vi x4, vi x5, vn]) (st2 := [.int 1, .int x3, .int c1]) rfl ?_
  refine R_icf q129 rfl (decide_eq_false h3) ?_
  show Rm E 129 65 [vr 83, vn, vn, vi x3, vi x4, vi x5, vn] [.int c1] M _ _
  refine R_S q129 2 (pc2 := 70) (ls2 := [vr 83, vn, vn, vi x3, vi x4, vi x5, vn]) (st2 := [.int 1, .int c1]) rfl ?_
  refine R_ict q129 rfl (decide_eq_true h4) ?_
  show Rm E 129 77 [vr 83, vn, vn, vi x3, vi x4, vi x5, vn] [] M _ _
  refine R_S q129 9 (pc2 := 104) (ls2 := [vr 83, vn, vn, vi x3, vi x4, vi x5, vi 0]) (st2 := [.long (M.2 ^^^ 0), .ref 83]) rfl ?_
  refine R_pl q129 rfl eN1 ?_
  show Rm E 129 107 [vr 83, vn, vn, vi x3, vi x4, vi x5, vi 0] [] N1 _ _
  refine R_S q129 8 (pc2 := 40) (ls2 := [vr 83, vn, vn, vi x3, vi (x4 + 0), vi (x5 + 1), vi 0]) (st2 := []) rfl ?_
  exact R_w (ls := [vr 83, vn, vn, vi x3, vi (x4 + 0), vi (x5 + 1), vn]) (show lsle _ _ from ⟨rfl, ⟨rfl, ⟨rfl, ⟨rfl, trivial⟩⟩⟩⟩) k
-- 46- call X10_isMarked 62- 70-
theorem b129_40_4 {E : env} {M : mem} {rv : Option Value} {M2 : mem} {x3 x4 x5 : Int32} {c1 : Int32} {N1 : mem} (h0 : ¬ (M.1 83 14 ≤ x5)) (h1 : inR x5 60) (h2 : Rm E 128 0 [vr 83, vi (M.1 93 x5.toNatClampNeg)] [] M (some (.int c1)) M) (h3 : ¬ (¬ x3 = 1)) (h4 : ¬ (c1 = 1)) (h5 : inR x5 60) (eN1 : N1 = (M.1, (M.2 ^^^ (1 <<< ((M.1 93 x5.toNatClampNeg).toInt64 &&& 63))))) (k : Rm E 129 40 [vr 83, vn, vn, vi x3, vi (x4 + 1), vi (x5 + 1), vn] [] N1 rv M2) : Rm E 129 40 [vr 83, vn, vn, vi x3, vi x4, vi x5, vn] [] M rv M2 := by
  refine R_S q129 3 (pc2 := 46) (ls2 := [vr 83, vn, vn, vi x3, vi x4, vi x5, vn]) (st2 := [.int (M.1 83 14), .int x5]) rfl ?_
  refine R_icf q129 rfl (decide_eq_false h0) ?_
  show Rm E 129 49 [vr 83, vn, vn, vi x3, vi x4, vi x5, vn] [] M _ _
  refine R_S q129 4 (pc2 := 56) (ls2 := [vr 83, vn, vn, vi x3, vi x4, vi x5, vn]) (st2 := [.int x5, .ref 93, .ref 83]) rfl ?_
  refine R_ial q129 rfl rfl h1 ?_
  show Rm E 129 57 [vr 83, vn, vn, vi x3, vi x4, vi x5, vn] [.int (M.1 93 x5.toNatClampNeg), .ref 83] M _ _
  refine R_call q129 rfl rfl rfl rfl rfl rfl h2 ?_
  show Rm E 129 60 [vr 83, vn, vn, vi x3, vi x4, vi x5, vn] [.int c1] M _ _
  refine R_S q129 2 (pc2 := 62) (ls2 := [vr 83, vn, vn, vi x3, vi x4, vi x5, vn]) (st2 := [.int 1, .int x3, .int c1]) rfl ?_
  refine R_icf q129 rfl (decide_eq_false h3) ?_
  show Rm E 129 65 [vr 83, vn, vn, vi x3, vi x4, vi x5, vn] [.int c1] M _ _
  refine R_S q129 2 (pc2 := 70) (ls2 := [vr 83, vn, vn, vi x3, vi x4, vi x5, vn]) (st2 := [.int 1, .int c1]) rfl ?_
  refine R_icf q129 rfl (decide_eq_false h4) ?_
  show Rm E 129 73 [vr 83, vn, vn, vi x3, vi x4, vi x5, vn] [] M _ _
  refine R_S q129 12 (pc2 := 97) (ls2 := [vr 83, vn, vn, vi x3, vi x4, vi x5, vi 1]) (st2 := [.int x5, .ref 93, .long 1, .long (M.2), .ref 83]) rfl ?_
  refine R_ial q129 rfl rfl h5 ?_
  show Rm E 129 98 [vr 83, vn, vn, vi x3, vi x4, vi x5, vi 1] [.int (M.1 93 x5.toNatClampNeg), .long 1, .long (M.2), .ref 83] M _ _
  refine R_S q129 3 (pc2 := 104) (ls2 := [vr 83, vn, vn, vi x3, vi x4, vi x5, vi 1]) (st2 := [.long (M.2 ^^^ (1 <<< ((M.1 93 x5.toNatClampNeg).toInt64 &&& 63))), .ref 83]) rfl ?_
  refine R_pl q129 rfl eN1 ?_
  show Rm E 129 107 [vr 83, vn, vn, vi x3, vi x4, vi x5, vi 1] [] N1 _ _
  refine R_S q129 9 (pc2 := 40) (ls2 := [vr 83, vn, vn, vi x3, vi (x4 + 1), vi (x5 + 1), vi 1]) (st2 := []) rfl ?_
  exact R_w (ls := [vr 83, vn, vn, vi x3, vi (x4 + 1), vi (x5 + 1), vn]) (show lsle _ _ from ⟨rfl, ⟨rfl, ⟨rfl, ⟨rfl, trivial⟩⟩⟩⟩) k
-- 130 HeavyChainsModel.markedAll()I  cuts [0, 4]
theorem q130 : cdOf 130 = some mt130 := rfl
-- 
theorem b130_0_0 {E : env} {M : mem} {rv : Option Value} {M2 : mem}  (k : Rm E 130 4 [vr 83, vi 0, vi 0] [] M rv M2) : Rm E 130 0 [vr 83, vn, vn] [] M rv M2 := by
  refine R_S q130 4 (pc2 := 4) (ls2 := [vr 83, vi 0, vi 0]) (st2 := []) rfl ?_
  exact k
-- 9+
theorem b130_4_0 {E : env} {M : mem} {x1 x2 : Int32}  (h0 : M.1 83 1 ≤ x2) : Rm E 130 4 [vr 83, vi x1, vi x2] [] M (some (.int x1)) M := by
  refine R_S q130 3 (pc2 := 9) (ls2 := [vr 83, vi x1, vi x2]) (st2 := [.int (M.1 83 1), .int x2]) rfl ?_
  refine R_ict q130 rfl (decide_eq_true h0) ?_
  show Rm E 130 34 [vr 83, vi x1, vi x2] [] M _ _
  refine R_S q130 1 (pc2 := 35) (ls2 := [vr 83, vi x1, vi x2]) (st2 := [.int x1]) rfl ?_
  exact R_ret rfl q130 rfl rfl rfl rfl (stpR_i rfl rfl)
-- 9- call X10_isMarked 18+
theorem b130_4_1 {E : env} {M : mem} {rv : Option Value} {M2 : mem} {x1 x2 : Int32} {c1 : Int32} (h0 : ¬ (M.1 83 1 ≤ x2)) (h1 : Rm E 128 0 [vr 83, vi x2] [] M (some (.int c1)) M) (h2 : c1 = 0) (k : Rm E 130 4 [vr 83, vi (x1 + 0), vi (x2 + 1)] [] M rv M2) : Rm E 130 4 [vr 83, vi x1, vi x2] [] M rv M2 := by
  refine R_S q130 3 (pc2 := 9) (ls2 := [vr 83, vi x1, vi x2]) (st2 := [.int (M.1 83 1), .int x2]) rfl ?_
  refine R_icf q130 rfl (decide_eq_false h0) ?_
  show Rm E 130 12 [vr 83, vi x1, vi x2] [] M _ _
  refine R_S q130 3 (pc2 := 15) (ls2 := [vr 83, vi x1, vi x2]) (st2 := [.int x2, .ref 83, .int x1]) rfl ?_
  refine R_call q130 rfl rfl rfl rfl rfl rfl h1 ?_
  show Rm E 130 18 [vr 83, vi x1, vi x2] [.int c1, .int x1] M _ _
  refine R_ift q130 rfl (decide_eq_true h2) ?_
  show Rm E 130 25 [vr 83, vi x1, vi x2] [.int x1] M _ _
  refine R_S q130 5 (pc2 := 4) (ls2 := [vr 83, vi (x1 + 0), vi (x2 + 1)]) (st2 := []) rfl ?_
  exact k
-- 9- call X10_isMarked 18-
theorem b130_4_2 {E : env} {M : mem} {rv : Option Value} {M2 : mem} {x1 x2 : Int32} {c1 : Int32} (h0 : ¬ (M.1 83 1 ≤ x2)) (h1 : Rm E 128 0 [vr 83, vi x2] [] M (some (.int c1)) M) (h2 : ¬ (c1 = 0)) (k : Rm E 130 4 [vr 83, vi (x1 + 1), vi (x2 + 1)] [] M rv M2) : Rm E 130 4 [vr 83, vi x1, vi x2] [] M rv M2 := by
  refine R_S q130 3 (pc2 := 9) (ls2 := [vr 83, vi x1, vi x2]) (st2 := [.int (M.1 83 1), .int x2]) rfl ?_
  refine R_icf q130 rfl (decide_eq_false h0) ?_
  show Rm E 130 12 [vr 83, vi x1, vi x2] [] M _ _
  refine R_S q130 3 (pc2 := 15) (ls2 := [vr 83, vi x1, vi x2]) (st2 := [.int x2, .ref 83, .int x1]) rfl ?_
  refine R_call q130 rfl rfl rfl rfl rfl rfl h1 ?_
  show Rm E 130 18 [vr 83, vi x1, vi x2] [.int c1, .int x1] M _ _
  refine R_iff q130 rfl (decide_eq_false h2) ?_
  show Rm E 130 21 [vr 83, vi x1, vi x2] [.int x1] M _ _
  refine R_S q130 6 (pc2 := 4) (ls2 := [vr 83, vi (x1 + 1), vi (x2 + 1)]) (st2 := []) rfl ?_
  exact k
-- 131 HeavyChainsModel.turn(I)I  cuts [0, 17]
theorem q131 : cdOf 131 = some mt131 := rfl
-- call X10_isPost 5+ call X10_laysBelow
theorem b131_0_0 {E : env} {M : mem} {rv : Option Value} {M2 : mem} {x1 : Int32} {c1 : Int32} {N1 : mem} (h0 : Rm E 91 0 [vr 83, vi x1] [] M (some (.int c1)) M) (h1 : ¬ c1 = 0) (h2 : Rm E 106 0 [vr 83, vi x1, vn] [] M none N1) (k : Rm E 131 17 [vr 83, vn, vi 0] [] N1 rv M2) : Rm E 131 0 [vr 83, vi x1, vn] [] M rv M2 := by
  refine R_S q131 2 (pc2 := 2) (ls2 := [vr 83, vi x1, vn]) (st2 := [.int x1, .ref 83]) rfl ?_
  refine R_call q131 rfl rfl rfl rfl rfl rfl h0 ?_
  show Rm E 131 5 [vr 83, vi x1, vn] [.int c1] M _ _
  refine R_ift q131 rfl (decide_eq_true h1) ?_
  show Rm E 131 10 [vr 83, vi x1, vn] [] M _ _
  refine R_S q131 2 (pc2 := 12) (ls2 := [vr 83, vi x1, vn]) (st2 := [.int x1, .ref 83]) rfl ?_
  refine R_call q131 rfl rfl rfl rfl rfl rfl h2 ?_
  show Rm E 131 15 [vr 83, vi x1, vn] [] N1 _ _
  refine R_S q131 2 (pc2 := 17) (ls2 := [vr 83, vi x1, vi 0]) (st2 := []) rfl ?_
  exact R_w (ls := [vr 83, vn, vi 0]) (show lsle _ _ from ⟨rfl, ⟨rfl, trivial⟩⟩) k
-- call X10_isPost 5-
theorem b131_0_1 {E : env} {M : mem} {x1 : Int32} {c1 : Int32} (h0 : Rm E 91 0 [vr 83, vi x1] [] M (some (.int c1)) M) (h1 : ¬ (¬ c1 = 0)) : Rm E 131 0 [vr 83, vi x1, vn] [] M (some (.int (-1))) M := by
  refine R_S q131 2 (pc2 := 2) (ls2 := [vr 83, vi x1, vn]) (st2 := [.int x1, .ref 83]) rfl ?_
  refine R_call q131 rfl rfl rfl rfl rfl rfl h0 ?_
  show Rm E 131 5 [vr 83, vi x1, vn] [.int c1] M _ _
  refine R_iff q131 rfl (decide_eq_false h1) ?_
  show Rm E 131 8 [vr 83, vi x1, vn] [] M _ _
  refine R_S q131 1 (pc2 := 9) (ls2 := [vr 83, vi x1, vn]) (st2 := [.int (-1)]) rfl ?_
  exact R_ret rfl q131 rfl rfl rfl rfl (stpR_i rfl rfl)
-- 22+ call X10_markedAll
theorem b131_17_0 {E : env} {M : mem} {x2 : Int32} {c1 : Int32} (h0 : M.1 83 14 ≤ x2) (h1 : Rm E 130 0 [vr 83, vn, vn] [] M (some (.int c1)) M) : Rm E 131 17 [vr 83, vn, vi x2] [] M (some (.int c1)) M := by
  refine R_S q131 3 (pc2 := 22) (ls2 := [vr 83, vn, vi x2]) (st2 := [.int (M.1 83 14), .int x2]) rfl ?_
  refine R_ict q131 rfl (decide_eq_true h0) ?_
  show Rm E 131 48 [vr 83, vn, vi x2] [] M _ _
  refine R_S q131 1 (pc2 := 49) (ls2 := [vr 83, vn, vi x2]) (st2 := [.ref 83]) rfl ?_
  refine R_call q131 rfl rfl rfl rfl rfl rfl h1 ?_
  show Rm E 131 52 [vr 83, vn, vi x2] [.int c1] M _ _
  exact R_ret rfl q131 rfl rfl rfl rfl (stpR_i rfl rfl)
-- 22-
theorem b131_17_1 {E : env} {M : mem} {rv : Option Value} {M2 : mem} {x2 : Int32} {N1 : mem} (h0 : ¬ (M.1 83 14 ≤ x2)) (h1 : inR x2 60) (eN1 : N1 = (M.1, (M.2 ^^^ (1 <<< ((M.1 93 x2.toNatClampNeg).toInt64 &&& 63))))) (k : Rm E 131 17 [vr 83, vn, vi (x2 + 1)] [] N1 rv M2) : Rm E 131 17 [vr 83, vn, vi x2] [] M rv M2 := by
  refine R_S q131 3 (pc2 := 22) (ls2 := [vr 83, vn, vi x2]) (st2 := [.int (M.1 83 14), .int x2]) rfl ?_
  refine R_icf q131 rfl (decide_eq_false h0) ?_
  show Rm E 131 25 [vr 83, vn, vi x2] [] M _ _
  refine R_S q131 7 (pc2 := 36) (ls2 := [vr 83, vn, vi x2]) (st2 := [.int x2, .ref 93, .long 1, .long (M.2), .ref 83]) rfl ?_
  refine R_ial q131 rfl rfl h1 ?_
  show Rm E 131 37 [vr 83, vn, vi x2] [.int (M.1 93 x2.toNatClampNeg), .long 1, .long (M.2), .ref 83] M _ _
  refine R_S q131 2 (pc2 := 39) (ls2 := [vr 83, vn, vi x2]) (st2 := [.long (M.2 ^^^ (1 <<< ((M.1 93 x2.toNatClampNeg).toInt64 &&& 63))), .ref 83]) rfl ?_
  refine R_pl q131 rfl eN1 ?_
  show Rm E 131 42 [vr 83, vn, vi x2] [] N1 _ _
  refine R_S q131 2 (pc2 := 17) (ls2 := [vr 83, vn, vi (x2 + 1)]) (st2 := []) rfl ?_
  exact k
-- 132 HeavyChainsModel.marked(I)I  cuts [0, 20]
theorem q132 : cdOf 132 = some mt132 := rfl
-- call X10_isPost 5+
theorem b132_0_0 {E : env} {M : mem} {rv : Option Value} {M2 : mem} {x1 : Int32} {c1 : Int32} (h0 : Rm E 91 0 [vr 83, vi x1] [] M (some (.int c1)) M) (h1 : ¬ c1 = 0) (k : Rm E 132 20 [vr 83, vi x1, vi (-4), vi (M.1 83 1 - 1)] [] M rv M2) : Rm E 132 0 [vr 83, vi x1, vn, vn] [] M rv M2 := by
  refine R_S q132 2 (pc2 := 2) (ls2 := [vr 83, vi x1, vn, vn]) (st2 := [.int x1, .ref 83]) rfl ?_
  refine R_call q132 rfl rfl rfl rfl rfl rfl h0 ?_
  show Rm E 132 5 [vr 83, vi x1, vn, vn] [.int c1] M _ _
  refine R_ift q132 rfl (decide_eq_true h1) ?_
  show Rm E 132 10 [vr 83, vi x1, vn, vn] [] M _ _
  refine R_S q132 7 (pc2 := 20) (ls2 := [vr 83, vi x1, vi (-4), vi (M.1 83 1 - 1)]) (st2 := []) rfl ?_
  exact k
-- call X10_isPost 5-
theorem b132_0_1 {E : env} {M : mem} {x1 : Int32} {c1 : Int32} (h0 : Rm E 91 0 [vr 83, vi x1] [] M (some (.int c1)) M) (h1 : ¬ (¬ c1 = 0)) : Rm E 132 0 [vr 83, vi x1, vn, vn] [] M (some (.int (-1))) M := by
  refine R_S q132 2 (pc2 := 2) (ls2 := [vr 83, vi x1, vn, vn]) (st2 := [.int x1, .ref 83]) rfl ?_
  refine R_call q132 rfl rfl rfl rfl rfl rfl h0 ?_
  show Rm E 132 5 [vr 83, vi x1, vn, vn] [.int c1] M _ _
  refine R_iff q132 rfl (decide_eq_false h1) ?_
  show Rm E 132 8 [vr 83, vi x1, vn, vn] [] M _ _
  refine R_S q132 1 (pc2 := 9) (ls2 := [vr 83, vi x1, vn, vn]) (st2 := [.int (-1)]) rfl ?_
  exact R_ret rfl q132 rfl rfl rfl rfl (stpR_i rfl rfl)
-- 22+
theorem b132_20_0 {E : env} {M : mem} {x1 x2 x3 : Int32}  (h0 : x3 < x1) : Rm E 132 20 [vr 83, vi x1, vi x2, vi x3] [] M (some (.int x2)) M := by
  refine R_S q132 2 (pc2 := 22) (ls2 := [vr 83, vi x1, vi x2, vi x3]) (st2 := [.int x1, .int x3]) rfl ?_
  refine R_ict q132 rfl (decide_eq_true h0) ?_
  show Rm E 132 50 [vr 83, vi x1, vi x2, vi x3] [] M _ _
  refine R_S q132 1 (pc2 := 51) (ls2 := [vr 83, vi x1, vi x2, vi x3]) (st2 := [.int x2]) rfl ?_
  exact R_ret rfl q132 rfl rfl rfl rfl (stpR_i rfl rfl)
-- 22- call X10_isMarked 35+
theorem b132_20_1 {E : env} {M : mem} {rv : Option Value} {M2 : mem} {x1 x2 x3 : Int32} {c1 : Int32} (h0 : ¬ (x3 < x1)) (h1 : inR x3 30) (h2 : Rm E 128 0 [vr 83, vi (M.1 91 x3.toNatClampNeg)] [] M (some (.int c1)) M) (h3 : c1 = 0) (k : Rm E 132 20 [vr 83, vi x1, vi x2, vi (x3 + (-1))] [] M rv M2) : Rm E 132 20 [vr 83, vi x1, vi x2, vi x3] [] M rv M2 := by
  refine R_S q132 2 (pc2 := 22) (ls2 := [vr 83, vi x1, vi x2, vi x3]) (st2 := [.int x1, .int x3]) rfl ?_
  refine R_icf q132 rfl (decide_eq_false h0) ?_
  show Rm E 132 25 [vr 83, vi x1, vi x2, vi x3] [] M _ _
  refine R_S q132 4 (pc2 := 31) (ls2 := [vr 83, vi x1, vi x2, vi x3]) (st2 := [.int x3, .ref 91, .ref 83]) rfl ?_
  refine R_ial q132 rfl rfl h1 ?_
  show Rm E 132 32 [vr 83, vi x1, vi x2, vi x3] [.int (M.1 91 x3.toNatClampNeg), .ref 83] M _ _
  refine R_call q132 rfl rfl rfl rfl rfl rfl h2 ?_
  show Rm E 132 35 [vr 83, vi x1, vi x2, vi x3] [.int c1] M _ _
  refine R_ift q132 rfl (decide_eq_true h3) ?_
  show Rm E 132 42 [vr 83, vi x1, vi x2, vi x3] [] M _ _
  refine R_S q132 4 (pc2 := 20) (ls2 := [vr 83, vi x1, vi x2, vi (x3 + (-1))]) (st2 := []) rfl ?_
  exact k
-- 22- call X10_isMarked 35-
theorem b132_20_2 {E : env} {M : mem} {rv : Option Value} {M2 : mem} {x1 x2 x3 : Int32} {c1 : Int32} (h0 : ¬ (x3 < x1)) (h1 : inR x3 30) (h2 : Rm E 128 0 [vr 83, vi (M.1 91 x3.toNatClampNeg)] [] M (some (.int c1)) M) (h3 : ¬ (c1 = 0)) (k : Rm E 132 20 [vr 83, vi x1, vi x3, vi (x3 + (-1))] [] M rv M2) : Rm E 132 20 [vr 83, vi x1, vi x2, vi x3] [] M rv M2 := by
  refine R_S q132 2 (pc2 := 22) (ls2 := [vr 83, vi x1, vi x2, vi x3]) (st2 := [.int x1, .int x3]) rfl ?_
  refine R_icf q132 rfl (decide_eq_false h0) ?_
  show Rm E 132 25 [vr 83, vi x1, vi x2, vi x3] [] M _ _
  refine R_S q132 4 (pc2 := 31) (ls2 := [vr 83, vi x1, vi x2, vi x3]) (st2 := [.int x3, .ref 91, .ref 83]) rfl ?_
  refine R_ial q132 rfl rfl h1 ?_
  show Rm E 132 32 [vr 83, vi x1, vi x2, vi x3] [.int (M.1 91 x3.toNatClampNeg), .ref 83] M _ _
  refine R_call q132 rfl rfl rfl rfl rfl rfl h2 ?_
  show Rm E 132 35 [vr 83, vi x1, vi x2, vi x3] [.int c1] M _ _
  refine R_iff q132 rfl (decide_eq_false h3) ?_
  show Rm E 132 38 [vr 83, vi x1, vi x2, vi x3] [] M _ _
  refine R_S q132 5 (pc2 := 20) (ls2 := [vr 83, vi x1, vi x3, vi (x3 + (-1))]) (st2 := []) rfl ?_
  exact k
-- 133 HeavyChainsModel.nearest(I)I  cuts [0, 19]
theorem q133 : cdOf 133 = some mt133 := rfl
-- call X10_isPost 5+
theorem b133_0_0 {E : env} {M : mem} {rv : Option Value} {M2 : mem} {x1 : Int32} {c1 : Int32} (h0 : Rm E 91 0 [vr 83, vi x1] [] M (some (.int c1)) M) (h1 : ¬ c1 = 0) (k : Rm E 133 19 [vr 83, vi x1, vi (-4), vi 99, vi 0] [] M rv M2) : Rm E 133 0 [vr 83, vi x1, vn, vn, vn] [] M rv M2 := by
  refine R_S q133 2 (pc2 := 2) (ls2 := [vr 83, vi x1, vn, vn, vn]) (st2 := [.int x1, .ref 83]) rfl ?_
  refine R_call q133 rfl rfl rfl rfl rfl rfl h0 ?_
  show Rm E 133 5 [vr 83, vi x1, vn, vn, vn] [.int c1] M _ _
  refine R_ift q133 rfl (decide_eq_true h1) ?_
  show Rm E 133 10 [vr 83, vi x1, vn, vn, vn] [] M _ _
  refine R_S q133 6 (pc2 := 19) (ls2 := [vr 83, vi x1, vi (-4), vi 99, vi 0]) (st2 := []) rfl ?_
  exact k
-- call X10_isPost 5-
theorem b133_0_1 {E : env} {M : mem} {x1 : Int32} {c1 : Int32} (h0 : Rm E 91 0 [vr 83, vi x1] [] M (some (.int c1)) M) (h1 : ¬ (¬ c1 = 0)) : Rm E 133 0 [vr 83, vi x1, vn, vn, vn] [] M (some (.int (-1))) M := by
  refine R_S q133 2 (pc2 := 2) (ls2 := [vr 83, vi x1, vn, vn, vn]) (st2 := [.int x1, .ref 83]) rfl ?_
  refine R_call q133 rfl rfl rfl rfl rfl rfl h0 ?_
  show Rm E 133 5 [vr 83, vi x1, vn, vn, vn] [.int c1] M _ _
  refine R_iff q133 rfl (decide_eq_false h1) ?_
  show Rm E 133 8 [vr 83, vi x1, vn, vn, vn] [] M _ _
  refine R_S q133 1 (pc2 := 9) (ls2 := [vr 83, vi x1, vn, vn, vn]) (st2 := [.int (-1)]) rfl ?_
  exact R_ret rfl q133 rfl rfl rfl rfl (stpR_i rfl rfl)
-- 25+
theorem b133_19_0 {E : env} {M : mem} {x1 x2 x3 x4 : Int32}  (h0 : M.1 83 1 ≤ x4) : Rm E 133 19 [vr 83, vi x1, vi x2, vi x3, vi x4] [] M (some (.int x2)) M := by
  refine R_S q133 3 (pc2 := 25) (ls2 := [vr 83, vi x1, vi x2, vi x3, vi x4]) (st2 := [.int (M.1 83 1), .int x4]) rfl ?_
  refine R_ict q133 rfl (decide_eq_true h0) ?_
  show Rm E 133 82 [vr 83, vi x1, vi x2, vi x3, vi x4] [] M _ _
  refine R_S q133 1 (pc2 := 83) (ls2 := [vr 83, vi x1, vi x2, vi x3, vi x4]) (st2 := [.int x2]) rfl ?_
  exact R_ret rfl q133 rfl rfl rfl rfl (stpR_i rfl rfl)
-- 25- call X10_isMarked 34+
theorem b133_19_1 {E : env} {M : mem} {rv : Option Value} {M2 : mem} {x1 x2 x3 x4 : Int32} {c1 : Int32} (h0 : ¬ (M.1 83 1 ≤ x4)) (h1 : Rm E 128 0 [vr 83, vi x4] [] M (some (.int c1)) M) (h2 : c1 = 0) (k : Rm E 133 19 [vr 83, vi x1, vi x2, vi x3, vi (x4 + 1)] [] M rv M2) : Rm E 133 19 [vr 83, vi x1, vi x2, vi x3, vi x4] [] M rv M2 := by
  refine R_S q133 3 (pc2 := 25) (ls2 := [vr 83, vi x1, vi x2, vi x3, vi x4]) (st2 := [.int (M.1 83 1), .int x4]) rfl ?_
  refine R_icf q133 rfl (decide_eq_false h0) ?_
  show Rm E 133 28 [vr 83, vi x1, vi x2, vi x3, vi x4] [] M _ _
  refine R_S q133 2 (pc2 := 31) (ls2 := [vr 83, vi x1, vi x2, vi x3, vi x4]) (st2 := [.int x4, .ref 83]) rfl ?_
  refine R_call q133 rfl rfl rfl rfl rfl rfl h1 ?_
  show Rm E 133 34 [vr 83, vi x1, vi x2, vi x3, vi x4] [.int c1] M _ _
  refine R_ift q133 rfl (decide_eq_true h2) ?_
  show Rm E 133 76 [vr 83, vi x1, vi x2, vi x3, vi x4] [] M _ _
  refine R_S q133 2 (pc2 := 19) (ls2 := [vr 83, vi x1, vi x2, vi x3, vi (x4 + 1)]) (st2 := []) rfl ?_
  exact k
-- 25- call X10_isMarked 34- call X10_lays 49+ 64+
theorem b133_19_2 {E : env} {M : mem} {rv : Option Value} {M2 : mem} {x1 x2 x3 x4 : Int32} {c1 : Int32} {N1 : mem} (h0 : ¬ (M.1 83 1 ≤ x4)) (h1 : Rm E 128 0 [vr 83, vi x4] [] M (some (.int c1)) M) (h2 : ¬ (c1 = 0)) (h3 : Rm E 105 0 [vr 83, vi x1, vi x4, vn, vn, vn, vn] [] M none N1) (h4 : x3 ≤ N1.1 83 14) (h5 : x3 ≤ N1.1 83 14) (k : Rm E 133 19 [vr 83, vi x1, vi x2, vi x3, vi (x4 + 1)] [] N1 rv M2) : Rm E 133 19 [vr 83, vi x1, vi x2, vi x3, vi x4] [] M rv M2 := by
  refine R_S q133 3 (pc2 := 25) (ls2 := [vr 83, vi x1, vi x2, vi x3, vi x4]) (st2 := [.int (M.1 83 1), .int x4]) rfl ?_
  refine R_icf q133 rfl (decide_eq_false h0) ?_
  show Rm E 133 28 [vr 83, vi x1, vi x2, vi x3, vi x4] [] M _ _
  refine R_S q133 2 (pc2 := 31) (ls2 := [vr 83, vi x1, vi x2, vi x3, vi x4]) (st2 := [.int x4, .ref 83]) rfl ?_
  refine R_call q133 rfl rfl rfl rfl rfl rfl h1 ?_
  show Rm E 133 34 [vr 83, vi x1, vi x2, vi x3, vi x4] [.int c1] M _ _
  refine R_iff q133 rfl (decide_eq_false h2) ?_
  show Rm E 133 37 [vr 83, vi x1, vi x2, vi x3, vi x4] [] M _ _
  refine R_S q133 3 (pc2 := 41) (ls2 := [vr 83, vi x1, vi x2, vi x3, vi x4]) (st2 := [.int x4, .int x1, .ref 83]) rfl ?_
  refine R_call q133 rfl rfl rfl rfl rfl rfl h3 ?_
  show Rm E 133 44 [vr 83, vi x1, vi x2, vi x3, vi x4] [] N1 _ _
  refine R_S q133 3 (pc2 := 49) (ls2 := [vr 83, vi x1, vi x2, vi x3, vi x4]) (st2 := [.int x3, .int (N1.1 83 14)]) rfl ?_
  refine R_ict q133 rfl (decide_eq_true h4) ?_
  show Rm E 133 57 [vr 83, vi x1, vi x2, vi x3, vi x4] [] N1 _ _
  refine R_S q133 5 (pc2 := 64) (ls2 := [vr 83, vi x1, vi x2, vi x3, vi x4]) (st2 := [.int x3, .int (N1.1 83 14)]) rfl ?_
  refine R_ict q133 rfl (decide_eq_true h5) ?_
  show Rm E 133 74 [vr 83, vi x1, vi x2, vi x3, vi x4] [] N1 _ _
  refine R_S q133 4 (pc2 := 19) (ls2 := [vr 83, vi x1, vi x2, vi x3, vi (x4 + 1)]) (st2 := []) rfl ?_
  exact k
-- 25- call X10_isMarked 34- call X10_lays 49+ 64-
theorem b133_19_3 {E : env} {M : mem} {rv : Option Value} {M2 : mem} {x1 x2 x3 x4 : Int32} {c1 : Int32} {N1 : mem} (h0 : ¬ (M.1 83 1 ≤ x4)) (h1 : Rm E 128 0 [vr 83, vi x4] [] M (some (.int c1)) M) (h2 : ¬ (c1 = 0)) (h3 : Rm E 105 0 [vr 83, vi x1, vi x4, vn, vn, vn, vn] [] M none N1) (h4 : x3 ≤ N1.1 83 14) (h5 : ¬ (x3 ≤ N1.1 83 14)) (k : Rm E 133 19 [vr 83, vi x1, vi x2, vi (N1.1 83 14), vi (x4 + 1)] [] N1 rv M2) : Rm E 133 19 [vr 83, vi x1, vi x2, vi x3, vi x4] [] M rv M2 := by
  refine R_S q133 3 (pc2 := 25) (ls2 := [vr 83, vi x1, vi x2, vi x3, vi x4]) (st2 := [.int (M.1 83 1), .int x4]) rfl ?_
  refine R_icf q133 rfl (decide_eq_false h0) ?_
  show Rm E 133 28 [vr 83, vi x1, vi x2, vi x3, vi x4] [] M _ _
  refine R_S q133 2 (pc2 := 31) (ls2 := [vr 83, vi x1, vi x2, vi x3, vi x4]) (st2 := [.int x4, .ref 83]) rfl ?_
  refine R_call q133 rfl rfl rfl rfl rfl rfl h1 ?_
  show Rm E 133 34 [vr 83, vi x1, vi x2, vi x3, vi x4] [.int c1] M _ _
  refine R_iff q133 rfl (decide_eq_false h2) ?_
  show Rm E 133 37 [vr 83, vi x1, vi x2, vi x3, vi x4] [] M _ _
  refine R_S q133 3 (pc2 := 41) (ls2 := [vr 83, vi x1, vi x2, vi x3, vi x4]) (st2 := [.int x4, .int x1, .ref 83]) rfl ?_
  refine R_call q133 rfl rfl rfl rfl rfl rfl h3 ?_
  show Rm E 133 44 [vr 83, vi x1, vi x2, vi x3, vi x4] [] N1 _ _
  refine R_S q133 3 (pc2 := 49) (ls2 := [vr 83, vi x1, vi x2, vi x3, vi x4]) (st2 := [.int x3, .int (N1.1 83 14)]) rfl ?_
  refine R_ict q133 rfl (decide_eq_true h4) ?_
  show Rm E 133 57 [vr 83, vi x1, vi x2, vi x3, vi x4] [] N1 _ _
  refine R_S q133 5 (pc2 := 64) (ls2 := [vr 83, vi x1, vi x2, vi x3, vi x4]) (st2 := [.int x3, .int (N1.1 83 14)]) rfl ?_
  refine R_icf q133 rfl (decide_eq_false h5) ?_
  show Rm E 133 67 [vr 83, vi x1, vi x2, vi x3, vi x4] [] N1 _ _
  refine R_S q133 6 (pc2 := 19) (ls2 := [vr 83, vi x1, vi x2, vi (N1.1 83 14), vi (x4 + 1)]) (st2 := []) rfl ?_
  exact k
-- 25- call X10_isMarked 34- call X10_lays 49- 64+
theorem b133_19_4 {E : env} {M : mem} {rv : Option Value} {M2 : mem} {x1 x2 x3 x4 : Int32} {c1 : Int32} {N1 : mem} (h0 : ¬ (M.1 83 1 ≤ x4)) (h1 : Rm E 128 0 [vr 83, vi x4] [] M (some (.int c1)) M) (h2 : ¬ (c1 = 0)) (h3 : Rm E 105 0 [vr 83, vi x1, vi x4, vn, vn, vn, vn] [] M none N1) (h4 : ¬ (x3 ≤ N1.1 83 14)) (h5 : x3 ≤ N1.1 83 14) (k : Rm E 133 19 [vr 83, vi x1, vi x4, vi x3, vi (x4 + 1)] [] N1 rv M2) : Rm E 133 19 [vr 83, vi x1, vi x2, vi x3, vi x4] [] M rv M2 := by
  refine R_S q133 3 (pc2 := 25) (ls2 := [vr 83, vi x1, vi x2, vi x3, vi x4]) (st2 := [.int (M.1 83 1), .int x4]) rfl ?_
  refine R_icf q133 rfl (decide_eq_false h0) ?_
  show Rm E 133 28 [vr 83, vi x1, vi x2, vi x3, vi x4] [] M _ _
  refine R_S q133 2 (pc2 := 31) (ls2 := [vr 83, vi x1, vi x2, vi x3, vi x4]) (st2 := [.int x4, .ref 83]) rfl ?_
  refine R_call q133 rfl rfl rfl rfl rfl rfl h1 ?_
  show Rm E 133 34 [vr 83, vi x1, vi x2, vi x3, vi x4] [.int c1] M _ _
  refine R_iff q133 rfl (decide_eq_false h2) ?_
  show Rm E 133 37 [vr 83, vi x1, vi x2, vi x3, vi x4] [] M _ _
  refine R_S q133 3 (pc2 := 41) (ls2 := [vr 83, vi x1, vi x2, vi x3, vi x4]) (st2 := [.int x4, .int x1, .ref 83]) rfl ?_
  refine R_call q133 rfl rfl rfl rfl rfl rfl h3 ?_
  show Rm E 133 44 [vr 83, vi x1, vi x2, vi x3, vi x4] [] N1 _ _
  refine R_S q133 3 (pc2 := 49) (ls2 := [vr 83, vi x1, vi x2, vi x3, vi x4]) (st2 := [.int x3, .int (N1.1 83 14)]) rfl ?_
  refine R_icf q133 rfl (decide_eq_false h4) ?_
  show Rm E 133 52 [vr 83, vi x1, vi x2, vi x3, vi x4] [] N1 _ _
  refine R_S q133 6 (pc2 := 64) (ls2 := [vr 83, vi x1, vi x4, vi x3, vi x4]) (st2 := [.int x3, .int (N1.1 83 14)]) rfl ?_
  refine R_ict q133 rfl (decide_eq_true h5) ?_
  show Rm E 133 74 [vr 83, vi x1, vi x4, vi x3, vi x4] [] N1 _ _
  refine R_S q133 4 (pc2 := 19) (ls2 := [vr 83, vi x1, vi x4, vi x3, vi (x4 + 1)]) (st2 := []) rfl ?_
  exact k
-- 25- call X10_isMarked 34- call X10_lays 49- 64-
theorem b133_19_5 {E : env} {M : mem} {rv : Option Value} {M2 : mem} {x1 x2 x3 x4 : Int32} {c1 : Int32} {N1 : mem} (h0 : ¬ (M.1 83 1 ≤ x4)) (h1 : Rm E 128 0 [vr 83, vi x4] [] M (some (.int c1)) M) (h2 : ¬ (c1 = 0)) (h3 : Rm E 105 0 [vr 83, vi x1, vi x4, vn, vn, vn, vn] [] M none N1) (h4 : ¬ (x3 ≤ N1.1 83 14)) (h5 : ¬ (x3 ≤ N1.1 83 14)) (k : Rm E 133 19 [vr 83, vi x1, vi x4, vi (N1.1 83 14), vi (x4 + 1)] [] N1 rv M2) : Rm E 133 19 [vr 83, vi x1, vi x2, vi x3, vi x4] [] M rv M2 := by
  refine R_S q133 3 (pc2 := 25) (ls2 := [vr 83, vi x1, vi x2, vi x3, vi x4]) (st2 := [.int (M.1 83 1), .int x4]) rfl ?_
  refine R_icf q133 rfl (decide_eq_false h0) ?_
  show Rm E 133 28 [vr 83, vi x1, vi x2, vi x3, vi x4] [] M _ _
  refine R_S q133 2 (pc2 := 31) (ls2 := [vr 83, vi x1, vi x2, vi x3, vi x4]) (st2 := [.int x4, .ref 83]) rfl ?_
  refine R_call q133 rfl rfl rfl rfl rfl rfl h1 ?_
  show Rm E 133 34 [vr 83, vi x1, vi x2, vi x3, vi x4] [.int c1] M _ _
  refine R_iff q133 rfl (decide_eq_false h2) ?_
  show Rm E 133 37 [vr 83, vi x1, vi x2, vi x3, vi x4] [] M _ _
  refine R_S q133 3 (pc2 := 41) (ls2 := [vr 83, vi x1, vi x2, vi x3, vi x4]) (st2 := [.int x4, .int x1, .ref 83]) rfl ?_
  refine R_call q133 rfl rfl rfl rfl rfl rfl h3 ?_
  show Rm E 133 44 [vr 83, vi x1, vi x2, vi x3, vi x4] [] N1 _ _
  refine R_S q133 3 (pc2 := 49) (ls2 := [vr 83, vi x1, vi x2, vi x3, vi x4]) (st2 := [.int x3, .int (N1.1 83 14)]) rfl ?_
  refine R_icf q133 rfl (decide_eq_false h4) ?_
  show Rm E 133 52 [vr 83, vi x1, vi x2, vi x3, vi x4] [] N1 _ _
  refine R_S q133 6 (pc2 := 64) (ls2 := [vr 83, vi x1, vi x4, vi x3, vi x4]) (st2 := [.int x3, .int (N1.1 83 14)]) rfl ?_
  refine R_icf q133 rfl (decide_eq_false h5) ?_
  show Rm E 133 67 [vr 83, vi x1, vi x4, vi x3, vi x4] [] N1 _ _
  refine R_S q133 6 (pc2 := 19) (ls2 := [vr 83, vi x1, vi x4, vi (N1.1 83 14), vi (x4 + 1)]) (st2 := []) rfl ?_
  exact k
-- 134 HeavyChainsModel.watch(III)I  cuts [0]
theorem q134 : cdOf 134 = some mt134 := rfl
-- call X10_isPost 5+
theorem b134_0_0 {E : env} {M : mem} {x1 x2 x3 : Int32} {c1 : Int32} (h0 : Rm E 91 0 [vr 83, vi x1] [] M (some (.int c1)) M) (h1 : c1 = 0) : Rm E 134 0 [vr 83, vi x1, vi x2, vi x3] [] M (some (.int (-1))) M := by
  refine R_S q134 2 (pc2 := 2) (ls2 := [vr 83, vi x1, vi x2, vi x3]) (st2 := [.int x1, .ref 83]) rfl ?_
  refine R_call q134 rfl rfl rfl rfl rfl rfl h0 ?_
  show Rm E 134 5 [vr 83, vi x1, vi x2, vi x3] [.int c1] M _ _
  refine R_ift q134 rfl (decide_eq_true h1) ?_
  show Rm E 134 30 [vr 83, vi x1, vi x2, vi x3] [] M _ _
  refine R_S q134 1 (pc2 := 31) (ls2 := [vr 83, vi x1, vi x2, vi x3]) (st2 := [.int (-1)]) rfl ?_
  exact R_ret rfl q134 rfl rfl rfl rfl (stpR_i rfl rfl)
-- call X10_isPost 5- call X10_isPost 13+
theorem b134_0_1 {E : env} {M : mem} {x1 x2 x3 : Int32} {c1 : Int32} {c2 : Int32} (h0 : Rm E 91 0 [vr 83, vi x1] [] M (some (.int c1)) M) (h1 : ¬ (c1 = 0)) (h2 : Rm E 91 0 [vr 83, vi x2] [] M (some (.int c2)) M) (h3 : c2 = 0) : Rm E 134 0 [vr 83, vi x1, vi x2, vi x3] [] M (some (.int (-1))) M := by
  refine R_S q134 2 (pc2 := 2) (ls2 := [vr 83, vi x1, vi x2, vi x3]) (st2 := [.int x1, .ref 83]) rfl ?_
  refine R_call q134 rfl rfl rfl rfl rfl rfl h0 ?_
  show Rm E 134 5 [vr 83, vi x1, vi x2, vi x3] [.int c1] M _ _
  refine R_iff q134 rfl (decide_eq_false h1) ?_
  show Rm E 134 8 [vr 83, vi x1, vi x2, vi x3] [] M _ _
  refine R_S q134 2 (pc2 := 10) (ls2 := [vr 83, vi x1, vi x2, vi x3]) (st2 := [.int x2, .ref 83]) rfl ?_
  refine R_call q134 rfl rfl rfl rfl rfl rfl h2 ?_
  show Rm E 134 13 [vr 83, vi x1, vi x2, vi x3] [.int c2] M _ _
  refine R_ift q134 rfl (decide_eq_true h3) ?_
  show Rm E 134 30 [vr 83, vi x1, vi x2, vi x3] [] M _ _
  refine R_S q134 1 (pc2 := 31) (ls2 := [vr 83, vi x1, vi x2, vi x3]) (st2 := [.int (-1)]) rfl ?_
  exact R_ret rfl q134 rfl rfl rfl rfl (stpR_i rfl rfl)
-- call X10_isPost 5- call X10_isPost 13- call X10_in 27+ 38+
theorem b134_0_2 {E : env} {M : mem} {x1 x2 x3 : Int32} {c1 : Int32} {c2 : Int32} {c3 : Int32} {N1 : mem} {N2 : mem} {N3 : mem} {N4 : mem} {N5 : mem} {N6 : mem} (h0 : Rm E 91 0 [vr 83, vi x1] [] M (some (.int c1)) M) (h1 : ¬ (c1 = 0)) (h2 : Rm E 91 0 [vr 83, vi x2] [] M (some (.int c2)) M) (h3 : ¬ (c2 = 0)) (h4 : Rm E 88 0 [vl (((x3 : Int32)).toInt64), vn, vl (-9999), vn, vl 9999, vn] [] M (some (.int c3)) M) (h5 : ¬ c3 = 0) (h6 : ¬ M.1 83 20 = 12) (h7 : inR (4 * M.1 83 20) 48) (eN1 : N1 = upM M 95 ((4 * M.1 83 20).toNatClampNeg) (M.1 83 21)) (h8 : inR ((4 * N1.1 83 20) + 1) 48) (eN2 : N2 = upM N1 95 (((4 * N1.1 83 20) + 1).toNatClampNeg) x1) (h9 : inR ((4 * N2.1 83 20) + 2) 48) (eN3 : N3 = upM N2 95 (((4 * N2.1 83 20) + 2).toNatClampNeg) x2) (h10 : inR ((4 * N3.1 83 20) + 3) 48) (eN4 : N4 = upM N3 95 (((4 * N3.1 83 20) + 3).toNatClampNeg) x3) (eN5 : N5 = upM N4 83 20 (N4.1 83 20 + 1)) (eN6 : N6 = upM N5 83 21 (N5.1 83 21 + 1)) : Rm E 134 0 [vr 83, vi x1, vi x2, vi x3] [] M (some (.int (N6.1 83 21 - 1))) N6 := by
  refine R_S q134 2 (pc2 := 2) (ls2 := [vr 83, vi x1, vi x2, vi x3]) (st2 := [.int x1, .ref 83]) rfl ?_
  refine R_call q134 rfl rfl rfl rfl rfl rfl h0 ?_
  show Rm E 134 5 [vr 83, vi x1, vi x2, vi x3] [.int c1] M _ _
  refine R_iff q134 rfl (decide_eq_false h1) ?_
  show Rm E 134 8 [vr 83, vi x1, vi x2, vi x3] [] M _ _
  refine R_S q134 2 (pc2 := 10) (ls2 := [vr 83, vi x1, vi x2, vi x3]) (st2 := [.int x2, .ref 83]) rfl ?_
  refine R_call q134 rfl rfl rfl rfl rfl rfl h2 ?_
  show Rm E 134 13 [vr 83, vi x1, vi x2, vi x3] [.int c2] M _ _
  refine R_iff q134 rfl (decide_eq_false h3) ?_
  show Rm E 134 16 [vr 83, vi x1, vi x2, vi x3] [] M _ _
  refine R_S q134 4 (pc2 := 24) (ls2 := [vr 83, vi x1, vi x2, vi x3]) (st2 := [.long 9999, .long (-9999), .long (((x3 : Int32)).toInt64)]) rfl ?_
  refine R_call q134 rfl rfl rfl rfl rfl rfl h4 ?_
  show Rm E 134 27 [vr 83, vi x1, vi x2, vi x3] [.int c3] M _ _
  refine R_ift q134 rfl (decide_eq_true h5) ?_
  show Rm E 134 32 [vr 83, vi x1, vi x2, vi x3] [] M _ _
  refine R_S q134 3 (pc2 := 38) (ls2 := [vr 83, vi x1, vi x2, vi x3]) (st2 := [.int 12, .int (M.1 83 20)]) rfl ?_
  refine R_ict q134 rfl (decide_eq_true h6) ?_
  show Rm E 134 44 [vr 83, vi x1, vi x2, vi x3] [] M _ _
  refine R_S q134 8 (pc2 := 58) (ls2 := [vr 83, vi x1, vi x2, vi x3]) (st2 := [.int (M.1 83 21), .int (4 * M.1 83 20), .ref 95]) rfl ?_
  refine R_ias q134 rfl rfl h7 eN1 ?_
  show Rm E 134 59 [vr 83, vi x1, vi x2, vi x3] [] N1 _ _
  refine R_S q134 9 (pc2 := 72) (ls2 := [vr 83, vi x1, vi x2, vi x3]) (st2 := [.int x1, .int ((4 * N1.1 83 20) + 1), .ref 95]) rfl ?_
  refine R_ias q134 rfl rfl h8 eN2 ?_
  show Rm E 134 73 [vr 83, vi x1, vi x2, vi x3] [] N2 _ _
  refine R_S q134 9 (pc2 := 86) (ls2 := [vr 83, vi x1, vi x2, vi x3]) (st2 := [.int x2, .int ((4 * N2.1 83 20) + 2), .ref 95]) rfl ?_
  refine R_ias q134 rfl rfl h9 eN3 ?_
  show Rm E 134 87 [vr 83, vi x1, vi x2, vi x3] [] N3 _ _
  refine R_S q134 9 (pc2 := 100) (ls2 := [vr 83, vi x1, vi x2, vi x3]) (st2 := [.int x3, .int ((4 * N3.1 83 20) + 3), .ref 95]) rfl ?_
  refine R_ias q134 rfl rfl h10 eN4 ?_
  show Rm E 134 101 [vr 83, vi x1, vi x2, vi x3] [] N4 _ _
  refine R_S q134 5 (pc2 := 108) (ls2 := [vr 83, vi x1, vi x2, vi x3]) (st2 := [.int (N4.1 83 20 + 1), .ref 83]) rfl ?_
  refine R_pf q134 rfl rfl rfl rfl rfl eN5 ?_
  show Rm E 134 111 [vr 83, vi x1, vi x2, vi x3] [] N5 _ _
  refine R_S q134 5 (pc2 := 118) (ls2 := [vr 83, vi x1, vi x2, vi x3]) (st2 := [.int (N5.1 83 21 + 1), .ref 83]) rfl ?_
  refine R_pf q134 rfl rfl rfl rfl rfl eN6 ?_
  show Rm E 134 121 [vr 83, vi x1, vi x2, vi x3] [] N6 _ _
  refine R_S q134 4 (pc2 := 127) (ls2 := [vr 83, vi x1, vi x2, vi x3]) (st2 := [.int (N6.1 83 21 - 1)]) rfl ?_
  exact R_ret rfl q134 rfl rfl rfl rfl (stpR_i rfl rfl)
-- call X10_isPost 5- call X10_isPost 13- call X10_in 27+ 38-
theorem b134_0_3 {E : env} {M : mem} {x1 x2 x3 : Int32} {c1 : Int32} {c2 : Int32} {c3 : Int32} (h0 : Rm E 91 0 [vr 83, vi x1] [] M (some (.int c1)) M) (h1 : ¬ (c1 = 0)) (h2 : Rm E 91 0 [vr 83, vi x2] [] M (some (.int c2)) M) (h3 : ¬ (c2 = 0)) (h4 : Rm E 88 0 [vl (((x3 : Int32)).toInt64), vn, vl (-9999), vn, vl 9999, vn] [] M (some (.int c3)) M) (h5 : ¬ c3 = 0) (h6 : ¬ (¬ M.1 83 20 = 12)) : Rm E 134 0 [vr 83, vi x1, vi x2, vi x3] [] M (some (.int (-3))) M := by
  refine R_S q134 2 (pc2 := 2) (ls2 := [vr 83, vi x1, vi x2, vi x3]) (st2 := [.int x1, .ref 83]) rfl ?_
  refine R_call q134 rfl rfl rfl rfl rfl rfl h0 ?_
  show Rm E 134 5 [vr 83, vi x1, vi x2, vi x3] [.int c1] M _ _
  refine R_iff q134 rfl (decide_eq_false h1) ?_
  show Rm E 134 8 [vr 83, vi x1, vi x2, vi x3] [] M _ _
  refine R_S q134 2 (pc2 := 10) (ls2 := [vr 83, vi x1, vi x2, vi x3]) (st2 := [.int x2, .ref 83]) rfl ?_
  refine R_call q134 rfl rfl rfl rfl rfl rfl h2 ?_
  show Rm E 134 13 [vr 83, vi x1, vi x2, vi x3] [.int c2] M _ _
  refine R_iff q134 rfl (decide_eq_false h3) ?_
  show Rm E 134 16 [vr 83, vi x1, vi x2, vi x3] [] M _ _
  refine R_S q134 4 (pc2 := 24) (ls2 := [vr 83, vi x1, vi x2, vi x3]) (st2 := [.long 9999, .long (-9999), .long (((x3 : Int32)).toInt64)]) rfl ?_
  refine R_call q134 rfl rfl rfl rfl rfl rfl h4 ?_
  show Rm E 134 27 [vr 83, vi x1, vi x2, vi x3] [.int c3] M _ _
  refine R_ift q134 rfl (decide_eq_true h5) ?_
  show Rm E 134 32 [vr 83, vi x1, vi x2, vi x3] [] M _ _
  refine R_S q134 3 (pc2 := 38) (ls2 := [vr 83, vi x1, vi x2, vi x3]) (st2 := [.int 12, .int (M.1 83 20)]) rfl ?_
  refine R_icf q134 rfl (decide_eq_false h6) ?_
  show Rm E 134 41 [vr 83, vi x1, vi x2, vi x3] [] M _ _
  refine R_S q134 1 (pc2 := 43) (ls2 := [vr 83, vi x1, vi x2, vi x3]) (st2 := [.int (-3)]) rfl ?_
  exact R_ret rfl q134 rfl rfl rfl rfl (stpR_i rfl rfl)
-- call X10_isPost 5- call X10_isPost 13- call X10_in 27-
theorem b134_0_4 {E : env} {M : mem} {x1 x2 x3 : Int32} {c1 : Int32} {c2 : Int32} {c3 : Int32} (h0 : Rm E 91 0 [vr 83, vi x1] [] M (some (.int c1)) M) (h1 : ¬ (c1 = 0)) (h2 : Rm E 91 0 [vr 83, vi x2] [] M (some (.int c2)) M) (h3 : ¬ (c2 = 0)) (h4 : Rm E 88 0 [vl (((x3 : Int32)).toInt64), vn, vl (-9999), vn, vl 9999, vn] [] M (some (.int c3)) M) (h5 : ¬ (¬ c3 = 0)) : Rm E 134 0 [vr 83, vi x1, vi x2, vi x3] [] M (some (.int (-1))) M := by
  refine R_S q134 2 (pc2 := 2) (ls2 := [vr 83, vi x1, vi x2, vi x3]) (st2 := [.int x1, .ref 83]) rfl ?_
  refine R_call q134 rfl rfl rfl rfl rfl rfl h0 ?_
  show Rm E 134 5 [vr 83, vi x1, vi x2, vi x3] [.int c1] M _ _
  refine R_iff q134 rfl (decide_eq_false h1) ?_
  show Rm E 134 8 [vr 83, vi x1, vi x2, vi x3] [] M _ _
  refine R_S q134 2 (pc2 := 10) (ls2 := [vr 83, vi x1, vi x2, vi x3]) (st2 := [.int x2, .ref 83]) rfl ?_
  refine R_call q134 rfl rfl rfl rfl rfl rfl h2 ?_
  show Rm E 134 13 [vr 83, vi x1, vi x2, vi x3] [.int c2] M _ _
  refine R_iff q134 rfl (decide_eq_false h3) ?_
  show Rm E 134 16 [vr 83, vi x1, vi x2, vi x3] [] M _ _
  refine R_S q134 4 (pc2 := 24) (ls2 := [vr 83, vi x1, vi x2, vi x3]) (st2 := [.long 9999, .long (-9999), .long (((x3 : Int32)).toInt64)]) rfl ?_
  refine R_call q134 rfl rfl rfl rfl rfl rfl h4 ?_
  show Rm E 134 27 [vr 83, vi x1, vi x2, vi x3] [.int c3] M _ _
  refine R_iff q134 rfl (decide_eq_false h5) ?_
  show Rm E 134 30 [vr 83, vi x1, vi x2, vi x3] [] M _ _
  refine R_S q134 1 (pc2 := 31) (ls2 := [vr 83, vi x1, vi x2, vi x3]) (st2 := [.int (-1)]) rfl ?_
  exact R_ret rfl q134 rfl rfl rfl rfl (stpR_i rfl rfl)
-- 135 HeavyChainsModel.settle()I  cuts [0, 4, 55]
theorem q135 : cdOf 135 = some mt135 := rfl
-- 
theorem b135_0_0 {E : env} {M : mem} {rv : Option Value} {M2 : mem}  (k : Rm E 135 4 [vr 83, vi 0, vi 0, vn] [] M rv M2) : Rm E 135 0 [vr 83, vn, vn, vn] [] M rv M2 := by
  refine R_S q135 4 (pc2 := 4) (ls2 := [vr 83, vi 0, vi 0, vn]) (st2 := []) rfl ?_
  exact k
-- 9+
theorem b135_4_0 {E : env} {M : mem} {x1 x2 : Int32} {N1 : mem} (h0 : M.1 83 20 ≤ x2) (eN1 : N1 = upM M 83 20 x1) : Rm E 135 4 [vr 83, vi x1, vi x2, vn] [] M (some (.int (M.1 83 20 - x1))) N1 := by
  refine R_S q135 3 (pc2 := 9) (ls2 := [vr 83, vi x1, vi x2, vn]) (st2 := [.int (M.1 83 20), .int x2]) rfl ?_
  refine R_ict q135 rfl (decide_eq_true h0) ?_
  show Rm E 135 95 [vr 83, vi x1, vi x2, vn] [] M _ _
  refine R_S q135 7 (pc2 := 104) (ls2 := [vr 83, vi x1, vi (M.1 83 20 - x1), vn]) (st2 := [.int x1, .ref 83]) rfl ?_
  refine R_pf q135 rfl rfl rfl rfl rfl eN1 ?_
  show Rm E 135 107 [vr 83, vi x1, vi (M.1 83 20 - x1), vn] [] N1 _ _
  refine R_S q135 1 (pc2 := 108) (ls2 := [vr 83, vi x1, vi (M.1 83 20 - x1), vn]) (st2 := [.int (M.1 83 20 - x1)]) rfl ?_
  exact R_ret rfl q135 rfl rfl rfl rfl (stpR_i rfl rfl)
-- 9- call X10_lays call X10_sumOf 50+
theorem b135_4_1 {E : env} {M : mem} {rv : Option Value} {M2 : mem} {x1 x2 : Int32} {N1 : mem} {c2 : Int32} (h0 : ¬ (M.1 83 20 ≤ x2)) (h1 : inR ((4 * x2) + 1) 48) (h2 : inR ((4 * x2) + 2) 48) (h3 : Rm E 105 0 [vr 83, vi (M.1 95 ((4 * x2) + 1).toNatClampNeg), vi (M.1 95 ((4 * x2) + 2).toNatClampNeg), vn, vn, vn, vn] [] M none N1) (h4 : Rm E 107 0 [vr 83, vn, vn] [] N1 (some (.int c2)) N1) (h5 : inR ((4 * x2) + 3) 48) (h6 : N1.1 95 ((4 * x2) + 3).toNatClampNeg ≤ c2) (k : Rm E 135 4 [vr 83, vi x1, vi (x2 + 1), vn] [] N1 rv M2) : Rm E 135 4 [vr 83, vi x1, vi x2, vn] [] M rv M2 := by
  refine R_S q135 3 (pc2 := 9) (ls2 := [vr 83, vi x1, vi x2, vn]) (st2 := [.int (M.1 83 20), .int x2]) rfl ?_
  refine R_icf q135 rfl (decide_eq_false h0) ?_
  show Rm E 135 12 [vr 83, vi x1, vi x2, vn] [] M _ _
  refine R_S q135 8 (pc2 := 22) (ls2 := [vr 83, vi x1, vi x2, vn]) (st2 := [.int ((4 * x2) + 1), .ref 95, .ref 83]) rfl ?_
  refine R_ial q135 rfl rfl h1 ?_
  show Rm E 135 23 [vr 83, vi x1, vi x2, vn] [.int (M.1 95 ((4 * x2) + 1).toNatClampNeg), .ref 83] M _ _
  refine R_S q135 7 (pc2 := 32) (ls2 := [vr 83, vi x1, vi x2, vn]) (st2 := [.int ((4 * x2) + 2), .ref 95, .int (M.1 95 ((4 * x2) + 1).toNatClampNeg), .ref 83]) rfl ?_
  refine R_ial q135 rfl rfl h2 ?_
  show Rm E 135 33 [vr 83, vi x1, vi x2, vn] [.int (M.1 95 ((4 * x2) + 2).toNatClampNeg), .int (M.1 95 ((4 * x2) + 1).toNatClampNeg), .ref 83] M _ _
  refine R_call q135 rfl rfl rfl rfl rfl rfl h3 ?_
  show Rm E 135 36 [vr 83, vi x1, vi x2, vn] [] N1 _ _
  refine R_S q135 1 (pc2 := 37) (ls2 := [vr 83, vi x1, vi x2, vn]) (st2 := [.ref 83]) rfl ?_
  refine R_call q135 rfl rfl rfl rfl rfl rfl h4 ?_
  show Rm E 135 40 [vr 83, vi x1, vi x2, vn] [.int c2] N1 _ _
  refine R_S q135 7 (pc2 := 49) (ls2 := [vr 83, vi x1, vi x2, vn]) (st2 := [.int ((4 * x2) + 3), .ref 95, .int c2]) rfl ?_
  refine R_ial q135 rfl rfl h5 ?_
  show Rm E 135 50 [vr 83, vi x1, vi x2, vn] [.int (N1.1 95 ((4 * x2) + 3).toNatClampNeg), .int c2] N1 _ _
  refine R_ict q135 rfl (decide_eq_true h6) ?_
  show Rm E 135 89 [vr 83, vi x1, vi x2, vn] [] N1 _ _
  refine R_S q135 2 (pc2 := 4) (ls2 := [vr 83, vi x1, vi (x2 + 1), vn]) (st2 := []) rfl ?_
  exact k
-- 9- call X10_lays call X10_sumOf 50-
theorem b135_4_2 {E : env} {M : mem} {rv : Option Value} {M2 : mem} {x1 x2 : Int32} {N1 : mem} {c2 : Int32} (h0 : ¬ (M.1 83 20 ≤ x2)) (h1 : inR ((4 * x2) + 1) 48) (h2 : inR ((4 * x2) + 2) 48) (h3 : Rm E 105 0 [vr 83, vi (M.1 95 ((4 * x2) + 1).toNatClampNeg), vi (M.1 95 ((4 * x2) + 2).toNatClampNeg), vn, vn, vn, vn] [] M none N1) (h4 : Rm E 107 0 [vr 83, vn, vn] [] N1 (some (.int c2)) N1) (h5 : inR ((4 * x2) + 3) 48) (h6 : ¬ (N1.1 95 ((4 * x2) + 3).toNatClampNeg ≤ c2)) (k : Rm E 135 55 [vr 83, vi x1, vi x2, vi 0] [] N1 rv M2) : Rm E 135 4 [vr 83, vi x1, vi x2, vn] [] M rv M2 := by
  refine R_S q135 3 (pc2 := 9) (ls2 := [vr 83, vi x1, vi x2, vn]) (st2 := [.int (M.1 83 20), .int x2]) rfl ?_
  refine R_icf q135 rfl (decide_eq_false h0) ?_
  show Rm E 135 12 [vr 83, vi x1, vi x2, vn] [] M _ _
  refine R_S q135 8 (pc2 := 22) (ls2 := [vr 83, vi x1, vi x2, vn]) (st2 := [.int ((4 * x2) + 1), .ref 95, .ref 83]) rfl ?_
  refine R_ial q135 rfl rfl h1 ?_
  show Rm E 135 23 [vr 83, vi x1, vi x2, vn] [.int (M.1 95 ((4 * x2) + 1).toNatClampNeg), .ref 83] M _ _
  refine R_S q135 7 (pc2 := 32) (ls2 := [vr 83, vi x1, vi x2, vn]) (st2 := [.int ((4 * x2) + 2), .ref 95, .int (M.1 95 ((4 * x2) + 1).toNatClampNeg), .ref 83]) rfl ?_
  refine R_ial q135 rfl rfl h2 ?_
  show Rm E 135 33 [vr 83, vi x1, vi x2, vn] [.int (M.1 95 ((4 * x2) + 2).toNatClampNeg), .int (M.1 95 ((4 * x2) + 1).toNatClampNeg), .ref 83] M _ _
  refine R_call q135 rfl rfl rfl rfl rfl rfl h3 ?_
  show Rm E 135 36 [vr 83, vi x1, vi x2, vn] [] N1 _ _
  refine R_S q135 1 (pc2 := 37) (ls2 := [vr 83, vi x1, vi x2, vn]) (st2 := [.ref 83]) rfl ?_
  refine R_call q135 rfl rfl rfl rfl rfl rfl h4 ?_
  show Rm E 135 40 [vr 83, vi x1, vi x2, vn] [.int c2] N1 _ _
  refine R_S q135 7 (pc2 := 49) (ls2 := [vr 83, vi x1, vi x2, vn]) (st2 := [.int ((4 * x2) + 3), .ref 95, .int c2]) rfl ?_
  refine R_ial q135 rfl rfl h5 ?_
  show Rm E 135 50 [vr 83, vi x1, vi x2, vn] [.int (N1.1 95 ((4 * x2) + 3).toNatClampNeg), .int c2] N1 _ _
  refine R_icf q135 rfl (decide_eq_false h6) ?_
  show Rm E 135 53 [vr 83, vi x1, vi x2, vn] [] N1 _ _
  refine R_S q135 2 (pc2 := 55) (ls2 := [vr 83, vi x1, vi x2, vi 0]) (st2 := []) rfl ?_
  exact k
-- 57+
theorem b135_55_0 {E : env} {M : mem} {rv : Option Value} {M2 : mem} {x1 x2 x3 : Int32}  (h0 : 4 ≤ x3) (k : Rm E 135 4 [vr 83, vi (x1 + 1), vi (x2 + 1), vn] [] M rv M2) : Rm E 135 55 [vr 83, vi x1, vi x2, vi x3] [] M rv M2 := by
  refine R_S q135 2 (pc2 := 57) (ls2 := [vr 83, vi x1, vi x2, vi x3]) (st2 := [.int 4, .int x3]) rfl ?_
  refine R_ict q135 rfl (decide_eq_true h0) ?_
  show Rm E 135 86 [vr 83, vi x1, vi x2, vi x3] [] M _ _
  refine R_S q135 3 (pc2 := 4) (ls2 := [vr 83, vi (x1 + 1), vi (x2 + 1), vi x3]) (st2 := []) rfl ?_
  exact R_w (ls := [vr 83, vi (x1 + 1), vi (x2 + 1), vn]) (show lsle _ _ from ⟨rfl, ⟨rfl, ⟨rfl, trivial⟩⟩⟩) k
-- 57-
theorem b135_55_1 {E : env} {M : mem} {rv : Option Value} {M2 : mem} {x1 x2 x3 : Int32} {N1 : mem} (h0 : ¬ (4 ≤ x3)) (h1 : inR ((4 * x2) + x3) 48) (h2 : inR ((4 * x1) + x3) 48) (eN1 : N1 = upM M 95 (((4 * x1) + x3).toNatClampNeg) (M.1 95 ((4 * x2) + x3).toNatClampNeg)) (k : Rm E 135 55 [vr 83, vi x1, vi x2, vi (x3 + 1)] [] N1 rv M2) : Rm E 135 55 [vr 83, vi x1, vi x2, vi x3] [] M rv M2 := by
  refine R_S q135 2 (pc2 := 57) (ls2 := [vr 83, vi x1, vi x2, vi x3]) (st2 := [.int 4, .int x3]) rfl ?_
  refine R_icf q135 rfl (decide_eq_false h0) ?_
  show Rm E 135 60 [vr 83, vi x1, vi x2, vi x3] [] M _ _
  refine R_S q135 14 (pc2 := 78) (ls2 := [vr 83, vi x1, vi x2, vi x3]) (st2 := [.int ((4 * x2) + x3), .ref 95, .int ((4 * x1) + x3), .ref 95]) rfl ?_
  refine R_ial q135 rfl rfl h1 ?_
  show Rm E 135 79 [vr 83, vi x1, vi x2, vi x3] [.int (M.1 95 ((4 * x2) + x3).toNatClampNeg), .int ((4 * x1) + x3), .ref 95] M _ _
  refine R_ias q135 rfl rfl h2 eN1 ?_
  show Rm E 135 80 [vr 83, vi x1, vi x2, vi x3] [] N1 _ _
  refine R_S q135 2 (pc2 := 55) (ls2 := [vr 83, vi x1, vi x2, vi (x3 + 1)]) (st2 := []) rfl ?_
  exact k
-- 136 HeavyChainsModel.waits(I)I  cuts [0]
theorem q136 : cdOf 136 = some mt136 := rfl
-- 2+ 9+ 24+
theorem b136_0_0 {E : env} {M : mem} {x1 : Int32}  (h0 : (-1) ≤ x1) (h1 : ¬ x1 = (-1)) (h2 : M.1 83 20 ≤ x1) : Rm E 136 0 [vr 83, vi x1] [] M (some (.int (-4))) M := by
  refine R_S q136 2 (pc2 := 2) (ls2 := [vr 83, vi x1]) (st2 := [.int (-1), .int x1]) rfl ?_
  refine R_ict q136 rfl (decide_eq_true h0) ?_
  show Rm E 136 7 [vr 83, vi x1] [] M _ _
  refine R_S q136 2 (pc2 := 9) (ls2 := [vr 83, vi x1]) (st2 := [.int (-1), .int x1]) rfl ?_
  refine R_ict q136 rfl (decide_eq_true h1) ?_
  show Rm E 136 19 [vr 83, vi x1] [] M _ _
  refine R_S q136 3 (pc2 := 24) (ls2 := [vr 83, vi x1]) (st2 := [.int (M.1 83 20), .int x1]) rfl ?_
  refine R_ict q136 rfl (decide_eq_true h2) ?_
  show Rm E 136 38 [vr 83, vi x1] [] M _ _
  refine R_S q136 1 (pc2 := 40) (ls2 := [vr 83, vi x1]) (st2 := [.int (-4)]) rfl ?_
  exact R_ret rfl q136 rfl rfl rfl rfl (stpR_i rfl rfl)
-- 2+ 9+ 24-
theorem b136_0_1 {E : env} {M : mem} {x1 : Int32}  (h0 : (-1) ≤ x1) (h1 : ¬ x1 = (-1)) (h2 : ¬ (M.1 83 20 ≤ x1)) (h3 : inR (4 * x1) 48) : Rm E 136 0 [vr 83, vi x1] [] M (some (.int (M.1 95 (4 * x1).toNatClampNeg))) M := by
  refine R_S q136 2 (pc2 := 2) (ls2 := [vr 83, vi x1]) (st2 := [.int (-1), .int x1]) rfl ?_
  refine R_ict q136 rfl (decide_eq_true h0) ?_
  show Rm E 136 7 [vr 83, vi x1] [] M _ _
  refine R_S q136 2 (pc2 := 9) (ls2 := [vr 83, vi x1]) (st2 := [.int (-1), .int x1]) rfl ?_
  refine R_ict q136 rfl (decide_eq_true h1) ?_
  show Rm E 136 19 [vr 83, vi x1] [] M _ _
  refine R_S q136 3 (pc2 := 24) (ls2 := [vr 83, vi x1]) (st2 := [.int (M.1 83 20), .int x1]) rfl ?_
  refine R_icf q136 rfl (decide_eq_false h2) ?_
  show Rm E 136 27 [vr 83, vi x1] [] M _ _
  refine R_S q136 5 (pc2 := 34) (ls2 := [vr 83, vi x1]) (st2 := [.int (4 * x1), .ref 95]) rfl ?_
  refine R_ial q136 rfl rfl h3 ?_
  show Rm E 136 35 [vr 83, vi x1] [.int (M.1 95 (4 * x1).toNatClampNeg)] M _ _
  refine R_S q136 1 (pc2 := 40) (ls2 := [vr 83, vi x1]) (st2 := [.int (M.1 95 (4 * x1).toNatClampNeg)]) rfl ?_
  exact R_ret rfl q136 rfl rfl rfl rfl (stpR_i rfl rfl)
-- 2+ 9-
theorem b136_0_2 {E : env} {M : mem} {x1 : Int32}  (h0 : (-1) ≤ x1) (h1 : ¬ (¬ x1 = (-1))) : Rm E 136 0 [vr 83, vi x1] [] M (some (.int (M.1 83 20))) M := by
  refine R_S q136 2 (pc2 := 2) (ls2 := [vr 83, vi x1]) (st2 := [.int (-1), .int x1]) rfl ?_
  refine R_ict q136 rfl (decide_eq_true h0) ?_
  show Rm E 136 7 [vr 83, vi x1] [] M _ _
  refine R_S q136 2 (pc2 := 9) (ls2 := [vr 83, vi x1]) (st2 := [.int (-1), .int x1]) rfl ?_
  refine R_icf q136 rfl (decide_eq_false h1) ?_
  show Rm E 136 12 [vr 83, vi x1] [] M _ _
  refine R_S q136 3 (pc2 := 40) (ls2 := [vr 83, vi x1]) (st2 := [.int (M.1 83 20)]) rfl ?_
  exact R_ret rfl q136 rfl rfl rfl rfl (stpR_i rfl rfl)
-- 2-
theorem b136_0_3 {E : env} {M : mem} {x1 : Int32}  (h0 : ¬ ((-1) ≤ x1)) : Rm E 136 0 [vr 83, vi x1] [] M (some (.int (-1))) M := by
  refine R_S q136 2 (pc2 := 2) (ls2 := [vr 83, vi x1]) (st2 := [.int (-1), .int x1]) rfl ?_
  refine R_icf q136 rfl (decide_eq_false h0) ?_
  show Rm E 136 5 [vr 83, vi x1] [] M _ _
  refine R_S q136 1 (pc2 := 6) (ls2 := [vr 83, vi x1]) (st2 := [.int (-1)]) rfl ?_
  exact R_ret rfl q136 rfl rfl rfl rfl (stpR_i rfl rfl)
-- 137 HeavyChainsModel.mostOf(ZI)I  cuts [0, 13, 26]
theorem q137 : cdOf 137 = some mt137 := rfl
-- 
theorem b137_0_0 {E : env} {M : mem} {rv : Option Value} {M2 : mem} {x1 x2 : Int32}  (k : Rm E 137 13 [vr 83, vi x1, vi x2, vi (-4), vi (-4), vi 0, vi 0, vn, vn, vn] [] M rv M2) : Rm E 137 0 [vr 83, vi x1, vi x2, vn, vn, vn, vn, vn, vn, vn] [] M rv M2 := by
  refine R_S q137 8 (pc2 := 13) (ls2 := [vr 83, vi x1, vi x2, vi (-4), vi (-4), vi 0, vi 0, vn, vn, vn]) (st2 := []) rfl ?_
  exact k
-- 19+ 133+ 142+
theorem b137_13_0 {E : env} {M : mem} {x1 x2 x3 x4 x5 x6 : Int32}  (h0 : M.1 83 1 ≤ x6) (h1 : ¬ x2 = 0) (h2 : ¬ x2 = 1) : Rm E 137 13 [vr 83, vi x1, vi x2, vi x3, vi x4, vi x5, vi x6, vn, vn, vn] [] M (some (.int x5)) M := by
  refine R_S q137 3 (pc2 := 19) (ls2 := [vr 83, vi x1, vi x2, vi x3, vi x4, vi x5, vi x6, vn, vn, vn]) (st2 := [.int (M.1 83 1), .int x6]) rfl ?_
  refine R_ict q137 rfl (decide_eq_true h0) ?_
  show Rm E 137 132 [vr 83, vi x1, vi x2, vi x3, vi x4, vi x5, vi x6, vn, vn, vn] [] M _ _
  refine R_S q137 1 (pc2 := 133) (ls2 := [vr 83, vi x1, vi x2, vi x3, vi x4, vi x5, vi x6, vn, vn, vn]) (st2 := [.int x2]) rfl ?_
  refine R_ift q137 rfl (decide_eq_true h1) ?_
  show Rm E 137 140 [vr 83, vi x1, vi x2, vi x3, vi x4, vi x5, vi x6, vn, vn, vn] [] M _ _
  refine R_S q137 2 (pc2 := 142) (ls2 := [vr 83, vi x1, vi x2, vi x3, vi x4, vi x5, vi x6, vn, vn, vn]) (st2 := [.int 1, .int x2]) rfl ?_
  refine R_ict q137 rfl (decide_eq_true h2) ?_
  show Rm E 137 150 [vr 83, vi x1, vi x2, vi x3, vi x4, vi x5, vi x6, vn, vn, vn] [] M _ _
  refine R_S q137 1 (pc2 := 152) (ls2 := [vr 83, vi x1, vi x2, vi x3, vi x4, vi x5, vi x6, vn, vn, vn]) (st2 := [.int x5]) rfl ?_
  exact R_ret rfl q137 rfl rfl rfl rfl (stpR_i rfl rfl)
-- 19+ 133+ 142-
theorem b137_13_1 {E : env} {M : mem} {x1 x2 x3 x4 x5 x6 : Int32}  (h0 : M.1 83 1 ≤ x6) (h1 : ¬ x2 = 0) (h2 : ¬ (¬ x2 = 1)) : Rm E 137 13 [vr 83, vi x1, vi x2, vi x3, vi x4, vi x5, vi x6, vn, vn, vn] [] M (some (.int x4)) M := by
  refine R_S q137 3 (pc2 := 19) (ls2 := [vr 83, vi x1, vi x2, vi x3, vi x4, vi x5, vi x6, vn, vn, vn]) (st2 := [.int (M.1 83 1), .int x6]) rfl ?_
  refine R_ict q137 rfl (decide_eq_true h0) ?_
  show Rm E 137 132 [vr 83, vi x1, vi x2, vi x3, vi x4, vi x5, vi x6, vn, vn, vn] [] M _ _
  refine R_S q137 1 (pc2 := 133) (ls2 := [vr 83, vi x1, vi x2, vi x3, vi x4, vi x5, vi x6, vn, vn, vn]) (st2 := [.int x2]) rfl ?_
  refine R_ift q137 rfl (decide_eq_true h1) ?_
  show Rm E 137 140 [vr 83, vi x1, vi x2, vi x3, vi x4, vi x5, vi x6, vn, vn, vn] [] M _ _
  refine R_S q137 2 (pc2 := 142) (ls2 := [vr 83, vi x1, vi x2, vi x3, vi x4, vi x5, vi x6, vn, vn, vn]) (st2 := [.int 1, .int x2]) rfl ?_
  refine R_icf q137 rfl (decide_eq_false h2) ?_
  show Rm E 137 145 [vr 83, vi x1, vi x2, vi x3, vi x4, vi x5, vi x6, vn, vn, vn] [] M _ _
  refine R_S q137 2 (pc2 := 152) (ls2 := [vr 83, vi x1, vi x2, vi x3, vi x4, vi x5, vi x6, vn, vn, vn]) (st2 := [.int x4]) rfl ?_
  exact R_ret rfl q137 rfl rfl rfl rfl (stpR_i rfl rfl)
-- 19+ 133-
theorem b137_13_2 {E : env} {M : mem} {x1 x2 x3 x4 x5 x6 : Int32}  (h0 : M.1 83 1 ≤ x6) (h1 : ¬ (¬ x2 = 0)) : Rm E 137 13 [vr 83, vi x1, vi x2, vi x3, vi x4, vi x5, vi x6, vn, vn, vn] [] M (some (.int x3)) M := by
  refine R_S q137 3 (pc2 := 19) (ls2 := [vr 83, vi x1, vi x2, vi x3, vi x4, vi x5, vi x6, vn, vn, vn]) (st2 := [.int (M.1 83 1), .int x6]) rfl ?_
  refine R_ict q137 rfl (decide_eq_true h0) ?_
  show Rm E 137 132 [vr 83, vi x1, vi x2, vi x3, vi x4, vi x5, vi x6, vn, vn, vn] [] M _ _
  refine R_S q137 1 (pc2 := 133) (ls2 := [vr 83, vi x1, vi x2, vi x3, vi x4, vi x5, vi x6, vn, vn, vn]) (st2 := [.int x2]) rfl ?_
  refine R_iff q137 rfl (decide_eq_false h1) ?_
  show Rm E 137 136 [vr 83, vi x1, vi x2, vi x3, vi x4, vi x5, vi x6, vn, vn, vn] [] M _ _
  refine R_S q137 2 (pc2 := 152) (ls2 := [vr 83, vi x1, vi x2, vi x3, vi x4, vi x5, vi x6, vn, vn, vn]) (st2 := [.int x3]) rfl ?_
  exact R_ret rfl q137 rfl rfl rfl rfl (stpR_i rfl rfl)
-- 19-
theorem b137_13_3 {E : env} {M : mem} {rv : Option Value} {M2 : mem} {x1 x2 x3 x4 x5 x6 : Int32}  (h0 : ¬ (M.1 83 1 ≤ x6)) (k : Rm E 137 26 [vr 83, vi x1, vi x2, vi x3, vi x4, vi x5, vi x6, vi x6, vn, vn] [] M rv M2) : Rm E 137 13 [vr 83, vi x1, vi x2, vi x3, vi x4, vi x5, vi x6, vn, vn, vn] [] M rv M2 := by
  refine R_S q137 3 (pc2 := 19) (ls2 := [vr 83, vi x1, vi x2, vi x3, vi x4, vi x5, vi x6, vn, vn, vn]) (st2 := [.int (M.1 83 1), .int x6]) rfl ?_
  refine R_icf q137 rfl (decide_eq_false h0) ?_
  show Rm E 137 22 [vr 83, vi x1, vi x2, vi x3, vi x4, vi x5, vi x6, vn, vn, vn] [] M _ _
  refine R_S q137 2 (pc2 := 26) (ls2 := [vr 83, vi x1, vi x2, vi x3, vi x4, vi x5, vi x6, vi x6, vn, vn]) (st2 := []) rfl ?_
  exact k
-- 32+
theorem b137_26_0 {E : env} {M : mem} {rv : Option Value} {M2 : mem} {x1 x2 x3 x4 x5 x6 x7 : Int32}  (h0 : M.1 83 1 ≤ x7) (k : Rm E 137 13 [vr 83, vi x1, vi x2, vi x3, vi x4, vi x5, vi (x6 + 1), vn, vn, vn] [] M rv M2) : Rm E 137 26 [vr 83, vi x1, vi x2, vi x3, vi x4, vi x5, vi x6, vi x7, vn, vn] [] M rv M2 := by
  refine R_S q137 3 (pc2 := 32) (ls2 := [vr 83, vi x1, vi x2, vi x3, vi x4, vi x5, vi x6, vi x7, vn, vn]) (st2 := [.int (M.1 83 1), .int x7]) rfl ?_
  refine R_ict q137 rfl (decide_eq_true h0) ?_
  show Rm E 137 126 [vr 83, vi x1, vi x2, vi x3, vi x4, vi x5, vi x6, vi x7, vn, vn] [] M _ _
  refine R_S q137 2 (pc2 := 13) (ls2 := [vr 83, vi x1, vi x2, vi x3, vi x4, vi x5, vi (x6 + 1), vi x7, vn, vn]) (st2 := []) rfl ?_
  exact R_w (ls := [vr 83, vi x1, vi x2, vi x3, vi x4, vi x5, vi (x6 + 1), vn, vn, vn]) (show lsle _ _ from ⟨rfl, ⟨rfl, ⟨rfl, ⟨rfl, ⟨rfl, ⟨rfl, ⟨rfl, trivial⟩⟩⟩⟩⟩⟩⟩) k
-- 32- call X10_lays 44+ 63+
theorem b137_26_1 {E : env} {M : mem} {rv : Option Value} {M2 : mem} {x1 x2 x3 x4 x5 x6 x7 : Int32} {N1 : mem} (h0 : ¬ (M.1 83 1 ≤ x7)) (h1 : Rm E 105 0 [vr 83, vi x6, vi x7, vn, vn, vn, vn] [] M none N1) (h2 : x1 = 0) (h3 : x3 = (-4)) (k : Rm E 137 26 [vr 83, vi x1, vi x2, vi x6, vi x7, vi (N1.1 83 14), vi x6, vi (x7 + 1), vn, vn] [] N1 rv M2) : Rm E 137 26 [vr 83, vi x1, vi x2, vi x3, vi x4, vi x5, vi x6, vi x7, vn, vn] [] M rv M2 := by
  refine R_S q137 3 (pc2 := 32) (ls2 := [vr 83, vi x1, vi x2, vi x3, vi x4, vi x5, vi x6, vi x7, vn, vn]) (st2 := [.int (M.1 83 1), .int x7]) rfl ?_
  refine R_icf q137 rfl (decide_eq_false h0) ?_
  show Rm E 137 35 [vr 83, vi x1, vi x2, vi x3, vi x4, vi x5, vi x6, vi x7, vn, vn] [] M _ _
  refine R_S q137 3 (pc2 := 40) (ls2 := [vr 83, vi x1, vi x2, vi x3, vi x4, vi x5, vi x6, vi x7, vn, vn]) (st2 := [.int x7, .int x6, .ref 83]) rfl ?_
  refine R_call q137 rfl rfl rfl rfl rfl rfl h1 ?_
  show Rm E 137 43 [vr 83, vi x1, vi x2, vi x3, vi x4, vi x5, vi x6, vi x7, vn, vn] [] N1 _ _
  refine R_S q137 1 (pc2 := 44) (ls2 := [vr 83, vi x1, vi x2, vi x3, vi x4, vi x5, vi x6, vi x7, vn, vn]) (st2 := [.int x1]) rfl ?_
  refine R_ift q137 rfl (decide_eq_true h2) ?_
  show Rm E 137 54 [vr 83, vi x1, vi x2, vi x3, vi x4, vi x5, vi x6, vi x7, vn, vn] [] N1 _ _
  refine R_S q137 5 (pc2 := 63) (ls2 := [vr 83, vi x1, vi x2, vi x3, vi x4, vi x5, vi x6, vi x7, vi (N1.1 83 14), vn]) (st2 := [.int (-4), .int x3]) rfl ?_
  refine R_ict q137 rfl (decide_eq_true h3) ?_
  show Rm E 137 73 [vr 83, vi x1, vi x2, vi x3, vi x4, vi x5, vi x6, vi x7, vi (N1.1 83 14), vn] [] N1 _ _
  refine R_S q137 20 (pc2 := 26) (ls2 := [vr 83, vi x1, vi x2, vi x6, vi x7, vi (N1.1 83 14), vi x6, vi (x7 + 1), vi (N1.1 83 14), vi 1]) (st2 := []) rfl ?_
  exact R_w (ls := [vr 83, vi x1, vi x2, vi x6, vi x7, vi (N1.1 83 14), vi x6, vi (x7 + 1), vn, vn]) (show lsle _ _ from ⟨rfl, ⟨rfl, ⟨rfl, ⟨rfl, ⟨rfl, ⟨rfl, ⟨rfl, ⟨rfl, trivial⟩⟩⟩⟩⟩⟩⟩⟩) k
-- 32- call X10_lays 44+ 63- 70+
theorem b137_26_2 {E : env} {M : mem} {rv : Option Value} {M2 : mem} {x1 x2 x3 x4 x5 x6 x7 : Int32} {N1 : mem} (h0 : ¬ (M.1 83 1 ≤ x7)) (h1 : Rm E 105 0 [vr 83, vi x6, vi x7, vn, vn, vn, vn] [] M none N1) (h2 : x1 = 0) (h3 : ¬ (x3 = (-4))) (h4 : N1.1 83 14 ≤ x5) (k : Rm E 137 26 [vr 83, vi x1, vi x2, vi x3, vi x4, vi x5, vi x6, vi (x7 + 1), vn, vn] [] N1 rv M2) : Rm E 137 26 [vr 83, vi x1, vi x2, vi x3, vi x4, vi x5, vi x6, vi x7, vn, vn] [] M rv M2 := by
  refine R_S q137 3 (pc2 := 32) (ls2 := [vr 83, vi x1, vi x2, vi x3, vi x4, vi x5, vi x6, vi x7, vn, vn]) (st2 := [.int (M.1 83 1), .int x7]) rfl ?_
  refine R_icf q137 rfl (decide_eq_false h0) ?_
  show Rm E 137 35 [vr 83, vi x1, vi x2, vi x3, vi x4, vi x5, vi x6, vi x7, vn, vn] [] M _ _
  refine R_S q137 3 (pc2 := 40) (ls2 := [vr 83, vi x1, vi x2, vi x3, vi x4, vi x5, vi x6, vi x7, vn, vn]) (st2 := [.int x7, .int x6, .ref 83]) rfl ?_
  refine R_call q137 rfl rfl rfl rfl rfl rfl h1 ?_
  show Rm E 137 43 [vr 83, vi x1, vi x2, vi x3, vi x4, vi x5, vi x6, vi x7, vn, vn] [] N1 _ _
  refine R_S q137 1 (pc2 := 44) (ls2 := [vr 83, vi x1, vi x2, vi x3, vi x4, vi x5, vi x6, vi x7, vn, vn]) (st2 := [.int x1]) rfl ?_
  refine R_ift q137 rfl (decide_eq_true h2) ?_
  show Rm E 137 54 [vr 83, vi x1, vi x2, vi x3, vi x4, vi x5, vi x6, vi x7, vn, vn] [] N1 _ _
  refine R_S q137 5 (pc2 := 63) (ls2 := [vr 83, vi x1, vi x2, vi x3, vi x4, vi x5, vi x6, vi x7, vi (N1.1 83 14), vn]) (st2 := [.int (-4), .int x3]) rfl ?_
  refine R_icf q137 rfl (decide_eq_false h3) ?_
  show Rm E 137 66 [vr 83, vi x1, vi x2, vi x3, vi x4, vi x5, vi x6, vi x7, vi (N1.1 83 14), vn] [] N1 _ _
  refine R_S q137 2 (pc2 := 70) (ls2 := [vr 83, vi x1, vi x2, vi x3, vi x4, vi x5, vi x6, vi x7, vi (N1.1 83 14), vn]) (st2 := [.int x5, .int (N1.1 83 14)]) rfl ?_
  refine R_ict q137 rfl (decide_eq_true h4) ?_
  show Rm E 137 77 [vr 83, vi x1, vi x2, vi x3, vi x4, vi x5, vi x6, vi x7, vi (N1.1 83 14), vn] [] N1 _ _
  refine R_S q137 16 (pc2 := 26) (ls2 := [vr 83, vi x1, vi x2, vi x3, vi x4, vi x5, vi x6, vi (x7 + 1), vi (N1.1 83 14), vi 0]) (st2 := []) rfl ?_
  exact R_w (ls := [vr 83, vi x1, vi x2, vi x3, vi x4, vi x5, vi x6, vi (x7 + 1), vn, vn]) (show lsle _ _ from ⟨rfl, ⟨rfl, ⟨rfl, ⟨rfl, ⟨rfl, ⟨rfl, ⟨rfl, ⟨rfl, trivial⟩⟩⟩⟩⟩⟩⟩⟩) k
-- 32- call X10_lays 44+ 63- 70-
theorem b137_26_3 {E : env} {M : mem} {rv : Option Value} {M2 : mem} {x1 x2 x3 x4 x5 x6 x7 : Int32} {N1 : mem} (h0 : ¬ (M.1 83 1 ≤ x7)) (h1 : Rm E 105 0 [vr 83, vi x6, vi x7, vn, vn, vn, vn] [] M none N1) (h2 : x1 = 0) (h3 : ¬ (x3 = (-4))) (h4 : ¬ (N1.1 83 14 ≤ x5)) (k : Rm E 137 26 [vr 83, vi x1, vi x2, vi x6, vi x7, vi (N1.1 83 14), vi x6, vi (x7 + 1), vn, vn] [] N1 rv M2) : Rm E 137 26 [vr 83, vi x1, vi x2, vi x3, vi x4, vi x5, vi x6, vi x7, vn, vn] [] M rv M2 := by
  refine R_S q137 3 (pc2 := 32) (ls2 := [vr 83, vi x1, vi x2, vi x3, vi x4, vi x5, vi x6, vi x7, vn, vn]) (st2 := [.int (M.1 83 1), .int x7]) rfl ?_
  refine R_icf q137 rfl (decide_eq_false h0) ?_
  show Rm E 137 35 [vr 83, vi x1, vi x2, vi x3, vi x4, vi x5, vi x6, vi x7, vn, vn] [] M _ _
  refine R_S q137 3 (pc2 := 40) (ls2 := [vr 83, vi x1, vi x2, vi x3, vi x4, vi x5, vi x6, vi x7, vn, vn]) (st2 := [.int x7, .int x6, .ref 83]) rfl ?_
  refine R_call q137 rfl rfl rfl rfl rfl rfl h1 ?_
  show Rm E 137 43 [vr 83, vi x1, vi x2, vi x3, vi x4, vi x5, vi x6, vi x7, vn, vn] [] N1 _ _
  refine R_S q137 1 (pc2 := 44) (ls2 := [vr 83, vi x1, vi x2, vi x3, vi x4, vi x5, vi x6, vi x7, vn, vn]) (st2 := [.int x1]) rfl ?_
  refine R_ift q137 rfl (decide_eq_true h2) ?_
  show Rm E 137 54 [vr 83, vi x1, vi x2, vi x3, vi x4, vi x5, vi x6, vi x7, vn, vn] [] N1 _ _
  refine R_S q137 5 (pc2 := 63) (ls2 := [vr 83, vi x1, vi x2, vi x3, vi x4, vi x5, vi x6, vi x7, vi (N1.1 83 14), vn]) (st2 := [.int (-4), .int x3]) rfl ?_
  refine R_icf q137 rfl (decide_eq_false h3) ?_
  show Rm E 137 66 [vr 83, vi x1, vi x2, vi x3, vi x4, vi x5, vi x6, vi x7, vi (N1.1 83 14), vn] [] N1 _ _
  refine R_S q137 2 (pc2 := 70) (ls2 := [vr 83, vi x1, vi x2, vi x3, vi x4, vi x5, vi x6, vi x7, vi (N1.1 83 14), vn]) (st2 := [.int x5, .int (N1.1 83 14)]) rfl ?_
  refine R_icf q137 rfl (decide_eq_false h4) ?_
  show Rm E 137 73 [vr 83, vi x1, vi x2, vi x3, vi x4, vi x5, vi x6, vi x7, vi (N1.1 83 14), vn] [] N1 _ _
  refine R_S q137 20 (pc2 := 26) (ls2 := [vr 83, vi x1, vi x2, vi x6, vi x7, vi (N1.1 83 14), vi x6, vi (x7 + 1), vi (N1.1 83 14), vi 1]) (st2 := []) rfl ?_
  exact R_w (ls := [vr 83, vi x1, vi x2, vi x6, vi x7, vi (N1.1 83 14), vi x6, vi (x7 + 1), vn, vn]) (show lsle _ _ from ⟨rfl, ⟨rfl, ⟨rfl, ⟨rfl, ⟨rfl, ⟨rfl, ⟨rfl, ⟨rfl, trivial⟩⟩⟩⟩⟩⟩⟩⟩) k
-- 32- call X10_lays 44- call X10_sumOf 63+
theorem b137_26_4 {E : env} {M : mem} {rv : Option Value} {M2 : mem} {x1 x2 x3 x4 x5 x6 x7 : Int32} {N1 : mem} {c2 : Int32} (h0 : ¬ (M.1 83 1 ≤ x7)) (h1 : Rm E 105 0 [vr 83, vi x6, vi x7, vn, vn, vn, vn] [] M none N1) (h2 : ¬ (x1 = 0)) (h3 : Rm E 107 0 [vr 83, vn, vn] [] N1 (some (.int c2)) N1) (h4 : x3 = (-4)) (k : Rm E 137 26 [vr 83, vi x1, vi x2, vi x6, vi x7, vi c2, vi x6, vi (x7 + 1), vn, vn] [] N1 rv M2) : Rm E 137 26 [vr 83, vi x1, vi x2, vi x3, vi x4, vi x5, vi x6, vi x7, vn, vn] [] M rv M2 := by
  refine R_S q137 3 (pc2 := 32) (ls2 := [vr 83, vi x1, vi x2, vi x3, vi x4, vi x5, vi x6, vi x7, vn, vn]) (st2 := [.int (M.1 83 1), .int x7]) rfl ?_
  refine R_icf q137 rfl (decide_eq_false h0) ?_
  show Rm E 137 35 [vr 83, vi x1, vi x2, vi x3, vi x4, vi x5, vi x6, vi x7, vn, vn] [] M _ _
  refine R_S q137 3 (pc2 := 40) (ls2 := [vr 83, vi x1, vi x2, vi x3, vi x4, vi x5, vi x6, vi x7, vn, vn]) (st2 := [.int x7, .int x6, .ref 83]) rfl ?_
  refine R_call q137 rfl rfl rfl rfl rfl rfl h1 ?_
  show Rm E 137 43 [vr 83, vi x1, vi x2, vi x3, vi x4, vi x5, vi x6, vi x7, vn, vn] [] N1 _ _
  refine R_S q137 1 (pc2 := 44) (ls2 := [vr 83, vi x1, vi x2, vi x3, vi x4, vi x5, vi x6, vi x7, vn, vn]) (st2 := [.int x1]) rfl ?_
  refine R_iff q137 rfl (decide_eq_false h2) ?_
  show Rm E 137 47 [vr 83, vi x1, vi x2, vi x3, vi x4, vi x5, vi x6, vi x7, vn, vn] [] N1 _ _
  refine R_S q137 1 (pc2 := 48) (ls2 := [vr 83, vi x1, vi x2, vi x3, vi x4, vi x5, vi x6, vi x7, vn, vn]) (st2 := [.ref 83]) rfl ?_
  refine R_call q137 rfl rfl rfl rfl rfl rfl h3 ?_
  show Rm E 137 51 [vr 83, vi x1, vi x2, vi x3, vi x4, vi x5, vi x6, vi x7, vn, vn] [.int c2] N1 _ _
  refine R_S q137 4 (pc2 := 63) (ls2 := [vr 83, vi x1, vi x2, vi x3, vi x4, vi x5, vi x6, vi x7, vi c2, vn]) (st2 := [.int (-4), .int x3]) rfl ?_
  refine R_ict q137 rfl (decide_eq_true h4) ?_
  show Rm E 137 73 [vr 83, vi x1, vi x2, vi x3, vi x4, vi x5, vi x6, vi x7, vi c2, vn] [] N1 _ _
  refine R_S q137 20 (pc2 := 26) (ls2 := [vr 83, vi x1, vi x2, vi x6, vi x7, vi c2, vi x6, vi (x7 + 1), vi c2, vi 1]) (st2 := []) rfl ?_
  exact R_w (ls := [vr 83, vi x1, vi x2, vi x6, vi x7, vi c2, vi x6, vi (x7 + 1), vn, vn]) (show lsle _ _ from ⟨rfl, ⟨rfl, ⟨rfl, ⟨rfl, ⟨rfl, ⟨rfl, ⟨rfl, ⟨rfl, trivial⟩⟩⟩⟩⟩⟩⟩⟩) k
-- 32- call X10_lays 44- call X10_sumOf 63- 70+
theorem b137_26_5 {E : env} {M : mem} {rv : Option Value} {M2 : mem} {x1 x2 x3 x4 x5 x6 x7 : Int32} {N1 : mem} {c2 : Int32} (h0 : ¬ (M.1 83 1 ≤ x7)) (h1 : Rm E 105 0 [vr 83, vi x6, vi x7, vn, vn, vn, vn] [] M none N1) (h2 : ¬ (x1 = 0)) (h3 : Rm E 107 0 [vr 83, vn, vn] [] N1 (some (.int c2)) N1) (h4 : ¬ (x3 = (-4))) (h5 : c2 ≤ x5) (k : Rm E 137 26 [vr 83, vi x1, vi x2, vi x3, vi x4, vi x5, vi x6, vi (x7 + 1), vn, vn] [] N1 rv M2) : Rm E 137 26 [vr 83, vi x1, vi x2, vi x3, vi x4, vi x5, vi x6, vi x7, vn, vn] [] M rv M2 := by
  refine R_S q137 3 (pc2 := 32) (ls2 := [vr 83, vi x1, vi x2, vi x3, vi x4, vi x5, vi x6, vi x7, vn, vn]) (st2 := [.int (M.1 83 1), .int x7]) rfl ?_
  refine R_icf q137 rfl (decide_eq_false h0) ?_
  show Rm E 137 35 [vr 83, vi x1, vi x2, vi x3, vi x4, vi x5, vi x6, vi x7, vn, vn] [] M _ _
  refine R_S q137 3 (pc2 := 40) (ls2 := [vr 83, vi x1, vi x2, vi x3, vi x4, vi x5, vi x6, vi x7, vn, vn]) (st2 := [.int x7, .int x6, .ref 83]) rfl ?_
  refine R_call q137 rfl rfl rfl rfl rfl rfl h1 ?_
  show Rm E 137 43 [vr 83, vi x1, vi x2, vi x3, vi x4, vi x5, vi x6, vi x7, vn, vn] [] N1 _ _
  refine R_S q137 1 (pc2 := 44) (ls2 := [vr 83, vi x1, vi x2, vi x3, vi x4, vi x5, vi x6, vi x7, vn, vn]) (st2 := [.int x1]) rfl ?_
  refine R_iff q137 rfl (decide_eq_false h2) ?_
  show Rm E 137 47 [vr 83, vi x1, vi x2, vi x3, vi x4, vi x5, vi x6, vi x7, vn, vn] [] N1 _ _
  refine R_S q137 1 (pc2 := 48) (ls2 := [vr 83, vi x1, vi x2, vi x3, vi x4, vi x5, vi x6, vi x7, vn, vn]) (st2 := [.ref 83]) rfl ?_
  refine R_call q137 rfl rfl rfl rfl rfl rfl h3 ?_
  show Rm E 137 51 [vr 83, vi x1, vi x2, vi x3, vi x4, vi x5, vi x6, vi x7, vn, vn] [.int c2] N1 _ _
  refine R_S q137 4 (pc2 := 63) (ls2 := [vr 83, vi x1, vi x2, vi x3, vi x4, vi x5, vi x6, vi x7, vi c2, vn]) (st2 := [.int (-4), .int x3]) rfl ?_
  refine R_icf q137 rfl (decide_eq_false h4) ?_
  show Rm E 137 66 [vr 83, vi x1, vi x2, vi x3, vi x4, vi x5, vi x6, vi x7, vi c2, vn] [] N1 _ _
  refine R_S q137 2 (pc2 := 70) (ls2 := [vr 83, vi x1, vi x2, vi x3, vi x4, vi x5, vi x6, vi x7, vi c2, vn]) (st2 := [.int x5, .int c2]) rfl ?_
  refine R_ict q137 rfl (decide_eq_true h5) ?_
  show Rm E 137 77 [vr 83, vi x1, vi x2, vi x3, vi x4, vi x5, vi x6, vi x7, vi c2, vn] [] N1 _ _
  refine R_S q137 16 (pc2 := 26) (ls2 := [vr 83, vi x1, vi x2, vi x3, vi x4, vi x5, vi x6, vi (x7 + 1), vi c2, vi 0]) (st2 := []) rfl ?_
  exact R_w (ls := [vr 83, vi x1, vi x2, vi x3, vi x4, vi x5, vi x6, vi (x7 + 1), vn, vn]) (show lsle _ _ from ⟨rfl, ⟨rfl, ⟨rfl, ⟨rfl, ⟨rfl, ⟨rfl, ⟨rfl, ⟨rfl, trivial⟩⟩⟩⟩⟩⟩⟩⟩) k
-- 32- call X10_lays 44- call X10_sumOf 63- 70-
theorem b137_26_6 {E : env} {M : mem} {rv : Option Value} {M2 : mem} {x1 x2 x3 x4 x5 x6 x7 : Int32} {N1 : mem} {c2 : Int32} (h0 : ¬ (M.1 83 1 ≤ x7)) (h1 : Rm E 105 0 [vr 83, vi x6, vi x7, vn, vn, vn, vn] [] M none N1) (h2 : ¬ (x1 = 0)) (h3 : Rm E 107 0 [vr 83, vn, vn] [] N1 (some (.int c2)) N1) (h4 : ¬ (x3 = (-4))) (h5 : ¬ (c2 ≤ x5)) (k : Rm E 137 26 [vr 83, vi x1, vi x2, vi x6, vi x7, vi c2, vi x6, vi (x7 + 1), vn, vn] [] N1 rv M2) : Rm E 137 26 [vr 83, vi x1, vi x2, vi x3, vi x4, vi x5, vi x6, vi x7, vn, vn] [] M rv M2 := by
  refine R_S q137 3 (pc2 := 32) (ls2 := [vr 83, vi x1, vi x2, vi x3, vi x4, vi x5, vi x6, vi x7, vn, vn]) (st2 := [.int (M.1 83 1), .int x7]) rfl ?_
  refine R_icf q137 rfl (decide_eq_false h0) ?_
  show Rm E 137 35 [vr 83, vi x1, vi x2, vi x3, vi x4, vi x5, vi x6, vi x7, vn, vn] [] M _ _
  refine R_S q137 3 (pc2 := 40) (ls2 := [vr 83, vi x1, vi x2, vi x3, vi x4, vi x5, vi x6, vi x7, vn, vn]) (st2 := [.int x7, .int x6, .ref 83]) rfl ?_
  refine R_call q137 rfl rfl rfl rfl rfl rfl h1 ?_
  show Rm E 137 43 [vr 83, vi x1, vi x2, vi x3, vi x4, vi x5, vi x6, vi x7, vn, vn] [] N1 _ _
  refine R_S q137 1 (pc2 := 44) (ls2 := [vr 83, vi x1, vi x2, vi x3, vi x4, vi x5, vi x6, vi x7, vn, vn]) (st2 := [.int x1]) rfl ?_
  refine R_iff q137 rfl (decide_eq_false h2) ?_
  show Rm E 137 47 [vr 83, vi x1, vi x2, vi x3, vi x4, vi x5, vi x6, vi x7, vn, vn] [] N1 _ _
  refine R_S q137 1 (pc2 := 48) (ls2 := [vr 83, vi x1, vi x2, vi x3, vi x4, vi x5, vi x6, vi x7, vn, vn]) (st2 := [.ref 83]) rfl ?_
  refine R_call q137 rfl rfl rfl rfl rfl rfl h3 ?_
  show Rm E 137 51 [vr 83, vi x1, vi x2, vi x3, vi x4, vi x5, vi x6, vi x7, vn, vn] [.int c2] N1 _ _
  refine R_S q137 4 (pc2 := 63) (ls2 := [vr 83, vi x1, vi x2, vi x3, vi x4, vi x5, vi x6, vi x7, vi c2, vn]) (st2 := [.int (-4), .int x3]) rfl ?_
  refine R_icf q137 rfl (decide_eq_false h4) ?_
  show Rm E 137 66 [vr 83, vi x1, vi x2, vi x3, vi x4, vi x5, vi x6, vi x7, vi c2, vn] [] N1 _ _
  refine R_S q137 2 (pc2 := 70) (ls2 := [vr 83, vi x1, vi x2, vi x3, vi x4, vi x5, vi x6, vi x7, vi c2, vn]) (st2 := [.int x5, .int c2]) rfl ?_
  refine R_icf q137 rfl (decide_eq_false h5) ?_
  show Rm E 137 73 [vr 83, vi x1, vi x2, vi x3, vi x4, vi x5, vi x6, vi x7, vi c2, vn] [] N1 _ _
  refine R_S q137 20 (pc2 := 26) (ls2 := [vr 83, vi x1, vi x2, vi x6, vi x7, vi c2, vi x6, vi (x7 + 1), vi c2, vi 1]) (st2 := []) rfl ?_
  exact R_w (ls := [vr 83, vi x1, vi x2, vi x6, vi x7, vi c2, vi x6, vi (x7 + 1), vn, vn]) (show lsle _ _ from ⟨rfl, ⟨rfl, ⟨rfl, ⟨rfl, ⟨rfl, ⟨rfl, ⟨rfl, ⟨rfl, trivial⟩⟩⟩⟩⟩⟩⟩⟩) k
-- 138 HeavyChainsModel.richest(I)I  cuts [0]
theorem q138 : cdOf 138 = some mt138 := rfl
-- call X10_in 9+ call X10_mostOf 22+
theorem b138_0_0 {E : env} {M : mem} {x1 : Int32} {c1 : Int32} {c2 : Int32} {N1 : mem} (h0 : Rm E 88 0 [vl (((x1 : Int32)).toInt64), vn, vl 0, vn, vl 2, vn] [] M (some (.int c1)) M) (h1 : ¬ c1 = 0) (h2 : Rm E 137 0 [vr 83, vi 1, vi x1, vn, vn, vn, vn, vn, vn, vn] [] M (some (.int c2)) N1) (h3 : ¬ x1 = 2) : Rm E 138 0 [vr 83, vi x1] [] M (some (.int (c2 + 0))) N1 := by
  refine R_S q138 4 (pc2 := 6) (ls2 := [vr 83, vi x1]) (st2 := [.long 2, .long 0, .long (((x1 : Int32)).toInt64)]) rfl ?_
  refine R_call q138 rfl rfl rfl rfl rfl rfl h0 ?_
  show Rm E 138 9 [vr 83, vi x1] [.int c1] M _ _
  refine R_ift q138 rfl (decide_eq_true h1) ?_
  show Rm E 138 14 [vr 83, vi x1] [] M _ _
  refine R_S q138 3 (pc2 := 17) (ls2 := [vr 83, vi x1]) (st2 := [.int x1, .int 1, .ref 83]) rfl ?_
  refine R_call q138 rfl rfl rfl rfl rfl rfl h2 ?_
  show Rm E 138 20 [vr 83, vi x1] [.int c2] N1 _ _
  refine R_S q138 2 (pc2 := 22) (ls2 := [vr 83, vi x1]) (st2 := [.int 2, .int x1, .int c2]) rfl ?_
  refine R_ict q138 rfl (decide_eq_true h3) ?_
  show Rm E 138 30 [vr 83, vi x1] [.int c2] N1 _ _
  refine R_S q138 2 (pc2 := 32) (ls2 := [vr 83, vi x1]) (st2 := [.int (c2 + 0)]) rfl ?_
  exact R_ret rfl q138 rfl rfl rfl rfl (stpR_i rfl rfl)
-- call X10_in 9+ call X10_mostOf 22-
theorem b138_0_1 {E : env} {M : mem} {x1 : Int32} {c1 : Int32} {c2 : Int32} {N1 : mem} (h0 : Rm E 88 0 [vl (((x1 : Int32)).toInt64), vn, vl 0, vn, vl 2, vn] [] M (some (.int c1)) M) (h1 : ¬ c1 = 0) (h2 : Rm E 137 0 [vr 83, vi 1, vi x1, vn, vn, vn, vn, vn, vn, vn] [] M (some (.int c2)) N1) (h3 : ¬ (¬ x1 = 2)) : Rm E 138 0 [vr 83, vi x1] [] M (some (.int (c2 + 1000000))) N1 := by
  refine R_S q138 4 (pc2 := 6) (ls2 := [vr 83, vi x1]) (st2 := [.long 2, .long 0, .long (((x1 : Int32)).toInt64)]) rfl ?_
  refine R_call q138 rfl rfl rfl rfl rfl rfl h0 ?_
  show Rm E 138 9 [vr 83, vi x1] [.int c1] M _ _
  refine R_ift q138 rfl (decide_eq_true h1) ?_
  show Rm E 138 14 [vr 83, vi x1] [] M _ _
  refine R_S q138 3 (pc2 := 17) (ls2 := [vr 83, vi x1]) (st2 := [.int x1, .int 1, .ref 83]) rfl ?_
  refine R_call q138 rfl rfl rfl rfl rfl rfl h2 ?_
  show Rm E 138 20 [vr 83, vi x1] [.int c2] N1 _ _
  refine R_S q138 2 (pc2 := 22) (ls2 := [vr 83, vi x1]) (st2 := [.int 2, .int x1, .int c2]) rfl ?_
  refine R_icf q138 rfl (decide_eq_false h3) ?_
  show Rm E 138 25 [vr 83, vi x1] [.int c2] N1 _ _
  refine R_S q138 3 (pc2 := 32) (ls2 := [vr 83, vi x1]) (st2 := [.int (c2 + 1000000)]) rfl ?_
  exact R_ret rfl q138 rfl rfl rfl rfl (stpR_i rfl rfl)
-- call X10_in 9-
theorem b138_0_2 {E : env} {M : mem} {x1 : Int32} {c1 : Int32} (h0 : Rm E 88 0 [vl (((x1 : Int32)).toInt64), vn, vl 0, vn, vl 2, vn] [] M (some (.int c1)) M) (h1 : ¬ (¬ c1 = 0)) : Rm E 138 0 [vr 83, vi x1] [] M (some (.int (-1))) M := by
  refine R_S q138 4 (pc2 := 6) (ls2 := [vr 83, vi x1]) (st2 := [.long 2, .long 0, .long (((x1 : Int32)).toInt64)]) rfl ?_
  refine R_call q138 rfl rfl rfl rfl rfl rfl h0 ?_
  show Rm E 138 9 [vr 83, vi x1] [.int c1] M _ _
  refine R_iff q138 rfl (decide_eq_false h1) ?_
  show Rm E 138 12 [vr 83, vi x1] [] M _ _
  refine R_S q138 1 (pc2 := 13) (ls2 := [vr 83, vi x1]) (st2 := [.int (-1)]) rfl ?_
  exact R_ret rfl q138 rfl rfl rfl rfl (stpR_i rfl rfl)
-- 139 HeavyChainsModel.longest(I)I  cuts [0]
theorem q139 : cdOf 139 = some mt139 := rfl
-- call X10_in 9+
theorem b139_0_0 {E : env} {M : mem} {x1 : Int32} {c1 : Int32} (h0 : Rm E 88 0 [vl (((x1 : Int32)).toInt64), vn, vl 0, vn, vl 2, vn] [] M (some (.int c1)) M) (h1 : c1 = 0) : Rm E 139 0 [vr 83, vi x1] [] M (some (.int (-1))) M := by
  refine R_S q139 4 (pc2 := 6) (ls2 := [vr 83, vi x1]) (st2 := [.long 2, .long 0, .long (((x1 : Int32)).toInt64)]) rfl ?_
  refine R_call q139 rfl rfl rfl rfl rfl rfl h0 ?_
  show Rm E 139 9 [vr 83, vi x1] [.int c1] M _ _
  refine R_ift q139 rfl (decide_eq_true h1) ?_
  show Rm E 139 21 [vr 83, vi x1] [] M _ _
  refine R_S q139 1 (pc2 := 22) (ls2 := [vr 83, vi x1]) (st2 := [.int (-1)]) rfl ?_
  exact R_ret rfl q139 rfl rfl rfl rfl (stpR_i rfl rfl)
-- call X10_in 9- call X10_mostOf
theorem b139_0_1 {E : env} {M : mem} {x1 : Int32} {c1 : Int32} {c2 : Int32} {N1 : mem} (h0 : Rm E 88 0 [vl (((x1 : Int32)).toInt64), vn, vl 0, vn, vl 2, vn] [] M (some (.int c1)) M) (h1 : ¬ (c1 = 0)) (h2 : Rm E 137 0 [vr 83, vi 0, vi x1, vn, vn, vn, vn, vn, vn, vn] [] M (some (.int c2)) N1) : Rm E 139 0 [vr 83, vi x1] [] M (some (.int c2)) N1 := by
  refine R_S q139 4 (pc2 := 6) (ls2 := [vr 83, vi x1]) (st2 := [.long 2, .long 0, .long (((x1 : Int32)).toInt64)]) rfl ?_
  refine R_call q139 rfl rfl rfl rfl rfl rfl h0 ?_
  show Rm E 139 9 [vr 83, vi x1] [.int c1] M _ _
  refine R_iff q139 rfl (decide_eq_false h1) ?_
  show Rm E 139 12 [vr 83, vi x1] [] M _ _
  refine R_S q139 3 (pc2 := 15) (ls2 := [vr 83, vi x1]) (st2 := [.int x1, .int 0, .ref 83]) rfl ?_
  refine R_call q139 rfl rfl rfl rfl rfl rfl h2 ?_
  show Rm E 139 18 [vr 83, vi x1] [.int c2] N1 _ _
  refine R_S q139 1 (pc2 := 22) (ls2 := [vr 83, vi x1]) (st2 := [.int c2]) rfl ?_
  exact R_ret rfl q139 rfl rfl rfl rfl (stpR_i rfl rfl)
-- 140 HeavyChainsModel.day(III)I  cuts [0, 39, 69, 199]
theorem q140 : cdOf 140 = some mt140 := rfl
-- call X10_in 9+
theorem b140_0_0 {E : env} {M : mem} {x1 x2 x3 : Int32} {c1 : Int32} (h0 : Rm E 88 0 [vl (((x1 : Int32)).toInt64), vn, vl 0, vn, vl 9999, vn] [] M (some (.int c1)) M) (h1 : c1 = 0) : Rm E 140 0 [vr 83, vi x1, vi x2, vi x3, vn, vn, vn, vn, vn] [] M (some (.int (-1))) M := by
  refine R_S q140 4 (pc2 := 6) (ls2 := [vr 83, vi x1, vi x2, vi x3, vn, vn, vn, vn, vn]) (st2 := [.long 9999, .long 0, .long (((x1 : Int32)).toInt64)]) rfl ?_
  refine R_call q140 rfl rfl rfl rfl rfl rfl h0 ?_
  show Rm E 140 9 [vr 83, vi x1, vi x2, vi x3, vn, vn, vn, vn, vn] [.int c1] M _ _
  refine R_ift q140 rfl (decide_eq_true h1) ?_
  show Rm E 140 34 [vr 83, vi x1, vi x2, vi x3, vn, vn, vn, vn, vn] [] M _ _
  refine R_S q140 1 (pc2 := 35) (ls2 := [vr 83, vi x1, vi x2, vi x3, vn, vn, vn, vn, vn]) (st2 := [.int (-1)]) rfl ?_
  exact R_ret rfl q140 rfl rfl rfl rfl (stpR_i rfl rfl)
-- call X10_in 9- call X10_in 21+
theorem b140_0_1 {E : env} {M : mem} {x1 x2 x3 : Int32} {c1 : Int32} {c2 : Int32} (h0 : Rm E 88 0 [vl (((x1 : Int32)).toInt64), vn, vl 0, vn, vl 9999, vn] [] M (some (.int c1)) M) (h1 : ¬ (c1 = 0)) (h2 : Rm E 88 0 [vl (((x2 : Int32)).toInt64), vn, vl 1, vn, vl 20, vn] [] M (some (.int c2)) M) (h3 : c2 = 0) : Rm E 140 0 [vr 83, vi x1, vi x2, vi x3, vn, vn, vn, vn, vn] [] M (some (.int (-1))) M := by
  refine R_S q140 4 (pc2 := 6) (ls2 := [vr 83, vi x1, vi x2, vi x3, vn, vn, vn, vn, vn]) (st2 := [.long 9999, .long 0, .long (((x1 : Int32)).toInt64)]) rfl ?_
  refine R_call q140 rfl rfl rfl rfl rfl rfl h0 ?_
  show Rm E 140 9 [vr 83, vi x1, vi x2, vi x3, vn, vn, vn, vn, vn] [.int c1] M _ _
  refine R_iff q140 rfl (decide_eq_false h1) ?_
  show Rm E 140 12 [vr 83, vi x1, vi x2, vi x3, vn, vn, vn, vn, vn] [] M _ _
  refine R_S q140 4 (pc2 := 18) (ls2 := [vr 83, vi x1, vi x2, vi x3, vn, vn, vn, vn, vn]) (st2 := [.long 20, .long 1, .long (((x2 : Int32)).toInt64)]) rfl ?_
  refine R_call q140 rfl rfl rfl rfl rfl rfl h2 ?_
  show Rm E 140 21 [vr 83, vi x1, vi x2, vi x3, vn, vn, vn, vn, vn] [.int c2] M _ _
  refine R_ift q140 rfl (decide_eq_true h3) ?_
  show Rm E 140 34 [vr 83, vi x1, vi x2, vi x3, vn, vn, vn, vn, vn] [] M _ _
  refine R_S q140 1 (pc2 := 35) (ls2 := [vr 83, vi x1, vi x2, vi x3, vn, vn, vn, vn, vn]) (st2 := [.int (-1)]) rfl ?_
  exact R_ret rfl q140 rfl rfl rfl rfl (stpR_i rfl rfl)
-- call X10_in 9- call X10_in 21- call X10_in 31+
theorem b140_0_2 {E : env} {M : mem} {rv : Option Value} {M2 : mem} {x1 x2 x3 : Int32} {c1 : Int32} {c2 : Int32} {c3 : Int32} (h0 : Rm E 88 0 [vl (((x1 : Int32)).toInt64), vn, vl 0, vn, vl 9999, vn] [] M (some (.int c1)) M) (h1 : ¬ (c1 = 0)) (h2 : Rm E 88 0 [vl (((x2 : Int32)).toInt64), vn, vl 1, vn, vl 20, vn] [] M (some (.int c2)) M) (h3 : ¬ (c2 = 0)) (h4 : Rm E 88 0 [vl (((x3 : Int32)).toInt64), vn, vl 0, vn, vl 1, vn] [] M (some (.int c3)) M) (h5 : ¬ c3 = 0) (k : Rm E 140 39 [vr 83, vi x1, vi x2, vi x3, vi 0, vn, vn, vn, vn] [] M rv M2) : Rm E 140 0 [vr 83, vi x1, vi x2, vi x3, vn, vn, vn, vn, vn] [] M rv M2 := by
  refine R_S q140 4 (pc2 := 6) (ls2 := [vr 83, vi x1, vi x2, vi x3, vn, vn, vn, vn, vn]) (st2 := [.long 9999, .long 0, .long (((x1 : Int32)).toInt64)]) rfl ?_
  refine R_call q140 rfl rfl rfl rfl rfl rfl h0 ?_
  show Rm E 140 9 [vr 83, vi x1, vi x2, vi x3, vn, vn, vn, vn, vn] [.int c1] M _ _
  refine R_iff q140 rfl (decide_eq_false h1) ?_
  show Rm E 140 12 [vr 83, vi x1, vi x2, vi x3, vn, vn, vn, vn, vn] [] M _ _
  refine R_S q140 4 (pc2 := 18) (ls2 := [vr 83, vi x1, vi x2, vi x3, vn, vn, vn, vn, vn]) (st2 := [.long 20, .long 1, .long (((x2 : Int32)).toInt64)]) rfl ?_
  refine R_call q140 rfl rfl rfl rfl rfl rfl h2 ?_
  show Rm E 140 21 [vr 83, vi x1, vi x2, vi x3, vn, vn, vn, vn, vn] [.int c2] M _ _
  refine R_iff q140 rfl (decide_eq_false h3) ?_
  show Rm E 140 24 [vr 83, vi x1, vi x2, vi x3, vn, vn, vn, vn, vn] [] M _ _
  refine R_S q140 4 (pc2 := 28) (ls2 := [vr 83, vi x1, vi x2, vi x3, vn, vn, vn, vn, vn]) (st2 := [.long 1, .long 0, .long (((x3 : Int32)).toInt64)]) rfl ?_
  refine R_call q140 rfl rfl rfl rfl rfl rfl h4 ?_
  show Rm E 140 31 [vr 83, vi x1, vi x2, vi x3, vn, vn, vn, vn, vn] [.int c3] M _ _
  refine R_ift q140 rfl (decide_eq_true h5) ?_
  show Rm E 140 36 [vr 83, vi x1, vi x2, vi x3, vn, vn, vn, vn, vn] [] M _ _
  refine R_S q140 2 (pc2 := 39) (ls2 := [vr 83, vi x1, vi x2, vi x3, vi 0, vn, vn, vn, vn]) (st2 := []) rfl ?_
  exact k
-- call X10_in 9- call X10_in 21- call X10_in 31-
theorem b140_0_3 {E : env} {M : mem} {x1 x2 x3 : Int32} {c1 : Int32} {c2 : Int32} {c3 : Int32} (h0 : Rm E 88 0 [vl (((x1 : Int32)).toInt64), vn, vl 0, vn, vl 9999, vn] [] M (some (.int c1)) M) (h1 : ¬ (c1 = 0)) (h2 : Rm E 88 0 [vl (((x2 : Int32)).toInt64), vn, vl 1, vn, vl 20, vn] [] M (some (.int c2)) M) (h3 : ¬ (c2 = 0)) (h4 : Rm E 88 0 [vl (((x3 : Int32)).toInt64), vn, vl 0, vn, vl 1, vn] [] M (some (.int c3)) M) (h5 : ¬ (¬ c3 = 0)) : Rm E 140 0 [vr 83, vi x1, vi x2, vi x3, vn, vn, vn, vn, vn] [] M (some (.int (-1))) M := by
  refine R_S q140 4 (pc2 := 6) (ls2 := [vr 83, vi x1, vi x2, vi x3, vn, vn, vn, vn, vn]) (st2 := [.long 9999, .long 0, .long (((x1 : Int32)).toInt64)]) rfl ?_
  refine R_call q140 rfl rfl rfl rfl rfl rfl h0 ?_
  show Rm E 140 9 [vr 83, vi x1, vi x2, vi x3, vn, vn, vn, vn, vn] [.int c1] M _ _
  refine R_iff q140 rfl (decide_eq_false h1) ?_
  show Rm E 140 12 [vr 83, vi x1, vi x2, vi x3, vn, vn, vn, vn, vn] [] M _ _
  refine R_S q140 4 (pc2 := 18) (ls2 := [vr 83, vi x1, vi x2, vi x3, vn, vn, vn, vn, vn]) (st2 := [.long 20, .long 1, .long (((x2 : Int32)).toInt64)]) rfl ?_
  refine R_call q140 rfl rfl rfl rfl rfl rfl h2 ?_
  show Rm E 140 21 [vr 83, vi x1, vi x2, vi x3, vn, vn, vn, vn, vn] [.int c2] M _ _
  refine R_iff q140 rfl (decide_eq_false h3) ?_
  show Rm E 140 24 [vr 83, vi x1, vi x2, vi x3, vn, vn, vn, vn, vn] [] M _ _
  refine R_S q140 4 (pc2 := 28) (ls2 := [vr 83, vi x1, vi x2, vi x3, vn, vn, vn, vn, vn]) (st2 := [.long 1, .long 0, .long (((x3 : Int32)).toInt64)]) rfl ?_
  refine R_call q140 rfl rfl rfl rfl rfl rfl h4 ?_
  show Rm E 140 31 [vr 83, vi x1, vi x2, vi x3, vn, vn, vn, vn, vn] [.int c3] M _ _
  refine R_iff q140 rfl (decide_eq_false h5) ?_
  show Rm E 140 34 [vr 83, vi x1, vi x2, vi x3, vn, vn, vn, vn, vn] [] M _ _
  refine R_S q140 1 (pc2 := 35) (ls2 := [vr 83, vi x1, vi x2, vi x3, vn, vn, vn, vn, vn]) (st2 := [.int (-1)]) rfl ?_
  exact R_ret rfl q140 rfl rfl rfl rfl (stpR_i rfl rfl)
-- 43+
theorem b140_39_0 {E : env} {M : mem} {rv : Option Value} {M2 : mem} {x1 x2 x3 x4 : Int32}  (h0 : 30 ≤ x4) (k : Rm E 140 69 [vr 83, vi x1, vi x2, vi x3, vi 0, vn, vn, vn, vn] [] M rv M2) : Rm E 140 39 [vr 83, vi x1, vi x2, vi x3, vi x4, vn, vn, vn, vn] [] M rv M2 := by
  refine R_S q140 2 (pc2 := 43) (ls2 := [vr 83, vi x1, vi x2, vi x3, vi x4, vn, vn, vn, vn]) (st2 := [.int 30, .int x4]) rfl ?_
  refine R_ict q140 rfl (decide_eq_true h0) ?_
  show Rm E 140 66 [vr 83, vi x1, vi x2, vi x3, vi x4, vn, vn, vn, vn] [] M _ _
  refine R_S q140 2 (pc2 := 69) (ls2 := [vr 83, vi x1, vi x2, vi x3, vi 0, vn, vn, vn, vn]) (st2 := []) rfl ?_
  exact k
-- 43-
theorem b140_39_1 {E : env} {M : mem} {rv : Option Value} {M2 : mem} {x1 x2 x3 x4 : Int32} {N1 : mem} (h0 : ¬ (30 ≤ x4)) (h1 : inR x4 90) (h2 : inR x4 30) (eN1 : N1 = upM M 96 (x4.toNatClampNeg) (M.1 84 x4.toNatClampNeg)) (k : Rm E 140 39 [vr 83, vi x1, vi x2, vi x3, vi (x4 + 1), vn, vn, vn, vn] [] N1 rv M2) : Rm E 140 39 [vr 83, vi x1, vi x2, vi x3, vi x4, vn, vn, vn, vn] [] M rv M2 := by
  refine R_S q140 2 (pc2 := 43) (ls2 := [vr 83, vi x1, vi x2, vi x3, vi x4, vn, vn, vn, vn]) (st2 := [.int 30, .int x4]) rfl ?_
  refine R_icf q140 rfl (decide_eq_false h0) ?_
  show Rm E 140 46 [vr 83, vi x1, vi x2, vi x3, vi x4, vn, vn, vn, vn] [] M _ _
  refine R_S q140 6 (pc2 := 58) (ls2 := [vr 83, vi x1, vi x2, vi x3, vi x4, vn, vn, vn, vn]) (st2 := [.int x4, .ref 84, .int x4, .ref 96]) rfl ?_
  refine R_ial q140 rfl rfl h1 ?_
  show Rm E 140 59 [vr 83, vi x1, vi x2, vi x3, vi x4, vn, vn, vn, vn] [.int (M.1 84 x4.toNatClampNeg), .int x4, .ref 96] M _ _
  refine R_ias q140 rfl rfl h2 eN1 ?_
  show Rm E 140 60 [vr 83, vi x1, vi x2, vi x3, vi x4, vn, vn, vn, vn] [] N1 _ _
  refine R_S q140 2 (pc2 := 39) (ls2 := [vr 83, vi x1, vi x2, vi x3, vi (x4 + 1), vn, vn, vn, vn]) (st2 := []) rfl ?_
  exact k
-- 72+ call X10_laysBelow 177+ call X10_greatest
theorem b140_69_0 {E : env} {M : mem} {rv : Option Value} {M2 : mem} {x1 x2 x3 x4 : Int32} {N1 : mem} {c2 : Int32} (h0 : x2 ≤ x4) (h1 : Rm E 106 0 [vr 83, vi 0, vn] [] M none N1) (h2 : ¬ x3 = 0) (h3 : Rm E 108 0 [vr 83, vn, vn] [] N1 (some (.int c2)) N1) (k : Rm E 140 199 [vr 83, vn, vn, vn, vi (c2 + 1000000), vi 0, vn, vn, vn] [] N1 rv M2) : Rm E 140 69 [vr 83, vi x1, vi x2, vi x3, vi x4, vn, vn, vn, vn] [] M rv M2 := by
  refine R_S q140 2 (pc2 := 72) (ls2 := [vr 83, vi x1, vi x2, vi x3, vi x4, vn, vn, vn, vn]) (st2 := [.int x2, .int x4]) rfl ?_
  refine R_ict q140 rfl (decide_eq_true h0) ?_
  show Rm E 140 171 [vr 83, vi x1, vi x2, vi x3, vi x4, vn, vn, vn, vn] [] M _ _
  refine R_S q140 2 (pc2 := 173) (ls2 := [vr 83, vi x1, vi x2, vi x3, vi x4, vn, vn, vn, vn]) (st2 := [.int 0, .ref 83]) rfl ?_
  refine R_call q140 rfl rfl rfl rfl rfl rfl h1 ?_
  show Rm E 140 176 [vr 83, vi x1, vi x2, vi x3, vi x4, vn, vn, vn, vn] [] N1 _ _
  refine R_S q140 1 (pc2 := 177) (ls2 := [vr 83, vi x1, vi x2, vi x3, vi x4, vn, vn, vn, vn]) (st2 := [.int x3]) rfl ?_
  refine R_ift q140 rfl (decide_eq_true h2) ?_
  show Rm E 140 187 [vr 83, vi x1, vi x2, vi x3, vi x4, vn, vn, vn, vn] [] N1 _ _
  refine R_S q140 1 (pc2 := 188) (ls2 := [vr 83, vi x1, vi x2, vi x3, vi x4, vn, vn, vn, vn]) (st2 := [.ref 83]) rfl ?_
  refine R_call q140 rfl rfl rfl rfl rfl rfl h3 ?_
  show Rm E 140 191 [vr 83, vi x1, vi x2, vi x3, vi x4, vn, vn, vn, vn] [.int c2] N1 _ _
  refine R_S q140 5 (pc2 := 199) (ls2 := [vr 83, vi x1, vi x2, vi x3, vi (c2 + 1000000), vi 0, vn, vn, vn]) (st2 := []) rfl ?_
  exact R_w (ls := [vr 83, vn, vn, vn, vi (c2 + 1000000), vi 0, vn, vn, vn]) (show lsle _ _ from ⟨rfl, ⟨rfl, ⟨rfl, trivial⟩⟩⟩) k
-- 72+ call X10_laysBelow 177- call X10_sumOf
theorem b140_69_1 {E : env} {M : mem} {rv : Option Value} {M2 : mem} {x1 x2 x3 x4 : Int32} {N1 : mem} {c2 : Int32} (h0 : x2 ≤ x4) (h1 : Rm E 106 0 [vr 83, vi 0, vn] [] M none N1) (h2 : ¬ (¬ x3 = 0)) (h3 : Rm E 107 0 [vr 83, vn, vn] [] N1 (some (.int c2)) N1) (k : Rm E 140 199 [vr 83, vn, vn, vn, vi (c2 + 1000000), vi 0, vn, vn, vn] [] N1 rv M2) : Rm E 140 69 [vr 83, vi x1, vi x2, vi x3, vi x4, vn, vn, vn, vn] [] M rv M2 := by
  refine R_S q140 2 (pc2 := 72) (ls2 := [vr 83, vi x1, vi x2, vi x3, vi x4, vn, vn, vn, vn]) (st2 := [.int x2, .int x4]) rfl ?_
  refine R_ict q140 rfl (decide_eq_true h0) ?_
  show Rm E 140 171 [vr 83, vi x1, vi x2, vi x3, vi x4, vn, vn, vn, vn] [] M _ _
  refine R_S q140 2 (pc2 := 173) (ls2 := [vr 83, vi x1, vi x2, vi x3, vi x4, vn, vn, vn, vn]) (st2 := [.int 0, .ref 83]) rfl ?_
  refine R_call q140 rfl rfl rfl rfl rfl rfl h1 ?_
  show Rm E 140 176 [vr 83, vi x1, vi x2, vi x3, vi x4, vn, vn, vn, vn] [] N1 _ _
  refine R_S q140 1 (pc2 := 177) (ls2 := [vr 83, vi x1, vi x2, vi x3, vi x4, vn, vn, vn, vn]) (st2 := [.int x3]) rfl ?_
  refine R_iff q140 rfl (decide_eq_false h2) ?_
  show Rm E 140 180 [vr 83, vi x1, vi x2, vi x3, vi x4, vn, vn, vn, vn] [] N1 _ _
  refine R_S q140 1 (pc2 := 181) (ls2 := [vr 83, vi x1, vi x2, vi x3, vi x4, vn, vn, vn, vn]) (st2 := [.ref 83]) rfl ?_
  refine R_call q140 rfl rfl rfl rfl rfl rfl h3 ?_
  show Rm E 140 184 [vr 83, vi x1, vi x2, vi x3, vi x4, vn, vn, vn, vn] [.int c2] N1 _ _
  refine R_S q140 6 (pc2 := 199) (ls2 := [vr 83, vi x1, vi x2, vi x3, vi (c2 + 1000000), vi 0, vn, vn, vn]) (st2 := []) rfl ?_
  exact R_w (ls := [vr 83, vn, vn, vn, vi (c2 + 1000000), vi 0, vn, vn, vn]) (show lsle _ _ from ⟨rfl, ⟨rfl, ⟨rfl, trivial⟩⟩⟩) k
-- 72- call X10_lays call X10_mayAdd 152+
theorem b140_69_2 {E : env} {M : mem} {rv : Option Value} {M2 : mem} {x1 x2 x3 x4 : Int32} {N1 : mem} {c2 : Int32} (h0 : ¬ (x2 ≤ x4)) (h1 : ¬ M.1 83 1 = 0) (h2 : ¬ M.1 83 1 = 0) (h3 : Rm E 105 0 [vr 83, vi (((((((7919 * ((x1 : Int32)).toInt64) + (6151 * ((x4 : Int32)).toInt64)) + 1) * (((7919 * ((x1 : Int32)).toInt64) + (6151 * ((x4 : Int32)).toInt64)) + 1)) - ((((7919 * ((x1 : Int32)).toInt64) + (6151 * ((x4 : Int32)).toInt64)) + 1) * (((7919 * ((x1 : Int32)).toInt64) + (6151 * ((x4 : Int32)).toInt64)) + 1)) / 65521 * 65521).toInt32 / 4) - ((((((7919 * ((x1 : Int32)).toInt64) + (6151 * ((x4 : Int32)).toInt64)) + 1) * (((7919 * ((x1 : Int32)).toInt64) + (6151 * ((x4 : Int32)).toInt64)) + 1)) - ((((7919 * ((x1 : Int32)).toInt64) + (6151 * ((x4 : Int32)).toInt64)) + 1) * (((7919 * ((x1 : Int32)).toInt64) + (6151 * ((x4 : Int32)).toInt64)) + 1)) / 65521 * 65521).toInt32 / 4) / M.1 83 1 * M.1 83 1), vi (((((((7919 * ((x1 : Int32)).toInt64) + (6151 * ((x4 : Int32)).toInt64)) + 1) * (((7919 * ((x1 : Int32)).toInt64) + (6151 * ((x4 : Int32)).toInt64)) + 1)) - ((((7919 * ((x1 : Int32)).toInt64) + (6151 * ((x4 : Int32)).toInt64)) + 1) * (((7919 * ((x1 : Int32)).toInt64) + (6151 * ((x4 : Int32)).toInt64)) + 1)) / 65521 * 65521).toInt32 / 256) - ((((((7919 * ((x1 : Int32)).toInt64) + (6151 * ((x4 : Int32)).toInt64)) + 1) * (((7919 * ((x1 : Int32)).toInt64) + (6151 * ((x4 : Int32)).toInt64)) + 1)) - ((((7919 * ((x1 : Int32)).toInt64) + (6151 * ((x4 : Int32)).toInt64)) + 1) * (((7919 * ((x1 : Int32)).toInt64) + (6151 * ((x4 : Int32)).toInt64)) + 1)) / 65521 * 65521).toInt32 / 256) / M.1 83 1 * M.1 83 1), vn, vn, vn, vn] [] M none N1) (h4 : Rm E 119 0 [vr 83, vi ((((((((7919 * ((x1 : Int32)).toInt64) + (6151 * ((x4 : Int32)).toInt64)) + 1) * (((7919 * ((x1 : Int32)).toInt64) + (6151 * ((x4 : Int32)).toInt64)) + 1)) - ((((7919 * ((x1 : Int32)).toInt64) + (6151 * ((x4 : Int32)).toInt64)) + 1) * (((7919 * ((x1 : Int32)).toInt64) + (6151 * ((x4 : Int32)).toInt64)) + 1)) / 65521 * 65521).toInt32 / 64) - ((((((7919 * ((x1 : Int32)).toInt64) + (6151 * ((x4 : Int32)).toInt64)) + 1) * (((7919 * ((x1 : Int32)).toInt64) + (6151 * ((x4 : Int32)).toInt64)) + 1)) - ((((7919 * ((x1 : Int32)).toInt64) + (6151 * ((x4 : Int32)).toInt64)) + 1) * (((7919 * ((x1 : Int32)).toInt64) + (6151 * ((x4 : Int32)).toInt64)) + 1)) / 65521 * 65521).toInt32 / 64) / 41 * 41) - 20), vi ((((((7919 * ((x1 : Int32)).toInt64) + (6151 * ((x4 : Int32)).toInt64)) + 1) * (((7919 * ((x1 : Int32)).toInt64) + (6151 * ((x4 : Int32)).toInt64)) + 1)) - ((((7919 * ((x1 : Int32)).toInt64) + (6151 * ((x4 : Int32)).toInt64)) + 1) * (((7919 * ((x1 : Int32)).toInt64) + (6151 * ((x4 : Int32)).toInt64)) + 1)) / 65521 * 65521).toInt32 - (((((7919 * ((x1 : Int32)).toInt64) + (6151 * ((x4 : Int32)).toInt64)) + 1) * (((7919 * ((x1 : Int32)).toInt64) + (6151 * ((x4 : Int32)).toInt64)) + 1)) - ((((7919 * ((x1 : Int32)).toInt64) + (6151 * ((x4 : Int32)).toInt64)) + 1) * (((7919 * ((x1 : Int32)).toInt64) + (6151 * ((x4 : Int32)).toInt64)) + 1)) / 65521 * 65521).toInt32 / 4 * 4), vn, vn] [] N1 (some (.int c2)) N1) (h5 : c2 = 0) (k : Rm E 140 69 [vr 83, vi x1, vi x2, vi x3, vi (x4 + 1), vn, vn, vn, vn] [] N1 rv M2) : Rm E 140 69 [vr 83, vi x1, vi x2, vi x3, vi x4, vn, vn, vn, vn] [] M rv M2 := by
  refine R_S q140 2 (pc2 := 72) (ls2 := [vr 83, vi x1, vi x2, vi x3, vi x4, vn, vn, vn, vn]) (st2 := [.int x2, .int x4]) rfl ?_
  refine R_icf q140 rfl (decide_eq_false h0) ?_
  show Rm E 140 75 [vr 83, vi x1, vi x2, vi x3, vi x4, vn, vn, vn, vn] [] M _ _
  refine R_S q140 33 (pc2 := 127) (ls2 := [vr 83, vi x1, vi x2, vi x3, vi x4, vl (((7919 * ((x1 : Int32)).toInt64) + (6151 * ((x4 : Int32)).toInt64)) + 1), vn, vi ((((((7919 * ((x1 : Int32)).toInt64) + (6151 * ((x4 : Int32)).toInt64)) + 1) * (((7919 * ((x1 : Int32)).toInt64) + (6151 * ((x4 : Int32)).toInt64)) + 1)) - ((((7919 * ((x1 : Int32)).toInt64) + (6151 * ((x4 : Int32)).toInt64)) + 1) * (((7919 * ((x1 : Int32)).toInt64) + (6151 * ((x4 : Int32)).toInt64)) + 1)) / 65521 * 65521).toInt32), vi ((((((((7919 * ((x1 : Int32)).toInt64) + (6151 * ((x4 : Int32)).toInt64)) + 1) * (((7919 * ((x1 : Int32)).toInt64) + (6151 * ((x4 : Int32)).toInt64)) + 1)) - ((((7919 * ((x1 : Int32)).toInt64) + (6151 * ((x4 : Int32)).toInt64)) + 1) * (((7919 * ((x1 : Int32)).toInt64) + (6151 * ((x4 : Int32)).toInt64)) + 1)) / 65521 * 65521).toInt32 / 64) - ((((((7919 * ((x1 : Int32)).toInt64) + (6151 * ((x4 : Int32)).toInt64)) + 1) * (((7919 * ((x1 : Int32)).toInt64) + (6151 * ((x4 : Int32)).toInt64)) + 1)) - ((((7919 * ((x1 : Int32)).toInt64) + (6151 * ((x4 : Int32)).toInt64)) + 1) * (((7919 * ((x1 : Int32)).toInt64) + (6151 * ((x4 : Int32)).toInt64)) + 1)) / 65521 * 65521).toInt32 / 64) / 41 * 41) - 20)]) (st2 := [.int (M.1 83 1), .int ((((((7919 * ((x1 : Int32)).toInt64) + (6151 * ((x4 : Int32)).toInt64)) + 1) * (((7919 * ((x1 : Int32)).toInt64) + (6151 * ((x4 : Int32)).toInt64)) + 1)) - ((((7919 * ((x1 : Int32)).toInt64) + (6151 * ((x4 : Int32)).toInt64)) + 1) * (((7919 * ((x1 : Int32)).toInt64) + (6151 * ((x4 : Int32)).toInt64)) + 1)) / 65521 * 65521).toInt32 / 4), .ref 83]) rfl ?_
  refine R_dv q140 rfl (Or.inr ⟨rfl, rfl⟩) h1 ?_
  show Rm E 140 128 [vr 83, vi x1, vi x2, vi x3, vi x4, vl (((7919 * ((x1 : Int32)).toInt64) + (6151 * ((x4 : Int32)).toInt64)) + 1), vn, vi ((((((7919 * ((x1 : Int32)).toInt64) + (6151 * ((x4 : Int32)).toInt64)) + 1) * (((7919 * ((x1 : Int32)).toInt64) + (6151 * ((x4 : Int32)).toInt64)) + 1)) - ((((7919 * ((x1 : Int32)).toInt64) + (6151 * ((x4 : Int32)).toInt64)) + 1) * (((7919 * ((x1 : Int32)).toInt64) + (6151 * ((x4 : Int32)).toInt64)) + 1)) / 65521 * 65521).toInt32), vi ((((((((7919 * ((x1 : Int32)).toInt64) + (6151 * ((x4 : Int32)).toInt64)) + 1) * (((7919 * ((x1 : Int32)).toInt64) + (6151 * ((x4 : Int32)).toInt64)) + 1)) - ((((7919 * ((x1 : Int32)).toInt64) + (6151 * ((x4 : Int32)).toInt64)) + 1) * (((7919 * ((x1 : Int32)).toInt64) + (6151 * ((x4 : Int32)).toInt64)) + 1)) / 65521 * 65521).toInt32 / 64) - ((((((7919 * ((x1 : Int32)).toInt64) + (6151 * ((x4 : Int32)).toInt64)) + 1) * (((7919 * ((x1 : Int32)).toInt64) + (6151 * ((x4 : Int32)).toInt64)) + 1)) - ((((7919 * ((x1 : Int32)).toInt64) + (6151 * ((x4 : Int32)).toInt64)) + 1) * (((7919 * ((x1 : Int32)).toInt64) + (6151 * ((x4 : Int32)).toInt64)) + 1)) / 65521 * 65521).toInt32 / 64) / 41 * 41) - 20)] [.int (((((((7919 * ((x1 : Int32)).toInt64) + (6151 * ((x4 : Int32)).toInt64)) + 1) * (((7919 * ((x1 : Int32)).toInt64) + (6151 * ((x4 : Int32)).toInt64)) + 1)) - ((((7919 * ((x1 : Int32)).toInt64) + (6151 * ((x4 : Int32)).toInt64)) + 1) * (((7919 * ((x1 : Int32)).toInt64) + (6151 * ((x4 : Int32)).toInt64)) + 1)) / 65521 * 65521).toInt32 / 4) - ((((((7919 * ((x1 : Int32)).toInt64) + (6151 * ((x4 : Int32)).toInt64)) + 1) * (((7919 * ((x1 : Int32)).toInt64) + (6151 * ((x4 : Int32)).toInt64)) + 1)) - ((((7919 * ((x1 : Int32)).toInt64) + (6151 * ((x4 : Int32)).toInt64)) + 1) * (((7919 * ((x1 : Int32)).toInt64) + (6151 * ((x4 : Int32)).toInt64)) + 1)) / 65521 * 65521).toInt32 / 4) / M.1 83 1 * M.1 83 1), .ref 83] M _ _
  refine R_S q140 5 (pc2 := 138) (ls2 := [vr 83, vi x1, vi x2, vi x3, vi x4, vl (((7919 * ((x1 : Int32)).toInt64) + (6151 * ((x4 : Int32)).toInt64)) + 1), vn, vi ((((((7919 * ((x1 : Int32)).toInt64) + (6151 * ((x4 : Int32)).toInt64)) + 1) * (((7919 * ((x1 : Int32)).toInt64) + (6151 * ((x4 : Int32)).toInt64)) + 1)) - ((((7919 * ((x1 : Int32)).toInt64) + (6151 * ((x4 : Int32)).toInt64)) + 1) * (((7919 * ((x1 : Int32)).toInt64) + (6151 * ((x4 : Int32)).toInt64)) + 1)) / 65521 * 65521).toInt32), vi ((((((((7919 * ((x1 : Int32)).toInt64) + (6151 * ((x4 : Int32)).toInt64)) + 1) * (((7919 * ((x1 : Int32)).toInt64) + (6151 * ((x4 : Int32)).toInt64)) + 1)) - ((((7919 * ((x1 : Int32)).toInt64) + (6151 * ((x4 : Int32)).toInt64)) + 1) * (((7919 * ((x1 : Int32)).toInt64) + (6151 * ((x4 : Int32)).toInt64)) + 1)) / 65521 * 65521).toInt32 / 64) - ((((((7919 * ((x1 : Int32)).toInt64) + (6151 * ((x4 : Int32)).toInt64)) + 1) * (((7919 * ((x1 : Int32)).toInt64) + (6151 * ((x4 : Int32)).toInt64)) + 1)) - ((((7919 * ((x1 : Int32)).toInt64) + (6151 * ((x4 : Int32)).toInt64)) + 1) * (((7919 * ((x1 : Int32)).toInt64) + (6151 * ((x4 : Int32)).toInt64)) + 1)) / 65521 * 65521).toInt32 / 64) / 41 * 41) - 20)]) (st2 := [.int (M.1 83 1), .int ((((((7919 * ((x1 : Int32)).toInt64) + (6151 * ((x4 : Int32)).toInt64)) + 1) * (((7919 * ((x1 : Int32)).toInt64) + (6151 * ((x4 : Int32)).toInt64)) + 1)) - ((((7919 * ((x1 : Int32)).toInt64) + (6151 * ((x4 : Int32)).toInt64)) + 1) * (((7919 * ((x1 : Int32)).toInt64) + (6151 * ((x4 : Int32)).toInt64)) + 1)) / 65521 * 65521).toInt32 / 256), .int (((((((7919 * ((x1 : Int32)).toInt64) + (6151 * ((x4 : Int32)).toInt64)) + 1) * (((7919 * ((x1 : Int32)).toInt64) + (6151 * ((x4 : Int32)).toInt64)) + 1)) - ((((7919 * ((x1 : Int32)).toInt64) + (6151 * ((x4 : Int32)).toInt64)) + 1) * (((7919 * ((x1 : Int32)).toInt64) + (6151 * ((x4 : Int32)).toInt64)) + 1)) / 65521 * 65521).toInt32 / 4) - ((((((7919 * ((x1 : Int32)).toInt64) + (6151 * ((x4 : Int32)).toInt64)) + 1) * (((7919 * ((x1 : Int32)).toInt64) + (6151 * ((x4 : Int32)).toInt64)) + 1)) - ((((7919 * ((x1 : Int32)).toInt64) + (6151 * ((x4 : Int32)).toInt64)) + 1) * (((7919 * ((x1 : Int32)).toInt64) + (6151 * ((x4 : Int32)).toInt64)) + 1)) / 65521 * 65521).toInt32 / 4) / M.1 83 1 * M.1 83 1), .ref 83]) rfl ?_
  refine R_dv q140 rfl (Or.inr ⟨rfl, rfl⟩) h2 ?_
  show Rm E 140 139 [vr 83, vi x1, vi x2, vi x3, vi x4, vl (((7919 * ((x1 : Int32)).toInt64) + (6151 * ((x4 : Int32)).toInt64)) + 1), vn, vi ((((((7919 * ((x1 : Int32)).toInt64) + (6151 * ((x4 : Int32)).toInt64)) + 1) * (((7919 * ((x1 : Int32)).toInt64) + (6151 * ((x4 : Int32)).toInt64)) + 1)) - ((((7919 * ((x1 : Int32)).toInt64) + (6151 * ((x4 : Int32)).toInt64)) + 1) * (((7919 * ((x1 : Int32)).toInt64) + (6151 * ((x4 : Int32)).toInt64)) + 1)) / 65521 * 65521).toInt32), vi ((((((((7919 * ((x1 : Int32)).toInt64) + (6151 * ((x4 : Int32)).toInt64)) + 1) * (((7919 * ((x1 : Int32)).toInt64) + (6151 * ((x4 : Int32)).toInt64)) + 1)) - ((((7919 * ((x1 : Int32)).toInt64) + (6151 * ((x4 : Int32)).toInt64)) + 1) * (((7919 * ((x1 : Int32)).toInt64) + (6151 * ((x4 : Int32)).toInt64)) + 1)) / 65521 * 65521).toInt32 / 64) - ((((((7919 * ((x1 : Int32)).toInt64) + (6151 * ((x4 : Int32)).toInt64)) + 1) * (((7919 * ((x1 : Int32)).toInt64) + (6151 * ((x4 : Int32)).toInt64)) + 1)) - ((((7919 * ((x1 : Int32)).toInt64) + (6151 * ((x4 : Int32)).toInt64)) + 1) * (((7919 * ((x1 : Int32)).toInt64) + (6151 * ((x4 : Int32)).toInt64)) + 1)) / 65521 * 65521).toInt32 / 64) / 41 * 41) - 20)] [.int (((((((7919 * ((x1 : Int32)).toInt64) + (6151 * ((x4 : Int32)).toInt64)) + 1) * (((7919 * ((x1 : Int32)).toInt64) + (6151 * ((x4 : Int32)).toInt64)) + 1)) - ((((7919 * ((x1 : Int32)).toInt64) + (6151 * ((x4 : Int32)).toInt64)) + 1) * (((7919 * ((x1 : Int32)).toInt64) + (6151 * ((x4 : Int32)).toInt64)) + 1)) / 65521 * 65521).toInt32 / 256) - ((((((7919 * ((x1 : Int32)).toInt64) + (6151 * ((x4 : Int32)).toInt64)) + 1) * (((7919 * ((x1 : Int32)).toInt64) + (6151 * ((x4 : Int32)).toInt64)) + 1)) - ((((7919 * ((x1 : Int32)).toInt64) + (6151 * ((x4 : Int32)).toInt64)) + 1) * (((7919 * ((x1 : Int32)).toInt64) + (6151 * ((x4 : Int32)).toInt64)) + 1)) / 65521 * 65521).toInt32 / 256) / M.1 83 1 * M.1 83 1), .int (((((((7919 * ((x1 : Int32)).toInt64) + (6151 * ((x4 : Int32)).toInt64)) + 1) * (((7919 * ((x1 : Int32)).toInt64) + (6151 * ((x4 : Int32)).toInt64)) + 1)) - ((((7919 * ((x1 : Int32)).toInt64) + (6151 * ((x4 : Int32)).toInt64)) + 1) * (((7919 * ((x1 : Int32)).toInt64) + (6151 * ((x4 : Int32)).toInt64)) + 1)) / 65521 * 65521).toInt32 / 4) - ((((((7919 * ((x1 : Int32)).toInt64) + (6151 * ((x4 : Int32)).toInt64)) + 1) * (((7919 * ((x1 : Int32)).toInt64) + (6151 * ((x4 : Int32)).toInt64)) + 1)) - ((((7919 * ((x1 : Int32)).toInt64) + (6151 * ((x4 : Int32)).toInt64)) + 1) * (((7919 * ((x1 : Int32)).toInt64) + (6151 * ((x4 : Int32)).toInt64)) + 1)) / 65521 * 65521).toInt32 / 4) / M.1 83 1 * M.1 83 1), .ref 83] M _ _
  refine R_call q140 rfl rfl rfl rfl rfl rfl h3 ?_
  show Rm E 140 142 [vr 83, vi x1, vi x2, vi x3, vi x4, vl (((7919 * ((x1 : Int32)).toInt64) + (6151 * ((x4 : Int32)).toInt64)) + 1), vn, vi ((((((7919 * ((x1 : Int32)).toInt64) + (6151 * ((x4 : Int32)).toInt64)) + 1) * (((7919 * ((x1 : Int32)).toInt64) + (6151 * ((x4 : Int32)).toInt64)) + 1)) - ((((7919 * ((x1 : Int32)).toInt64) + (6151 * ((x4 : Int32)).toInt64)) + 1) * (((7919 * ((x1 : Int32)).toInt64) + (6151 * ((x4 : Int32)).toInt64)) + 1)) / 65521 * 65521).toInt32), vi ((((((((7919 * ((x1 : Int32)).toInt64) + (6151 * ((x4 : Int32)).toInt64)) + 1) * (((7919 * ((x1 : Int32)).toInt64) + (6151 * ((x4 : Int32)).toInt64)) + 1)) - ((((7919 * ((x1 : Int32)).toInt64) + (6151 * ((x4 : Int32)).toInt64)) + 1) * (((7919 * ((x1 : Int32)).toInt64) + (6151 * ((x4 : Int32)).toInt64)) + 1)) / 65521 * 65521).toInt32 / 64) - ((((((7919 * ((x1 : Int32)).toInt64) + (6151 * ((x4 : Int32)).toInt64)) + 1) * (((7919 * ((x1 : Int32)).toInt64) + (6151 * ((x4 : Int32)).toInt64)) + 1)) - ((((7919 * ((x1 : Int32)).toInt64) + (6151 * ((x4 : Int32)).toInt64)) + 1) * (((7919 * ((x1 : Int32)).toInt64) + (6151 * ((x4 : Int32)).toInt64)) + 1)) / 65521 * 65521).toInt32 / 64) / 41 * 41) - 20)] [] N1 _ _
  refine R_S q140 5 (pc2 := 149) (ls2 := [vr 83, vi x1, vi x2, vi x3, vi x4, vl (((7919 * ((x1 : Int32)).toInt64) + (6151 * ((x4 : Int32)).toInt64)) + 1), vn, vi ((((((7919 * ((x1 : Int32)).toInt64) + (6151 * ((x4 : Int32)).toInt64)) + 1) * (((7919 * ((x1 : Int32)).toInt64) + (6151 * ((x4 : Int32)).toInt64)) + 1)) - ((((7919 * ((x1 : Int32)).toInt64) + (6151 * ((x4 : Int32)).toInt64)) + 1) * (((7919 * ((x1 : Int32)).toInt64) + (6151 * ((x4 : Int32)).toInt64)) + 1)) / 65521 * 65521).toInt32), vi ((((((((7919 * ((x1 : Int32)).toInt64) + (6151 * ((x4 : Int32)).toInt64)) + 1) * (((7919 * ((x1 : Int32)).toInt64) + (6151 * ((x4 : Int32)).toInt64)) + 1)) - ((((7919 * ((x1 : Int32)).toInt64) + (6151 * ((x4 : Int32)).toInt64)) + 1) * (((7919 * ((x1 : Int32)).toInt64) + (6151 * ((x4 : Int32)).toInt64)) + 1)) / 65521 * 65521).toInt32 / 64) - ((((((7919 * ((x1 : Int32)).toInt64) + (6151 * ((x4 : Int32)).toInt64)) + 1) * (((7919 * ((x1 : Int32)).toInt64) + (6151 * ((x4 : Int32)).toInt64)) + 1)) - ((((7919 * ((x1 : Int32)).toInt64) + (6151 * ((x4 : Int32)).toInt64)) + 1) * (((7919 * ((x1 : Int32)).toInt64) + (6151 * ((x4 : Int32)).toInt64)) + 1)) / 65521 * 65521).toInt32 / 64) / 41 * 41) - 20)]) (st2 := [.int ((((((7919 * ((x1 : Int32)).toInt64) + (6151 * ((x4 : Int32)).toInt64)) + 1) * (((7919 * ((x1 : Int32)).toInt64) + (6151 * ((x4 : Int32)).toInt64)) + 1)) - ((((7919 * ((x1 : Int32)).toInt64) + (6151 * ((x4 : Int32)).toInt64)) + 1) * (((7919 * ((x1 : Int32)).toInt64) + (6151 * ((x4 : Int32)).toInt64)) + 1)) / 65521 * 65521).toInt32 - (((((7919 * ((x1 : Int32)).toInt64) + (6151 * ((x4 : Int32)).toInt64)) + 1) * (((7919 * ((x1 : Int32)).toInt64) + (6151 * ((x4 : Int32)).toInt64)) + 1)) - ((((7919 * ((x1 : Int32)).toInt64) + (6151 * ((x4 : Int32)).toInt64)) + 1) * (((7919 * ((x1 : Int32)).toInt64) + (6151 * ((x4 : Int32)).toInt64)) + 1)) / 65521 * 65521).toInt32 / 4 * 4), .int ((((((((7919 * ((x1 : Int32)).toInt64) + (6151 * ((x4 : Int32)).toInt64)) + 1) * (((7919 * ((x1 : Int32)).toInt64) + (6151 * ((x4 : Int32)).toInt64)) + 1)) - ((((7919 * ((x1 : Int32)).toInt64) + (6151 * ((x4 : Int32)).toInt64)) + 1) * (((7919 * ((x1 : Int32)).toInt64) + (6151 * ((x4 : Int32)).toInt64)) + 1)) / 65521 * 65521).toInt32 / 64) - ((((((7919 * ((x1 : Int32)).toInt64) + (6151 * ((x4 : Int32)).toInt64)) + 1) * (((7919 * ((x1 : Int32)).toInt64) + (6151 * ((x4 : Int32)).toInt64)) + 1)) - ((((7919 * ((x1 : Int32)).toInt64) + (6151 * ((x4 : Int32)).toInt64)) + 1) * (((7919 * ((x1 : Int32)).toInt64) + (6151 * ((x4 : Int32)).toInt64)) + 1)) / 65521 * 65521).toInt32 / 64) / 41 * 41) - 20), .ref 83]) rfl ?_
  refine R_call q140 rfl rfl rfl rfl rfl rfl h4 ?_
  show Rm E 140 152 [vr 83, vi x1, vi x2, vi x3, vi x4, vl (((7919 * ((x1 : Int32)).toInt64) + (6151 * ((x4 : Int32)).toInt64)) + 1), vn, vi ((((((7919 * ((x1 : Int32)).toInt64) + (6151 * ((x4 : Int32)).toInt64)) + 1) * (((7919 * ((x1 : Int32)).toInt64) + (6151 * ((x4 : Int32)).toInt64)) + 1)) - ((((7919 * ((x1 : Int32)).toInt64) + (6151 * ((x4 : Int32)).toInt64)) + 1) * (((7919 * ((x1 : Int32)).toInt64) + (6151 * ((x4 : Int32)).toInt64)) + 1)) / 65521 * 65521).toInt32), vi ((((((((7919 * ((x1 : Int32)).toInt64) + (6151 * ((x4 : Int32)).toInt64)) + 1) * (((7919 * ((x1 : Int32)).toInt64) + (6151 * ((x4 : Int32)).toInt64)) + 1)) - ((((7919 * ((x1 : Int32)).toInt64) + (6151 * ((x4 : Int32)).toInt64)) + 1) * (((7919 * ((x1 : Int32)).toInt64) + (6151 * ((x4 : Int32)).toInt64)) + 1)) / 65521 * 65521).toInt32 / 64) - ((((((7919 * ((x1 : Int32)).toInt64) + (6151 * ((x4 : Int32)).toInt64)) + 1) * (((7919 * ((x1 : Int32)).toInt64) + (6151 * ((x4 : Int32)).toInt64)) + 1)) - ((((7919 * ((x1 : Int32)).toInt64) + (6151 * ((x4 : Int32)).toInt64)) + 1) * (((7919 * ((x1 : Int32)).toInt64) + (6151 * ((x4 : Int32)).toInt64)) + 1)) / 65521 * 65521).toInt32 / 64) / 41 * 41) - 20)] [.int c2] N1 _ _
  refine R_ift q140 rfl (decide_eq_true h5) ?_
  show Rm E 140 165 [vr 83, vi x1, vi x2, vi x3, vi x4, vl (((7919 * ((x1 : Int32)).toInt64) + (6151 * ((x4 : Int32)).toInt64)) + 1), vn, vi ((((((7919 * ((x1 : Int32)).toInt64) + (6151 * ((x4 : Int32)).toInt64)) + 1) * (((7919 * ((x1 : Int32)).toInt64) + (6151 * ((x4 : Int32)).toInt64)) + 1)) - ((((7919 * ((x1 : Int32)).toInt64) + (6151 * ((x4 : Int32)).toInt64)) + 1) * (((7919 * ((x1 : Int32)).toInt64) + (6151 * ((x4 : Int32)).toInt64)) + 1)) / 65521 * 65521).toInt32), vi ((((((((7919 * ((x1 : Int32)).toInt64) + (6151 * ((x4 : Int32)).toInt64)) + 1) * (((7919 * ((x1 : Int32)).toInt64) + (6151 * ((x4 : Int32)).toInt64)) + 1)) - ((((7919 * ((x1 : Int32)).toInt64) + (6151 * ((x4 : Int32)).toInt64)) + 1) * (((7919 * ((x1 : Int32)).toInt64) + (6151 * ((x4 : Int32)).toInt64)) + 1)) / 65521 * 65521).toInt32 / 64) - ((((((7919 * ((x1 : Int32)).toInt64) + (6151 * ((x4 : Int32)).toInt64)) + 1) * (((7919 * ((x1 : Int32)).toInt64) + (6151 * ((x4 : Int32)).toInt64)) + 1)) - ((((7919 * ((x1 : Int32)).toInt64) + (6151 * ((x4 : Int32)).toInt64)) + 1) * (((7919 * ((x1 : Int32)).toInt64) + (6151 * ((x4 : Int32)).toInt64)) + 1)) / 65521 * 65521).toInt32 / 64) / 41 * 41) - 20)] [] N1 _ _
  refine R_S q140 2 (pc2 := 69) (ls2 := [vr 83, vi x1, vi x2, vi x3, vi (x4 + 1), vl (((7919 * ((x1 : Int32)).toInt64) + (6151 * ((x4 : Int32)).toInt64)) + 1), vn, vi ((((((7919 * ((x1 : Int32)).toInt64) + (6151 * ((x4 : Int32)).toInt64)) + 1) * (((7919 * ((x1 : Int32)).toInt64) + (6151 * ((x4 : Int32)).toInt64)) + 1)) - ((((7919 * ((x1 : Int32)).toInt64) + (6151 * ((x4 : Int32)).toInt64)) + 1) * (((7919 * ((x1 : Int32)).toInt64) + (6151 * ((x4 : Int32)).toInt64)) + 1)) / 65521 * 65521).toInt32), vi ((((((((7919 * ((x1 : Int32)).toInt64) + (6151 * ((x4 : Int32)).toInt64)) + 1) * (((7919 * ((x1 : Int32)).toInt64) + (6151 * ((x4 : Int32)).toInt64)) + 1)) - ((((7919 * ((x1 : Int32)).toInt64) + (6151 * ((x4 : Int32)).toInt64)) + 1) * (((7919 * ((x1 : Int32)).toInt64) + (6151 * ((x4 : Int32)).toInt64)) + 1)) / 65521 * 65521).toInt32 / 64) - ((((((7919 * ((x1 : Int32)).toInt64) + (6151 * ((x4 : Int32)).toInt64)) + 1) * (((7919 * ((x1 : Int32)).toInt64) + (6151 * ((x4 : Int32)).toInt64)) + 1)) - ((((7919 * ((x1 : Int32)).toInt64) + (6151 * ((x4 : Int32)).toInt64)) + 1) * (((7919 * ((x1 : Int32)).toInt64) + (6151 * ((x4 : Int32)).toInt64)) + 1)) / 65521 * 65521).toInt32 / 64) / 41 * 41) - 20)]) (st2 := []) rfl ?_
  exact R_w (ls := [vr 83, vi x1, vi x2, vi x3, vi (x4 + 1), vn, vn, vn, vn]) (show lsle _ _ from ⟨rfl, ⟨rfl, ⟨rfl, ⟨rfl, ⟨rfl, trivial⟩⟩⟩⟩⟩) k
-- 72- call X10_lays call X10_mayAdd 152- call X10_adds
theorem b140_69_3 {E : env} {M : mem} {rv : Option Value} {M2 : mem} {x1 x2 x3 x4 : Int32} {N1 : mem} {c2 : Int32} {N2 : mem} (h0 : ¬ (x2 ≤ x4)) (h1 : ¬ M.1 83 1 = 0) (h2 : ¬ M.1 83 1 = 0) (h3 : Rm E 105 0 [vr 83, vi (((((((7919 * ((x1 : Int32)).toInt64) + (6151 * ((x4 : Int32)).toInt64)) + 1) * (((7919 * ((x1 : Int32)).toInt64) + (6151 * ((x4 : Int32)).toInt64)) + 1)) - ((((7919 * ((x1 : Int32)).toInt64) + (6151 * ((x4 : Int32)).toInt64)) + 1) * (((7919 * ((x1 : Int32)).toInt64) + (6151 * ((x4 : Int32)).toInt64)) + 1)) / 65521 * 65521).toInt32 / 4) - ((((((7919 * ((x1 : Int32)).toInt64) + (6151 * ((x4 : Int32)).toInt64)) + 1) * (((7919 * ((x1 : Int32)).toInt64) + (6151 * ((x4 : Int32)).toInt64)) + 1)) - ((((7919 * ((x1 : Int32)).toInt64) + (6151 * ((x4 : Int32)).toInt64)) + 1) * (((7919 * ((x1 : Int32)).toInt64) + (6151 * ((x4 : Int32)).toInt64)) + 1)) / 65521 * 65521).toInt32 / 4) / M.1 83 1 * M.1 83 1), vi (((((((7919 * ((x1 : Int32)).toInt64) + (6151 * ((x4 : Int32)).toInt64)) + 1) * (((7919 * ((x1 : Int32)).toInt64) + (6151 * ((x4 : Int32)).toInt64)) + 1)) - ((((7919 * ((x1 : Int32)).toInt64) + (6151 * ((x4 : Int32)).toInt64)) + 1) * (((7919 * ((x1 : Int32)).toInt64) + (6151 * ((x4 : Int32)).toInt64)) + 1)) / 65521 * 65521).toInt32 / 256) - ((((((7919 * ((x1 : Int32)).toInt64) + (6151 * ((x4 : Int32)).toInt64)) + 1) * (((7919 * ((x1 : Int32)).toInt64) + (6151 * ((x4 : Int32)).toInt64)) + 1)) - ((((7919 * ((x1 : Int32)).toInt64) + (6151 * ((x4 : Int32)).toInt64)) + 1) * (((7919 * ((x1 : Int32)).toInt64) + (6151 * ((x4 : Int32)).toInt64)) + 1)) / 65521 * 65521).toInt32 / 256) / M.1 83 1 * M.1 83 1), vn, vn, vn, vn] [] M none N1) (h4 : Rm E 119 0 [vr 83, vi ((((((((7919 * ((x1 : Int32)).toInt64) + (6151 * ((x4 : Int32)).toInt64)) + 1) * (((7919 * ((x1 : Int32)).toInt64) + (6151 * ((x4 : Int32)).toInt64)) + 1)) - ((((7919 * ((x1 : Int32)).toInt64) + (6151 * ((x4 : Int32)).toInt64)) + 1) * (((7919 * ((x1 : Int32)).toInt64) + (6151 * ((x4 : Int32)).toInt64)) + 1)) / 65521 * 65521).toInt32 / 64) - ((((((7919 * ((x1 : Int32)).toInt64) + (6151 * ((x4 : Int32)).toInt64)) + 1) * (((7919 * ((x1 : Int32)).toInt64) + (6151 * ((x4 : Int32)).toInt64)) + 1)) - ((((7919 * ((x1 : Int32)).toInt64) + (6151 * ((x4 : Int32)).toInt64)) + 1) * (((7919 * ((x1 : Int32)).toInt64) + (6151 * ((x4 : Int32)).toInt64)) + 1)) / 65521 * 65521).toInt32 / 64) / 41 * 41) - 20), vi ((((((7919 * ((x1 : Int32)).toInt64) + (6151 * ((x4 : Int32)).toInt64)) + 1) * (((7919 * ((x1 : Int32)).toInt64) + (6151 * ((x4 : Int32)).toInt64)) + 1)) - ((((7919 * ((x1 : Int32)).toInt64) + (6151 * ((x4 : Int32)).toInt64)) + 1) * (((7919 * ((x1 : Int32)).toInt64) + (6151 * ((x4 : Int32)).toInt64)) + 1)) / 65521 * 65521).toInt32 - (((((7919 * ((x1 : Int32)).toInt64) + (6151 * ((x4 : Int32)).toInt64)) + 1) * (((7919 * ((x1 : Int32)).toInt64) + (6151 * ((x4 : Int32)).toInt64)) + 1)) - ((((7919 * ((x1 : Int32)).toInt64) + (6151 * ((x4 : Int32)).toInt64)) + 1) * (((7919 * ((x1 : Int32)).toInt64) + (6151 * ((x4 : Int32)).toInt64)) + 1)) / 65521 * 65521).toInt32 / 4 * 4), vn, vn] [] N1 (some (.int c2)) N1) (h5 : ¬ (c2 = 0)) (h6 : Rm E 120 0 [vr 83, vi ((((((((7919 * ((x1 : Int32)).toInt64) + (6151 * ((x4 : Int32)).toInt64)) + 1) * (((7919 * ((x1 : Int32)).toInt64) + (6151 * ((x4 : Int32)).toInt64)) + 1)) - ((((7919 * ((x1 : Int32)).toInt64) + (6151 * ((x4 : Int32)).toInt64)) + 1) * (((7919 * ((x1 : Int32)).toInt64) + (6151 * ((x4 : Int32)).toInt64)) + 1)) / 65521 * 65521).toInt32 / 64) - ((((((7919 * ((x1 : Int32)).toInt64) + (6151 * ((x4 : Int32)).toInt64)) + 1) * (((7919 * ((x1 : Int32)).toInt64) + (6151 * ((x4 : Int32)).toInt64)) + 1)) - ((((7919 * ((x1 : Int32)).toInt64) + (6151 * ((x4 : Int32)).toInt64)) + 1) * (((7919 * ((x1 : Int32)).toInt64) + (6151 * ((x4 : Int32)).toInt64)) + 1)) / 65521 * 65521).toInt32 / 64) / 41 * 41) - 20), vi ((((((7919 * ((x1 : Int32)).toInt64) + (6151 * ((x4 : Int32)).toInt64)) + 1) * (((7919 * ((x1 : Int32)).toInt64) + (6151 * ((x4 : Int32)).toInt64)) + 1)) - ((((7919 * ((x1 : Int32)).toInt64) + (6151 * ((x4 : Int32)).toInt64)) + 1) * (((7919 * ((x1 : Int32)).toInt64) + (6151 * ((x4 : Int32)).toInt64)) + 1)) / 65521 * 65521).toInt32 - (((((7919 * ((x1 : Int32)).toInt64) + (6151 * ((x4 : Int32)).toInt64)) + 1) * (((7919 * ((x1 : Int32)).toInt64) + (6151 * ((x4 : Int32)).toInt64)) + 1)) - ((((7919 * ((x1 : Int32)).toInt64) + (6151 * ((x4 : Int32)).toInt64)) + 1) * (((7919 * ((x1 : Int32)).toInt64) + (6151 * ((x4 : Int32)).toInt64)) + 1)) / 65521 * 65521).toInt32 / 4 * 4), vn] [] N1 none N2) (k : Rm E 140 69 [vr 83, vi x1, vi x2, vi x3, vi (x4 + 1), vn, vn, vn, vn] [] N2 rv M2) : Rm E 140 69 [vr 83, vi x1, vi x2, vi x3, vi x4, vn, vn, vn, vn] [] M rv M2 := by
  refine R_S q140 2 (pc2 := 72) (ls2 := [vr 83, vi x1, vi x2, vi x3, vi x4, vn, vn, vn, vn]) (st2 := [.int x2, .int x4]) rfl ?_
  refine R_icf q140 rfl (decide_eq_false h0) ?_
  show Rm E 140 75 [vr 83, vi x1, vi x2, vi x3, vi x4, vn, vn, vn, vn] [] M _ _
  refine R_S q140 33 (pc2 := 127) (ls2 := [vr 83, vi x1, vi x2, vi x3, vi x4, vl (((7919 * ((x1 : Int32)).toInt64) + (6151 * ((x4 : Int32)).toInt64)) + 1), vn, vi ((((((7919 * ((x1 : Int32)).toInt64) + (6151 * ((x4 : Int32)).toInt64)) + 1) * (((7919 * ((x1 : Int32)).toInt64) + (6151 * ((x4 : Int32)).toInt64)) + 1)) - ((((7919 * ((x1 : Int32)).toInt64) + (6151 * ((x4 : Int32)).toInt64)) + 1) * (((7919 * ((x1 : Int32)).toInt64) + (6151 * ((x4 : Int32)).toInt64)) + 1)) / 65521 * 65521).toInt32), vi ((((((((7919 * ((x1 : Int32)).toInt64) + (6151 * ((x4 : Int32)).toInt64)) + 1) * (((7919 * ((x1 : Int32)).toInt64) + (6151 * ((x4 : Int32)).toInt64)) + 1)) - ((((7919 * ((x1 : Int32)).toInt64) + (6151 * ((x4 : Int32)).toInt64)) + 1) * (((7919 * ((x1 : Int32)).toInt64) + (6151 * ((x4 : Int32)).toInt64)) + 1)) / 65521 * 65521).toInt32 / 64) - ((((((7919 * ((x1 : Int32)).toInt64) + (6151 * ((x4 : Int32)).toInt64)) + 1) * (((7919 * ((x1 : Int32)).toInt64) + (6151 * ((x4 : Int32)).toInt64)) + 1)) - ((((7919 * ((x1 : Int32)).toInt64) + (6151 * ((x4 : Int32)).toInt64)) + 1) * (((7919 * ((x1 : Int32)).toInt64) + (6151 * ((x4 : Int32)).toInt64)) + 1)) / 65521 * 65521).toInt32 / 64) / 41 * 41) - 20)]) (st2 := [.int (M.1 83 1), .int ((((((7919 * ((x1 : Int32)).toInt64) + (6151 * ((x4 : Int32)).toInt64)) + 1) * (((7919 * ((x1 : Int32)).toInt64) + (6151 * ((x4 : Int32)).toInt64)) + 1)) - ((((7919 * ((x1 : Int32)).toInt64) + (6151 * ((x4 : Int32)).toInt64)) + 1) * (((7919 * ((x1 : Int32)).toInt64) + (6151 * ((x4 : Int32)).toInt64)) + 1)) / 65521 * 65521).toInt32 / 4), .ref 83]) rfl ?_
  refine R_dv q140 rfl (Or.inr ⟨rfl, rfl⟩) h1 ?_
  show Rm E 140 128 [vr 83, vi x1, vi x2, vi x3, vi x4, vl (((7919 * ((x1 : Int32)).toInt64) + (6151 * ((x4 : Int32)).toInt64)) + 1), vn, vi ((((((7919 * ((x1 : Int32)).toInt64) + (6151 * ((x4 : Int32)).toInt64)) + 1) * (((7919 * ((x1 : Int32)).toInt64) + (6151 * ((x4 : Int32)).toInt64)) + 1)) - ((((7919 * ((x1 : Int32)).toInt64) + (6151 * ((x4 : Int32)).toInt64)) + 1) * (((7919 * ((x1 : Int32)).toInt64) + (6151 * ((x4 : Int32)).toInt64)) + 1)) / 65521 * 65521).toInt32), vi ((((((((7919 * ((x1 : Int32)).toInt64) + (6151 * ((x4 : Int32)).toInt64)) + 1) * (((7919 * ((x1 : Int32)).toInt64) + (6151 * ((x4 : Int32)).toInt64)) + 1)) - ((((7919 * ((x1 : Int32)).toInt64) + (6151 * ((x4 : Int32)).toInt64)) + 1) * (((7919 * ((x1 : Int32)).toInt64) + (6151 * ((x4 : Int32)).toInt64)) + 1)) / 65521 * 65521).toInt32 / 64) - ((((((7919 * ((x1 : Int32)).toInt64) + (6151 * ((x4 : Int32)).toInt64)) + 1) * (((7919 * ((x1 : Int32)).toInt64) + (6151 * ((x4 : Int32)).toInt64)) + 1)) - ((((7919 * ((x1 : Int32)).toInt64) + (6151 * ((x4 : Int32)).toInt64)) + 1) * (((7919 * ((x1 : Int32)).toInt64) + (6151 * ((x4 : Int32)).toInt64)) + 1)) / 65521 * 65521).toInt32 / 64) / 41 * 41) - 20)] [.int (((((((7919 * ((x1 : Int32)).toInt64) + (6151 * ((x4 : Int32)).toInt64)) + 1) * (((7919 * ((x1 : Int32)).toInt64) + (6151 * ((x4 : Int32)).toInt64)) + 1)) - ((((7919 * ((x1 : Int32)).toInt64) + (6151 * ((x4 : Int32)).toInt64)) + 1) * (((7919 * ((x1 : Int32)).toInt64) + (6151 * ((x4 : Int32)).toInt64)) + 1)) / 65521 * 65521).toInt32 / 4) - ((((((7919 * ((x1 : Int32)).toInt64) + (6151 * ((x4 : Int32)).toInt64)) + 1) * (((7919 * ((x1 : Int32)).toInt64) + (6151 * ((x4 : Int32)).toInt64)) + 1)) - ((((7919 * ((x1 : Int32)).toInt64) + (6151 * ((x4 : Int32)).toInt64)) + 1) * (((7919 * ((x1 : Int32)).toInt64) + (6151 * ((x4 : Int32)).toInt64)) + 1)) / 65521 * 65521).toInt32 / 4) / M.1 83 1 * M.1 83 1), .ref 83] M _ _
  refine R_S q140 5 (pc2 := 138) (ls2 := [vr 83, vi x1, vi x2, vi x3, vi x4, vl (((7919 * ((x1 : Int32)).toInt64) + (6151 * ((x4 : Int32)).toInt64)) + 1), vn, vi ((((((7919 * ((x1 : Int32)).toInt64) + (6151 * ((x4 : Int32)).toInt64)) + 1) * (((7919 * ((x1 : Int32)).toInt64) + (6151 * ((x4 : Int32)).toInt64)) + 1)) - ((((7919 * ((x1 : Int32)).toInt64) + (6151 * ((x4 : Int32)).toInt64)) + 1) * (((7919 * ((x1 : Int32)).toInt64) + (6151 * ((x4 : Int32)).toInt64)) + 1)) / 65521 * 65521).toInt32), vi ((((((((7919 * ((x1 : Int32)).toInt64) + (6151 * ((x4 : Int32)).toInt64)) + 1) * (((7919 * ((x1 : Int32)).toInt64) + (6151 * ((x4 : Int32)).toInt64)) + 1)) - ((((7919 * ((x1 : Int32)).toInt64) + (6151 * ((x4 : Int32)).toInt64)) + 1) * (((7919 * ((x1 : Int32)).toInt64) + (6151 * ((x4 : Int32)).toInt64)) + 1)) / 65521 * 65521).toInt32 / 64) - ((((((7919 * ((x1 : Int32)).toInt64) + (6151 * ((x4 : Int32)).toInt64)) + 1) * (((7919 * ((x1 : Int32)).toInt64) + (6151 * ((x4 : Int32)).toInt64)) + 1)) - ((((7919 * ((x1 : Int32)).toInt64) + (6151 * ((x4 : Int32)).toInt64)) + 1) * (((7919 * ((x1 : Int32)).toInt64) + (6151 * ((x4 : Int32)).toInt64)) + 1)) / 65521 * 65521).toInt32 / 64) / 41 * 41) - 20)]) (st2 := [.int (M.1 83 1), .int ((((((7919 * ((x1 : Int32)).toInt64) + (6151 * ((x4 : Int32)).toInt64)) + 1) * (((7919 * ((x1 : Int32)).toInt64) + (6151 * ((x4 : Int32)).toInt64)) + 1)) - ((((7919 * ((x1 : Int32)).toInt64) + (6151 * ((x4 : Int32)).toInt64)) + 1) * (((7919 * ((x1 : Int32)).toInt64) + (6151 * ((x4 : Int32)).toInt64)) + 1)) / 65521 * 65521).toInt32 / 256), .int (((((((7919 * ((x1 : Int32)).toInt64) + (6151 * ((x4 : Int32)).toInt64)) + 1) * (((7919 * ((x1 : Int32)).toInt64) + (6151 * ((x4 : Int32)).toInt64)) + 1)) - ((((7919 * ((x1 : Int32)).toInt64) + (6151 * ((x4 : Int32)).toInt64)) + 1) * (((7919 * ((x1 : Int32)).toInt64) + (6151 * ((x4 : Int32)).toInt64)) + 1)) / 65521 * 65521).toInt32 / 4) - ((((((7919 * ((x1 : Int32)).toInt64) + (6151 * ((x4 : Int32)).toInt64)) + 1) * (((7919 * ((x1 : Int32)).toInt64) + (6151 * ((x4 : Int32)).toInt64)) + 1)) - ((((7919 * ((x1 : Int32)).toInt64) + (6151 * ((x4 : Int32)).toInt64)) + 1) * (((7919 * ((x1 : Int32)).toInt64) + (6151 * ((x4 : Int32)).toInt64)) + 1)) / 65521 * 65521).toInt32 / 4) / M.1 83 1 * M.1 83 1), .ref 83]) rfl ?_
  refine R_dv q140 rfl (Or.inr ⟨rfl, rfl⟩) h2 ?_
  show Rm E 140 139 [vr 83, vi x1, vi x2, vi x3, vi x4, vl (((7919 * ((x1 : Int32)).toInt64) + (6151 * ((x4 : Int32)).toInt64)) + 1), vn, vi ((((((7919 * ((x1 : Int32)).toInt64) + (6151 * ((x4 : Int32)).toInt64)) + 1) * (((7919 * ((x1 : Int32)).toInt64) + (6151 * ((x4 : Int32)).toInt64)) + 1)) - ((((7919 * ((x1 : Int32)).toInt64) + (6151 * ((x4 : Int32)).toInt64)) + 1) * (((7919 * ((x1 : Int32)).toInt64) + (6151 * ((x4 : Int32)).toInt64)) + 1)) / 65521 * 65521).toInt32), vi ((((((((7919 * ((x1 : Int32)).toInt64) + (6151 * ((x4 : Int32)).toInt64)) + 1) * (((7919 * ((x1 : Int32)).toInt64) + (6151 * ((x4 : Int32)).toInt64)) + 1)) - ((((7919 * ((x1 : Int32)).toInt64) + (6151 * ((x4 : Int32)).toInt64)) + 1) * (((7919 * ((x1 : Int32)).toInt64) + (6151 * ((x4 : Int32)).toInt64)) + 1)) / 65521 * 65521).toInt32 / 64) - ((((((7919 * ((x1 : Int32)).toInt64) + (6151 * ((x4 : Int32)).toInt64)) + 1) * (((7919 * ((x1 : Int32)).toInt64) + (6151 * ((x4 : Int32)).toInt64)) + 1)) - ((((7919 * ((x1 : Int32)).toInt64) + (6151 * ((x4 : Int32)).toInt64)) + 1) * (((7919 * ((x1 : Int32)).toInt64) + (6151 * ((x4 : Int32)).toInt64)) + 1)) / 65521 * 65521).toInt32 / 64) / 41 * 41) - 20)] [.int (((((((7919 * ((x1 : Int32)).toInt64) + (6151 * ((x4 : Int32)).toInt64)) + 1) * (((7919 * ((x1 : Int32)).toInt64) + (6151 * ((x4 : Int32)).toInt64)) + 1)) - ((((7919 * ((x1 : Int32)).toInt64) + (6151 * ((x4 : Int32)).toInt64)) + 1) * (((7919 * ((x1 : Int32)).toInt64) + (6151 * ((x4 : Int32)).toInt64)) + 1)) / 65521 * 65521).toInt32 / 256) - ((((((7919 * ((x1 : Int32)).toInt64) + (6151 * ((x4 : Int32)).toInt64)) + 1) * (((7919 * ((x1 : Int32)).toInt64) + (6151 * ((x4 : Int32)).toInt64)) + 1)) - ((((7919 * ((x1 : Int32)).toInt64) + (6151 * ((x4 : Int32)).toInt64)) + 1) * (((7919 * ((x1 : Int32)).toInt64) + (6151 * ((x4 : Int32)).toInt64)) + 1)) / 65521 * 65521).toInt32 / 256) / M.1 83 1 * M.1 83 1), .int (((((((7919 * ((x1 : Int32)).toInt64) + (6151 * ((x4 : Int32)).toInt64)) + 1) * (((7919 * ((x1 : Int32)).toInt64) + (6151 * ((x4 : Int32)).toInt64)) + 1)) - ((((7919 * ((x1 : Int32)).toInt64) + (6151 * ((x4 : Int32)).toInt64)) + 1) * (((7919 * ((x1 : Int32)).toInt64) + (6151 * ((x4 : Int32)).toInt64)) + 1)) / 65521 * 65521).toInt32 / 4) - ((((((7919 * ((x1 : Int32)).toInt64) + (6151 * ((x4 : Int32)).toInt64)) + 1) * (((7919 * ((x1 : Int32)).toInt64) + (6151 * ((x4 : Int32)).toInt64)) + 1)) - ((((7919 * ((x1 : Int32)).toInt64) + (6151 * ((x4 : Int32)).toInt64)) + 1) * (((7919 * ((x1 : Int32)).toInt64) + (6151 * ((x4 : Int32)).toInt64)) + 1)) / 65521 * 65521).toInt32 / 4) / M.1 83 1 * M.1 83 1), .ref 83] M _ _
  refine R_call q140 rfl rfl rfl rfl rfl rfl h3 ?_
  show Rm E 140 142 [vr 83, vi x1, vi x2, vi x3, vi x4, vl (((7919 * ((x1 : Int32)).toInt64) + (6151 * ((x4 : Int32)).toInt64)) + 1), vn, vi ((((((7919 * ((x1 : Int32)).toInt64) + (6151 * ((x4 : Int32)).toInt64)) + 1) * (((7919 * ((x1 : Int32)).toInt64) + (6151 * ((x4 : Int32)).toInt64)) + 1)) - ((((7919 * ((x1 : Int32)).toInt64) + (6151 * ((x4 : Int32)).toInt64)) + 1) * (((7919 * ((x1 : Int32)).toInt64) + (6151 * ((x4 : Int32)).toInt64)) + 1)) / 65521 * 65521).toInt32), vi ((((((((7919 * ((x1 : Int32)).toInt64) + (6151 * ((x4 : Int32)).toInt64)) + 1) * (((7919 * ((x1 : Int32)).toInt64) + (6151 * ((x4 : Int32)).toInt64)) + 1)) - ((((7919 * ((x1 : Int32)).toInt64) + (6151 * ((x4 : Int32)).toInt64)) + 1) * (((7919 * ((x1 : Int32)).toInt64) + (6151 * ((x4 : Int32)).toInt64)) + 1)) / 65521 * 65521).toInt32 / 64) - ((((((7919 * ((x1 : Int32)).toInt64) + (6151 * ((x4 : Int32)).toInt64)) + 1) * (((7919 * ((x1 : Int32)).toInt64) + (6151 * ((x4 : Int32)).toInt64)) + 1)) - ((((7919 * ((x1 : Int32)).toInt64) + (6151 * ((x4 : Int32)).toInt64)) + 1) * (((7919 * ((x1 : Int32)).toInt64) + (6151 * ((x4 : Int32)).toInt64)) + 1)) / 65521 * 65521).toInt32 / 64) / 41 * 41) - 20)] [] N1 _ _
  refine R_S q140 5 (pc2 := 149) (ls2 := [vr 83, vi x1, vi x2, vi x3, vi x4, vl (((7919 * ((x1 : Int32)).toInt64) + (6151 * ((x4 : Int32)).toInt64)) + 1), vn, vi ((((((7919 * ((x1 : Int32)).toInt64) + (6151 * ((x4 : Int32)).toInt64)) + 1) * (((7919 * ((x1 : Int32)).toInt64) + (6151 * ((x4 : Int32)).toInt64)) + 1)) - ((((7919 * ((x1 : Int32)).toInt64) + (6151 * ((x4 : Int32)).toInt64)) + 1) * (((7919 * ((x1 : Int32)).toInt64) + (6151 * ((x4 : Int32)).toInt64)) + 1)) / 65521 * 65521).toInt32), vi ((((((((7919 * ((x1 : Int32)).toInt64) + (6151 * ((x4 : Int32)).toInt64)) + 1) * (((7919 * ((x1 : Int32)).toInt64) + (6151 * ((x4 : Int32)).toInt64)) + 1)) - ((((7919 * ((x1 : Int32)).toInt64) + (6151 * ((x4 : Int32)).toInt64)) + 1) * (((7919 * ((x1 : Int32)).toInt64) + (6151 * ((x4 : Int32)).toInt64)) + 1)) / 65521 * 65521).toInt32 / 64) - ((((((7919 * ((x1 : Int32)).toInt64) + (6151 * ((x4 : Int32)).toInt64)) + 1) * (((7919 * ((x1 : Int32)).toInt64) + (6151 * ((x4 : Int32)).toInt64)) + 1)) - ((((7919 * ((x1 : Int32)).toInt64) + (6151 * ((x4 : Int32)).toInt64)) + 1) * (((7919 * ((x1 : Int32)).toInt64) + (6151 * ((x4 : Int32)).toInt64)) + 1)) / 65521 * 65521).toInt32 / 64) / 41 * 41) - 20)]) (st2 := [.int ((((((7919 * ((x1 : Int32)).toInt64) + (6151 * ((x4 : Int32)).toInt64)) + 1) * (((7919 * ((x1 : Int32)).toInt64) + (6151 * ((x4 : Int32)).toInt64)) + 1)) - ((((7919 * ((x1 : Int32)).toInt64) + (6151 * ((x4 : Int32)).toInt64)) + 1) * (((7919 * ((x1 : Int32)).toInt64) + (6151 * ((x4 : Int32)).toInt64)) + 1)) / 65521 * 65521).toInt32 - (((((7919 * ((x1 : Int32)).toInt64) + (6151 * ((x4 : Int32)).toInt64)) + 1) * (((7919 * ((x1 : Int32)).toInt64) + (6151 * ((x4 : Int32)).toInt64)) + 1)) - ((((7919 * ((x1 : Int32)).toInt64) + (6151 * ((x4 : Int32)).toInt64)) + 1) * (((7919 * ((x1 : Int32)).toInt64) + (6151 * ((x4 : Int32)).toInt64)) + 1)) / 65521 * 65521).toInt32 / 4 * 4), .int ((((((((7919 * ((x1 : Int32)).toInt64) + (6151 * ((x4 : Int32)).toInt64)) + 1) * (((7919 * ((x1 : Int32)).toInt64) + (6151 * ((x4 : Int32)).toInt64)) + 1)) - ((((7919 * ((x1 : Int32)).toInt64) + (6151 * ((x4 : Int32)).toInt64)) + 1) * (((7919 * ((x1 : Int32)).toInt64) + (6151 * ((x4 : Int32)).toInt64)) + 1)) / 65521 * 65521).toInt32 / 64) - ((((((7919 * ((x1 : Int32)).toInt64) + (6151 * ((x4 : Int32)).toInt64)) + 1) * (((7919 * ((x1 : Int32)).toInt64) + (6151 * ((x4 : Int32)).toInt64)) + 1)) - ((((7919 * ((x1 : Int32)).toInt64) + (6151 * ((x4 : Int32)).toInt64)) + 1) * (((7919 * ((x1 : Int32)).toInt64) + (6151 * ((x4 : Int32)).toInt64)) + 1)) / 65521 * 65521).toInt32 / 64) / 41 * 41) - 20), .ref 83]) rfl ?_
  refine R_call q140 rfl rfl rfl rfl rfl rfl h4 ?_
  show Rm E 140 152 [vr 83, vi x1, vi x2, vi x3, vi x4, vl (((7919 * ((x1 : Int32)).toInt64) + (6151 * ((x4 : Int32)).toInt64)) + 1), vn, vi ((((((7919 * ((x1 : Int32)).toInt64) + (6151 * ((x4 : Int32)).toInt64)) + 1) * (((7919 * ((x1 : Int32)).toInt64) + (6151 * ((x4 : Int32)).toInt64)) + 1)) - ((((7919 * ((x1 : Int32)).toInt64) + (6151 * ((x4 : Int32)).toInt64)) + 1) * (((7919 * ((x1 : Int32)).toInt64) + (6151 * ((x4 : Int32)).toInt64)) + 1)) / 65521 * 65521).toInt32), vi ((((((((7919 * ((x1 : Int32)).toInt64) + (6151 * ((x4 : Int32)).toInt64)) + 1) * (((7919 * ((x1 : Int32)).toInt64) + (6151 * ((x4 : Int32)).toInt64)) + 1)) - ((((7919 * ((x1 : Int32)).toInt64) + (6151 * ((x4 : Int32)).toInt64)) + 1) * (((7919 * ((x1 : Int32)).toInt64) + (6151 * ((x4 : Int32)).toInt64)) + 1)) / 65521 * 65521).toInt32 / 64) - ((((((7919 * ((x1 : Int32)).toInt64) + (6151 * ((x4 : Int32)).toInt64)) + 1) * (((7919 * ((x1 : Int32)).toInt64) + (6151 * ((x4 : Int32)).toInt64)) + 1)) - ((((7919 * ((x1 : Int32)).toInt64) + (6151 * ((x4 : Int32)).toInt64)) + 1) * (((7919 * ((x1 : Int32)).toInt64) + (6151 * ((x4 : Int32)).toInt64)) + 1)) / 65521 * 65521).toInt32 / 64) / 41 * 41) - 20)] [.int c2] N1 _ _
  refine R_iff q140 rfl (decide_eq_false h5) ?_
  show Rm E 140 155 [vr 83, vi x1, vi x2, vi x3, vi x4, vl (((7919 * ((x1 : Int32)).toInt64) + (6151 * ((x4 : Int32)).toInt64)) + 1), vn, vi ((((((7919 * ((x1 : Int32)).toInt64) + (6151 * ((x4 : Int32)).toInt64)) + 1) * (((7919 * ((x1 : Int32)).toInt64) + (6151 * ((x4 : Int32)).toInt64)) + 1)) - ((((7919 * ((x1 : Int32)).toInt64) + (6151 * ((x4 : Int32)).toInt64)) + 1) * (((7919 * ((x1 : Int32)).toInt64) + (6151 * ((x4 : Int32)).toInt64)) + 1)) / 65521 * 65521).toInt32), vi ((((((((7919 * ((x1 : Int32)).toInt64) + (6151 * ((x4 : Int32)).toInt64)) + 1) * (((7919 * ((x1 : Int32)).toInt64) + (6151 * ((x4 : Int32)).toInt64)) + 1)) - ((((7919 * ((x1 : Int32)).toInt64) + (6151 * ((x4 : Int32)).toInt64)) + 1) * (((7919 * ((x1 : Int32)).toInt64) + (6151 * ((x4 : Int32)).toInt64)) + 1)) / 65521 * 65521).toInt32 / 64) - ((((((7919 * ((x1 : Int32)).toInt64) + (6151 * ((x4 : Int32)).toInt64)) + 1) * (((7919 * ((x1 : Int32)).toInt64) + (6151 * ((x4 : Int32)).toInt64)) + 1)) - ((((7919 * ((x1 : Int32)).toInt64) + (6151 * ((x4 : Int32)).toInt64)) + 1) * (((7919 * ((x1 : Int32)).toInt64) + (6151 * ((x4 : Int32)).toInt64)) + 1)) / 65521 * 65521).toInt32 / 64) / 41 * 41) - 20)] [] N1 _ _
  refine R_S q140 5 (pc2 := 162) (ls2 := [vr 83, vi x1, vi x2, vi x3, vi x4, vl (((7919 * ((x1 : Int32)).toInt64) + (6151 * ((x4 : Int32)).toInt64)) + 1), vn, vi ((((((7919 * ((x1 : Int32)).toInt64) + (6151 * ((x4 : Int32)).toInt64)) + 1) * (((7919 * ((x1 : Int32)).toInt64) + (6151 * ((x4 : Int32)).toInt64)) + 1)) - ((((7919 * ((x1 : Int32)).toInt64) + (6151 * ((x4 : Int32)).toInt64)) + 1) * (((7919 * ((x1 : Int32)).toInt64) + (6151 * ((x4 : Int32)).toInt64)) + 1)) / 65521 * 65521).toInt32), vi ((((((((7919 * ((x1 : Int32)).toInt64) + (6151 * ((x4 : Int32)).toInt64)) + 1) * (((7919 * ((x1 : Int32)).toInt64) + (6151 * ((x4 : Int32)).toInt64)) + 1)) - ((((7919 * ((x1 : Int32)).toInt64) + (6151 * ((x4 : Int32)).toInt64)) + 1) * (((7919 * ((x1 : Int32)).toInt64) + (6151 * ((x4 : Int32)).toInt64)) + 1)) / 65521 * 65521).toInt32 / 64) - ((((((7919 * ((x1 : Int32)).toInt64) + (6151 * ((x4 : Int32)).toInt64)) + 1) * (((7919 * ((x1 : Int32)).toInt64) + (6151 * ((x4 : Int32)).toInt64)) + 1)) - ((((7919 * ((x1 : Int32)).toInt64) + (6151 * ((x4 : Int32)).toInt64)) + 1) * (((7919 * ((x1 : Int32)).toInt64) + (6151 * ((x4 : Int32)).toInt64)) + 1)) / 65521 * 65521).toInt32 / 64) / 41 * 41) - 20)]) (st2 := [.int ((((((7919 * ((x1 : Int32)).toInt64) + (6151 * ((x4 : Int32)).toInt64)) + 1) * (((7919 * ((x1 : Int32)).toInt64) + (6151 * ((x4 : Int32)).toInt64)) + 1)) - ((((7919 * ((x1 : Int32)).toInt64) + (6151 * ((x4 : Int32)).toInt64)) + 1) * (((7919 * ((x1 : Int32)).toInt64) + (6151 * ((x4 : Int32)).toInt64)) + 1)) / 65521 * 65521).toInt32 - (((((7919 * ((x1 : Int32)).toInt64) + (6151 * ((x4 : Int32)).toInt64)) + 1) * (((7919 * ((x1 : Int32)).toInt64) + (6151 * ((x4 : Int32)).toInt64)) + 1)) - ((((7919 * ((x1 : Int32)).toInt64) + (6151 * ((x4 : Int32)).toInt64)) + 1) * (((7919 * ((x1 : Int32)).toInt64) + (6151 * ((x4 : Int32)).toInt64)) + 1)) / 65521 * 65521).toInt32 / 4 * 4), .int ((((((((7919 * ((x1 : Int32)).toInt64) + (6151 * ((x4 : Int32)).toInt64)) + 1) * (((7919 * ((x1 : Int32)).toInt64) + (6151 * ((x4 : Int32)).toInt64)) + 1)) - ((((7919 * ((x1 : Int32)).toInt64) + (6151 * ((x4 : Int32)).toInt64)) + 1) * (((7919 * ((x1 : Int32)).toInt64) + (6151 * ((x4 : Int32)).toInt64)) + 1)) / 65521 * 65521).toInt32 / 64) - ((((((7919 * ((x1 : Int32)).toInt64) + (6151 * ((x4 : Int32)).toInt64)) + 1) * (((7919 * ((x1 : Int32)).toInt64) + (6151 * ((x4 : Int32)).toInt64)) + 1)) - ((((7919 * ((x1 : Int32)).toInt64) + (6151 * ((x4 : Int32)).toInt64)) + 1) * (((7919 * ((x1 : Int32)).toInt64) + (6151 * ((x4 : Int32)).toInt64)) + 1)) / 65521 * 65521).toInt32 / 64) / 41 * 41) - 20), .ref 83]) rfl ?_
  refine R_call q140 rfl rfl rfl rfl rfl rfl h6 ?_
  show Rm E 140 165 [vr 83, vi x1, vi x2, vi x3, vi x4, vl (((7919 * ((x1 : Int32)).toInt64) + (6151 * ((x4 : Int32)).toInt64)) + 1), vn, vi ((((((7919 * ((x1 : Int32)).toInt64) + (6151 * ((x4 : Int32)).toInt64)) + 1) * (((7919 * ((x1 : Int32)).toInt64) + (6151 * ((x4 : Int32)).toInt64)) + 1)) - ((((7919 * ((x1 : Int32)).toInt64) + (6151 * ((x4 : Int32)).toInt64)) + 1) * (((7919 * ((x1 : Int32)).toInt64) + (6151 * ((x4 : Int32)).toInt64)) + 1)) / 65521 * 65521).toInt32), vi ((((((((7919 * ((x1 : Int32)).toInt64) + (6151 * ((x4 : Int32)).toInt64)) + 1) * (((7919 * ((x1 : Int32)).toInt64) + (6151 * ((x4 : Int32)).toInt64)) + 1)) - ((((7919 * ((x1 : Int32)).toInt64) + (6151 * ((x4 : Int32)).toInt64)) + 1) * (((7919 * ((x1 : Int32)).toInt64) + (6151 * ((x4 : Int32)).toInt64)) + 1)) / 65521 * 65521).toInt32 / 64) - ((((((7919 * ((x1 : Int32)).toInt64) + (6151 * ((x4 : Int32)).toInt64)) + 1) * (((7919 * ((x1 : Int32)).toInt64) + (6151 * ((x4 : Int32)).toInt64)) + 1)) - ((((7919 * ((x1 : Int32)).toInt64) + (6151 * ((x4 : Int32)).toInt64)) + 1) * (((7919 * ((x1 : Int32)).toInt64) + (6151 * ((x4 : Int32)).toInt64)) + 1)) / 65521 * 65521).toInt32 / 64) / 41 * 41) - 20)] [] N2 _ _
  refine R_S q140 2 (pc2 := 69) (ls2 := [vr 83, vi x1, vi x2, vi x3, vi (x4 + 1), vl (((7919 * ((x1 : Int32)).toInt64) + (6151 * ((x4 : Int32)).toInt64)) + 1), vn, vi ((((((7919 * ((x1 : Int32)).toInt64) + (6151 * ((x4 : Int32)).toInt64)) + 1) * (((7919 * ((x1 : Int32)).toInt64) + (6151 * ((x4 : Int32)).toInt64)) + 1)) - ((((7919 * ((x1 : Int32)).toInt64) + (6151 * ((x4 : Int32)).toInt64)) + 1) * (((7919 * ((x1 : Int32)).toInt64) + (6151 * ((x4 : Int32)).toInt64)) + 1)) / 65521 * 65521).toInt32), vi ((((((((7919 * ((x1 : Int32)).toInt64) + (6151 * ((x4 : Int32)).toInt64)) + 1) * (((7919 * ((x1 : Int32)).toInt64) + (6151 * ((x4 : Int32)).toInt64)) + 1)) - ((((7919 * ((x1 : Int32)).toInt64) + (6151 * ((x4 : Int32)).toInt64)) + 1) * (((7919 * ((x1 : Int32)).toInt64) + (6151 * ((x4 : Int32)).toInt64)) + 1)) / 65521 * 65521).toInt32 / 64) - ((((((7919 * ((x1 : Int32)).toInt64) + (6151 * ((x4 : Int32)).toInt64)) + 1) * (((7919 * ((x1 : Int32)).toInt64) + (6151 * ((x4 : Int32)).toInt64)) + 1)) - ((((7919 * ((x1 : Int32)).toInt64) + (6151 * ((x4 : Int32)).toInt64)) + 1) * (((7919 * ((x1 : Int32)).toInt64) + (6151 * ((x4 : Int32)).toInt64)) + 1)) / 65521 * 65521).toInt32 / 64) / 41 * 41) - 20)]) (st2 := []) rfl ?_
  exact R_w (ls := [vr 83, vi x1, vi x2, vi x3, vi (x4 + 1), vn, vn, vn, vn]) (show lsle _ _ from ⟨rfl, ⟨rfl, ⟨rfl, ⟨rfl, ⟨rfl, trivial⟩⟩⟩⟩⟩) k
-- 203+
theorem b140_199_0 {E : env} {M : mem} {x4 x5 : Int32}  (h0 : 30 ≤ x5) : Rm E 140 199 [vr 83, vn, vn, vn, vi x4, vi x5, vn, vn, vn] [] M (some (.int x4)) M := by
  refine R_S q140 2 (pc2 := 203) (ls2 := [vr 83, vn, vn, vn, vi x4, vi x5, vn, vn, vn]) (st2 := [.int 30, .int x5]) rfl ?_
  refine R_ict q140 rfl (decide_eq_true h0) ?_
  show Rm E 140 226 [vr 83, vn, vn, vn, vi x4, vi x5, vn, vn, vn] [] M _ _
  refine R_S q140 1 (pc2 := 228) (ls2 := [vr 83, vn, vn, vn, vi x4, vi x5, vn, vn, vn]) (st2 := [.int x4]) rfl ?_
  exact R_ret rfl q140 rfl rfl rfl rfl (stpR_i rfl rfl)
-- 203-
theorem b140_199_1 {E : env} {M : mem} {rv : Option Value} {M2 : mem} {x4 x5 : Int32} {N1 : mem} (h0 : ¬ (30 ≤ x5)) (h1 : inR x5 30) (h2 : inR x5 90) (eN1 : N1 = upM M 84 (x5.toNatClampNeg) (M.1 96 x5.toNatClampNeg)) (k : Rm E 140 199 [vr 83, vn, vn, vn, vi x4, vi (x5 + 1), vn, vn, vn] [] N1 rv M2) : Rm E 140 199 [vr 83, vn, vn, vn, vi x4, vi x5, vn, vn, vn] [] M rv M2 := by
  refine R_S q140 2 (pc2 := 203) (ls2 := [vr 83, vn, vn, vn, vi x4, vi x5, vn, vn, vn]) (st2 := [.int 30, .int x5]) rfl ?_
  refine R_icf q140 rfl (decide_eq_false h0) ?_
  show Rm E 140 206 [vr 83, vn, vn, vn, vi x4, vi x5, vn, vn, vn] [] M _ _
  refine R_S q140 6 (pc2 := 218) (ls2 := [vr 83, vn, vn, vn, vi x4, vi x5, vn, vn, vn]) (st2 := [.int x5, .ref 96, .int x5, .ref 84]) rfl ?_
  refine R_ial q140 rfl rfl h1 ?_
  show Rm E 140 219 [vr 83, vn, vn, vn, vi x4, vi x5, vn, vn, vn] [.int (M.1 96 x5.toNatClampNeg), .int x5, .ref 84] M _ _
  refine R_ias q140 rfl rfl h2 eN1 ?_
  show Rm E 140 220 [vr 83, vn, vn, vn, vi x4, vi x5, vn, vn, vn] [] N1 _ _
  refine R_S q140 2 (pc2 := 199) (ls2 := [vr 83, vn, vn, vn, vi x4, vi (x5 + 1), vn, vn, vn]) (st2 := []) rfl ?_
  exact k
-- 141 HeavyChainsModel.keep()I  cuts [0, 13]
theorem q141 : cdOf 141 = some mt141 := rfl
-- 5+
theorem b141_0_0 {E : env} {M : mem} {rv : Option Value} {M2 : mem}  (h0 : ¬ M.1 83 24 = 2) (k : Rm E 141 13 [vr 83, vi 0] [] M rv M2) : Rm E 141 0 [vr 83, vn] [] M rv M2 := by
  refine R_S q141 3 (pc2 := 5) (ls2 := [vr 83, vn]) (st2 := [.int 2, .int (M.1 83 24)]) rfl ?_
  refine R_ict q141 rfl (decide_eq_true h0) ?_
  show Rm E 141 11 [vr 83, vn] [] M _ _
  refine R_S q141 2 (pc2 := 13) (ls2 := [vr 83, vi 0]) (st2 := []) rfl ?_
  exact k
-- 5-
theorem b141_0_1 {E : env} {M : mem}  (h0 : ¬ (¬ M.1 83 24 = 2)) : Rm E 141 0 [vr 83, vn] [] M (some (.int (-3))) M := by
  refine R_S q141 3 (pc2 := 5) (ls2 := [vr 83, vn]) (st2 := [.int 2, .int (M.1 83 24)]) rfl ?_
  refine R_icf q141 rfl (decide_eq_false h0) ?_
  show Rm E 141 8 [vr 83, vn] [] M _ _
  refine R_S q141 1 (pc2 := 10) (ls2 := [vr 83, vn]) (st2 := [.int (-3)]) rfl ?_
  exact R_ret rfl q141 rfl rfl rfl rfl (stpR_i rfl rfl)
-- 16+
theorem b141_13_0 {E : env} {M : mem} {x1 : Int32} {N1 : mem} (h0 : 90 ≤ x1) (eN1 : N1 = upM M 83 24 (M.1 83 24 + 1)) : Rm E 141 13 [vr 83, vi x1] [] M (some (.int (N1.1 83 24))) N1 := by
  refine R_S q141 2 (pc2 := 16) (ls2 := [vr 83, vi x1]) (st2 := [.int 90, .int x1]) rfl ?_
  refine R_ict q141 rfl (decide_eq_true h0) ?_
  show Rm E 141 45 [vr 83, vi x1] [] M _ _
  refine R_S q141 5 (pc2 := 52) (ls2 := [vr 83, vi x1]) (st2 := [.int (M.1 83 24 + 1), .ref 83]) rfl ?_
  refine R_pf q141 rfl rfl rfl rfl rfl eN1 ?_
  show Rm E 141 55 [vr 83, vi x1] [] N1 _ _
  refine R_S q141 2 (pc2 := 59) (ls2 := [vr 83, vi x1]) (st2 := [.int (N1.1 83 24)]) rfl ?_
  exact R_ret rfl q141 rfl rfl rfl rfl (stpR_i rfl rfl)
-- 16-
theorem b141_13_1 {E : env} {M : mem} {rv : Option Value} {M2 : mem} {x1 : Int32} {N1 : mem} (h0 : ¬ (90 ≤ x1)) (h1 : inR x1 90) (h2 : inR ((90 * M.1 83 24) + x1) 180) (eN1 : N1 = upM M 97 (((90 * M.1 83 24) + x1).toNatClampNeg) (M.1 84 x1.toNatClampNeg)) (k : Rm E 141 13 [vr 83, vi (x1 + 1)] [] N1 rv M2) : Rm E 141 13 [vr 83, vi x1] [] M rv M2 := by
  refine R_S q141 2 (pc2 := 16) (ls2 := [vr 83, vi x1]) (st2 := [.int 90, .int x1]) rfl ?_
  refine R_icf q141 rfl (decide_eq_false h0) ?_
  show Rm E 141 19 [vr 83, vi x1] [] M _ _
  refine R_S q141 11 (pc2 := 37) (ls2 := [vr 83, vi x1]) (st2 := [.int x1, .ref 84, .int ((90 * M.1 83 24) + x1), .ref 97]) rfl ?_
  refine R_ial q141 rfl rfl h1 ?_
  show Rm E 141 38 [vr 83, vi x1] [.int (M.1 84 x1.toNatClampNeg), .int ((90 * M.1 83 24) + x1), .ref 97] M _ _
  refine R_ias q141 rfl rfl h2 eN1 ?_
  show Rm E 141 39 [vr 83, vi x1] [] N1 _ _
  refine R_S q141 2 (pc2 := 13) (ls2 := [vr 83, vi (x1 + 1)]) (st2 := []) rfl ?_
  exact k
-- 142 HeavyChainsModel.back()I  cuts [0, 22]
theorem q142 : cdOf 142 = some mt142 := rfl
-- 4+
theorem b142_0_0 {E : env} {M : mem} {rv : Option Value} {M2 : mem} {N1 : mem} (h0 : ¬ M.1 83 24 = 0) (eN1 : N1 = upM M 83 24 (M.1 83 24 - 1)) (k : Rm E 142 22 [vr 83, vi 0] [] N1 rv M2) : Rm E 142 0 [vr 83, vn] [] M rv M2 := by
  refine R_S q142 2 (pc2 := 4) (ls2 := [vr 83, vn]) (st2 := [.int (M.1 83 24)]) rfl ?_
  refine R_ift q142 rfl (decide_eq_true h0) ?_
  show Rm E 142 10 [vr 83, vn] [] M _ _
  refine R_S q142 5 (pc2 := 17) (ls2 := [vr 83, vn]) (st2 := [.int (M.1 83 24 - 1), .ref 83]) rfl ?_
  refine R_pf q142 rfl rfl rfl rfl rfl eN1 ?_
  show Rm E 142 20 [vr 83, vn] [] N1 _ _
  refine R_S q142 2 (pc2 := 22) (ls2 := [vr 83, vi 0]) (st2 := []) rfl ?_
  exact k
-- 4-
theorem b142_0_1 {E : env} {M : mem}  (h0 : ¬ (¬ M.1 83 24 = 0)) : Rm E 142 0 [vr 83, vn] [] M (some (.int (-2))) M := by
  refine R_S q142 2 (pc2 := 4) (ls2 := [vr 83, vn]) (st2 := [.int (M.1 83 24)]) rfl ?_
  refine R_iff q142 rfl (decide_eq_false h0) ?_
  show Rm E 142 7 [vr 83, vn] [] M _ _
  refine R_S q142 1 (pc2 := 9) (ls2 := [vr 83, vn]) (st2 := [.int (-2)]) rfl ?_
  exact R_ret rfl q142 rfl rfl rfl rfl (stpR_i rfl rfl)
-- 25+
theorem b142_22_0 {E : env} {M : mem} {x1 : Int32} {N1 : mem} (h0 : 90 ≤ x1) (eN1 : N1 = upM M 83 17 0) : Rm E 142 22 [vr 83, vi x1] [] M (some (.int (N1.1 83 24))) N1 := by
  refine R_S q142 2 (pc2 := 25) (ls2 := [vr 83, vi x1]) (st2 := [.int 90, .int x1]) rfl ?_
  refine R_ict q142 rfl (decide_eq_true h0) ?_
  show Rm E 142 54 [vr 83, vi x1] [] M _ _
  refine R_S q142 2 (pc2 := 56) (ls2 := [vr 83, vi x1]) (st2 := [.int 0, .ref 83]) rfl ?_
  refine R_pf q142 rfl rfl rfl rfl rfl eN1 ?_
  show Rm E 142 59 [vr 83, vi x1] [] N1 _ _
  refine R_S q142 2 (pc2 := 63) (ls2 := [vr 83, vi x1]) (st2 := [.int (N1.1 83 24)]) rfl ?_
  exact R_ret rfl q142 rfl rfl rfl rfl (stpR_i rfl rfl)
-- 25-
theorem b142_22_1 {E : env} {M : mem} {rv : Option Value} {M2 : mem} {x1 : Int32} {N1 : mem} (h0 : ¬ (90 ≤ x1)) (h1 : inR ((90 * M.1 83 24) + x1) 180) (h2 : inR x1 90) (eN1 : N1 = upM M 84 (x1.toNatClampNeg) (M.1 97 ((90 * M.1 83 24) + x1).toNatClampNeg)) (k : Rm E 142 22 [vr 83, vi (x1 + 1)] [] N1 rv M2) : Rm E 142 22 [vr 83, vi x1] [] M rv M2 := by
  refine R_S q142 2 (pc2 := 25) (ls2 := [vr 83, vi x1]) (st2 := [.int 90, .int x1]) rfl ?_
  refine R_icf q142 rfl (decide_eq_false h0) ?_
  show Rm E 142 28 [vr 83, vi x1] [] M _ _
  refine R_S q142 11 (pc2 := 46) (ls2 := [vr 83, vi x1]) (st2 := [.int ((90 * M.1 83 24) + x1), .ref 97, .int x1, .ref 84]) rfl ?_
  refine R_ial q142 rfl rfl h1 ?_
  show Rm E 142 47 [vr 83, vi x1] [.int (M.1 97 ((90 * M.1 83 24) + x1).toNatClampNeg), .int x1, .ref 84] M _ _
  refine R_ias q142 rfl rfl h2 eN1 ?_
  show Rm E 142 48 [vr 83, vi x1] [] N1 _ _
  refine R_S q142 2 (pc2 := 22) (ls2 := [vr 83, vi (x1 + 1)]) (st2 := []) rfl ?_
  exact k
-- 143 HeavyChainsModel.chains()I  cuts [0, 4]
theorem q143 : cdOf 143 = some mt143 := rfl
-- 
theorem b143_0_0 {E : env} {M : mem} {rv : Option Value} {M2 : mem}  (k : Rm E 143 4 [vr 83, vi 0, vi 0] [] M rv M2) : Rm E 143 0 [vr 83, vn, vn] [] M rv M2 := by
  refine R_S q143 4 (pc2 := 4) (ls2 := [vr 83, vi 0, vi 0]) (st2 := []) rfl ?_
  exact k
-- 9+
theorem b143_4_0 {E : env} {M : mem} {x1 x2 : Int32}  (h0 : M.1 83 1 ≤ x2) : Rm E 143 4 [vr 83, vi x1, vi x2] [] M (some (.int x1)) M := by
  refine R_S q143 3 (pc2 := 9) (ls2 := [vr 83, vi x1, vi x2]) (st2 := [.int (M.1 83 1), .int x2]) rfl ?_
  refine R_ict q143 rfl (decide_eq_true h0) ?_
  show Rm E 143 36 [vr 83, vi x1, vi x2] [] M _ _
  refine R_S q143 1 (pc2 := 37) (ls2 := [vr 83, vi x1, vi x2]) (st2 := [.int x1]) rfl ?_
  exact R_ret rfl q143 rfl rfl rfl rfl (stpR_i rfl rfl)
-- 9- 20+
theorem b143_4_1 {E : env} {M : mem} {rv : Option Value} {M2 : mem} {x1 x2 : Int32}  (h0 : ¬ (M.1 83 1 ≤ x2)) (h1 : inR x2 30) (h2 : ¬ M.1 89 x2.toNatClampNeg = x2) (k : Rm E 143 4 [vr 83, vi (x1 + 0), vi (x2 + 1)] [] M rv M2) : Rm E 143 4 [vr 83, vi x1, vi x2] [] M rv M2 := by
  refine R_S q143 3 (pc2 := 9) (ls2 := [vr 83, vi x1, vi x2]) (st2 := [.int (M.1 83 1), .int x2]) rfl ?_
  refine R_icf q143 rfl (decide_eq_false h0) ?_
  show Rm E 143 12 [vr 83, vi x1, vi x2] [] M _ _
  refine R_S q143 4 (pc2 := 18) (ls2 := [vr 83, vi x1, vi x2]) (st2 := [.int x2, .ref 89, .int x1]) rfl ?_
  refine R_ial q143 rfl rfl h1 ?_
  show Rm E 143 19 [vr 83, vi x1, vi x2] [.int (M.1 89 x2.toNatClampNeg), .int x1] M _ _
  refine R_S q143 1 (pc2 := 20) (ls2 := [vr 83, vi x1, vi x2]) (st2 := [.int x2, .int (M.1 89 x2.toNatClampNeg), .int x1]) rfl ?_
  refine R_ict q143 rfl (decide_eq_true h2) ?_
  show Rm E 143 27 [vr 83, vi x1, vi x2] [.int x1] M _ _
  refine R_S q143 5 (pc2 := 4) (ls2 := [vr 83, vi (x1 + 0), vi (x2 + 1)]) (st2 := []) rfl ?_
  exact k
-- 9- 20-
theorem b143_4_2 {E : env} {M : mem} {rv : Option Value} {M2 : mem} {x1 x2 : Int32}  (h0 : ¬ (M.1 83 1 ≤ x2)) (h1 : inR x2 30) (h2 : ¬ (¬ M.1 89 x2.toNatClampNeg = x2)) (k : Rm E 143 4 [vr 83, vi (x1 + 1), vi (x2 + 1)] [] M rv M2) : Rm E 143 4 [vr 83, vi x1, vi x2] [] M rv M2 := by
  refine R_S q143 3 (pc2 := 9) (ls2 := [vr 83, vi x1, vi x2]) (st2 := [.int (M.1 83 1), .int x2]) rfl ?_
  refine R_icf q143 rfl (decide_eq_false h0) ?_
  show Rm E 143 12 [vr 83, vi x1, vi x2] [] M _ _
  refine R_S q143 4 (pc2 := 18) (ls2 := [vr 83, vi x1, vi x2]) (st2 := [.int x2, .ref 89, .int x1]) rfl ?_
  refine R_ial q143 rfl rfl h1 ?_
  show Rm E 143 19 [vr 83, vi x1, vi x2] [.int (M.1 89 x2.toNatClampNeg), .int x1] M _ _
  refine R_S q143 1 (pc2 := 20) (ls2 := [vr 83, vi x1, vi x2]) (st2 := [.int x2, .int (M.1 89 x2.toNatClampNeg), .int x1]) rfl ?_
  refine R_icf q143 rfl (decide_eq_false h2) ?_
  show Rm E 143 23 [vr 83, vi x1, vi x2] [.int x1] M _ _
  refine R_S q143 6 (pc2 := 4) (ls2 := [vr 83, vi (x1 + 1), vi (x2 + 1)]) (st2 := []) rfl ?_
  exact k
-- 144 HeavyChainsModel.count(I)I  cuts [0]
theorem q144 : cdOf 144 = some mt144 := rfl
-- 1=else
theorem b144_0_0 {E : env} {M : mem} {x1 : Int32}  (h0 : (x1).toInt < 0 ∨ 8 < (x1).toInt) : Rm E 144 0 [vr 83, vi x1] [] M (some (.int (-1))) M := by
  refine R_S q144 1 (pc2 := 1) (ls2 := [vr 83, vi x1]) (st2 := [.int x1]) rfl ?_
  refine R_tsd q144 rfl h0 rfl ?_
  show Rm E 144 105 [vr 83, vi x1] [] M _ _
  refine R_S q144 1 (pc2 := 106) (ls2 := [vr 83, vi x1]) (st2 := [.int (-1)]) rfl ?_
  exact R_ret rfl q144 rfl rfl rfl rfl (stpR_i rfl rfl)
-- 1=0
theorem b144_0_1 {E : env} {M : mem} {x1 : Int32}  (h0 : x1 = 0) : Rm E 144 0 [vr 83, vi x1] [] M (some (.int (M.1 83 1))) M := by
  refine R_S q144 1 (pc2 := 1) (ls2 := [vr 83, vi x1]) (st2 := [.int x1]) rfl ?_
  refine R_top h0 ?_
  refine R_S q144 1 (pc2 := 52) (ls2 := [vr 83, vi x1]) (st2 := []) rfl ?_
  refine R_S q144 2 (pc2 := 56) (ls2 := [vr 83, vi x1]) (st2 := [.int (M.1 83 1)]) rfl ?_
  exact R_ret rfl q144 rfl rfl rfl rfl (stpR_i rfl rfl)
-- 1=1 call X10_chains
theorem b144_0_2 {E : env} {M : mem} {x1 : Int32} {c1 : Int32} (h0 : x1 = 1) (h1 : Rm E 143 0 [vr 83, vn, vn] [] M (some (.int c1)) M) : Rm E 144 0 [vr 83, vi x1] [] M (some (.int c1)) M := by
  refine R_S q144 1 (pc2 := 1) (ls2 := [vr 83, vi x1]) (st2 := [.int x1]) rfl ?_
  refine R_top h0 ?_
  refine R_S q144 1 (pc2 := 57) (ls2 := [vr 83, vi x1]) (st2 := []) rfl ?_
  refine R_S q144 1 (pc2 := 58) (ls2 := [vr 83, vi x1]) (st2 := [.ref 83]) rfl ?_
  refine R_call q144 rfl rfl rfl rfl rfl rfl h1 ?_
  show Rm E 144 61 [vr 83, vi x1] [.int c1] M _ _
  exact R_ret rfl q144 rfl rfl rfl rfl (stpR_i rfl rfl)
-- 1=2 call X10_markedAll
theorem b144_0_3 {E : env} {M : mem} {x1 : Int32} {c1 : Int32} (h0 : x1 = 2) (h1 : Rm E 130 0 [vr 83, vn, vn] [] M (some (.int c1)) M) : Rm E 144 0 [vr 83, vi x1] [] M (some (.int c1)) M := by
  refine R_S q144 1 (pc2 := 1) (ls2 := [vr 83, vi x1]) (st2 := [.int x1]) rfl ?_
  refine R_top h0 ?_
  refine R_S q144 1 (pc2 := 62) (ls2 := [vr 83, vi x1]) (st2 := []) rfl ?_
  refine R_S q144 1 (pc2 := 63) (ls2 := [vr 83, vi x1]) (st2 := [.ref 83]) rfl ?_
  refine R_call q144 rfl rfl rfl rfl rfl rfl h1 ?_
  show Rm E 144 66 [vr 83, vi x1] [.int c1] M _ _
  exact R_ret rfl q144 rfl rfl rfl rfl (stpR_i rfl rfl)
-- 1=3
theorem b144_0_4 {E : env} {M : mem} {x1 : Int32}  (h0 : x1 = 3) : Rm E 144 0 [vr 83, vi x1] [] M (some (.int (M.1 83 20))) M := by
  refine R_S q144 1 (pc2 := 1) (ls2 := [vr 83, vi x1]) (st2 := [.int x1]) rfl ?_
  refine R_top h0 ?_
  refine R_S q144 1 (pc2 := 67) (ls2 := [vr 83, vi x1]) (st2 := []) rfl ?_
  refine R_S q144 2 (pc2 := 71) (ls2 := [vr 83, vi x1]) (st2 := [.int (M.1 83 20)]) rfl ?_
  exact R_ret rfl q144 rfl rfl rfl rfl (stpR_i rfl rfl)
-- 1=4
theorem b144_0_5 {E : env} {M : mem} {x1 : Int32}  (h0 : x1 = 4) : Rm E 144 0 [vr 83, vi x1] [] M (some (.int (M.1 83 21))) M := by
  refine R_S q144 1 (pc2 := 1) (ls2 := [vr 83, vi x1]) (st2 := [.int x1]) rfl ?_
  refine R_top h0 ?_
  refine R_S q144 1 (pc2 := 72) (ls2 := [vr 83, vi x1]) (st2 := []) rfl ?_
  refine R_S q144 2 (pc2 := 76) (ls2 := [vr 83, vi x1]) (st2 := [.int (M.1 83 21)]) rfl ?_
  exact R_ret rfl q144 rfl rfl rfl rfl (stpR_i rfl rfl)
-- 1=5
theorem b144_0_6 {E : env} {M : mem} {x1 : Int32}  (h0 : x1 = 5) : Rm E 144 0 [vr 83, vi x1] [] M (some (.int (M.1 83 17))) M := by
  refine R_S q144 1 (pc2 := 1) (ls2 := [vr 83, vi x1]) (st2 := [.int x1]) rfl ?_
  refine R_top h0 ?_
  refine R_S q144 1 (pc2 := 77) (ls2 := [vr 83, vi x1]) (st2 := []) rfl ?_
  refine R_S q144 2 (pc2 := 81) (ls2 := [vr 83, vi x1]) (st2 := [.int (M.1 83 17)]) rfl ?_
  exact R_ret rfl q144 rfl rfl rfl rfl (stpR_i rfl rfl)
-- 1=6
theorem b144_0_7 {E : env} {M : mem} {x1 : Int32}  (h0 : x1 = 6) : Rm E 144 0 [vr 83, vi x1] [] M (some (.int (M.1 83 24))) M := by
  refine R_S q144 1 (pc2 := 1) (ls2 := [vr 83, vi x1]) (st2 := [.int x1]) rfl ?_
  refine R_top h0 ?_
  refine R_S q144 1 (pc2 := 82) (ls2 := [vr 83, vi x1]) (st2 := []) rfl ?_
  refine R_S q144 2 (pc2 := 86) (ls2 := [vr 83, vi x1]) (st2 := [.int (M.1 83 24)]) rfl ?_
  exact R_ret rfl q144 rfl rfl rfl rfl (stpR_i rfl rfl)
-- 1=7
theorem b144_0_8 {E : env} {M : mem} {x1 : Int32}  (h0 : x1 = 7) : Rm E 144 0 [vr 83, vi x1] [] M (some (.int (M.1 83 11))) M := by
  refine R_S q144 1 (pc2 := 1) (ls2 := [vr 83, vi x1]) (st2 := [.int x1]) rfl ?_
  refine R_top h0 ?_
  refine R_S q144 1 (pc2 := 87) (ls2 := [vr 83, vi x1]) (st2 := []) rfl ?_
  refine R_S q144 2 (pc2 := 91) (ls2 := [vr 83, vi x1]) (st2 := [.int (M.1 83 11)]) rfl ?_
  exact R_ret rfl q144 rfl rfl rfl rfl (stpR_i rfl rfl)
-- 1=8 call X10_laysBelow call X10_sumOf
theorem b144_0_9 {E : env} {M : mem} {x1 : Int32} {N1 : mem} {c2 : Int32} (h0 : x1 = 8) (h1 : Rm E 106 0 [vr 83, vi 0, vn] [] M none N1) (h2 : Rm E 107 0 [vr 83, vn, vn] [] N1 (some (.int c2)) N1) : Rm E 144 0 [vr 83, vi x1] [] M (some (.int (c2 + 1000000))) N1 := by
  refine R_S q144 1 (pc2 := 1) (ls2 := [vr 83, vi x1]) (st2 := [.int x1]) rfl ?_
  refine R_top h0 ?_
  refine R_S q144 1 (pc2 := 92) (ls2 := [vr 83, vi x1]) (st2 := []) rfl ?_
  refine R_S q144 2 (pc2 := 94) (ls2 := [vr 83, vi x1]) (st2 := [.int 0, .ref 83]) rfl ?_
  refine R_call q144 rfl rfl rfl rfl rfl rfl h1 ?_
  show Rm E 144 97 [vr 83, vi x1] [] N1 _ _
  refine R_S q144 1 (pc2 := 98) (ls2 := [vr 83, vi x1]) (st2 := [.ref 83]) rfl ?_
  refine R_call q144 rfl rfl rfl rfl rfl rfl h2 ?_
  show Rm E 144 101 [vr 83, vi x1] [.int c2] N1 _ _
  refine R_S q144 2 (pc2 := 104) (ls2 := [vr 83, vi x1]) (st2 := [.int (c2 + 1000000)]) rfl ?_
  exact R_ret rfl q144 rfl rfl rfl rfl (stpR_i rfl rfl)
-- 90 HeavyChainsModel.says(JI)V  cuts [0, 5]
theorem q90 : cdOf 90 = some mt90 := rfl
-- 
theorem b90_0_0 {E : env} {M : mem} {rv : Option Value} {M2 : mem} {x3 : Int32} {l1 : Int64}  (k : Rm E 90 5 [vr 83, vl l1, vn, vn, vi (x3 - 1)] [] M rv M2) : Rm E 90 0 [vr 83, vl l1, vn, vi x3, vn] [] M rv M2 := by
  refine R_S q90 4 (pc2 := 5) (ls2 := [vr 83, vl l1, vn, vi x3, vi (x3 - 1)]) (st2 := []) rfl ?_
  exact R_w (ls := [vr 83, vl l1, vn, vn, vi (x3 - 1)]) (show lsle _ _ from ⟨rfl, ⟨rfl, ⟨rfl, trivial⟩⟩⟩) k
-- 7+
theorem b90_5_0 {E : env} {M : mem} {x4 : Int32} {l1 : Int64}  (h0 : x4 < 0) : Rm E 90 5 [vr 83, vl l1, vn, vn, vi x4] [] M none M := by
  refine R_S q90 1 (pc2 := 7) (ls2 := [vr 83, vl l1, vn, vn, vi x4]) (st2 := [.int x4]) rfl ?_
  refine R_ift q90 rfl (decide_eq_true h0) ?_
  show Rm E 90 36 [vr 83, vl l1, vn, vn, vi x4] [] M _ _
  exact R_ret rfl q90 rfl rfl rfl rfl rfl
-- 7- call X10_write
theorem b90_5_1 {E : env} {M : mem} {rv : Option Value} {M2 : mem} {x4 : Int32} {l1 : Int64} {c1 : Int32} {N1 : mem} {N2 : mem} (h0 : ¬ (x4 < 0)) (h1 : Rm E 92 0 [vr 83, vi (((l1 >>> ((8 * x4).toInt64 &&& 63)) &&& 255).toInt32)] [] M (some (.int c1)) N1) (eN2 : N2 = upM N1 83 11 c1) (k : Rm E 90 5 [vr 83, vl l1, vn, vn, vi (x4 + (-1))] [] N2 rv M2) : Rm E 90 5 [vr 83, vl l1, vn, vn, vi x4] [] M rv M2 := by
  refine R_S q90 1 (pc2 := 7) (ls2 := [vr 83, vl l1, vn, vn, vi x4]) (st2 := [.int x4]) rfl ?_
  refine R_iff q90 rfl (decide_eq_false h0) ?_
  show Rm E 90 10 [vr 83, vl l1, vn, vn, vi x4] [] M _ _
  refine R_S q90 10 (pc2 := 24) (ls2 := [vr 83, vl l1, vn, vn, vi x4]) (st2 := [.int (((l1 >>> ((8 * x4).toInt64 &&& 63)) &&& 255).toInt32), .ref 83, .ref 83]) rfl ?_
  refine R_call q90 rfl rfl rfl rfl rfl rfl h1 ?_
  show Rm E 90 27 [vr 83, vl l1, vn, vn, vi x4] [.int c1, .ref 83] N1 _ _
  refine R_pf q90 rfl rfl rfl rfl rfl eN2 ?_
  show Rm E 90 30 [vr 83, vl l1, vn, vn, vi x4] [] N2 _ _
  refine R_S q90 2 (pc2 := 5) (ls2 := [vr 83, vl l1, vn, vn, vi (x4 + (-1))]) (st2 := []) rfl ?_
  exact k
