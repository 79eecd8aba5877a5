-- 88 HeavyChainsModel.in(JJJ)Z  cuts [0]
theorem q88 : cdOf 88 = some mt88 := rfl
-- 3+
theorem b88_0_0 {E : env} {M : mem} {l0 l2 l4 : Int64}  (h0 : (lg_cmp l0 l2) < 0) : Rm E 88 0 [vl l0, vn, vl l2, vn, vl l4, vn] [] M (some (.int 0)) M := by
  refine R_S q88 3 (pc2 := 3) (ls2 := [vl l0, vn, vl l2, vn, vl l4, vn]) (st2 := [.int (lg_cmp l0 l2)]) rfl ?_
  refine R_ift q88 rfl (decide_eq_true h0) ?_
  show Rm E 88 17 [vl l0, vn, vl l2, vn, vl l4, vn] [] M _ _
  refine R_S q88 1 (pc2 := 18) (ls2 := [vl l0, vn, vl l2, vn, vl l4, vn]) (st2 := [.int 0]) rfl ?_
  exact R_ret rfl q88 rfl rfl rfl rfl rfl
-- 3- 10+
theorem b88_0_1 {E : env} {M : mem} {l0 l2 l4 : Int64}  (h0 : ¬ ((lg_cmp l0 l2) < 0)) (h1 : 0 < (lg_cmp l0 l4)) : Rm E 88 0 [vl l0, vn, vl l2, vn, vl l4, vn] [] M (some (.int 0)) M := by
  refine R_S q88 3 (pc2 := 3) (ls2 := [vl l0, vn, vl l2, vn, vl l4, vn]) (st2 := [.int (lg_cmp l0 l2)]) rfl ?_
  refine R_iff q88 rfl (decide_eq_false h0) ?_
  show Rm E 88 6 [vl l0, vn, vl l2, vn, vl l4, vn] [] M _ _
  refine R_S q88 3 (pc2 := 10) (ls2 := [vl l0, vn, vl l2, vn, vl l4, vn]) (st2 := [.int (lg_cmp l0 l4)]) rfl ?_
  refine R_ift q88 rfl (decide_eq_true h1) ?_
  show Rm E 88 17 [vl l0, vn, vl l2, vn, vl l4, vn] [] M _ _
  refine R_S q88 1 (pc2 := 18) (ls2 := [vl l0, vn, vl l2, vn, vl l4, vn]) (st2 := [.int 0]) rfl ?_
  exact R_ret rfl q88 rfl rfl rfl rfl rfl
-- 3- 10-
theorem b88_0_2 {E : env} {M : mem} {l0 l2 l4 : Int64}  (h0 : ¬ ((lg_cmp l0 l2) < 0)) (h1 : ¬ (0 < (lg_cmp l0 l4))) : Rm E 88 0 [vl l0, vn, vl l2, vn, vl l4, vn] [] M (some (.int 1)) M := by
  refine R_S q88 3 (pc2 := 3) (ls2 := [vl l0, vn, vl l2, vn, vl l4, vn]) (st2 := [.int (lg_cmp l0 l2)]) rfl ?_
  refine R_iff q88 rfl (decide_eq_false h0) ?_
  show Rm E 88 6 [vl l0, vn, vl l2, vn, vl l4, vn] [] M _ _
  refine R_S q88 3 (pc2 := 10) (ls2 := [vl l0, vn, vl l2, vn, vl l4, vn]) (st2 := [.int (lg_cmp l0 l4)]) rfl ?_
  refine R_iff q88 rfl (decide_eq_false h1) ?_
  show Rm E 88 13 [vl l0, vn, vl l2, vn, vl l4, vn] [] M _ _
  refine R_S q88 2 (pc2 := 18) (ls2 := [vl l0, vn, vl l2, vn, vl l4, vn]) (st2 := [.int 1]) rfl ?_
  exact R_ret rfl q88 rfl rfl rfl rfl rfl
-- 91 HeavyChainsModel.isPost(I)Z  cuts [0]
theorem q91 : cdOf 91 = some mt91 := rfl
-- call X10_in
theorem b91_0_0 {E : env} {M : mem} {x1 : Int32} {c1 : Int32} (h0 : Rm E 88 0 [vl (((x1 : Int32)).toInt64), vn, vl 0, vn, vl ((((M.1 83 1 - 1) : Int32)).toInt64), vn] [] M (some (.int c1)) M) (h1 : c1 = 0 ∨ c1 = 1) : Rm E 91 0 [vr 83, vi x1] [] M (some (.int c1)) M := by
  refine R_S q91 8 (pc2 := 10) (ls2 := [vr 83, vi x1]) (st2 := [.long ((((M.1 83 1 - 1) : Int32)).toInt64), .long 0, .long (((x1 : Int32)).toInt64)]) rfl ?_
  refine R_call q91 rfl rfl rfl rfl rfl rfl h0 ?_
  show Rm E 91 13 [vr 83, vi x1] [.int c1] M _ _
  exact R_ret rfl q91 rfl rfl rfl rfl (stpR_z rfl rfl h1)
-- 92 HeavyChainsModel.write(I)I  cuts [0]
theorem q92 : cdOf 92 = some mt92 := rfl
-- call X10_in 11+ 23+
theorem b92_0_0 {E : env} {M : mem} {x1 : Int32} {c1 : Int32} {N1 : mem} {N2 : mem} (h0 : Rm E 88 0 [vl (((x1 : Int32)).toInt64), vn, vl 32, vn, vl 126, vn] [] M (some (.int c1)) M) (h1 : ¬ c1 = 0) (h2 : ¬ M.1 83 11 = 200) (h3 : inR (M.1 83 11) 200) (eN1 : N1 = upM M 92 ((M.1 83 11).toNatClampNeg) x1) (eN2 : N2 = upM N1 83 11 (N1.1 83 11 + 1)) : Rm E 92 0 [vr 83, vi x1] [] M (some (.int (N2.1 83 11))) N2 := by
  refine R_S q92 4 (pc2 := 8) (ls2 := [vr 83, vi x1]) (st2 := [.long 126, .long 32, .long (((x1 : Int32)).toInt64)]) rfl ?_
  refine R_call q92 rfl rfl rfl rfl rfl rfl h0 ?_
  show Rm E 92 11 [vr 83, vi x1] [.int c1] M _ _
  refine R_ift q92 rfl (decide_eq_true h1) ?_
  show Rm E 92 16 [vr 83, vi x1] [] M _ _
  refine R_S q92 3 (pc2 := 23) (ls2 := [vr 83, vi x1]) (st2 := [.int 200, .int (M.1 83 11)]) rfl ?_
  refine R_ict q92 rfl (decide_eq_true h2) ?_
  show Rm E 92 29 [vr 83, vi x1] [] M _ _
  refine R_S q92 5 (pc2 := 38) (ls2 := [vr 83, vi x1]) (st2 := [.int x1, .int (M.1 83 11), .ref 92]) rfl ?_
  refine R_ias q92 rfl rfl h3 eN1 ?_
  show Rm E 92 39 [vr 83, vi x1] [] N1 _ _
  refine R_S q92 5 (pc2 := 46) (ls2 := [vr 83, vi x1]) (st2 := [.int (N1.1 83 11 + 1), .ref 83]) rfl ?_
  refine R_pf q92 rfl rfl rfl rfl rfl eN2 ?_
  show Rm E 92 49 [vr 83, vi x1] [] N2 _ _
  refine R_S q92 2 (pc2 := 53) (ls2 := [vr 83, vi x1]) (st2 := [.int (N2.1 83 11)]) rfl ?_
  exact R_ret rfl q92 rfl rfl rfl rfl (stpR_i rfl rfl)
-- call X10_in 11+ 23-
theorem b92_0_1 {E : env} {M : mem} {x1 : Int32} {c1 : Int32} (h0 : Rm E 88 0 [vl (((x1 : Int32)).toInt64), vn, vl 32, vn, vl 126, vn] [] M (some (.int c1)) M) (h1 : ¬ c1 = 0) (h2 : ¬ (¬ M.1 83 11 = 200)) : Rm E 92 0 [vr 83, vi x1] [] M (some (.int (-3))) M := by
  refine R_S q92 4 (pc2 := 8) (ls2 := [vr 83, vi x1]) (st2 := [.long 126, .long 32, .long (((x1 : Int32)).toInt64)]) rfl ?_
  refine R_call q92 rfl rfl rfl rfl rfl rfl h0 ?_
  show Rm E 92 11 [vr 83, vi x1] [.int c1] M _ _
  refine R_ift q92 rfl (decide_eq_true h1) ?_
  show Rm E 92 16 [vr 83, vi x1] [] M _ _
  refine R_S q92 3 (pc2 := 23) (ls2 := [vr 83, vi x1]) (st2 := [.int 200, .int (M.1 83 11)]) rfl ?_
  refine R_icf q92 rfl (decide_eq_false h2) ?_
  show Rm E 92 26 [vr 83, vi x1] [] M _ _
  refine R_S q92 1 (pc2 := 28) (ls2 := [vr 83, vi x1]) (st2 := [.int (-3)]) rfl ?_
  exact R_ret rfl q92 rfl rfl rfl rfl (stpR_i rfl rfl)
-- call X10_in 11-
theorem b92_0_2 {E : env} {M : mem} {x1 : Int32} {c1 : Int32} (h0 : Rm E 88 0 [vl (((x1 : Int32)).toInt64), vn, vl 32, vn, vl 126, vn] [] M (some (.int c1)) M) (h1 : ¬ (¬ c1 = 0)) : Rm E 92 0 [vr 83, vi x1] [] M (some (.int (-1))) M := by
  refine R_S q92 4 (pc2 := 8) (ls2 := [vr 83, vi x1]) (st2 := [.long 126, .long 32, .long (((x1 : Int32)).toInt64)]) rfl ?_
  refine R_call q92 rfl rfl rfl rfl rfl rfl h0 ?_
  show Rm E 92 11 [vr 83, vi x1] [.int c1] M _ _
  refine R_iff q92 rfl (decide_eq_false h1) ?_
  show Rm E 92 14 [vr 83, vi x1] [] M _ _
  refine R_S q92 1 (pc2 := 15) (ls2 := [vr 83, vi x1]) (st2 := [.int (-1)]) rfl ?_
  exact R_ret rfl q92 rfl rfl rfl rfl (stpR_i rfl rfl)
-- 93 HeavyChainsModel.wipe()I  cuts [0]
theorem q93 : cdOf 93 = some mt93 := rfl
-- 
theorem b93_0_0 {E : env} {M : mem} {N1 : mem} (eN1 : N1 = upM M 83 11 0) : Rm E 93 0 [vr 83, vn] [] M (some (.int (M.1 83 11))) N1 := by
  refine R_S q93 5 (pc2 := 7) (ls2 := [vr 83, vi (M.1 83 11)]) (st2 := [.int 0, .ref 83]) rfl ?_
  refine R_pf q93 rfl rfl rfl rfl rfl eN1 ?_
  show Rm E 93 10 [vr 83, vi (M.1 83 11)] [] N1 _ _
  refine R_S q93 1 (pc2 := 11) (ls2 := [vr 83, vi (M.1 83 11)]) (st2 := [.int (M.1 83 11)]) rfl ?_
  exact R_ret rfl q93 rfl rfl rfl rfl (stpR_i rfl rfl)
-- 94 HeavyChainsModel.worth(I)I  cuts [0]
theorem q94 : cdOf 94 = some mt94 := rfl
-- call X10_in 11+ call X10_in 32+
theorem b94_0_0 {E : env} {M : mem} {x0 : Int32} {c1 : Int32} {c2 : Int32} (h0 : Rm E 88 0 [vl (((x0 : Int32)).toInt64), vn, vl 48, vn, vl 57, vn] [] M (some (.int c1)) M) (h1 : c1 = 0) (h2 : Rm E 88 0 [vl (((x0 : Int32)).toInt64), vn, vl 97, vn, vl 115, vn] [] M (some (.int c2)) M) (h3 : c2 = 0) : Rm E 94 0 [vi x0] [] M (some (.int (-4))) M := by
  refine R_S q94 4 (pc2 := 8) (ls2 := [vi x0]) (st2 := [.long 57, .long 48, .long (((x0 : Int32)).toInt64)]) rfl ?_
  refine R_call q94 rfl rfl rfl rfl rfl rfl h0 ?_
  show Rm E 94 11 [vi x0] [.int c1] M _ _
  refine R_ift q94 rfl (decide_eq_true h1) ?_
  show Rm E 94 21 [vi x0] [] M _ _
  refine R_S q94 4 (pc2 := 29) (ls2 := [vi x0]) (st2 := [.long 115, .long 97, .long (((x0 : Int32)).toInt64)]) rfl ?_
  refine R_call q94 rfl rfl rfl rfl rfl rfl h2 ?_
  show Rm E 94 32 [vi x0] [.int c2] M _ _
  refine R_ift q94 rfl (decide_eq_true h3) ?_
  show Rm E 94 42 [vi x0] [] M _ _
  refine R_S q94 1 (pc2 := 44) (ls2 := [vi x0]) (st2 := [.int (-4)]) rfl ?_
  exact R_ret rfl q94 rfl rfl rfl rfl (stpR_i rfl rfl)
-- call X10_in 11+ call X10_in 32-
theorem b94_0_1 {E : env} {M : mem} {x0 : Int32} {c1 : Int32} {c2 : Int32} (h0 : Rm E 88 0 [vl (((x0 : Int32)).toInt64), vn, vl 48, vn, vl 57, vn] [] M (some (.int c1)) M) (h1 : c1 = 0) (h2 : Rm E 88 0 [vl (((x0 : Int32)).toInt64), vn, vl 97, vn, vl 115, vn] [] M (some (.int c2)) M) (h3 : ¬ (c2 = 0)) : Rm E 94 0 [vi x0] [] M (some (.int (x0 - 87))) M := by
  refine R_S q94 4 (pc2 := 8) (ls2 := [vi x0]) (st2 := [.long 57, .long 48, .long (((x0 : Int32)).toInt64)]) rfl ?_
  refine R_call q94 rfl rfl rfl rfl rfl rfl h0 ?_
  show Rm E 94 11 [vi x0] [.int c1] M _ _
  refine R_ift q94 rfl (decide_eq_true h1) ?_
  show Rm E 94 21 [vi x0] [] M _ _
  refine R_S q94 4 (pc2 := 29) (ls2 := [vi x0]) (st2 := [.long 115, .long 97, .long (((x0 : Int32)).toInt64)]) rfl ?_
  refine R_call q94 rfl rfl rfl rfl rfl rfl h2 ?_
  show Rm E 94 32 [vi x0] [.int c2] M _ _
  refine R_iff q94 rfl (decide_eq_false h3) ?_
  show Rm E 94 35 [vi x0] [] M _ _
  refine R_S q94 4 (pc2 := 44) (ls2 := [vi x0]) (st2 := [.int (x0 - 87)]) rfl ?_
  exact R_ret rfl q94 rfl rfl rfl rfl (stpR_i rfl rfl)
-- call X10_in 11-
theorem b94_0_2 {E : env} {M : mem} {x0 : Int32} {c1 : Int32} (h0 : Rm E 88 0 [vl (((x0 : Int32)).toInt64), vn, vl 48, vn, vl 57, vn] [] M (some (.int c1)) M) (h1 : ¬ (c1 = 0)) : Rm E 94 0 [vi x0] [] M (some (.int (x0 - 48))) M := by
  refine R_S q94 4 (pc2 := 8) (ls2 := [vi x0]) (st2 := [.long 57, .long 48, .long (((x0 : Int32)).toInt64)]) rfl ?_
  refine R_call q94 rfl rfl rfl rfl rfl rfl h0 ?_
  show Rm E 94 11 [vi x0] [.int c1] M _ _
  refine R_iff q94 rfl (decide_eq_false h1) ?_
  show Rm E 94 14 [vi x0] [] M _ _
  refine R_S q94 4 (pc2 := 44) (ls2 := [vi x0]) (st2 := [.int (x0 - 48)]) rfl ?_
  exact R_ret rfl q94 rfl rfl rfl rfl (stpR_i rfl rfl)
-- 95 HeavyChainsModel.signsFrom(I)I  cuts [0, 2]
theorem q95 : cdOf 95 = some mt95 := rfl
-- 
theorem b95_0_0 {E : env} {M : mem} {rv : Option Value} {M2 : mem} {x1 : Int32}  (k : Rm E 95 2 [vr 83, vi x1, vi x1] [] M rv M2) : Rm E 95 0 [vr 83, vi x1, vn] [] M rv M2 := by
  refine R_S q95 2 (pc2 := 2) (ls2 := [vr 83, vi x1, vi x1]) (st2 := []) rfl ?_
  exact k
-- 7+ 35+
theorem b95_2_0 {E : env} {M : mem} {x1 x2 : Int32}  (h0 : M.1 83 11 ≤ x2) (h1 : M.1 83 11 ≤ x2) : Rm E 95 2 [vr 83, vi x1, vi x2] [] M (some (.int (-4))) M := by
  refine R_S q95 3 (pc2 := 7) (ls2 := [vr 83, vi x1, vi x2]) (st2 := [.int (M.1 83 11), .int x2]) rfl ?_
  refine R_ict q95 rfl (decide_eq_true h0) ?_
  show Rm E 95 30 [vr 83, vi x1, vi x2] [] M _ _
  refine R_S q95 3 (pc2 := 35) (ls2 := [vr 83, vi x1, vi x2]) (st2 := [.int (M.1 83 11), .int x2]) rfl ?_
  refine R_ict q95 rfl (decide_eq_true h1) ?_
  show Rm E 95 55 [vr 83, vi x1, vi x2] [] M _ _
  refine R_S q95 1 (pc2 := 57) (ls2 := [vr 83, vi x1, vi x2]) (st2 := [.int (-4)]) rfl ?_
  exact R_ret rfl q95 rfl rfl rfl rfl (stpR_i rfl rfl)
-- 7+ 35- 46+
theorem b95_2_1 {E : env} {M : mem} {x1 x2 : Int32}  (h0 : M.1 83 11 ≤ x2) (h1 : ¬ (M.1 83 11 ≤ x2)) (h2 : inR x2 200) (h3 : ¬ M.1 92 x2.toNatClampNeg = 59) : Rm E 95 2 [vr 83, vi x1, vi x2] [] M (some (.int (-4))) M := by
  refine R_S q95 3 (pc2 := 7) (ls2 := [vr 83, vi x1, vi x2]) (st2 := [.int (M.1 83 11), .int x2]) rfl ?_
  refine R_ict q95 rfl (decide_eq_true h0) ?_
  show Rm E 95 30 [vr 83, vi x1, vi x2] [] M _ _
  refine R_S q95 3 (pc2 := 35) (ls2 := [vr 83, vi x1, vi x2]) (st2 := [.int (M.1 83 11), .int x2]) rfl ?_
  refine R_icf q95 rfl (decide_eq_false h1) ?_
  show Rm E 95 38 [vr 83, vi x1, vi x2] [] M _ _
  refine R_S q95 3 (pc2 := 43) (ls2 := [vr 83, vi x1, vi x2]) (st2 := [.int x2, .ref 92]) rfl ?_
  refine R_ial q95 rfl rfl h2 ?_
  show Rm E 95 44 [vr 83, vi x1, vi x2] [.int (M.1 92 x2.toNatClampNeg)] M _ _
  refine R_S q95 1 (pc2 := 46) (ls2 := [vr 83, vi x1, vi x2]) (st2 := [.int 59, .int (M.1 92 x2.toNatClampNeg)]) rfl ?_
  refine R_ict q95 rfl (decide_eq_true h3) ?_
  show Rm E 95 55 [vr 83, vi x1, vi x2] [] M _ _
  refine R_S q95 1 (pc2 := 57) (ls2 := [vr 83, vi x1, vi x2]) (st2 := [.int (-4)]) rfl ?_
  exact R_ret rfl q95 rfl rfl rfl rfl (stpR_i rfl rfl)
-- 7+ 35- 46-
theorem b95_2_2 {E : env} {M : mem} {x1 x2 : Int32}  (h0 : M.1 83 11 ≤ x2) (h1 : ¬ (M.1 83 11 ≤ x2)) (h2 : inR x2 200) (h3 : ¬ (¬ M.1 92 x2.toNatClampNeg = 59)) : Rm E 95 2 [vr 83, vi x1, vi x2] [] M (some (.int (x2 - x1))) M := by
  refine R_S q95 3 (pc2 := 7) (ls2 := [vr 83, vi x1, vi x2]) (st2 := [.int (M.1 83 11), .int x2]) rfl ?_
  refine R_ict q95 rfl (decide_eq_true h0) ?_
  show Rm E 95 30 [vr 83, vi x1, vi x2] [] M _ _
  refine R_S q95 3 (pc2 := 35) (ls2 := [vr 83, vi x1, vi x2]) (st2 := [.int (M.1 83 11), .int x2]) rfl ?_
  refine R_icf q95 rfl (decide_eq_false h1) ?_
  show Rm E 95 38 [vr 83, vi x1, vi x2] [] M _ _
  refine R_S q95 3 (pc2 := 43) (ls2 := [vr 83, vi x1, vi x2]) (st2 := [.int x2, .ref 92]) rfl ?_
  refine R_ial q95 rfl rfl h2 ?_
  show Rm E 95 44 [vr 83, vi x1, vi x2] [.int (M.1 92 x2.toNatClampNeg)] M _ _
  refine R_S q95 1 (pc2 := 46) (ls2 := [vr 83, vi x1, vi x2]) (st2 := [.int 59, .int (M.1 92 x2.toNatClampNeg)]) rfl ?_
  refine R_icf q95 rfl (decide_eq_false h3) ?_
  show Rm E 95 49 [vr 83, vi x1, vi x2] [] M _ _
  refine R_S q95 4 (pc2 := 57) (ls2 := [vr 83, vi x1, vi x2]) (st2 := [.int (x2 - x1)]) rfl ?_
  exact R_ret rfl q95 rfl rfl rfl rfl (stpR_i rfl rfl)
-- 7- call X10_worth 21+ 35+
theorem b95_2_3 {E : env} {M : mem} {x1 x2 : Int32} {c1 : Int32} (h0 : ¬ (M.1 83 11 ≤ x2)) (h1 : inR x2 200) (h2 : Rm E 94 0 [vi (M.1 92 x2.toNatClampNeg)] [] M (some (.int c1)) M) (h3 : c1 = (-4)) (h4 : M.1 83 11 ≤ x2) : Rm E 95 2 [vr 83, vi x1, vi x2] [] M (some (.int (-4))) M := by
  refine R_S q95 3 (pc2 := 7) (ls2 := [vr 83, vi x1, vi x2]) (st2 := [.int (M.1 83 11), .int x2]) rfl ?_
  refine R_icf q95 rfl (decide_eq_false h0) ?_
  show Rm E 95 10 [vr 83, vi x1, vi x2] [] M _ _
  refine R_S q95 3 (pc2 := 15) (ls2 := [vr 83, vi x1, vi x2]) (st2 := [.int x2, .ref 92]) rfl ?_
  refine R_ial q95 rfl rfl h1 ?_
  show Rm E 95 16 [vr 83, vi x1, vi x2] [.int (M.1 92 x2.toNatClampNeg)] M _ _
  refine R_call q95 rfl rfl rfl rfl rfl rfl h2 ?_
  show Rm E 95 19 [vr 83, vi x1, vi x2] [.int c1] M _ _
  refine R_S q95 1 (pc2 := 21) (ls2 := [vr 83, vi x1, vi x2]) (st2 := [.int (-4), .int c1]) rfl ?_
  refine R_ict q95 rfl (decide_eq_true h3) ?_
  show Rm E 95 30 [vr 83, vi x1, vi x2] [] M _ _
  refine R_S q95 3 (pc2 := 35) (ls2 := [vr 83, vi x1, vi x2]) (st2 := [.int (M.1 83 11), .int x2]) rfl ?_
  refine R_ict q95 rfl (decide_eq_true h4) ?_
  show Rm E 95 55 [vr 83, vi x1, vi x2] [] M _ _
  refine R_S q95 1 (pc2 := 57) (ls2 := [vr 83, vi x1, vi x2]) (st2 := [.int (-4)]) rfl ?_
  exact R_ret rfl q95 rfl rfl rfl rfl (stpR_i rfl rfl)
-- 7- call X10_worth 21+ 35- 46+
theorem b95_2_4 {E : env} {M : mem} {x1 x2 : Int32} {c1 : Int32} (h0 : ¬ (M.1 83 11 ≤ x2)) (h1 : inR x2 200) (h2 : Rm E 94 0 [vi (M.1 92 x2.toNatClampNeg)] [] M (some (.int c1)) M) (h3 : c1 = (-4)) (h4 : ¬ (M.1 83 11 ≤ x2)) (h5 : inR x2 200) (h6 : ¬ M.1 92 x2.toNatClampNeg = 59) : Rm E 95 2 [vr 83, vi x1, vi x2] [] M (some (.int (-4))) M := by
  refine R_S q95 3 (pc2 := 7) (ls2 := [vr 83, vi x1, vi x2]) (st2 := [.int (M.1 83 11), .int x2]) rfl ?_
  refine R_icf q95 rfl (decide_eq_false h0) ?_
  show Rm E 95 10 [vr 83, vi x1, vi x2] [] M _ _
  refine R_S q95 3 (pc2 := 15) (ls2 := [vr 83, vi x1, vi x2]) (st2 := [.int x2, .ref 92]) rfl ?_
  refine R_ial q95 rfl rfl h1 ?_
  show Rm E 95 16 [vr 83, vi x1, vi x2] [.int (M.1 92 x2.toNatClampNeg)] M _ _
  refine R_call q95 rfl rfl rfl rfl rfl rfl h2 ?_
  show Rm E 95 19 [vr 83, vi x1, vi x2] [.int c1] M _ _
  refine R_S q95 1 (pc2 := 21) (ls2 := [vr 83, vi x1, vi x2]) (st2 := [.int (-4), .int c1]) rfl ?_
  refine R_ict q95 rfl (decide_eq_true h3) ?_
  show Rm E 95 30 [vr 83, vi x1, vi x2] [] M _ _
  refine R_S q95 3 (pc2 := 35) (ls2 := [vr 83, vi x1, vi x2]) (st2 := [.int (M.1 83 11), .int x2]) rfl ?_
  refine R_icf q95 rfl (decide_eq_false h4) ?_
  show Rm E 95 38 [vr 83, vi x1, vi x2] [] M _ _
  refine R_S q95 3 (pc2 := 43) (ls2 := [vr 83, vi x1, vi x2]) (st2 := [.int x2, .ref 92]) rfl ?_
  refine R_ial q95 rfl rfl h5 ?_
  show Rm E 95 44 [vr 83, vi x1, vi x2] [.int (M.1 92 x2.toNatClampNeg)] M _ _
  refine R_S q95 1 (pc2 := 46) (ls2 := [vr 83, vi x1, vi x2]) (st2 := [.int 59, .int (M.1 92 x2.toNatClampNeg)]) rfl ?_
  refine R_ict q95 rfl (decide_eq_true h6) ?_
  show Rm E 95 55 [vr 83, vi x1, vi x2] [] M _ _
  refine R_S q95 1 (pc2 := 57) (ls2 := [vr 83, vi x1, vi x2]) (st2 := [.int (-4)]) rfl ?_
  exact R_ret rfl q95 rfl rfl rfl rfl (stpR_i rfl rfl)
-- 7- call X10_worth 21+ 35- 46-
theorem b95_2_5 {E : env} {M : mem} {x1 x2 : Int32} {c1 : Int32} (h0 : ¬ (M.1 83 11 ≤ x2)) (h1 : inR x2 200) (h2 : Rm E 94 0 [vi (M.1 92 x2.toNatClampNeg)] [] M (some (.int c1)) M) (h3 : c1 = (-4)) (h4 : ¬ (M.1 83 11 ≤ x2)) (h5 : inR x2 200) (h6 : ¬ (¬ M.1 92 x2.toNatClampNeg = 59)) : Rm E 95 2 [vr 83, vi x1, vi x2] [] M (some (.int (x2 - x1))) M := by
  refine R_S q95 3 (pc2 := 7) (ls2 := [vr 83, vi x1, vi x2]) (st2 := [.int (M.1 83 11), .int x2]) rfl ?_
  refine R_icf q95 rfl (decide_eq_false h0) ?_
  show Rm E 95 10 [vr 83, vi x1, vi x2] [] M _ _
  refine R_S q95 3 (pc2 := 15) (ls2 := [vr 83, vi x1, vi x2]) (st2 := [.int x2, .ref 92]) rfl ?_
  refine R_ial q95 rfl rfl h1 ?_
  show Rm E 95 16 [vr 83, vi x1, vi x2] [.int (M.1 92 x2.toNatClampNeg)] M _ _
  refine R_call q95 rfl rfl rfl rfl rfl rfl h2 ?_
  show Rm E 95 19 [vr 83, vi x1, vi x2] [.int c1] M _ _
  refine R_S q95 1 (pc2 := 21) (ls2 := [vr 83, vi x1, vi x2]) (st2 := [.int (-4), .int c1]) rfl ?_
  refine R_ict q95 rfl (decide_eq_true h3) ?_
  show Rm E 95 30 [vr 83, vi x1, vi x2] [] M _ _
  refine R_S q95 3 (pc2 := 35) (ls2 := [vr 83, vi x1, vi x2]) (st2 := [.int (M.1 83 11), .int x2]) rfl ?_
  refine R_icf q95 rfl (decide_eq_false h4) ?_
  show Rm E 95 38 [vr 83, vi x1, vi x2] [] M _ _
  refine R_S q95 3 (pc2 := 43) (ls2 := [vr 83, vi x1, vi x2]) (st2 := [.int x2, .ref 92]) rfl ?_
  refine R_ial q95 rfl rfl h5 ?_
  show Rm E 95 44 [vr 83, vi x1, vi x2] [.int (M.1 92 x2.toNatClampNeg)] M _ _
  refine R_S q95 1 (pc2 := 46) (ls2 := [vr 83, vi x1, vi x2]) (st2 := [.int 59, .int (M.1 92 x2.toNatClampNeg)]) rfl ?_
  refine R_icf q95 rfl (decide_eq_false h6) ?_
  show Rm E 95 49 [vr 83, vi x1, vi x2] [] M _ _
  refine R_S q95 4 (pc2 := 57) (ls2 := [vr 83, vi x1, vi x2]) (st2 := [.int (x2 - x1)]) rfl ?_
  exact R_ret rfl q95 rfl rfl rfl rfl (stpR_i rfl rfl)
-- 7- call X10_worth 21-
theorem b95_2_6 {E : env} {M : mem} {rv : Option Value} {M2 : mem} {x1 x2 : Int32} {c1 : Int32} (h0 : ¬ (M.1 83 11 ≤ x2)) (h1 : inR x2 200) (h2 : Rm E 94 0 [vi (M.1 92 x2.toNatClampNeg)] [] M (some (.int c1)) M) (h3 : ¬ (c1 = (-4))) (k : Rm E 95 2 [vr 83, vi x1, vi (x2 + 1)] [] M rv M2) : Rm E 95 2 [vr 83, vi x1, vi x2] [] M rv M2 := by
  refine R_S q95 3 (pc2 := 7) (ls2 := [vr 83, vi x1, vi x2]) (st2 := [.int (M.1 83 11), .int x2]) rfl ?_
  refine R_icf q95 rfl (decide_eq_false h0) ?_
  show Rm E 95 10 [vr 83, vi x1, vi x2] [] M _ _
  refine R_S q95 3 (pc2 := 15) (ls2 := [vr 83, vi x1, vi x2]) (st2 := [.int x2, .ref 92]) rfl ?_
  refine R_ial q95 rfl rfl h1 ?_
  show Rm E 95 16 [vr 83, vi x1, vi x2] [.int (M.1 92 x2.toNatClampNeg)] M _ _
  refine R_call q95 rfl rfl rfl rfl rfl rfl h2 ?_
  show Rm E 95 19 [vr 83, vi x1, vi x2] [.int c1] M _ _
  refine R_S q95 1 (pc2 := 21) (ls2 := [vr 83, vi x1, vi x2]) (st2 := [.int (-4), .int c1]) rfl ?_
  refine R_icf q95 rfl (decide_eq_false h3) ?_
  show Rm E 95 24 [vr 83, vi x1, vi x2] [] M _ _
  refine R_S q95 2 (pc2 := 2) (ls2 := [vr 83, vi x1, vi (x2 + 1)]) (st2 := []) rfl ?_
  exact k
-- 96 HeavyChainsModel.isUpper(II)Z  cuts [0, 15]
theorem q96 : cdOf 96 = some mt96 := rfl
-- 3+
theorem b96_0_0 {E : env} {M : mem} {rv : Option Value} {M2 : mem} {x1 x2 : Int32}  (h0 : 29 < x2) (k : Rm E 96 15 [vr 83, vi x1, vi x2, vi 0, vi 0] [] M rv M2) : Rm E 96 0 [vr 83, vi x1, vi x2, vn, vn] [] M rv M2 := by
  refine R_S q96 2 (pc2 := 3) (ls2 := [vr 83, vi x1, vi x2, vn, vn]) (st2 := [.int 29, .int x2]) rfl ?_
  refine R_ict q96 rfl (decide_eq_true h0) ?_
  show Rm E 96 10 [vr 83, vi x1, vi x2, vn, vn] [] M _ _
  refine R_S q96 4 (pc2 := 15) (ls2 := [vr 83, vi x1, vi x2, vi 0, vi 0]) (st2 := []) rfl ?_
  exact k
-- 3-
theorem b96_0_1 {E : env} {M : mem} {rv : Option Value} {M2 : mem} {x1 x2 : Int32}  (h0 : ¬ (29 < x2)) (k : Rm E 96 15 [vr 83, vi x1, vi x2, vi 1, vi 0] [] M rv M2) : Rm E 96 0 [vr 83, vi x1, vi x2, vn, vn] [] M rv M2 := by
  refine R_S q96 2 (pc2 := 3) (ls2 := [vr 83, vi x1, vi x2, vn, vn]) (st2 := [.int 29, .int x2]) rfl ?_
  refine R_icf q96 rfl (decide_eq_false h0) ?_
  show Rm E 96 6 [vr 83, vi x1, vi x2, vn, vn] [] M _ _
  refine R_S q96 5 (pc2 := 15) (ls2 := [vr 83, vi x1, vi x2, vi 1, vi 0]) (st2 := []) rfl ?_
  exact k
-- 18+
theorem b96_15_0 {E : env} {M : mem} {x1 x2 x3 x4 : Int32}  (h0 : x2 ≤ x4) (h1 : x3 = 0 ∨ x3 = 1) : Rm E 96 15 [vr 83, vi x1, vi x2, vi x3, vi x4] [] M (some (.int x3)) M := by
  refine R_S q96 2 (pc2 := 18) (ls2 := [vr 83, vi x1, vi x2, vi x3, vi x4]) (st2 := [.int x2, .int x4]) rfl ?_
  refine R_ict q96 rfl (decide_eq_true h0) ?_
  show Rm E 96 54 [vr 83, vi x1, vi x2, vi x3, vi x4] [] M _ _
  refine R_S q96 1 (pc2 := 55) (ls2 := [vr 83, vi x1, vi x2, vi x3, vi x4]) (st2 := [.int x3]) rfl ?_
  exact R_ret rfl q96 rfl rfl rfl rfl (stpR_z rfl rfl h1)
-- 18- 22+
theorem b96_15_1 {E : env} {M : mem} {rv : Option Value} {M2 : mem} {x1 x2 x3 x4 : Int32}  (h0 : ¬ (x2 ≤ x4)) (h1 : x3 = 0) (k : Rm E 96 15 [vr 83, vi x1, vi x2, vi 0, vi (x4 + 1)] [] M rv M2) : Rm E 96 15 [vr 83, vi x1, vi x2, vi x3, vi x4] [] M rv M2 := by
  refine R_S q96 2 (pc2 := 18) (ls2 := [vr 83, vi x1, vi x2, vi x3, vi x4]) (st2 := [.int x2, .int x4]) rfl ?_
  refine R_icf q96 rfl (decide_eq_false h0) ?_
  show Rm E 96 21 [vr 83, vi x1, vi x2, vi x3, vi x4] [] M _ _
  refine R_S q96 1 (pc2 := 22) (ls2 := [vr 83, vi x1, vi x2, vi x3, vi x4]) (st2 := [.int x3]) rfl ?_
  refine R_ift q96 rfl (decide_eq_true h1) ?_
  show Rm E 96 46 [vr 83, vi x1, vi x2, vi x3, vi x4] [] M _ _
  refine R_S q96 4 (pc2 := 15) (ls2 := [vr 83, vi x1, vi x2, vi 0, vi (x4 + 1)]) (st2 := []) rfl ?_
  exact k
-- 18- 22- call X10_worth 39+
theorem b96_15_2 {E : env} {M : mem} {rv : Option Value} {M2 : mem} {x1 x2 x3 x4 : Int32} {c1 : Int32} (h0 : ¬ (x2 ≤ x4)) (h1 : ¬ (x3 = 0)) (h2 : inR (x1 + x4) 200) (h3 : Rm E 94 0 [vi (M.1 92 (x1 + x4).toNatClampNeg)] [] M (some (.int c1)) M) (h4 : x4 < c1) (k : Rm E 96 15 [vr 83, vi x1, vi x2, vi 0, vi (x4 + 1)] [] M rv M2) : Rm E 96 15 [vr 83, vi x1, vi x2, vi x3, vi x4] [] M rv M2 := by
  refine R_S q96 2 (pc2 := 18) (ls2 := [vr 83, vi x1, vi x2, vi x3, vi x4]) (st2 := [.int x2, .int x4]) rfl ?_
  refine R_icf q96 rfl (decide_eq_false h0) ?_
  show Rm E 96 21 [vr 83, vi x1, vi x2, vi x3, vi x4] [] M _ _
  refine R_S q96 1 (pc2 := 22) (ls2 := [vr 83, vi x1, vi x2, vi x3, vi x4]) (st2 := [.int x3]) rfl ?_
  refine R_iff q96 rfl (decide_eq_false h1) ?_
  show Rm E 96 25 [vr 83, vi x1, vi x2, vi x3, vi x4] [] M _ _
  refine R_S q96 5 (pc2 := 33) (ls2 := [vr 83, vi x1, vi x2, vi x3, vi x4]) (st2 := [.int (x1 + x4), .ref 92]) rfl ?_
  refine R_ial q96 rfl rfl h2 ?_
  show Rm E 96 34 [vr 83, vi x1, vi x2, vi x3, vi x4] [.int (M.1 92 (x1 + x4).toNatClampNeg)] M _ _
  refine R_call q96 rfl rfl rfl rfl rfl rfl h3 ?_
  show Rm E 96 37 [vr 83, vi x1, vi x2, vi x3, vi x4] [.int c1] M _ _
  refine R_S q96 1 (pc2 := 39) (ls2 := [vr 83, vi x1, vi x2, vi x3, vi x4]) (st2 := [.int x4, .int c1]) rfl ?_
  refine R_ict q96 rfl (decide_eq_true h4) ?_
  show Rm E 96 46 [vr 83, vi x1, vi x2, vi x3, vi x4] [] M _ _
  refine R_S q96 4 (pc2 := 15) (ls2 := [vr 83, vi x1, vi x2, vi 0, vi (x4 + 1)]) (st2 := []) rfl ?_
  exact k
-- 18- 22- call X10_worth 39-
theorem b96_15_3 {E : env} {M : mem} {rv : Option Value} {M2 : mem} {x1 x2 x3 x4 : Int32} {c1 : Int32} (h0 : ¬ (x2 ≤ x4)) (h1 : ¬ (x3 = 0)) (h2 : inR (x1 + x4) 200) (h3 : Rm E 94 0 [vi (M.1 92 (x1 + x4).toNatClampNeg)] [] M (some (.int c1)) M) (h4 : ¬ (x4 < c1)) (k : Rm E 96 15 [vr 83, vi x1, vi x2, vi 1, vi (x4 + 1)] [] M rv M2) : Rm E 96 15 [vr 83, vi x1, vi x2, vi x3, vi x4] [] M rv M2 := by
  refine R_S q96 2 (pc2 := 18) (ls2 := [vr 83, vi x1, vi x2, vi x3, vi x4]) (st2 := [.int x2, .int x4]) rfl ?_
  refine R_icf q96 rfl (decide_eq_false h0) ?_
  show Rm E 96 21 [vr 83, vi x1, vi x2, vi x3, vi x4] [] M _ _
  refine R_S q96 1 (pc2 := 22) (ls2 := [vr 83, vi x1, vi x2, vi x3, vi x4]) (st2 := [.int x3]) rfl ?_
  refine R_iff q96 rfl (decide_eq_false h1) ?_
  show Rm E 96 25 [vr 83, vi x1, vi x2, vi x3, vi x4] [] M _ _
  refine R_S q96 5 (pc2 := 33) (ls2 := [vr 83, vi x1, vi x2, vi x3, vi x4]) (st2 := [.int (x1 + x4), .ref 92]) rfl ?_
  refine R_ial q96 rfl rfl h2 ?_
  show Rm E 96 34 [vr 83, vi x1, vi x2, vi x3, vi x4] [.int (M.1 92 (x1 + x4).toNatClampNeg)] M _ _
  refine R_call q96 rfl rfl rfl rfl rfl rfl h3 ?_
  show Rm E 96 37 [vr 83, vi x1, vi x2, vi x3, vi x4] [.int c1] M _ _
  refine R_S q96 1 (pc2 := 39) (ls2 := [vr 83, vi x1, vi x2, vi x3, vi x4]) (st2 := [.int x4, .int c1]) rfl ?_
  refine R_icf q96 rfl (decide_eq_false h4) ?_
  show Rm E 96 42 [vr 83, vi x1, vi x2, vi x3, vi x4] [] M _ _
  refine R_S q96 5 (pc2 := 15) (ls2 := [vr 83, vi x1, vi x2, vi 1, vi (x4 + 1)]) (st2 := []) rfl ?_
  exact k
-- 97 HeavyChainsModel.areFigures(II)Z  cuts [0, 5]
theorem q97 : cdOf 97 = some mt97 := rfl
-- 
theorem b97_0_0 {E : env} {M : mem} {rv : Option Value} {M2 : mem} {x1 x2 : Int32}  (k : Rm E 97 5 [vr 83, vi x1, vi x2, vi 1, vi 0] [] M rv M2) : Rm E 97 0 [vr 83, vi x1, vi x2, vn, vn] [] M rv M2 := by
  refine R_S q97 4 (pc2 := 5) (ls2 := [vr 83, vi x1, vi x2, vi 1, vi 0]) (st2 := []) rfl ?_
  exact k
-- 8+
theorem b97_5_0 {E : env} {M : mem} {x1 x2 x3 x4 : Int32}  (h0 : x2 ≤ x4) (h1 : x3 = 0 ∨ x3 = 1) : Rm E 97 5 [vr 83, vi x1, vi x2, vi x3, vi x4] [] M (some (.int x3)) M := by
  refine R_S q97 2 (pc2 := 8) (ls2 := [vr 83, vi x1, vi x2, vi x3, vi x4]) (st2 := [.int x2, .int x4]) rfl ?_
  refine R_ict q97 rfl (decide_eq_true h0) ?_
  show Rm E 97 44 [vr 83, vi x1, vi x2, vi x3, vi x4] [] M _ _
  refine R_S q97 1 (pc2 := 45) (ls2 := [vr 83, vi x1, vi x2, vi x3, vi x4]) (st2 := [.int x3]) rfl ?_
  exact R_ret rfl q97 rfl rfl rfl rfl (stpR_z rfl rfl h1)
-- 8- 12+
theorem b97_5_1 {E : env} {M : mem} {rv : Option Value} {M2 : mem} {x1 x2 x3 x4 : Int32}  (h0 : ¬ (x2 ≤ x4)) (h1 : x3 = 0) (k : Rm E 97 5 [vr 83, vi x1, vi x2, vi 0, vi (x4 + 1)] [] M rv M2) : Rm E 97 5 [vr 83, vi x1, vi x2, vi x3, vi x4] [] M rv M2 := by
  refine R_S q97 2 (pc2 := 8) (ls2 := [vr 83, vi x1, vi x2, vi x3, vi x4]) (st2 := [.int x2, .int x4]) rfl ?_
  refine R_icf q97 rfl (decide_eq_false h0) ?_
  show Rm E 97 11 [vr 83, vi x1, vi x2, vi x3, vi x4] [] M _ _
  refine R_S q97 1 (pc2 := 12) (ls2 := [vr 83, vi x1, vi x2, vi x3, vi x4]) (st2 := [.int x3]) rfl ?_
  refine R_ift q97 rfl (decide_eq_true h1) ?_
  show Rm E 97 36 [vr 83, vi x1, vi x2, vi x3, vi x4] [] M _ _
  refine R_S q97 4 (pc2 := 5) (ls2 := [vr 83, vi x1, vi x2, vi 0, vi (x4 + 1)]) (st2 := []) rfl ?_
  exact k
-- 8- 12- call X10_worth 29+
theorem b97_5_2 {E : env} {M : mem} {rv : Option Value} {M2 : mem} {x1 x2 x3 x4 : Int32} {c1 : Int32} (h0 : ¬ (x2 ≤ x4)) (h1 : ¬ (x3 = 0)) (h2 : inR (x1 + x4) 200) (h3 : Rm E 94 0 [vi (M.1 92 (x1 + x4).toNatClampNeg)] [] M (some (.int c1)) M) (h4 : 10 ≤ c1) (k : Rm E 97 5 [vr 83, vi x1, vi x2, vi 0, vi (x4 + 1)] [] M rv M2) : Rm E 97 5 [vr 83, vi x1, vi x2, vi x3, vi x4] [] M rv M2 := by
  refine R_S q97 2 (pc2 := 8) (ls2 := [vr 83, vi x1, vi x2, vi x3, vi x4]) (st2 := [.int x2, .int x4]) rfl ?_
  refine R_icf q97 rfl (decide_eq_false h0) ?_
  show Rm E 97 11 [vr 83, vi x1, vi x2, vi x3, vi x4] [] M _ _
  refine R_S q97 1 (pc2 := 12) (ls2 := [vr 83, vi x1, vi x2, vi x3, vi x4]) (st2 := [.int x3]) rfl ?_
  refine R_iff q97 rfl (decide_eq_false h1) ?_
  show Rm E 97 15 [vr 83, vi x1, vi x2, vi x3, vi x4] [] M _ _
  refine R_S q97 5 (pc2 := 23) (ls2 := [vr 83, vi x1, vi x2, vi x3, vi x4]) (st2 := [.int (x1 + x4), .ref 92]) rfl ?_
  refine R_ial q97 rfl rfl h2 ?_
  show Rm E 97 24 [vr 83, vi x1, vi x2, vi x3, vi x4] [.int (M.1 92 (x1 + x4).toNatClampNeg)] M _ _
  refine R_call q97 rfl rfl rfl rfl rfl rfl h3 ?_
  show Rm E 97 27 [vr 83, vi x1, vi x2, vi x3, vi x4] [.int c1] M _ _
  refine R_S q97 1 (pc2 := 29) (ls2 := [vr 83, vi x1, vi x2, vi x3, vi x4]) (st2 := [.int 10, .int c1]) rfl ?_
  refine R_ict q97 rfl (decide_eq_true h4) ?_
  show Rm E 97 36 [vr 83, vi x1, vi x2, vi x3, vi x4] [] M _ _
  refine R_S q97 4 (pc2 := 5) (ls2 := [vr 83, vi x1, vi x2, vi 0, vi (x4 + 1)]) (st2 := []) rfl ?_
  exact k
-- 8- 12- call X10_worth 29-
theorem b97_5_3 {E : env} {M : mem} {rv : Option Value} {M2 : mem} {x1 x2 x3 x4 : Int32} {c1 : Int32} (h0 : ¬ (x2 ≤ x4)) (h1 : ¬ (x3 = 0)) (h2 : inR (x1 + x4) 200) (h3 : Rm E 94 0 [vi (M.1 92 (x1 + x4).toNatClampNeg)] [] M (some (.int c1)) M) (h4 : ¬ (10 ≤ c1)) (k : Rm E 97 5 [vr 83, vi x1, vi x2, vi 1, vi (x4 + 1)] [] M rv M2) : Rm E 97 5 [vr 83, vi x1, vi x2, vi x3, vi x4] [] M rv M2 := by
  refine R_S q97 2 (pc2 := 8) (ls2 := [vr 83, vi x1, vi x2, vi x3, vi x4]) (st2 := [.int x2, .int x4]) rfl ?_
  refine R_icf q97 rfl (decide_eq_false h0) ?_
  show Rm E 97 11 [vr 83, vi x1, vi x2, vi x3, vi x4] [] M _ _
  refine R_S q97 1 (pc2 := 12) (ls2 := [vr 83, vi x1, vi x2, vi x3, vi x4]) (st2 := [.int x3]) rfl ?_
  refine R_iff q97 rfl (decide_eq_false h1) ?_
  show Rm E 97 15 [vr 83, vi x1, vi x2, vi x3, vi x4] [] M _ _
  refine R_S q97 5 (pc2 := 23) (ls2 := [vr 83, vi x1, vi x2, vi x3, vi x4]) (st2 := [.int (x1 + x4), .ref 92]) rfl ?_
  refine R_ial q97 rfl rfl h2 ?_
  show Rm E 97 24 [vr 83, vi x1, vi x2, vi x3, vi x4] [.int (M.1 92 (x1 + x4).toNatClampNeg)] M _ _
  refine R_call q97 rfl rfl rfl rfl rfl rfl h3 ?_
  show Rm E 97 27 [vr 83, vi x1, vi x2, vi x3, vi x4] [.int c1] M _ _
  refine R_S q97 1 (pc2 := 29) (ls2 := [vr 83, vi x1, vi x2, vi x3, vi x4]) (st2 := [.int 10, .int c1]) rfl ?_
  refine R_icf q97 rfl (decide_eq_false h4) ?_
  show Rm E 97 32 [vr 83, vi x1, vi x2, vi x3, vi x4] [] M _ _
  refine R_S q97 5 (pc2 := 5) (ls2 := [vr 83, vi x1, vi x2, vi 1, vi (x4 + 1)]) (st2 := []) rfl ?_
  exact k
-- 98 HeavyChainsModel.fault()I  cuts [0, 7, 41, 61, 66, 97, 128, 132, 133, 158]
theorem q98 : cdOf 98 = some mt98 := rfl
-- 
theorem b98_0_0 {E : env} {M : mem} {rv : Option Value} {M2 : mem} {N1 : mem} (eN1 : N1 = upM M 83 12 0) (k : Rm E 98 7 [vr 83, vi 0, vn, vn, vn, vn, vn] [] N1 rv M2) : Rm E 98 0 [vr 83, vn, vn, vn, vn, vn, vn] [] M rv M2 := by
  refine R_S q98 2 (pc2 := 2) (ls2 := [vr 83, vn, vn, vn, vn, vn, vn]) (st2 := [.int 0, .ref 83]) rfl ?_
  refine R_pf q98 rfl rfl rfl rfl rfl eN1 ?_
  show Rm E 98 5 [vr 83, vn, vn, vn, vn, vn, vn] [] N1 _ _
  refine R_S q98 2 (pc2 := 7) (ls2 := [vr 83, vi 0, vn, vn, vn, vn, vn]) (st2 := []) rfl ?_
  exact k
-- 12+
theorem b98_7_0 {E : env} {M : mem} {x1 : Int32}  (h0 : M.1 83 11 ≤ x1) : Rm E 98 7 [vr 83, vi x1, vn, vn, vn, vn, vn] [] M (some (.int (-4))) M := by
  refine R_S q98 3 (pc2 := 12) (ls2 := [vr 83, vi x1, vn, vn, vn, vn, vn]) (st2 := [.int (M.1 83 11), .int x1]) rfl ?_
  refine R_ict q98 rfl (decide_eq_true h0) ?_
  show Rm E 98 170 [vr 83, vi x1, vn, vn, vn, vn, vn] [] M _ _
  refine R_S q98 1 (pc2 := 172) (ls2 := [vr 83, vi x1, vn, vn, vn, vn, vn]) (st2 := [.int (-4)]) rfl ?_
  exact R_ret rfl q98 rfl rfl rfl rfl (stpR_i rfl rfl)
-- 12- call X10_signsFrom 33+
theorem b98_7_1 {E : env} {M : mem} {rv : Option Value} {M2 : mem} {x1 : Int32} {c1 : Int32} (h0 : ¬ (M.1 83 11 ≤ x1)) (h1 : inR x1 200) (h2 : Rm E 95 0 [vr 83, vi (x1 + 1), vn] [] M (some (.int c1)) M) (h3 : ¬ M.1 92 x1.toNatClampNeg = 112) (k : Rm E 98 41 [vr 83, vi x1, vi (M.1 92 x1.toNatClampNeg), vi c1, vn, vn, vn] [.int 0] M rv M2) : Rm E 98 7 [vr 83, vi x1, vn, vn, vn, vn, vn] [] M rv M2 := by
  refine R_S q98 3 (pc2 := 12) (ls2 := [vr 83, vi x1, vn, vn, vn, vn, vn]) (st2 := [.int (M.1 83 11), .int x1]) rfl ?_
  refine R_icf q98 rfl (decide_eq_false h0) ?_
  show Rm E 98 15 [vr 83, vi x1, vn, vn, vn, vn, vn] [] M _ _
  refine R_S q98 3 (pc2 := 20) (ls2 := [vr 83, vi x1, vn, vn, vn, vn, vn]) (st2 := [.int x1, .ref 92]) rfl ?_
  refine R_ial q98 rfl rfl h1 ?_
  show Rm E 98 21 [vr 83, vi x1, vn, vn, vn, vn, vn] [.int (M.1 92 x1.toNatClampNeg)] M _ _
  refine R_S q98 5 (pc2 := 26) (ls2 := [vr 83, vi x1, vi (M.1 92 x1.toNatClampNeg), vn, vn, vn, vn]) (st2 := [.int (x1 + 1), .ref 83]) rfl ?_
  refine R_call q98 rfl rfl rfl rfl rfl rfl h2 ?_
  show Rm E 98 29 [vr 83, vi x1, vi (M.1 92 x1.toNatClampNeg), vn, vn, vn, vn] [.int c1] M _ _
  refine R_S q98 3 (pc2 := 33) (ls2 := [vr 83, vi x1, vi (M.1 92 x1.toNatClampNeg), vi c1, vn, vn, vn]) (st2 := [.int 112, .int (M.1 92 x1.toNatClampNeg)]) rfl ?_
  refine R_ict q98 rfl (decide_eq_true h3) ?_
  show Rm E 98 40 [vr 83, vi x1, vi (M.1 92 x1.toNatClampNeg), vi c1, vn, vn, vn] [] M _ _
  refine R_S q98 1 (pc2 := 41) (ls2 := [vr 83, vi x1, vi (M.1 92 x1.toNatClampNeg), vi c1, vn, vn, vn]) (st2 := [.int 0]) rfl ?_
  exact k
-- 12- call X10_signsFrom 33-
theorem b98_7_2 {E : env} {M : mem} {rv : Option Value} {M2 : mem} {x1 : Int32} {c1 : Int32} (h0 : ¬ (M.1 83 11 ≤ x1)) (h1 : inR x1 200) (h2 : Rm E 95 0 [vr 83, vi (x1 + 1), vn] [] M (some (.int c1)) M) (h3 : ¬ (¬ M.1 92 x1.toNatClampNeg = 112)) (k : Rm E 98 41 [vr 83, vi x1, vi (M.1 92 x1.toNatClampNeg), vi c1, vn, vn, vn] [.int 1] M rv M2) : Rm E 98 7 [vr 83, vi x1, vn, vn, vn, vn, vn] [] M rv M2 := by
  refine R_S q98 3 (pc2 := 12) (ls2 := [vr 83, vi x1, vn, vn, vn, vn, vn]) (st2 := [.int (M.1 83 11), .int x1]) rfl ?_
  refine R_icf q98 rfl (decide_eq_false h0) ?_
  show Rm E 98 15 [vr 83, vi x1, vn, vn, vn, vn, vn] [] M _ _
  refine R_S q98 3 (pc2 := 20) (ls2 := [vr 83, vi x1, vn, vn, vn, vn, vn]) (st2 := [.int x1, .ref 92]) rfl ?_
  refine R_ial q98 rfl rfl h1 ?_
  show Rm E 98 21 [vr 83, vi x1, vn, vn, vn, vn, vn] [.int (M.1 92 x1.toNatClampNeg)] M _ _
  refine R_S q98 5 (pc2 := 26) (ls2 := [vr 83, vi x1, vi (M.1 92 x1.toNatClampNeg), vn, vn, vn, vn]) (st2 := [.int (x1 + 1), .ref 83]) rfl ?_
  refine R_call q98 rfl rfl rfl rfl rfl rfl h2 ?_
  show Rm E 98 29 [vr 83, vi x1, vi (M.1 92 x1.toNatClampNeg), vn, vn, vn, vn] [.int c1] M _ _
  refine R_S q98 3 (pc2 := 33) (ls2 := [vr 83, vi x1, vi (M.1 92 x1.toNatClampNeg), vi c1, vn, vn, vn]) (st2 := [.int 112, .int (M.1 92 x1.toNatClampNeg)]) rfl ?_
  refine R_icf q98 rfl (decide_eq_false h3) ?_
  show Rm E 98 36 [vr 83, vi x1, vi (M.1 92 x1.toNatClampNeg), vi c1, vn, vn, vn] [] M _ _
  refine R_S q98 2 (pc2 := 41) (ls2 := [vr 83, vi x1, vi (M.1 92 x1.toNatClampNeg), vi c1, vn, vn, vn]) (st2 := [.int 1]) rfl ?_
  exact k
-- 46+
theorem b98_41_0 {E : env} {M : mem} {rv : Option Value} {M2 : mem} {x1 x2 x3 s0 : Int32}  (h0 : x2 = 119) (k : Rm E 98 61 [vr 83, vi x1, vn, vi x3, vi s0, vn, vn] [] M rv M2) : Rm E 98 41 [vr 83, vi x1, vi x2, vi x3, vn, vn, vn] [.int s0] M rv M2 := by
  refine R_S q98 3 (pc2 := 46) (ls2 := [vr 83, vi x1, vi x2, vi x3, vi s0, vn, vn]) (st2 := [.int 119, .int x2]) rfl ?_
  refine R_ict q98 rfl (decide_eq_true h0) ?_
  show Rm E 98 61 [vr 83, vi x1, vi x2, vi x3, vi s0, vn, vn] [] M _ _
  exact R_w (ls := [vr 83, vi x1, vn, vi x3, vi s0, vn, vn]) (show lsle _ _ from ⟨rfl, ⟨rfl, ⟨rfl, ⟨rfl, trivial⟩⟩⟩⟩) k
-- 46- 52+
theorem b98_41_1 {E : env} {M : mem} {rv : Option Value} {M2 : mem} {x1 x2 x3 s0 : Int32}  (h0 : ¬ (x2 = 119)) (h1 : x2 = 102) (k : Rm E 98 61 [vr 83, vi x1, vn, vi x3, vi s0, vn, vn] [] M rv M2) : Rm E 98 41 [vr 83, vi x1, vi x2, vi x3, vn, vn, vn] [.int s0] M rv M2 := by
  refine R_S q98 3 (pc2 := 46) (ls2 := [vr 83, vi x1, vi x2, vi x3, vi s0, vn, vn]) (st2 := [.int 119, .int x2]) rfl ?_
  refine R_icf q98 rfl (decide_eq_false h0) ?_
  show Rm E 98 49 [vr 83, vi x1, vi x2, vi x3, vi s0, vn, vn] [] M _ _
  refine R_S q98 2 (pc2 := 52) (ls2 := [vr 83, vi x1, vi x2, vi x3, vi s0, vn, vn]) (st2 := [.int 102, .int x2]) rfl ?_
  refine R_ict q98 rfl (decide_eq_true h1) ?_
  show Rm E 98 61 [vr 83, vi x1, vi x2, vi x3, vi s0, vn, vn] [] M _ _
  exact R_w (ls := [vr 83, vi x1, vn, vi x3, vi s0, vn, vn]) (show lsle _ _ from ⟨rfl, ⟨rfl, ⟨rfl, ⟨rfl, trivial⟩⟩⟩⟩) k
-- 46- 52- 58+
theorem b98_41_2 {E : env} {M : mem} {rv : Option Value} {M2 : mem} {x1 x2 x3 s0 : Int32}  (h0 : ¬ (x2 = 119)) (h1 : ¬ (x2 = 102)) (h2 : ¬ x2 = 103) (k : Rm E 98 66 [vr 83, vi x1, vn, vi x3, vi s0, vn, vn] [.int 0] M rv M2) : Rm E 98 41 [vr 83, vi x1, vi x2, vi x3, vn, vn, vn] [.int s0] M rv M2 := by
  refine R_S q98 3 (pc2 := 46) (ls2 := [vr 83, vi x1, vi x2, vi x3, vi s0, vn, vn]) (st2 := [.int 119, .int x2]) rfl ?_
  refine R_icf q98 rfl (decide_eq_false h0) ?_
  show Rm E 98 49 [vr 83, vi x1, vi x2, vi x3, vi s0, vn, vn] [] M _ _
  refine R_S q98 2 (pc2 := 52) (ls2 := [vr 83, vi x1, vi x2, vi x3, vi s0, vn, vn]) (st2 := [.int 102, .int x2]) rfl ?_
  refine R_icf q98 rfl (decide_eq_false h1) ?_
  show Rm E 98 55 [vr 83, vi x1, vi x2, vi x3, vi s0, vn, vn] [] M _ _
  refine R_S q98 2 (pc2 := 58) (ls2 := [vr 83, vi x1, vi x2, vi x3, vi s0, vn, vn]) (st2 := [.int 103, .int x2]) rfl ?_
  refine R_ict q98 rfl (decide_eq_true h2) ?_
  show Rm E 98 65 [vr 83, vi x1, vi x2, vi x3, vi s0, vn, vn] [] M _ _
  refine R_S q98 1 (pc2 := 66) (ls2 := [vr 83, vi x1, vi x2, vi x3, vi s0, vn, vn]) (st2 := [.int 0]) rfl ?_
  exact R_w (ls := [vr 83, vi x1, vn, vi x3, vi s0, vn, vn]) (show lsle _ _ from ⟨rfl, ⟨rfl, ⟨rfl, ⟨rfl, trivial⟩⟩⟩⟩) k
-- 46- 52- 58-
theorem b98_41_3 {E : env} {M : mem} {rv : Option Value} {M2 : mem} {x1 x2 x3 s0 : Int32}  (h0 : ¬ (x2 = 119)) (h1 : ¬ (x2 = 102)) (h2 : ¬ (¬ x2 = 103)) (k : Rm E 98 61 [vr 83, vi x1, vn, vi x3, vi s0, vn, vn] [] M rv M2) : Rm E 98 41 [vr 83, vi x1, vi x2, vi x3, vn, vn, vn] [.int s0] M rv M2 := by
  refine R_S q98 3 (pc2 := 46) (ls2 := [vr 83, vi x1, vi x2, vi x3, vi s0, vn, vn]) (st2 := [.int 119, .int x2]) rfl ?_
  refine R_icf q98 rfl (decide_eq_false h0) ?_
  show Rm E 98 49 [vr 83, vi x1, vi x2, vi x3, vi s0, vn, vn] [] M _ _
  refine R_S q98 2 (pc2 := 52) (ls2 := [vr 83, vi x1, vi x2, vi x3, vi s0, vn, vn]) (st2 := [.int 102, .int x2]) rfl ?_
  refine R_icf q98 rfl (decide_eq_false h1) ?_
  show Rm E 98 55 [vr 83, vi x1, vi x2, vi x3, vi s0, vn, vn] [] M _ _
  refine R_S q98 2 (pc2 := 58) (ls2 := [vr 83, vi x1, vi x2, vi x3, vi s0, vn, vn]) (st2 := [.int 103, .int x2]) rfl ?_
  refine R_icf q98 rfl (decide_eq_false h2) ?_
  show Rm E 98 61 [vr 83, vi x1, vi x2, vi x3, vi s0, vn, vn] [] M _ _
  exact R_w (ls := [vr 83, vi x1, vn, vi x3, vi s0, vn, vn]) (show lsle _ _ from ⟨rfl, ⟨rfl, ⟨rfl, ⟨rfl, trivial⟩⟩⟩⟩) k
-- 
theorem b98_61_0 {E : env} {M : mem} {rv : Option Value} {M2 : mem} {x1 x3 x4 : Int32}  (k : Rm E 98 66 [vr 83, vi x1, vn, vi x3, vi x4, vn, vn] [.int 1] M rv M2) : Rm E 98 61 [vr 83, vi x1, vn, vi x3, vi x4, vn, vn] [] M rv M2 := by
  refine R_S q98 2 (pc2 := 66) (ls2 := [vr 83, vi x1, vn, vi x3, vi x4, vn, vn]) (st2 := [.int 1]) rfl ?_
  exact k
-- 71+
theorem b98_66_0 {E : env} {M : mem} {rv : Option Value} {M2 : mem} {x1 x3 x4 s0 : Int32}  (h0 : x3 = (-4)) (k : Rm E 98 132 [vr 83, vi x1, vn, vi x3, vi x4, vn, vn] [] M rv M2) : Rm E 98 66 [vr 83, vi x1, vn, vi x3, vi x4, vn, vn] [.int s0] M rv M2 := by
  refine R_S q98 3 (pc2 := 71) (ls2 := [vr 83, vi x1, vn, vi x3, vi x4, vi s0, vn]) (st2 := [.int (-4), .int x3]) rfl ?_
  refine R_ict q98 rfl (decide_eq_true h0) ?_
  show Rm E 98 132 [vr 83, vi x1, vn, vi x3, vi x4, vi s0, vn] [] M _ _
  exact R_w (ls := [vr 83, vi x1, vn, vi x3, vi x4, vn, vn]) (show lsle _ _ from ⟨rfl, ⟨rfl, ⟨rfl, ⟨rfl, trivial⟩⟩⟩⟩) k
-- 71- 76+
theorem b98_66_1 {E : env} {M : mem} {rv : Option Value} {M2 : mem} {x1 x3 x4 s0 : Int32}  (h0 : ¬ (x3 = (-4))) (h1 : x4 = 0) (k : Rm E 98 97 [vr 83, vi x1, vn, vi x3, vi x4, vi s0, vn] [] M rv M2) : Rm E 98 66 [vr 83, vi x1, vn, vi x3, vi x4, vn, vn] [.int s0] M rv M2 := by
  refine R_S q98 3 (pc2 := 71) (ls2 := [vr 83, vi x1, vn, vi x3, vi x4, vi s0, vn]) (st2 := [.int (-4), .int x3]) rfl ?_
  refine R_icf q98 rfl (decide_eq_false h0) ?_
  show Rm E 98 74 [vr 83, vi x1, vn, vi x3, vi x4, vi s0, vn] [] M _ _
  refine R_S q98 1 (pc2 := 76) (ls2 := [vr 83, vi x1, vn, vi x3, vi x4, vi s0, vn]) (st2 := [.int x4]) rfl ?_
  refine R_ift q98 rfl (decide_eq_true h1) ?_
  show Rm E 98 97 [vr 83, vi x1, vn, vi x3, vi x4, vi s0, vn] [] M _ _
  exact k
-- 71- 76- 83+
theorem b98_66_2 {E : env} {M : mem} {rv : Option Value} {M2 : mem} {x1 x3 x4 s0 : Int32}  (h0 : ¬ (x3 = (-4))) (h1 : ¬ (x4 = 0)) (h2 : ¬ M.1 83 12 = 0) (k : Rm E 98 97 [vr 83, vi x1, vn, vi x3, vi x4, vi s0, vn] [] M rv M2) : Rm E 98 66 [vr 83, vi x1, vn, vi x3, vi x4, vn, vn] [.int s0] M rv M2 := by
  refine R_S q98 3 (pc2 := 71) (ls2 := [vr 83, vi x1, vn, vi x3, vi x4, vi s0, vn]) (st2 := [.int (-4), .int x3]) rfl ?_
  refine R_icf q98 rfl (decide_eq_false h0) ?_
  show Rm E 98 74 [vr 83, vi x1, vn, vi x3, vi x4, vi s0, vn] [] M _ _
  refine R_S q98 1 (pc2 := 76) (ls2 := [vr 83, vi x1, vn, vi x3, vi x4, vi s0, vn]) (st2 := [.int x4]) rfl ?_
  refine R_iff q98 rfl (decide_eq_false h1) ?_
  show Rm E 98 79 [vr 83, vi x1, vn, vi x3, vi x4, vi s0, vn] [] M _ _
  refine R_S q98 2 (pc2 := 83) (ls2 := [vr 83, vi x1, vn, vi x3, vi x4, vi s0, vn]) (st2 := [.int (M.1 83 12)]) rfl ?_
  refine R_ift q98 rfl (decide_eq_true h2) ?_
  show Rm E 98 97 [vr 83, vi x1, vn, vi x3, vi x4, vi s0, vn] [] M _ _
  exact k
-- 71- 76- 83- call X10_isUpper 94+
theorem b98_66_3 {E : env} {M : mem} {rv : Option Value} {M2 : mem} {x1 x3 x4 s0 : Int32} {c1 : Int32} (h0 : ¬ (x3 = (-4))) (h1 : ¬ (x4 = 0)) (h2 : ¬ (¬ M.1 83 12 = 0)) (h3 : Rm E 96 0 [vr 83, vi (x1 + 1), vi x3, vn, vn] [] M (some (.int c1)) M) (h4 : ¬ c1 = 0) (k : Rm E 98 128 [vr 83, vi x1, vn, vi x3, vi x4, vn, vn] [] M rv M2) : Rm E 98 66 [vr 83, vi x1, vn, vi x3, vi x4, vn, vn] [.int s0] M rv M2 := by
  refine R_S q98 3 (pc2 := 71) (ls2 := [vr 83, vi x1, vn, vi x3, vi x4, vi s0, vn]) (st2 := [.int (-4), .int x3]) rfl ?_
  refine R_icf q98 rfl (decide_eq_false h0) ?_
  show Rm E 98 74 [vr 83, vi x1, vn, vi x3, vi x4, vi s0, vn] [] M _ _
  refine R_S q98 1 (pc2 := 76) (ls2 := [vr 83, vi x1, vn, vi x3, vi x4, vi s0, vn]) (st2 := [.int x4]) rfl ?_
  refine R_iff q98 rfl (decide_eq_false h1) ?_
  show Rm E 98 79 [vr 83, vi x1, vn, vi x3, vi x4, vi s0, vn] [] M _ _
  refine R_S q98 2 (pc2 := 83) (ls2 := [vr 83, vi x1, vn, vi x3, vi x4, vi s0, vn]) (st2 := [.int (M.1 83 12)]) rfl ?_
  refine R_iff q98 rfl (decide_eq_false h2) ?_
  show Rm E 98 86 [vr 83, vi x1, vn, vi x3, vi x4, vi s0, vn] [] M _ _
  refine R_S q98 5 (pc2 := 91) (ls2 := [vr 83, vi x1, vn, vi x3, vi x4, vi s0, vn]) (st2 := [.int x3, .int (x1 + 1), .ref 83]) rfl ?_
  refine R_call q98 rfl rfl rfl rfl rfl rfl h3 ?_
  show Rm E 98 94 [vr 83, vi x1, vn, vi x3, vi x4, vi s0, vn] [.int c1] M _ _
  refine R_ift q98 rfl (decide_eq_true h4) ?_
  show Rm E 98 128 [vr 83, vi x1, vn, vi x3, vi x4, vi s0, vn] [] M _ _
  exact R_w (ls := [vr 83, vi x1, vn, vi x3, vi x4, vn, vn]) (show lsle _ _ from ⟨rfl, ⟨rfl, ⟨rfl, ⟨rfl, trivial⟩⟩⟩⟩) k
-- 71- 76- 83- call X10_isUpper 94-
theorem b98_66_4 {E : env} {M : mem} {rv : Option Value} {M2 : mem} {x1 x3 x4 s0 : Int32} {c1 : Int32} (h0 : ¬ (x3 = (-4))) (h1 : ¬ (x4 = 0)) (h2 : ¬ (¬ M.1 83 12 = 0)) (h3 : Rm E 96 0 [vr 83, vi (x1 + 1), vi x3, vn, vn] [] M (some (.int c1)) M) (h4 : ¬ (¬ c1 = 0)) (k : Rm E 98 97 [vr 83, vi x1, vn, vi x3, vi x4, vi s0, vn] [] M rv M2) : Rm E 98 66 [vr 83, vi x1, vn, vi x3, vi x4, vn, vn] [.int s0] M rv M2 := by
  refine R_S q98 3 (pc2 := 71) (ls2 := [vr 83, vi x1, vn, vi x3, vi x4, vi s0, vn]) (st2 := [.int (-4), .int x3]) rfl ?_
  refine R_icf q98 rfl (decide_eq_false h0) ?_
  show Rm E 98 74 [vr 83, vi x1, vn, vi x3, vi x4, vi s0, vn] [] M _ _
  refine R_S q98 1 (pc2 := 76) (ls2 := [vr 83, vi x1, vn, vi x3, vi x4, vi s0, vn]) (st2 := [.int x4]) rfl ?_
  refine R_iff q98 rfl (decide_eq_false h1) ?_
  show Rm E 98 79 [vr 83, vi x1, vn, vi x3, vi x4, vi s0, vn] [] M _ _
  refine R_S q98 2 (pc2 := 83) (ls2 := [vr 83, vi x1, vn, vi x3, vi x4, vi s0, vn]) (st2 := [.int (M.1 83 12)]) rfl ?_
  refine R_iff q98 rfl (decide_eq_false h2) ?_
  show Rm E 98 86 [vr 83, vi x1, vn, vi x3, vi x4, vi s0, vn] [] M _ _
  refine R_S q98 5 (pc2 := 91) (ls2 := [vr 83, vi x1, vn, vi x3, vi x4, vi s0, vn]) (st2 := [.int x3, .int (x1 + 1), .ref 83]) rfl ?_
  refine R_call q98 rfl rfl rfl rfl rfl rfl h3 ?_
  show Rm E 98 94 [vr 83, vi x1, vn, vi x3, vi x4, vi s0, vn] [.int c1] M _ _
  refine R_iff q98 rfl (decide_eq_false h4) ?_
  show Rm E 98 97 [vr 83, vi x1, vn, vi x3, vi x4, vi s0, vn] [] M _ _
  exact k
-- 99+
theorem b98_97_0 {E : env} {M : mem} {rv : Option Value} {M2 : mem} {x1 x3 x4 x5 : Int32}  (h0 : x5 = 0) (k : Rm E 98 132 [vr 83, vi x1, vn, vi x3, vi x4, vn, vn] [] M rv M2) : Rm E 98 97 [vr 83, vi x1, vn, vi x3, vi x4, vi x5, vn] [] M rv M2 := by
  refine R_S q98 1 (pc2 := 99) (ls2 := [vr 83, vi x1, vn, vi x3, vi x4, vi x5, vn]) (st2 := [.int x5]) rfl ?_
  refine R_ift q98 rfl (decide_eq_true h0) ?_
  show Rm E 98 132 [vr 83, vi x1, vn, vi x3, vi x4, vi x5, vn] [] M _ _
  exact R_w (ls := [vr 83, vi x1, vn, vi x3, vi x4, vn, vn]) (show lsle _ _ from ⟨rfl, ⟨rfl, ⟨rfl, ⟨rfl, trivial⟩⟩⟩⟩) k
-- 99- 106+
theorem b98_97_1 {E : env} {M : mem} {rv : Option Value} {M2 : mem} {x1 x3 x4 x5 : Int32}  (h0 : ¬ (x5 = 0)) (h1 : M.1 83 12 ≤ 0) (k : Rm E 98 132 [vr 83, vi x1, vn, vi x3, vi x4, vn, vn] [] M rv M2) : Rm E 98 97 [vr 83, vi x1, vn, vi x3, vi x4, vi x5, vn] [] M rv M2 := by
  refine R_S q98 1 (pc2 := 99) (ls2 := [vr 83, vi x1, vn, vi x3, vi x4, vi x5, vn]) (st2 := [.int x5]) rfl ?_
  refine R_iff q98 rfl (decide_eq_false h0) ?_
  show Rm E 98 102 [vr 83, vi x1, vn, vi x3, vi x4, vi x5, vn] [] M _ _
  refine R_S q98 2 (pc2 := 106) (ls2 := [vr 83, vi x1, vn, vi x3, vi x4, vi x5, vn]) (st2 := [.int (M.1 83 12)]) rfl ?_
  refine R_ift q98 rfl (decide_eq_true h1) ?_
  show Rm E 98 132 [vr 83, vi x1, vn, vi x3, vi x4, vi x5, vn] [] M _ _
  exact R_w (ls := [vr 83, vi x1, vn, vi x3, vi x4, vn, vn]) (show lsle _ _ from ⟨rfl, ⟨rfl, ⟨rfl, ⟨rfl, trivial⟩⟩⟩⟩) k
-- 99- 106- 114+
theorem b98_97_2 {E : env} {M : mem} {rv : Option Value} {M2 : mem} {x1 x3 x4 x5 : Int32}  (h0 : ¬ (x5 = 0)) (h1 : ¬ (M.1 83 12 ≤ 0)) (h2 : M.1 83 12 < x3) (k : Rm E 98 132 [vr 83, vi x1, vn, vi x3, vi x4, vn, vn] [] M rv M2) : Rm E 98 97 [vr 83, vi x1, vn, vi x3, vi x4, vi x5, vn] [] M rv M2 := by
  refine R_S q98 1 (pc2 := 99) (ls2 := [vr 83, vi x1, vn, vi x3, vi x4, vi x5, vn]) (st2 := [.int x5]) rfl ?_
  refine R_iff q98 rfl (decide_eq_false h0) ?_
  show Rm E 98 102 [vr 83, vi x1, vn, vi x3, vi x4, vi x5, vn] [] M _ _
  refine R_S q98 2 (pc2 := 106) (ls2 := [vr 83, vi x1, vn, vi x3, vi x4, vi x5, vn]) (st2 := [.int (M.1 83 12)]) rfl ?_
  refine R_iff q98 rfl (decide_eq_false h1) ?_
  show Rm E 98 109 [vr 83, vi x1, vn, vi x3, vi x4, vi x5, vn] [] M _ _
  refine R_S q98 3 (pc2 := 114) (ls2 := [vr 83, vi x1, vn, vi x3, vi x4, vi x5, vn]) (st2 := [.int (M.1 83 12), .int x3]) rfl ?_
  refine R_ict q98 rfl (decide_eq_true h2) ?_
  show Rm E 98 132 [vr 83, vi x1, vn, vi x3, vi x4, vi x5, vn] [] M _ _
  exact R_w (ls := [vr 83, vi x1, vn, vi x3, vi x4, vn, vn]) (show lsle _ _ from ⟨rfl, ⟨rfl, ⟨rfl, ⟨rfl, trivial⟩⟩⟩⟩) k
-- 99- 106- 114- call X10_areFigures 125+
theorem b98_97_3 {E : env} {M : mem} {rv : Option Value} {M2 : mem} {x1 x3 x4 x5 : Int32} {c1 : Int32} (h0 : ¬ (x5 = 0)) (h1 : ¬ (M.1 83 12 ≤ 0)) (h2 : ¬ (M.1 83 12 < x3)) (h3 : Rm E 97 0 [vr 83, vi (x1 + 1), vi x3, vn, vn] [] M (some (.int c1)) M) (h4 : c1 = 0) (k : Rm E 98 132 [vr 83, vi x1, vn, vi x3, vi x4, vn, vn] [] M rv M2) : Rm E 98 97 [vr 83, vi x1, vn, vi x3, vi x4, vi x5, vn] [] M rv M2 := by
  refine R_S q98 1 (pc2 := 99) (ls2 := [vr 83, vi x1, vn, vi x3, vi x4, vi x5, vn]) (st2 := [.int x5]) rfl ?_
  refine R_iff q98 rfl (decide_eq_false h0) ?_
  show Rm E 98 102 [vr 83, vi x1, vn, vi x3, vi x4, vi x5, vn] [] M _ _
  refine R_S q98 2 (pc2 := 106) (ls2 := [vr 83, vi x1, vn, vi x3, vi x4, vi x5, vn]) (st2 := [.int (M.1 83 12)]) rfl ?_
  refine R_iff q98 rfl (decide_eq_false h1) ?_
  show Rm E 98 109 [vr 83, vi x1, vn, vi x3, vi x4, vi x5, vn] [] M _ _
  refine R_S q98 3 (pc2 := 114) (ls2 := [vr 83, vi x1, vn, vi x3, vi x4, vi x5, vn]) (st2 := [.int (M.1 83 12), .int x3]) rfl ?_
  refine R_icf q98 rfl (decide_eq_false h2) ?_
  show Rm E 98 117 [vr 83, vi x1, vn, vi x3, vi x4, vi x5, vn] [] M _ _
  refine R_S q98 5 (pc2 := 122) (ls2 := [vr 83, vi x1, vn, vi x3, vi x4, vi x5, vn]) (st2 := [.int x3, .int (x1 + 1), .ref 83]) rfl ?_
  refine R_call q98 rfl rfl rfl rfl rfl rfl h3 ?_
  show Rm E 98 125 [vr 83, vi x1, vn, vi x3, vi x4, vi x5, vn] [.int c1] M _ _
  refine R_ift q98 rfl (decide_eq_true h4) ?_
  show Rm E 98 132 [vr 83, vi x1, vn, vi x3, vi x4, vi x5, vn] [] M _ _
  exact R_w (ls := [vr 83, vi x1, vn, vi x3, vi x4, vn, vn]) (show lsle _ _ from ⟨rfl, ⟨rfl, ⟨rfl, ⟨rfl, trivial⟩⟩⟩⟩) k
-- 99- 106- 114- call X10_areFigures 125-
theorem b98_97_4 {E : env} {M : mem} {rv : Option Value} {M2 : mem} {x1 x3 x4 x5 : Int32} {c1 : Int32} (h0 : ¬ (x5 = 0)) (h1 : ¬ (M.1 83 12 ≤ 0)) (h2 : ¬ (M.1 83 12 < x3)) (h3 : Rm E 97 0 [vr 83, vi (x1 + 1), vi x3, vn, vn] [] M (some (.int c1)) M) (h4 : ¬ (c1 = 0)) (k : Rm E 98 128 [vr 83, vi x1, vn, vi x3, vi x4, vn, vn] [] M rv M2) : Rm E 98 97 [vr 83, vi x1, vn, vi x3, vi x4, vi x5, vn] [] M rv M2 := by
  refine R_S q98 1 (pc2 := 99) (ls2 := [vr 83, vi x1, vn, vi x3, vi x4, vi x5, vn]) (st2 := [.int x5]) rfl ?_
  refine R_iff q98 rfl (decide_eq_false h0) ?_
  show Rm E 98 102 [vr 83, vi x1, vn, vi x3, vi x4, vi x5, vn] [] M _ _
  refine R_S q98 2 (pc2 := 106) (ls2 := [vr 83, vi x1, vn, vi x3, vi x4, vi x5, vn]) (st2 := [.int (M.1 83 12)]) rfl ?_
  refine R_iff q98 rfl (decide_eq_false h1) ?_
  show Rm E 98 109 [vr 83, vi x1, vn, vi x3, vi x4, vi x5, vn] [] M _ _
  refine R_S q98 3 (pc2 := 114) (ls2 := [vr 83, vi x1, vn, vi x3, vi x4, vi x5, vn]) (st2 := [.int (M.1 83 12), .int x3]) rfl ?_
  refine R_icf q98 rfl (decide_eq_false h2) ?_
  show Rm E 98 117 [vr 83, vi x1, vn, vi x3, vi x4, vi x5, vn] [] M _ _
  refine R_S q98 5 (pc2 := 122) (ls2 := [vr 83, vi x1, vn, vi x3, vi x4, vi x5, vn]) (st2 := [.int x3, .int (x1 + 1), .ref 83]) rfl ?_
  refine R_call q98 rfl rfl rfl rfl rfl rfl h3 ?_
  show Rm E 98 125 [vr 83, vi x1, vn, vi x3, vi x4, vi x5, vn] [.int c1] M _ _
  refine R_iff q98 rfl (decide_eq_false h4) ?_
  show Rm E 98 128 [vr 83, vi x1, vn, vi x3, vi x4, vi x5, vn] [] M _ _
  exact R_w (ls := [vr 83, vi x1, vn, vi x3, vi x4, vn, vn]) (show lsle _ _ from ⟨rfl, ⟨rfl, ⟨rfl, ⟨rfl, trivial⟩⟩⟩⟩) k
-- 
theorem b98_128_0 {E : env} {M : mem} {rv : Option Value} {M2 : mem} {x1 x3 x4 : Int32}  (k : Rm E 98 133 [vr 83, vi x1, vn, vi x3, vi x4, vn, vn] [.int 1] M rv M2) : Rm E 98 128 [vr 83, vi x1, vn, vi x3, vi x4, vn, vn] [] M rv M2 := by
  refine R_S q98 2 (pc2 := 133) (ls2 := [vr 83, vi x1, vn, vi x3, vi x4, vn, vn]) (st2 := [.int 1]) rfl ?_
  exact k
-- 
theorem b98_132_0 {E : env} {M : mem} {rv : Option Value} {M2 : mem} {x1 x3 x4 : Int32}  (k : Rm E 98 133 [vr 83, vi x1, vn, vi x3, vi x4, vn, vn] [.int 0] M rv M2) : Rm E 98 132 [vr 83, vi x1, vn, vi x3, vi x4, vn, vn] [] M rv M2 := by
  refine R_S q98 1 (pc2 := 133) (ls2 := [vr 83, vi x1, vn, vi x3, vi x4, vn, vn]) (st2 := [.int 0]) rfl ?_
  exact k
-- 137+ 145+
theorem b98_133_0 {E : env} {M : mem} {rv : Option Value} {M2 : mem} {x1 x3 x4 s0 : Int32}  (h0 : ¬ s0 = 0) (h1 : x4 = 0) (k : Rm E 98 158 [vr 83, vi x1, vn, vi x3, vn, vn, vn] [.int (M.1 83 12), .ref 83] M rv M2) : Rm E 98 133 [vr 83, vi x1, vn, vi x3, vi x4, vn, vn] [.int s0] M rv M2 := by
  refine R_S q98 2 (pc2 := 137) (ls2 := [vr 83, vi x1, vn, vi x3, vi x4, vn, vi s0]) (st2 := [.int s0]) rfl ?_
  refine R_ift q98 rfl (decide_eq_true h0) ?_
  show Rm E 98 142 [vr 83, vi x1, vn, vi x3, vi x4, vn, vi s0] [] M _ _
  refine R_S q98 2 (pc2 := 145) (ls2 := [vr 83, vi x1, vn, vi x3, vi x4, vn, vi s0]) (st2 := [.int x4, .ref 83]) rfl ?_
  refine R_ift q98 rfl (decide_eq_true h1) ?_
  show Rm E 98 154 [vr 83, vi x1, vn, vi x3, vi x4, vn, vi s0] [.ref 83] M _ _
  refine R_S q98 2 (pc2 := 158) (ls2 := [vr 83, vi x1, vn, vi x3, vi x4, vn, vi s0]) (st2 := [.int (M.1 83 12), .ref 83]) rfl ?_
  exact R_w (ls := [vr 83, vi x1, vn, vi x3, vn, vn, vn]) (show lsle _ _ from ⟨rfl, ⟨rfl, ⟨rfl, trivial⟩⟩⟩) k
-- 137+ 145-
theorem b98_133_1 {E : env} {M : mem} {rv : Option Value} {M2 : mem} {x1 x3 x4 s0 : Int32}  (h0 : ¬ s0 = 0) (h1 : ¬ (x4 = 0)) (k : Rm E 98 158 [vr 83, vi x1, vn, vi x3, vn, vn, vn] [.int (x3 + 1), .ref 83] M rv M2) : Rm E 98 133 [vr 83, vi x1, vn, vi x3, vi x4, vn, vn] [.int s0] M rv M2 := by
  refine R_S q98 2 (pc2 := 137) (ls2 := [vr 83, vi x1, vn, vi x3, vi x4, vn, vi s0]) (st2 := [.int s0]) rfl ?_
  refine R_ift q98 rfl (decide_eq_true h0) ?_
  show Rm E 98 142 [vr 83, vi x1, vn, vi x3, vi x4, vn, vi s0] [] M _ _
  refine R_S q98 2 (pc2 := 145) (ls2 := [vr 83, vi x1, vn, vi x3, vi x4, vn, vi s0]) (st2 := [.int x4, .ref 83]) rfl ?_
  refine R_iff q98 rfl (decide_eq_false h1) ?_
  show Rm E 98 148 [vr 83, vi x1, vn, vi x3, vi x4, vn, vi s0] [.ref 83] M _ _
  refine R_S q98 4 (pc2 := 158) (ls2 := [vr 83, vi x1, vn, vi x3, vi x4, vn, vi s0]) (st2 := [.int (x3 + 1), .ref 83]) rfl ?_
  exact R_w (ls := [vr 83, vi x1, vn, vi x3, vn, vn, vn]) (show lsle _ _ from ⟨rfl, ⟨rfl, ⟨rfl, trivial⟩⟩⟩) k
-- 137-
theorem b98_133_2 {E : env} {M : mem} {x1 x3 x4 s0 : Int32}  (h0 : ¬ (¬ s0 = 0)) : Rm E 98 133 [vr 83, vi x1, vn, vi x3, vi x4, vn, vn] [.int s0] M (some (.int x1)) M := by
  refine R_S q98 2 (pc2 := 137) (ls2 := [vr 83, vi x1, vn, vi x3, vi x4, vn, vi s0]) (st2 := [.int s0]) rfl ?_
  refine R_iff q98 rfl (decide_eq_false h0) ?_
  show Rm E 98 140 [vr 83, vi x1, vn, vi x3, vi x4, vn, vi s0] [] M _ _
  refine R_S q98 1 (pc2 := 141) (ls2 := [vr 83, vi x1, vn, vi x3, vi x4, vn, vi s0]) (st2 := [.int x1]) rfl ?_
  exact R_ret rfl q98 rfl rfl rfl rfl (stpR_i rfl rfl)
-- 
theorem b98_158_0 {E : env} {M : mem} {rv : Option Value} {M2 : mem} {x1 x3 s0 : Int32} {N1 : mem} (eN1 : N1 = upM M 83 12 s0) (k : Rm E 98 7 [vr 83, vi (x1 + (x3 + 2)), vn, vn, vn, vn, vn] [] N1 rv M2) : Rm E 98 158 [vr 83, vi x1, vn, vi x3, vn, vn, vn] [.int s0, .ref 83] M rv M2 := by
  refine R_pf q98 rfl rfl rfl rfl rfl eN1 ?_
  show Rm E 98 161 [vr 83, vi x1, vn, vi x3, vn, vn, vn] [] N1 _ _
  refine R_S q98 7 (pc2 := 7) (ls2 := [vr 83, vi (x1 + (x3 + 2)), vn, vi x3, vn, vn, vn]) (st2 := []) rfl ?_
  exact R_w (ls := [vr 83, vi (x1 + (x3 + 2)), vn, vn, vn, vn, vn]) (show lsle _ _ from ⟨rfl, ⟨rfl, trivial⟩⟩) k
-- 99 HeavyChainsModel.reads(IIII)V  cuts [0, 3]
theorem q99 : cdOf 99 = some mt99 := rfl
-- 
theorem b99_0_0 {E : env} {M : mem} {rv : Option Value} {M2 : mem} {x1 x2 x3 x4 : Int32}  (k : Rm E 99 3 [vr 83, vi x1, vi x2, vi x3, vi x4, vi 0] [] M rv M2) : Rm E 99 0 [vr 83, vi x1, vi x2, vi x3, vi x4, vn] [] M rv M2 := by
  refine R_S q99 2 (pc2 := 3) (ls2 := [vr 83, vi x1, vi x2, vi x3, vi x4, vi 0]) (st2 := []) rfl ?_
  exact k
-- 7+
theorem b99_3_0 {E : env} {M : mem} {x1 x2 x3 x4 x5 : Int32}  (h0 : 30 ≤ x5) : Rm E 99 3 [vr 83, vi x1, vi x2, vi x3, vi x4, vi x5] [] M none M := by
  refine R_S q99 2 (pc2 := 7) (ls2 := [vr 83, vi x1, vi x2, vi x3, vi x4, vi x5]) (st2 := [.int 30, .int x5]) rfl ?_
  refine R_ict q99 rfl (decide_eq_true h0) ?_
  show Rm E 99 48 [vr 83, vi x1, vi x2, vi x3, vi x4, vi x5] [] M _ _
  exact R_ret rfl q99 rfl rfl rfl rfl rfl
-- 7- 21+
theorem b99_3_1 {E : env} {M : mem} {rv : Option Value} {M2 : mem} {x1 x2 x3 x4 x5 : Int32} {N1 : mem} (h0 : ¬ (30 ≤ x5)) (h1 : x3 ≤ x5) (h2 : inR (x1 + x5) 90) (eN1 : N1 = upM M 84 ((x1 + x5).toNatClampNeg) x4) (k : Rm E 99 3 [vr 83, vi x1, vi x2, vi x3, vi x4, vi (x5 + 1)] [] N1 rv M2) : Rm E 99 3 [vr 83, vi x1, vi x2, vi x3, vi x4, vi x5] [] M rv M2 := by
  refine R_S q99 2 (pc2 := 7) (ls2 := [vr 83, vi x1, vi x2, vi x3, vi x4, vi x5]) (st2 := [.int 30, .int x5]) rfl ?_
  refine R_icf q99 rfl (decide_eq_false h0) ?_
  show Rm E 99 10 [vr 83, vi x1, vi x2, vi x3, vi x4, vi x5] [] M _ _
  refine R_S q99 7 (pc2 := 21) (ls2 := [vr 83, vi x1, vi x2, vi x3, vi x4, vi x5]) (st2 := [.int x3, .int x5, .int (x1 + x5), .ref 84]) rfl ?_
  refine R_ict q99 rfl (decide_eq_true h1) ?_
  show Rm E 99 39 [vr 83, vi x1, vi x2, vi x3, vi x4, vi x5] [.int (x1 + x5), .ref 84] M _ _
  refine R_S q99 1 (pc2 := 41) (ls2 := [vr 83, vi x1, vi x2, vi x3, vi x4, vi x5]) (st2 := [.int x4, .int (x1 + x5), .ref 84]) rfl ?_
  refine R_ias q99 rfl rfl h2 eN1 ?_
  show Rm E 99 42 [vr 83, vi x1, vi x2, vi x3, vi x4, vi x5] [] N1 _ _
  refine R_S q99 2 (pc2 := 3) (ls2 := [vr 83, vi x1, vi x2, vi x3, vi x4, vi (x5 + 1)]) (st2 := []) rfl ?_
  exact k
-- 7- 21- call X10_worth
theorem b99_3_2 {E : env} {M : mem} {rv : Option Value} {M2 : mem} {x1 x2 x3 x4 x5 : Int32} {c1 : Int32} {N1 : mem} (h0 : ¬ (30 ≤ x5)) (h1 : ¬ (x3 ≤ x5)) (h2 : inR (x2 + x5) 200) (h3 : Rm E 94 0 [vi (M.1 92 (x2 + x5).toNatClampNeg)] [] M (some (.int c1)) M) (h4 : inR (x1 + x5) 90) (eN1 : N1 = upM M 84 ((x1 + x5).toNatClampNeg) c1) (k : Rm E 99 3 [vr 83, vi x1, vi x2, vi x3, vi x4, vi (x5 + 1)] [] N1 rv M2) : Rm E 99 3 [vr 83, vi x1, vi x2, vi x3, vi x4, vi x5] [] M rv M2 := by
  refine R_S q99 2 (pc2 := 7) (ls2 := [vr 83, vi x1, vi x2, vi x3, vi x4, vi x5]) (st2 := [.int 30, .int x5]) rfl ?_
  refine R_icf q99 rfl (decide_eq_false h0) ?_
  show Rm E 99 10 [vr 83, vi x1, vi x2, vi x3, vi x4, vi x5] [] M _ _
  refine R_S q99 7 (pc2 := 21) (ls2 := [vr 83, vi x1, vi x2, vi x3, vi x4, vi x5]) (st2 := [.int x3, .int x5, .int (x1 + x5), .ref 84]) rfl ?_
  refine R_icf q99 rfl (decide_eq_false h1) ?_
  show Rm E 99 24 [vr 83, vi x1, vi x2, vi x3, vi x4, vi x5] [.int (x1 + x5), .ref 84] M _ _
  refine R_S q99 5 (pc2 := 32) (ls2 := [vr 83, vi x1, vi x2, vi x3, vi x4, vi x5]) (st2 := [.int (x2 + x5), .ref 92, .int (x1 + x5), .ref 84]) rfl ?_
  refine R_ial q99 rfl rfl h2 ?_
  show Rm E 99 33 [vr 83, vi x1, vi x2, vi x3, vi x4, vi x5] [.int (M.1 92 (x2 + x5).toNatClampNeg), .int (x1 + x5), .ref 84] M _ _
  refine R_call q99 rfl rfl rfl rfl rfl rfl h3 ?_
  show Rm E 99 36 [vr 83, vi x1, vi x2, vi x3, vi x4, vi x5] [.int c1, .int (x1 + x5), .ref 84] M _ _
  refine R_S q99 1 (pc2 := 41) (ls2 := [vr 83, vi x1, vi x2, vi x3, vi x4, vi x5]) (st2 := [.int c1, .int (x1 + x5), .ref 84]) rfl ?_
  refine R_ias q99 rfl rfl h4 eN1 ?_
  show Rm E 99 42 [vr 83, vi x1, vi x2, vi x3, vi x4, vi x5] [] N1 _ _
  refine R_S q99 2 (pc2 := 3) (ls2 := [vr 83, vi x1, vi x2, vi x3, vi x4, vi (x5 + 1)]) (st2 := []) rfl ?_
  exact k
-- 100 HeavyChainsModel.lay()I  cuts [0, 55, 95]
theorem q100 : cdOf 100 = some mt100 := rfl
-- call X10_fault 6+
theorem b100_0_0 {E : env} {M : mem} {c1 : Int32} {N1 : mem} (h0 : Rm E 98 0 [vr 83, vn, vn, vn, vn, vn, vn] [] M (some (.int c1)) N1) (h1 : ¬ c1 = (-4)) : Rm E 100 0 [vr 83, vn, vn, vn, vn] [] M (some (.int (-2))) N1 := by
  refine R_S q100 1 (pc2 := 1) (ls2 := [vr 83, vn, vn, vn, vn]) (st2 := [.ref 83]) rfl ?_
  refine R_call q100 rfl rfl rfl rfl rfl rfl h0 ?_
  show Rm E 100 4 [vr 83, vn, vn, vn, vn] [.int c1] N1 _ _
  refine R_S q100 1 (pc2 := 6) (ls2 := [vr 83, vn, vn, vn, vn]) (st2 := [.int (-4), .int c1]) rfl ?_
  refine R_ict q100 rfl (decide_eq_true h1) ?_
  show Rm E 100 16 [vr 83, vn, vn, vn, vn] [] N1 _ _
  refine R_S q100 1 (pc2 := 18) (ls2 := [vr 83, vn, vn, vn, vn]) (st2 := [.int (-2)]) rfl ?_
  exact R_ret rfl q100 rfl rfl rfl rfl (stpR_i rfl rfl)
-- call X10_fault 6- 13+ call X10_reads call X10_reads call X10_reads
theorem b100_0_1 {E : env} {M : mem} {rv : Option Value} {M2 : mem} {c1 : Int32} {N1 : mem} {N2 : mem} {N3 : mem} {N4 : mem} {N5 : mem} (h0 : Rm E 98 0 [vr 83, vn, vn, vn, vn, vn, vn] [] M (some (.int c1)) N1) (h1 : ¬ (¬ c1 = (-4))) (h2 : ¬ N1.1 83 12 = 0) (eN2 : N2 = upM N1 83 1 (N1.1 83 12)) (h3 : Rm E 99 0 [vr 83, vi 0, vi 0, vi 0, vi 0, vn] [] N2 none N3) (h4 : Rm E 99 0 [vr 83, vi 30, vi 0, vi 0, vi 1, vn] [] N3 none N4) (h5 : Rm E 99 0 [vr 83, vi 60, vi 0, vi 0, vi 0, vn] [] N4 none N5) (k : Rm E 100 55 [vr 83, vi 0, vn, vn, vn] [] N5 rv M2) : Rm E 100 0 [vr 83, vn, vn, vn, vn] [] M rv M2 := by
  refine R_S q100 1 (pc2 := 1) (ls2 := [vr 83, vn, vn, vn, vn]) (st2 := [.ref 83]) rfl ?_
  refine R_call q100 rfl rfl rfl rfl rfl rfl h0 ?_
  show Rm E 100 4 [vr 83, vn, vn, vn, vn] [.int c1] N1 _ _
  refine R_S q100 1 (pc2 := 6) (ls2 := [vr 83, vn, vn, vn, vn]) (st2 := [.int (-4), .int c1]) rfl ?_
  refine R_icf q100 rfl (decide_eq_false h1) ?_
  show Rm E 100 9 [vr 83, vn, vn, vn, vn] [] N1 _ _
  refine R_S q100 2 (pc2 := 13) (ls2 := [vr 83, vn, vn, vn, vn]) (st2 := [.int (N1.1 83 12)]) rfl ?_
  refine R_ift q100 rfl (decide_eq_true h2) ?_
  show Rm E 100 19 [vr 83, vn, vn, vn, vn] [] N1 _ _
  refine R_S q100 3 (pc2 := 24) (ls2 := [vr 83, vn, vn, vn, vn]) (st2 := [.int (N1.1 83 12), .ref 83]) rfl ?_
  refine R_pf q100 rfl rfl rfl rfl rfl eN2 ?_
  show Rm E 100 27 [vr 83, vn, vn, vn, vn] [] N2 _ _
  refine R_S q100 5 (pc2 := 32) (ls2 := [vr 83, vn, vn, vn, vn]) (st2 := [.int 0, .int 0, .int 0, .int 0, .ref 83]) rfl ?_
  refine R_call q100 rfl rfl rfl rfl rfl rfl h3 ?_
  show Rm E 100 35 [vr 83, vn, vn, vn, vn] [] N3 _ _
  refine R_S q100 5 (pc2 := 41) (ls2 := [vr 83, vn, vn, vn, vn]) (st2 := [.int 1, .int 0, .int 0, .int 30, .ref 83]) rfl ?_
  refine R_call q100 rfl rfl rfl rfl rfl rfl h4 ?_
  show Rm E 100 44 [vr 83, vn, vn, vn, vn] [] N4 _ _
  refine R_S q100 5 (pc2 := 50) (ls2 := [vr 83, vn, vn, vn, vn]) (st2 := [.int 0, .int 0, .int 0, .int 60, .ref 83]) rfl ?_
  refine R_call q100 rfl rfl rfl rfl rfl rfl h5 ?_
  show Rm E 100 53 [vr 83, vn, vn, vn, vn] [] N5 _ _
  refine R_S q100 2 (pc2 := 55) (ls2 := [vr 83, vi 0, vn, vn, vn]) (st2 := []) rfl ?_
  exact k
-- call X10_fault 6- 13-
theorem b100_0_2 {E : env} {M : mem} {c1 : Int32} {N1 : mem} (h0 : Rm E 98 0 [vr 83, vn, vn, vn, vn, vn, vn] [] M (some (.int c1)) N1) (h1 : ¬ (¬ c1 = (-4))) (h2 : ¬ (¬ N1.1 83 12 = 0)) : Rm E 100 0 [vr 83, vn, vn, vn, vn] [] M (some (.int (-2))) N1 := by
  refine R_S q100 1 (pc2 := 1) (ls2 := [vr 83, vn, vn, vn, vn]) (st2 := [.ref 83]) rfl ?_
  refine R_call q100 rfl rfl rfl rfl rfl rfl h0 ?_
  show Rm E 100 4 [vr 83, vn, vn, vn, vn] [.int c1] N1 _ _
  refine R_S q100 1 (pc2 := 6) (ls2 := [vr 83, vn, vn, vn, vn]) (st2 := [.int (-4), .int c1]) rfl ?_
  refine R_icf q100 rfl (decide_eq_false h1) ?_
  show Rm E 100 9 [vr 83, vn, vn, vn, vn] [] N1 _ _
  refine R_S q100 2 (pc2 := 13) (ls2 := [vr 83, vn, vn, vn, vn]) (st2 := [.int (N1.1 83 12)]) rfl ?_
  refine R_iff q100 rfl (decide_eq_false h2) ?_
  show Rm E 100 16 [vr 83, vn, vn, vn, vn] [] N1 _ _
  refine R_S q100 1 (pc2 := 18) (ls2 := [vr 83, vn, vn, vn, vn]) (st2 := [.int (-2)]) rfl ?_
  exact R_ret rfl q100 rfl rfl rfl rfl (stpR_i rfl rfl)
-- 60+ call X10_ranks
theorem b100_55_0 {E : env} {M : mem} {x1 : Int32} {N1 : mem} {N2 : mem} {N3 : mem} {N4 : mem} {N5 : mem} {N6 : mem} (h0 : M.1 83 11 ≤ x1) (h1 : Rm E 101 0 [vr 83, vn, vn] [] M none N1) (eN2 : N2 = (N1.1, 0)) (eN3 : N3 = upM N2 83 20 0) (eN4 : N4 = upM N3 83 21 0) (eN5 : N5 = upM N4 83 17 0) (eN6 : N6 = upM N5 83 24 0) : Rm E 100 55 [vr 83, vi x1, vn, vn, vn] [] M (some (.int (N6.1 83 1))) N6 := by
  refine R_S q100 3 (pc2 := 60) (ls2 := [vr 83, vi x1, vn, vn, vn]) (st2 := [.int (M.1 83 11), .int x1]) rfl ?_
  refine R_ict q100 rfl (decide_eq_true h0) ?_
  show Rm E 100 184 [vr 83, vi x1, vn, vn, vn] [] M _ _
  refine R_S q100 1 (pc2 := 185) (ls2 := [vr 83, vi x1, vn, vn, vn]) (st2 := [.ref 83]) rfl ?_
  refine R_call q100 rfl rfl rfl rfl rfl rfl h1 ?_
  show Rm E 100 188 [vr 83, vi x1, vn, vn, vn] [] N1 _ _
  refine R_S q100 2 (pc2 := 190) (ls2 := [vr 83, vi x1, vn, vn, vn]) (st2 := [.long 0, .ref 83]) rfl ?_
  refine R_pl q100 rfl eN2 ?_
  show Rm E 100 193 [vr 83, vi x1, vn, vn, vn] [] N2 _ _
  refine R_S q100 2 (pc2 := 195) (ls2 := [vr 83, vi x1, vn, vn, vn]) (st2 := [.int 0, .ref 83]) rfl ?_
  refine R_pf q100 rfl rfl rfl rfl rfl eN3 ?_
  show Rm E 100 198 [vr 83, vi x1, vn, vn, vn] [] N3 _ _
  refine R_S q100 2 (pc2 := 200) (ls2 := [vr 83, vi x1, vn, vn, vn]) (st2 := [.int 0, .ref 83]) rfl ?_
  refine R_pf q100 rfl rfl rfl rfl rfl eN4 ?_
  show Rm E 100 203 [vr 83, vi x1, vn, vn, vn] [] N4 _ _
  refine R_S q100 2 (pc2 := 205) (ls2 := [vr 83, vi x1, vn, vn, vn]) (st2 := [.int 0, .ref 83]) rfl ?_
  refine R_pf q100 rfl rfl rfl rfl rfl eN5 ?_
  show Rm E 100 208 [vr 83, vi x1, vn, vn, vn] [] N5 _ _
  refine R_S q100 2 (pc2 := 210) (ls2 := [vr 83, vi x1, vn, vn, vn]) (st2 := [.int 0, .ref 83]) rfl ?_
  refine R_pf q100 rfl rfl rfl rfl rfl eN6 ?_
  show Rm E 100 213 [vr 83, vi x1, vn, vn, vn] [] N6 _ _
  refine R_S q100 2 (pc2 := 217) (ls2 := [vr 83, vi x1, vn, vn, vn]) (st2 := [.int (N6.1 83 1)]) rfl ?_
  exact R_ret rfl q100 rfl rfl rfl rfl (stpR_i rfl rfl)
-- 60- call X10_signsFrom 81+ 137+ 147+ 164+ call X10_reads
theorem b100_55_1 {E : env} {M : mem} {rv : Option Value} {M2 : mem} {x1 : Int32} {c1 : Int32} {N1 : mem} (h0 : ¬ (M.1 83 11 ≤ x1)) (h1 : inR x1 200) (h2 : Rm E 95 0 [vr 83, vi (x1 + 1), vn] [] M (some (.int c1)) M) (h3 : ¬ M.1 92 x1.toNatClampNeg = 112) (h4 : ¬ M.1 92 x1.toNatClampNeg = 119) (h5 : ¬ M.1 92 x1.toNatClampNeg = 102) (h6 : ¬ M.1 92 x1.toNatClampNeg = 102) (h7 : Rm E 99 0 [vr 83, vi 60, vi (x1 + 1), vi c1, vi 0, vn] [] M none N1) (k : Rm E 100 55 [vr 83, vi (x1 + (c1 + 2)), vn, vn, vn] [] N1 rv M2) : Rm E 100 55 [vr 83, vi x1, vn, vn, vn] [] M rv M2 := by
  refine R_S q100 3 (pc2 := 60) (ls2 := [vr 83, vi x1, vn, vn, vn]) (st2 := [.int (M.1 83 11), .int x1]) rfl ?_
  refine R_icf q100 rfl (decide_eq_false h0) ?_
  show Rm E 100 63 [vr 83, vi x1, vn, vn, vn] [] M _ _
  refine R_S q100 3 (pc2 := 68) (ls2 := [vr 83, vi x1, vn, vn, vn]) (st2 := [.int x1, .ref 92]) rfl ?_
  refine R_ial q100 rfl rfl h1 ?_
  show Rm E 100 69 [vr 83, vi x1, vn, vn, vn] [.int (M.1 92 x1.toNatClampNeg)] M _ _
  refine R_S q100 5 (pc2 := 74) (ls2 := [vr 83, vi x1, vi (M.1 92 x1.toNatClampNeg), vn, vn]) (st2 := [.int (x1 + 1), .ref 83]) rfl ?_
  refine R_call q100 rfl rfl rfl rfl rfl rfl h2 ?_
  show Rm E 100 77 [vr 83, vi x1, vi (M.1 92 x1.toNatClampNeg), vn, vn] [.int c1] M _ _
  refine R_S q100 3 (pc2 := 81) (ls2 := [vr 83, vi x1, vi (M.1 92 x1.toNatClampNeg), vi c1, vn]) (st2 := [.int 112, .int (M.1 92 x1.toNatClampNeg)]) rfl ?_
  refine R_ict q100 rfl (decide_eq_true h3) ?_
  show Rm E 100 133 [vr 83, vi x1, vi (M.1 92 x1.toNatClampNeg), vi c1, vn] [] M _ _
  refine R_S q100 3 (pc2 := 137) (ls2 := [vr 83, vi x1, vi (M.1 92 x1.toNatClampNeg), vi c1, vn]) (st2 := [.int 119, .int (M.1 92 x1.toNatClampNeg), .ref 83]) rfl ?_
  refine R_ict q100 rfl (decide_eq_true h4) ?_
  show Rm E 100 144 [vr 83, vi x1, vi (M.1 92 x1.toNatClampNeg), vi c1, vn] [.ref 83] M _ _
  refine R_S q100 2 (pc2 := 147) (ls2 := [vr 83, vi x1, vi (M.1 92 x1.toNatClampNeg), vi c1, vn]) (st2 := [.int 102, .int (M.1 92 x1.toNatClampNeg), .ref 83]) rfl ?_
  refine R_ict q100 rfl (decide_eq_true h5) ?_
  show Rm E 100 155 [vr 83, vi x1, vi (M.1 92 x1.toNatClampNeg), vi c1, vn] [.ref 83] M _ _
  refine R_S q100 7 (pc2 := 164) (ls2 := [vr 83, vi x1, vi (M.1 92 x1.toNatClampNeg), vi c1, vn]) (st2 := [.int 102, .int (M.1 92 x1.toNatClampNeg), .int c1, .int (x1 + 1), .int 60, .ref 83]) rfl ?_
  refine R_ict q100 rfl (decide_eq_true h6) ?_
  show Rm E 100 171 [vr 83, vi x1, vi (M.1 92 x1.toNatClampNeg), vi c1, vn] [.int c1, .int (x1 + 1), .int 60, .ref 83] M _ _
  refine R_S q100 1 (pc2 := 172) (ls2 := [vr 83, vi x1, vi (M.1 92 x1.toNatClampNeg), vi c1, vn]) (st2 := [.int 0, .int c1, .int (x1 + 1), .int 60, .ref 83]) rfl ?_
  refine R_call q100 rfl rfl rfl rfl rfl rfl h7 ?_
  show Rm E 100 175 [vr 83, vi x1, vi (M.1 92 x1.toNatClampNeg), vi c1, vn] [] N1 _ _
  refine R_S q100 7 (pc2 := 55) (ls2 := [vr 83, vi (x1 + (c1 + 2)), vi (M.1 92 x1.toNatClampNeg), vi c1, vn]) (st2 := []) rfl ?_
  exact R_w (ls := [vr 83, vi (x1 + (c1 + 2)), vn, vn, vn]) (show lsle _ _ from ⟨rfl, ⟨rfl, trivial⟩⟩) k
-- 60- call X10_signsFrom 81+ 137+ 147+ 164- call X10_reads
theorem b100_55_2 {E : env} {M : mem} {rv : Option Value} {M2 : mem} {x1 : Int32} {c1 : Int32} {N1 : mem} (h0 : ¬ (M.1 83 11 ≤ x1)) (h1 : inR x1 200) (h2 : Rm E 95 0 [vr 83, vi (x1 + 1), vn] [] M (some (.int c1)) M) (h3 : ¬ M.1 92 x1.toNatClampNeg = 112) (h4 : ¬ M.1 92 x1.toNatClampNeg = 119) (h5 : ¬ M.1 92 x1.toNatClampNeg = 102) (h6 : ¬ (¬ M.1 92 x1.toNatClampNeg = 102)) (h7 : Rm E 99 0 [vr 83, vi 60, vi (x1 + 1), vi c1, vi 1, vn] [] M none N1) (k : Rm E 100 55 [vr 83, vi (x1 + (c1 + 2)), vn, vn, vn] [] N1 rv M2) : Rm E 100 55 [vr 83, vi x1, vn, vn, vn] [] M rv M2 := by
  refine R_S q100 3 (pc2 := 60) (ls2 := [vr 83, vi x1, vn, vn, vn]) (st2 := [.int (M.1 83 11), .int x1]) rfl ?_
  refine R_icf q100 rfl (decide_eq_false h0) ?_
  show Rm E 100 63 [vr 83, vi x1, vn, vn, vn] [] M _ _
  refine R_S q100 3 (pc2 := 68) (ls2 := [vr 83, vi x1, vn, vn, vn]) (st2 := [.int x1, .ref 92]) rfl ?_
  refine R_ial q100 rfl rfl h1 ?_
  show Rm E 100 69 [vr 83, vi x1, vn, vn, vn] [.int (M.1 92 x1.toNatClampNeg)] M _ _
  refine R_S q100 5 (pc2 := 74) (ls2 := [vr 83, vi x1, vi (M.1 92 x1.toNatClampNeg), vn, vn]) (st2 := [.int (x1 + 1), .ref 83]) rfl ?_
  refine R_call q100 rfl rfl rfl rfl rfl rfl h2 ?_
  show Rm E 100 77 [vr 83, vi x1, vi (M.1 92 x1.toNatClampNeg), vn, vn] [.int c1] M _ _
  refine R_S q100 3 (pc2 := 81) (ls2 := [vr 83, vi x1, vi (M.1 92 x1.toNatClampNeg), vi c1, vn]) (st2 := [.int 112, .int (M.1 92 x1.toNatClampNeg)]) rfl ?_
  refine R_ict q100 rfl (decide_eq_true h3) ?_
  show Rm E 100 133 [vr 83, vi x1, vi (M.1 92 x1.toNatClampNeg), vi c1, vn] [] M _ _
  refine R_S q100 3 (pc2 := 137) (ls2 := [vr 83, vi x1, vi (M.1 92 x1.toNatClampNeg), vi c1, vn]) (st2 := [.int 119, .int (M.1 92 x1.toNatClampNeg), .ref 83]) rfl ?_
  refine R_ict q100 rfl (decide_eq_true h4) ?_
  show Rm E 100 144 [vr 83, vi x1, vi (M.1 92 x1.toNatClampNeg), vi c1, vn] [.ref 83] M _ _
  refine R_S q100 2 (pc2 := 147) (ls2 := [vr 83, vi x1, vi (M.1 92 x1.toNatClampNeg), vi c1, vn]) (st2 := [.int 102, .int (M.1 92 x1.toNatClampNeg), .ref 83]) rfl ?_
  refine R_ict q100 rfl (decide_eq_true h5) ?_
  show Rm E 100 155 [vr 83, vi x1, vi (M.1 92 x1.toNatClampNeg), vi c1, vn] [.ref 83] M _ _
  refine R_S q100 7 (pc2 := 164) (ls2 := [vr 83, vi x1, vi (M.1 92 x1.toNatClampNeg), vi c1, vn]) (st2 := [.int 102, .int (M.1 92 x1.toNatClampNeg), .int c1, .int (x1 + 1), .int 60, .ref 83]) rfl ?_
  refine R_icf q100 rfl (decide_eq_false h6) ?_
  show Rm E 100 167 [vr 83, vi x1, vi (M.1 92 x1.toNatClampNeg), vi c1, vn] [.int c1, .int (x1 + 1), .int 60, .ref 83] M _ _
  refine R_S q100 2 (pc2 := 172) (ls2 := [vr 83, vi x1, vi (M.1 92 x1.toNatClampNeg), vi c1, vn]) (st2 := [.int 1, .int c1, .int (x1 + 1), .int 60, .ref 83]) rfl ?_
  refine R_call q100 rfl rfl rfl rfl rfl rfl h7 ?_
  show Rm E 100 175 [vr 83, vi x1, vi (M.1 92 x1.toNatClampNeg), vi c1, vn] [] N1 _ _
  refine R_S q100 7 (pc2 := 55) (ls2 := [vr 83, vi (x1 + (c1 + 2)), vi (M.1 92 x1.toNatClampNeg), vi c1, vn]) (st2 := []) rfl ?_
  exact R_w (ls := [vr 83, vi (x1 + (c1 + 2)), vn, vn, vn]) (show lsle _ _ from ⟨rfl, ⟨rfl, trivial⟩⟩) k
-- 60- call X10_signsFrom 81+ 137+ 147- 164+ call X10_reads
theorem b100_55_3 {E : env} {M : mem} {rv : Option Value} {M2 : mem} {x1 : Int32} {c1 : Int32} {N1 : mem} (h0 : ¬ (M.1 83 11 ≤ x1)) (h1 : inR x1 200) (h2 : Rm E 95 0 [vr 83, vi (x1 + 1), vn] [] M (some (.int c1)) M) (h3 : ¬ M.1 92 x1.toNatClampNeg = 112) (h4 : ¬ M.1 92 x1.toNatClampNeg = 119) (h5 : ¬ (¬ M.1 92 x1.toNatClampNeg = 102)) (h6 : ¬ M.1 92 x1.toNatClampNeg = 102) (h7 : Rm E 99 0 [vr 83, vi 30, vi (x1 + 1), vi c1, vi 0, vn] [] M none N1) (k : Rm E 100 55 [vr 83, vi (x1 + (c1 + 2)), vn, vn, vn] [] N1 rv M2) : Rm E 100 55 [vr 83, vi x1, vn, vn, vn] [] M rv M2 := by
  refine R_S q100 3 (pc2 := 60) (ls2 := [vr 83, vi x1, vn, vn, vn]) (st2 := [.int (M.1 83 11), .int x1]) rfl ?_
  refine R_icf q100 rfl (decide_eq_false h0) ?_
  show Rm E 100 63 [vr 83, vi x1, vn, vn, vn] [] M _ _
  refine R_S q100 3 (pc2 := 68) (ls2 := [vr 83, vi x1, vn, vn, vn]) (st2 := [.int x1, .ref 92]) rfl ?_
  refine R_ial q100 rfl rfl h1 ?_
  show Rm E 100 69 [vr 83, vi x1, vn, vn, vn] [.int (M.1 92 x1.toNatClampNeg)] M _ _
  refine R_S q100 5 (pc2 := 74) (ls2 := [vr 83, vi x1, vi (M.1 92 x1.toNatClampNeg), vn, vn]) (st2 := [.int (x1 + 1), .ref 83]) rfl ?_
  refine R_call q100 rfl rfl rfl rfl rfl rfl h2 ?_
  show Rm E 100 77 [vr 83, vi x1, vi (M.1 92 x1.toNatClampNeg), vn, vn] [.int c1] M _ _
  refine R_S q100 3 (pc2 := 81) (ls2 := [vr 83, vi x1, vi (M.1 92 x1.toNatClampNeg), vi c1, vn]) (st2 := [.int 112, .int (M.1 92 x1.toNatClampNeg)]) rfl ?_
  refine R_ict q100 rfl (decide_eq_true h3) ?_
  show Rm E 100 133 [vr 83, vi x1, vi (M.1 92 x1.toNatClampNeg), vi c1, vn] [] M _ _
  refine R_S q100 3 (pc2 := 137) (ls2 := [vr 83, vi x1, vi (M.1 92 x1.toNatClampNeg), vi c1, vn]) (st2 := [.int 119, .int (M.1 92 x1.toNatClampNeg), .ref 83]) rfl ?_
  refine R_ict q100 rfl (decide_eq_true h4) ?_
  show Rm E 100 144 [vr 83, vi x1, vi (M.1 92 x1.toNatClampNeg), vi c1, vn] [.ref 83] M _ _
  refine R_S q100 2 (pc2 := 147) (ls2 := [vr 83, vi x1, vi (M.1 92 x1.toNatClampNeg), vi c1, vn]) (st2 := [.int 102, .int (M.1 92 x1.toNatClampNeg), .ref 83]) rfl ?_
  refine R_icf q100 rfl (decide_eq_false h5) ?_
  show Rm E 100 150 [vr 83, vi x1, vi (M.1 92 x1.toNatClampNeg), vi c1, vn] [.ref 83] M _ _
  refine R_S q100 8 (pc2 := 164) (ls2 := [vr 83, vi x1, vi (M.1 92 x1.toNatClampNeg), vi c1, vn]) (st2 := [.int 102, .int (M.1 92 x1.toNatClampNeg), .int c1, .int (x1 + 1), .int 30, .ref 83]) rfl ?_
  refine R_ict q100 rfl (decide_eq_true h6) ?_
  show Rm E 100 171 [vr 83, vi x1, vi (M.1 92 x1.toNatClampNeg), vi c1, vn] [.int c1, .int (x1 + 1), .int 30, .ref 83] M _ _
  refine R_S q100 1 (pc2 := 172) (ls2 := [vr 83, vi x1, vi (M.1 92 x1.toNatClampNeg), vi c1, vn]) (st2 := [.int 0, .int c1, .int (x1 + 1), .int 30, .ref 83]) rfl ?_
  refine R_call q100 rfl rfl rfl rfl rfl rfl h7 ?_
  show Rm E 100 175 [vr 83, vi x1, vi (M.1 92 x1.toNatClampNeg), vi c1, vn] [] N1 _ _
  refine R_S q100 7 (pc2 := 55) (ls2 := [vr 83, vi (x1 + (c1 + 2)), vi (M.1 92 x1.toNatClampNeg), vi c1, vn]) (st2 := []) rfl ?_
  exact R_w (ls := [vr 83, vi (x1 + (c1 + 2)), vn, vn, vn]) (show lsle _ _ from ⟨rfl, ⟨rfl, trivial⟩⟩) k
-- 60- call X10_signsFrom 81+ 137+ 147- 164- call X10_reads
theorem b100_55_4 {E : env} {M : mem} {rv : Option Value} {M2 : mem} {x1 : Int32} {c1 : Int32} {N1 : mem} (h0 : ¬ (M.1 83 11 ≤ x1)) (h1 : inR x1 200) (h2 : Rm E 95 0 [vr 83, vi (x1 + 1), vn] [] M (some (.int c1)) M) (h3 : ¬ M.1 92 x1.toNatClampNeg = 112) (h4 : ¬ M.1 92 x1.toNatClampNeg = 119) (h5 : ¬ (¬ M.1 92 x1.toNatClampNeg = 102)) (h6 : ¬ (¬ M.1 92 x1.toNatClampNeg = 102)) (h7 : Rm E 99 0 [vr 83, vi 30, vi (x1 + 1), vi c1, vi 1, vn] [] M none N1) (k : Rm E 100 55 [vr 83, vi (x1 + (c1 + 2)), vn, vn, vn] [] N1 rv M2) : Rm E 100 55 [vr 83, vi x1, vn, vn, vn] [] M rv M2 := by
  refine R_S q100 3 (pc2 := 60) (ls2 := [vr 83, vi x1, vn, vn, vn]) (st2 := [.int (M.1 83 11), .int x1]) rfl ?_
  refine R_icf q100 rfl (decide_eq_false h0) ?_
  show Rm E 100 63 [vr 83, vi x1, vn, vn, vn] [] M _ _
  refine R_S q100 3 (pc2 := 68) (ls2 := [vr 83, vi x1, vn, vn, vn]) (st2 := [.int x1, .ref 92]) rfl ?_
  refine R_ial q100 rfl rfl h1 ?_
  show Rm E 100 69 [vr 83, vi x1, vn, vn, vn] [.int (M.1 92 x1.toNatClampNeg)] M _ _
  refine R_S q100 5 (pc2 := 74) (ls2 := [vr 83, vi x1, vi (M.1 92 x1.toNatClampNeg), vn, vn]) (st2 := [.int (x1 + 1), .ref 83]) rfl ?_
  refine R_call q100 rfl rfl rfl rfl rfl rfl h2 ?_
  show Rm E 100 77 [vr 83, vi x1, vi (M.1 92 x1.toNatClampNeg), vn, vn] [.int c1] M _ _
  refine R_S q100 3 (pc2 := 81) (ls2 := [vr 83, vi x1, vi (M.1 92 x1.toNatClampNeg), vi c1, vn]) (st2 := [.int 112, .int (M.1 92 x1.toNatClampNeg)]) rfl ?_
  refine R_ict q100 rfl (decide_eq_true h3) ?_
  show Rm E 100 133 [vr 83, vi x1, vi (M.1 92 x1.toNatClampNeg), vi c1, vn] [] M _ _
  refine R_S q100 3 (pc2 := 137) (ls2 := [vr 83, vi x1, vi (M.1 92 x1.toNatClampNeg), vi c1, vn]) (st2 := [.int 119, .int (M.1 92 x1.toNatClampNeg), .ref 83]) rfl ?_
  refine R_ict q100 rfl (decide_eq_true h4) ?_
  show Rm E 100 144 [vr 83, vi x1, vi (M.1 92 x1.toNatClampNeg), vi c1, vn] [.ref 83] M _ _
  refine R_S q100 2 (pc2 := 147) (ls2 := [vr 83, vi x1, vi (M.1 92 x1.toNatClampNeg), vi c1, vn]) (st2 := [.int 102, .int (M.1 92 x1.toNatClampNeg), .ref 83]) rfl ?_
  refine R_icf q100 rfl (decide_eq_false h5) ?_
  show Rm E 100 150 [vr 83, vi x1, vi (M.1 92 x1.toNatClampNeg), vi c1, vn] [.ref 83] M _ _
  refine R_S q100 8 (pc2 := 164) (ls2 := [vr 83, vi x1, vi (M.1 92 x1.toNatClampNeg), vi c1, vn]) (st2 := [.int 102, .int (M.1 92 x1.toNatClampNeg), .int c1, .int (x1 + 1), .int 30, .ref 83]) rfl ?_
  refine R_icf q100 rfl (decide_eq_false h6) ?_
  show Rm E 100 167 [vr 83, vi x1, vi (M.1 92 x1.toNatClampNeg), vi c1, vn] [.int c1, .int (x1 + 1), .int 30, .ref 83] M _ _
  refine R_S q100 2 (pc2 := 172) (ls2 := [vr 83, vi x1, vi (M.1 92 x1.toNatClampNeg), vi c1, vn]) (st2 := [.int 1, .int c1, .int (x1 + 1), .int 30, .ref 83]) rfl ?_
  refine R_call q100 rfl rfl rfl rfl rfl rfl h7 ?_
  show Rm E 100 175 [vr 83, vi x1, vi (M.1 92 x1.toNatClampNeg), vi c1, vn] [] N1 _ _
  refine R_S q100 7 (pc2 := 55) (ls2 := [vr 83, vi (x1 + (c1 + 2)), vi (M.1 92 x1.toNatClampNeg), vi c1, vn]) (st2 := []) rfl ?_
  exact R_w (ls := [vr 83, vi (x1 + (c1 + 2)), vn, vn, vn]) (show lsle _ _ from ⟨rfl, ⟨rfl, trivial⟩⟩) k
-- 60- call X10_signsFrom 81+ 137- 164+ call X10_reads
theorem b100_55_5 {E : env} {M : mem} {rv : Option Value} {M2 : mem} {x1 : Int32} {c1 : Int32} {N1 : mem} (h0 : ¬ (M.1 83 11 ≤ x1)) (h1 : inR x1 200) (h2 : Rm E 95 0 [vr 83, vi (x1 + 1), vn] [] M (some (.int c1)) M) (h3 : ¬ M.1 92 x1.toNatClampNeg = 112) (h4 : ¬ (¬ M.1 92 x1.toNatClampNeg = 119)) (h5 : ¬ M.1 92 x1.toNatClampNeg = 102) (h6 : Rm E 99 0 [vr 83, vi 0, vi (x1 + 1), vi c1, vi 0, vn] [] M none N1) (k : Rm E 100 55 [vr 83, vi (x1 + (c1 + 2)), vn, vn, vn] [] N1 rv M2) : Rm E 100 55 [vr 83, vi x1, vn, vn, vn] [] M rv M2 := by
  refine R_S q100 3 (pc2 := 60) (ls2 := [vr 83, vi x1, vn, vn, vn]) (st2 := [.int (M.1 83 11), .int x1]) rfl ?_
  refine R_icf q100 rfl (decide_eq_false h0) ?_
  show Rm E 100 63 [vr 83, vi x1, vn, vn, vn] [] M _ _
  refine R_S q100 3 (pc2 := 68) (ls2 := [vr 83, vi x1, vn, vn, vn]) (st2 := [.int x1, .ref 92]) rfl ?_
  refine R_ial q100 rfl rfl h1 ?_
  show Rm E 100 69 [vr 83, vi x1, vn, vn, vn] [.int (M.1 92 x1.toNatClampNeg)] M _ _
  refine R_S q100 5 (pc2 := 74) (ls2 := [vr 83, vi x1, vi (M.1 92 x1.toNatClampNeg), vn, vn]) (st2 := [.int (x1 + 1), .ref 83]) rfl ?_
  refine R_call q100 rfl rfl rfl rfl rfl rfl h2 ?_
  show Rm E 100 77 [vr 83, vi x1, vi (M.1 92 x1.toNatClampNeg), vn, vn] [.int c1] M _ _
  refine R_S q100 3 (pc2 := 81) (ls2 := [vr 83, vi x1, vi (M.1 92 x1.toNatClampNeg), vi c1, vn]) (st2 := [.int 112, .int (M.1 92 x1.toNatClampNeg)]) rfl ?_
  refine R_ict q100 rfl (decide_eq_true h3) ?_
  show Rm E 100 133 [vr 83, vi x1, vi (M.1 92 x1.toNatClampNeg), vi c1, vn] [] M _ _
  refine R_S q100 3 (pc2 := 137) (ls2 := [vr 83, vi x1, vi (M.1 92 x1.toNatClampNeg), vi c1, vn]) (st2 := [.int 119, .int (M.1 92 x1.toNatClampNeg), .ref 83]) rfl ?_
  refine R_icf q100 rfl (decide_eq_false h4) ?_
  show Rm E 100 140 [vr 83, vi x1, vi (M.1 92 x1.toNatClampNeg), vi c1, vn] [.ref 83] M _ _
  refine R_S q100 8 (pc2 := 164) (ls2 := [vr 83, vi x1, vi (M.1 92 x1.toNatClampNeg), vi c1, vn]) (st2 := [.int 102, .int (M.1 92 x1.toNatClampNeg), .int c1, .int (x1 + 1), .int 0, .ref 83]) rfl ?_
  refine R_ict q100 rfl (decide_eq_true h5) ?_
  show Rm E 100 171 [vr 83, vi x1, vi (M.1 92 x1.toNatClampNeg), vi c1, vn] [.int c1, .int (x1 + 1), .int 0, .ref 83] M _ _
  refine R_S q100 1 (pc2 := 172) (ls2 := [vr 83, vi x1, vi (M.1 92 x1.toNatClampNeg), vi c1, vn]) (st2 := [.int 0, .int c1, .int (x1 + 1), .int 0, .ref 83]) rfl ?_
  refine R_call q100 rfl rfl rfl rfl rfl rfl h6 ?_
  show Rm E 100 175 [vr 83, vi x1, vi (M.1 92 x1.toNatClampNeg), vi c1, vn] [] N1 _ _
  refine R_S q100 7 (pc2 := 55) (ls2 := [vr 83, vi (x1 + (c1 + 2)), vi (M.1 92 x1.toNatClampNeg), vi c1, vn]) (st2 := []) rfl ?_
  exact R_w (ls := [vr 83, vi (x1 + (c1 + 2)), vn, vn, vn]) (show lsle _ _ from ⟨rfl, ⟨rfl, trivial⟩⟩) k
-- 60- call X10_signsFrom 81+ 137- 164- call X10_reads
theorem b100_55_6 {E : env} {M : mem} {rv : Option Value} {M2 : mem} {x1 : Int32} {c1 : Int32} {N1 : mem} (h0 : ¬ (M.1 83 11 ≤ x1)) (h1 : inR x1 200) (h2 : Rm E 95 0 [vr 83, vi (x1 + 1), vn] [] M (some (.int c1)) M) (h3 : ¬ M.1 92 x1.toNatClampNeg = 112) (h4 : ¬ (¬ M.1 92 x1.toNatClampNeg = 119)) (h5 : ¬ (¬ M.1 92 x1.toNatClampNeg = 102)) (h6 : Rm E 99 0 [vr 83, vi 0, vi (x1 + 1), vi c1, vi 1, vn] [] M none N1) (k : Rm E 100 55 [vr 83, vi (x1 + (c1 + 2)), vn, vn, vn] [] N1 rv M2) : Rm E 100 55 [vr 83, vi x1, vn, vn, vn] [] M rv M2 := by
  refine R_S q100 3 (pc2 := 60) (ls2 := [vr 83, vi x1, vn, vn, vn]) (st2 := [.int (M.1 83 11), .int x1]) rfl ?_
  refine R_icf q100 rfl (decide_eq_false h0) ?_
  show Rm E 100 63 [vr 83, vi x1, vn, vn, vn] [] M _ _
  refine R_S q100 3 (pc2 := 68) (ls2 := [vr 83, vi x1, vn, vn, vn]) (st2 := [.int x1, .ref 92]) rfl ?_
  refine R_ial q100 rfl rfl h1 ?_
  show Rm E 100 69 [vr 83, vi x1, vn, vn, vn] [.int (M.1 92 x1.toNatClampNeg)] M _ _
  refine R_S q100 5 (pc2 := 74) (ls2 := [vr 83, vi x1, vi (M.1 92 x1.toNatClampNeg), vn, vn]) (st2 := [.int (x1 + 1), .ref 83]) rfl ?_
  refine R_call q100 rfl rfl rfl rfl rfl rfl h2 ?_
  show Rm E 100 77 [vr 83, vi x1, vi (M.1 92 x1.toNatClampNeg), vn, vn] [.int c1] M _ _
  refine R_S q100 3 (pc2 := 81) (ls2 := [vr 83, vi x1, vi (M.1 92 x1.toNatClampNeg), vi c1, vn]) (st2 := [.int 112, .int (M.1 92 x1.toNatClampNeg)]) rfl ?_
  refine R_ict q100 rfl (decide_eq_true h3) ?_
  show Rm E 100 133 [vr 83, vi x1, vi (M.1 92 x1.toNatClampNeg), vi c1, vn] [] M _ _
  refine R_S q100 3 (pc2 := 137) (ls2 := [vr 83, vi x1, vi (M.1 92 x1.toNatClampNeg), vi c1, vn]) (st2 := [.int 119, .int (M.1 92 x1.toNatClampNeg), .ref 83]) rfl ?_
  refine R_icf q100 rfl (decide_eq_false h4) ?_
  show Rm E 100 140 [vr 83, vi x1, vi (M.1 92 x1.toNatClampNeg), vi c1, vn] [.ref 83] M _ _
  refine R_S q100 8 (pc2 := 164) (ls2 := [vr 83, vi x1, vi (M.1 92 x1.toNatClampNeg), vi c1, vn]) (st2 := [.int 102, .int (M.1 92 x1.toNatClampNeg), .int c1, .int (x1 + 1), .int 0, .ref 83]) rfl ?_
  refine R_icf q100 rfl (decide_eq_false h5) ?_
  show Rm E 100 167 [vr 83, vi x1, vi (M.1 92 x1.toNatClampNeg), vi c1, vn] [.int c1, .int (x1 + 1), .int 0, .ref 83] M _ _
  refine R_S q100 2 (pc2 := 172) (ls2 := [vr 83, vi x1, vi (M.1 92 x1.toNatClampNeg), vi c1, vn]) (st2 := [.int 1, .int c1, .int (x1 + 1), .int 0, .ref 83]) rfl ?_
  refine R_call q100 rfl rfl rfl rfl rfl rfl h6 ?_
  show Rm E 100 175 [vr 83, vi x1, vi (M.1 92 x1.toNatClampNeg), vi c1, vn] [] N1 _ _
  refine R_S q100 7 (pc2 := 55) (ls2 := [vr 83, vi (x1 + (c1 + 2)), vi (M.1 92 x1.toNatClampNeg), vi c1, vn]) (st2 := []) rfl ?_
  exact R_w (ls := [vr 83, vi (x1 + (c1 + 2)), vn, vn, vn]) (show lsle _ _ from ⟨rfl, ⟨rfl, trivial⟩⟩) k
-- 60- call X10_signsFrom 81-
theorem b100_55_7 {E : env} {M : mem} {rv : Option Value} {M2 : mem} {x1 : Int32} {c1 : Int32} {N1 : mem} (h0 : ¬ (M.1 83 11 ≤ x1)) (h1 : inR x1 200) (h2 : Rm E 95 0 [vr 83, vi (x1 + 1), vn] [] M (some (.int c1)) M) (h3 : ¬ (¬ M.1 92 x1.toNatClampNeg = 112)) (eN1 : N1 = upM M 85 0 (-4)) (k : Rm E 100 95 [vr 83, vi x1, vn, vi c1, vi 0] [] N1 rv M2) : Rm E 100 55 [vr 83, vi x1, vn, vn, vn] [] M rv M2 := by
  refine R_S q100 3 (pc2 := 60) (ls2 := [vr 83, vi x1, vn, vn, vn]) (st2 := [.int (M.1 83 11), .int x1]) rfl ?_
  refine R_icf q100 rfl (decide_eq_false h0) ?_
  show Rm E 100 63 [vr 83, vi x1, vn, vn, vn] [] M _ _
  refine R_S q100 3 (pc2 := 68) (ls2 := [vr 83, vi x1, vn, vn, vn]) (st2 := [.int x1, .ref 92]) rfl ?_
  refine R_ial q100 rfl rfl h1 ?_
  show Rm E 100 69 [vr 83, vi x1, vn, vn, vn] [.int (M.1 92 x1.toNatClampNeg)] M _ _
  refine R_S q100 5 (pc2 := 74) (ls2 := [vr 83, vi x1, vi (M.1 92 x1.toNatClampNeg), vn, vn]) (st2 := [.int (x1 + 1), .ref 83]) rfl ?_
  refine R_call q100 rfl rfl rfl rfl rfl rfl h2 ?_
  show Rm E 100 77 [vr 83, vi x1, vi (M.1 92 x1.toNatClampNeg), vn, vn] [.int c1] M _ _
  refine R_S q100 3 (pc2 := 81) (ls2 := [vr 83, vi x1, vi (M.1 92 x1.toNatClampNeg), vi c1, vn]) (st2 := [.int 112, .int (M.1 92 x1.toNatClampNeg)]) rfl ?_
  refine R_icf q100 rfl (decide_eq_false h3) ?_
  show Rm E 100 84 [vr 83, vi x1, vi (M.1 92 x1.toNatClampNeg), vi c1, vn] [] M _ _
  refine R_S q100 4 (pc2 := 91) (ls2 := [vr 83, vi x1, vi (M.1 92 x1.toNatClampNeg), vi c1, vn]) (st2 := [.int (-4), .int 0, .ref 85]) rfl ?_
  refine R_ias q100 rfl rfl (show inB _ _ = true from rfl) eN1 ?_
  show Rm E 100 92 [vr 83, vi x1, vi (M.1 92 x1.toNatClampNeg), vi c1, vn] [] N1 _ _
  refine R_S q100 2 (pc2 := 95) (ls2 := [vr 83, vi x1, vi (M.1 92 x1.toNatClampNeg), vi c1, vi 0]) (st2 := []) rfl ?_
  exact R_w (ls := [vr 83, vi x1, vn, vi c1, vi 0]) (show lsle _ _ from ⟨rfl, ⟨rfl, ⟨rfl, ⟨rfl, trivial⟩⟩⟩⟩) k
-- 98+
theorem b100_95_0 {E : env} {M : mem} {rv : Option Value} {M2 : mem} {x1 x3 x4 : Int32}  (h0 : x3 ≤ x4) (k : Rm E 100 55 [vr 83, vi (x1 + (x3 + 2)), vn, vn, vn] [] M rv M2) : Rm E 100 95 [vr 83, vi x1, vn, vi x3, vi x4] [] M rv M2 := by
  refine R_S q100 2 (pc2 := 98) (ls2 := [vr 83, vi x1, vn, vi x3, vi x4]) (st2 := [.int x3, .int x4]) rfl ?_
  refine R_ict q100 rfl (decide_eq_true h0) ?_
  show Rm E 100 130 [vr 83, vi x1, vn, vi x3, vi x4] [] M _ _
  refine R_S q100 8 (pc2 := 55) (ls2 := [vr 83, vi (x1 + (x3 + 2)), vn, vi x3, vi x4]) (st2 := []) rfl ?_
  exact R_w (ls := [vr 83, vi (x1 + (x3 + 2)), vn, vn, vn]) (show lsle _ _ from ⟨rfl, ⟨rfl, trivial⟩⟩) k
-- 98- call X10_worth
theorem b100_95_1 {E : env} {M : mem} {rv : Option Value} {M2 : mem} {x1 x3 x4 : Int32} {c1 : Int32} {N1 : mem} (h0 : ¬ (x3 ≤ x4)) (h1 : inR ((x1 + 1) + x4) 200) (h2 : Rm E 94 0 [vi (M.1 92 ((x1 + 1) + x4).toNatClampNeg)] [] M (some (.int c1)) M) (h3 : inR (1 + x4) 30) (eN1 : N1 = upM M 85 ((1 + x4).toNatClampNeg) c1) (k : Rm E 100 95 [vr 83, vi x1, vn, vi x3, vi (x4 + 1)] [] N1 rv M2) : Rm E 100 95 [vr 83, vi x1, vn, vi x3, vi x4] [] M rv M2 := by
  refine R_S q100 2 (pc2 := 98) (ls2 := [vr 83, vi x1, vn, vi x3, vi x4]) (st2 := [.int x3, .int x4]) rfl ?_
  refine R_icf q100 rfl (decide_eq_false h0) ?_
  show Rm E 100 101 [vr 83, vi x1, vn, vi x3, vi x4] [] M _ _
  refine R_S q100 12 (pc2 := 119) (ls2 := [vr 83, vi x1, vn, vi x3, vi x4]) (st2 := [.int ((x1 + 1) + x4), .ref 92, .int (1 + x4), .ref 85]) rfl ?_
  refine R_ial q100 rfl rfl h1 ?_
  show Rm E 100 120 [vr 83, vi x1, vn, vi x3, vi x4] [.int (M.1 92 ((x1 + 1) + x4).toNatClampNeg), .int (1 + x4), .ref 85] M _ _
  refine R_call q100 rfl rfl rfl rfl rfl rfl h2 ?_
  show Rm E 100 123 [vr 83, vi x1, vn, vi x3, vi x4] [.int c1, .int (1 + x4), .ref 85] M _ _
  refine R_ias q100 rfl rfl h3 eN1 ?_
  show Rm E 100 124 [vr 83, vi x1, vn, vi x3, vi x4] [] N1 _ _
  refine R_S q100 2 (pc2 := 95) (ls2 := [vr 83, vi x1, vn, vi x3, vi (x4 + 1)]) (st2 := []) rfl ?_
  exact k
-- 101 HeavyChainsModel.ranks()V  cuts [0, 2, 65, 102, 168]
theorem q101 : cdOf 101 = some mt101 := rfl
-- 
theorem b101_0_0 {E : env} {M : mem} {rv : Option Value} {M2 : mem}  (k : Rm E 101 2 [vr 83, vi 0, vn] [] M rv M2) : Rm E 101 0 [vr 83, vn, vn] [] M rv M2 := by
  refine R_S q101 2 (pc2 := 2) (ls2 := [vr 83, vi 0, vn]) (st2 := []) rfl ?_
  exact k
-- 7+
theorem b101_2_0 {E : env} {M : mem} {rv : Option Value} {M2 : mem} {x1 : Int32}  (h0 : M.1 83 1 ≤ x1) (k : Rm E 101 65 [vr 83, vi (M.1 83 1 - 1), vn] [] M rv M2) : Rm E 101 2 [vr 83, vi x1, vn] [] M rv M2 := by
  refine R_S q101 3 (pc2 := 7) (ls2 := [vr 83, vi x1, vn]) (st2 := [.int (M.1 83 1), .int x1]) rfl ?_
  refine R_ict q101 rfl (decide_eq_true h0) ?_
  show Rm E 101 58 [vr 83, vi x1, vn] [] M _ _
  refine R_S q101 5 (pc2 := 65) (ls2 := [vr 83, vi (M.1 83 1 - 1), vn]) (st2 := []) rfl ?_
  exact k
-- 7- 31+
theorem b101_2_1 {E : env} {M : mem} {rv : Option Value} {M2 : mem} {x1 : Int32} {N1 : mem} {N2 : mem} {N3 : mem} (h0 : ¬ (M.1 83 1 ≤ x1)) (h1 : inR x1 30) (eN1 : N1 = upM M 87 (x1.toNatClampNeg) 1) (h2 : inR x1 30) (eN2 : N2 = upM N1 86 (x1.toNatClampNeg) (-4)) (h3 : ¬ x1 = 0) (h4 : inR x1 30) (h5 : inR (N2.1 85 x1.toNatClampNeg) 30) (h6 : inR x1 30) (eN3 : N3 = upM N2 90 (x1.toNatClampNeg) (N2.1 90 (N2.1 85 x1.toNatClampNeg).toNatClampNeg + 1)) (k : Rm E 101 2 [vr 83, vi (x1 + 1), vn] [] N3 rv M2) : Rm E 101 2 [vr 83, vi x1, vn] [] M rv M2 := by
  refine R_S q101 3 (pc2 := 7) (ls2 := [vr 83, vi x1, vn]) (st2 := [.int (M.1 83 1), .int x1]) rfl ?_
  refine R_icf q101 rfl (decide_eq_false h0) ?_
  show Rm E 101 10 [vr 83, vi x1, vn] [] M _ _
  refine R_S q101 4 (pc2 := 16) (ls2 := [vr 83, vi x1, vn]) (st2 := [.int 1, .int x1, .ref 87]) rfl ?_
  refine R_ias q101 rfl rfl h1 eN1 ?_
  show Rm E 101 17 [vr 83, vi x1, vn] [] N1 _ _
  refine R_S q101 4 (pc2 := 24) (ls2 := [vr 83, vi x1, vn]) (st2 := [.int (-4), .int x1, .ref 86]) rfl ?_
  refine R_ias q101 rfl rfl h2 eN2 ?_
  show Rm E 101 25 [vr 83, vi x1, vn] [] N2 _ _
  refine R_S q101 4 (pc2 := 31) (ls2 := [vr 83, vi x1, vn]) (st2 := [.int x1, .int x1, .ref 90]) rfl ?_
  refine R_ift q101 rfl (decide_eq_true h3) ?_
  show Rm E 101 38 [vr 83, vi x1, vn] [.int x1, .ref 90] N2 _ _
  refine R_S q101 5 (pc2 := 47) (ls2 := [vr 83, vi x1, vn]) (st2 := [.int x1, .ref 85, .ref 90, .int x1, .ref 90]) rfl ?_
  refine R_ial q101 rfl rfl h4 ?_
  show Rm E 101 48 [vr 83, vi x1, vn] [.int (N2.1 85 x1.toNatClampNeg), .ref 90, .int x1, .ref 90] N2 _ _
  refine R_ial q101 rfl rfl h5 ?_
  show Rm E 101 49 [vr 83, vi x1, vn] [.int (N2.1 90 (N2.1 85 x1.toNatClampNeg).toNatClampNeg), .int x1, .ref 90] N2 _ _
  refine R_S q101 2 (pc2 := 51) (ls2 := [vr 83, vi x1, vn]) (st2 := [.int (N2.1 90 (N2.1 85 x1.toNatClampNeg).toNatClampNeg + 1), .int x1, .ref 90]) rfl ?_
  refine R_ias q101 rfl rfl h6 eN3 ?_
  show Rm E 101 52 [vr 83, vi x1, vn] [] N3 _ _
  refine R_S q101 2 (pc2 := 2) (ls2 := [vr 83, vi (x1 + 1), vn]) (st2 := []) rfl ?_
  exact k
-- 7- 31-
theorem b101_2_2 {E : env} {M : mem} {rv : Option Value} {M2 : mem} {x1 : Int32} {N1 : mem} {N2 : mem} {N3 : mem} (h0 : ¬ (M.1 83 1 ≤ x1)) (h1 : inR x1 30) (eN1 : N1 = upM M 87 (x1.toNatClampNeg) 1) (h2 : inR x1 30) (eN2 : N2 = upM N1 86 (x1.toNatClampNeg) (-4)) (h3 : ¬ (¬ x1 = 0)) (h4 : inR x1 30) (eN3 : N3 = upM N2 90 (x1.toNatClampNeg) 0) (k : Rm E 101 2 [vr 83, vi (x1 + 1), vn] [] N3 rv M2) : Rm E 101 2 [vr 83, vi x1, vn] [] M rv M2 := by
  refine R_S q101 3 (pc2 := 7) (ls2 := [vr 83, vi x1, vn]) (st2 := [.int (M.1 83 1), .int x1]) rfl ?_
  refine R_icf q101 rfl (decide_eq_false h0) ?_
  show Rm E 101 10 [vr 83, vi x1, vn] [] M _ _
  refine R_S q101 4 (pc2 := 16) (ls2 := [vr 83, vi x1, vn]) (st2 := [.int 1, .int x1, .ref 87]) rfl ?_
  refine R_ias q101 rfl rfl h1 eN1 ?_
  show Rm E 101 17 [vr 83, vi x1, vn] [] N1 _ _
  refine R_S q101 4 (pc2 := 24) (ls2 := [vr 83, vi x1, vn]) (st2 := [.int (-4), .int x1, .ref 86]) rfl ?_
  refine R_ias q101 rfl rfl h2 eN2 ?_
  show Rm E 101 25 [vr 83, vi x1, vn] [] N2 _ _
  refine R_S q101 4 (pc2 := 31) (ls2 := [vr 83, vi x1, vn]) (st2 := [.int x1, .int x1, .ref 90]) rfl ?_
  refine R_iff q101 rfl (decide_eq_false h3) ?_
  show Rm E 101 34 [vr 83, vi x1, vn] [.int x1, .ref 90] N2 _ _
  refine R_S q101 2 (pc2 := 51) (ls2 := [vr 83, vi x1, vn]) (st2 := [.int 0, .int x1, .ref 90]) rfl ?_
  refine R_ias q101 rfl rfl h4 eN3 ?_
  show Rm E 101 52 [vr 83, vi x1, vn] [] N3 _ _
  refine R_S q101 2 (pc2 := 2) (ls2 := [vr 83, vi (x1 + 1), vn]) (st2 := []) rfl ?_
  exact k
-- 66+
theorem b101_65_0 {E : env} {M : mem} {rv : Option Value} {M2 : mem} {x1 : Int32}  (h0 : x1 ≤ 0) (k : Rm E 101 102 [vr 83, vi (M.1 83 1 - 1), vn] [] M rv M2) : Rm E 101 65 [vr 83, vi x1, vn] [] M rv M2 := by
  refine R_S q101 1 (pc2 := 66) (ls2 := [vr 83, vi x1, vn]) (st2 := [.int x1]) rfl ?_
  refine R_ift q101 rfl (decide_eq_true h0) ?_
  show Rm E 101 95 [vr 83, vi x1, vn] [] M _ _
  refine R_S q101 5 (pc2 := 102) (ls2 := [vr 83, vi (M.1 83 1 - 1), vn]) (st2 := []) rfl ?_
  exact k
-- 66-
theorem b101_65_1 {E : env} {M : mem} {rv : Option Value} {M2 : mem} {x1 : Int32} {N1 : mem} (h0 : ¬ (x1 ≤ 0)) (h1 : inR x1 30) (h2 : inR (M.1 85 x1.toNatClampNeg) 30) (h3 : inR x1 30) (h4 : inR (M.1 85 x1.toNatClampNeg) 30) (eN1 : N1 = upM M 87 ((M.1 85 x1.toNatClampNeg).toNatClampNeg) (M.1 87 (M.1 85 x1.toNatClampNeg).toNatClampNeg + M.1 87 x1.toNatClampNeg)) (k : Rm E 101 65 [vr 83, vi (x1 + (-1)), vn] [] N1 rv M2) : Rm E 101 65 [vr 83, vi x1, vn] [] M rv M2 := by
  refine R_S q101 1 (pc2 := 66) (ls2 := [vr 83, vi x1, vn]) (st2 := [.int x1]) rfl ?_
  refine R_iff q101 rfl (decide_eq_false h0) ?_
  show Rm E 101 69 [vr 83, vi x1, vn] [] M _ _
  refine R_S q101 5 (pc2 := 78) (ls2 := [vr 83, vi x1, vn]) (st2 := [.int x1, .ref 85, .ref 87]) rfl ?_
  refine R_ial q101 rfl rfl h1 ?_
  show Rm E 101 79 [vr 83, vi x1, vn] [.int (M.1 85 x1.toNatClampNeg), .ref 87] M _ _
  refine R_S q101 1 (pc2 := 80) (ls2 := [vr 83, vi x1, vn]) (st2 := [.int (M.1 85 x1.toNatClampNeg), .ref 87, .int (M.1 85 x1.toNatClampNeg), .ref 87]) rfl ?_
  refine R_ial q101 rfl rfl h2 ?_
  show Rm E 101 81 [vr 83, vi x1, vn] [.int (M.1 87 (M.1 85 x1.toNatClampNeg).toNatClampNeg), .int (M.1 85 x1.toNatClampNeg), .ref 87] M _ _
  refine R_S q101 3 (pc2 := 86) (ls2 := [vr 83, vi x1, vn]) (st2 := [.int x1, .ref 87, .int (M.1 87 (M.1 85 x1.toNatClampNeg).toNatClampNeg), .int (M.1 85 x1.toNatClampNeg), .ref 87]) rfl ?_
  refine R_ial q101 rfl rfl h3 ?_
  show Rm E 101 87 [vr 83, vi x1, vn] [.int (M.1 87 x1.toNatClampNeg), .int (M.1 87 (M.1 85 x1.toNatClampNeg).toNatClampNeg), .int (M.1 85 x1.toNatClampNeg), .ref 87] M _ _
  refine R_S q101 1 (pc2 := 88) (ls2 := [vr 83, vi x1, vn]) (st2 := [.int (M.1 87 (M.1 85 x1.toNatClampNeg).toNatClampNeg + M.1 87 x1.toNatClampNeg), .int (M.1 85 x1.toNatClampNeg), .ref 87]) rfl ?_
  refine R_ias q101 rfl rfl h4 eN1 ?_
  show Rm E 101 89 [vr 83, vi x1, vn] [] N1 _ _
  refine R_S q101 2 (pc2 := 65) (ls2 := [vr 83, vi (x1 + (-1)), vn]) (st2 := []) rfl ?_
  exact k
-- 103+
theorem b101_102_0 {E : env} {M : mem} {rv : Option Value} {M2 : mem} {x1 : Int32}  (h0 : x1 ≤ 0) (k : Rm E 101 168 [vr 83, vi 0, vn] [] M rv M2) : Rm E 101 102 [vr 83, vi x1, vn] [] M rv M2 := by
  refine R_S q101 1 (pc2 := 103) (ls2 := [vr 83, vi x1, vn]) (st2 := [.int x1]) rfl ?_
  refine R_ift q101 rfl (decide_eq_true h0) ?_
  show Rm E 101 166 [vr 83, vi x1, vn] [] M _ _
  refine R_S q101 2 (pc2 := 168) (ls2 := [vr 83, vi 0, vn]) (st2 := []) rfl ?_
  exact k
-- 103- 126+
theorem b101_102_1 {E : env} {M : mem} {rv : Option Value} {M2 : mem} {x1 : Int32} {N1 : mem} (h0 : ¬ (x1 ≤ 0)) (h1 : inR x1 30) (h2 : inR (M.1 85 x1.toNatClampNeg) 30) (h3 : M.1 86 (M.1 85 x1.toNatClampNeg).toNatClampNeg = (-4)) (h4 : inR (M.1 85 x1.toNatClampNeg) 30) (eN1 : N1 = upM M 86 ((M.1 85 x1.toNatClampNeg).toNatClampNeg) x1) (k : Rm E 101 102 [vr 83, vi (x1 + (-1)), vn] [] N1 rv M2) : Rm E 101 102 [vr 83, vi x1, vn] [] M rv M2 := by
  refine R_S q101 1 (pc2 := 103) (ls2 := [vr 83, vi x1, vn]) (st2 := [.int x1]) rfl ?_
  refine R_iff q101 rfl (decide_eq_false h0) ?_
  show Rm E 101 106 [vr 83, vi x1, vn] [] M _ _
  refine R_S q101 3 (pc2 := 111) (ls2 := [vr 83, vi x1, vn]) (st2 := [.int x1, .ref 85]) rfl ?_
  refine R_ial q101 rfl rfl h1 ?_
  show Rm E 101 112 [vr 83, vi x1, vn] [.int (M.1 85 x1.toNatClampNeg)] M _ _
  refine R_S q101 7 (pc2 := 123) (ls2 := [vr 83, vi x1, vi (M.1 85 x1.toNatClampNeg)]) (st2 := [.int (M.1 85 x1.toNatClampNeg), .ref 86, .int (M.1 85 x1.toNatClampNeg), .ref 86]) rfl ?_
  refine R_ial q101 rfl rfl h2 ?_
  show Rm E 101 124 [vr 83, vi x1, vi (M.1 85 x1.toNatClampNeg)] [.int (M.1 86 (M.1 85 x1.toNatClampNeg).toNatClampNeg), .int (M.1 85 x1.toNatClampNeg), .ref 86] M _ _
  refine R_S q101 1 (pc2 := 126) (ls2 := [vr 83, vi x1, vi (M.1 85 x1.toNatClampNeg)]) (st2 := [.int (-4), .int (M.1 86 (M.1 85 x1.toNatClampNeg).toNatClampNeg), .int (M.1 85 x1.toNatClampNeg), .ref 86]) rfl ?_
  refine R_ict q101 rfl (decide_eq_true h3) ?_
  show Rm E 101 149 [vr 83, vi x1, vi (M.1 85 x1.toNatClampNeg)] [.int (M.1 85 x1.toNatClampNeg), .ref 86] M _ _
  refine R_S q101 2 (pc2 := 159) (ls2 := [vr 83, vi x1, vi (M.1 85 x1.toNatClampNeg)]) (st2 := [.int x1, .int (M.1 85 x1.toNatClampNeg), .ref 86]) rfl ?_
  refine R_ias q101 rfl rfl h4 eN1 ?_
  show Rm E 101 160 [vr 83, vi x1, vi (M.1 85 x1.toNatClampNeg)] [] N1 _ _
  refine R_S q101 2 (pc2 := 102) (ls2 := [vr 83, vi (x1 + (-1)), vi (M.1 85 x1.toNatClampNeg)]) (st2 := []) rfl ?_
  exact R_w (ls := [vr 83, vi (x1 + (-1)), vn]) (show lsle _ _ from ⟨rfl, ⟨rfl, trivial⟩⟩) k
-- 103- 126- 146+
theorem b101_102_2 {E : env} {M : mem} {rv : Option Value} {M2 : mem} {x1 : Int32} {N1 : mem} (h0 : ¬ (x1 ≤ 0)) (h1 : inR x1 30) (h2 : inR (M.1 85 x1.toNatClampNeg) 30) (h3 : ¬ (M.1 86 (M.1 85 x1.toNatClampNeg).toNatClampNeg = (-4))) (h4 : inR x1 30) (h5 : inR (M.1 85 x1.toNatClampNeg) 30) (h6 : inR (M.1 86 (M.1 85 x1.toNatClampNeg).toNatClampNeg) 30) (h7 : M.1 87 x1.toNatClampNeg < M.1 87 (M.1 86 (M.1 85 x1.toNatClampNeg).toNatClampNeg).toNatClampNeg) (h8 : inR (M.1 85 x1.toNatClampNeg) 30) (h9 : inR (M.1 85 x1.toNatClampNeg) 30) (eN1 : N1 = upM M 86 ((M.1 85 x1.toNatClampNeg).toNatClampNeg) (M.1 86 (M.1 85 x1.toNatClampNeg).toNatClampNeg)) (k : Rm E 101 102 [vr 83, vi (x1 + (-1)), vn] [] N1 rv M2) : Rm E 101 102 [vr 83, vi x1, vn] [] M rv M2 := by
  refine R_S q101 1 (pc2 := 103) (ls2 := [vr 83, vi x1, vn]) (st2 := [.int x1]) rfl ?_
  refine R_iff q101 rfl (decide_eq_false h0) ?_
  show Rm E 101 106 [vr 83, vi x1, vn] [] M _ _
  refine R_S q101 3 (pc2 := 111) (ls2 := [vr 83, vi x1, vn]) (st2 := [.int x1, .ref 85]) rfl ?_
  refine R_ial q101 rfl rfl h1 ?_
  show Rm E 101 112 [vr 83, vi x1, vn] [.int (M.1 85 x1.toNatClampNeg)] M _ _
  refine R_S q101 7 (pc2 := 123) (ls2 := [vr 83, vi x1, vi (M.1 85 x1.toNatClampNeg)]) (st2 := [.int (M.1 85 x1.toNatClampNeg), .ref 86, .int (M.1 85 x1.toNatClampNeg), .ref 86]) rfl ?_
  refine R_ial q101 rfl rfl h2 ?_
  show Rm E 101 124 [vr 83, vi x1, vi (M.1 85 x1.toNatClampNeg)] [.int (M.1 86 (M.1 85 x1.toNatClampNeg).toNatClampNeg), .int (M.1 85 x1.toNatClampNeg), .ref 86] M _ _
  refine R_S q101 1 (pc2 := 126) (ls2 := [vr 83, vi x1, vi (M.1 85 x1.toNatClampNeg)]) (st2 := [.int (-4), .int (M.1 86 (M.1 85 x1.toNatClampNeg).toNatClampNeg), .int (M.1 85 x1.toNatClampNeg), .ref 86]) rfl ?_
  refine R_icf q101 rfl (decide_eq_false h3) ?_
  show Rm E 101 129 [vr 83, vi x1, vi (M.1 85 x1.toNatClampNeg)] [.int (M.1 85 x1.toNatClampNeg), .ref 86] M _ _
  refine R_S q101 3 (pc2 := 134) (ls2 := [vr 83, vi x1, vi (M.1 85 x1.toNatClampNeg)]) (st2 := [.int x1, .ref 87, .int (M.1 85 x1.toNatClampNeg), .ref 86]) rfl ?_
  refine R_ial q101 rfl rfl h4 ?_
  show Rm E 101 135 [vr 83, vi x1, vi (M.1 85 x1.toNatClampNeg)] [.int (M.1 87 x1.toNatClampNeg), .int (M.1 85 x1.toNatClampNeg), .ref 86] M _ _
  refine R_S q101 5 (pc2 := 144) (ls2 := [vr 83, vi x1, vi (M.1 85 x1.toNatClampNeg)]) (st2 := [.int (M.1 85 x1.toNatClampNeg), .ref 86, .ref 87, .int (M.1 87 x1.toNatClampNeg), .int (M.1 85 x1.toNatClampNeg), .ref 86]) rfl ?_
  refine R_ial q101 rfl rfl h5 ?_
  show Rm E 101 145 [vr 83, vi x1, vi (M.1 85 x1.toNatClampNeg)] [.int (M.1 86 (M.1 85 x1.toNatClampNeg).toNatClampNeg), .ref 87, .int (M.1 87 x1.toNatClampNeg), .int (M.1 85 x1.toNatClampNeg), .ref 86] M _ _
  refine R_ial q101 rfl rfl h6 ?_
  show Rm E 101 146 [vr 83, vi x1, vi (M.1 85 x1.toNatClampNeg)] [.int (M.1 87 (M.1 86 (M.1 85 x1.toNatClampNeg).toNatClampNeg).toNatClampNeg), .int (M.1 87 x1.toNatClampNeg), .int (M.1 85 x1.toNatClampNeg), .ref 86] M _ _
  refine R_ict q101 rfl (decide_eq_true h7) ?_
  show Rm E 101 153 [vr 83, vi x1, vi (M.1 85 x1.toNatClampNeg)] [.int (M.1 85 x1.toNatClampNeg), .ref 86] M _ _
  refine R_S q101 3 (pc2 := 158) (ls2 := [vr 83, vi x1, vi (M.1 85 x1.toNatClampNeg)]) (st2 := [.int (M.1 85 x1.toNatClampNeg), .ref 86, .int (M.1 85 x1.toNatClampNeg), .ref 86]) rfl ?_
  refine R_ial q101 rfl rfl h8 ?_
  show Rm E 101 159 [vr 83, vi x1, vi (M.1 85 x1.toNatClampNeg)] [.int (M.1 86 (M.1 85 x1.toNatClampNeg).toNatClampNeg), .int (M.1 85 x1.toNatClampNeg), .ref 86] M _ _
  refine R_ias q101 rfl rfl h9 eN1 ?_
  show Rm E 101 160 [vr 83, vi x1, vi (M.1 85 x1.toNatClampNeg)] [] N1 _ _
  refine R_S q101 2 (pc2 := 102) (ls2 := [vr 83, vi (x1 + (-1)), vi (M.1 85 x1.toNatClampNeg)]) (st2 := []) rfl ?_
  exact R_w (ls := [vr 83, vi (x1 + (-1)), vn]) (show lsle _ _ from ⟨rfl, ⟨rfl, trivial⟩⟩) k
-- 103- 126- 146-
theorem b101_102_3 {E : env} {M : mem} {rv : Option Value} {M2 : mem} {x1 : Int32} {N1 : mem} (h0 : ¬ (x1 ≤ 0)) (h1 : inR x1 30) (h2 : inR (M.1 85 x1.toNatClampNeg) 30) (h3 : ¬ (M.1 86 (M.1 85 x1.toNatClampNeg).toNatClampNeg = (-4))) (h4 : inR x1 30) (h5 : inR (M.1 85 x1.toNatClampNeg) 30) (h6 : inR (M.1 86 (M.1 85 x1.toNatClampNeg).toNatClampNeg) 30) (h7 : ¬ (M.1 87 x1.toNatClampNeg < M.1 87 (M.1 86 (M.1 85 x1.toNatClampNeg).toNatClampNeg).toNatClampNeg)) (h8 : inR (M.1 85 x1.toNatClampNeg) 30) (eN1 : N1 = upM M 86 ((M.1 85 x1.toNatClampNeg).toNatClampNeg) x1) (k : Rm E 101 102 [vr 83, vi (x1 + (-1)), vn] [] N1 rv M2) : Rm E 101 102 [vr 83, vi x1, vn] [] M rv M2 := by
  refine R_S q101 1 (pc2 := 103) (ls2 := [vr 83, vi x1, vn]) (st2 := [.int x1]) rfl ?_
  refine R_iff q101 rfl (decide_eq_false h0) ?_
  show Rm E 101 106 [vr 83, vi x1, vn] [] M _ _
  refine R_S q101 3 (pc2 := 111) (ls2 := [vr 83, vi x1, vn]) (st2 := [.int x1, .ref 85]) rfl ?_
  refine R_ial q101 rfl rfl h1 ?_
  show Rm E 101 112 [vr 83, vi x1, vn] [.int (M.1 85 x1.toNatClampNeg)] M _ _
  refine R_S q101 7 (pc2 := 123) (ls2 := [vr 83, vi x1, vi (M.1 85 x1.toNatClampNeg)]) (st2 := [.int (M.1 85 x1.toNatClampNeg), .ref 86, .int (M.1 85 x1.toNatClampNeg), .ref 86]) rfl ?_
  refine R_ial q101 rfl rfl h2 ?_
  show Rm E 101 124 [vr 83, vi x1, vi (M.1 85 x1.toNatClampNeg)] [.int (M.1 86 (M.1 85 x1.toNatClampNeg).toNatClampNeg), .int (M.1 85 x1.toNatClampNeg), .ref 86] M _ _
  refine R_S q101 1 (pc2 := 126) (ls2 := [vr 83, vi x1, vi (M.1 85 x1.toNatClampNeg)]) (st2 := [.int (-4), .int (M.1 86 (M.1 85 x1.toNatClampNeg).toNatClampNeg), .int (M.1 85 x1.toNatClampNeg), .ref 86]) rfl ?_
  refine R_icf q101 rfl (decide_eq_false h3) ?_
  show Rm E 101 129 [vr 83, vi x1, vi (M.1 85 x1.toNatClampNeg)] [.int (M.1 85 x1.toNatClampNeg), .ref 86] M _ _
  refine R_S q101 3 (pc2 := 134) (ls2 := [vr 83, vi x1, vi (M.1 85 x1.toNatClampNeg)]) (st2 := [.int x1, .ref 87, .int (M.1 85 x1.toNatClampNeg), .ref 86]) rfl ?_
  refine R_ial q101 rfl rfl h4 ?_
  show Rm E 101 135 [vr 83, vi x1, vi (M.1 85 x1.toNatClampNeg)] [.int (M.1 87 x1.toNatClampNeg), .int (M.1 85 x1.toNatClampNeg), .ref 86] M _ _
  refine R_S q101 5 (pc2 := 144) (ls2 := [vr 83, vi x1, vi (M.1 85 x1.toNatClampNeg)]) (st2 := [.int (M.1 85 x1.toNatClampNeg), .ref 86, .ref 87, .int (M.1 87 x1.toNatClampNeg), .int (M.1 85 x1.toNatClampNeg), .ref 86]) rfl ?_
  refine R_ial q101 rfl rfl h5 ?_
  show Rm E 101 145 [vr 83, vi x1, vi (M.1 85 x1.toNatClampNeg)] [.int (M.1 86 (M.1 85 x1.toNatClampNeg).toNatClampNeg), .ref 87, .int (M.1 87 x1.toNatClampNeg), .int (M.1 85 x1.toNatClampNeg), .ref 86] M _ _
  refine R_ial q101 rfl rfl h6 ?_
  show Rm E 101 146 [vr 83, vi x1, vi (M.1 85 x1.toNatClampNeg)] [.int (M.1 87 (M.1 86 (M.1 85 x1.toNatClampNeg).toNatClampNeg).toNatClampNeg), .int (M.1 87 x1.toNatClampNeg), .int (M.1 85 x1.toNatClampNeg), .ref 86] M _ _
  refine R_icf q101 rfl (decide_eq_false h7) ?_
  show Rm E 101 149 [vr 83, vi x1, vi (M.1 85 x1.toNatClampNeg)] [.int (M.1 85 x1.toNatClampNeg), .ref 86] M _ _
  refine R_S q101 2 (pc2 := 159) (ls2 := [vr 83, vi x1, vi (M.1 85 x1.toNatClampNeg)]) (st2 := [.int x1, .int (M.1 85 x1.toNatClampNeg), .ref 86]) rfl ?_
  refine R_ias q101 rfl rfl h8 eN1 ?_
  show Rm E 101 160 [vr 83, vi x1, vi (M.1 85 x1.toNatClampNeg)] [] N1 _ _
  refine R_S q101 2 (pc2 := 102) (ls2 := [vr 83, vi (x1 + (-1)), vi (M.1 85 x1.toNatClampNeg)]) (st2 := []) rfl ?_
  exact R_w (ls := [vr 83, vi (x1 + (-1)), vn]) (show lsle _ _ from ⟨rfl, ⟨rfl, trivial⟩⟩) k
-- 173+
theorem b101_168_0 {E : env} {M : mem} {x1 : Int32}  (h0 : M.1 83 1 ≤ x1) : Rm E 101 168 [vr 83, vi x1, vn] [] M none M := by
  refine R_S q101 3 (pc2 := 173) (ls2 := [vr 83, vi x1, vn]) (st2 := [.int (M.1 83 1), .int x1]) rfl ?_
  refine R_ict q101 rfl (decide_eq_true h0) ?_
  show Rm E 101 253 [vr 83, vi x1, vn] [] M _ _
  exact R_ret rfl q101 rfl rfl rfl rfl rfl
-- 173- 182+ 222+ call X10_placed
theorem b101_168_1 {E : env} {M : mem} {rv : Option Value} {M2 : mem} {x1 : Int32} {N1 : mem} {c1 : Int32} {N2 : mem} {N3 : mem} (h0 : ¬ (M.1 83 1 ≤ x1)) (h1 : x1 ≤ 0) (h2 : inR x1 30) (eN1 : N1 = upM M 89 (x1.toNatClampNeg) x1) (h3 : ¬ x1 = 0) (h4 : Rm E 102 0 [vr 83, vi x1, vn, vn, vn] [] N1 (some (.int c1)) N1) (h5 : inR x1 30) (eN2 : N2 = upM N1 88 (x1.toNatClampNeg) c1) (h6 : inR x1 30) (h7 : inR (N2.1 88 x1.toNatClampNeg) 30) (eN3 : N3 = upM N2 91 ((N2.1 88 x1.toNatClampNeg).toNatClampNeg) x1) (k : Rm E 101 168 [vr 83, vi (x1 + 1), vn] [] N3 rv M2) : Rm E 101 168 [vr 83, vi x1, vn] [] M rv M2 := by
  refine R_S q101 3 (pc2 := 173) (ls2 := [vr 83, vi x1, vn]) (st2 := [.int (M.1 83 1), .int x1]) rfl ?_
  refine R_icf q101 rfl (decide_eq_false h0) ?_
  show Rm E 101 176 [vr 83, vi x1, vn] [] M _ _
  refine R_S q101 4 (pc2 := 182) (ls2 := [vr 83, vi x1, vn]) (st2 := [.int x1, .int x1, .ref 89]) rfl ?_
  refine R_ift q101 rfl (decide_eq_true h1) ?_
  show Rm E 101 214 [vr 83, vi x1, vn] [.int x1, .ref 89] M _ _
  refine R_S q101 1 (pc2 := 215) (ls2 := [vr 83, vi x1, vn]) (st2 := [.int x1, .int x1, .ref 89]) rfl ?_
  refine R_ias q101 rfl rfl h2 eN1 ?_
  show Rm E 101 216 [vr 83, vi x1, vn] [] N1 _ _
  refine R_S q101 4 (pc2 := 222) (ls2 := [vr 83, vi x1, vn]) (st2 := [.int x1, .int x1, .ref 88]) rfl ?_
  refine R_ift q101 rfl (decide_eq_true h3) ?_
  show Rm E 101 229 [vr 83, vi x1, vn] [.int x1, .ref 88] N1 _ _
  refine R_S q101 2 (pc2 := 231) (ls2 := [vr 83, vi x1, vn]) (st2 := [.int x1, .ref 83, .int x1, .ref 88]) rfl ?_
  refine R_call q101 rfl rfl rfl rfl rfl rfl h4 ?_
  show Rm E 101 234 [vr 83, vi x1, vn] [.int c1, .int x1, .ref 88] N1 _ _
  refine R_ias q101 rfl rfl h5 eN2 ?_
  show Rm E 101 235 [vr 83, vi x1, vn] [] N2 _ _
  refine R_S q101 5 (pc2 := 244) (ls2 := [vr 83, vi x1, vn]) (st2 := [.int x1, .ref 88, .ref 91]) rfl ?_
  refine R_ial q101 rfl rfl h6 ?_
  show Rm E 101 245 [vr 83, vi x1, vn] [.int (N2.1 88 x1.toNatClampNeg), .ref 91] N2 _ _
  refine R_S q101 1 (pc2 := 246) (ls2 := [vr 83, vi x1, vn]) (st2 := [.int x1, .int (N2.1 88 x1.toNatClampNeg), .ref 91]) rfl ?_
  refine R_ias q101 rfl rfl h7 eN3 ?_
  show Rm E 101 247 [vr 83, vi x1, vn] [] N3 _ _
  refine R_S q101 2 (pc2 := 168) (ls2 := [vr 83, vi (x1 + 1), vn]) (st2 := []) rfl ?_
  exact k
-- 173- 182+ 222-
theorem b101_168_2 {E : env} {M : mem} {rv : Option Value} {M2 : mem} {x1 : Int32} {N1 : mem} {N2 : mem} {N3 : mem} (h0 : ¬ (M.1 83 1 ≤ x1)) (h1 : x1 ≤ 0) (h2 : inR x1 30) (eN1 : N1 = upM M 89 (x1.toNatClampNeg) x1) (h3 : ¬ (¬ x1 = 0)) (h4 : inR x1 30) (eN2 : N2 = upM N1 88 (x1.toNatClampNeg) 0) (h5 : inR x1 30) (h6 : inR (N2.1 88 x1.toNatClampNeg) 30) (eN3 : N3 = upM N2 91 ((N2.1 88 x1.toNatClampNeg).toNatClampNeg) x1) (k : Rm E 101 168 [vr 83, vi (x1 + 1), vn] [] N3 rv M2) : Rm E 101 168 [vr 83, vi x1, vn] [] M rv M2 := by
  refine R_S q101 3 (pc2 := 173) (ls2 := [vr 83, vi x1, vn]) (st2 := [.int (M.1 83 1), .int x1]) rfl ?_
  refine R_icf q101 rfl (decide_eq_false h0) ?_
  show Rm E 101 176 [vr 83, vi x1, vn] [] M _ _
  refine R_S q101 4 (pc2 := 182) (ls2 := [vr 83, vi x1, vn]) (st2 := [.int x1, .int x1, .ref 89]) rfl ?_
  refine R_ift q101 rfl (decide_eq_true h1) ?_
  show Rm E 101 214 [vr 83, vi x1, vn] [.int x1, .ref 89] M _ _
  refine R_S q101 1 (pc2 := 215) (ls2 := [vr 83, vi x1, vn]) (st2 := [.int x1, .int x1, .ref 89]) rfl ?_
  refine R_ias q101 rfl rfl h2 eN1 ?_
  show Rm E 101 216 [vr 83, vi x1, vn] [] N1 _ _
  refine R_S q101 4 (pc2 := 222) (ls2 := [vr 83, vi x1, vn]) (st2 := [.int x1, .int x1, .ref 88]) rfl ?_
  refine R_iff q101 rfl (decide_eq_false h3) ?_
  show Rm E 101 225 [vr 83, vi x1, vn] [.int x1, .ref 88] N1 _ _
  refine R_S q101 2 (pc2 := 234) (ls2 := [vr 83, vi x1, vn]) (st2 := [.int 0, .int x1, .ref 88]) rfl ?_
  refine R_ias q101 rfl rfl h4 eN2 ?_
  show Rm E 101 235 [vr 83, vi x1, vn] [] N2 _ _
  refine R_S q101 5 (pc2 := 244) (ls2 := [vr 83, vi x1, vn]) (st2 := [.int x1, .ref 88, .ref 91]) rfl ?_
  refine R_ial q101 rfl rfl h5 ?_
  show Rm E 101 245 [vr 83, vi x1, vn] [.int (N2.1 88 x1.toNatClampNeg), .ref 91] N2 _ _
  refine R_S q101 1 (pc2 := 246) (ls2 := [vr 83, vi x1, vn]) (st2 := [.int x1, .int (N2.1 88 x1.toNatClampNeg), .ref 91]) rfl ?_
  refine R_ias q101 rfl rfl h6 eN3 ?_
  show Rm E 101 247 [vr 83, vi x1, vn] [] N3 _ _
  refine R_S q101 2 (pc2 := 168) (ls2 := [vr 83, vi (x1 + 1), vn]) (st2 := []) rfl ?_
  exact k
-- 173- 182- 197+ 222+ call X10_placed
theorem b101_168_3 {E : env} {M : mem} {rv : Option Value} {M2 : mem} {x1 : Int32} {N1 : mem} {c1 : Int32} {N2 : mem} {N3 : mem} (h0 : ¬ (M.1 83 1 ≤ x1)) (h1 : ¬ (x1 ≤ 0)) (h2 : inR x1 30) (h3 : inR (M.1 85 x1.toNatClampNeg) 30) (h4 : ¬ M.1 86 (M.1 85 x1.toNatClampNeg).toNatClampNeg = x1) (h5 : inR x1 30) (eN1 : N1 = upM M 89 (x1.toNatClampNeg) x1) (h6 : ¬ x1 = 0) (h7 : Rm E 102 0 [vr 83, vi x1, vn, vn, vn] [] N1 (some (.int c1)) N1) (h8 : inR x1 30) (eN2 : N2 = upM N1 88 (x1.toNatClampNeg) c1) (h9 : inR x1 30) (h10 : inR (N2.1 88 x1.toNatClampNeg) 30) (eN3 : N3 = upM N2 91 ((N2.1 88 x1.toNatClampNeg).toNatClampNeg) x1) (k : Rm E 101 168 [vr 83, vi (x1 + 1), vn] [] N3 rv M2) : Rm E 101 168 [vr 83, vi x1, vn] [] M rv M2 := by
  refine R_S q101 3 (pc2 := 173) (ls2 := [vr 83, vi x1, vn]) (st2 := [.int (M.1 83 1), .int x1]) rfl ?_
  refine R_icf q101 rfl (decide_eq_false h0) ?_
  show Rm E 101 176 [vr 83, vi x1, vn] [] M _ _
  refine R_S q101 4 (pc2 := 182) (ls2 := [vr 83, vi x1, vn]) (st2 := [.int x1, .int x1, .ref 89]) rfl ?_
  refine R_iff q101 rfl (decide_eq_false h1) ?_
  show Rm E 101 185 [vr 83, vi x1, vn] [.int x1, .ref 89] M _ _
  refine R_S q101 5 (pc2 := 194) (ls2 := [vr 83, vi x1, vn]) (st2 := [.int x1, .ref 85, .ref 86, .int x1, .ref 89]) rfl ?_
  refine R_ial q101 rfl rfl h2 ?_
  show Rm E 101 195 [vr 83, vi x1, vn] [.int (M.1 85 x1.toNatClampNeg), .ref 86, .int x1, .ref 89] M _ _
  refine R_ial q101 rfl rfl h3 ?_
  show Rm E 101 196 [vr 83, vi x1, vn] [.int (M.1 86 (M.1 85 x1.toNatClampNeg).toNatClampNeg), .int x1, .ref 89] M _ _
  refine R_S q101 1 (pc2 := 197) (ls2 := [vr 83, vi x1, vn]) (st2 := [.int x1, .int (M.1 86 (M.1 85 x1.toNatClampNeg).toNatClampNeg), .int x1, .ref 89]) rfl ?_
  refine R_ict q101 rfl (decide_eq_true h4) ?_
  show Rm E 101 214 [vr 83, vi x1, vn] [.int x1, .ref 89] M _ _
  refine R_S q101 1 (pc2 := 215) (ls2 := [vr 83, vi x1, vn]) (st2 := [.int x1, .int x1, .ref 89]) rfl ?_
  refine R_ias q101 rfl rfl h5 eN1 ?_
  show Rm E 101 216 [vr 83, vi x1, vn] [] N1 _ _
  refine R_S q101 4 (pc2 := 222) (ls2 := [vr 83, vi x1, vn]) (st2 := [.int x1, .int x1, .ref 88]) rfl ?_
  refine R_ift q101 rfl (decide_eq_true h6) ?_
  show Rm E 101 229 [vr 83, vi x1, vn] [.int x1, .ref 88] N1 _ _
  refine R_S q101 2 (pc2 := 231) (ls2 := [vr 83, vi x1, vn]) (st2 := [.int x1, .ref 83, .int x1, .ref 88]) rfl ?_
  refine R_call q101 rfl rfl rfl rfl rfl rfl h7 ?_
  show Rm E 101 234 [vr 83, vi x1, vn] [.int c1, .int x1, .ref 88] N1 _ _
  refine R_ias q101 rfl rfl h8 eN2 ?_
  show Rm E 101 235 [vr 83, vi x1, vn] [] N2 _ _
  refine R_S q101 5 (pc2 := 244) (ls2 := [vr 83, vi x1, vn]) (st2 := [.int x1, .ref 88, .ref 91]) rfl ?_
  refine R_ial q101 rfl rfl h9 ?_
  show Rm E 101 245 [vr 83, vi x1, vn] [.int (N2.1 88 x1.toNatClampNeg), .ref 91] N2 _ _
  refine R_S q101 1 (pc2 := 246) (ls2 := [vr 83, vi x1, vn]) (st2 := [.int x1, .int (N2.1 88 x1.toNatClampNeg), .ref 91]) rfl ?_
  refine R_ias q101 rfl rfl h10 eN3 ?_
  show Rm E 101 247 [vr 83, vi x1, vn] [] N3 _ _
  refine R_S q101 2 (pc2 := 168) (ls2 := [vr 83, vi (x1 + 1), vn]) (st2 := []) rfl ?_
  exact k
-- 173- 182- 197+ 222-
theorem b101_168_4 {E : env} {M : mem} {rv : Option Value} {M2 : mem} {x1 : Int32} {N1 : mem} {N2 : mem} {N3 : mem} (h0 : ¬ (M.1 83 1 ≤ x1)) (h1 : ¬ (x1 ≤ 0)) (h2 : inR x1 30) (h3 : inR (M.1 85 x1.toNatClampNeg) 30) (h4 : ¬ M.1 86 (M.1 85 x1.toNatClampNeg).toNatClampNeg = x1) (h5 : inR x1 30) (eN1 : N1 = upM M 89 (x1.toNatClampNeg) x1) (h6 : ¬ (¬ x1 = 0)) (h7 : inR x1 30) (eN2 : N2 = upM N1 88 (x1.toNatClampNeg) 0) (h8 : inR x1 30) (h9 : inR (N2.1 88 x1.toNatClampNeg) 30) (eN3 : N3 = upM N2 91 ((N2.1 88 x1.toNatClampNeg).toNatClampNeg) x1) (k : Rm E 101 168 [vr 83, vi (x1 + 1), vn] [] N3 rv M2) : Rm E 101 168 [vr 83, vi x1, vn] [] M rv M2 := by
  refine R_S q101 3 (pc2 := 173) (ls2 := [vr 83, vi x1, vn]) (st2 := [.int (M.1 83 1), .int x1]) rfl ?_
  refine R_icf q101 rfl (decide_eq_false h0) ?_
  show Rm E 101 176 [vr 83, vi x1, vn] [] M _ _
  refine R_S q101 4 (pc2 := 182) (ls2 := [vr 83, vi x1, vn]) (st2 := [.int x1, .int x1, .ref 89]) rfl ?_
  refine R_iff q101 rfl (decide_eq_false h1) ?_
  show Rm E 101 185 [vr 83, vi x1, vn] [.int x1, .ref 89] M _ _
  refine R_S q101 5 (pc2 := 194) (ls2 := [vr 83, vi x1, vn]) (st2 := [.int x1, .ref 85, .ref 86, .int x1, .ref 89]) rfl ?_
  refine R_ial q101 rfl rfl h2 ?_
  show Rm E 101 195 [vr 83, vi x1, vn] [.int (M.1 85 x1.toNatClampNeg), .ref 86, .int x1, .ref 89] M _ _
  refine R_ial q101 rfl rfl h3 ?_
  show Rm E 101 196 [vr 83, vi x1, vn] [.int (M.1 86 (M.1 85 x1.toNatClampNeg).toNatClampNeg), .int x1, .ref 89] M _ _
  refine R_S q101 1 (pc2 := 197) (ls2 := [vr 83, vi x1, vn]) (st2 := [.int x1, .int (M.1 86 (M.1 85 x1.toNatClampNeg).toNatClampNeg), .int x1, .ref 89]) rfl ?_
  refine R_ict q101 rfl (decide_eq_true h4) ?_
  show Rm E 101 214 [vr 83, vi x1, vn] [.int x1, .ref 89] M _ _
  refine R_S q101 1 (pc2 := 215) (ls2 := [vr 83, vi x1, vn]) (st2 := [.int x1, .int x1, .ref 89]) rfl ?_
  refine R_ias q101 rfl rfl h5 eN1 ?_
  show Rm E 101 216 [vr 83, vi x1, vn] [] N1 _ _
  refine R_S q101 4 (pc2 := 222) (ls2 := [vr 83, vi x1, vn]) (st2 := [.int x1, .int x1, .ref 88]) rfl ?_
  refine R_iff q101 rfl (decide_eq_false h6) ?_
  show Rm E 101 225 [vr 83, vi x1, vn] [.int x1, .ref 88] N1 _ _
  refine R_S q101 2 (pc2 := 234) (ls2 := [vr 83, vi x1, vn]) (st2 := [.int 0, .int x1, .ref 88]) rfl ?_
  refine R_ias q101 rfl rfl h7 eN2 ?_
  show Rm E 101 235 [vr 83, vi x1, vn] [] N2 _ _
  refine R_S q101 5 (pc2 := 244) (ls2 := [vr 83, vi x1, vn]) (st2 := [.int x1, .ref 88, .ref 91]) rfl ?_
  refine R_ial q101 rfl rfl h8 ?_
  show Rm E 101 245 [vr 83, vi x1, vn] [.int (N2.1 88 x1.toNatClampNeg), .ref 91] N2 _ _
  refine R_S q101 1 (pc2 := 246) (ls2 := [vr 83, vi x1, vn]) (st2 := [.int x1, .int (N2.1 88 x1.toNatClampNeg), .ref 91]) rfl ?_
  refine R_ias q101 rfl rfl h9 eN3 ?_
  show Rm E 101 247 [vr 83, vi x1, vn] [] N3 _ _
  refine R_S q101 2 (pc2 := 168) (ls2 := [vr 83, vi (x1 + 1), vn]) (st2 := []) rfl ?_
  exact k
-- 173- 182- 197- 222+ call X10_placed
theorem b101_168_5 {E : env} {M : mem} {rv : Option Value} {M2 : mem} {x1 : Int32} {N1 : mem} {c1 : Int32} {N2 : mem} {N3 : mem} (h0 : ¬ (M.1 83 1 ≤ x1)) (h1 : ¬ (x1 ≤ 0)) (h2 : inR x1 30) (h3 : inR (M.1 85 x1.toNatClampNeg) 30) (h4 : ¬ (¬ M.1 86 (M.1 85 x1.toNatClampNeg).toNatClampNeg = x1)) (h5 : inR x1 30) (h6 : inR (M.1 85 x1.toNatClampNeg) 30) (h7 : inR x1 30) (eN1 : N1 = upM M 89 (x1.toNatClampNeg) (M.1 89 (M.1 85 x1.toNatClampNeg).toNatClampNeg)) (h8 : ¬ x1 = 0) (h9 : Rm E 102 0 [vr 83, vi x1, vn, vn, vn] [] N1 (some (.int c1)) N1) (h10 : inR x1 30) (eN2 : N2 = upM N1 88 (x1.toNatClampNeg) c1) (h11 : inR x1 30) (h12 : inR (N2.1 88 x1.toNatClampNeg) 30) (eN3 : N3 = upM N2 91 ((N2.1 88 x1.toNatClampNeg).toNatClampNeg) x1) (k : Rm E 101 168 [vr 83, vi (x1 + 1), vn] [] N3 rv M2) : Rm E 101 168 [vr 83, vi x1, vn] [] M rv M2 := by
  refine R_S q101 3 (pc2 := 173) (ls2 := [vr 83, vi x1, vn]) (st2 := [.int (M.1 83 1), .int x1]) rfl ?_
  refine R_icf q101 rfl (decide_eq_false h0) ?_
  show Rm E 101 176 [vr 83, vi x1, vn] [] M _ _
  refine R_S q101 4 (pc2 := 182) (ls2 := [vr 83, vi x1, vn]) (st2 := [.int x1, .int x1, .ref 89]) rfl ?_
  refine R_iff q101 rfl (decide_eq_false h1) ?_
  show Rm E 101 185 [vr 83, vi x1, vn] [.int x1, .ref 89] M _ _
  refine R_S q101 5 (pc2 := 194) (ls2 := [vr 83, vi x1, vn]) (st2 := [.int x1, .ref 85, .ref 86, .int x1, .ref 89]) rfl ?_
  refine R_ial q101 rfl rfl h2 ?_
  show Rm E 101 195 [vr 83, vi x1, vn] [.int (M.1 85 x1.toNatClampNeg), .ref 86, .int x1, .ref 89] M _ _
  refine R_ial q101 rfl rfl h3 ?_
  show Rm E 101 196 [vr 83, vi x1, vn] [.int (M.1 86 (M.1 85 x1.toNatClampNeg).toNatClampNeg), .int x1, .ref 89] M _ _
  refine R_S q101 1 (pc2 := 197) (ls2 := [vr 83, vi x1, vn]) (st2 := [.int x1, .int (M.1 86 (M.1 85 x1.toNatClampNeg).toNatClampNeg), .int x1, .ref 89]) rfl ?_
  refine R_icf q101 rfl (decide_eq_false h4) ?_
  show Rm E 101 200 [vr 83, vi x1, vn] [.int x1, .ref 89] M _ _
  refine R_S q101 5 (pc2 := 209) (ls2 := [vr 83, vi x1, vn]) (st2 := [.int x1, .ref 85, .ref 89, .int x1, .ref 89]) rfl ?_
  refine R_ial q101 rfl rfl h5 ?_
  show Rm E 101 210 [vr 83, vi x1, vn] [.int (M.1 85 x1.toNatClampNeg), .ref 89, .int x1, .ref 89] M _ _
  refine R_ial q101 rfl rfl h6 ?_
  show Rm E 101 211 [vr 83, vi x1, vn] [.int (M.1 89 (M.1 85 x1.toNatClampNeg).toNatClampNeg), .int x1, .ref 89] M _ _
  refine R_S q101 1 (pc2 := 215) (ls2 := [vr 83, vi x1, vn]) (st2 := [.int (M.1 89 (M.1 85 x1.toNatClampNeg).toNatClampNeg), .int x1, .ref 89]) rfl ?_
  refine R_ias q101 rfl rfl h7 eN1 ?_
  show Rm E 101 216 [vr 83, vi x1, vn] [] N1 _ _
  refine R_S q101 4 (pc2 := 222) (ls2 := [vr 83, vi x1, vn]) (st2 := [.int x1, .int x1, .ref 88]) rfl ?_
  refine R_ift q101 rfl (decide_eq_true h8) ?_
  show Rm E 101 229 [vr 83, vi x1, vn] [.int x1, .ref 88] N1 _ _
  refine R_S q101 2 (pc2 := 231) (ls2 := [vr 83, vi x1, vn]) (st2 := [.int x1, .ref 83, .int x1, .ref 88]) rfl ?_
  refine R_call q101 rfl rfl rfl rfl rfl rfl h9 ?_
  show Rm E 101 234 [vr 83, vi x1, vn] [.int c1, .int x1, .ref 88] N1 _ _
  refine R_ias q101 rfl rfl h10 eN2 ?_
  show Rm E 101 235 [vr 83, vi x1, vn] [] N2 _ _
  refine R_S q101 5 (pc2 := 244) (ls2 := [vr 83, vi x1, vn]) (st2 := [.int x1, .ref 88, .ref 91]) rfl ?_
  refine R_ial q101 rfl rfl h11 ?_
  show Rm E 101 245 [vr 83, vi x1, vn] [.int (N2.1 88 x1.toNatClampNeg), .ref 91] N2 _ _
  refine R_S q101 1 (pc2 := 246) (ls2 := [vr 83, vi x1, vn]) (st2 := [.int x1, .int (N2.1 88 x1.toNatClampNeg), .ref 91]) rfl ?_
  refine R_ias q101 rfl rfl h12 eN3 ?_
  show Rm E 101 247 [vr 83, vi x1, vn] [] N3 _ _
  refine R_S q101 2 (pc2 := 168) (ls2 := [vr 83, vi (x1 + 1), vn]) (st2 := []) rfl ?_
  exact k
-- 173- 182- 197- 222-
theorem b101_168_6 {E : env} {M : mem} {rv : Option Value} {M2 : mem} {x1 : Int32} {N1 : mem} {N2 : mem} {N3 : mem} (h0 : ¬ (M.1 83 1 ≤ x1)) (h1 : ¬ (x1 ≤ 0)) (h2 : inR x1 30) (h3 : inR (M.1 85 x1.toNatClampNeg) 30) (h4 : ¬ (¬ M.1 86 (M.1 85 x1.toNatClampNeg).toNatClampNeg = x1)) (h5 : inR x1 30) (h6 : inR (M.1 85 x1.toNatClampNeg) 30) (h7 : inR x1 30) (eN1 : N1 = upM M 89 (x1.toNatClampNeg) (M.1 89 (M.1 85 x1.toNatClampNeg).toNatClampNeg)) (h8 : ¬ (¬ x1 = 0)) (h9 : inR x1 30) (eN2 : N2 = upM N1 88 (x1.toNatClampNeg) 0) (h10 : inR x1 30) (h11 : inR (N2.1 88 x1.toNatClampNeg) 30) (eN3 : N3 = upM N2 91 ((N2.1 88 x1.toNatClampNeg).toNatClampNeg) x1) (k : Rm E 101 168 [vr 83, vi (x1 + 1), vn] [] N3 rv M2) : Rm E 101 168 [vr 83, vi x1, vn] [] M rv M2 := by
  refine R_S q101 3 (pc2 := 173) (ls2 := [vr 83, vi x1, vn]) (st2 := [.int (M.1 83 1), .int x1]) rfl ?_
  refine R_icf q101 rfl (decide_eq_false h0) ?_
  show Rm E 101 176 [vr 83, vi x1, vn] [] M _ _
  refine R_S q101 4 (pc2 := 182) (ls2 := [vr 83, vi x1, vn]) (st2 := [.int x1, .int x1, .ref 89]) rfl ?_
  refine R_iff q101 rfl (decide_eq_false h1) ?_
  show Rm E 101 185 [vr 83, vi x1, vn] [.int x1, .ref 89] M _ _
  refine R_S q101 5 (pc2 := 194) (ls2 := [vr 83, vi x1, vn]) (st2 := [.int x1, .ref 85, .ref 86, .int x1, .ref 89]) rfl ?_
  refine R_ial q101 rfl rfl h2 ?_
  show Rm E 101 195 [vr 83, vi x1, vn] [.int (M.1 85 x1.toNatClampNeg), .ref 86, .int x1, .ref 89] M _ _
  refine R_ial q101 rfl rfl h3 ?_
  show Rm E 101 196 [vr 83, vi x1, vn] [.int (M.1 86 (M.1 85 x1.toNatClampNeg).toNatClampNeg), .int x1, .ref 89] M _ _
  refine R_S q101 1 (pc2 := 197) (ls2 := [vr 83, vi x1, vn]) (st2 := [.int x1, .int (M.1 86 (M.1 85 x1.toNatClampNeg).toNatClampNeg), .int x1, .ref 89]) rfl ?_
  refine R_icf q101 rfl (decide_eq_false h4) ?_
  show Rm E 101 200 [vr 83, vi x1, vn] [.int x1, .ref 89] M _ _
  refine R_S q101 5 (pc2 := 209) (ls2 := [vr 83, vi x1, vn]) (st2 := [.int x1, .ref 85, .ref 89, .int x1, .ref 89]) rfl ?_
  refine R_ial q101 rfl rfl h5 ?_
  show Rm E 101 210 [vr 83, vi x1, vn] [.int (M.1 85 x1.toNatClampNeg), .ref 89, .int x1, .ref 89] M _ _
  refine R_ial q101 rfl rfl h6 ?_
  show Rm E 101 211 [vr 83, vi x1, vn] [.int (M.1 89 (M.1 85 x1.toNatClampNeg).toNatClampNeg), .int x1, .ref 89] M _ _
  refine R_S q101 1 (pc2 := 215) (ls2 := [vr 83, vi x1, vn]) (st2 := [.int (M.1 89 (M.1 85 x1.toNatClampNeg).toNatClampNeg), .int x1, .ref 89]) rfl ?_
  refine R_ias q101 rfl rfl h7 eN1 ?_
  show Rm E 101 216 [vr 83, vi x1, vn] [] N1 _ _
  refine R_S q101 4 (pc2 := 222) (ls2 := [vr 83, vi x1, vn]) (st2 := [.int x1, .int x1, .ref 88]) rfl ?_
  refine R_iff q101 rfl (decide_eq_false h8) ?_
  show Rm E 101 225 [vr 83, vi x1, vn] [.int x1, .ref 88] N1 _ _
  refine R_S q101 2 (pc2 := 234) (ls2 := [vr 83, vi x1, vn]) (st2 := [.int 0, .int x1, .ref 88]) rfl ?_
  refine R_ias q101 rfl rfl h9 eN2 ?_
  show Rm E 101 235 [vr 83, vi x1, vn] [] N2 _ _
  refine R_S q101 5 (pc2 := 244) (ls2 := [vr 83, vi x1, vn]) (st2 := [.int x1, .ref 88, .ref 91]) rfl ?_
  refine R_ial q101 rfl rfl h10 ?_
  show Rm E 101 245 [vr 83, vi x1, vn] [.int (N2.1 88 x1.toNatClampNeg), .ref 91] N2 _ _
  refine R_S q101 1 (pc2 := 246) (ls2 := [vr 83, vi x1, vn]) (st2 := [.int x1, .int (N2.1 88 x1.toNatClampNeg), .ref 91]) rfl ?_
  refine R_ias q101 rfl rfl h11 eN3 ?_
  show Rm E 101 247 [vr 83, vi x1, vn] [] N3 _ _
  refine R_S q101 2 (pc2 := 168) (ls2 := [vr 83, vi (x1 + 1), vn]) (st2 := []) rfl ?_
  exact k
-- 102 HeavyChainsModel.placed(I)I  cuts [0, 45]
theorem q102 : cdOf 102 = some mt102 := rfl
-- 23+
theorem b102_0_0 {E : env} {M : mem} {rv : Option Value} {M2 : mem} {x1 : Int32}  (h0 : inR x1 30) (h1 : inR (M.1 85 x1.toNatClampNeg) 30) (h2 : inR (M.1 85 x1.toNatClampNeg) 30) (h3 : ¬ M.1 86 (M.1 85 x1.toNatClampNeg).toNatClampNeg = x1) (h4 : inR (M.1 85 x1.toNatClampNeg) 30) (h5 : inR (M.1 86 (M.1 85 x1.toNatClampNeg).toNatClampNeg) 30) (k : Rm E 102 45 [vr 83, vi x1, vi (M.1 85 x1.toNatClampNeg), vi ((M.1 88 (M.1 85 x1.toNatClampNeg).toNatClampNeg + 1) + M.1 87 (M.1 86 (M.1 85 x1.toNatClampNeg).toNatClampNeg).toNatClampNeg), vi 1] [] M rv M2) : Rm E 102 0 [vr 83, vi x1, vn, vn, vn] [] M rv M2 := by
  refine R_S q102 3 (pc2 := 5) (ls2 := [vr 83, vi x1, vn, vn, vn]) (st2 := [.int x1, .ref 85]) rfl ?_
  refine R_ial q102 rfl rfl h0 ?_
  show Rm E 102 6 [vr 83, vi x1, vn, vn, vn] [.int (M.1 85 x1.toNatClampNeg)] M _ _
  refine R_S q102 4 (pc2 := 12) (ls2 := [vr 83, vi x1, vi (M.1 85 x1.toNatClampNeg), vn, vn]) (st2 := [.int (M.1 85 x1.toNatClampNeg), .ref 88]) rfl ?_
  refine R_ial q102 rfl rfl h1 ?_
  show Rm E 102 13 [vr 83, vi x1, vi (M.1 85 x1.toNatClampNeg), vn, vn] [.int (M.1 88 (M.1 85 x1.toNatClampNeg).toNatClampNeg)] M _ _
  refine R_S q102 6 (pc2 := 21) (ls2 := [vr 83, vi x1, vi (M.1 85 x1.toNatClampNeg), vi (M.1 88 (M.1 85 x1.toNatClampNeg).toNatClampNeg + 1), vn]) (st2 := [.int (M.1 85 x1.toNatClampNeg), .ref 86]) rfl ?_
  refine R_ial q102 rfl rfl h2 ?_
  show Rm E 102 22 [vr 83, vi x1, vi (M.1 85 x1.toNatClampNeg), vi (M.1 88 (M.1 85 x1.toNatClampNeg).toNatClampNeg + 1), vn] [.int (M.1 86 (M.1 85 x1.toNatClampNeg).toNatClampNeg)] M _ _
  refine R_S q102 1 (pc2 := 23) (ls2 := [vr 83, vi x1, vi (M.1 85 x1.toNatClampNeg), vi (M.1 88 (M.1 85 x1.toNatClampNeg).toNatClampNeg + 1), vn]) (st2 := [.int x1, .int (M.1 86 (M.1 85 x1.toNatClampNeg).toNatClampNeg)]) rfl ?_
  refine R_ict q102 rfl (decide_eq_true h3) ?_
  show Rm E 102 28 [vr 83, vi x1, vi (M.1 85 x1.toNatClampNeg), vi (M.1 88 (M.1 85 x1.toNatClampNeg).toNatClampNeg + 1), vn] [] M _ _
  refine R_S q102 6 (pc2 := 38) (ls2 := [vr 83, vi x1, vi (M.1 85 x1.toNatClampNeg), vi (M.1 88 (M.1 85 x1.toNatClampNeg).toNatClampNeg + 1), vn]) (st2 := [.int (M.1 85 x1.toNatClampNeg), .ref 86, .ref 87, .int (M.1 88 (M.1 85 x1.toNatClampNeg).toNatClampNeg + 1)]) rfl ?_
  refine R_ial q102 rfl rfl h4 ?_
  show Rm E 102 39 [vr 83, vi x1, vi (M.1 85 x1.toNatClampNeg), vi (M.1 88 (M.1 85 x1.toNatClampNeg).toNatClampNeg + 1), vn] [.int (M.1 86 (M.1 85 x1.toNatClampNeg).toNatClampNeg), .ref 87, .int (M.1 88 (M.1 85 x1.toNatClampNeg).toNatClampNeg + 1)] M _ _
  refine R_ial q102 rfl rfl h5 ?_
  show Rm E 102 40 [vr 83, vi x1, vi (M.1 85 x1.toNatClampNeg), vi (M.1 88 (M.1 85 x1.toNatClampNeg).toNatClampNeg + 1), vn] [.int (M.1 87 (M.1 86 (M.1 85 x1.toNatClampNeg).toNatClampNeg).toNatClampNeg), .int (M.1 88 (M.1 85 x1.toNatClampNeg).toNatClampNeg + 1)] M _ _
  refine R_S q102 4 (pc2 := 45) (ls2 := [vr 83, vi x1, vi (M.1 85 x1.toNatClampNeg), vi ((M.1 88 (M.1 85 x1.toNatClampNeg).toNatClampNeg + 1) + M.1 87 (M.1 86 (M.1 85 x1.toNatClampNeg).toNatClampNeg).toNatClampNeg), vi 1]) (st2 := []) rfl ?_
  exact k
-- 23-
theorem b102_0_1 {E : env} {M : mem} {x1 : Int32}  (h0 : inR x1 30) (h1 : inR (M.1 85 x1.toNatClampNeg) 30) (h2 : inR (M.1 85 x1.toNatClampNeg) 30) (h3 : ¬ (¬ M.1 86 (M.1 85 x1.toNatClampNeg).toNatClampNeg = x1)) : Rm E 102 0 [vr 83, vi x1, vn, vn, vn] [] M (some (.int (M.1 88 (M.1 85 x1.toNatClampNeg).toNatClampNeg + 1))) M := by
  refine R_S q102 3 (pc2 := 5) (ls2 := [vr 83, vi x1, vn, vn, vn]) (st2 := [.int x1, .ref 85]) rfl ?_
  refine R_ial q102 rfl rfl h0 ?_
  show Rm E 102 6 [vr 83, vi x1, vn, vn, vn] [.int (M.1 85 x1.toNatClampNeg)] M _ _
  refine R_S q102 4 (pc2 := 12) (ls2 := [vr 83, vi x1, vi (M.1 85 x1.toNatClampNeg), vn, vn]) (st2 := [.int (M.1 85 x1.toNatClampNeg), .ref 88]) rfl ?_
  refine R_ial q102 rfl rfl h1 ?_
  show Rm E 102 13 [vr 83, vi x1, vi (M.1 85 x1.toNatClampNeg), vn, vn] [.int (M.1 88 (M.1 85 x1.toNatClampNeg).toNatClampNeg)] M _ _
  refine R_S q102 6 (pc2 := 21) (ls2 := [vr 83, vi x1, vi (M.1 85 x1.toNatClampNeg), vi (M.1 88 (M.1 85 x1.toNatClampNeg).toNatClampNeg + 1), vn]) (st2 := [.int (M.1 85 x1.toNatClampNeg), .ref 86]) rfl ?_
  refine R_ial q102 rfl rfl h2 ?_
  show Rm E 102 22 [vr 83, vi x1, vi (M.1 85 x1.toNatClampNeg), vi (M.1 88 (M.1 85 x1.toNatClampNeg).toNatClampNeg + 1), vn] [.int (M.1 86 (M.1 85 x1.toNatClampNeg).toNatClampNeg)] M _ _
  refine R_S q102 1 (pc2 := 23) (ls2 := [vr 83, vi x1, vi (M.1 85 x1.toNatClampNeg), vi (M.1 88 (M.1 85 x1.toNatClampNeg).toNatClampNeg + 1), vn]) (st2 := [.int x1, .int (M.1 86 (M.1 85 x1.toNatClampNeg).toNatClampNeg)]) rfl ?_
  refine R_icf q102 rfl (decide_eq_false h3) ?_
  show Rm E 102 26 [vr 83, vi x1, vi (M.1 85 x1.toNatClampNeg), vi (M.1 88 (M.1 85 x1.toNatClampNeg).toNatClampNeg + 1), vn] [] M _ _
  refine R_S q102 1 (pc2 := 27) (ls2 := [vr 83, vi x1, vi (M.1 85 x1.toNatClampNeg), vi (M.1 88 (M.1 85 x1.toNatClampNeg).toNatClampNeg + 1), vn]) (st2 := [.int (M.1 88 (M.1 85 x1.toNatClampNeg).toNatClampNeg + 1)]) rfl ?_
  exact R_ret rfl q102 rfl rfl rfl rfl (stpR_i rfl rfl)
-- 48+
theorem b102_45_0 {E : env} {M : mem} {x1 x2 x3 x4 : Int32}  (h0 : x1 ≤ x4) : Rm E 102 45 [vr 83, vi x1, vi x2, vi x3, vi x4] [] M (some (.int x3)) M := by
  refine R_S q102 2 (pc2 := 48) (ls2 := [vr 83, vi x1, vi x2, vi x3, vi x4]) (st2 := [.int x1, .int x4]) rfl ?_
  refine R_ict q102 rfl (decide_eq_true h0) ?_
  show Rm E 102 93 [vr 83, vi x1, vi x2, vi x3, vi x4] [] M _ _
  refine R_S q102 1 (pc2 := 94) (ls2 := [vr 83, vi x1, vi x2, vi x3, vi x4]) (st2 := [.int x3]) rfl ?_
  exact R_ret rfl q102 rfl rfl rfl rfl (stpR_i rfl rfl)
-- 48- 60+
theorem b102_45_1 {E : env} {M : mem} {rv : Option Value} {M2 : mem} {x1 x2 x3 x4 : Int32}  (h0 : ¬ (x1 ≤ x4)) (h1 : inR x4 30) (h2 : ¬ M.1 85 x4.toNatClampNeg = x2) (k : Rm E 102 45 [vr 83, vi x1, vi x2, vi (x3 + 0), vi (x4 + 1)] [] M rv M2) : Rm E 102 45 [vr 83, vi x1, vi x2, vi x3, vi x4] [] M rv M2 := by
  refine R_S q102 2 (pc2 := 48) (ls2 := [vr 83, vi x1, vi x2, vi x3, vi x4]) (st2 := [.int x1, .int x4]) rfl ?_
  refine R_icf q102 rfl (decide_eq_false h0) ?_
  show Rm E 102 51 [vr 83, vi x1, vi x2, vi x3, vi x4] [] M _ _
  refine R_S q102 4 (pc2 := 58) (ls2 := [vr 83, vi x1, vi x2, vi x3, vi x4]) (st2 := [.int x4, .ref 85, .int x3]) rfl ?_
  refine R_ial q102 rfl rfl h1 ?_
  show Rm E 102 59 [vr 83, vi x1, vi x2, vi x3, vi x4] [.int (M.1 85 x4.toNatClampNeg), .int x3] M _ _
  refine R_S q102 1 (pc2 := 60) (ls2 := [vr 83, vi x1, vi x2, vi x3, vi x4]) (st2 := [.int x2, .int (M.1 85 x4.toNatClampNeg), .int x3]) rfl ?_
  refine R_ict q102 rfl (decide_eq_true h2) ?_
  show Rm E 102 84 [vr 83, vi x1, vi x2, vi x3, vi x4] [.int x3] M _ _
  refine R_S q102 5 (pc2 := 45) (ls2 := [vr 83, vi x1, vi x2, vi (x3 + 0), vi (x4 + 1)]) (st2 := []) rfl ?_
  exact k
-- 48- 60- 71+
theorem b102_45_2 {E : env} {M : mem} {rv : Option Value} {M2 : mem} {x1 x2 x3 x4 : Int32}  (h0 : ¬ (x1 ≤ x4)) (h1 : inR x4 30) (h2 : ¬ (¬ M.1 85 x4.toNatClampNeg = x2)) (h3 : inR x2 30) (h4 : x4 = M.1 86 x2.toNatClampNeg) (k : Rm E 102 45 [vr 83, vi x1, vi x2, vi (x3 + 0), vi (x4 + 1)] [] M rv M2) : Rm E 102 45 [vr 83, vi x1, vi x2, vi x3, vi x4] [] M rv M2 := by
  refine R_S q102 2 (pc2 := 48) (ls2 := [vr 83, vi x1, vi x2, vi x3, vi x4]) (st2 := [.int x1, .int x4]) rfl ?_
  refine R_icf q102 rfl (decide_eq_false h0) ?_
  show Rm E 102 51 [vr 83, vi x1, vi x2, vi x3, vi x4] [] M _ _
  refine R_S q102 4 (pc2 := 58) (ls2 := [vr 83, vi x1, vi x2, vi x3, vi x4]) (st2 := [.int x4, .ref 85, .int x3]) rfl ?_
  refine R_ial q102 rfl rfl h1 ?_
  show Rm E 102 59 [vr 83, vi x1, vi x2, vi x3, vi x4] [.int (M.1 85 x4.toNatClampNeg), .int x3] M _ _
  refine R_S q102 1 (pc2 := 60) (ls2 := [vr 83, vi x1, vi x2, vi x3, vi x4]) (st2 := [.int x2, .int (M.1 85 x4.toNatClampNeg), .int x3]) rfl ?_
  refine R_icf q102 rfl (decide_eq_false h2) ?_
  show Rm E 102 63 [vr 83, vi x1, vi x2, vi x3, vi x4] [.int x3] M _ _
  refine R_S q102 4 (pc2 := 70) (ls2 := [vr 83, vi x1, vi x2, vi x3, vi x4]) (st2 := [.int x2, .ref 86, .int x4, .int x3]) rfl ?_
  refine R_ial q102 rfl rfl h3 ?_
  show Rm E 102 71 [vr 83, vi x1, vi x2, vi x3, vi x4] [.int (M.1 86 x2.toNatClampNeg), .int x4, .int x3] M _ _
  refine R_ict q102 rfl (decide_eq_true h4) ?_
  show Rm E 102 84 [vr 83, vi x1, vi x2, vi x3, vi x4] [.int x3] M _ _
  refine R_S q102 5 (pc2 := 45) (ls2 := [vr 83, vi x1, vi x2, vi (x3 + 0), vi (x4 + 1)]) (st2 := []) rfl ?_
  exact k
-- 48- 60- 71-
theorem b102_45_3 {E : env} {M : mem} {rv : Option Value} {M2 : mem} {x1 x2 x3 x4 : Int32}  (h0 : ¬ (x1 ≤ x4)) (h1 : inR x4 30) (h2 : ¬ (¬ M.1 85 x4.toNatClampNeg = x2)) (h3 : inR x2 30) (h4 : ¬ (x4 = M.1 86 x2.toNatClampNeg)) (h5 : inR x4 30) (k : Rm E 102 45 [vr 83, vi x1, vi x2, vi (x3 + M.1 87 x4.toNatClampNeg), vi (x4 + 1)] [] M rv M2) : Rm E 102 45 [vr 83, vi x1, vi x2, vi x3, vi x4] [] M rv M2 := by
  refine R_S q102 2 (pc2 := 48) (ls2 := [vr 83, vi x1, vi x2, vi x3, vi x4]) (st2 := [.int x1, .int x4]) rfl ?_
  refine R_icf q102 rfl (decide_eq_false h0) ?_
  show Rm E 102 51 [vr 83, vi x1, vi x2, vi x3, vi x4] [] M _ _
  refine R_S q102 4 (pc2 := 58) (ls2 := [vr 83, vi x1, vi x2, vi x3, vi x4]) (st2 := [.int x4, .ref 85, .int x3]) rfl ?_
  refine R_ial q102 rfl rfl h1 ?_
  show Rm E 102 59 [vr 83, vi x1, vi x2, vi x3, vi x4] [.int (M.1 85 x4.toNatClampNeg), .int x3] M _ _
  refine R_S q102 1 (pc2 := 60) (ls2 := [vr 83, vi x1, vi x2, vi x3, vi x4]) (st2 := [.int x2, .int (M.1 85 x4.toNatClampNeg), .int x3]) rfl ?_
  refine R_icf q102 rfl (decide_eq_false h2) ?_
  show Rm E 102 63 [vr 83, vi x1, vi x2, vi x3, vi x4] [.int x3] M _ _
  refine R_S q102 4 (pc2 := 70) (ls2 := [vr 83, vi x1, vi x2, vi x3, vi x4]) (st2 := [.int x2, .ref 86, .int x4, .int x3]) rfl ?_
  refine R_ial q102 rfl rfl h3 ?_
  show Rm E 102 71 [vr 83, vi x1, vi x2, vi x3, vi x4] [.int (M.1 86 x2.toNatClampNeg), .int x4, .int x3] M _ _
  refine R_icf q102 rfl (decide_eq_false h4) ?_
  show Rm E 102 74 [vr 83, vi x1, vi x2, vi x3, vi x4] [.int x3] M _ _
  refine R_S q102 3 (pc2 := 80) (ls2 := [vr 83, vi x1, vi x2, vi x3, vi x4]) (st2 := [.int x4, .ref 87, .int x3]) rfl ?_
  refine R_ial q102 rfl rfl h5 ?_
  show Rm E 102 81 [vr 83, vi x1, vi x2, vi x3, vi x4] [.int (M.1 87 x4.toNatClampNeg), .int x3] M _ _
  refine R_S q102 5 (pc2 := 45) (ls2 := [vr 83, vi x1, vi x2, vi (x3 + M.1 87 x4.toNatClampNeg), vi (x4 + 1)]) (st2 := []) rfl ?_
  exact k
-- 103 HeavyChainsModel.post(II)I  cuts [0]
theorem q103 : cdOf 103 = some mt103 := rfl
-- call X10_isPost 5+ 11=else
theorem b103_0_0 {E : env} {M : mem} {x1 x2 : Int32} {c1 : Int32} (h0 : Rm E 91 0 [vr 83, vi x1] [] M (some (.int c1)) M) (h1 : ¬ c1 = 0) (h2 : (x2).toInt < 0 ∨ 8 < (x2).toInt) : Rm E 103 0 [vr 83, vi x1, vi x2] [] M (some (.int (-1))) M := by
  refine R_S q103 2 (pc2 := 2) (ls2 := [vr 83, vi x1, vi x2]) (st2 := [.int x1, .ref 83]) rfl ?_
  refine R_call q103 rfl rfl rfl rfl rfl rfl h0 ?_
  show Rm E 103 5 [vr 83, vi x1, vi x2] [.int c1] M _ _
  refine R_ift q103 rfl (decide_eq_true h1) ?_
  show Rm E 103 10 [vr 83, vi x1, vi x2] [] M _ _
  refine R_S q103 1 (pc2 := 11) (ls2 := [vr 83, vi x1, vi x2]) (st2 := [.int x2]) rfl ?_
  refine R_tsd q103 rfl h2 rfl ?_
  show Rm E 103 132 [vr 83, vi x1, vi x2] [] M _ _
  refine R_S q103 1 (pc2 := 133) (ls2 := [vr 83, vi x1, vi x2]) (st2 := [.int (-1)]) rfl ?_
  exact R_ret rfl q103 rfl rfl rfl rfl (stpR_i rfl rfl)
-- call X10_isPost 5+ 11=0
theorem b103_0_1 {E : env} {M : mem} {x1 x2 : Int32} {c1 : Int32} (h0 : Rm E 91 0 [vr 83, vi x1] [] M (some (.int c1)) M) (h1 : ¬ c1 = 0) (h2 : x2 = 0) (h3 : inR x1 30) : Rm E 103 0 [vr 83, vi x1, vi x2] [] M (some (.int (M.1 85 x1.toNatClampNeg))) M := by
  refine R_S q103 2 (pc2 := 2) (ls2 := [vr 83, vi x1, vi x2]) (st2 := [.int x1, .ref 83]) rfl ?_
  refine R_call q103 rfl rfl rfl rfl rfl rfl h0 ?_
  show Rm E 103 5 [vr 83, vi x1, vi x2] [.int c1] M _ _
  refine R_ift q103 rfl (decide_eq_true h1) ?_
  show Rm E 103 10 [vr 83, vi x1, vi x2] [] M _ _
  refine R_S q103 1 (pc2 := 11) (ls2 := [vr 83, vi x1, vi x2]) (st2 := [.int x2]) rfl ?_
  refine R_top h2 ?_
  refine R_S q103 1 (pc2 := 60) (ls2 := [vr 83, vi x1, vi x2]) (st2 := []) rfl ?_
  refine R_S q103 3 (pc2 := 65) (ls2 := [vr 83, vi x1, vi x2]) (st2 := [.int x1, .ref 85]) rfl ?_
  refine R_ial q103 rfl rfl h3 ?_
  show Rm E 103 66 [vr 83, vi x1, vi x2] [.int (M.1 85 x1.toNatClampNeg)] M _ _
  exact R_ret rfl q103 rfl rfl rfl rfl (stpR_i rfl rfl)
-- call X10_isPost 5+ 11=1
theorem b103_0_2 {E : env} {M : mem} {x1 x2 : Int32} {c1 : Int32} (h0 : Rm E 91 0 [vr 83, vi x1] [] M (some (.int c1)) M) (h1 : ¬ c1 = 0) (h2 : x2 = 1) (h3 : inR x1 30) : Rm E 103 0 [vr 83, vi x1, vi x2] [] M (some (.int (M.1 86 x1.toNatClampNeg))) M := by
  refine R_S q103 2 (pc2 := 2) (ls2 := [vr 83, vi x1, vi x2]) (st2 := [.int x1, .ref 83]) rfl ?_
  refine R_call q103 rfl rfl rfl rfl rfl rfl h0 ?_
  show Rm E 103 5 [vr 83, vi x1, vi x2] [.int c1] M _ _
  refine R_ift q103 rfl (decide_eq_true h1) ?_
  show Rm E 103 10 [vr 83, vi x1, vi x2] [] M _ _
  refine R_S q103 1 (pc2 := 11) (ls2 := [vr 83, vi x1, vi x2]) (st2 := [.int x2]) rfl ?_
  refine R_top h2 ?_
  refine R_S q103 1 (pc2 := 67) (ls2 := [vr 83, vi x1, vi x2]) (st2 := []) rfl ?_
  refine R_S q103 3 (pc2 := 72) (ls2 := [vr 83, vi x1, vi x2]) (st2 := [.int x1, .ref 86]) rfl ?_
  refine R_ial q103 rfl rfl h3 ?_
  show Rm E 103 73 [vr 83, vi x1, vi x2] [.int (M.1 86 x1.toNatClampNeg)] M _ _
  exact R_ret rfl q103 rfl rfl rfl rfl (stpR_i rfl rfl)
-- call X10_isPost 5+ 11=2
theorem b103_0_3 {E : env} {M : mem} {x1 x2 : Int32} {c1 : Int32} (h0 : Rm E 91 0 [vr 83, vi x1] [] M (some (.int c1)) M) (h1 : ¬ c1 = 0) (h2 : x2 = 2) (h3 : inR x1 30) : Rm E 103 0 [vr 83, vi x1, vi x2] [] M (some (.int (M.1 87 x1.toNatClampNeg))) M := by
  refine R_S q103 2 (pc2 := 2) (ls2 := [vr 83, vi x1, vi x2]) (st2 := [.int x1, .ref 83]) rfl ?_
  refine R_call q103 rfl rfl rfl rfl rfl rfl h0 ?_
  show Rm E 103 5 [vr 83, vi x1, vi x2] [.int c1] M _ _
  refine R_ift q103 rfl (decide_eq_true h1) ?_
  show Rm E 103 10 [vr 83, vi x1, vi x2] [] M _ _
  refine R_S q103 1 (pc2 := 11) (ls2 := [vr 83, vi x1, vi x2]) (st2 := [.int x2]) rfl ?_
  refine R_top h2 ?_
  refine R_S q103 1 (pc2 := 74) (ls2 := [vr 83, vi x1, vi x2]) (st2 := []) rfl ?_
  refine R_S q103 3 (pc2 := 79) (ls2 := [vr 83, vi x1, vi x2]) (st2 := [.int x1, .ref 87]) rfl ?_
  refine R_ial q103 rfl rfl h3 ?_
  show Rm E 103 80 [vr 83, vi x1, vi x2] [.int (M.1 87 x1.toNatClampNeg)] M _ _
  exact R_ret rfl q103 rfl rfl rfl rfl (stpR_i rfl rfl)
-- call X10_isPost 5+ 11=3
theorem b103_0_4 {E : env} {M : mem} {x1 x2 : Int32} {c1 : Int32} (h0 : Rm E 91 0 [vr 83, vi x1] [] M (some (.int c1)) M) (h1 : ¬ c1 = 0) (h2 : x2 = 3) (h3 : inR x1 30) : Rm E 103 0 [vr 83, vi x1, vi x2] [] M (some (.int (M.1 88 x1.toNatClampNeg))) M := by
  refine R_S q103 2 (pc2 := 2) (ls2 := [vr 83, vi x1, vi x2]) (st2 := [.int x1, .ref 83]) rfl ?_
  refine R_call q103 rfl rfl rfl rfl rfl rfl h0 ?_
  show Rm E 103 5 [vr 83, vi x1, vi x2] [.int c1] M _ _
  refine R_ift q103 rfl (decide_eq_true h1) ?_
  show Rm E 103 10 [vr 83, vi x1, vi x2] [] M _ _
  refine R_S q103 1 (pc2 := 11) (ls2 := [vr 83, vi x1, vi x2]) (st2 := [.int x2]) rfl ?_
  refine R_top h2 ?_
  refine R_S q103 1 (pc2 := 81) (ls2 := [vr 83, vi x1, vi x2]) (st2 := []) rfl ?_
  refine R_S q103 3 (pc2 := 86) (ls2 := [vr 83, vi x1, vi x2]) (st2 := [.int x1, .ref 88]) rfl ?_
  refine R_ial q103 rfl rfl h3 ?_
  show Rm E 103 87 [vr 83, vi x1, vi x2] [.int (M.1 88 x1.toNatClampNeg)] M _ _
  exact R_ret rfl q103 rfl rfl rfl rfl (stpR_i rfl rfl)
-- call X10_isPost 5+ 11=4
theorem b103_0_5 {E : env} {M : mem} {x1 x2 : Int32} {c1 : Int32} (h0 : Rm E 91 0 [vr 83, vi x1] [] M (some (.int c1)) M) (h1 : ¬ c1 = 0) (h2 : x2 = 4) (h3 : inR x1 30) : Rm E 103 0 [vr 83, vi x1, vi x2] [] M (some (.int (M.1 89 x1.toNatClampNeg))) M := by
  refine R_S q103 2 (pc2 := 2) (ls2 := [vr 83, vi x1, vi x2]) (st2 := [.int x1, .ref 83]) rfl ?_
  refine R_call q103 rfl rfl rfl rfl rfl rfl h0 ?_
  show Rm E 103 5 [vr 83, vi x1, vi x2] [.int c1] M _ _
  refine R_ift q103 rfl (decide_eq_true h1) ?_
  show Rm E 103 10 [vr 83, vi x1, vi x2] [] M _ _
  refine R_S q103 1 (pc2 := 11) (ls2 := [vr 83, vi x1, vi x2]) (st2 := [.int x2]) rfl ?_
  refine R_top h2 ?_
  refine R_S q103 1 (pc2 := 88) (ls2 := [vr 83, vi x1, vi x2]) (st2 := []) rfl ?_
  refine R_S q103 3 (pc2 := 93) (ls2 := [vr 83, vi x1, vi x2]) (st2 := [.int x1, .ref 89]) rfl ?_
  refine R_ial q103 rfl rfl h3 ?_
  show Rm E 103 94 [vr 83, vi x1, vi x2] [.int (M.1 89 x1.toNatClampNeg)] M _ _
  exact R_ret rfl q103 rfl rfl rfl rfl (stpR_i rfl rfl)
-- call X10_isPost 5+ 11=5
theorem b103_0_6 {E : env} {M : mem} {x1 x2 : Int32} {c1 : Int32} (h0 : Rm E 91 0 [vr 83, vi x1] [] M (some (.int c1)) M) (h1 : ¬ c1 = 0) (h2 : x2 = 5) (h3 : inR x1 30) : Rm E 103 0 [vr 83, vi x1, vi x2] [] M (some (.int (M.1 90 x1.toNatClampNeg))) M := by
  refine R_S q103 2 (pc2 := 2) (ls2 := [vr 83, vi x1, vi x2]) (st2 := [.int x1, .ref 83]) rfl ?_
  refine R_call q103 rfl rfl rfl rfl rfl rfl h0 ?_
  show Rm E 103 5 [vr 83, vi x1, vi x2] [.int c1] M _ _
  refine R_ift q103 rfl (decide_eq_true h1) ?_
  show Rm E 103 10 [vr 83, vi x1, vi x2] [] M _ _
  refine R_S q103 1 (pc2 := 11) (ls2 := [vr 83, vi x1, vi x2]) (st2 := [.int x2]) rfl ?_
  refine R_top h2 ?_
  refine R_S q103 1 (pc2 := 95) (ls2 := [vr 83, vi x1, vi x2]) (st2 := []) rfl ?_
  refine R_S q103 3 (pc2 := 100) (ls2 := [vr 83, vi x1, vi x2]) (st2 := [.int x1, .ref 90]) rfl ?_
  refine R_ial q103 rfl rfl h3 ?_
  show Rm E 103 101 [vr 83, vi x1, vi x2] [.int (M.1 90 x1.toNatClampNeg)] M _ _
  exact R_ret rfl q103 rfl rfl rfl rfl (stpR_i rfl rfl)
-- call X10_isPost 5+ 11=6
theorem b103_0_7 {E : env} {M : mem} {x1 x2 : Int32} {c1 : Int32} (h0 : Rm E 91 0 [vr 83, vi x1] [] M (some (.int c1)) M) (h1 : ¬ c1 = 0) (h2 : x2 = 6) (h3 : inR x1 90) : Rm E 103 0 [vr 83, vi x1, vi x2] [] M (some (.int (M.1 84 x1.toNatClampNeg + 1000000))) M := by
  refine R_S q103 2 (pc2 := 2) (ls2 := [vr 83, vi x1, vi x2]) (st2 := [.int x1, .ref 83]) rfl ?_
  refine R_call q103 rfl rfl rfl rfl rfl rfl h0 ?_
  show Rm E 103 5 [vr 83, vi x1, vi x2] [.int c1] M _ _
  refine R_ift q103 rfl (decide_eq_true h1) ?_
  show Rm E 103 10 [vr 83, vi x1, vi x2] [] M _ _
  refine R_S q103 1 (pc2 := 11) (ls2 := [vr 83, vi x1, vi x2]) (st2 := [.int x2]) rfl ?_
  refine R_top h2 ?_
  refine R_S q103 1 (pc2 := 102) (ls2 := [vr 83, vi x1, vi x2]) (st2 := []) rfl ?_
  refine R_S q103 3 (pc2 := 107) (ls2 := [vr 83, vi x1, vi x2]) (st2 := [.int x1, .ref 84]) rfl ?_
  refine R_ial q103 rfl rfl h3 ?_
  show Rm E 103 108 [vr 83, vi x1, vi x2] [.int (M.1 84 x1.toNatClampNeg)] M _ _
  refine R_S q103 2 (pc2 := 111) (ls2 := [vr 83, vi x1, vi x2]) (st2 := [.int (M.1 84 x1.toNatClampNeg + 1000000)]) rfl ?_
  exact R_ret rfl q103 rfl rfl rfl rfl (stpR_i rfl rfl)
-- call X10_isPost 5+ 11=7
theorem b103_0_8 {E : env} {M : mem} {x1 x2 : Int32} {c1 : Int32} (h0 : Rm E 91 0 [vr 83, vi x1] [] M (some (.int c1)) M) (h1 : ¬ c1 = 0) (h2 : x2 = 7) (h3 : inR (30 + x1) 90) : Rm E 103 0 [vr 83, vi x1, vi x2] [] M (some (.int (M.1 84 (30 + x1).toNatClampNeg))) M := by
  refine R_S q103 2 (pc2 := 2) (ls2 := [vr 83, vi x1, vi x2]) (st2 := [.int x1, .ref 83]) rfl ?_
  refine R_call q103 rfl rfl rfl rfl rfl rfl h0 ?_
  show Rm E 103 5 [vr 83, vi x1, vi x2] [.int c1] M _ _
  refine R_ift q103 rfl (decide_eq_true h1) ?_
  show Rm E 103 10 [vr 83, vi x1, vi x2] [] M _ _
  refine R_S q103 1 (pc2 := 11) (ls2 := [vr 83, vi x1, vi x2]) (st2 := [.int x2]) rfl ?_
  refine R_top h2 ?_
  refine R_S q103 1 (pc2 := 112) (ls2 := [vr 83, vi x1, vi x2]) (st2 := []) rfl ?_
  refine R_S q103 5 (pc2 := 120) (ls2 := [vr 83, vi x1, vi x2]) (st2 := [.int (30 + x1), .ref 84]) rfl ?_
  refine R_ial q103 rfl rfl h3 ?_
  show Rm E 103 121 [vr 83, vi x1, vi x2] [.int (M.1 84 (30 + x1).toNatClampNeg)] M _ _
  exact R_ret rfl q103 rfl rfl rfl rfl (stpR_i rfl rfl)
-- call X10_isPost 5+ 11=8
theorem b103_0_9 {E : env} {M : mem} {x1 x2 : Int32} {c1 : Int32} (h0 : Rm E 91 0 [vr 83, vi x1] [] M (some (.int c1)) M) (h1 : ¬ c1 = 0) (h2 : x2 = 8) (h3 : inR (60 + x1) 90) : Rm E 103 0 [vr 83, vi x1, vi x2] [] M (some (.int (M.1 84 (60 + x1).toNatClampNeg))) M := by
  refine R_S q103 2 (pc2 := 2) (ls2 := [vr 83, vi x1, vi x2]) (st2 := [.int x1, .ref 83]) rfl ?_
  refine R_call q103 rfl rfl rfl rfl rfl rfl h0 ?_
  show Rm E 103 5 [vr 83, vi x1, vi x2] [.int c1] M _ _
  refine R_ift q103 rfl (decide_eq_true h1) ?_
  show Rm E 103 10 [vr 83, vi x1, vi x2] [] M _ _
  refine R_S q103 1 (pc2 := 11) (ls2 := [vr 83, vi x1, vi x2]) (st2 := [.int x2]) rfl ?_
  refine R_top h2 ?_
  refine R_S q103 1 (pc2 := 122) (ls2 := [vr 83, vi x1, vi x2]) (st2 := []) rfl ?_
  refine R_S q103 5 (pc2 := 130) (ls2 := [vr 83, vi x1, vi x2]) (st2 := [.int (60 + x1), .ref 84]) rfl ?_
  refine R_ial q103 rfl rfl h3 ?_
  show Rm E 103 131 [vr 83, vi x1, vi x2] [.int (M.1 84 (60 + x1).toNatClampNeg)] M _ _
  exact R_ret rfl q103 rfl rfl rfl rfl (stpR_i rfl rfl)
-- call X10_isPost 5-
theorem b103_0_10 {E : env} {M : mem} {x1 x2 : Int32} {c1 : Int32} (h0 : Rm E 91 0 [vr 83, vi x1] [] M (some (.int c1)) M) (h1 : ¬ (¬ c1 = 0)) : Rm E 103 0 [vr 83, vi x1, vi x2] [] M (some (.int (-1))) M := by
  refine R_S q103 2 (pc2 := 2) (ls2 := [vr 83, vi x1, vi x2]) (st2 := [.int x1, .ref 83]) rfl ?_
  refine R_call q103 rfl rfl rfl rfl rfl rfl h0 ?_
  show Rm E 103 5 [vr 83, vi x1, vi x2] [.int c1] M _ _
  refine R_iff q103 rfl (decide_eq_false h1) ?_
  show Rm E 103 8 [vr 83, vi x1, vi x2] [] M _ _
  refine R_S q103 1 (pc2 := 9) (ls2 := [vr 83, vi x1, vi x2]) (st2 := [.int (-1)]) rfl ?_
  exact R_ret rfl q103 rfl rfl rfl rfl (stpR_i rfl rfl)
-- 104 HeavyChainsModel.at(I)I  cuts [0]
theorem q104 : cdOf 104 = some mt104 := rfl
-- call X10_isPost 5+
theorem b104_0_0 {E : env} {M : mem} {x1 : Int32} {c1 : Int32} (h0 : Rm E 91 0 [vr 83, vi x1] [] M (some (.int c1)) M) (h1 : c1 = 0) : Rm E 104 0 [vr 83, vi x1] [] M (some (.int (-1))) M := by
  refine R_S q104 2 (pc2 := 2) (ls2 := [vr 83, vi x1]) (st2 := [.int x1, .ref 83]) rfl ?_
  refine R_call q104 rfl rfl rfl rfl rfl rfl h0 ?_
  show Rm E 104 5 [vr 83, vi x1] [.int c1] M _ _
  refine R_ift q104 rfl (decide_eq_true h1) ?_
  show Rm E 104 17 [vr 83, vi x1] [] M _ _
  refine R_S q104 1 (pc2 := 18) (ls2 := [vr 83, vi x1]) (st2 := [.int (-1)]) rfl ?_
  exact R_ret rfl q104 rfl rfl rfl rfl (stpR_i rfl rfl)
-- call X10_isPost 5-
theorem b104_0_1 {E : env} {M : mem} {x1 : Int32} {c1 : Int32} (h0 : Rm E 91 0 [vr 83, vi x1] [] M (some (.int c1)) M) (h1 : ¬ (c1 = 0)) (h2 : inR x1 30) : Rm E 104 0 [vr 83, vi x1] [] M (some (.int (M.1 91 x1.toNatClampNeg))) M := by
  refine R_S q104 2 (pc2 := 2) (ls2 := [vr 83, vi x1]) (st2 := [.int x1, .ref 83]) rfl ?_
  refine R_call q104 rfl rfl rfl rfl rfl rfl h0 ?_
  show Rm E 104 5 [vr 83, vi x1] [.int c1] M _ _
  refine R_iff q104 rfl (decide_eq_false h1) ?_
  show Rm E 104 8 [vr 83, vi x1] [] M _ _
  refine R_S q104 3 (pc2 := 13) (ls2 := [vr 83, vi x1]) (st2 := [.int x1, .ref 91]) rfl ?_
  refine R_ial q104 rfl rfl h2 ?_
  show Rm E 104 14 [vr 83, vi x1] [.int (M.1 91 x1.toNatClampNeg)] M _ _
  refine R_S q104 1 (pc2 := 18) (ls2 := [vr 83, vi x1]) (st2 := [.int (M.1 91 x1.toNatClampNeg)]) rfl ?_
  exact R_ret rfl q104 rfl rfl rfl rfl (stpR_i rfl rfl)
-- 105 HeavyChainsModel.lays(II)V  cuts [0, 5, 122, 189]
theorem q105 : cdOf 105 = some mt105 := rfl
-- 
theorem b105_0_0 {E : env} {M : mem} {rv : Option Value} {M2 : mem} {x1 x2 : Int32}  (k : Rm E 105 5 [vr 83, vi x1, vi x2, vi x1, vi x2, vn, vn] [] M rv M2) : Rm E 105 0 [vr 83, vi x1, vi x2, vn, vn, vn, vn] [] M rv M2 := by
  refine R_S q105 4 (pc2 := 5) (ls2 := [vr 83, vi x1, vi x2, vi x1, vi x2, vn, vn]) (st2 := []) rfl ?_
  exact k
-- 8+
theorem b105_5_0 {E : env} {M : mem} {rv : Option Value} {M2 : mem} {x1 x2 x3 x4 : Int32} {N1 : mem} {N2 : mem} (h0 : x3 = x4) (eN1 : N1 = upM M 83 15 x3) (h1 : inR x1 30) (h2 : inR (N1.1 83 15) 30) (h3 : inR x2 30) (h4 : inR (N1.1 83 15) 30) (eN2 : N2 = upM N1 83 14 ((((N1.1 90 x1.toNatClampNeg - N1.1 90 (N1.1 83 15).toNatClampNeg) + N1.1 90 x2.toNatClampNeg) - N1.1 90 (N1.1 83 15).toNatClampNeg) + 1)) (k : Rm E 105 122 [vr 83, vi x1, vi x2, vn, vn, vi x1, vi 0] [] N2 rv M2) : Rm E 105 5 [vr 83, vi x1, vi x2, vi x3, vi x4, vn, vn] [] M rv M2 := by
  refine R_S q105 2 (pc2 := 8) (ls2 := [vr 83, vi x1, vi x2, vi x3, vi x4, vn, vn]) (st2 := [.int x4, .int x3]) rfl ?_
  refine R_ict q105 rfl (decide_eq_true h0) ?_
  show Rm E 105 72 [vr 83, vi x1, vi x2, vi x3, vi x4, vn, vn] [] M _ _
  refine R_S q105 2 (pc2 := 74) (ls2 := [vr 83, vi x1, vi x2, vi x3, vi x4, vn, vn]) (st2 := [.int x3, .ref 83]) rfl ?_
  refine R_pf q105 rfl rfl rfl rfl rfl eN1 ?_
  show Rm E 105 77 [vr 83, vi x1, vi x2, vi x3, vi x4, vn, vn] [] N1 _ _
  refine R_S q105 4 (pc2 := 83) (ls2 := [vr 83, vi x1, vi x2, vi x3, vi x4, vn, vn]) (st2 := [.int x1, .ref 90, .ref 83]) rfl ?_
  refine R_ial q105 rfl rfl h1 ?_
  show Rm E 105 84 [vr 83, vi x1, vi x2, vi x3, vi x4, vn, vn] [.int (N1.1 90 x1.toNatClampNeg), .ref 83] N1 _ _
  refine R_S q105 4 (pc2 := 92) (ls2 := [vr 83, vi x1, vi x2, vi x3, vi x4, vn, vn]) (st2 := [.int (N1.1 83 15), .ref 90, .int (N1.1 90 x1.toNatClampNeg), .ref 83]) rfl ?_
  refine R_ial q105 rfl rfl h2 ?_
  show Rm E 105 93 [vr 83, vi x1, vi x2, vi x3, vi x4, vn, vn] [.int (N1.1 90 (N1.1 83 15).toNatClampNeg), .int (N1.1 90 x1.toNatClampNeg), .ref 83] N1 _ _
  refine R_S q105 4 (pc2 := 99) (ls2 := [vr 83, vi x1, vi x2, vi x3, vi x4, vn, vn]) (st2 := [.int x2, .ref 90, .int (N1.1 90 x1.toNatClampNeg - N1.1 90 (N1.1 83 15).toNatClampNeg), .ref 83]) rfl ?_
  refine R_ial q105 rfl rfl h3 ?_
  show Rm E 105 100 [vr 83, vi x1, vi x2, vi x3, vi x4, vn, vn] [.int (N1.1 90 x2.toNatClampNeg), .int (N1.1 90 x1.toNatClampNeg - N1.1 90 (N1.1 83 15).toNatClampNeg), .ref 83] N1 _ _
  refine R_S q105 5 (pc2 := 109) (ls2 := [vr 83, vi x1, vi x2, vi x3, vi x4, vn, vn]) (st2 := [.int (N1.1 83 15), .ref 90, .int ((N1.1 90 x1.toNatClampNeg - N1.1 90 (N1.1 83 15).toNatClampNeg) + N1.1 90 x2.toNatClampNeg), .ref 83]) rfl ?_
  refine R_ial q105 rfl rfl h4 ?_
  show Rm E 105 110 [vr 83, vi x1, vi x2, vi x3, vi x4, vn, vn] [.int (N1.1 90 (N1.1 83 15).toNatClampNeg), .int ((N1.1 90 x1.toNatClampNeg - N1.1 90 (N1.1 83 15).toNatClampNeg) + N1.1 90 x2.toNatClampNeg), .ref 83] N1 _ _
  refine R_S q105 3 (pc2 := 113) (ls2 := [vr 83, vi x1, vi x2, vi x3, vi x4, vn, vn]) (st2 := [.int ((((N1.1 90 x1.toNatClampNeg - N1.1 90 (N1.1 83 15).toNatClampNeg) + N1.1 90 x2.toNatClampNeg) - N1.1 90 (N1.1 83 15).toNatClampNeg) + 1), .ref 83]) rfl ?_
  refine R_pf q105 rfl rfl rfl rfl rfl eN2 ?_
  show Rm E 105 116 [vr 83, vi x1, vi x2, vi x3, vi x4, vn, vn] [] N2 _ _
  refine R_S q105 4 (pc2 := 122) (ls2 := [vr 83, vi x1, vi x2, vi x3, vi x4, vi x1, vi 0]) (st2 := []) rfl ?_
  exact R_w (ls := [vr 83, vi x1, vi x2, vn, vn, vi x1, vi 0]) (show lsle _ _ from ⟨rfl, ⟨rfl, ⟨rfl, ⟨rfl, ⟨rfl, trivial⟩⟩⟩⟩⟩) k
-- 8- 24+ 41+
theorem b105_5_1 {E : env} {M : mem} {rv : Option Value} {M2 : mem} {x1 x2 x3 x4 : Int32}  (h0 : ¬ (x3 = x4)) (h1 : inR x3 30) (h2 : inR x4 30) (h3 : M.1 90 x3.toNatClampNeg < M.1 90 x4.toNatClampNeg) (h4 : x3 = x4) (k : Rm E 105 5 [vr 83, vi x1, vi x2, vi x3, vi x4, vn, vn] [] M rv M2) : Rm E 105 5 [vr 83, vi x1, vi x2, vi x3, vi x4, vn, vn] [] M rv M2 := by
  refine R_S q105 2 (pc2 := 8) (ls2 := [vr 83, vi x1, vi x2, vi x3, vi x4, vn, vn]) (st2 := [.int x4, .int x3]) rfl ?_
  refine R_icf q105 rfl (decide_eq_false h0) ?_
  show Rm E 105 11 [vr 83, vi x1, vi x2, vi x3, vi x4, vn, vn] [] M _ _
  refine R_S q105 3 (pc2 := 16) (ls2 := [vr 83, vi x1, vi x2, vi x3, vi x4, vn, vn]) (st2 := [.int x3, .ref 90]) rfl ?_
  refine R_ial q105 rfl rfl h1 ?_
  show Rm E 105 17 [vr 83, vi x1, vi x2, vi x3, vi x4, vn, vn] [.int (M.1 90 x3.toNatClampNeg)] M _ _
  refine R_S q105 3 (pc2 := 23) (ls2 := [vr 83, vi x1, vi x2, vi x3, vi x4, vn, vn]) (st2 := [.int x4, .ref 90, .int (M.1 90 x3.toNatClampNeg)]) rfl ?_
  refine R_ial q105 rfl rfl h2 ?_
  show Rm E 105 24 [vr 83, vi x1, vi x2, vi x3, vi x4, vn, vn] [.int (M.1 90 x4.toNatClampNeg), .int (M.1 90 x3.toNatClampNeg)] M _ _
  refine R_ict q105 rfl (decide_eq_true h3) ?_
  show Rm E 105 36 [vr 83, vi x1, vi x2, vi x3, vi x4, vn, vn] [] M _ _
  refine R_S q105 4 (pc2 := 41) (ls2 := [vr 83, vi x1, vi x2, vi x3, vi x4, vn, vn]) (st2 := [.int x4, .int x3]) rfl ?_
  refine R_ict q105 rfl (decide_eq_true h4) ?_
  show Rm E 105 5 [vr 83, vi x1, vi x2, vi x3, vi x4, vn, vn] [] M _ _
  exact k
-- 8- 24+ 41- 57+
theorem b105_5_2 {E : env} {M : mem} {rv : Option Value} {M2 : mem} {x1 x2 x3 x4 : Int32}  (h0 : ¬ (x3 = x4)) (h1 : inR x3 30) (h2 : inR x4 30) (h3 : M.1 90 x3.toNatClampNeg < M.1 90 x4.toNatClampNeg) (h4 : ¬ (x3 = x4)) (h5 : inR x4 30) (h6 : inR x3 30) (h7 : M.1 90 x4.toNatClampNeg ≤ M.1 90 x3.toNatClampNeg) (k : Rm E 105 5 [vr 83, vi x1, vi x2, vi x3, vi x4, vn, vn] [] M rv M2) : Rm E 105 5 [vr 83, vi x1, vi x2, vi x3, vi x4, vn, vn] [] M rv M2 := by
  refine R_S q105 2 (pc2 := 8) (ls2 := [vr 83, vi x1, vi x2, vi x3, vi x4, vn, vn]) (st2 := [.int x4, .int x3]) rfl ?_
  refine R_icf q105 rfl (decide_eq_false h0) ?_
  show Rm E 105 11 [vr 83, vi x1, vi x2, vi x3, vi x4, vn, vn] [] M _ _
  refine R_S q105 3 (pc2 := 16) (ls2 := [vr 83, vi x1, vi x2, vi x3, vi x4, vn, vn]) (st2 := [.int x3, .ref 90]) rfl ?_
  refine R_ial q105 rfl rfl h1 ?_
  show Rm E 105 17 [vr 83, vi x1, vi x2, vi x3, vi x4, vn, vn] [.int (M.1 90 x3.toNatClampNeg)] M _ _
  refine R_S q105 3 (pc2 := 23) (ls2 := [vr 83, vi x1, vi x2, vi x3, vi x4, vn, vn]) (st2 := [.int x4, .ref 90, .int (M.1 90 x3.toNatClampNeg)]) rfl ?_
  refine R_ial q105 rfl rfl h2 ?_
  show Rm E 105 24 [vr 83, vi x1, vi x2, vi x3, vi x4, vn, vn] [.int (M.1 90 x4.toNatClampNeg), .int (M.1 90 x3.toNatClampNeg)] M _ _
  refine R_ict q105 rfl (decide_eq_true h3) ?_
  show Rm E 105 36 [vr 83, vi x1, vi x2, vi x3, vi x4, vn, vn] [] M _ _
  refine R_S q105 4 (pc2 := 41) (ls2 := [vr 83, vi x1, vi x2, vi x3, vi x4, vn, vn]) (st2 := [.int x4, .int x3]) rfl ?_
  refine R_icf q105 rfl (decide_eq_false h4) ?_
  show Rm E 105 44 [vr 83, vi x1, vi x2, vi x3, vi x4, vn, vn] [] M _ _
  refine R_S q105 3 (pc2 := 50) (ls2 := [vr 83, vi x1, vi x2, vi x3, vi x4, vn, vn]) (st2 := [.int x4, .ref 90]) rfl ?_
  refine R_ial q105 rfl rfl h5 ?_
  show Rm E 105 51 [vr 83, vi x1, vi x2, vi x3, vi x4, vn, vn] [.int (M.1 90 x4.toNatClampNeg)] M _ _
  refine R_S q105 3 (pc2 := 56) (ls2 := [vr 83, vi x1, vi x2, vi x3, vi x4, vn, vn]) (st2 := [.int x3, .ref 90, .int (M.1 90 x4.toNatClampNeg)]) rfl ?_
  refine R_ial q105 rfl rfl h6 ?_
  show Rm E 105 57 [vr 83, vi x1, vi x2, vi x3, vi x4, vn, vn] [.int (M.1 90 x3.toNatClampNeg), .int (M.1 90 x4.toNatClampNeg)] M _ _
  refine R_ict q105 rfl (decide_eq_true h7) ?_
  show Rm E 105 5 [vr 83, vi x1, vi x2, vi x3, vi x4, vn, vn] [] M _ _
  exact k
-- 8- 24+ 41- 57-
theorem b105_5_3 {E : env} {M : mem} {rv : Option Value} {M2 : mem} {x1 x2 x3 x4 : Int32}  (h0 : ¬ (x3 = x4)) (h1 : inR x3 30) (h2 : inR x4 30) (h3 : M.1 90 x3.toNatClampNeg < M.1 90 x4.toNatClampNeg) (h4 : ¬ (x3 = x4)) (h5 : inR x4 30) (h6 : inR x3 30) (h7 : ¬ (M.1 90 x4.toNatClampNeg ≤ M.1 90 x3.toNatClampNeg)) (h8 : inR x4 30) (k : Rm E 105 5 [vr 83, vi x1, vi x2, vi x3, vi (M.1 85 x4.toNatClampNeg), vn, vn] [] M rv M2) : Rm E 105 5 [vr 83, vi x1, vi x2, vi x3, vi x4, vn, vn] [] M rv M2 := by
  refine R_S q105 2 (pc2 := 8) (ls2 := [vr 83, vi x1, vi x2, vi x3, vi x4, vn, vn]) (st2 := [.int x4, .int x3]) rfl ?_
  refine R_icf q105 rfl (decide_eq_false h0) ?_
  show Rm E 105 11 [vr 83, vi x1, vi x2, vi x3, vi x4, vn, vn] [] M _ _
  refine R_S q105 3 (pc2 := 16) (ls2 := [vr 83, vi x1, vi x2, vi x3, vi x4, vn, vn]) (st2 := [.int x3, .ref 90]) rfl ?_
  refine R_ial q105 rfl rfl h1 ?_
  show Rm E 105 17 [vr 83, vi x1, vi x2, vi x3, vi x4, vn, vn] [.int (M.1 90 x3.toNatClampNeg)] M _ _
  refine R_S q105 3 (pc2 := 23) (ls2 := [vr 83, vi x1, vi x2, vi x3, vi x4, vn, vn]) (st2 := [.int x4, .ref 90, .int (M.1 90 x3.toNatClampNeg)]) rfl ?_
  refine R_ial q105 rfl rfl h2 ?_
  show Rm E 105 24 [vr 83, vi x1, vi x2, vi x3, vi x4, vn, vn] [.int (M.1 90 x4.toNatClampNeg), .int (M.1 90 x3.toNatClampNeg)] M _ _
  refine R_ict q105 rfl (decide_eq_true h3) ?_
  show Rm E 105 36 [vr 83, vi x1, vi x2, vi x3, vi x4, vn, vn] [] M _ _
  refine R_S q105 4 (pc2 := 41) (ls2 := [vr 83, vi x1, vi x2, vi x3, vi x4, vn, vn]) (st2 := [.int x4, .int x3]) rfl ?_
  refine R_icf q105 rfl (decide_eq_false h4) ?_
  show Rm E 105 44 [vr 83, vi x1, vi x2, vi x3, vi x4, vn, vn] [] M _ _
  refine R_S q105 3 (pc2 := 50) (ls2 := [vr 83, vi x1, vi x2, vi x3, vi x4, vn, vn]) (st2 := [.int x4, .ref 90]) rfl ?_
  refine R_ial q105 rfl rfl h5 ?_
  show Rm E 105 51 [vr 83, vi x1, vi x2, vi x3, vi x4, vn, vn] [.int (M.1 90 x4.toNatClampNeg)] M _ _
  refine R_S q105 3 (pc2 := 56) (ls2 := [vr 83, vi x1, vi x2, vi x3, vi x4, vn, vn]) (st2 := [.int x3, .ref 90, .int (M.1 90 x4.toNatClampNeg)]) rfl ?_
  refine R_ial q105 rfl rfl h6 ?_
  show Rm E 105 57 [vr 83, vi x1, vi x2, vi x3, vi x4, vn, vn] [.int (M.1 90 x3.toNatClampNeg), .int (M.1 90 x4.toNatClampNeg)] M _ _
  refine R_icf q105 rfl (decide_eq_false h7) ?_
  show Rm E 105 60 [vr 83, vi x1, vi x2, vi x3, vi x4, vn, vn] [] M _ _
  refine R_S q105 3 (pc2 := 66) (ls2 := [vr 83, vi x1, vi x2, vi x3, vi x4, vn, vn]) (st2 := [.int x4, .ref 85]) rfl ?_
  refine R_ial q105 rfl rfl h8 ?_
  show Rm E 105 67 [vr 83, vi x1, vi x2, vi x3, vi x4, vn, vn] [.int (M.1 85 x4.toNatClampNeg)] M _ _
  refine R_S q105 2 (pc2 := 5) (ls2 := [vr 83, vi x1, vi x2, vi x3, vi (M.1 85 x4.toNatClampNeg), vn, vn]) (st2 := []) rfl ?_
  exact k
-- 8- 24- 41+
theorem b105_5_4 {E : env} {M : mem} {rv : Option Value} {M2 : mem} {x1 x2 x3 x4 : Int32}  (h0 : ¬ (x3 = x4)) (h1 : inR x3 30) (h2 : inR x4 30) (h3 : ¬ (M.1 90 x3.toNatClampNeg < M.1 90 x4.toNatClampNeg)) (h4 : inR x3 30) (h5 : M.1 85 x3.toNatClampNeg = x4) (k : Rm E 105 5 [vr 83, vi x1, vi x2, vi (M.1 85 x3.toNatClampNeg), vi x4, vn, vn] [] M rv M2) : Rm E 105 5 [vr 83, vi x1, vi x2, vi x3, vi x4, vn, vn] [] M rv M2 := by
  refine R_S q105 2 (pc2 := 8) (ls2 := [vr 83, vi x1, vi x2, vi x3, vi x4, vn, vn]) (st2 := [.int x4, .int x3]) rfl ?_
  refine R_icf q105 rfl (decide_eq_false h0) ?_
  show Rm E 105 11 [vr 83, vi x1, vi x2, vi x3, vi x4, vn, vn] [] M _ _
  refine R_S q105 3 (pc2 := 16) (ls2 := [vr 83, vi x1, vi x2, vi x3, vi x4, vn, vn]) (st2 := [.int x3, .ref 90]) rfl ?_
  refine R_ial q105 rfl rfl h1 ?_
  show Rm E 105 17 [vr 83, vi x1, vi x2, vi x3, vi x4, vn, vn] [.int (M.1 90 x3.toNatClampNeg)] M _ _
  refine R_S q105 3 (pc2 := 23) (ls2 := [vr 83, vi x1, vi x2, vi x3, vi x4, vn, vn]) (st2 := [.int x4, .ref 90, .int (M.1 90 x3.toNatClampNeg)]) rfl ?_
  refine R_ial q105 rfl rfl h2 ?_
  show Rm E 105 24 [vr 83, vi x1, vi x2, vi x3, vi x4, vn, vn] [.int (M.1 90 x4.toNatClampNeg), .int (M.1 90 x3.toNatClampNeg)] M _ _
  refine R_icf q105 rfl (decide_eq_false h3) ?_
  show Rm E 105 27 [vr 83, vi x1, vi x2, vi x3, vi x4, vn, vn] [] M _ _
  refine R_S q105 3 (pc2 := 32) (ls2 := [vr 83, vi x1, vi x2, vi x3, vi x4, vn, vn]) (st2 := [.int x3, .ref 85]) rfl ?_
  refine R_ial q105 rfl rfl h4 ?_
  show Rm E 105 33 [vr 83, vi x1, vi x2, vi x3, vi x4, vn, vn] [.int (M.1 85 x3.toNatClampNeg)] M _ _
  refine R_S q105 4 (pc2 := 41) (ls2 := [vr 83, vi x1, vi x2, vi (M.1 85 x3.toNatClampNeg), vi x4, vn, vn]) (st2 := [.int x4, .int (M.1 85 x3.toNatClampNeg)]) rfl ?_
  refine R_ict q105 rfl (decide_eq_true h5) ?_
  show Rm E 105 5 [vr 83, vi x1, vi x2, vi (M.1 85 x3.toNatClampNeg), vi x4, vn, vn] [] M _ _
  exact k
-- 8- 24- 41- 57+
theorem b105_5_5 {E : env} {M : mem} {rv : Option Value} {M2 : mem} {x1 x2 x3 x4 : Int32}  (h0 : ¬ (x3 = x4)) (h1 : inR x3 30) (h2 : inR x4 30) (h3 : ¬ (M.1 90 x3.toNatClampNeg < M.1 90 x4.toNatClampNeg)) (h4 : inR x3 30) (h5 : ¬ (M.1 85 x3.toNatClampNeg = x4)) (h6 : inR x4 30) (h7 : inR (M.1 85 x3.toNatClampNeg) 30) (h8 : M.1 90 x4.toNatClampNeg ≤ M.1 90 (M.1 85 x3.toNatClampNeg).toNatClampNeg) (k : Rm E 105 5 [vr 83, vi x1, vi x2, vi (M.1 85 x3.toNatClampNeg), vi x4, vn, vn] [] M rv M2) : Rm E 105 5 [vr 83, vi x1, vi x2, vi x3, vi x4, vn, vn] [] M rv M2 := by
  refine R_S q105 2 (pc2 := 8) (ls2 := [vr 83, vi x1, vi x2, vi x3, vi x4, vn, vn]) (st2 := [.int x4, .int x3]) rfl ?_
  refine R_icf q105 rfl (decide_eq_false h0) ?_
  show Rm E 105 11 [vr 83, vi x1, vi x2, vi x3, vi x4, vn, vn] [] M _ _
  refine R_S q105 3 (pc2 := 16) (ls2 := [vr 83, vi x1, vi x2, vi x3, vi x4, vn, vn]) (st2 := [.int x3, .ref 90]) rfl ?_
  refine R_ial q105 rfl rfl h1 ?_
  show Rm E 105 17 [vr 83, vi x1, vi x2, vi x3, vi x4, vn, vn] [.int (M.1 90 x3.toNatClampNeg)] M _ _
  refine R_S q105 3 (pc2 := 23) (ls2 := [vr 83, vi x1, vi x2, vi x3, vi x4, vn, vn]) (st2 := [.int x4, .ref 90, .int (M.1 90 x3.toNatClampNeg)]) rfl ?_
  refine R_ial q105 rfl rfl h2 ?_
  show Rm E 105 24 [vr 83, vi x1, vi x2, vi x3, vi x4, vn, vn] [.int (M.1 90 x4.toNatClampNeg), .int (M.1 90 x3.toNatClampNeg)] M _ _
  refine R_icf q105 rfl (decide_eq_false h3) ?_
  show Rm E 105 27 [vr 83, vi x1, vi x2, vi x3, vi x4, vn, vn] [] M _ _
  refine R_S q105 3 (pc2 := 32) (ls2 := [vr 83, vi x1, vi x2, vi x3, vi x4, vn, vn]) (st2 := [.int x3, .ref 85]) rfl ?_
  refine R_ial q105 rfl rfl h4 ?_
  show Rm E 105 33 [vr 83, vi x1, vi x2, vi x3, vi x4, vn, vn] [.int (M.1 85 x3.toNatClampNeg)] M _ _
  refine R_S q105 4 (pc2 := 41) (ls2 := [vr 83, vi x1, vi x2, vi (M.1 85 x3.toNatClampNeg), vi x4, vn, vn]) (st2 := [.int x4, .int (M.1 85 x3.toNatClampNeg)]) rfl ?_
  refine R_icf q105 rfl (decide_eq_false h5) ?_
  show Rm E 105 44 [vr 83, vi x1, vi x2, vi (M.1 85 x3.toNatClampNeg), vi x4, vn, vn] [] M _ _
  refine R_S q105 3 (pc2 := 50) (ls2 := [vr 83, vi x1, vi x2, vi (M.1 85 x3.toNatClampNeg), vi x4, vn, vn]) (st2 := [.int x4, .ref 90]) rfl ?_
  refine R_ial q105 rfl rfl h6 ?_
  show Rm E 105 51 [vr 83, vi x1, vi x2, vi (M.1 85 x3.toNatClampNeg), vi x4, vn, vn] [.int (M.1 90 x4.toNatClampNeg)] M _ _
  refine R_S q105 3 (pc2 := 56) (ls2 := [vr 83, vi x1, vi x2, vi (M.1 85 x3.toNatClampNeg), vi x4, vn, vn]) (st2 := [.int (M.1 85 x3.toNatClampNeg), .ref 90, .int (M.1 90 x4.toNatClampNeg)]) rfl ?_
  refine R_ial q105 rfl rfl h7 ?_
  show Rm E 105 57 [vr 83, vi x1, vi x2, vi (M.1 85 x3.toNatClampNeg), vi x4, vn, vn] [.int (M.1 90 (M.1 85 x3.toNatClampNeg).toNatClampNeg), .int (M.1 90 x4.toNatClampNeg)] M _ _
  refine R_ict q105 rfl (decide_eq_true h8) ?_
  show Rm E 105 5 [vr 83, vi x1, vi x2, vi (M.1 85 x3.toNatClampNeg), vi x4, vn, vn] [] M _ _
  exact k
-- 8- 24- 41- 57-
theorem b105_5_6 {E : env} {M : mem} {rv : Option Value} {M2 : mem} {x1 x2 x3 x4 : Int32}  (h0 : ¬ (x3 = x4)) (h1 : inR x3 30) (h2 : inR x4 30) (h3 : ¬ (M.1 90 x3.toNatClampNeg < M.1 90 x4.toNatClampNeg)) (h4 : inR x3 30) (h5 : ¬ (M.1 85 x3.toNatClampNeg = x4)) (h6 : inR x4 30) (h7 : inR (M.1 85 x3.toNatClampNeg) 30) (h8 : ¬ (M.1 90 x4.toNatClampNeg ≤ M.1 90 (M.1 85 x3.toNatClampNeg).toNatClampNeg)) (h9 : inR x4 30) (k : Rm E 105 5 [vr 83, vi x1, vi x2, vi (M.1 85 x3.toNatClampNeg), vi (M.1 85 x4.toNatClampNeg), vn, vn] [] M rv M2) : Rm E 105 5 [vr 83, vi x1, vi x2, vi x3, vi x4, vn, vn] [] M rv M2 := by
  refine R_S q105 2 (pc2 := 8) (ls2 := [vr 83, vi x1, vi x2, vi x3, vi x4, vn, vn]) (st2 := [.int x4, .int x3]) rfl ?_
  refine R_icf q105 rfl (decide_eq_false h0) ?_
  show Rm E 105 11 [vr 83, vi x1, vi x2, vi x3, vi x4, vn, vn] [] M _ _
  refine R_S q105 3 (pc2 := 16) (ls2 := [vr 83, vi x1, vi x2, vi x3, vi x4, vn, vn]) (st2 := [.int x3, .ref 90]) rfl ?_
  refine R_ial q105 rfl rfl h1 ?_
  show Rm E 105 17 [vr 83, vi x1, vi x2, vi x3, vi x4, vn, vn] [.int (M.1 90 x3.toNatClampNeg)] M _ _
  refine R_S q105 3 (pc2 := 23) (ls2 := [vr 83, vi x1, vi x2, vi x3, vi x4, vn, vn]) (st2 := [.int x4, .ref 90, .int (M.1 90 x3.toNatClampNeg)]) rfl ?_
  refine R_ial q105 rfl rfl h2 ?_
  show Rm E 105 24 [vr 83, vi x1, vi x2, vi x3, vi x4, vn, vn] [.int (M.1 90 x4.toNatClampNeg), .int (M.1 90 x3.toNatClampNeg)] M _ _
  refine R_icf q105 rfl (decide_eq_false h3) ?_
  show Rm E 105 27 [vr 83, vi x1, vi x2, vi x3, vi x4, vn, vn] [] M _ _
  refine R_S q105 3 (pc2 := 32) (ls2 := [vr 83, vi x1, vi x2, vi x3, vi x4, vn, vn]) (st2 := [.int x3, .ref 85]) rfl ?_
  refine R_ial q105 rfl rfl h4 ?_
  show Rm E 105 33 [vr 83, vi x1, vi x2, vi x3, vi x4, vn, vn] [.int (M.1 85 x3.toNatClampNeg)] M _ _
  refine R_S q105 4 (pc2 := 41) (ls2 := [vr 83, vi x1, vi x2, vi (M.1 85 x3.toNatClampNeg), vi x4, vn, vn]) (st2 := [.int x4, .int (M.1 85 x3.toNatClampNeg)]) rfl ?_
  refine R_icf q105 rfl (decide_eq_false h5) ?_
  show Rm E 105 44 [vr 83, vi x1, vi x2, vi (M.1 85 x3.toNatClampNeg), vi x4, vn, vn] [] M _ _
  refine R_S q105 3 (pc2 := 50) (ls2 := [vr 83, vi x1, vi x2, vi (M.1 85 x3.toNatClampNeg), vi x4, vn, vn]) (st2 := [.int x4, .ref 90]) rfl ?_
  refine R_ial q105 rfl rfl h6 ?_
  show Rm E 105 51 [vr 83, vi x1, vi x2, vi (M.1 85 x3.toNatClampNeg), vi x4, vn, vn] [.int (M.1 90 x4.toNatClampNeg)] M _ _
  refine R_S q105 3 (pc2 := 56) (ls2 := [vr 83, vi x1, vi x2, vi (M.1 85 x3.toNatClampNeg), vi x4, vn, vn]) (st2 := [.int (M.1 85 x3.toNatClampNeg), .ref 90, .int (M.1 90 x4.toNatClampNeg)]) rfl ?_
  refine R_ial q105 rfl rfl h7 ?_
  show Rm E 105 57 [vr 83, vi x1, vi x2, vi (M.1 85 x3.toNatClampNeg), vi x4, vn, vn] [.int (M.1 90 (M.1 85 x3.toNatClampNeg).toNatClampNeg), .int (M.1 90 x4.toNatClampNeg)] M _ _
  refine R_icf q105 rfl (decide_eq_false h8) ?_
  show Rm E 105 60 [vr 83, vi x1, vi x2, vi (M.1 85 x3.toNatClampNeg), vi x4, vn, vn] [] M _ _
  refine R_S q105 3 (pc2 := 66) (ls2 := [vr 83, vi x1, vi x2, vi (M.1 85 x3.toNatClampNeg), vi x4, vn, vn]) (st2 := [.int x4, .ref 85]) rfl ?_
  refine R_ial q105 rfl rfl h9 ?_
  show Rm E 105 67 [vr 83, vi x1, vi x2, vi (M.1 85 x3.toNatClampNeg), vi x4, vn, vn] [.int (M.1 85 x4.toNatClampNeg)] M _ _
  refine R_S q105 2 (pc2 := 5) (ls2 := [vr 83, vi x1, vi x2, vi (M.1 85 x3.toNatClampNeg), vi (M.1 85 x4.toNatClampNeg), vn, vn]) (st2 := []) rfl ?_
  exact k
-- 140+
theorem b105_122_0 {E : env} {M : mem} {rv : Option Value} {M2 : mem} {x1 x2 x5 x6 : Int32}  (h0 : inR x1 30) (h1 : inR (M.1 83 15) 30) (h2 : (M.1 90 x1.toNatClampNeg - M.1 90 (M.1 83 15).toNatClampNeg) < x6) (k : Rm E 105 189 [vr 83, vn, vi x2, vn, vn, vi x2, vi 0] [] M rv M2) : Rm E 105 122 [vr 83, vi x1, vi x2, vn, vn, vi x5, vi x6] [] M rv M2 := by
  refine R_S q105 4 (pc2 := 129) (ls2 := [vr 83, vi x1, vi x2, vn, vn, vi x5, vi x6]) (st2 := [.int x1, .ref 90, .int x6]) rfl ?_
  refine R_ial q105 rfl rfl h0 ?_
  show Rm E 105 130 [vr 83, vi x1, vi x2, vn, vn, vi x5, vi x6] [.int (M.1 90 x1.toNatClampNeg), .int x6] M _ _
  refine R_S q105 4 (pc2 := 138) (ls2 := [vr 83, vi x1, vi x2, vn, vn, vi x5, vi x6]) (st2 := [.int (M.1 83 15), .ref 90, .int (M.1 90 x1.toNatClampNeg), .int x6]) rfl ?_
  refine R_ial q105 rfl rfl h1 ?_
  show Rm E 105 139 [vr 83, vi x1, vi x2, vn, vn, vi x5, vi x6] [.int (M.1 90 (M.1 83 15).toNatClampNeg), .int (M.1 90 x1.toNatClampNeg), .int x6] M _ _
  refine R_S q105 1 (pc2 := 140) (ls2 := [vr 83, vi x1, vi x2, vn, vn, vi x5, vi x6]) (st2 := [.int (M.1 90 x1.toNatClampNeg - M.1 90 (M.1 83 15).toNatClampNeg), .int x6]) rfl ?_
  refine R_ict q105 rfl (decide_eq_true h2) ?_
  show Rm E 105 183 [vr 83, vi x1, vi x2, vn, vn, vi x5, vi x6] [] M _ _
  refine R_S q105 4 (pc2 := 189) (ls2 := [vr 83, vi x1, vi x2, vn, vn, vi x2, vi 0]) (st2 := []) rfl ?_
  exact R_w (ls := [vr 83, vn, vi x2, vn, vn, vi x2, vi 0]) (show lsle _ _ from ⟨rfl, ⟨rfl, ⟨rfl, ⟨rfl, trivial⟩⟩⟩⟩) k
-- 140- 161+
theorem b105_122_1 {E : env} {M : mem} {rv : Option Value} {M2 : mem} {x1 x2 x5 x6 : Int32} {N1 : mem} (h0 : inR x1 30) (h1 : inR (M.1 83 15) 30) (h2 : ¬ ((M.1 90 x1.toNatClampNeg - M.1 90 (M.1 83 15).toNatClampNeg) < x6)) (h3 : inR x6 60) (eN1 : N1 = upM M 93 (x6.toNatClampNeg) x5) (h4 : inR x5 30) (h5 : ¬ N1.1 85 x5.toNatClampNeg = (-4)) (h6 : inR x5 30) (k : Rm E 105 122 [vr 83, vi x1, vi x2, vn, vn, vi (N1.1 85 x5.toNatClampNeg), vi (x6 + 1)] [] N1 rv M2) : Rm E 105 122 [vr 83, vi x1, vi x2, vn, vn, vi x5, vi x6] [] M rv M2 := by
  refine R_S q105 4 (pc2 := 129) (ls2 := [vr 83, vi x1, vi x2, vn, vn, vi x5, vi x6]) (st2 := [.int x1, .ref 90, .int x6]) rfl ?_
  refine R_ial q105 rfl rfl h0 ?_
  show Rm E 105 130 [vr 83, vi x1, vi x2, vn, vn, vi x5, vi x6] [.int (M.1 90 x1.toNatClampNeg), .int x6] M _ _
  refine R_S q105 4 (pc2 := 138) (ls2 := [vr 83, vi x1, vi x2, vn, vn, vi x5, vi x6]) (st2 := [.int (M.1 83 15), .ref 90, .int (M.1 90 x1.toNatClampNeg), .int x6]) rfl ?_
  refine R_ial q105 rfl rfl h1 ?_
  show Rm E 105 139 [vr 83, vi x1, vi x2, vn, vn, vi x5, vi x6] [.int (M.1 90 (M.1 83 15).toNatClampNeg), .int (M.1 90 x1.toNatClampNeg), .int x6] M _ _
  refine R_S q105 1 (pc2 := 140) (ls2 := [vr 83, vi x1, vi x2, vn, vn, vi x5, vi x6]) (st2 := [.int (M.1 90 x1.toNatClampNeg - M.1 90 (M.1 83 15).toNatClampNeg), .int x6]) rfl ?_
  refine R_icf q105 rfl (decide_eq_false h2) ?_
  show Rm E 105 143 [vr 83, vi x1, vi x2, vn, vn, vi x5, vi x6] [] M _ _
  refine R_S q105 4 (pc2 := 151) (ls2 := [vr 83, vi x1, vi x2, vn, vn, vi x5, vi x6]) (st2 := [.int x5, .int x6, .ref 93]) rfl ?_
  refine R_ias q105 rfl rfl h3 eN1 ?_
  show Rm E 105 152 [vr 83, vi x1, vi x2, vn, vn, vi x5, vi x6] [] N1 _ _
  refine R_S q105 3 (pc2 := 158) (ls2 := [vr 83, vi x1, vi x2, vn, vn, vi x5, vi x6]) (st2 := [.int x5, .ref 85]) rfl ?_
  refine R_ial q105 rfl rfl h4 ?_
  show Rm E 105 159 [vr 83, vi x1, vi x2, vn, vn, vi x5, vi x6] [.int (N1.1 85 x5.toNatClampNeg)] N1 _ _
  refine R_S q105 1 (pc2 := 161) (ls2 := [vr 83, vi x1, vi x2, vn, vn, vi x5, vi x6]) (st2 := [.int (-4), .int (N1.1 85 x5.toNatClampNeg)]) rfl ?_
  refine R_ict q105 rfl (decide_eq_true h5) ?_
  show Rm E 105 168 [vr 83, vi x1, vi x2, vn, vn, vi x5, vi x6] [] N1 _ _
  refine R_S q105 3 (pc2 := 174) (ls2 := [vr 83, vi x1, vi x2, vn, vn, vi x5, vi x6]) (st2 := [.int x5, .ref 85]) rfl ?_
  refine R_ial q105 rfl rfl h6 ?_
  show Rm E 105 175 [vr 83, vi x1, vi x2, vn, vn, vi x5, vi x6] [.int (N1.1 85 x5.toNatClampNeg)] N1 _ _
  refine R_S q105 3 (pc2 := 122) (ls2 := [vr 83, vi x1, vi x2, vn, vn, vi (N1.1 85 x5.toNatClampNeg), vi (x6 + 1)]) (st2 := []) rfl ?_
  exact k
-- 140- 161-
theorem b105_122_2 {E : env} {M : mem} {rv : Option Value} {M2 : mem} {x1 x2 x5 x6 : Int32} {N1 : mem} (h0 : inR x1 30) (h1 : inR (M.1 83 15) 30) (h2 : ¬ ((M.1 90 x1.toNatClampNeg - M.1 90 (M.1 83 15).toNatClampNeg) < x6)) (h3 : inR x6 60) (eN1 : N1 = upM M 93 (x6.toNatClampNeg) x5) (h4 : inR x5 30) (h5 : ¬ (¬ N1.1 85 x5.toNatClampNeg = (-4))) (k : Rm E 105 122 [vr 83, vi x1, vi x2, vn, vn, vi 0, vi (x6 + 1)] [] N1 rv M2) : Rm E 105 122 [vr 83, vi x1, vi x2, vn, vn, vi x5, vi x6] [] M rv M2 := by
  refine R_S q105 4 (pc2 := 129) (ls2 := [vr 83, vi x1, vi x2, vn, vn, vi x5, vi x6]) (st2 := [.int x1, .ref 90, .int x6]) rfl ?_
  refine R_ial q105 rfl rfl h0 ?_
  show Rm E 105 130 [vr 83, vi x1, vi x2, vn, vn, vi x5, vi x6] [.int (M.1 90 x1.toNatClampNeg), .int x6] M _ _
  refine R_S q105 4 (pc2 := 138) (ls2 := [vr 83, vi x1, vi x2, vn, vn, vi x5, vi x6]) (st2 := [.int (M.1 83 15), .ref 90, .int (M.1 90 x1.toNatClampNeg), .int x6]) rfl ?_
  refine R_ial q105 rfl rfl h1 ?_
  show Rm E 105 139 [vr 83, vi x1, vi x2, vn, vn, vi x5, vi x6] [.int (M.1 90 (M.1 83 15).toNatClampNeg), .int (M.1 90 x1.toNatClampNeg), .int x6] M _ _
  refine R_S q105 1 (pc2 := 140) (ls2 := [vr 83, vi x1, vi x2, vn, vn, vi x5, vi x6]) (st2 := [.int (M.1 90 x1.toNatClampNeg - M.1 90 (M.1 83 15).toNatClampNeg), .int x6]) rfl ?_
  refine R_icf q105 rfl (decide_eq_false h2) ?_
  show Rm E 105 143 [vr 83, vi x1, vi x2, vn, vn, vi x5, vi x6] [] M _ _
  refine R_S q105 4 (pc2 := 151) (ls2 := [vr 83, vi x1, vi x2, vn, vn, vi x5, vi x6]) (st2 := [.int x5, .int x6, .ref 93]) rfl ?_
  refine R_ias q105 rfl rfl h3 eN1 ?_
  show Rm E 105 152 [vr 83, vi x1, vi x2, vn, vn, vi x5, vi x6] [] N1 _ _
  refine R_S q105 3 (pc2 := 158) (ls2 := [vr 83, vi x1, vi x2, vn, vn, vi x5, vi x6]) (st2 := [.int x5, .ref 85]) rfl ?_
  refine R_ial q105 rfl rfl h4 ?_
  show Rm E 105 159 [vr 83, vi x1, vi x2, vn, vn, vi x5, vi x6] [.int (N1.1 85 x5.toNatClampNeg)] N1 _ _
  refine R_S q105 1 (pc2 := 161) (ls2 := [vr 83, vi x1, vi x2, vn, vn, vi x5, vi x6]) (st2 := [.int (-4), .int (N1.1 85 x5.toNatClampNeg)]) rfl ?_
  refine R_icf q105 rfl (decide_eq_false h5) ?_
  show Rm E 105 164 [vr 83, vi x1, vi x2, vn, vn, vi x5, vi x6] [] N1 _ _
  refine R_S q105 5 (pc2 := 122) (ls2 := [vr 83, vi x1, vi x2, vn, vn, vi 0, vi (x6 + 1)]) (st2 := []) rfl ?_
  exact k
-- 207+
theorem b105_189_0 {E : env} {M : mem} {x2 x5 x6 : Int32}  (h0 : inR x2 30) (h1 : inR (M.1 83 15) 30) (h2 : (M.1 90 x2.toNatClampNeg - M.1 90 (M.1 83 15).toNatClampNeg) ≤ x6) : Rm E 105 189 [vr 83, vn, vi x2, vn, vn, vi x5, vi x6] [] M none M := by
  refine R_S q105 4 (pc2 := 196) (ls2 := [vr 83, vn, vi x2, vn, vn, vi x5, vi x6]) (st2 := [.int x2, .ref 90, .int x6]) rfl ?_
  refine R_ial q105 rfl rfl h0 ?_
  show Rm E 105 197 [vr 83, vn, vi x2, vn, vn, vi x5, vi x6] [.int (M.1 90 x2.toNatClampNeg), .int x6] M _ _
  refine R_S q105 4 (pc2 := 205) (ls2 := [vr 83, vn, vi x2, vn, vn, vi x5, vi x6]) (st2 := [.int (M.1 83 15), .ref 90, .int (M.1 90 x2.toNatClampNeg), .int x6]) rfl ?_
  refine R_ial q105 rfl rfl h1 ?_
  show Rm E 105 206 [vr 83, vn, vi x2, vn, vn, vi x5, vi x6] [.int (M.1 90 (M.1 83 15).toNatClampNeg), .int (M.1 90 x2.toNatClampNeg), .int x6] M _ _
  refine R_S q105 1 (pc2 := 207) (ls2 := [vr 83, vn, vi x2, vn, vn, vi x5, vi x6]) (st2 := [.int (M.1 90 x2.toNatClampNeg - M.1 90 (M.1 83 15).toNatClampNeg), .int x6]) rfl ?_
  refine R_ict q105 rfl (decide_eq_true h2) ?_
  show Rm E 105 241 [vr 83, vn, vi x2, vn, vn, vi x5, vi x6] [] M _ _
  exact R_ret rfl q105 rfl rfl rfl rfl rfl
-- 207-
theorem b105_189_1 {E : env} {M : mem} {rv : Option Value} {M2 : mem} {x2 x5 x6 : Int32} {N1 : mem} (h0 : inR x2 30) (h1 : inR (M.1 83 15) 30) (h2 : ¬ ((M.1 90 x2.toNatClampNeg - M.1 90 (M.1 83 15).toNatClampNeg) ≤ x6)) (h3 : inR ((M.1 83 14 - 1) - x6) 60) (eN1 : N1 = upM M 93 (((M.1 83 14 - 1) - x6).toNatClampNeg) x5) (h4 : inR x5 30) (k : Rm E 105 189 [vr 83, vn, vi x2, vn, vn, vi (N1.1 85 x5.toNatClampNeg), vi (x6 + 1)] [] N1 rv M2) : Rm E 105 189 [vr 83, vn, vi x2, vn, vn, vi x5, vi x6] [] M rv M2 := by
  refine R_S q105 4 (pc2 := 196) (ls2 := [vr 83, vn, vi x2, vn, vn, vi x5, vi x6]) (st2 := [.int x2, .ref 90, .int x6]) rfl ?_
  refine R_ial q105 rfl rfl h0 ?_
  show Rm E 105 197 [vr 83, vn, vi x2, vn, vn, vi x5, vi x6] [.int (M.1 90 x2.toNatClampNeg), .int x6] M _ _
  refine R_S q105 4 (pc2 := 205) (ls2 := [vr 83, vn, vi x2, vn, vn, vi x5, vi x6]) (st2 := [.int (M.1 83 15), .ref 90, .int (M.1 90 x2.toNatClampNeg), .int x6]) rfl ?_
  refine R_ial q105 rfl rfl h1 ?_
  show Rm E 105 206 [vr 83, vn, vi x2, vn, vn, vi x5, vi x6] [.int (M.1 90 (M.1 83 15).toNatClampNeg), .int (M.1 90 x2.toNatClampNeg), .int x6] M _ _
  refine R_S q105 1 (pc2 := 207) (ls2 := [vr 83, vn, vi x2, vn, vn, vi x5, vi x6]) (st2 := [.int (M.1 90 x2.toNatClampNeg - M.1 90 (M.1 83 15).toNatClampNeg), .int x6]) rfl ?_
  refine R_icf q105 rfl (decide_eq_false h2) ?_
  show Rm E 105 210 [vr 83, vn, vi x2, vn, vn, vi x5, vi x6] [] M _ _
  refine R_S q105 9 (pc2 := 225) (ls2 := [vr 83, vn, vi x2, vn, vn, vi x5, vi x6]) (st2 := [.int x5, .int ((M.1 83 14 - 1) - x6), .ref 93]) rfl ?_
  refine R_ias q105 rfl rfl h3 eN1 ?_
  show Rm E 105 226 [vr 83, vn, vi x2, vn, vn, vi x5, vi x6] [] N1 _ _
  refine R_S q105 3 (pc2 := 232) (ls2 := [vr 83, vn, vi x2, vn, vn, vi x5, vi x6]) (st2 := [.int x5, .ref 85]) rfl ?_
  refine R_ial q105 rfl rfl h4 ?_
  show Rm E 105 233 [vr 83, vn, vi x2, vn, vn, vi x5, vi x6] [.int (N1.1 85 x5.toNatClampNeg)] N1 _ _
  refine R_S q105 3 (pc2 := 189) (ls2 := [vr 83, vn, vi x2, vn, vn, vi (N1.1 85 x5.toNatClampNeg), vi (x6 + 1)]) (st2 := []) rfl ?_
  exact k
-- 106 HeavyChainsModel.laysBelow(I)V  cuts [0, 12]
theorem q106 : cdOf 106 = some mt106 := rfl
-- 
theorem b106_0_0 {E : env} {M : mem} {rv : Option Value} {M2 : mem} {x1 : Int32} {N1 : mem} (h0 : inR x1 30) (eN1 : N1 = upM M 83 14 (M.1 87 x1.toNatClampNeg)) (k : Rm E 106 12 [vr 83, vi x1, vi 0] [] N1 rv M2) : Rm E 106 0 [vr 83, vi x1, vn] [] M rv M2 := by
  refine R_S q106 4 (pc2 := 6) (ls2 := [vr 83, vi x1, vn]) (st2 := [.int x1, .ref 87, .ref 83]) rfl ?_
  refine R_ial q106 rfl rfl h0 ?_
  show Rm E 106 7 [vr 83, vi x1, vn] [.int (M.1 87 x1.toNatClampNeg), .ref 83] M _ _
  refine R_pf q106 rfl rfl rfl rfl rfl eN1 ?_
  show Rm E 106 10 [vr 83, vi x1, vn] [] N1 _ _
  refine R_S q106 2 (pc2 := 12) (ls2 := [vr 83, vi x1, vi 0]) (st2 := []) rfl ?_
  exact k
-- 17+
theorem b106_12_0 {E : env} {M : mem} {x1 x2 : Int32}  (h0 : M.1 83 14 ≤ x2) : Rm E 106 12 [vr 83, vi x1, vi x2] [] M none M := by
  refine R_S q106 3 (pc2 := 17) (ls2 := [vr 83, vi x1, vi x2]) (st2 := [.int (M.1 83 14), .int x2]) rfl ?_
  refine R_ict q106 rfl (decide_eq_true h0) ?_
  show Rm E 106 45 [vr 83, vi x1, vi x2] [] M _ _
  exact R_ret rfl q106 rfl rfl rfl rfl rfl
-- 17-
theorem b106_12_1 {E : env} {M : mem} {rv : Option Value} {M2 : mem} {x1 x2 : Int32} {N1 : mem} (h0 : ¬ (M.1 83 14 ≤ x2)) (h1 : inR x1 30) (h2 : inR (M.1 88 x1.toNatClampNeg + x2) 30) (h3 : inR x2 60) (eN1 : N1 = upM M 93 (x2.toNatClampNeg) (M.1 91 (M.1 88 x1.toNatClampNeg + x2).toNatClampNeg)) (k : Rm E 106 12 [vr 83, vi x1, vi (x2 + 1)] [] N1 rv M2) : Rm E 106 12 [vr 83, vi x1, vi x2] [] M rv M2 := by
  refine R_S q106 3 (pc2 := 17) (ls2 := [vr 83, vi x1, vi x2]) (st2 := [.int (M.1 83 14), .int x2]) rfl ?_
  refine R_icf q106 rfl (decide_eq_false h0) ?_
  show Rm E 106 20 [vr 83, vi x1, vi x2] [] M _ _
  refine R_S q106 8 (pc2 := 34) (ls2 := [vr 83, vi x1, vi x2]) (st2 := [.int x1, .ref 88, .ref 91, .int x2, .ref 93]) rfl ?_
  refine R_ial q106 rfl rfl h1 ?_
  show Rm E 106 35 [vr 83, vi x1, vi x2] [.int (M.1 88 x1.toNatClampNeg), .ref 91, .int x2, .ref 93] M _ _
  refine R_S q106 2 (pc2 := 37) (ls2 := [vr 83, vi x1, vi x2]) (st2 := [.int (M.1 88 x1.toNatClampNeg + x2), .ref 91, .int x2, .ref 93]) rfl ?_
  refine R_ial q106 rfl rfl h2 ?_
  show Rm E 106 38 [vr 83, vi x1, vi x2] [.int (M.1 91 (M.1 88 x1.toNatClampNeg + x2).toNatClampNeg), .int x2, .ref 93] M _ _
  refine R_ias q106 rfl rfl h3 eN1 ?_
  show Rm E 106 39 [vr 83, vi x1, vi x2] [] N1 _ _
  refine R_S q106 2 (pc2 := 12) (ls2 := [vr 83, vi x1, vi (x2 + 1)]) (st2 := []) rfl ?_
  exact k
-- 107 HeavyChainsModel.sumOf()I  cuts [0, 4]
theorem q107 : cdOf 107 = some mt107 := rfl
-- 
theorem b107_0_0 {E : env} {M : mem} {rv : Option Value} {M2 : mem}  (k : Rm E 107 4 [vr 83, vi 0, vi 0] [] M rv M2) : Rm E 107 0 [vr 83, vn, vn] [] M rv M2 := by
  refine R_S q107 4 (pc2 := 4) (ls2 := [vr 83, vi 0, vi 0]) (st2 := []) rfl ?_
  exact k
-- 9+
theorem b107_4_0 {E : env} {M : mem} {x1 x2 : Int32}  (h0 : M.1 83 14 ≤ x2) : Rm E 107 4 [vr 83, vi x1, vi x2] [] M (some (.int x1)) M := by
  refine R_S q107 3 (pc2 := 9) (ls2 := [vr 83, vi x1, vi x2]) (st2 := [.int (M.1 83 14), .int x2]) rfl ?_
  refine R_ict q107 rfl (decide_eq_true h0) ?_
  show Rm E 107 32 [vr 83, vi x1, vi x2] [] M _ _
  refine R_S q107 1 (pc2 := 33) (ls2 := [vr 83, vi x1, vi x2]) (st2 := [.int x1]) rfl ?_
  exact R_ret rfl q107 rfl rfl rfl rfl (stpR_i rfl rfl)
-- 9-
theorem b107_4_1 {E : env} {M : mem} {rv : Option Value} {M2 : mem} {x1 x2 : Int32}  (h0 : ¬ (M.1 83 14 ≤ x2)) (h1 : inR x2 60) (h2 : inR (M.1 93 x2.toNatClampNeg) 90) (k : Rm E 107 4 [vr 83, vi (x1 + M.1 84 (M.1 93 x2.toNatClampNeg).toNatClampNeg), vi (x2 + 1)] [] M rv M2) : Rm E 107 4 [vr 83, vi x1, vi x2] [] M rv M2 := by
  refine R_S q107 3 (pc2 := 9) (ls2 := [vr 83, vi x1, vi x2]) (st2 := [.int (M.1 83 14), .int x2]) rfl ?_
  refine R_icf q107 rfl (decide_eq_false h0) ?_
  show Rm E 107 12 [vr 83, vi x1, vi x2] [] M _ _
  refine R_S q107 6 (pc2 := 22) (ls2 := [vr 83, vi x1, vi x2]) (st2 := [.int x2, .ref 93, .ref 84, .int x1]) rfl ?_
  refine R_ial q107 rfl rfl h1 ?_
  show Rm E 107 23 [vr 83, vi x1, vi x2] [.int (M.1 93 x2.toNatClampNeg), .ref 84, .int x1] M _ _
  refine R_ial q107 rfl rfl h2 ?_
  show Rm E 107 24 [vr 83, vi x1, vi x2] [.int (M.1 84 (M.1 93 x2.toNatClampNeg).toNatClampNeg), .int x1] M _ _
  refine R_S q107 4 (pc2 := 4) (ls2 := [vr 83, vi (x1 + M.1 84 (M.1 93 x2.toNatClampNeg).toNatClampNeg), vi (x2 + 1)]) (st2 := []) rfl ?_
  exact k
-- 108 HeavyChainsModel.greatest()I  cuts [0, 14]
theorem q108 : cdOf 108 = some mt108 := rfl
-- 
theorem b108_0_0 {E : env} {M : mem} {rv : Option Value} {M2 : mem}  (h0 : inR (M.1 93 0) 90) (k : Rm E 108 14 [vr 83, vi (M.1 84 (M.1 93 0).toNatClampNeg), vi 0] [] M rv M2) : Rm E 108 0 [vr 83, vn, vn] [] M rv M2 := by
  refine R_S q108 5 (pc2 := 9) (ls2 := [vr 83, vn, vn]) (st2 := [.int 0, .ref 93, .ref 84]) rfl ?_
  refine R_ial q108 rfl rfl (show inB _ _ = true from rfl) ?_
  show Rm E 108 10 [vr 83, vn, vn] [.int (M.1 93 0), .ref 84] M _ _
  refine R_ial q108 rfl rfl h0 ?_
  show Rm E 108 11 [vr 83, vn, vn] [.int (M.1 84 (M.1 93 0).toNatClampNeg)] M _ _
  refine R_S q108 3 (pc2 := 14) (ls2 := [vr 83, vi (M.1 84 (M.1 93 0).toNatClampNeg), vi 0]) (st2 := []) rfl ?_
  exact k
-- 19+
theorem b108_14_0 {E : env} {M : mem} {x1 x2 : Int32}  (h0 : M.1 83 14 ≤ x2) : Rm E 108 14 [vr 83, vi x1, vi x2] [] M (some (.int x1)) M := by
  refine R_S q108 3 (pc2 := 19) (ls2 := [vr 83, vi x1, vi x2]) (st2 := [.int (M.1 83 14), .int x2]) rfl ?_
  refine R_ict q108 rfl (decide_eq_true h0) ?_
  show Rm E 108 59 [vr 83, vi x1, vi x2] [] M _ _
  refine R_S q108 1 (pc2 := 60) (ls2 := [vr 83, vi x1, vi x2]) (st2 := [.int x1]) rfl ?_
  exact R_ret rfl q108 rfl rfl rfl rfl (stpR_i rfl rfl)
-- 19- 34+
theorem b108_14_1 {E : env} {M : mem} {rv : Option Value} {M2 : mem} {x1 x2 : Int32}  (h0 : ¬ (M.1 83 14 ≤ x2)) (h1 : inR x2 60) (h2 : inR (M.1 93 x2.toNatClampNeg) 90) (h3 : M.1 84 (M.1 93 x2.toNatClampNeg).toNatClampNeg ≤ x1) (k : Rm E 108 14 [vr 83, vi x1, vi (x2 + 1)] [] M rv M2) : Rm E 108 14 [vr 83, vi x1, vi x2] [] M rv M2 := by
  refine R_S q108 3 (pc2 := 19) (ls2 := [vr 83, vi x1, vi x2]) (st2 := [.int (M.1 83 14), .int x2]) rfl ?_
  refine R_icf q108 rfl (decide_eq_false h0) ?_
  show Rm E 108 22 [vr 83, vi x1, vi x2] [] M _ _
  refine R_S q108 5 (pc2 := 31) (ls2 := [vr 83, vi x1, vi x2]) (st2 := [.int x2, .ref 93, .ref 84]) rfl ?_
  refine R_ial q108 rfl rfl h1 ?_
  show Rm E 108 32 [vr 83, vi x1, vi x2] [.int (M.1 93 x2.toNatClampNeg), .ref 84] M _ _
  refine R_ial q108 rfl rfl h2 ?_
  show Rm E 108 33 [vr 83, vi x1, vi x2] [.int (M.1 84 (M.1 93 x2.toNatClampNeg).toNatClampNeg)] M _ _
  refine R_S q108 1 (pc2 := 34) (ls2 := [vr 83, vi x1, vi x2]) (st2 := [.int x1, .int (M.1 84 (M.1 93 x2.toNatClampNeg).toNatClampNeg)]) rfl ?_
  refine R_ict q108 rfl (decide_eq_true h3) ?_
  show Rm E 108 51 [vr 83, vi x1, vi x2] [] M _ _
  refine R_S q108 4 (pc2 := 14) (ls2 := [vr 83, vi x1, vi (x2 + 1)]) (st2 := []) rfl ?_
  exact k
-- 19- 34-
theorem b108_14_2 {E : env} {M : mem} {rv : Option Value} {M2 : mem} {x1 x2 : Int32}  (h0 : ¬ (M.1 83 14 ≤ x2)) (h1 : inR x2 60) (h2 : inR (M.1 93 x2.toNatClampNeg) 90) (h3 : ¬ (M.1 84 (M.1 93 x2.toNatClampNeg).toNatClampNeg ≤ x1)) (h4 : inR x2 60) (h5 : inR (M.1 93 x2.toNatClampNeg) 90) (k : Rm E 108 14 [vr 83, vi (M.1 84 (M.1 93 x2.toNatClampNeg).toNatClampNeg), vi (x2 + 1)] [] M rv M2) : Rm E 108 14 [vr 83, vi x1, vi x2] [] M rv M2 := by
  refine R_S q108 3 (pc2 := 19) (ls2 := [vr 83, vi x1, vi x2]) (st2 := [.int (M.1 83 14), .int x2]) rfl ?_
  refine R_icf q108 rfl (decide_eq_false h0) ?_
  show Rm E 108 22 [vr 83, vi x1, vi x2] [] M _ _
  refine R_S q108 5 (pc2 := 31) (ls2 := [vr 83, vi x1, vi x2]) (st2 := [.int x2, .ref 93, .ref 84]) rfl ?_
  refine R_ial q108 rfl rfl h1 ?_
  show Rm E 108 32 [vr 83, vi x1, vi x2] [.int (M.1 93 x2.toNatClampNeg), .ref 84] M _ _
  refine R_ial q108 rfl rfl h2 ?_
  show Rm E 108 33 [vr 83, vi x1, vi x2] [.int (M.1 84 (M.1 93 x2.toNatClampNeg).toNatClampNeg)] M _ _
  refine R_S q108 1 (pc2 := 34) (ls2 := [vr 83, vi x1, vi x2]) (st2 := [.int x1, .int (M.1 84 (M.1 93 x2.toNatClampNeg).toNatClampNeg)]) rfl ?_
  refine R_icf q108 rfl (decide_eq_false h3) ?_
  show Rm E 108 37 [vr 83, vi x1, vi x2] [] M _ _
  refine R_S q108 5 (pc2 := 46) (ls2 := [vr 83, vi x1, vi x2]) (st2 := [.int x2, .ref 93, .ref 84]) rfl ?_
  refine R_ial q108 rfl rfl h4 ?_
  show Rm E 108 47 [vr 83, vi x1, vi x2] [.int (M.1 93 x2.toNatClampNeg), .ref 84] M _ _
  refine R_ial q108 rfl rfl h5 ?_
  show Rm E 108 48 [vr 83, vi x1, vi x2] [.int (M.1 84 (M.1 93 x2.toNatClampNeg).toNatClampNeg)] M _ _
  refine R_S q108 4 (pc2 := 14) (ls2 := [vr 83, vi (M.1 84 (M.1 93 x2.toNatClampNeg).toNatClampNeg), vi (x2 + 1)]) (st2 := []) rfl ?_
  exact k
-- 109 HeavyChainsModel.least()I  cuts [0, 14]
theorem q109 : cdOf 109 = some mt109 := rfl
-- 
theorem b109_0_0 {E : env} {M : mem} {rv : Option Value} {M2 : mem}  (h0 : inR (M.1 93 0) 90) (k : Rm E 109 14 [vr 83, vi (M.1 84 (M.1 93 0).toNatClampNeg), vi 0] [] M rv M2) : Rm E 109 0 [vr 83, vn, vn] [] M rv M2 := by
  refine R_S q109 5 (pc2 := 9) (ls2 := [vr 83, vn, vn]) (st2 := [.int 0, .ref 93, .ref 84]) rfl ?_
  refine R_ial q109 rfl rfl (show inB _ _ = true from rfl) ?_
  show Rm E 109 10 [vr 83, vn, vn] [.int (M.1 93 0), .ref 84] M _ _
  refine R_ial q109 rfl rfl h0 ?_
  show Rm E 109 11 [vr 83, vn, vn] [.int (M.1 84 (M.1 93 0).toNatClampNeg)] M _ _
  refine R_S q109 3 (pc2 := 14) (ls2 := [vr 83, vi (M.1 84 (M.1 93 0).toNatClampNeg), vi 0]) (st2 := []) rfl ?_
  exact k
-- 19+
theorem b109_14_0 {E : env} {M : mem} {x1 x2 : Int32}  (h0 : M.1 83 14 ≤ x2) : Rm E 109 14 [vr 83, vi x1, vi x2] [] M (some (.int x1)) M := by
  refine R_S q109 3 (pc2 := 19) (ls2 := [vr 83, vi x1, vi x2]) (st2 := [.int (M.1 83 14), .int x2]) rfl ?_
  refine R_ict q109 rfl (decide_eq_true h0) ?_
  show Rm E 109 59 [vr 83, vi x1, vi x2] [] M _ _
  refine R_S q109 1 (pc2 := 60) (ls2 := [vr 83, vi x1, vi x2]) (st2 := [.int x1]) rfl ?_
  exact R_ret rfl q109 rfl rfl rfl rfl (stpR_i rfl rfl)
-- 19- 34+
theorem b109_14_1 {E : env} {M : mem} {rv : Option Value} {M2 : mem} {x1 x2 : Int32}  (h0 : ¬ (M.1 83 14 ≤ x2)) (h1 : inR x2 60) (h2 : inR (M.1 93 x2.toNatClampNeg) 90) (h3 : x1 ≤ M.1 84 (M.1 93 x2.toNatClampNeg).toNatClampNeg) (k : Rm E 109 14 [vr 83, vi x1, vi (x2 + 1)] [] M rv M2) : Rm E 109 14 [vr 83, vi x1, vi x2] [] M rv M2 := by
  refine R_S q109 3 (pc2 := 19) (ls2 := [vr 83, vi x1, vi x2]) (st2 := [.int (M.1 83 14), .int x2]) rfl ?_
  refine R_icf q109 rfl (decide_eq_false h0) ?_
  show Rm E 109 22 [vr 83, vi x1, vi x2] [] M _ _
  refine R_S q109 5 (pc2 := 31) (ls2 := [vr 83, vi x1, vi x2]) (st2 := [.int x2, .ref 93, .ref 84]) rfl ?_
  refine R_ial q109 rfl rfl h1 ?_
  show Rm E 109 32 [vr 83, vi x1, vi x2] [.int (M.1 93 x2.toNatClampNeg), .ref 84] M _ _
  refine R_ial q109 rfl rfl h2 ?_
  show Rm E 109 33 [vr 83, vi x1, vi x2] [.int (M.1 84 (M.1 93 x2.toNatClampNeg).toNatClampNeg)] M _ _
  refine R_S q109 1 (pc2 := 34) (ls2 := [vr 83, vi x1, vi x2]) (st2 := [.int x1, .int (M.1 84 (M.1 93 x2.toNatClampNeg).toNatClampNeg)]) rfl ?_
  refine R_ict q109 rfl (decide_eq_true h3) ?_
  show Rm E 109 51 [vr 83, vi x1, vi x2] [] M _ _
  refine R_S q109 4 (pc2 := 14) (ls2 := [vr 83, vi x1, vi (x2 + 1)]) (st2 := []) rfl ?_
  exact k
-- 19- 34-
theorem b109_14_2 {E : env} {M : mem} {rv : Option Value} {M2 : mem} {x1 x2 : Int32}  (h0 : ¬ (M.1 83 14 ≤ x2)) (h1 : inR x2 60) (h2 : inR (M.1 93 x2.toNatClampNeg) 90) (h3 : ¬ (x1 ≤ M.1 84 (M.1 93 x2.toNatClampNeg).toNatClampNeg)) (h4 : inR x2 60) (h5 : inR (M.1 93 x2.toNatClampNeg) 90) (k : Rm E 109 14 [vr 83, vi (M.1 84 (M.1 93 x2.toNatClampNeg).toNatClampNeg), vi (x2 + 1)] [] M rv M2) : Rm E 109 14 [vr 83, vi x1, vi x2] [] M rv M2 := by
  refine R_S q109 3 (pc2 := 19) (ls2 := [vr 83, vi x1, vi x2]) (st2 := [.int (M.1 83 14), .int x2]) rfl ?_
  refine R_icf q109 rfl (decide_eq_false h0) ?_
  show Rm E 109 22 [vr 83, vi x1, vi x2] [] M _ _
  refine R_S q109 5 (pc2 := 31) (ls2 := [vr 83, vi x1, vi x2]) (st2 := [.int x2, .ref 93, .ref 84]) rfl ?_
  refine R_ial q109 rfl rfl h1 ?_
  show Rm E 109 32 [vr 83, vi x1, vi x2] [.int (M.1 93 x2.toNatClampNeg), .ref 84] M _ _
  refine R_ial q109 rfl rfl h2 ?_
  show Rm E 109 33 [vr 83, vi x1, vi x2] [.int (M.1 84 (M.1 93 x2.toNatClampNeg).toNatClampNeg)] M _ _
  refine R_S q109 1 (pc2 := 34) (ls2 := [vr 83, vi x1, vi x2]) (st2 := [.int x1, .int (M.1 84 (M.1 93 x2.toNatClampNeg).toNatClampNeg)]) rfl ?_
  refine R_icf q109 rfl (decide_eq_false h3) ?_
  show Rm E 109 37 [vr 83, vi x1, vi x2] [] M _ _
  refine R_S q109 5 (pc2 := 46) (ls2 := [vr 83, vi x1, vi x2]) (st2 := [.int x2, .ref 93, .ref 84]) rfl ?_
  refine R_ial q109 rfl rfl h4 ?_
  show Rm E 109 47 [vr 83, vi x1, vi x2] [.int (M.1 93 x2.toNatClampNeg), .ref 84] M _ _
  refine R_ial q109 rfl rfl h5 ?_
  show Rm E 109 48 [vr 83, vi x1, vi x2] [.int (M.1 84 (M.1 93 x2.toNatClampNeg).toNatClampNeg)] M _ _
  refine R_S q109 4 (pc2 := 14) (ls2 := [vr 83, vi (M.1 84 (M.1 93 x2.toNatClampNeg).toNatClampNeg), vi (x2 + 1)]) (st2 := []) rfl ?_
  exact k
-- 110 HeavyChainsModel.markedOf()I  cuts [0, 4]
theorem q110 : cdOf 110 = some mt110 := rfl
-- 
theorem b110_0_0 {E : env} {M : mem} {rv : Option Value} {M2 : mem}  (k : Rm E 110 4 [vr 83, vi 0, vi 0] [] M rv M2) : Rm E 110 0 [vr 83, vn, vn] [] M rv M2 := by
  refine R_S q110 4 (pc2 := 4) (ls2 := [vr 83, vi 0, vi 0]) (st2 := []) rfl ?_
  exact k
-- 9+
theorem b110_4_0 {E : env} {M : mem} {x1 x2 : Int32}  (h0 : M.1 83 14 ≤ x2) : Rm E 110 4 [vr 83, vi x1, vi x2] [] M (some (.int x1)) M := by
  refine R_S q110 3 (pc2 := 9) (ls2 := [vr 83, vi x1, vi x2]) (st2 := [.int (M.1 83 14), .int x2]) rfl ?_
  refine R_ict q110 rfl (decide_eq_true h0) ?_
  show Rm E 110 35 [vr 83, vi x1, vi x2] [] M _ _
  refine R_S q110 1 (pc2 := 36) (ls2 := [vr 83, vi x1, vi x2]) (st2 := [.int x1]) rfl ?_
  exact R_ret rfl q110 rfl rfl rfl rfl (stpR_i rfl rfl)
-- 9-
theorem b110_4_1 {E : env} {M : mem} {rv : Option Value} {M2 : mem} {x1 x2 : Int32}  (h0 : ¬ (M.1 83 14 ≤ x2)) (h1 : inR x2 60) (k : Rm E 110 4 [vr 83, vi (x1 + ((M.2 >>> ((M.1 93 x2.toNatClampNeg).toInt64 &&& 63)) &&& 1).toInt32), vi (x2 + 1)] [] M rv M2) : Rm E 110 4 [vr 83, vi x1, vi x2] [] M rv M2 := by
  refine R_S q110 3 (pc2 := 9) (ls2 := [vr 83, vi x1, vi x2]) (st2 := [.int (M.1 83 14), .int x2]) rfl ?_
  refine R_icf q110 rfl (decide_eq_false h0) ?_
  show Rm E 110 12 [vr 83, vi x1, vi x2] [] M _ _
  refine R_S q110 6 (pc2 := 22) (ls2 := [vr 83, vi x1, vi x2]) (st2 := [.int x2, .ref 93, .long (M.2), .int x1]) rfl ?_
  refine R_ial q110 rfl rfl h1 ?_
  show Rm E 110 23 [vr 83, vi x1, vi x2] [.int (M.1 93 x2.toNatClampNeg), .long (M.2), .int x1] M _ _
  refine R_S q110 8 (pc2 := 4) (ls2 := [vr 83, vi (x1 + ((M.2 >>> ((M.1 93 x2.toNatClampNeg).toInt64 &&& 63)) &&& 1).toInt32), vi (x2 + 1)]) (st2 := []) rfl ?_
  exact k
-- 111 HeavyChainsModel.pieces()I  cuts [0, 4]
theorem q111 : cdOf 111 = some mt111 := rfl
-- 
theorem b111_0_0 {E : env} {M : mem} {rv : Option Value} {M2 : mem}  (k : Rm E 111 4 [vr 83, vi 1, vi 1] [] M rv M2) : Rm E 111 0 [vr 83, vn, vn] [] M rv M2 := by
  refine R_S q111 4 (pc2 := 4) (ls2 := [vr 83, vi 1, vi 1]) (st2 := []) rfl ?_
  exact k
-- 9+
theorem b111_4_0 {E : env} {M : mem} {x1 x2 : Int32}  (h0 : M.1 83 14 ≤ x2) : Rm E 111 4 [vr 83, vi x1, vi x2] [] M (some (.int x1)) M := by
  refine R_S q111 3 (pc2 := 9) (ls2 := [vr 83, vi x1, vi x2]) (st2 := [.int (M.1 83 14), .int x2]) rfl ?_
  refine R_ict q111 rfl (decide_eq_true h0) ?_
  show Rm E 111 53 [vr 83, vi x1, vi x2] [] M _ _
  refine R_S q111 1 (pc2 := 54) (ls2 := [vr 83, vi x1, vi x2]) (st2 := [.int x1]) rfl ?_
  exact R_ret rfl q111 rfl rfl rfl rfl (stpR_i rfl rfl)
-- 9- 37+
theorem b111_4_1 {E : env} {M : mem} {rv : Option Value} {M2 : mem} {x1 x2 : Int32}  (h0 : ¬ (M.1 83 14 ≤ x2)) (h1 : inR x2 60) (h2 : inR (M.1 93 x2.toNatClampNeg) 30) (h3 : inR (x2 - 1) 60) (h4 : inR (M.1 93 (x2 - 1).toNatClampNeg) 30) (h5 : ¬ M.1 89 (M.1 93 x2.toNatClampNeg).toNatClampNeg = M.1 89 (M.1 93 (x2 - 1).toNatClampNeg).toNatClampNeg) (k : Rm E 111 4 [vr 83, vi (x1 + 1), vi (x2 + 1)] [] M rv M2) : Rm E 111 4 [vr 83, vi x1, vi x2] [] M rv M2 := by
  refine R_S q111 3 (pc2 := 9) (ls2 := [vr 83, vi x1, vi x2]) (st2 := [.int (M.1 83 14), .int x2]) rfl ?_
  refine R_icf q111 rfl (decide_eq_false h0) ?_
  show Rm E 111 12 [vr 83, vi x1, vi x2] [] M _ _
  refine R_S q111 6 (pc2 := 22) (ls2 := [vr 83, vi x1, vi x2]) (st2 := [.int x2, .ref 93, .ref 89, .int x1]) rfl ?_
  refine R_ial q111 rfl rfl h1 ?_
  show Rm E 111 23 [vr 83, vi x1, vi x2] [.int (M.1 93 x2.toNatClampNeg), .ref 89, .int x1] M _ _
  refine R_ial q111 rfl rfl h2 ?_
  show Rm E 111 24 [vr 83, vi x1, vi x2] [.int (M.1 89 (M.1 93 x2.toNatClampNeg).toNatClampNeg), .int x1] M _ _
  refine R_S q111 7 (pc2 := 35) (ls2 := [vr 83, vi x1, vi x2]) (st2 := [.int (x2 - 1), .ref 93, .ref 89, .int (M.1 89 (M.1 93 x2.toNatClampNeg).toNatClampNeg), .int x1]) rfl ?_
  refine R_ial q111 rfl rfl h3 ?_
  show Rm E 111 36 [vr 83, vi x1, vi x2] [.int (M.1 93 (x2 - 1).toNatClampNeg), .ref 89, .int (M.1 89 (M.1 93 x2.toNatClampNeg).toNatClampNeg), .int x1] M _ _
  refine R_ial q111 rfl rfl h4 ?_
  show Rm E 111 37 [vr 83, vi x1, vi x2] [.int (M.1 89 (M.1 93 (x2 - 1).toNatClampNeg).toNatClampNeg), .int (M.1 89 (M.1 93 x2.toNatClampNeg).toNatClampNeg), .int x1] M _ _
  refine R_ict q111 rfl (decide_eq_true h5) ?_
  show Rm E 111 44 [vr 83, vi x1, vi x2] [.int x1] M _ _
  refine R_S q111 5 (pc2 := 4) (ls2 := [vr 83, vi (x1 + 1), vi (x2 + 1)]) (st2 := []) rfl ?_
  exact k
-- 9- 37-
theorem b111_4_2 {E : env} {M : mem} {rv : Option Value} {M2 : mem} {x1 x2 : Int32}  (h0 : ¬ (M.1 83 14 ≤ x2)) (h1 : inR x2 60) (h2 : inR (M.1 93 x2.toNatClampNeg) 30) (h3 : inR (x2 - 1) 60) (h4 : inR (M.1 93 (x2 - 1).toNatClampNeg) 30) (h5 : ¬ (¬ M.1 89 (M.1 93 x2.toNatClampNeg).toNatClampNeg = M.1 89 (M.1 93 (x2 - 1).toNatClampNeg).toNatClampNeg)) (k : Rm E 111 4 [vr 83, vi (x1 + 0), vi (x2 + 1)] [] M rv M2) : Rm E 111 4 [vr 83, vi x1, vi x2] [] M rv M2 := by
  refine R_S q111 3 (pc2 := 9) (ls2 := [vr 83, vi x1, vi x2]) (st2 := [.int (M.1 83 14), .int x2]) rfl ?_
  refine R_icf q111 rfl (decide_eq_false h0) ?_
  show Rm E 111 12 [vr 83, vi x1, vi x2] [] M _ _
  refine R_S q111 6 (pc2 := 22) (ls2 := [vr 83, vi x1, vi x2]) (st2 := [.int x2, .ref 93, .ref 89, .int x1]) rfl ?_
  refine R_ial q111 rfl rfl h1 ?_
  show Rm E 111 23 [vr 83, vi x1, vi x2] [.int (M.1 93 x2.toNatClampNeg), .ref 89, .int x1] M _ _
  refine R_ial q111 rfl rfl h2 ?_
  show Rm E 111 24 [vr 83, vi x1, vi x2] [.int (M.1 89 (M.1 93 x2.toNatClampNeg).toNatClampNeg), .int x1] M _ _
  refine R_S q111 7 (pc2 := 35) (ls2 := [vr 83, vi x1, vi x2]) (st2 := [.int (x2 - 1), .ref 93, .ref 89, .int (M.1 89 (M.1 93 x2.toNatClampNeg).toNatClampNeg), .int x1]) rfl ?_
  refine R_ial q111 rfl rfl h3 ?_
  show Rm E 111 36 [vr 83, vi x1, vi x2] [.int (M.1 93 (x2 - 1).toNatClampNeg), .ref 89, .int (M.1 89 (M.1 93 x2.toNatClampNeg).toNatClampNeg), .int x1] M _ _
  refine R_ial q111 rfl rfl h4 ?_
  show Rm E 111 37 [vr 83, vi x1, vi x2] [.int (M.1 89 (M.1 93 (x2 - 1).toNatClampNeg).toNatClampNeg), .int (M.1 89 (M.1 93 x2.toNatClampNeg).toNatClampNeg), .int x1] M _ _
  refine R_icf q111 rfl (decide_eq_false h5) ?_
  show Rm E 111 40 [vr 83, vi x1, vi x2] [.int x1] M _ _
  refine R_S q111 6 (pc2 := 4) (ls2 := [vr 83, vi (x1 + 0), vi (x2 + 1)]) (st2 := []) rfl ?_
  exact k
-- 112 HeavyChainsModel.gain()I  cuts [0, 16]
theorem q112 : cdOf 112 = some mt112 := rfl
-- 
theorem b112_0_0 {E : env} {M : mem} {rv : Option Value} {M2 : mem}  (h0 : inR (M.1 93 0) 90) (k : Rm E 112 16 [vr 83, vi (M.1 84 (M.1 93 0).toNatClampNeg), vi 0, vi 0, vn] [] M rv M2) : Rm E 112 0 [vr 83, vn, vn, vn, vn] [] M rv M2 := by
  refine R_S q112 5 (pc2 := 9) (ls2 := [vr 83, vn, vn, vn, vn]) (st2 := [.int 0, .ref 93, .ref 84]) rfl ?_
  refine R_ial q112 rfl rfl (show inB _ _ = true from rfl) ?_
  show Rm E 112 10 [vr 83, vn, vn, vn, vn] [.int (M.1 93 0), .ref 84] M _ _
  refine R_ial q112 rfl rfl h0 ?_
  show Rm E 112 11 [vr 83, vn, vn, vn, vn] [.int (M.1 84 (M.1 93 0).toNatClampNeg)] M _ _
  refine R_S q112 5 (pc2 := 16) (ls2 := [vr 83, vi (M.1 84 (M.1 93 0).toNatClampNeg), vi 0, vi 0, vn]) (st2 := []) rfl ?_
  exact k
-- 21+
theorem b112_16_0 {E : env} {M : mem} {x1 x2 x3 : Int32}  (h0 : M.1 83 14 ≤ x3) : Rm E 112 16 [vr 83, vi x1, vi x2, vi x3, vn] [] M (some (.int x2)) M := by
  refine R_S q112 3 (pc2 := 21) (ls2 := [vr 83, vi x1, vi x2, vi x3, vn]) (st2 := [.int (M.1 83 14), .int x3]) rfl ?_
  refine R_ict q112 rfl (decide_eq_true h0) ?_
  show Rm E 112 73 [vr 83, vi x1, vi x2, vi x3, vn] [] M _ _
  refine R_S q112 1 (pc2 := 74) (ls2 := [vr 83, vi x1, vi x2, vi x3, vn]) (st2 := [.int x2]) rfl ?_
  exact R_ret rfl q112 rfl rfl rfl rfl (stpR_i rfl rfl)
-- 21- 40+ 55+
theorem b112_16_1 {E : env} {M : mem} {rv : Option Value} {M2 : mem} {x1 x2 x3 : Int32}  (h0 : ¬ (M.1 83 14 ≤ x3)) (h1 : inR x3 60) (h2 : inR (M.1 93 x3.toNatClampNeg) 90) (h3 : x1 ≤ M.1 84 (M.1 93 x3.toNatClampNeg).toNatClampNeg) (h4 : (M.1 84 (M.1 93 x3.toNatClampNeg).toNatClampNeg - x1) ≤ x2) (k : Rm E 112 16 [vr 83, vi x1, vi x2, vi (x3 + 1), vn] [] M rv M2) : Rm E 112 16 [vr 83, vi x1, vi x2, vi x3, vn] [] M rv M2 := by
  refine R_S q112 3 (pc2 := 21) (ls2 := [vr 83, vi x1, vi x2, vi x3, vn]) (st2 := [.int (M.1 83 14), .int x3]) rfl ?_
  refine R_icf q112 rfl (decide_eq_false h0) ?_
  show Rm E 112 24 [vr 83, vi x1, vi x2, vi x3, vn] [] M _ _
  refine R_S q112 5 (pc2 := 33) (ls2 := [vr 83, vi x1, vi x2, vi x3, vn]) (st2 := [.int x3, .ref 93, .ref 84]) rfl ?_
  refine R_ial q112 rfl rfl h1 ?_
  show Rm E 112 34 [vr 83, vi x1, vi x2, vi x3, vn] [.int (M.1 93 x3.toNatClampNeg), .ref 84] M _ _
  refine R_ial q112 rfl rfl h2 ?_
  show Rm E 112 35 [vr 83, vi x1, vi x2, vi x3, vn] [.int (M.1 84 (M.1 93 x3.toNatClampNeg).toNatClampNeg)] M _ _
  refine R_S q112 3 (pc2 := 40) (ls2 := [vr 83, vi x1, vi x2, vi x3, vi (M.1 84 (M.1 93 x3.toNatClampNeg).toNatClampNeg)]) (st2 := [.int x1, .int (M.1 84 (M.1 93 x3.toNatClampNeg).toNatClampNeg)]) rfl ?_
  refine R_ict q112 rfl (decide_eq_true h3) ?_
  show Rm E 112 48 [vr 83, vi x1, vi x2, vi x3, vi (M.1 84 (M.1 93 x3.toNatClampNeg).toNatClampNeg)] [] M _ _
  refine R_S q112 6 (pc2 := 55) (ls2 := [vr 83, vi x1, vi x2, vi x3, vi (M.1 84 (M.1 93 x3.toNatClampNeg).toNatClampNeg)]) (st2 := [.int x2, .int (M.1 84 (M.1 93 x3.toNatClampNeg).toNatClampNeg - x1)]) rfl ?_
  refine R_ict q112 rfl (decide_eq_true h4) ?_
  show Rm E 112 65 [vr 83, vi x1, vi x2, vi x3, vi (M.1 84 (M.1 93 x3.toNatClampNeg).toNatClampNeg)] [] M _ _
  refine R_S q112 4 (pc2 := 16) (ls2 := [vr 83, vi x1, vi x2, vi (x3 + 1), vi (M.1 84 (M.1 93 x3.toNatClampNeg).toNatClampNeg)]) (st2 := []) rfl ?_
  exact R_w (ls := [vr 83, vi x1, vi x2, vi (x3 + 1), vn]) (show lsle _ _ from ⟨rfl, ⟨rfl, ⟨rfl, ⟨rfl, trivial⟩⟩⟩⟩) k
-- 21- 40+ 55-
theorem b112_16_2 {E : env} {M : mem} {rv : Option Value} {M2 : mem} {x1 x2 x3 : Int32}  (h0 : ¬ (M.1 83 14 ≤ x3)) (h1 : inR x3 60) (h2 : inR (M.1 93 x3.toNatClampNeg) 90) (h3 : x1 ≤ M.1 84 (M.1 93 x3.toNatClampNeg).toNatClampNeg) (h4 : ¬ ((M.1 84 (M.1 93 x3.toNatClampNeg).toNatClampNeg - x1) ≤ x2)) (k : Rm E 112 16 [vr 83, vi x1, vi (M.1 84 (M.1 93 x3.toNatClampNeg).toNatClampNeg - x1), vi (x3 + 1), vn] [] M rv M2) : Rm E 112 16 [vr 83, vi x1, vi x2, vi x3, vn] [] M rv M2 := by
  refine R_S q112 3 (pc2 := 21) (ls2 := [vr 83, vi x1, vi x2, vi x3, vn]) (st2 := [.int (M.1 83 14), .int x3]) rfl ?_
  refine R_icf q112 rfl (decide_eq_false h0) ?_
  show Rm E 112 24 [vr 83, vi x1, vi x2, vi x3, vn] [] M _ _
  refine R_S q112 5 (pc2 := 33) (ls2 := [vr 83, vi x1, vi x2, vi x3, vn]) (st2 := [.int x3, .ref 93, .ref 84]) rfl ?_
  refine R_ial q112 rfl rfl h1 ?_
  show Rm E 112 34 [vr 83, vi x1, vi x2, vi x3, vn] [.int (M.1 93 x3.toNatClampNeg), .ref 84] M _ _
  refine R_ial q112 rfl rfl h2 ?_
  show Rm E 112 35 [vr 83, vi x1, vi x2, vi x3, vn] [.int (M.1 84 (M.1 93 x3.toNatClampNeg).toNatClampNeg)] M _ _
  refine R_S q112 3 (pc2 := 40) (ls2 := [vr 83, vi x1, vi x2, vi x3, vi (M.1 84 (M.1 93 x3.toNatClampNeg).toNatClampNeg)]) (st2 := [.int x1, .int (M.1 84 (M.1 93 x3.toNatClampNeg).toNatClampNeg)]) rfl ?_
  refine R_ict q112 rfl (decide_eq_true h3) ?_
  show Rm E 112 48 [vr 83, vi x1, vi x2, vi x3, vi (M.1 84 (M.1 93 x3.toNatClampNeg).toNatClampNeg)] [] M _ _
  refine R_S q112 6 (pc2 := 55) (ls2 := [vr 83, vi x1, vi x2, vi x3, vi (M.1 84 (M.1 93 x3.toNatClampNeg).toNatClampNeg)]) (st2 := [.int x2, .int (M.1 84 (M.1 93 x3.toNatClampNeg).toNatClampNeg - x1)]) rfl ?_
  refine R_icf q112 rfl (decide_eq_false h4) ?_
  show Rm E 112 58 [vr 83, vi x1, vi x2, vi x3, vi (M.1 84 (M.1 93 x3.toNatClampNeg).toNatClampNeg)] [] M _ _
  refine R_S q112 7 (pc2 := 16) (ls2 := [vr 83, vi x1, vi (M.1 84 (M.1 93 x3.toNatClampNeg).toNatClampNeg - x1), vi (x3 + 1), vi (M.1 84 (M.1 93 x3.toNatClampNeg).toNatClampNeg)]) (st2 := []) rfl ?_
  exact R_w (ls := [vr 83, vi x1, vi (M.1 84 (M.1 93 x3.toNatClampNeg).toNatClampNeg - x1), vi (x3 + 1), vn]) (show lsle _ _ from ⟨rfl, ⟨rfl, ⟨rfl, ⟨rfl, trivial⟩⟩⟩⟩) k
-- 21- 40- 55+
theorem b112_16_3 {E : env} {M : mem} {rv : Option Value} {M2 : mem} {x1 x2 x3 : Int32}  (h0 : ¬ (M.1 83 14 ≤ x3)) (h1 : inR x3 60) (h2 : inR (M.1 93 x3.toNatClampNeg) 90) (h3 : ¬ (x1 ≤ M.1 84 (M.1 93 x3.toNatClampNeg).toNatClampNeg)) (h4 : (M.1 84 (M.1 93 x3.toNatClampNeg).toNatClampNeg - M.1 84 (M.1 93 x3.toNatClampNeg).toNatClampNeg) ≤ x2) (k : Rm E 112 16 [vr 83, vi (M.1 84 (M.1 93 x3.toNatClampNeg).toNatClampNeg), vi x2, vi (x3 + 1), vn] [] M rv M2) : Rm E 112 16 [vr 83, vi x1, vi x2, vi x3, vn] [] M rv M2 := by
  refine R_S q112 3 (pc2 := 21) (ls2 := [vr 83, vi x1, vi x2, vi x3, vn]) (st2 := [.int (M.1 83 14), .int x3]) rfl ?_
  refine R_icf q112 rfl (decide_eq_false h0) ?_
  show Rm E 112 24 [vr 83, vi x1, vi x2, vi x3, vn] [] M _ _
  refine R_S q112 5 (pc2 := 33) (ls2 := [vr 83, vi x1, vi x2, vi x3, vn]) (st2 := [.int x3, .ref 93, .ref 84]) rfl ?_
  refine R_ial q112 rfl rfl h1 ?_
  show Rm E 112 34 [vr 83, vi x1, vi x2, vi x3, vn] [.int (M.1 93 x3.toNatClampNeg), .ref 84] M _ _
  refine R_ial q112 rfl rfl h2 ?_
  show Rm E 112 35 [vr 83, vi x1, vi x2, vi x3, vn] [.int (M.1 84 (M.1 93 x3.toNatClampNeg).toNatClampNeg)] M _ _
  refine R_S q112 3 (pc2 := 40) (ls2 := [vr 83, vi x1, vi x2, vi x3, vi (M.1 84 (M.1 93 x3.toNatClampNeg).toNatClampNeg)]) (st2 := [.int x1, .int (M.1 84 (M.1 93 x3.toNatClampNeg).toNatClampNeg)]) rfl ?_
  refine R_icf q112 rfl (decide_eq_false h3) ?_
  show Rm E 112 43 [vr 83, vi x1, vi x2, vi x3, vi (M.1 84 (M.1 93 x3.toNatClampNeg).toNatClampNeg)] [] M _ _
  refine R_S q112 7 (pc2 := 55) (ls2 := [vr 83, vi (M.1 84 (M.1 93 x3.toNatClampNeg).toNatClampNeg), vi x2, vi x3, vi (M.1 84 (M.1 93 x3.toNatClampNeg).toNatClampNeg)]) (st2 := [.int x2, .int (M.1 84 (M.1 93 x3.toNatClampNeg).toNatClampNeg - M.1 84 (M.1 93 x3.toNatClampNeg).toNatClampNeg)]) rfl ?_
  refine R_ict q112 rfl (decide_eq_true h4) ?_
  show Rm E 112 65 [vr 83, vi (M.1 84 (M.1 93 x3.toNatClampNeg).toNatClampNeg), vi x2, vi x3, vi (M.1 84 (M.1 93 x3.toNatClampNeg).toNatClampNeg)] [] M _ _
  refine R_S q112 4 (pc2 := 16) (ls2 := [vr 83, vi (M.1 84 (M.1 93 x3.toNatClampNeg).toNatClampNeg), vi x2, vi (x3 + 1), vi (M.1 84 (M.1 93 x3.toNatClampNeg).toNatClampNeg)]) (st2 := []) rfl ?_
  exact R_w (ls := [vr 83, vi (M.1 84 (M.1 93 x3.toNatClampNeg).toNatClampNeg), vi x2, vi (x3 + 1), vn]) (show lsle _ _ from ⟨rfl, ⟨rfl, ⟨rfl, ⟨rfl, trivial⟩⟩⟩⟩) k
-- 21- 40- 55-
theorem b112_16_4 {E : env} {M : mem} {rv : Option Value} {M2 : mem} {x1 x2 x3 : Int32}  (h0 : ¬ (M.1 83 14 ≤ x3)) (h1 : inR x3 60) (h2 : inR (M.1 93 x3.toNatClampNeg) 90) (h3 : ¬ (x1 ≤ M.1 84 (M.1 93 x3.toNatClampNeg).toNatClampNeg)) (h4 : ¬ ((M.1 84 (M.1 93 x3.toNatClampNeg).toNatClampNeg - M.1 84 (M.1 93 x3.toNatClampNeg).toNatClampNeg) ≤ x2)) (k : Rm E 112 16 [vr 83, vi (M.1 84 (M.1 93 x3.toNatClampNeg).toNatClampNeg), vi (M.1 84 (M.1 93 x3.toNatClampNeg).toNatClampNeg - M.1 84 (M.1 93 x3.toNatClampNeg).toNatClampNeg), vi (x3 + 1), vn] [] M rv M2) : Rm E 112 16 [vr 83, vi x1, vi x2, vi x3, vn] [] M rv M2 := by
  refine R_S q112 3 (pc2 := 21) (ls2 := [vr 83, vi x1, vi x2, vi x3, vn]) (st2 := [.int (M.1 83 14), .int x3]) rfl ?_
  refine R_icf q112 rfl (decide_eq_false h0) ?_
  show Rm E 112 24 [vr 83, vi x1, vi x2, vi x3, vn] [] M _ _
  refine R_S q112 5 (pc2 := 33) (ls2 := [vr 83, vi x1, vi x2, vi x3, vn]) (st2 := [.int x3, .ref 93, .ref 84]) rfl ?_
  refine R_ial q112 rfl rfl h1 ?_
  show Rm E 112 34 [vr 83, vi x1, vi x2, vi x3, vn] [.int (M.1 93 x3.toNatClampNeg), .ref 84] M _ _
  refine R_ial q112 rfl rfl h2 ?_
  show Rm E 112 35 [vr 83, vi x1, vi x2, vi x3, vn] [.int (M.1 84 (M.1 93 x3.toNatClampNeg).toNatClampNeg)] M _ _
  refine R_S q112 3 (pc2 := 40) (ls2 := [vr 83, vi x1, vi x2, vi x3, vi (M.1 84 (M.1 93 x3.toNatClampNeg).toNatClampNeg)]) (st2 := [.int x1, .int (M.1 84 (M.1 93 x3.toNatClampNeg).toNatClampNeg)]) rfl ?_
  refine R_icf q112 rfl (decide_eq_false h3) ?_
  show Rm E 112 43 [vr 83, vi x1, vi x2, vi x3, vi (M.1 84 (M.1 93 x3.toNatClampNeg).toNatClampNeg)] [] M _ _
  refine R_S q112 7 (pc2 := 55) (ls2 := [vr 83, vi (M.1 84 (M.1 93 x3.toNatClampNeg).toNatClampNeg), vi x2, vi x3, vi (M.1 84 (M.1 93 x3.toNatClampNeg).toNatClampNeg)]) (st2 := [.int x2, .int (M.1 84 (M.1 93 x3.toNatClampNeg).toNatClampNeg - M.1 84 (M.1 93 x3.toNatClampNeg).toNatClampNeg)]) rfl ?_
  refine R_icf q112 rfl (decide_eq_false h4) ?_
  show Rm E 112 58 [vr 83, vi (M.1 84 (M.1 93 x3.toNatClampNeg).toNatClampNeg), vi x2, vi x3, vi (M.1 84 (M.1 93 x3.toNatClampNeg).toNatClampNeg)] [] M _ _
  refine R_S q112 7 (pc2 := 16) (ls2 := [vr 83, vi (M.1 84 (M.1 93 x3.toNatClampNeg).toNatClampNeg), vi (M.1 84 (M.1 93 x3.toNatClampNeg).toNatClampNeg - M.1 84 (M.1 93 x3.toNatClampNeg).toNatClampNeg), vi (x3 + 1), vi (M.1 84 (M.1 93 x3.toNatClampNeg).toNatClampNeg)]) (st2 := []) rfl ?_
  exact R_w (ls := [vr 83, vi (M.1 84 (M.1 93 x3.toNatClampNeg).toNatClampNeg), vi (M.1 84 (M.1 93 x3.toNatClampNeg).toNatClampNeg - M.1 84 (M.1 93 x3.toNatClampNeg).toNatClampNeg), vi (x3 + 1), vn]) (show lsle _ _ from ⟨rfl, ⟨rfl, ⟨rfl, ⟨rfl, trivial⟩⟩⟩⟩) k
-- 113 HeavyChainsModel.way(III)I  cuts [0]
theorem q113 : cdOf 113 = some mt113 := rfl
-- call X10_isPost 5+
theorem b113_0_0 {E : env} {M : mem} {x1 x2 x3 : Int32} {c1 : Int32} (h0 : Rm E 91 0 [vr 83, vi x1] [] M (some (.int c1)) M) (h1 : c1 = 0) : Rm E 113 0 [vr 83, vi x1, vi x2, vi x3] [] M (some (.int (-1))) M := by
  refine R_S q113 2 (pc2 := 2) (ls2 := [vr 83, vi x1, vi x2, vi x3]) (st2 := [.int x1, .ref 83]) rfl ?_
  refine R_call q113 rfl rfl rfl rfl rfl rfl h0 ?_
  show Rm E 113 5 [vr 83, vi x1, vi x2, vi x3] [.int c1] M _ _
  refine R_ift q113 rfl (decide_eq_true h1) ?_
  show Rm E 113 16 [vr 83, vi x1, vi x2, vi x3] [] M _ _
  refine R_S q113 1 (pc2 := 17) (ls2 := [vr 83, vi x1, vi x2, vi x3]) (st2 := [.int (-1)]) rfl ?_
  exact R_ret rfl q113 rfl rfl rfl rfl (stpR_i rfl rfl)
-- call X10_isPost 5- call X10_isPost 13+ call X10_lays 25=else
theorem b113_0_1 {E : env} {M : mem} {x1 x2 x3 : Int32} {c1 : Int32} {c2 : Int32} {N1 : mem} (h0 : Rm E 91 0 [vr 83, vi x1] [] M (some (.int c1)) M) (h1 : ¬ (c1 = 0)) (h2 : Rm E 91 0 [vr 83, vi x2] [] M (some (.int c2)) M) (h3 : ¬ c2 = 0) (h4 : Rm E 105 0 [vr 83, vi x1, vi x2, vn, vn, vn, vn] [] M none N1) (h5 : (x3).toInt < 0 ∨ 7 < (x3).toInt) : Rm E 113 0 [vr 83, vi x1, vi x2, vi x3] [] M (some (.int (-1))) N1 := by
  refine R_S q113 2 (pc2 := 2) (ls2 := [vr 83, vi x1, vi x2, vi x3]) (st2 := [.int x1, .ref 83]) rfl ?_
  refine R_call q113 rfl rfl rfl rfl rfl rfl h0 ?_
  show Rm E 113 5 [vr 83, vi x1, vi x2, vi x3] [.int c1] M _ _
  refine R_iff q113 rfl (decide_eq_false h1) ?_
  show Rm E 113 8 [vr 83, vi x1, vi x2, vi x3] [] M _ _
  refine R_S q113 2 (pc2 := 10) (ls2 := [vr 83, vi x1, vi x2, vi x3]) (st2 := [.int x2, .ref 83]) rfl ?_
  refine R_call q113 rfl rfl rfl rfl rfl rfl h2 ?_
  show Rm E 113 13 [vr 83, vi x1, vi x2, vi x3] [.int c2] M _ _
  refine R_ift q113 rfl (decide_eq_true h3) ?_
  show Rm E 113 18 [vr 83, vi x1, vi x2, vi x3] [] M _ _
  refine R_S q113 3 (pc2 := 21) (ls2 := [vr 83, vi x1, vi x2, vi x3]) (st2 := [.int x2, .int x1, .ref 83]) rfl ?_
  refine R_call q113 rfl rfl rfl rfl rfl rfl h4 ?_
  show Rm E 113 24 [vr 83, vi x1, vi x2, vi x3] [] N1 _ _
  refine R_S q113 1 (pc2 := 25) (ls2 := [vr 83, vi x1, vi x2, vi x3]) (st2 := [.int x3]) rfl ?_
  refine R_tsd q113 rfl h5 rfl ?_
  show Rm E 113 121 [vr 83, vi x1, vi x2, vi x3] [] N1 _ _
  refine R_S q113 1 (pc2 := 122) (ls2 := [vr 83, vi x1, vi x2, vi x3]) (st2 := [.int (-1)]) rfl ?_
  exact R_ret rfl q113 rfl rfl rfl rfl (stpR_i rfl rfl)
-- call X10_isPost 5- call X10_isPost 13+ call X10_lays 25=0
theorem b113_0_2 {E : env} {M : mem} {x1 x2 x3 : Int32} {c1 : Int32} {c2 : Int32} {N1 : mem} (h0 : Rm E 91 0 [vr 83, vi x1] [] M (some (.int c1)) M) (h1 : ¬ (c1 = 0)) (h2 : Rm E 91 0 [vr 83, vi x2] [] M (some (.int c2)) M) (h3 : ¬ c2 = 0) (h4 : Rm E 105 0 [vr 83, vi x1, vi x2, vn, vn, vn, vn] [] M none N1) (h5 : x3 = 0) : Rm E 113 0 [vr 83, vi x1, vi x2, vi x3] [] M (some (.int (N1.1 83 14))) N1 := by
  refine R_S q113 2 (pc2 := 2) (ls2 := [vr 83, vi x1, vi x2, vi x3]) (st2 := [.int x1, .ref 83]) rfl ?_
  refine R_call q113 rfl rfl rfl rfl rfl rfl h0 ?_
  show Rm E 113 5 [vr 83, vi x1, vi x2, vi x3] [.int c1] M _ _
  refine R_iff q113 rfl (decide_eq_false h1) ?_
  show Rm E 113 8 [vr 83, vi x1, vi x2, vi x3] [] M _ _
  refine R_S q113 2 (pc2 := 10) (ls2 := [vr 83, vi x1, vi x2, vi x3]) (st2 := [.int x2, .ref 83]) rfl ?_
  refine R_call q113 rfl rfl rfl rfl rfl rfl h2 ?_
  show Rm E 113 13 [vr 83, vi x1, vi x2, vi x3] [.int c2] M _ _
  refine R_ift q113 rfl (decide_eq_true h3) ?_
  show Rm E 113 18 [vr 83, vi x1, vi x2, vi x3] [] M _ _
  refine R_S q113 3 (pc2 := 21) (ls2 := [vr 83, vi x1, vi x2, vi x3]) (st2 := [.int x2, .int x1, .ref 83]) rfl ?_
  refine R_call q113 rfl rfl rfl rfl rfl rfl h4 ?_
  show Rm E 113 24 [vr 83, vi x1, vi x2, vi x3] [] N1 _ _
  refine R_S q113 1 (pc2 := 25) (ls2 := [vr 83, vi x1, vi x2, vi x3]) (st2 := [.int x3]) rfl ?_
  refine R_top h5 ?_
  refine R_S q113 1 (pc2 := 72) (ls2 := [vr 83, vi x1, vi x2, vi x3]) (st2 := []) rfl ?_
  refine R_S q113 2 (pc2 := 76) (ls2 := [vr 83, vi x1, vi x2, vi x3]) (st2 := [.int (N1.1 83 14)]) rfl ?_
  exact R_ret rfl q113 rfl rfl rfl rfl (stpR_i rfl rfl)
-- call X10_isPost 5- call X10_isPost 13+ call X10_lays 25=1 call X10_pieces
theorem b113_0_3 {E : env} {M : mem} {x1 x2 x3 : Int32} {c1 : Int32} {c2 : Int32} {N1 : mem} {c4 : Int32} (h0 : Rm E 91 0 [vr 83, vi x1] [] M (some (.int c1)) M) (h1 : ¬ (c1 = 0)) (h2 : Rm E 91 0 [vr 83, vi x2] [] M (some (.int c2)) M) (h3 : ¬ c2 = 0) (h4 : Rm E 105 0 [vr 83, vi x1, vi x2, vn, vn, vn, vn] [] M none N1) (h5 : x3 = 1) (h6 : Rm E 111 0 [vr 83, vn, vn] [] N1 (some (.int c4)) N1) : Rm E 113 0 [vr 83, vi x1, vi x2, vi x3] [] M (some (.int c4)) N1 := by
  refine R_S q113 2 (pc2 := 2) (ls2 := [vr 83, vi x1, vi x2, vi x3]) (st2 := [.int x1, .ref 83]) rfl ?_
  refine R_call q113 rfl rfl rfl rfl rfl rfl h0 ?_
  show Rm E 113 5 [vr 83, vi x1, vi x2, vi x3] [.int c1] M _ _
  refine R_iff q113 rfl (decide_eq_false h1) ?_
  show Rm E 113 8 [vr 83, vi x1, vi x2, vi x3] [] M _ _
  refine R_S q113 2 (pc2 := 10) (ls2 := [vr 83, vi x1, vi x2, vi x3]) (st2 := [.int x2, .ref 83]) rfl ?_
  refine R_call q113 rfl rfl rfl rfl rfl rfl h2 ?_
  show Rm E 113 13 [vr 83, vi x1, vi x2, vi x3] [.int c2] M _ _
  refine R_ift q113 rfl (decide_eq_true h3) ?_
  show Rm E 113 18 [vr 83, vi x1, vi x2, vi x3] [] M _ _
  refine R_S q113 3 (pc2 := 21) (ls2 := [vr 83, vi x1, vi x2, vi x3]) (st2 := [.int x2, .int x1, .ref 83]) rfl ?_
  refine R_call q113 rfl rfl rfl rfl rfl rfl h4 ?_
  show Rm E 113 24 [vr 83, vi x1, vi x2, vi x3] [] N1 _ _
  refine R_S q113 1 (pc2 := 25) (ls2 := [vr 83, vi x1, vi x2, vi x3]) (st2 := [.int x3]) rfl ?_
  refine R_top h5 ?_
  refine R_S q113 1 (pc2 := 77) (ls2 := [vr 83, vi x1, vi x2, vi x3]) (st2 := []) rfl ?_
  refine R_S q113 1 (pc2 := 78) (ls2 := [vr 83, vi x1, vi x2, vi x3]) (st2 := [.ref 83]) rfl ?_
  refine R_call q113 rfl rfl rfl rfl rfl rfl h6 ?_
  show Rm E 113 81 [vr 83, vi x1, vi x2, vi x3] [.int c4] N1 _ _
  exact R_ret rfl q113 rfl rfl rfl rfl (stpR_i rfl rfl)
-- call X10_isPost 5- call X10_isPost 13+ call X10_lays 25=2
theorem b113_0_4 {E : env} {M : mem} {x1 x2 x3 : Int32} {c1 : Int32} {c2 : Int32} {N1 : mem} (h0 : Rm E 91 0 [vr 83, vi x1] [] M (some (.int c1)) M) (h1 : ¬ (c1 = 0)) (h2 : Rm E 91 0 [vr 83, vi x2] [] M (some (.int c2)) M) (h3 : ¬ c2 = 0) (h4 : Rm E 105 0 [vr 83, vi x1, vi x2, vn, vn, vn, vn] [] M none N1) (h5 : x3 = 2) : Rm E 113 0 [vr 83, vi x1, vi x2, vi x3] [] M (some (.int (N1.1 83 15))) N1 := by
  refine R_S q113 2 (pc2 := 2) (ls2 := [vr 83, vi x1, vi x2, vi x3]) (st2 := [.int x1, .ref 83]) rfl ?_
  refine R_call q113 rfl rfl rfl rfl rfl rfl h0 ?_
  show Rm E 113 5 [vr 83, vi x1, vi x2, vi x3] [.int c1] M _ _
  refine R_iff q113 rfl (decide_eq_false h1) ?_
  show Rm E 113 8 [vr 83, vi x1, vi x2, vi x3] [] M _ _
  refine R_S q113 2 (pc2 := 10) (ls2 := [vr 83, vi x1, vi x2, vi x3]) (st2 := [.int x2, .ref 83]) rfl ?_
  refine R_call q113 rfl rfl rfl rfl rfl rfl h2 ?_
  show Rm E 113 13 [vr 83, vi x1, vi x2, vi x3] [.int c2] M _ _
  refine R_ift q113 rfl (decide_eq_true h3) ?_
  show Rm E 113 18 [vr 83, vi x1, vi x2, vi x3] [] M _ _
  refine R_S q113 3 (pc2 := 21) (ls2 := [vr 83, vi x1, vi x2, vi x3]) (st2 := [.int x2, .int x1, .ref 83]) rfl ?_
  refine R_call q113 rfl rfl rfl rfl rfl rfl h4 ?_
  show Rm E 113 24 [vr 83, vi x1, vi x2, vi x3] [] N1 _ _
  refine R_S q113 1 (pc2 := 25) (ls2 := [vr 83, vi x1, vi x2, vi x3]) (st2 := [.int x3]) rfl ?_
  refine R_top h5 ?_
  refine R_S q113 1 (pc2 := 82) (ls2 := [vr 83, vi x1, vi x2, vi x3]) (st2 := []) rfl ?_
  refine R_S q113 2 (pc2 := 86) (ls2 := [vr 83, vi x1, vi x2, vi x3]) (st2 := [.int (N1.1 83 15)]) rfl ?_
  exact R_ret rfl q113 rfl rfl rfl rfl (stpR_i rfl rfl)
-- call X10_isPost 5- call X10_isPost 13+ call X10_lays 25=3 call X10_sumOf
theorem b113_0_5 {E : env} {M : mem} {x1 x2 x3 : Int32} {c1 : Int32} {c2 : Int32} {N1 : mem} {c4 : Int32} (h0 : Rm E 91 0 [vr 83, vi x1] [] M (some (.int c1)) M) (h1 : ¬ (c1 = 0)) (h2 : Rm E 91 0 [vr 83, vi x2] [] M (some (.int c2)) M) (h3 : ¬ c2 = 0) (h4 : Rm E 105 0 [vr 83, vi x1, vi x2, vn, vn, vn, vn] [] M none N1) (h5 : x3 = 3) (h6 : Rm E 107 0 [vr 83, vn, vn] [] N1 (some (.int c4)) N1) : Rm E 113 0 [vr 83, vi x1, vi x2, vi x3] [] M (some (.int (c4 + 1000000))) N1 := by
  refine R_S q113 2 (pc2 := 2) (ls2 := [vr 83, vi x1, vi x2, vi x3]) (st2 := [.int x1, .ref 83]) rfl ?_
  refine R_call q113 rfl rfl rfl rfl rfl rfl h0 ?_
  show Rm E 113 5 [vr 83, vi x1, vi x2, vi x3] [.int c1] M _ _
  refine R_iff q113 rfl (decide_eq_false h1) ?_
  show Rm E 113 8 [vr 83, vi x1, vi x2, vi x3] [] M _ _
  refine R_S q113 2 (pc2 := 10) (ls2 := [vr 83, vi x1, vi x2, vi x3]) (st2 := [.int x2, .ref 83]) rfl ?_
  refine R_call q113 rfl rfl rfl rfl rfl rfl h2 ?_
  show Rm E 113 13 [vr 83, vi x1, vi x2, vi x3] [.int c2] M _ _
  refine R_ift q113 rfl (decide_eq_true h3) ?_
  show Rm E 113 18 [vr 83, vi x1, vi x2, vi x3] [] M _ _
  refine R_S q113 3 (pc2 := 21) (ls2 := [vr 83, vi x1, vi x2, vi x3]) (st2 := [.int x2, .int x1, .ref 83]) rfl ?_
  refine R_call q113 rfl rfl rfl rfl rfl rfl h4 ?_
  show Rm E 113 24 [vr 83, vi x1, vi x2, vi x3] [] N1 _ _
  refine R_S q113 1 (pc2 := 25) (ls2 := [vr 83, vi x1, vi x2, vi x3]) (st2 := [.int x3]) rfl ?_
  refine R_top h5 ?_
  refine R_S q113 1 (pc2 := 87) (ls2 := [vr 83, vi x1, vi x2, vi x3]) (st2 := []) rfl ?_
  refine R_S q113 1 (pc2 := 88) (ls2 := [vr 83, vi x1, vi x2, vi x3]) (st2 := [.ref 83]) rfl ?_
  refine R_call q113 rfl rfl rfl rfl rfl rfl h6 ?_
  show Rm E 113 91 [vr 83, vi x1, vi x2, vi x3] [.int c4] N1 _ _
  refine R_S q113 2 (pc2 := 94) (ls2 := [vr 83, vi x1, vi x2, vi x3]) (st2 := [.int (c4 + 1000000)]) rfl ?_
  exact R_ret rfl q113 rfl rfl rfl rfl (stpR_i rfl rfl)
-- call X10_isPost 5- call X10_isPost 13+ call X10_lays 25=4 call X10_greatest
theorem b113_0_6 {E : env} {M : mem} {x1 x2 x3 : Int32} {c1 : Int32} {c2 : Int32} {N1 : mem} {c4 : Int32} (h0 : Rm E 91 0 [vr 83, vi x1] [] M (some (.int c1)) M) (h1 : ¬ (c1 = 0)) (h2 : Rm E 91 0 [vr 83, vi x2] [] M (some (.int c2)) M) (h3 : ¬ c2 = 0) (h4 : Rm E 105 0 [vr 83, vi x1, vi x2, vn, vn, vn, vn] [] M none N1) (h5 : x3 = 4) (h6 : Rm E 108 0 [vr 83, vn, vn] [] N1 (some (.int c4)) N1) : Rm E 113 0 [vr 83, vi x1, vi x2, vi x3] [] M (some (.int (c4 + 1000000))) N1 := by
  refine R_S q113 2 (pc2 := 2) (ls2 := [vr 83, vi x1, vi x2, vi x3]) (st2 := [.int x1, .ref 83]) rfl ?_
  refine R_call q113 rfl rfl rfl rfl rfl rfl h0 ?_
  show Rm E 113 5 [vr 83, vi x1, vi x2, vi x3] [.int c1] M _ _
  refine R_iff q113 rfl (decide_eq_false h1) ?_
  show Rm E 113 8 [vr 83, vi x1, vi x2, vi x3] [] M _ _
  refine R_S q113 2 (pc2 := 10) (ls2 := [vr 83, vi x1, vi x2, vi x3]) (st2 := [.int x2, .ref 83]) rfl ?_
  refine R_call q113 rfl rfl rfl rfl rfl rfl h2 ?_
  show Rm E 113 13 [vr 83, vi x1, vi x2, vi x3] [.int c2] M _ _
  refine R_ift q113 rfl (decide_eq_true h3) ?_
  show Rm E 113 18 [vr 83, vi x1, vi x2, vi x3] [] M _ _
  refine R_S q113 3 (pc2 := 21) (ls2 := [vr 83, vi x1, vi x2, vi x3]) (st2 := [.int x2, .int x1, .ref 83]) rfl ?_
  refine R_call q113 rfl rfl rfl rfl rfl rfl h4 ?_
  show Rm E 113 24 [vr 83, vi x1, vi x2, vi x3] [] N1 _ _
  refine R_S q113 1 (pc2 := 25) (ls2 := [vr 83, vi x1, vi x2, vi x3]) (st2 := [.int x3]) rfl ?_
  refine R_top h5 ?_
  refine R_S q113 1 (pc2 := 95) (ls2 := [vr 83, vi x1, vi x2, vi x3]) (st2 := []) rfl ?_
  refine R_S q113 1 (pc2 := 96) (ls2 := [vr 83, vi x1, vi x2, vi x3]) (st2 := [.ref 83]) rfl ?_
  refine R_call q113 rfl rfl rfl rfl rfl rfl h6 ?_
  show Rm E 113 99 [vr 83, vi x1, vi x2, vi x3] [.int c4] N1 _ _
  refine R_S q113 2 (pc2 := 102) (ls2 := [vr 83, vi x1, vi x2, vi x3]) (st2 := [.int (c4 + 1000000)]) rfl ?_
  exact R_ret rfl q113 rfl rfl rfl rfl (stpR_i rfl rfl)
-- call X10_isPost 5- call X10_isPost 13+ call X10_lays 25=5 call X10_least
theorem b113_0_7 {E : env} {M : mem} {x1 x2 x3 : Int32} {c1 : Int32} {c2 : Int32} {N1 : mem} {c4 : Int32} (h0 : Rm E 91 0 [vr 83, vi x1] [] M (some (.int c1)) M) (h1 : ¬ (c1 = 0)) (h2 : Rm E 91 0 [vr 83, vi x2] [] M (some (.int c2)) M) (h3 : ¬ c2 = 0) (h4 : Rm E 105 0 [vr 83, vi x1, vi x2, vn, vn, vn, vn] [] M none N1) (h5 : x3 = 5) (h6 : Rm E 109 0 [vr 83, vn, vn] [] N1 (some (.int c4)) N1) : Rm E 113 0 [vr 83, vi x1, vi x2, vi x3] [] M (some (.int (c4 + 1000000))) N1 := by
  refine R_S q113 2 (pc2 := 2) (ls2 := [vr 83, vi x1, vi x2, vi x3]) (st2 := [.int x1, .ref 83]) rfl ?_
  refine R_call q113 rfl rfl rfl rfl rfl rfl h0 ?_
  show Rm E 113 5 [vr 83, vi x1, vi x2, vi x3] [.int c1] M _ _
  refine R_iff q113 rfl (decide_eq_false h1) ?_
  show Rm E 113 8 [vr 83, vi x1, vi x2, vi x3] [] M _ _
  refine R_S q113 2 (pc2 := 10) (ls2 := [vr 83, vi x1, vi x2, vi x3]) (st2 := [.int x2, .ref 83]) rfl ?_
  refine R_call q113 rfl rfl rfl rfl rfl rfl h2 ?_
  show Rm E 113 13 [vr 83, vi x1, vi x2, vi x3] [.int c2] M _ _
  refine R_ift q113 rfl (decide_eq_true h3) ?_
  show Rm E 113 18 [vr 83, vi x1, vi x2, vi x3] [] M _ _
  refine R_S q113 3 (pc2 := 21) (ls2 := [vr 83, vi x1, vi x2, vi x3]) (st2 := [.int x2, .int x1, .ref 83]) rfl ?_
  refine R_call q113 rfl rfl rfl rfl rfl rfl h4 ?_
  show Rm E 113 24 [vr 83, vi x1, vi x2, vi x3] [] N1 _ _
  refine R_S q113 1 (pc2 := 25) (ls2 := [vr 83, vi x1, vi x2, vi x3]) (st2 := [.int x3]) rfl ?_
  refine R_top h5 ?_
  refine R_S q113 1 (pc2 := 103) (ls2 := [vr 83, vi x1, vi x2, vi x3]) (st2 := []) rfl ?_
  refine R_S q113 1 (pc2 := 104) (ls2 := [vr 83, vi x1, vi x2, vi x3]) (st2 := [.ref 83]) rfl ?_
  refine R_call q113 rfl rfl rfl rfl rfl rfl h6 ?_
  show Rm E 113 107 [vr 83, vi x1, vi x2, vi x3] [.int c4] N1 _ _
  refine R_S q113 2 (pc2 := 110) (ls2 := [vr 83, vi x1, vi x2, vi x3]) (st2 := [.int (c4 + 1000000)]) rfl ?_
  exact R_ret rfl q113 rfl rfl rfl rfl (stpR_i rfl rfl)
-- call X10_isPost 5- call X10_isPost 13+ call X10_lays 25=6 call X10_gain
theorem b113_0_8 {E : env} {M : mem} {x1 x2 x3 : Int32} {c1 : Int32} {c2 : Int32} {N1 : mem} {c4 : Int32} (h0 : Rm E 91 0 [vr 83, vi x1] [] M (some (.int c1)) M) (h1 : ¬ (c1 = 0)) (h2 : Rm E 91 0 [vr 83, vi x2] [] M (some (.int c2)) M) (h3 : ¬ c2 = 0) (h4 : Rm E 105 0 [vr 83, vi x1, vi x2, vn, vn, vn, vn] [] M none N1) (h5 : x3 = 6) (h6 : Rm E 112 0 [vr 83, vn, vn, vn, vn] [] N1 (some (.int c4)) N1) : Rm E 113 0 [vr 83, vi x1, vi x2, vi x3] [] M (some (.int c4)) N1 := by
  refine R_S q113 2 (pc2 := 2) (ls2 := [vr 83, vi x1, vi x2, vi x3]) (st2 := [.int x1, .ref 83]) rfl ?_
  refine R_call q113 rfl rfl rfl rfl rfl rfl h0 ?_
  show Rm E 113 5 [vr 83, vi x1, vi x2, vi x3] [.int c1] M _ _
  refine R_iff q113 rfl (decide_eq_false h1) ?_
  show Rm E 113 8 [vr 83, vi x1, vi x2, vi x3] [] M _ _
  refine R_S q113 2 (pc2 := 10) (ls2 := [vr 83, vi x1, vi x2, vi x3]) (st2 := [.int x2, .ref 83]) rfl ?_
  refine R_call q113 rfl rfl rfl rfl rfl rfl h2 ?_
  show Rm E 113 13 [vr 83, vi x1, vi x2, vi x3] [.int c2] M _ _
  refine R_ift q113 rfl (decide_eq_true h3) ?_
  show Rm E 113 18 [vr 83, vi x1, vi x2, vi x3] [] M _ _
  refine R_S q113 3 (pc2 := 21) (ls2 := [vr 83, vi x1, vi x2, vi x3]) (st2 := [.int x2, .int x1, .ref 83]) rfl ?_
  refine R_call q113 rfl rfl rfl rfl rfl rfl h4 ?_
  show Rm E 113 24 [vr 83, vi x1, vi x2, vi x3] [] N1 _ _
  refine R_S q113 1 (pc2 := 25) (ls2 := [vr 83, vi x1, vi x2, vi x3]) (st2 := [.int x3]) rfl ?_
  refine R_top h5 ?_
  refine R_S q113 1 (pc2 := 111) (ls2 := [vr 83, vi x1, vi x2, vi x3]) (st2 := []) rfl ?_
  refine R_S q113 1 (pc2 := 112) (ls2 := [vr 83, vi x1, vi x2, vi x3]) (st2 := [.ref 83]) rfl ?_
  refine R_call q113 rfl rfl rfl rfl rfl rfl h6 ?_
  show Rm E 113 115 [vr 83, vi x1, vi x2, vi x3] [.int c4] N1 _ _
  exact R_ret rfl q113 rfl rfl rfl rfl (stpR_i rfl rfl)
-- call X10_isPost 5- call X10_isPost 13+ call X10_lays 25=7 call X10_markedOf
theorem b113_0_9 {E : env} {M : mem} {x1 x2 x3 : Int32} {c1 : Int32} {c2 : Int32} {N1 : mem} {c4 : Int32} (h0 : Rm E 91 0 [vr 83, vi x1] [] M (some (.int c1)) M) (h1 : ¬ (c1 = 0)) (h2 : Rm E 91 0 [vr 83, vi x2] [] M (some (.int c2)) M) (h3 : ¬ c2 = 0) (h4 : Rm E 105 0 [vr 83, vi x1, vi x2, vn, vn, vn, vn] [] M none N1) (h5 : x3 = 7) (h6 : Rm E 110 0 [vr 83, vn, vn] [] N1 (some (.int c4)) N1) : Rm E 113 0 [vr 83, vi x1, vi x2, vi x3] [] M (some (.int c4)) N1 := by
  refine R_S q113 2 (pc2 := 2) (ls2 := [vr 83, vi x1, vi x2, vi x3]) (st2 := [.int x1, .ref 83]) rfl ?_
  refine R_call q113 rfl rfl rfl rfl rfl rfl h0 ?_
  show Rm E 113 5 [vr 83, vi x1, vi x2, vi x3] [.int c1] M _ _
  refine R_iff q113 rfl (decide_eq_false h1) ?_
  show Rm E 113 8 [vr 83, vi x1, vi x2, vi x3] [] M _ _
  refine R_S q113 2 (pc2 := 10) (ls2 := [vr 83, vi x1, vi x2, vi x3]) (st2 := [.int x2, .ref 83]) rfl ?_
  refine R_call q113 rfl rfl rfl rfl rfl rfl h2 ?_
  show Rm E 113 13 [vr 83, vi x1, vi x2, vi x3] [.int c2] M _ _
  refine R_ift q113 rfl (decide_eq_true h3) ?_
  show Rm E 113 18 [vr 83, vi x1, vi x2, vi x3] [] M _ _
  refine R_S q113 3 (pc2 := 21) (ls2 := [vr 83, vi x1, vi x2, vi x3]) (st2 := [.int x2, .int x1, .ref 83]) rfl ?_
  refine R_call q113 rfl rfl rfl rfl rfl rfl h4 ?_
  show Rm E 113 24 [vr 83, vi x1, vi x2, vi x3] [] N1 _ _
  refine R_S q113 1 (pc2 := 25) (ls2 := [vr 83, vi x1, vi x2, vi x3]) (st2 := [.int x3]) rfl ?_
  refine R_top h5 ?_
  refine R_S q113 1 (pc2 := 116) (ls2 := [vr 83, vi x1, vi x2, vi x3]) (st2 := []) rfl ?_
  refine R_S q113 1 (pc2 := 117) (ls2 := [vr 83, vi x1, vi x2, vi x3]) (st2 := [.ref 83]) rfl ?_
  refine R_call q113 rfl rfl rfl rfl rfl rfl h6 ?_
  show Rm E 113 120 [vr 83, vi x1, vi x2, vi x3] [.int c4] N1 _ _
  exact R_ret rfl q113 rfl rfl rfl rfl (stpR_i rfl rfl)
-- call X10_isPost 5- call X10_isPost 13-
theorem b113_0_10 {E : env} {M : mem} {x1 x2 x3 : Int32} {c1 : Int32} {c2 : Int32} (h0 : Rm E 91 0 [vr 83, vi x1] [] M (some (.int c1)) M) (h1 : ¬ (c1 = 0)) (h2 : Rm E 91 0 [vr 83, vi x2] [] M (some (.int c2)) M) (h3 : ¬ (¬ c2 = 0)) : Rm E 113 0 [vr 83, vi x1, vi x2, vi x3] [] M (some (.int (-1))) M := by
  refine R_S q113 2 (pc2 := 2) (ls2 := [vr 83, vi x1, vi x2, vi x3]) (st2 := [.int x1, .ref 83]) rfl ?_
  refine R_call q113 rfl rfl rfl rfl rfl rfl h0 ?_
  show Rm E 113 5 [vr 83, vi x1, vi x2, vi x3] [.int c1] M _ _
  refine R_iff q113 rfl (decide_eq_false h1) ?_
  show Rm E 113 8 [vr 83, vi x1, vi x2, vi x3] [] M _ _
  refine R_S q113 2 (pc2 := 10) (ls2 := [vr 83, vi x1, vi x2, vi x3]) (st2 := [.int x2, .ref 83]) rfl ?_
  refine R_call q113 rfl rfl rfl rfl rfl rfl h2 ?_
  show Rm E 113 13 [vr 83, vi x1, vi x2, vi x3] [.int c2] M _ _
  refine R_iff q113 rfl (decide_eq_false h3) ?_
  show Rm E 113 16 [vr 83, vi x1, vi x2, vi x3] [] M _ _
  refine R_S q113 1 (pc2 := 17) (ls2 := [vr 83, vi x1, vi x2, vi x3]) (st2 := [.int (-1)]) rfl ?_
  exact R_ret rfl q113 rfl rfl rfl rfl (stpR_i rfl rfl)
-- 114 HeavyChainsModel.step(III)I  cuts [0]
theorem q114 : cdOf 114 = some mt114 := rfl
-- call X10_isPost 5+
theorem b114_0_0 {E : env} {M : mem} {x1 x2 x3 : Int32} {c1 : Int32} (h0 : Rm E 91 0 [vr 83, vi x1] [] M (some (.int c1)) M) (h1 : c1 = 0) : Rm E 114 0 [vr 83, vi x1, vi x2, vi x3] [] M (some (.int (-1))) M := by
  refine R_S q114 2 (pc2 := 2) (ls2 := [vr 83, vi x1, vi x2, vi x3]) (st2 := [.int x1, .ref 83]) rfl ?_
  refine R_call q114 rfl rfl rfl rfl rfl rfl h0 ?_
  show Rm E 114 5 [vr 83, vi x1, vi x2, vi x3] [.int c1] M _ _
  refine R_ift q114 rfl (decide_eq_true h1) ?_
  show Rm E 114 20 [vr 83, vi x1, vi x2, vi x3] [] M _ _
  refine R_S q114 1 (pc2 := 21) (ls2 := [vr 83, vi x1, vi x2, vi x3]) (st2 := [.int (-1)]) rfl ?_
  exact R_ret rfl q114 rfl rfl rfl rfl (stpR_i rfl rfl)
-- call X10_isPost 5- call X10_isPost 13+
theorem b114_0_1 {E : env} {M : mem} {x1 x2 x3 : Int32} {c1 : Int32} {c2 : Int32} (h0 : Rm E 91 0 [vr 83, vi x1] [] M (some (.int c1)) M) (h1 : ¬ (c1 = 0)) (h2 : Rm E 91 0 [vr 83, vi x2] [] M (some (.int c2)) M) (h3 : c2 = 0) : Rm E 114 0 [vr 83, vi x1, vi x2, vi x3] [] M (some (.int (-1))) M := by
  refine R_S q114 2 (pc2 := 2) (ls2 := [vr 83, vi x1, vi x2, vi x3]) (st2 := [.int x1, .ref 83]) rfl ?_
  refine R_call q114 rfl rfl rfl rfl rfl rfl h0 ?_
  show Rm E 114 5 [vr 83, vi x1, vi x2, vi x3] [.int c1] M _ _
  refine R_iff q114 rfl (decide_eq_false h1) ?_
  show Rm E 114 8 [vr 83, vi x1, vi x2, vi x3] [] M _ _
  refine R_S q114 2 (pc2 := 10) (ls2 := [vr 83, vi x1, vi x2, vi x3]) (st2 := [.int x2, .ref 83]) rfl ?_
  refine R_call q114 rfl rfl rfl rfl rfl rfl h2 ?_
  show Rm E 114 13 [vr 83, vi x1, vi x2, vi x3] [.int c2] M _ _
  refine R_ift q114 rfl (decide_eq_true h3) ?_
  show Rm E 114 20 [vr 83, vi x1, vi x2, vi x3] [] M _ _
  refine R_S q114 1 (pc2 := 21) (ls2 := [vr 83, vi x1, vi x2, vi x3]) (st2 := [.int (-1)]) rfl ?_
  exact R_ret rfl q114 rfl rfl rfl rfl (stpR_i rfl rfl)
-- call X10_isPost 5- call X10_isPost 13- 17+ call X10_lays 33+
theorem b114_0_2 {E : env} {M : mem} {x1 x2 x3 : Int32} {c1 : Int32} {c2 : Int32} {N1 : mem} (h0 : Rm E 91 0 [vr 83, vi x1] [] M (some (.int c1)) M) (h1 : ¬ (c1 = 0)) (h2 : Rm E 91 0 [vr 83, vi x2] [] M (some (.int c2)) M) (h3 : ¬ (c2 = 0)) (h4 : 0 ≤ x3) (h5 : Rm E 105 0 [vr 83, vi x1, vi x2, vn, vn, vn, vn] [] M none N1) (h6 : N1.1 83 14 ≤ x3) : Rm E 114 0 [vr 83, vi x1, vi x2, vi x3] [] M (some (.int (-4))) N1 := by
  refine R_S q114 2 (pc2 := 2) (ls2 := [vr 83, vi x1, vi x2, vi x3]) (st2 := [.int x1, .ref 83]) rfl ?_
  refine R_call q114 rfl rfl rfl rfl rfl rfl h0 ?_
  show Rm E 114 5 [vr 83, vi x1, vi x2, vi x3] [.int c1] M _ _
  refine R_iff q114 rfl (decide_eq_false h1) ?_
  show Rm E 114 8 [vr 83, vi x1, vi x2, vi x3] [] M _ _
  refine R_S q114 2 (pc2 := 10) (ls2 := [vr 83, vi x1, vi x2, vi x3]) (st2 := [.int x2, .ref 83]) rfl ?_
  refine R_call q114 rfl rfl rfl rfl rfl rfl h2 ?_
  show Rm E 114 13 [vr 83, vi x1, vi x2, vi x3] [.int c2] M _ _
  refine R_iff q114 rfl (decide_eq_false h3) ?_
  show Rm E 114 16 [vr 83, vi x1, vi x2, vi x3] [] M _ _
  refine R_S q114 1 (pc2 := 17) (ls2 := [vr 83, vi x1, vi x2, vi x3]) (st2 := [.int x3]) rfl ?_
  refine R_ift q114 rfl (decide_eq_true h4) ?_
  show Rm E 114 22 [vr 83, vi x1, vi x2, vi x3] [] M _ _
  refine R_S q114 3 (pc2 := 25) (ls2 := [vr 83, vi x1, vi x2, vi x3]) (st2 := [.int x2, .int x1, .ref 83]) rfl ?_
  refine R_call q114 rfl rfl rfl rfl rfl rfl h5 ?_
  show Rm E 114 28 [vr 83, vi x1, vi x2, vi x3] [] N1 _ _
  refine R_S q114 3 (pc2 := 33) (ls2 := [vr 83, vi x1, vi x2, vi x3]) (st2 := [.int (N1.1 83 14), .int x3]) rfl ?_
  refine R_ict q114 rfl (decide_eq_true h6) ?_
  show Rm E 114 45 [vr 83, vi x1, vi x2, vi x3] [] N1 _ _
  refine R_S q114 1 (pc2 := 47) (ls2 := [vr 83, vi x1, vi x2, vi x3]) (st2 := [.int (-4)]) rfl ?_
  exact R_ret rfl q114 rfl rfl rfl rfl (stpR_i rfl rfl)
-- call X10_isPost 5- call X10_isPost 13- 17+ call X10_lays 33-
theorem b114_0_3 {E : env} {M : mem} {x1 x2 x3 : Int32} {c1 : Int32} {c2 : Int32} {N1 : mem} (h0 : Rm E 91 0 [vr 83, vi x1] [] M (some (.int c1)) M) (h1 : ¬ (c1 = 0)) (h2 : Rm E 91 0 [vr 83, vi x2] [] M (some (.int c2)) M) (h3 : ¬ (c2 = 0)) (h4 : 0 ≤ x3) (h5 : Rm E 105 0 [vr 83, vi x1, vi x2, vn, vn, vn, vn] [] M none N1) (h6 : ¬ (N1.1 83 14 ≤ x3)) (h7 : inR x3 60) : Rm E 114 0 [vr 83, vi x1, vi x2, vi x3] [] M (some (.int (N1.1 93 x3.toNatClampNeg))) N1 := by
  refine R_S q114 2 (pc2 := 2) (ls2 := [vr 83, vi x1, vi x2, vi x3]) (st2 := [.int x1, .ref 83]) rfl ?_
  refine R_call q114 rfl rfl rfl rfl rfl rfl h0 ?_
  show Rm E 114 5 [vr 83, vi x1, vi x2, vi x3] [.int c1] M _ _
  refine R_iff q114 rfl (decide_eq_false h1) ?_
  show Rm E 114 8 [vr 83, vi x1, vi x2, vi x3] [] M _ _
  refine R_S q114 2 (pc2 := 10) (ls2 := [vr 83, vi x1, vi x2, vi x3]) (st2 := [.int x2, .ref 83]) rfl ?_
  refine R_call q114 rfl rfl rfl rfl rfl rfl h2 ?_
  show Rm E 114 13 [vr 83, vi x1, vi x2, vi x3] [.int c2] M _ _
  refine R_iff q114 rfl (decide_eq_false h3) ?_
  show Rm E 114 16 [vr 83, vi x1, vi x2, vi x3] [] M _ _
  refine R_S q114 1 (pc2 := 17) (ls2 := [vr 83, vi x1, vi x2, vi x3]) (st2 := [.int x3]) rfl ?_
  refine R_ift q114 rfl (decide_eq_true h4) ?_
  show Rm E 114 22 [vr 83, vi x1, vi x2, vi x3] [] M _ _
  refine R_S q114 3 (pc2 := 25) (ls2 := [vr 83, vi x1, vi x2, vi x3]) (st2 := [.int x2, .int x1, .ref 83]) rfl ?_
  refine R_call q114 rfl rfl rfl rfl rfl rfl h5 ?_
  show Rm E 114 28 [vr 83, vi x1, vi x2, vi x3] [] N1 _ _
  refine R_S q114 3 (pc2 := 33) (ls2 := [vr 83, vi x1, vi x2, vi x3]) (st2 := [.int (N1.1 83 14), .int x3]) rfl ?_
  refine R_icf q114 rfl (decide_eq_false h6) ?_
  show Rm E 114 36 [vr 83, vi x1, vi x2, vi x3] [] N1 _ _
  refine R_S q114 3 (pc2 := 41) (ls2 := [vr 83, vi x1, vi x2, vi x3]) (st2 := [.int x3, .ref 93]) rfl ?_
  refine R_ial q114 rfl rfl h7 ?_
  show Rm E 114 42 [vr 83, vi x1, vi x2, vi x3] [.int (N1.1 93 x3.toNatClampNeg)] N1 _ _
  refine R_S q114 1 (pc2 := 47) (ls2 := [vr 83, vi x1, vi x2, vi x3]) (st2 := [.int (N1.1 93 x3.toNatClampNeg)]) rfl ?_
  exact R_ret rfl q114 rfl rfl rfl rfl (stpR_i rfl rfl)
-- call X10_isPost 5- call X10_isPost 13- 17-
theorem b114_0_4 {E : env} {M : mem} {x1 x2 x3 : Int32} {c1 : Int32} {c2 : Int32} (h0 : Rm E 91 0 [vr 83, vi x1] [] M (some (.int c1)) M) (h1 : ¬ (c1 = 0)) (h2 : Rm E 91 0 [vr 83, vi x2] [] M (some (.int c2)) M) (h3 : ¬ (c2 = 0)) (h4 : ¬ (0 ≤ x3)) : Rm E 114 0 [vr 83, vi x1, vi x2, vi x3] [] M (some (.int (-1))) M := by
  refine R_S q114 2 (pc2 := 2) (ls2 := [vr 83, vi x1, vi x2, vi x3]) (st2 := [.int x1, .ref 83]) rfl ?_
  refine R_call q114 rfl rfl rfl rfl rfl rfl h0 ?_
  show Rm E 114 5 [vr 83, vi x1, vi x2, vi x3] [.int c1] M _ _
  refine R_iff q114 rfl (decide_eq_false h1) ?_
  show Rm E 114 8 [vr 83, vi x1, vi x2, vi x3] [] M _ _
  refine R_S q114 2 (pc2 := 10) (ls2 := [vr 83, vi x1, vi x2, vi x3]) (st2 := [.int x2, .ref 83]) rfl ?_
  refine R_call q114 rfl rfl rfl rfl rfl rfl h2 ?_
  show Rm E 114 13 [vr 83, vi x1, vi x2, vi x3] [.int c2] M _ _
  refine R_iff q114 rfl (decide_eq_false h3) ?_
  show Rm E 114 16 [vr 83, vi x1, vi x2, vi x3] [] M _ _
  refine R_S q114 1 (pc2 := 17) (ls2 := [vr 83, vi x1, vi x2, vi x3]) (st2 := [.int x3]) rfl ?_
  refine R_iff q114 rfl (decide_eq_false h4) ?_
  show Rm E 114 20 [vr 83, vi x1, vi x2, vi x3] [] M _ _
  refine R_S q114 1 (pc2 := 21) (ls2 := [vr 83, vi x1, vi x2, vi x3]) (st2 := [.int (-1)]) rfl ?_
  exact R_ret rfl q114 rfl rfl rfl rfl (stpR_i rfl rfl)
-- 115 HeavyChainsModel.through(III)I  cuts [0, 42]
theorem q115 : cdOf 115 = some mt115 := rfl
-- call X10_isPost 5+
theorem b115_0_0 {E : env} {M : mem} {x1 x2 x3 : Int32} {c1 : Int32} (h0 : Rm E 91 0 [vr 83, vi x1] [] M (some (.int c1)) M) (h1 : c1 = 0) : Rm E 115 0 [vr 83, vi x1, vi x2, vi x3, vn, vn] [] M (some (.int (-1))) M := by
  refine R_S q115 2 (pc2 := 2) (ls2 := [vr 83, vi x1, vi x2, vi x3, vn, vn]) (st2 := [.int x1, .ref 83]) rfl ?_
  refine R_call q115 rfl rfl rfl rfl rfl rfl h0 ?_
  show Rm E 115 5 [vr 83, vi x1, vi x2, vi x3, vn, vn] [.int c1] M _ _
  refine R_ift q115 rfl (decide_eq_true h1) ?_
  show Rm E 115 28 [vr 83, vi x1, vi x2, vi x3, vn, vn] [] M _ _
  refine R_S q115 1 (pc2 := 29) (ls2 := [vr 83, vi x1, vi x2, vi x3, vn, vn]) (st2 := [.int (-1)]) rfl ?_
  exact R_ret rfl q115 rfl rfl rfl rfl (stpR_i rfl rfl)
-- call X10_isPost 5- call X10_isPost 13+
theorem b115_0_1 {E : env} {M : mem} {x1 x2 x3 : Int32} {c1 : Int32} {c2 : Int32} (h0 : Rm E 91 0 [vr 83, vi x1] [] M (some (.int c1)) M) (h1 : ¬ (c1 = 0)) (h2 : Rm E 91 0 [vr 83, vi x2] [] M (some (.int c2)) M) (h3 : c2 = 0) : Rm E 115 0 [vr 83, vi x1, vi x2, vi x3, vn, vn] [] M (some (.int (-1))) M := by
  refine R_S q115 2 (pc2 := 2) (ls2 := [vr 83, vi x1, vi x2, vi x3, vn, vn]) (st2 := [.int x1, .ref 83]) rfl ?_
  refine R_call q115 rfl rfl rfl rfl rfl rfl h0 ?_
  show Rm E 115 5 [vr 83, vi x1, vi x2, vi x3, vn, vn] [.int c1] M _ _
  refine R_iff q115 rfl (decide_eq_false h1) ?_
  show Rm E 115 8 [vr 83, vi x1, vi x2, vi x3, vn, vn] [] M _ _
  refine R_S q115 2 (pc2 := 10) (ls2 := [vr 83, vi x1, vi x2, vi x3, vn, vn]) (st2 := [.int x2, .ref 83]) rfl ?_
  refine R_call q115 rfl rfl rfl rfl rfl rfl h2 ?_
  show Rm E 115 13 [vr 83, vi x1, vi x2, vi x3, vn, vn] [.int c2] M _ _
  refine R_ift q115 rfl (decide_eq_true h3) ?_
  show Rm E 115 28 [vr 83, vi x1, vi x2, vi x3, vn, vn] [] M _ _
  refine R_S q115 1 (pc2 := 29) (ls2 := [vr 83, vi x1, vi x2, vi x3, vn, vn]) (st2 := [.int (-1)]) rfl ?_
  exact R_ret rfl q115 rfl rfl rfl rfl (stpR_i rfl rfl)
-- call X10_isPost 5- call X10_isPost 13- call X10_in 25+ call X10_lays
theorem b115_0_2 {E : env} {M : mem} {rv : Option Value} {M2 : mem} {x1 x2 x3 : Int32} {c1 : Int32} {c2 : Int32} {c3 : Int32} {N1 : mem} (h0 : Rm E 91 0 [vr 83, vi x1] [] M (some (.int c1)) M) (h1 : ¬ (c1 = 0)) (h2 : Rm E 91 0 [vr 83, vi x2] [] M (some (.int c2)) M) (h3 : ¬ (c2 = 0)) (h4 : Rm E 88 0 [vl (((x3 : Int32)).toInt64), vn, vl 0, vn, vl 96, vn] [] M (some (.int c3)) M) (h5 : ¬ c3 = 0) (h6 : Rm E 105 0 [vr 83, vi x1, vi x2, vn, vn, vn, vn] [] M none N1) (k : Rm E 115 42 [vr 83, vn, vn, vn, vi x3, vi 0] [] N1 rv M2) : Rm E 115 0 [vr 83, vi x1, vi x2, vi x3, vn, vn] [] M rv M2 := by
  refine R_S q115 2 (pc2 := 2) (ls2 := [vr 83, vi x1, vi x2, vi x3, vn, vn]) (st2 := [.int x1, .ref 83]) rfl ?_
  refine R_call q115 rfl rfl rfl rfl rfl rfl h0 ?_
  show Rm E 115 5 [vr 83, vi x1, vi x2, vi x3, vn, vn] [.int c1] M _ _
  refine R_iff q115 rfl (decide_eq_false h1) ?_
  show Rm E 115 8 [vr 83, vi x1, vi x2, vi x3, vn, vn] [] M _ _
  refine R_S q115 2 (pc2 := 10) (ls2 := [vr 83, vi x1, vi x2, vi x3, vn, vn]) (st2 := [.int x2, .ref 83]) rfl ?_
  refine R_call q115 rfl rfl rfl rfl rfl rfl h2 ?_
  show Rm E 115 13 [vr 83, vi x1, vi x2, vi x3, vn, vn] [.int c2] M _ _
  refine R_iff q115 rfl (decide_eq_false h3) ?_
  show Rm E 115 16 [vr 83, vi x1, vi x2, vi x3, vn, vn] [] M _ _
  refine R_S q115 4 (pc2 := 22) (ls2 := [vr 83, vi x1, vi x2, vi x3, vn, vn]) (st2 := [.long 96, .long 0, .long (((x3 : Int32)).toInt64)]) rfl ?_
  refine R_call q115 rfl rfl rfl rfl rfl rfl h4 ?_
  show Rm E 115 25 [vr 83, vi x1, vi x2, vi x3, vn, vn] [.int c3] M _ _
  refine R_ift q115 rfl (decide_eq_true h5) ?_
  show Rm E 115 30 [vr 83, vi x1, vi x2, vi x3, vn, vn] [] M _ _
  refine R_S q115 3 (pc2 := 33) (ls2 := [vr 83, vi x1, vi x2, vi x3, vn, vn]) (st2 := [.int x2, .int x1, .ref 83]) rfl ?_
  refine R_call q115 rfl rfl rfl rfl rfl rfl h6 ?_
  show Rm E 115 36 [vr 83, vi x1, vi x2, vi x3, vn, vn] [] N1 _ _
  refine R_S q115 4 (pc2 := 42) (ls2 := [vr 83, vi x1, vi x2, vi x3, vi x3, vi 0]) (st2 := []) rfl ?_
  exact R_w (ls := [vr 83, vn, vn, vn, vi x3, vi 0]) (show lsle _ _ from ⟨rfl, ⟨rfl, ⟨rfl, trivial⟩⟩⟩) k
-- call X10_isPost 5- call X10_isPost 13- call X10_in 25-
theorem b115_0_3 {E : env} {M : mem} {x1 x2 x3 : Int32} {c1 : Int32} {c2 : Int32} {c3 : Int32} (h0 : Rm E 91 0 [vr 83, vi x1] [] M (some (.int c1)) M) (h1 : ¬ (c1 = 0)) (h2 : Rm E 91 0 [vr 83, vi x2] [] M (some (.int c2)) M) (h3 : ¬ (c2 = 0)) (h4 : Rm E 88 0 [vl (((x3 : Int32)).toInt64), vn, vl 0, vn, vl 96, vn] [] M (some (.int c3)) M) (h5 : ¬ (¬ c3 = 0)) : Rm E 115 0 [vr 83, vi x1, vi x2, vi x3, vn, vn] [] M (some (.int (-1))) M := by
  refine R_S q115 2 (pc2 := 2) (ls2 := [vr 83, vi x1, vi x2, vi x3, vn, vn]) (st2 := [.int x1, .ref 83]) rfl ?_
  refine R_call q115 rfl rfl rfl rfl rfl rfl h0 ?_
  show Rm E 115 5 [vr 83, vi x1, vi x2, vi x3, vn, vn] [.int c1] M _ _
  refine R_iff q115 rfl (decide_eq_false h1) ?_
  show Rm E 115 8 [vr 83, vi x1, vi x2, vi x3, vn, vn] [] M _ _
  refine R_S q115 2 (pc2 := 10) (ls2 := [vr 83, vi x1, vi x2, vi x3, vn, vn]) (st2 := [.int x2, .ref 83]) rfl ?_
  refine R_call q115 rfl rfl rfl rfl rfl rfl h2 ?_
  show Rm E 115 13 [vr 83, vi x1, vi x2, vi x3, vn, vn] [.int c2] M _ _
  refine R_iff q115 rfl (decide_eq_false h3) ?_
  show Rm E 115 16 [vr 83, vi x1, vi x2, vi x3, vn, vn] [] M _ _
  refine R_S q115 4 (pc2 := 22) (ls2 := [vr 83, vi x1, vi x2, vi x3, vn, vn]) (st2 := [.long 96, .long 0, .long (((x3 : Int32)).toInt64)]) rfl ?_
  refine R_call q115 rfl rfl rfl rfl rfl rfl h4 ?_
  show Rm E 115 25 [vr 83, vi x1, vi x2, vi x3, vn, vn] [.int c3] M _ _
  refine R_iff q115 rfl (decide_eq_false h5) ?_
  show Rm E 115 28 [vr 83, vi x1, vi x2, vi x3, vn, vn] [] M _ _
  refine R_S q115 1 (pc2 := 29) (ls2 := [vr 83, vi x1, vi x2, vi x3, vn, vn]) (st2 := [.int (-1)]) rfl ?_
  exact R_ret rfl q115 rfl rfl rfl rfl (stpR_i rfl rfl)
-- 48+
theorem b115_42_0 {E : env} {M : mem} {x4 x5 : Int32}  (h0 : M.1 83 14 ≤ x5) : Rm E 115 42 [vr 83, vn, vn, vn, vi x4, vi x5] [] M (some (.int x4)) M := by
  refine R_S q115 3 (pc2 := 48) (ls2 := [vr 83, vn, vn, vn, vi x4, vi x5]) (st2 := [.int (M.1 83 14), .int x5]) rfl ?_
  refine R_ict q115 rfl (decide_eq_true h0) ?_
  show Rm E 115 96 [vr 83, vn, vn, vn, vi x4, vi x5] [] M _ _
  refine R_S q115 1 (pc2 := 98) (ls2 := [vr 83, vn, vn, vn, vi x4, vi x5]) (st2 := [.int x4]) rfl ?_
  exact R_ret rfl q115 rfl rfl rfl rfl (stpR_i rfl rfl)
-- 48-
theorem b115_42_1 {E : env} {M : mem} {rv : Option Value} {M2 : mem} {x4 x5 : Int32}  (h0 : ¬ (M.1 83 14 ≤ x5)) (h1 : inR x5 60) (h2 : inR (30 + M.1 93 x5.toNatClampNeg) 90) (h3 : inR x5 60) (h4 : inR (60 + M.1 93 x5.toNatClampNeg) 90) (k : Rm E 115 42 [vr 83, vn, vn, vn, vi (((M.1 84 (30 + M.1 93 x5.toNatClampNeg).toNatClampNeg * x4) + M.1 84 (60 + M.1 93 x5.toNatClampNeg).toNatClampNeg) - ((M.1 84 (30 + M.1 93 x5.toNatClampNeg).toNatClampNeg * x4) + M.1 84 (60 + M.1 93 x5.toNatClampNeg).toNatClampNeg) / 97 * 97), vi (x5 + 1)] [] M rv M2) : Rm E 115 42 [vr 83, vn, vn, vn, vi x4, vi x5] [] M rv M2 := by
  refine R_S q115 3 (pc2 := 48) (ls2 := [vr 83, vn, vn, vn, vi x4, vi x5]) (st2 := [.int (M.1 83 14), .int x5]) rfl ?_
  refine R_icf q115 rfl (decide_eq_false h0) ?_
  show Rm E 115 51 [vr 83, vn, vn, vn, vi x4, vi x5] [] M _ _
  refine R_S q115 6 (pc2 := 63) (ls2 := [vr 83, vn, vn, vn, vi x4, vi x5]) (st2 := [.int x5, .ref 93, .int 30, .ref 84]) rfl ?_
  refine R_ial q115 rfl rfl h1 ?_
  show Rm E 115 64 [vr 83, vn, vn, vn, vi x4, vi x5] [.int (M.1 93 x5.toNatClampNeg), .int 30, .ref 84] M _ _
  refine R_S q115 1 (pc2 := 65) (ls2 := [vr 83, vn, vn, vn, vi x4, vi x5]) (st2 := [.int (30 + M.1 93 x5.toNatClampNeg), .ref 84]) rfl ?_
  refine R_ial q115 rfl rfl h2 ?_
  show Rm E 115 66 [vr 83, vn, vn, vn, vi x4, vi x5] [.int (M.1 84 (30 + M.1 93 x5.toNatClampNeg).toNatClampNeg)] M _ _
  refine R_S q115 8 (pc2 := 81) (ls2 := [vr 83, vn, vn, vn, vi x4, vi x5]) (st2 := [.int x5, .ref 93, .int 60, .ref 84, .int (M.1 84 (30 + M.1 93 x5.toNatClampNeg).toNatClampNeg * x4)]) rfl ?_
  refine R_ial q115 rfl rfl h3 ?_
  show Rm E 115 82 [vr 83, vn, vn, vn, vi x4, vi x5] [.int (M.1 93 x5.toNatClampNeg), .int 60, .ref 84, .int (M.1 84 (30 + M.1 93 x5.toNatClampNeg).toNatClampNeg * x4)] M _ _
  refine R_S q115 1 (pc2 := 83) (ls2 := [vr 83, vn, vn, vn, vi x4, vi x5]) (st2 := [.int (60 + M.1 93 x5.toNatClampNeg), .ref 84, .int (M.1 84 (30 + M.1 93 x5.toNatClampNeg).toNatClampNeg * x4)]) rfl ?_
  refine R_ial q115 rfl rfl h4 ?_
  show Rm E 115 84 [vr 83, vn, vn, vn, vi x4, vi x5] [.int (M.1 84 (60 + M.1 93 x5.toNatClampNeg).toNatClampNeg), .int (M.1 84 (30 + M.1 93 x5.toNatClampNeg).toNatClampNeg * x4)] M _ _
  refine R_S q115 6 (pc2 := 42) (ls2 := [vr 83, vn, vn, vn, vi (((M.1 84 (30 + M.1 93 x5.toNatClampNeg).toNatClampNeg * x4) + M.1 84 (60 + M.1 93 x5.toNatClampNeg).toNatClampNeg) - ((M.1 84 (30 + M.1 93 x5.toNatClampNeg).toNatClampNeg * x4) + M.1 84 (60 + M.1 93 x5.toNatClampNeg).toNatClampNeg) / 97 * 97), vi (x5 + 1)]) (st2 := []) rfl ?_
  exact k
-- 116 HeavyChainsModel.below(II)I  cuts [0]
theorem q116 : cdOf 116 = some mt116 := rfl
-- call X10_isPost 5+
theorem b116_0_0 {E : env} {M : mem} {x1 x2 : Int32} {c1 : Int32} (h0 : Rm E 91 0 [vr 83, vi x1] [] M (some (.int c1)) M) (h1 : c1 = 0) : Rm E 116 0 [vr 83, vi x1, vi x2] [] M (some (.int (-1))) M := by
  refine R_S q116 2 (pc2 := 2) (ls2 := [vr 83, vi x1, vi x2]) (st2 := [.int x1, .ref 83]) rfl ?_
  refine R_call q116 rfl rfl rfl rfl rfl rfl h0 ?_
  show Rm E 116 5 [vr 83, vi x1, vi x2] [.int c1] M _ _
  refine R_ift q116 rfl (decide_eq_true h1) ?_
  show Rm E 116 20 [vr 83, vi x1, vi x2] [] M _ _
  refine R_S q116 1 (pc2 := 21) (ls2 := [vr 83, vi x1, vi x2]) (st2 := [.int (-1)]) rfl ?_
  exact R_ret rfl q116 rfl rfl rfl rfl (stpR_i rfl rfl)
-- call X10_isPost 5- call X10_in 17+ call X10_laysBelow 28+ 43+ call X10_markedOf
theorem b116_0_1 {E : env} {M : mem} {x1 x2 : Int32} {c1 : Int32} {c2 : Int32} {N1 : mem} {c4 : Int32} (h0 : Rm E 91 0 [vr 83, vi x1] [] M (some (.int c1)) M) (h1 : ¬ (c1 = 0)) (h2 : Rm E 88 0 [vl (((x2 : Int32)).toInt64), vn, vl 0, vn, vl 2, vn] [] M (some (.int c2)) M) (h3 : ¬ c2 = 0) (h4 : Rm E 106 0 [vr 83, vi x1, vn] [] M none N1) (h5 : ¬ x2 = 0) (h6 : ¬ x2 = 1) (h7 : Rm E 110 0 [vr 83, vn, vn] [] N1 (some (.int c4)) N1) : Rm E 116 0 [vr 83, vi x1, vi x2] [] M (some (.int c4)) N1 := by
  refine R_S q116 2 (pc2 := 2) (ls2 := [vr 83, vi x1, vi x2]) (st2 := [.int x1, .ref 83]) rfl ?_
  refine R_call q116 rfl rfl rfl rfl rfl rfl h0 ?_
  show Rm E 116 5 [vr 83, vi x1, vi x2] [.int c1] M _ _
  refine R_iff q116 rfl (decide_eq_false h1) ?_
  show Rm E 116 8 [vr 83, vi x1, vi x2] [] M _ _
  refine R_S q116 4 (pc2 := 14) (ls2 := [vr 83, vi x1, vi x2]) (st2 := [.long 2, .long 0, .long (((x2 : Int32)).toInt64)]) rfl ?_
  refine R_call q116 rfl rfl rfl rfl rfl rfl h2 ?_
  show Rm E 116 17 [vr 83, vi x1, vi x2] [.int c2] M _ _
  refine R_ift q116 rfl (decide_eq_true h3) ?_
  show Rm E 116 22 [vr 83, vi x1, vi x2] [] M _ _
  refine R_S q116 2 (pc2 := 24) (ls2 := [vr 83, vi x1, vi x2]) (st2 := [.int x1, .ref 83]) rfl ?_
  refine R_call q116 rfl rfl rfl rfl rfl rfl h4 ?_
  show Rm E 116 27 [vr 83, vi x1, vi x2] [] N1 _ _
  refine R_S q116 1 (pc2 := 28) (ls2 := [vr 83, vi x1, vi x2]) (st2 := [.int x2]) rfl ?_
  refine R_ift q116 rfl (decide_eq_true h5) ?_
  show Rm E 116 41 [vr 83, vi x1, vi x2] [] N1 _ _
  refine R_S q116 2 (pc2 := 43) (ls2 := [vr 83, vi x1, vi x2]) (st2 := [.int 1, .int x2]) rfl ?_
  refine R_ict q116 rfl (decide_eq_true h6) ?_
  show Rm E 116 56 [vr 83, vi x1, vi x2] [] N1 _ _
  refine R_S q116 1 (pc2 := 57) (ls2 := [vr 83, vi x1, vi x2]) (st2 := [.ref 83]) rfl ?_
  refine R_call q116 rfl rfl rfl rfl rfl rfl h7 ?_
  show Rm E 116 60 [vr 83, vi x1, vi x2] [.int c4] N1 _ _
  exact R_ret rfl q116 rfl rfl rfl rfl (stpR_i rfl rfl)
-- call X10_isPost 5- call X10_in 17+ call X10_laysBelow 28+ 43- call X10_greatest
theorem b116_0_2 {E : env} {M : mem} {x1 x2 : Int32} {c1 : Int32} {c2 : Int32} {N1 : mem} {c4 : Int32} (h0 : Rm E 91 0 [vr 83, vi x1] [] M (some (.int c1)) M) (h1 : ¬ (c1 = 0)) (h2 : Rm E 88 0 [vl (((x2 : Int32)).toInt64), vn, vl 0, vn, vl 2, vn] [] M (some (.int c2)) M) (h3 : ¬ c2 = 0) (h4 : Rm E 106 0 [vr 83, vi x1, vn] [] M none N1) (h5 : ¬ x2 = 0) (h6 : ¬ (¬ x2 = 1)) (h7 : Rm E 108 0 [vr 83, vn, vn] [] N1 (some (.int c4)) N1) : Rm E 116 0 [vr 83, vi x1, vi x2] [] M (some (.int (c4 + 1000000))) N1 := by
  refine R_S q116 2 (pc2 := 2) (ls2 := [vr 83, vi x1, vi x2]) (st2 := [.int x1, .ref 83]) rfl ?_
  refine R_call q116 rfl rfl rfl rfl rfl rfl h0 ?_
  show Rm E 116 5 [vr 83, vi x1, vi x2] [.int c1] M _ _
  refine R_iff q116 rfl (decide_eq_false h1) ?_
  show Rm E 116 8 [vr 83, vi x1, vi x2] [] M _ _
  refine R_S q116 4 (pc2 := 14) (ls2 := [vr 83, vi x1, vi x2]) (st2 := [.long 2, .long 0, .long (((x2 : Int32)).toInt64)]) rfl ?_
  refine R_call q116 rfl rfl rfl rfl rfl rfl h2 ?_
  show Rm E 116 17 [vr 83, vi x1, vi x2] [.int c2] M _ _
  refine R_ift q116 rfl (decide_eq_true h3) ?_
  show Rm E 116 22 [vr 83, vi x1, vi x2] [] M _ _
  refine R_S q116 2 (pc2 := 24) (ls2 := [vr 83, vi x1, vi x2]) (st2 := [.int x1, .ref 83]) rfl ?_
  refine R_call q116 rfl rfl rfl rfl rfl rfl h4 ?_
  show Rm E 116 27 [vr 83, vi x1, vi x2] [] N1 _ _
  refine R_S q116 1 (pc2 := 28) (ls2 := [vr 83, vi x1, vi x2]) (st2 := [.int x2]) rfl ?_
  refine R_ift q116 rfl (decide_eq_true h5) ?_
  show Rm E 116 41 [vr 83, vi x1, vi x2] [] N1 _ _
  refine R_S q116 2 (pc2 := 43) (ls2 := [vr 83, vi x1, vi x2]) (st2 := [.int 1, .int x2]) rfl ?_
  refine R_icf q116 rfl (decide_eq_false h6) ?_
  show Rm E 116 46 [vr 83, vi x1, vi x2] [] N1 _ _
  refine R_S q116 1 (pc2 := 47) (ls2 := [vr 83, vi x1, vi x2]) (st2 := [.ref 83]) rfl ?_
  refine R_call q116 rfl rfl rfl rfl rfl rfl h7 ?_
  show Rm E 116 50 [vr 83, vi x1, vi x2] [.int c4] N1 _ _
  refine R_S q116 3 (pc2 := 60) (ls2 := [vr 83, vi x1, vi x2]) (st2 := [.int (c4 + 1000000)]) rfl ?_
  exact R_ret rfl q116 rfl rfl rfl rfl (stpR_i rfl rfl)
-- call X10_isPost 5- call X10_in 17+ call X10_laysBelow 28- call X10_sumOf
theorem b116_0_3 {E : env} {M : mem} {x1 x2 : Int32} {c1 : Int32} {c2 : Int32} {N1 : mem} {c4 : Int32} (h0 : Rm E 91 0 [vr 83, vi x1] [] M (some (.int c1)) M) (h1 : ¬ (c1 = 0)) (h2 : Rm E 88 0 [vl (((x2 : Int32)).toInt64), vn, vl 0, vn, vl 2, vn] [] M (some (.int c2)) M) (h3 : ¬ c2 = 0) (h4 : Rm E 106 0 [vr 83, vi x1, vn] [] M none N1) (h5 : ¬ (¬ x2 = 0)) (h6 : Rm E 107 0 [vr 83, vn, vn] [] N1 (some (.int c4)) N1) : Rm E 116 0 [vr 83, vi x1, vi x2] [] M (some (.int (c4 + 1000000))) N1 := by
  refine R_S q116 2 (pc2 := 2) (ls2 := [vr 83, vi x1, vi x2]) (st2 := [.int x1, .ref 83]) rfl ?_
  refine R_call q116 rfl rfl rfl rfl rfl rfl h0 ?_
  show Rm E 116 5 [vr 83, vi x1, vi x2] [.int c1] M _ _
  refine R_iff q116 rfl (decide_eq_false h1) ?_
  show Rm E 116 8 [vr 83, vi x1, vi x2] [] M _ _
  refine R_S q116 4 (pc2 := 14) (ls2 := [vr 83, vi x1, vi x2]) (st2 := [.long 2, .long 0, .long (((x2 : Int32)).toInt64)]) rfl ?_
  refine R_call q116 rfl rfl rfl rfl rfl rfl h2 ?_
  show Rm E 116 17 [vr 83, vi x1, vi x2] [.int c2] M _ _
  refine R_ift q116 rfl (decide_eq_true h3) ?_
  show Rm E 116 22 [vr 83, vi x1, vi x2] [] M _ _
  refine R_S q116 2 (pc2 := 24) (ls2 := [vr 83, vi x1, vi x2]) (st2 := [.int x1, .ref 83]) rfl ?_
  refine R_call q116 rfl rfl rfl rfl rfl rfl h4 ?_
  show Rm E 116 27 [vr 83, vi x1, vi x2] [] N1 _ _
  refine R_S q116 1 (pc2 := 28) (ls2 := [vr 83, vi x1, vi x2]) (st2 := [.int x2]) rfl ?_
  refine R_iff q116 rfl (decide_eq_false h5) ?_
  show Rm E 116 31 [vr 83, vi x1, vi x2] [] N1 _ _
  refine R_S q116 1 (pc2 := 32) (ls2 := [vr 83, vi x1, vi x2]) (st2 := [.ref 83]) rfl ?_
  refine R_call q116 rfl rfl rfl rfl rfl rfl h6 ?_
  show Rm E 116 35 [vr 83, vi x1, vi x2] [.int c4] N1 _ _
  refine R_S q116 3 (pc2 := 60) (ls2 := [vr 83, vi x1, vi x2]) (st2 := [.int (c4 + 1000000)]) rfl ?_
  exact R_ret rfl q116 rfl rfl rfl rfl (stpR_i rfl rfl)
-- call X10_isPost 5- call X10_in 17-
theorem b116_0_4 {E : env} {M : mem} {x1 x2 : Int32} {c1 : Int32} {c2 : Int32} (h0 : Rm E 91 0 [vr 83, vi x1] [] M (some (.int c1)) M) (h1 : ¬ (c1 = 0)) (h2 : Rm E 88 0 [vl (((x2 : Int32)).toInt64), vn, vl 0, vn, vl 2, vn] [] M (some (.int c2)) M) (h3 : ¬ (¬ c2 = 0)) : Rm E 116 0 [vr 83, vi x1, vi x2] [] M (some (.int (-1))) M := by
  refine R_S q116 2 (pc2 := 2) (ls2 := [vr 83, vi x1, vi x2]) (st2 := [.int x1, .ref 83]) rfl ?_
  refine R_call q116 rfl rfl rfl rfl rfl rfl h0 ?_
  show Rm E 116 5 [vr 83, vi x1, vi x2] [.int c1] M _ _
  refine R_iff q116 rfl (decide_eq_false h1) ?_
  show Rm E 116 8 [vr 83, vi x1, vi x2] [] M _ _
  refine R_S q116 4 (pc2 := 14) (ls2 := [vr 83, vi x1, vi x2]) (st2 := [.long 2, .long 0, .long (((x2 : Int32)).toInt64)]) rfl ?_
  refine R_call q116 rfl rfl rfl rfl rfl rfl h2 ?_
  show Rm E 116 17 [vr 83, vi x1, vi x2] [.int c2] M _ _
  refine R_iff q116 rfl (decide_eq_false h3) ?_
  show Rm E 116 20 [vr 83, vi x1, vi x2] [] M _ _
  refine R_S q116 1 (pc2 := 21) (ls2 := [vr 83, vi x1, vi x2]) (st2 := [.int (-1)]) rfl ?_
  exact R_ret rfl q116 rfl rfl rfl rfl (stpR_i rfl rfl)
