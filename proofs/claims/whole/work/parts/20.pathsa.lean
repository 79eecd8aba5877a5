-- 2 HeavyChains$Accounts.clear()V  cuts [0, 2]
theorem q2 : cdOf 2 = some mt2 := rfl
-- 
theorem b2_0_0 {E : env} {M : mem} {rv : Option Value} {M2 : mem}  (k : Rm E 2 2 [vr 5, vi 0] [] M rv M2) : Rm E 2 0 [vr 5, vn] [] M rv M2 := by
  refine R_S q2 2 (pc2 := 2) (ls2 := [vr 5, vi 0]) (st2 := []) rfl ?_
  exact k
-- 5+
theorem b2_2_0 {E : env} {M : mem} {x1 : Int32}  (h0 : 30 ≤ x1) : Rm E 2 2 [vr 5, vi x1] [] M none M := by
  refine R_S q2 2 (pc2 := 5) (ls2 := [vr 5, vi x1]) (st2 := [.int 30, .int x1]) rfl ?_
  refine R_ict q2 rfl (decide_eq_true h0) ?_
  show Rm E 2 35 [vr 5, vi x1] [] M _ _
  exact R_ret rfl q2 rfl rfl rfl rfl rfl
-- 5-
theorem b2_2_1 {E : env} {M : mem} {rv : Option Value} {M2 : mem} {x1 : Int32} {N1 : mem} {N2 : mem} {N3 : mem} (h0 : ¬ (30 ≤ x1)) (h1 : inR x1 30) (eN1 : N1 = upM M 6 (x1.toNatClampNeg) 0) (h2 : inR x1 30) (eN2 : N2 = upM N1 7 (x1.toNatClampNeg) 1) (h3 : inR x1 30) (eN3 : N3 = upM N2 8 (x1.toNatClampNeg) 0) (k : Rm E 2 2 [vr 5, vi (x1 + 1)] [] N3 rv M2) : Rm E 2 2 [vr 5, vi x1] [] M rv M2 := by
  refine R_S q2 2 (pc2 := 5) (ls2 := [vr 5, vi x1]) (st2 := [.int 30, .int x1]) rfl ?_
  refine R_icf q2 rfl (decide_eq_false h0) ?_
  show Rm E 2 8 [vr 5, vi x1] [] M _ _
  refine R_S q2 4 (pc2 := 14) (ls2 := [vr 5, vi x1]) (st2 := [.int 0, .int x1, .ref 6]) rfl ?_
  refine R_ias q2 rfl rfl h1 eN1 ?_
  show Rm E 2 15 [vr 5, vi x1] [] N1 _ _
  refine R_S q2 4 (pc2 := 21) (ls2 := [vr 5, vi x1]) (st2 := [.int 1, .int x1, .ref 7]) rfl ?_
  refine R_ias q2 rfl rfl h2 eN2 ?_
  show Rm E 2 22 [vr 5, vi x1] [] N2 _ _
  refine R_S q2 4 (pc2 := 28) (ls2 := [vr 5, vi x1]) (st2 := [.int 0, .int x1, .ref 8]) rfl ?_
  refine R_ias q2 rfl rfl h3 eN3 ?_
  show Rm E 2 29 [vr 5, vi x1] [] N3 _ _
  refine R_S q2 2 (pc2 := 2) (ls2 := [vr 5, vi (x1 + 1)]) (st2 := []) rfl ?_
  exact k
-- 3 HeavyChains$Accounts.copy(LHeavyChains$Accounts;)V  cuts [0]
theorem q3 : cdOf 3 = some mt3 := rfl
-- 
theorem b3_0_0 {E : env} {M : mem} {a : Nat} {b : Nat} {N1 : mem} {N2 : mem} {N3 : mem} (ha : accA a) (hb : accA b) (eN1 : N1 = cpM M (b + 1) (a + 1)) (eN2 : N2 = cpM N1 (b + 2) (a + 2)) (eN3 : N3 = cpM N2 (b + 3) (a + 3)) : Rm E 3 0 [vr a, vr b] [] M none N3 := by
  refine R_S q3 1 (pc2 := 1) (ls2 := [vr a, vr b]) (st2 := [.ref b]) rfl ?_
  refine R_gf q3 rfl (acc0 hb) (by decide) rfl (v := .ref (b + 1)) rfl ?_
  show Rm E 3 4 [vr a, vr b] [.ref (b + 1)] M _ _
  refine R_S q3 2 (pc2 := 6) (ls2 := [vr a, vr b]) (st2 := [.ref a, .int 0, .ref (b + 1)]) rfl ?_
  refine R_gf q3 rfl (acc0 ha) (by decide) rfl (v := .ref (a + 1)) rfl ?_
  show Rm E 3 9 [vr a, vr b] [.ref (a + 1), .int 0, .ref (b + 1)] M _ _
  refine R_S q3 2 (pc2 := 12) (ls2 := [vr a, vr b]) (st2 := [.int 30, .int 0, .ref (a + 1), .int 0, .ref (b + 1)]) rfl ?_
  refine R_cpy q3 rfl (acc1 hb) (acc1 ha) (by decide) eN1 ?_
  show Rm E 3 15 [vr a, vr b] [] N1 _ _
  refine R_S q3 1 (pc2 := 16) (ls2 := [vr a, vr b]) (st2 := [.ref b]) rfl ?_
  refine R_gf q3 rfl (acc0 hb) (by decide) rfl (v := .ref (b + 2)) rfl ?_
  show Rm E 3 19 [vr a, vr b] [.ref (b + 2)] N1 _ _
  refine R_S q3 2 (pc2 := 21) (ls2 := [vr a, vr b]) (st2 := [.ref a, .int 0, .ref (b + 2)]) rfl ?_
  refine R_gf q3 rfl (acc0 ha) (by decide) rfl (v := .ref (a + 2)) rfl ?_
  show Rm E 3 24 [vr a, vr b] [.ref (a + 2), .int 0, .ref (b + 2)] N1 _ _
  refine R_S q3 2 (pc2 := 27) (ls2 := [vr a, vr b]) (st2 := [.int 30, .int 0, .ref (a + 2), .int 0, .ref (b + 2)]) rfl ?_
  refine R_cpy q3 rfl (acc2 hb) (acc2 ha) (by decide) eN2 ?_
  show Rm E 3 30 [vr a, vr b] [] N2 _ _
  refine R_S q3 1 (pc2 := 31) (ls2 := [vr a, vr b]) (st2 := [.ref b]) rfl ?_
  refine R_gf q3 rfl (acc0 hb) (by decide) rfl (v := .ref (b + 3)) rfl ?_
  show Rm E 3 34 [vr a, vr b] [.ref (b + 3)] N2 _ _
  refine R_S q3 2 (pc2 := 36) (ls2 := [vr a, vr b]) (st2 := [.ref a, .int 0, .ref (b + 3)]) rfl ?_
  refine R_gf q3 rfl (acc0 ha) (by decide) rfl (v := .ref (a + 3)) rfl ?_
  show Rm E 3 39 [vr a, vr b] [.ref (a + 3), .int 0, .ref (b + 3)] N2 _ _
  refine R_S q3 2 (pc2 := 42) (ls2 := [vr a, vr b]) (st2 := [.int 30, .int 0, .ref (a + 3), .int 0, .ref (b + 3)]) rfl ?_
  refine R_cpy q3 rfl (acc3 hb) (acc3 ha) (by decide) eN3 ?_
  show Rm E 3 45 [vr a, vr b] [] N3 _ _
  exact R_ret rfl q3 rfl rfl rfl rfl rfl
-- 4 HeavyChains$Accounts.total(I)I  cuts [0, 4]
theorem q4 : cdOf 4 = some mt4 := rfl
-- 
theorem b4_0_0 {E : env} {M : mem} {rv : Option Value} {M2 : mem} {x1 : Int32}  (k : Rm E 4 4 [vr 18, vi x1, vi 0, vi 0] [] M rv M2) : Rm E 4 0 [vr 18, vi x1, vn, vn] [] M rv M2 := by
  refine R_S q4 4 (pc2 := 4) (ls2 := [vr 18, vi x1, vi 0, vi 0]) (st2 := []) rfl ?_
  exact k
-- 6+
theorem b4_4_0 {E : env} {M : mem} {x1 x2 x3 : Int32}  (h0 : x1 ≤ x3) : Rm E 4 4 [vr 18, vi x1, vi x2, vi x3] [] M (some (.int x2)) M := by
  refine R_S q4 2 (pc2 := 6) (ls2 := [vr 18, vi x1, vi x2, vi x3]) (st2 := [.int x1, .int x3]) rfl ?_
  refine R_ict q4 rfl (decide_eq_true h0) ?_
  show Rm E 4 24 [vr 18, vi x1, vi x2, vi x3] [] M _ _
  refine R_S q4 1 (pc2 := 25) (ls2 := [vr 18, vi x1, vi x2, vi x3]) (st2 := [.int x2]) rfl ?_
  exact R_ret rfl q4 rfl rfl rfl rfl (stpR_i rfl rfl)
-- 6-
theorem b4_4_1 {E : env} {M : mem} {rv : Option Value} {M2 : mem} {x1 x2 x3 : Int32}  (h0 : ¬ (x1 ≤ x3)) (h1 : inR x3 30) (k : Rm E 4 4 [vr 18, vi x1, vi (x2 + M.1 19 x3.toNatClampNeg), vi (x3 + 1)] [] M rv M2) : Rm E 4 4 [vr 18, vi x1, vi x2, vi x3] [] M rv M2 := by
  refine R_S q4 2 (pc2 := 6) (ls2 := [vr 18, vi x1, vi x2, vi x3]) (st2 := [.int x1, .int x3]) rfl ?_
  refine R_icf q4 rfl (decide_eq_false h0) ?_
  show Rm E 4 9 [vr 18, vi x1, vi x2, vi x3] [] M _ _
  refine R_S q4 4 (pc2 := 15) (ls2 := [vr 18, vi x1, vi x2, vi x3]) (st2 := [.int x3, .ref 19, .int x2]) rfl ?_
  refine R_ial q4 rfl rfl h1 ?_
  show Rm E 4 16 [vr 18, vi x1, vi x2, vi x3] [.int (M.1 19 x3.toNatClampNeg), .int x2] M _ _
  refine R_S q4 4 (pc2 := 4) (ls2 := [vr 18, vi x1, vi (x2 + M.1 19 x3.toNatClampNeg), vi (x3 + 1)]) (st2 := []) rfl ?_
  exact k
-- 6 HeavyChains$Letters.append(C)Z  cuts [0]
theorem q6 : cdOf 6 = some mt6 := rfl
-- 7+
theorem b6_0_0 {E : env} {M : mem} {x1 : Int32} {N1 : mem} {N2 : mem} (h0 : M.1 1 1 < 200) (h1 : inR (M.1 1 1) 200) (eN1 : N1 = upM M 2 ((M.1 1 1).toNatClampNeg) (vp_nar .char x1)) (eN2 : N2 = upM N1 1 1 (N1.1 1 1 + 1)) : Rm E 6 0 [vr 1, vi x1] [] M (some (.int 1)) N2 := by
  refine R_S q6 3 (pc2 := 7) (ls2 := [vr 1, vi x1]) (st2 := [.int 200, .int (M.1 1 1)]) rfl ?_
  refine R_ict q6 rfl (decide_eq_true h0) ?_
  show Rm E 6 12 [vr 1, vi x1] [] M _ _
  refine R_S q6 5 (pc2 := 21) (ls2 := [vr 1, vi x1]) (st2 := [.int x1, .int (M.1 1 1), .ref 2]) rfl ?_
  refine R_cas q6 rfl rfl h1 eN1 ?_
  show Rm E 6 22 [vr 1, vi x1] [] N1 _ _
  refine R_S q6 5 (pc2 := 29) (ls2 := [vr 1, vi x1]) (st2 := [.int (N1.1 1 1 + 1), .ref 1]) rfl ?_
  refine R_pf q6 rfl rfl rfl rfl rfl eN2 ?_
  show Rm E 6 32 [vr 1, vi x1] [] N2 _ _
  refine R_S q6 1 (pc2 := 33) (ls2 := [vr 1, vi x1]) (st2 := [.int 1]) rfl ?_
  exact R_ret rfl q6 rfl rfl rfl rfl rfl
-- 7-
theorem b6_0_1 {E : env} {M : mem} {x1 : Int32}  (h0 : ¬ (M.1 1 1 < 200)) : Rm E 6 0 [vr 1, vi x1] [] M (some (.int 0)) M := by
  refine R_S q6 3 (pc2 := 7) (ls2 := [vr 1, vi x1]) (st2 := [.int 200, .int (M.1 1 1)]) rfl ?_
  refine R_icf q6 rfl (decide_eq_false h0) ?_
  show Rm E 6 10 [vr 1, vi x1] [] M _ _
  refine R_S q6 1 (pc2 := 11) (ls2 := [vr 1, vi x1]) (st2 := [.int 0]) rfl ?_
  exact R_ret rfl q6 rfl rfl rfl rfl rfl
-- 8 HeavyChains$Marks.clear()V  cuts [0, 2]
theorem q8 : cdOf 8 = some mt8 := rfl
-- 
theorem b8_0_0 {E : env} {M : mem} {rv : Option Value} {M2 : mem}  (k : Rm E 8 2 [vr 76, vi 0] [] M rv M2) : Rm E 8 0 [vr 76, vn] [] M rv M2 := by
  refine R_S q8 2 (pc2 := 2) (ls2 := [vr 76, vi 0]) (st2 := []) rfl ?_
  exact k
-- 5+
theorem b8_2_0 {E : env} {M : mem} {x1 : Int32}  (h0 : 30 ≤ x1) : Rm E 8 2 [vr 76, vi x1] [] M none M := by
  refine R_S q8 2 (pc2 := 5) (ls2 := [vr 76, vi x1]) (st2 := [.int 30, .int x1]) rfl ?_
  refine R_ict q8 rfl (decide_eq_true h0) ?_
  show Rm E 8 21 [vr 76, vi x1] [] M _ _
  exact R_ret rfl q8 rfl rfl rfl rfl rfl
-- 5-
theorem b8_2_1 {E : env} {M : mem} {rv : Option Value} {M2 : mem} {x1 : Int32} {N1 : mem} (h0 : ¬ (30 ≤ x1)) (h1 : inR x1 30) (eN1 : N1 = upM M 77 (x1.toNatClampNeg) 0) (k : Rm E 8 2 [vr 76, vi (x1 + 1)] [] N1 rv M2) : Rm E 8 2 [vr 76, vi x1] [] M rv M2 := by
  refine R_S q8 2 (pc2 := 5) (ls2 := [vr 76, vi x1]) (st2 := [.int 30, .int x1]) rfl ?_
  refine R_icf q8 rfl (decide_eq_false h0) ?_
  show Rm E 8 8 [vr 76, vi x1] [] M _ _
  refine R_S q8 4 (pc2 := 14) (ls2 := [vr 76, vi x1]) (st2 := [.int 0, .int x1, .ref 77]) rfl ?_
  refine R_bas q8 rfl rfl h1 eN1 ?_
  show Rm E 8 15 [vr 76, vi x1] [] N1 _ _
  refine R_S q8 2 (pc2 := 2) (ls2 := [vr 76, vi (x1 + 1)]) (st2 := []) rfl ?_
  exact k
-- 9 HeavyChains$Marks.all()I  cuts [0, 4]
theorem q9 : cdOf 9 = some mt9 := rfl
-- 
theorem b9_0_0 {E : env} {M : mem} {rv : Option Value} {M2 : mem}  (k : Rm E 9 4 [vr 76, vi 0, vi 0] [] M rv M2) : Rm E 9 0 [vr 76, vn, vn] [] M rv M2 := by
  refine R_S q9 4 (pc2 := 4) (ls2 := [vr 76, vi 0, vi 0]) (st2 := []) rfl ?_
  exact k
-- 7+
theorem b9_4_0 {E : env} {M : mem} {x1 x2 : Int32}  (h0 : 30 ≤ x2) : Rm E 9 4 [vr 76, vi x1, vi x2] [] M (some (.int x1)) M := by
  refine R_S q9 2 (pc2 := 7) (ls2 := [vr 76, vi x1, vi x2]) (st2 := [.int 30, .int x2]) rfl ?_
  refine R_ict q9 rfl (decide_eq_true h0) ?_
  show Rm E 9 28 [vr 76, vi x1, vi x2] [] M _ _
  refine R_S q9 1 (pc2 := 29) (ls2 := [vr 76, vi x1, vi x2]) (st2 := [.int x1]) rfl ?_
  exact R_ret rfl q9 rfl rfl rfl rfl (stpR_i rfl rfl)
-- 7- 16+
theorem b9_4_1 {E : env} {M : mem} {rv : Option Value} {M2 : mem} {x1 x2 : Int32}  (h0 : ¬ (30 ≤ x2)) (h1 : inR x2 30) (h2 : M.1 77 x2.toNatClampNeg = 0) (k : Rm E 9 4 [vr 76, vi x1, vi (x2 + 1)] [] M rv M2) : Rm E 9 4 [vr 76, vi x1, vi x2] [] M rv M2 := by
  refine R_S q9 2 (pc2 := 7) (ls2 := [vr 76, vi x1, vi x2]) (st2 := [.int 30, .int x2]) rfl ?_
  refine R_icf q9 rfl (decide_eq_false h0) ?_
  show Rm E 9 10 [vr 76, vi x1, vi x2] [] M _ _
  refine R_S q9 3 (pc2 := 15) (ls2 := [vr 76, vi x1, vi x2]) (st2 := [.int x2, .ref 77]) rfl ?_
  refine R_bal q9 rfl rfl h1 ?_
  show Rm E 9 16 [vr 76, vi x1, vi x2] [.int (M.1 77 x2.toNatClampNeg)] M _ _
  refine R_ift q9 rfl (decide_eq_true h2) ?_
  show Rm E 9 22 [vr 76, vi x1, vi x2] [] M _ _
  refine R_S q9 2 (pc2 := 4) (ls2 := [vr 76, vi x1, vi (x2 + 1)]) (st2 := []) rfl ?_
  exact k
-- 7- 16-
theorem b9_4_2 {E : env} {M : mem} {rv : Option Value} {M2 : mem} {x1 x2 : Int32}  (h0 : ¬ (30 ≤ x2)) (h1 : inR x2 30) (h2 : ¬ (M.1 77 x2.toNatClampNeg = 0)) (k : Rm E 9 4 [vr 76, vi (x1 + 1), vi (x2 + 1)] [] M rv M2) : Rm E 9 4 [vr 76, vi x1, vi x2] [] M rv M2 := by
  refine R_S q9 2 (pc2 := 7) (ls2 := [vr 76, vi x1, vi x2]) (st2 := [.int 30, .int x2]) rfl ?_
  refine R_icf q9 rfl (decide_eq_false h0) ?_
  show Rm E 9 10 [vr 76, vi x1, vi x2] [] M _ _
  refine R_S q9 3 (pc2 := 15) (ls2 := [vr 76, vi x1, vi x2]) (st2 := [.int x2, .ref 77]) rfl ?_
  refine R_bal q9 rfl rfl h1 ?_
  show Rm E 9 16 [vr 76, vi x1, vi x2] [.int (M.1 77 x2.toNatClampNeg)] M _ _
  refine R_iff q9 rfl (decide_eq_false h2) ?_
  show Rm E 9 19 [vr 76, vi x1, vi x2] [] M _ _
  refine R_S q9 3 (pc2 := 4) (ls2 := [vr 76, vi (x1 + 1), vi (x2 + 1)]) (st2 := []) rfl ?_
  exact k
-- 10 HeavyChains$Marks.on(LHeavyChains$Route;)I  cuts [0, 4]
theorem q10 : cdOf 10 = some mt10 := rfl
-- 
theorem b10_0_0 {E : env} {M : mem} {rv : Option Value} {M2 : mem}  (k : Rm E 10 4 [vr 76, vr 70, vi 0, vi 0] [] M rv M2) : Rm E 10 0 [vr 76, vr 70, vn, vn] [] M rv M2 := by
  refine R_S q10 4 (pc2 := 4) (ls2 := [vr 76, vr 70, vi 0, vi 0]) (st2 := []) rfl ?_
  exact k
-- 9+
theorem b10_4_0 {E : env} {M : mem} {x2 x3 : Int32}  (h0 : M.1 70 1 ≤ x3) : Rm E 10 4 [vr 76, vr 70, vi x2, vi x3] [] M (some (.int x2)) M := by
  refine R_S q10 3 (pc2 := 9) (ls2 := [vr 76, vr 70, vi x2, vi x3]) (st2 := [.int (M.1 70 1), .int x3]) rfl ?_
  refine R_ict q10 rfl (decide_eq_true h0) ?_
  show Rm E 10 35 [vr 76, vr 70, vi x2, vi x3] [] M _ _
  refine R_S q10 1 (pc2 := 36) (ls2 := [vr 76, vr 70, vi x2, vi x3]) (st2 := [.int x2]) rfl ?_
  exact R_ret rfl q10 rfl rfl rfl rfl (stpR_i rfl rfl)
-- 9- 23+
theorem b10_4_1 {E : env} {M : mem} {rv : Option Value} {M2 : mem} {x2 x3 : Int32}  (h0 : ¬ (M.1 70 1 ≤ x3)) (h1 : inR x3 30) (h2 : inR (M.1 71 x3.toNatClampNeg) 30) (h3 : M.1 77 (M.1 71 x3.toNatClampNeg).toNatClampNeg = 0) (k : Rm E 10 4 [vr 76, vr 70, vi x2, vi (x3 + 1)] [] M rv M2) : Rm E 10 4 [vr 76, vr 70, vi x2, vi x3] [] M rv M2 := by
  refine R_S q10 3 (pc2 := 9) (ls2 := [vr 76, vr 70, vi x2, vi x3]) (st2 := [.int (M.1 70 1), .int x3]) rfl ?_
  refine R_icf q10 rfl (decide_eq_false h0) ?_
  show Rm E 10 12 [vr 76, vr 70, vi x2, vi x3] [] M _ _
  refine R_S q10 5 (pc2 := 21) (ls2 := [vr 76, vr 70, vi x2, vi x3]) (st2 := [.int x3, .ref 71, .ref 77]) rfl ?_
  refine R_ial q10 rfl rfl h1 ?_
  show Rm E 10 22 [vr 76, vr 70, vi x2, vi x3] [.int (M.1 71 x3.toNatClampNeg), .ref 77] M _ _
  refine R_bal q10 rfl rfl h2 ?_
  show Rm E 10 23 [vr 76, vr 70, vi x2, vi x3] [.int (M.1 77 (M.1 71 x3.toNatClampNeg).toNatClampNeg)] M _ _
  refine R_ift q10 rfl (decide_eq_true h3) ?_
  show Rm E 10 29 [vr 76, vr 70, vi x2, vi x3] [] M _ _
  refine R_S q10 2 (pc2 := 4) (ls2 := [vr 76, vr 70, vi x2, vi (x3 + 1)]) (st2 := []) rfl ?_
  exact k
-- 9- 23-
theorem b10_4_2 {E : env} {M : mem} {rv : Option Value} {M2 : mem} {x2 x3 : Int32}  (h0 : ¬ (M.1 70 1 ≤ x3)) (h1 : inR x3 30) (h2 : inR (M.1 71 x3.toNatClampNeg) 30) (h3 : ¬ (M.1 77 (M.1 71 x3.toNatClampNeg).toNatClampNeg = 0)) (k : Rm E 10 4 [vr 76, vr 70, vi (x2 + 1), vi (x3 + 1)] [] M rv M2) : Rm E 10 4 [vr 76, vr 70, vi x2, vi x3] [] M rv M2 := by
  refine R_S q10 3 (pc2 := 9) (ls2 := [vr 76, vr 70, vi x2, vi x3]) (st2 := [.int (M.1 70 1), .int x3]) rfl ?_
  refine R_icf q10 rfl (decide_eq_false h0) ?_
  show Rm E 10 12 [vr 76, vr 70, vi x2, vi x3] [] M _ _
  refine R_S q10 5 (pc2 := 21) (ls2 := [vr 76, vr 70, vi x2, vi x3]) (st2 := [.int x3, .ref 71, .ref 77]) rfl ?_
  refine R_ial q10 rfl rfl h1 ?_
  show Rm E 10 22 [vr 76, vr 70, vi x2, vi x3] [.int (M.1 71 x3.toNatClampNeg), .ref 77] M _ _
  refine R_bal q10 rfl rfl h2 ?_
  show Rm E 10 23 [vr 76, vr 70, vi x2, vi x3] [.int (M.1 77 (M.1 71 x3.toNatClampNeg).toNatClampNeg)] M _ _
  refine R_iff q10 rfl (decide_eq_false h3) ?_
  show Rm E 10 26 [vr 76, vr 70, vi x2, vi x3] [] M _ _
  refine R_S q10 3 (pc2 := 4) (ls2 := [vr 76, vr 70, vi (x2 + 1), vi (x3 + 1)]) (st2 := []) rfl ?_
  exact k
-- 11 HeavyChains$Marks.put(LHeavyChains$Route;Z)I  cuts [0, 5]
theorem q11 : cdOf 11 = some mt11 := rfl
-- 
theorem b11_0_0 {E : env} {M : mem} {rv : Option Value} {M2 : mem} {x2 : Int32}  (k : Rm E 11 5 [vr 76, vr 70, vi x2, vi 0, vi 0] [] M rv M2) : Rm E 11 0 [vr 76, vr 70, vi x2, vn, vn] [] M rv M2 := by
  refine R_S q11 4 (pc2 := 5) (ls2 := [vr 76, vr 70, vi x2, vi 0, vi 0]) (st2 := []) rfl ?_
  exact k
-- 11+
theorem b11_5_0 {E : env} {M : mem} {x2 x3 x4 : Int32}  (h0 : M.1 70 1 ≤ x4) : Rm E 11 5 [vr 76, vr 70, vi x2, vi x3, vi x4] [] M (some (.int x3)) M := by
  refine R_S q11 3 (pc2 := 11) (ls2 := [vr 76, vr 70, vi x2, vi x3, vi x4]) (st2 := [.int (M.1 70 1), .int x4]) rfl ?_
  refine R_ict q11 rfl (decide_eq_true h0) ?_
  show Rm E 11 52 [vr 76, vr 70, vi x2, vi x3, vi x4] [] M _ _
  refine R_S q11 1 (pc2 := 53) (ls2 := [vr 76, vr 70, vi x2, vi x3, vi x4]) (st2 := [.int x3]) rfl ?_
  exact R_ret rfl q11 rfl rfl rfl rfl (stpR_i rfl rfl)
-- 11- 27+
theorem b11_5_1 {E : env} {M : mem} {rv : Option Value} {M2 : mem} {x2 x3 x4 : Int32}  (h0 : ¬ (M.1 70 1 ≤ x4)) (h1 : inR x4 30) (h2 : inR (M.1 71 x4.toNatClampNeg) 30) (h3 : M.1 77 (M.1 71 x4.toNatClampNeg).toNatClampNeg = x2) (k : Rm E 11 5 [vr 76, vr 70, vi x2, vi x3, vi (x4 + 1)] [] M rv M2) : Rm E 11 5 [vr 76, vr 70, vi x2, vi x3, vi x4] [] M rv M2 := by
  refine R_S q11 3 (pc2 := 11) (ls2 := [vr 76, vr 70, vi x2, vi x3, vi x4]) (st2 := [.int (M.1 70 1), .int x4]) rfl ?_
  refine R_icf q11 rfl (decide_eq_false h0) ?_
  show Rm E 11 14 [vr 76, vr 70, vi x2, vi x3, vi x4] [] M _ _
  refine R_S q11 5 (pc2 := 24) (ls2 := [vr 76, vr 70, vi x2, vi x3, vi x4]) (st2 := [.int x4, .ref 71, .ref 77]) rfl ?_
  refine R_ial q11 rfl rfl h1 ?_
  show Rm E 11 25 [vr 76, vr 70, vi x2, vi x3, vi x4] [.int (M.1 71 x4.toNatClampNeg), .ref 77] M _ _
  refine R_bal q11 rfl rfl h2 ?_
  show Rm E 11 26 [vr 76, vr 70, vi x2, vi x3, vi x4] [.int (M.1 77 (M.1 71 x4.toNatClampNeg).toNatClampNeg)] M _ _
  refine R_S q11 1 (pc2 := 27) (ls2 := [vr 76, vr 70, vi x2, vi x3, vi x4]) (st2 := [.int x2, .int (M.1 77 (M.1 71 x4.toNatClampNeg).toNatClampNeg)]) rfl ?_
  refine R_ict q11 rfl (decide_eq_true h3) ?_
  show Rm E 11 46 [vr 76, vr 70, vi x2, vi x3, vi x4] [] M _ _
  refine R_S q11 2 (pc2 := 5) (ls2 := [vr 76, vr 70, vi x2, vi x3, vi (x4 + 1)]) (st2 := []) rfl ?_
  exact k
-- 11- 27-
theorem b11_5_2 {E : env} {M : mem} {rv : Option Value} {M2 : mem} {x2 x3 x4 : Int32} {N1 : mem} (h0 : ¬ (M.1 70 1 ≤ x4)) (h1 : inR x4 30) (h2 : inR (M.1 71 x4.toNatClampNeg) 30) (h3 : ¬ (M.1 77 (M.1 71 x4.toNatClampNeg).toNatClampNeg = x2)) (h4 : inR x4 30) (h5 : inR (M.1 71 x4.toNatClampNeg) 30) (eN1 : N1 = upM M 77 ((M.1 71 x4.toNatClampNeg).toNatClampNeg) (vp_nar .boolean x2)) (k : Rm E 11 5 [vr 76, vr 70, vi x2, vi (x3 + 1), vi (x4 + 1)] [] N1 rv M2) : Rm E 11 5 [vr 76, vr 70, vi x2, vi x3, vi x4] [] M rv M2 := by
  refine R_S q11 3 (pc2 := 11) (ls2 := [vr 76, vr 70, vi x2, vi x3, vi x4]) (st2 := [.int (M.1 70 1), .int x4]) rfl ?_
  refine R_icf q11 rfl (decide_eq_false h0) ?_
  show Rm E 11 14 [vr 76, vr 70, vi x2, vi x3, vi x4] [] M _ _
  refine R_S q11 5 (pc2 := 24) (ls2 := [vr 76, vr 70, vi x2, vi x3, vi x4]) (st2 := [.int x4, .ref 71, .ref 77]) rfl ?_
  refine R_ial q11 rfl rfl h1 ?_
  show Rm E 11 25 [vr 76, vr 70, vi x2, vi x3, vi x4] [.int (M.1 71 x4.toNatClampNeg), .ref 77] M _ _
  refine R_bal q11 rfl rfl h2 ?_
  show Rm E 11 26 [vr 76, vr 70, vi x2, vi x3, vi x4] [.int (M.1 77 (M.1 71 x4.toNatClampNeg).toNatClampNeg)] M _ _
  refine R_S q11 1 (pc2 := 27) (ls2 := [vr 76, vr 70, vi x2, vi x3, vi x4]) (st2 := [.int x2, .int (M.1 77 (M.1 71 x4.toNatClampNeg).toNatClampNeg)]) rfl ?_
  refine R_icf q11 rfl (decide_eq_false h3) ?_
  show Rm E 11 30 [vr 76, vr 70, vi x2, vi x3, vi x4] [] M _ _
  refine R_S q11 5 (pc2 := 40) (ls2 := [vr 76, vr 70, vi x2, vi x3, vi x4]) (st2 := [.int x4, .ref 71, .ref 77]) rfl ?_
  refine R_ial q11 rfl rfl h4 ?_
  show Rm E 11 41 [vr 76, vr 70, vi x2, vi x3, vi x4] [.int (M.1 71 x4.toNatClampNeg), .ref 77] M _ _
  refine R_S q11 1 (pc2 := 42) (ls2 := [vr 76, vr 70, vi x2, vi x3, vi x4]) (st2 := [.int x2, .int (M.1 71 x4.toNatClampNeg), .ref 77]) rfl ?_
  refine R_bas q11 rfl rfl h5 eN1 ?_
  show Rm E 11 43 [vr 76, vr 70, vi x2, vi x3, vi x4] [] N1 _ _
  refine R_S q11 3 (pc2 := 5) (ls2 := [vr 76, vr 70, vi x2, vi (x3 + 1), vi (x4 + 1)]) (st2 := []) rfl ?_
  exact k
-- 12 HeavyChains$Marks.flip(LHeavyChains$Route;)V  cuts [0, 2]
theorem q12 : cdOf 12 = some mt12 := rfl
-- 
theorem b12_0_0 {E : env} {M : mem} {rv : Option Value} {M2 : mem}  (k : Rm E 12 2 [vr 76, vr 70, vi 0] [] M rv M2) : Rm E 12 0 [vr 76, vr 70, vn] [] M rv M2 := by
  refine R_S q12 2 (pc2 := 2) (ls2 := [vr 76, vr 70, vi 0]) (st2 := []) rfl ?_
  exact k
-- 7+
theorem b12_2_0 {E : env} {M : mem} {x2 : Int32}  (h0 : M.1 70 1 ≤ x2) : Rm E 12 2 [vr 76, vr 70, vi x2] [] M none M := by
  refine R_S q12 3 (pc2 := 7) (ls2 := [vr 76, vr 70, vi x2]) (st2 := [.int (M.1 70 1), .int x2]) rfl ?_
  refine R_ict q12 rfl (decide_eq_true h0) ?_
  show Rm E 12 46 [vr 76, vr 70, vi x2] [] M _ _
  exact R_ret rfl q12 rfl rfl rfl rfl rfl
-- 7- 31+
theorem b12_2_1 {E : env} {M : mem} {rv : Option Value} {M2 : mem} {x2 : Int32} {N1 : mem} (h0 : ¬ (M.1 70 1 ≤ x2)) (h1 : inR x2 30) (h2 : inR x2 30) (h3 : inR (M.1 71 x2.toNatClampNeg) 30) (h4 : ¬ M.1 77 (M.1 71 x2.toNatClampNeg).toNatClampNeg = 0) (h5 : inR (M.1 71 x2.toNatClampNeg) 30) (eN1 : N1 = upM M 77 ((M.1 71 x2.toNatClampNeg).toNatClampNeg) 0) (k : Rm E 12 2 [vr 76, vr 70, vi (x2 + 1)] [] N1 rv M2) : Rm E 12 2 [vr 76, vr 70, vi x2] [] M rv M2 := by
  refine R_S q12 3 (pc2 := 7) (ls2 := [vr 76, vr 70, vi x2]) (st2 := [.int (M.1 70 1), .int x2]) rfl ?_
  refine R_icf q12 rfl (decide_eq_false h0) ?_
  show Rm E 12 10 [vr 76, vr 70, vi x2] [] M _ _
  refine R_S q12 5 (pc2 := 19) (ls2 := [vr 76, vr 70, vi x2]) (st2 := [.int x2, .ref 71, .ref 77]) rfl ?_
  refine R_ial q12 rfl rfl h1 ?_
  show Rm E 12 20 [vr 76, vr 70, vi x2] [.int (M.1 71 x2.toNatClampNeg), .ref 77] M _ _
  refine R_S q12 5 (pc2 := 29) (ls2 := [vr 76, vr 70, vi x2]) (st2 := [.int x2, .ref 71, .ref 77, .int (M.1 71 x2.toNatClampNeg), .ref 77]) rfl ?_
  refine R_ial q12 rfl rfl h2 ?_
  show Rm E 12 30 [vr 76, vr 70, vi x2] [.int (M.1 71 x2.toNatClampNeg), .ref 77, .int (M.1 71 x2.toNatClampNeg), .ref 77] M _ _
  refine R_bal q12 rfl rfl h3 ?_
  show Rm E 12 31 [vr 76, vr 70, vi x2] [.int (M.1 77 (M.1 71 x2.toNatClampNeg).toNatClampNeg), .int (M.1 71 x2.toNatClampNeg), .ref 77] M _ _
  refine R_ift q12 rfl (decide_eq_true h4) ?_
  show Rm E 12 38 [vr 76, vr 70, vi x2] [.int (M.1 71 x2.toNatClampNeg), .ref 77] M _ _
  refine R_S q12 1 (pc2 := 39) (ls2 := [vr 76, vr 70, vi x2]) (st2 := [.int 0, .int (M.1 71 x2.toNatClampNeg), .ref 77]) rfl ?_
  refine R_bas q12 rfl rfl h5 eN1 ?_
  show Rm E 12 40 [vr 76, vr 70, vi x2] [] N1 _ _
  refine R_S q12 2 (pc2 := 2) (ls2 := [vr 76, vr 70, vi (x2 + 1)]) (st2 := []) rfl ?_
  exact k
-- 7- 31-
theorem b12_2_2 {E : env} {M : mem} {rv : Option Value} {M2 : mem} {x2 : Int32} {N1 : mem} (h0 : ¬ (M.1 70 1 ≤ x2)) (h1 : inR x2 30) (h2 : inR x2 30) (h3 : inR (M.1 71 x2.toNatClampNeg) 30) (h4 : ¬ (¬ M.1 77 (M.1 71 x2.toNatClampNeg).toNatClampNeg = 0)) (h5 : inR (M.1 71 x2.toNatClampNeg) 30) (eN1 : N1 = upM M 77 ((M.1 71 x2.toNatClampNeg).toNatClampNeg) 1) (k : Rm E 12 2 [vr 76, vr 70, vi (x2 + 1)] [] N1 rv M2) : Rm E 12 2 [vr 76, vr 70, vi x2] [] M rv M2 := by
  refine R_S q12 3 (pc2 := 7) (ls2 := [vr 76, vr 70, vi x2]) (st2 := [.int (M.1 70 1), .int x2]) rfl ?_
  refine R_icf q12 rfl (decide_eq_false h0) ?_
  show Rm E 12 10 [vr 76, vr 70, vi x2] [] M _ _
  refine R_S q12 5 (pc2 := 19) (ls2 := [vr 76, vr 70, vi x2]) (st2 := [.int x2, .ref 71, .ref 77]) rfl ?_
  refine R_ial q12 rfl rfl h1 ?_
  show Rm E 12 20 [vr 76, vr 70, vi x2] [.int (M.1 71 x2.toNatClampNeg), .ref 77] M _ _
  refine R_S q12 5 (pc2 := 29) (ls2 := [vr 76, vr 70, vi x2]) (st2 := [.int x2, .ref 71, .ref 77, .int (M.1 71 x2.toNatClampNeg), .ref 77]) rfl ?_
  refine R_ial q12 rfl rfl h2 ?_
  show Rm E 12 30 [vr 76, vr 70, vi x2] [.int (M.1 71 x2.toNatClampNeg), .ref 77, .int (M.1 71 x2.toNatClampNeg), .ref 77] M _ _
  refine R_bal q12 rfl rfl h3 ?_
  show Rm E 12 31 [vr 76, vr 70, vi x2] [.int (M.1 77 (M.1 71 x2.toNatClampNeg).toNatClampNeg), .int (M.1 71 x2.toNatClampNeg), .ref 77] M _ _
  refine R_iff q12 rfl (decide_eq_false h4) ?_
  show Rm E 12 34 [vr 76, vr 70, vi x2] [.int (M.1 71 x2.toNatClampNeg), .ref 77] M _ _
  refine R_S q12 2 (pc2 := 39) (ls2 := [vr 76, vr 70, vi x2]) (st2 := [.int 1, .int (M.1 71 x2.toNatClampNeg), .ref 77]) rfl ?_
  refine R_bas q12 rfl rfl h5 eN1 ?_
  show Rm E 12 40 [vr 76, vr 70, vi x2] [] N1 _ _
  refine R_S q12 2 (pc2 := 2) (ls2 := [vr 76, vr 70, vi (x2 + 1)]) (st2 := []) rfl ?_
  exact k
-- 13 HeavyChains$Marks.firstFrom(LHeavyChains$Tree;I)I  cuts [0, 2]
theorem q13 : cdOf 13 = some mt13 := rfl
-- 
theorem b13_0_0 {E : env} {M : mem} {rv : Option Value} {M2 : mem} {x2 : Int32}  (k : Rm E 13 2 [vr 76, vr 9, vn, vi x2] [] M rv M2) : Rm E 13 0 [vr 76, vr 9, vi x2, vn] [] M rv M2 := by
  refine R_S q13 2 (pc2 := 2) (ls2 := [vr 76, vr 9, vi x2, vi x2]) (st2 := []) rfl ?_
  exact R_w (ls := [vr 76, vr 9, vn, vi x2]) (show lsle _ _ from ⟨rfl, ⟨rfl, ⟨rfl, trivial⟩⟩⟩) k
-- 7+
theorem b13_2_0 {E : env} {M : mem} {x3 : Int32}  (h0 : M.1 9 0 ≤ x3) : Rm E 13 2 [vr 76, vr 9, vn, vi x3] [] M (some (.int (-4))) M := by
  refine R_S q13 3 (pc2 := 7) (ls2 := [vr 76, vr 9, vn, vi x3]) (st2 := [.int (M.1 9 0), .int x3]) rfl ?_
  refine R_ict q13 rfl (decide_eq_true h0) ?_
  show Rm E 13 32 [vr 76, vr 9, vn, vi x3] [] M _ _
  refine R_S q13 1 (pc2 := 34) (ls2 := [vr 76, vr 9, vn, vi x3]) (st2 := [.int (-4)]) rfl ?_
  exact R_ret rfl q13 rfl rfl rfl rfl (stpR_i rfl rfl)
-- 7- 21+
theorem b13_2_1 {E : env} {M : mem} {rv : Option Value} {M2 : mem} {x3 : Int32}  (h0 : ¬ (M.1 9 0 ≤ x3)) (h1 : inR x3 30) (h2 : inR (M.1 14 x3.toNatClampNeg) 30) (h3 : M.1 77 (M.1 14 x3.toNatClampNeg).toNatClampNeg = 0) (k : Rm E 13 2 [vr 76, vr 9, vn, vi (x3 + 1)] [] M rv M2) : Rm E 13 2 [vr 76, vr 9, vn, vi x3] [] M rv M2 := by
  refine R_S q13 3 (pc2 := 7) (ls2 := [vr 76, vr 9, vn, vi x3]) (st2 := [.int (M.1 9 0), .int x3]) rfl ?_
  refine R_icf q13 rfl (decide_eq_false h0) ?_
  show Rm E 13 10 [vr 76, vr 9, vn, vi x3] [] M _ _
  refine R_S q13 5 (pc2 := 19) (ls2 := [vr 76, vr 9, vn, vi x3]) (st2 := [.int x3, .ref 14, .ref 77]) rfl ?_
  refine R_ial q13 rfl rfl h1 ?_
  show Rm E 13 20 [vr 76, vr 9, vn, vi x3] [.int (M.1 14 x3.toNatClampNeg), .ref 77] M _ _
  refine R_bal q13 rfl rfl h2 ?_
  show Rm E 13 21 [vr 76, vr 9, vn, vi x3] [.int (M.1 77 (M.1 14 x3.toNatClampNeg).toNatClampNeg)] M _ _
  refine R_ift q13 rfl (decide_eq_true h3) ?_
  show Rm E 13 26 [vr 76, vr 9, vn, vi x3] [] M _ _
  refine R_S q13 2 (pc2 := 2) (ls2 := [vr 76, vr 9, vn, vi (x3 + 1)]) (st2 := []) rfl ?_
  exact k
-- 7- 21-
theorem b13_2_2 {E : env} {M : mem} {x3 : Int32}  (h0 : ¬ (M.1 9 0 ≤ x3)) (h1 : inR x3 30) (h2 : inR (M.1 14 x3.toNatClampNeg) 30) (h3 : ¬ (M.1 77 (M.1 14 x3.toNatClampNeg).toNatClampNeg = 0)) : Rm E 13 2 [vr 76, vr 9, vn, vi x3] [] M (some (.int x3)) M := by
  refine R_S q13 3 (pc2 := 7) (ls2 := [vr 76, vr 9, vn, vi x3]) (st2 := [.int (M.1 9 0), .int x3]) rfl ?_
  refine R_icf q13 rfl (decide_eq_false h0) ?_
  show Rm E 13 10 [vr 76, vr 9, vn, vi x3] [] M _ _
  refine R_S q13 5 (pc2 := 19) (ls2 := [vr 76, vr 9, vn, vi x3]) (st2 := [.int x3, .ref 14, .ref 77]) rfl ?_
  refine R_ial q13 rfl rfl h1 ?_
  show Rm E 13 20 [vr 76, vr 9, vn, vi x3] [.int (M.1 14 x3.toNatClampNeg), .ref 77] M _ _
  refine R_bal q13 rfl rfl h2 ?_
  show Rm E 13 21 [vr 76, vr 9, vn, vi x3] [.int (M.1 77 (M.1 14 x3.toNatClampNeg).toNatClampNeg)] M _ _
  refine R_iff q13 rfl (decide_eq_false h3) ?_
  show Rm E 13 24 [vr 76, vr 9, vn, vi x3] [] M _ _
  refine R_S q13 1 (pc2 := 25) (ls2 := [vr 76, vr 9, vn, vi x3]) (st2 := [.int x3]) rfl ?_
  exact R_ret rfl q13 rfl rfl rfl rfl (stpR_i rfl rfl)
-- 14 HeavyChains$Marks.closest(I[I)I  cuts [0, 6]
theorem q14 : cdOf 14 = some mt14 := rfl
-- 
theorem b14_0_0 {E : env} {M : mem} {rv : Option Value} {M2 : mem} {x1 : Int32}  (k : Rm E 14 6 [vr 76, vi x1, vr 74, vi (-4), vi 0] [] M rv M2) : Rm E 14 0 [vr 76, vi x1, vr 74, vn, vn] [] M rv M2 := by
  refine R_S q14 4 (pc2 := 6) (ls2 := [vr 76, vi x1, vr 74, vi (-4), vi 0]) (st2 := []) rfl ?_
  exact k
-- 9+
theorem b14_6_0 {E : env} {M : mem} {x1 x3 x4 : Int32}  (h0 : x1 ≤ x4) : Rm E 14 6 [vr 76, vi x1, vr 74, vi x3, vi x4] [] M (some (.int x3)) M := by
  refine R_S q14 2 (pc2 := 9) (ls2 := [vr 76, vi x1, vr 74, vi x3, vi x4]) (st2 := [.int x1, .int x4]) rfl ?_
  refine R_ict q14 rfl (decide_eq_true h0) ?_
  show Rm E 14 47 [vr 76, vi x1, vr 74, vi x3, vi x4] [] M _ _
  refine R_S q14 1 (pc2 := 48) (ls2 := [vr 76, vi x1, vr 74, vi x3, vi x4]) (st2 := [.int x3]) rfl ?_
  exact R_ret rfl q14 rfl rfl rfl rfl (stpR_i rfl rfl)
-- 9- 19+
theorem b14_6_1 {E : env} {M : mem} {rv : Option Value} {M2 : mem} {x1 x3 x4 : Int32}  (h0 : ¬ (x1 ≤ x4)) (h1 : inR x4 30) (h2 : M.1 77 x4.toNatClampNeg = 0) (k : Rm E 14 6 [vr 76, vi x1, vr 74, vi x3, vi (x4 + 1)] [] M rv M2) : Rm E 14 6 [vr 76, vi x1, vr 74, vi x3, vi x4] [] M rv M2 := by
  refine R_S q14 2 (pc2 := 9) (ls2 := [vr 76, vi x1, vr 74, vi x3, vi x4]) (st2 := [.int x1, .int x4]) rfl ?_
  refine R_icf q14 rfl (decide_eq_false h0) ?_
  show Rm E 14 12 [vr 76, vi x1, vr 74, vi x3, vi x4] [] M _ _
  refine R_S q14 3 (pc2 := 18) (ls2 := [vr 76, vi x1, vr 74, vi x3, vi x4]) (st2 := [.int x4, .ref 77]) rfl ?_
  refine R_bal q14 rfl rfl h1 ?_
  show Rm E 14 19 [vr 76, vi x1, vr 74, vi x3, vi x4] [.int (M.1 77 x4.toNatClampNeg)] M _ _
  refine R_ift q14 rfl (decide_eq_true h2) ?_
  show Rm E 14 41 [vr 76, vi x1, vr 74, vi x3, vi x4] [] M _ _
  refine R_S q14 2 (pc2 := 6) (ls2 := [vr 76, vi x1, vr 74, vi x3, vi (x4 + 1)]) (st2 := []) rfl ?_
  exact k
-- 9- 19- 25+
theorem b14_6_2 {E : env} {M : mem} {rv : Option Value} {M2 : mem} {x1 x3 x4 : Int32}  (h0 : ¬ (x1 ≤ x4)) (h1 : inR x4 30) (h2 : ¬ (M.1 77 x4.toNatClampNeg = 0)) (h3 : x3 = (-4)) (k : Rm E 14 6 [vr 76, vi x1, vr 74, vi x4, vi (x4 + 1)] [] M rv M2) : Rm E 14 6 [vr 76, vi x1, vr 74, vi x3, vi x4] [] M rv M2 := by
  refine R_S q14 2 (pc2 := 9) (ls2 := [vr 76, vi x1, vr 74, vi x3, vi x4]) (st2 := [.int x1, .int x4]) rfl ?_
  refine R_icf q14 rfl (decide_eq_false h0) ?_
  show Rm E 14 12 [vr 76, vi x1, vr 74, vi x3, vi x4] [] M _ _
  refine R_S q14 3 (pc2 := 18) (ls2 := [vr 76, vi x1, vr 74, vi x3, vi x4]) (st2 := [.int x4, .ref 77]) rfl ?_
  refine R_bal q14 rfl rfl h1 ?_
  show Rm E 14 19 [vr 76, vi x1, vr 74, vi x3, vi x4] [.int (M.1 77 x4.toNatClampNeg)] M _ _
  refine R_iff q14 rfl (decide_eq_false h2) ?_
  show Rm E 14 22 [vr 76, vi x1, vr 74, vi x3, vi x4] [] M _ _
  refine R_S q14 2 (pc2 := 25) (ls2 := [vr 76, vi x1, vr 74, vi x3, vi x4]) (st2 := [.int (-4), .int x3]) rfl ?_
  refine R_ict q14 rfl (decide_eq_true h3) ?_
  show Rm E 14 38 [vr 76, vi x1, vr 74, vi x3, vi x4] [] M _ _
  refine R_S q14 4 (pc2 := 6) (ls2 := [vr 76, vi x1, vr 74, vi x4, vi (x4 + 1)]) (st2 := []) rfl ?_
  exact k
-- 9- 19- 25- 35+
theorem b14_6_3 {E : env} {M : mem} {rv : Option Value} {M2 : mem} {x1 x3 x4 : Int32}  (h0 : ¬ (x1 ≤ x4)) (h1 : inR x4 30) (h2 : ¬ (M.1 77 x4.toNatClampNeg = 0)) (h3 : ¬ (x3 = (-4))) (h4 : inR x4 30) (h5 : inR x3 30) (h6 : M.1 74 x3.toNatClampNeg ≤ M.1 74 x4.toNatClampNeg) (k : Rm E 14 6 [vr 76, vi x1, vr 74, vi x3, vi (x4 + 1)] [] M rv M2) : Rm E 14 6 [vr 76, vi x1, vr 74, vi x3, vi x4] [] M rv M2 := by
  refine R_S q14 2 (pc2 := 9) (ls2 := [vr 76, vi x1, vr 74, vi x3, vi x4]) (st2 := [.int x1, .int x4]) rfl ?_
  refine R_icf q14 rfl (decide_eq_false h0) ?_
  show Rm E 14 12 [vr 76, vi x1, vr 74, vi x3, vi x4] [] M _ _
  refine R_S q14 3 (pc2 := 18) (ls2 := [vr 76, vi x1, vr 74, vi x3, vi x4]) (st2 := [.int x4, .ref 77]) rfl ?_
  refine R_bal q14 rfl rfl h1 ?_
  show Rm E 14 19 [vr 76, vi x1, vr 74, vi x3, vi x4] [.int (M.1 77 x4.toNatClampNeg)] M _ _
  refine R_iff q14 rfl (decide_eq_false h2) ?_
  show Rm E 14 22 [vr 76, vi x1, vr 74, vi x3, vi x4] [] M _ _
  refine R_S q14 2 (pc2 := 25) (ls2 := [vr 76, vi x1, vr 74, vi x3, vi x4]) (st2 := [.int (-4), .int x3]) rfl ?_
  refine R_icf q14 rfl (decide_eq_false h3) ?_
  show Rm E 14 28 [vr 76, vi x1, vr 74, vi x3, vi x4] [] M _ _
  refine R_S q14 2 (pc2 := 31) (ls2 := [vr 76, vi x1, vr 74, vi x3, vi x4]) (st2 := [.int x4, .ref 74]) rfl ?_
  refine R_ial q14 rfl rfl h4 ?_
  show Rm E 14 32 [vr 76, vi x1, vr 74, vi x3, vi x4] [.int (M.1 74 x4.toNatClampNeg)] M _ _
  refine R_S q14 2 (pc2 := 34) (ls2 := [vr 76, vi x1, vr 74, vi x3, vi x4]) (st2 := [.int x3, .ref 74, .int (M.1 74 x4.toNatClampNeg)]) rfl ?_
  refine R_ial q14 rfl rfl h5 ?_
  show Rm E 14 35 [vr 76, vi x1, vr 74, vi x3, vi x4] [.int (M.1 74 x3.toNatClampNeg), .int (M.1 74 x4.toNatClampNeg)] M _ _
  refine R_ict q14 rfl (decide_eq_true h6) ?_
  show Rm E 14 41 [vr 76, vi x1, vr 74, vi x3, vi x4] [] M _ _
  refine R_S q14 2 (pc2 := 6) (ls2 := [vr 76, vi x1, vr 74, vi x3, vi (x4 + 1)]) (st2 := []) rfl ?_
  exact k
-- 9- 19- 25- 35-
theorem b14_6_4 {E : env} {M : mem} {rv : Option Value} {M2 : mem} {x1 x3 x4 : Int32}  (h0 : ¬ (x1 ≤ x4)) (h1 : inR x4 30) (h2 : ¬ (M.1 77 x4.toNatClampNeg = 0)) (h3 : ¬ (x3 = (-4))) (h4 : inR x4 30) (h5 : inR x3 30) (h6 : ¬ (M.1 74 x3.toNatClampNeg ≤ M.1 74 x4.toNatClampNeg)) (k : Rm E 14 6 [vr 76, vi x1, vr 74, vi x4, vi (x4 + 1)] [] M rv M2) : Rm E 14 6 [vr 76, vi x1, vr 74, vi x3, vi x4] [] M rv M2 := by
  refine R_S q14 2 (pc2 := 9) (ls2 := [vr 76, vi x1, vr 74, vi x3, vi x4]) (st2 := [.int x1, .int x4]) rfl ?_
  refine R_icf q14 rfl (decide_eq_false h0) ?_
  show Rm E 14 12 [vr 76, vi x1, vr 74, vi x3, vi x4] [] M _ _
  refine R_S q14 3 (pc2 := 18) (ls2 := [vr 76, vi x1, vr 74, vi x3, vi x4]) (st2 := [.int x4, .ref 77]) rfl ?_
  refine R_bal q14 rfl rfl h1 ?_
  show Rm E 14 19 [vr 76, vi x1, vr 74, vi x3, vi x4] [.int (M.1 77 x4.toNatClampNeg)] M _ _
  refine R_iff q14 rfl (decide_eq_false h2) ?_
  show Rm E 14 22 [vr 76, vi x1, vr 74, vi x3, vi x4] [] M _ _
  refine R_S q14 2 (pc2 := 25) (ls2 := [vr 76, vi x1, vr 74, vi x3, vi x4]) (st2 := [.int (-4), .int x3]) rfl ?_
  refine R_icf q14 rfl (decide_eq_false h3) ?_
  show Rm E 14 28 [vr 76, vi x1, vr 74, vi x3, vi x4] [] M _ _
  refine R_S q14 2 (pc2 := 31) (ls2 := [vr 76, vi x1, vr 74, vi x3, vi x4]) (st2 := [.int x4, .ref 74]) rfl ?_
  refine R_ial q14 rfl rfl h4 ?_
  show Rm E 14 32 [vr 76, vi x1, vr 74, vi x3, vi x4] [.int (M.1 74 x4.toNatClampNeg)] M _ _
  refine R_S q14 2 (pc2 := 34) (ls2 := [vr 76, vi x1, vr 74, vi x3, vi x4]) (st2 := [.int x3, .ref 74, .int (M.1 74 x4.toNatClampNeg)]) rfl ?_
  refine R_ial q14 rfl rfl h5 ?_
  show Rm E 14 35 [vr 76, vi x1, vr 74, vi x3, vi x4] [.int (M.1 74 x3.toNatClampNeg), .int (M.1 74 x4.toNatClampNeg)] M _ _
  refine R_icf q14 rfl (decide_eq_false h6) ?_
  show Rm E 14 38 [vr 76, vi x1, vr 74, vi x3, vi x4] [] M _ _
  refine R_S q14 4 (pc2 := 6) (ls2 := [vr 76, vi x1, vr 74, vi x4, vi (x4 + 1)]) (st2 := []) rfl ?_
  exact k
-- 16 HeavyChains$Reader.read(LHeavyChains$Letters;)I  cuts [0, 9]
theorem q16 : cdOf 16 = some mt16 := rfl
-- 
theorem b16_0_0 {E : env} {M : mem} {rv : Option Value} {M2 : mem} {N1 : mem} (eN1 : N1 = upM M 3 0 0) (k : Rm E 16 9 [vr 3, vr 1, vi 0, vi 0, vn] [] N1 rv M2) : Rm E 16 0 [vr 3, vr 1, vn, vn, vn] [] M rv M2 := by
  refine R_S q16 2 (pc2 := 2) (ls2 := [vr 3, vr 1, vn, vn, vn]) (st2 := [.int 0, .ref 3]) rfl ?_
  refine R_pf q16 rfl rfl rfl rfl rfl eN1 ?_
  show Rm E 16 5 [vr 3, vr 1, vn, vn, vn] [] N1 _ _
  refine R_S q16 4 (pc2 := 9) (ls2 := [vr 3, vr 1, vi 0, vi 0, vn]) (st2 := []) rfl ?_
  exact k
-- 13+
theorem b16_9_0 {E : env} {M : mem} {x2 x3 : Int32}  (h0 : 200 ≤ x3) : Rm E 16 9 [vr 3, vr 1, vi x2, vi x3, vn] [] M (some (.int (-4))) M := by
  refine R_S q16 2 (pc2 := 13) (ls2 := [vr 3, vr 1, vi x2, vi x3, vn]) (st2 := [.int 200, .int x3]) rfl ?_
  refine R_ict q16 rfl (decide_eq_true h0) ?_
  show Rm E 16 78 [vr 3, vr 1, vi x2, vi x3, vn] [] M _ _
  refine R_S q16 1 (pc2 := 80) (ls2 := [vr 3, vr 1, vi x2, vi x3, vn]) (st2 := [.int (-4)]) rfl ?_
  exact R_ret rfl q16 rfl rfl rfl rfl (stpR_i rfl rfl)
-- 13- 21+
theorem b16_9_1 {E : env} {M : mem} {x2 x3 : Int32}  (h0 : ¬ (200 ≤ x3)) (h1 : M.1 1 1 ≤ x2) : Rm E 16 9 [vr 3, vr 1, vi x2, vi x3, vn] [] M (some (.int (-4))) M := by
  refine R_S q16 2 (pc2 := 13) (ls2 := [vr 3, vr 1, vi x2, vi x3, vn]) (st2 := [.int 200, .int x3]) rfl ?_
  refine R_icf q16 rfl (decide_eq_false h0) ?_
  show Rm E 16 16 [vr 3, vr 1, vi x2, vi x3, vn] [] M _ _
  refine R_S q16 3 (pc2 := 21) (ls2 := [vr 3, vr 1, vi x2, vi x3, vn]) (st2 := [.int (M.1 1 1), .int x2]) rfl ?_
  refine R_ict q16 rfl (decide_eq_true h1) ?_
  show Rm E 16 78 [vr 3, vr 1, vi x2, vi x3, vn] [] M _ _
  refine R_S q16 1 (pc2 := 80) (ls2 := [vr 3, vr 1, vi x2, vi x3, vn]) (st2 := [.int (-4)]) rfl ?_
  exact R_ret rfl q16 rfl rfl rfl rfl (stpR_i rfl rfl)
-- 13- 21- call X3_endOfSigns 39+
theorem b16_9_2 {E : env} {M : mem} {x2 x3 : Int32} {c1 : Int32} (h0 : ¬ (200 ≤ x3)) (h1 : ¬ (M.1 1 1 ≤ x2)) (h2 : Rm E 17 0 [vr 1, vi (x2 + 1), vn] [] M (some (.int c1)) M) (h3 : M.1 1 1 ≤ c1) : Rm E 16 9 [vr 3, vr 1, vi x2, vi x3, vn] [] M (some (.int x2)) M := by
  refine R_S q16 2 (pc2 := 13) (ls2 := [vr 3, vr 1, vi x2, vi x3, vn]) (st2 := [.int 200, .int x3]) rfl ?_
  refine R_icf q16 rfl (decide_eq_false h0) ?_
  show Rm E 16 16 [vr 3, vr 1, vi x2, vi x3, vn] [] M _ _
  refine R_S q16 3 (pc2 := 21) (ls2 := [vr 3, vr 1, vi x2, vi x3, vn]) (st2 := [.int (M.1 1 1), .int x2]) rfl ?_
  refine R_icf q16 rfl (decide_eq_false h1) ?_
  show Rm E 16 24 [vr 3, vr 1, vi x2, vi x3, vn] [] M _ _
  refine R_S q16 4 (pc2 := 28) (ls2 := [vr 3, vr 1, vi x2, vi x3, vn]) (st2 := [.int (x2 + 1), .ref 1]) rfl ?_
  refine R_call q16 rfl rfl rfl rfl rfl rfl h2 ?_
  show Rm E 16 31 [vr 3, vr 1, vi x2, vi x3, vn] [.int c1] M _ _
  refine R_S q16 4 (pc2 := 39) (ls2 := [vr 3, vr 1, vi x2, vi x3, vi c1]) (st2 := [.int (M.1 1 1), .int c1]) rfl ?_
  refine R_ict q16 rfl (decide_eq_true h3) ?_
  show Rm E 16 65 [vr 3, vr 1, vi x2, vi x3, vi c1] [] M _ _
  refine R_S q16 1 (pc2 := 66) (ls2 := [vr 3, vr 1, vi x2, vi x3, vi c1]) (st2 := [.int x2]) rfl ?_
  exact R_ret rfl q16 rfl rfl rfl rfl (stpR_i rfl rfl)
-- 13- 21- call X3_endOfSigns 39- 51+
theorem b16_9_3 {E : env} {M : mem} {x2 x3 : Int32} {c1 : Int32} (h0 : ¬ (200 ≤ x3)) (h1 : ¬ (M.1 1 1 ≤ x2)) (h2 : Rm E 17 0 [vr 1, vi (x2 + 1), vn] [] M (some (.int c1)) M) (h3 : ¬ (M.1 1 1 ≤ c1)) (h4 : inR c1 200) (h5 : ¬ M.1 2 c1.toNatClampNeg = 59) : Rm E 16 9 [vr 3, vr 1, vi x2, vi x3, vn] [] M (some (.int x2)) M := by
  refine R_S q16 2 (pc2 := 13) (ls2 := [vr 3, vr 1, vi x2, vi x3, vn]) (st2 := [.int 200, .int x3]) rfl ?_
  refine R_icf q16 rfl (decide_eq_false h0) ?_
  show Rm E 16 16 [vr 3, vr 1, vi x2, vi x3, vn] [] M _ _
  refine R_S q16 3 (pc2 := 21) (ls2 := [vr 3, vr 1, vi x2, vi x3, vn]) (st2 := [.int (M.1 1 1), .int x2]) rfl ?_
  refine R_icf q16 rfl (decide_eq_false h1) ?_
  show Rm E 16 24 [vr 3, vr 1, vi x2, vi x3, vn] [] M _ _
  refine R_S q16 4 (pc2 := 28) (ls2 := [vr 3, vr 1, vi x2, vi x3, vn]) (st2 := [.int (x2 + 1), .ref 1]) rfl ?_
  refine R_call q16 rfl rfl rfl rfl rfl rfl h2 ?_
  show Rm E 16 31 [vr 3, vr 1, vi x2, vi x3, vn] [.int c1] M _ _
  refine R_S q16 4 (pc2 := 39) (ls2 := [vr 3, vr 1, vi x2, vi x3, vi c1]) (st2 := [.int (M.1 1 1), .int c1]) rfl ?_
  refine R_icf q16 rfl (decide_eq_false h3) ?_
  show Rm E 16 42 [vr 3, vr 1, vi x2, vi x3, vi c1] [] M _ _
  refine R_S q16 3 (pc2 := 48) (ls2 := [vr 3, vr 1, vi x2, vi x3, vi c1]) (st2 := [.int c1, .ref 2]) rfl ?_
  refine R_cal q16 rfl rfl h4 ?_
  show Rm E 16 49 [vr 3, vr 1, vi x2, vi x3, vi c1] [.int (M.1 2 c1.toNatClampNeg)] M _ _
  refine R_S q16 1 (pc2 := 51) (ls2 := [vr 3, vr 1, vi x2, vi x3, vi c1]) (st2 := [.int 59, .int (M.1 2 c1.toNatClampNeg)]) rfl ?_
  refine R_ict q16 rfl (decide_eq_true h5) ?_
  show Rm E 16 65 [vr 3, vr 1, vi x2, vi x3, vi c1] [] M _ _
  refine R_S q16 1 (pc2 := 66) (ls2 := [vr 3, vr 1, vi x2, vi x3, vi c1]) (st2 := [.int x2]) rfl ?_
  exact R_ret rfl q16 rfl rfl rfl rfl (stpR_i rfl rfl)
-- 13- 21- call X3_endOfSigns 39- 51- call X3_takeItem 62+
theorem b16_9_4 {E : env} {M : mem} {rv : Option Value} {M2 : mem} {x2 x3 : Int32} {c1 : Int32} {c2 : Int32} {N1 : mem} (h0 : ¬ (200 ≤ x3)) (h1 : ¬ (M.1 1 1 ≤ x2)) (h2 : Rm E 17 0 [vr 1, vi (x2 + 1), vn] [] M (some (.int c1)) M) (h3 : ¬ (M.1 1 1 ≤ c1)) (h4 : inR c1 200) (h5 : ¬ (¬ M.1 2 c1.toNatClampNeg = 59)) (h6 : Rm E 19 0 [vr 3, vr 1, vi x2, vi c1] [] M (some (.int c2)) N1) (h7 : ¬ c2 = 0) (k : Rm E 16 9 [vr 3, vr 1, vi (c1 + 1), vi (x3 + 1), vn] [] N1 rv M2) : Rm E 16 9 [vr 3, vr 1, vi x2, vi x3, vn] [] M rv M2 := by
  refine R_S q16 2 (pc2 := 13) (ls2 := [vr 3, vr 1, vi x2, vi x3, vn]) (st2 := [.int 200, .int x3]) rfl ?_
  refine R_icf q16 rfl (decide_eq_false h0) ?_
  show Rm E 16 16 [vr 3, vr 1, vi x2, vi x3, vn] [] M _ _
  refine R_S q16 3 (pc2 := 21) (ls2 := [vr 3, vr 1, vi x2, vi x3, vn]) (st2 := [.int (M.1 1 1), .int x2]) rfl ?_
  refine R_icf q16 rfl (decide_eq_false h1) ?_
  show Rm E 16 24 [vr 3, vr 1, vi x2, vi x3, vn] [] M _ _
  refine R_S q16 4 (pc2 := 28) (ls2 := [vr 3, vr 1, vi x2, vi x3, vn]) (st2 := [.int (x2 + 1), .ref 1]) rfl ?_
  refine R_call q16 rfl rfl rfl rfl rfl rfl h2 ?_
  show Rm E 16 31 [vr 3, vr 1, vi x2, vi x3, vn] [.int c1] M _ _
  refine R_S q16 4 (pc2 := 39) (ls2 := [vr 3, vr 1, vi x2, vi x3, vi c1]) (st2 := [.int (M.1 1 1), .int c1]) rfl ?_
  refine R_icf q16 rfl (decide_eq_false h3) ?_
  show Rm E 16 42 [vr 3, vr 1, vi x2, vi x3, vi c1] [] M _ _
  refine R_S q16 3 (pc2 := 48) (ls2 := [vr 3, vr 1, vi x2, vi x3, vi c1]) (st2 := [.int c1, .ref 2]) rfl ?_
  refine R_cal q16 rfl rfl h4 ?_
  show Rm E 16 49 [vr 3, vr 1, vi x2, vi x3, vi c1] [.int (M.1 2 c1.toNatClampNeg)] M _ _
  refine R_S q16 1 (pc2 := 51) (ls2 := [vr 3, vr 1, vi x2, vi x3, vi c1]) (st2 := [.int 59, .int (M.1 2 c1.toNatClampNeg)]) rfl ?_
  refine R_icf q16 rfl (decide_eq_false h5) ?_
  show Rm E 16 54 [vr 3, vr 1, vi x2, vi x3, vi c1] [] M _ _
  refine R_S q16 4 (pc2 := 59) (ls2 := [vr 3, vr 1, vi x2, vi x3, vi c1]) (st2 := [.int c1, .int x2, .ref 1, .ref 3]) rfl ?_
  refine R_call q16 rfl rfl rfl rfl rfl rfl h6 ?_
  show Rm E 16 62 [vr 3, vr 1, vi x2, vi x3, vi c1] [.int c2] N1 _ _
  refine R_ift q16 rfl (decide_eq_true h7) ?_
  show Rm E 16 67 [vr 3, vr 1, vi x2, vi x3, vi c1] [] N1 _ _
  refine R_S q16 6 (pc2 := 9) (ls2 := [vr 3, vr 1, vi (c1 + 1), vi (x3 + 1), vi c1]) (st2 := []) rfl ?_
  exact R_w (ls := [vr 3, vr 1, vi (c1 + 1), vi (x3 + 1), vn]) (show lsle _ _ from ⟨rfl, ⟨rfl, ⟨rfl, ⟨rfl, trivial⟩⟩⟩⟩) k
-- 13- 21- call X3_endOfSigns 39- 51- call X3_takeItem 62-
theorem b16_9_5 {E : env} {M : mem} {x2 x3 : Int32} {c1 : Int32} {c2 : Int32} {N1 : mem} (h0 : ¬ (200 ≤ x3)) (h1 : ¬ (M.1 1 1 ≤ x2)) (h2 : Rm E 17 0 [vr 1, vi (x2 + 1), vn] [] M (some (.int c1)) M) (h3 : ¬ (M.1 1 1 ≤ c1)) (h4 : inR c1 200) (h5 : ¬ (¬ M.1 2 c1.toNatClampNeg = 59)) (h6 : Rm E 19 0 [vr 3, vr 1, vi x2, vi c1] [] M (some (.int c2)) N1) (h7 : ¬ (¬ c2 = 0)) : Rm E 16 9 [vr 3, vr 1, vi x2, vi x3, vn] [] M (some (.int x2)) N1 := by
  refine R_S q16 2 (pc2 := 13) (ls2 := [vr 3, vr 1, vi x2, vi x3, vn]) (st2 := [.int 200, .int x3]) rfl ?_
  refine R_icf q16 rfl (decide_eq_false h0) ?_
  show Rm E 16 16 [vr 3, vr 1, vi x2, vi x3, vn] [] M _ _
  refine R_S q16 3 (pc2 := 21) (ls2 := [vr 3, vr 1, vi x2, vi x3, vn]) (st2 := [.int (M.1 1 1), .int x2]) rfl ?_
  refine R_icf q16 rfl (decide_eq_false h1) ?_
  show Rm E 16 24 [vr 3, vr 1, vi x2, vi x3, vn] [] M _ _
  refine R_S q16 4 (pc2 := 28) (ls2 := [vr 3, vr 1, vi x2, vi x3, vn]) (st2 := [.int (x2 + 1), .ref 1]) rfl ?_
  refine R_call q16 rfl rfl rfl rfl rfl rfl h2 ?_
  show Rm E 16 31 [vr 3, vr 1, vi x2, vi x3, vn] [.int c1] M _ _
  refine R_S q16 4 (pc2 := 39) (ls2 := [vr 3, vr 1, vi x2, vi x3, vi c1]) (st2 := [.int (M.1 1 1), .int c1]) rfl ?_
  refine R_icf q16 rfl (decide_eq_false h3) ?_
  show Rm E 16 42 [vr 3, vr 1, vi x2, vi x3, vi c1] [] M _ _
  refine R_S q16 3 (pc2 := 48) (ls2 := [vr 3, vr 1, vi x2, vi x3, vi c1]) (st2 := [.int c1, .ref 2]) rfl ?_
  refine R_cal q16 rfl rfl h4 ?_
  show Rm E 16 49 [vr 3, vr 1, vi x2, vi x3, vi c1] [.int (M.1 2 c1.toNatClampNeg)] M _ _
  refine R_S q16 1 (pc2 := 51) (ls2 := [vr 3, vr 1, vi x2, vi x3, vi c1]) (st2 := [.int 59, .int (M.1 2 c1.toNatClampNeg)]) rfl ?_
  refine R_icf q16 rfl (decide_eq_false h5) ?_
  show Rm E 16 54 [vr 3, vr 1, vi x2, vi x3, vi c1] [] M _ _
  refine R_S q16 4 (pc2 := 59) (ls2 := [vr 3, vr 1, vi x2, vi x3, vi c1]) (st2 := [.int c1, .int x2, .ref 1, .ref 3]) rfl ?_
  refine R_call q16 rfl rfl rfl rfl rfl rfl h6 ?_
  show Rm E 16 62 [vr 3, vr 1, vi x2, vi x3, vi c1] [.int c2] N1 _ _
  refine R_iff q16 rfl (decide_eq_false h7) ?_
  show Rm E 16 65 [vr 3, vr 1, vi x2, vi x3, vi c1] [] N1 _ _
  refine R_S q16 1 (pc2 := 66) (ls2 := [vr 3, vr 1, vi x2, vi x3, vi c1]) (st2 := [.int x2]) rfl ?_
  exact R_ret rfl q16 rfl rfl rfl rfl (stpR_i rfl rfl)
-- 17 HeavyChains$Reader.endOfSigns(LHeavyChains$Letters;I)I  cuts [0, 2]
theorem q17 : cdOf 17 = some mt17 := rfl
-- 
theorem b17_0_0 {E : env} {M : mem} {rv : Option Value} {M2 : mem} {x1 : Int32}  (k : Rm E 17 2 [vr 1, vn, vi x1] [] M rv M2) : Rm E 17 0 [vr 1, vi x1, vn] [] M rv M2 := by
  refine R_S q17 2 (pc2 := 2) (ls2 := [vr 1, vi x1, vi x1]) (st2 := []) rfl ?_
  exact R_w (ls := [vr 1, vn, vi x1]) (show lsle _ _ from ⟨rfl, ⟨rfl, trivial⟩⟩) k
-- 7+
theorem b17_2_0 {E : env} {M : mem} {x2 : Int32}  (h0 : M.1 1 1 ≤ x2) : Rm E 17 2 [vr 1, vn, vi x2] [] M (some (.int x2)) M := by
  refine R_S q17 3 (pc2 := 7) (ls2 := [vr 1, vn, vi x2]) (st2 := [.int (M.1 1 1), .int x2]) rfl ?_
  refine R_ict q17 rfl (decide_eq_true h0) ?_
  show Rm E 17 28 [vr 1, vn, vi x2] [] M _ _
  refine R_S q17 1 (pc2 := 29) (ls2 := [vr 1, vn, vi x2]) (st2 := [.int x2]) rfl ?_
  exact R_ret rfl q17 rfl rfl rfl rfl (stpR_i rfl rfl)
-- 7- call X3_valueOf 19+
theorem b17_2_1 {E : env} {M : mem} {x2 : Int32} {c1 : Int32} (h0 : ¬ (M.1 1 1 ≤ x2)) (h1 : inR x2 200) (h2 : Rm E 18 0 [vi (M.1 2 x2.toNatClampNeg)] [] M (some (.int c1)) M) (h3 : c1 < 0) : Rm E 17 2 [vr 1, vn, vi x2] [] M (some (.int x2)) M := by
  refine R_S q17 3 (pc2 := 7) (ls2 := [vr 1, vn, vi x2]) (st2 := [.int (M.1 1 1), .int x2]) rfl ?_
  refine R_icf q17 rfl (decide_eq_false h0) ?_
  show Rm E 17 10 [vr 1, vn, vi x2] [] M _ _
  refine R_S q17 3 (pc2 := 15) (ls2 := [vr 1, vn, vi x2]) (st2 := [.int x2, .ref 2]) rfl ?_
  refine R_cal q17 rfl rfl h1 ?_
  show Rm E 17 16 [vr 1, vn, vi x2] [.int (M.1 2 x2.toNatClampNeg)] M _ _
  refine R_call q17 rfl rfl rfl rfl rfl rfl h2 ?_
  show Rm E 17 19 [vr 1, vn, vi x2] [.int c1] M _ _
  refine R_ift q17 rfl (decide_eq_true h3) ?_
  show Rm E 17 28 [vr 1, vn, vi x2] [] M _ _
  refine R_S q17 1 (pc2 := 29) (ls2 := [vr 1, vn, vi x2]) (st2 := [.int x2]) rfl ?_
  exact R_ret rfl q17 rfl rfl rfl rfl (stpR_i rfl rfl)
-- 7- call X3_valueOf 19-
theorem b17_2_2 {E : env} {M : mem} {rv : Option Value} {M2 : mem} {x2 : Int32} {c1 : Int32} (h0 : ¬ (M.1 1 1 ≤ x2)) (h1 : inR x2 200) (h2 : Rm E 18 0 [vi (M.1 2 x2.toNatClampNeg)] [] M (some (.int c1)) M) (h3 : ¬ (c1 < 0)) (k : Rm E 17 2 [vr 1, vn, vi (x2 + 1)] [] M rv M2) : Rm E 17 2 [vr 1, vn, vi x2] [] M rv M2 := by
  refine R_S q17 3 (pc2 := 7) (ls2 := [vr 1, vn, vi x2]) (st2 := [.int (M.1 1 1), .int x2]) rfl ?_
  refine R_icf q17 rfl (decide_eq_false h0) ?_
  show Rm E 17 10 [vr 1, vn, vi x2] [] M _ _
  refine R_S q17 3 (pc2 := 15) (ls2 := [vr 1, vn, vi x2]) (st2 := [.int x2, .ref 2]) rfl ?_
  refine R_cal q17 rfl rfl h1 ?_
  show Rm E 17 16 [vr 1, vn, vi x2] [.int (M.1 2 x2.toNatClampNeg)] M _ _
  refine R_call q17 rfl rfl rfl rfl rfl rfl h2 ?_
  show Rm E 17 19 [vr 1, vn, vi x2] [.int c1] M _ _
  refine R_iff q17 rfl (decide_eq_false h3) ?_
  show Rm E 17 22 [vr 1, vn, vi x2] [] M _ _
  refine R_S q17 2 (pc2 := 2) (ls2 := [vr 1, vn, vi (x2 + 1)]) (st2 := []) rfl ?_
  exact k
-- 18 HeavyChains$Reader.valueOf(C)I  cuts [0]
theorem q18 : cdOf 18 = some mt18 := rfl
-- 3+ 20+
theorem b18_0_0 {E : env} {M : mem} {x0 : Int32}  (h0 : x0 < 48) (h1 : x0 < 97) : Rm E 18 0 [vi x0] [] M (some (.int (-1))) M := by
  refine R_S q18 2 (pc2 := 3) (ls2 := [vi x0]) (st2 := [.int 48, .int x0]) rfl ?_
  refine R_ict q18 rfl (decide_eq_true h0) ?_
  show Rm E 18 17 [vi x0] [] M _ _
  refine R_S q18 2 (pc2 := 20) (ls2 := [vi x0]) (st2 := [.int 97, .int x0]) rfl ?_
  refine R_ict q18 rfl (decide_eq_true h1) ?_
  show Rm E 18 39 [vi x0] [] M _ _
  refine R_S q18 1 (pc2 := 40) (ls2 := [vi x0]) (st2 := [.int (-1)]) rfl ?_
  exact R_ret rfl q18 rfl rfl rfl rfl (stpR_i rfl rfl)
-- 3+ 20- 26+
theorem b18_0_1 {E : env} {M : mem} {x0 : Int32}  (h0 : x0 < 48) (h1 : ¬ (x0 < 97)) (h2 : 115 < x0) : Rm E 18 0 [vi x0] [] M (some (.int (-1))) M := by
  refine R_S q18 2 (pc2 := 3) (ls2 := [vi x0]) (st2 := [.int 48, .int x0]) rfl ?_
  refine R_ict q18 rfl (decide_eq_true h0) ?_
  show Rm E 18 17 [vi x0] [] M _ _
  refine R_S q18 2 (pc2 := 20) (ls2 := [vi x0]) (st2 := [.int 97, .int x0]) rfl ?_
  refine R_icf q18 rfl (decide_eq_false h1) ?_
  show Rm E 18 23 [vi x0] [] M _ _
  refine R_S q18 2 (pc2 := 26) (ls2 := [vi x0]) (st2 := [.int 115, .int x0]) rfl ?_
  refine R_ict q18 rfl (decide_eq_true h2) ?_
  show Rm E 18 39 [vi x0] [] M _ _
  refine R_S q18 1 (pc2 := 40) (ls2 := [vi x0]) (st2 := [.int (-1)]) rfl ?_
  exact R_ret rfl q18 rfl rfl rfl rfl (stpR_i rfl rfl)
-- 3+ 20- 26-
theorem b18_0_2 {E : env} {M : mem} {x0 : Int32}  (h0 : x0 < 48) (h1 : ¬ (x0 < 97)) (h2 : ¬ (115 < x0)) : Rm E 18 0 [vi x0] [] M (some (.int ((x0 - 97) + 10))) M := by
  refine R_S q18 2 (pc2 := 3) (ls2 := [vi x0]) (st2 := [.int 48, .int x0]) rfl ?_
  refine R_ict q18 rfl (decide_eq_true h0) ?_
  show Rm E 18 17 [vi x0] [] M _ _
  refine R_S q18 2 (pc2 := 20) (ls2 := [vi x0]) (st2 := [.int 97, .int x0]) rfl ?_
  refine R_icf q18 rfl (decide_eq_false h1) ?_
  show Rm E 18 23 [vi x0] [] M _ _
  refine R_S q18 2 (pc2 := 26) (ls2 := [vi x0]) (st2 := [.int 115, .int x0]) rfl ?_
  refine R_icf q18 rfl (decide_eq_false h2) ?_
  show Rm E 18 29 [vi x0] [] M _ _
  refine R_S q18 6 (pc2 := 40) (ls2 := [vi x0]) (st2 := [.int ((x0 - 97) + 10)]) rfl ?_
  exact R_ret rfl q18 rfl rfl rfl rfl (stpR_i rfl rfl)
-- 3- 9+ 20+
theorem b18_0_3 {E : env} {M : mem} {x0 : Int32}  (h0 : ¬ (x0 < 48)) (h1 : 57 < x0) (h2 : x0 < 97) : Rm E 18 0 [vi x0] [] M (some (.int (-1))) M := by
  refine R_S q18 2 (pc2 := 3) (ls2 := [vi x0]) (st2 := [.int 48, .int x0]) rfl ?_
  refine R_icf q18 rfl (decide_eq_false h0) ?_
  show Rm E 18 6 [vi x0] [] M _ _
  refine R_S q18 2 (pc2 := 9) (ls2 := [vi x0]) (st2 := [.int 57, .int x0]) rfl ?_
  refine R_ict q18 rfl (decide_eq_true h1) ?_
  show Rm E 18 17 [vi x0] [] M _ _
  refine R_S q18 2 (pc2 := 20) (ls2 := [vi x0]) (st2 := [.int 97, .int x0]) rfl ?_
  refine R_ict q18 rfl (decide_eq_true h2) ?_
  show Rm E 18 39 [vi x0] [] M _ _
  refine R_S q18 1 (pc2 := 40) (ls2 := [vi x0]) (st2 := [.int (-1)]) rfl ?_
  exact R_ret rfl q18 rfl rfl rfl rfl (stpR_i rfl rfl)
-- 3- 9+ 20- 26+
theorem b18_0_4 {E : env} {M : mem} {x0 : Int32}  (h0 : ¬ (x0 < 48)) (h1 : 57 < x0) (h2 : ¬ (x0 < 97)) (h3 : 115 < x0) : Rm E 18 0 [vi x0] [] M (some (.int (-1))) M := by
  refine R_S q18 2 (pc2 := 3) (ls2 := [vi x0]) (st2 := [.int 48, .int x0]) rfl ?_
  refine R_icf q18 rfl (decide_eq_false h0) ?_
  show Rm E 18 6 [vi x0] [] M _ _
  refine R_S q18 2 (pc2 := 9) (ls2 := [vi x0]) (st2 := [.int 57, .int x0]) rfl ?_
  refine R_ict q18 rfl (decide_eq_true h1) ?_
  show Rm E 18 17 [vi x0] [] M _ _
  refine R_S q18 2 (pc2 := 20) (ls2 := [vi x0]) (st2 := [.int 97, .int x0]) rfl ?_
  refine R_icf q18 rfl (decide_eq_false h2) ?_
  show Rm E 18 23 [vi x0] [] M _ _
  refine R_S q18 2 (pc2 := 26) (ls2 := [vi x0]) (st2 := [.int 115, .int x0]) rfl ?_
  refine R_ict q18 rfl (decide_eq_true h3) ?_
  show Rm E 18 39 [vi x0] [] M _ _
  refine R_S q18 1 (pc2 := 40) (ls2 := [vi x0]) (st2 := [.int (-1)]) rfl ?_
  exact R_ret rfl q18 rfl rfl rfl rfl (stpR_i rfl rfl)
-- 3- 9+ 20- 26-
theorem b18_0_5 {E : env} {M : mem} {x0 : Int32}  (h0 : ¬ (x0 < 48)) (h1 : 57 < x0) (h2 : ¬ (x0 < 97)) (h3 : ¬ (115 < x0)) : Rm E 18 0 [vi x0] [] M (some (.int ((x0 - 97) + 10))) M := by
  refine R_S q18 2 (pc2 := 3) (ls2 := [vi x0]) (st2 := [.int 48, .int x0]) rfl ?_
  refine R_icf q18 rfl (decide_eq_false h0) ?_
  show Rm E 18 6 [vi x0] [] M _ _
  refine R_S q18 2 (pc2 := 9) (ls2 := [vi x0]) (st2 := [.int 57, .int x0]) rfl ?_
  refine R_ict q18 rfl (decide_eq_true h1) ?_
  show Rm E 18 17 [vi x0] [] M _ _
  refine R_S q18 2 (pc2 := 20) (ls2 := [vi x0]) (st2 := [.int 97, .int x0]) rfl ?_
  refine R_icf q18 rfl (decide_eq_false h2) ?_
  show Rm E 18 23 [vi x0] [] M _ _
  refine R_S q18 2 (pc2 := 26) (ls2 := [vi x0]) (st2 := [.int 115, .int x0]) rfl ?_
  refine R_icf q18 rfl (decide_eq_false h3) ?_
  show Rm E 18 29 [vi x0] [] M _ _
  refine R_S q18 6 (pc2 := 40) (ls2 := [vi x0]) (st2 := [.int ((x0 - 97) + 10)]) rfl ?_
  exact R_ret rfl q18 rfl rfl rfl rfl (stpR_i rfl rfl)
-- 3- 9-
theorem b18_0_6 {E : env} {M : mem} {x0 : Int32}  (h0 : ¬ (x0 < 48)) (h1 : ¬ (57 < x0)) : Rm E 18 0 [vi x0] [] M (some (.int (x0 - 48))) M := by
  refine R_S q18 2 (pc2 := 3) (ls2 := [vi x0]) (st2 := [.int 48, .int x0]) rfl ?_
  refine R_icf q18 rfl (decide_eq_false h0) ?_
  show Rm E 18 6 [vi x0] [] M _ _
  refine R_S q18 2 (pc2 := 9) (ls2 := [vi x0]) (st2 := [.int 57, .int x0]) rfl ?_
  refine R_icf q18 rfl (decide_eq_false h1) ?_
  show Rm E 18 12 [vi x0] [] M _ _
  refine R_S q18 3 (pc2 := 16) (ls2 := [vi x0]) (st2 := [.int (x0 - 48)]) rfl ?_
  exact R_ret rfl q18 rfl rfl rfl rfl (stpR_i rfl rfl)
-- 19 HeavyChains$Reader.takeItem(LHeavyChains$Letters;II)Z  cuts [0]
theorem q19 : cdOf 19 = some mt19 := rfl
-- 6=else
theorem b19_0_0 {E : env} {M : mem} {x2 x3 : Int32}  (h0 : inR x2 200) (h1 : ¬ M.1 2 x2.toNatClampNeg = 102) (h2 : ¬ M.1 2 x2.toNatClampNeg = 103) (h3 : ¬ M.1 2 x2.toNatClampNeg = 112) (h4 : ¬ M.1 2 x2.toNatClampNeg = 119) : Rm E 19 0 [vr 3, vr 1, vi x2, vi x3] [] M (some (.int 0)) M := by
  refine R_S q19 3 (pc2 := 5) (ls2 := [vr 3, vr 1, vi x2, vi x3]) (st2 := [.int x2, .ref 2]) rfl ?_
  refine R_cal q19 rfl rfl h0 ?_
  show Rm E 19 6 [vr 3, vr 1, vi x2, vi x3] [.int (M.1 2 x2.toNatClampNeg)] M _ _
  refine R_lkd (t := 112) q19 rfl (by show tgtS 6 (Op.lookupswitch.offset [(102, 70), (103, 88), (112, 42), (119, 52)] 106 _) = some 112; rw [lv_osw (a := 102) h1 (by decide)]; rw [lv_osw (a := 103) h2 (by decide)]; rw [lv_osw (a := 112) h3 (by decide)]; rw [lv_osw (a := 119) h4 (by decide)]; rfl) ?_
  show Rm E 19 112 [vr 3, vr 1, vi x2, vi x3] [] M _ _
  refine R_S q19 1 (pc2 := 113) (ls2 := [vr 3, vr 1, vi x2, vi x3]) (st2 := [.int 0]) rfl ?_
  exact R_ret rfl q19 rfl rfl rfl rfl rfl
-- 6=102 call X3_takeFigures
theorem b19_0_1 {E : env} {M : mem} {x2 x3 : Int32} {c1 : Int32} {N1 : mem} (h0 : inR x2 200) (h1 : M.1 2 x2.toNatClampNeg = 102) (h2 : Rm E 21 0 [vr 3, vr 7, vi 1, vr 1, vi (x2 + 1), vi x3, vn, vn] [] M (some (.int c1)) N1) (h3 : c1 = 0 ∨ c1 = 1) : Rm E 19 0 [vr 3, vr 1, vi x2, vi x3] [] M (some (.int c1)) N1 := by
  refine R_S q19 3 (pc2 := 5) (ls2 := [vr 3, vr 1, vi x2, vi x3]) (st2 := [.int x2, .ref 2]) rfl ?_
  refine R_cal q19 rfl rfl h0 ?_
  show Rm E 19 6 [vr 3, vr 1, vi x2, vi x3] [.int (M.1 2 x2.toNatClampNeg)] M _ _
  refine R_top h1 ?_
  refine R_S q19 1 (pc2 := 76) (ls2 := [vr 3, vr 1, vi x2, vi x3]) (st2 := []) rfl ?_
  refine R_S q19 10 (pc2 := 90) (ls2 := [vr 3, vr 1, vi x2, vi x3]) (st2 := [.int x3, .int (x2 + 1), .ref 1, .int 1, .ref 7, .ref 3]) rfl ?_
  refine R_call q19 rfl rfl rfl rfl rfl rfl h2 ?_
  show Rm E 19 93 [vr 3, vr 1, vi x2, vi x3] [.int c1] N1 _ _
  exact R_ret rfl q19 rfl rfl rfl rfl (stpR_z rfl rfl h3)
-- 6=103 call X3_takeFigures
theorem b19_0_2 {E : env} {M : mem} {x2 x3 : Int32} {c1 : Int32} {N1 : mem} (h0 : inR x2 200) (h1 : M.1 2 x2.toNatClampNeg = 103) (h2 : Rm E 21 0 [vr 3, vr 8, vi 0, vr 1, vi (x2 + 1), vi x3, vn, vn] [] M (some (.int c1)) N1) (h3 : c1 = 0 ∨ c1 = 1) : Rm E 19 0 [vr 3, vr 1, vi x2, vi x3] [] M (some (.int c1)) N1 := by
  refine R_S q19 3 (pc2 := 5) (ls2 := [vr 3, vr 1, vi x2, vi x3]) (st2 := [.int x2, .ref 2]) rfl ?_
  refine R_cal q19 rfl rfl h0 ?_
  show Rm E 19 6 [vr 3, vr 1, vi x2, vi x3] [.int (M.1 2 x2.toNatClampNeg)] M _ _
  refine R_top h1 ?_
  refine R_S q19 1 (pc2 := 94) (ls2 := [vr 3, vr 1, vi x2, vi x3]) (st2 := []) rfl ?_
  refine R_S q19 10 (pc2 := 108) (ls2 := [vr 3, vr 1, vi x2, vi x3]) (st2 := [.int x3, .int (x2 + 1), .ref 1, .int 0, .ref 8, .ref 3]) rfl ?_
  refine R_call q19 rfl rfl rfl rfl rfl rfl h2 ?_
  show Rm E 19 111 [vr 3, vr 1, vi x2, vi x3] [.int c1] N1 _ _
  exact R_ret rfl q19 rfl rfl rfl rfl (stpR_z rfl rfl h3)
-- 6=112 call X3_takeUppers
theorem b19_0_3 {E : env} {M : mem} {x2 x3 : Int32} {c1 : Int32} {N1 : mem} (h0 : inR x2 200) (h1 : M.1 2 x2.toNatClampNeg = 112) (h2 : Rm E 20 0 [vr 3, vr 1, vi (x2 + 1), vi x3, vn, vn] [] M (some (.int c1)) N1) (h3 : c1 = 0 ∨ c1 = 1) : Rm E 19 0 [vr 3, vr 1, vi x2, vi x3] [] M (some (.int c1)) N1 := by
  refine R_S q19 3 (pc2 := 5) (ls2 := [vr 3, vr 1, vi x2, vi x3]) (st2 := [.int x2, .ref 2]) rfl ?_
  refine R_cal q19 rfl rfl h0 ?_
  show Rm E 19 6 [vr 3, vr 1, vi x2, vi x3] [.int (M.1 2 x2.toNatClampNeg)] M _ _
  refine R_top h1 ?_
  refine R_S q19 1 (pc2 := 48) (ls2 := [vr 3, vr 1, vi x2, vi x3]) (st2 := []) rfl ?_
  refine R_S q19 6 (pc2 := 54) (ls2 := [vr 3, vr 1, vi x2, vi x3]) (st2 := [.int x3, .int (x2 + 1), .ref 1, .ref 3]) rfl ?_
  refine R_call q19 rfl rfl rfl rfl rfl rfl h2 ?_
  show Rm E 19 57 [vr 3, vr 1, vi x2, vi x3] [.int c1] N1 _ _
  exact R_ret rfl q19 rfl rfl rfl rfl (stpR_z rfl rfl h3)
-- 6=119 call X3_takeFigures
theorem b19_0_4 {E : env} {M : mem} {x2 x3 : Int32} {c1 : Int32} {N1 : mem} (h0 : inR x2 200) (h1 : M.1 2 x2.toNatClampNeg = 119) (h2 : Rm E 21 0 [vr 3, vr 6, vi 0, vr 1, vi (x2 + 1), vi x3, vn, vn] [] M (some (.int c1)) N1) (h3 : c1 = 0 ∨ c1 = 1) : Rm E 19 0 [vr 3, vr 1, vi x2, vi x3] [] M (some (.int c1)) N1 := by
  refine R_S q19 3 (pc2 := 5) (ls2 := [vr 3, vr 1, vi x2, vi x3]) (st2 := [.int x2, .ref 2]) rfl ?_
  refine R_cal q19 rfl rfl h0 ?_
  show Rm E 19 6 [vr 3, vr 1, vi x2, vi x3] [.int (M.1 2 x2.toNatClampNeg)] M _ _
  refine R_top h1 ?_
  refine R_S q19 1 (pc2 := 58) (ls2 := [vr 3, vr 1, vi x2, vi x3]) (st2 := []) rfl ?_
  refine R_S q19 10 (pc2 := 72) (ls2 := [vr 3, vr 1, vi x2, vi x3]) (st2 := [.int x3, .int (x2 + 1), .ref 1, .int 0, .ref 6, .ref 3]) rfl ?_
  refine R_call q19 rfl rfl rfl rfl rfl rfl h2 ?_
  show Rm E 19 75 [vr 3, vr 1, vi x2, vi x3] [.int c1] N1 _ _
  exact R_ret rfl q19 rfl rfl rfl rfl (stpR_z rfl rfl h3)
-- 20 HeavyChains$Reader.takeUppers(LHeavyChains$Letters;II)Z  cuts [0, 32]
theorem q20 : cdOf 20 = some mt20 := rfl
-- 9+
theorem b20_0_0 {E : env} {M : mem} {x2 x3 : Int32}  (h0 : 0 < M.1 3 0) : Rm E 20 0 [vr 3, vr 1, vi x2, vi x3, vn, vn] [] M (some (.int 0)) M := by
  refine R_S q20 6 (pc2 := 9) (ls2 := [vr 3, vr 1, vi x2, vi x3, vi (x3 - x2), vn]) (st2 := [.int (M.1 3 0)]) rfl ?_
  refine R_ift q20 rfl (decide_eq_true h0) ?_
  show Rm E 20 19 [vr 3, vr 1, vi x2, vi x3, vi (x3 - x2), vn] [] M _ _
  refine R_S q20 1 (pc2 := 20) (ls2 := [vr 3, vr 1, vi x2, vi x3, vi (x3 - x2), vn]) (st2 := [.int 0]) rfl ?_
  exact R_ret rfl q20 rfl rfl rfl rfl rfl
-- 9- 16+
theorem b20_0_1 {E : env} {M : mem} {rv : Option Value} {M2 : mem} {x2 x3 : Int32} {N1 : mem} (h0 : ¬ (0 < M.1 3 0)) (h1 : (x3 - x2) < 30) (eN1 : N1 = upM M 4 0 (-4)) (k : Rm E 20 32 [vr 3, vr 1, vi x2, vn, vi (x3 - x2), vi 1] [] N1 rv M2) : Rm E 20 0 [vr 3, vr 1, vi x2, vi x3, vn, vn] [] M rv M2 := by
  refine R_S q20 6 (pc2 := 9) (ls2 := [vr 3, vr 1, vi x2, vi x3, vi (x3 - x2), vn]) (st2 := [.int (M.1 3 0)]) rfl ?_
  refine R_iff q20 rfl (decide_eq_false h0) ?_
  show Rm E 20 12 [vr 3, vr 1, vi x2, vi x3, vi (x3 - x2), vn] [] M _ _
  refine R_S q20 2 (pc2 := 16) (ls2 := [vr 3, vr 1, vi x2, vi x3, vi (x3 - x2), vn]) (st2 := [.int 30, .int (x3 - x2)]) rfl ?_
  refine R_ict q20 rfl (decide_eq_true h1) ?_
  show Rm E 20 21 [vr 3, vr 1, vi x2, vi x3, vi (x3 - x2), vn] [] M _ _
  refine R_S q20 4 (pc2 := 28) (ls2 := [vr 3, vr 1, vi x2, vi x3, vi (x3 - x2), vn]) (st2 := [.int (-4), .int 0, .ref 4]) rfl ?_
  refine R_ias q20 rfl rfl (show inB _ _ = true from rfl) eN1 ?_
  show Rm E 20 29 [vr 3, vr 1, vi x2, vi x3, vi (x3 - x2), vn] [] N1 _ _
  refine R_S q20 2 (pc2 := 32) (ls2 := [vr 3, vr 1, vi x2, vi x3, vi (x3 - x2), vi 1]) (st2 := []) rfl ?_
  exact R_w (ls := [vr 3, vr 1, vi x2, vn, vi (x3 - x2), vi 1]) (show lsle _ _ from ⟨rfl, ⟨rfl, ⟨rfl, ⟨rfl, ⟨rfl, trivial⟩⟩⟩⟩⟩) k
-- 9- 16-
theorem b20_0_2 {E : env} {M : mem} {x2 x3 : Int32}  (h0 : ¬ (0 < M.1 3 0)) (h1 : ¬ ((x3 - x2) < 30)) : Rm E 20 0 [vr 3, vr 1, vi x2, vi x3, vn, vn] [] M (some (.int 0)) M := by
  refine R_S q20 6 (pc2 := 9) (ls2 := [vr 3, vr 1, vi x2, vi x3, vi (x3 - x2), vn]) (st2 := [.int (M.1 3 0)]) rfl ?_
  refine R_iff q20 rfl (decide_eq_false h0) ?_
  show Rm E 20 12 [vr 3, vr 1, vi x2, vi x3, vi (x3 - x2), vn] [] M _ _
  refine R_S q20 2 (pc2 := 16) (ls2 := [vr 3, vr 1, vi x2, vi x3, vi (x3 - x2), vn]) (st2 := [.int 30, .int (x3 - x2)]) rfl ?_
  refine R_icf q20 rfl (decide_eq_false h1) ?_
  show Rm E 20 19 [vr 3, vr 1, vi x2, vi x3, vi (x3 - x2), vn] [] M _ _
  refine R_S q20 1 (pc2 := 20) (ls2 := [vr 3, vr 1, vi x2, vi x3, vi (x3 - x2), vn]) (st2 := [.int 0]) rfl ?_
  exact R_ret rfl q20 rfl rfl rfl rfl rfl
-- 36+ call X0_clear
theorem b20_32_0 {E : env} {M : mem} {x2 x4 x5 : Int32} {N1 : mem} {N2 : mem} (h0 : x4 < x5) (eN1 : N1 = upM M 3 0 (x4 + 1)) (h1 : Rm E 2 0 [vr 5, vn] [] N1 none N2) : Rm E 20 32 [vr 3, vr 1, vi x2, vn, vi x4, vi x5] [] M (some (.int 1)) N2 := by
  refine R_S q20 2 (pc2 := 36) (ls2 := [vr 3, vr 1, vi x2, vn, vi x4, vi x5]) (st2 := [.int x4, .int x5]) rfl ?_
  refine R_ict q20 rfl (decide_eq_true h0) ?_
  show Rm E 20 80 [vr 3, vr 1, vi x2, vn, vi x4, vi x5] [] M _ _
  refine R_S q20 4 (pc2 := 85) (ls2 := [vr 3, vr 1, vi x2, vn, vi x4, vi x5]) (st2 := [.int (x4 + 1), .ref 3]) rfl ?_
  refine R_pf q20 rfl rfl rfl rfl rfl eN1 ?_
  show Rm E 20 88 [vr 3, vr 1, vi x2, vn, vi x4, vi x5] [] N1 _ _
  refine R_S q20 2 (pc2 := 92) (ls2 := [vr 3, vr 1, vi x2, vn, vi x4, vi x5]) (st2 := [.ref 5]) rfl ?_
  refine R_call q20 rfl rfl rfl rfl rfl rfl h1 ?_
  show Rm E 20 95 [vr 3, vr 1, vi x2, vn, vi x4, vi x5] [] N2 _ _
  refine R_S q20 1 (pc2 := 96) (ls2 := [vr 3, vr 1, vi x2, vn, vi x4, vi x5]) (st2 := [.int 1]) rfl ?_
  exact R_ret rfl q20 rfl rfl rfl rfl rfl
-- 36- call X3_valueOf 69+
theorem b20_32_1 {E : env} {M : mem} {rv : Option Value} {M2 : mem} {x2 x4 x5 : Int32} {c1 : Int32} {N1 : mem} (h0 : ¬ (x4 < x5)) (h1 : inR ((x2 + x5) - 1) 200) (h2 : Rm E 18 0 [vi (M.1 2 ((x2 + x5) - 1).toNatClampNeg)] [] M (some (.int c1)) M) (h3 : inR x5 30) (eN1 : N1 = upM M 4 (x5.toNatClampNeg) c1) (h4 : inR x5 30) (h5 : N1.1 4 x5.toNatClampNeg < x5) (k : Rm E 20 32 [vr 3, vr 1, vi x2, vn, vi x4, vi (x5 + 1)] [] N1 rv M2) : Rm E 20 32 [vr 3, vr 1, vi x2, vn, vi x4, vi x5] [] M rv M2 := by
  refine R_S q20 2 (pc2 := 36) (ls2 := [vr 3, vr 1, vi x2, vn, vi x4, vi x5]) (st2 := [.int x4, .int x5]) rfl ?_
  refine R_icf q20 rfl (decide_eq_false h0) ?_
  show Rm E 20 39 [vr 3, vr 1, vi x2, vn, vi x4, vi x5] [] M _ _
  refine R_S q20 10 (pc2 := 55) (ls2 := [vr 3, vr 1, vi x2, vn, vi x4, vi x5]) (st2 := [.int ((x2 + x5) - 1), .ref 2, .int x5, .ref 4]) rfl ?_
  refine R_cal q20 rfl rfl h1 ?_
  show Rm E 20 56 [vr 3, vr 1, vi x2, vn, vi x4, vi x5] [.int (M.1 2 ((x2 + x5) - 1).toNatClampNeg), .int x5, .ref 4] M _ _
  refine R_call q20 rfl rfl rfl rfl rfl rfl h2 ?_
  show Rm E 20 59 [vr 3, vr 1, vi x2, vn, vi x4, vi x5] [.int c1, .int x5, .ref 4] M _ _
  refine R_ias q20 rfl rfl h3 eN1 ?_
  show Rm E 20 60 [vr 3, vr 1, vi x2, vn, vi x4, vi x5] [] N1 _ _
  refine R_S q20 3 (pc2 := 66) (ls2 := [vr 3, vr 1, vi x2, vn, vi x4, vi x5]) (st2 := [.int x5, .ref 4]) rfl ?_
  refine R_ial q20 rfl rfl h4 ?_
  show Rm E 20 67 [vr 3, vr 1, vi x2, vn, vi x4, vi x5] [.int (N1.1 4 x5.toNatClampNeg)] N1 _ _
  refine R_S q20 1 (pc2 := 69) (ls2 := [vr 3, vr 1, vi x2, vn, vi x4, vi x5]) (st2 := [.int x5, .int (N1.1 4 x5.toNatClampNeg)]) rfl ?_
  refine R_ict q20 rfl (decide_eq_true h5) ?_
  show Rm E 20 74 [vr 3, vr 1, vi x2, vn, vi x4, vi x5] [] N1 _ _
  refine R_S q20 2 (pc2 := 32) (ls2 := [vr 3, vr 1, vi x2, vn, vi x4, vi (x5 + 1)]) (st2 := []) rfl ?_
  exact k
-- 36- call X3_valueOf 69-
theorem b20_32_2 {E : env} {M : mem} {x2 x4 x5 : Int32} {c1 : Int32} {N1 : mem} (h0 : ¬ (x4 < x5)) (h1 : inR ((x2 + x5) - 1) 200) (h2 : Rm E 18 0 [vi (M.1 2 ((x2 + x5) - 1).toNatClampNeg)] [] M (some (.int c1)) M) (h3 : inR x5 30) (eN1 : N1 = upM M 4 (x5.toNatClampNeg) c1) (h4 : inR x5 30) (h5 : ¬ (N1.1 4 x5.toNatClampNeg < x5)) : Rm E 20 32 [vr 3, vr 1, vi x2, vn, vi x4, vi x5] [] M (some (.int 0)) N1 := by
  refine R_S q20 2 (pc2 := 36) (ls2 := [vr 3, vr 1, vi x2, vn, vi x4, vi x5]) (st2 := [.int x4, .int x5]) rfl ?_
  refine R_icf q20 rfl (decide_eq_false h0) ?_
  show Rm E 20 39 [vr 3, vr 1, vi x2, vn, vi x4, vi x5] [] M _ _
  refine R_S q20 10 (pc2 := 55) (ls2 := [vr 3, vr 1, vi x2, vn, vi x4, vi x5]) (st2 := [.int ((x2 + x5) - 1), .ref 2, .int x5, .ref 4]) rfl ?_
  refine R_cal q20 rfl rfl h1 ?_
  show Rm E 20 56 [vr 3, vr 1, vi x2, vn, vi x4, vi x5] [.int (M.1 2 ((x2 + x5) - 1).toNatClampNeg), .int x5, .ref 4] M _ _
  refine R_call q20 rfl rfl rfl rfl rfl rfl h2 ?_
  show Rm E 20 59 [vr 3, vr 1, vi x2, vn, vi x4, vi x5] [.int c1, .int x5, .ref 4] M _ _
  refine R_ias q20 rfl rfl h3 eN1 ?_
  show Rm E 20 60 [vr 3, vr 1, vi x2, vn, vi x4, vi x5] [] N1 _ _
  refine R_S q20 3 (pc2 := 66) (ls2 := [vr 3, vr 1, vi x2, vn, vi x4, vi x5]) (st2 := [.int x5, .ref 4]) rfl ?_
  refine R_ial q20 rfl rfl h4 ?_
  show Rm E 20 67 [vr 3, vr 1, vi x2, vn, vi x4, vi x5] [.int (N1.1 4 x5.toNatClampNeg)] N1 _ _
  refine R_S q20 1 (pc2 := 69) (ls2 := [vr 3, vr 1, vi x2, vn, vi x4, vi x5]) (st2 := [.int x5, .int (N1.1 4 x5.toNatClampNeg)]) rfl ?_
  refine R_icf q20 rfl (decide_eq_false h5) ?_
  show Rm E 20 72 [vr 3, vr 1, vi x2, vn, vi x4, vi x5] [] N1 _ _
  refine R_S q20 1 (pc2 := 73) (ls2 := [vr 3, vr 1, vi x2, vn, vi x4, vi x5]) (st2 := [.int 0]) rfl ?_
  exact R_ret rfl q20 rfl rfl rfl rfl rfl
-- 21 HeavyChains$Reader.takeFigures([IILHeavyChains$Letters;II)Z  cuts [0, 28]
theorem q21 : cdOf 21 = some mt21 := rfl
-- 11+
theorem b21_0_0 {E : env} {M : mem} {x2 x4 x5 : Int32} {a : Nat}  (ha : skel[a]? = some (.inl (0, 30))) (h0 : M.1 3 0 = 0) : Rm E 21 0 [vr 3, vr a, vi x2, vr 1, vi x4, vi x5, vn, vn] [] M (some (.int 0)) M := by
  refine R_S q21 6 (pc2 := 11) (ls2 := [vr 3, vr a, vi x2, vr 1, vi x4, vi x5, vi (x5 - x4), vn]) (st2 := [.int (M.1 3 0)]) rfl ?_
  refine R_ift q21 rfl (decide_eq_true h0) ?_
  show Rm E 21 23 [vr 3, vr a, vi x2, vr 1, vi x4, vi x5, vi (x5 - x4), vn] [] M _ _
  refine R_S q21 1 (pc2 := 24) (ls2 := [vr 3, vr a, vi x2, vr 1, vi x4, vi x5, vi (x5 - x4), vn]) (st2 := [.int 0]) rfl ?_
  exact R_ret rfl q21 rfl rfl rfl rfl rfl
-- 11- 20+
theorem b21_0_1 {E : env} {M : mem} {rv : Option Value} {M2 : mem} {x2 x4 x5 : Int32} {a : Nat}  (ha : skel[a]? = some (.inl (0, 30))) (h0 : ¬ (M.1 3 0 = 0)) (h1 : (x5 - x4) ≤ M.1 3 0) (k : Rm E 21 28 [vr 3, vr a, vi x2, vr 1, vi x4, vn, vi (x5 - x4), vi 0] [] M rv M2) : Rm E 21 0 [vr 3, vr a, vi x2, vr 1, vi x4, vi x5, vn, vn] [] M rv M2 := by
  refine R_S q21 6 (pc2 := 11) (ls2 := [vr 3, vr a, vi x2, vr 1, vi x4, vi x5, vi (x5 - x4), vn]) (st2 := [.int (M.1 3 0)]) rfl ?_
  refine R_iff q21 rfl (decide_eq_false h0) ?_
  show Rm E 21 14 [vr 3, vr a, vi x2, vr 1, vi x4, vi x5, vi (x5 - x4), vn] [] M _ _
  refine R_S q21 3 (pc2 := 20) (ls2 := [vr 3, vr a, vi x2, vr 1, vi x4, vi x5, vi (x5 - x4), vn]) (st2 := [.int (M.1 3 0), .int (x5 - x4)]) rfl ?_
  refine R_ict q21 rfl (decide_eq_true h1) ?_
  show Rm E 21 25 [vr 3, vr a, vi x2, vr 1, vi x4, vi x5, vi (x5 - x4), vn] [] M _ _
  refine R_S q21 2 (pc2 := 28) (ls2 := [vr 3, vr a, vi x2, vr 1, vi x4, vi x5, vi (x5 - x4), vi 0]) (st2 := []) rfl ?_
  exact R_w (ls := [vr 3, vr a, vi x2, vr 1, vi x4, vn, vi (x5 - x4), vi 0]) (show lsle _ _ from ⟨rfl, ⟨rfl, ⟨rfl, ⟨rfl, ⟨rfl, ⟨rfl, ⟨rfl, trivial⟩⟩⟩⟩⟩⟩⟩) k
-- 11- 20-
theorem b21_0_2 {E : env} {M : mem} {x2 x4 x5 : Int32} {a : Nat}  (ha : skel[a]? = some (.inl (0, 30))) (h0 : ¬ (M.1 3 0 = 0)) (h1 : ¬ ((x5 - x4) ≤ M.1 3 0)) : Rm E 21 0 [vr 3, vr a, vi x2, vr 1, vi x4, vi x5, vn, vn] [] M (some (.int 0)) M := by
  refine R_S q21 6 (pc2 := 11) (ls2 := [vr 3, vr a, vi x2, vr 1, vi x4, vi x5, vi (x5 - x4), vn]) (st2 := [.int (M.1 3 0)]) rfl ?_
  refine R_iff q21 rfl (decide_eq_false h0) ?_
  show Rm E 21 14 [vr 3, vr a, vi x2, vr 1, vi x4, vi x5, vi (x5 - x4), vn] [] M _ _
  refine R_S q21 3 (pc2 := 20) (ls2 := [vr 3, vr a, vi x2, vr 1, vi x4, vi x5, vi (x5 - x4), vn]) (st2 := [.int (M.1 3 0), .int (x5 - x4)]) rfl ?_
  refine R_icf q21 rfl (decide_eq_false h1) ?_
  show Rm E 21 23 [vr 3, vr a, vi x2, vr 1, vi x4, vi x5, vi (x5 - x4), vn] [] M _ _
  refine R_S q21 1 (pc2 := 24) (ls2 := [vr 3, vr a, vi x2, vr 1, vi x4, vi x5, vi (x5 - x4), vn]) (st2 := [.int 0]) rfl ?_
  exact R_ret rfl q21 rfl rfl rfl rfl rfl
-- 34+
theorem b21_28_0 {E : env} {M : mem} {x2 x4 x6 x7 : Int32} {a : Nat}  (ha : skel[a]? = some (.inl (0, 30))) (h0 : M.1 3 0 ≤ x7) : Rm E 21 28 [vr 3, vr a, vi x2, vr 1, vi x4, vn, vi x6, vi x7] [] M (some (.int 1)) M := by
  refine R_S q21 3 (pc2 := 34) (ls2 := [vr 3, vr a, vi x2, vr 1, vi x4, vn, vi x6, vi x7]) (st2 := [.int (M.1 3 0), .int x7]) rfl ?_
  refine R_ict q21 rfl (decide_eq_true h0) ?_
  show Rm E 21 82 [vr 3, vr a, vi x2, vr 1, vi x4, vn, vi x6, vi x7] [] M _ _
  refine R_S q21 1 (pc2 := 83) (ls2 := [vr 3, vr a, vi x2, vr 1, vi x4, vn, vi x6, vi x7]) (st2 := [.int 1]) rfl ?_
  exact R_ret rfl q21 rfl rfl rfl rfl rfl
-- 34- 44+ 71+
theorem b21_28_1 {E : env} {M : mem} {rv : Option Value} {M2 : mem} {x2 x4 x6 x7 : Int32} {a : Nat} {N1 : mem} (ha : skel[a]? = some (.inl (0, 30))) (h0 : ¬ (M.1 3 0 ≤ x7)) (h1 : x6 ≤ x7) (h2 : inR x7 30) (eN1 : N1 = upM M a (x7.toNatClampNeg) x2) (h3 : inR x7 30) (h4 : N1.1 a x7.toNatClampNeg ≤ 9) (k : Rm E 21 28 [vr 3, vr a, vi x2, vr 1, vi x4, vn, vi x6, vi (x7 + 1)] [] N1 rv M2) : Rm E 21 28 [vr 3, vr a, vi x2, vr 1, vi x4, vn, vi x6, vi x7] [] M rv M2 := by
  refine R_S q21 3 (pc2 := 34) (ls2 := [vr 3, vr a, vi x2, vr 1, vi x4, vn, vi x6, vi x7]) (st2 := [.int (M.1 3 0), .int x7]) rfl ?_
  refine R_icf q21 rfl (decide_eq_false h0) ?_
  show Rm E 21 37 [vr 3, vr a, vi x2, vr 1, vi x4, vn, vi x6, vi x7] [] M _ _
  refine R_S q21 4 (pc2 := 44) (ls2 := [vr 3, vr a, vi x2, vr 1, vi x4, vn, vi x6, vi x7]) (st2 := [.int x6, .int x7, .int x7, .ref a]) rfl ?_
  refine R_ict q21 rfl (decide_eq_true h1) ?_
  show Rm E 21 63 [vr 3, vr a, vi x2, vr 1, vi x4, vn, vi x6, vi x7] [.int x7, .ref a] M _ _
  refine R_S q21 1 (pc2 := 64) (ls2 := [vr 3, vr a, vi x2, vr 1, vi x4, vn, vi x6, vi x7]) (st2 := [.int x2, .int x7, .ref a]) rfl ?_
  refine R_ias q21 rfl ha h2 eN1 ?_
  show Rm E 21 65 [vr 3, vr a, vi x2, vr 1, vi x4, vn, vi x6, vi x7] [] N1 _ _
  refine R_S q21 2 (pc2 := 68) (ls2 := [vr 3, vr a, vi x2, vr 1, vi x4, vn, vi x6, vi x7]) (st2 := [.int x7, .ref a]) rfl ?_
  refine R_ial q21 rfl ha h3 ?_
  show Rm E 21 69 [vr 3, vr a, vi x2, vr 1, vi x4, vn, vi x6, vi x7] [.int (N1.1 a x7.toNatClampNeg)] N1 _ _
  refine R_S q21 1 (pc2 := 71) (ls2 := [vr 3, vr a, vi x2, vr 1, vi x4, vn, vi x6, vi x7]) (st2 := [.int 9, .int (N1.1 a x7.toNatClampNeg)]) rfl ?_
  refine R_ict q21 rfl (decide_eq_true h4) ?_
  show Rm E 21 76 [vr 3, vr a, vi x2, vr 1, vi x4, vn, vi x6, vi x7] [] N1 _ _
  refine R_S q21 2 (pc2 := 28) (ls2 := [vr 3, vr a, vi x2, vr 1, vi x4, vn, vi x6, vi (x7 + 1)]) (st2 := []) rfl ?_
  exact k
-- 34- 44+ 71-
theorem b21_28_2 {E : env} {M : mem} {x2 x4 x6 x7 : Int32} {a : Nat} {N1 : mem} (ha : skel[a]? = some (.inl (0, 30))) (h0 : ¬ (M.1 3 0 ≤ x7)) (h1 : x6 ≤ x7) (h2 : inR x7 30) (eN1 : N1 = upM M a (x7.toNatClampNeg) x2) (h3 : inR x7 30) (h4 : ¬ (N1.1 a x7.toNatClampNeg ≤ 9)) : Rm E 21 28 [vr 3, vr a, vi x2, vr 1, vi x4, vn, vi x6, vi x7] [] M (some (.int 0)) N1 := by
  refine R_S q21 3 (pc2 := 34) (ls2 := [vr 3, vr a, vi x2, vr 1, vi x4, vn, vi x6, vi x7]) (st2 := [.int (M.1 3 0), .int x7]) rfl ?_
  refine R_icf q21 rfl (decide_eq_false h0) ?_
  show Rm E 21 37 [vr 3, vr a, vi x2, vr 1, vi x4, vn, vi x6, vi x7] [] M _ _
  refine R_S q21 4 (pc2 := 44) (ls2 := [vr 3, vr a, vi x2, vr 1, vi x4, vn, vi x6, vi x7]) (st2 := [.int x6, .int x7, .int x7, .ref a]) rfl ?_
  refine R_ict q21 rfl (decide_eq_true h1) ?_
  show Rm E 21 63 [vr 3, vr a, vi x2, vr 1, vi x4, vn, vi x6, vi x7] [.int x7, .ref a] M _ _
  refine R_S q21 1 (pc2 := 64) (ls2 := [vr 3, vr a, vi x2, vr 1, vi x4, vn, vi x6, vi x7]) (st2 := [.int x2, .int x7, .ref a]) rfl ?_
  refine R_ias q21 rfl ha h2 eN1 ?_
  show Rm E 21 65 [vr 3, vr a, vi x2, vr 1, vi x4, vn, vi x6, vi x7] [] N1 _ _
  refine R_S q21 2 (pc2 := 68) (ls2 := [vr 3, vr a, vi x2, vr 1, vi x4, vn, vi x6, vi x7]) (st2 := [.int x7, .ref a]) rfl ?_
  refine R_ial q21 rfl ha h3 ?_
  show Rm E 21 69 [vr 3, vr a, vi x2, vr 1, vi x4, vn, vi x6, vi x7] [.int (N1.1 a x7.toNatClampNeg)] N1 _ _
  refine R_S q21 1 (pc2 := 71) (ls2 := [vr 3, vr a, vi x2, vr 1, vi x4, vn, vi x6, vi x7]) (st2 := [.int 9, .int (N1.1 a x7.toNatClampNeg)]) rfl ?_
  refine R_icf q21 rfl (decide_eq_false h4) ?_
  show Rm E 21 74 [vr 3, vr a, vi x2, vr 1, vi x4, vn, vi x6, vi x7] [] N1 _ _
  refine R_S q21 1 (pc2 := 75) (ls2 := [vr 3, vr a, vi x2, vr 1, vi x4, vn, vi x6, vi x7]) (st2 := [.int 0]) rfl ?_
  exact R_ret rfl q21 rfl rfl rfl rfl rfl
-- 34- 44- call X3_valueOf 71+
theorem b21_28_3 {E : env} {M : mem} {rv : Option Value} {M2 : mem} {x2 x4 x6 x7 : Int32} {a : Nat} {c1 : Int32} {N1 : mem} (ha : skel[a]? = some (.inl (0, 30))) (h0 : ¬ (M.1 3 0 ≤ x7)) (h1 : ¬ (x6 ≤ x7)) (h2 : inR (x4 + x7) 200) (h3 : Rm E 18 0 [vi (M.1 2 (x4 + x7).toNatClampNeg)] [] M (some (.int c1)) M) (h4 : inR x7 30) (eN1 : N1 = upM M a (x7.toNatClampNeg) c1) (h5 : inR x7 30) (h6 : N1.1 a x7.toNatClampNeg ≤ 9) (k : Rm E 21 28 [vr 3, vr a, vi x2, vr 1, vi x4, vn, vi x6, vi (x7 + 1)] [] N1 rv M2) : Rm E 21 28 [vr 3, vr a, vi x2, vr 1, vi x4, vn, vi x6, vi x7] [] M rv M2 := by
  refine R_S q21 3 (pc2 := 34) (ls2 := [vr 3, vr a, vi x2, vr 1, vi x4, vn, vi x6, vi x7]) (st2 := [.int (M.1 3 0), .int x7]) rfl ?_
  refine R_icf q21 rfl (decide_eq_false h0) ?_
  show Rm E 21 37 [vr 3, vr a, vi x2, vr 1, vi x4, vn, vi x6, vi x7] [] M _ _
  refine R_S q21 4 (pc2 := 44) (ls2 := [vr 3, vr a, vi x2, vr 1, vi x4, vn, vi x6, vi x7]) (st2 := [.int x6, .int x7, .int x7, .ref a]) rfl ?_
  refine R_icf q21 rfl (decide_eq_false h1) ?_
  show Rm E 21 47 [vr 3, vr a, vi x2, vr 1, vi x4, vn, vi x6, vi x7] [.int x7, .ref a] M _ _
  refine R_S q21 5 (pc2 := 56) (ls2 := [vr 3, vr a, vi x2, vr 1, vi x4, vn, vi x6, vi x7]) (st2 := [.int (x4 + x7), .ref 2, .int x7, .ref a]) rfl ?_
  refine R_cal q21 rfl rfl h2 ?_
  show Rm E 21 57 [vr 3, vr a, vi x2, vr 1, vi x4, vn, vi x6, vi x7] [.int (M.1 2 (x4 + x7).toNatClampNeg), .int x7, .ref a] M _ _
  refine R_call q21 rfl rfl rfl rfl rfl rfl h3 ?_
  show Rm E 21 60 [vr 3, vr a, vi x2, vr 1, vi x4, vn, vi x6, vi x7] [.int c1, .int x7, .ref a] M _ _
  refine R_S q21 1 (pc2 := 64) (ls2 := [vr 3, vr a, vi x2, vr 1, vi x4, vn, vi x6, vi x7]) (st2 := [.int c1, .int x7, .ref a]) rfl ?_
  refine R_ias q21 rfl ha h4 eN1 ?_
  show Rm E 21 65 [vr 3, vr a, vi x2, vr 1, vi x4, vn, vi x6, vi x7] [] N1 _ _
  refine R_S q21 2 (pc2 := 68) (ls2 := [vr 3, vr a, vi x2, vr 1, vi x4, vn, vi x6, vi x7]) (st2 := [.int x7, .ref a]) rfl ?_
  refine R_ial q21 rfl ha h5 ?_
  show Rm E 21 69 [vr 3, vr a, vi x2, vr 1, vi x4, vn, vi x6, vi x7] [.int (N1.1 a x7.toNatClampNeg)] N1 _ _
  refine R_S q21 1 (pc2 := 71) (ls2 := [vr 3, vr a, vi x2, vr 1, vi x4, vn, vi x6, vi x7]) (st2 := [.int 9, .int (N1.1 a x7.toNatClampNeg)]) rfl ?_
  refine R_ict q21 rfl (decide_eq_true h6) ?_
  show Rm E 21 76 [vr 3, vr a, vi x2, vr 1, vi x4, vn, vi x6, vi x7] [] N1 _ _
  refine R_S q21 2 (pc2 := 28) (ls2 := [vr 3, vr a, vi x2, vr 1, vi x4, vn, vi x6, vi (x7 + 1)]) (st2 := []) rfl ?_
  exact k
-- 34- 44- call X3_valueOf 71-
theorem b21_28_4 {E : env} {M : mem} {x2 x4 x6 x7 : Int32} {a : Nat} {c1 : Int32} {N1 : mem} (ha : skel[a]? = some (.inl (0, 30))) (h0 : ¬ (M.1 3 0 ≤ x7)) (h1 : ¬ (x6 ≤ x7)) (h2 : inR (x4 + x7) 200) (h3 : Rm E 18 0 [vi (M.1 2 (x4 + x7).toNatClampNeg)] [] M (some (.int c1)) M) (h4 : inR x7 30) (eN1 : N1 = upM M a (x7.toNatClampNeg) c1) (h5 : inR x7 30) (h6 : ¬ (N1.1 a x7.toNatClampNeg ≤ 9)) : Rm E 21 28 [vr 3, vr a, vi x2, vr 1, vi x4, vn, vi x6, vi x7] [] M (some (.int 0)) N1 := by
  refine R_S q21 3 (pc2 := 34) (ls2 := [vr 3, vr a, vi x2, vr 1, vi x4, vn, vi x6, vi x7]) (st2 := [.int (M.1 3 0), .int x7]) rfl ?_
  refine R_icf q21 rfl (decide_eq_false h0) ?_
  show Rm E 21 37 [vr 3, vr a, vi x2, vr 1, vi x4, vn, vi x6, vi x7] [] M _ _
  refine R_S q21 4 (pc2 := 44) (ls2 := [vr 3, vr a, vi x2, vr 1, vi x4, vn, vi x6, vi x7]) (st2 := [.int x6, .int x7, .int x7, .ref a]) rfl ?_
  refine R_icf q21 rfl (decide_eq_false h1) ?_
  show Rm E 21 47 [vr 3, vr a, vi x2, vr 1, vi x4, vn, vi x6, vi x7] [.int x7, .ref a] M _ _
  refine R_S q21 5 (pc2 := 56) (ls2 := [vr 3, vr a, vi x2, vr 1, vi x4, vn, vi x6, vi x7]) (st2 := [.int (x4 + x7), .ref 2, .int x7, .ref a]) rfl ?_
  refine R_cal q21 rfl rfl h2 ?_
  show Rm E 21 57 [vr 3, vr a, vi x2, vr 1, vi x4, vn, vi x6, vi x7] [.int (M.1 2 (x4 + x7).toNatClampNeg), .int x7, .ref a] M _ _
  refine R_call q21 rfl rfl rfl rfl rfl rfl h3 ?_
  show Rm E 21 60 [vr 3, vr a, vi x2, vr 1, vi x4, vn, vi x6, vi x7] [.int c1, .int x7, .ref a] M _ _
  refine R_S q21 1 (pc2 := 64) (ls2 := [vr 3, vr a, vi x2, vr 1, vi x4, vn, vi x6, vi x7]) (st2 := [.int c1, .int x7, .ref a]) rfl ?_
  refine R_ias q21 rfl ha h4 eN1 ?_
  show Rm E 21 65 [vr 3, vr a, vi x2, vr 1, vi x4, vn, vi x6, vi x7] [] N1 _ _
  refine R_S q21 2 (pc2 := 68) (ls2 := [vr 3, vr a, vi x2, vr 1, vi x4, vn, vi x6, vi x7]) (st2 := [.int x7, .ref a]) rfl ?_
  refine R_ial q21 rfl ha h5 ?_
  show Rm E 21 69 [vr 3, vr a, vi x2, vr 1, vi x4, vn, vi x6, vi x7] [.int (N1.1 a x7.toNatClampNeg)] N1 _ _
  refine R_S q21 1 (pc2 := 71) (ls2 := [vr 3, vr a, vi x2, vr 1, vi x4, vn, vi x6, vi x7]) (st2 := [.int 9, .int (N1.1 a x7.toNatClampNeg)]) rfl ?_
  refine R_icf q21 rfl (decide_eq_false h6) ?_
  show Rm E 21 74 [vr 3, vr a, vi x2, vr 1, vi x4, vn, vi x6, vi x7] [] N1 _ _
  refine R_S q21 1 (pc2 := 75) (ls2 := [vr 3, vr a, vi x2, vr 1, vi x4, vn, vi x6, vi x7]) (st2 := [.int 0]) rfl ?_
  exact R_ret rfl q21 rfl rfl rfl rfl rfl
-- 23 HeavyChains$Route.lead(LHeavyChains$Tree;II)V  cuts [0, 59, 101]
theorem q23 : cdOf 23 = some mt23 := rfl
-- call X7_meeting
theorem b23_0_0 {E : env} {M : mem} {rv : Option Value} {M2 : mem} {x2 x3 : Int32} {c1 : Int32} {N1 : mem} {N2 : mem} (h0 : Rm E 46 0 [vr 9, vi x2, vi x3, vn, vn, vn] [] M (some (.int c1)) M) (eN1 : N1 = upM M 70 2 c1) (h1 : inR x2 30) (h2 : inR (N1.1 70 2) 30) (h3 : inR x3 30) (h4 : inR (N1.1 70 2) 30) (eN2 : N2 = upM N1 70 1 ((((N1.1 16 x2.toNatClampNeg - N1.1 16 (N1.1 70 2).toNatClampNeg) + 1) + N1.1 16 x3.toNatClampNeg) - N1.1 16 (N1.1 70 2).toNatClampNeg)) (k : Rm E 23 59 [vr 70, vr 9, vn, vi x3, vi (N1.1 16 x2.toNatClampNeg - N1.1 16 (N1.1 70 2).toNatClampNeg), vi x2, vi 0, vn] [] N2 rv M2) : Rm E 23 0 [vr 70, vr 9, vi x2, vi x3, vn, vn, vn, vn] [] M rv M2 := by
  refine R_S q23 4 (pc2 := 4) (ls2 := [vr 70, vr 9, vi x2, vi x3, vn, vn, vn, vn]) (st2 := [.int x3, .int x2, .ref 9, .ref 70]) rfl ?_
  refine R_call q23 rfl rfl rfl rfl rfl rfl h0 ?_
  show Rm E 23 7 [vr 70, vr 9, vi x2, vi x3, vn, vn, vn, vn] [.int c1, .ref 70] M _ _
  refine R_pf q23 rfl rfl rfl rfl rfl eN1 ?_
  show Rm E 23 10 [vr 70, vr 9, vi x2, vi x3, vn, vn, vn, vn] [] N1 _ _
  refine R_S q23 3 (pc2 := 15) (ls2 := [vr 70, vr 9, vi x2, vi x3, vn, vn, vn, vn]) (st2 := [.int x2, .ref 16]) rfl ?_
  refine R_ial q23 rfl rfl h1 ?_
  show Rm E 23 16 [vr 70, vr 9, vi x2, vi x3, vn, vn, vn, vn] [.int (N1.1 16 x2.toNatClampNeg)] N1 _ _
  refine R_S q23 4 (pc2 := 24) (ls2 := [vr 70, vr 9, vi x2, vi x3, vn, vn, vn, vn]) (st2 := [.int (N1.1 70 2), .ref 16, .int (N1.1 16 x2.toNatClampNeg)]) rfl ?_
  refine R_ial q23 rfl rfl h2 ?_
  show Rm E 23 25 [vr 70, vr 9, vi x2, vi x3, vn, vn, vn, vn] [.int (N1.1 16 (N1.1 70 2).toNatClampNeg), .int (N1.1 16 x2.toNatClampNeg)] N1 _ _
  refine R_S q23 9 (pc2 := 38) (ls2 := [vr 70, vr 9, vi x2, vi x3, vi (N1.1 16 x2.toNatClampNeg - N1.1 16 (N1.1 70 2).toNatClampNeg), vn, vn, vn]) (st2 := [.int x3, .ref 16, .int ((N1.1 16 x2.toNatClampNeg - N1.1 16 (N1.1 70 2).toNatClampNeg) + 1), .ref 70]) rfl ?_
  refine R_ial q23 rfl rfl h3 ?_
  show Rm E 23 39 [vr 70, vr 9, vi x2, vi x3, vi (N1.1 16 x2.toNatClampNeg - N1.1 16 (N1.1 70 2).toNatClampNeg), vn, vn, vn] [.int (N1.1 16 x3.toNatClampNeg), .int ((N1.1 16 x2.toNatClampNeg - N1.1 16 (N1.1 70 2).toNatClampNeg) + 1), .ref 70] N1 _ _
  refine R_S q23 5 (pc2 := 48) (ls2 := [vr 70, vr 9, vi x2, vi x3, vi (N1.1 16 x2.toNatClampNeg - N1.1 16 (N1.1 70 2).toNatClampNeg), vn, vn, vn]) (st2 := [.int (N1.1 70 2), .ref 16, .int (((N1.1 16 x2.toNatClampNeg - N1.1 16 (N1.1 70 2).toNatClampNeg) + 1) + N1.1 16 x3.toNatClampNeg), .ref 70]) rfl ?_
  refine R_ial q23 rfl rfl h4 ?_
  show Rm E 23 49 [vr 70, vr 9, vi x2, vi x3, vi (N1.1 16 x2.toNatClampNeg - N1.1 16 (N1.1 70 2).toNatClampNeg), vn, vn, vn] [.int (N1.1 16 (N1.1 70 2).toNatClampNeg), .int (((N1.1 16 x2.toNatClampNeg - N1.1 16 (N1.1 70 2).toNatClampNeg) + 1) + N1.1 16 x3.toNatClampNeg), .ref 70] N1 _ _
  refine R_S q23 1 (pc2 := 50) (ls2 := [vr 70, vr 9, vi x2, vi x3, vi (N1.1 16 x2.toNatClampNeg - N1.1 16 (N1.1 70 2).toNatClampNeg), vn, vn, vn]) (st2 := [.int ((((N1.1 16 x2.toNatClampNeg - N1.1 16 (N1.1 70 2).toNatClampNeg) + 1) + N1.1 16 x3.toNatClampNeg) - N1.1 16 (N1.1 70 2).toNatClampNeg), .ref 70]) rfl ?_
  refine R_pf q23 rfl rfl rfl rfl rfl eN2 ?_
  show Rm E 23 53 [vr 70, vr 9, vi x2, vi x3, vi (N1.1 16 x2.toNatClampNeg - N1.1 16 (N1.1 70 2).toNatClampNeg), vn, vn, vn] [] N2 _ _
  refine R_S q23 4 (pc2 := 59) (ls2 := [vr 70, vr 9, vi x2, vi x3, vi (N1.1 16 x2.toNatClampNeg - N1.1 16 (N1.1 70 2).toNatClampNeg), vi x2, vi 0, vn]) (st2 := []) rfl ?_
  exact R_w (ls := [vr 70, vr 9, vn, vi x3, vi (N1.1 16 x2.toNatClampNeg - N1.1 16 (N1.1 70 2).toNatClampNeg), vi x2, vi 0, vn]) (show lsle _ _ from ⟨rfl, ⟨rfl, ⟨rfl, ⟨rfl, ⟨rfl, ⟨rfl, trivial⟩⟩⟩⟩⟩⟩) k
-- 63+
theorem b23_59_0 {E : env} {M : mem} {rv : Option Value} {M2 : mem} {x3 x4 x5 x6 : Int32}  (h0 : x4 < x6) (k : Rm E 23 101 [vr 70, vr 9, vn, vn, vi x4, vn, vi x3, vi (M.1 70 1 - 1)] [] M rv M2) : Rm E 23 59 [vr 70, vr 9, vn, vi x3, vi x4, vi x5, vi x6, vn] [] M rv M2 := by
  refine R_S q23 2 (pc2 := 63) (ls2 := [vr 70, vr 9, vn, vi x3, vi x4, vi x5, vi x6, vn]) (st2 := [.int x4, .int x6]) rfl ?_
  refine R_ict q23 rfl (decide_eq_true h0) ?_
  show Rm E 23 90 [vr 70, vr 9, vn, vi x3, vi x4, vi x5, vi x6, vn] [] M _ _
  refine R_S q23 7 (pc2 := 101) (ls2 := [vr 70, vr 9, vn, vi x3, vi x4, vi x5, vi x3, vi (M.1 70 1 - 1)]) (st2 := []) rfl ?_
  exact R_w (ls := [vr 70, vr 9, vn, vn, vi x4, vn, vi x3, vi (M.1 70 1 - 1)]) (show lsle _ _ from ⟨rfl, ⟨rfl, ⟨rfl, ⟨rfl, ⟨rfl, trivial⟩⟩⟩⟩⟩) k
-- 63-
theorem b23_59_1 {E : env} {M : mem} {rv : Option Value} {M2 : mem} {x3 x4 x5 x6 : Int32} {N1 : mem} (h0 : ¬ (x4 < x6)) (h1 : inR x6 30) (eN1 : N1 = upM M 71 (x6.toNatClampNeg) x5) (h2 : inR x5 30) (k : Rm E 23 59 [vr 70, vr 9, vn, vi x3, vi x4, vi (N1.1 10 x5.toNatClampNeg), vi (x6 + 1), vn] [] N1 rv M2) : Rm E 23 59 [vr 70, vr 9, vn, vi x3, vi x4, vi x5, vi x6, vn] [] M rv M2 := by
  refine R_S q23 2 (pc2 := 63) (ls2 := [vr 70, vr 9, vn, vi x3, vi x4, vi x5, vi x6, vn]) (st2 := [.int x4, .int x6]) rfl ?_
  refine R_icf q23 rfl (decide_eq_false h0) ?_
  show Rm E 23 66 [vr 70, vr 9, vn, vi x3, vi x4, vi x5, vi x6, vn] [] M _ _
  refine R_S q23 4 (pc2 := 74) (ls2 := [vr 70, vr 9, vn, vi x3, vi x4, vi x5, vi x6, vn]) (st2 := [.int x5, .int x6, .ref 71]) rfl ?_
  refine R_ias q23 rfl rfl h1 eN1 ?_
  show Rm E 23 75 [vr 70, vr 9, vn, vi x3, vi x4, vi x5, vi x6, vn] [] N1 _ _
  refine R_S q23 3 (pc2 := 81) (ls2 := [vr 70, vr 9, vn, vi x3, vi x4, vi x5, vi x6, vn]) (st2 := [.int x5, .ref 10]) rfl ?_
  refine R_ial q23 rfl rfl h2 ?_
  show Rm E 23 82 [vr 70, vr 9, vn, vi x3, vi x4, vi x5, vi x6, vn] [.int (N1.1 10 x5.toNatClampNeg)] N1 _ _
  refine R_S q23 3 (pc2 := 59) (ls2 := [vr 70, vr 9, vn, vi x3, vi x4, vi (N1.1 10 x5.toNatClampNeg), vi (x6 + 1), vn]) (st2 := []) rfl ?_
  exact k
-- 105+
theorem b23_101_0 {E : env} {M : mem} {x4 x6 x7 : Int32}  (h0 : x7 ≤ x4) : Rm E 23 101 [vr 70, vr 9, vn, vn, vi x4, vn, vi x6, vi x7] [] M none M := by
  refine R_S q23 2 (pc2 := 105) (ls2 := [vr 70, vr 9, vn, vn, vi x4, vn, vi x6, vi x7]) (st2 := [.int x4, .int x7]) rfl ?_
  refine R_ict q23 rfl (decide_eq_true h0) ?_
  show Rm E 23 132 [vr 70, vr 9, vn, vn, vi x4, vn, vi x6, vi x7] [] M _ _
  exact R_ret rfl q23 rfl rfl rfl rfl rfl
-- 105-
theorem b23_101_1 {E : env} {M : mem} {rv : Option Value} {M2 : mem} {x4 x6 x7 : Int32} {N1 : mem} (h0 : ¬ (x7 ≤ x4)) (h1 : inR x7 30) (eN1 : N1 = upM M 71 (x7.toNatClampNeg) x6) (h2 : inR x6 30) (k : Rm E 23 101 [vr 70, vr 9, vn, vn, vi x4, vn, vi (N1.1 10 x6.toNatClampNeg), vi (x7 + (-1))] [] N1 rv M2) : Rm E 23 101 [vr 70, vr 9, vn, vn, vi x4, vn, vi x6, vi x7] [] M rv M2 := by
  refine R_S q23 2 (pc2 := 105) (ls2 := [vr 70, vr 9, vn, vn, vi x4, vn, vi x6, vi x7]) (st2 := [.int x4, .int x7]) rfl ?_
  refine R_icf q23 rfl (decide_eq_false h0) ?_
  show Rm E 23 108 [vr 70, vr 9, vn, vn, vi x4, vn, vi x6, vi x7] [] M _ _
  refine R_S q23 4 (pc2 := 116) (ls2 := [vr 70, vr 9, vn, vn, vi x4, vn, vi x6, vi x7]) (st2 := [.int x6, .int x7, .ref 71]) rfl ?_
  refine R_ias q23 rfl rfl h1 eN1 ?_
  show Rm E 23 117 [vr 70, vr 9, vn, vn, vi x4, vn, vi x6, vi x7] [] N1 _ _
  refine R_S q23 3 (pc2 := 123) (ls2 := [vr 70, vr 9, vn, vn, vi x4, vn, vi x6, vi x7]) (st2 := [.int x6, .ref 10]) rfl ?_
  refine R_ial q23 rfl rfl h2 ?_
  show Rm E 23 124 [vr 70, vr 9, vn, vn, vi x4, vn, vi x6, vi x7] [.int (N1.1 10 x6.toNatClampNeg)] N1 _ _
  refine R_S q23 3 (pc2 := 101) (ls2 := [vr 70, vr 9, vn, vn, vi x4, vn, vi (N1.1 10 x6.toNatClampNeg), vi (x7 + (-1))]) (st2 := []) rfl ?_
  exact k
-- 24 HeavyChains$Route.cover(LHeavyChains$Tree;I)V  cuts [0, 17]
theorem q24 : cdOf 24 = some mt24 := rfl
-- 
theorem b24_0_0 {E : env} {M : mem} {rv : Option Value} {M2 : mem} {x2 : Int32} {N1 : mem} {N2 : mem} (eN1 : N1 = upM M 70 2 x2) (h0 : inR x2 30) (eN2 : N2 = upM N1 70 1 (N1.1 12 x2.toNatClampNeg)) (k : Rm E 24 17 [vr 70, vr 9, vi x2, vi 0] [] N2 rv M2) : Rm E 24 0 [vr 70, vr 9, vi x2, vn] [] M rv M2 := by
  refine R_S q24 2 (pc2 := 2) (ls2 := [vr 70, vr 9, vi x2, vn]) (st2 := [.int x2, .ref 70]) rfl ?_
  refine R_pf q24 rfl rfl rfl rfl rfl eN1 ?_
  show Rm E 24 5 [vr 70, vr 9, vi x2, vn] [] N1 _ _
  refine R_S q24 4 (pc2 := 11) (ls2 := [vr 70, vr 9, vi x2, vn]) (st2 := [.int x2, .ref 12, .ref 70]) rfl ?_
  refine R_ial q24 rfl rfl h0 ?_
  show Rm E 24 12 [vr 70, vr 9, vi x2, vn] [.int (N1.1 12 x2.toNatClampNeg), .ref 70] N1 _ _
  refine R_pf q24 rfl rfl rfl rfl rfl eN2 ?_
  show Rm E 24 15 [vr 70, vr 9, vi x2, vn] [] N2 _ _
  refine R_S q24 2 (pc2 := 17) (ls2 := [vr 70, vr 9, vi x2, vi 0]) (st2 := []) rfl ?_
  exact k
-- 22+
theorem b24_17_0 {E : env} {M : mem} {x2 x3 : Int32}  (h0 : M.1 70 1 ≤ x3) : Rm E 24 17 [vr 70, vr 9, vi x2, vi x3] [] M none M := by
  refine R_S q24 3 (pc2 := 22) (ls2 := [vr 70, vr 9, vi x2, vi x3]) (st2 := [.int (M.1 70 1), .int x3]) rfl ?_
  refine R_ict q24 rfl (decide_eq_true h0) ?_
  show Rm E 24 50 [vr 70, vr 9, vi x2, vi x3] [] M _ _
  exact R_ret rfl q24 rfl rfl rfl rfl rfl
-- 22-
theorem b24_17_1 {E : env} {M : mem} {rv : Option Value} {M2 : mem} {x2 x3 : Int32} {N1 : mem} (h0 : ¬ (M.1 70 1 ≤ x3)) (h1 : inR x2 30) (h2 : inR (M.1 13 x2.toNatClampNeg + x3) 30) (h3 : inR x3 30) (eN1 : N1 = upM M 71 (x3.toNatClampNeg) (M.1 14 (M.1 13 x2.toNatClampNeg + x3).toNatClampNeg)) (k : Rm E 24 17 [vr 70, vr 9, vi x2, vi (x3 + 1)] [] N1 rv M2) : Rm E 24 17 [vr 70, vr 9, vi x2, vi x3] [] M rv M2 := by
  refine R_S q24 3 (pc2 := 22) (ls2 := [vr 70, vr 9, vi x2, vi x3]) (st2 := [.int (M.1 70 1), .int x3]) rfl ?_
  refine R_icf q24 rfl (decide_eq_false h0) ?_
  show Rm E 24 25 [vr 70, vr 9, vi x2, vi x3] [] M _ _
  refine R_S q24 8 (pc2 := 39) (ls2 := [vr 70, vr 9, vi x2, vi x3]) (st2 := [.int x2, .ref 13, .ref 14, .int x3, .ref 71]) rfl ?_
  refine R_ial q24 rfl rfl h1 ?_
  show Rm E 24 40 [vr 70, vr 9, vi x2, vi x3] [.int (M.1 13 x2.toNatClampNeg), .ref 14, .int x3, .ref 71] M _ _
  refine R_S q24 2 (pc2 := 42) (ls2 := [vr 70, vr 9, vi x2, vi x3]) (st2 := [.int (M.1 13 x2.toNatClampNeg + x3), .ref 14, .int x3, .ref 71]) rfl ?_
  refine R_ial q24 rfl rfl h2 ?_
  show Rm E 24 43 [vr 70, vr 9, vi x2, vi x3] [.int (M.1 14 (M.1 13 x2.toNatClampNeg + x3).toNatClampNeg), .int x3, .ref 71] M _ _
  refine R_ias q24 rfl rfl h3 eN1 ?_
  show Rm E 24 44 [vr 70, vr 9, vi x2, vi x3] [] N1 _ _
  refine R_S q24 2 (pc2 := 17) (ls2 := [vr 70, vr 9, vi x2, vi (x3 + 1)]) (st2 := []) rfl ?_
  exact k
-- 25 HeavyChains$Route.pieces(LHeavyChains$Tree;)I  cuts [0, 4]
theorem q25 : cdOf 25 = some mt25 := rfl
-- 
theorem b25_0_0 {E : env} {M : mem} {rv : Option Value} {M2 : mem}  (k : Rm E 25 4 [vr 70, vr 9, vi 1, vi 1] [] M rv M2) : Rm E 25 0 [vr 70, vr 9, vn, vn] [] M rv M2 := by
  refine R_S q25 4 (pc2 := 4) (ls2 := [vr 70, vr 9, vi 1, vi 1]) (st2 := []) rfl ?_
  exact k
-- 9+
theorem b25_4_0 {E : env} {M : mem} {x2 x3 : Int32}  (h0 : M.1 70 1 ≤ x3) : Rm E 25 4 [vr 70, vr 9, vi x2, vi x3] [] M (some (.int x2)) M := by
  refine R_S q25 3 (pc2 := 9) (ls2 := [vr 70, vr 9, vi x2, vi x3]) (st2 := [.int (M.1 70 1), .int x3]) rfl ?_
  refine R_ict q25 rfl (decide_eq_true h0) ?_
  show Rm E 25 48 [vr 70, vr 9, vi x2, vi x3] [] M _ _
  refine R_S q25 1 (pc2 := 49) (ls2 := [vr 70, vr 9, vi x2, vi x3]) (st2 := [.int x2]) rfl ?_
  exact R_ret rfl q25 rfl rfl rfl rfl (stpR_i rfl rfl)
-- 9- 36+
theorem b25_4_1 {E : env} {M : mem} {rv : Option Value} {M2 : mem} {x2 x3 : Int32}  (h0 : ¬ (M.1 70 1 ≤ x3)) (h1 : inR x3 30) (h2 : inR (M.1 71 x3.toNatClampNeg) 30) (h3 : inR (x3 - 1) 30) (h4 : inR (M.1 71 (x3 - 1).toNatClampNeg) 30) (h5 : M.1 15 (M.1 71 x3.toNatClampNeg).toNatClampNeg = M.1 15 (M.1 71 (x3 - 1).toNatClampNeg).toNatClampNeg) (k : Rm E 25 4 [vr 70, vr 9, vi x2, vi (x3 + 1)] [] M rv M2) : Rm E 25 4 [vr 70, vr 9, vi x2, vi x3] [] M rv M2 := by
  refine R_S q25 3 (pc2 := 9) (ls2 := [vr 70, vr 9, vi x2, vi x3]) (st2 := [.int (M.1 70 1), .int x3]) rfl ?_
  refine R_icf q25 rfl (decide_eq_false h0) ?_
  show Rm E 25 12 [vr 70, vr 9, vi x2, vi x3] [] M _ _
  refine R_S q25 5 (pc2 := 21) (ls2 := [vr 70, vr 9, vi x2, vi x3]) (st2 := [.int x3, .ref 71, .ref 15]) rfl ?_
  refine R_ial q25 rfl rfl h1 ?_
  show Rm E 25 22 [vr 70, vr 9, vi x2, vi x3] [.int (M.1 71 x3.toNatClampNeg), .ref 15] M _ _
  refine R_ial q25 rfl rfl h2 ?_
  show Rm E 25 23 [vr 70, vr 9, vi x2, vi x3] [.int (M.1 15 (M.1 71 x3.toNatClampNeg).toNatClampNeg)] M _ _
  refine R_S q25 7 (pc2 := 34) (ls2 := [vr 70, vr 9, vi x2, vi x3]) (st2 := [.int (x3 - 1), .ref 71, .ref 15, .int (M.1 15 (M.1 71 x3.toNatClampNeg).toNatClampNeg)]) rfl ?_
  refine R_ial q25 rfl rfl h3 ?_
  show Rm E 25 35 [vr 70, vr 9, vi x2, vi x3] [.int (M.1 71 (x3 - 1).toNatClampNeg), .ref 15, .int (M.1 15 (M.1 71 x3.toNatClampNeg).toNatClampNeg)] M _ _
  refine R_ial q25 rfl rfl h4 ?_
  show Rm E 25 36 [vr 70, vr 9, vi x2, vi x3] [.int (M.1 15 (M.1 71 (x3 - 1).toNatClampNeg).toNatClampNeg), .int (M.1 15 (M.1 71 x3.toNatClampNeg).toNatClampNeg)] M _ _
  refine R_ict q25 rfl (decide_eq_true h5) ?_
  show Rm E 25 42 [vr 70, vr 9, vi x2, vi x3] [] M _ _
  refine R_S q25 2 (pc2 := 4) (ls2 := [vr 70, vr 9, vi x2, vi (x3 + 1)]) (st2 := []) rfl ?_
  exact k
-- 9- 36-
theorem b25_4_2 {E : env} {M : mem} {rv : Option Value} {M2 : mem} {x2 x3 : Int32}  (h0 : ¬ (M.1 70 1 ≤ x3)) (h1 : inR x3 30) (h2 : inR (M.1 71 x3.toNatClampNeg) 30) (h3 : inR (x3 - 1) 30) (h4 : inR (M.1 71 (x3 - 1).toNatClampNeg) 30) (h5 : ¬ (M.1 15 (M.1 71 x3.toNatClampNeg).toNatClampNeg = M.1 15 (M.1 71 (x3 - 1).toNatClampNeg).toNatClampNeg)) (k : Rm E 25 4 [vr 70, vr 9, vi (x2 + 1), vi (x3 + 1)] [] M rv M2) : Rm E 25 4 [vr 70, vr 9, vi x2, vi x3] [] M rv M2 := by
  refine R_S q25 3 (pc2 := 9) (ls2 := [vr 70, vr 9, vi x2, vi x3]) (st2 := [.int (M.1 70 1), .int x3]) rfl ?_
  refine R_icf q25 rfl (decide_eq_false h0) ?_
  show Rm E 25 12 [vr 70, vr 9, vi x2, vi x3] [] M _ _
  refine R_S q25 5 (pc2 := 21) (ls2 := [vr 70, vr 9, vi x2, vi x3]) (st2 := [.int x3, .ref 71, .ref 15]) rfl ?_
  refine R_ial q25 rfl rfl h1 ?_
  show Rm E 25 22 [vr 70, vr 9, vi x2, vi x3] [.int (M.1 71 x3.toNatClampNeg), .ref 15] M _ _
  refine R_ial q25 rfl rfl h2 ?_
  show Rm E 25 23 [vr 70, vr 9, vi x2, vi x3] [.int (M.1 15 (M.1 71 x3.toNatClampNeg).toNatClampNeg)] M _ _
  refine R_S q25 7 (pc2 := 34) (ls2 := [vr 70, vr 9, vi x2, vi x3]) (st2 := [.int (x3 - 1), .ref 71, .ref 15, .int (M.1 15 (M.1 71 x3.toNatClampNeg).toNatClampNeg)]) rfl ?_
  refine R_ial q25 rfl rfl h3 ?_
  show Rm E 25 35 [vr 70, vr 9, vi x2, vi x3] [.int (M.1 71 (x3 - 1).toNatClampNeg), .ref 15, .int (M.1 15 (M.1 71 x3.toNatClampNeg).toNatClampNeg)] M _ _
  refine R_ial q25 rfl rfl h4 ?_
  show Rm E 25 36 [vr 70, vr 9, vi x2, vi x3] [.int (M.1 15 (M.1 71 (x3 - 1).toNatClampNeg).toNatClampNeg), .int (M.1 15 (M.1 71 x3.toNatClampNeg).toNatClampNeg)] M _ _
  refine R_icf q25 rfl (decide_eq_false h5) ?_
  show Rm E 25 39 [vr 70, vr 9, vi x2, vi x3] [] M _ _
  refine R_S q25 3 (pc2 := 4) (ls2 := [vr 70, vr 9, vi (x2 + 1), vi (x3 + 1)]) (st2 := []) rfl ?_
  exact k
-- 26 HeavyChains$Route.sum([I)I  cuts [0, 4]
theorem q26 : cdOf 26 = some mt26 := rfl
-- 
theorem b26_0_0 {E : env} {M : mem} {rv : Option Value} {M2 : mem} {a : Nat}  (ha : skel[a]? = some (.inl (0, 30))) (k : Rm E 26 4 [vr 70, vr a, vi 0, vi 0] [] M rv M2) : Rm E 26 0 [vr 70, vr a, vn, vn] [] M rv M2 := by
  refine R_S q26 4 (pc2 := 4) (ls2 := [vr 70, vr a, vi 0, vi 0]) (st2 := []) rfl ?_
  exact k
-- 9+
theorem b26_4_0 {E : env} {M : mem} {x2 x3 : Int32} {a : Nat}  (ha : skel[a]? = some (.inl (0, 30))) (h0 : M.1 70 1 ≤ x3) : Rm E 26 4 [vr 70, vr a, vi x2, vi x3] [] M (some (.int x2)) M := by
  refine R_S q26 3 (pc2 := 9) (ls2 := [vr 70, vr a, vi x2, vi x3]) (st2 := [.int (M.1 70 1), .int x3]) rfl ?_
  refine R_ict q26 rfl (decide_eq_true h0) ?_
  show Rm E 26 29 [vr 70, vr a, vi x2, vi x3] [] M _ _
  refine R_S q26 1 (pc2 := 30) (ls2 := [vr 70, vr a, vi x2, vi x3]) (st2 := [.int x2]) rfl ?_
  exact R_ret rfl q26 rfl rfl rfl rfl (stpR_i rfl rfl)
-- 9-
theorem b26_4_1 {E : env} {M : mem} {rv : Option Value} {M2 : mem} {x2 x3 : Int32} {a : Nat}  (ha : skel[a]? = some (.inl (0, 30))) (h0 : ¬ (M.1 70 1 ≤ x3)) (h1 : inR x3 30) (h2 : inR (M.1 71 x3.toNatClampNeg) 30) (k : Rm E 26 4 [vr 70, vr a, vi (x2 + M.1 a (M.1 71 x3.toNatClampNeg).toNatClampNeg), vi (x3 + 1)] [] M rv M2) : Rm E 26 4 [vr 70, vr a, vi x2, vi x3] [] M rv M2 := by
  refine R_S q26 3 (pc2 := 9) (ls2 := [vr 70, vr a, vi x2, vi x3]) (st2 := [.int (M.1 70 1), .int x3]) rfl ?_
  refine R_icf q26 rfl (decide_eq_false h0) ?_
  show Rm E 26 12 [vr 70, vr a, vi x2, vi x3] [] M _ _
  refine R_S q26 5 (pc2 := 19) (ls2 := [vr 70, vr a, vi x2, vi x3]) (st2 := [.int x3, .ref 71, .ref a, .int x2]) rfl ?_
  refine R_ial q26 rfl rfl h1 ?_
  show Rm E 26 20 [vr 70, vr a, vi x2, vi x3] [.int (M.1 71 x3.toNatClampNeg), .ref a, .int x2] M _ _
  refine R_ial q26 rfl ha h2 ?_
  show Rm E 26 21 [vr 70, vr a, vi x2, vi x3] [.int (M.1 a (M.1 71 x3.toNatClampNeg).toNatClampNeg), .int x2] M _ _
  refine R_S q26 4 (pc2 := 4) (ls2 := [vr 70, vr a, vi (x2 + M.1 a (M.1 71 x3.toNatClampNeg).toNatClampNeg), vi (x3 + 1)]) (st2 := []) rfl ?_
  exact k
-- 27 HeavyChains$Route.greatest([I)I  cuts [0, 6]
theorem q27 : cdOf 27 = some mt27 := rfl
-- 
theorem b27_0_0 {E : env} {M : mem} {rv : Option Value} {M2 : mem} {a : Nat}  (ha : skel[a]? = some (.inl (0, 30))) (k : Rm E 27 6 [vr 70, vr a, vi (-9999), vi 0] [] M rv M2) : Rm E 27 0 [vr 70, vr a, vn, vn] [] M rv M2 := by
  refine R_S q27 4 (pc2 := 6) (ls2 := [vr 70, vr a, vi (-9999), vi 0]) (st2 := []) rfl ?_
  exact k
-- 11+
theorem b27_6_0 {E : env} {M : mem} {x2 x3 : Int32} {a : Nat}  (ha : skel[a]? = some (.inl (0, 30))) (h0 : M.1 70 1 ≤ x3) : Rm E 27 6 [vr 70, vr a, vi x2, vi x3] [] M (some (.int x2)) M := by
  refine R_S q27 3 (pc2 := 11) (ls2 := [vr 70, vr a, vi x2, vi x3]) (st2 := [.int (M.1 70 1), .int x3]) rfl ?_
  refine R_ict q27 rfl (decide_eq_true h0) ?_
  show Rm E 27 33 [vr 70, vr a, vi x2, vi x3] [] M _ _
  refine R_S q27 1 (pc2 := 34) (ls2 := [vr 70, vr a, vi x2, vi x3]) (st2 := [.int x2]) rfl ?_
  exact R_ret rfl q27 rfl rfl rfl rfl (stpR_i rfl rfl)
-- 11-
theorem b27_6_1 {E : env} {M : mem} {rv : Option Value} {M2 : mem} {x2 x3 : Int32} {a : Nat}  (ha : skel[a]? = some (.inl (0, 30))) (h0 : ¬ (M.1 70 1 ≤ x3)) (h1 : inR x3 30) (h2 : inR (M.1 71 x3.toNatClampNeg) 30) (k : Rm E 27 6 [vr 70, vr a, vi (if x2 < M.1 a (M.1 71 x3.toNatClampNeg).toNatClampNeg then M.1 a (M.1 71 x3.toNatClampNeg).toNatClampNeg else x2), vi (x3 + 1)] [] M rv M2) : Rm E 27 6 [vr 70, vr a, vi x2, vi x3] [] M rv M2 := by
  refine R_S q27 3 (pc2 := 11) (ls2 := [vr 70, vr a, vi x2, vi x3]) (st2 := [.int (M.1 70 1), .int x3]) rfl ?_
  refine R_icf q27 rfl (decide_eq_false h0) ?_
  show Rm E 27 14 [vr 70, vr a, vi x2, vi x3] [] M _ _
  refine R_S q27 5 (pc2 := 21) (ls2 := [vr 70, vr a, vi x2, vi x3]) (st2 := [.int x3, .ref 71, .ref a, .int x2]) rfl ?_
  refine R_ial q27 rfl rfl h1 ?_
  show Rm E 27 22 [vr 70, vr a, vi x2, vi x3] [.int (M.1 71 x3.toNatClampNeg), .ref a, .int x2] M _ _
  refine R_ial q27 rfl ha h2 ?_
  show Rm E 27 23 [vr 70, vr a, vi x2, vi x3] [.int (M.1 a (M.1 71 x3.toNatClampNeg).toNatClampNeg), .int x2] M _ _
  refine R_S q27 4 (pc2 := 6) (ls2 := [vr 70, vr a, vi (if x2 < M.1 a (M.1 71 x3.toNatClampNeg).toNatClampNeg then M.1 a (M.1 71 x3.toNatClampNeg).toNatClampNeg else x2), vi (x3 + 1)]) (st2 := []) rfl ?_
  exact k
-- 28 HeavyChains$Route.least([I)I  cuts [0, 6]
theorem q28 : cdOf 28 = some mt28 := rfl
-- 
theorem b28_0_0 {E : env} {M : mem} {rv : Option Value} {M2 : mem} {a : Nat}  (ha : skel[a]? = some (.inl (0, 30))) (k : Rm E 28 6 [vr 70, vr a, vi 9999, vi 0] [] M rv M2) : Rm E 28 0 [vr 70, vr a, vn, vn] [] M rv M2 := by
  refine R_S q28 4 (pc2 := 6) (ls2 := [vr 70, vr a, vi 9999, vi 0]) (st2 := []) rfl ?_
  exact k
-- 11+
theorem b28_6_0 {E : env} {M : mem} {x2 x3 : Int32} {a : Nat}  (ha : skel[a]? = some (.inl (0, 30))) (h0 : M.1 70 1 ≤ x3) : Rm E 28 6 [vr 70, vr a, vi x2, vi x3] [] M (some (.int x2)) M := by
  refine R_S q28 3 (pc2 := 11) (ls2 := [vr 70, vr a, vi x2, vi x3]) (st2 := [.int (M.1 70 1), .int x3]) rfl ?_
  refine R_ict q28 rfl (decide_eq_true h0) ?_
  show Rm E 28 33 [vr 70, vr a, vi x2, vi x3] [] M _ _
  refine R_S q28 1 (pc2 := 34) (ls2 := [vr 70, vr a, vi x2, vi x3]) (st2 := [.int x2]) rfl ?_
  exact R_ret rfl q28 rfl rfl rfl rfl (stpR_i rfl rfl)
-- 11-
theorem b28_6_1 {E : env} {M : mem} {rv : Option Value} {M2 : mem} {x2 x3 : Int32} {a : Nat}  (ha : skel[a]? = some (.inl (0, 30))) (h0 : ¬ (M.1 70 1 ≤ x3)) (h1 : inR x3 30) (h2 : inR (M.1 71 x3.toNatClampNeg) 30) (k : Rm E 28 6 [vr 70, vr a, vi (if M.1 a (M.1 71 x3.toNatClampNeg).toNatClampNeg < x2 then M.1 a (M.1 71 x3.toNatClampNeg).toNatClampNeg else x2), vi (x3 + 1)] [] M rv M2) : Rm E 28 6 [vr 70, vr a, vi x2, vi x3] [] M rv M2 := by
  refine R_S q28 3 (pc2 := 11) (ls2 := [vr 70, vr a, vi x2, vi x3]) (st2 := [.int (M.1 70 1), .int x3]) rfl ?_
  refine R_icf q28 rfl (decide_eq_false h0) ?_
  show Rm E 28 14 [vr 70, vr a, vi x2, vi x3] [] M _ _
  refine R_S q28 5 (pc2 := 21) (ls2 := [vr 70, vr a, vi x2, vi x3]) (st2 := [.int x3, .ref 71, .ref a, .int x2]) rfl ?_
  refine R_ial q28 rfl rfl h1 ?_
  show Rm E 28 22 [vr 70, vr a, vi x2, vi x3] [.int (M.1 71 x3.toNatClampNeg), .ref a, .int x2] M _ _
  refine R_ial q28 rfl ha h2 ?_
  show Rm E 28 23 [vr 70, vr a, vi x2, vi x3] [.int (M.1 a (M.1 71 x3.toNatClampNeg).toNatClampNeg), .int x2] M _ _
  refine R_S q28 4 (pc2 := 6) (ls2 := [vr 70, vr a, vi (if M.1 a (M.1 71 x3.toNatClampNeg).toNatClampNeg < x2 then M.1 a (M.1 71 x3.toNatClampNeg).toNatClampNeg else x2), vi (x3 + 1)]) (st2 := []) rfl ?_
  exact k
-- 29 HeavyChains$Route.gain([I)I  cuts [0, 9]
theorem q29 : cdOf 29 = some mt29 := rfl
-- 
theorem b29_0_0 {E : env} {M : mem} {rv : Option Value} {M2 : mem} {a : Nat}  (ha : skel[a]? = some (.inl (0, 30))) (k : Rm E 29 9 [vr 70, vr a, vi 0, vi 9999, vi 0] [] M rv M2) : Rm E 29 0 [vr 70, vr a, vn, vn, vn] [] M rv M2 := by
  refine R_S q29 6 (pc2 := 9) (ls2 := [vr 70, vr a, vi 0, vi 9999, vi 0]) (st2 := []) rfl ?_
  exact k
-- 15+
theorem b29_9_0 {E : env} {M : mem} {x2 x3 x4 : Int32} {a : Nat}  (ha : skel[a]? = some (.inl (0, 30))) (h0 : M.1 70 1 ≤ x4) : Rm E 29 9 [vr 70, vr a, vi x2, vi x3, vi x4] [] M (some (.int x2)) M := by
  refine R_S q29 3 (pc2 := 15) (ls2 := [vr 70, vr a, vi x2, vi x3, vi x4]) (st2 := [.int (M.1 70 1), .int x4]) rfl ?_
  refine R_ict q29 rfl (decide_eq_true h0) ?_
  show Rm E 29 54 [vr 70, vr a, vi x2, vi x3, vi x4] [] M _ _
  refine R_S q29 1 (pc2 := 55) (ls2 := [vr 70, vr a, vi x2, vi x3, vi x4]) (st2 := [.int x2]) rfl ?_
  exact R_ret rfl q29 rfl rfl rfl rfl (stpR_i rfl rfl)
-- 15-
theorem b29_9_1 {E : env} {M : mem} {rv : Option Value} {M2 : mem} {x2 x3 x4 : Int32} {a : Nat}  (ha : skel[a]? = some (.inl (0, 30))) (h0 : ¬ (M.1 70 1 ≤ x4)) (h1 : inR x4 30) (h2 : inR (M.1 71 x4.toNatClampNeg) 30) (h3 : inR x4 30) (h4 : inR (M.1 71 x4.toNatClampNeg) 30) (k : Rm E 29 9 [vr 70, vr a, vi (if x2 < (M.1 a (M.1 71 x4.toNatClampNeg).toNatClampNeg - (if M.1 a (M.1 71 x4.toNatClampNeg).toNatClampNeg < x3 then M.1 a (M.1 71 x4.toNatClampNeg).toNatClampNeg else x3)) then (M.1 a (M.1 71 x4.toNatClampNeg).toNatClampNeg - (if M.1 a (M.1 71 x4.toNatClampNeg).toNatClampNeg < x3 then M.1 a (M.1 71 x4.toNatClampNeg).toNatClampNeg else x3)) else x2), vi (if M.1 a (M.1 71 x4.toNatClampNeg).toNatClampNeg < x3 then M.1 a (M.1 71 x4.toNatClampNeg).toNatClampNeg else x3), vi (x4 + 1)] [] M rv M2) : Rm E 29 9 [vr 70, vr a, vi x2, vi x3, vi x4] [] M rv M2 := by
  refine R_S q29 3 (pc2 := 15) (ls2 := [vr 70, vr a, vi x2, vi x3, vi x4]) (st2 := [.int (M.1 70 1), .int x4]) rfl ?_
  refine R_icf q29 rfl (decide_eq_false h0) ?_
  show Rm E 29 18 [vr 70, vr a, vi x2, vi x3, vi x4] [] M _ _
  refine R_S q29 5 (pc2 := 26) (ls2 := [vr 70, vr a, vi x2, vi x3, vi x4]) (st2 := [.int x4, .ref 71, .ref a, .int x3]) rfl ?_
  refine R_ial q29 rfl rfl h1 ?_
  show Rm E 29 27 [vr 70, vr a, vi x2, vi x3, vi x4] [.int (M.1 71 x4.toNatClampNeg), .ref a, .int x3] M _ _
  refine R_ial q29 rfl ha h2 ?_
  show Rm E 29 28 [vr 70, vr a, vi x2, vi x3, vi x4] [.int (M.1 a (M.1 71 x4.toNatClampNeg).toNatClampNeg), .int x3] M _ _
  refine R_S q29 7 (pc2 := 40) (ls2 := [vr 70, vr a, vi x2, vi (if M.1 a (M.1 71 x4.toNatClampNeg).toNatClampNeg < x3 then M.1 a (M.1 71 x4.toNatClampNeg).toNatClampNeg else x3), vi x4]) (st2 := [.int x4, .ref 71, .ref a, .int x2]) rfl ?_
  refine R_ial q29 rfl rfl h3 ?_
  show Rm E 29 41 [vr 70, vr a, vi x2, vi (if M.1 a (M.1 71 x4.toNatClampNeg).toNatClampNeg < x3 then M.1 a (M.1 71 x4.toNatClampNeg).toNatClampNeg else x3), vi x4] [.int (M.1 71 x4.toNatClampNeg), .ref a, .int x2] M _ _
  refine R_ial q29 rfl ha h4 ?_
  show Rm E 29 42 [vr 70, vr a, vi x2, vi (if M.1 a (M.1 71 x4.toNatClampNeg).toNatClampNeg < x3 then M.1 a (M.1 71 x4.toNatClampNeg).toNatClampNeg else x3), vi x4] [.int (M.1 a (M.1 71 x4.toNatClampNeg).toNatClampNeg), .int x2] M _ _
  refine R_S q29 6 (pc2 := 9) (ls2 := [vr 70, vr a, vi (if x2 < (M.1 a (M.1 71 x4.toNatClampNeg).toNatClampNeg - (if M.1 a (M.1 71 x4.toNatClampNeg).toNatClampNeg < x3 then M.1 a (M.1 71 x4.toNatClampNeg).toNatClampNeg else x3)) then (M.1 a (M.1 71 x4.toNatClampNeg).toNatClampNeg - (if M.1 a (M.1 71 x4.toNatClampNeg).toNatClampNeg < x3 then M.1 a (M.1 71 x4.toNatClampNeg).toNatClampNeg else x3)) else x2), vi (if M.1 a (M.1 71 x4.toNatClampNeg).toNatClampNeg < x3 then M.1 a (M.1 71 x4.toNatClampNeg).toNatClampNeg else x3), vi (x4 + 1)]) (st2 := []) rfl ?_
  exact k
-- 30 HeavyChains$Route.carry(LHeavyChains$Accounts;I)I  cuts [0, 5]
theorem q30 : cdOf 30 = some mt30 := rfl
-- 
theorem b30_0_0 {E : env} {M : mem} {rv : Option Value} {M2 : mem} {x2 : Int32}  (k : Rm E 30 5 [vr 70, vr 18, vn, vi x2, vi 0] [] M rv M2) : Rm E 30 0 [vr 70, vr 18, vi x2, vn, vn] [] M rv M2 := by
  refine R_S q30 4 (pc2 := 5) (ls2 := [vr 70, vr 18, vi x2, vi x2, vi 0]) (st2 := []) rfl ?_
  exact R_w (ls := [vr 70, vr 18, vn, vi x2, vi 0]) (show lsle _ _ from ⟨rfl, ⟨rfl, ⟨rfl, ⟨rfl, trivial⟩⟩⟩⟩) k
-- 11+
theorem b30_5_0 {E : env} {M : mem} {x3 x4 : Int32}  (h0 : M.1 70 1 ≤ x4) : Rm E 30 5 [vr 70, vr 18, vn, vi x3, vi x4] [] M (some (.int x3)) M := by
  refine R_S q30 3 (pc2 := 11) (ls2 := [vr 70, vr 18, vn, vi x3, vi x4]) (st2 := [.int (M.1 70 1), .int x4]) rfl ?_
  refine R_ict q30 rfl (decide_eq_true h0) ?_
  show Rm E 30 51 [vr 70, vr 18, vn, vi x3, vi x4] [] M _ _
  refine R_S q30 1 (pc2 := 52) (ls2 := [vr 70, vr 18, vn, vi x3, vi x4]) (st2 := [.int x3]) rfl ?_
  exact R_ret rfl q30 rfl rfl rfl rfl (stpR_i rfl rfl)
-- 11-
theorem b30_5_1 {E : env} {M : mem} {rv : Option Value} {M2 : mem} {x3 x4 : Int32}  (h0 : ¬ (M.1 70 1 ≤ x4)) (h1 : inR x4 30) (h2 : inR (M.1 71 x4.toNatClampNeg) 30) (h3 : inR x4 30) (h4 : inR (M.1 71 x4.toNatClampNeg) 30) (k : Rm E 30 5 [vr 70, vr 18, vn, vi (((M.1 20 (M.1 71 x4.toNatClampNeg).toNatClampNeg * x3) + M.1 21 (M.1 71 x4.toNatClampNeg).toNatClampNeg) - ((M.1 20 (M.1 71 x4.toNatClampNeg).toNatClampNeg * x3) + M.1 21 (M.1 71 x4.toNatClampNeg).toNatClampNeg) / 97 * 97), vi (x4 + 1)] [] M rv M2) : Rm E 30 5 [vr 70, vr 18, vn, vi x3, vi x4] [] M rv M2 := by
  refine R_S q30 3 (pc2 := 11) (ls2 := [vr 70, vr 18, vn, vi x3, vi x4]) (st2 := [.int (M.1 70 1), .int x4]) rfl ?_
  refine R_icf q30 rfl (decide_eq_false h0) ?_
  show Rm E 30 14 [vr 70, vr 18, vn, vi x3, vi x4] [] M _ _
  refine R_S q30 5 (pc2 := 24) (ls2 := [vr 70, vr 18, vn, vi x3, vi x4]) (st2 := [.int x4, .ref 71, .ref 20]) rfl ?_
  refine R_ial q30 rfl rfl h1 ?_
  show Rm E 30 25 [vr 70, vr 18, vn, vi x3, vi x4] [.int (M.1 71 x4.toNatClampNeg), .ref 20] M _ _
  refine R_ial q30 rfl rfl h2 ?_
  show Rm E 30 26 [vr 70, vr 18, vn, vi x3, vi x4] [.int (M.1 20 (M.1 71 x4.toNatClampNeg).toNatClampNeg)] M _ _
  refine R_S q30 7 (pc2 := 38) (ls2 := [vr 70, vr 18, vn, vi x3, vi x4]) (st2 := [.int x4, .ref 71, .ref 21, .int (M.1 20 (M.1 71 x4.toNatClampNeg).toNatClampNeg * x3)]) rfl ?_
  refine R_ial q30 rfl rfl h3 ?_
  show Rm E 30 39 [vr 70, vr 18, vn, vi x3, vi x4] [.int (M.1 71 x4.toNatClampNeg), .ref 21, .int (M.1 20 (M.1 71 x4.toNatClampNeg).toNatClampNeg * x3)] M _ _
  refine R_ial q30 rfl rfl h4 ?_
  show Rm E 30 40 [vr 70, vr 18, vn, vi x3, vi x4] [.int (M.1 21 (M.1 71 x4.toNatClampNeg).toNatClampNeg), .int (M.1 20 (M.1 71 x4.toNatClampNeg).toNatClampNeg * x3)] M _ _
  refine R_S q30 6 (pc2 := 5) (ls2 := [vr 70, vr 18, vn, vi (((M.1 20 (M.1 71 x4.toNatClampNeg).toNatClampNeg * x3) + M.1 21 (M.1 71 x4.toNatClampNeg).toNatClampNeg) - ((M.1 20 (M.1 71 x4.toNatClampNeg).toNatClampNeg * x3) + M.1 21 (M.1 71 x4.toNatClampNeg).toNatClampNeg) / 97 * 97), vi (x4 + 1)]) (st2 := []) rfl ?_
  exact k
-- 31 HeavyChains$Route.canTake([III)Z  cuts [0, 3]
theorem q31 : cdOf 31 = some mt31 := rfl
-- 
theorem b31_0_0 {E : env} {M : mem} {rv : Option Value} {M2 : mem} {x2 x3 : Int32} {a : Nat}  (ha : skel[a]? = some (.inl (0, 30))) (k : Rm E 31 3 [vr 70, vr a, vi x2, vi x3, vi 0] [] M rv M2) : Rm E 31 0 [vr 70, vr a, vi x2, vi x3, vn] [] M rv M2 := by
  refine R_S q31 2 (pc2 := 3) (ls2 := [vr 70, vr a, vi x2, vi x3, vi 0]) (st2 := []) rfl ?_
  exact k
-- 9+
theorem b31_3_0 {E : env} {M : mem} {x2 x3 x4 : Int32} {a : Nat}  (ha : skel[a]? = some (.inl (0, 30))) (h0 : M.1 70 1 ≤ x4) : Rm E 31 3 [vr 70, vr a, vi x2, vi x3, vi x4] [] M (some (.int 1)) M := by
  refine R_S q31 3 (pc2 := 9) (ls2 := [vr 70, vr a, vi x2, vi x3, vi x4]) (st2 := [.int (M.1 70 1), .int x4]) rfl ?_
  refine R_ict q31 rfl (decide_eq_true h0) ?_
  show Rm E 31 46 [vr 70, vr a, vi x2, vi x3, vi x4] [] M _ _
  refine R_S q31 1 (pc2 := 47) (ls2 := [vr 70, vr a, vi x2, vi x3, vi x4]) (st2 := [.int 1]) rfl ?_
  exact R_ret rfl q31 rfl rfl rfl rfl rfl
-- 9- call X4_added call X9_within 35+
theorem b31_3_1 {E : env} {M : mem} {rv : Option Value} {M2 : mem} {x2 x3 x4 : Int32} {a : Nat} {c1 : Int32} {c2 : Int32} (ha : skel[a]? = some (.inl (0, 30))) (h0 : ¬ (M.1 70 1 ≤ x4)) (h1 : inR x4 30) (h2 : inR (M.1 71 x4.toNatClampNeg) 30) (h3 : Rm E 33 0 [vi (M.1 a (M.1 71 x4.toNatClampNeg).toNatClampNeg), vi x2, vi x3] [] M (some (.int c1)) M) (h4 : Rm E 81 0 [vi c1, vi (-9999), vi 9999] [] M (some (.int c2)) M) (h5 : ¬ c2 = 0) (k : Rm E 31 3 [vr 70, vr a, vi x2, vi x3, vi (x4 + 1)] [] M rv M2) : Rm E 31 3 [vr 70, vr a, vi x2, vi x3, vi x4] [] M rv M2 := by
  refine R_S q31 3 (pc2 := 9) (ls2 := [vr 70, vr a, vi x2, vi x3, vi x4]) (st2 := [.int (M.1 70 1), .int x4]) rfl ?_
  refine R_icf q31 rfl (decide_eq_false h0) ?_
  show Rm E 31 12 [vr 70, vr a, vi x2, vi x3, vi x4] [] M _ _
  refine R_S q31 4 (pc2 := 19) (ls2 := [vr 70, vr a, vi x2, vi x3, vi x4]) (st2 := [.int x4, .ref 71, .ref a]) rfl ?_
  refine R_ial q31 rfl rfl h1 ?_
  show Rm E 31 20 [vr 70, vr a, vi x2, vi x3, vi x4] [.int (M.1 71 x4.toNatClampNeg), .ref a] M _ _
  refine R_ial q31 rfl ha h2 ?_
  show Rm E 31 21 [vr 70, vr a, vi x2, vi x3, vi x4] [.int (M.1 a (M.1 71 x4.toNatClampNeg).toNatClampNeg)] M _ _
  refine R_S q31 2 (pc2 := 23) (ls2 := [vr 70, vr a, vi x2, vi x3, vi x4]) (st2 := [.int x3, .int x2, .int (M.1 a (M.1 71 x4.toNatClampNeg).toNatClampNeg)]) rfl ?_
  refine R_call q31 rfl rfl rfl rfl rfl rfl h3 ?_
  show Rm E 31 26 [vr 70, vr a, vi x2, vi x3, vi x4] [.int c1] M _ _
  refine R_S q31 2 (pc2 := 32) (ls2 := [vr 70, vr a, vi x2, vi x3, vi x4]) (st2 := [.int 9999, .int (-9999), .int c1]) rfl ?_
  refine R_call q31 rfl rfl rfl rfl rfl rfl h4 ?_
  show Rm E 31 35 [vr 70, vr a, vi x2, vi x3, vi x4] [.int c2] M _ _
  refine R_ift q31 rfl (decide_eq_true h5) ?_
  show Rm E 31 40 [vr 70, vr a, vi x2, vi x3, vi x4] [] M _ _
  refine R_S q31 2 (pc2 := 3) (ls2 := [vr 70, vr a, vi x2, vi x3, vi (x4 + 1)]) (st2 := []) rfl ?_
  exact k
-- 9- call X4_added call X9_within 35-
theorem b31_3_2 {E : env} {M : mem} {x2 x3 x4 : Int32} {a : Nat} {c1 : Int32} {c2 : Int32} (ha : skel[a]? = some (.inl (0, 30))) (h0 : ¬ (M.1 70 1 ≤ x4)) (h1 : inR x4 30) (h2 : inR (M.1 71 x4.toNatClampNeg) 30) (h3 : Rm E 33 0 [vi (M.1 a (M.1 71 x4.toNatClampNeg).toNatClampNeg), vi x2, vi x3] [] M (some (.int c1)) M) (h4 : Rm E 81 0 [vi c1, vi (-9999), vi 9999] [] M (some (.int c2)) M) (h5 : ¬ (¬ c2 = 0)) : Rm E 31 3 [vr 70, vr a, vi x2, vi x3, vi x4] [] M (some (.int 0)) M := by
  refine R_S q31 3 (pc2 := 9) (ls2 := [vr 70, vr a, vi x2, vi x3, vi x4]) (st2 := [.int (M.1 70 1), .int x4]) rfl ?_
  refine R_icf q31 rfl (decide_eq_false h0) ?_
  show Rm E 31 12 [vr 70, vr a, vi x2, vi x3, vi x4] [] M _ _
  refine R_S q31 4 (pc2 := 19) (ls2 := [vr 70, vr a, vi x2, vi x3, vi x4]) (st2 := [.int x4, .ref 71, .ref a]) rfl ?_
  refine R_ial q31 rfl rfl h1 ?_
  show Rm E 31 20 [vr 70, vr a, vi x2, vi x3, vi x4] [.int (M.1 71 x4.toNatClampNeg), .ref a] M _ _
  refine R_ial q31 rfl ha h2 ?_
  show Rm E 31 21 [vr 70, vr a, vi x2, vi x3, vi x4] [.int (M.1 a (M.1 71 x4.toNatClampNeg).toNatClampNeg)] M _ _
  refine R_S q31 2 (pc2 := 23) (ls2 := [vr 70, vr a, vi x2, vi x3, vi x4]) (st2 := [.int x3, .int x2, .int (M.1 a (M.1 71 x4.toNatClampNeg).toNatClampNeg)]) rfl ?_
  refine R_call q31 rfl rfl rfl rfl rfl rfl h3 ?_
  show Rm E 31 26 [vr 70, vr a, vi x2, vi x3, vi x4] [.int c1] M _ _
  refine R_S q31 2 (pc2 := 32) (ls2 := [vr 70, vr a, vi x2, vi x3, vi x4]) (st2 := [.int 9999, .int (-9999), .int c1]) rfl ?_
  refine R_call q31 rfl rfl rfl rfl rfl rfl h4 ?_
  show Rm E 31 35 [vr 70, vr a, vi x2, vi x3, vi x4] [.int c2] M _ _
  refine R_iff q31 rfl (decide_eq_false h5) ?_
  show Rm E 31 38 [vr 70, vr a, vi x2, vi x3, vi x4] [] M _ _
  refine R_S q31 1 (pc2 := 39) (ls2 := [vr 70, vr a, vi x2, vi x3, vi x4]) (st2 := [.int 0]) rfl ?_
  exact R_ret rfl q31 rfl rfl rfl rfl rfl
-- 32 HeavyChains$Route.take([III)V  cuts [0, 3]
theorem q32 : cdOf 32 = some mt32 := rfl
-- 
theorem b32_0_0 {E : env} {M : mem} {rv : Option Value} {M2 : mem} {x2 x3 : Int32} {a : Nat}  (ha : skel[a]? = some (.inl (0, 30))) (k : Rm E 32 3 [vr 70, vr a, vi x2, vi x3, vi 0] [] M rv M2) : Rm E 32 0 [vr 70, vr a, vi x2, vi x3, vn] [] M rv M2 := by
  refine R_S q32 2 (pc2 := 3) (ls2 := [vr 70, vr a, vi x2, vi x3, vi 0]) (st2 := []) rfl ?_
  exact k
-- 9+
theorem b32_3_0 {E : env} {M : mem} {x2 x3 x4 : Int32} {a : Nat}  (ha : skel[a]? = some (.inl (0, 30))) (h0 : M.1 70 1 ≤ x4) : Rm E 32 3 [vr 70, vr a, vi x2, vi x3, vi x4] [] M none M := by
  refine R_S q32 3 (pc2 := 9) (ls2 := [vr 70, vr a, vi x2, vi x3, vi x4]) (st2 := [.int (M.1 70 1), .int x4]) rfl ?_
  refine R_ict q32 rfl (decide_eq_true h0) ?_
  show Rm E 32 41 [vr 70, vr a, vi x2, vi x3, vi x4] [] M _ _
  exact R_ret rfl q32 rfl rfl rfl rfl rfl
-- 9- call X4_added
theorem b32_3_1 {E : env} {M : mem} {rv : Option Value} {M2 : mem} {x2 x3 x4 : Int32} {a : Nat} {c1 : Int32} {N1 : mem} (ha : skel[a]? = some (.inl (0, 30))) (h0 : ¬ (M.1 70 1 ≤ x4)) (h1 : inR x4 30) (h2 : inR x4 30) (h3 : inR (M.1 71 x4.toNatClampNeg) 30) (h4 : Rm E 33 0 [vi (M.1 a (M.1 71 x4.toNatClampNeg).toNatClampNeg), vi x2, vi x3] [] M (some (.int c1)) M) (h5 : inR (M.1 71 x4.toNatClampNeg) 30) (eN1 : N1 = upM M a ((M.1 71 x4.toNatClampNeg).toNatClampNeg) c1) (k : Rm E 32 3 [vr 70, vr a, vi x2, vi x3, vi (x4 + 1)] [] N1 rv M2) : Rm E 32 3 [vr 70, vr a, vi x2, vi x3, vi x4] [] M rv M2 := by
  refine R_S q32 3 (pc2 := 9) (ls2 := [vr 70, vr a, vi x2, vi x3, vi x4]) (st2 := [.int (M.1 70 1), .int x4]) rfl ?_
  refine R_icf q32 rfl (decide_eq_false h0) ?_
  show Rm E 32 12 [vr 70, vr a, vi x2, vi x3, vi x4] [] M _ _
  refine R_S q32 4 (pc2 := 19) (ls2 := [vr 70, vr a, vi x2, vi x3, vi x4]) (st2 := [.int x4, .ref 71, .ref a]) rfl ?_
  refine R_ial q32 rfl rfl h1 ?_
  show Rm E 32 20 [vr 70, vr a, vi x2, vi x3, vi x4] [.int (M.1 71 x4.toNatClampNeg), .ref a] M _ _
  refine R_S q32 4 (pc2 := 27) (ls2 := [vr 70, vr a, vi x2, vi x3, vi x4]) (st2 := [.int x4, .ref 71, .ref a, .int (M.1 71 x4.toNatClampNeg), .ref a]) rfl ?_
  refine R_ial q32 rfl rfl h2 ?_
  show Rm E 32 28 [vr 70, vr a, vi x2, vi x3, vi x4] [.int (M.1 71 x4.toNatClampNeg), .ref a, .int (M.1 71 x4.toNatClampNeg), .ref a] M _ _
  refine R_ial q32 rfl ha h3 ?_
  show Rm E 32 29 [vr 70, vr a, vi x2, vi x3, vi x4] [.int (M.1 a (M.1 71 x4.toNatClampNeg).toNatClampNeg), .int (M.1 71 x4.toNatClampNeg), .ref a] M _ _
  refine R_S q32 2 (pc2 := 31) (ls2 := [vr 70, vr a, vi x2, vi x3, vi x4]) (st2 := [.int x3, .int x2, .int (M.1 a (M.1 71 x4.toNatClampNeg).toNatClampNeg), .int (M.1 71 x4.toNatClampNeg), .ref a]) rfl ?_
  refine R_call q32 rfl rfl rfl rfl rfl rfl h4 ?_
  show Rm E 32 34 [vr 70, vr a, vi x2, vi x3, vi x4] [.int c1, .int (M.1 71 x4.toNatClampNeg), .ref a] M _ _
  refine R_ias q32 rfl ha h5 eN1 ?_
  show Rm E 32 35 [vr 70, vr a, vi x2, vi x3, vi x4] [] N1 _ _
  refine R_S q32 2 (pc2 := 3) (ls2 := [vr 70, vr a, vi x2, vi x3, vi (x4 + 1)]) (st2 := []) rfl ?_
  exact k
-- 33 HeavyChains$Route.added(III)I  cuts [0]
theorem q33 : cdOf 33 = some mt33 := rfl
-- 1=else
theorem b33_0_0 {E : env} {M : mem} {x0 x1 x2 : Int32}  (h0 : (x2).toInt < 0 ∨ 2 < (x2).toInt) : Rm E 33 0 [vi x0, vi x1, vi x2] [] M (some (.int (if 0 < (x0 + (x1 / 2)) then (x0 + (x1 / 2)) else 0))) M := by
  refine R_S q33 1 (pc2 := 1) (ls2 := [vi x0, vi x1, vi x2]) (st2 := [.int x2]) rfl ?_
  refine R_tsd q33 rfl h0 rfl ?_
  show Rm E 33 46 [vi x0, vi x1, vi x2] [] M _ _
  refine R_S q33 7 (pc2 := 55) (ls2 := [vi x0, vi x1, vi x2]) (st2 := [.int (if 0 < (x0 + (x1 / 2)) then (x0 + (x1 / 2)) else 0)]) rfl ?_
  exact R_ret rfl q33 rfl rfl rfl rfl (stpR_i rfl rfl)
-- 1=0
theorem b33_0_1 {E : env} {M : mem} {x0 x1 x2 : Int32}  (h0 : x2 = 0) : Rm E 33 0 [vi x0, vi x1, vi x2] [] M (some (.int (x0 + x1))) M := by
  refine R_S q33 1 (pc2 := 1) (ls2 := [vi x0, vi x1, vi x2]) (st2 := [.int x2]) rfl ?_
  refine R_top h0 ?_
  refine R_S q33 1 (pc2 := 28) (ls2 := [vi x0, vi x1, vi x2]) (st2 := []) rfl ?_
  refine R_S q33 3 (pc2 := 31) (ls2 := [vi x0, vi x1, vi x2]) (st2 := [.int (x0 + x1)]) rfl ?_
  exact R_ret rfl q33 rfl rfl rfl rfl (stpR_i rfl rfl)
-- 1=1
theorem b33_0_2 {E : env} {M : mem} {x0 x1 x2 : Int32}  (h0 : x2 = 1) : Rm E 33 0 [vi x0, vi x1, vi x2] [] M (some (.int (x0 + (2 * x1)))) M := by
  refine R_S q33 1 (pc2 := 1) (ls2 := [vi x0, vi x1, vi x2]) (st2 := [.int x2]) rfl ?_
  refine R_top h0 ?_
  refine R_S q33 1 (pc2 := 32) (ls2 := [vi x0, vi x1, vi x2]) (st2 := []) rfl ?_
  refine R_S q33 5 (pc2 := 37) (ls2 := [vi x0, vi x1, vi x2]) (st2 := [.int (x0 + (2 * x1))]) rfl ?_
  exact R_ret rfl q33 rfl rfl rfl rfl (stpR_i rfl rfl)
-- 1=2
theorem b33_0_3 {E : env} {M : mem} {x0 x1 x2 : Int32}  (h0 : x2 = 2) : Rm E 33 0 [vi x0, vi x1, vi x2] [] M (some (.int (if 0 < (x0 + x1) then (x0 + x1) else 0))) M := by
  refine R_S q33 1 (pc2 := 1) (ls2 := [vi x0, vi x1, vi x2]) (st2 := [.int x2]) rfl ?_
  refine R_top h0 ?_
  refine R_S q33 1 (pc2 := 38) (ls2 := [vi x0, vi x1, vi x2]) (st2 := []) rfl ?_
  refine R_S q33 5 (pc2 := 45) (ls2 := [vi x0, vi x1, vi x2]) (st2 := [.int (if 0 < (x0 + x1) then (x0 + x1) else 0)]) rfl ?_
  exact R_ret rfl q33 rfl rfl rfl rfl (stpR_i rfl rfl)
