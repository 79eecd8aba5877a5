-- 35 HeavyChains$Shelf.push(LHeavyChains$Accounts;)V  cuts [0]
theorem q35 : cdOf 35 = some mt35 := rfl
-- call X0_copy 25+
theorem b35p_0_0 {E : env} {M : mem} {b : Nat} {y1 : Nat} {N1 : mem} {N2 : mem} {N3 : mem} (hb : accA b) (h0 : inR (M.1 26 2) 8) (h1 : [28, 32, 36, 40, 44, 48, 52, 56][(M.1 26 2).toNatClampNeg]? = some y1) (hy1 : accA y1) (h2 : Rm E 3 0 [vr y1, vr b] [] M none N1) (h3 : 8 ≤ (N1.1 26 2 + 1)) (eN2 : N2 = upM N1 26 2 0) (eN3 : N3 = upM N2 26 1 (if 8 < (N2.1 26 1 + 1) then 8 else (N2.1 26 1 + 1))) : Rm E 35 0 [vr 26, vr b] [] M none N3 := by
  refine R_S q35 4 (pc2 := 8) (ls2 := [vr 26, vr b]) (st2 := [.int (M.1 26 2), .ref 27]) rfl ?_
  refine R_aal q35 rfl rfl h0 h1 ?_
  show Rm E 35 9 [vr 26, vr b] [.ref y1] M _ _
  refine R_S q35 1 (pc2 := 10) (ls2 := [vr 26, vr b]) (st2 := [.ref b, .ref y1]) rfl ?_
  refine R_callA q35 rfl (acc0 hy1) (by decide) rfl rfl h2 ?_
  show Rm E 35 13 [vr 26, vr b] [] N1 _ _
  refine R_S q35 8 (pc2 := 25) (ls2 := [vr 26, vr b]) (st2 := [.int 8, .int (N1.1 26 2 + 1), .ref 26]) rfl ?_
  refine R_ict q35 rfl (decide_eq_true h3) ?_
  show Rm E 35 37 [vr 26, vr b] [.ref 26] N1 _ _
  refine R_S q35 1 (pc2 := 38) (ls2 := [vr 26, vr b]) (st2 := [.int 0, .ref 26]) rfl ?_
  refine R_pf q35 rfl rfl rfl rfl rfl eN2 ?_
  show Rm E 35 41 [vr 26, vr b] [] N2 _ _
  refine R_S q35 9 (pc2 := 56) (ls2 := [vr 26, vr b]) (st2 := [.int (if 8 < (N2.1 26 1 + 1) then 8 else (N2.1 26 1 + 1)), .ref 26]) rfl ?_
  refine R_pf q35 rfl rfl rfl rfl rfl eN3 ?_
  show Rm E 35 59 [vr 26, vr b] [] N3 _ _
  exact R_ret rfl q35 rfl rfl rfl rfl rfl
-- call X0_copy 25-
theorem b35p_0_1 {E : env} {M : mem} {b : Nat} {y1 : Nat} {N1 : mem} {N2 : mem} {N3 : mem} (hb : accA b) (h0 : inR (M.1 26 2) 8) (h1 : [28, 32, 36, 40, 44, 48, 52, 56][(M.1 26 2).toNatClampNeg]? = some y1) (hy1 : accA y1) (h2 : Rm E 3 0 [vr y1, vr b] [] M none N1) (h3 : ¬ (8 ≤ (N1.1 26 2 + 1))) (eN2 : N2 = upM N1 26 2 (N1.1 26 2 + 1)) (eN3 : N3 = upM N2 26 1 (if 8 < (N2.1 26 1 + 1) then 8 else (N2.1 26 1 + 1))) : Rm E 35 0 [vr 26, vr b] [] M none N3 := by
  refine R_S q35 4 (pc2 := 8) (ls2 := [vr 26, vr b]) (st2 := [.int (M.1 26 2), .ref 27]) rfl ?_
  refine R_aal q35 rfl rfl h0 h1 ?_
  show Rm E 35 9 [vr 26, vr b] [.ref y1] M _ _
  refine R_S q35 1 (pc2 := 10) (ls2 := [vr 26, vr b]) (st2 := [.ref b, .ref y1]) rfl ?_
  refine R_callA q35 rfl (acc0 hy1) (by decide) rfl rfl h2 ?_
  show Rm E 35 13 [vr 26, vr b] [] N1 _ _
  refine R_S q35 8 (pc2 := 25) (ls2 := [vr 26, vr b]) (st2 := [.int 8, .int (N1.1 26 2 + 1), .ref 26]) rfl ?_
  refine R_icf q35 rfl (decide_eq_false h3) ?_
  show Rm E 35 28 [vr 26, vr b] [.ref 26] N1 _ _
  refine R_S q35 5 (pc2 := 38) (ls2 := [vr 26, vr b]) (st2 := [.int (N1.1 26 2 + 1), .ref 26]) rfl ?_
  refine R_pf q35 rfl rfl rfl rfl rfl eN2 ?_
  show Rm E 35 41 [vr 26, vr b] [] N2 _ _
  refine R_S q35 9 (pc2 := 56) (ls2 := [vr 26, vr b]) (st2 := [.int (if 8 < (N2.1 26 1 + 1) then 8 else (N2.1 26 1 + 1)), .ref 26]) rfl ?_
  refine R_pf q35 rfl rfl rfl rfl rfl eN3 ?_
  show Rm E 35 59 [vr 26, vr b] [] N3 _ _
  exact R_ret rfl q35 rfl rfl rfl rfl rfl
-- 35 HeavyChains$Shelf.push(LHeavyChains$Accounts;)V  cuts [0]
-- call X0_copy 25+
theorem b35k_0_0 {E : env} {M : mem} {b : Nat} {y1 : Nat} {N1 : mem} {N2 : mem} {N3 : mem} (hb : accA b) (h0 : inR (M.1 60 2) 2) (h1 : [62, 66][(M.1 60 2).toNatClampNeg]? = some y1) (hy1 : accA y1) (h2 : Rm E 3 0 [vr y1, vr b] [] M none N1) (h3 : 2 ≤ (N1.1 60 2 + 1)) (eN2 : N2 = upM N1 60 2 0) (eN3 : N3 = upM N2 60 1 (if 2 < (N2.1 60 1 + 1) then 2 else (N2.1 60 1 + 1))) : Rm E 35 0 [vr 60, vr b] [] M none N3 := by
  refine R_S q35 4 (pc2 := 8) (ls2 := [vr 60, vr b]) (st2 := [.int (M.1 60 2), .ref 61]) rfl ?_
  refine R_aal q35 rfl rfl h0 h1 ?_
  show Rm E 35 9 [vr 60, vr b] [.ref y1] M _ _
  refine R_S q35 1 (pc2 := 10) (ls2 := [vr 60, vr b]) (st2 := [.ref b, .ref y1]) rfl ?_
  refine R_callA q35 rfl (acc0 hy1) (by decide) rfl rfl h2 ?_
  show Rm E 35 13 [vr 60, vr b] [] N1 _ _
  refine R_S q35 8 (pc2 := 25) (ls2 := [vr 60, vr b]) (st2 := [.int 2, .int (N1.1 60 2 + 1), .ref 60]) rfl ?_
  refine R_ict q35 rfl (decide_eq_true h3) ?_
  show Rm E 35 37 [vr 60, vr b] [.ref 60] N1 _ _
  refine R_S q35 1 (pc2 := 38) (ls2 := [vr 60, vr b]) (st2 := [.int 0, .ref 60]) rfl ?_
  refine R_pf q35 rfl rfl rfl rfl rfl eN2 ?_
  show Rm E 35 41 [vr 60, vr b] [] N2 _ _
  refine R_S q35 9 (pc2 := 56) (ls2 := [vr 60, vr b]) (st2 := [.int (if 2 < (N2.1 60 1 + 1) then 2 else (N2.1 60 1 + 1)), .ref 60]) rfl ?_
  refine R_pf q35 rfl rfl rfl rfl rfl eN3 ?_
  show Rm E 35 59 [vr 60, vr b] [] N3 _ _
  exact R_ret rfl q35 rfl rfl rfl rfl rfl
-- call X0_copy 25-
theorem b35k_0_1 {E : env} {M : mem} {b : Nat} {y1 : Nat} {N1 : mem} {N2 : mem} {N3 : mem} (hb : accA b) (h0 : inR (M.1 60 2) 2) (h1 : [62, 66][(M.1 60 2).toNatClampNeg]? = some y1) (hy1 : accA y1) (h2 : Rm E 3 0 [vr y1, vr b] [] M none N1) (h3 : ¬ (2 ≤ (N1.1 60 2 + 1))) (eN2 : N2 = upM N1 60 2 (N1.1 60 2 + 1)) (eN3 : N3 = upM N2 60 1 (if 2 < (N2.1 60 1 + 1) then 2 else (N2.1 60 1 + 1))) : Rm E 35 0 [vr 60, vr b] [] M none N3 := by
  refine R_S q35 4 (pc2 := 8) (ls2 := [vr 60, vr b]) (st2 := [.int (M.1 60 2), .ref 61]) rfl ?_
  refine R_aal q35 rfl rfl h0 h1 ?_
  show Rm E 35 9 [vr 60, vr b] [.ref y1] M _ _
  refine R_S q35 1 (pc2 := 10) (ls2 := [vr 60, vr b]) (st2 := [.ref b, .ref y1]) rfl ?_
  refine R_callA q35 rfl (acc0 hy1) (by decide) rfl rfl h2 ?_
  show Rm E 35 13 [vr 60, vr b] [] N1 _ _
  refine R_S q35 8 (pc2 := 25) (ls2 := [vr 60, vr b]) (st2 := [.int 2, .int (N1.1 60 2 + 1), .ref 60]) rfl ?_
  refine R_icf q35 rfl (decide_eq_false h3) ?_
  show Rm E 35 28 [vr 60, vr b] [.ref 60] N1 _ _
  refine R_S q35 5 (pc2 := 38) (ls2 := [vr 60, vr b]) (st2 := [.int (N1.1 60 2 + 1), .ref 60]) rfl ?_
  refine R_pf q35 rfl rfl rfl rfl rfl eN2 ?_
  show Rm E 35 41 [vr 60, vr b] [] N2 _ _
  refine R_S q35 9 (pc2 := 56) (ls2 := [vr 60, vr b]) (st2 := [.int (if 2 < (N2.1 60 1 + 1) then 2 else (N2.1 60 1 + 1)), .ref 60]) rfl ?_
  refine R_pf q35 rfl rfl rfl rfl rfl eN3 ?_
  show Rm E 35 59 [vr 60, vr b] [] N3 _ _
  exact R_ret rfl q35 rfl rfl rfl rfl rfl
-- 36 HeavyChains$Shelf.pop(LHeavyChains$Accounts;)Z  cuts [0]
theorem q36 : cdOf 36 = some mt36 := rfl
-- 4+ 14+ call X0_copy
theorem b36p_0_0 {E : env} {M : mem} {b : Nat} {N1 : mem} {N2 : mem} {y1 : Nat} {N3 : mem} (hb : accA b) (h0 : 0 < M.1 26 1) (h1 : M.1 26 2 ≤ 0) (eN1 : N1 = upM M 26 2 (8 - 1)) (eN2 : N2 = upM N1 26 1 (N1.1 26 1 - 1)) (h2 : inR (N2.1 26 2) 8) (h3 : [28, 32, 36, 40, 44, 48, 52, 56][(N2.1 26 2).toNatClampNeg]? = some y1) (hy1 : accA y1) (h4 : Rm E 3 0 [vr b, vr y1] [] N2 none N3) : Rm E 36 0 [vr 26, vr b] [] M (some (.int 1)) N3 := by
  refine R_S q36 2 (pc2 := 4) (ls2 := [vr 26, vr b]) (st2 := [.int (M.1 26 1)]) rfl ?_
  refine R_ift q36 rfl (decide_eq_true h0) ?_
  show Rm E 36 9 [vr 26, vr b] [] M _ _
  refine R_S q36 3 (pc2 := 14) (ls2 := [vr 26, vr b]) (st2 := [.int (M.1 26 2), .ref 26]) rfl ?_
  refine R_ift q36 rfl (decide_eq_true h1) ?_
  show Rm E 36 26 [vr 26, vr b] [.ref 26] M _ _
  refine R_S q36 5 (pc2 := 33) (ls2 := [vr 26, vr b]) (st2 := [.int (8 - 1), .ref 26]) rfl ?_
  refine R_pf q36 rfl rfl rfl rfl rfl eN1 ?_
  show Rm E 36 36 [vr 26, vr b] [] N1 _ _
  refine R_S q36 5 (pc2 := 43) (ls2 := [vr 26, vr b]) (st2 := [.int (N1.1 26 1 - 1), .ref 26]) rfl ?_
  refine R_pf q36 rfl rfl rfl rfl rfl eN2 ?_
  show Rm E 36 46 [vr 26, vr b] [] N2 _ _
  refine R_S q36 5 (pc2 := 55) (ls2 := [vr 26, vr b]) (st2 := [.int (N2.1 26 2), .ref 27, .ref b]) rfl ?_
  refine R_aal q36 rfl rfl h2 h3 ?_
  show Rm E 36 56 [vr 26, vr b] [.ref y1, .ref b] N2 _ _
  refine R_callA q36 rfl (acc0 hb) (by decide) rfl rfl h4 ?_
  show Rm E 36 59 [vr 26, vr b] [] N3 _ _
  refine R_S q36 1 (pc2 := 60) (ls2 := [vr 26, vr b]) (st2 := [.int 1]) rfl ?_
  exact R_ret rfl q36 rfl rfl rfl rfl rfl
-- 4+ 14- call X0_copy
theorem b36p_0_1 {E : env} {M : mem} {b : Nat} {N1 : mem} {N2 : mem} {y1 : Nat} {N3 : mem} (hb : accA b) (h0 : 0 < M.1 26 1) (h1 : ¬ (M.1 26 2 ≤ 0)) (eN1 : N1 = upM M 26 2 (M.1 26 2 - 1)) (eN2 : N2 = upM N1 26 1 (N1.1 26 1 - 1)) (h2 : inR (N2.1 26 2) 8) (h3 : [28, 32, 36, 40, 44, 48, 52, 56][(N2.1 26 2).toNatClampNeg]? = some y1) (hy1 : accA y1) (h4 : Rm E 3 0 [vr b, vr y1] [] N2 none N3) : Rm E 36 0 [vr 26, vr b] [] M (some (.int 1)) N3 := by
  refine R_S q36 2 (pc2 := 4) (ls2 := [vr 26, vr b]) (st2 := [.int (M.1 26 1)]) rfl ?_
  refine R_ift q36 rfl (decide_eq_true h0) ?_
  show Rm E 36 9 [vr 26, vr b] [] M _ _
  refine R_S q36 3 (pc2 := 14) (ls2 := [vr 26, vr b]) (st2 := [.int (M.1 26 2), .ref 26]) rfl ?_
  refine R_iff q36 rfl (decide_eq_false h1) ?_
  show Rm E 36 17 [vr 26, vr b] [.ref 26] M _ _
  refine R_S q36 5 (pc2 := 33) (ls2 := [vr 26, vr b]) (st2 := [.int (M.1 26 2 - 1), .ref 26]) rfl ?_
  refine R_pf q36 rfl rfl rfl rfl rfl eN1 ?_
  show Rm E 36 36 [vr 26, vr b] [] N1 _ _
  refine R_S q36 5 (pc2 := 43) (ls2 := [vr 26, vr b]) (st2 := [.int (N1.1 26 1 - 1), .ref 26]) rfl ?_
  refine R_pf q36 rfl rfl rfl rfl rfl eN2 ?_
  show Rm E 36 46 [vr 26, vr b] [] N2 _ _
  refine R_S q36 5 (pc2 := 55) (ls2 := [vr 26, vr b]) (st2 := [.int (N2.1 26 2), .ref 27, .ref b]) rfl ?_
  refine R_aal q36 rfl rfl h2 h3 ?_
  show Rm E 36 56 [vr 26, vr b] [.ref y1, .ref b] N2 _ _
  refine R_callA q36 rfl (acc0 hb) (by decide) rfl rfl h4 ?_
  show Rm E 36 59 [vr 26, vr b] [] N3 _ _
  refine R_S q36 1 (pc2 := 60) (ls2 := [vr 26, vr b]) (st2 := [.int 1]) rfl ?_
  exact R_ret rfl q36 rfl rfl rfl rfl rfl
-- 4-
theorem b36p_0_2 {E : env} {M : mem} {b : Nat}  (hb : accA b) (h0 : ¬ (0 < M.1 26 1)) : Rm E 36 0 [vr 26, vr b] [] M (some (.int 0)) M := by
  refine R_S q36 2 (pc2 := 4) (ls2 := [vr 26, vr b]) (st2 := [.int (M.1 26 1)]) rfl ?_
  refine R_iff q36 rfl (decide_eq_false h0) ?_
  show Rm E 36 7 [vr 26, vr b] [] M _ _
  refine R_S q36 1 (pc2 := 8) (ls2 := [vr 26, vr b]) (st2 := [.int 0]) rfl ?_
  exact R_ret rfl q36 rfl rfl rfl rfl rfl
-- 36 HeavyChains$Shelf.pop(LHeavyChains$Accounts;)Z  cuts [0]
-- 4+ 14+ call X0_copy
theorem b36k_0_0 {E : env} {M : mem} {b : Nat} {N1 : mem} {N2 : mem} {y1 : Nat} {N3 : mem} (hb : accA b) (h0 : 0 < M.1 60 1) (h1 : M.1 60 2 ≤ 0) (eN1 : N1 = upM M 60 2 (2 - 1)) (eN2 : N2 = upM N1 60 1 (N1.1 60 1 - 1)) (h2 : inR (N2.1 60 2) 2) (h3 : [62, 66][(N2.1 60 2).toNatClampNeg]? = some y1) (hy1 : accA y1) (h4 : Rm E 3 0 [vr b, vr y1] [] N2 none N3) : Rm E 36 0 [vr 60, vr b] [] M (some (.int 1)) N3 := by
  refine R_S q36 2 (pc2 := 4) (ls2 := [vr 60, vr b]) (st2 := [.int (M.1 60 1)]) rfl ?_
  refine R_ift q36 rfl (decide_eq_true h0) ?_
  show Rm E 36 9 [vr 60, vr b] [] M _ _
  refine R_S q36 3 (pc2 := 14) (ls2 := [vr 60, vr b]) (st2 := [.int (M.1 60 2), .ref 60]) rfl ?_
  refine R_ift q36 rfl (decide_eq_true h1) ?_
  show Rm E 36 26 [vr 60, vr b] [.ref 60] M _ _
  refine R_S q36 5 (pc2 := 33) (ls2 := [vr 60, vr b]) (st2 := [.int (2 - 1), .ref 60]) rfl ?_
  refine R_pf q36 rfl rfl rfl rfl rfl eN1 ?_
  show Rm E 36 36 [vr 60, vr b] [] N1 _ _
  refine R_S q36 5 (pc2 := 43) (ls2 := [vr 60, vr b]) (st2 := [.int (N1.1 60 1 - 1), .ref 60]) rfl ?_
  refine R_pf q36 rfl rfl rfl rfl rfl eN2 ?_
  show Rm E 36 46 [vr 60, vr b] [] N2 _ _
  refine R_S q36 5 (pc2 := 55) (ls2 := [vr 60, vr b]) (st2 := [.int (N2.1 60 2), .ref 61, .ref b]) rfl ?_
  refine R_aal q36 rfl rfl h2 h3 ?_
  show Rm E 36 56 [vr 60, vr b] [.ref y1, .ref b] N2 _ _
  refine R_callA q36 rfl (acc0 hb) (by decide) rfl rfl h4 ?_
  show Rm E 36 59 [vr 60, vr b] [] N3 _ _
  refine R_S q36 1 (pc2 := 60) (ls2 := [vr 60, vr b]) (st2 := [.int 1]) rfl ?_
  exact R_ret rfl q36 rfl rfl rfl rfl rfl
-- 4+ 14- call X0_copy
theorem b36k_0_1 {E : env} {M : mem} {b : Nat} {N1 : mem} {N2 : mem} {y1 : Nat} {N3 : mem} (hb : accA b) (h0 : 0 < M.1 60 1) (h1 : ¬ (M.1 60 2 ≤ 0)) (eN1 : N1 = upM M 60 2 (M.1 60 2 - 1)) (eN2 : N2 = upM N1 60 1 (N1.1 60 1 - 1)) (h2 : inR (N2.1 60 2) 2) (h3 : [62, 66][(N2.1 60 2).toNatClampNeg]? = some y1) (hy1 : accA y1) (h4 : Rm E 3 0 [vr b, vr y1] [] N2 none N3) : Rm E 36 0 [vr 60, vr b] [] M (some (.int 1)) N3 := by
  refine R_S q36 2 (pc2 := 4) (ls2 := [vr 60, vr b]) (st2 := [.int (M.1 60 1)]) rfl ?_
  refine R_ift q36 rfl (decide_eq_true h0) ?_
  show Rm E 36 9 [vr 60, vr b] [] M _ _
  refine R_S q36 3 (pc2 := 14) (ls2 := [vr 60, vr b]) (st2 := [.int (M.1 60 2), .ref 60]) rfl ?_
  refine R_iff q36 rfl (decide_eq_false h1) ?_
  show Rm E 36 17 [vr 60, vr b] [.ref 60] M _ _
  refine R_S q36 5 (pc2 := 33) (ls2 := [vr 60, vr b]) (st2 := [.int (M.1 60 2 - 1), .ref 60]) rfl ?_
  refine R_pf q36 rfl rfl rfl rfl rfl eN1 ?_
  show Rm E 36 36 [vr 60, vr b] [] N1 _ _
  refine R_S q36 5 (pc2 := 43) (ls2 := [vr 60, vr b]) (st2 := [.int (N1.1 60 1 - 1), .ref 60]) rfl ?_
  refine R_pf q36 rfl rfl rfl rfl rfl eN2 ?_
  show Rm E 36 46 [vr 60, vr b] [] N2 _ _
  refine R_S q36 5 (pc2 := 55) (ls2 := [vr 60, vr b]) (st2 := [.int (N2.1 60 2), .ref 61, .ref b]) rfl ?_
  refine R_aal q36 rfl rfl h2 h3 ?_
  show Rm E 36 56 [vr 60, vr b] [.ref y1, .ref b] N2 _ _
  refine R_callA q36 rfl (acc0 hb) (by decide) rfl rfl h4 ?_
  show Rm E 36 59 [vr 60, vr b] [] N3 _ _
  refine R_S q36 1 (pc2 := 60) (ls2 := [vr 60, vr b]) (st2 := [.int 1]) rfl ?_
  exact R_ret rfl q36 rfl rfl rfl rfl rfl
-- 4-
theorem b36k_0_2 {E : env} {M : mem} {b : Nat}  (hb : accA b) (h0 : ¬ (0 < M.1 60 1)) : Rm E 36 0 [vr 60, vr b] [] M (some (.int 0)) M := by
  refine R_S q36 2 (pc2 := 4) (ls2 := [vr 60, vr b]) (st2 := [.int (M.1 60 1)]) rfl ?_
  refine R_iff q36 rfl (decide_eq_false h0) ?_
  show Rm E 36 7 [vr 60, vr b] [] M _ _
  refine R_S q36 1 (pc2 := 8) (ls2 := [vr 60, vr b]) (st2 := [.int 0]) rfl ?_
  exact R_ret rfl q36 rfl rfl rfl rfl rfl
-- 38 HeavyChains$Survey.measure(LHeavyChains$Tree;I[I)V  cuts [0, 3, 40, 89]
theorem q38 : cdOf 38 = some mt38 := rfl
-- 
theorem b38_0_0 {E : env} {M : mem} {rv : Option Value} {M2 : mem} {x2 : Int32} {a : Nat}  (ha : skel[a]? = some (.inl (0, 30))) (k : Rm E 38 3 [vr 72, vr 9, vi x2, vr a, vi 0, vn, vn] [] M rv M2) : Rm E 38 0 [vr 72, vr 9, vi x2, vr a, vn, vn, vn] [] M rv M2 := by
  refine R_S q38 2 (pc2 := 3) (ls2 := [vr 72, vr 9, vi x2, vr a, vi 0, vn, vn]) (st2 := []) rfl ?_
  exact k
-- 9+
theorem b38_3_0 {E : env} {M : mem} {rv : Option Value} {M2 : mem} {x2 x4 : Int32} {a : Nat}  (ha : skel[a]? = some (.inl (0, 30))) (h0 : M.1 9 0 ≤ x4) (h1 : inR x2 30) (k : Rm E 38 40 [vr 72, vr 9, vn, vr a, vi 0, vi x2, vi (M.1 16 x2.toNatClampNeg)] [] M rv M2) : Rm E 38 3 [vr 72, vr 9, vi x2, vr a, vi x4, vn, vn] [] M rv M2 := by
  refine R_S q38 3 (pc2 := 9) (ls2 := [vr 72, vr 9, vi x2, vr a, vi x4, vn, vn]) (st2 := [.int (M.1 9 0), .int x4]) rfl ?_
  refine R_ict q38 rfl (decide_eq_true h0) ?_
  show Rm E 38 26 [vr 72, vr 9, vi x2, vr a, vi x4, vn, vn] [] M _ _
  refine R_S q38 7 (pc2 := 37) (ls2 := [vr 72, vr 9, vi x2, vr a, vi 0, vi x2, vn]) (st2 := [.int x2, .ref 16]) rfl ?_
  refine R_ial q38 rfl rfl h1 ?_
  show Rm E 38 38 [vr 72, vr 9, vi x2, vr a, vi 0, vi x2, vn] [.int (M.1 16 x2.toNatClampNeg)] M _ _
  refine R_S q38 1 (pc2 := 40) (ls2 := [vr 72, vr 9, vi x2, vr a, vi 0, vi x2, vi (M.1 16 x2.toNatClampNeg)]) (st2 := []) rfl ?_
  exact R_w (ls := [vr 72, vr 9, vn, vr a, vi 0, vi x2, vi (M.1 16 x2.toNatClampNeg)]) (show lsle _ _ from ⟨rfl, ⟨rfl, ⟨rfl, ⟨rfl, ⟨rfl, ⟨rfl, trivial⟩⟩⟩⟩⟩⟩) k
-- 9-
theorem b38_3_1 {E : env} {M : mem} {rv : Option Value} {M2 : mem} {x2 x4 : Int32} {a : Nat} {N1 : mem} (ha : skel[a]? = some (.inl (0, 30))) (h0 : ¬ (M.1 9 0 ≤ x4)) (h1 : inR x4 30) (eN1 : N1 = upM M 75 (x4.toNatClampNeg) 0) (k : Rm E 38 3 [vr 72, vr 9, vi x2, vr a, vi (x4 + 1), vn, vn] [] N1 rv M2) : Rm E 38 3 [vr 72, vr 9, vi x2, vr a, vi x4, vn, vn] [] M rv M2 := by
  refine R_S q38 3 (pc2 := 9) (ls2 := [vr 72, vr 9, vi x2, vr a, vi x4, vn, vn]) (st2 := [.int (M.1 9 0), .int x4]) rfl ?_
  refine R_icf q38 rfl (decide_eq_false h0) ?_
  show Rm E 38 12 [vr 72, vr 9, vi x2, vr a, vi x4, vn, vn] [] M _ _
  refine R_S q38 4 (pc2 := 19) (ls2 := [vr 72, vr 9, vi x2, vr a, vi x4, vn, vn]) (st2 := [.int 0, .int x4, .ref 75]) rfl ?_
  refine R_bas q38 rfl rfl h1 eN1 ?_
  show Rm E 38 20 [vr 72, vr 9, vi x2, vr a, vi x4, vn, vn] [] N1 _ _
  refine R_S q38 2 (pc2 := 3) (ls2 := [vr 72, vr 9, vi x2, vr a, vi (x4 + 1), vn, vn]) (st2 := []) rfl ?_
  exact k
-- 42+
theorem b38_40_0 {E : env} {M : mem} {rv : Option Value} {M2 : mem} {x4 x5 x6 : Int32} {a : Nat}  (ha : skel[a]? = some (.inl (0, 30))) (h0 : x6 < 0) (k : Rm E 38 89 [vr 72, vr 9, vn, vr a, vn, vn, vi 1] [] M rv M2) : Rm E 38 40 [vr 72, vr 9, vn, vr a, vi x4, vi x5, vi x6] [] M rv M2 := by
  refine R_S q38 1 (pc2 := 42) (ls2 := [vr 72, vr 9, vn, vr a, vi x4, vi x5, vi x6]) (st2 := [.int x6]) rfl ?_
  refine R_ift q38 rfl (decide_eq_true h0) ?_
  show Rm E 38 86 [vr 72, vr 9, vn, vr a, vi x4, vi x5, vi x6] [] M _ _
  refine R_S q38 2 (pc2 := 89) (ls2 := [vr 72, vr 9, vn, vr a, vi x4, vi x5, vi 1]) (st2 := []) rfl ?_
  exact R_w (ls := [vr 72, vr 9, vn, vr a, vn, vn, vi 1]) (show lsle _ _ from ⟨rfl, ⟨rfl, ⟨rfl, ⟨rfl, trivial⟩⟩⟩⟩) k
-- 42-
theorem b38_40_1 {E : env} {M : mem} {rv : Option Value} {M2 : mem} {x4 x5 x6 : Int32} {a : Nat} {N1 : mem} {N2 : mem} (ha : skel[a]? = some (.inl (0, 30))) (h0 : ¬ (x6 < 0)) (h1 : inR x5 30) (h2 : inR x5 30) (eN1 : N1 = upM M 74 (x5.toNatClampNeg) (x4 + M.1 a x5.toNatClampNeg)) (h3 : inR x5 30) (eN2 : N2 = upM N1 75 (x5.toNatClampNeg) 1) (h4 : inR x5 30) (k : Rm E 38 40 [vr 72, vr 9, vn, vr a, vi (x4 + M.1 a x5.toNatClampNeg), vi (N2.1 10 x5.toNatClampNeg), vi (x6 + (-1))] [] N2 rv M2) : Rm E 38 40 [vr 72, vr 9, vn, vr a, vi x4, vi x5, vi x6] [] M rv M2 := by
  refine R_S q38 1 (pc2 := 42) (ls2 := [vr 72, vr 9, vn, vr a, vi x4, vi x5, vi x6]) (st2 := [.int x6]) rfl ?_
  refine R_iff q38 rfl (decide_eq_false h0) ?_
  show Rm E 38 45 [vr 72, vr 9, vn, vr a, vi x4, vi x5, vi x6] [] M _ _
  refine R_S q38 3 (pc2 := 50) (ls2 := [vr 72, vr 9, vn, vr a, vi x4, vi x5, vi x6]) (st2 := [.int x5, .ref a, .int x4]) rfl ?_
  refine R_ial q38 rfl ha h1 ?_
  show Rm E 38 51 [vr 72, vr 9, vn, vr a, vi x4, vi x5, vi x6] [.int (M.1 a x5.toNatClampNeg), .int x4] M _ _
  refine R_S q38 6 (pc2 := 62) (ls2 := [vr 72, vr 9, vn, vr a, vi (x4 + M.1 a x5.toNatClampNeg), vi x5, vi x6]) (st2 := [.int (x4 + M.1 a x5.toNatClampNeg), .int x5, .ref 74]) rfl ?_
  refine R_ias q38 rfl rfl h2 eN1 ?_
  show Rm E 38 63 [vr 72, vr 9, vn, vr a, vi (x4 + M.1 a x5.toNatClampNeg), vi x5, vi x6] [] N1 _ _
  refine R_S q38 4 (pc2 := 70) (ls2 := [vr 72, vr 9, vn, vr a, vi (x4 + M.1 a x5.toNatClampNeg), vi x5, vi x6]) (st2 := [.int 1, .int x5, .ref 75]) rfl ?_
  refine R_bas q38 rfl rfl h3 eN2 ?_
  show Rm E 38 71 [vr 72, vr 9, vn, vr a, vi (x4 + M.1 a x5.toNatClampNeg), vi x5, vi x6] [] N2 _ _
  refine R_S q38 3 (pc2 := 77) (ls2 := [vr 72, vr 9, vn, vr a, vi (x4 + M.1 a x5.toNatClampNeg), vi x5, vi x6]) (st2 := [.int x5, .ref 10]) rfl ?_
  refine R_ial q38 rfl rfl h4 ?_
  show Rm E 38 78 [vr 72, vr 9, vn, vr a, vi (x4 + M.1 a x5.toNatClampNeg), vi x5, vi x6] [.int (N2.1 10 x5.toNatClampNeg)] N2 _ _
  refine R_S q38 3 (pc2 := 40) (ls2 := [vr 72, vr 9, vn, vr a, vi (x4 + M.1 a x5.toNatClampNeg), vi (N2.1 10 x5.toNatClampNeg), vi (x6 + (-1))]) (st2 := []) rfl ?_
  exact k
-- 95+
theorem b38_89_0 {E : env} {M : mem} {x6 : Int32} {a : Nat}  (ha : skel[a]? = some (.inl (0, 30))) (h0 : M.1 9 0 ≤ x6) : Rm E 38 89 [vr 72, vr 9, vn, vr a, vn, vn, vi x6] [] M none M := by
  refine R_S q38 3 (pc2 := 95) (ls2 := [vr 72, vr 9, vn, vr a, vn, vn, vi x6]) (st2 := [.int (M.1 9 0), .int x6]) rfl ?_
  refine R_ict q38 rfl (decide_eq_true h0) ?_
  show Rm E 38 138 [vr 72, vr 9, vn, vr a, vn, vn, vi x6] [] M _ _
  exact R_ret rfl q38 rfl rfl rfl rfl rfl
-- 95- 105+
theorem b38_89_1 {E : env} {M : mem} {rv : Option Value} {M2 : mem} {x6 : Int32} {a : Nat}  (ha : skel[a]? = some (.inl (0, 30))) (h0 : ¬ (M.1 9 0 ≤ x6)) (h1 : inR x6 30) (h2 : ¬ M.1 75 x6.toNatClampNeg = 0) (k : Rm E 38 89 [vr 72, vr 9, vn, vr a, vn, vn, vi (x6 + 1)] [] M rv M2) : Rm E 38 89 [vr 72, vr 9, vn, vr a, vn, vn, vi x6] [] M rv M2 := by
  refine R_S q38 3 (pc2 := 95) (ls2 := [vr 72, vr 9, vn, vr a, vn, vn, vi x6]) (st2 := [.int (M.1 9 0), .int x6]) rfl ?_
  refine R_icf q38 rfl (decide_eq_false h0) ?_
  show Rm E 38 98 [vr 72, vr 9, vn, vr a, vn, vn, vi x6] [] M _ _
  refine R_S q38 3 (pc2 := 104) (ls2 := [vr 72, vr 9, vn, vr a, vn, vn, vi x6]) (st2 := [.int x6, .ref 75]) rfl ?_
  refine R_bal q38 rfl rfl h1 ?_
  show Rm E 38 105 [vr 72, vr 9, vn, vr a, vn, vn, vi x6] [.int (M.1 75 x6.toNatClampNeg)] M _ _
  refine R_ift q38 rfl (decide_eq_true h2) ?_
  show Rm E 38 132 [vr 72, vr 9, vn, vr a, vn, vn, vi x6] [] M _ _
  refine R_S q38 2 (pc2 := 89) (ls2 := [vr 72, vr 9, vn, vr a, vn, vn, vi (x6 + 1)]) (st2 := []) rfl ?_
  exact k
-- 95- 105-
theorem b38_89_2 {E : env} {M : mem} {rv : Option Value} {M2 : mem} {x6 : Int32} {a : Nat} {N1 : mem} (ha : skel[a]? = some (.inl (0, 30))) (h0 : ¬ (M.1 9 0 ≤ x6)) (h1 : inR x6 30) (h2 : ¬ (¬ M.1 75 x6.toNatClampNeg = 0)) (h3 : inR x6 30) (h4 : inR (M.1 10 x6.toNatClampNeg) 30) (h5 : inR x6 30) (h6 : inR x6 30) (eN1 : N1 = upM M 74 (x6.toNatClampNeg) (M.1 74 (M.1 10 x6.toNatClampNeg).toNatClampNeg + M.1 a x6.toNatClampNeg)) (k : Rm E 38 89 [vr 72, vr 9, vn, vr a, vn, vn, vi (x6 + 1)] [] N1 rv M2) : Rm E 38 89 [vr 72, vr 9, vn, vr a, vn, vn, vi x6] [] M rv M2 := by
  refine R_S q38 3 (pc2 := 95) (ls2 := [vr 72, vr 9, vn, vr a, vn, vn, vi x6]) (st2 := [.int (M.1 9 0), .int x6]) rfl ?_
  refine R_icf q38 rfl (decide_eq_false h0) ?_
  show Rm E 38 98 [vr 72, vr 9, vn, vr a, vn, vn, vi x6] [] M _ _
  refine R_S q38 3 (pc2 := 104) (ls2 := [vr 72, vr 9, vn, vr a, vn, vn, vi x6]) (st2 := [.int x6, .ref 75]) rfl ?_
  refine R_bal q38 rfl rfl h1 ?_
  show Rm E 38 105 [vr 72, vr 9, vn, vr a, vn, vn, vi x6] [.int (M.1 75 x6.toNatClampNeg)] M _ _
  refine R_iff q38 rfl (decide_eq_false h2) ?_
  show Rm E 38 108 [vr 72, vr 9, vn, vr a, vn, vn, vi x6] [] M _ _
  refine R_S q38 8 (pc2 := 124) (ls2 := [vr 72, vr 9, vn, vr a, vn, vn, vi x6]) (st2 := [.int x6, .ref 10, .ref 74, .int x6, .ref 74]) rfl ?_
  refine R_ial q38 rfl rfl h3 ?_
  show Rm E 38 125 [vr 72, vr 9, vn, vr a, vn, vn, vi x6] [.int (M.1 10 x6.toNatClampNeg), .ref 74, .int x6, .ref 74] M _ _
  refine R_ial q38 rfl rfl h4 ?_
  show Rm E 38 126 [vr 72, vr 9, vn, vr a, vn, vn, vi x6] [.int (M.1 74 (M.1 10 x6.toNatClampNeg).toNatClampNeg), .int x6, .ref 74] M _ _
  refine R_S q38 2 (pc2 := 129) (ls2 := [vr 72, vr 9, vn, vr a, vn, vn, vi x6]) (st2 := [.int x6, .ref a, .int (M.1 74 (M.1 10 x6.toNatClampNeg).toNatClampNeg), .int x6, .ref 74]) rfl ?_
  refine R_ial q38 rfl ha h5 ?_
  show Rm E 38 130 [vr 72, vr 9, vn, vr a, vn, vn, vi x6] [.int (M.1 a x6.toNatClampNeg), .int (M.1 74 (M.1 10 x6.toNatClampNeg).toNatClampNeg), .int x6, .ref 74] M _ _
  refine R_S q38 1 (pc2 := 131) (ls2 := [vr 72, vr 9, vn, vr a, vn, vn, vi x6]) (st2 := [.int (M.1 74 (M.1 10 x6.toNatClampNeg).toNatClampNeg + M.1 a x6.toNatClampNeg), .int x6, .ref 74]) rfl ?_
  refine R_ias q38 rfl rfl h6 eN1 ?_
  show Rm E 38 132 [vr 72, vr 9, vn, vr a, vn, vn, vi x6] [] N1 _ _
  refine R_S q38 2 (pc2 := 89) (ls2 := [vr 72, vr 9, vn, vr a, vn, vn, vi (x6 + 1)]) (st2 := []) rfl ?_
  exact k
-- 39 HeavyChains$Survey.search(LHeavyChains$Tree;[I)V  cuts [0, 2, 20]
theorem q39 : cdOf 39 = some mt39 := rfl
-- 
theorem b39_0_0 {E : env} {M : mem} {rv : Option Value} {M2 : mem} {a : Nat}  (ha : skel[a]? = some (.inl (0, 30))) (k : Rm E 39 2 [vr 72, vr 9, vr a, vi 0, vn] [] M rv M2) : Rm E 39 0 [vr 72, vr 9, vr a, vn, vn] [] M rv M2 := by
  refine R_S q39 2 (pc2 := 2) (ls2 := [vr 72, vr 9, vr a, vi 0, vn]) (st2 := []) rfl ?_
  exact k
-- 7+
theorem b39_2_0 {E : env} {M : mem} {x3 : Int32} {a : Nat}  (ha : skel[a]? = some (.inl (0, 30))) (h0 : M.1 9 0 ≤ x3) : Rm E 39 2 [vr 72, vr 9, vr a, vi x3, vn] [] M none M := by
  refine R_S q39 3 (pc2 := 7) (ls2 := [vr 72, vr 9, vr a, vi x3, vn]) (st2 := [.int (M.1 9 0), .int x3]) rfl ?_
  refine R_ict q39 rfl (decide_eq_true h0) ?_
  show Rm E 39 82 [vr 72, vr 9, vr a, vi x3, vn] [] M _ _
  exact R_ret rfl q39 rfl rfl rfl rfl rfl
-- 7- call X6_measure
theorem b39_2_1 {E : env} {M : mem} {rv : Option Value} {M2 : mem} {x3 : Int32} {a : Nat} {N1 : mem} (ha : skel[a]? = some (.inl (0, 30))) (h0 : ¬ (M.1 9 0 ≤ x3)) (h1 : Rm E 38 0 [vr 72, vr 9, vi x3, vr a, vn, vn, vn] [] M none N1) (k : Rm E 39 20 [vr 72, vr 9, vr a, vi x3, vi x3] [] N1 rv M2) : Rm E 39 2 [vr 72, vr 9, vr a, vi x3, vn] [] M rv M2 := by
  refine R_S q39 3 (pc2 := 7) (ls2 := [vr 72, vr 9, vr a, vi x3, vn]) (st2 := [.int (M.1 9 0), .int x3]) rfl ?_
  refine R_icf q39 rfl (decide_eq_false h0) ?_
  show Rm E 39 10 [vr 72, vr 9, vr a, vi x3, vn] [] M _ _
  refine R_S q39 4 (pc2 := 14) (ls2 := [vr 72, vr 9, vr a, vi x3, vn]) (st2 := [.ref a, .int x3, .ref 9, .ref 72]) rfl ?_
  refine R_call q39 rfl rfl rfl rfl rfl rfl h1 ?_
  show Rm E 39 17 [vr 72, vr 9, vr a, vi x3, vn] [] N1 _ _
  refine R_S q39 2 (pc2 := 20) (ls2 := [vr 72, vr 9, vr a, vi x3, vi x3]) (st2 := []) rfl ?_
  exact k
-- 26+
theorem b39_20_0 {E : env} {M : mem} {rv : Option Value} {M2 : mem} {x3 x4 : Int32} {a : Nat}  (ha : skel[a]? = some (.inl (0, 30))) (h0 : M.1 9 0 ≤ x4) (k : Rm E 39 2 [vr 72, vr 9, vr a, vi (x3 + 1), vn] [] M rv M2) : Rm E 39 20 [vr 72, vr 9, vr a, vi x3, vi x4] [] M rv M2 := by
  refine R_S q39 3 (pc2 := 26) (ls2 := [vr 72, vr 9, vr a, vi x3, vi x4]) (st2 := [.int (M.1 9 0), .int x4]) rfl ?_
  refine R_ict q39 rfl (decide_eq_true h0) ?_
  show Rm E 39 76 [vr 72, vr 9, vr a, vi x3, vi x4] [] M _ _
  refine R_S q39 2 (pc2 := 2) (ls2 := [vr 72, vr 9, vr a, vi (x3 + 1), vi x4]) (st2 := []) rfl ?_
  exact R_w (ls := [vr 72, vr 9, vr a, vi (x3 + 1), vn]) (show lsle _ _ from ⟨rfl, ⟨rfl, ⟨rfl, ⟨rfl, trivial⟩⟩⟩⟩) k
-- 26- 31+
theorem b39_20_1 {E : env} {M : mem} {rv : Option Value} {M2 : mem} {x3 x4 : Int32} {a : Nat} {N1 : mem} {N2 : mem} {N3 : mem} (ha : skel[a]? = some (.inl (0, 30))) (h0 : ¬ (M.1 9 0 ≤ x4)) (h1 : x4 = 0) (eN1 : N1 = upM M 72 3 x3) (eN2 : N2 = upM N1 72 4 x4) (h2 : inR x4 30) (eN3 : N3 = upM N2 72 5 (N2.1 74 x4.toNatClampNeg)) (k : Rm E 39 20 [vr 72, vr 9, vr a, vi x3, vi (x4 + 1)] [] N3 rv M2) : Rm E 39 20 [vr 72, vr 9, vr a, vi x3, vi x4] [] M rv M2 := by
  refine R_S q39 3 (pc2 := 26) (ls2 := [vr 72, vr 9, vr a, vi x3, vi x4]) (st2 := [.int (M.1 9 0), .int x4]) rfl ?_
  refine R_icf q39 rfl (decide_eq_false h0) ?_
  show Rm E 39 29 [vr 72, vr 9, vr a, vi x3, vi x4] [] M _ _
  refine R_S q39 1 (pc2 := 31) (ls2 := [vr 72, vr 9, vr a, vi x3, vi x4]) (st2 := [.int x4]) rfl ?_
  refine R_ift q39 rfl (decide_eq_true h1) ?_
  show Rm E 39 48 [vr 72, vr 9, vr a, vi x3, vi x4] [] M _ _
  refine R_S q39 2 (pc2 := 50) (ls2 := [vr 72, vr 9, vr a, vi x3, vi x4]) (st2 := [.int x3, .ref 72]) rfl ?_
  refine R_pf q39 rfl rfl rfl rfl rfl eN1 ?_
  show Rm E 39 53 [vr 72, vr 9, vr a, vi x3, vi x4] [] N1 _ _
  refine R_S q39 2 (pc2 := 56) (ls2 := [vr 72, vr 9, vr a, vi x3, vi x4]) (st2 := [.int x4, .ref 72]) rfl ?_
  refine R_pf q39 rfl rfl rfl rfl rfl eN2 ?_
  show Rm E 39 59 [vr 72, vr 9, vr a, vi x3, vi x4] [] N2 _ _
  refine R_S q39 4 (pc2 := 66) (ls2 := [vr 72, vr 9, vr a, vi x3, vi x4]) (st2 := [.int x4, .ref 74, .ref 72]) rfl ?_
  refine R_ial q39 rfl rfl h2 ?_
  show Rm E 39 67 [vr 72, vr 9, vr a, vi x3, vi x4] [.int (N2.1 74 x4.toNatClampNeg), .ref 72] N2 _ _
  refine R_pf q39 rfl rfl rfl rfl rfl eN3 ?_
  show Rm E 39 70 [vr 72, vr 9, vr a, vi x3, vi x4] [] N3 _ _
  refine R_S q39 2 (pc2 := 20) (ls2 := [vr 72, vr 9, vr a, vi x3, vi (x4 + 1)]) (st2 := []) rfl ?_
  exact k
-- 26- 31- 45+
theorem b39_20_2 {E : env} {M : mem} {rv : Option Value} {M2 : mem} {x3 x4 : Int32} {a : Nat}  (ha : skel[a]? = some (.inl (0, 30))) (h0 : ¬ (M.1 9 0 ≤ x4)) (h1 : ¬ (x4 = 0)) (h2 : inR x4 30) (h3 : M.1 74 x4.toNatClampNeg ≤ M.1 72 5) (k : Rm E 39 20 [vr 72, vr 9, vr a, vi x3, vi (x4 + 1)] [] M rv M2) : Rm E 39 20 [vr 72, vr 9, vr a, vi x3, vi x4] [] M rv M2 := by
  refine R_S q39 3 (pc2 := 26) (ls2 := [vr 72, vr 9, vr a, vi x3, vi x4]) (st2 := [.int (M.1 9 0), .int x4]) rfl ?_
  refine R_icf q39 rfl (decide_eq_false h0) ?_
  show Rm E 39 29 [vr 72, vr 9, vr a, vi x3, vi x4] [] M _ _
  refine R_S q39 1 (pc2 := 31) (ls2 := [vr 72, vr 9, vr a, vi x3, vi x4]) (st2 := [.int x4]) rfl ?_
  refine R_iff q39 rfl (decide_eq_false h1) ?_
  show Rm E 39 34 [vr 72, vr 9, vr a, vi x3, vi x4] [] M _ _
  refine R_S q39 3 (pc2 := 40) (ls2 := [vr 72, vr 9, vr a, vi x3, vi x4]) (st2 := [.int x4, .ref 74]) rfl ?_
  refine R_ial q39 rfl rfl h2 ?_
  show Rm E 39 41 [vr 72, vr 9, vr a, vi x3, vi x4] [.int (M.1 74 x4.toNatClampNeg)] M _ _
  refine R_S q39 2 (pc2 := 45) (ls2 := [vr 72, vr 9, vr a, vi x3, vi x4]) (st2 := [.int (M.1 72 5), .int (M.1 74 x4.toNatClampNeg)]) rfl ?_
  refine R_ict q39 rfl (decide_eq_true h3) ?_
  show Rm E 39 70 [vr 72, vr 9, vr a, vi x3, vi x4] [] M _ _
  refine R_S q39 2 (pc2 := 20) (ls2 := [vr 72, vr 9, vr a, vi x3, vi (x4 + 1)]) (st2 := []) rfl ?_
  exact k
-- 26- 31- 45-
theorem b39_20_3 {E : env} {M : mem} {rv : Option Value} {M2 : mem} {x3 x4 : Int32} {a : Nat} {N1 : mem} {N2 : mem} {N3 : mem} (ha : skel[a]? = some (.inl (0, 30))) (h0 : ¬ (M.1 9 0 ≤ x4)) (h1 : ¬ (x4 = 0)) (h2 : inR x4 30) (h3 : ¬ (M.1 74 x4.toNatClampNeg ≤ M.1 72 5)) (eN1 : N1 = upM M 72 3 x3) (eN2 : N2 = upM N1 72 4 x4) (h4 : inR x4 30) (eN3 : N3 = upM N2 72 5 (N2.1 74 x4.toNatClampNeg)) (k : Rm E 39 20 [vr 72, vr 9, vr a, vi x3, vi (x4 + 1)] [] N3 rv M2) : Rm E 39 20 [vr 72, vr 9, vr a, vi x3, vi x4] [] M rv M2 := by
  refine R_S q39 3 (pc2 := 26) (ls2 := [vr 72, vr 9, vr a, vi x3, vi x4]) (st2 := [.int (M.1 9 0), .int x4]) rfl ?_
  refine R_icf q39 rfl (decide_eq_false h0) ?_
  show Rm E 39 29 [vr 72, vr 9, vr a, vi x3, vi x4] [] M _ _
  refine R_S q39 1 (pc2 := 31) (ls2 := [vr 72, vr 9, vr a, vi x3, vi x4]) (st2 := [.int x4]) rfl ?_
  refine R_iff q39 rfl (decide_eq_false h1) ?_
  show Rm E 39 34 [vr 72, vr 9, vr a, vi x3, vi x4] [] M _ _
  refine R_S q39 3 (pc2 := 40) (ls2 := [vr 72, vr 9, vr a, vi x3, vi x4]) (st2 := [.int x4, .ref 74]) rfl ?_
  refine R_ial q39 rfl rfl h2 ?_
  show Rm E 39 41 [vr 72, vr 9, vr a, vi x3, vi x4] [.int (M.1 74 x4.toNatClampNeg)] M _ _
  refine R_S q39 2 (pc2 := 45) (ls2 := [vr 72, vr 9, vr a, vi x3, vi x4]) (st2 := [.int (M.1 72 5), .int (M.1 74 x4.toNatClampNeg)]) rfl ?_
  refine R_icf q39 rfl (decide_eq_false h3) ?_
  show Rm E 39 48 [vr 72, vr 9, vr a, vi x3, vi x4] [] M _ _
  refine R_S q39 2 (pc2 := 50) (ls2 := [vr 72, vr 9, vr a, vi x3, vi x4]) (st2 := [.int x3, .ref 72]) rfl ?_
  refine R_pf q39 rfl rfl rfl rfl rfl eN1 ?_
  show Rm E 39 53 [vr 72, vr 9, vr a, vi x3, vi x4] [] N1 _ _
  refine R_S q39 2 (pc2 := 56) (ls2 := [vr 72, vr 9, vr a, vi x3, vi x4]) (st2 := [.int x4, .ref 72]) rfl ?_
  refine R_pf q39 rfl rfl rfl rfl rfl eN2 ?_
  show Rm E 39 59 [vr 72, vr 9, vr a, vi x3, vi x4] [] N2 _ _
  refine R_S q39 4 (pc2 := 66) (ls2 := [vr 72, vr 9, vr a, vi x3, vi x4]) (st2 := [.int x4, .ref 74, .ref 72]) rfl ?_
  refine R_ial q39 rfl rfl h4 ?_
  show Rm E 39 67 [vr 72, vr 9, vr a, vi x3, vi x4] [.int (N2.1 74 x4.toNatClampNeg), .ref 72] N2 _ _
  refine R_pf q39 rfl rfl rfl rfl rfl eN3 ?_
  show Rm E 39 70 [vr 72, vr 9, vr a, vi x3, vi x4] [] N3 _ _
  refine R_S q39 2 (pc2 := 20) (ls2 := [vr 72, vr 9, vr a, vi x3, vi (x4 + 1)]) (st2 := []) rfl ?_
  exact k
-- 40 HeavyChains$Survey.end(I)I  cuts [0]
theorem q40 : cdOf 40 = some mt40 := rfl
-- 1+
theorem b40_0_0 {E : env} {M : mem} {x1 : Int32}  (h0 : ¬ x1 = 0) : Rm E 40 0 [vr 72, vi x1] [] M (some (.int (M.1 72 4))) M := by
  refine R_S q40 1 (pc2 := 1) (ls2 := [vr 72, vi x1]) (st2 := [.int x1]) rfl ?_
  refine R_ift q40 rfl (decide_eq_true h0) ?_
  show Rm E 40 11 [vr 72, vi x1] [] M _ _
  refine R_S q40 2 (pc2 := 15) (ls2 := [vr 72, vi x1]) (st2 := [.int (M.1 72 4)]) rfl ?_
  exact R_ret rfl q40 rfl rfl rfl rfl (stpR_i rfl rfl)
-- 1-
theorem b40_0_1 {E : env} {M : mem} {x1 : Int32}  (h0 : ¬ (¬ x1 = 0)) : Rm E 40 0 [vr 72, vi x1] [] M (some (.int (M.1 72 3))) M := by
  refine R_S q40 1 (pc2 := 1) (ls2 := [vr 72, vi x1]) (st2 := [.int x1]) rfl ?_
  refine R_iff q40 rfl (decide_eq_false h0) ?_
  show Rm E 40 4 [vr 72, vi x1] [] M _ _
  refine R_S q40 3 (pc2 := 15) (ls2 := [vr 72, vi x1]) (st2 := [.int (M.1 72 3)]) rfl ?_
  exact R_ret rfl q40 rfl rfl rfl rfl (stpR_i rfl rfl)
-- 42 HeavyChains$Tree.build(I[I)V  cuts [0, 12, 57, 89, 141]
theorem q42 : cdOf 42 = some mt42 := rfl
-- 
theorem b42_0_0 {E : env} {M : mem} {rv : Option Value} {M2 : mem} {x1 : Int32} {N1 : mem} (eN1 : N1 = upM M 9 0 (if 30 < x1 then 30 else x1)) (k : Rm E 42 12 [vr 9, vn, vr 4, vi 0] [] N1 rv M2) : Rm E 42 0 [vr 9, vi x1, vr 4, vn] [] M rv M2 := by
  refine R_S q42 4 (pc2 := 7) (ls2 := [vr 9, vi x1, vr 4, vn]) (st2 := [.int (if 30 < x1 then 30 else x1), .ref 9]) rfl ?_
  refine R_pf q42 rfl rfl rfl rfl rfl eN1 ?_
  show Rm E 42 10 [vr 9, vi x1, vr 4, vn] [] N1 _ _
  refine R_S q42 2 (pc2 := 12) (ls2 := [vr 9, vi x1, vr 4, vi 0]) (st2 := []) rfl ?_
  exact R_w (ls := [vr 9, vn, vr 4, vi 0]) (show lsle _ _ from ⟨rfl, ⟨rfl, ⟨rfl, trivial⟩⟩⟩) k
-- 17+
theorem b42_12_0 {E : env} {M : mem} {rv : Option Value} {M2 : mem} {x3 : Int32}  (h0 : M.1 9 0 ≤ x3) (k : Rm E 42 57 [vr 9, vn, vn, vi (M.1 9 0 - 1)] [] M rv M2) : Rm E 42 12 [vr 9, vn, vr 4, vi x3] [] M rv M2 := by
  refine R_S q42 3 (pc2 := 17) (ls2 := [vr 9, vn, vr 4, vi x3]) (st2 := [.int (M.1 9 0), .int x3]) rfl ?_
  refine R_ict q42 rfl (decide_eq_true h0) ?_
  show Rm E 42 50 [vr 9, vn, vr 4, vi x3] [] M _ _
  refine R_S q42 5 (pc2 := 57) (ls2 := [vr 9, vn, vr 4, vi (M.1 9 0 - 1)]) (st2 := []) rfl ?_
  exact R_w (ls := [vr 9, vn, vn, vi (M.1 9 0 - 1)]) (show lsle _ _ from ⟨rfl, ⟨rfl, trivial⟩⟩) k
-- 17-
theorem b42_12_1 {E : env} {M : mem} {rv : Option Value} {M2 : mem} {x3 : Int32} {N1 : mem} {N2 : mem} {N3 : mem} (h0 : ¬ (M.1 9 0 ≤ x3)) (h1 : inR x3 30) (h2 : inR x3 30) (eN1 : N1 = upM M 10 (x3.toNatClampNeg) (M.1 4 x3.toNatClampNeg)) (h3 : inR x3 30) (eN2 : N2 = upM N1 12 (x3.toNatClampNeg) 1) (h4 : inR x3 30) (eN3 : N3 = upM N2 11 (x3.toNatClampNeg) (-4)) (k : Rm E 42 12 [vr 9, vn, vr 4, vi (x3 + 1)] [] N3 rv M2) : Rm E 42 12 [vr 9, vn, vr 4, vi x3] [] M rv M2 := by
  refine R_S q42 3 (pc2 := 17) (ls2 := [vr 9, vn, vr 4, vi x3]) (st2 := [.int (M.1 9 0), .int x3]) rfl ?_
  refine R_icf q42 rfl (decide_eq_false h0) ?_
  show Rm E 42 20 [vr 9, vn, vr 4, vi x3] [] M _ _
  refine R_S q42 5 (pc2 := 27) (ls2 := [vr 9, vn, vr 4, vi x3]) (st2 := [.int x3, .ref 4, .int x3, .ref 10]) rfl ?_
  refine R_ial q42 rfl rfl h1 ?_
  show Rm E 42 28 [vr 9, vn, vr 4, vi x3] [.int (M.1 4 x3.toNatClampNeg), .int x3, .ref 10] M _ _
  refine R_ias q42 rfl rfl h2 eN1 ?_
  show Rm E 42 29 [vr 9, vn, vr 4, vi x3] [] N1 _ _
  refine R_S q42 4 (pc2 := 35) (ls2 := [vr 9, vn, vr 4, vi x3]) (st2 := [.int 1, .int x3, .ref 12]) rfl ?_
  refine R_ias q42 rfl rfl h3 eN2 ?_
  show Rm E 42 36 [vr 9, vn, vr 4, vi x3] [] N2 _ _
  refine R_S q42 4 (pc2 := 43) (ls2 := [vr 9, vn, vr 4, vi x3]) (st2 := [.int (-4), .int x3, .ref 11]) rfl ?_
  refine R_ias q42 rfl rfl h4 eN3 ?_
  show Rm E 42 44 [vr 9, vn, vr 4, vi x3] [] N3 _ _
  refine R_S q42 2 (pc2 := 12) (ls2 := [vr 9, vn, vr 4, vi (x3 + 1)]) (st2 := []) rfl ?_
  exact k
-- 58+
theorem b42_57_0 {E : env} {M : mem} {rv : Option Value} {M2 : mem} {x3 : Int32}  (h0 : x3 ≤ 0) (k : Rm E 42 89 [vr 9, vn, vn, vi 1] [] M rv M2) : Rm E 42 57 [vr 9, vn, vn, vi x3] [] M rv M2 := by
  refine R_S q42 1 (pc2 := 58) (ls2 := [vr 9, vn, vn, vi x3]) (st2 := [.int x3]) rfl ?_
  refine R_ift q42 rfl (decide_eq_true h0) ?_
  show Rm E 42 87 [vr 9, vn, vn, vi x3] [] M _ _
  refine R_S q42 2 (pc2 := 89) (ls2 := [vr 9, vn, vn, vi 1]) (st2 := []) rfl ?_
  exact k
-- 58-
theorem b42_57_1 {E : env} {M : mem} {rv : Option Value} {M2 : mem} {x3 : Int32} {N1 : mem} (h0 : ¬ (x3 ≤ 0)) (h1 : inR x3 30) (h2 : inR (M.1 10 x3.toNatClampNeg) 30) (h3 : inR x3 30) (h4 : inR (M.1 10 x3.toNatClampNeg) 30) (eN1 : N1 = upM M 12 ((M.1 10 x3.toNatClampNeg).toNatClampNeg) (M.1 12 (M.1 10 x3.toNatClampNeg).toNatClampNeg + M.1 12 x3.toNatClampNeg)) (k : Rm E 42 57 [vr 9, vn, vn, vi (x3 + (-1))] [] N1 rv M2) : Rm E 42 57 [vr 9, vn, vn, vi x3] [] M rv M2 := by
  refine R_S q42 1 (pc2 := 58) (ls2 := [vr 9, vn, vn, vi x3]) (st2 := [.int x3]) rfl ?_
  refine R_iff q42 rfl (decide_eq_false h0) ?_
  show Rm E 42 61 [vr 9, vn, vn, vi x3] [] M _ _
  refine R_S q42 5 (pc2 := 70) (ls2 := [vr 9, vn, vn, vi x3]) (st2 := [.int x3, .ref 10, .ref 12]) rfl ?_
  refine R_ial q42 rfl rfl h1 ?_
  show Rm E 42 71 [vr 9, vn, vn, vi x3] [.int (M.1 10 x3.toNatClampNeg), .ref 12] M _ _
  refine R_S q42 1 (pc2 := 72) (ls2 := [vr 9, vn, vn, vi x3]) (st2 := [.int (M.1 10 x3.toNatClampNeg), .ref 12, .int (M.1 10 x3.toNatClampNeg), .ref 12]) rfl ?_
  refine R_ial q42 rfl rfl h2 ?_
  show Rm E 42 73 [vr 9, vn, vn, vi x3] [.int (M.1 12 (M.1 10 x3.toNatClampNeg).toNatClampNeg), .int (M.1 10 x3.toNatClampNeg), .ref 12] M _ _
  refine R_S q42 3 (pc2 := 78) (ls2 := [vr 9, vn, vn, vi x3]) (st2 := [.int x3, .ref 12, .int (M.1 12 (M.1 10 x3.toNatClampNeg).toNatClampNeg), .int (M.1 10 x3.toNatClampNeg), .ref 12]) rfl ?_
  refine R_ial q42 rfl rfl h3 ?_
  show Rm E 42 79 [vr 9, vn, vn, vi x3] [.int (M.1 12 x3.toNatClampNeg), .int (M.1 12 (M.1 10 x3.toNatClampNeg).toNatClampNeg), .int (M.1 10 x3.toNatClampNeg), .ref 12] M _ _
  refine R_S q42 1 (pc2 := 80) (ls2 := [vr 9, vn, vn, vi x3]) (st2 := [.int (M.1 12 (M.1 10 x3.toNatClampNeg).toNatClampNeg + M.1 12 x3.toNatClampNeg), .int (M.1 10 x3.toNatClampNeg), .ref 12]) rfl ?_
  refine R_ias q42 rfl rfl h4 eN1 ?_
  show Rm E 42 81 [vr 9, vn, vn, vi x3] [] N1 _ _
  refine R_S q42 2 (pc2 := 57) (ls2 := [vr 9, vn, vn, vi (x3 + (-1))]) (st2 := []) rfl ?_
  exact k
-- 94+ call X7_putAt
theorem b42_89_0 {E : env} {M : mem} {rv : Option Value} {M2 : mem} {x3 : Int32} {N1 : mem} {N2 : mem} {N3 : mem} {N4 : mem} (h0 : M.1 9 0 ≤ x3) (eN1 : N1 = upM M 9 1 1) (eN2 : N2 = upM N1 16 0 0) (eN3 : N3 = upM N2 15 0 0) (h1 : Rm E 45 0 [vr 9, vi 0, vi 0] [] N3 none N4) (k : Rm E 42 141 [vr 9, vn, vn, vi 1] [] N4 rv M2) : Rm E 42 89 [vr 9, vn, vn, vi x3] [] M rv M2 := by
  refine R_S q42 3 (pc2 := 94) (ls2 := [vr 9, vn, vn, vi x3]) (st2 := [.int (M.1 9 0), .int x3]) rfl ?_
  refine R_ict q42 rfl (decide_eq_true h0) ?_
  show Rm E 42 114 [vr 9, vn, vn, vi x3] [] M _ _
  refine R_S q42 2 (pc2 := 116) (ls2 := [vr 9, vn, vn, vi x3]) (st2 := [.int 1, .ref 9]) rfl ?_
  refine R_pf q42 rfl rfl rfl rfl rfl eN1 ?_
  show Rm E 42 119 [vr 9, vn, vn, vi x3] [] N1 _ _
  refine R_S q42 4 (pc2 := 125) (ls2 := [vr 9, vn, vn, vi x3]) (st2 := [.int 0, .int 0, .ref 16]) rfl ?_
  refine R_ias q42 rfl rfl (show inB _ _ = true from rfl) eN2 ?_
  show Rm E 42 126 [vr 9, vn, vn, vi x3] [] N2 _ _
  refine R_S q42 4 (pc2 := 132) (ls2 := [vr 9, vn, vn, vi x3]) (st2 := [.int 0, .int 0, .ref 15]) rfl ?_
  refine R_ias q42 rfl rfl (show inB _ _ = true from rfl) eN3 ?_
  show Rm E 42 133 [vr 9, vn, vn, vi x3] [] N3 _ _
  refine R_S q42 3 (pc2 := 136) (ls2 := [vr 9, vn, vn, vi x3]) (st2 := [.int 0, .int 0, .ref 9]) rfl ?_
  refine R_call q42 rfl rfl rfl rfl rfl rfl h1 ?_
  show Rm E 42 139 [vr 9, vn, vn, vi x3] [] N4 _ _
  refine R_S q42 2 (pc2 := 141) (ls2 := [vr 9, vn, vn, vi 1]) (st2 := []) rfl ?_
  exact k
-- 94- call X7_chooseHeavy
theorem b42_89_1 {E : env} {M : mem} {rv : Option Value} {M2 : mem} {x3 : Int32} {N1 : mem} (h0 : ¬ (M.1 9 0 ≤ x3)) (h1 : inR x3 30) (h2 : Rm E 43 0 [vr 9, vi (M.1 10 x3.toNatClampNeg), vi x3] [] M none N1) (k : Rm E 42 89 [vr 9, vn, vn, vi (x3 + 1)] [] N1 rv M2) : Rm E 42 89 [vr 9, vn, vn, vi x3] [] M rv M2 := by
  refine R_S q42 3 (pc2 := 94) (ls2 := [vr 9, vn, vn, vi x3]) (st2 := [.int (M.1 9 0), .int x3]) rfl ?_
  refine R_icf q42 rfl (decide_eq_false h0) ?_
  show Rm E 42 97 [vr 9, vn, vn, vi x3] [] M _ _
  refine R_S q42 4 (pc2 := 103) (ls2 := [vr 9, vn, vn, vi x3]) (st2 := [.int x3, .ref 10, .ref 9]) rfl ?_
  refine R_ial q42 rfl rfl h1 ?_
  show Rm E 42 104 [vr 9, vn, vn, vi x3] [.int (M.1 10 x3.toNatClampNeg), .ref 9] M _ _
  refine R_S q42 1 (pc2 := 105) (ls2 := [vr 9, vn, vn, vi x3]) (st2 := [.int x3, .int (M.1 10 x3.toNatClampNeg), .ref 9]) rfl ?_
  refine R_call q42 rfl rfl rfl rfl rfl rfl h2 ?_
  show Rm E 42 108 [vr 9, vn, vn, vi x3] [] N1 _ _
  refine R_S q42 2 (pc2 := 89) (ls2 := [vr 9, vn, vn, vi (x3 + 1)]) (st2 := []) rfl ?_
  exact k
-- 146+
theorem b42_141_0 {E : env} {M : mem} {x3 : Int32}  (h0 : M.1 9 0 ≤ x3) : Rm E 42 141 [vr 9, vn, vn, vi x3] [] M none M := by
  refine R_S q42 3 (pc2 := 146) (ls2 := [vr 9, vn, vn, vi x3]) (st2 := [.int (M.1 9 0), .int x3]) rfl ?_
  refine R_ict q42 rfl (decide_eq_true h0) ?_
  show Rm E 42 160 [vr 9, vn, vn, vi x3] [] M _ _
  exact R_ret rfl q42 rfl rfl rfl rfl rfl
-- 146- call X7_placeLower
theorem b42_141_1 {E : env} {M : mem} {rv : Option Value} {M2 : mem} {x3 : Int32} {N1 : mem} (h0 : ¬ (M.1 9 0 ≤ x3)) (h1 : Rm E 44 0 [vr 9, vi x3, vn] [] M none N1) (k : Rm E 42 141 [vr 9, vn, vn, vi (x3 + 1)] [] N1 rv M2) : Rm E 42 141 [vr 9, vn, vn, vi x3] [] M rv M2 := by
  refine R_S q42 3 (pc2 := 146) (ls2 := [vr 9, vn, vn, vi x3]) (st2 := [.int (M.1 9 0), .int x3]) rfl ?_
  refine R_icf q42 rfl (decide_eq_false h0) ?_
  show Rm E 42 149 [vr 9, vn, vn, vi x3] [] M _ _
  refine R_S q42 2 (pc2 := 151) (ls2 := [vr 9, vn, vn, vi x3]) (st2 := [.int x3, .ref 9]) rfl ?_
  refine R_call q42 rfl rfl rfl rfl rfl rfl h1 ?_
  show Rm E 42 154 [vr 9, vn, vn, vi x3] [] N1 _ _
  refine R_S q42 2 (pc2 := 141) (ls2 := [vr 9, vn, vn, vi (x3 + 1)]) (st2 := []) rfl ?_
  exact k
-- 43 HeavyChains$Tree.chooseHeavy(II)V  cuts [0]
theorem q43 : cdOf 43 = some mt43 := rfl
-- 8+
theorem b43_0_0 {E : env} {M : mem} {x1 x2 : Int32} {N1 : mem} (h0 : inR x1 30) (h1 : M.1 11 x1.toNatClampNeg = (-4)) (h2 : inR x1 30) (eN1 : N1 = upM M 11 (x1.toNatClampNeg) x2) : Rm E 43 0 [vr 9, vi x1, vi x2] [] M none N1 := by
  refine R_S q43 3 (pc2 := 5) (ls2 := [vr 9, vi x1, vi x2]) (st2 := [.int x1, .ref 11]) rfl ?_
  refine R_ial q43 rfl rfl h0 ?_
  show Rm E 43 6 [vr 9, vi x1, vi x2] [.int (M.1 11 x1.toNatClampNeg)] M _ _
  refine R_S q43 1 (pc2 := 8) (ls2 := [vr 9, vi x1, vi x2]) (st2 := [.int (-4), .int (M.1 11 x1.toNatClampNeg)]) rfl ?_
  refine R_ict q43 rfl (decide_eq_true h1) ?_
  show Rm E 43 31 [vr 9, vi x1, vi x2] [] M _ _
  refine R_S q43 4 (pc2 := 37) (ls2 := [vr 9, vi x1, vi x2]) (st2 := [.int x2, .int x1, .ref 11]) rfl ?_
  refine R_ias q43 rfl rfl h2 eN1 ?_
  show Rm E 43 38 [vr 9, vi x1, vi x2] [] N1 _ _
  exact R_ret rfl q43 rfl rfl rfl rfl rfl
-- 8- 28+
theorem b43_0_1 {E : env} {M : mem} {x1 x2 : Int32}  (h0 : inR x1 30) (h1 : ¬ (M.1 11 x1.toNatClampNeg = (-4))) (h2 : inR x2 30) (h3 : inR x1 30) (h4 : inR (M.1 11 x1.toNatClampNeg) 30) (h5 : M.1 12 x2.toNatClampNeg ≤ M.1 12 (M.1 11 x1.toNatClampNeg).toNatClampNeg) : Rm E 43 0 [vr 9, vi x1, vi x2] [] M none M := by
  refine R_S q43 3 (pc2 := 5) (ls2 := [vr 9, vi x1, vi x2]) (st2 := [.int x1, .ref 11]) rfl ?_
  refine R_ial q43 rfl rfl h0 ?_
  show Rm E 43 6 [vr 9, vi x1, vi x2] [.int (M.1 11 x1.toNatClampNeg)] M _ _
  refine R_S q43 1 (pc2 := 8) (ls2 := [vr 9, vi x1, vi x2]) (st2 := [.int (-4), .int (M.1 11 x1.toNatClampNeg)]) rfl ?_
  refine R_icf q43 rfl (decide_eq_false h1) ?_
  show Rm E 43 11 [vr 9, vi x1, vi x2] [] M _ _
  refine R_S q43 3 (pc2 := 16) (ls2 := [vr 9, vi x1, vi x2]) (st2 := [.int x2, .ref 12]) rfl ?_
  refine R_ial q43 rfl rfl h2 ?_
  show Rm E 43 17 [vr 9, vi x1, vi x2] [.int (M.1 12 x2.toNatClampNeg)] M _ _
  refine R_S q43 5 (pc2 := 26) (ls2 := [vr 9, vi x1, vi x2]) (st2 := [.int x1, .ref 11, .ref 12, .int (M.1 12 x2.toNatClampNeg)]) rfl ?_
  refine R_ial q43 rfl rfl h3 ?_
  show Rm E 43 27 [vr 9, vi x1, vi x2] [.int (M.1 11 x1.toNatClampNeg), .ref 12, .int (M.1 12 x2.toNatClampNeg)] M _ _
  refine R_ial q43 rfl rfl h4 ?_
  show Rm E 43 28 [vr 9, vi x1, vi x2] [.int (M.1 12 (M.1 11 x1.toNatClampNeg).toNatClampNeg), .int (M.1 12 x2.toNatClampNeg)] M _ _
  refine R_ict q43 rfl (decide_eq_true h5) ?_
  show Rm E 43 38 [vr 9, vi x1, vi x2] [] M _ _
  exact R_ret rfl q43 rfl rfl rfl rfl rfl
-- 8- 28-
theorem b43_0_2 {E : env} {M : mem} {x1 x2 : Int32} {N1 : mem} (h0 : inR x1 30) (h1 : ¬ (M.1 11 x1.toNatClampNeg = (-4))) (h2 : inR x2 30) (h3 : inR x1 30) (h4 : inR (M.1 11 x1.toNatClampNeg) 30) (h5 : ¬ (M.1 12 x2.toNatClampNeg ≤ M.1 12 (M.1 11 x1.toNatClampNeg).toNatClampNeg)) (h6 : inR x1 30) (eN1 : N1 = upM M 11 (x1.toNatClampNeg) x2) : Rm E 43 0 [vr 9, vi x1, vi x2] [] M none N1 := by
  refine R_S q43 3 (pc2 := 5) (ls2 := [vr 9, vi x1, vi x2]) (st2 := [.int x1, .ref 11]) rfl ?_
  refine R_ial q43 rfl rfl h0 ?_
  show Rm E 43 6 [vr 9, vi x1, vi x2] [.int (M.1 11 x1.toNatClampNeg)] M _ _
  refine R_S q43 1 (pc2 := 8) (ls2 := [vr 9, vi x1, vi x2]) (st2 := [.int (-4), .int (M.1 11 x1.toNatClampNeg)]) rfl ?_
  refine R_icf q43 rfl (decide_eq_false h1) ?_
  show Rm E 43 11 [vr 9, vi x1, vi x2] [] M _ _
  refine R_S q43 3 (pc2 := 16) (ls2 := [vr 9, vi x1, vi x2]) (st2 := [.int x2, .ref 12]) rfl ?_
  refine R_ial q43 rfl rfl h2 ?_
  show Rm E 43 17 [vr 9, vi x1, vi x2] [.int (M.1 12 x2.toNatClampNeg)] M _ _
  refine R_S q43 5 (pc2 := 26) (ls2 := [vr 9, vi x1, vi x2]) (st2 := [.int x1, .ref 11, .ref 12, .int (M.1 12 x2.toNatClampNeg)]) rfl ?_
  refine R_ial q43 rfl rfl h3 ?_
  show Rm E 43 27 [vr 9, vi x1, vi x2] [.int (M.1 11 x1.toNatClampNeg), .ref 12, .int (M.1 12 x2.toNatClampNeg)] M _ _
  refine R_ial q43 rfl rfl h4 ?_
  show Rm E 43 28 [vr 9, vi x1, vi x2] [.int (M.1 12 (M.1 11 x1.toNatClampNeg).toNatClampNeg), .int (M.1 12 x2.toNatClampNeg)] M _ _
  refine R_icf q43 rfl (decide_eq_false h5) ?_
  show Rm E 43 31 [vr 9, vi x1, vi x2] [] M _ _
  refine R_S q43 4 (pc2 := 37) (ls2 := [vr 9, vi x1, vi x2]) (st2 := [.int x2, .int x1, .ref 11]) rfl ?_
  refine R_ias q43 rfl rfl h6 eN1 ?_
  show Rm E 43 38 [vr 9, vi x1, vi x2] [] N1 _ _
  exact R_ret rfl q43 rfl rfl rfl rfl rfl
-- 44 HeavyChains$Tree.placeLower(I)V  cuts [0]
theorem q44 : cdOf 44 = some mt44 := rfl
-- 28+ call X7_putAt
theorem b44_0_0 {E : env} {M : mem} {x1 : Int32} {N1 : mem} {N2 : mem} {N3 : mem} {N4 : mem} {N5 : mem} (h0 : inR x1 30) (h1 : inR (M.1 10 x1.toNatClampNeg) 30) (h2 : inR x1 30) (eN1 : N1 = upM M 16 (x1.toNatClampNeg) (M.1 16 (M.1 10 x1.toNatClampNeg).toNatClampNeg + 1)) (h3 : inR (M.1 10 x1.toNatClampNeg) 30) (h4 : ¬ N1.1 11 (M.1 10 x1.toNatClampNeg).toNatClampNeg = x1) (h5 : inR x1 30) (eN2 : N2 = upM N1 15 (x1.toNatClampNeg) x1) (eN3 : N3 = upM N2 9 1 (N2.1 9 1 + 1)) (h6 : inR (M.1 10 x1.toNatClampNeg) 30) (h7 : Rm E 45 0 [vr 9, vi x1, vi (N3.1 17 (M.1 10 x1.toNatClampNeg).toNatClampNeg)] [] N3 none N4) (h8 : inR (M.1 10 x1.toNatClampNeg) 30) (h9 : inR x1 30) (h10 : inR (M.1 10 x1.toNatClampNeg) 30) (eN5 : N5 = upM N4 17 ((M.1 10 x1.toNatClampNeg).toNatClampNeg) (N4.1 17 (M.1 10 x1.toNatClampNeg).toNatClampNeg + N4.1 12 x1.toNatClampNeg)) : Rm E 44 0 [vr 9, vi x1, vn] [] M none N5 := by
  refine R_S q44 3 (pc2 := 5) (ls2 := [vr 9, vi x1, vn]) (st2 := [.int x1, .ref 10]) rfl ?_
  refine R_ial q44 rfl rfl h0 ?_
  show Rm E 44 6 [vr 9, vi x1, vn] [.int (M.1 10 x1.toNatClampNeg)] M _ _
  refine R_S q44 7 (pc2 := 17) (ls2 := [vr 9, vi x1, vi (M.1 10 x1.toNatClampNeg)]) (st2 := [.int (M.1 10 x1.toNatClampNeg), .ref 16, .int x1, .ref 16]) rfl ?_
  refine R_ial q44 rfl rfl h1 ?_
  show Rm E 44 18 [vr 9, vi x1, vi (M.1 10 x1.toNatClampNeg)] [.int (M.1 16 (M.1 10 x1.toNatClampNeg).toNatClampNeg), .int x1, .ref 16] M _ _
  refine R_S q44 2 (pc2 := 20) (ls2 := [vr 9, vi x1, vi (M.1 10 x1.toNatClampNeg)]) (st2 := [.int (M.1 16 (M.1 10 x1.toNatClampNeg).toNatClampNeg + 1), .int x1, .ref 16]) rfl ?_
  refine R_ias q44 rfl rfl h2 eN1 ?_
  show Rm E 44 21 [vr 9, vi x1, vi (M.1 10 x1.toNatClampNeg)] [] N1 _ _
  refine R_S q44 3 (pc2 := 26) (ls2 := [vr 9, vi x1, vi (M.1 10 x1.toNatClampNeg)]) (st2 := [.int (M.1 10 x1.toNatClampNeg), .ref 11]) rfl ?_
  refine R_ial q44 rfl rfl h3 ?_
  show Rm E 44 27 [vr 9, vi x1, vi (M.1 10 x1.toNatClampNeg)] [.int (N1.1 11 (M.1 10 x1.toNatClampNeg).toNatClampNeg)] N1 _ _
  refine R_S q44 1 (pc2 := 28) (ls2 := [vr 9, vi x1, vi (M.1 10 x1.toNatClampNeg)]) (st2 := [.int x1, .int (N1.1 11 (M.1 10 x1.toNatClampNeg).toNatClampNeg)]) rfl ?_
  refine R_ict q44 rfl (decide_eq_true h4) ?_
  show Rm E 44 59 [vr 9, vi x1, vi (M.1 10 x1.toNatClampNeg)] [] N1 _ _
  refine R_S q44 4 (pc2 := 65) (ls2 := [vr 9, vi x1, vi (M.1 10 x1.toNatClampNeg)]) (st2 := [.int x1, .int x1, .ref 15]) rfl ?_
  refine R_ias q44 rfl rfl h5 eN2 ?_
  show Rm E 44 66 [vr 9, vi x1, vi (M.1 10 x1.toNatClampNeg)] [] N2 _ _
  refine R_S q44 5 (pc2 := 73) (ls2 := [vr 9, vi x1, vi (M.1 10 x1.toNatClampNeg)]) (st2 := [.int (N2.1 9 1 + 1), .ref 9]) rfl ?_
  refine R_pf q44 rfl rfl rfl rfl rfl eN3 ?_
  show Rm E 44 76 [vr 9, vi x1, vi (M.1 10 x1.toNatClampNeg)] [] N3 _ _
  refine R_S q44 5 (pc2 := 83) (ls2 := [vr 9, vi x1, vi (M.1 10 x1.toNatClampNeg)]) (st2 := [.int (M.1 10 x1.toNatClampNeg), .ref 17, .int x1, .ref 9]) rfl ?_
  refine R_ial q44 rfl rfl h6 ?_
  show Rm E 44 84 [vr 9, vi x1, vi (M.1 10 x1.toNatClampNeg)] [.int (N3.1 17 (M.1 10 x1.toNatClampNeg).toNatClampNeg), .int x1, .ref 9] N3 _ _
  refine R_call q44 rfl rfl rfl rfl rfl rfl h7 ?_
  show Rm E 44 87 [vr 9, vi x1, vi (M.1 10 x1.toNatClampNeg)] [] N4 _ _
  refine R_S q44 4 (pc2 := 93) (ls2 := [vr 9, vi x1, vi (M.1 10 x1.toNatClampNeg)]) (st2 := [.int (M.1 10 x1.toNatClampNeg), .ref 17, .int (M.1 10 x1.toNatClampNeg), .ref 17]) rfl ?_
  refine R_ial q44 rfl rfl h8 ?_
  show Rm E 44 94 [vr 9, vi x1, vi (M.1 10 x1.toNatClampNeg)] [.int (N4.1 17 (M.1 10 x1.toNatClampNeg).toNatClampNeg), .int (M.1 10 x1.toNatClampNeg), .ref 17] N4 _ _
  refine R_S q44 3 (pc2 := 99) (ls2 := [vr 9, vi x1, vi (M.1 10 x1.toNatClampNeg)]) (st2 := [.int x1, .ref 12, .int (N4.1 17 (M.1 10 x1.toNatClampNeg).toNatClampNeg), .int (M.1 10 x1.toNatClampNeg), .ref 17]) rfl ?_
  refine R_ial q44 rfl rfl h9 ?_
  show Rm E 44 100 [vr 9, vi x1, vi (M.1 10 x1.toNatClampNeg)] [.int (N4.1 12 x1.toNatClampNeg), .int (N4.1 17 (M.1 10 x1.toNatClampNeg).toNatClampNeg), .int (M.1 10 x1.toNatClampNeg), .ref 17] N4 _ _
  refine R_S q44 1 (pc2 := 101) (ls2 := [vr 9, vi x1, vi (M.1 10 x1.toNatClampNeg)]) (st2 := [.int (N4.1 17 (M.1 10 x1.toNatClampNeg).toNatClampNeg + N4.1 12 x1.toNatClampNeg), .int (M.1 10 x1.toNatClampNeg), .ref 17]) rfl ?_
  refine R_ias q44 rfl rfl h10 eN5 ?_
  show Rm E 44 102 [vr 9, vi x1, vi (M.1 10 x1.toNatClampNeg)] [] N5 _ _
  exact R_ret rfl q44 rfl rfl rfl rfl rfl
-- 28- call X7_putAt
theorem b44_0_1 {E : env} {M : mem} {x1 : Int32} {N1 : mem} {N2 : mem} {N3 : mem} (h0 : inR x1 30) (h1 : inR (M.1 10 x1.toNatClampNeg) 30) (h2 : inR x1 30) (eN1 : N1 = upM M 16 (x1.toNatClampNeg) (M.1 16 (M.1 10 x1.toNatClampNeg).toNatClampNeg + 1)) (h3 : inR (M.1 10 x1.toNatClampNeg) 30) (h4 : ¬ (¬ N1.1 11 (M.1 10 x1.toNatClampNeg).toNatClampNeg = x1)) (h5 : inR (M.1 10 x1.toNatClampNeg) 30) (h6 : inR x1 30) (eN2 : N2 = upM N1 15 (x1.toNatClampNeg) (N1.1 15 (M.1 10 x1.toNatClampNeg).toNatClampNeg)) (h7 : inR (M.1 10 x1.toNatClampNeg) 30) (h8 : Rm E 45 0 [vr 9, vi x1, vi (N2.1 13 (M.1 10 x1.toNatClampNeg).toNatClampNeg + 1)] [] N2 none N3) : Rm E 44 0 [vr 9, vi x1, vn] [] M none N3 := by
  refine R_S q44 3 (pc2 := 5) (ls2 := [vr 9, vi x1, vn]) (st2 := [.int x1, .ref 10]) rfl ?_
  refine R_ial q44 rfl rfl h0 ?_
  show Rm E 44 6 [vr 9, vi x1, vn] [.int (M.1 10 x1.toNatClampNeg)] M _ _
  refine R_S q44 7 (pc2 := 17) (ls2 := [vr 9, vi x1, vi (M.1 10 x1.toNatClampNeg)]) (st2 := [.int (M.1 10 x1.toNatClampNeg), .ref 16, .int x1, .ref 16]) rfl ?_
  refine R_ial q44 rfl rfl h1 ?_
  show Rm E 44 18 [vr 9, vi x1, vi (M.1 10 x1.toNatClampNeg)] [.int (M.1 16 (M.1 10 x1.toNatClampNeg).toNatClampNeg), .int x1, .ref 16] M _ _
  refine R_S q44 2 (pc2 := 20) (ls2 := [vr 9, vi x1, vi (M.1 10 x1.toNatClampNeg)]) (st2 := [.int (M.1 16 (M.1 10 x1.toNatClampNeg).toNatClampNeg + 1), .int x1, .ref 16]) rfl ?_
  refine R_ias q44 rfl rfl h2 eN1 ?_
  show Rm E 44 21 [vr 9, vi x1, vi (M.1 10 x1.toNatClampNeg)] [] N1 _ _
  refine R_S q44 3 (pc2 := 26) (ls2 := [vr 9, vi x1, vi (M.1 10 x1.toNatClampNeg)]) (st2 := [.int (M.1 10 x1.toNatClampNeg), .ref 11]) rfl ?_
  refine R_ial q44 rfl rfl h3 ?_
  show Rm E 44 27 [vr 9, vi x1, vi (M.1 10 x1.toNatClampNeg)] [.int (N1.1 11 (M.1 10 x1.toNatClampNeg).toNatClampNeg)] N1 _ _
  refine R_S q44 1 (pc2 := 28) (ls2 := [vr 9, vi x1, vi (M.1 10 x1.toNatClampNeg)]) (st2 := [.int x1, .int (N1.1 11 (M.1 10 x1.toNatClampNeg).toNatClampNeg)]) rfl ?_
  refine R_icf q44 rfl (decide_eq_false h4) ?_
  show Rm E 44 31 [vr 9, vi x1, vi (M.1 10 x1.toNatClampNeg)] [] N1 _ _
  refine R_S q44 6 (pc2 := 41) (ls2 := [vr 9, vi x1, vi (M.1 10 x1.toNatClampNeg)]) (st2 := [.int (M.1 10 x1.toNatClampNeg), .ref 15, .int x1, .ref 15]) rfl ?_
  refine R_ial q44 rfl rfl h5 ?_
  show Rm E 44 42 [vr 9, vi x1, vi (M.1 10 x1.toNatClampNeg)] [.int (N1.1 15 (M.1 10 x1.toNatClampNeg).toNatClampNeg), .int x1, .ref 15] N1 _ _
  refine R_ias q44 rfl rfl h6 eN2 ?_
  show Rm E 44 43 [vr 9, vi x1, vi (M.1 10 x1.toNatClampNeg)] [] N2 _ _
  refine R_S q44 5 (pc2 := 50) (ls2 := [vr 9, vi x1, vi (M.1 10 x1.toNatClampNeg)]) (st2 := [.int (M.1 10 x1.toNatClampNeg), .ref 13, .int x1, .ref 9]) rfl ?_
  refine R_ial q44 rfl rfl h7 ?_
  show Rm E 44 51 [vr 9, vi x1, vi (M.1 10 x1.toNatClampNeg)] [.int (N2.1 13 (M.1 10 x1.toNatClampNeg).toNatClampNeg), .int x1, .ref 9] N2 _ _
  refine R_S q44 2 (pc2 := 53) (ls2 := [vr 9, vi x1, vi (M.1 10 x1.toNatClampNeg)]) (st2 := [.int (N2.1 13 (M.1 10 x1.toNatClampNeg).toNatClampNeg + 1), .int x1, .ref 9]) rfl ?_
  refine R_call q44 rfl rfl rfl rfl rfl rfl h8 ?_
  show Rm E 44 56 [vr 9, vi x1, vi (M.1 10 x1.toNatClampNeg)] [] N3 _ _
  refine R_S q44 1 (pc2 := 102) (ls2 := [vr 9, vi x1, vi (M.1 10 x1.toNatClampNeg)]) (st2 := []) rfl ?_
  exact R_ret rfl q44 rfl rfl rfl rfl rfl
-- 45 HeavyChains$Tree.putAt(II)V  cuts [0]
theorem q45 : cdOf 45 = some mt45 := rfl
-- 30+
theorem b45_0_0 {E : env} {M : mem} {x1 x2 : Int32} {N1 : mem} {N2 : mem} {N3 : mem} (h0 : inR x1 30) (eN1 : N1 = upM M 13 (x1.toNatClampNeg) x2) (h1 : inR x2 30) (eN2 : N2 = upM N1 14 (x2.toNatClampNeg) x1) (h2 : inR x1 30) (h3 : ¬ N2.1 11 x1.toNatClampNeg = (-4)) (h4 : inR x1 30) (h5 : inR (N2.1 11 x1.toNatClampNeg) 30) (h6 : inR x1 30) (eN3 : N3 = upM N2 17 (x1.toNatClampNeg) ((x2 + 1) + N2.1 12 (N2.1 11 x1.toNatClampNeg).toNatClampNeg)) : Rm E 45 0 [vr 9, vi x1, vi x2] [] M none N3 := by
  refine R_S q45 4 (pc2 := 6) (ls2 := [vr 9, vi x1, vi x2]) (st2 := [.int x2, .int x1, .ref 13]) rfl ?_
  refine R_ias q45 rfl rfl h0 eN1 ?_
  show Rm E 45 7 [vr 9, vi x1, vi x2] [] N1 _ _
  refine R_S q45 4 (pc2 := 13) (ls2 := [vr 9, vi x1, vi x2]) (st2 := [.int x1, .int x2, .ref 14]) rfl ?_
  refine R_ias q45 rfl rfl h1 eN2 ?_
  show Rm E 45 14 [vr 9, vi x1, vi x2] [] N2 _ _
  refine R_S q45 9 (pc2 := 27) (ls2 := [vr 9, vi x1, vi x2]) (st2 := [.int x1, .ref 11, .int (x2 + 1), .int x1, .ref 17]) rfl ?_
  refine R_ial q45 rfl rfl h2 ?_
  show Rm E 45 28 [vr 9, vi x1, vi x2] [.int (N2.1 11 x1.toNatClampNeg), .int (x2 + 1), .int x1, .ref 17] N2 _ _
  refine R_S q45 1 (pc2 := 30) (ls2 := [vr 9, vi x1, vi x2]) (st2 := [.int (-4), .int (N2.1 11 x1.toNatClampNeg), .int (x2 + 1), .int x1, .ref 17]) rfl ?_
  refine R_ict q45 rfl (decide_eq_true h3) ?_
  show Rm E 45 37 [vr 9, vi x1, vi x2] [.int (x2 + 1), .int x1, .ref 17] N2 _ _
  refine R_S q45 5 (pc2 := 46) (ls2 := [vr 9, vi x1, vi x2]) (st2 := [.int x1, .ref 11, .ref 12, .int (x2 + 1), .int x1, .ref 17]) rfl ?_
  refine R_ial q45 rfl rfl h4 ?_
  show Rm E 45 47 [vr 9, vi x1, vi x2] [.int (N2.1 11 x1.toNatClampNeg), .ref 12, .int (x2 + 1), .int x1, .ref 17] N2 _ _
  refine R_ial q45 rfl rfl h5 ?_
  show Rm E 45 48 [vr 9, vi x1, vi x2] [.int (N2.1 12 (N2.1 11 x1.toNatClampNeg).toNatClampNeg), .int (x2 + 1), .int x1, .ref 17] N2 _ _
  refine R_S q45 1 (pc2 := 49) (ls2 := [vr 9, vi x1, vi x2]) (st2 := [.int ((x2 + 1) + N2.1 12 (N2.1 11 x1.toNatClampNeg).toNatClampNeg), .int x1, .ref 17]) rfl ?_
  refine R_ias q45 rfl rfl h6 eN3 ?_
  show Rm E 45 50 [vr 9, vi x1, vi x2] [] N3 _ _
  exact R_ret rfl q45 rfl rfl rfl rfl rfl
-- 30-
theorem b45_0_1 {E : env} {M : mem} {x1 x2 : Int32} {N1 : mem} {N2 : mem} {N3 : mem} (h0 : inR x1 30) (eN1 : N1 = upM M 13 (x1.toNatClampNeg) x2) (h1 : inR x2 30) (eN2 : N2 = upM N1 14 (x2.toNatClampNeg) x1) (h2 : inR x1 30) (h3 : ¬ (¬ N2.1 11 x1.toNatClampNeg = (-4))) (h4 : inR x1 30) (eN3 : N3 = upM N2 17 (x1.toNatClampNeg) ((x2 + 1) + 0)) : Rm E 45 0 [vr 9, vi x1, vi x2] [] M none N3 := by
  refine R_S q45 4 (pc2 := 6) (ls2 := [vr 9, vi x1, vi x2]) (st2 := [.int x2, .int x1, .ref 13]) rfl ?_
  refine R_ias q45 rfl rfl h0 eN1 ?_
  show Rm E 45 7 [vr 9, vi x1, vi x2] [] N1 _ _
  refine R_S q45 4 (pc2 := 13) (ls2 := [vr 9, vi x1, vi x2]) (st2 := [.int x1, .int x2, .ref 14]) rfl ?_
  refine R_ias q45 rfl rfl h1 eN2 ?_
  show Rm E 45 14 [vr 9, vi x1, vi x2] [] N2 _ _
  refine R_S q45 9 (pc2 := 27) (ls2 := [vr 9, vi x1, vi x2]) (st2 := [.int x1, .ref 11, .int (x2 + 1), .int x1, .ref 17]) rfl ?_
  refine R_ial q45 rfl rfl h2 ?_
  show Rm E 45 28 [vr 9, vi x1, vi x2] [.int (N2.1 11 x1.toNatClampNeg), .int (x2 + 1), .int x1, .ref 17] N2 _ _
  refine R_S q45 1 (pc2 := 30) (ls2 := [vr 9, vi x1, vi x2]) (st2 := [.int (-4), .int (N2.1 11 x1.toNatClampNeg), .int (x2 + 1), .int x1, .ref 17]) rfl ?_
  refine R_icf q45 rfl (decide_eq_false h3) ?_
  show Rm E 45 33 [vr 9, vi x1, vi x2] [.int (x2 + 1), .int x1, .ref 17] N2 _ _
  refine R_S q45 3 (pc2 := 49) (ls2 := [vr 9, vi x1, vi x2]) (st2 := [.int ((x2 + 1) + 0), .int x1, .ref 17]) rfl ?_
  refine R_ias q45 rfl rfl h4 eN3 ?_
  show Rm E 45 50 [vr 9, vi x1, vi x2] [] N3 _ _
  exact R_ret rfl q45 rfl rfl rfl rfl rfl
-- 46 HeavyChains$Tree.meeting(II)I  cuts [0, 8]
theorem q46 : cdOf 46 = some mt46 := rfl
-- 
theorem b46_0_0 {E : env} {M : mem} {rv : Option Value} {M2 : mem} {x1 x2 : Int32}  (k : Rm E 46 8 [vr 9, vn, vn, vi x1, vi x2, vi 0] [] M rv M2) : Rm E 46 0 [vr 9, vi x1, vi x2, vn, vn, vn] [] M rv M2 := by
  refine R_S q46 6 (pc2 := 8) (ls2 := [vr 9, vi x1, vi x2, vi x1, vi x2, vi 0]) (st2 := []) rfl ?_
  exact R_w (ls := [vr 9, vn, vn, vi x1, vi x2, vi 0]) (show lsle _ _ from ⟨rfl, ⟨rfl, ⟨rfl, ⟨rfl, trivial⟩⟩⟩⟩) k
-- 12+
theorem b46_8_0 {E : env} {M : mem} {x3 x4 x5 : Int32}  (h0 : 60 ≤ x5) : Rm E 46 8 [vr 9, vn, vn, vi x3, vi x4, vi x5] [] M (some (.int x3)) M := by
  refine R_S q46 2 (pc2 := 12) (ls2 := [vr 9, vn, vn, vi x3, vi x4, vi x5]) (st2 := [.int 60, .int x5]) rfl ?_
  refine R_ict q46 rfl (decide_eq_true h0) ?_
  show Rm E 46 52 [vr 9, vn, vn, vi x3, vi x4, vi x5] [] M _ _
  refine R_S q46 1 (pc2 := 53) (ls2 := [vr 9, vn, vn, vi x3, vi x4, vi x5]) (st2 := [.int x3]) rfl ?_
  exact R_ret rfl q46 rfl rfl rfl rfl (stpR_i rfl rfl)
-- 12- 18+
theorem b46_8_1 {E : env} {M : mem} {x3 x4 x5 : Int32}  (h0 : ¬ (60 ≤ x5)) (h1 : x3 = x4) : Rm E 46 8 [vr 9, vn, vn, vi x3, vi x4, vi x5] [] M (some (.int x3)) M := by
  refine R_S q46 2 (pc2 := 12) (ls2 := [vr 9, vn, vn, vi x3, vi x4, vi x5]) (st2 := [.int 60, .int x5]) rfl ?_
  refine R_icf q46 rfl (decide_eq_false h0) ?_
  show Rm E 46 15 [vr 9, vn, vn, vi x3, vi x4, vi x5] [] M _ _
  refine R_S q46 2 (pc2 := 18) (ls2 := [vr 9, vn, vn, vi x3, vi x4, vi x5]) (st2 := [.int x4, .int x3]) rfl ?_
  refine R_ict q46 rfl (decide_eq_true h1) ?_
  show Rm E 46 52 [vr 9, vn, vn, vi x3, vi x4, vi x5] [] M _ _
  refine R_S q46 1 (pc2 := 53) (ls2 := [vr 9, vn, vn, vi x3, vi x4, vi x5]) (st2 := [.int x3]) rfl ?_
  exact R_ret rfl q46 rfl rfl rfl rfl (stpR_i rfl rfl)
-- 12- 18- 24+
theorem b46_8_2 {E : env} {M : mem} {rv : Option Value} {M2 : mem} {x3 x4 x5 : Int32}  (h0 : ¬ (60 ≤ x5)) (h1 : ¬ (x3 = x4)) (h2 : x3 ≤ x4) (h3 : inR x4 30) (k : Rm E 46 8 [vr 9, vn, vn, vi x3, vi (M.1 10 x4.toNatClampNeg), vi (x5 + 1)] [] M rv M2) : Rm E 46 8 [vr 9, vn, vn, vi x3, vi x4, vi x5] [] M rv M2 := by
  refine R_S q46 2 (pc2 := 12) (ls2 := [vr 9, vn, vn, vi x3, vi x4, vi x5]) (st2 := [.int 60, .int x5]) rfl ?_
  refine R_icf q46 rfl (decide_eq_false h0) ?_
  show Rm E 46 15 [vr 9, vn, vn, vi x3, vi x4, vi x5] [] M _ _
  refine R_S q46 2 (pc2 := 18) (ls2 := [vr 9, vn, vn, vi x3, vi x4, vi x5]) (st2 := [.int x4, .int x3]) rfl ?_
  refine R_icf q46 rfl (decide_eq_false h1) ?_
  show Rm E 46 21 [vr 9, vn, vn, vi x3, vi x4, vi x5] [] M _ _
  refine R_S q46 2 (pc2 := 24) (ls2 := [vr 9, vn, vn, vi x3, vi x4, vi x5]) (st2 := [.int x4, .int x3]) rfl ?_
  refine R_ict q46 rfl (decide_eq_true h2) ?_
  show Rm E 46 37 [vr 9, vn, vn, vi x3, vi x4, vi x5] [] M _ _
  refine R_S q46 3 (pc2 := 43) (ls2 := [vr 9, vn, vn, vi x3, vi x4, vi x5]) (st2 := [.int x4, .ref 10]) rfl ?_
  refine R_ial q46 rfl rfl h3 ?_
  show Rm E 46 44 [vr 9, vn, vn, vi x3, vi x4, vi x5] [.int (M.1 10 x4.toNatClampNeg)] M _ _
  refine R_S q46 3 (pc2 := 8) (ls2 := [vr 9, vn, vn, vi x3, vi (M.1 10 x4.toNatClampNeg), vi (x5 + 1)]) (st2 := []) rfl ?_
  exact k
-- 12- 18- 24-
theorem b46_8_3 {E : env} {M : mem} {rv : Option Value} {M2 : mem} {x3 x4 x5 : Int32}  (h0 : ¬ (60 ≤ x5)) (h1 : ¬ (x3 = x4)) (h2 : ¬ (x3 ≤ x4)) (h3 : inR x3 30) (k : Rm E 46 8 [vr 9, vn, vn, vi (M.1 10 x3.toNatClampNeg), vi x4, vi (x5 + 1)] [] M rv M2) : Rm E 46 8 [vr 9, vn, vn, vi x3, vi x4, vi x5] [] M rv M2 := by
  refine R_S q46 2 (pc2 := 12) (ls2 := [vr 9, vn, vn, vi x3, vi x4, vi x5]) (st2 := [.int 60, .int x5]) rfl ?_
  refine R_icf q46 rfl (decide_eq_false h0) ?_
  show Rm E 46 15 [vr 9, vn, vn, vi x3, vi x4, vi x5] [] M _ _
  refine R_S q46 2 (pc2 := 18) (ls2 := [vr 9, vn, vn, vi x3, vi x4, vi x5]) (st2 := [.int x4, .int x3]) rfl ?_
  refine R_icf q46 rfl (decide_eq_false h1) ?_
  show Rm E 46 21 [vr 9, vn, vn, vi x3, vi x4, vi x5] [] M _ _
  refine R_S q46 2 (pc2 := 24) (ls2 := [vr 9, vn, vn, vi x3, vi x4, vi x5]) (st2 := [.int x4, .int x3]) rfl ?_
  refine R_icf q46 rfl (decide_eq_false h2) ?_
  show Rm E 46 27 [vr 9, vn, vn, vi x3, vi x4, vi x5] [] M _ _
  refine R_S q46 3 (pc2 := 32) (ls2 := [vr 9, vn, vn, vi x3, vi x4, vi x5]) (st2 := [.int x3, .ref 10]) rfl ?_
  refine R_ial q46 rfl rfl h3 ?_
  show Rm E 46 33 [vr 9, vn, vn, vi x3, vi x4, vi x5] [.int (M.1 10 x3.toNatClampNeg)] M _ _
  refine R_S q46 4 (pc2 := 8) (ls2 := [vr 9, vn, vn, vi (M.1 10 x3.toNatClampNeg), vi x4, vi (x5 + 1)]) (st2 := []) rfl ?_
  exact k
-- 48 HeavyChains$Watches.clear()V  cuts [0]
theorem q48 : cdOf 48 = some mt48 := rfl
-- 
theorem b48_0_0 {E : env} {M : mem} {N1 : mem} {N2 : mem} (eN1 : N1 = upM M 78 4 0) (eN2 : N2 = upM N1 78 5 0) : Rm E 48 0 [vr 78] [] M none N2 := by
  refine R_S q48 2 (pc2 := 2) (ls2 := [vr 78]) (st2 := [.int 0, .ref 78]) rfl ?_
  refine R_pf q48 rfl rfl rfl rfl rfl eN1 ?_
  show Rm E 48 5 [vr 78] [] N1 _ _
  refine R_S q48 2 (pc2 := 7) (ls2 := [vr 78]) (st2 := [.int 0, .ref 78]) rfl ?_
  refine R_pf q48 rfl rfl rfl rfl rfl eN2 ?_
  show Rm E 48 10 [vr 78] [] N2 _ _
  exact R_ret rfl q48 rfl rfl rfl rfl rfl
-- 49 HeavyChains$Watches.open(III)I  cuts [0]
theorem q49 : cdOf 49 = some mt49 := rfl
-- 6+
theorem b49_0_0 {E : env} {M : mem} {x1 x2 x3 : Int32} {N1 : mem} {N2 : mem} {N3 : mem} {N4 : mem} {N5 : mem} {N6 : mem} (h0 : M.1 78 4 < 12) (h1 : inR (M.1 78 4) 12) (eN1 : N1 = upM M 79 ((M.1 78 4).toNatClampNeg) (M.1 78 5)) (h2 : inR (N1.1 78 4) 12) (eN2 : N2 = upM N1 80 ((N1.1 78 4).toNatClampNeg) x1) (h3 : inR (N2.1 78 4) 12) (eN3 : N3 = upM N2 81 ((N2.1 78 4).toNatClampNeg) x2) (h4 : inR (N3.1 78 4) 12) (eN4 : N4 = upM N3 82 ((N3.1 78 4).toNatClampNeg) x3) (eN5 : N5 = upM N4 78 4 (N4.1 78 4 + 1)) (eN6 : N6 = upM N5 78 5 (N5.1 78 5 + 1)) (h5 : inR (N6.1 78 4 - 1) 12) : Rm E 49 0 [vr 78, vi x1, vi x2, vi x3] [] M (some (.int (N6.1 79 (N6.1 78 4 - 1).toNatClampNeg))) N6 := by
  refine R_S q49 3 (pc2 := 6) (ls2 := [vr 78, vi x1, vi x2, vi x3]) (st2 := [.int 12, .int (M.1 78 4)]) rfl ?_
  refine R_ict q49 rfl (decide_eq_true h0) ?_
  show Rm E 49 12 [vr 78, vi x1, vi x2, vi x3] [] M _ _
  refine R_S q49 6 (pc2 := 24) (ls2 := [vr 78, vi x1, vi x2, vi x3]) (st2 := [.int (M.1 78 5), .int (M.1 78 4), .ref 79]) rfl ?_
  refine R_ias q49 rfl rfl h1 eN1 ?_
  show Rm E 49 25 [vr 78, vi x1, vi x2, vi x3] [] N1 _ _
  refine R_S q49 5 (pc2 := 34) (ls2 := [vr 78, vi x1, vi x2, vi x3]) (st2 := [.int x1, .int (N1.1 78 4), .ref 80]) rfl ?_
  refine R_ias q49 rfl rfl h2 eN2 ?_
  show Rm E 49 35 [vr 78, vi x1, vi x2, vi x3] [] N2 _ _
  refine R_S q49 5 (pc2 := 44) (ls2 := [vr 78, vi x1, vi x2, vi x3]) (st2 := [.int x2, .int (N2.1 78 4), .ref 81]) rfl ?_
  refine R_ias q49 rfl rfl h3 eN3 ?_
  show Rm E 49 45 [vr 78, vi x1, vi x2, vi x3] [] N3 _ _
  refine R_S q49 5 (pc2 := 54) (ls2 := [vr 78, vi x1, vi x2, vi x3]) (st2 := [.int x3, .int (N3.1 78 4), .ref 82]) rfl ?_
  refine R_ias q49 rfl rfl h4 eN4 ?_
  show Rm E 49 55 [vr 78, vi x1, vi x2, vi x3] [] N4 _ _
  refine R_S q49 5 (pc2 := 62) (ls2 := [vr 78, vi x1, vi x2, vi x3]) (st2 := [.int (N4.1 78 4 + 1), .ref 78]) rfl ?_
  refine R_pf q49 rfl rfl rfl rfl rfl eN5 ?_
  show Rm E 49 65 [vr 78, vi x1, vi x2, vi x3] [] N5 _ _
  refine R_S q49 5 (pc2 := 72) (ls2 := [vr 78, vi x1, vi x2, vi x3]) (st2 := [.int (N5.1 78 5 + 1), .ref 78]) rfl ?_
  refine R_pf q49 rfl rfl rfl rfl rfl eN6 ?_
  show Rm E 49 75 [vr 78, vi x1, vi x2, vi x3] [] N6 _ _
  refine R_S q49 6 (pc2 := 85) (ls2 := [vr 78, vi x1, vi x2, vi x3]) (st2 := [.int (N6.1 78 4 - 1), .ref 79]) rfl ?_
  refine R_ial q49 rfl rfl h5 ?_
  show Rm E 49 86 [vr 78, vi x1, vi x2, vi x3] [.int (N6.1 79 (N6.1 78 4 - 1).toNatClampNeg)] N6 _ _
  exact R_ret rfl q49 rfl rfl rfl rfl (stpR_i rfl rfl)
-- 6-
theorem b49_0_1 {E : env} {M : mem} {x1 x2 x3 : Int32}  (h0 : ¬ (M.1 78 4 < 12)) : Rm E 49 0 [vr 78, vi x1, vi x2, vi x3] [] M (some (.int (-3))) M := by
  refine R_S q49 3 (pc2 := 6) (ls2 := [vr 78, vi x1, vi x2, vi x3]) (st2 := [.int 12, .int (M.1 78 4)]) rfl ?_
  refine R_icf q49 rfl (decide_eq_false h0) ?_
  show Rm E 49 9 [vr 78, vi x1, vi x2, vi x3] [] M _ _
  refine R_S q49 1 (pc2 := 11) (ls2 := [vr 78, vi x1, vi x2, vi x3]) (st2 := [.int (-3)]) rfl ?_
  exact R_ret rfl q49 rfl rfl rfl rfl (stpR_i rfl rfl)
-- 50 HeavyChains$Watches.release(LHeavyChains$Tree;LHeavyChains$Route;[I)I  cuts [0, 6]
theorem q50 : cdOf 50 = some mt50 := rfl
-- 
theorem b50_0_0 {E : env} {M : mem} {rv : Option Value} {M2 : mem} {a : Nat}  (ha : skel[a]? = some (.inl (0, 30))) (k : Rm E 50 6 [vr 78, vr 9, vr 70, vr a, vi 0, vi 0] [] M rv M2) : Rm E 50 0 [vr 78, vr 9, vr 70, vr a, vn, vn] [] M rv M2 := by
  refine R_S q50 4 (pc2 := 6) (ls2 := [vr 78, vr 9, vr 70, vr a, vi 0, vi 0]) (st2 := []) rfl ?_
  exact k
-- 12+
theorem b50_6_0 {E : env} {M : mem} {x4 x5 : Int32} {a : Nat} {N1 : mem} (ha : skel[a]? = some (.inl (0, 30))) (h0 : M.1 78 4 ≤ x5) (eN1 : N1 = upM M 78 4 x4) : Rm E 50 6 [vr 78, vr 9, vr 70, vr a, vi x4, vi x5] [] M (some (.int (M.1 78 4 - x4))) N1 := by
  refine R_S q50 3 (pc2 := 12) (ls2 := [vr 78, vr 9, vr 70, vr a, vi x4, vi x5]) (st2 := [.int (M.1 78 4), .int x5]) rfl ?_
  refine R_ict q50 rfl (decide_eq_true h0) ?_
  show Rm E 50 66 [vr 78, vr 9, vr 70, vr a, vi x4, vi x5] [] M _ _
  refine R_S q50 7 (pc2 := 78) (ls2 := [vr 78, vr 9, vr 70, vr a, vi x4, vi (M.1 78 4 - x4)]) (st2 := [.int x4, .ref 78]) rfl ?_
  refine R_pf q50 rfl rfl rfl rfl rfl eN1 ?_
  show Rm E 50 81 [vr 78, vr 9, vr 70, vr a, vi x4, vi (M.1 78 4 - x4)] [] N1 _ _
  refine R_S q50 1 (pc2 := 83) (ls2 := [vr 78, vr 9, vr 70, vr a, vi x4, vi (M.1 78 4 - x4)]) (st2 := [.int (M.1 78 4 - x4)]) rfl ?_
  exact R_ret rfl q50 rfl rfl rfl rfl (stpR_i rfl rfl)
-- 12- call X4_lead call X4_sum 46+
theorem b50_6_1 {E : env} {M : mem} {rv : Option Value} {M2 : mem} {x4 x5 : Int32} {a : Nat} {N1 : mem} {c2 : Int32} (ha : skel[a]? = some (.inl (0, 30))) (h0 : ¬ (M.1 78 4 ≤ x5)) (h1 : inR x5 12) (h2 : inR x5 12) (h3 : Rm E 23 0 [vr 70, vr 9, vi (M.1 80 x5.toNatClampNeg), vi (M.1 81 x5.toNatClampNeg), vn, vn, vn, vn] [] M none N1) (h4 : Rm E 26 0 [vr 70, vr a, vn, vn] [] N1 (some (.int c2)) N1) (h5 : inR x5 12) (h6 : N1.1 82 x5.toNatClampNeg ≤ c2) (k : Rm E 50 6 [vr 78, vr 9, vr 70, vr a, vi x4, vi (x5 + 1)] [] N1 rv M2) : Rm E 50 6 [vr 78, vr 9, vr 70, vr a, vi x4, vi x5] [] M rv M2 := by
  refine R_S q50 3 (pc2 := 12) (ls2 := [vr 78, vr 9, vr 70, vr a, vi x4, vi x5]) (st2 := [.int (M.1 78 4), .int x5]) rfl ?_
  refine R_icf q50 rfl (decide_eq_false h0) ?_
  show Rm E 50 15 [vr 78, vr 9, vr 70, vr a, vi x4, vi x5] [] M _ _
  refine R_S q50 5 (pc2 := 23) (ls2 := [vr 78, vr 9, vr 70, vr a, vi x4, vi x5]) (st2 := [.int x5, .ref 80, .ref 9, .ref 70]) rfl ?_
  refine R_ial q50 rfl rfl h1 ?_
  show Rm E 50 24 [vr 78, vr 9, vr 70, vr a, vi x4, vi x5] [.int (M.1 80 x5.toNatClampNeg), .ref 9, .ref 70] M _ _
  refine R_S q50 3 (pc2 := 30) (ls2 := [vr 78, vr 9, vr 70, vr a, vi x4, vi x5]) (st2 := [.int x5, .ref 81, .int (M.1 80 x5.toNatClampNeg), .ref 9, .ref 70]) rfl ?_
  refine R_ial q50 rfl rfl h2 ?_
  show Rm E 50 31 [vr 78, vr 9, vr 70, vr a, vi x4, vi x5] [.int (M.1 81 x5.toNatClampNeg), .int (M.1 80 x5.toNatClampNeg), .ref 9, .ref 70] M _ _
  refine R_call q50 rfl rfl rfl rfl rfl rfl h3 ?_
  show Rm E 50 34 [vr 78, vr 9, vr 70, vr a, vi x4, vi x5] [] N1 _ _
  refine R_S q50 2 (pc2 := 36) (ls2 := [vr 78, vr 9, vr 70, vr a, vi x4, vi x5]) (st2 := [.ref a, .ref 70]) rfl ?_
  refine R_call q50 rfl rfl rfl rfl rfl rfl h4 ?_
  show Rm E 50 39 [vr 78, vr 9, vr 70, vr a, vi x4, vi x5] [.int c2] N1 _ _
  refine R_S q50 3 (pc2 := 45) (ls2 := [vr 78, vr 9, vr 70, vr a, vi x4, vi x5]) (st2 := [.int x5, .ref 82, .int c2]) rfl ?_
  refine R_ial q50 rfl rfl h5 ?_
  show Rm E 50 46 [vr 78, vr 9, vr 70, vr a, vi x4, vi x5] [.int (N1.1 82 x5.toNatClampNeg), .int c2] N1 _ _
  refine R_ict q50 rfl (decide_eq_true h6) ?_
  show Rm E 50 60 [vr 78, vr 9, vr 70, vr a, vi x4, vi x5] [] N1 _ _
  refine R_S q50 2 (pc2 := 6) (ls2 := [vr 78, vr 9, vr 70, vr a, vi x4, vi (x5 + 1)]) (st2 := []) rfl ?_
  exact k
-- 12- call X4_lead call X4_sum 46- call X8_move
theorem b50_6_2 {E : env} {M : mem} {rv : Option Value} {M2 : mem} {x4 x5 : Int32} {a : Nat} {N1 : mem} {c2 : Int32} {N2 : mem} (ha : skel[a]? = some (.inl (0, 30))) (h0 : ¬ (M.1 78 4 ≤ x5)) (h1 : inR x5 12) (h2 : inR x5 12) (h3 : Rm E 23 0 [vr 70, vr 9, vi (M.1 80 x5.toNatClampNeg), vi (M.1 81 x5.toNatClampNeg), vn, vn, vn, vn] [] M none N1) (h4 : Rm E 26 0 [vr 70, vr a, vn, vn] [] N1 (some (.int c2)) N1) (h5 : inR x5 12) (h6 : ¬ (N1.1 82 x5.toNatClampNeg ≤ c2)) (h7 : Rm E 51 0 [vr 78, vi x5, vi x4] [] N1 none N2) (k : Rm E 50 6 [vr 78, vr 9, vr 70, vr a, vi (x4 + 1), vi (x5 + 1)] [] N2 rv M2) : Rm E 50 6 [vr 78, vr 9, vr 70, vr a, vi x4, vi x5] [] M rv M2 := by
  refine R_S q50 3 (pc2 := 12) (ls2 := [vr 78, vr 9, vr 70, vr a, vi x4, vi x5]) (st2 := [.int (M.1 78 4), .int x5]) rfl ?_
  refine R_icf q50 rfl (decide_eq_false h0) ?_
  show Rm E 50 15 [vr 78, vr 9, vr 70, vr a, vi x4, vi x5] [] M _ _
  refine R_S q50 5 (pc2 := 23) (ls2 := [vr 78, vr 9, vr 70, vr a, vi x4, vi x5]) (st2 := [.int x5, .ref 80, .ref 9, .ref 70]) rfl ?_
  refine R_ial q50 rfl rfl h1 ?_
  show Rm E 50 24 [vr 78, vr 9, vr 70, vr a, vi x4, vi x5] [.int (M.1 80 x5.toNatClampNeg), .ref 9, .ref 70] M _ _
  refine R_S q50 3 (pc2 := 30) (ls2 := [vr 78, vr 9, vr 70, vr a, vi x4, vi x5]) (st2 := [.int x5, .ref 81, .int (M.1 80 x5.toNatClampNeg), .ref 9, .ref 70]) rfl ?_
  refine R_ial q50 rfl rfl h2 ?_
  show Rm E 50 31 [vr 78, vr 9, vr 70, vr a, vi x4, vi x5] [.int (M.1 81 x5.toNatClampNeg), .int (M.1 80 x5.toNatClampNeg), .ref 9, .ref 70] M _ _
  refine R_call q50 rfl rfl rfl rfl rfl rfl h3 ?_
  show Rm E 50 34 [vr 78, vr 9, vr 70, vr a, vi x4, vi x5] [] N1 _ _
  refine R_S q50 2 (pc2 := 36) (ls2 := [vr 78, vr 9, vr 70, vr a, vi x4, vi x5]) (st2 := [.ref a, .ref 70]) rfl ?_
  refine R_call q50 rfl rfl rfl rfl rfl rfl h4 ?_
  show Rm E 50 39 [vr 78, vr 9, vr 70, vr a, vi x4, vi x5] [.int c2] N1 _ _
  refine R_S q50 3 (pc2 := 45) (ls2 := [vr 78, vr 9, vr 70, vr a, vi x4, vi x5]) (st2 := [.int x5, .ref 82, .int c2]) rfl ?_
  refine R_ial q50 rfl rfl h5 ?_
  show Rm E 50 46 [vr 78, vr 9, vr 70, vr a, vi x4, vi x5] [.int (N1.1 82 x5.toNatClampNeg), .int c2] N1 _ _
  refine R_icf q50 rfl (decide_eq_false h6) ?_
  show Rm E 50 49 [vr 78, vr 9, vr 70, vr a, vi x4, vi x5] [] N1 _ _
  refine R_S q50 3 (pc2 := 54) (ls2 := [vr 78, vr 9, vr 70, vr a, vi x4, vi x5]) (st2 := [.int x4, .int x5, .ref 78]) rfl ?_
  refine R_call q50 rfl rfl rfl rfl rfl rfl h7 ?_
  show Rm E 50 57 [vr 78, vr 9, vr 70, vr a, vi x4, vi x5] [] N2 _ _
  refine R_S q50 3 (pc2 := 6) (ls2 := [vr 78, vr 9, vr 70, vr a, vi (x4 + 1), vi (x5 + 1)]) (st2 := []) rfl ?_
  exact k
-- 51 HeavyChains$Watches.move(II)V  cuts [0]
theorem q51 : cdOf 51 = some mt51 := rfl
-- 
theorem b51_0_0 {E : env} {M : mem} {x1 x2 : Int32} {N1 : mem} {N2 : mem} {N3 : mem} {N4 : mem} (h0 : inR x1 12) (h1 : inR x2 12) (eN1 : N1 = upM M 79 (x2.toNatClampNeg) (M.1 79 x1.toNatClampNeg)) (h2 : inR x1 12) (h3 : inR x2 12) (eN2 : N2 = upM N1 80 (x2.toNatClampNeg) (N1.1 80 x1.toNatClampNeg)) (h4 : inR x1 12) (h5 : inR x2 12) (eN3 : N3 = upM N2 81 (x2.toNatClampNeg) (N2.1 81 x1.toNatClampNeg)) (h6 : inR x1 12) (h7 : inR x2 12) (eN4 : N4 = upM N3 82 (x2.toNatClampNeg) (N3.1 82 x1.toNatClampNeg)) : Rm E 51 0 [vr 78, vi x1, vi x2] [] M none N4 := by
  refine R_S q51 6 (pc2 := 10) (ls2 := [vr 78, vi x1, vi x2]) (st2 := [.int x1, .ref 79, .int x2, .ref 79]) rfl ?_
  refine R_ial q51 rfl rfl h0 ?_
  show Rm E 51 11 [vr 78, vi x1, vi x2] [.int (M.1 79 x1.toNatClampNeg), .int x2, .ref 79] M _ _
  refine R_ias q51 rfl rfl h1 eN1 ?_
  show Rm E 51 12 [vr 78, vi x1, vi x2] [] N1 _ _
  refine R_S q51 6 (pc2 := 22) (ls2 := [vr 78, vi x1, vi x2]) (st2 := [.int x1, .ref 80, .int x2, .ref 80]) rfl ?_
  refine R_ial q51 rfl rfl h2 ?_
  show Rm E 51 23 [vr 78, vi x1, vi x2] [.int (N1.1 80 x1.toNatClampNeg), .int x2, .ref 80] N1 _ _
  refine R_ias q51 rfl rfl h3 eN2 ?_
  show Rm E 51 24 [vr 78, vi x1, vi x2] [] N2 _ _
  refine R_S q51 6 (pc2 := 34) (ls2 := [vr 78, vi x1, vi x2]) (st2 := [.int x1, .ref 81, .int x2, .ref 81]) rfl ?_
  refine R_ial q51 rfl rfl h4 ?_
  show Rm E 51 35 [vr 78, vi x1, vi x2] [.int (N2.1 81 x1.toNatClampNeg), .int x2, .ref 81] N2 _ _
  refine R_ias q51 rfl rfl h5 eN3 ?_
  show Rm E 51 36 [vr 78, vi x1, vi x2] [] N3 _ _
  refine R_S q51 6 (pc2 := 46) (ls2 := [vr 78, vi x1, vi x2]) (st2 := [.int x1, .ref 82, .int x2, .ref 82]) rfl ?_
  refine R_ial q51 rfl rfl h6 ?_
  show Rm E 51 47 [vr 78, vi x1, vi x2] [.int (N3.1 82 x1.toNatClampNeg), .int x2, .ref 82] N3 _ _
  refine R_ias q51 rfl rfl h7 eN4 ?_
  show Rm E 51 48 [vr 78, vi x1, vi x2] [] N4 _ _
  exact R_ret rfl q51 rfl rfl rfl rfl rfl
