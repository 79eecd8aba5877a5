-- 53 HeavyChains.write(I)I  cuts [0]
theorem q53 : cdOf 53 = some mt53 := rfl
-- call X9_within 8+ call X1_append 22+
theorem b53_0_0 {E : env} {M : mem} {x1 : Int32} {c1 : Int32} {c2 : Int32} {N1 : mem} (h0 : Rm E 81 0 [vi x1, vi 32, vi 126] [] M (some (.int c1)) M) (h1 : ¬ c1 = 0) (h2 : Rm E 6 0 [vr 1, vi ((x1.toUInt32 % 65536).toInt32)] [] M (some (.int c2)) N1) (h3 : c2 = 0) : Rm E 53 0 [vr 0, vi x1] [] M (some (.int (-3))) N1 := by
  refine R_S q53 3 (pc2 := 5) (ls2 := [vr 0, vi x1]) (st2 := [.int 126, .int 32, .int x1]) rfl ?_
  refine R_call q53 rfl rfl rfl rfl rfl rfl h0 ?_
  show Rm E 53 8 [vr 0, vi x1] [.int c1] M _ _
  refine R_ift q53 rfl (decide_eq_true h1) ?_
  show Rm E 53 13 [vr 0, vi x1] [] M _ _
  refine R_S q53 4 (pc2 := 19) (ls2 := [vr 0, vi x1]) (st2 := [.int ((x1.toUInt32 % 65536).toInt32), .ref 1]) rfl ?_
  refine R_call q53 rfl rfl rfl rfl rfl rfl h2 ?_
  show Rm E 53 22 [vr 0, vi x1] [.int c2] N1 _ _
  refine R_ift q53 rfl (decide_eq_true h3) ?_
  show Rm E 53 35 [vr 0, vi x1] [] N1 _ _
  refine R_S q53 1 (pc2 := 37) (ls2 := [vr 0, vi x1]) (st2 := [.int (-3)]) rfl ?_
  exact R_ret rfl q53 rfl rfl rfl rfl (stpR_i rfl rfl)
-- call X9_within 8+ call X1_append 22-
theorem b53_0_1 {E : env} {M : mem} {x1 : Int32} {c1 : Int32} {c2 : Int32} {N1 : mem} (h0 : Rm E 81 0 [vi x1, vi 32, vi 126] [] M (some (.int c1)) M) (h1 : ¬ c1 = 0) (h2 : Rm E 6 0 [vr 1, vi ((x1.toUInt32 % 65536).toInt32)] [] M (some (.int c2)) N1) (h3 : ¬ (c2 = 0)) : Rm E 53 0 [vr 0, vi x1] [] M (some (.int (N1.1 1 1))) N1 := by
  refine R_S q53 3 (pc2 := 5) (ls2 := [vr 0, vi x1]) (st2 := [.int 126, .int 32, .int x1]) rfl ?_
  refine R_call q53 rfl rfl rfl rfl rfl rfl h0 ?_
  show Rm E 53 8 [vr 0, vi x1] [.int c1] M _ _
  refine R_ift q53 rfl (decide_eq_true h1) ?_
  show Rm E 53 13 [vr 0, vi x1] [] M _ _
  refine R_S q53 4 (pc2 := 19) (ls2 := [vr 0, vi x1]) (st2 := [.int ((x1.toUInt32 % 65536).toInt32), .ref 1]) rfl ?_
  refine R_call q53 rfl rfl rfl rfl rfl rfl h2 ?_
  show Rm E 53 22 [vr 0, vi x1] [.int c2] N1 _ _
  refine R_iff q53 rfl (decide_eq_false h3) ?_
  show Rm E 53 25 [vr 0, vi x1] [] N1 _ _
  refine R_S q53 4 (pc2 := 37) (ls2 := [vr 0, vi x1]) (st2 := [.int (N1.1 1 1)]) rfl ?_
  exact R_ret rfl q53 rfl rfl rfl rfl (stpR_i rfl rfl)
-- call X9_within 8-
theorem b53_0_2 {E : env} {M : mem} {x1 : Int32} {c1 : Int32} (h0 : Rm E 81 0 [vi x1, vi 32, vi 126] [] M (some (.int c1)) M) (h1 : ¬ (¬ c1 = 0)) : Rm E 53 0 [vr 0, vi x1] [] M (some (.int (-1))) M := by
  refine R_S q53 3 (pc2 := 5) (ls2 := [vr 0, vi x1]) (st2 := [.int 126, .int 32, .int x1]) rfl ?_
  refine R_call q53 rfl rfl rfl rfl rfl rfl h0 ?_
  show Rm E 53 8 [vr 0, vi x1] [.int c1] M _ _
  refine R_iff q53 rfl (decide_eq_false h1) ?_
  show Rm E 53 11 [vr 0, vi x1] [] M _ _
  refine R_S q53 1 (pc2 := 12) (ls2 := [vr 0, vi x1]) (st2 := [.int (-1)]) rfl ?_
  exact R_ret rfl q53 rfl rfl rfl rfl (stpR_i rfl rfl)
-- 54 HeavyChains.wipe()I  cuts [0]
theorem q54 : cdOf 54 = some mt54 := rfl
-- 
theorem b54_0_0 {E : env} {M : mem} {N1 : mem} (eN1 : N1 = upM M 1 1 0) : Rm E 54 0 [vr 0, vn] [] M (some (.int (M.1 1 1))) N1 := by
  refine R_S q54 7 (pc2 := 13) (ls2 := [vr 0, vi (M.1 1 1)]) (st2 := [.int 0, .ref 1]) rfl ?_
  refine R_pf q54 rfl rfl rfl rfl rfl eN1 ?_
  show Rm E 54 16 [vr 0, vi (M.1 1 1)] [] N1 _ _
  refine R_S q54 1 (pc2 := 17) (ls2 := [vr 0, vi (M.1 1 1)]) (st2 := [.int (M.1 1 1)]) rfl ?_
  exact R_ret rfl q54 rfl rfl rfl rfl (stpR_i rfl rfl)
-- 55 HeavyChains.fault()I  cuts [0]
theorem q55 : cdOf 55 = some mt55 := rfl
-- call X3_read
theorem b55_0_0 {E : env} {M : mem} {c1 : Int32} {N1 : mem} (h0 : Rm E 16 0 [vr 3, vr 1, vn, vn, vn] [] M (some (.int c1)) N1) : Rm E 55 0 [vr 0] [] M (some (.int c1)) N1 := by
  refine R_S q55 4 (pc2 := 8) (ls2 := [vr 0]) (st2 := [.ref 1, .ref 3]) rfl ?_
  refine R_call q55 rfl rfl rfl rfl rfl rfl h0 ?_
  show Rm E 55 11 [vr 0] [.int c1] N1 _ _
  exact R_ret rfl q55 rfl rfl rfl rfl (stpR_i rfl rfl)
-- 56 HeavyChains.lay()I  cuts [0]
theorem q56 : cdOf 56 = some mt56 := rfl
-- call X9_takeText 4+
theorem b56_0_0 {E : env} {M : mem} {c1 : Int32} {N1 : mem} (h0 : Rm E 84 0 [vr 0] [] M (some (.int c1)) N1) (h1 : c1 = 0) : Rm E 56 0 [vr 0] [] M (some (.int (-2))) N1 := by
  refine R_S q56 1 (pc2 := 1) (ls2 := [vr 0]) (st2 := [.ref 0]) rfl ?_
  refine R_call q56 rfl rfl rfl rfl rfl rfl h0 ?_
  show Rm E 56 4 [vr 0] [.int c1] N1 _ _
  refine R_ift q56 rfl (decide_eq_true h1) ?_
  show Rm E 56 17 [vr 0] [] N1 _ _
  refine R_S q56 1 (pc2 := 19) (ls2 := [vr 0]) (st2 := [.int (-2)]) rfl ?_
  exact R_ret rfl q56 rfl rfl rfl rfl (stpR_i rfl rfl)
-- call X9_takeText 4-
theorem b56_0_1 {E : env} {M : mem} {c1 : Int32} {N1 : mem} (h0 : Rm E 84 0 [vr 0] [] M (some (.int c1)) N1) (h1 : ¬ (c1 = 0)) : Rm E 56 0 [vr 0] [] M (some (.int (N1.1 9 0))) N1 := by
  refine R_S q56 1 (pc2 := 1) (ls2 := [vr 0]) (st2 := [.ref 0]) rfl ?_
  refine R_call q56 rfl rfl rfl rfl rfl rfl h0 ?_
  show Rm E 56 4 [vr 0] [.int c1] N1 _ _
  refine R_iff q56 rfl (decide_eq_false h1) ?_
  show Rm E 56 7 [vr 0] [] N1 _ _
  refine R_S q56 4 (pc2 := 19) (ls2 := [vr 0]) (st2 := [.int (N1.1 9 0)]) rfl ?_
  exact R_ret rfl q56 rfl rfl rfl rfl (stpR_i rfl rfl)
-- 57 HeavyChains.post(II)I  cuts [0]
theorem q57 : cdOf 57 = some mt57 := rfl
-- call X9_isPost 5+ 11=else
theorem b57_0_0 {E : env} {M : mem} {x1 x2 : Int32} {c1 : Int32} (h0 : Rm E 83 0 [vr 0, vi x1] [] M (some (.int c1)) M) (h1 : ¬ c1 = 0) (h2 : (x2).toInt < 0 ∨ 8 < (x2).toInt) : Rm E 57 0 [vr 0, vi x1, vi x2] [] M (some (.int (-1))) M := by
  refine R_S q57 2 (pc2 := 2) (ls2 := [vr 0, vi x1, vi x2]) (st2 := [.int x1, .ref 0]) rfl ?_
  refine R_call q57 rfl rfl rfl rfl rfl rfl h0 ?_
  show Rm E 57 5 [vr 0, vi x1, vi x2] [.int c1] M _ _
  refine R_ift q57 rfl (decide_eq_true h1) ?_
  show Rm E 57 10 [vr 0, vi x1, vi x2] [] M _ _
  refine R_S q57 1 (pc2 := 11) (ls2 := [vr 0, vi x1, vi x2]) (st2 := [.int x2]) rfl ?_
  refine R_tsd q57 rfl h2 rfl ?_
  show Rm E 57 153 [vr 0, vi x1, vi x2] [] M _ _
  refine R_S q57 1 (pc2 := 154) (ls2 := [vr 0, vi x1, vi x2]) (st2 := [.int (-1)]) rfl ?_
  exact R_ret rfl q57 rfl rfl rfl rfl (stpR_i rfl rfl)
-- call X9_isPost 5+ 11=0
theorem b57_0_1 {E : env} {M : mem} {x1 x2 : Int32} {c1 : Int32} (h0 : Rm E 83 0 [vr 0, vi x1] [] M (some (.int c1)) M) (h1 : ¬ c1 = 0) (h2 : x2 = 0) (h3 : inR x1 30) : Rm E 57 0 [vr 0, vi x1, vi x2] [] M (some (.int (M.1 10 x1.toNatClampNeg))) M := by
  refine R_S q57 2 (pc2 := 2) (ls2 := [vr 0, vi x1, vi x2]) (st2 := [.int x1, .ref 0]) rfl ?_
  refine R_call q57 rfl rfl rfl rfl rfl rfl h0 ?_
  show Rm E 57 5 [vr 0, vi x1, vi x2] [.int c1] M _ _
  refine R_ift q57 rfl (decide_eq_true h1) ?_
  show Rm E 57 10 [vr 0, vi x1, vi x2] [] M _ _
  refine R_S q57 1 (pc2 := 11) (ls2 := [vr 0, vi x1, vi x2]) (st2 := [.int x2]) rfl ?_
  refine R_top h2 ?_
  refine R_S q57 1 (pc2 := 60) (ls2 := [vr 0, vi x1, vi x2]) (st2 := []) rfl ?_
  refine R_S q57 4 (pc2 := 68) (ls2 := [vr 0, vi x1, vi x2]) (st2 := [.int x1, .ref 10]) rfl ?_
  refine R_ial q57 rfl rfl h3 ?_
  show Rm E 57 69 [vr 0, vi x1, vi x2] [.int (M.1 10 x1.toNatClampNeg)] M _ _
  exact R_ret rfl q57 rfl rfl rfl rfl (stpR_i rfl rfl)
-- call X9_isPost 5+ 11=1
theorem b57_0_2 {E : env} {M : mem} {x1 x2 : Int32} {c1 : Int32} (h0 : Rm E 83 0 [vr 0, vi x1] [] M (some (.int c1)) M) (h1 : ¬ c1 = 0) (h2 : x2 = 1) (h3 : inR x1 30) : Rm E 57 0 [vr 0, vi x1, vi x2] [] M (some (.int (M.1 11 x1.toNatClampNeg))) M := by
  refine R_S q57 2 (pc2 := 2) (ls2 := [vr 0, vi x1, vi x2]) (st2 := [.int x1, .ref 0]) rfl ?_
  refine R_call q57 rfl rfl rfl rfl rfl rfl h0 ?_
  show Rm E 57 5 [vr 0, vi x1, vi x2] [.int c1] M _ _
  refine R_ift q57 rfl (decide_eq_true h1) ?_
  show Rm E 57 10 [vr 0, vi x1, vi x2] [] M _ _
  refine R_S q57 1 (pc2 := 11) (ls2 := [vr 0, vi x1, vi x2]) (st2 := [.int x2]) rfl ?_
  refine R_top h2 ?_
  refine R_S q57 1 (pc2 := 70) (ls2 := [vr 0, vi x1, vi x2]) (st2 := []) rfl ?_
  refine R_S q57 4 (pc2 := 78) (ls2 := [vr 0, vi x1, vi x2]) (st2 := [.int x1, .ref 11]) rfl ?_
  refine R_ial q57 rfl rfl h3 ?_
  show Rm E 57 79 [vr 0, vi x1, vi x2] [.int (M.1 11 x1.toNatClampNeg)] M _ _
  exact R_ret rfl q57 rfl rfl rfl rfl (stpR_i rfl rfl)
-- call X9_isPost 5+ 11=2
theorem b57_0_3 {E : env} {M : mem} {x1 x2 : Int32} {c1 : Int32} (h0 : Rm E 83 0 [vr 0, vi x1] [] M (some (.int c1)) M) (h1 : ¬ c1 = 0) (h2 : x2 = 2) (h3 : inR x1 30) : Rm E 57 0 [vr 0, vi x1, vi x2] [] M (some (.int (M.1 12 x1.toNatClampNeg))) M := by
  refine R_S q57 2 (pc2 := 2) (ls2 := [vr 0, vi x1, vi x2]) (st2 := [.int x1, .ref 0]) rfl ?_
  refine R_call q57 rfl rfl rfl rfl rfl rfl h0 ?_
  show Rm E 57 5 [vr 0, vi x1, vi x2] [.int c1] M _ _
  refine R_ift q57 rfl (decide_eq_true h1) ?_
  show Rm E 57 10 [vr 0, vi x1, vi x2] [] M _ _
  refine R_S q57 1 (pc2 := 11) (ls2 := [vr 0, vi x1, vi x2]) (st2 := [.int x2]) rfl ?_
  refine R_top h2 ?_
  refine R_S q57 1 (pc2 := 80) (ls2 := [vr 0, vi x1, vi x2]) (st2 := []) rfl ?_
  refine R_S q57 4 (pc2 := 88) (ls2 := [vr 0, vi x1, vi x2]) (st2 := [.int x1, .ref 12]) rfl ?_
  refine R_ial q57 rfl rfl h3 ?_
  show Rm E 57 89 [vr 0, vi x1, vi x2] [.int (M.1 12 x1.toNatClampNeg)] M _ _
  exact R_ret rfl q57 rfl rfl rfl rfl (stpR_i rfl rfl)
-- call X9_isPost 5+ 11=3
theorem b57_0_4 {E : env} {M : mem} {x1 x2 : Int32} {c1 : Int32} (h0 : Rm E 83 0 [vr 0, vi x1] [] M (some (.int c1)) M) (h1 : ¬ c1 = 0) (h2 : x2 = 3) (h3 : inR x1 30) : Rm E 57 0 [vr 0, vi x1, vi x2] [] M (some (.int (M.1 13 x1.toNatClampNeg))) M := by
  refine R_S q57 2 (pc2 := 2) (ls2 := [vr 0, vi x1, vi x2]) (st2 := [.int x1, .ref 0]) rfl ?_
  refine R_call q57 rfl rfl rfl rfl rfl rfl h0 ?_
  show Rm E 57 5 [vr 0, vi x1, vi x2] [.int c1] M _ _
  refine R_ift q57 rfl (decide_eq_true h1) ?_
  show Rm E 57 10 [vr 0, vi x1, vi x2] [] M _ _
  refine R_S q57 1 (pc2 := 11) (ls2 := [vr 0, vi x1, vi x2]) (st2 := [.int x2]) rfl ?_
  refine R_top h2 ?_
  refine R_S q57 1 (pc2 := 90) (ls2 := [vr 0, vi x1, vi x2]) (st2 := []) rfl ?_
  refine R_S q57 4 (pc2 := 98) (ls2 := [vr 0, vi x1, vi x2]) (st2 := [.int x1, .ref 13]) rfl ?_
  refine R_ial q57 rfl rfl h3 ?_
  show Rm E 57 99 [vr 0, vi x1, vi x2] [.int (M.1 13 x1.toNatClampNeg)] M _ _
  exact R_ret rfl q57 rfl rfl rfl rfl (stpR_i rfl rfl)
-- call X9_isPost 5+ 11=4
theorem b57_0_5 {E : env} {M : mem} {x1 x2 : Int32} {c1 : Int32} (h0 : Rm E 83 0 [vr 0, vi x1] [] M (some (.int c1)) M) (h1 : ¬ c1 = 0) (h2 : x2 = 4) (h3 : inR x1 30) : Rm E 57 0 [vr 0, vi x1, vi x2] [] M (some (.int (M.1 15 x1.toNatClampNeg))) M := by
  refine R_S q57 2 (pc2 := 2) (ls2 := [vr 0, vi x1, vi x2]) (st2 := [.int x1, .ref 0]) rfl ?_
  refine R_call q57 rfl rfl rfl rfl rfl rfl h0 ?_
  show Rm E 57 5 [vr 0, vi x1, vi x2] [.int c1] M _ _
  refine R_ift q57 rfl (decide_eq_true h1) ?_
  show Rm E 57 10 [vr 0, vi x1, vi x2] [] M _ _
  refine R_S q57 1 (pc2 := 11) (ls2 := [vr 0, vi x1, vi x2]) (st2 := [.int x2]) rfl ?_
  refine R_top h2 ?_
  refine R_S q57 1 (pc2 := 100) (ls2 := [vr 0, vi x1, vi x2]) (st2 := []) rfl ?_
  refine R_S q57 4 (pc2 := 108) (ls2 := [vr 0, vi x1, vi x2]) (st2 := [.int x1, .ref 15]) rfl ?_
  refine R_ial q57 rfl rfl h3 ?_
  show Rm E 57 109 [vr 0, vi x1, vi x2] [.int (M.1 15 x1.toNatClampNeg)] M _ _
  exact R_ret rfl q57 rfl rfl rfl rfl (stpR_i rfl rfl)
-- call X9_isPost 5+ 11=5
theorem b57_0_6 {E : env} {M : mem} {x1 x2 : Int32} {c1 : Int32} (h0 : Rm E 83 0 [vr 0, vi x1] [] M (some (.int c1)) M) (h1 : ¬ c1 = 0) (h2 : x2 = 5) (h3 : inR x1 30) : Rm E 57 0 [vr 0, vi x1, vi x2] [] M (some (.int (M.1 16 x1.toNatClampNeg))) M := by
  refine R_S q57 2 (pc2 := 2) (ls2 := [vr 0, vi x1, vi x2]) (st2 := [.int x1, .ref 0]) rfl ?_
  refine R_call q57 rfl rfl rfl rfl rfl rfl h0 ?_
  show Rm E 57 5 [vr 0, vi x1, vi x2] [.int c1] M _ _
  refine R_ift q57 rfl (decide_eq_true h1) ?_
  show Rm E 57 10 [vr 0, vi x1, vi x2] [] M _ _
  refine R_S q57 1 (pc2 := 11) (ls2 := [vr 0, vi x1, vi x2]) (st2 := [.int x2]) rfl ?_
  refine R_top h2 ?_
  refine R_S q57 1 (pc2 := 110) (ls2 := [vr 0, vi x1, vi x2]) (st2 := []) rfl ?_
  refine R_S q57 4 (pc2 := 118) (ls2 := [vr 0, vi x1, vi x2]) (st2 := [.int x1, .ref 16]) rfl ?_
  refine R_ial q57 rfl rfl h3 ?_
  show Rm E 57 119 [vr 0, vi x1, vi x2] [.int (M.1 16 x1.toNatClampNeg)] M _ _
  exact R_ret rfl q57 rfl rfl rfl rfl (stpR_i rfl rfl)
-- call X9_isPost 5+ 11=6
theorem b57_0_7 {E : env} {M : mem} {x1 x2 : Int32} {c1 : Int32} (h0 : Rm E 83 0 [vr 0, vi x1] [] M (some (.int c1)) M) (h1 : ¬ c1 = 0) (h2 : x2 = 6) (h3 : inR x1 30) : Rm E 57 0 [vr 0, vi x1, vi x2] [] M (some (.int (M.1 19 x1.toNatClampNeg + 1000000))) M := by
  refine R_S q57 2 (pc2 := 2) (ls2 := [vr 0, vi x1, vi x2]) (st2 := [.int x1, .ref 0]) rfl ?_
  refine R_call q57 rfl rfl rfl rfl rfl rfl h0 ?_
  show Rm E 57 5 [vr 0, vi x1, vi x2] [.int c1] M _ _
  refine R_ift q57 rfl (decide_eq_true h1) ?_
  show Rm E 57 10 [vr 0, vi x1, vi x2] [] M _ _
  refine R_S q57 1 (pc2 := 11) (ls2 := [vr 0, vi x1, vi x2]) (st2 := [.int x2]) rfl ?_
  refine R_top h2 ?_
  refine R_S q57 1 (pc2 := 120) (ls2 := [vr 0, vi x1, vi x2]) (st2 := []) rfl ?_
  refine R_S q57 4 (pc2 := 128) (ls2 := [vr 0, vi x1, vi x2]) (st2 := [.int x1, .ref 19]) rfl ?_
  refine R_ial q57 rfl rfl h3 ?_
  show Rm E 57 129 [vr 0, vi x1, vi x2] [.int (M.1 19 x1.toNatClampNeg)] M _ _
  refine R_S q57 2 (pc2 := 132) (ls2 := [vr 0, vi x1, vi x2]) (st2 := [.int (M.1 19 x1.toNatClampNeg + 1000000)]) rfl ?_
  exact R_ret rfl q57 rfl rfl rfl rfl (stpR_i rfl rfl)
-- call X9_isPost 5+ 11=7
theorem b57_0_8 {E : env} {M : mem} {x1 x2 : Int32} {c1 : Int32} (h0 : Rm E 83 0 [vr 0, vi x1] [] M (some (.int c1)) M) (h1 : ¬ c1 = 0) (h2 : x2 = 7) (h3 : inR x1 30) : Rm E 57 0 [vr 0, vi x1, vi x2] [] M (some (.int (M.1 20 x1.toNatClampNeg))) M := by
  refine R_S q57 2 (pc2 := 2) (ls2 := [vr 0, vi x1, vi x2]) (st2 := [.int x1, .ref 0]) rfl ?_
  refine R_call q57 rfl rfl rfl rfl rfl rfl h0 ?_
  show Rm E 57 5 [vr 0, vi x1, vi x2] [.int c1] M _ _
  refine R_ift q57 rfl (decide_eq_true h1) ?_
  show Rm E 57 10 [vr 0, vi x1, vi x2] [] M _ _
  refine R_S q57 1 (pc2 := 11) (ls2 := [vr 0, vi x1, vi x2]) (st2 := [.int x2]) rfl ?_
  refine R_top h2 ?_
  refine R_S q57 1 (pc2 := 133) (ls2 := [vr 0, vi x1, vi x2]) (st2 := []) rfl ?_
  refine R_S q57 4 (pc2 := 141) (ls2 := [vr 0, vi x1, vi x2]) (st2 := [.int x1, .ref 20]) rfl ?_
  refine R_ial q57 rfl rfl h3 ?_
  show Rm E 57 142 [vr 0, vi x1, vi x2] [.int (M.1 20 x1.toNatClampNeg)] M _ _
  exact R_ret rfl q57 rfl rfl rfl rfl (stpR_i rfl rfl)
-- call X9_isPost 5+ 11=8
theorem b57_0_9 {E : env} {M : mem} {x1 x2 : Int32} {c1 : Int32} (h0 : Rm E 83 0 [vr 0, vi x1] [] M (some (.int c1)) M) (h1 : ¬ c1 = 0) (h2 : x2 = 8) (h3 : inR x1 30) : Rm E 57 0 [vr 0, vi x1, vi x2] [] M (some (.int (M.1 21 x1.toNatClampNeg))) M := by
  refine R_S q57 2 (pc2 := 2) (ls2 := [vr 0, vi x1, vi x2]) (st2 := [.int x1, .ref 0]) rfl ?_
  refine R_call q57 rfl rfl rfl rfl rfl rfl h0 ?_
  show Rm E 57 5 [vr 0, vi x1, vi x2] [.int c1] M _ _
  refine R_ift q57 rfl (decide_eq_true h1) ?_
  show Rm E 57 10 [vr 0, vi x1, vi x2] [] M _ _
  refine R_S q57 1 (pc2 := 11) (ls2 := [vr 0, vi x1, vi x2]) (st2 := [.int x2]) rfl ?_
  refine R_top h2 ?_
  refine R_S q57 1 (pc2 := 143) (ls2 := [vr 0, vi x1, vi x2]) (st2 := []) rfl ?_
  refine R_S q57 4 (pc2 := 151) (ls2 := [vr 0, vi x1, vi x2]) (st2 := [.int x1, .ref 21]) rfl ?_
  refine R_ial q57 rfl rfl h3 ?_
  show Rm E 57 152 [vr 0, vi x1, vi x2] [.int (M.1 21 x1.toNatClampNeg)] M _ _
  exact R_ret rfl q57 rfl rfl rfl rfl (stpR_i rfl rfl)
-- call X9_isPost 5-
theorem b57_0_10 {E : env} {M : mem} {x1 x2 : Int32} {c1 : Int32} (h0 : Rm E 83 0 [vr 0, vi x1] [] M (some (.int c1)) M) (h1 : ¬ (¬ c1 = 0)) : Rm E 57 0 [vr 0, vi x1, vi x2] [] M (some (.int (-1))) M := by
  refine R_S q57 2 (pc2 := 2) (ls2 := [vr 0, vi x1, vi x2]) (st2 := [.int x1, .ref 0]) rfl ?_
  refine R_call q57 rfl rfl rfl rfl rfl rfl h0 ?_
  show Rm E 57 5 [vr 0, vi x1, vi x2] [.int c1] M _ _
  refine R_iff q57 rfl (decide_eq_false h1) ?_
  show Rm E 57 8 [vr 0, vi x1, vi x2] [] M _ _
  refine R_S q57 1 (pc2 := 9) (ls2 := [vr 0, vi x1, vi x2]) (st2 := [.int (-1)]) rfl ?_
  exact R_ret rfl q57 rfl rfl rfl rfl (stpR_i rfl rfl)
-- 58 HeavyChains.at(I)I  cuts [0]
theorem q58 : cdOf 58 = some mt58 := rfl
-- call X9_isPost 5+
theorem b58_0_0 {E : env} {M : mem} {x1 : Int32} {c1 : Int32} (h0 : Rm E 83 0 [vr 0, vi x1] [] M (some (.int c1)) M) (h1 : c1 = 0) : Rm E 58 0 [vr 0, vi x1] [] M (some (.int (-1))) M := by
  refine R_S q58 2 (pc2 := 2) (ls2 := [vr 0, vi x1]) (st2 := [.int x1, .ref 0]) rfl ?_
  refine R_call q58 rfl rfl rfl rfl rfl rfl h0 ?_
  show Rm E 58 5 [vr 0, vi x1] [.int c1] M _ _
  refine R_ift q58 rfl (decide_eq_true h1) ?_
  show Rm E 58 20 [vr 0, vi x1] [] M _ _
  refine R_S q58 1 (pc2 := 21) (ls2 := [vr 0, vi x1]) (st2 := [.int (-1)]) rfl ?_
  exact R_ret rfl q58 rfl rfl rfl rfl (stpR_i rfl rfl)
-- call X9_isPost 5-
theorem b58_0_1 {E : env} {M : mem} {x1 : Int32} {c1 : Int32} (h0 : Rm E 83 0 [vr 0, vi x1] [] M (some (.int c1)) M) (h1 : ¬ (c1 = 0)) (h2 : inR x1 30) : Rm E 58 0 [vr 0, vi x1] [] M (some (.int (M.1 14 x1.toNatClampNeg))) M := by
  refine R_S q58 2 (pc2 := 2) (ls2 := [vr 0, vi x1]) (st2 := [.int x1, .ref 0]) rfl ?_
  refine R_call q58 rfl rfl rfl rfl rfl rfl h0 ?_
  show Rm E 58 5 [vr 0, vi x1] [.int c1] M _ _
  refine R_iff q58 rfl (decide_eq_false h1) ?_
  show Rm E 58 8 [vr 0, vi x1] [] M _ _
  refine R_S q58 4 (pc2 := 16) (ls2 := [vr 0, vi x1]) (st2 := [.int x1, .ref 14]) rfl ?_
  refine R_ial q58 rfl rfl h2 ?_
  show Rm E 58 17 [vr 0, vi x1] [.int (M.1 14 x1.toNatClampNeg)] M _ _
  refine R_S q58 1 (pc2 := 21) (ls2 := [vr 0, vi x1]) (st2 := [.int (M.1 14 x1.toNatClampNeg)]) rfl ?_
  exact R_ret rfl q58 rfl rfl rfl rfl (stpR_i rfl rfl)
-- 59 HeavyChains.add(IIII)I  cuts [0]
theorem q59 : cdOf 59 = some mt59 := rfl
-- call X9_isPost 5+
theorem b59_0_0 {E : env} {M : mem} {x1 x2 x3 x4 : Int32} {c1 : Int32} (h0 : Rm E 83 0 [vr 0, vi x1] [] M (some (.int c1)) M) (h1 : c1 = 0) : Rm E 59 0 [vr 0, vi x1, vi x2, vi x3, vi x4] [] M (some (.int (-1))) M := by
  refine R_S q59 2 (pc2 := 2) (ls2 := [vr 0, vi x1, vi x2, vi x3, vi x4]) (st2 := [.int x1, .ref 0]) rfl ?_
  refine R_call q59 rfl rfl rfl rfl rfl rfl h0 ?_
  show Rm E 59 5 [vr 0, vi x1, vi x2, vi x3, vi x4] [.int c1] M _ _
  refine R_ift q59 rfl (decide_eq_true h1) ?_
  show Rm E 59 25 [vr 0, vi x1, vi x2, vi x3, vi x4] [] M _ _
  refine R_S q59 1 (pc2 := 26) (ls2 := [vr 0, vi x1, vi x2, vi x3, vi x4]) (st2 := [.int (-1)]) rfl ?_
  exact R_ret rfl q59 rfl rfl rfl rfl (stpR_i rfl rfl)
-- call X9_isPost 5- call X9_isPost 13+
theorem b59_0_1 {E : env} {M : mem} {x1 x2 x3 x4 : Int32} {c1 : Int32} {c2 : Int32} (h0 : Rm E 83 0 [vr 0, vi x1] [] M (some (.int c1)) M) (h1 : ¬ (c1 = 0)) (h2 : Rm E 83 0 [vr 0, vi x2] [] M (some (.int c2)) M) (h3 : c2 = 0) : Rm E 59 0 [vr 0, vi x1, vi x2, vi x3, vi x4] [] M (some (.int (-1))) M := by
  refine R_S q59 2 (pc2 := 2) (ls2 := [vr 0, vi x1, vi x2, vi x3, vi x4]) (st2 := [.int x1, .ref 0]) rfl ?_
  refine R_call q59 rfl rfl rfl rfl rfl rfl h0 ?_
  show Rm E 59 5 [vr 0, vi x1, vi x2, vi x3, vi x4] [.int c1] M _ _
  refine R_iff q59 rfl (decide_eq_false h1) ?_
  show Rm E 59 8 [vr 0, vi x1, vi x2, vi x3, vi x4] [] M _ _
  refine R_S q59 2 (pc2 := 10) (ls2 := [vr 0, vi x1, vi x2, vi x3, vi x4]) (st2 := [.int x2, .ref 0]) rfl ?_
  refine R_call q59 rfl rfl rfl rfl rfl rfl h2 ?_
  show Rm E 59 13 [vr 0, vi x1, vi x2, vi x3, vi x4] [.int c2] M _ _
  refine R_ift q59 rfl (decide_eq_true h3) ?_
  show Rm E 59 25 [vr 0, vi x1, vi x2, vi x3, vi x4] [] M _ _
  refine R_S q59 1 (pc2 := 26) (ls2 := [vr 0, vi x1, vi x2, vi x3, vi x4]) (st2 := [.int (-1)]) rfl ?_
  exact R_ret rfl q59 rfl rfl rfl rfl (stpR_i rfl rfl)
-- call X9_isPost 5- call X9_isPost 13- call X9_isAddition 22+ call X4_lead call X9_addToRoute
theorem b59_0_2 {E : env} {M : mem} {x1 x2 x3 x4 : Int32} {c1 : Int32} {c2 : Int32} {c3 : Int32} {N1 : mem} {c5 : Int32} {N2 : mem} (h0 : Rm E 83 0 [vr 0, vi x1] [] M (some (.int c1)) M) (h1 : ¬ (c1 = 0)) (h2 : Rm E 83 0 [vr 0, vi x2] [] M (some (.int c2)) M) (h3 : ¬ (c2 = 0)) (h4 : Rm E 82 0 [vi x3, vi x4] [] M (some (.int c3)) M) (h5 : ¬ c3 = 0) (h6 : Rm E 23 0 [vr 70, vr 9, vi x1, vi x2, vn, vn, vn, vn] [] M none N1) (h7 : Rm E 85 0 [vr 0, vi x3, vi x4] [] N1 (some (.int c5)) N2) : Rm E 59 0 [vr 0, vi x1, vi x2, vi x3, vi x4] [] M (some (.int c5)) N2 := by
  refine R_S q59 2 (pc2 := 2) (ls2 := [vr 0, vi x1, vi x2, vi x3, vi x4]) (st2 := [.int x1, .ref 0]) rfl ?_
  refine R_call q59 rfl rfl rfl rfl rfl rfl h0 ?_
  show Rm E 59 5 [vr 0, vi x1, vi x2, vi x3, vi x4] [.int c1] M _ _
  refine R_iff q59 rfl (decide_eq_false h1) ?_
  show Rm E 59 8 [vr 0, vi x1, vi x2, vi x3, vi x4] [] M _ _
  refine R_S q59 2 (pc2 := 10) (ls2 := [vr 0, vi x1, vi x2, vi x3, vi x4]) (st2 := [.int x2, .ref 0]) rfl ?_
  refine R_call q59 rfl rfl rfl rfl rfl rfl h2 ?_
  show Rm E 59 13 [vr 0, vi x1, vi x2, vi x3, vi x4] [.int c2] M _ _
  refine R_iff q59 rfl (decide_eq_false h3) ?_
  show Rm E 59 16 [vr 0, vi x1, vi x2, vi x3, vi x4] [] M _ _
  refine R_S q59 2 (pc2 := 19) (ls2 := [vr 0, vi x1, vi x2, vi x3, vi x4]) (st2 := [.int x4, .int x3]) rfl ?_
  refine R_call q59 rfl rfl rfl rfl rfl rfl h4 ?_
  show Rm E 59 22 [vr 0, vi x1, vi x2, vi x3, vi x4] [.int c3] M _ _
  refine R_ift q59 rfl (decide_eq_true h5) ?_
  show Rm E 59 27 [vr 0, vi x1, vi x2, vi x3, vi x4] [] M _ _
  refine R_S q59 6 (pc2 := 37) (ls2 := [vr 0, vi x1, vi x2, vi x3, vi x4]) (st2 := [.int x2, .int x1, .ref 9, .ref 70]) rfl ?_
  refine R_call q59 rfl rfl rfl rfl rfl rfl h6 ?_
  show Rm E 59 40 [vr 0, vi x1, vi x2, vi x3, vi x4] [] N1 _ _
  refine R_S q59 3 (pc2 := 44) (ls2 := [vr 0, vi x1, vi x2, vi x3, vi x4]) (st2 := [.int x4, .int x3, .ref 0]) rfl ?_
  refine R_call q59 rfl rfl rfl rfl rfl rfl h7 ?_
  show Rm E 59 47 [vr 0, vi x1, vi x2, vi x3, vi x4] [.int c5] N2 _ _
  exact R_ret rfl q59 rfl rfl rfl rfl (stpR_i rfl rfl)
-- call X9_isPost 5- call X9_isPost 13- call X9_isAddition 22-
theorem b59_0_3 {E : env} {M : mem} {x1 x2 x3 x4 : Int32} {c1 : Int32} {c2 : Int32} {c3 : Int32} (h0 : Rm E 83 0 [vr 0, vi x1] [] M (some (.int c1)) M) (h1 : ¬ (c1 = 0)) (h2 : Rm E 83 0 [vr 0, vi x2] [] M (some (.int c2)) M) (h3 : ¬ (c2 = 0)) (h4 : Rm E 82 0 [vi x3, vi x4] [] M (some (.int c3)) M) (h5 : ¬ (¬ c3 = 0)) : Rm E 59 0 [vr 0, vi x1, vi x2, vi x3, vi x4] [] M (some (.int (-1))) M := by
  refine R_S q59 2 (pc2 := 2) (ls2 := [vr 0, vi x1, vi x2, vi x3, vi x4]) (st2 := [.int x1, .ref 0]) rfl ?_
  refine R_call q59 rfl rfl rfl rfl rfl rfl h0 ?_
  show Rm E 59 5 [vr 0, vi x1, vi x2, vi x3, vi x4] [.int c1] M _ _
  refine R_iff q59 rfl (decide_eq_false h1) ?_
  show Rm E 59 8 [vr 0, vi x1, vi x2, vi x3, vi x4] [] M _ _
  refine R_S q59 2 (pc2 := 10) (ls2 := [vr 0, vi x1, vi x2, vi x3, vi x4]) (st2 := [.int x2, .ref 0]) rfl ?_
  refine R_call q59 rfl rfl rfl rfl rfl rfl h2 ?_
  show Rm E 59 13 [vr 0, vi x1, vi x2, vi x3, vi x4] [.int c2] M _ _
  refine R_iff q59 rfl (decide_eq_false h3) ?_
  show Rm E 59 16 [vr 0, vi x1, vi x2, vi x3, vi x4] [] M _ _
  refine R_S q59 2 (pc2 := 19) (ls2 := [vr 0, vi x1, vi x2, vi x3, vi x4]) (st2 := [.int x4, .int x3]) rfl ?_
  refine R_call q59 rfl rfl rfl rfl rfl rfl h4 ?_
  show Rm E 59 22 [vr 0, vi x1, vi x2, vi x3, vi x4] [.int c3] M _ _
  refine R_iff q59 rfl (decide_eq_false h5) ?_
  show Rm E 59 25 [vr 0, vi x1, vi x2, vi x3, vi x4] [] M _ _
  refine R_S q59 1 (pc2 := 26) (ls2 := [vr 0, vi x1, vi x2, vi x3, vi x4]) (st2 := [.int (-1)]) rfl ?_
  exact R_ret rfl q59 rfl rfl rfl rfl (stpR_i rfl rfl)
-- 60 HeavyChains.pour(III)I  cuts [0]
theorem q60 : cdOf 60 = some mt60 := rfl
-- call X9_isPost 5+
theorem b60_0_0 {E : env} {M : mem} {x1 x2 x3 : Int32} {c1 : Int32} (h0 : Rm E 83 0 [vr 0, vi x1] [] M (some (.int c1)) M) (h1 : c1 = 0) : Rm E 60 0 [vr 0, vi x1, vi x2, vi x3] [] M (some (.int (-1))) M := by
  refine R_S q60 2 (pc2 := 2) (ls2 := [vr 0, vi x1, vi x2, vi x3]) (st2 := [.int x1, .ref 0]) rfl ?_
  refine R_call q60 rfl rfl rfl rfl rfl rfl h0 ?_
  show Rm E 60 5 [vr 0, vi x1, vi x2, vi x3] [.int c1] M _ _
  refine R_ift q60 rfl (decide_eq_true h1) ?_
  show Rm E 60 16 [vr 0, vi x1, vi x2, vi x3] [] M _ _
  refine R_S q60 1 (pc2 := 17) (ls2 := [vr 0, vi x1, vi x2, vi x3]) (st2 := [.int (-1)]) rfl ?_
  exact R_ret rfl q60 rfl rfl rfl rfl (stpR_i rfl rfl)
-- call X9_isPost 5- call X9_isAddition 13+ call X4_cover call X9_addToRoute
theorem b60_0_1 {E : env} {M : mem} {x1 x2 x3 : Int32} {c1 : Int32} {c2 : Int32} {N1 : mem} {c4 : Int32} {N2 : mem} (h0 : Rm E 83 0 [vr 0, vi x1] [] M (some (.int c1)) M) (h1 : ¬ (c1 = 0)) (h2 : Rm E 82 0 [vi x2, vi x3] [] M (some (.int c2)) M) (h3 : ¬ c2 = 0) (h4 : Rm E 24 0 [vr 70, vr 9, vi x1, vn] [] M none N1) (h5 : Rm E 85 0 [vr 0, vi x2, vi x3] [] N1 (some (.int c4)) N2) : Rm E 60 0 [vr 0, vi x1, vi x2, vi x3] [] M (some (.int c4)) N2 := by
  refine R_S q60 2 (pc2 := 2) (ls2 := [vr 0, vi x1, vi x2, vi x3]) (st2 := [.int x1, .ref 0]) rfl ?_
  refine R_call q60 rfl rfl rfl rfl rfl rfl h0 ?_
  show Rm E 60 5 [vr 0, vi x1, vi x2, vi x3] [.int c1] M _ _
  refine R_iff q60 rfl (decide_eq_false h1) ?_
  show Rm E 60 8 [vr 0, vi x1, vi x2, vi x3] [] M _ _
  refine R_S q60 2 (pc2 := 10) (ls2 := [vr 0, vi x1, vi x2, vi x3]) (st2 := [.int x3, .int x2]) rfl ?_
  refine R_call q60 rfl rfl rfl rfl rfl rfl h2 ?_
  show Rm E 60 13 [vr 0, vi x1, vi x2, vi x3] [.int c2] M _ _
  refine R_ift q60 rfl (decide_eq_true h3) ?_
  show Rm E 60 18 [vr 0, vi x1, vi x2, vi x3] [] M _ _
  refine R_S q60 5 (pc2 := 27) (ls2 := [vr 0, vi x1, vi x2, vi x3]) (st2 := [.int x1, .ref 9, .ref 70]) rfl ?_
  refine R_call q60 rfl rfl rfl rfl rfl rfl h4 ?_
  show Rm E 60 30 [vr 0, vi x1, vi x2, vi x3] [] N1 _ _
  refine R_S q60 3 (pc2 := 33) (ls2 := [vr 0, vi x1, vi x2, vi x3]) (st2 := [.int x3, .int x2, .ref 0]) rfl ?_
  refine R_call q60 rfl rfl rfl rfl rfl rfl h5 ?_
  show Rm E 60 36 [vr 0, vi x1, vi x2, vi x3] [.int c4] N2 _ _
  exact R_ret rfl q60 rfl rfl rfl rfl (stpR_i rfl rfl)
-- call X9_isPost 5- call X9_isAddition 13-
theorem b60_0_2 {E : env} {M : mem} {x1 x2 x3 : Int32} {c1 : Int32} {c2 : Int32} (h0 : Rm E 83 0 [vr 0, vi x1] [] M (some (.int c1)) M) (h1 : ¬ (c1 = 0)) (h2 : Rm E 82 0 [vi x2, vi x3] [] M (some (.int c2)) M) (h3 : ¬ (¬ c2 = 0)) : Rm E 60 0 [vr 0, vi x1, vi x2, vi x3] [] M (some (.int (-1))) M := by
  refine R_S q60 2 (pc2 := 2) (ls2 := [vr 0, vi x1, vi x2, vi x3]) (st2 := [.int x1, .ref 0]) rfl ?_
  refine R_call q60 rfl rfl rfl rfl rfl rfl h0 ?_
  show Rm E 60 5 [vr 0, vi x1, vi x2, vi x3] [.int c1] M _ _
  refine R_iff q60 rfl (decide_eq_false h1) ?_
  show Rm E 60 8 [vr 0, vi x1, vi x2, vi x3] [] M _ _
  refine R_S q60 2 (pc2 := 10) (ls2 := [vr 0, vi x1, vi x2, vi x3]) (st2 := [.int x3, .int x2]) rfl ?_
  refine R_call q60 rfl rfl rfl rfl rfl rfl h2 ?_
  show Rm E 60 13 [vr 0, vi x1, vi x2, vi x3] [.int c2] M _ _
  refine R_iff q60 rfl (decide_eq_false h3) ?_
  show Rm E 60 16 [vr 0, vi x1, vi x2, vi x3] [] M _ _
  refine R_S q60 1 (pc2 := 17) (ls2 := [vr 0, vi x1, vi x2, vi x3]) (st2 := [.int (-1)]) rfl ?_
  exact R_ret rfl q60 rfl rfl rfl rfl (stpR_i rfl rfl)
-- 61 HeavyChains.set(II)I  cuts [0]
theorem q61 : cdOf 61 = some mt61 := rfl
-- call X9_isPost 5+
theorem b61_0_0 {E : env} {M : mem} {x1 x2 : Int32} {c1 : Int32} (h0 : Rm E 83 0 [vr 0, vi x1] [] M (some (.int c1)) M) (h1 : c1 = 0) : Rm E 61 0 [vr 0, vi x1, vi x2, vn] [] M (some (.int (-1))) M := by
  refine R_S q61 2 (pc2 := 2) (ls2 := [vr 0, vi x1, vi x2, vn]) (st2 := [.int x1, .ref 0]) rfl ?_
  refine R_call q61 rfl rfl rfl rfl rfl rfl h0 ?_
  show Rm E 61 5 [vr 0, vi x1, vi x2, vn] [.int c1] M _ _
  refine R_ift q61 rfl (decide_eq_true h1) ?_
  show Rm E 61 21 [vr 0, vi x1, vi x2, vn] [] M _ _
  refine R_S q61 1 (pc2 := 22) (ls2 := [vr 0, vi x1, vi x2, vn]) (st2 := [.int (-1)]) rfl ?_
  exact R_ret rfl q61 rfl rfl rfl rfl (stpR_i rfl rfl)
-- call X9_isPost 5- call X9_within 18+ 35+ call X5_push
theorem b61_0_1 {E : env} {M : mem} {x1 x2 : Int32} {c1 : Int32} {c2 : Int32} {N1 : mem} {N2 : mem} (h0 : Rm E 83 0 [vr 0, vi x1] [] M (some (.int c1)) M) (h1 : ¬ (c1 = 0)) (h2 : Rm E 81 0 [vi x2, vi (-9999), vi 9999] [] M (some (.int c2)) M) (h3 : ¬ c2 = 0) (h4 : inR x1 30) (h5 : ¬ M.1 19 x1.toNatClampNeg = x2) (h6 : Rm E 35 0 [vr 26, vr 18] [] M none N1) (h7 : inR x1 30) (eN2 : N2 = upM N1 19 (x1.toNatClampNeg) x2) : Rm E 61 0 [vr 0, vi x1, vi x2, vn] [] M (some (.int (M.1 19 x1.toNatClampNeg + 1000000))) N2 := by
  refine R_S q61 2 (pc2 := 2) (ls2 := [vr 0, vi x1, vi x2, vn]) (st2 := [.int x1, .ref 0]) rfl ?_
  refine R_call q61 rfl rfl rfl rfl rfl rfl h0 ?_
  show Rm E 61 5 [vr 0, vi x1, vi x2, vn] [.int c1] M _ _
  refine R_iff q61 rfl (decide_eq_false h1) ?_
  show Rm E 61 8 [vr 0, vi x1, vi x2, vn] [] M _ _
  refine R_S q61 3 (pc2 := 15) (ls2 := [vr 0, vi x1, vi x2, vn]) (st2 := [.int 9999, .int (-9999), .int x2]) rfl ?_
  refine R_call q61 rfl rfl rfl rfl rfl rfl h2 ?_
  show Rm E 61 18 [vr 0, vi x1, vi x2, vn] [.int c2] M _ _
  refine R_ift q61 rfl (decide_eq_true h3) ?_
  show Rm E 61 23 [vr 0, vi x1, vi x2, vn] [] M _ _
  refine R_S q61 4 (pc2 := 31) (ls2 := [vr 0, vi x1, vi x2, vn]) (st2 := [.int x1, .ref 19]) rfl ?_
  refine R_ial q61 rfl rfl h4 ?_
  show Rm E 61 32 [vr 0, vi x1, vi x2, vn] [.int (M.1 19 x1.toNatClampNeg)] M _ _
  refine R_S q61 3 (pc2 := 35) (ls2 := [vr 0, vi x1, vi x2, vi (M.1 19 x1.toNatClampNeg)]) (st2 := [.int x2, .int (M.1 19 x1.toNatClampNeg)]) rfl ?_
  refine R_ict q61 rfl (decide_eq_true h5) ?_
  show Rm E 61 41 [vr 0, vi x1, vi x2, vi (M.1 19 x1.toNatClampNeg)] [] M _ _
  refine R_S q61 4 (pc2 := 49) (ls2 := [vr 0, vi x1, vi x2, vi (M.1 19 x1.toNatClampNeg)]) (st2 := [.ref 18, .ref 26]) rfl ?_
  refine R_call q61 rfl rfl rfl rfl rfl rfl h6 ?_
  show Rm E 61 52 [vr 0, vi x1, vi x2, vi (M.1 19 x1.toNatClampNeg)] [] N1 _ _
  refine R_S q61 5 (pc2 := 61) (ls2 := [vr 0, vi x1, vi x2, vi (M.1 19 x1.toNatClampNeg)]) (st2 := [.int x2, .int x1, .ref 19]) rfl ?_
  refine R_ias q61 rfl rfl h7 eN2 ?_
  show Rm E 61 62 [vr 0, vi x1, vi x2, vi (M.1 19 x1.toNatClampNeg)] [] N2 _ _
  refine R_S q61 3 (pc2 := 66) (ls2 := [vr 0, vi x1, vi x2, vi (M.1 19 x1.toNatClampNeg)]) (st2 := [.int (M.1 19 x1.toNatClampNeg + 1000000)]) rfl ?_
  exact R_ret rfl q61 rfl rfl rfl rfl (stpR_i rfl rfl)
-- call X9_isPost 5- call X9_within 18+ 35-
theorem b61_0_2 {E : env} {M : mem} {x1 x2 : Int32} {c1 : Int32} {c2 : Int32} (h0 : Rm E 83 0 [vr 0, vi x1] [] M (some (.int c1)) M) (h1 : ¬ (c1 = 0)) (h2 : Rm E 81 0 [vi x2, vi (-9999), vi 9999] [] M (some (.int c2)) M) (h3 : ¬ c2 = 0) (h4 : inR x1 30) (h5 : ¬ (¬ M.1 19 x1.toNatClampNeg = x2)) : Rm E 61 0 [vr 0, vi x1, vi x2, vn] [] M (some (.int (-2))) M := by
  refine R_S q61 2 (pc2 := 2) (ls2 := [vr 0, vi x1, vi x2, vn]) (st2 := [.int x1, .ref 0]) rfl ?_
  refine R_call q61 rfl rfl rfl rfl rfl rfl h0 ?_
  show Rm E 61 5 [vr 0, vi x1, vi x2, vn] [.int c1] M _ _
  refine R_iff q61 rfl (decide_eq_false h1) ?_
  show Rm E 61 8 [vr 0, vi x1, vi x2, vn] [] M _ _
  refine R_S q61 3 (pc2 := 15) (ls2 := [vr 0, vi x1, vi x2, vn]) (st2 := [.int 9999, .int (-9999), .int x2]) rfl ?_
  refine R_call q61 rfl rfl rfl rfl rfl rfl h2 ?_
  show Rm E 61 18 [vr 0, vi x1, vi x2, vn] [.int c2] M _ _
  refine R_ift q61 rfl (decide_eq_true h3) ?_
  show Rm E 61 23 [vr 0, vi x1, vi x2, vn] [] M _ _
  refine R_S q61 4 (pc2 := 31) (ls2 := [vr 0, vi x1, vi x2, vn]) (st2 := [.int x1, .ref 19]) rfl ?_
  refine R_ial q61 rfl rfl h4 ?_
  show Rm E 61 32 [vr 0, vi x1, vi x2, vn] [.int (M.1 19 x1.toNatClampNeg)] M _ _
  refine R_S q61 3 (pc2 := 35) (ls2 := [vr 0, vi x1, vi x2, vi (M.1 19 x1.toNatClampNeg)]) (st2 := [.int x2, .int (M.1 19 x1.toNatClampNeg)]) rfl ?_
  refine R_icf q61 rfl (decide_eq_false h5) ?_
  show Rm E 61 38 [vr 0, vi x1, vi x2, vi (M.1 19 x1.toNatClampNeg)] [] M _ _
  refine R_S q61 1 (pc2 := 40) (ls2 := [vr 0, vi x1, vi x2, vi (M.1 19 x1.toNatClampNeg)]) (st2 := [.int (-2)]) rfl ?_
  exact R_ret rfl q61 rfl rfl rfl rfl (stpR_i rfl rfl)
-- call X9_isPost 5- call X9_within 18-
theorem b61_0_3 {E : env} {M : mem} {x1 x2 : Int32} {c1 : Int32} {c2 : Int32} (h0 : Rm E 83 0 [vr 0, vi x1] [] M (some (.int c1)) M) (h1 : ¬ (c1 = 0)) (h2 : Rm E 81 0 [vi x2, vi (-9999), vi 9999] [] M (some (.int c2)) M) (h3 : ¬ (¬ c2 = 0)) : Rm E 61 0 [vr 0, vi x1, vi x2, vn] [] M (some (.int (-1))) M := by
  refine R_S q61 2 (pc2 := 2) (ls2 := [vr 0, vi x1, vi x2, vn]) (st2 := [.int x1, .ref 0]) rfl ?_
  refine R_call q61 rfl rfl rfl rfl rfl rfl h0 ?_
  show Rm E 61 5 [vr 0, vi x1, vi x2, vn] [.int c1] M _ _
  refine R_iff q61 rfl (decide_eq_false h1) ?_
  show Rm E 61 8 [vr 0, vi x1, vi x2, vn] [] M _ _
  refine R_S q61 3 (pc2 := 15) (ls2 := [vr 0, vi x1, vi x2, vn]) (st2 := [.int 9999, .int (-9999), .int x2]) rfl ?_
  refine R_call q61 rfl rfl rfl rfl rfl rfl h2 ?_
  show Rm E 61 18 [vr 0, vi x1, vi x2, vn] [.int c2] M _ _
  refine R_iff q61 rfl (decide_eq_false h3) ?_
  show Rm E 61 21 [vr 0, vi x1, vi x2, vn] [] M _ _
  refine R_S q61 1 (pc2 := 22) (ls2 := [vr 0, vi x1, vi x2, vn]) (st2 := [.int (-1)]) rfl ?_
  exact R_ret rfl q61 rfl rfl rfl rfl (stpR_i rfl rfl)
-- 62 HeavyChains.shape(III)I  cuts [0]
theorem q62 : cdOf 62 = some mt62 := rfl
-- call X9_isPost 5+
theorem b62_0_0 {E : env} {M : mem} {x1 x2 x3 : Int32} {c1 : Int32} (h0 : Rm E 83 0 [vr 0, vi x1] [] M (some (.int c1)) M) (h1 : c1 = 0) : Rm E 62 0 [vr 0, vi x1, vi x2, vi x3, vn, vn] [] M (some (.int (-1))) M := by
  refine R_S q62 2 (pc2 := 2) (ls2 := [vr 0, vi x1, vi x2, vi x3, vn, vn]) (st2 := [.int x1, .ref 0]) rfl ?_
  refine R_call q62 rfl rfl rfl rfl rfl rfl h0 ?_
  show Rm E 62 5 [vr 0, vi x1, vi x2, vi x3, vn, vn] [.int c1] M _ _
  refine R_ift q62 rfl (decide_eq_true h1) ?_
  show Rm E 62 28 [vr 0, vi x1, vi x2, vi x3, vn, vn] [] M _ _
  refine R_S q62 1 (pc2 := 29) (ls2 := [vr 0, vi x1, vi x2, vi x3, vn, vn]) (st2 := [.int (-1)]) rfl ?_
  exact R_ret rfl q62 rfl rfl rfl rfl (stpR_i rfl rfl)
-- call X9_isPost 5- call X9_within 15+
theorem b62_0_1 {E : env} {M : mem} {x1 x2 x3 : Int32} {c1 : Int32} {c2 : Int32} (h0 : Rm E 83 0 [vr 0, vi x1] [] M (some (.int c1)) M) (h1 : ¬ (c1 = 0)) (h2 : Rm E 81 0 [vi x2, vi 0, vi 9] [] M (some (.int c2)) M) (h3 : c2 = 0) : Rm E 62 0 [vr 0, vi x1, vi x2, vi x3, vn, vn] [] M (some (.int (-1))) M := by
  refine R_S q62 2 (pc2 := 2) (ls2 := [vr 0, vi x1, vi x2, vi x3, vn, vn]) (st2 := [.int x1, .ref 0]) rfl ?_
  refine R_call q62 rfl rfl rfl rfl rfl rfl h0 ?_
  show Rm E 62 5 [vr 0, vi x1, vi x2, vi x3, vn, vn] [.int c1] M _ _
  refine R_iff q62 rfl (decide_eq_false h1) ?_
  show Rm E 62 8 [vr 0, vi x1, vi x2, vi x3, vn, vn] [] M _ _
  refine R_S q62 3 (pc2 := 12) (ls2 := [vr 0, vi x1, vi x2, vi x3, vn, vn]) (st2 := [.int 9, .int 0, .int x2]) rfl ?_
  refine R_call q62 rfl rfl rfl rfl rfl rfl h2 ?_
  show Rm E 62 15 [vr 0, vi x1, vi x2, vi x3, vn, vn] [.int c2] M _ _
  refine R_ift q62 rfl (decide_eq_true h3) ?_
  show Rm E 62 28 [vr 0, vi x1, vi x2, vi x3, vn, vn] [] M _ _
  refine R_S q62 1 (pc2 := 29) (ls2 := [vr 0, vi x1, vi x2, vi x3, vn, vn]) (st2 := [.int (-1)]) rfl ?_
  exact R_ret rfl q62 rfl rfl rfl rfl (stpR_i rfl rfl)
-- call X9_isPost 5- call X9_within 15- call X9_within 25+ 55+ call X5_push
theorem b62_0_2 {E : env} {M : mem} {x1 x2 x3 : Int32} {c1 : Int32} {c2 : Int32} {c3 : Int32} {N1 : mem} {N2 : mem} {N3 : mem} (h0 : Rm E 83 0 [vr 0, vi x1] [] M (some (.int c1)) M) (h1 : ¬ (c1 = 0)) (h2 : Rm E 81 0 [vi x2, vi 0, vi 9] [] M (some (.int c2)) M) (h3 : ¬ (c2 = 0)) (h4 : Rm E 81 0 [vi x3, vi 0, vi 9] [] M (some (.int c3)) M) (h5 : ¬ c3 = 0) (h6 : inR x1 30) (h7 : inR x1 30) (h8 : ¬ M.1 20 x1.toNatClampNeg = x2) (h9 : Rm E 35 0 [vr 26, vr 18] [] M none N1) (h10 : inR x1 30) (eN2 : N2 = upM N1 20 (x1.toNatClampNeg) x2) (h11 : inR x1 30) (eN3 : N3 = upM N2 21 (x1.toNatClampNeg) x3) : Rm E 62 0 [vr 0, vi x1, vi x2, vi x3, vn, vn] [] M (some (.int ((10 * M.1 20 x1.toNatClampNeg) + M.1 21 x1.toNatClampNeg))) N3 := by
  refine R_S q62 2 (pc2 := 2) (ls2 := [vr 0, vi x1, vi x2, vi x3, vn, vn]) (st2 := [.int x1, .ref 0]) rfl ?_
  refine R_call q62 rfl rfl rfl rfl rfl rfl h0 ?_
  show Rm E 62 5 [vr 0, vi x1, vi x2, vi x3, vn, vn] [.int c1] M _ _
  refine R_iff q62 rfl (decide_eq_false h1) ?_
  show Rm E 62 8 [vr 0, vi x1, vi x2, vi x3, vn, vn] [] M _ _
  refine R_S q62 3 (pc2 := 12) (ls2 := [vr 0, vi x1, vi x2, vi x3, vn, vn]) (st2 := [.int 9, .int 0, .int x2]) rfl ?_
  refine R_call q62 rfl rfl rfl rfl rfl rfl h2 ?_
  show Rm E 62 15 [vr 0, vi x1, vi x2, vi x3, vn, vn] [.int c2] M _ _
  refine R_iff q62 rfl (decide_eq_false h3) ?_
  show Rm E 62 18 [vr 0, vi x1, vi x2, vi x3, vn, vn] [] M _ _
  refine R_S q62 3 (pc2 := 22) (ls2 := [vr 0, vi x1, vi x2, vi x3, vn, vn]) (st2 := [.int 9, .int 0, .int x3]) rfl ?_
  refine R_call q62 rfl rfl rfl rfl rfl rfl h4 ?_
  show Rm E 62 25 [vr 0, vi x1, vi x2, vi x3, vn, vn] [.int c3] M _ _
  refine R_ift q62 rfl (decide_eq_true h5) ?_
  show Rm E 62 30 [vr 0, vi x1, vi x2, vi x3, vn, vn] [] M _ _
  refine R_S q62 4 (pc2 := 38) (ls2 := [vr 0, vi x1, vi x2, vi x3, vn, vn]) (st2 := [.int x1, .ref 20]) rfl ?_
  refine R_ial q62 rfl rfl h6 ?_
  show Rm E 62 39 [vr 0, vi x1, vi x2, vi x3, vn, vn] [.int (M.1 20 x1.toNatClampNeg)] M _ _
  refine R_S q62 5 (pc2 := 49) (ls2 := [vr 0, vi x1, vi x2, vi x3, vi (M.1 20 x1.toNatClampNeg), vn]) (st2 := [.int x1, .ref 21]) rfl ?_
  refine R_ial q62 rfl rfl h7 ?_
  show Rm E 62 50 [vr 0, vi x1, vi x2, vi x3, vi (M.1 20 x1.toNatClampNeg), vn] [.int (M.1 21 x1.toNatClampNeg)] M _ _
  refine R_S q62 3 (pc2 := 55) (ls2 := [vr 0, vi x1, vi x2, vi x3, vi (M.1 20 x1.toNatClampNeg), vi (M.1 21 x1.toNatClampNeg)]) (st2 := [.int x2, .int (M.1 20 x1.toNatClampNeg)]) rfl ?_
  refine R_ict q62 rfl (decide_eq_true h8) ?_
  show Rm E 62 67 [vr 0, vi x1, vi x2, vi x3, vi (M.1 20 x1.toNatClampNeg), vi (M.1 21 x1.toNatClampNeg)] [] M _ _
  refine R_S q62 4 (pc2 := 75) (ls2 := [vr 0, vi x1, vi x2, vi x3, vi (M.1 20 x1.toNatClampNeg), vi (M.1 21 x1.toNatClampNeg)]) (st2 := [.ref 18, .ref 26]) rfl ?_
  refine R_call q62 rfl rfl rfl rfl rfl rfl h9 ?_
  show Rm E 62 78 [vr 0, vi x1, vi x2, vi x3, vi (M.1 20 x1.toNatClampNeg), vi (M.1 21 x1.toNatClampNeg)] [] N1 _ _
  refine R_S q62 5 (pc2 := 87) (ls2 := [vr 0, vi x1, vi x2, vi x3, vi (M.1 20 x1.toNatClampNeg), vi (M.1 21 x1.toNatClampNeg)]) (st2 := [.int x2, .int x1, .ref 20]) rfl ?_
  refine R_ias q62 rfl rfl h10 eN2 ?_
  show Rm E 62 88 [vr 0, vi x1, vi x2, vi x3, vi (M.1 20 x1.toNatClampNeg), vi (M.1 21 x1.toNatClampNeg)] [] N2 _ _
  refine R_S q62 5 (pc2 := 97) (ls2 := [vr 0, vi x1, vi x2, vi x3, vi (M.1 20 x1.toNatClampNeg), vi (M.1 21 x1.toNatClampNeg)]) (st2 := [.int x3, .int x1, .ref 21]) rfl ?_
  refine R_ias q62 rfl rfl h11 eN3 ?_
  show Rm E 62 98 [vr 0, vi x1, vi x2, vi x3, vi (M.1 20 x1.toNatClampNeg), vi (M.1 21 x1.toNatClampNeg)] [] N3 _ _
  refine R_S q62 5 (pc2 := 106) (ls2 := [vr 0, vi x1, vi x2, vi x3, vi (M.1 20 x1.toNatClampNeg), vi (M.1 21 x1.toNatClampNeg)]) (st2 := [.int ((10 * M.1 20 x1.toNatClampNeg) + M.1 21 x1.toNatClampNeg)]) rfl ?_
  exact R_ret rfl q62 rfl rfl rfl rfl (stpR_i rfl rfl)
-- call X9_isPost 5- call X9_within 15- call X9_within 25+ 55- 61+ call X5_push
theorem b62_0_3 {E : env} {M : mem} {x1 x2 x3 : Int32} {c1 : Int32} {c2 : Int32} {c3 : Int32} {N1 : mem} {N2 : mem} {N3 : mem} (h0 : Rm E 83 0 [vr 0, vi x1] [] M (some (.int c1)) M) (h1 : ¬ (c1 = 0)) (h2 : Rm E 81 0 [vi x2, vi 0, vi 9] [] M (some (.int c2)) M) (h3 : ¬ (c2 = 0)) (h4 : Rm E 81 0 [vi x3, vi 0, vi 9] [] M (some (.int c3)) M) (h5 : ¬ c3 = 0) (h6 : inR x1 30) (h7 : inR x1 30) (h8 : ¬ (¬ M.1 20 x1.toNatClampNeg = x2)) (h9 : ¬ M.1 21 x1.toNatClampNeg = x3) (h10 : Rm E 35 0 [vr 26, vr 18] [] M none N1) (h11 : inR x1 30) (eN2 : N2 = upM N1 20 (x1.toNatClampNeg) x2) (h12 : inR x1 30) (eN3 : N3 = upM N2 21 (x1.toNatClampNeg) x3) : Rm E 62 0 [vr 0, vi x1, vi x2, vi x3, vn, vn] [] M (some (.int ((10 * M.1 20 x1.toNatClampNeg) + M.1 21 x1.toNatClampNeg))) N3 := by
  refine R_S q62 2 (pc2 := 2) (ls2 := [vr 0, vi x1, vi x2, vi x3, vn, vn]) (st2 := [.int x1, .ref 0]) rfl ?_
  refine R_call q62 rfl rfl rfl rfl rfl rfl h0 ?_
  show Rm E 62 5 [vr 0, vi x1, vi x2, vi x3, vn, vn] [.int c1] M _ _
  refine R_iff q62 rfl (decide_eq_false h1) ?_
  show Rm E 62 8 [vr 0, vi x1, vi x2, vi x3, vn, vn] [] M _ _
  refine R_S q62 3 (pc2 := 12) (ls2 := [vr 0, vi x1, vi x2, vi x3, vn, vn]) (st2 := [.int 9, .int 0, .int x2]) rfl ?_
  refine R_call q62 rfl rfl rfl rfl rfl rfl h2 ?_
  show Rm E 62 15 [vr 0, vi x1, vi x2, vi x3, vn, vn] [.int c2] M _ _
  refine R_iff q62 rfl (decide_eq_false h3) ?_
  show Rm E 62 18 [vr 0, vi x1, vi x2, vi x3, vn, vn] [] M _ _
  refine R_S q62 3 (pc2 := 22) (ls2 := [vr 0, vi x1, vi x2, vi x3, vn, vn]) (st2 := [.int 9, .int 0, .int x3]) rfl ?_
  refine R_call q62 rfl rfl rfl rfl rfl rfl h4 ?_
  show Rm E 62 25 [vr 0, vi x1, vi x2, vi x3, vn, vn] [.int c3] M _ _
  refine R_ift q62 rfl (decide_eq_true h5) ?_
  show Rm E 62 30 [vr 0, vi x1, vi x2, vi x3, vn, vn] [] M _ _
  refine R_S q62 4 (pc2 := 38) (ls2 := [vr 0, vi x1, vi x2, vi x3, vn, vn]) (st2 := [.int x1, .ref 20]) rfl ?_
  refine R_ial q62 rfl rfl h6 ?_
  show Rm E 62 39 [vr 0, vi x1, vi x2, vi x3, vn, vn] [.int (M.1 20 x1.toNatClampNeg)] M _ _
  refine R_S q62 5 (pc2 := 49) (ls2 := [vr 0, vi x1, vi x2, vi x3, vi (M.1 20 x1.toNatClampNeg), vn]) (st2 := [.int x1, .ref 21]) rfl ?_
  refine R_ial q62 rfl rfl h7 ?_
  show Rm E 62 50 [vr 0, vi x1, vi x2, vi x3, vi (M.1 20 x1.toNatClampNeg), vn] [.int (M.1 21 x1.toNatClampNeg)] M _ _
  refine R_S q62 3 (pc2 := 55) (ls2 := [vr 0, vi x1, vi x2, vi x3, vi (M.1 20 x1.toNatClampNeg), vi (M.1 21 x1.toNatClampNeg)]) (st2 := [.int x2, .int (M.1 20 x1.toNatClampNeg)]) rfl ?_
  refine R_icf q62 rfl (decide_eq_false h8) ?_
  show Rm E 62 58 [vr 0, vi x1, vi x2, vi x3, vi (M.1 20 x1.toNatClampNeg), vi (M.1 21 x1.toNatClampNeg)] [] M _ _
  refine R_S q62 2 (pc2 := 61) (ls2 := [vr 0, vi x1, vi x2, vi x3, vi (M.1 20 x1.toNatClampNeg), vi (M.1 21 x1.toNatClampNeg)]) (st2 := [.int x3, .int (M.1 21 x1.toNatClampNeg)]) rfl ?_
  refine R_ict q62 rfl (decide_eq_true h9) ?_
  show Rm E 62 67 [vr 0, vi x1, vi x2, vi x3, vi (M.1 20 x1.toNatClampNeg), vi (M.1 21 x1.toNatClampNeg)] [] M _ _
  refine R_S q62 4 (pc2 := 75) (ls2 := [vr 0, vi x1, vi x2, vi x3, vi (M.1 20 x1.toNatClampNeg), vi (M.1 21 x1.toNatClampNeg)]) (st2 := [.ref 18, .ref 26]) rfl ?_
  refine R_call q62 rfl rfl rfl rfl rfl rfl h10 ?_
  show Rm E 62 78 [vr 0, vi x1, vi x2, vi x3, vi (M.1 20 x1.toNatClampNeg), vi (M.1 21 x1.toNatClampNeg)] [] N1 _ _
  refine R_S q62 5 (pc2 := 87) (ls2 := [vr 0, vi x1, vi x2, vi x3, vi (M.1 20 x1.toNatClampNeg), vi (M.1 21 x1.toNatClampNeg)]) (st2 := [.int x2, .int x1, .ref 20]) rfl ?_
  refine R_ias q62 rfl rfl h11 eN2 ?_
  show Rm E 62 88 [vr 0, vi x1, vi x2, vi x3, vi (M.1 20 x1.toNatClampNeg), vi (M.1 21 x1.toNatClampNeg)] [] N2 _ _
  refine R_S q62 5 (pc2 := 97) (ls2 := [vr 0, vi x1, vi x2, vi x3, vi (M.1 20 x1.toNatClampNeg), vi (M.1 21 x1.toNatClampNeg)]) (st2 := [.int x3, .int x1, .ref 21]) rfl ?_
  refine R_ias q62 rfl rfl h12 eN3 ?_
  show Rm E 62 98 [vr 0, vi x1, vi x2, vi x3, vi (M.1 20 x1.toNatClampNeg), vi (M.1 21 x1.toNatClampNeg)] [] N3 _ _
  refine R_S q62 5 (pc2 := 106) (ls2 := [vr 0, vi x1, vi x2, vi x3, vi (M.1 20 x1.toNatClampNeg), vi (M.1 21 x1.toNatClampNeg)]) (st2 := [.int ((10 * M.1 20 x1.toNatClampNeg) + M.1 21 x1.toNatClampNeg)]) rfl ?_
  exact R_ret rfl q62 rfl rfl rfl rfl (stpR_i rfl rfl)
-- call X9_isPost 5- call X9_within 15- call X9_within 25+ 55- 61-
theorem b62_0_4 {E : env} {M : mem} {x1 x2 x3 : Int32} {c1 : Int32} {c2 : Int32} {c3 : Int32} (h0 : Rm E 83 0 [vr 0, vi x1] [] M (some (.int c1)) M) (h1 : ¬ (c1 = 0)) (h2 : Rm E 81 0 [vi x2, vi 0, vi 9] [] M (some (.int c2)) M) (h3 : ¬ (c2 = 0)) (h4 : Rm E 81 0 [vi x3, vi 0, vi 9] [] M (some (.int c3)) M) (h5 : ¬ c3 = 0) (h6 : inR x1 30) (h7 : inR x1 30) (h8 : ¬ (¬ M.1 20 x1.toNatClampNeg = x2)) (h9 : ¬ (¬ M.1 21 x1.toNatClampNeg = x3)) : Rm E 62 0 [vr 0, vi x1, vi x2, vi x3, vn, vn] [] M (some (.int (-2))) M := by
  refine R_S q62 2 (pc2 := 2) (ls2 := [vr 0, vi x1, vi x2, vi x3, vn, vn]) (st2 := [.int x1, .ref 0]) rfl ?_
  refine R_call q62 rfl rfl rfl rfl rfl rfl h0 ?_
  show Rm E 62 5 [vr 0, vi x1, vi x2, vi x3, vn, vn] [.int c1] M _ _
  refine R_iff q62 rfl (decide_eq_false h1) ?_
  show Rm E 62 8 [vr 0, vi x1, vi x2, vi x3, vn, vn] [] M _ _
  refine R_S q62 3 (pc2 := 12) (ls2 := [vr 0, vi x1, vi x2, vi x3, vn, vn]) (st2 := [.int 9, .int 0, .int x2]) rfl ?_
  refine R_call q62 rfl rfl rfl rfl rfl rfl h2 ?_
  show Rm E 62 15 [vr 0, vi x1, vi x2, vi x3, vn, vn] [.int c2] M _ _
  refine R_iff q62 rfl (decide_eq_false h3) ?_
  show Rm E 62 18 [vr 0, vi x1, vi x2, vi x3, vn, vn] [] M _ _
  refine R_S q62 3 (pc2 := 22) (ls2 := [vr 0, vi x1, vi x2, vi x3, vn, vn]) (st2 := [.int 9, .int 0, .int x3]) rfl ?_
  refine R_call q62 rfl rfl rfl rfl rfl rfl h4 ?_
  show Rm E 62 25 [vr 0, vi x1, vi x2, vi x3, vn, vn] [.int c3] M _ _
  refine R_ift q62 rfl (decide_eq_true h5) ?_
  show Rm E 62 30 [vr 0, vi x1, vi x2, vi x3, vn, vn] [] M _ _
  refine R_S q62 4 (pc2 := 38) (ls2 := [vr 0, vi x1, vi x2, vi x3, vn, vn]) (st2 := [.int x1, .ref 20]) rfl ?_
  refine R_ial q62 rfl rfl h6 ?_
  show Rm E 62 39 [vr 0, vi x1, vi x2, vi x3, vn, vn] [.int (M.1 20 x1.toNatClampNeg)] M _ _
  refine R_S q62 5 (pc2 := 49) (ls2 := [vr 0, vi x1, vi x2, vi x3, vi (M.1 20 x1.toNatClampNeg), vn]) (st2 := [.int x1, .ref 21]) rfl ?_
  refine R_ial q62 rfl rfl h7 ?_
  show Rm E 62 50 [vr 0, vi x1, vi x2, vi x3, vi (M.1 20 x1.toNatClampNeg), vn] [.int (M.1 21 x1.toNatClampNeg)] M _ _
  refine R_S q62 3 (pc2 := 55) (ls2 := [vr 0, vi x1, vi x2, vi x3, vi (M.1 20 x1.toNatClampNeg), vi (M.1 21 x1.toNatClampNeg)]) (st2 := [.int x2, .int (M.1 20 x1.toNatClampNeg)]) rfl ?_
  refine R_icf q62 rfl (decide_eq_false h8) ?_
  show Rm E 62 58 [vr 0, vi x1, vi x2, vi x3, vi (M.1 20 x1.toNatClampNeg), vi (M.1 21 x1.toNatClampNeg)] [] M _ _
  refine R_S q62 2 (pc2 := 61) (ls2 := [vr 0, vi x1, vi x2, vi x3, vi (M.1 20 x1.toNatClampNeg), vi (M.1 21 x1.toNatClampNeg)]) (st2 := [.int x3, .int (M.1 21 x1.toNatClampNeg)]) rfl ?_
  refine R_icf q62 rfl (decide_eq_false h9) ?_
  show Rm E 62 64 [vr 0, vi x1, vi x2, vi x3, vi (M.1 20 x1.toNatClampNeg), vi (M.1 21 x1.toNatClampNeg)] [] M _ _
  refine R_S q62 1 (pc2 := 66) (ls2 := [vr 0, vi x1, vi x2, vi x3, vi (M.1 20 x1.toNatClampNeg), vi (M.1 21 x1.toNatClampNeg)]) (st2 := [.int (-2)]) rfl ?_
  exact R_ret rfl q62 rfl rfl rfl rfl (stpR_i rfl rfl)
-- call X9_isPost 5- call X9_within 15- call X9_within 25-
theorem b62_0_5 {E : env} {M : mem} {x1 x2 x3 : Int32} {c1 : Int32} {c2 : Int32} {c3 : Int32} (h0 : Rm E 83 0 [vr 0, vi x1] [] M (some (.int c1)) M) (h1 : ¬ (c1 = 0)) (h2 : Rm E 81 0 [vi x2, vi 0, vi 9] [] M (some (.int c2)) M) (h3 : ¬ (c2 = 0)) (h4 : Rm E 81 0 [vi x3, vi 0, vi 9] [] M (some (.int c3)) M) (h5 : ¬ (¬ c3 = 0)) : Rm E 62 0 [vr 0, vi x1, vi x2, vi x3, vn, vn] [] M (some (.int (-1))) M := by
  refine R_S q62 2 (pc2 := 2) (ls2 := [vr 0, vi x1, vi x2, vi x3, vn, vn]) (st2 := [.int x1, .ref 0]) rfl ?_
  refine R_call q62 rfl rfl rfl rfl rfl rfl h0 ?_
  show Rm E 62 5 [vr 0, vi x1, vi x2, vi x3, vn, vn] [.int c1] M _ _
  refine R_iff q62 rfl (decide_eq_false h1) ?_
  show Rm E 62 8 [vr 0, vi x1, vi x2, vi x3, vn, vn] [] M _ _
  refine R_S q62 3 (pc2 := 12) (ls2 := [vr 0, vi x1, vi x2, vi x3, vn, vn]) (st2 := [.int 9, .int 0, .int x2]) rfl ?_
  refine R_call q62 rfl rfl rfl rfl rfl rfl h2 ?_
  show Rm E 62 15 [vr 0, vi x1, vi x2, vi x3, vn, vn] [.int c2] M _ _
  refine R_iff q62 rfl (decide_eq_false h3) ?_
  show Rm E 62 18 [vr 0, vi x1, vi x2, vi x3, vn, vn] [] M _ _
  refine R_S q62 3 (pc2 := 22) (ls2 := [vr 0, vi x1, vi x2, vi x3, vn, vn]) (st2 := [.int 9, .int 0, .int x3]) rfl ?_
  refine R_call q62 rfl rfl rfl rfl rfl rfl h4 ?_
  show Rm E 62 25 [vr 0, vi x1, vi x2, vi x3, vn, vn] [.int c3] M _ _
  refine R_iff q62 rfl (decide_eq_false h5) ?_
  show Rm E 62 28 [vr 0, vi x1, vi x2, vi x3, vn, vn] [] M _ _
  refine R_S q62 1 (pc2 := 29) (ls2 := [vr 0, vi x1, vi x2, vi x3, vn, vn]) (st2 := [.int (-1)]) rfl ?_
  exact R_ret rfl q62 rfl rfl rfl rfl (stpR_i rfl rfl)
-- 63 HeavyChains.undo()I  cuts [0]
theorem q63 : cdOf 63 = some mt63 := rfl
-- call X5_pop 11+
theorem b63_0_0 {E : env} {M : mem} {c1 : Int32} {N1 : mem} (h0 : Rm E 36 0 [vr 26, vr 18] [] M (some (.int c1)) N1) (h1 : c1 = 0) : Rm E 63 0 [vr 0] [] M (some (.int (-2))) N1 := by
  refine R_S q63 4 (pc2 := 8) (ls2 := [vr 0]) (st2 := [.ref 18, .ref 26]) rfl ?_
  refine R_call q63 rfl rfl rfl rfl rfl rfl h0 ?_
  show Rm E 63 11 [vr 0] [.int c1] N1 _ _
  refine R_ift q63 rfl (decide_eq_true h1) ?_
  show Rm E 63 24 [vr 0] [] N1 _ _
  refine R_S q63 1 (pc2 := 26) (ls2 := [vr 0]) (st2 := [.int (-2)]) rfl ?_
  exact R_ret rfl q63 rfl rfl rfl rfl (stpR_i rfl rfl)
-- call X5_pop 11-
theorem b63_0_1 {E : env} {M : mem} {c1 : Int32} {N1 : mem} (h0 : Rm E 36 0 [vr 26, vr 18] [] M (some (.int c1)) N1) (h1 : ¬ (c1 = 0)) : Rm E 63 0 [vr 0] [] M (some (.int (N1.1 26 1))) N1 := by
  refine R_S q63 4 (pc2 := 8) (ls2 := [vr 0]) (st2 := [.ref 18, .ref 26]) rfl ?_
  refine R_call q63 rfl rfl rfl rfl rfl rfl h0 ?_
  show Rm E 63 11 [vr 0] [.int c1] N1 _ _
  refine R_iff q63 rfl (decide_eq_false h1) ?_
  show Rm E 63 14 [vr 0] [] N1 _ _
  refine R_S q63 4 (pc2 := 26) (ls2 := [vr 0]) (st2 := [.int (N1.1 26 1)]) rfl ?_
  exact R_ret rfl q63 rfl rfl rfl rfl (stpR_i rfl rfl)
-- 64 HeavyChains.way(III)I  cuts [0]
theorem q64 : cdOf 64 = some mt64 := rfl
-- call X9_isPost 5+
theorem b64_0_0 {E : env} {M : mem} {x1 x2 x3 : Int32} {c1 : Int32} (h0 : Rm E 83 0 [vr 0, vi x1] [] M (some (.int c1)) M) (h1 : c1 = 0) : Rm E 64 0 [vr 0, vi x1, vi x2, vi x3] [] M (some (.int (-1))) M := by
  refine R_S q64 2 (pc2 := 2) (ls2 := [vr 0, vi x1, vi x2, vi x3]) (st2 := [.int x1, .ref 0]) rfl ?_
  refine R_call q64 rfl rfl rfl rfl rfl rfl h0 ?_
  show Rm E 64 5 [vr 0, vi x1, vi x2, vi x3] [.int c1] M _ _
  refine R_ift q64 rfl (decide_eq_true h1) ?_
  show Rm E 64 16 [vr 0, vi x1, vi x2, vi x3] [] M _ _
  refine R_S q64 1 (pc2 := 17) (ls2 := [vr 0, vi x1, vi x2, vi x3]) (st2 := [.int (-1)]) rfl ?_
  exact R_ret rfl q64 rfl rfl rfl rfl (stpR_i rfl rfl)
-- call X9_isPost 5- call X9_isPost 13+ call X4_lead 32=else
theorem b64_0_1 {E : env} {M : mem} {x1 x2 x3 : Int32} {c1 : Int32} {c2 : Int32} {N1 : mem} (h0 : Rm E 83 0 [vr 0, vi x1] [] M (some (.int c1)) M) (h1 : ¬ (c1 = 0)) (h2 : Rm E 83 0 [vr 0, vi x2] [] M (some (.int c2)) M) (h3 : ¬ c2 = 0) (h4 : Rm E 23 0 [vr 70, vr 9, vi x1, vi x2, vn, vn, vn, vn] [] M none N1) (h5 : (x3).toInt < 0 ∨ 7 < (x3).toInt) : Rm E 64 0 [vr 0, vi x1, vi x2, vi x3] [] M (some (.int (-1))) N1 := by
  refine R_S q64 2 (pc2 := 2) (ls2 := [vr 0, vi x1, vi x2, vi x3]) (st2 := [.int x1, .ref 0]) rfl ?_
  refine R_call q64 rfl rfl rfl rfl rfl rfl h0 ?_
  show Rm E 64 5 [vr 0, vi x1, vi x2, vi x3] [.int c1] M _ _
  refine R_iff q64 rfl (decide_eq_false h1) ?_
  show Rm E 64 8 [vr 0, vi x1, vi x2, vi x3] [] M _ _
  refine R_S q64 2 (pc2 := 10) (ls2 := [vr 0, vi x1, vi x2, vi x3]) (st2 := [.int x2, .ref 0]) rfl ?_
  refine R_call q64 rfl rfl rfl rfl rfl rfl h2 ?_
  show Rm E 64 13 [vr 0, vi x1, vi x2, vi x3] [.int c2] M _ _
  refine R_ift q64 rfl (decide_eq_true h3) ?_
  show Rm E 64 18 [vr 0, vi x1, vi x2, vi x3] [] M _ _
  refine R_S q64 6 (pc2 := 28) (ls2 := [vr 0, vi x1, vi x2, vi x3]) (st2 := [.int x2, .int x1, .ref 9, .ref 70]) rfl ?_
  refine R_call q64 rfl rfl rfl rfl rfl rfl h4 ?_
  show Rm E 64 31 [vr 0, vi x1, vi x2, vi x3] [] N1 _ _
  refine R_S q64 1 (pc2 := 32) (ls2 := [vr 0, vi x1, vi x2, vi x3]) (st2 := [.int x3]) rfl ?_
  refine R_tsd q64 rfl h5 rfl ?_
  show Rm E 64 189 [vr 0, vi x1, vi x2, vi x3] [] N1 _ _
  refine R_S q64 1 (pc2 := 190) (ls2 := [vr 0, vi x1, vi x2, vi x3]) (st2 := [.int (-1)]) rfl ?_
  exact R_ret rfl q64 rfl rfl rfl rfl (stpR_i rfl rfl)
-- call X9_isPost 5- call X9_isPost 13+ call X4_lead 32=0
theorem b64_0_2 {E : env} {M : mem} {x1 x2 x3 : Int32} {c1 : Int32} {c2 : Int32} {N1 : mem} (h0 : Rm E 83 0 [vr 0, vi x1] [] M (some (.int c1)) M) (h1 : ¬ (c1 = 0)) (h2 : Rm E 83 0 [vr 0, vi x2] [] M (some (.int c2)) M) (h3 : ¬ c2 = 0) (h4 : Rm E 23 0 [vr 70, vr 9, vi x1, vi x2, vn, vn, vn, vn] [] M none N1) (h5 : x3 = 0) : Rm E 64 0 [vr 0, vi x1, vi x2, vi x3] [] M (some (.int (N1.1 70 1))) N1 := by
  refine R_S q64 2 (pc2 := 2) (ls2 := [vr 0, vi x1, vi x2, vi x3]) (st2 := [.int x1, .ref 0]) rfl ?_
  refine R_call q64 rfl rfl rfl rfl rfl rfl h0 ?_
  show Rm E 64 5 [vr 0, vi x1, vi x2, vi x3] [.int c1] M _ _
  refine R_iff q64 rfl (decide_eq_false h1) ?_
  show Rm E 64 8 [vr 0, vi x1, vi x2, vi x3] [] M _ _
  refine R_S q64 2 (pc2 := 10) (ls2 := [vr 0, vi x1, vi x2, vi x3]) (st2 := [.int x2, .ref 0]) rfl ?_
  refine R_call q64 rfl rfl rfl rfl rfl rfl h2 ?_
  show Rm E 64 13 [vr 0, vi x1, vi x2, vi x3] [.int c2] M _ _
  refine R_ift q64 rfl (decide_eq_true h3) ?_
  show Rm E 64 18 [vr 0, vi x1, vi x2, vi x3] [] M _ _
  refine R_S q64 6 (pc2 := 28) (ls2 := [vr 0, vi x1, vi x2, vi x3]) (st2 := [.int x2, .int x1, .ref 9, .ref 70]) rfl ?_
  refine R_call q64 rfl rfl rfl rfl rfl rfl h4 ?_
  show Rm E 64 31 [vr 0, vi x1, vi x2, vi x3] [] N1 _ _
  refine R_S q64 1 (pc2 := 32) (ls2 := [vr 0, vi x1, vi x2, vi x3]) (st2 := [.int x3]) rfl ?_
  refine R_top h5 ?_
  refine R_S q64 1 (pc2 := 80) (ls2 := [vr 0, vi x1, vi x2, vi x3]) (st2 := []) rfl ?_
  refine R_S q64 3 (pc2 := 87) (ls2 := [vr 0, vi x1, vi x2, vi x3]) (st2 := [.int (N1.1 70 1)]) rfl ?_
  exact R_ret rfl q64 rfl rfl rfl rfl (stpR_i rfl rfl)
-- call X9_isPost 5- call X9_isPost 13+ call X4_lead 32=1 call X4_pieces
theorem b64_0_3 {E : env} {M : mem} {x1 x2 x3 : Int32} {c1 : Int32} {c2 : Int32} {N1 : mem} {c4 : Int32} (h0 : Rm E 83 0 [vr 0, vi x1] [] M (some (.int c1)) M) (h1 : ¬ (c1 = 0)) (h2 : Rm E 83 0 [vr 0, vi x2] [] M (some (.int c2)) M) (h3 : ¬ c2 = 0) (h4 : Rm E 23 0 [vr 70, vr 9, vi x1, vi x2, vn, vn, vn, vn] [] M none N1) (h5 : x3 = 1) (h6 : Rm E 25 0 [vr 70, vr 9, vn, vn] [] N1 (some (.int c4)) N1) : Rm E 64 0 [vr 0, vi x1, vi x2, vi x3] [] M (some (.int c4)) N1 := by
  refine R_S q64 2 (pc2 := 2) (ls2 := [vr 0, vi x1, vi x2, vi x3]) (st2 := [.int x1, .ref 0]) rfl ?_
  refine R_call q64 rfl rfl rfl rfl rfl rfl h0 ?_
  show Rm E 64 5 [vr 0, vi x1, vi x2, vi x3] [.int c1] M _ _
  refine R_iff q64 rfl (decide_eq_false h1) ?_
  show Rm E 64 8 [vr 0, vi x1, vi x2, vi x3] [] M _ _
  refine R_S q64 2 (pc2 := 10) (ls2 := [vr 0, vi x1, vi x2, vi x3]) (st2 := [.int x2, .ref 0]) rfl ?_
  refine R_call q64 rfl rfl rfl rfl rfl rfl h2 ?_
  show Rm E 64 13 [vr 0, vi x1, vi x2, vi x3] [.int c2] M _ _
  refine R_ift q64 rfl (decide_eq_true h3) ?_
  show Rm E 64 18 [vr 0, vi x1, vi x2, vi x3] [] M _ _
  refine R_S q64 6 (pc2 := 28) (ls2 := [vr 0, vi x1, vi x2, vi x3]) (st2 := [.int x2, .int x1, .ref 9, .ref 70]) rfl ?_
  refine R_call q64 rfl rfl rfl rfl rfl rfl h4 ?_
  show Rm E 64 31 [vr 0, vi x1, vi x2, vi x3] [] N1 _ _
  refine R_S q64 1 (pc2 := 32) (ls2 := [vr 0, vi x1, vi x2, vi x3]) (st2 := [.int x3]) rfl ?_
  refine R_top h5 ?_
  refine R_S q64 1 (pc2 := 88) (ls2 := [vr 0, vi x1, vi x2, vi x3]) (st2 := []) rfl ?_
  refine R_S q64 4 (pc2 := 96) (ls2 := [vr 0, vi x1, vi x2, vi x3]) (st2 := [.ref 9, .ref 70]) rfl ?_
  refine R_call q64 rfl rfl rfl rfl rfl rfl h6 ?_
  show Rm E 64 99 [vr 0, vi x1, vi x2, vi x3] [.int c4] N1 _ _
  exact R_ret rfl q64 rfl rfl rfl rfl (stpR_i rfl rfl)
-- call X9_isPost 5- call X9_isPost 13+ call X4_lead 32=2
theorem b64_0_4 {E : env} {M : mem} {x1 x2 x3 : Int32} {c1 : Int32} {c2 : Int32} {N1 : mem} (h0 : Rm E 83 0 [vr 0, vi x1] [] M (some (.int c1)) M) (h1 : ¬ (c1 = 0)) (h2 : Rm E 83 0 [vr 0, vi x2] [] M (some (.int c2)) M) (h3 : ¬ c2 = 0) (h4 : Rm E 23 0 [vr 70, vr 9, vi x1, vi x2, vn, vn, vn, vn] [] M none N1) (h5 : x3 = 2) : Rm E 64 0 [vr 0, vi x1, vi x2, vi x3] [] M (some (.int (N1.1 70 2))) N1 := by
  refine R_S q64 2 (pc2 := 2) (ls2 := [vr 0, vi x1, vi x2, vi x3]) (st2 := [.int x1, .ref 0]) rfl ?_
  refine R_call q64 rfl rfl rfl rfl rfl rfl h0 ?_
  show Rm E 64 5 [vr 0, vi x1, vi x2, vi x3] [.int c1] M _ _
  refine R_iff q64 rfl (decide_eq_false h1) ?_
  show Rm E 64 8 [vr 0, vi x1, vi x2, vi x3] [] M _ _
  refine R_S q64 2 (pc2 := 10) (ls2 := [vr 0, vi x1, vi x2, vi x3]) (st2 := [.int x2, .ref 0]) rfl ?_
  refine R_call q64 rfl rfl rfl rfl rfl rfl h2 ?_
  show Rm E 64 13 [vr 0, vi x1, vi x2, vi x3] [.int c2] M _ _
  refine R_ift q64 rfl (decide_eq_true h3) ?_
  show Rm E 64 18 [vr 0, vi x1, vi x2, vi x3] [] M _ _
  refine R_S q64 6 (pc2 := 28) (ls2 := [vr 0, vi x1, vi x2, vi x3]) (st2 := [.int x2, .int x1, .ref 9, .ref 70]) rfl ?_
  refine R_call q64 rfl rfl rfl rfl rfl rfl h4 ?_
  show Rm E 64 31 [vr 0, vi x1, vi x2, vi x3] [] N1 _ _
  refine R_S q64 1 (pc2 := 32) (ls2 := [vr 0, vi x1, vi x2, vi x3]) (st2 := [.int x3]) rfl ?_
  refine R_top h5 ?_
  refine R_S q64 1 (pc2 := 100) (ls2 := [vr 0, vi x1, vi x2, vi x3]) (st2 := []) rfl ?_
  refine R_S q64 3 (pc2 := 107) (ls2 := [vr 0, vi x1, vi x2, vi x3]) (st2 := [.int (N1.1 70 2)]) rfl ?_
  exact R_ret rfl q64 rfl rfl rfl rfl (stpR_i rfl rfl)
-- call X9_isPost 5- call X9_isPost 13+ call X4_lead 32=3 call X4_sum
theorem b64_0_5 {E : env} {M : mem} {x1 x2 x3 : Int32} {c1 : Int32} {c2 : Int32} {N1 : mem} {c4 : Int32} (h0 : Rm E 83 0 [vr 0, vi x1] [] M (some (.int c1)) M) (h1 : ¬ (c1 = 0)) (h2 : Rm E 83 0 [vr 0, vi x2] [] M (some (.int c2)) M) (h3 : ¬ c2 = 0) (h4 : Rm E 23 0 [vr 70, vr 9, vi x1, vi x2, vn, vn, vn, vn] [] M none N1) (h5 : x3 = 3) (h6 : Rm E 26 0 [vr 70, vr 19, vn, vn] [] N1 (some (.int c4)) N1) : Rm E 64 0 [vr 0, vi x1, vi x2, vi x3] [] M (some (.int (c4 + 1000000))) N1 := by
  refine R_S q64 2 (pc2 := 2) (ls2 := [vr 0, vi x1, vi x2, vi x3]) (st2 := [.int x1, .ref 0]) rfl ?_
  refine R_call q64 rfl rfl rfl rfl rfl rfl h0 ?_
  show Rm E 64 5 [vr 0, vi x1, vi x2, vi x3] [.int c1] M _ _
  refine R_iff q64 rfl (decide_eq_false h1) ?_
  show Rm E 64 8 [vr 0, vi x1, vi x2, vi x3] [] M _ _
  refine R_S q64 2 (pc2 := 10) (ls2 := [vr 0, vi x1, vi x2, vi x3]) (st2 := [.int x2, .ref 0]) rfl ?_
  refine R_call q64 rfl rfl rfl rfl rfl rfl h2 ?_
  show Rm E 64 13 [vr 0, vi x1, vi x2, vi x3] [.int c2] M _ _
  refine R_ift q64 rfl (decide_eq_true h3) ?_
  show Rm E 64 18 [vr 0, vi x1, vi x2, vi x3] [] M _ _
  refine R_S q64 6 (pc2 := 28) (ls2 := [vr 0, vi x1, vi x2, vi x3]) (st2 := [.int x2, .int x1, .ref 9, .ref 70]) rfl ?_
  refine R_call q64 rfl rfl rfl rfl rfl rfl h4 ?_
  show Rm E 64 31 [vr 0, vi x1, vi x2, vi x3] [] N1 _ _
  refine R_S q64 1 (pc2 := 32) (ls2 := [vr 0, vi x1, vi x2, vi x3]) (st2 := [.int x3]) rfl ?_
  refine R_top h5 ?_
  refine R_S q64 1 (pc2 := 108) (ls2 := [vr 0, vi x1, vi x2, vi x3]) (st2 := []) rfl ?_
  refine R_S q64 5 (pc2 := 119) (ls2 := [vr 0, vi x1, vi x2, vi x3]) (st2 := [.ref 19, .ref 70]) rfl ?_
  refine R_call q64 rfl rfl rfl rfl rfl rfl h6 ?_
  show Rm E 64 122 [vr 0, vi x1, vi x2, vi x3] [.int c4] N1 _ _
  refine R_S q64 2 (pc2 := 125) (ls2 := [vr 0, vi x1, vi x2, vi x3]) (st2 := [.int (c4 + 1000000)]) rfl ?_
  exact R_ret rfl q64 rfl rfl rfl rfl (stpR_i rfl rfl)
-- call X9_isPost 5- call X9_isPost 13+ call X4_lead 32=4 call X4_greatest
theorem b64_0_6 {E : env} {M : mem} {x1 x2 x3 : Int32} {c1 : Int32} {c2 : Int32} {N1 : mem} {c4 : Int32} (h0 : Rm E 83 0 [vr 0, vi x1] [] M (some (.int c1)) M) (h1 : ¬ (c1 = 0)) (h2 : Rm E 83 0 [vr 0, vi x2] [] M (some (.int c2)) M) (h3 : ¬ c2 = 0) (h4 : Rm E 23 0 [vr 70, vr 9, vi x1, vi x2, vn, vn, vn, vn] [] M none N1) (h5 : x3 = 4) (h6 : Rm E 27 0 [vr 70, vr 19, vn, vn] [] N1 (some (.int c4)) N1) : Rm E 64 0 [vr 0, vi x1, vi x2, vi x3] [] M (some (.int (c4 + 1000000))) N1 := by
  refine R_S q64 2 (pc2 := 2) (ls2 := [vr 0, vi x1, vi x2, vi x3]) (st2 := [.int x1, .ref 0]) rfl ?_
  refine R_call q64 rfl rfl rfl rfl rfl rfl h0 ?_
  show Rm E 64 5 [vr 0, vi x1, vi x2, vi x3] [.int c1] M _ _
  refine R_iff q64 rfl (decide_eq_false h1) ?_
  show Rm E 64 8 [vr 0, vi x1, vi x2, vi x3] [] M _ _
  refine R_S q64 2 (pc2 := 10) (ls2 := [vr 0, vi x1, vi x2, vi x3]) (st2 := [.int x2, .ref 0]) rfl ?_
  refine R_call q64 rfl rfl rfl rfl rfl rfl h2 ?_
  show Rm E 64 13 [vr 0, vi x1, vi x2, vi x3] [.int c2] M _ _
  refine R_ift q64 rfl (decide_eq_true h3) ?_
  show Rm E 64 18 [vr 0, vi x1, vi x2, vi x3] [] M _ _
  refine R_S q64 6 (pc2 := 28) (ls2 := [vr 0, vi x1, vi x2, vi x3]) (st2 := [.int x2, .int x1, .ref 9, .ref 70]) rfl ?_
  refine R_call q64 rfl rfl rfl rfl rfl rfl h4 ?_
  show Rm E 64 31 [vr 0, vi x1, vi x2, vi x3] [] N1 _ _
  refine R_S q64 1 (pc2 := 32) (ls2 := [vr 0, vi x1, vi x2, vi x3]) (st2 := [.int x3]) rfl ?_
  refine R_top h5 ?_
  refine R_S q64 1 (pc2 := 126) (ls2 := [vr 0, vi x1, vi x2, vi x3]) (st2 := []) rfl ?_
  refine R_S q64 5 (pc2 := 137) (ls2 := [vr 0, vi x1, vi x2, vi x3]) (st2 := [.ref 19, .ref 70]) rfl ?_
  refine R_call q64 rfl rfl rfl rfl rfl rfl h6 ?_
  show Rm E 64 140 [vr 0, vi x1, vi x2, vi x3] [.int c4] N1 _ _
  refine R_S q64 2 (pc2 := 143) (ls2 := [vr 0, vi x1, vi x2, vi x3]) (st2 := [.int (c4 + 1000000)]) rfl ?_
  exact R_ret rfl q64 rfl rfl rfl rfl (stpR_i rfl rfl)
-- call X9_isPost 5- call X9_isPost 13+ call X4_lead 32=5 call X4_least
theorem b64_0_7 {E : env} {M : mem} {x1 x2 x3 : Int32} {c1 : Int32} {c2 : Int32} {N1 : mem} {c4 : Int32} (h0 : Rm E 83 0 [vr 0, vi x1] [] M (some (.int c1)) M) (h1 : ¬ (c1 = 0)) (h2 : Rm E 83 0 [vr 0, vi x2] [] M (some (.int c2)) M) (h3 : ¬ c2 = 0) (h4 : Rm E 23 0 [vr 70, vr 9, vi x1, vi x2, vn, vn, vn, vn] [] M none N1) (h5 : x3 = 5) (h6 : Rm E 28 0 [vr 70, vr 19, vn, vn] [] N1 (some (.int c4)) N1) : Rm E 64 0 [vr 0, vi x1, vi x2, vi x3] [] M (some (.int (c4 + 1000000))) N1 := by
  refine R_S q64 2 (pc2 := 2) (ls2 := [vr 0, vi x1, vi x2, vi x3]) (st2 := [.int x1, .ref 0]) rfl ?_
  refine R_call q64 rfl rfl rfl rfl rfl rfl h0 ?_
  show Rm E 64 5 [vr 0, vi x1, vi x2, vi x3] [.int c1] M _ _
  refine R_iff q64 rfl (decide_eq_false h1) ?_
  show Rm E 64 8 [vr 0, vi x1, vi x2, vi x3] [] M _ _
  refine R_S q64 2 (pc2 := 10) (ls2 := [vr 0, vi x1, vi x2, vi x3]) (st2 := [.int x2, .ref 0]) rfl ?_
  refine R_call q64 rfl rfl rfl rfl rfl rfl h2 ?_
  show Rm E 64 13 [vr 0, vi x1, vi x2, vi x3] [.int c2] M _ _
  refine R_ift q64 rfl (decide_eq_true h3) ?_
  show Rm E 64 18 [vr 0, vi x1, vi x2, vi x3] [] M _ _
  refine R_S q64 6 (pc2 := 28) (ls2 := [vr 0, vi x1, vi x2, vi x3]) (st2 := [.int x2, .int x1, .ref 9, .ref 70]) rfl ?_
  refine R_call q64 rfl rfl rfl rfl rfl rfl h4 ?_
  show Rm E 64 31 [vr 0, vi x1, vi x2, vi x3] [] N1 _ _
  refine R_S q64 1 (pc2 := 32) (ls2 := [vr 0, vi x1, vi x2, vi x3]) (st2 := [.int x3]) rfl ?_
  refine R_top h5 ?_
  refine R_S q64 1 (pc2 := 144) (ls2 := [vr 0, vi x1, vi x2, vi x3]) (st2 := []) rfl ?_
  refine R_S q64 5 (pc2 := 155) (ls2 := [vr 0, vi x1, vi x2, vi x3]) (st2 := [.ref 19, .ref 70]) rfl ?_
  refine R_call q64 rfl rfl rfl rfl rfl rfl h6 ?_
  show Rm E 64 158 [vr 0, vi x1, vi x2, vi x3] [.int c4] N1 _ _
  refine R_S q64 2 (pc2 := 161) (ls2 := [vr 0, vi x1, vi x2, vi x3]) (st2 := [.int (c4 + 1000000)]) rfl ?_
  exact R_ret rfl q64 rfl rfl rfl rfl (stpR_i rfl rfl)
-- call X9_isPost 5- call X9_isPost 13+ call X4_lead 32=6 call X4_gain
theorem b64_0_8 {E : env} {M : mem} {x1 x2 x3 : Int32} {c1 : Int32} {c2 : Int32} {N1 : mem} {c4 : Int32} (h0 : Rm E 83 0 [vr 0, vi x1] [] M (some (.int c1)) M) (h1 : ¬ (c1 = 0)) (h2 : Rm E 83 0 [vr 0, vi x2] [] M (some (.int c2)) M) (h3 : ¬ c2 = 0) (h4 : Rm E 23 0 [vr 70, vr 9, vi x1, vi x2, vn, vn, vn, vn] [] M none N1) (h5 : x3 = 6) (h6 : Rm E 29 0 [vr 70, vr 19, vn, vn, vn] [] N1 (some (.int c4)) N1) : Rm E 64 0 [vr 0, vi x1, vi x2, vi x3] [] M (some (.int c4)) N1 := by
  refine R_S q64 2 (pc2 := 2) (ls2 := [vr 0, vi x1, vi x2, vi x3]) (st2 := [.int x1, .ref 0]) rfl ?_
  refine R_call q64 rfl rfl rfl rfl rfl rfl h0 ?_
  show Rm E 64 5 [vr 0, vi x1, vi x2, vi x3] [.int c1] M _ _
  refine R_iff q64 rfl (decide_eq_false h1) ?_
  show Rm E 64 8 [vr 0, vi x1, vi x2, vi x3] [] M _ _
  refine R_S q64 2 (pc2 := 10) (ls2 := [vr 0, vi x1, vi x2, vi x3]) (st2 := [.int x2, .ref 0]) rfl ?_
  refine R_call q64 rfl rfl rfl rfl rfl rfl h2 ?_
  show Rm E 64 13 [vr 0, vi x1, vi x2, vi x3] [.int c2] M _ _
  refine R_ift q64 rfl (decide_eq_true h3) ?_
  show Rm E 64 18 [vr 0, vi x1, vi x2, vi x3] [] M _ _
  refine R_S q64 6 (pc2 := 28) (ls2 := [vr 0, vi x1, vi x2, vi x3]) (st2 := [.int x2, .int x1, .ref 9, .ref 70]) rfl ?_
  refine R_call q64 rfl rfl rfl rfl rfl rfl h4 ?_
  show Rm E 64 31 [vr 0, vi x1, vi x2, vi x3] [] N1 _ _
  refine R_S q64 1 (pc2 := 32) (ls2 := [vr 0, vi x1, vi x2, vi x3]) (st2 := [.int x3]) rfl ?_
  refine R_top h5 ?_
  refine R_S q64 1 (pc2 := 162) (ls2 := [vr 0, vi x1, vi x2, vi x3]) (st2 := []) rfl ?_
  refine R_S q64 5 (pc2 := 173) (ls2 := [vr 0, vi x1, vi x2, vi x3]) (st2 := [.ref 19, .ref 70]) rfl ?_
  refine R_call q64 rfl rfl rfl rfl rfl rfl h6 ?_
  show Rm E 64 176 [vr 0, vi x1, vi x2, vi x3] [.int c4] N1 _ _
  exact R_ret rfl q64 rfl rfl rfl rfl (stpR_i rfl rfl)
-- call X9_isPost 5- call X9_isPost 13+ call X4_lead 32=7 call X2_on
theorem b64_0_9 {E : env} {M : mem} {x1 x2 x3 : Int32} {c1 : Int32} {c2 : Int32} {N1 : mem} {c4 : Int32} (h0 : Rm E 83 0 [vr 0, vi x1] [] M (some (.int c1)) M) (h1 : ¬ (c1 = 0)) (h2 : Rm E 83 0 [vr 0, vi x2] [] M (some (.int c2)) M) (h3 : ¬ c2 = 0) (h4 : Rm E 23 0 [vr 70, vr 9, vi x1, vi x2, vn, vn, vn, vn] [] M none N1) (h5 : x3 = 7) (h6 : Rm E 10 0 [vr 76, vr 70, vn, vn] [] N1 (some (.int c4)) N1) : Rm E 64 0 [vr 0, vi x1, vi x2, vi x3] [] M (some (.int c4)) N1 := by
  refine R_S q64 2 (pc2 := 2) (ls2 := [vr 0, vi x1, vi x2, vi x3]) (st2 := [.int x1, .ref 0]) rfl ?_
  refine R_call q64 rfl rfl rfl rfl rfl rfl h0 ?_
  show Rm E 64 5 [vr 0, vi x1, vi x2, vi x3] [.int c1] M _ _
  refine R_iff q64 rfl (decide_eq_false h1) ?_
  show Rm E 64 8 [vr 0, vi x1, vi x2, vi x3] [] M _ _
  refine R_S q64 2 (pc2 := 10) (ls2 := [vr 0, vi x1, vi x2, vi x3]) (st2 := [.int x2, .ref 0]) rfl ?_
  refine R_call q64 rfl rfl rfl rfl rfl rfl h2 ?_
  show Rm E 64 13 [vr 0, vi x1, vi x2, vi x3] [.int c2] M _ _
  refine R_ift q64 rfl (decide_eq_true h3) ?_
  show Rm E 64 18 [vr 0, vi x1, vi x2, vi x3] [] M _ _
  refine R_S q64 6 (pc2 := 28) (ls2 := [vr 0, vi x1, vi x2, vi x3]) (st2 := [.int x2, .int x1, .ref 9, .ref 70]) rfl ?_
  refine R_call q64 rfl rfl rfl rfl rfl rfl h4 ?_
  show Rm E 64 31 [vr 0, vi x1, vi x2, vi x3] [] N1 _ _
  refine R_S q64 1 (pc2 := 32) (ls2 := [vr 0, vi x1, vi x2, vi x3]) (st2 := [.int x3]) rfl ?_
  refine R_top h5 ?_
  refine R_S q64 1 (pc2 := 177) (ls2 := [vr 0, vi x1, vi x2, vi x3]) (st2 := []) rfl ?_
  refine R_S q64 4 (pc2 := 185) (ls2 := [vr 0, vi x1, vi x2, vi x3]) (st2 := [.ref 70, .ref 76]) rfl ?_
  refine R_call q64 rfl rfl rfl rfl rfl rfl h6 ?_
  show Rm E 64 188 [vr 0, vi x1, vi x2, vi x3] [.int c4] N1 _ _
  exact R_ret rfl q64 rfl rfl rfl rfl (stpR_i rfl rfl)
-- call X9_isPost 5- call X9_isPost 13-
theorem b64_0_10 {E : env} {M : mem} {x1 x2 x3 : Int32} {c1 : Int32} {c2 : Int32} (h0 : Rm E 83 0 [vr 0, vi x1] [] M (some (.int c1)) M) (h1 : ¬ (c1 = 0)) (h2 : Rm E 83 0 [vr 0, vi x2] [] M (some (.int c2)) M) (h3 : ¬ (¬ c2 = 0)) : Rm E 64 0 [vr 0, vi x1, vi x2, vi x3] [] M (some (.int (-1))) M := by
  refine R_S q64 2 (pc2 := 2) (ls2 := [vr 0, vi x1, vi x2, vi x3]) (st2 := [.int x1, .ref 0]) rfl ?_
  refine R_call q64 rfl rfl rfl rfl rfl rfl h0 ?_
  show Rm E 64 5 [vr 0, vi x1, vi x2, vi x3] [.int c1] M _ _
  refine R_iff q64 rfl (decide_eq_false h1) ?_
  show Rm E 64 8 [vr 0, vi x1, vi x2, vi x3] [] M _ _
  refine R_S q64 2 (pc2 := 10) (ls2 := [vr 0, vi x1, vi x2, vi x3]) (st2 := [.int x2, .ref 0]) rfl ?_
  refine R_call q64 rfl rfl rfl rfl rfl rfl h2 ?_
  show Rm E 64 13 [vr 0, vi x1, vi x2, vi x3] [.int c2] M _ _
  refine R_iff q64 rfl (decide_eq_false h3) ?_
  show Rm E 64 16 [vr 0, vi x1, vi x2, vi x3] [] M _ _
  refine R_S q64 1 (pc2 := 17) (ls2 := [vr 0, vi x1, vi x2, vi x3]) (st2 := [.int (-1)]) rfl ?_
  exact R_ret rfl q64 rfl rfl rfl rfl (stpR_i rfl rfl)
-- 65 HeavyChains.step(III)I  cuts [0]
theorem q65 : cdOf 65 = some mt65 := rfl
-- call X9_isPost 5+
theorem b65_0_0 {E : env} {M : mem} {x1 x2 x3 : Int32} {c1 : Int32} (h0 : Rm E 83 0 [vr 0, vi x1] [] M (some (.int c1)) M) (h1 : c1 = 0) : Rm E 65 0 [vr 0, vi x1, vi x2, vi x3] [] M (some (.int (-1))) M := by
  refine R_S q65 2 (pc2 := 2) (ls2 := [vr 0, vi x1, vi x2, vi x3]) (st2 := [.int x1, .ref 0]) rfl ?_
  refine R_call q65 rfl rfl rfl rfl rfl rfl h0 ?_
  show Rm E 65 5 [vr 0, vi x1, vi x2, vi x3] [.int c1] M _ _
  refine R_ift q65 rfl (decide_eq_true h1) ?_
  show Rm E 65 20 [vr 0, vi x1, vi x2, vi x3] [] M _ _
  refine R_S q65 1 (pc2 := 21) (ls2 := [vr 0, vi x1, vi x2, vi x3]) (st2 := [.int (-1)]) rfl ?_
  exact R_ret rfl q65 rfl rfl rfl rfl (stpR_i rfl rfl)
-- call X9_isPost 5- call X9_isPost 13+
theorem b65_0_1 {E : env} {M : mem} {x1 x2 x3 : Int32} {c1 : Int32} {c2 : Int32} (h0 : Rm E 83 0 [vr 0, vi x1] [] M (some (.int c1)) M) (h1 : ¬ (c1 = 0)) (h2 : Rm E 83 0 [vr 0, vi x2] [] M (some (.int c2)) M) (h3 : c2 = 0) : Rm E 65 0 [vr 0, vi x1, vi x2, vi x3] [] M (some (.int (-1))) M := by
  refine R_S q65 2 (pc2 := 2) (ls2 := [vr 0, vi x1, vi x2, vi x3]) (st2 := [.int x1, .ref 0]) rfl ?_
  refine R_call q65 rfl rfl rfl rfl rfl rfl h0 ?_
  show Rm E 65 5 [vr 0, vi x1, vi x2, vi x3] [.int c1] M _ _
  refine R_iff q65 rfl (decide_eq_false h1) ?_
  show Rm E 65 8 [vr 0, vi x1, vi x2, vi x3] [] M _ _
  refine R_S q65 2 (pc2 := 10) (ls2 := [vr 0, vi x1, vi x2, vi x3]) (st2 := [.int x2, .ref 0]) rfl ?_
  refine R_call q65 rfl rfl rfl rfl rfl rfl h2 ?_
  show Rm E 65 13 [vr 0, vi x1, vi x2, vi x3] [.int c2] M _ _
  refine R_ift q65 rfl (decide_eq_true h3) ?_
  show Rm E 65 20 [vr 0, vi x1, vi x2, vi x3] [] M _ _
  refine R_S q65 1 (pc2 := 21) (ls2 := [vr 0, vi x1, vi x2, vi x3]) (st2 := [.int (-1)]) rfl ?_
  exact R_ret rfl q65 rfl rfl rfl rfl (stpR_i rfl rfl)
-- call X9_isPost 5- call X9_isPost 13- 17+ call X4_lead 43+
theorem b65_0_2 {E : env} {M : mem} {x1 x2 x3 : Int32} {c1 : Int32} {c2 : Int32} {N1 : mem} (h0 : Rm E 83 0 [vr 0, vi x1] [] M (some (.int c1)) M) (h1 : ¬ (c1 = 0)) (h2 : Rm E 83 0 [vr 0, vi x2] [] M (some (.int c2)) M) (h3 : ¬ (c2 = 0)) (h4 : 0 ≤ x3) (h5 : Rm E 23 0 [vr 70, vr 9, vi x1, vi x2, vn, vn, vn, vn] [] M none N1) (h6 : N1.1 70 1 ≤ x3) : Rm E 65 0 [vr 0, vi x1, vi x2, vi x3] [] M (some (.int (-4))) N1 := by
  refine R_S q65 2 (pc2 := 2) (ls2 := [vr 0, vi x1, vi x2, vi x3]) (st2 := [.int x1, .ref 0]) rfl ?_
  refine R_call q65 rfl rfl rfl rfl rfl rfl h0 ?_
  show Rm E 65 5 [vr 0, vi x1, vi x2, vi x3] [.int c1] M _ _
  refine R_iff q65 rfl (decide_eq_false h1) ?_
  show Rm E 65 8 [vr 0, vi x1, vi x2, vi x3] [] M _ _
  refine R_S q65 2 (pc2 := 10) (ls2 := [vr 0, vi x1, vi x2, vi x3]) (st2 := [.int x2, .ref 0]) rfl ?_
  refine R_call q65 rfl rfl rfl rfl rfl rfl h2 ?_
  show Rm E 65 13 [vr 0, vi x1, vi x2, vi x3] [.int c2] M _ _
  refine R_iff q65 rfl (decide_eq_false h3) ?_
  show Rm E 65 16 [vr 0, vi x1, vi x2, vi x3] [] M _ _
  refine R_S q65 1 (pc2 := 17) (ls2 := [vr 0, vi x1, vi x2, vi x3]) (st2 := [.int x3]) rfl ?_
  refine R_ift q65 rfl (decide_eq_true h4) ?_
  show Rm E 65 22 [vr 0, vi x1, vi x2, vi x3] [] M _ _
  refine R_S q65 6 (pc2 := 32) (ls2 := [vr 0, vi x1, vi x2, vi x3]) (st2 := [.int x2, .int x1, .ref 9, .ref 70]) rfl ?_
  refine R_call q65 rfl rfl rfl rfl rfl rfl h5 ?_
  show Rm E 65 35 [vr 0, vi x1, vi x2, vi x3] [] N1 _ _
  refine R_S q65 4 (pc2 := 43) (ls2 := [vr 0, vi x1, vi x2, vi x3]) (st2 := [.int (N1.1 70 1), .int x3]) rfl ?_
  refine R_ict q65 rfl (decide_eq_true h6) ?_
  show Rm E 65 58 [vr 0, vi x1, vi x2, vi x3] [] N1 _ _
  refine R_S q65 1 (pc2 := 60) (ls2 := [vr 0, vi x1, vi x2, vi x3]) (st2 := [.int (-4)]) rfl ?_
  exact R_ret rfl q65 rfl rfl rfl rfl (stpR_i rfl rfl)
-- call X9_isPost 5- call X9_isPost 13- 17+ call X4_lead 43-
theorem b65_0_3 {E : env} {M : mem} {x1 x2 x3 : Int32} {c1 : Int32} {c2 : Int32} {N1 : mem} (h0 : Rm E 83 0 [vr 0, vi x1] [] M (some (.int c1)) M) (h1 : ¬ (c1 = 0)) (h2 : Rm E 83 0 [vr 0, vi x2] [] M (some (.int c2)) M) (h3 : ¬ (c2 = 0)) (h4 : 0 ≤ x3) (h5 : Rm E 23 0 [vr 70, vr 9, vi x1, vi x2, vn, vn, vn, vn] [] M none N1) (h6 : ¬ (N1.1 70 1 ≤ x3)) (h7 : inR x3 30) : Rm E 65 0 [vr 0, vi x1, vi x2, vi x3] [] M (some (.int (N1.1 71 x3.toNatClampNeg))) N1 := by
  refine R_S q65 2 (pc2 := 2) (ls2 := [vr 0, vi x1, vi x2, vi x3]) (st2 := [.int x1, .ref 0]) rfl ?_
  refine R_call q65 rfl rfl rfl rfl rfl rfl h0 ?_
  show Rm E 65 5 [vr 0, vi x1, vi x2, vi x3] [.int c1] M _ _
  refine R_iff q65 rfl (decide_eq_false h1) ?_
  show Rm E 65 8 [vr 0, vi x1, vi x2, vi x3] [] M _ _
  refine R_S q65 2 (pc2 := 10) (ls2 := [vr 0, vi x1, vi x2, vi x3]) (st2 := [.int x2, .ref 0]) rfl ?_
  refine R_call q65 rfl rfl rfl rfl rfl rfl h2 ?_
  show Rm E 65 13 [vr 0, vi x1, vi x2, vi x3] [.int c2] M _ _
  refine R_iff q65 rfl (decide_eq_false h3) ?_
  show Rm E 65 16 [vr 0, vi x1, vi x2, vi x3] [] M _ _
  refine R_S q65 1 (pc2 := 17) (ls2 := [vr 0, vi x1, vi x2, vi x3]) (st2 := [.int x3]) rfl ?_
  refine R_ift q65 rfl (decide_eq_true h4) ?_
  show Rm E 65 22 [vr 0, vi x1, vi x2, vi x3] [] M _ _
  refine R_S q65 6 (pc2 := 32) (ls2 := [vr 0, vi x1, vi x2, vi x3]) (st2 := [.int x2, .int x1, .ref 9, .ref 70]) rfl ?_
  refine R_call q65 rfl rfl rfl rfl rfl rfl h5 ?_
  show Rm E 65 35 [vr 0, vi x1, vi x2, vi x3] [] N1 _ _
  refine R_S q65 4 (pc2 := 43) (ls2 := [vr 0, vi x1, vi x2, vi x3]) (st2 := [.int (N1.1 70 1), .int x3]) rfl ?_
  refine R_icf q65 rfl (decide_eq_false h6) ?_
  show Rm E 65 46 [vr 0, vi x1, vi x2, vi x3] [] N1 _ _
  refine R_S q65 4 (pc2 := 54) (ls2 := [vr 0, vi x1, vi x2, vi x3]) (st2 := [.int x3, .ref 71]) rfl ?_
  refine R_ial q65 rfl rfl h7 ?_
  show Rm E 65 55 [vr 0, vi x1, vi x2, vi x3] [.int (N1.1 71 x3.toNatClampNeg)] N1 _ _
  refine R_S q65 1 (pc2 := 60) (ls2 := [vr 0, vi x1, vi x2, vi x3]) (st2 := [.int (N1.1 71 x3.toNatClampNeg)]) rfl ?_
  exact R_ret rfl q65 rfl rfl rfl rfl (stpR_i rfl rfl)
-- call X9_isPost 5- call X9_isPost 13- 17-
theorem b65_0_4 {E : env} {M : mem} {x1 x2 x3 : Int32} {c1 : Int32} {c2 : Int32} (h0 : Rm E 83 0 [vr 0, vi x1] [] M (some (.int c1)) M) (h1 : ¬ (c1 = 0)) (h2 : Rm E 83 0 [vr 0, vi x2] [] M (some (.int c2)) M) (h3 : ¬ (c2 = 0)) (h4 : ¬ (0 ≤ x3)) : Rm E 65 0 [vr 0, vi x1, vi x2, vi x3] [] M (some (.int (-1))) M := by
  refine R_S q65 2 (pc2 := 2) (ls2 := [vr 0, vi x1, vi x2, vi x3]) (st2 := [.int x1, .ref 0]) rfl ?_
  refine R_call q65 rfl rfl rfl rfl rfl rfl h0 ?_
  show Rm E 65 5 [vr 0, vi x1, vi x2, vi x3] [.int c1] M _ _
  refine R_iff q65 rfl (decide_eq_false h1) ?_
  show Rm E 65 8 [vr 0, vi x1, vi x2, vi x3] [] M _ _
  refine R_S q65 2 (pc2 := 10) (ls2 := [vr 0, vi x1, vi x2, vi x3]) (st2 := [.int x2, .ref 0]) rfl ?_
  refine R_call q65 rfl rfl rfl rfl rfl rfl h2 ?_
  show Rm E 65 13 [vr 0, vi x1, vi x2, vi x3] [.int c2] M _ _
  refine R_iff q65 rfl (decide_eq_false h3) ?_
  show Rm E 65 16 [vr 0, vi x1, vi x2, vi x3] [] M _ _
  refine R_S q65 1 (pc2 := 17) (ls2 := [vr 0, vi x1, vi x2, vi x3]) (st2 := [.int x3]) rfl ?_
  refine R_iff q65 rfl (decide_eq_false h4) ?_
  show Rm E 65 20 [vr 0, vi x1, vi x2, vi x3] [] M _ _
  refine R_S q65 1 (pc2 := 21) (ls2 := [vr 0, vi x1, vi x2, vi x3]) (st2 := [.int (-1)]) rfl ?_
  exact R_ret rfl q65 rfl rfl rfl rfl (stpR_i rfl rfl)
-- 66 HeavyChains.through(III)I  cuts [0]
theorem q66 : cdOf 66 = some mt66 := rfl
-- call X9_isPost 5+
theorem b66_0_0 {E : env} {M : mem} {x1 x2 x3 : Int32} {c1 : Int32} (h0 : Rm E 83 0 [vr 0, vi x1] [] M (some (.int c1)) M) (h1 : c1 = 0) : Rm E 66 0 [vr 0, vi x1, vi x2, vi x3] [] M (some (.int (-1))) M := by
  refine R_S q66 2 (pc2 := 2) (ls2 := [vr 0, vi x1, vi x2, vi x3]) (st2 := [.int x1, .ref 0]) rfl ?_
  refine R_call q66 rfl rfl rfl rfl rfl rfl h0 ?_
  show Rm E 66 5 [vr 0, vi x1, vi x2, vi x3] [.int c1] M _ _
  refine R_ift q66 rfl (decide_eq_true h1) ?_
  show Rm E 66 26 [vr 0, vi x1, vi x2, vi x3] [] M _ _
  refine R_S q66 1 (pc2 := 27) (ls2 := [vr 0, vi x1, vi x2, vi x3]) (st2 := [.int (-1)]) rfl ?_
  exact R_ret rfl q66 rfl rfl rfl rfl (stpR_i rfl rfl)
-- call X9_isPost 5- call X9_isPost 13+
theorem b66_0_1 {E : env} {M : mem} {x1 x2 x3 : Int32} {c1 : Int32} {c2 : Int32} (h0 : Rm E 83 0 [vr 0, vi x1] [] M (some (.int c1)) M) (h1 : ¬ (c1 = 0)) (h2 : Rm E 83 0 [vr 0, vi x2] [] M (some (.int c2)) M) (h3 : c2 = 0) : Rm E 66 0 [vr 0, vi x1, vi x2, vi x3] [] M (some (.int (-1))) M := by
  refine R_S q66 2 (pc2 := 2) (ls2 := [vr 0, vi x1, vi x2, vi x3]) (st2 := [.int x1, .ref 0]) rfl ?_
  refine R_call q66 rfl rfl rfl rfl rfl rfl h0 ?_
  show Rm E 66 5 [vr 0, vi x1, vi x2, vi x3] [.int c1] M _ _
  refine R_iff q66 rfl (decide_eq_false h1) ?_
  show Rm E 66 8 [vr 0, vi x1, vi x2, vi x3] [] M _ _
  refine R_S q66 2 (pc2 := 10) (ls2 := [vr 0, vi x1, vi x2, vi x3]) (st2 := [.int x2, .ref 0]) rfl ?_
  refine R_call q66 rfl rfl rfl rfl rfl rfl h2 ?_
  show Rm E 66 13 [vr 0, vi x1, vi x2, vi x3] [.int c2] M _ _
  refine R_ift q66 rfl (decide_eq_true h3) ?_
  show Rm E 66 26 [vr 0, vi x1, vi x2, vi x3] [] M _ _
  refine R_S q66 1 (pc2 := 27) (ls2 := [vr 0, vi x1, vi x2, vi x3]) (st2 := [.int (-1)]) rfl ?_
  exact R_ret rfl q66 rfl rfl rfl rfl (stpR_i rfl rfl)
-- call X9_isPost 5- call X9_isPost 13- call X9_within 23+ call X4_lead call X4_carry
theorem b66_0_2 {E : env} {M : mem} {x1 x2 x3 : Int32} {c1 : Int32} {c2 : Int32} {c3 : Int32} {N1 : mem} {c5 : Int32} (h0 : Rm E 83 0 [vr 0, vi x1] [] M (some (.int c1)) M) (h1 : ¬ (c1 = 0)) (h2 : Rm E 83 0 [vr 0, vi x2] [] M (some (.int c2)) M) (h3 : ¬ (c2 = 0)) (h4 : Rm E 81 0 [vi x3, vi 0, vi 96] [] M (some (.int c3)) M) (h5 : ¬ c3 = 0) (h6 : Rm E 23 0 [vr 70, vr 9, vi x1, vi x2, vn, vn, vn, vn] [] M none N1) (h7 : Rm E 30 0 [vr 70, vr 18, vi x3, vn, vn] [] N1 (some (.int c5)) N1) : Rm E 66 0 [vr 0, vi x1, vi x2, vi x3] [] M (some (.int c5)) N1 := by
  refine R_S q66 2 (pc2 := 2) (ls2 := [vr 0, vi x1, vi x2, vi x3]) (st2 := [.int x1, .ref 0]) rfl ?_
  refine R_call q66 rfl rfl rfl rfl rfl rfl h0 ?_
  show Rm E 66 5 [vr 0, vi x1, vi x2, vi x3] [.int c1] M _ _
  refine R_iff q66 rfl (decide_eq_false h1) ?_
  show Rm E 66 8 [vr 0, vi x1, vi x2, vi x3] [] M _ _
  refine R_S q66 2 (pc2 := 10) (ls2 := [vr 0, vi x1, vi x2, vi x3]) (st2 := [.int x2, .ref 0]) rfl ?_
  refine R_call q66 rfl rfl rfl rfl rfl rfl h2 ?_
  show Rm E 66 13 [vr 0, vi x1, vi x2, vi x3] [.int c2] M _ _
  refine R_iff q66 rfl (decide_eq_false h3) ?_
  show Rm E 66 16 [vr 0, vi x1, vi x2, vi x3] [] M _ _
  refine R_S q66 3 (pc2 := 20) (ls2 := [vr 0, vi x1, vi x2, vi x3]) (st2 := [.int 96, .int 0, .int x3]) rfl ?_
  refine R_call q66 rfl rfl rfl rfl rfl rfl h4 ?_
  show Rm E 66 23 [vr 0, vi x1, vi x2, vi x3] [.int c3] M _ _
  refine R_ift q66 rfl (decide_eq_true h5) ?_
  show Rm E 66 28 [vr 0, vi x1, vi x2, vi x3] [] M _ _
  refine R_S q66 6 (pc2 := 38) (ls2 := [vr 0, vi x1, vi x2, vi x3]) (st2 := [.int x2, .int x1, .ref 9, .ref 70]) rfl ?_
  refine R_call q66 rfl rfl rfl rfl rfl rfl h6 ?_
  show Rm E 66 41 [vr 0, vi x1, vi x2, vi x3] [] N1 _ _
  refine R_S q66 5 (pc2 := 50) (ls2 := [vr 0, vi x1, vi x2, vi x3]) (st2 := [.int x3, .ref 18, .ref 70]) rfl ?_
  refine R_call q66 rfl rfl rfl rfl rfl rfl h7 ?_
  show Rm E 66 53 [vr 0, vi x1, vi x2, vi x3] [.int c5] N1 _ _
  exact R_ret rfl q66 rfl rfl rfl rfl (stpR_i rfl rfl)
-- call X9_isPost 5- call X9_isPost 13- call X9_within 23-
theorem b66_0_3 {E : env} {M : mem} {x1 x2 x3 : Int32} {c1 : Int32} {c2 : Int32} {c3 : Int32} (h0 : Rm E 83 0 [vr 0, vi x1] [] M (some (.int c1)) M) (h1 : ¬ (c1 = 0)) (h2 : Rm E 83 0 [vr 0, vi x2] [] M (some (.int c2)) M) (h3 : ¬ (c2 = 0)) (h4 : Rm E 81 0 [vi x3, vi 0, vi 96] [] M (some (.int c3)) M) (h5 : ¬ (¬ c3 = 0)) : Rm E 66 0 [vr 0, vi x1, vi x2, vi x3] [] M (some (.int (-1))) M := by
  refine R_S q66 2 (pc2 := 2) (ls2 := [vr 0, vi x1, vi x2, vi x3]) (st2 := [.int x1, .ref 0]) rfl ?_
  refine R_call q66 rfl rfl rfl rfl rfl rfl h0 ?_
  show Rm E 66 5 [vr 0, vi x1, vi x2, vi x3] [.int c1] M _ _
  refine R_iff q66 rfl (decide_eq_false h1) ?_
  show Rm E 66 8 [vr 0, vi x1, vi x2, vi x3] [] M _ _
  refine R_S q66 2 (pc2 := 10) (ls2 := [vr 0, vi x1, vi x2, vi x3]) (st2 := [.int x2, .ref 0]) rfl ?_
  refine R_call q66 rfl rfl rfl rfl rfl rfl h2 ?_
  show Rm E 66 13 [vr 0, vi x1, vi x2, vi x3] [.int c2] M _ _
  refine R_iff q66 rfl (decide_eq_false h3) ?_
  show Rm E 66 16 [vr 0, vi x1, vi x2, vi x3] [] M _ _
  refine R_S q66 3 (pc2 := 20) (ls2 := [vr 0, vi x1, vi x2, vi x3]) (st2 := [.int 96, .int 0, .int x3]) rfl ?_
  refine R_call q66 rfl rfl rfl rfl rfl rfl h4 ?_
  show Rm E 66 23 [vr 0, vi x1, vi x2, vi x3] [.int c3] M _ _
  refine R_iff q66 rfl (decide_eq_false h5) ?_
  show Rm E 66 26 [vr 0, vi x1, vi x2, vi x3] [] M _ _
  refine R_S q66 1 (pc2 := 27) (ls2 := [vr 0, vi x1, vi x2, vi x3]) (st2 := [.int (-1)]) rfl ?_
  exact R_ret rfl q66 rfl rfl rfl rfl (stpR_i rfl rfl)
-- 67 HeavyChains.below(II)I  cuts [0]
theorem q67 : cdOf 67 = some mt67 := rfl
-- call X9_isPost 5+ call X4_cover 23=else
theorem b67_0_0 {E : env} {M : mem} {x1 x2 : Int32} {c1 : Int32} {N1 : mem} (h0 : Rm E 83 0 [vr 0, vi x1] [] M (some (.int c1)) M) (h1 : ¬ c1 = 0) (h2 : Rm E 24 0 [vr 70, vr 9, vi x1, vn] [] M none N1) (h3 : (x2).toInt < 0 ∨ 2 < (x2).toInt) : Rm E 67 0 [vr 0, vi x1, vi x2] [] M (some (.int (-1))) N1 := by
  refine R_S q67 2 (pc2 := 2) (ls2 := [vr 0, vi x1, vi x2]) (st2 := [.int x1, .ref 0]) rfl ?_
  refine R_call q67 rfl rfl rfl rfl rfl rfl h0 ?_
  show Rm E 67 5 [vr 0, vi x1, vi x2] [.int c1] M _ _
  refine R_ift q67 rfl (decide_eq_true h1) ?_
  show Rm E 67 10 [vr 0, vi x1, vi x2] [] M _ _
  refine R_S q67 5 (pc2 := 19) (ls2 := [vr 0, vi x1, vi x2]) (st2 := [.int x1, .ref 9, .ref 70]) rfl ?_
  refine R_call q67 rfl rfl rfl rfl rfl rfl h2 ?_
  show Rm E 67 22 [vr 0, vi x1, vi x2] [] N1 _ _
  refine R_S q67 1 (pc2 := 23) (ls2 := [vr 0, vi x1, vi x2]) (st2 := [.int x2]) rfl ?_
  refine R_tsd q67 rfl h3 rfl ?_
  show Rm E 67 96 [vr 0, vi x1, vi x2] [] N1 _ _
  refine R_S q67 1 (pc2 := 97) (ls2 := [vr 0, vi x1, vi x2]) (st2 := [.int (-1)]) rfl ?_
  exact R_ret rfl q67 rfl rfl rfl rfl (stpR_i rfl rfl)
-- call X9_isPost 5+ call X4_cover 23=0 call X4_sum
theorem b67_0_1 {E : env} {M : mem} {x1 x2 : Int32} {c1 : Int32} {N1 : mem} {c3 : Int32} (h0 : Rm E 83 0 [vr 0, vi x1] [] M (some (.int c1)) M) (h1 : ¬ c1 = 0) (h2 : Rm E 24 0 [vr 70, vr 9, vi x1, vn] [] M none N1) (h3 : x2 = 0) (h4 : Rm E 26 0 [vr 70, vr 19, vn, vn] [] N1 (some (.int c3)) N1) : Rm E 67 0 [vr 0, vi x1, vi x2] [] M (some (.int (c3 + 1000000))) N1 := by
  refine R_S q67 2 (pc2 := 2) (ls2 := [vr 0, vi x1, vi x2]) (st2 := [.int x1, .ref 0]) rfl ?_
  refine R_call q67 rfl rfl rfl rfl rfl rfl h0 ?_
  show Rm E 67 5 [vr 0, vi x1, vi x2] [.int c1] M _ _
  refine R_ift q67 rfl (decide_eq_true h1) ?_
  show Rm E 67 10 [vr 0, vi x1, vi x2] [] M _ _
  refine R_S q67 5 (pc2 := 19) (ls2 := [vr 0, vi x1, vi x2]) (st2 := [.int x1, .ref 9, .ref 70]) rfl ?_
  refine R_call q67 rfl rfl rfl rfl rfl rfl h2 ?_
  show Rm E 67 22 [vr 0, vi x1, vi x2] [] N1 _ _
  refine R_S q67 1 (pc2 := 23) (ls2 := [vr 0, vi x1, vi x2]) (st2 := [.int x2]) rfl ?_
  refine R_top h3 ?_
  refine R_S q67 1 (pc2 := 48) (ls2 := [vr 0, vi x1, vi x2]) (st2 := []) rfl ?_
  refine R_S q67 5 (pc2 := 59) (ls2 := [vr 0, vi x1, vi x2]) (st2 := [.ref 19, .ref 70]) rfl ?_
  refine R_call q67 rfl rfl rfl rfl rfl rfl h4 ?_
  show Rm E 67 62 [vr 0, vi x1, vi x2] [.int c3] N1 _ _
  refine R_S q67 2 (pc2 := 65) (ls2 := [vr 0, vi x1, vi x2]) (st2 := [.int (c3 + 1000000)]) rfl ?_
  exact R_ret rfl q67 rfl rfl rfl rfl (stpR_i rfl rfl)
-- call X9_isPost 5+ call X4_cover 23=1 call X4_greatest
theorem b67_0_2 {E : env} {M : mem} {x1 x2 : Int32} {c1 : Int32} {N1 : mem} {c3 : Int32} (h0 : Rm E 83 0 [vr 0, vi x1] [] M (some (.int c1)) M) (h1 : ¬ c1 = 0) (h2 : Rm E 24 0 [vr 70, vr 9, vi x1, vn] [] M none N1) (h3 : x2 = 1) (h4 : Rm E 27 0 [vr 70, vr 19, vn, vn] [] N1 (some (.int c3)) N1) : Rm E 67 0 [vr 0, vi x1, vi x2] [] M (some (.int (c3 + 1000000))) N1 := by
  refine R_S q67 2 (pc2 := 2) (ls2 := [vr 0, vi x1, vi x2]) (st2 := [.int x1, .ref 0]) rfl ?_
  refine R_call q67 rfl rfl rfl rfl rfl rfl h0 ?_
  show Rm E 67 5 [vr 0, vi x1, vi x2] [.int c1] M _ _
  refine R_ift q67 rfl (decide_eq_true h1) ?_
  show Rm E 67 10 [vr 0, vi x1, vi x2] [] M _ _
  refine R_S q67 5 (pc2 := 19) (ls2 := [vr 0, vi x1, vi x2]) (st2 := [.int x1, .ref 9, .ref 70]) rfl ?_
  refine R_call q67 rfl rfl rfl rfl rfl rfl h2 ?_
  show Rm E 67 22 [vr 0, vi x1, vi x2] [] N1 _ _
  refine R_S q67 1 (pc2 := 23) (ls2 := [vr 0, vi x1, vi x2]) (st2 := [.int x2]) rfl ?_
  refine R_top h3 ?_
  refine R_S q67 1 (pc2 := 66) (ls2 := [vr 0, vi x1, vi x2]) (st2 := []) rfl ?_
  refine R_S q67 5 (pc2 := 77) (ls2 := [vr 0, vi x1, vi x2]) (st2 := [.ref 19, .ref 70]) rfl ?_
  refine R_call q67 rfl rfl rfl rfl rfl rfl h4 ?_
  show Rm E 67 80 [vr 0, vi x1, vi x2] [.int c3] N1 _ _
  refine R_S q67 2 (pc2 := 83) (ls2 := [vr 0, vi x1, vi x2]) (st2 := [.int (c3 + 1000000)]) rfl ?_
  exact R_ret rfl q67 rfl rfl rfl rfl (stpR_i rfl rfl)
-- call X9_isPost 5+ call X4_cover 23=2 call X2_on
theorem b67_0_3 {E : env} {M : mem} {x1 x2 : Int32} {c1 : Int32} {N1 : mem} {c3 : Int32} (h0 : Rm E 83 0 [vr 0, vi x1] [] M (some (.int c1)) M) (h1 : ¬ c1 = 0) (h2 : Rm E 24 0 [vr 70, vr 9, vi x1, vn] [] M none N1) (h3 : x2 = 2) (h4 : Rm E 10 0 [vr 76, vr 70, vn, vn] [] N1 (some (.int c3)) N1) : Rm E 67 0 [vr 0, vi x1, vi x2] [] M (some (.int c3)) N1 := by
  refine R_S q67 2 (pc2 := 2) (ls2 := [vr 0, vi x1, vi x2]) (st2 := [.int x1, .ref 0]) rfl ?_
  refine R_call q67 rfl rfl rfl rfl rfl rfl h0 ?_
  show Rm E 67 5 [vr 0, vi x1, vi x2] [.int c1] M _ _
  refine R_ift q67 rfl (decide_eq_true h1) ?_
  show Rm E 67 10 [vr 0, vi x1, vi x2] [] M _ _
  refine R_S q67 5 (pc2 := 19) (ls2 := [vr 0, vi x1, vi x2]) (st2 := [.int x1, .ref 9, .ref 70]) rfl ?_
  refine R_call q67 rfl rfl rfl rfl rfl rfl h2 ?_
  show Rm E 67 22 [vr 0, vi x1, vi x2] [] N1 _ _
  refine R_S q67 1 (pc2 := 23) (ls2 := [vr 0, vi x1, vi x2]) (st2 := [.int x2]) rfl ?_
  refine R_top h3 ?_
  refine R_S q67 1 (pc2 := 84) (ls2 := [vr 0, vi x1, vi x2]) (st2 := []) rfl ?_
  refine R_S q67 4 (pc2 := 92) (ls2 := [vr 0, vi x1, vi x2]) (st2 := [.ref 70, .ref 76]) rfl ?_
  refine R_call q67 rfl rfl rfl rfl rfl rfl h4 ?_
  show Rm E 67 95 [vr 0, vi x1, vi x2] [.int c3] N1 _ _
  exact R_ret rfl q67 rfl rfl rfl rfl (stpR_i rfl rfl)
-- call X9_isPost 5-
theorem b67_0_4 {E : env} {M : mem} {x1 x2 : Int32} {c1 : Int32} (h0 : Rm E 83 0 [vr 0, vi x1] [] M (some (.int c1)) M) (h1 : ¬ (¬ c1 = 0)) : Rm E 67 0 [vr 0, vi x1, vi x2] [] M (some (.int (-1))) M := by
  refine R_S q67 2 (pc2 := 2) (ls2 := [vr 0, vi x1, vi x2]) (st2 := [.int x1, .ref 0]) rfl ?_
  refine R_call q67 rfl rfl rfl rfl rfl rfl h0 ?_
  show Rm E 67 5 [vr 0, vi x1, vi x2] [.int c1] M _ _
  refine R_iff q67 rfl (decide_eq_false h1) ?_
  show Rm E 67 8 [vr 0, vi x1, vi x2] [] M _ _
  refine R_S q67 1 (pc2 := 9) (ls2 := [vr 0, vi x1, vi x2]) (st2 := [.int (-1)]) rfl ?_
  exact R_ret rfl q67 rfl rfl rfl rfl (stpR_i rfl rfl)
-- 68 HeavyChains.mark(III)I  cuts [0]
theorem q68 : cdOf 68 = some mt68 := rfl
-- call X9_isPost 5+
theorem b68_0_0 {E : env} {M : mem} {x1 x2 x3 : Int32} {c1 : Int32} (h0 : Rm E 83 0 [vr 0, vi x1] [] M (some (.int c1)) M) (h1 : c1 = 0) : Rm E 68 0 [vr 0, vi x1, vi x2, vi x3] [] M (some (.int (-1))) M := by
  refine R_S q68 2 (pc2 := 2) (ls2 := [vr 0, vi x1, vi x2, vi x3]) (st2 := [.int x1, .ref 0]) rfl ?_
  refine R_call q68 rfl rfl rfl rfl rfl rfl h0 ?_
  show Rm E 68 5 [vr 0, vi x1, vi x2, vi x3] [.int c1] M _ _
  refine R_ift q68 rfl (decide_eq_true h1) ?_
  show Rm E 68 25 [vr 0, vi x1, vi x2, vi x3] [] M _ _
  refine R_S q68 1 (pc2 := 26) (ls2 := [vr 0, vi x1, vi x2, vi x3]) (st2 := [.int (-1)]) rfl ?_
  exact R_ret rfl q68 rfl rfl rfl rfl (stpR_i rfl rfl)
-- call X9_isPost 5- call X9_isPost 13+
theorem b68_0_1 {E : env} {M : mem} {x1 x2 x3 : Int32} {c1 : Int32} {c2 : Int32} (h0 : Rm E 83 0 [vr 0, vi x1] [] M (some (.int c1)) M) (h1 : ¬ (c1 = 0)) (h2 : Rm E 83 0 [vr 0, vi x2] [] M (some (.int c2)) M) (h3 : c2 = 0) : Rm E 68 0 [vr 0, vi x1, vi x2, vi x3] [] M (some (.int (-1))) M := by
  refine R_S q68 2 (pc2 := 2) (ls2 := [vr 0, vi x1, vi x2, vi x3]) (st2 := [.int x1, .ref 0]) rfl ?_
  refine R_call q68 rfl rfl rfl rfl rfl rfl h0 ?_
  show Rm E 68 5 [vr 0, vi x1, vi x2, vi x3] [.int c1] M _ _
  refine R_iff q68 rfl (decide_eq_false h1) ?_
  show Rm E 68 8 [vr 0, vi x1, vi x2, vi x3] [] M _ _
  refine R_S q68 2 (pc2 := 10) (ls2 := [vr 0, vi x1, vi x2, vi x3]) (st2 := [.int x2, .ref 0]) rfl ?_
  refine R_call q68 rfl rfl rfl rfl rfl rfl h2 ?_
  show Rm E 68 13 [vr 0, vi x1, vi x2, vi x3] [.int c2] M _ _
  refine R_ift q68 rfl (decide_eq_true h3) ?_
  show Rm E 68 25 [vr 0, vi x1, vi x2, vi x3] [] M _ _
  refine R_S q68 1 (pc2 := 26) (ls2 := [vr 0, vi x1, vi x2, vi x3]) (st2 := [.int (-1)]) rfl ?_
  exact R_ret rfl q68 rfl rfl rfl rfl (stpR_i rfl rfl)
-- call X9_isPost 5- call X9_isPost 13- call X9_within 22+ call X4_lead 50+ call X2_put
theorem b68_0_2 {E : env} {M : mem} {x1 x2 x3 : Int32} {c1 : Int32} {c2 : Int32} {c3 : Int32} {N1 : mem} {c5 : Int32} {N2 : mem} (h0 : Rm E 83 0 [vr 0, vi x1] [] M (some (.int c1)) M) (h1 : ¬ (c1 = 0)) (h2 : Rm E 83 0 [vr 0, vi x2] [] M (some (.int c2)) M) (h3 : ¬ (c2 = 0)) (h4 : Rm E 81 0 [vi x3, vi 0, vi 1] [] M (some (.int c3)) M) (h5 : ¬ c3 = 0) (h6 : Rm E 23 0 [vr 70, vr 9, vi x1, vi x2, vn, vn, vn, vn] [] M none N1) (h7 : ¬ x3 = 1) (h8 : Rm E 11 0 [vr 76, vr 70, vi 0, vn, vn] [] N1 (some (.int c5)) N2) : Rm E 68 0 [vr 0, vi x1, vi x2, vi x3] [] M (some (.int c5)) N2 := by
  refine R_S q68 2 (pc2 := 2) (ls2 := [vr 0, vi x1, vi x2, vi x3]) (st2 := [.int x1, .ref 0]) rfl ?_
  refine R_call q68 rfl rfl rfl rfl rfl rfl h0 ?_
  show Rm E 68 5 [vr 0, vi x1, vi x2, vi x3] [.int c1] M _ _
  refine R_iff q68 rfl (decide_eq_false h1) ?_
  show Rm E 68 8 [vr 0, vi x1, vi x2, vi x3] [] M _ _
  refine R_S q68 2 (pc2 := 10) (ls2 := [vr 0, vi x1, vi x2, vi x3]) (st2 := [.int x2, .ref 0]) rfl ?_
  refine R_call q68 rfl rfl rfl rfl rfl rfl h2 ?_
  show Rm E 68 13 [vr 0, vi x1, vi x2, vi x3] [.int c2] M _ _
  refine R_iff q68 rfl (decide_eq_false h3) ?_
  show Rm E 68 16 [vr 0, vi x1, vi x2, vi x3] [] M _ _
  refine R_S q68 3 (pc2 := 19) (ls2 := [vr 0, vi x1, vi x2, vi x3]) (st2 := [.int 1, .int 0, .int x3]) rfl ?_
  refine R_call q68 rfl rfl rfl rfl rfl rfl h4 ?_
  show Rm E 68 22 [vr 0, vi x1, vi x2, vi x3] [.int c3] M _ _
  refine R_ift q68 rfl (decide_eq_true h5) ?_
  show Rm E 68 27 [vr 0, vi x1, vi x2, vi x3] [] M _ _
  refine R_S q68 6 (pc2 := 37) (ls2 := [vr 0, vi x1, vi x2, vi x3]) (st2 := [.int x2, .int x1, .ref 9, .ref 70]) rfl ?_
  refine R_call q68 rfl rfl rfl rfl rfl rfl h6 ?_
  show Rm E 68 40 [vr 0, vi x1, vi x2, vi x3] [] N1 _ _
  refine R_S q68 6 (pc2 := 50) (ls2 := [vr 0, vi x1, vi x2, vi x3]) (st2 := [.int 1, .int x3, .ref 70, .ref 76]) rfl ?_
  refine R_ict q68 rfl (decide_eq_true h7) ?_
  show Rm E 68 57 [vr 0, vi x1, vi x2, vi x3] [.ref 70, .ref 76] N1 _ _
  refine R_S q68 1 (pc2 := 58) (ls2 := [vr 0, vi x1, vi x2, vi x3]) (st2 := [.int 0, .ref 70, .ref 76]) rfl ?_
  refine R_call q68 rfl rfl rfl rfl rfl rfl h8 ?_
  show Rm E 68 61 [vr 0, vi x1, vi x2, vi x3] [.int c5] N2 _ _
  exact R_ret rfl q68 rfl rfl rfl rfl (stpR_i rfl rfl)
-- call X9_isPost 5- call X9_isPost 13- call X9_within 22+ call X4_lead 50- call X2_put
theorem b68_0_3 {E : env} {M : mem} {x1 x2 x3 : Int32} {c1 : Int32} {c2 : Int32} {c3 : Int32} {N1 : mem} {c5 : Int32} {N2 : mem} (h0 : Rm E 83 0 [vr 0, vi x1] [] M (some (.int c1)) M) (h1 : ¬ (c1 = 0)) (h2 : Rm E 83 0 [vr 0, vi x2] [] M (some (.int c2)) M) (h3 : ¬ (c2 = 0)) (h4 : Rm E 81 0 [vi x3, vi 0, vi 1] [] M (some (.int c3)) M) (h5 : ¬ c3 = 0) (h6 : Rm E 23 0 [vr 70, vr 9, vi x1, vi x2, vn, vn, vn, vn] [] M none N1) (h7 : ¬ (¬ x3 = 1)) (h8 : Rm E 11 0 [vr 76, vr 70, vi 1, vn, vn] [] N1 (some (.int c5)) N2) : Rm E 68 0 [vr 0, vi x1, vi x2, vi x3] [] M (some (.int c5)) N2 := by
  refine R_S q68 2 (pc2 := 2) (ls2 := [vr 0, vi x1, vi x2, vi x3]) (st2 := [.int x1, .ref 0]) rfl ?_
  refine R_call q68 rfl rfl rfl rfl rfl rfl h0 ?_
  show Rm E 68 5 [vr 0, vi x1, vi x2, vi x3] [.int c1] M _ _
  refine R_iff q68 rfl (decide_eq_false h1) ?_
  show Rm E 68 8 [vr 0, vi x1, vi x2, vi x3] [] M _ _
  refine R_S q68 2 (pc2 := 10) (ls2 := [vr 0, vi x1, vi x2, vi x3]) (st2 := [.int x2, .ref 0]) rfl ?_
  refine R_call q68 rfl rfl rfl rfl rfl rfl h2 ?_
  show Rm E 68 13 [vr 0, vi x1, vi x2, vi x3] [.int c2] M _ _
  refine R_iff q68 rfl (decide_eq_false h3) ?_
  show Rm E 68 16 [vr 0, vi x1, vi x2, vi x3] [] M _ _
  refine R_S q68 3 (pc2 := 19) (ls2 := [vr 0, vi x1, vi x2, vi x3]) (st2 := [.int 1, .int 0, .int x3]) rfl ?_
  refine R_call q68 rfl rfl rfl rfl rfl rfl h4 ?_
  show Rm E 68 22 [vr 0, vi x1, vi x2, vi x3] [.int c3] M _ _
  refine R_ift q68 rfl (decide_eq_true h5) ?_
  show Rm E 68 27 [vr 0, vi x1, vi x2, vi x3] [] M _ _
  refine R_S q68 6 (pc2 := 37) (ls2 := [vr 0, vi x1, vi x2, vi x3]) (st2 := [.int x2, .int x1, .ref 9, .ref 70]) rfl ?_
  refine R_call q68 rfl rfl rfl rfl rfl rfl h6 ?_
  show Rm E 68 40 [vr 0, vi x1, vi x2, vi x3] [] N1 _ _
  refine R_S q68 6 (pc2 := 50) (ls2 := [vr 0, vi x1, vi x2, vi x3]) (st2 := [.int 1, .int x3, .ref 70, .ref 76]) rfl ?_
  refine R_icf q68 rfl (decide_eq_false h7) ?_
  show Rm E 68 53 [vr 0, vi x1, vi x2, vi x3] [.ref 70, .ref 76] N1 _ _
  refine R_S q68 2 (pc2 := 58) (ls2 := [vr 0, vi x1, vi x2, vi x3]) (st2 := [.int 1, .ref 70, .ref 76]) rfl ?_
  refine R_call q68 rfl rfl rfl rfl rfl rfl h8 ?_
  show Rm E 68 61 [vr 0, vi x1, vi x2, vi x3] [.int c5] N2 _ _
  exact R_ret rfl q68 rfl rfl rfl rfl (stpR_i rfl rfl)
-- call X9_isPost 5- call X9_isPost 13- call X9_within 22-
theorem b68_0_4 {E : env} {M : mem} {x1 x2 x3 : Int32} {c1 : Int32} {c2 : Int32} {c3 : Int32} (h0 : Rm E 83 0 [vr 0, vi x1] [] M (some (.int c1)) M) (h1 : ¬ (c1 = 0)) (h2 : Rm E 83 0 [vr 0, vi x2] [] M (some (.int c2)) M) (h3 : ¬ (c2 = 0)) (h4 : Rm E 81 0 [vi x3, vi 0, vi 1] [] M (some (.int c3)) M) (h5 : ¬ (¬ c3 = 0)) : Rm E 68 0 [vr 0, vi x1, vi x2, vi x3] [] M (some (.int (-1))) M := by
  refine R_S q68 2 (pc2 := 2) (ls2 := [vr 0, vi x1, vi x2, vi x3]) (st2 := [.int x1, .ref 0]) rfl ?_
  refine R_call q68 rfl rfl rfl rfl rfl rfl h0 ?_
  show Rm E 68 5 [vr 0, vi x1, vi x2, vi x3] [.int c1] M _ _
  refine R_iff q68 rfl (decide_eq_false h1) ?_
  show Rm E 68 8 [vr 0, vi x1, vi x2, vi x3] [] M _ _
  refine R_S q68 2 (pc2 := 10) (ls2 := [vr 0, vi x1, vi x2, vi x3]) (st2 := [.int x2, .ref 0]) rfl ?_
  refine R_call q68 rfl rfl rfl rfl rfl rfl h2 ?_
  show Rm E 68 13 [vr 0, vi x1, vi x2, vi x3] [.int c2] M _ _
  refine R_iff q68 rfl (decide_eq_false h3) ?_
  show Rm E 68 16 [vr 0, vi x1, vi x2, vi x3] [] M _ _
  refine R_S q68 3 (pc2 := 19) (ls2 := [vr 0, vi x1, vi x2, vi x3]) (st2 := [.int 1, .int 0, .int x3]) rfl ?_
  refine R_call q68 rfl rfl rfl rfl rfl rfl h4 ?_
  show Rm E 68 22 [vr 0, vi x1, vi x2, vi x3] [.int c3] M _ _
  refine R_iff q68 rfl (decide_eq_false h5) ?_
  show Rm E 68 25 [vr 0, vi x1, vi x2, vi x3] [] M _ _
  refine R_S q68 1 (pc2 := 26) (ls2 := [vr 0, vi x1, vi x2, vi x3]) (st2 := [.int (-1)]) rfl ?_
  exact R_ret rfl q68 rfl rfl rfl rfl (stpR_i rfl rfl)
-- 69 HeavyChains.turn(I)I  cuts [0]
theorem q69 : cdOf 69 = some mt69 := rfl
-- call X9_isPost 5+ call X4_cover call X2_flip call X2_all
theorem b69_0_0 {E : env} {M : mem} {x1 : Int32} {c1 : Int32} {N1 : mem} {N2 : mem} {c4 : Int32} (h0 : Rm E 83 0 [vr 0, vi x1] [] M (some (.int c1)) M) (h1 : ¬ c1 = 0) (h2 : Rm E 24 0 [vr 70, vr 9, vi x1, vn] [] M none N1) (h3 : Rm E 12 0 [vr 76, vr 70, vn] [] N1 none N2) (h4 : Rm E 9 0 [vr 76, vn, vn] [] N2 (some (.int c4)) N2) : Rm E 69 0 [vr 0, vi x1] [] M (some (.int c4)) N2 := by
  refine R_S q69 2 (pc2 := 2) (ls2 := [vr 0, vi x1]) (st2 := [.int x1, .ref 0]) rfl ?_
  refine R_call q69 rfl rfl rfl rfl rfl rfl h0 ?_
  show Rm E 69 5 [vr 0, vi x1] [.int c1] M _ _
  refine R_ift q69 rfl (decide_eq_true h1) ?_
  show Rm E 69 10 [vr 0, vi x1] [] M _ _
  refine R_S q69 5 (pc2 := 19) (ls2 := [vr 0, vi x1]) (st2 := [.int x1, .ref 9, .ref 70]) rfl ?_
  refine R_call q69 rfl rfl rfl rfl rfl rfl h2 ?_
  show Rm E 69 22 [vr 0, vi x1] [] N1 _ _
  refine R_S q69 4 (pc2 := 30) (ls2 := [vr 0, vi x1]) (st2 := [.ref 70, .ref 76]) rfl ?_
  refine R_call q69 rfl rfl rfl rfl rfl rfl h3 ?_
  show Rm E 69 33 [vr 0, vi x1] [] N2 _ _
  refine R_S q69 2 (pc2 := 37) (ls2 := [vr 0, vi x1]) (st2 := [.ref 76]) rfl ?_
  refine R_call q69 rfl rfl rfl rfl rfl rfl h4 ?_
  show Rm E 69 40 [vr 0, vi x1] [.int c4] N2 _ _
  exact R_ret rfl q69 rfl rfl rfl rfl (stpR_i rfl rfl)
-- call X9_isPost 5-
theorem b69_0_1 {E : env} {M : mem} {x1 : Int32} {c1 : Int32} (h0 : Rm E 83 0 [vr 0, vi x1] [] M (some (.int c1)) M) (h1 : ¬ (¬ c1 = 0)) : Rm E 69 0 [vr 0, vi x1] [] M (some (.int (-1))) M := by
  refine R_S q69 2 (pc2 := 2) (ls2 := [vr 0, vi x1]) (st2 := [.int x1, .ref 0]) rfl ?_
  refine R_call q69 rfl rfl rfl rfl rfl rfl h0 ?_
  show Rm E 69 5 [vr 0, vi x1] [.int c1] M _ _
  refine R_iff q69 rfl (decide_eq_false h1) ?_
  show Rm E 69 8 [vr 0, vi x1] [] M _ _
  refine R_S q69 1 (pc2 := 9) (ls2 := [vr 0, vi x1]) (st2 := [.int (-1)]) rfl ?_
  exact R_ret rfl q69 rfl rfl rfl rfl (stpR_i rfl rfl)
-- 70 HeavyChains.marked(I)I  cuts [0]
theorem q70 : cdOf 70 = some mt70 := rfl
-- call X9_isPost 5+
theorem b70_0_0 {E : env} {M : mem} {x1 : Int32} {c1 : Int32} (h0 : Rm E 83 0 [vr 0, vi x1] [] M (some (.int c1)) M) (h1 : c1 = 0) : Rm E 70 0 [vr 0, vi x1] [] M (some (.int (-1))) M := by
  refine R_S q70 2 (pc2 := 2) (ls2 := [vr 0, vi x1]) (st2 := [.int x1, .ref 0]) rfl ?_
  refine R_call q70 rfl rfl rfl rfl rfl rfl h0 ?_
  show Rm E 70 5 [vr 0, vi x1] [.int c1] M _ _
  refine R_ift q70 rfl (decide_eq_true h1) ?_
  show Rm E 70 23 [vr 0, vi x1] [] M _ _
  refine R_S q70 1 (pc2 := 24) (ls2 := [vr 0, vi x1]) (st2 := [.int (-1)]) rfl ?_
  exact R_ret rfl q70 rfl rfl rfl rfl (stpR_i rfl rfl)
-- call X9_isPost 5- call X2_firstFrom
theorem b70_0_1 {E : env} {M : mem} {x1 : Int32} {c1 : Int32} {c2 : Int32} (h0 : Rm E 83 0 [vr 0, vi x1] [] M (some (.int c1)) M) (h1 : ¬ (c1 = 0)) (h2 : Rm E 13 0 [vr 76, vr 9, vi x1, vn] [] M (some (.int c2)) M) : Rm E 70 0 [vr 0, vi x1] [] M (some (.int c2)) M := by
  refine R_S q70 2 (pc2 := 2) (ls2 := [vr 0, vi x1]) (st2 := [.int x1, .ref 0]) rfl ?_
  refine R_call q70 rfl rfl rfl rfl rfl rfl h0 ?_
  show Rm E 70 5 [vr 0, vi x1] [.int c1] M _ _
  refine R_iff q70 rfl (decide_eq_false h1) ?_
  show Rm E 70 8 [vr 0, vi x1] [] M _ _
  refine R_S q70 5 (pc2 := 17) (ls2 := [vr 0, vi x1]) (st2 := [.int x1, .ref 9, .ref 76]) rfl ?_
  refine R_call q70 rfl rfl rfl rfl rfl rfl h2 ?_
  show Rm E 70 20 [vr 0, vi x1] [.int c2] M _ _
  refine R_S q70 1 (pc2 := 24) (ls2 := [vr 0, vi x1]) (st2 := [.int c2]) rfl ?_
  exact R_ret rfl q70 rfl rfl rfl rfl (stpR_i rfl rfl)
-- 71 HeavyChains.nearest(I)I  cuts [0]
theorem q71 : cdOf 71 = some mt71 := rfl
-- call X9_isPost 5+ call X6_measure call X2_closest
theorem b71_0_0 {E : env} {M : mem} {x1 : Int32} {c1 : Int32} {N1 : mem} {c3 : Int32} (h0 : Rm E 83 0 [vr 0, vi x1] [] M (some (.int c1)) M) (h1 : ¬ c1 = 0) (h2 : Rm E 38 0 [vr 72, vr 9, vi x1, vr 73, vn, vn, vn] [] M none N1) (h3 : Rm E 14 0 [vr 76, vi (N1.1 9 0), vr 74, vn, vn] [] N1 (some (.int c3)) N1) : Rm E 71 0 [vr 0, vi x1] [] M (some (.int c3)) N1 := by
  refine R_S q71 2 (pc2 := 2) (ls2 := [vr 0, vi x1]) (st2 := [.int x1, .ref 0]) rfl ?_
  refine R_call q71 rfl rfl rfl rfl rfl rfl h0 ?_
  show Rm E 71 5 [vr 0, vi x1] [.int c1] M _ _
  refine R_ift q71 rfl (decide_eq_true h1) ?_
  show Rm E 71 10 [vr 0, vi x1] [] M _ _
  refine R_S q71 8 (pc2 := 26) (ls2 := [vr 0, vi x1]) (st2 := [.ref 73, .int x1, .ref 9, .ref 72]) rfl ?_
  refine R_call q71 rfl rfl rfl rfl rfl rfl h2 ?_
  show Rm E 71 29 [vr 0, vi x1] [] N1 _ _
  refine R_S q71 8 (pc2 := 47) (ls2 := [vr 0, vi x1]) (st2 := [.ref 74, .int (N1.1 9 0), .ref 76]) rfl ?_
  refine R_call q71 rfl rfl rfl rfl rfl rfl h3 ?_
  show Rm E 71 50 [vr 0, vi x1] [.int c3] N1 _ _
  exact R_ret rfl q71 rfl rfl rfl rfl (stpR_i rfl rfl)
-- call X9_isPost 5-
theorem b71_0_1 {E : env} {M : mem} {x1 : Int32} {c1 : Int32} (h0 : Rm E 83 0 [vr 0, vi x1] [] M (some (.int c1)) M) (h1 : ¬ (¬ c1 = 0)) : Rm E 71 0 [vr 0, vi x1] [] M (some (.int (-1))) M := by
  refine R_S q71 2 (pc2 := 2) (ls2 := [vr 0, vi x1]) (st2 := [.int x1, .ref 0]) rfl ?_
  refine R_call q71 rfl rfl rfl rfl rfl rfl h0 ?_
  show Rm E 71 5 [vr 0, vi x1] [.int c1] M _ _
  refine R_iff q71 rfl (decide_eq_false h1) ?_
  show Rm E 71 8 [vr 0, vi x1] [] M _ _
  refine R_S q71 1 (pc2 := 9) (ls2 := [vr 0, vi x1]) (st2 := [.int (-1)]) rfl ?_
  exact R_ret rfl q71 rfl rfl rfl rfl (stpR_i rfl rfl)
-- 72 HeavyChains.watch(III)I  cuts [0]
theorem q72 : cdOf 72 = some mt72 := rfl
-- call X9_isPost 5+
theorem b72_0_0 {E : env} {M : mem} {x1 x2 x3 : Int32} {c1 : Int32} (h0 : Rm E 83 0 [vr 0, vi x1] [] M (some (.int c1)) M) (h1 : c1 = 0) : Rm E 72 0 [vr 0, vi x1, vi x2, vi x3] [] M (some (.int (-1))) M := by
  refine R_S q72 2 (pc2 := 2) (ls2 := [vr 0, vi x1, vi x2, vi x3]) (st2 := [.int x1, .ref 0]) rfl ?_
  refine R_call q72 rfl rfl rfl rfl rfl rfl h0 ?_
  show Rm E 72 5 [vr 0, vi x1, vi x2, vi x3] [.int c1] M _ _
  refine R_ift q72 rfl (decide_eq_true h1) ?_
  show Rm E 72 29 [vr 0, vi x1, vi x2, vi x3] [] M _ _
  refine R_S q72 1 (pc2 := 30) (ls2 := [vr 0, vi x1, vi x2, vi x3]) (st2 := [.int (-1)]) rfl ?_
  exact R_ret rfl q72 rfl rfl rfl rfl (stpR_i rfl rfl)
-- call X9_isPost 5- call X9_isPost 13+
theorem b72_0_1 {E : env} {M : mem} {x1 x2 x3 : Int32} {c1 : Int32} {c2 : Int32} (h0 : Rm E 83 0 [vr 0, vi x1] [] M (some (.int c1)) M) (h1 : ¬ (c1 = 0)) (h2 : Rm E 83 0 [vr 0, vi x2] [] M (some (.int c2)) M) (h3 : c2 = 0) : Rm E 72 0 [vr 0, vi x1, vi x2, vi x3] [] M (some (.int (-1))) M := by
  refine R_S q72 2 (pc2 := 2) (ls2 := [vr 0, vi x1, vi x2, vi x3]) (st2 := [.int x1, .ref 0]) rfl ?_
  refine R_call q72 rfl rfl rfl rfl rfl rfl h0 ?_
  show Rm E 72 5 [vr 0, vi x1, vi x2, vi x3] [.int c1] M _ _
  refine R_iff q72 rfl (decide_eq_false h1) ?_
  show Rm E 72 8 [vr 0, vi x1, vi x2, vi x3] [] M _ _
  refine R_S q72 2 (pc2 := 10) (ls2 := [vr 0, vi x1, vi x2, vi x3]) (st2 := [.int x2, .ref 0]) rfl ?_
  refine R_call q72 rfl rfl rfl rfl rfl rfl h2 ?_
  show Rm E 72 13 [vr 0, vi x1, vi x2, vi x3] [.int c2] M _ _
  refine R_ift q72 rfl (decide_eq_true h3) ?_
  show Rm E 72 29 [vr 0, vi x1, vi x2, vi x3] [] M _ _
  refine R_S q72 1 (pc2 := 30) (ls2 := [vr 0, vi x1, vi x2, vi x3]) (st2 := [.int (-1)]) rfl ?_
  exact R_ret rfl q72 rfl rfl rfl rfl (stpR_i rfl rfl)
-- call X9_isPost 5- call X9_isPost 13- call X9_within 26+ call X8_open
theorem b72_0_2 {E : env} {M : mem} {x1 x2 x3 : Int32} {c1 : Int32} {c2 : Int32} {c3 : Int32} {c4 : Int32} {N1 : mem} (h0 : Rm E 83 0 [vr 0, vi x1] [] M (some (.int c1)) M) (h1 : ¬ (c1 = 0)) (h2 : Rm E 83 0 [vr 0, vi x2] [] M (some (.int c2)) M) (h3 : ¬ (c2 = 0)) (h4 : Rm E 81 0 [vi x3, vi (-9999), vi 9999] [] M (some (.int c3)) M) (h5 : ¬ c3 = 0) (h6 : Rm E 49 0 [vr 78, vi x1, vi x2, vi x3] [] M (some (.int c4)) N1) : Rm E 72 0 [vr 0, vi x1, vi x2, vi x3] [] M (some (.int c4)) N1 := by
  refine R_S q72 2 (pc2 := 2) (ls2 := [vr 0, vi x1, vi x2, vi x3]) (st2 := [.int x1, .ref 0]) rfl ?_
  refine R_call q72 rfl rfl rfl rfl rfl rfl h0 ?_
  show Rm E 72 5 [vr 0, vi x1, vi x2, vi x3] [.int c1] M _ _
  refine R_iff q72 rfl (decide_eq_false h1) ?_
  show Rm E 72 8 [vr 0, vi x1, vi x2, vi x3] [] M _ _
  refine R_S q72 2 (pc2 := 10) (ls2 := [vr 0, vi x1, vi x2, vi x3]) (st2 := [.int x2, .ref 0]) rfl ?_
  refine R_call q72 rfl rfl rfl rfl rfl rfl h2 ?_
  show Rm E 72 13 [vr 0, vi x1, vi x2, vi x3] [.int c2] M _ _
  refine R_iff q72 rfl (decide_eq_false h3) ?_
  show Rm E 72 16 [vr 0, vi x1, vi x2, vi x3] [] M _ _
  refine R_S q72 3 (pc2 := 23) (ls2 := [vr 0, vi x1, vi x2, vi x3]) (st2 := [.int 9999, .int (-9999), .int x3]) rfl ?_
  refine R_call q72 rfl rfl rfl rfl rfl rfl h4 ?_
  show Rm E 72 26 [vr 0, vi x1, vi x2, vi x3] [.int c3] M _ _
  refine R_ift q72 rfl (decide_eq_true h5) ?_
  show Rm E 72 31 [vr 0, vi x1, vi x2, vi x3] [] M _ _
  refine R_S q72 5 (pc2 := 38) (ls2 := [vr 0, vi x1, vi x2, vi x3]) (st2 := [.int x3, .int x2, .int x1, .ref 78]) rfl ?_
  refine R_call q72 rfl rfl rfl rfl rfl rfl h6 ?_
  show Rm E 72 41 [vr 0, vi x1, vi x2, vi x3] [.int c4] N1 _ _
  exact R_ret rfl q72 rfl rfl rfl rfl (stpR_i rfl rfl)
-- call X9_isPost 5- call X9_isPost 13- call X9_within 26-
theorem b72_0_3 {E : env} {M : mem} {x1 x2 x3 : Int32} {c1 : Int32} {c2 : Int32} {c3 : Int32} (h0 : Rm E 83 0 [vr 0, vi x1] [] M (some (.int c1)) M) (h1 : ¬ (c1 = 0)) (h2 : Rm E 83 0 [vr 0, vi x2] [] M (some (.int c2)) M) (h3 : ¬ (c2 = 0)) (h4 : Rm E 81 0 [vi x3, vi (-9999), vi 9999] [] M (some (.int c3)) M) (h5 : ¬ (¬ c3 = 0)) : Rm E 72 0 [vr 0, vi x1, vi x2, vi x3] [] M (some (.int (-1))) M := by
  refine R_S q72 2 (pc2 := 2) (ls2 := [vr 0, vi x1, vi x2, vi x3]) (st2 := [.int x1, .ref 0]) rfl ?_
  refine R_call q72 rfl rfl rfl rfl rfl rfl h0 ?_
  show Rm E 72 5 [vr 0, vi x1, vi x2, vi x3] [.int c1] M _ _
  refine R_iff q72 rfl (decide_eq_false h1) ?_
  show Rm E 72 8 [vr 0, vi x1, vi x2, vi x3] [] M _ _
  refine R_S q72 2 (pc2 := 10) (ls2 := [vr 0, vi x1, vi x2, vi x3]) (st2 := [.int x2, .ref 0]) rfl ?_
  refine R_call q72 rfl rfl rfl rfl rfl rfl h2 ?_
  show Rm E 72 13 [vr 0, vi x1, vi x2, vi x3] [.int c2] M _ _
  refine R_iff q72 rfl (decide_eq_false h3) ?_
  show Rm E 72 16 [vr 0, vi x1, vi x2, vi x3] [] M _ _
  refine R_S q72 3 (pc2 := 23) (ls2 := [vr 0, vi x1, vi x2, vi x3]) (st2 := [.int 9999, .int (-9999), .int x3]) rfl ?_
  refine R_call q72 rfl rfl rfl rfl rfl rfl h4 ?_
  show Rm E 72 26 [vr 0, vi x1, vi x2, vi x3] [.int c3] M _ _
  refine R_iff q72 rfl (decide_eq_false h5) ?_
  show Rm E 72 29 [vr 0, vi x1, vi x2, vi x3] [] M _ _
  refine R_S q72 1 (pc2 := 30) (ls2 := [vr 0, vi x1, vi x2, vi x3]) (st2 := [.int (-1)]) rfl ?_
  exact R_ret rfl q72 rfl rfl rfl rfl (stpR_i rfl rfl)
-- 73 HeavyChains.settle()I  cuts [0]
theorem q73 : cdOf 73 = some mt73 := rfl
-- call X8_release
theorem b73_0_0 {E : env} {M : mem} {c1 : Int32} {N1 : mem} (h0 : Rm E 50 0 [vr 78, vr 9, vr 70, vr 19, vn, vn] [] M (some (.int c1)) N1) : Rm E 73 0 [vr 0] [] M (some (.int c1)) N1 := by
  refine R_S q73 9 (pc2 := 19) (ls2 := [vr 0]) (st2 := [.ref 19, .ref 70, .ref 9, .ref 78]) rfl ?_
  refine R_call q73 rfl rfl rfl rfl rfl rfl h0 ?_
  show Rm E 73 22 [vr 0] [.int c1] N1 _ _
  exact R_ret rfl q73 rfl rfl rfl rfl (stpR_i rfl rfl)
-- 74 HeavyChains.waits(I)I  cuts [0]
theorem q74 : cdOf 74 = some mt74 := rfl
-- 2+ 9+ 28+
theorem b74_0_0 {E : env} {M : mem} {x1 : Int32}  (h0 : (-1) ≤ x1) (h1 : ¬ x1 = (-1)) (h2 : M.1 78 4 ≤ x1) : Rm E 74 0 [vr 0, vi x1] [] M (some (.int (-4))) M := by
  refine R_S q74 2 (pc2 := 2) (ls2 := [vr 0, vi x1]) (st2 := [.int (-1), .int x1]) rfl ?_
  refine R_ict q74 rfl (decide_eq_true h0) ?_
  show Rm E 74 7 [vr 0, vi x1] [] M _ _
  refine R_S q74 2 (pc2 := 9) (ls2 := [vr 0, vi x1]) (st2 := [.int (-1), .int x1]) rfl ?_
  refine R_ict q74 rfl (decide_eq_true h1) ?_
  show Rm E 74 20 [vr 0, vi x1] [] M _ _
  refine R_S q74 4 (pc2 := 28) (ls2 := [vr 0, vi x1]) (st2 := [.int (M.1 78 4), .int x1]) rfl ?_
  refine R_ict q74 rfl (decide_eq_true h2) ?_
  show Rm E 74 43 [vr 0, vi x1] [] M _ _
  refine R_S q74 1 (pc2 := 45) (ls2 := [vr 0, vi x1]) (st2 := [.int (-4)]) rfl ?_
  exact R_ret rfl q74 rfl rfl rfl rfl (stpR_i rfl rfl)
-- 2+ 9+ 28-
theorem b74_0_1 {E : env} {M : mem} {x1 : Int32}  (h0 : (-1) ≤ x1) (h1 : ¬ x1 = (-1)) (h2 : ¬ (M.1 78 4 ≤ x1)) (h3 : inR x1 12) : Rm E 74 0 [vr 0, vi x1] [] M (some (.int (M.1 79 x1.toNatClampNeg))) M := by
  refine R_S q74 2 (pc2 := 2) (ls2 := [vr 0, vi x1]) (st2 := [.int (-1), .int x1]) rfl ?_
  refine R_ict q74 rfl (decide_eq_true h0) ?_
  show Rm E 74 7 [vr 0, vi x1] [] M _ _
  refine R_S q74 2 (pc2 := 9) (ls2 := [vr 0, vi x1]) (st2 := [.int (-1), .int x1]) rfl ?_
  refine R_ict q74 rfl (decide_eq_true h1) ?_
  show Rm E 74 20 [vr 0, vi x1] [] M _ _
  refine R_S q74 4 (pc2 := 28) (ls2 := [vr 0, vi x1]) (st2 := [.int (M.1 78 4), .int x1]) rfl ?_
  refine R_icf q74 rfl (decide_eq_false h2) ?_
  show Rm E 74 31 [vr 0, vi x1] [] M _ _
  refine R_S q74 4 (pc2 := 39) (ls2 := [vr 0, vi x1]) (st2 := [.int x1, .ref 79]) rfl ?_
  refine R_ial q74 rfl rfl h3 ?_
  show Rm E 74 40 [vr 0, vi x1] [.int (M.1 79 x1.toNatClampNeg)] M _ _
  refine R_S q74 1 (pc2 := 45) (ls2 := [vr 0, vi x1]) (st2 := [.int (M.1 79 x1.toNatClampNeg)]) rfl ?_
  exact R_ret rfl q74 rfl rfl rfl rfl (stpR_i rfl rfl)
-- 2+ 9-
theorem b74_0_2 {E : env} {M : mem} {x1 : Int32}  (h0 : (-1) ≤ x1) (h1 : ¬ (¬ x1 = (-1))) : Rm E 74 0 [vr 0, vi x1] [] M (some (.int (M.1 78 4))) M := by
  refine R_S q74 2 (pc2 := 2) (ls2 := [vr 0, vi x1]) (st2 := [.int (-1), .int x1]) rfl ?_
  refine R_ict q74 rfl (decide_eq_true h0) ?_
  show Rm E 74 7 [vr 0, vi x1] [] M _ _
  refine R_S q74 2 (pc2 := 9) (ls2 := [vr 0, vi x1]) (st2 := [.int (-1), .int x1]) rfl ?_
  refine R_icf q74 rfl (decide_eq_false h1) ?_
  show Rm E 74 12 [vr 0, vi x1] [] M _ _
  refine R_S q74 3 (pc2 := 19) (ls2 := [vr 0, vi x1]) (st2 := [.int (M.1 78 4)]) rfl ?_
  exact R_ret rfl q74 rfl rfl rfl rfl (stpR_i rfl rfl)
-- 2-
theorem b74_0_3 {E : env} {M : mem} {x1 : Int32}  (h0 : ¬ ((-1) ≤ x1)) : Rm E 74 0 [vr 0, vi x1] [] M (some (.int (-1))) M := by
  refine R_S q74 2 (pc2 := 2) (ls2 := [vr 0, vi x1]) (st2 := [.int (-1), .int x1]) rfl ?_
  refine R_icf q74 rfl (decide_eq_false h0) ?_
  show Rm E 74 5 [vr 0, vi x1] [] M _ _
  refine R_S q74 1 (pc2 := 6) (ls2 := [vr 0, vi x1]) (st2 := [.int (-1)]) rfl ?_
  exact R_ret rfl q74 rfl rfl rfl rfl (stpR_i rfl rfl)
-- 75 HeavyChains.richest(I)I  cuts [0]
theorem q75 : cdOf 75 = some mt75 := rfl
-- call X9_within 6+ call X6_search 31+ call X6_end
theorem b75_0_0 {E : env} {M : mem} {x1 : Int32} {c1 : Int32} {N1 : mem} {c3 : Int32} (h0 : Rm E 81 0 [vi x1, vi 0, vi 2] [] M (some (.int c1)) M) (h1 : ¬ c1 = 0) (h2 : Rm E 39 0 [vr 72, vr 9, vr 19, vn, vn] [] M none N1) (h3 : ¬ x1 = 2) (h4 : Rm E 40 0 [vr 72, vi x1] [] N1 (some (.int c3)) N1) : Rm E 75 0 [vr 0, vi x1] [] M (some (.int c3)) N1 := by
  refine R_S q75 3 (pc2 := 3) (ls2 := [vr 0, vi x1]) (st2 := [.int 2, .int 0, .int x1]) rfl ?_
  refine R_call q75 rfl rfl rfl rfl rfl rfl h0 ?_
  show Rm E 75 6 [vr 0, vi x1] [.int c1] M _ _
  refine R_ift q75 rfl (decide_eq_true h1) ?_
  show Rm E 75 11 [vr 0, vi x1] [] M _ _
  refine R_S q75 7 (pc2 := 26) (ls2 := [vr 0, vi x1]) (st2 := [.ref 19, .ref 9, .ref 72]) rfl ?_
  refine R_call q75 rfl rfl rfl rfl rfl rfl h2 ?_
  show Rm E 75 29 [vr 0, vi x1] [] N1 _ _
  refine R_S q75 2 (pc2 := 31) (ls2 := [vr 0, vi x1]) (st2 := [.int 2, .int x1]) rfl ?_
  refine R_ict q75 rfl (decide_eq_true h3) ?_
  show Rm E 75 47 [vr 0, vi x1] [] N1 _ _
  refine R_S q75 3 (pc2 := 52) (ls2 := [vr 0, vi x1]) (st2 := [.int x1, .ref 72]) rfl ?_
  refine R_call q75 rfl rfl rfl rfl rfl rfl h4 ?_
  show Rm E 75 55 [vr 0, vi x1] [.int c3] N1 _ _
  exact R_ret rfl q75 rfl rfl rfl rfl (stpR_i rfl rfl)
-- call X9_within 6+ call X6_search 31-
theorem b75_0_1 {E : env} {M : mem} {x1 : Int32} {c1 : Int32} {N1 : mem} (h0 : Rm E 81 0 [vi x1, vi 0, vi 2] [] M (some (.int c1)) M) (h1 : ¬ c1 = 0) (h2 : Rm E 39 0 [vr 72, vr 9, vr 19, vn, vn] [] M none N1) (h3 : ¬ (¬ x1 = 2)) : Rm E 75 0 [vr 0, vi x1] [] M (some (.int (N1.1 72 5 + 1000000))) N1 := by
  refine R_S q75 3 (pc2 := 3) (ls2 := [vr 0, vi x1]) (st2 := [.int 2, .int 0, .int x1]) rfl ?_
  refine R_call q75 rfl rfl rfl rfl rfl rfl h0 ?_
  show Rm E 75 6 [vr 0, vi x1] [.int c1] M _ _
  refine R_ift q75 rfl (decide_eq_true h1) ?_
  show Rm E 75 11 [vr 0, vi x1] [] M _ _
  refine R_S q75 7 (pc2 := 26) (ls2 := [vr 0, vi x1]) (st2 := [.ref 19, .ref 9, .ref 72]) rfl ?_
  refine R_call q75 rfl rfl rfl rfl rfl rfl h2 ?_
  show Rm E 75 29 [vr 0, vi x1] [] N1 _ _
  refine R_S q75 2 (pc2 := 31) (ls2 := [vr 0, vi x1]) (st2 := [.int 2, .int x1]) rfl ?_
  refine R_icf q75 rfl (decide_eq_false h3) ?_
  show Rm E 75 34 [vr 0, vi x1] [] N1 _ _
  refine R_S q75 6 (pc2 := 55) (ls2 := [vr 0, vi x1]) (st2 := [.int (N1.1 72 5 + 1000000)]) rfl ?_
  exact R_ret rfl q75 rfl rfl rfl rfl (stpR_i rfl rfl)
-- call X9_within 6-
theorem b75_0_2 {E : env} {M : mem} {x1 : Int32} {c1 : Int32} (h0 : Rm E 81 0 [vi x1, vi 0, vi 2] [] M (some (.int c1)) M) (h1 : ¬ (¬ c1 = 0)) : Rm E 75 0 [vr 0, vi x1] [] M (some (.int (-1))) M := by
  refine R_S q75 3 (pc2 := 3) (ls2 := [vr 0, vi x1]) (st2 := [.int 2, .int 0, .int x1]) rfl ?_
  refine R_call q75 rfl rfl rfl rfl rfl rfl h0 ?_
  show Rm E 75 6 [vr 0, vi x1] [.int c1] M _ _
  refine R_iff q75 rfl (decide_eq_false h1) ?_
  show Rm E 75 9 [vr 0, vi x1] [] M _ _
  refine R_S q75 1 (pc2 := 10) (ls2 := [vr 0, vi x1]) (st2 := [.int (-1)]) rfl ?_
  exact R_ret rfl q75 rfl rfl rfl rfl (stpR_i rfl rfl)
-- 76 HeavyChains.longest(I)I  cuts [0]
theorem q76 : cdOf 76 = some mt76 := rfl
-- call X9_within 6+ call X6_search 31+ call X6_end
theorem b76_0_0 {E : env} {M : mem} {x1 : Int32} {c1 : Int32} {N1 : mem} {c3 : Int32} (h0 : Rm E 81 0 [vi x1, vi 0, vi 2] [] M (some (.int c1)) M) (h1 : ¬ c1 = 0) (h2 : Rm E 39 0 [vr 72, vr 9, vr 73, vn, vn] [] M none N1) (h3 : ¬ x1 = 2) (h4 : Rm E 40 0 [vr 72, vi x1] [] N1 (some (.int c3)) N1) : Rm E 76 0 [vr 0, vi x1] [] M (some (.int c3)) N1 := by
  refine R_S q76 3 (pc2 := 3) (ls2 := [vr 0, vi x1]) (st2 := [.int 2, .int 0, .int x1]) rfl ?_
  refine R_call q76 rfl rfl rfl rfl rfl rfl h0 ?_
  show Rm E 76 6 [vr 0, vi x1] [.int c1] M _ _
  refine R_ift q76 rfl (decide_eq_true h1) ?_
  show Rm E 76 11 [vr 0, vi x1] [] M _ _
  refine R_S q76 7 (pc2 := 26) (ls2 := [vr 0, vi x1]) (st2 := [.ref 73, .ref 9, .ref 72]) rfl ?_
  refine R_call q76 rfl rfl rfl rfl rfl rfl h2 ?_
  show Rm E 76 29 [vr 0, vi x1] [] N1 _ _
  refine R_S q76 2 (pc2 := 31) (ls2 := [vr 0, vi x1]) (st2 := [.int 2, .int x1]) rfl ?_
  refine R_ict q76 rfl (decide_eq_true h3) ?_
  show Rm E 76 44 [vr 0, vi x1] [] N1 _ _
  refine R_S q76 3 (pc2 := 49) (ls2 := [vr 0, vi x1]) (st2 := [.int x1, .ref 72]) rfl ?_
  refine R_call q76 rfl rfl rfl rfl rfl rfl h4 ?_
  show Rm E 76 52 [vr 0, vi x1] [.int c3] N1 _ _
  exact R_ret rfl q76 rfl rfl rfl rfl (stpR_i rfl rfl)
-- call X9_within 6+ call X6_search 31-
theorem b76_0_1 {E : env} {M : mem} {x1 : Int32} {c1 : Int32} {N1 : mem} (h0 : Rm E 81 0 [vi x1, vi 0, vi 2] [] M (some (.int c1)) M) (h1 : ¬ c1 = 0) (h2 : Rm E 39 0 [vr 72, vr 9, vr 73, vn, vn] [] M none N1) (h3 : ¬ (¬ x1 = 2)) : Rm E 76 0 [vr 0, vi x1] [] M (some (.int (N1.1 72 5))) N1 := by
  refine R_S q76 3 (pc2 := 3) (ls2 := [vr 0, vi x1]) (st2 := [.int 2, .int 0, .int x1]) rfl ?_
  refine R_call q76 rfl rfl rfl rfl rfl rfl h0 ?_
  show Rm E 76 6 [vr 0, vi x1] [.int c1] M _ _
  refine R_ift q76 rfl (decide_eq_true h1) ?_
  show Rm E 76 11 [vr 0, vi x1] [] M _ _
  refine R_S q76 7 (pc2 := 26) (ls2 := [vr 0, vi x1]) (st2 := [.ref 73, .ref 9, .ref 72]) rfl ?_
  refine R_call q76 rfl rfl rfl rfl rfl rfl h2 ?_
  show Rm E 76 29 [vr 0, vi x1] [] N1 _ _
  refine R_S q76 2 (pc2 := 31) (ls2 := [vr 0, vi x1]) (st2 := [.int 2, .int x1]) rfl ?_
  refine R_icf q76 rfl (decide_eq_false h3) ?_
  show Rm E 76 34 [vr 0, vi x1] [] N1 _ _
  refine R_S q76 4 (pc2 := 52) (ls2 := [vr 0, vi x1]) (st2 := [.int (N1.1 72 5)]) rfl ?_
  exact R_ret rfl q76 rfl rfl rfl rfl (stpR_i rfl rfl)
-- call X9_within 6-
theorem b76_0_2 {E : env} {M : mem} {x1 : Int32} {c1 : Int32} (h0 : Rm E 81 0 [vi x1, vi 0, vi 2] [] M (some (.int c1)) M) (h1 : ¬ (¬ c1 = 0)) : Rm E 76 0 [vr 0, vi x1] [] M (some (.int (-1))) M := by
  refine R_S q76 3 (pc2 := 3) (ls2 := [vr 0, vi x1]) (st2 := [.int 2, .int 0, .int x1]) rfl ?_
  refine R_call q76 rfl rfl rfl rfl rfl rfl h0 ?_
  show Rm E 76 6 [vr 0, vi x1] [.int c1] M _ _
  refine R_iff q76 rfl (decide_eq_false h1) ?_
  show Rm E 76 9 [vr 0, vi x1] [] M _ _
  refine R_S q76 1 (pc2 := 10) (ls2 := [vr 0, vi x1]) (st2 := [.int (-1)]) rfl ?_
  exact R_ret rfl q76 rfl rfl rfl rfl (stpR_i rfl rfl)
-- 77 HeavyChains.day(III)I  cuts [0, 46]
theorem q77 : cdOf 77 = some mt77 := rfl
-- call X9_within 8+
theorem b77_0_0 {E : env} {M : mem} {x1 x2 x3 : Int32} {c1 : Int32} (h0 : Rm E 81 0 [vi x1, vi 0, vi 9999] [] M (some (.int c1)) M) (h1 : c1 = 0) : Rm E 77 0 [vr 0, vi x1, vi x2, vi x3, vn] [] M (some (.int (-1))) M := by
  refine R_S q77 3 (pc2 := 5) (ls2 := [vr 0, vi x1, vi x2, vi x3, vn]) (st2 := [.int 9999, .int 0, .int x1]) rfl ?_
  refine R_call q77 rfl rfl rfl rfl rfl rfl h0 ?_
  show Rm E 77 8 [vr 0, vi x1, vi x2, vi x3, vn] [.int c1] M _ _
  refine R_ift q77 rfl (decide_eq_true h1) ?_
  show Rm E 77 30 [vr 0, vi x1, vi x2, vi x3, vn] [] M _ _
  refine R_S q77 1 (pc2 := 31) (ls2 := [vr 0, vi x1, vi x2, vi x3, vn]) (st2 := [.int (-1)]) rfl ?_
  exact R_ret rfl q77 rfl rfl rfl rfl (stpR_i rfl rfl)
-- call X9_within 8- call X9_within 18+
theorem b77_0_1 {E : env} {M : mem} {x1 x2 x3 : Int32} {c1 : Int32} {c2 : Int32} (h0 : Rm E 81 0 [vi x1, vi 0, vi 9999] [] M (some (.int c1)) M) (h1 : ¬ (c1 = 0)) (h2 : Rm E 81 0 [vi x2, vi 1, vi 20] [] M (some (.int c2)) M) (h3 : c2 = 0) : Rm E 77 0 [vr 0, vi x1, vi x2, vi x3, vn] [] M (some (.int (-1))) M := by
  refine R_S q77 3 (pc2 := 5) (ls2 := [vr 0, vi x1, vi x2, vi x3, vn]) (st2 := [.int 9999, .int 0, .int x1]) rfl ?_
  refine R_call q77 rfl rfl rfl rfl rfl rfl h0 ?_
  show Rm E 77 8 [vr 0, vi x1, vi x2, vi x3, vn] [.int c1] M _ _
  refine R_iff q77 rfl (decide_eq_false h1) ?_
  show Rm E 77 11 [vr 0, vi x1, vi x2, vi x3, vn] [] M _ _
  refine R_S q77 3 (pc2 := 15) (ls2 := [vr 0, vi x1, vi x2, vi x3, vn]) (st2 := [.int 20, .int 1, .int x2]) rfl ?_
  refine R_call q77 rfl rfl rfl rfl rfl rfl h2 ?_
  show Rm E 77 18 [vr 0, vi x1, vi x2, vi x3, vn] [.int c2] M _ _
  refine R_ift q77 rfl (decide_eq_true h3) ?_
  show Rm E 77 30 [vr 0, vi x1, vi x2, vi x3, vn] [] M _ _
  refine R_S q77 1 (pc2 := 31) (ls2 := [vr 0, vi x1, vi x2, vi x3, vn]) (st2 := [.int (-1)]) rfl ?_
  exact R_ret rfl q77 rfl rfl rfl rfl (stpR_i rfl rfl)
-- call X9_within 8- call X9_within 18- call X9_within 27+ call X0_copy
theorem b77_0_2 {E : env} {M : mem} {rv : Option Value} {M2 : mem} {x1 x2 x3 : Int32} {c1 : Int32} {c2 : Int32} {c3 : Int32} {N1 : mem} (h0 : Rm E 81 0 [vi x1, vi 0, vi 9999] [] M (some (.int c1)) M) (h1 : ¬ (c1 = 0)) (h2 : Rm E 81 0 [vi x2, vi 1, vi 20] [] M (some (.int c2)) M) (h3 : ¬ (c2 = 0)) (h4 : Rm E 81 0 [vi x3, vi 0, vi 1] [] M (some (.int c3)) M) (h5 : ¬ c3 = 0) (h6 : Rm E 3 0 [vr 22, vr 18] [] M none N1) (k : Rm E 77 46 [vr 0, vi x1, vi x2, vi x3, vi 0] [] N1 rv M2) : Rm E 77 0 [vr 0, vi x1, vi x2, vi x3, vn] [] M rv M2 := by
  refine R_S q77 3 (pc2 := 5) (ls2 := [vr 0, vi x1, vi x2, vi x3, vn]) (st2 := [.int 9999, .int 0, .int x1]) rfl ?_
  refine R_call q77 rfl rfl rfl rfl rfl rfl h0 ?_
  show Rm E 77 8 [vr 0, vi x1, vi x2, vi x3, vn] [.int c1] M _ _
  refine R_iff q77 rfl (decide_eq_false h1) ?_
  show Rm E 77 11 [vr 0, vi x1, vi x2, vi x3, vn] [] M _ _
  refine R_S q77 3 (pc2 := 15) (ls2 := [vr 0, vi x1, vi x2, vi x3, vn]) (st2 := [.int 20, .int 1, .int x2]) rfl ?_
  refine R_call q77 rfl rfl rfl rfl rfl rfl h2 ?_
  show Rm E 77 18 [vr 0, vi x1, vi x2, vi x3, vn] [.int c2] M _ _
  refine R_iff q77 rfl (decide_eq_false h3) ?_
  show Rm E 77 21 [vr 0, vi x1, vi x2, vi x3, vn] [] M _ _
  refine R_S q77 3 (pc2 := 24) (ls2 := [vr 0, vi x1, vi x2, vi x3, vn]) (st2 := [.int 1, .int 0, .int x3]) rfl ?_
  refine R_call q77 rfl rfl rfl rfl rfl rfl h4 ?_
  show Rm E 77 27 [vr 0, vi x1, vi x2, vi x3, vn] [.int c3] M _ _
  refine R_ift q77 rfl (decide_eq_true h5) ?_
  show Rm E 77 32 [vr 0, vi x1, vi x2, vi x3, vn] [] M _ _
  refine R_S q77 4 (pc2 := 40) (ls2 := [vr 0, vi x1, vi x2, vi x3, vn]) (st2 := [.ref 18, .ref 22]) rfl ?_
  refine R_call q77 rfl rfl rfl rfl rfl rfl h6 ?_
  show Rm E 77 43 [vr 0, vi x1, vi x2, vi x3, vn] [] N1 _ _
  refine R_S q77 2 (pc2 := 46) (ls2 := [vr 0, vi x1, vi x2, vi x3, vi 0]) (st2 := []) rfl ?_
  exact k
-- call X9_within 8- call X9_within 18- call X9_within 27-
theorem b77_0_3 {E : env} {M : mem} {x1 x2 x3 : Int32} {c1 : Int32} {c2 : Int32} {c3 : Int32} (h0 : Rm E 81 0 [vi x1, vi 0, vi 9999] [] M (some (.int c1)) M) (h1 : ¬ (c1 = 0)) (h2 : Rm E 81 0 [vi x2, vi 1, vi 20] [] M (some (.int c2)) M) (h3 : ¬ (c2 = 0)) (h4 : Rm E 81 0 [vi x3, vi 0, vi 1] [] M (some (.int c3)) M) (h5 : ¬ (¬ c3 = 0)) : Rm E 77 0 [vr 0, vi x1, vi x2, vi x3, vn] [] M (some (.int (-1))) M := by
  refine R_S q77 3 (pc2 := 5) (ls2 := [vr 0, vi x1, vi x2, vi x3, vn]) (st2 := [.int 9999, .int 0, .int x1]) rfl ?_
  refine R_call q77 rfl rfl rfl rfl rfl rfl h0 ?_
  show Rm E 77 8 [vr 0, vi x1, vi x2, vi x3, vn] [.int c1] M _ _
  refine R_iff q77 rfl (decide_eq_false h1) ?_
  show Rm E 77 11 [vr 0, vi x1, vi x2, vi x3, vn] [] M _ _
  refine R_S q77 3 (pc2 := 15) (ls2 := [vr 0, vi x1, vi x2, vi x3, vn]) (st2 := [.int 20, .int 1, .int x2]) rfl ?_
  refine R_call q77 rfl rfl rfl rfl rfl rfl h2 ?_
  show Rm E 77 18 [vr 0, vi x1, vi x2, vi x3, vn] [.int c2] M _ _
  refine R_iff q77 rfl (decide_eq_false h3) ?_
  show Rm E 77 21 [vr 0, vi x1, vi x2, vi x3, vn] [] M _ _
  refine R_S q77 3 (pc2 := 24) (ls2 := [vr 0, vi x1, vi x2, vi x3, vn]) (st2 := [.int 1, .int 0, .int x3]) rfl ?_
  refine R_call q77 rfl rfl rfl rfl rfl rfl h4 ?_
  show Rm E 77 27 [vr 0, vi x1, vi x2, vi x3, vn] [.int c3] M _ _
  refine R_iff q77 rfl (decide_eq_false h5) ?_
  show Rm E 77 30 [vr 0, vi x1, vi x2, vi x3, vn] [] M _ _
  refine R_S q77 1 (pc2 := 31) (ls2 := [vr 0, vi x1, vi x2, vi x3, vn]) (st2 := [.int (-1)]) rfl ?_
  exact R_ret rfl q77 rfl rfl rfl rfl (stpR_i rfl rfl)
-- 49+ call X4_cover 81+ call X4_greatest
theorem b77_46_0 {E : env} {M : mem} {x1 x2 x3 x4 : Int32} {N1 : mem} {c2 : Int32} (h0 : x2 ≤ x4) (h1 : Rm E 24 0 [vr 70, vr 9, vi 0, vn] [] M none N1) (h2 : ¬ x3 = 0) (h3 : Rm E 27 0 [vr 70, vr 23, vn, vn] [] N1 (some (.int c2)) N1) : Rm E 77 46 [vr 0, vi x1, vi x2, vi x3, vi x4] [] M (some (.int (c2 + 1000000))) N1 := by
  refine R_S q77 2 (pc2 := 49) (ls2 := [vr 0, vi x1, vi x2, vi x3, vi x4]) (st2 := [.int x2, .int x4]) rfl ?_
  refine R_ict q77 rfl (decide_eq_true h0) ?_
  show Rm E 77 68 [vr 0, vi x1, vi x2, vi x3, vi x4] [] M _ _
  refine R_S q77 5 (pc2 := 77) (ls2 := [vr 0, vi x1, vi x2, vi x3, vi x4]) (st2 := [.int 0, .ref 9, .ref 70]) rfl ?_
  refine R_call q77 rfl rfl rfl rfl rfl rfl h1 ?_
  show Rm E 77 80 [vr 0, vi x1, vi x2, vi x3, vi x4] [] N1 _ _
  refine R_S q77 1 (pc2 := 81) (ls2 := [vr 0, vi x1, vi x2, vi x3, vi x4]) (st2 := [.int x3]) rfl ?_
  refine R_ift q77 rfl (decide_eq_true h2) ?_
  show Rm E 77 101 [vr 0, vi x1, vi x2, vi x3, vi x4] [] N1 _ _
  refine R_S q77 5 (pc2 := 112) (ls2 := [vr 0, vi x1, vi x2, vi x3, vi x4]) (st2 := [.ref 23, .ref 70]) rfl ?_
  refine R_call q77 rfl rfl rfl rfl rfl rfl h3 ?_
  show Rm E 77 115 [vr 0, vi x1, vi x2, vi x3, vi x4] [.int c2] N1 _ _
  refine R_S q77 2 (pc2 := 118) (ls2 := [vr 0, vi x1, vi x2, vi x3, vi x4]) (st2 := [.int (c2 + 1000000)]) rfl ?_
  exact R_ret rfl q77 rfl rfl rfl rfl (stpR_i rfl rfl)
-- 49+ call X4_cover 81- call X4_sum
theorem b77_46_1 {E : env} {M : mem} {x1 x2 x3 x4 : Int32} {N1 : mem} {c2 : Int32} (h0 : x2 ≤ x4) (h1 : Rm E 24 0 [vr 70, vr 9, vi 0, vn] [] M none N1) (h2 : ¬ (¬ x3 = 0)) (h3 : Rm E 26 0 [vr 70, vr 23, vn, vn] [] N1 (some (.int c2)) N1) : Rm E 77 46 [vr 0, vi x1, vi x2, vi x3, vi x4] [] M (some (.int (c2 + 1000000))) N1 := by
  refine R_S q77 2 (pc2 := 49) (ls2 := [vr 0, vi x1, vi x2, vi x3, vi x4]) (st2 := [.int x2, .int x4]) rfl ?_
  refine R_ict q77 rfl (decide_eq_true h0) ?_
  show Rm E 77 68 [vr 0, vi x1, vi x2, vi x3, vi x4] [] M _ _
  refine R_S q77 5 (pc2 := 77) (ls2 := [vr 0, vi x1, vi x2, vi x3, vi x4]) (st2 := [.int 0, .ref 9, .ref 70]) rfl ?_
  refine R_call q77 rfl rfl rfl rfl rfl rfl h1 ?_
  show Rm E 77 80 [vr 0, vi x1, vi x2, vi x3, vi x4] [] N1 _ _
  refine R_S q77 1 (pc2 := 81) (ls2 := [vr 0, vi x1, vi x2, vi x3, vi x4]) (st2 := [.int x3]) rfl ?_
  refine R_iff q77 rfl (decide_eq_false h2) ?_
  show Rm E 77 84 [vr 0, vi x1, vi x2, vi x3, vi x4] [] N1 _ _
  refine R_S q77 5 (pc2 := 95) (ls2 := [vr 0, vi x1, vi x2, vi x3, vi x4]) (st2 := [.ref 23, .ref 70]) rfl ?_
  refine R_call q77 rfl rfl rfl rfl rfl rfl h3 ?_
  show Rm E 77 98 [vr 0, vi x1, vi x2, vi x3, vi x4] [.int c2] N1 _ _
  refine R_S q77 3 (pc2 := 118) (ls2 := [vr 0, vi x1, vi x2, vi x3, vi x4]) (st2 := [.int (c2 + 1000000)]) rfl ?_
  exact R_ret rfl q77 rfl rfl rfl rfl (stpR_i rfl rfl)
-- 49- call X9_draw call X9_tryDraw
theorem b77_46_2 {E : env} {M : mem} {rv : Option Value} {M2 : mem} {x1 x2 x3 x4 : Int32} {c1 : Int32} {N1 : mem} (h0 : ¬ (x2 ≤ x4)) (h1 : Rm E 86 0 [vi x1, vi x4, vn, vn] [] M (some (.int c1)) M) (h2 : Rm E 87 0 [vr 0, vi c1, vn, vn, vn] [] M none N1) (k : Rm E 77 46 [vr 0, vi x1, vi x2, vi x3, vi (x4 + 1)] [] N1 rv M2) : Rm E 77 46 [vr 0, vi x1, vi x2, vi x3, vi x4] [] M rv M2 := by
  refine R_S q77 2 (pc2 := 49) (ls2 := [vr 0, vi x1, vi x2, vi x3, vi x4]) (st2 := [.int x2, .int x4]) rfl ?_
  refine R_icf q77 rfl (decide_eq_false h0) ?_
  show Rm E 77 52 [vr 0, vi x1, vi x2, vi x3, vi x4] [] M _ _
  refine R_S q77 3 (pc2 := 56) (ls2 := [vr 0, vi x1, vi x2, vi x3, vi x4]) (st2 := [.int x4, .int x1, .ref 0]) rfl ?_
  refine R_call q77 rfl rfl rfl rfl rfl rfl h1 ?_
  show Rm E 77 59 [vr 0, vi x1, vi x2, vi x3, vi x4] [.int c1, .ref 0] M _ _
  refine R_call q77 rfl rfl rfl rfl rfl rfl h2 ?_
  show Rm E 77 62 [vr 0, vi x1, vi x2, vi x3, vi x4] [] N1 _ _
  refine R_S q77 2 (pc2 := 46) (ls2 := [vr 0, vi x1, vi x2, vi x3, vi (x4 + 1)]) (st2 := []) rfl ?_
  exact k
-- 78 HeavyChains.keep()I  cuts [0]
theorem q78 : cdOf 78 = some mt78 := rfl
-- 8+ call X5_push
theorem b78_0_0 {E : env} {M : mem} {N1 : mem} (h0 : M.1 60 1 < 2) (h1 : Rm E 35 0 [vr 60, vr 18] [] M none N1) : Rm E 78 0 [vr 0] [] M (some (.int (N1.1 60 1))) N1 := by
  refine R_S q78 4 (pc2 := 8) (ls2 := [vr 0]) (st2 := [.int 2, .int (M.1 60 1)]) rfl ?_
  refine R_ict q78 rfl (decide_eq_true h0) ?_
  show Rm E 78 14 [vr 0] [] M _ _
  refine R_S q78 4 (pc2 := 22) (ls2 := [vr 0]) (st2 := [.ref 18, .ref 60]) rfl ?_
  refine R_call q78 rfl rfl rfl rfl rfl rfl h1 ?_
  show Rm E 78 25 [vr 0] [] N1 _ _
  refine R_S q78 3 (pc2 := 32) (ls2 := [vr 0]) (st2 := [.int (N1.1 60 1)]) rfl ?_
  exact R_ret rfl q78 rfl rfl rfl rfl (stpR_i rfl rfl)
-- 8-
theorem b78_0_1 {E : env} {M : mem}  (h0 : ¬ (M.1 60 1 < 2)) : Rm E 78 0 [vr 0] [] M (some (.int (-3))) M := by
  refine R_S q78 4 (pc2 := 8) (ls2 := [vr 0]) (st2 := [.int 2, .int (M.1 60 1)]) rfl ?_
  refine R_icf q78 rfl (decide_eq_false h0) ?_
  show Rm E 78 11 [vr 0] [] M _ _
  refine R_S q78 1 (pc2 := 13) (ls2 := [vr 0]) (st2 := [.int (-3)]) rfl ?_
  exact R_ret rfl q78 rfl rfl rfl rfl (stpR_i rfl rfl)
-- 79 HeavyChains.back()I  cuts [0]
theorem q79 : cdOf 79 = some mt79 := rfl
-- call X5_pop 11+
theorem b79_0_0 {E : env} {M : mem} {c1 : Int32} {N1 : mem} {N2 : mem} (h0 : Rm E 36 0 [vr 60, vr 18] [] M (some (.int c1)) N1) (h1 : ¬ c1 = 0) (eN2 : N2 = upM N1 26 1 0) : Rm E 79 0 [vr 0] [] M (some (.int (N2.1 60 1))) N2 := by
  refine R_S q79 4 (pc2 := 8) (ls2 := [vr 0]) (st2 := [.ref 18, .ref 60]) rfl ?_
  refine R_call q79 rfl rfl rfl rfl rfl rfl h0 ?_
  show Rm E 79 11 [vr 0] [.int c1] N1 _ _
  refine R_ift q79 rfl (decide_eq_true h1) ?_
  show Rm E 79 17 [vr 0] [] N1 _ _
  refine R_S q79 3 (pc2 := 22) (ls2 := [vr 0]) (st2 := [.int 0, .ref 26]) rfl ?_
  refine R_pf q79 rfl rfl rfl rfl rfl eN2 ?_
  show Rm E 79 25 [vr 0] [] N2 _ _
  refine R_S q79 3 (pc2 := 32) (ls2 := [vr 0]) (st2 := [.int (N2.1 60 1)]) rfl ?_
  exact R_ret rfl q79 rfl rfl rfl rfl (stpR_i rfl rfl)
-- call X5_pop 11-
theorem b79_0_1 {E : env} {M : mem} {c1 : Int32} {N1 : mem} (h0 : Rm E 36 0 [vr 60, vr 18] [] M (some (.int c1)) N1) (h1 : ¬ (¬ c1 = 0)) : Rm E 79 0 [vr 0] [] M (some (.int (-2))) N1 := by
  refine R_S q79 4 (pc2 := 8) (ls2 := [vr 0]) (st2 := [.ref 18, .ref 60]) rfl ?_
  refine R_call q79 rfl rfl rfl rfl rfl rfl h0 ?_
  show Rm E 79 11 [vr 0] [.int c1] N1 _ _
  refine R_iff q79 rfl (decide_eq_false h1) ?_
  show Rm E 79 14 [vr 0] [] N1 _ _
  refine R_S q79 1 (pc2 := 16) (ls2 := [vr 0]) (st2 := [.int (-2)]) rfl ?_
  exact R_ret rfl q79 rfl rfl rfl rfl (stpR_i rfl rfl)
-- 80 HeavyChains.count(I)I  cuts [0]
theorem q80 : cdOf 80 = some mt80 := rfl
-- 1=else
theorem b80_0_0 {E : env} {M : mem} {x1 : Int32}  (h0 : (x1).toInt < 0 ∨ 8 < (x1).toInt) : Rm E 80 0 [vr 0, vi x1] [] M (some (.int (-1))) M := by
  refine R_S q80 1 (pc2 := 1) (ls2 := [vr 0, vi x1]) (st2 := [.int x1]) rfl ?_
  refine R_tsd q80 rfl h0 rfl ?_
  show Rm E 80 134 [vr 0, vi x1] [] M _ _
  refine R_S q80 1 (pc2 := 135) (ls2 := [vr 0, vi x1]) (st2 := [.int (-1)]) rfl ?_
  exact R_ret rfl q80 rfl rfl rfl rfl (stpR_i rfl rfl)
-- 1=0
theorem b80_0_1 {E : env} {M : mem} {x1 : Int32}  (h0 : x1 = 0) : Rm E 80 0 [vr 0, vi x1] [] M (some (.int (M.1 9 0))) M := by
  refine R_S q80 1 (pc2 := 1) (ls2 := [vr 0, vi x1]) (st2 := [.int x1]) rfl ?_
  refine R_top h0 ?_
  refine R_S q80 1 (pc2 := 52) (ls2 := [vr 0, vi x1]) (st2 := []) rfl ?_
  refine R_S q80 3 (pc2 := 59) (ls2 := [vr 0, vi x1]) (st2 := [.int (M.1 9 0)]) rfl ?_
  exact R_ret rfl q80 rfl rfl rfl rfl (stpR_i rfl rfl)
-- 1=1
theorem b80_0_2 {E : env} {M : mem} {x1 : Int32}  (h0 : x1 = 1) : Rm E 80 0 [vr 0, vi x1] [] M (some (.int (M.1 9 1))) M := by
  refine R_S q80 1 (pc2 := 1) (ls2 := [vr 0, vi x1]) (st2 := [.int x1]) rfl ?_
  refine R_top h0 ?_
  refine R_S q80 1 (pc2 := 60) (ls2 := [vr 0, vi x1]) (st2 := []) rfl ?_
  refine R_S q80 3 (pc2 := 67) (ls2 := [vr 0, vi x1]) (st2 := [.int (M.1 9 1)]) rfl ?_
  exact R_ret rfl q80 rfl rfl rfl rfl (stpR_i rfl rfl)
-- 1=2 call X2_all
theorem b80_0_3 {E : env} {M : mem} {x1 : Int32} {c1 : Int32} (h0 : x1 = 2) (h1 : Rm E 9 0 [vr 76, vn, vn] [] M (some (.int c1)) M) : Rm E 80 0 [vr 0, vi x1] [] M (some (.int c1)) M := by
  refine R_S q80 1 (pc2 := 1) (ls2 := [vr 0, vi x1]) (st2 := [.int x1]) rfl ?_
  refine R_top h0 ?_
  refine R_S q80 1 (pc2 := 68) (ls2 := [vr 0, vi x1]) (st2 := []) rfl ?_
  refine R_S q80 2 (pc2 := 72) (ls2 := [vr 0, vi x1]) (st2 := [.ref 76]) rfl ?_
  refine R_call q80 rfl rfl rfl rfl rfl rfl h1 ?_
  show Rm E 80 75 [vr 0, vi x1] [.int c1] M _ _
  exact R_ret rfl q80 rfl rfl rfl rfl (stpR_i rfl rfl)
-- 1=3
theorem b80_0_4 {E : env} {M : mem} {x1 : Int32}  (h0 : x1 = 3) : Rm E 80 0 [vr 0, vi x1] [] M (some (.int (M.1 78 4))) M := by
  refine R_S q80 1 (pc2 := 1) (ls2 := [vr 0, vi x1]) (st2 := [.int x1]) rfl ?_
  refine R_top h0 ?_
  refine R_S q80 1 (pc2 := 76) (ls2 := [vr 0, vi x1]) (st2 := []) rfl ?_
  refine R_S q80 3 (pc2 := 83) (ls2 := [vr 0, vi x1]) (st2 := [.int (M.1 78 4)]) rfl ?_
  exact R_ret rfl q80 rfl rfl rfl rfl (stpR_i rfl rfl)
-- 1=4
theorem b80_0_5 {E : env} {M : mem} {x1 : Int32}  (h0 : x1 = 4) : Rm E 80 0 [vr 0, vi x1] [] M (some (.int (M.1 78 5))) M := by
  refine R_S q80 1 (pc2 := 1) (ls2 := [vr 0, vi x1]) (st2 := [.int x1]) rfl ?_
  refine R_top h0 ?_
  refine R_S q80 1 (pc2 := 84) (ls2 := [vr 0, vi x1]) (st2 := []) rfl ?_
  refine R_S q80 3 (pc2 := 91) (ls2 := [vr 0, vi x1]) (st2 := [.int (M.1 78 5)]) rfl ?_
  exact R_ret rfl q80 rfl rfl rfl rfl (stpR_i rfl rfl)
-- 1=5
theorem b80_0_6 {E : env} {M : mem} {x1 : Int32}  (h0 : x1 = 5) : Rm E 80 0 [vr 0, vi x1] [] M (some (.int (M.1 26 1))) M := by
  refine R_S q80 1 (pc2 := 1) (ls2 := [vr 0, vi x1]) (st2 := [.int x1]) rfl ?_
  refine R_top h0 ?_
  refine R_S q80 1 (pc2 := 92) (ls2 := [vr 0, vi x1]) (st2 := []) rfl ?_
  refine R_S q80 3 (pc2 := 99) (ls2 := [vr 0, vi x1]) (st2 := [.int (M.1 26 1)]) rfl ?_
  exact R_ret rfl q80 rfl rfl rfl rfl (stpR_i rfl rfl)
-- 1=6
theorem b80_0_7 {E : env} {M : mem} {x1 : Int32}  (h0 : x1 = 6) : Rm E 80 0 [vr 0, vi x1] [] M (some (.int (M.1 60 1))) M := by
  refine R_S q80 1 (pc2 := 1) (ls2 := [vr 0, vi x1]) (st2 := [.int x1]) rfl ?_
  refine R_top h0 ?_
  refine R_S q80 1 (pc2 := 100) (ls2 := [vr 0, vi x1]) (st2 := []) rfl ?_
  refine R_S q80 3 (pc2 := 107) (ls2 := [vr 0, vi x1]) (st2 := [.int (M.1 60 1)]) rfl ?_
  exact R_ret rfl q80 rfl rfl rfl rfl (stpR_i rfl rfl)
-- 1=7
theorem b80_0_8 {E : env} {M : mem} {x1 : Int32}  (h0 : x1 = 7) : Rm E 80 0 [vr 0, vi x1] [] M (some (.int (M.1 1 1))) M := by
  refine R_S q80 1 (pc2 := 1) (ls2 := [vr 0, vi x1]) (st2 := [.int x1]) rfl ?_
  refine R_top h0 ?_
  refine R_S q80 1 (pc2 := 108) (ls2 := [vr 0, vi x1]) (st2 := []) rfl ?_
  refine R_S q80 3 (pc2 := 115) (ls2 := [vr 0, vi x1]) (st2 := [.int (M.1 1 1)]) rfl ?_
  exact R_ret rfl q80 rfl rfl rfl rfl (stpR_i rfl rfl)
-- 1=8 call X0_total
theorem b80_0_9 {E : env} {M : mem} {x1 : Int32} {c1 : Int32} (h0 : x1 = 8) (h1 : Rm E 4 0 [vr 18, vi (M.1 9 0), vn, vn] [] M (some (.int c1)) M) : Rm E 80 0 [vr 0, vi x1] [] M (some (.int (c1 + 1000000))) M := by
  refine R_S q80 1 (pc2 := 1) (ls2 := [vr 0, vi x1]) (st2 := [.int x1]) rfl ?_
  refine R_top h0 ?_
  refine R_S q80 1 (pc2 := 116) (ls2 := [vr 0, vi x1]) (st2 := []) rfl ?_
  refine R_S q80 5 (pc2 := 127) (ls2 := [vr 0, vi x1]) (st2 := [.int (M.1 9 0), .ref 18]) rfl ?_
  refine R_call q80 rfl rfl rfl rfl rfl rfl h1 ?_
  show Rm E 80 130 [vr 0, vi x1] [.int c1] M _ _
  refine R_S q80 2 (pc2 := 133) (ls2 := [vr 0, vi x1]) (st2 := [.int (c1 + 1000000)]) rfl ?_
  exact R_ret rfl q80 rfl rfl rfl rfl (stpR_i rfl rfl)
-- 81 HeavyChains.within(III)Z  cuts [0]
theorem q81 : cdOf 81 = some mt81 := rfl
-- 2+
theorem b81_0_0 {E : env} {M : mem} {x0 x1 x2 : Int32}  (h0 : x0 < x1) : Rm E 81 0 [vi x0, vi x1, vi x2] [] M (some (.int 0)) M := by
  refine R_S q81 2 (pc2 := 2) (ls2 := [vi x0, vi x1, vi x2]) (st2 := [.int x1, .int x0]) rfl ?_
  refine R_ict q81 rfl (decide_eq_true h0) ?_
  show Rm E 81 14 [vi x0, vi x1, vi x2] [] M _ _
  refine R_S q81 1 (pc2 := 15) (ls2 := [vi x0, vi x1, vi x2]) (st2 := [.int 0]) rfl ?_
  exact R_ret rfl q81 rfl rfl rfl rfl rfl
-- 2- 7+
theorem b81_0_1 {E : env} {M : mem} {x0 x1 x2 : Int32}  (h0 : ¬ (x0 < x1)) (h1 : x2 < x0) : Rm E 81 0 [vi x0, vi x1, vi x2] [] M (some (.int 0)) M := by
  refine R_S q81 2 (pc2 := 2) (ls2 := [vi x0, vi x1, vi x2]) (st2 := [.int x1, .int x0]) rfl ?_
  refine R_icf q81 rfl (decide_eq_false h0) ?_
  show Rm E 81 5 [vi x0, vi x1, vi x2] [] M _ _
  refine R_S q81 2 (pc2 := 7) (ls2 := [vi x0, vi x1, vi x2]) (st2 := [.int x2, .int x0]) rfl ?_
  refine R_ict q81 rfl (decide_eq_true h1) ?_
  show Rm E 81 14 [vi x0, vi x1, vi x2] [] M _ _
  refine R_S q81 1 (pc2 := 15) (ls2 := [vi x0, vi x1, vi x2]) (st2 := [.int 0]) rfl ?_
  exact R_ret rfl q81 rfl rfl rfl rfl rfl
-- 2- 7-
theorem b81_0_2 {E : env} {M : mem} {x0 x1 x2 : Int32}  (h0 : ¬ (x0 < x1)) (h1 : ¬ (x2 < x0)) : Rm E 81 0 [vi x0, vi x1, vi x2] [] M (some (.int 1)) M := by
  refine R_S q81 2 (pc2 := 2) (ls2 := [vi x0, vi x1, vi x2]) (st2 := [.int x1, .int x0]) rfl ?_
  refine R_icf q81 rfl (decide_eq_false h0) ?_
  show Rm E 81 5 [vi x0, vi x1, vi x2] [] M _ _
  refine R_S q81 2 (pc2 := 7) (ls2 := [vi x0, vi x1, vi x2]) (st2 := [.int x2, .int x0]) rfl ?_
  refine R_icf q81 rfl (decide_eq_false h1) ?_
  show Rm E 81 10 [vi x0, vi x1, vi x2] [] M _ _
  refine R_S q81 2 (pc2 := 15) (ls2 := [vi x0, vi x1, vi x2]) (st2 := [.int 1]) rfl ?_
  exact R_ret rfl q81 rfl rfl rfl rfl rfl
-- 82 HeavyChains.isAddition(II)Z  cuts [0]
theorem q82 : cdOf 82 = some mt82 := rfl
-- call X9_within 10+
theorem b82_0_0 {E : env} {M : mem} {x0 x1 : Int32} {c1 : Int32} (h0 : Rm E 81 0 [vi x0, vi (-999), vi 999] [] M (some (.int c1)) M) (h1 : c1 = 0) : Rm E 82 0 [vi x0, vi x1] [] M (some (.int 0)) M := by
  refine R_S q82 3 (pc2 := 7) (ls2 := [vi x0, vi x1]) (st2 := [.int 999, .int (-999), .int x0]) rfl ?_
  refine R_call q82 rfl rfl rfl rfl rfl rfl h0 ?_
  show Rm E 82 10 [vi x0, vi x1] [.int c1] M _ _
  refine R_ift q82 rfl (decide_eq_true h1) ?_
  show Rm E 82 26 [vi x0, vi x1] [] M _ _
  refine R_S q82 1 (pc2 := 27) (ls2 := [vi x0, vi x1]) (st2 := [.int 0]) rfl ?_
  exact R_ret rfl q82 rfl rfl rfl rfl rfl
-- call X9_within 10- call X9_within 19+
theorem b82_0_1 {E : env} {M : mem} {x0 x1 : Int32} {c1 : Int32} {c2 : Int32} (h0 : Rm E 81 0 [vi x0, vi (-999), vi 999] [] M (some (.int c1)) M) (h1 : ¬ (c1 = 0)) (h2 : Rm E 81 0 [vi x1, vi 0, vi 3] [] M (some (.int c2)) M) (h3 : c2 = 0) : Rm E 82 0 [vi x0, vi x1] [] M (some (.int 0)) M := by
  refine R_S q82 3 (pc2 := 7) (ls2 := [vi x0, vi x1]) (st2 := [.int 999, .int (-999), .int x0]) rfl ?_
  refine R_call q82 rfl rfl rfl rfl rfl rfl h0 ?_
  show Rm E 82 10 [vi x0, vi x1] [.int c1] M _ _
  refine R_iff q82 rfl (decide_eq_false h1) ?_
  show Rm E 82 13 [vi x0, vi x1] [] M _ _
  refine R_S q82 3 (pc2 := 16) (ls2 := [vi x0, vi x1]) (st2 := [.int 3, .int 0, .int x1]) rfl ?_
  refine R_call q82 rfl rfl rfl rfl rfl rfl h2 ?_
  show Rm E 82 19 [vi x0, vi x1] [.int c2] M _ _
  refine R_ift q82 rfl (decide_eq_true h3) ?_
  show Rm E 82 26 [vi x0, vi x1] [] M _ _
  refine R_S q82 1 (pc2 := 27) (ls2 := [vi x0, vi x1]) (st2 := [.int 0]) rfl ?_
  exact R_ret rfl q82 rfl rfl rfl rfl rfl
-- call X9_within 10- call X9_within 19-
theorem b82_0_2 {E : env} {M : mem} {x0 x1 : Int32} {c1 : Int32} {c2 : Int32} (h0 : Rm E 81 0 [vi x0, vi (-999), vi 999] [] M (some (.int c1)) M) (h1 : ¬ (c1 = 0)) (h2 : Rm E 81 0 [vi x1, vi 0, vi 3] [] M (some (.int c2)) M) (h3 : ¬ (c2 = 0)) : Rm E 82 0 [vi x0, vi x1] [] M (some (.int 1)) M := by
  refine R_S q82 3 (pc2 := 7) (ls2 := [vi x0, vi x1]) (st2 := [.int 999, .int (-999), .int x0]) rfl ?_
  refine R_call q82 rfl rfl rfl rfl rfl rfl h0 ?_
  show Rm E 82 10 [vi x0, vi x1] [.int c1] M _ _
  refine R_iff q82 rfl (decide_eq_false h1) ?_
  show Rm E 82 13 [vi x0, vi x1] [] M _ _
  refine R_S q82 3 (pc2 := 16) (ls2 := [vi x0, vi x1]) (st2 := [.int 3, .int 0, .int x1]) rfl ?_
  refine R_call q82 rfl rfl rfl rfl rfl rfl h2 ?_
  show Rm E 82 19 [vi x0, vi x1] [.int c2] M _ _
  refine R_iff q82 rfl (decide_eq_false h3) ?_
  show Rm E 82 22 [vi x0, vi x1] [] M _ _
  refine R_S q82 2 (pc2 := 27) (ls2 := [vi x0, vi x1]) (st2 := [.int 1]) rfl ?_
  exact R_ret rfl q82 rfl rfl rfl rfl rfl
-- 83 HeavyChains.isPost(I)Z  cuts [0]
theorem q83 : cdOf 83 = some mt83 := rfl
-- 1+
theorem b83_0_0 {E : env} {M : mem} {x1 : Int32}  (h0 : x1 < 0) : Rm E 83 0 [vr 0, vi x1] [] M (some (.int 0)) M := by
  refine R_S q83 1 (pc2 := 1) (ls2 := [vr 0, vi x1]) (st2 := [.int x1]) rfl ?_
  refine R_ift q83 rfl (decide_eq_true h0) ?_
  show Rm E 83 19 [vr 0, vi x1] [] M _ _
  refine R_S q83 1 (pc2 := 20) (ls2 := [vr 0, vi x1]) (st2 := [.int 0]) rfl ?_
  exact R_ret rfl q83 rfl rfl rfl rfl rfl
-- 1- 12+
theorem b83_0_1 {E : env} {M : mem} {x1 : Int32}  (h0 : ¬ (x1 < 0)) (h1 : M.1 9 0 ≤ x1) : Rm E 83 0 [vr 0, vi x1] [] M (some (.int 0)) M := by
  refine R_S q83 1 (pc2 := 1) (ls2 := [vr 0, vi x1]) (st2 := [.int x1]) rfl ?_
  refine R_iff q83 rfl (decide_eq_false h0) ?_
  show Rm E 83 4 [vr 0, vi x1] [] M _ _
  refine R_S q83 4 (pc2 := 12) (ls2 := [vr 0, vi x1]) (st2 := [.int (M.1 9 0), .int x1]) rfl ?_
  refine R_ict q83 rfl (decide_eq_true h1) ?_
  show Rm E 83 19 [vr 0, vi x1] [] M _ _
  refine R_S q83 1 (pc2 := 20) (ls2 := [vr 0, vi x1]) (st2 := [.int 0]) rfl ?_
  exact R_ret rfl q83 rfl rfl rfl rfl rfl
-- 1- 12-
theorem b83_0_2 {E : env} {M : mem} {x1 : Int32}  (h0 : ¬ (x1 < 0)) (h1 : ¬ (M.1 9 0 ≤ x1)) : Rm E 83 0 [vr 0, vi x1] [] M (some (.int 1)) M := by
  refine R_S q83 1 (pc2 := 1) (ls2 := [vr 0, vi x1]) (st2 := [.int x1]) rfl ?_
  refine R_iff q83 rfl (decide_eq_false h0) ?_
  show Rm E 83 4 [vr 0, vi x1] [] M _ _
  refine R_S q83 4 (pc2 := 12) (ls2 := [vr 0, vi x1]) (st2 := [.int (M.1 9 0), .int x1]) rfl ?_
  refine R_icf q83 rfl (decide_eq_false h1) ?_
  show Rm E 83 15 [vr 0, vi x1] [] M _ _
  refine R_S q83 2 (pc2 := 20) (ls2 := [vr 0, vi x1]) (st2 := [.int 1]) rfl ?_
  exact R_ret rfl q83 rfl rfl rfl rfl rfl
-- 84 HeavyChains.takeText()Z  cuts [0]
theorem q84 : cdOf 84 = some mt84 := rfl
-- call X3_read 13+
theorem b84_0_0 {E : env} {M : mem} {c1 : Int32} {N1 : mem} (h0 : Rm E 16 0 [vr 3, vr 1, vn, vn, vn] [] M (some (.int c1)) N1) (h1 : ¬ c1 = (-4)) : Rm E 84 0 [vr 0] [] M (some (.int 0)) N1 := by
  refine R_S q84 4 (pc2 := 8) (ls2 := [vr 0]) (st2 := [.ref 1, .ref 3]) rfl ?_
  refine R_call q84 rfl rfl rfl rfl rfl rfl h0 ?_
  show Rm E 84 11 [vr 0] [.int c1] N1 _ _
  refine R_S q84 1 (pc2 := 13) (ls2 := [vr 0]) (st2 := [.int (-4), .int c1]) rfl ?_
  refine R_ict q84 rfl (decide_eq_true h1) ?_
  show Rm E 84 26 [vr 0] [] N1 _ _
  refine R_S q84 1 (pc2 := 27) (ls2 := [vr 0]) (st2 := [.int 0]) rfl ?_
  exact R_ret rfl q84 rfl rfl rfl rfl rfl
-- call X3_read 13- 23+ call X7_build call X0_copy call X2_clear call X8_clear
theorem b84_0_1 {E : env} {M : mem} {c1 : Int32} {N1 : mem} {N2 : mem} {N3 : mem} {N4 : mem} {N5 : mem} {N6 : mem} {N7 : mem} (h0 : Rm E 16 0 [vr 3, vr 1, vn, vn, vn] [] M (some (.int c1)) N1) (h1 : ¬ (¬ c1 = (-4))) (h2 : ¬ N1.1 3 0 = 0) (h3 : Rm E 42 0 [vr 9, vi (N1.1 3 0), vr 4, vn] [] N1 none N2) (h4 : Rm E 3 0 [vr 18, vr 5] [] N2 none N3) (eN4 : N4 = upM N3 26 1 0) (eN5 : N5 = upM N4 60 1 0) (h5 : Rm E 8 0 [vr 76, vn] [] N5 none N6) (h6 : Rm E 48 0 [vr 78] [] N6 none N7) : Rm E 84 0 [vr 0] [] M (some (.int 1)) N7 := by
  refine R_S q84 4 (pc2 := 8) (ls2 := [vr 0]) (st2 := [.ref 1, .ref 3]) rfl ?_
  refine R_call q84 rfl rfl rfl rfl rfl rfl h0 ?_
  show Rm E 84 11 [vr 0] [.int c1] N1 _ _
  refine R_S q84 1 (pc2 := 13) (ls2 := [vr 0]) (st2 := [.int (-4), .int c1]) rfl ?_
  refine R_icf q84 rfl (decide_eq_false h1) ?_
  show Rm E 84 16 [vr 0] [] N1 _ _
  refine R_S q84 3 (pc2 := 23) (ls2 := [vr 0]) (st2 := [.int (N1.1 3 0)]) rfl ?_
  refine R_ift q84 rfl (decide_eq_true h2) ?_
  show Rm E 84 28 [vr 0] [] N1 _ _
  refine R_S q84 8 (pc2 := 46) (ls2 := [vr 0]) (st2 := [.ref 4, .int (N1.1 3 0), .ref 9]) rfl ?_
  refine R_call q84 rfl rfl rfl rfl rfl rfl h3 ?_
  show Rm E 84 49 [vr 0] [] N2 _ _
  refine R_S q84 5 (pc2 := 60) (ls2 := [vr 0]) (st2 := [.ref 5, .ref 18]) rfl ?_
  refine R_call q84 rfl rfl rfl rfl rfl rfl h4 ?_
  show Rm E 84 63 [vr 0] [] N3 _ _
  refine R_S q84 3 (pc2 := 68) (ls2 := [vr 0]) (st2 := [.int 0, .ref 26]) rfl ?_
  refine R_pf q84 rfl rfl rfl rfl rfl eN4 ?_
  show Rm E 84 71 [vr 0] [] N4 _ _
  refine R_S q84 3 (pc2 := 76) (ls2 := [vr 0]) (st2 := [.int 0, .ref 60]) rfl ?_
  refine R_pf q84 rfl rfl rfl rfl rfl eN5 ?_
  show Rm E 84 79 [vr 0] [] N5 _ _
  refine R_S q84 2 (pc2 := 83) (ls2 := [vr 0]) (st2 := [.ref 76]) rfl ?_
  refine R_call q84 rfl rfl rfl rfl rfl rfl h5 ?_
  show Rm E 84 86 [vr 0] [] N6 _ _
  refine R_S q84 2 (pc2 := 90) (ls2 := [vr 0]) (st2 := [.ref 78]) rfl ?_
  refine R_call q84 rfl rfl rfl rfl rfl rfl h6 ?_
  show Rm E 84 93 [vr 0] [] N7 _ _
  refine R_S q84 1 (pc2 := 94) (ls2 := [vr 0]) (st2 := [.int 1]) rfl ?_
  exact R_ret rfl q84 rfl rfl rfl rfl rfl
-- call X3_read 13- 23-
theorem b84_0_2 {E : env} {M : mem} {c1 : Int32} {N1 : mem} (h0 : Rm E 16 0 [vr 3, vr 1, vn, vn, vn] [] M (some (.int c1)) N1) (h1 : ¬ (¬ c1 = (-4))) (h2 : ¬ (¬ N1.1 3 0 = 0)) : Rm E 84 0 [vr 0] [] M (some (.int 0)) N1 := by
  refine R_S q84 4 (pc2 := 8) (ls2 := [vr 0]) (st2 := [.ref 1, .ref 3]) rfl ?_
  refine R_call q84 rfl rfl rfl rfl rfl rfl h0 ?_
  show Rm E 84 11 [vr 0] [.int c1] N1 _ _
  refine R_S q84 1 (pc2 := 13) (ls2 := [vr 0]) (st2 := [.int (-4), .int c1]) rfl ?_
  refine R_icf q84 rfl (decide_eq_false h1) ?_
  show Rm E 84 16 [vr 0] [] N1 _ _
  refine R_S q84 3 (pc2 := 23) (ls2 := [vr 0]) (st2 := [.int (N1.1 3 0)]) rfl ?_
  refine R_iff q84 rfl (decide_eq_false h2) ?_
  show Rm E 84 26 [vr 0] [] N1 _ _
  refine R_S q84 1 (pc2 := 27) (ls2 := [vr 0]) (st2 := [.int 0]) rfl ?_
  exact R_ret rfl q84 rfl rfl rfl rfl rfl
-- 85 HeavyChains.addToRoute(II)I  cuts [0]
theorem q85 : cdOf 85 = some mt85 := rfl
-- call X4_canTake 16+ call X5_push call X4_take call X4_sum
theorem b85_0_0 {E : env} {M : mem} {x1 x2 : Int32} {c1 : Int32} {N1 : mem} {N2 : mem} {c4 : Int32} (h0 : Rm E 31 0 [vr 70, vr 19, vi x1, vi x2, vn] [] M (some (.int c1)) M) (h1 : ¬ c1 = 0) (h2 : Rm E 35 0 [vr 26, vr 18] [] M none N1) (h3 : Rm E 32 0 [vr 70, vr 19, vi x1, vi x2, vn] [] N1 none N2) (h4 : Rm E 26 0 [vr 70, vr 19, vn, vn] [] N2 (some (.int c4)) N2) : Rm E 85 0 [vr 0, vi x1, vi x2] [] M (some (.int (c4 + 1000000))) N2 := by
  refine R_S q85 7 (pc2 := 13) (ls2 := [vr 0, vi x1, vi x2]) (st2 := [.int x2, .int x1, .ref 19, .ref 70]) rfl ?_
  refine R_call q85 rfl rfl rfl rfl rfl rfl h0 ?_
  show Rm E 85 16 [vr 0, vi x1, vi x2] [.int c1] M _ _
  refine R_ift q85 rfl (decide_eq_true h1) ?_
  show Rm E 85 22 [vr 0, vi x1, vi x2] [] M _ _
  refine R_S q85 4 (pc2 := 30) (ls2 := [vr 0, vi x1, vi x2]) (st2 := [.ref 18, .ref 26]) rfl ?_
  refine R_call q85 rfl rfl rfl rfl rfl rfl h2 ?_
  show Rm E 85 33 [vr 0, vi x1, vi x2] [] N1 _ _
  refine R_S q85 7 (pc2 := 46) (ls2 := [vr 0, vi x1, vi x2]) (st2 := [.int x2, .int x1, .ref 19, .ref 70]) rfl ?_
  refine R_call q85 rfl rfl rfl rfl rfl rfl h3 ?_
  show Rm E 85 49 [vr 0, vi x1, vi x2] [] N2 _ _
  refine R_S q85 5 (pc2 := 60) (ls2 := [vr 0, vi x1, vi x2]) (st2 := [.ref 19, .ref 70]) rfl ?_
  refine R_call q85 rfl rfl rfl rfl rfl rfl h4 ?_
  show Rm E 85 63 [vr 0, vi x1, vi x2] [.int c4] N2 _ _
  refine R_S q85 2 (pc2 := 66) (ls2 := [vr 0, vi x1, vi x2]) (st2 := [.int (c4 + 1000000)]) rfl ?_
  exact R_ret rfl q85 rfl rfl rfl rfl (stpR_i rfl rfl)
-- call X4_canTake 16-
theorem b85_0_1 {E : env} {M : mem} {x1 x2 : Int32} {c1 : Int32} (h0 : Rm E 31 0 [vr 70, vr 19, vi x1, vi x2, vn] [] M (some (.int c1)) M) (h1 : ¬ (¬ c1 = 0)) : Rm E 85 0 [vr 0, vi x1, vi x2] [] M (some (.int (-2))) M := by
  refine R_S q85 7 (pc2 := 13) (ls2 := [vr 0, vi x1, vi x2]) (st2 := [.int x2, .int x1, .ref 19, .ref 70]) rfl ?_
  refine R_call q85 rfl rfl rfl rfl rfl rfl h0 ?_
  show Rm E 85 16 [vr 0, vi x1, vi x2] [.int c1] M _ _
  refine R_iff q85 rfl (decide_eq_false h1) ?_
  show Rm E 85 19 [vr 0, vi x1, vi x2] [] M _ _
  refine R_S q85 1 (pc2 := 21) (ls2 := [vr 0, vi x1, vi x2]) (st2 := [.int (-2)]) rfl ?_
  exact R_ret rfl q85 rfl rfl rfl rfl (stpR_i rfl rfl)
-- 86 HeavyChains.draw(II)I  cuts [0]
theorem q86 : cdOf 86 = some mt86 := rfl
-- 
theorem b86_0_0 {E : env} {M : mem} {x0 x1 : Int32}   : Rm E 86 0 [vi x0, vi x1, vn, vn] [] M (some (.int ((((((7919 * ((x0 : Int32)).toInt64) + (6151 * ((x1 : Int32)).toInt64)) + 1) * (((7919 * ((x0 : Int32)).toInt64) + (6151 * ((x1 : Int32)).toInt64)) + 1)) - ((((7919 * ((x0 : Int32)).toInt64) + (6151 * ((x1 : Int32)).toInt64)) + 1) * (((7919 * ((x0 : Int32)).toInt64) + (6151 * ((x1 : Int32)).toInt64)) + 1)) / 65521 * 65521).toInt32))) M := by
  refine R_S q86 18 (pc2 := 24) (ls2 := [vi x0, vi x1, vl (((7919 * ((x0 : Int32)).toInt64) + (6151 * ((x1 : Int32)).toInt64)) + 1), vn]) (st2 := [.int ((((((7919 * ((x0 : Int32)).toInt64) + (6151 * ((x1 : Int32)).toInt64)) + 1) * (((7919 * ((x0 : Int32)).toInt64) + (6151 * ((x1 : Int32)).toInt64)) + 1)) - ((((7919 * ((x0 : Int32)).toInt64) + (6151 * ((x1 : Int32)).toInt64)) + 1) * (((7919 * ((x0 : Int32)).toInt64) + (6151 * ((x1 : Int32)).toInt64)) + 1)) / 65521 * 65521).toInt32)]) rfl ?_
  exact R_ret rfl q86 rfl rfl rfl rfl (stpR_i rfl rfl)
-- 87 HeavyChains.tryDraw(I)V  cuts [0]
theorem q87 : cdOf 87 = some mt87 := rfl
-- call X4_lead call X4_canTake 68+
theorem b87_0_0 {E : env} {M : mem} {x1 : Int32} {N1 : mem} {c2 : Int32} (h0 : ¬ (if 1 < M.1 9 0 then M.1 9 0 else 1) = 0) (h1 : ¬ (if 1 < M.1 9 0 then M.1 9 0 else 1) = 0) (h2 : Rm E 23 0 [vr 70, vr 9, vi ((x1 / 4) - (x1 / 4) / (if 1 < M.1 9 0 then M.1 9 0 else 1) * (if 1 < M.1 9 0 then M.1 9 0 else 1)), vi ((x1 / 256) - (x1 / 256) / (if 1 < M.1 9 0 then M.1 9 0 else 1) * (if 1 < M.1 9 0 then M.1 9 0 else 1)), vn, vn, vn, vn] [] M none N1) (h3 : Rm E 31 0 [vr 70, vr 23, vi (((x1 / 64) - (x1 / 64) / 41 * 41) - 20), vi (x1 - x1 / 4 * 4), vn] [] N1 (some (.int c2)) N1) (h4 : c2 = 0) : Rm E 87 0 [vr 0, vi x1, vn, vn, vn] [] M none N1 := by
  refine R_S q87 26 (pc2 := 40) (ls2 := [vr 0, vi x1, vi (if 1 < M.1 9 0 then M.1 9 0 else 1), vi (((x1 / 64) - (x1 / 64) / 41 * 41) - 20), vi (x1 - x1 / 4 * 4)]) (st2 := [.int (if 1 < M.1 9 0 then M.1 9 0 else 1), .int (x1 / 4), .ref 9, .ref 70]) rfl ?_
  refine R_dv q87 rfl (Or.inr ⟨rfl, rfl⟩) h0 ?_
  show Rm E 87 41 [vr 0, vi x1, vi (if 1 < M.1 9 0 then M.1 9 0 else 1), vi (((x1 / 64) - (x1 / 64) / 41 * 41) - 20), vi (x1 - x1 / 4 * 4)] [.int ((x1 / 4) - (x1 / 4) / (if 1 < M.1 9 0 then M.1 9 0 else 1) * (if 1 < M.1 9 0 then M.1 9 0 else 1)), .ref 9, .ref 70] M _ _
  refine R_S q87 4 (pc2 := 47) (ls2 := [vr 0, vi x1, vi (if 1 < M.1 9 0 then M.1 9 0 else 1), vi (((x1 / 64) - (x1 / 64) / 41 * 41) - 20), vi (x1 - x1 / 4 * 4)]) (st2 := [.int (if 1 < M.1 9 0 then M.1 9 0 else 1), .int (x1 / 256), .int ((x1 / 4) - (x1 / 4) / (if 1 < M.1 9 0 then M.1 9 0 else 1) * (if 1 < M.1 9 0 then M.1 9 0 else 1)), .ref 9, .ref 70]) rfl ?_
  refine R_dv q87 rfl (Or.inr ⟨rfl, rfl⟩) h1 ?_
  show Rm E 87 48 [vr 0, vi x1, vi (if 1 < M.1 9 0 then M.1 9 0 else 1), vi (((x1 / 64) - (x1 / 64) / 41 * 41) - 20), vi (x1 - x1 / 4 * 4)] [.int ((x1 / 256) - (x1 / 256) / (if 1 < M.1 9 0 then M.1 9 0 else 1) * (if 1 < M.1 9 0 then M.1 9 0 else 1)), .int ((x1 / 4) - (x1 / 4) / (if 1 < M.1 9 0 then M.1 9 0 else 1) * (if 1 < M.1 9 0 then M.1 9 0 else 1)), .ref 9, .ref 70] M _ _
  refine R_call q87 rfl rfl rfl rfl rfl rfl h2 ?_
  show Rm E 87 51 [vr 0, vi x1, vi (if 1 < M.1 9 0 then M.1 9 0 else 1), vi (((x1 / 64) - (x1 / 64) / 41 * 41) - 20), vi (x1 - x1 / 4 * 4)] [] N1 _ _
  refine R_S q87 7 (pc2 := 65) (ls2 := [vr 0, vi x1, vi (if 1 < M.1 9 0 then M.1 9 0 else 1), vi (((x1 / 64) - (x1 / 64) / 41 * 41) - 20), vi (x1 - x1 / 4 * 4)]) (st2 := [.int (x1 - x1 / 4 * 4), .int (((x1 / 64) - (x1 / 64) / 41 * 41) - 20), .ref 23, .ref 70]) rfl ?_
  refine R_call q87 rfl rfl rfl rfl rfl rfl h3 ?_
  show Rm E 87 68 [vr 0, vi x1, vi (if 1 < M.1 9 0 then M.1 9 0 else 1), vi (((x1 / 64) - (x1 / 64) / 41 * 41) - 20), vi (x1 - x1 / 4 * 4)] [.int c2] N1 _ _
  refine R_ift q87 rfl (decide_eq_true h4) ?_
  show Rm E 87 88 [vr 0, vi x1, vi (if 1 < M.1 9 0 then M.1 9 0 else 1), vi (((x1 / 64) - (x1 / 64) / 41 * 41) - 20), vi (x1 - x1 / 4 * 4)] [] N1 _ _
  exact R_ret rfl q87 rfl rfl rfl rfl rfl
-- call X4_lead call X4_canTake 68- call X4_take
theorem b87_0_1 {E : env} {M : mem} {x1 : Int32} {N1 : mem} {c2 : Int32} {N2 : mem} (h0 : ¬ (if 1 < M.1 9 0 then M.1 9 0 else 1) = 0) (h1 : ¬ (if 1 < M.1 9 0 then M.1 9 0 else 1) = 0) (h2 : Rm E 23 0 [vr 70, vr 9, vi ((x1 / 4) - (x1 / 4) / (if 1 < M.1 9 0 then M.1 9 0 else 1) * (if 1 < M.1 9 0 then M.1 9 0 else 1)), vi ((x1 / 256) - (x1 / 256) / (if 1 < M.1 9 0 then M.1 9 0 else 1) * (if 1 < M.1 9 0 then M.1 9 0 else 1)), vn, vn, vn, vn] [] M none N1) (h3 : Rm E 31 0 [vr 70, vr 23, vi (((x1 / 64) - (x1 / 64) / 41 * 41) - 20), vi (x1 - x1 / 4 * 4), vn] [] N1 (some (.int c2)) N1) (h4 : ¬ (c2 = 0)) (h5 : Rm E 32 0 [vr 70, vr 23, vi (((x1 / 64) - (x1 / 64) / 41 * 41) - 20), vi (x1 - x1 / 4 * 4), vn] [] N1 none N2) : Rm E 87 0 [vr 0, vi x1, vn, vn, vn] [] M none N2 := by
  refine R_S q87 26 (pc2 := 40) (ls2 := [vr 0, vi x1, vi (if 1 < M.1 9 0 then M.1 9 0 else 1), vi (((x1 / 64) - (x1 / 64) / 41 * 41) - 20), vi (x1 - x1 / 4 * 4)]) (st2 := [.int (if 1 < M.1 9 0 then M.1 9 0 else 1), .int (x1 / 4), .ref 9, .ref 70]) rfl ?_
  refine R_dv q87 rfl (Or.inr ⟨rfl, rfl⟩) h0 ?_
  show Rm E 87 41 [vr 0, vi x1, vi (if 1 < M.1 9 0 then M.1 9 0 else 1), vi (((x1 / 64) - (x1 / 64) / 41 * 41) - 20), vi (x1 - x1 / 4 * 4)] [.int ((x1 / 4) - (x1 / 4) / (if 1 < M.1 9 0 then M.1 9 0 else 1) * (if 1 < M.1 9 0 then M.1 9 0 else 1)), .ref 9, .ref 70] M _ _
  refine R_S q87 4 (pc2 := 47) (ls2 := [vr 0, vi x1, vi (if 1 < M.1 9 0 then M.1 9 0 else 1), vi (((x1 / 64) - (x1 / 64) / 41 * 41) - 20), vi (x1 - x1 / 4 * 4)]) (st2 := [.int (if 1 < M.1 9 0 then M.1 9 0 else 1), .int (x1 / 256), .int ((x1 / 4) - (x1 / 4) / (if 1 < M.1 9 0 then M.1 9 0 else 1) * (if 1 < M.1 9 0 then M.1 9 0 else 1)), .ref 9, .ref 70]) rfl ?_
  refine R_dv q87 rfl (Or.inr ⟨rfl, rfl⟩) h1 ?_
  show Rm E 87 48 [vr 0, vi x1, vi (if 1 < M.1 9 0 then M.1 9 0 else 1), vi (((x1 / 64) - (x1 / 64) / 41 * 41) - 20), vi (x1 - x1 / 4 * 4)] [.int ((x1 / 256) - (x1 / 256) / (if 1 < M.1 9 0 then M.1 9 0 else 1) * (if 1 < M.1 9 0 then M.1 9 0 else 1)), .int ((x1 / 4) - (x1 / 4) / (if 1 < M.1 9 0 then M.1 9 0 else 1) * (if 1 < M.1 9 0 then M.1 9 0 else 1)), .ref 9, .ref 70] M _ _
  refine R_call q87 rfl rfl rfl rfl rfl rfl h2 ?_
  show Rm E 87 51 [vr 0, vi x1, vi (if 1 < M.1 9 0 then M.1 9 0 else 1), vi (((x1 / 64) - (x1 / 64) / 41 * 41) - 20), vi (x1 - x1 / 4 * 4)] [] N1 _ _
  refine R_S q87 7 (pc2 := 65) (ls2 := [vr 0, vi x1, vi (if 1 < M.1 9 0 then M.1 9 0 else 1), vi (((x1 / 64) - (x1 / 64) / 41 * 41) - 20), vi (x1 - x1 / 4 * 4)]) (st2 := [.int (x1 - x1 / 4 * 4), .int (((x1 / 64) - (x1 / 64) / 41 * 41) - 20), .ref 23, .ref 70]) rfl ?_
  refine R_call q87 rfl rfl rfl rfl rfl rfl h3 ?_
  show Rm E 87 68 [vr 0, vi x1, vi (if 1 < M.1 9 0 then M.1 9 0 else 1), vi (((x1 / 64) - (x1 / 64) / 41 * 41) - 20), vi (x1 - x1 / 4 * 4)] [.int c2] N1 _ _
  refine R_iff q87 rfl (decide_eq_false h4) ?_
  show Rm E 87 71 [vr 0, vi x1, vi (if 1 < M.1 9 0 then M.1 9 0 else 1), vi (((x1 / 64) - (x1 / 64) / 41 * 41) - 20), vi (x1 - x1 / 4 * 4)] [] N1 _ _
  refine R_S q87 7 (pc2 := 85) (ls2 := [vr 0, vi x1, vi (if 1 < M.1 9 0 then M.1 9 0 else 1), vi (((x1 / 64) - (x1 / 64) / 41 * 41) - 20), vi (x1 - x1 / 4 * 4)]) (st2 := [.int (x1 - x1 / 4 * 4), .int (((x1 / 64) - (x1 / 64) / 41 * 41) - 20), .ref 23, .ref 70]) rfl ?_
  refine R_call q87 rfl rfl rfl rfl rfl rfl h5 ?_
  show Rm E 87 88 [vr 0, vi x1, vi (if 1 < M.1 9 0 then M.1 9 0 else 1), vi (((x1 / 64) - (x1 / 64) / 41 * 41) - 20), vi (x1 - x1 / 4 * 4)] [] N2 _ _
  exact R_ret rfl q87 rfl rfl rfl rfl rfl
