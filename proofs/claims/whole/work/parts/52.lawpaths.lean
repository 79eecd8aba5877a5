/-! the law's own loop -/
theorem R_sal {E : env} {i pc len a b : Nat} {c : Int} {pl : List Nat} {ls : lcs} {st : List Value} {M M2 : mem} {rv : Option Value} {cd : List (Nat × ent)} {x : Int32} (hq : cdOf i = some cd) (h : lku pc cd = some (.iaload, len, a, b, c, pl)) (hi : inR x E.1) (k : Rm E i (pc + 1) ls (.int (E.2 x.toNatClampNeg) :: st) M rv M2) : Rm E i pc ls (.int x :: .retAddr 0 :: st) M rv M2 := by
  refine N_A1 hq h ?_ k
  simp [stpA, stRd, show inB x E.1 = true from hi]
-- 0 HeavyChainsLaw.law([I)Z  cuts [18]
theorem q0 : cdOf 0 = some mt0 := rfl
-- 23+
set_option maxRecDepth 16384 in
theorem b0_18_0 {E : env} {M : mem} {x3 : Int32}  (h0 : ((Int32.ofNat E.1) - 5) < x3) : Rm E 0 18 [some (.retAddr 0), vr 0, vr 83, vi x3] [] M (some (.int 1)) M := by
  refine R_S q0 5 (pc2 := 23) (ls2 := [some (.retAddr 0), vr 0, vr 83, vi x3]) (st2 := [.int ((Int32.ofNat E.1) - 5), .int x3]) rfl ?_
  refine R_ict q0 rfl (decide_eq_true h0) ?_
  show Rm E 0 960 [some (.retAddr 0), vr 0, vr 83, vi x3] [] M _ _
  refine R_S q0 1 (pc2 := 961) (ls2 := [some (.retAddr 0), vr 0, vr 83, vi x3]) (st2 := [.int 1]) rfl ?_
  exact R_ret rfl q0 rfl rfl rfl rfl rfl
-- 23- 32=else
set_option maxRecDepth 16384 in
theorem b0_18_1 {E : env} {M : mem} {rv : Option Value} {M2 : mem} {x3 : Int32}  (h0 : ¬ (((Int32.ofNat E.1) - 5) < x3)) (h1 : inR x3 E.1) (h2 : ((E.2 x3.toNatClampNeg &&& 31)).toInt < 0 ∨ 27 < ((E.2 x3.toNatClampNeg &&& 31)).toInt) (k : Rm E 0 18 [some (.retAddr 0), vr 0, vr 83, vi (x3 + 5)] [] M rv M2) : Rm E 0 18 [some (.retAddr 0), vr 0, vr 83, vi x3] [] M rv M2 := by
  refine R_S q0 5 (pc2 := 23) (ls2 := [some (.retAddr 0), vr 0, vr 83, vi x3]) (st2 := [.int ((Int32.ofNat E.1) - 5), .int x3]) rfl ?_
  refine R_icf q0 rfl (decide_eq_false h0) ?_
  show Rm E 0 26 [some (.retAddr 0), vr 0, vr 83, vi x3] [] M _ _
  refine R_S q0 2 (pc2 := 28) (ls2 := [some (.retAddr 0), vr 0, vr 83, vi x3]) (st2 := [.int x3, .retAddr 0]) rfl ?_
  refine R_sal q0 rfl h1 ?_
  show Rm E 0 29 [some (.retAddr 0), vr 0, vr 83, vi x3] [.int (E.2 x3.toNatClampNeg)] M _ _
  refine R_S q0 2 (pc2 := 32) (ls2 := [some (.retAddr 0), vr 0, vr 83, vi x3]) (st2 := [.int (E.2 x3.toNatClampNeg &&& 31)]) rfl ?_
  refine R_tsd q0 rfl h2 rfl ?_
  show Rm E 0 954 [some (.retAddr 0), vr 0, vr 83, vi x3] [] M _ _
  refine R_S q0 2 (pc2 := 18) (ls2 := [some (.retAddr 0), vr 0, vr 83, vi (x3 + 5)]) (st2 := []) rfl ?_
  exact k
-- 23- 32=0 call X9_write call X10_write 178+
set_option maxRecDepth 16384 in
theorem b0_18_2 {E : env} {M : mem} {rv : Option Value} {M2 : mem} {x3 : Int32} {c1 : Int32} {N1 : mem} {c2 : Int32} {N2 : mem} (h0 : ¬ (((Int32.ofNat E.1) - 5) < x3)) (h1 : inR x3 E.1) (h2 : (E.2 x3.toNatClampNeg &&& 31) = 0) (h3 : inR (x3 + 1) E.1) (h4 : Rm E 53 0 [vr 0, vi (E.2 (x3 + 1).toNatClampNeg)] [] M (some (.int c1)) N1) (h5 : inR (x3 + 1) E.1) (h6 : Rm E 92 0 [vr 83, vi (E.2 (x3 + 1).toNatClampNeg)] [] N1 (some (.int c2)) N2) (h7 : c1 = c2) (k : Rm E 0 18 [some (.retAddr 0), vr 0, vr 83, vi (x3 + 5)] [] N2 rv M2) : Rm E 0 18 [some (.retAddr 0), vr 0, vr 83, vi x3] [] M rv M2 := by
  refine R_S q0 5 (pc2 := 23) (ls2 := [some (.retAddr 0), vr 0, vr 83, vi x3]) (st2 := [.int ((Int32.ofNat E.1) - 5), .int x3]) rfl ?_
  refine R_icf q0 rfl (decide_eq_false h0) ?_
  show Rm E 0 26 [some (.retAddr 0), vr 0, vr 83, vi x3] [] M _ _
  refine R_S q0 2 (pc2 := 28) (ls2 := [some (.retAddr 0), vr 0, vr 83, vi x3]) (st2 := [.int x3, .retAddr 0]) rfl ?_
  refine R_sal q0 rfl h1 ?_
  show Rm E 0 29 [some (.retAddr 0), vr 0, vr 83, vi x3] [.int (E.2 x3.toNatClampNeg)] M _ _
  refine R_S q0 2 (pc2 := 32) (ls2 := [some (.retAddr 0), vr 0, vr 83, vi x3]) (st2 := [.int (E.2 x3.toNatClampNeg &&& 31)]) rfl ?_
  refine R_top h2 ?_
  refine R_S q0 1 (pc2 := 160) (ls2 := [some (.retAddr 0), vr 0, vr 83, vi x3]) (st2 := []) rfl ?_
  refine R_S q0 5 (pc2 := 165) (ls2 := [some (.retAddr 0), vr 0, vr 83, vi x3]) (st2 := [.int (x3 + 1), .retAddr 0, .ref 0]) rfl ?_
  refine R_sal q0 rfl h3 ?_
  show Rm E 0 166 [some (.retAddr 0), vr 0, vr 83, vi x3] [.int (E.2 (x3 + 1).toNatClampNeg), .ref 0] M _ _
  refine R_call q0 rfl rfl rfl rfl rfl rfl h4 ?_
  show Rm E 0 169 [some (.retAddr 0), vr 0, vr 83, vi x3] [.int c1] N1 _ _
  refine R_S q0 5 (pc2 := 174) (ls2 := [some (.retAddr 0), vr 0, vr 83, vi x3]) (st2 := [.int (x3 + 1), .retAddr 0, .ref 83, .int c1]) rfl ?_
  refine R_sal q0 rfl h5 ?_
  show Rm E 0 175 [some (.retAddr 0), vr 0, vr 83, vi x3] [.int (E.2 (x3 + 1).toNatClampNeg), .ref 83, .int c1] N1 _ _
  refine R_call q0 rfl rfl rfl rfl rfl rfl h6 ?_
  show Rm E 0 178 [some (.retAddr 0), vr 0, vr 83, vi x3] [.int c2, .int c1] N2 _ _
  refine R_ict q0 rfl (decide_eq_true h7) ?_
  show Rm E 0 954 [some (.retAddr 0), vr 0, vr 83, vi x3] [] N2 _ _
  refine R_S q0 2 (pc2 := 18) (ls2 := [some (.retAddr 0), vr 0, vr 83, vi (x3 + 5)]) (st2 := []) rfl ?_
  exact k
-- 23- 32=1 call X9_wipe call X10_wipe 191+
set_option maxRecDepth 16384 in
theorem b0_18_4 {E : env} {M : mem} {rv : Option Value} {M2 : mem} {x3 : Int32} {c1 : Int32} {N1 : mem} {c2 : Int32} {N2 : mem} (h0 : ¬ (((Int32.ofNat E.1) - 5) < x3)) (h1 : inR x3 E.1) (h2 : (E.2 x3.toNatClampNeg &&& 31) = 1) (h3 : Rm E 54 0 [vr 0, vn] [] M (some (.int c1)) N1) (h4 : Rm E 93 0 [vr 83, vn] [] N1 (some (.int c2)) N2) (h5 : c1 = c2) (k : Rm E 0 18 [some (.retAddr 0), vr 0, vr 83, vi (x3 + 5)] [] N2 rv M2) : Rm E 0 18 [some (.retAddr 0), vr 0, vr 83, vi x3] [] M rv M2 := by
  refine R_S q0 5 (pc2 := 23) (ls2 := [some (.retAddr 0), vr 0, vr 83, vi x3]) (st2 := [.int ((Int32.ofNat E.1) - 5), .int x3]) rfl ?_
  refine R_icf q0 rfl (decide_eq_false h0) ?_
  show Rm E 0 26 [some (.retAddr 0), vr 0, vr 83, vi x3] [] M _ _
  refine R_S q0 2 (pc2 := 28) (ls2 := [some (.retAddr 0), vr 0, vr 83, vi x3]) (st2 := [.int x3, .retAddr 0]) rfl ?_
  refine R_sal q0 rfl h1 ?_
  show Rm E 0 29 [some (.retAddr 0), vr 0, vr 83, vi x3] [.int (E.2 x3.toNatClampNeg)] M _ _
  refine R_S q0 2 (pc2 := 32) (ls2 := [some (.retAddr 0), vr 0, vr 83, vi x3]) (st2 := [.int (E.2 x3.toNatClampNeg &&& 31)]) rfl ?_
  refine R_top h2 ?_
  refine R_S q0 1 (pc2 := 183) (ls2 := [some (.retAddr 0), vr 0, vr 83, vi x3]) (st2 := []) rfl ?_
  refine R_S q0 1 (pc2 := 184) (ls2 := [some (.retAddr 0), vr 0, vr 83, vi x3]) (st2 := [.ref 0]) rfl ?_
  refine R_call q0 rfl rfl rfl rfl rfl rfl h3 ?_
  show Rm E 0 187 [some (.retAddr 0), vr 0, vr 83, vi x3] [.int c1] N1 _ _
  refine R_S q0 1 (pc2 := 188) (ls2 := [some (.retAddr 0), vr 0, vr 83, vi x3]) (st2 := [.ref 83, .int c1]) rfl ?_
  refine R_call q0 rfl rfl rfl rfl rfl rfl h4 ?_
  show Rm E 0 191 [some (.retAddr 0), vr 0, vr 83, vi x3] [.int c2, .int c1] N2 _ _
  refine R_ict q0 rfl (decide_eq_true h5) ?_
  show Rm E 0 954 [some (.retAddr 0), vr 0, vr 83, vi x3] [] N2 _ _
  refine R_S q0 2 (pc2 := 18) (ls2 := [some (.retAddr 0), vr 0, vr 83, vi (x3 + 5)]) (st2 := []) rfl ?_
  exact k
-- 23- 32=2 call X9_fault call X10_fault 204+
set_option maxRecDepth 16384 in
theorem b0_18_6 {E : env} {M : mem} {rv : Option Value} {M2 : mem} {x3 : Int32} {c1 : Int32} {N1 : mem} {c2 : Int32} {N2 : mem} (h0 : ¬ (((Int32.ofNat E.1) - 5) < x3)) (h1 : inR x3 E.1) (h2 : (E.2 x3.toNatClampNeg &&& 31) = 2) (h3 : Rm E 55 0 [vr 0] [] M (some (.int c1)) N1) (h4 : Rm E 98 0 [vr 83, vn, vn, vn, vn, vn, vn] [] N1 (some (.int c2)) N2) (h5 : c1 = c2) (k : Rm E 0 18 [some (.retAddr 0), vr 0, vr 83, vi (x3 + 5)] [] N2 rv M2) : Rm E 0 18 [some (.retAddr 0), vr 0, vr 83, vi x3] [] M rv M2 := by
  refine R_S q0 5 (pc2 := 23) (ls2 := [some (.retAddr 0), vr 0, vr 83, vi x3]) (st2 := [.int ((Int32.ofNat E.1) - 5), .int x3]) rfl ?_
  refine R_icf q0 rfl (decide_eq_false h0) ?_
  show Rm E 0 26 [some (.retAddr 0), vr 0, vr 83, vi x3] [] M _ _
  refine R_S q0 2 (pc2 := 28) (ls2 := [some (.retAddr 0), vr 0, vr 83, vi x3]) (st2 := [.int x3, .retAddr 0]) rfl ?_
  refine R_sal q0 rfl h1 ?_
  show Rm E 0 29 [some (.retAddr 0), vr 0, vr 83, vi x3] [.int (E.2 x3.toNatClampNeg)] M _ _
  refine R_S q0 2 (pc2 := 32) (ls2 := [some (.retAddr 0), vr 0, vr 83, vi x3]) (st2 := [.int (E.2 x3.toNatClampNeg &&& 31)]) rfl ?_
  refine R_top h2 ?_
  refine R_S q0 1 (pc2 := 196) (ls2 := [some (.retAddr 0), vr 0, vr 83, vi x3]) (st2 := []) rfl ?_
  refine R_S q0 1 (pc2 := 197) (ls2 := [some (.retAddr 0), vr 0, vr 83, vi x3]) (st2 := [.ref 0]) rfl ?_
  refine R_call q0 rfl rfl rfl rfl rfl rfl h3 ?_
  show Rm E 0 200 [some (.retAddr 0), vr 0, vr 83, vi x3] [.int c1] N1 _ _
  refine R_S q0 1 (pc2 := 201) (ls2 := [some (.retAddr 0), vr 0, vr 83, vi x3]) (st2 := [.ref 83, .int c1]) rfl ?_
  refine R_call q0 rfl rfl rfl rfl rfl rfl h4 ?_
  show Rm E 0 204 [some (.retAddr 0), vr 0, vr 83, vi x3] [.int c2, .int c1] N2 _ _
  refine R_ict q0 rfl (decide_eq_true h5) ?_
  show Rm E 0 954 [some (.retAddr 0), vr 0, vr 83, vi x3] [] N2 _ _
  refine R_S q0 2 (pc2 := 18) (ls2 := [some (.retAddr 0), vr 0, vr 83, vi (x3 + 5)]) (st2 := []) rfl ?_
  exact k
-- 23- 32=3 call X9_lay call X10_lay 217+
set_option maxRecDepth 16384 in
theorem b0_18_8 {E : env} {M : mem} {rv : Option Value} {M2 : mem} {x3 : Int32} {c1 : Int32} {N1 : mem} {c2 : Int32} {N2 : mem} (h0 : ¬ (((Int32.ofNat E.1) - 5) < x3)) (h1 : inR x3 E.1) (h2 : (E.2 x3.toNatClampNeg &&& 31) = 3) (h3 : Rm E 56 0 [vr 0] [] M (some (.int c1)) N1) (h4 : Rm E 100 0 [vr 83, vn, vn, vn, vn] [] N1 (some (.int c2)) N2) (h5 : c1 = c2) (k : Rm E 0 18 [some (.retAddr 0), vr 0, vr 83, vi (x3 + 5)] [] N2 rv M2) : Rm E 0 18 [some (.retAddr 0), vr 0, vr 83, vi x3] [] M rv M2 := by
  refine R_S q0 5 (pc2 := 23) (ls2 := [some (.retAddr 0), vr 0, vr 83, vi x3]) (st2 := [.int ((Int32.ofNat E.1) - 5), .int x3]) rfl ?_
  refine R_icf q0 rfl (decide_eq_false h0) ?_
  show Rm E 0 26 [some (.retAddr 0), vr 0, vr 83, vi x3] [] M _ _
  refine R_S q0 2 (pc2 := 28) (ls2 := [some (.retAddr 0), vr 0, vr 83, vi x3]) (st2 := [.int x3, .retAddr 0]) rfl ?_
  refine R_sal q0 rfl h1 ?_
  show Rm E 0 29 [some (.retAddr 0), vr 0, vr 83, vi x3] [.int (E.2 x3.toNatClampNeg)] M _ _
  refine R_S q0 2 (pc2 := 32) (ls2 := [some (.retAddr 0), vr 0, vr 83, vi x3]) (st2 := [.int (E.2 x3.toNatClampNeg &&& 31)]) rfl ?_
  refine R_top h2 ?_
  refine R_S q0 1 (pc2 := 209) (ls2 := [some (.retAddr 0), vr 0, vr 83, vi x3]) (st2 := []) rfl ?_
  refine R_S q0 1 (pc2 := 210) (ls2 := [some (.retAddr 0), vr 0, vr 83, vi x3]) (st2 := [.ref 0]) rfl ?_
  refine R_call q0 rfl rfl rfl rfl rfl rfl h3 ?_
  show Rm E 0 213 [some (.retAddr 0), vr 0, vr 83, vi x3] [.int c1] N1 _ _
  refine R_S q0 1 (pc2 := 214) (ls2 := [some (.retAddr 0), vr 0, vr 83, vi x3]) (st2 := [.ref 83, .int c1]) rfl ?_
  refine R_call q0 rfl rfl rfl rfl rfl rfl h4 ?_
  show Rm E 0 217 [some (.retAddr 0), vr 0, vr 83, vi x3] [.int c2, .int c1] N2 _ _
  refine R_ict q0 rfl (decide_eq_true h5) ?_
  show Rm E 0 954 [some (.retAddr 0), vr 0, vr 83, vi x3] [] N2 _ _
  refine R_S q0 2 (pc2 := 18) (ls2 := [some (.retAddr 0), vr 0, vr 83, vi (x3 + 5)]) (st2 := []) rfl ?_
  exact k
-- 23- 32=4 call X9_post call X10_post 250+
set_option maxRecDepth 16384 in
theorem b0_18_10 {E : env} {M : mem} {rv : Option Value} {M2 : mem} {x3 : Int32} {c1 : Int32} {N1 : mem} {c2 : Int32} {N2 : mem} (h0 : ¬ (((Int32.ofNat E.1) - 5) < x3)) (h1 : inR x3 E.1) (h2 : (E.2 x3.toNatClampNeg &&& 31) = 4) (h3 : inR (x3 + 1) E.1) (h4 : inR (x3 + 2) E.1) (h5 : Rm E 57 0 [vr 0, vi (E.2 (x3 + 1).toNatClampNeg), vi (E.2 (x3 + 2).toNatClampNeg)] [] M (some (.int c1)) N1) (h6 : inR (x3 + 1) E.1) (h7 : inR (x3 + 2) E.1) (h8 : Rm E 103 0 [vr 83, vi (E.2 (x3 + 1).toNatClampNeg), vi (E.2 (x3 + 2).toNatClampNeg)] [] N1 (some (.int c2)) N2) (h9 : c1 = c2) (k : Rm E 0 18 [some (.retAddr 0), vr 0, vr 83, vi (x3 + 5)] [] N2 rv M2) : Rm E 0 18 [some (.retAddr 0), vr 0, vr 83, vi x3] [] M rv M2 := by
  refine R_S q0 5 (pc2 := 23) (ls2 := [some (.retAddr 0), vr 0, vr 83, vi x3]) (st2 := [.int ((Int32.ofNat E.1) - 5), .int x3]) rfl ?_
  refine R_icf q0 rfl (decide_eq_false h0) ?_
  show Rm E 0 26 [some (.retAddr 0), vr 0, vr 83, vi x3] [] M _ _
  refine R_S q0 2 (pc2 := 28) (ls2 := [some (.retAddr 0), vr 0, vr 83, vi x3]) (st2 := [.int x3, .retAddr 0]) rfl ?_
  refine R_sal q0 rfl h1 ?_
  show Rm E 0 29 [some (.retAddr 0), vr 0, vr 83, vi x3] [.int (E.2 x3.toNatClampNeg)] M _ _
  refine R_S q0 2 (pc2 := 32) (ls2 := [some (.retAddr 0), vr 0, vr 83, vi x3]) (st2 := [.int (E.2 x3.toNatClampNeg &&& 31)]) rfl ?_
  refine R_top h2 ?_
  refine R_S q0 1 (pc2 := 222) (ls2 := [some (.retAddr 0), vr 0, vr 83, vi x3]) (st2 := []) rfl ?_
  refine R_S q0 5 (pc2 := 227) (ls2 := [some (.retAddr 0), vr 0, vr 83, vi x3]) (st2 := [.int (x3 + 1), .retAddr 0, .ref 0]) rfl ?_
  refine R_sal q0 rfl h3 ?_
  show Rm E 0 228 [some (.retAddr 0), vr 0, vr 83, vi x3] [.int (E.2 (x3 + 1).toNatClampNeg), .ref 0] M _ _
  refine R_S q0 4 (pc2 := 232) (ls2 := [some (.retAddr 0), vr 0, vr 83, vi x3]) (st2 := [.int (x3 + 2), .retAddr 0, .int (E.2 (x3 + 1).toNatClampNeg), .ref 0]) rfl ?_
  refine R_sal q0 rfl h4 ?_
  show Rm E 0 233 [some (.retAddr 0), vr 0, vr 83, vi x3] [.int (E.2 (x3 + 2).toNatClampNeg), .int (E.2 (x3 + 1).toNatClampNeg), .ref 0] M _ _
  refine R_call q0 rfl rfl rfl rfl rfl rfl h5 ?_
  show Rm E 0 236 [some (.retAddr 0), vr 0, vr 83, vi x3] [.int c1] N1 _ _
  refine R_S q0 5 (pc2 := 241) (ls2 := [some (.retAddr 0), vr 0, vr 83, vi x3]) (st2 := [.int (x3 + 1), .retAddr 0, .ref 83, .int c1]) rfl ?_
  refine R_sal q0 rfl h6 ?_
  show Rm E 0 242 [some (.retAddr 0), vr 0, vr 83, vi x3] [.int (E.2 (x3 + 1).toNatClampNeg), .ref 83, .int c1] N1 _ _
  refine R_S q0 4 (pc2 := 246) (ls2 := [some (.retAddr 0), vr 0, vr 83, vi x3]) (st2 := [.int (x3 + 2), .retAddr 0, .int (E.2 (x3 + 1).toNatClampNeg), .ref 83, .int c1]) rfl ?_
  refine R_sal q0 rfl h7 ?_
  show Rm E 0 247 [some (.retAddr 0), vr 0, vr 83, vi x3] [.int (E.2 (x3 + 2).toNatClampNeg), .int (E.2 (x3 + 1).toNatClampNeg), .ref 83, .int c1] N1 _ _
  refine R_call q0 rfl rfl rfl rfl rfl rfl h8 ?_
  show Rm E 0 250 [some (.retAddr 0), vr 0, vr 83, vi x3] [.int c2, .int c1] N2 _ _
  refine R_ict q0 rfl (decide_eq_true h9) ?_
  show Rm E 0 954 [some (.retAddr 0), vr 0, vr 83, vi x3] [] N2 _ _
  refine R_S q0 2 (pc2 := 18) (ls2 := [some (.retAddr 0), vr 0, vr 83, vi (x3 + 5)]) (st2 := []) rfl ?_
  exact k
-- 23- 32=5 call X9_at call X10_at 273+
set_option maxRecDepth 16384 in
theorem b0_18_12 {E : env} {M : mem} {rv : Option Value} {M2 : mem} {x3 : Int32} {c1 : Int32} {N1 : mem} {c2 : Int32} {N2 : mem} (h0 : ¬ (((Int32.ofNat E.1) - 5) < x3)) (h1 : inR x3 E.1) (h2 : (E.2 x3.toNatClampNeg &&& 31) = 5) (h3 : inR (x3 + 1) E.1) (h4 : Rm E 58 0 [vr 0, vi (E.2 (x3 + 1).toNatClampNeg)] [] M (some (.int c1)) N1) (h5 : inR (x3 + 1) E.1) (h6 : Rm E 104 0 [vr 83, vi (E.2 (x3 + 1).toNatClampNeg)] [] N1 (some (.int c2)) N2) (h7 : c1 = c2) (k : Rm E 0 18 [some (.retAddr 0), vr 0, vr 83, vi (x3 + 5)] [] N2 rv M2) : Rm E 0 18 [some (.retAddr 0), vr 0, vr 83, vi x3] [] M rv M2 := by
  refine R_S q0 5 (pc2 := 23) (ls2 := [some (.retAddr 0), vr 0, vr 83, vi x3]) (st2 := [.int ((Int32.ofNat E.1) - 5), .int x3]) rfl ?_
  refine R_icf q0 rfl (decide_eq_false h0) ?_
  show Rm E 0 26 [some (.retAddr 0), vr 0, vr 83, vi x3] [] M _ _
  refine R_S q0 2 (pc2 := 28) (ls2 := [some (.retAddr 0), vr 0, vr 83, vi x3]) (st2 := [.int x3, .retAddr 0]) rfl ?_
  refine R_sal q0 rfl h1 ?_
  show Rm E 0 29 [some (.retAddr 0), vr 0, vr 83, vi x3] [.int (E.2 x3.toNatClampNeg)] M _ _
  refine R_S q0 2 (pc2 := 32) (ls2 := [some (.retAddr 0), vr 0, vr 83, vi x3]) (st2 := [.int (E.2 x3.toNatClampNeg &&& 31)]) rfl ?_
  refine R_top h2 ?_
  refine R_S q0 1 (pc2 := 255) (ls2 := [some (.retAddr 0), vr 0, vr 83, vi x3]) (st2 := []) rfl ?_
  refine R_S q0 5 (pc2 := 260) (ls2 := [some (.retAddr 0), vr 0, vr 83, vi x3]) (st2 := [.int (x3 + 1), .retAddr 0, .ref 0]) rfl ?_
  refine R_sal q0 rfl h3 ?_
  show Rm E 0 261 [some (.retAddr 0), vr 0, vr 83, vi x3] [.int (E.2 (x3 + 1).toNatClampNeg), .ref 0] M _ _
  refine R_call q0 rfl rfl rfl rfl rfl rfl h4 ?_
  show Rm E 0 264 [some (.retAddr 0), vr 0, vr 83, vi x3] [.int c1] N1 _ _
  refine R_S q0 5 (pc2 := 269) (ls2 := [some (.retAddr 0), vr 0, vr 83, vi x3]) (st2 := [.int (x3 + 1), .retAddr 0, .ref 83, .int c1]) rfl ?_
  refine R_sal q0 rfl h5 ?_
  show Rm E 0 270 [some (.retAddr 0), vr 0, vr 83, vi x3] [.int (E.2 (x3 + 1).toNatClampNeg), .ref 83, .int c1] N1 _ _
  refine R_call q0 rfl rfl rfl rfl rfl rfl h6 ?_
  show Rm E 0 273 [some (.retAddr 0), vr 0, vr 83, vi x3] [.int c2, .int c1] N2 _ _
  refine R_ict q0 rfl (decide_eq_true h7) ?_
  show Rm E 0 954 [some (.retAddr 0), vr 0, vr 83, vi x3] [] N2 _ _
  refine R_S q0 2 (pc2 := 18) (ls2 := [some (.retAddr 0), vr 0, vr 83, vi (x3 + 5)]) (st2 := []) rfl ?_
  exact k
-- 23- 32=6 call X9_add call X10_add 326+
set_option maxRecDepth 16384 in
theorem b0_18_14 {E : env} {M : mem} {rv : Option Value} {M2 : mem} {x3 : Int32} {c1 : Int32} {N1 : mem} {c2 : Int32} {N2 : mem} (h0 : ¬ (((Int32.ofNat E.1) - 5) < x3)) (h1 : inR x3 E.1) (h2 : (E.2 x3.toNatClampNeg &&& 31) = 6) (h3 : inR (x3 + 1) E.1) (h4 : inR (x3 + 2) E.1) (h5 : inR (x3 + 3) E.1) (h6 : inR (x3 + 4) E.1) (h7 : Rm E 59 0 [vr 0, vi (E.2 (x3 + 1).toNatClampNeg), vi (E.2 (x3 + 2).toNatClampNeg), vi (E.2 (x3 + 3).toNatClampNeg), vi (E.2 (x3 + 4).toNatClampNeg)] [] M (some (.int c1)) N1) (h8 : inR (x3 + 1) E.1) (h9 : inR (x3 + 2) E.1) (h10 : inR (x3 + 3) E.1) (h11 : inR (x3 + 4) E.1) (h12 : Rm E 123 0 [vr 83, vi (E.2 (x3 + 1).toNatClampNeg), vi (E.2 (x3 + 2).toNatClampNeg), vi (E.2 (x3 + 3).toNatClampNeg), vi (E.2 (x3 + 4).toNatClampNeg)] [] N1 (some (.int c2)) N2) (h13 : c1 = c2) (k : Rm E 0 18 [some (.retAddr 0), vr 0, vr 83, vi (x3 + 5)] [] N2 rv M2) : Rm E 0 18 [some (.retAddr 0), vr 0, vr 83, vi x3] [] M rv M2 := by
  refine R_S q0 5 (pc2 := 23) (ls2 := [some (.retAddr 0), vr 0, vr 83, vi x3]) (st2 := [.int ((Int32.ofNat E.1) - 5), .int x3]) rfl ?_
  refine R_icf q0 rfl (decide_eq_false h0) ?_
  show Rm E 0 26 [some (.retAddr 0), vr 0, vr 83, vi x3] [] M _ _
  refine R_S q0 2 (pc2 := 28) (ls2 := [some (.retAddr 0), vr 0, vr 83, vi x3]) (st2 := [.int x3, .retAddr 0]) rfl ?_
  refine R_sal q0 rfl h1 ?_
  show Rm E 0 29 [some (.retAddr 0), vr 0, vr 83, vi x3] [.int (E.2 x3.toNatClampNeg)] M _ _
  refine R_S q0 2 (pc2 := 32) (ls2 := [some (.retAddr 0), vr 0, vr 83, vi x3]) (st2 := [.int (E.2 x3.toNatClampNeg &&& 31)]) rfl ?_
  refine R_top h2 ?_
  refine R_S q0 1 (pc2 := 278) (ls2 := [some (.retAddr 0), vr 0, vr 83, vi x3]) (st2 := []) rfl ?_
  refine R_S q0 5 (pc2 := 283) (ls2 := [some (.retAddr 0), vr 0, vr 83, vi x3]) (st2 := [.int (x3 + 1), .retAddr 0, .ref 0]) rfl ?_
  refine R_sal q0 rfl h3 ?_
  show Rm E 0 284 [some (.retAddr 0), vr 0, vr 83, vi x3] [.int (E.2 (x3 + 1).toNatClampNeg), .ref 0] M _ _
  refine R_S q0 4 (pc2 := 288) (ls2 := [some (.retAddr 0), vr 0, vr 83, vi x3]) (st2 := [.int (x3 + 2), .retAddr 0, .int (E.2 (x3 + 1).toNatClampNeg), .ref 0]) rfl ?_
  refine R_sal q0 rfl h4 ?_
  show Rm E 0 289 [some (.retAddr 0), vr 0, vr 83, vi x3] [.int (E.2 (x3 + 2).toNatClampNeg), .int (E.2 (x3 + 1).toNatClampNeg), .ref 0] M _ _
  refine R_S q0 4 (pc2 := 293) (ls2 := [some (.retAddr 0), vr 0, vr 83, vi x3]) (st2 := [.int (x3 + 3), .retAddr 0, .int (E.2 (x3 + 2).toNatClampNeg), .int (E.2 (x3 + 1).toNatClampNeg), .ref 0]) rfl ?_
  refine R_sal q0 rfl h5 ?_
  show Rm E 0 294 [some (.retAddr 0), vr 0, vr 83, vi x3] [.int (E.2 (x3 + 3).toNatClampNeg), .int (E.2 (x3 + 2).toNatClampNeg), .int (E.2 (x3 + 1).toNatClampNeg), .ref 0] M _ _
  refine R_S q0 4 (pc2 := 298) (ls2 := [some (.retAddr 0), vr 0, vr 83, vi x3]) (st2 := [.int (x3 + 4), .retAddr 0, .int (E.2 (x3 + 3).toNatClampNeg), .int (E.2 (x3 + 2).toNatClampNeg), .int (E.2 (x3 + 1).toNatClampNeg), .ref 0]) rfl ?_
  refine R_sal q0 rfl h6 ?_
  show Rm E 0 299 [some (.retAddr 0), vr 0, vr 83, vi x3] [.int (E.2 (x3 + 4).toNatClampNeg), .int (E.2 (x3 + 3).toNatClampNeg), .int (E.2 (x3 + 2).toNatClampNeg), .int (E.2 (x3 + 1).toNatClampNeg), .ref 0] M _ _
  refine R_call q0 rfl rfl rfl rfl rfl rfl h7 ?_
  show Rm E 0 302 [some (.retAddr 0), vr 0, vr 83, vi x3] [.int c1] N1 _ _
  refine R_S q0 5 (pc2 := 307) (ls2 := [some (.retAddr 0), vr 0, vr 83, vi x3]) (st2 := [.int (x3 + 1), .retAddr 0, .ref 83, .int c1]) rfl ?_
  refine R_sal q0 rfl h8 ?_
  show Rm E 0 308 [some (.retAddr 0), vr 0, vr 83, vi x3] [.int (E.2 (x3 + 1).toNatClampNeg), .ref 83, .int c1] N1 _ _
  refine R_S q0 4 (pc2 := 312) (ls2 := [some (.retAddr 0), vr 0, vr 83, vi x3]) (st2 := [.int (x3 + 2), .retAddr 0, .int (E.2 (x3 + 1).toNatClampNeg), .ref 83, .int c1]) rfl ?_
  refine R_sal q0 rfl h9 ?_
  show Rm E 0 313 [some (.retAddr 0), vr 0, vr 83, vi x3] [.int (E.2 (x3 + 2).toNatClampNeg), .int (E.2 (x3 + 1).toNatClampNeg), .ref 83, .int c1] N1 _ _
  refine R_S q0 4 (pc2 := 317) (ls2 := [some (.retAddr 0), vr 0, vr 83, vi x3]) (st2 := [.int (x3 + 3), .retAddr 0, .int (E.2 (x3 + 2).toNatClampNeg), .int (E.2 (x3 + 1).toNatClampNeg), .ref 83, .int c1]) rfl ?_
  refine R_sal q0 rfl h10 ?_
  show Rm E 0 318 [some (.retAddr 0), vr 0, vr 83, vi x3] [.int (E.2 (x3 + 3).toNatClampNeg), .int (E.2 (x3 + 2).toNatClampNeg), .int (E.2 (x3 + 1).toNatClampNeg), .ref 83, .int c1] N1 _ _
  refine R_S q0 4 (pc2 := 322) (ls2 := [some (.retAddr 0), vr 0, vr 83, vi x3]) (st2 := [.int (x3 + 4), .retAddr 0, .int (E.2 (x3 + 3).toNatClampNeg), .int (E.2 (x3 + 2).toNatClampNeg), .int (E.2 (x3 + 1).toNatClampNeg), .ref 83, .int c1]) rfl ?_
  refine R_sal q0 rfl h11 ?_
  show Rm E 0 323 [some (.retAddr 0), vr 0, vr 83, vi x3] [.int (E.2 (x3 + 4).toNatClampNeg), .int (E.2 (x3 + 3).toNatClampNeg), .int (E.2 (x3 + 2).toNatClampNeg), .int (E.2 (x3 + 1).toNatClampNeg), .ref 83, .int c1] N1 _ _
  refine R_call q0 rfl rfl rfl rfl rfl rfl h12 ?_
  show Rm E 0 326 [some (.retAddr 0), vr 0, vr 83, vi x3] [.int c2, .int c1] N2 _ _
  refine R_ict q0 rfl (decide_eq_true h13) ?_
  show Rm E 0 954 [some (.retAddr 0), vr 0, vr 83, vi x3] [] N2 _ _
  refine R_S q0 2 (pc2 := 18) (ls2 := [some (.retAddr 0), vr 0, vr 83, vi (x3 + 5)]) (st2 := []) rfl ?_
  exact k
-- 23- 32=7 call X9_pour call X10_pour 369+
set_option maxRecDepth 16384 in
theorem b0_18_16 {E : env} {M : mem} {rv : Option Value} {M2 : mem} {x3 : Int32} {c1 : Int32} {N1 : mem} {c2 : Int32} {N2 : mem} (h0 : ¬ (((Int32.ofNat E.1) - 5) < x3)) (h1 : inR x3 E.1) (h2 : (E.2 x3.toNatClampNeg &&& 31) = 7) (h3 : inR (x3 + 1) E.1) (h4 : inR (x3 + 2) E.1) (h5 : inR (x3 + 3) E.1) (h6 : Rm E 60 0 [vr 0, vi (E.2 (x3 + 1).toNatClampNeg), vi (E.2 (x3 + 2).toNatClampNeg), vi (E.2 (x3 + 3).toNatClampNeg)] [] M (some (.int c1)) N1) (h7 : inR (x3 + 1) E.1) (h8 : inR (x3 + 2) E.1) (h9 : inR (x3 + 3) E.1) (h10 : Rm E 124 0 [vr 83, vi (E.2 (x3 + 1).toNatClampNeg), vi (E.2 (x3 + 2).toNatClampNeg), vi (E.2 (x3 + 3).toNatClampNeg)] [] N1 (some (.int c2)) N2) (h11 : c1 = c2) (k : Rm E 0 18 [some (.retAddr 0), vr 0, vr 83, vi (x3 + 5)] [] N2 rv M2) : Rm E 0 18 [some (.retAddr 0), vr 0, vr 83, vi x3] [] M rv M2 := by
  refine R_S q0 5 (pc2 := 23) (ls2 := [some (.retAddr 0), vr 0, vr 83, vi x3]) (st2 := [.int ((Int32.ofNat E.1) - 5), .int x3]) rfl ?_
  refine R_icf q0 rfl (decide_eq_false h0) ?_
  show Rm E 0 26 [some (.retAddr 0), vr 0, vr 83, vi x3] [] M _ _
  refine R_S q0 2 (pc2 := 28) (ls2 := [some (.retAddr 0), vr 0, vr 83, vi x3]) (st2 := [.int x3, .retAddr 0]) rfl ?_
  refine R_sal q0 rfl h1 ?_
  show Rm E 0 29 [some (.retAddr 0), vr 0, vr 83, vi x3] [.int (E.2 x3.toNatClampNeg)] M _ _
  refine R_S q0 2 (pc2 := 32) (ls2 := [some (.retAddr 0), vr 0, vr 83, vi x3]) (st2 := [.int (E.2 x3.toNatClampNeg &&& 31)]) rfl ?_
  refine R_top h2 ?_
  refine R_S q0 1 (pc2 := 331) (ls2 := [some (.retAddr 0), vr 0, vr 83, vi x3]) (st2 := []) rfl ?_
  refine R_S q0 5 (pc2 := 336) (ls2 := [some (.retAddr 0), vr 0, vr 83, vi x3]) (st2 := [.int (x3 + 1), .retAddr 0, .ref 0]) rfl ?_
  refine R_sal q0 rfl h3 ?_
  show Rm E 0 337 [some (.retAddr 0), vr 0, vr 83, vi x3] [.int (E.2 (x3 + 1).toNatClampNeg), .ref 0] M _ _
  refine R_S q0 4 (pc2 := 341) (ls2 := [some (.retAddr 0), vr 0, vr 83, vi x3]) (st2 := [.int (x3 + 2), .retAddr 0, .int (E.2 (x3 + 1).toNatClampNeg), .ref 0]) rfl ?_
  refine R_sal q0 rfl h4 ?_
  show Rm E 0 342 [some (.retAddr 0), vr 0, vr 83, vi x3] [.int (E.2 (x3 + 2).toNatClampNeg), .int (E.2 (x3 + 1).toNatClampNeg), .ref 0] M _ _
  refine R_S q0 4 (pc2 := 346) (ls2 := [some (.retAddr 0), vr 0, vr 83, vi x3]) (st2 := [.int (x3 + 3), .retAddr 0, .int (E.2 (x3 + 2).toNatClampNeg), .int (E.2 (x3 + 1).toNatClampNeg), .ref 0]) rfl ?_
  refine R_sal q0 rfl h5 ?_
  show Rm E 0 347 [some (.retAddr 0), vr 0, vr 83, vi x3] [.int (E.2 (x3 + 3).toNatClampNeg), .int (E.2 (x3 + 2).toNatClampNeg), .int (E.2 (x3 + 1).toNatClampNeg), .ref 0] M _ _
  refine R_call q0 rfl rfl rfl rfl rfl rfl h6 ?_
  show Rm E 0 350 [some (.retAddr 0), vr 0, vr 83, vi x3] [.int c1] N1 _ _
  refine R_S q0 5 (pc2 := 355) (ls2 := [some (.retAddr 0), vr 0, vr 83, vi x3]) (st2 := [.int (x3 + 1), .retAddr 0, .ref 83, .int c1]) rfl ?_
  refine R_sal q0 rfl h7 ?_
  show Rm E 0 356 [some (.retAddr 0), vr 0, vr 83, vi x3] [.int (E.2 (x3 + 1).toNatClampNeg), .ref 83, .int c1] N1 _ _
  refine R_S q0 4 (pc2 := 360) (ls2 := [some (.retAddr 0), vr 0, vr 83, vi x3]) (st2 := [.int (x3 + 2), .retAddr 0, .int (E.2 (x3 + 1).toNatClampNeg), .ref 83, .int c1]) rfl ?_
  refine R_sal q0 rfl h8 ?_
  show Rm E 0 361 [some (.retAddr 0), vr 0, vr 83, vi x3] [.int (E.2 (x3 + 2).toNatClampNeg), .int (E.2 (x3 + 1).toNatClampNeg), .ref 83, .int c1] N1 _ _
  refine R_S q0 4 (pc2 := 365) (ls2 := [some (.retAddr 0), vr 0, vr 83, vi x3]) (st2 := [.int (x3 + 3), .retAddr 0, .int (E.2 (x3 + 2).toNatClampNeg), .int (E.2 (x3 + 1).toNatClampNeg), .ref 83, .int c1]) rfl ?_
  refine R_sal q0 rfl h9 ?_
  show Rm E 0 366 [some (.retAddr 0), vr 0, vr 83, vi x3] [.int (E.2 (x3 + 3).toNatClampNeg), .int (E.2 (x3 + 2).toNatClampNeg), .int (E.2 (x3 + 1).toNatClampNeg), .ref 83, .int c1] N1 _ _
  refine R_call q0 rfl rfl rfl rfl rfl rfl h10 ?_
  show Rm E 0 369 [some (.retAddr 0), vr 0, vr 83, vi x3] [.int c2, .int c1] N2 _ _
  refine R_ict q0 rfl (decide_eq_true h11) ?_
  show Rm E 0 954 [some (.retAddr 0), vr 0, vr 83, vi x3] [] N2 _ _
  refine R_S q0 2 (pc2 := 18) (ls2 := [some (.retAddr 0), vr 0, vr 83, vi (x3 + 5)]) (st2 := []) rfl ?_
  exact k
-- 23- 32=8 call X9_set call X10_set 402+
set_option maxRecDepth 16384 in
theorem b0_18_18 {E : env} {M : mem} {rv : Option Value} {M2 : mem} {x3 : Int32} {c1 : Int32} {N1 : mem} {c2 : Int32} {N2 : mem} (h0 : ¬ (((Int32.ofNat E.1) - 5) < x3)) (h1 : inR x3 E.1) (h2 : (E.2 x3.toNatClampNeg &&& 31) = 8) (h3 : inR (x3 + 1) E.1) (h4 : inR (x3 + 2) E.1) (h5 : Rm E 61 0 [vr 0, vi (E.2 (x3 + 1).toNatClampNeg), vi (E.2 (x3 + 2).toNatClampNeg), vn] [] M (some (.int c1)) N1) (h6 : inR (x3 + 1) E.1) (h7 : inR (x3 + 2) E.1) (h8 : Rm E 125 0 [vr 83, vi (E.2 (x3 + 1).toNatClampNeg), vi (E.2 (x3 + 2).toNatClampNeg), vn] [] N1 (some (.int c2)) N2) (h9 : c1 = c2) (k : Rm E 0 18 [some (.retAddr 0), vr 0, vr 83, vi (x3 + 5)] [] N2 rv M2) : Rm E 0 18 [some (.retAddr 0), vr 0, vr 83, vi x3] [] M rv M2 := by
  refine R_S q0 5 (pc2 := 23) (ls2 := [some (.retAddr 0), vr 0, vr 83, vi x3]) (st2 := [.int ((Int32.ofNat E.1) - 5), .int x3]) rfl ?_
  refine R_icf q0 rfl (decide_eq_false h0) ?_
  show Rm E 0 26 [some (.retAddr 0), vr 0, vr 83, vi x3] [] M _ _
  refine R_S q0 2 (pc2 := 28) (ls2 := [some (.retAddr 0), vr 0, vr 83, vi x3]) (st2 := [.int x3, .retAddr 0]) rfl ?_
  refine R_sal q0 rfl h1 ?_
  show Rm E 0 29 [some (.retAddr 0), vr 0, vr 83, vi x3] [.int (E.2 x3.toNatClampNeg)] M _ _
  refine R_S q0 2 (pc2 := 32) (ls2 := [some (.retAddr 0), vr 0, vr 83, vi x3]) (st2 := [.int (E.2 x3.toNatClampNeg &&& 31)]) rfl ?_
  refine R_top h2 ?_
  refine R_S q0 1 (pc2 := 374) (ls2 := [some (.retAddr 0), vr 0, vr 83, vi x3]) (st2 := []) rfl ?_
  refine R_S q0 5 (pc2 := 379) (ls2 := [some (.retAddr 0), vr 0, vr 83, vi x3]) (st2 := [.int (x3 + 1), .retAddr 0, .ref 0]) rfl ?_
  refine R_sal q0 rfl h3 ?_
  show Rm E 0 380 [some (.retAddr 0), vr 0, vr 83, vi x3] [.int (E.2 (x3 + 1).toNatClampNeg), .ref 0] M _ _
  refine R_S q0 4 (pc2 := 384) (ls2 := [some (.retAddr 0), vr 0, vr 83, vi x3]) (st2 := [.int (x3 + 2), .retAddr 0, .int (E.2 (x3 + 1).toNatClampNeg), .ref 0]) rfl ?_
  refine R_sal q0 rfl h4 ?_
  show Rm E 0 385 [some (.retAddr 0), vr 0, vr 83, vi x3] [.int (E.2 (x3 + 2).toNatClampNeg), .int (E.2 (x3 + 1).toNatClampNeg), .ref 0] M _ _
  refine R_call q0 rfl rfl rfl rfl rfl rfl h5 ?_
  show Rm E 0 388 [some (.retAddr 0), vr 0, vr 83, vi x3] [.int c1] N1 _ _
  refine R_S q0 5 (pc2 := 393) (ls2 := [some (.retAddr 0), vr 0, vr 83, vi x3]) (st2 := [.int (x3 + 1), .retAddr 0, .ref 83, .int c1]) rfl ?_
  refine R_sal q0 rfl h6 ?_
  show Rm E 0 394 [some (.retAddr 0), vr 0, vr 83, vi x3] [.int (E.2 (x3 + 1).toNatClampNeg), .ref 83, .int c1] N1 _ _
  refine R_S q0 4 (pc2 := 398) (ls2 := [some (.retAddr 0), vr 0, vr 83, vi x3]) (st2 := [.int (x3 + 2), .retAddr 0, .int (E.2 (x3 + 1).toNatClampNeg), .ref 83, .int c1]) rfl ?_
  refine R_sal q0 rfl h7 ?_
  show Rm E 0 399 [some (.retAddr 0), vr 0, vr 83, vi x3] [.int (E.2 (x3 + 2).toNatClampNeg), .int (E.2 (x3 + 1).toNatClampNeg), .ref 83, .int c1] N1 _ _
  refine R_call q0 rfl rfl rfl rfl rfl rfl h8 ?_
  show Rm E 0 402 [some (.retAddr 0), vr 0, vr 83, vi x3] [.int c2, .int c1] N2 _ _
  refine R_ict q0 rfl (decide_eq_true h9) ?_
  show Rm E 0 954 [some (.retAddr 0), vr 0, vr 83, vi x3] [] N2 _ _
  refine R_S q0 2 (pc2 := 18) (ls2 := [some (.retAddr 0), vr 0, vr 83, vi (x3 + 5)]) (st2 := []) rfl ?_
  exact k
-- 23- 32=9 call X9_shape call X10_shape 445+
set_option maxRecDepth 16384 in
theorem b0_18_20 {E : env} {M : mem} {rv : Option Value} {M2 : mem} {x3 : Int32} {c1 : Int32} {N1 : mem} {c2 : Int32} {N2 : mem} (h0 : ¬ (((Int32.ofNat E.1) - 5) < x3)) (h1 : inR x3 E.1) (h2 : (E.2 x3.toNatClampNeg &&& 31) = 9) (h3 : inR (x3 + 1) E.1) (h4 : inR (x3 + 2) E.1) (h5 : inR (x3 + 3) E.1) (h6 : Rm E 62 0 [vr 0, vi (E.2 (x3 + 1).toNatClampNeg), vi (E.2 (x3 + 2).toNatClampNeg), vi (E.2 (x3 + 3).toNatClampNeg), vn, vn] [] M (some (.int c1)) N1) (h7 : inR (x3 + 1) E.1) (h8 : inR (x3 + 2) E.1) (h9 : inR (x3 + 3) E.1) (h10 : Rm E 126 0 [vr 83, vi (E.2 (x3 + 1).toNatClampNeg), vi (E.2 (x3 + 2).toNatClampNeg), vi (E.2 (x3 + 3).toNatClampNeg), vn] [] N1 (some (.int c2)) N2) (h11 : c1 = c2) (k : Rm E 0 18 [some (.retAddr 0), vr 0, vr 83, vi (x3 + 5)] [] N2 rv M2) : Rm E 0 18 [some (.retAddr 0), vr 0, vr 83, vi x3] [] M rv M2 := by
  refine R_S q0 5 (pc2 := 23) (ls2 := [some (.retAddr 0), vr 0, vr 83, vi x3]) (st2 := [.int ((Int32.ofNat E.1) - 5), .int x3]) rfl ?_
  refine R_icf q0 rfl (decide_eq_false h0) ?_
  show Rm E 0 26 [some (.retAddr 0), vr 0, vr 83, vi x3] [] M _ _
  refine R_S q0 2 (pc2 := 28) (ls2 := [some (.retAddr 0), vr 0, vr 83, vi x3]) (st2 := [.int x3, .retAddr 0]) rfl ?_
  refine R_sal q0 rfl h1 ?_
  show Rm E 0 29 [some (.retAddr 0), vr 0, vr 83, vi x3] [.int (E.2 x3.toNatClampNeg)] M _ _
  refine R_S q0 2 (pc2 := 32) (ls2 := [some (.retAddr 0), vr 0, vr 83, vi x3]) (st2 := [.int (E.2 x3.toNatClampNeg &&& 31)]) rfl ?_
  refine R_top h2 ?_
  refine R_S q0 1 (pc2 := 407) (ls2 := [some (.retAddr 0), vr 0, vr 83, vi x3]) (st2 := []) rfl ?_
  refine R_S q0 5 (pc2 := 412) (ls2 := [some (.retAddr 0), vr 0, vr 83, vi x3]) (st2 := [.int (x3 + 1), .retAddr 0, .ref 0]) rfl ?_
  refine R_sal q0 rfl h3 ?_
  show Rm E 0 413 [some (.retAddr 0), vr 0, vr 83, vi x3] [.int (E.2 (x3 + 1).toNatClampNeg), .ref 0] M _ _
  refine R_S q0 4 (pc2 := 417) (ls2 := [some (.retAddr 0), vr 0, vr 83, vi x3]) (st2 := [.int (x3 + 2), .retAddr 0, .int (E.2 (x3 + 1).toNatClampNeg), .ref 0]) rfl ?_
  refine R_sal q0 rfl h4 ?_
  show Rm E 0 418 [some (.retAddr 0), vr 0, vr 83, vi x3] [.int (E.2 (x3 + 2).toNatClampNeg), .int (E.2 (x3 + 1).toNatClampNeg), .ref 0] M _ _
  refine R_S q0 4 (pc2 := 422) (ls2 := [some (.retAddr 0), vr 0, vr 83, vi x3]) (st2 := [.int (x3 + 3), .retAddr 0, .int (E.2 (x3 + 2).toNatClampNeg), .int (E.2 (x3 + 1).toNatClampNeg), .ref 0]) rfl ?_
  refine R_sal q0 rfl h5 ?_
  show Rm E 0 423 [some (.retAddr 0), vr 0, vr 83, vi x3] [.int (E.2 (x3 + 3).toNatClampNeg), .int (E.2 (x3 + 2).toNatClampNeg), .int (E.2 (x3 + 1).toNatClampNeg), .ref 0] M _ _
  refine R_call q0 rfl rfl rfl rfl rfl rfl h6 ?_
  show Rm E 0 426 [some (.retAddr 0), vr 0, vr 83, vi x3] [.int c1] N1 _ _
  refine R_S q0 5 (pc2 := 431) (ls2 := [some (.retAddr 0), vr 0, vr 83, vi x3]) (st2 := [.int (x3 + 1), .retAddr 0, .ref 83, .int c1]) rfl ?_
  refine R_sal q0 rfl h7 ?_
  show Rm E 0 432 [some (.retAddr 0), vr 0, vr 83, vi x3] [.int (E.2 (x3 + 1).toNatClampNeg), .ref 83, .int c1] N1 _ _
  refine R_S q0 4 (pc2 := 436) (ls2 := [some (.retAddr 0), vr 0, vr 83, vi x3]) (st2 := [.int (x3 + 2), .retAddr 0, .int (E.2 (x3 + 1).toNatClampNeg), .ref 83, .int c1]) rfl ?_
  refine R_sal q0 rfl h8 ?_
  show Rm E 0 437 [some (.retAddr 0), vr 0, vr 83, vi x3] [.int (E.2 (x3 + 2).toNatClampNeg), .int (E.2 (x3 + 1).toNatClampNeg), .ref 83, .int c1] N1 _ _
  refine R_S q0 4 (pc2 := 441) (ls2 := [some (.retAddr 0), vr 0, vr 83, vi x3]) (st2 := [.int (x3 + 3), .retAddr 0, .int (E.2 (x3 + 2).toNatClampNeg), .int (E.2 (x3 + 1).toNatClampNeg), .ref 83, .int c1]) rfl ?_
  refine R_sal q0 rfl h9 ?_
  show Rm E 0 442 [some (.retAddr 0), vr 0, vr 83, vi x3] [.int (E.2 (x3 + 3).toNatClampNeg), .int (E.2 (x3 + 2).toNatClampNeg), .int (E.2 (x3 + 1).toNatClampNeg), .ref 83, .int c1] N1 _ _
  refine R_call q0 rfl rfl rfl rfl rfl rfl h10 ?_
  show Rm E 0 445 [some (.retAddr 0), vr 0, vr 83, vi x3] [.int c2, .int c1] N2 _ _
  refine R_ict q0 rfl (decide_eq_true h11) ?_
  show Rm E 0 954 [some (.retAddr 0), vr 0, vr 83, vi x3] [] N2 _ _
  refine R_S q0 2 (pc2 := 18) (ls2 := [some (.retAddr 0), vr 0, vr 83, vi (x3 + 5)]) (st2 := []) rfl ?_
  exact k
-- 23- 32=10 call X9_undo call X10_undo 458+
set_option maxRecDepth 16384 in
theorem b0_18_22 {E : env} {M : mem} {rv : Option Value} {M2 : mem} {x3 : Int32} {c1 : Int32} {N1 : mem} {c2 : Int32} {N2 : mem} (h0 : ¬ (((Int32.ofNat E.1) - 5) < x3)) (h1 : inR x3 E.1) (h2 : (E.2 x3.toNatClampNeg &&& 31) = 10) (h3 : Rm E 63 0 [vr 0] [] M (some (.int c1)) N1) (h4 : Rm E 127 0 [vr 83, vn] [] N1 (some (.int c2)) N2) (h5 : c1 = c2) (k : Rm E 0 18 [some (.retAddr 0), vr 0, vr 83, vi (x3 + 5)] [] N2 rv M2) : Rm E 0 18 [some (.retAddr 0), vr 0, vr 83, vi x3] [] M rv M2 := by
  refine R_S q0 5 (pc2 := 23) (ls2 := [some (.retAddr 0), vr 0, vr 83, vi x3]) (st2 := [.int ((Int32.ofNat E.1) - 5), .int x3]) rfl ?_
  refine R_icf q0 rfl (decide_eq_false h0) ?_
  show Rm E 0 26 [some (.retAddr 0), vr 0, vr 83, vi x3] [] M _ _
  refine R_S q0 2 (pc2 := 28) (ls2 := [some (.retAddr 0), vr 0, vr 83, vi x3]) (st2 := [.int x3, .retAddr 0]) rfl ?_
  refine R_sal q0 rfl h1 ?_
  show Rm E 0 29 [some (.retAddr 0), vr 0, vr 83, vi x3] [.int (E.2 x3.toNatClampNeg)] M _ _
  refine R_S q0 2 (pc2 := 32) (ls2 := [some (.retAddr 0), vr 0, vr 83, vi x3]) (st2 := [.int (E.2 x3.toNatClampNeg &&& 31)]) rfl ?_
  refine R_top h2 ?_
  refine R_S q0 1 (pc2 := 450) (ls2 := [some (.retAddr 0), vr 0, vr 83, vi x3]) (st2 := []) rfl ?_
  refine R_S q0 1 (pc2 := 451) (ls2 := [some (.retAddr 0), vr 0, vr 83, vi x3]) (st2 := [.ref 0]) rfl ?_
  refine R_call q0 rfl rfl rfl rfl rfl rfl h3 ?_
  show Rm E 0 454 [some (.retAddr 0), vr 0, vr 83, vi x3] [.int c1] N1 _ _
  refine R_S q0 1 (pc2 := 455) (ls2 := [some (.retAddr 0), vr 0, vr 83, vi x3]) (st2 := [.ref 83, .int c1]) rfl ?_
  refine R_call q0 rfl rfl rfl rfl rfl rfl h4 ?_
  show Rm E 0 458 [some (.retAddr 0), vr 0, vr 83, vi x3] [.int c2, .int c1] N2 _ _
  refine R_ict q0 rfl (decide_eq_true h5) ?_
  show Rm E 0 954 [some (.retAddr 0), vr 0, vr 83, vi x3] [] N2 _ _
  refine R_S q0 2 (pc2 := 18) (ls2 := [some (.retAddr 0), vr 0, vr 83, vi (x3 + 5)]) (st2 := []) rfl ?_
  exact k
-- 23- 32=11 call X9_way call X10_way 501+
set_option maxRecDepth 16384 in
theorem b0_18_24 {E : env} {M : mem} {rv : Option Value} {M2 : mem} {x3 : Int32} {c1 : Int32} {N1 : mem} {c2 : Int32} {N2 : mem} (h0 : ¬ (((Int32.ofNat E.1) - 5) < x3)) (h1 : inR x3 E.1) (h2 : (E.2 x3.toNatClampNeg &&& 31) = 11) (h3 : inR (x3 + 1) E.1) (h4 : inR (x3 + 2) E.1) (h5 : inR (x3 + 3) E.1) (h6 : Rm E 64 0 [vr 0, vi (E.2 (x3 + 1).toNatClampNeg), vi (E.2 (x3 + 2).toNatClampNeg), vi (E.2 (x3 + 3).toNatClampNeg)] [] M (some (.int c1)) N1) (h7 : inR (x3 + 1) E.1) (h8 : inR (x3 + 2) E.1) (h9 : inR (x3 + 3) E.1) (h10 : Rm E 113 0 [vr 83, vi (E.2 (x3 + 1).toNatClampNeg), vi (E.2 (x3 + 2).toNatClampNeg), vi (E.2 (x3 + 3).toNatClampNeg)] [] N1 (some (.int c2)) N2) (h11 : c1 = c2) (k : Rm E 0 18 [some (.retAddr 0), vr 0, vr 83, vi (x3 + 5)] [] N2 rv M2) : Rm E 0 18 [some (.retAddr 0), vr 0, vr 83, vi x3] [] M rv M2 := by
  refine R_S q0 5 (pc2 := 23) (ls2 := [some (.retAddr 0), vr 0, vr 83, vi x3]) (st2 := [.int ((Int32.ofNat E.1) - 5), .int x3]) rfl ?_
  refine R_icf q0 rfl (decide_eq_false h0) ?_
  show Rm E 0 26 [some (.retAddr 0), vr 0, vr 83, vi x3] [] M _ _
  refine R_S q0 2 (pc2 := 28) (ls2 := [some (.retAddr 0), vr 0, vr 83, vi x3]) (st2 := [.int x3, .retAddr 0]) rfl ?_
  refine R_sal q0 rfl h1 ?_
  show Rm E 0 29 [some (.retAddr 0), vr 0, vr 83, vi x3] [.int (E.2 x3.toNatClampNeg)] M _ _
  refine R_S q0 2 (pc2 := 32) (ls2 := [some (.retAddr 0), vr 0, vr 83, vi x3]) (st2 := [.int (E.2 x3.toNatClampNeg &&& 31)]) rfl ?_
  refine R_top h2 ?_
  refine R_S q0 1 (pc2 := 463) (ls2 := [some (.retAddr 0), vr 0, vr 83, vi x3]) (st2 := []) rfl ?_
  refine R_S q0 5 (pc2 := 468) (ls2 := [some (.retAddr 0), vr 0, vr 83, vi x3]) (st2 := [.int (x3 + 1), .retAddr 0, .ref 0]) rfl ?_
  refine R_sal q0 rfl h3 ?_
  show Rm E 0 469 [some (.retAddr 0), vr 0, vr 83, vi x3] [.int (E.2 (x3 + 1).toNatClampNeg), .ref 0] M _ _
  refine R_S q0 4 (pc2 := 473) (ls2 := [some (.retAddr 0), vr 0, vr 83, vi x3]) (st2 := [.int (x3 + 2), .retAddr 0, .int (E.2 (x3 + 1).toNatClampNeg), .ref 0]) rfl ?_
  refine R_sal q0 rfl h4 ?_
  show Rm E 0 474 [some (.retAddr 0), vr 0, vr 83, vi x3] [.int (E.2 (x3 + 2).toNatClampNeg), .int (E.2 (x3 + 1).toNatClampNeg), .ref 0] M _ _
  refine R_S q0 4 (pc2 := 478) (ls2 := [some (.retAddr 0), vr 0, vr 83, vi x3]) (st2 := [.int (x3 + 3), .retAddr 0, .int (E.2 (x3 + 2).toNatClampNeg), .int (E.2 (x3 + 1).toNatClampNeg), .ref 0]) rfl ?_
  refine R_sal q0 rfl h5 ?_
  show Rm E 0 479 [some (.retAddr 0), vr 0, vr 83, vi x3] [.int (E.2 (x3 + 3).toNatClampNeg), .int (E.2 (x3 + 2).toNatClampNeg), .int (E.2 (x3 + 1).toNatClampNeg), .ref 0] M _ _
  refine R_call q0 rfl rfl rfl rfl rfl rfl h6 ?_
  show Rm E 0 482 [some (.retAddr 0), vr 0, vr 83, vi x3] [.int c1] N1 _ _
  refine R_S q0 5 (pc2 := 487) (ls2 := [some (.retAddr 0), vr 0, vr 83, vi x3]) (st2 := [.int (x3 + 1), .retAddr 0, .ref 83, .int c1]) rfl ?_
  refine R_sal q0 rfl h7 ?_
  show Rm E 0 488 [some (.retAddr 0), vr 0, vr 83, vi x3] [.int (E.2 (x3 + 1).toNatClampNeg), .ref 83, .int c1] N1 _ _
  refine R_S q0 4 (pc2 := 492) (ls2 := [some (.retAddr 0), vr 0, vr 83, vi x3]) (st2 := [.int (x3 + 2), .retAddr 0, .int (E.2 (x3 + 1).toNatClampNeg), .ref 83, .int c1]) rfl ?_
  refine R_sal q0 rfl h8 ?_
  show Rm E 0 493 [some (.retAddr 0), vr 0, vr 83, vi x3] [.int (E.2 (x3 + 2).toNatClampNeg), .int (E.2 (x3 + 1).toNatClampNeg), .ref 83, .int c1] N1 _ _
  refine R_S q0 4 (pc2 := 497) (ls2 := [some (.retAddr 0), vr 0, vr 83, vi x3]) (st2 := [.int (x3 + 3), .retAddr 0, .int (E.2 (x3 + 2).toNatClampNeg), .int (E.2 (x3 + 1).toNatClampNeg), .ref 83, .int c1]) rfl ?_
  refine R_sal q0 rfl h9 ?_
  show Rm E 0 498 [some (.retAddr 0), vr 0, vr 83, vi x3] [.int (E.2 (x3 + 3).toNatClampNeg), .int (E.2 (x3 + 2).toNatClampNeg), .int (E.2 (x3 + 1).toNatClampNeg), .ref 83, .int c1] N1 _ _
  refine R_call q0 rfl rfl rfl rfl rfl rfl h10 ?_
  show Rm E 0 501 [some (.retAddr 0), vr 0, vr 83, vi x3] [.int c2, .int c1] N2 _ _
  refine R_ict q0 rfl (decide_eq_true h11) ?_
  show Rm E 0 954 [some (.retAddr 0), vr 0, vr 83, vi x3] [] N2 _ _
  refine R_S q0 2 (pc2 := 18) (ls2 := [some (.retAddr 0), vr 0, vr 83, vi (x3 + 5)]) (st2 := []) rfl ?_
  exact k
-- 23- 32=12 call X9_step call X10_step 544+
set_option maxRecDepth 16384 in
theorem b0_18_26 {E : env} {M : mem} {rv : Option Value} {M2 : mem} {x3 : Int32} {c1 : Int32} {N1 : mem} {c2 : Int32} {N2 : mem} (h0 : ¬ (((Int32.ofNat E.1) - 5) < x3)) (h1 : inR x3 E.1) (h2 : (E.2 x3.toNatClampNeg &&& 31) = 12) (h3 : inR (x3 + 1) E.1) (h4 : inR (x3 + 2) E.1) (h5 : inR (x3 + 3) E.1) (h6 : Rm E 65 0 [vr 0, vi (E.2 (x3 + 1).toNatClampNeg), vi (E.2 (x3 + 2).toNatClampNeg), vi (E.2 (x3 + 3).toNatClampNeg)] [] M (some (.int c1)) N1) (h7 : inR (x3 + 1) E.1) (h8 : inR (x3 + 2) E.1) (h9 : inR (x3 + 3) E.1) (h10 : Rm E 114 0 [vr 83, vi (E.2 (x3 + 1).toNatClampNeg), vi (E.2 (x3 + 2).toNatClampNeg), vi (E.2 (x3 + 3).toNatClampNeg)] [] N1 (some (.int c2)) N2) (h11 : c1 = c2) (k : Rm E 0 18 [some (.retAddr 0), vr 0, vr 83, vi (x3 + 5)] [] N2 rv M2) : Rm E 0 18 [some (.retAddr 0), vr 0, vr 83, vi x3] [] M rv M2 := by
  refine R_S q0 5 (pc2 := 23) (ls2 := [some (.retAddr 0), vr 0, vr 83, vi x3]) (st2 := [.int ((Int32.ofNat E.1) - 5), .int x3]) rfl ?_
  refine R_icf q0 rfl (decide_eq_false h0) ?_
  show Rm E 0 26 [some (.retAddr 0), vr 0, vr 83, vi x3] [] M _ _
  refine R_S q0 2 (pc2 := 28) (ls2 := [some (.retAddr 0), vr 0, vr 83, vi x3]) (st2 := [.int x3, .retAddr 0]) rfl ?_
  refine R_sal q0 rfl h1 ?_
  show Rm E 0 29 [some (.retAddr 0), vr 0, vr 83, vi x3] [.int (E.2 x3.toNatClampNeg)] M _ _
  refine R_S q0 2 (pc2 := 32) (ls2 := [some (.retAddr 0), vr 0, vr 83, vi x3]) (st2 := [.int (E.2 x3.toNatClampNeg &&& 31)]) rfl ?_
  refine R_top h2 ?_
  refine R_S q0 1 (pc2 := 506) (ls2 := [some (.retAddr 0), vr 0, vr 83, vi x3]) (st2 := []) rfl ?_
  refine R_S q0 5 (pc2 := 511) (ls2 := [some (.retAddr 0), vr 0, vr 83, vi x3]) (st2 := [.int (x3 + 1), .retAddr 0, .ref 0]) rfl ?_
  refine R_sal q0 rfl h3 ?_
  show Rm E 0 512 [some (.retAddr 0), vr 0, vr 83, vi x3] [.int (E.2 (x3 + 1).toNatClampNeg), .ref 0] M _ _
  refine R_S q0 4 (pc2 := 516) (ls2 := [some (.retAddr 0), vr 0, vr 83, vi x3]) (st2 := [.int (x3 + 2), .retAddr 0, .int (E.2 (x3 + 1).toNatClampNeg), .ref 0]) rfl ?_
  refine R_sal q0 rfl h4 ?_
  show Rm E 0 517 [some (.retAddr 0), vr 0, vr 83, vi x3] [.int (E.2 (x3 + 2).toNatClampNeg), .int (E.2 (x3 + 1).toNatClampNeg), .ref 0] M _ _
  refine R_S q0 4 (pc2 := 521) (ls2 := [some (.retAddr 0), vr 0, vr 83, vi x3]) (st2 := [.int (x3 + 3), .retAddr 0, .int (E.2 (x3 + 2).toNatClampNeg), .int (E.2 (x3 + 1).toNatClampNeg), .ref 0]) rfl ?_
  refine R_sal q0 rfl h5 ?_
  show Rm E 0 522 [some (.retAddr 0), vr 0, vr 83, vi x3] [.int (E.2 (x3 + 3).toNatClampNeg), .int (E.2 (x3 + 2).toNatClampNeg), .int (E.2 (x3 + 1).toNatClampNeg), .ref 0] M _ _
  refine R_call q0 rfl rfl rfl rfl rfl rfl h6 ?_
  show Rm E 0 525 [some (.retAddr 0), vr 0, vr 83, vi x3] [.int c1] N1 _ _
  refine R_S q0 5 (pc2 := 530) (ls2 := [some (.retAddr 0), vr 0, vr 83, vi x3]) (st2 := [.int (x3 + 1), .retAddr 0, .ref 83, .int c1]) rfl ?_
  refine R_sal q0 rfl h7 ?_
  show Rm E 0 531 [some (.retAddr 0), vr 0, vr 83, vi x3] [.int (E.2 (x3 + 1).toNatClampNeg), .ref 83, .int c1] N1 _ _
  refine R_S q0 4 (pc2 := 535) (ls2 := [some (.retAddr 0), vr 0, vr 83, vi x3]) (st2 := [.int (x3 + 2), .retAddr 0, .int (E.2 (x3 + 1).toNatClampNeg), .ref 83, .int c1]) rfl ?_
  refine R_sal q0 rfl h8 ?_
  show Rm E 0 536 [some (.retAddr 0), vr 0, vr 83, vi x3] [.int (E.2 (x3 + 2).toNatClampNeg), .int (E.2 (x3 + 1).toNatClampNeg), .ref 83, .int c1] N1 _ _
  refine R_S q0 4 (pc2 := 540) (ls2 := [some (.retAddr 0), vr 0, vr 83, vi x3]) (st2 := [.int (x3 + 3), .retAddr 0, .int (E.2 (x3 + 2).toNatClampNeg), .int (E.2 (x3 + 1).toNatClampNeg), .ref 83, .int c1]) rfl ?_
  refine R_sal q0 rfl h9 ?_
  show Rm E 0 541 [some (.retAddr 0), vr 0, vr 83, vi x3] [.int (E.2 (x3 + 3).toNatClampNeg), .int (E.2 (x3 + 2).toNatClampNeg), .int (E.2 (x3 + 1).toNatClampNeg), .ref 83, .int c1] N1 _ _
  refine R_call q0 rfl rfl rfl rfl rfl rfl h10 ?_
  show Rm E 0 544 [some (.retAddr 0), vr 0, vr 83, vi x3] [.int c2, .int c1] N2 _ _
  refine R_ict q0 rfl (decide_eq_true h11) ?_
  show Rm E 0 954 [some (.retAddr 0), vr 0, vr 83, vi x3] [] N2 _ _
  refine R_S q0 2 (pc2 := 18) (ls2 := [some (.retAddr 0), vr 0, vr 83, vi (x3 + 5)]) (st2 := []) rfl ?_
  exact k
-- 23- 32=13 call X9_through call X10_through 587+
set_option maxRecDepth 16384 in
theorem b0_18_28 {E : env} {M : mem} {rv : Option Value} {M2 : mem} {x3 : Int32} {c1 : Int32} {N1 : mem} {c2 : Int32} {N2 : mem} (h0 : ¬ (((Int32.ofNat E.1) - 5) < x3)) (h1 : inR x3 E.1) (h2 : (E.2 x3.toNatClampNeg &&& 31) = 13) (h3 : inR (x3 + 1) E.1) (h4 : inR (x3 + 2) E.1) (h5 : inR (x3 + 3) E.1) (h6 : Rm E 66 0 [vr 0, vi (E.2 (x3 + 1).toNatClampNeg), vi (E.2 (x3 + 2).toNatClampNeg), vi (E.2 (x3 + 3).toNatClampNeg)] [] M (some (.int c1)) N1) (h7 : inR (x3 + 1) E.1) (h8 : inR (x3 + 2) E.1) (h9 : inR (x3 + 3) E.1) (h10 : Rm E 115 0 [vr 83, vi (E.2 (x3 + 1).toNatClampNeg), vi (E.2 (x3 + 2).toNatClampNeg), vi (E.2 (x3 + 3).toNatClampNeg), vn, vn] [] N1 (some (.int c2)) N2) (h11 : c1 = c2) (k : Rm E 0 18 [some (.retAddr 0), vr 0, vr 83, vi (x3 + 5)] [] N2 rv M2) : Rm E 0 18 [some (.retAddr 0), vr 0, vr 83, vi x3] [] M rv M2 := by
  refine R_S q0 5 (pc2 := 23) (ls2 := [some (.retAddr 0), vr 0, vr 83, vi x3]) (st2 := [.int ((Int32.ofNat E.1) - 5), .int x3]) rfl ?_
  refine R_icf q0 rfl (decide_eq_false h0) ?_
  show Rm E 0 26 [some (.retAddr 0), vr 0, vr 83, vi x3] [] M _ _
  refine R_S q0 2 (pc2 := 28) (ls2 := [some (.retAddr 0), vr 0, vr 83, vi x3]) (st2 := [.int x3, .retAddr 0]) rfl ?_
  refine R_sal q0 rfl h1 ?_
  show Rm E 0 29 [some (.retAddr 0), vr 0, vr 83, vi x3] [.int (E.2 x3.toNatClampNeg)] M _ _
  refine R_S q0 2 (pc2 := 32) (ls2 := [some (.retAddr 0), vr 0, vr 83, vi x3]) (st2 := [.int (E.2 x3.toNatClampNeg &&& 31)]) rfl ?_
  refine R_top h2 ?_
  refine R_S q0 1 (pc2 := 549) (ls2 := [some (.retAddr 0), vr 0, vr 83, vi x3]) (st2 := []) rfl ?_
  refine R_S q0 5 (pc2 := 554) (ls2 := [some (.retAddr 0), vr 0, vr 83, vi x3]) (st2 := [.int (x3 + 1), .retAddr 0, .ref 0]) rfl ?_
  refine R_sal q0 rfl h3 ?_
  show Rm E 0 555 [some (.retAddr 0), vr 0, vr 83, vi x3] [.int (E.2 (x3 + 1).toNatClampNeg), .ref 0] M _ _
  refine R_S q0 4 (pc2 := 559) (ls2 := [some (.retAddr 0), vr 0, vr 83, vi x3]) (st2 := [.int (x3 + 2), .retAddr 0, .int (E.2 (x3 + 1).toNatClampNeg), .ref 0]) rfl ?_
  refine R_sal q0 rfl h4 ?_
  show Rm E 0 560 [some (.retAddr 0), vr 0, vr 83, vi x3] [.int (E.2 (x3 + 2).toNatClampNeg), .int (E.2 (x3 + 1).toNatClampNeg), .ref 0] M _ _
  refine R_S q0 4 (pc2 := 564) (ls2 := [some (.retAddr 0), vr 0, vr 83, vi x3]) (st2 := [.int (x3 + 3), .retAddr 0, .int (E.2 (x3 + 2).toNatClampNeg), .int (E.2 (x3 + 1).toNatClampNeg), .ref 0]) rfl ?_
  refine R_sal q0 rfl h5 ?_
  show Rm E 0 565 [some (.retAddr 0), vr 0, vr 83, vi x3] [.int (E.2 (x3 + 3).toNatClampNeg), .int (E.2 (x3 + 2).toNatClampNeg), .int (E.2 (x3 + 1).toNatClampNeg), .ref 0] M _ _
  refine R_call q0 rfl rfl rfl rfl rfl rfl h6 ?_
  show Rm E 0 568 [some (.retAddr 0), vr 0, vr 83, vi x3] [.int c1] N1 _ _
  refine R_S q0 5 (pc2 := 573) (ls2 := [some (.retAddr 0), vr 0, vr 83, vi x3]) (st2 := [.int (x3 + 1), .retAddr 0, .ref 83, .int c1]) rfl ?_
  refine R_sal q0 rfl h7 ?_
  show Rm E 0 574 [some (.retAddr 0), vr 0, vr 83, vi x3] [.int (E.2 (x3 + 1).toNatClampNeg), .ref 83, .int c1] N1 _ _
  refine R_S q0 4 (pc2 := 578) (ls2 := [some (.retAddr 0), vr 0, vr 83, vi x3]) (st2 := [.int (x3 + 2), .retAddr 0, .int (E.2 (x3 + 1).toNatClampNeg), .ref 83, .int c1]) rfl ?_
  refine R_sal q0 rfl h8 ?_
  show Rm E 0 579 [some (.retAddr 0), vr 0, vr 83, vi x3] [.int (E.2 (x3 + 2).toNatClampNeg), .int (E.2 (x3 + 1).toNatClampNeg), .ref 83, .int c1] N1 _ _
  refine R_S q0 4 (pc2 := 583) (ls2 := [some (.retAddr 0), vr 0, vr 83, vi x3]) (st2 := [.int (x3 + 3), .retAddr 0, .int (E.2 (x3 + 2).toNatClampNeg), .int (E.2 (x3 + 1).toNatClampNeg), .ref 83, .int c1]) rfl ?_
  refine R_sal q0 rfl h9 ?_
  show Rm E 0 584 [some (.retAddr 0), vr 0, vr 83, vi x3] [.int (E.2 (x3 + 3).toNatClampNeg), .int (E.2 (x3 + 2).toNatClampNeg), .int (E.2 (x3 + 1).toNatClampNeg), .ref 83, .int c1] N1 _ _
  refine R_call q0 rfl rfl rfl rfl rfl rfl h10 ?_
  show Rm E 0 587 [some (.retAddr 0), vr 0, vr 83, vi x3] [.int c2, .int c1] N2 _ _
  refine R_ict q0 rfl (decide_eq_true h11) ?_
  show Rm E 0 954 [some (.retAddr 0), vr 0, vr 83, vi x3] [] N2 _ _
  refine R_S q0 2 (pc2 := 18) (ls2 := [some (.retAddr 0), vr 0, vr 83, vi (x3 + 5)]) (st2 := []) rfl ?_
  exact k
-- 23- 32=14 call X9_below call X10_below 620+
set_option maxRecDepth 16384 in
theorem b0_18_30 {E : env} {M : mem} {rv : Option Value} {M2 : mem} {x3 : Int32} {c1 : Int32} {N1 : mem} {c2 : Int32} {N2 : mem} (h0 : ¬ (((Int32.ofNat E.1) - 5) < x3)) (h1 : inR x3 E.1) (h2 : (E.2 x3.toNatClampNeg &&& 31) = 14) (h3 : inR (x3 + 1) E.1) (h4 : inR (x3 + 2) E.1) (h5 : Rm E 67 0 [vr 0, vi (E.2 (x3 + 1).toNatClampNeg), vi (E.2 (x3 + 2).toNatClampNeg)] [] M (some (.int c1)) N1) (h6 : inR (x3 + 1) E.1) (h7 : inR (x3 + 2) E.1) (h8 : Rm E 116 0 [vr 83, vi (E.2 (x3 + 1).toNatClampNeg), vi (E.2 (x3 + 2).toNatClampNeg)] [] N1 (some (.int c2)) N2) (h9 : c1 = c2) (k : Rm E 0 18 [some (.retAddr 0), vr 0, vr 83, vi (x3 + 5)] [] N2 rv M2) : Rm E 0 18 [some (.retAddr 0), vr 0, vr 83, vi x3] [] M rv M2 := by
  refine R_S q0 5 (pc2 := 23) (ls2 := [some (.retAddr 0), vr 0, vr 83, vi x3]) (st2 := [.int ((Int32.ofNat E.1) - 5), .int x3]) rfl ?_
  refine R_icf q0 rfl (decide_eq_false h0) ?_
  show Rm E 0 26 [some (.retAddr 0), vr 0, vr 83, vi x3] [] M _ _
  refine R_S q0 2 (pc2 := 28) (ls2 := [some (.retAddr 0), vr 0, vr 83, vi x3]) (st2 := [.int x3, .retAddr 0]) rfl ?_
  refine R_sal q0 rfl h1 ?_
  show Rm E 0 29 [some (.retAddr 0), vr 0, vr 83, vi x3] [.int (E.2 x3.toNatClampNeg)] M _ _
  refine R_S q0 2 (pc2 := 32) (ls2 := [some (.retAddr 0), vr 0, vr 83, vi x3]) (st2 := [.int (E.2 x3.toNatClampNeg &&& 31)]) rfl ?_
  refine R_top h2 ?_
  refine R_S q0 1 (pc2 := 592) (ls2 := [some (.retAddr 0), vr 0, vr 83, vi x3]) (st2 := []) rfl ?_
  refine R_S q0 5 (pc2 := 597) (ls2 := [some (.retAddr 0), vr 0, vr 83, vi x3]) (st2 := [.int (x3 + 1), .retAddr 0, .ref 0]) rfl ?_
  refine R_sal q0 rfl h3 ?_
  show Rm E 0 598 [some (.retAddr 0), vr 0, vr 83, vi x3] [.int (E.2 (x3 + 1).toNatClampNeg), .ref 0] M _ _
  refine R_S q0 4 (pc2 := 602) (ls2 := [some (.retAddr 0), vr 0, vr 83, vi x3]) (st2 := [.int (x3 + 2), .retAddr 0, .int (E.2 (x3 + 1).toNatClampNeg), .ref 0]) rfl ?_
  refine R_sal q0 rfl h4 ?_
  show Rm E 0 603 [some (.retAddr 0), vr 0, vr 83, vi x3] [.int (E.2 (x3 + 2).toNatClampNeg), .int (E.2 (x3 + 1).toNatClampNeg), .ref 0] M _ _
  refine R_call q0 rfl rfl rfl rfl rfl rfl h5 ?_
  show Rm E 0 606 [some (.retAddr 0), vr 0, vr 83, vi x3] [.int c1] N1 _ _
  refine R_S q0 5 (pc2 := 611) (ls2 := [some (.retAddr 0), vr 0, vr 83, vi x3]) (st2 := [.int (x3 + 1), .retAddr 0, .ref 83, .int c1]) rfl ?_
  refine R_sal q0 rfl h6 ?_
  show Rm E 0 612 [some (.retAddr 0), vr 0, vr 83, vi x3] [.int (E.2 (x3 + 1).toNatClampNeg), .ref 83, .int c1] N1 _ _
  refine R_S q0 4 (pc2 := 616) (ls2 := [some (.retAddr 0), vr 0, vr 83, vi x3]) (st2 := [.int (x3 + 2), .retAddr 0, .int (E.2 (x3 + 1).toNatClampNeg), .ref 83, .int c1]) rfl ?_
  refine R_sal q0 rfl h7 ?_
  show Rm E 0 617 [some (.retAddr 0), vr 0, vr 83, vi x3] [.int (E.2 (x3 + 2).toNatClampNeg), .int (E.2 (x3 + 1).toNatClampNeg), .ref 83, .int c1] N1 _ _
  refine R_call q0 rfl rfl rfl rfl rfl rfl h8 ?_
  show Rm E 0 620 [some (.retAddr 0), vr 0, vr 83, vi x3] [.int c2, .int c1] N2 _ _
  refine R_ict q0 rfl (decide_eq_true h9) ?_
  show Rm E 0 954 [some (.retAddr 0), vr 0, vr 83, vi x3] [] N2 _ _
  refine R_S q0 2 (pc2 := 18) (ls2 := [some (.retAddr 0), vr 0, vr 83, vi (x3 + 5)]) (st2 := []) rfl ?_
  exact k
-- 23- 32=15 call X9_mark call X10_mark 663+
set_option maxRecDepth 16384 in
theorem b0_18_32 {E : env} {M : mem} {rv : Option Value} {M2 : mem} {x3 : Int32} {c1 : Int32} {N1 : mem} {c2 : Int32} {N2 : mem} (h0 : ¬ (((Int32.ofNat E.1) - 5) < x3)) (h1 : inR x3 E.1) (h2 : (E.2 x3.toNatClampNeg &&& 31) = 15) (h3 : inR (x3 + 1) E.1) (h4 : inR (x3 + 2) E.1) (h5 : inR (x3 + 3) E.1) (h6 : Rm E 68 0 [vr 0, vi (E.2 (x3 + 1).toNatClampNeg), vi (E.2 (x3 + 2).toNatClampNeg), vi (E.2 (x3 + 3).toNatClampNeg)] [] M (some (.int c1)) N1) (h7 : inR (x3 + 1) E.1) (h8 : inR (x3 + 2) E.1) (h9 : inR (x3 + 3) E.1) (h10 : Rm E 129 0 [vr 83, vi (E.2 (x3 + 1).toNatClampNeg), vi (E.2 (x3 + 2).toNatClampNeg), vi (E.2 (x3 + 3).toNatClampNeg), vn, vn, vn] [] N1 (some (.int c2)) N2) (h11 : c1 = c2) (k : Rm E 0 18 [some (.retAddr 0), vr 0, vr 83, vi (x3 + 5)] [] N2 rv M2) : Rm E 0 18 [some (.retAddr 0), vr 0, vr 83, vi x3] [] M rv M2 := by
  refine R_S q0 5 (pc2 := 23) (ls2 := [some (.retAddr 0), vr 0, vr 83, vi x3]) (st2 := [.int ((Int32.ofNat E.1) - 5), .int x3]) rfl ?_
  refine R_icf q0 rfl (decide_eq_false h0) ?_
  show Rm E 0 26 [some (.retAddr 0), vr 0, vr 83, vi x3] [] M _ _
  refine R_S q0 2 (pc2 := 28) (ls2 := [some (.retAddr 0), vr 0, vr 83, vi x3]) (st2 := [.int x3, .retAddr 0]) rfl ?_
  refine R_sal q0 rfl h1 ?_
  show Rm E 0 29 [some (.retAddr 0), vr 0, vr 83, vi x3] [.int (E.2 x3.toNatClampNeg)] M _ _
  refine R_S q0 2 (pc2 := 32) (ls2 := [some (.retAddr 0), vr 0, vr 83, vi x3]) (st2 := [.int (E.2 x3.toNatClampNeg &&& 31)]) rfl ?_
  refine R_top h2 ?_
  refine R_S q0 1 (pc2 := 625) (ls2 := [some (.retAddr 0), vr 0, vr 83, vi x3]) (st2 := []) rfl ?_
  refine R_S q0 5 (pc2 := 630) (ls2 := [some (.retAddr 0), vr 0, vr 83, vi x3]) (st2 := [.int (x3 + 1), .retAddr 0, .ref 0]) rfl ?_
  refine R_sal q0 rfl h3 ?_
  show Rm E 0 631 [some (.retAddr 0), vr 0, vr 83, vi x3] [.int (E.2 (x3 + 1).toNatClampNeg), .ref 0] M _ _
  refine R_S q0 4 (pc2 := 635) (ls2 := [some (.retAddr 0), vr 0, vr 83, vi x3]) (st2 := [.int (x3 + 2), .retAddr 0, .int (E.2 (x3 + 1).toNatClampNeg), .ref 0]) rfl ?_
  refine R_sal q0 rfl h4 ?_
  show Rm E 0 636 [some (.retAddr 0), vr 0, vr 83, vi x3] [.int (E.2 (x3 + 2).toNatClampNeg), .int (E.2 (x3 + 1).toNatClampNeg), .ref 0] M _ _
  refine R_S q0 4 (pc2 := 640) (ls2 := [some (.retAddr 0), vr 0, vr 83, vi x3]) (st2 := [.int (x3 + 3), .retAddr 0, .int (E.2 (x3 + 2).toNatClampNeg), .int (E.2 (x3 + 1).toNatClampNeg), .ref 0]) rfl ?_
  refine R_sal q0 rfl h5 ?_
  show Rm E 0 641 [some (.retAddr 0), vr 0, vr 83, vi x3] [.int (E.2 (x3 + 3).toNatClampNeg), .int (E.2 (x3 + 2).toNatClampNeg), .int (E.2 (x3 + 1).toNatClampNeg), .ref 0] M _ _
  refine R_call q0 rfl rfl rfl rfl rfl rfl h6 ?_
  show Rm E 0 644 [some (.retAddr 0), vr 0, vr 83, vi x3] [.int c1] N1 _ _
  refine R_S q0 5 (pc2 := 649) (ls2 := [some (.retAddr 0), vr 0, vr 83, vi x3]) (st2 := [.int (x3 + 1), .retAddr 0, .ref 83, .int c1]) rfl ?_
  refine R_sal q0 rfl h7 ?_
  show Rm E 0 650 [some (.retAddr 0), vr 0, vr 83, vi x3] [.int (E.2 (x3 + 1).toNatClampNeg), .ref 83, .int c1] N1 _ _
  refine R_S q0 4 (pc2 := 654) (ls2 := [some (.retAddr 0), vr 0, vr 83, vi x3]) (st2 := [.int (x3 + 2), .retAddr 0, .int (E.2 (x3 + 1).toNatClampNeg), .ref 83, .int c1]) rfl ?_
  refine R_sal q0 rfl h8 ?_
  show Rm E 0 655 [some (.retAddr 0), vr 0, vr 83, vi x3] [.int (E.2 (x3 + 2).toNatClampNeg), .int (E.2 (x3 + 1).toNatClampNeg), .ref 83, .int c1] N1 _ _
  refine R_S q0 4 (pc2 := 659) (ls2 := [some (.retAddr 0), vr 0, vr 83, vi x3]) (st2 := [.int (x3 + 3), .retAddr 0, .int (E.2 (x3 + 2).toNatClampNeg), .int (E.2 (x3 + 1).toNatClampNeg), .ref 83, .int c1]) rfl ?_
  refine R_sal q0 rfl h9 ?_
  show Rm E 0 660 [some (.retAddr 0), vr 0, vr 83, vi x3] [.int (E.2 (x3 + 3).toNatClampNeg), .int (E.2 (x3 + 2).toNatClampNeg), .int (E.2 (x3 + 1).toNatClampNeg), .ref 83, .int c1] N1 _ _
  refine R_call q0 rfl rfl rfl rfl rfl rfl h10 ?_
  show Rm E 0 663 [some (.retAddr 0), vr 0, vr 83, vi x3] [.int c2, .int c1] N2 _ _
  refine R_ict q0 rfl (decide_eq_true h11) ?_
  show Rm E 0 954 [some (.retAddr 0), vr 0, vr 83, vi x3] [] N2 _ _
  refine R_S q0 2 (pc2 := 18) (ls2 := [some (.retAddr 0), vr 0, vr 83, vi (x3 + 5)]) (st2 := []) rfl ?_
  exact k
-- 23- 32=16 call X9_turn call X10_turn 686+
set_option maxRecDepth 16384 in
theorem b0_18_34 {E : env} {M : mem} {rv : Option Value} {M2 : mem} {x3 : Int32} {c1 : Int32} {N1 : mem} {c2 : Int32} {N2 : mem} (h0 : ¬ (((Int32.ofNat E.1) - 5) < x3)) (h1 : inR x3 E.1) (h2 : (E.2 x3.toNatClampNeg &&& 31) = 16) (h3 : inR (x3 + 1) E.1) (h4 : Rm E 69 0 [vr 0, vi (E.2 (x3 + 1).toNatClampNeg)] [] M (some (.int c1)) N1) (h5 : inR (x3 + 1) E.1) (h6 : Rm E 131 0 [vr 83, vi (E.2 (x3 + 1).toNatClampNeg), vn] [] N1 (some (.int c2)) N2) (h7 : c1 = c2) (k : Rm E 0 18 [some (.retAddr 0), vr 0, vr 83, vi (x3 + 5)] [] N2 rv M2) : Rm E 0 18 [some (.retAddr 0), vr 0, vr 83, vi x3] [] M rv M2 := by
  refine R_S q0 5 (pc2 := 23) (ls2 := [some (.retAddr 0), vr 0, vr 83, vi x3]) (st2 := [.int ((Int32.ofNat E.1) - 5), .int x3]) rfl ?_
  refine R_icf q0 rfl (decide_eq_false h0) ?_
  show Rm E 0 26 [some (.retAddr 0), vr 0, vr 83, vi x3] [] M _ _
  refine R_S q0 2 (pc2 := 28) (ls2 := [some (.retAddr 0), vr 0, vr 83, vi x3]) (st2 := [.int x3, .retAddr 0]) rfl ?_
  refine R_sal q0 rfl h1 ?_
  show Rm E 0 29 [some (.retAddr 0), vr 0, vr 83, vi x3] [.int (E.2 x3.toNatClampNeg)] M _ _
  refine R_S q0 2 (pc2 := 32) (ls2 := [some (.retAddr 0), vr 0, vr 83, vi x3]) (st2 := [.int (E.2 x3.toNatClampNeg &&& 31)]) rfl ?_
  refine R_top h2 ?_
  refine R_S q0 1 (pc2 := 668) (ls2 := [some (.retAddr 0), vr 0, vr 83, vi x3]) (st2 := []) rfl ?_
  refine R_S q0 5 (pc2 := 673) (ls2 := [some (.retAddr 0), vr 0, vr 83, vi x3]) (st2 := [.int (x3 + 1), .retAddr 0, .ref 0]) rfl ?_
  refine R_sal q0 rfl h3 ?_
  show Rm E 0 674 [some (.retAddr 0), vr 0, vr 83, vi x3] [.int (E.2 (x3 + 1).toNatClampNeg), .ref 0] M _ _
  refine R_call q0 rfl rfl rfl rfl rfl rfl h4 ?_
  show Rm E 0 677 [some (.retAddr 0), vr 0, vr 83, vi x3] [.int c1] N1 _ _
  refine R_S q0 5 (pc2 := 682) (ls2 := [some (.retAddr 0), vr 0, vr 83, vi x3]) (st2 := [.int (x3 + 1), .retAddr 0, .ref 83, .int c1]) rfl ?_
  refine R_sal q0 rfl h5 ?_
  show Rm E 0 683 [some (.retAddr 0), vr 0, vr 83, vi x3] [.int (E.2 (x3 + 1).toNatClampNeg), .ref 83, .int c1] N1 _ _
  refine R_call q0 rfl rfl rfl rfl rfl rfl h6 ?_
  show Rm E 0 686 [some (.retAddr 0), vr 0, vr 83, vi x3] [.int c2, .int c1] N2 _ _
  refine R_ict q0 rfl (decide_eq_true h7) ?_
  show Rm E 0 954 [some (.retAddr 0), vr 0, vr 83, vi x3] [] N2 _ _
  refine R_S q0 2 (pc2 := 18) (ls2 := [some (.retAddr 0), vr 0, vr 83, vi (x3 + 5)]) (st2 := []) rfl ?_
  exact k
-- 23- 32=17 call X9_marked call X10_marked 709+
set_option maxRecDepth 16384 in
theorem b0_18_36 {E : env} {M : mem} {rv : Option Value} {M2 : mem} {x3 : Int32} {c1 : Int32} {N1 : mem} {c2 : Int32} {N2 : mem} (h0 : ¬ (((Int32.ofNat E.1) - 5) < x3)) (h1 : inR x3 E.1) (h2 : (E.2 x3.toNatClampNeg &&& 31) = 17) (h3 : inR (x3 + 1) E.1) (h4 : Rm E 70 0 [vr 0, vi (E.2 (x3 + 1).toNatClampNeg)] [] M (some (.int c1)) N1) (h5 : inR (x3 + 1) E.1) (h6 : Rm E 132 0 [vr 83, vi (E.2 (x3 + 1).toNatClampNeg), vn, vn] [] N1 (some (.int c2)) N2) (h7 : c1 = c2) (k : Rm E 0 18 [some (.retAddr 0), vr 0, vr 83, vi (x3 + 5)] [] N2 rv M2) : Rm E 0 18 [some (.retAddr 0), vr 0, vr 83, vi x3] [] M rv M2 := by
  refine R_S q0 5 (pc2 := 23) (ls2 := [some (.retAddr 0), vr 0, vr 83, vi x3]) (st2 := [.int ((Int32.ofNat E.1) - 5), .int x3]) rfl ?_
  refine R_icf q0 rfl (decide_eq_false h0) ?_
  show Rm E 0 26 [some (.retAddr 0), vr 0, vr 83, vi x3] [] M _ _
  refine R_S q0 2 (pc2 := 28) (ls2 := [some (.retAddr 0), vr 0, vr 83, vi x3]) (st2 := [.int x3, .retAddr 0]) rfl ?_
  refine R_sal q0 rfl h1 ?_
  show Rm E 0 29 [some (.retAddr 0), vr 0, vr 83, vi x3] [.int (E.2 x3.toNatClampNeg)] M _ _
  refine R_S q0 2 (pc2 := 32) (ls2 := [some (.retAddr 0), vr 0, vr 83, vi x3]) (st2 := [.int (E.2 x3.toNatClampNeg &&& 31)]) rfl ?_
  refine R_top h2 ?_
  refine R_S q0 1 (pc2 := 691) (ls2 := [some (.retAddr 0), vr 0, vr 83, vi x3]) (st2 := []) rfl ?_
  refine R_S q0 5 (pc2 := 696) (ls2 := [some (.retAddr 0), vr 0, vr 83, vi x3]) (st2 := [.int (x3 + 1), .retAddr 0, .ref 0]) rfl ?_
  refine R_sal q0 rfl h3 ?_
  show Rm E 0 697 [some (.retAddr 0), vr 0, vr 83, vi x3] [.int (E.2 (x3 + 1).toNatClampNeg), .ref 0] M _ _
  refine R_call q0 rfl rfl rfl rfl rfl rfl h4 ?_
  show Rm E 0 700 [some (.retAddr 0), vr 0, vr 83, vi x3] [.int c1] N1 _ _
  refine R_S q0 5 (pc2 := 705) (ls2 := [some (.retAddr 0), vr 0, vr 83, vi x3]) (st2 := [.int (x3 + 1), .retAddr 0, .ref 83, .int c1]) rfl ?_
  refine R_sal q0 rfl h5 ?_
  show Rm E 0 706 [some (.retAddr 0), vr 0, vr 83, vi x3] [.int (E.2 (x3 + 1).toNatClampNeg), .ref 83, .int c1] N1 _ _
  refine R_call q0 rfl rfl rfl rfl rfl rfl h6 ?_
  show Rm E 0 709 [some (.retAddr 0), vr 0, vr 83, vi x3] [.int c2, .int c1] N2 _ _
  refine R_ict q0 rfl (decide_eq_true h7) ?_
  show Rm E 0 954 [some (.retAddr 0), vr 0, vr 83, vi x3] [] N2 _ _
  refine R_S q0 2 (pc2 := 18) (ls2 := [some (.retAddr 0), vr 0, vr 83, vi (x3 + 5)]) (st2 := []) rfl ?_
  exact k
-- 23- 32=18 call X9_nearest call X10_nearest 732+
set_option maxRecDepth 16384 in
theorem b0_18_38 {E : env} {M : mem} {rv : Option Value} {M2 : mem} {x3 : Int32} {c1 : Int32} {N1 : mem} {c2 : Int32} {N2 : mem} (h0 : ¬ (((Int32.ofNat E.1) - 5) < x3)) (h1 : inR x3 E.1) (h2 : (E.2 x3.toNatClampNeg &&& 31) = 18) (h3 : inR (x3 + 1) E.1) (h4 : Rm E 71 0 [vr 0, vi (E.2 (x3 + 1).toNatClampNeg)] [] M (some (.int c1)) N1) (h5 : inR (x3 + 1) E.1) (h6 : Rm E 133 0 [vr 83, vi (E.2 (x3 + 1).toNatClampNeg), vn, vn, vn] [] N1 (some (.int c2)) N2) (h7 : c1 = c2) (k : Rm E 0 18 [some (.retAddr 0), vr 0, vr 83, vi (x3 + 5)] [] N2 rv M2) : Rm E 0 18 [some (.retAddr 0), vr 0, vr 83, vi x3] [] M rv M2 := by
  refine R_S q0 5 (pc2 := 23) (ls2 := [some (.retAddr 0), vr 0, vr 83, vi x3]) (st2 := [.int ((Int32.ofNat E.1) - 5), .int x3]) rfl ?_
  refine R_icf q0 rfl (decide_eq_false h0) ?_
  show Rm E 0 26 [some (.retAddr 0), vr 0, vr 83, vi x3] [] M _ _
  refine R_S q0 2 (pc2 := 28) (ls2 := [some (.retAddr 0), vr 0, vr 83, vi x3]) (st2 := [.int x3, .retAddr 0]) rfl ?_
  refine R_sal q0 rfl h1 ?_
  show Rm E 0 29 [some (.retAddr 0), vr 0, vr 83, vi x3] [.int (E.2 x3.toNatClampNeg)] M _ _
  refine R_S q0 2 (pc2 := 32) (ls2 := [some (.retAddr 0), vr 0, vr 83, vi x3]) (st2 := [.int (E.2 x3.toNatClampNeg &&& 31)]) rfl ?_
  refine R_top h2 ?_
  refine R_S q0 1 (pc2 := 714) (ls2 := [some (.retAddr 0), vr 0, vr 83, vi x3]) (st2 := []) rfl ?_
  refine R_S q0 5 (pc2 := 719) (ls2 := [some (.retAddr 0), vr 0, vr 83, vi x3]) (st2 := [.int (x3 + 1), .retAddr 0, .ref 0]) rfl ?_
  refine R_sal q0 rfl h3 ?_
  show Rm E 0 720 [some (.retAddr 0), vr 0, vr 83, vi x3] [.int (E.2 (x3 + 1).toNatClampNeg), .ref 0] M _ _
  refine R_call q0 rfl rfl rfl rfl rfl rfl h4 ?_
  show Rm E 0 723 [some (.retAddr 0), vr 0, vr 83, vi x3] [.int c1] N1 _ _
  refine R_S q0 5 (pc2 := 728) (ls2 := [some (.retAddr 0), vr 0, vr 83, vi x3]) (st2 := [.int (x3 + 1), .retAddr 0, .ref 83, .int c1]) rfl ?_
  refine R_sal q0 rfl h5 ?_
  show Rm E 0 729 [some (.retAddr 0), vr 0, vr 83, vi x3] [.int (E.2 (x3 + 1).toNatClampNeg), .ref 83, .int c1] N1 _ _
  refine R_call q0 rfl rfl rfl rfl rfl rfl h6 ?_
  show Rm E 0 732 [some (.retAddr 0), vr 0, vr 83, vi x3] [.int c2, .int c1] N2 _ _
  refine R_ict q0 rfl (decide_eq_true h7) ?_
  show Rm E 0 954 [some (.retAddr 0), vr 0, vr 83, vi x3] [] N2 _ _
  refine R_S q0 2 (pc2 := 18) (ls2 := [some (.retAddr 0), vr 0, vr 83, vi (x3 + 5)]) (st2 := []) rfl ?_
  exact k
-- 23- 32=19 call X9_watch call X10_watch 775+
set_option maxRecDepth 16384 in
theorem b0_18_40 {E : env} {M : mem} {rv : Option Value} {M2 : mem} {x3 : Int32} {c1 : Int32} {N1 : mem} {c2 : Int32} {N2 : mem} (h0 : ¬ (((Int32.ofNat E.1) - 5) < x3)) (h1 : inR x3 E.1) (h2 : (E.2 x3.toNatClampNeg &&& 31) = 19) (h3 : inR (x3 + 1) E.1) (h4 : inR (x3 + 2) E.1) (h5 : inR (x3 + 3) E.1) (h6 : Rm E 72 0 [vr 0, vi (E.2 (x3 + 1).toNatClampNeg), vi (E.2 (x3 + 2).toNatClampNeg), vi (E.2 (x3 + 3).toNatClampNeg)] [] M (some (.int c1)) N1) (h7 : inR (x3 + 1) E.1) (h8 : inR (x3 + 2) E.1) (h9 : inR (x3 + 3) E.1) (h10 : Rm E 134 0 [vr 83, vi (E.2 (x3 + 1).toNatClampNeg), vi (E.2 (x3 + 2).toNatClampNeg), vi (E.2 (x3 + 3).toNatClampNeg)] [] N1 (some (.int c2)) N2) (h11 : c1 = c2) (k : Rm E 0 18 [some (.retAddr 0), vr 0, vr 83, vi (x3 + 5)] [] N2 rv M2) : Rm E 0 18 [some (.retAddr 0), vr 0, vr 83, vi x3] [] M rv M2 := by
  refine R_S q0 5 (pc2 := 23) (ls2 := [some (.retAddr 0), vr 0, vr 83, vi x3]) (st2 := [.int ((Int32.ofNat E.1) - 5), .int x3]) rfl ?_
  refine R_icf q0 rfl (decide_eq_false h0) ?_
  show Rm E 0 26 [some (.retAddr 0), vr 0, vr 83, vi x3] [] M _ _
  refine R_S q0 2 (pc2 := 28) (ls2 := [some (.retAddr 0), vr 0, vr 83, vi x3]) (st2 := [.int x3, .retAddr 0]) rfl ?_
  refine R_sal q0 rfl h1 ?_
  show Rm E 0 29 [some (.retAddr 0), vr 0, vr 83, vi x3] [.int (E.2 x3.toNatClampNeg)] M _ _
  refine R_S q0 2 (pc2 := 32) (ls2 := [some (.retAddr 0), vr 0, vr 83, vi x3]) (st2 := [.int (E.2 x3.toNatClampNeg &&& 31)]) rfl ?_
  refine R_top h2 ?_
  refine R_S q0 1 (pc2 := 737) (ls2 := [some (.retAddr 0), vr 0, vr 83, vi x3]) (st2 := []) rfl ?_
  refine R_S q0 5 (pc2 := 742) (ls2 := [some (.retAddr 0), vr 0, vr 83, vi x3]) (st2 := [.int (x3 + 1), .retAddr 0, .ref 0]) rfl ?_
  refine R_sal q0 rfl h3 ?_
  show Rm E 0 743 [some (.retAddr 0), vr 0, vr 83, vi x3] [.int (E.2 (x3 + 1).toNatClampNeg), .ref 0] M _ _
  refine R_S q0 4 (pc2 := 747) (ls2 := [some (.retAddr 0), vr 0, vr 83, vi x3]) (st2 := [.int (x3 + 2), .retAddr 0, .int (E.2 (x3 + 1).toNatClampNeg), .ref 0]) rfl ?_
  refine R_sal q0 rfl h4 ?_
  show Rm E 0 748 [some (.retAddr 0), vr 0, vr 83, vi x3] [.int (E.2 (x3 + 2).toNatClampNeg), .int (E.2 (x3 + 1).toNatClampNeg), .ref 0] M _ _
  refine R_S q0 4 (pc2 := 752) (ls2 := [some (.retAddr 0), vr 0, vr 83, vi x3]) (st2 := [.int (x3 + 3), .retAddr 0, .int (E.2 (x3 + 2).toNatClampNeg), .int (E.2 (x3 + 1).toNatClampNeg), .ref 0]) rfl ?_
  refine R_sal q0 rfl h5 ?_
  show Rm E 0 753 [some (.retAddr 0), vr 0, vr 83, vi x3] [.int (E.2 (x3 + 3).toNatClampNeg), .int (E.2 (x3 + 2).toNatClampNeg), .int (E.2 (x3 + 1).toNatClampNeg), .ref 0] M _ _
  refine R_call q0 rfl rfl rfl rfl rfl rfl h6 ?_
  show Rm E 0 756 [some (.retAddr 0), vr 0, vr 83, vi x3] [.int c1] N1 _ _
  refine R_S q0 5 (pc2 := 761) (ls2 := [some (.retAddr 0), vr 0, vr 83, vi x3]) (st2 := [.int (x3 + 1), .retAddr 0, .ref 83, .int c1]) rfl ?_
  refine R_sal q0 rfl h7 ?_
  show Rm E 0 762 [some (.retAddr 0), vr 0, vr 83, vi x3] [.int (E.2 (x3 + 1).toNatClampNeg), .ref 83, .int c1] N1 _ _
  refine R_S q0 4 (pc2 := 766) (ls2 := [some (.retAddr 0), vr 0, vr 83, vi x3]) (st2 := [.int (x3 + 2), .retAddr 0, .int (E.2 (x3 + 1).toNatClampNeg), .ref 83, .int c1]) rfl ?_
  refine R_sal q0 rfl h8 ?_
  show Rm E 0 767 [some (.retAddr 0), vr 0, vr 83, vi x3] [.int (E.2 (x3 + 2).toNatClampNeg), .int (E.2 (x3 + 1).toNatClampNeg), .ref 83, .int c1] N1 _ _
  refine R_S q0 4 (pc2 := 771) (ls2 := [some (.retAddr 0), vr 0, vr 83, vi x3]) (st2 := [.int (x3 + 3), .retAddr 0, .int (E.2 (x3 + 2).toNatClampNeg), .int (E.2 (x3 + 1).toNatClampNeg), .ref 83, .int c1]) rfl ?_
  refine R_sal q0 rfl h9 ?_
  show Rm E 0 772 [some (.retAddr 0), vr 0, vr 83, vi x3] [.int (E.2 (x3 + 3).toNatClampNeg), .int (E.2 (x3 + 2).toNatClampNeg), .int (E.2 (x3 + 1).toNatClampNeg), .ref 83, .int c1] N1 _ _
  refine R_call q0 rfl rfl rfl rfl rfl rfl h10 ?_
  show Rm E 0 775 [some (.retAddr 0), vr 0, vr 83, vi x3] [.int c2, .int c1] N2 _ _
  refine R_ict q0 rfl (decide_eq_true h11) ?_
  show Rm E 0 954 [some (.retAddr 0), vr 0, vr 83, vi x3] [] N2 _ _
  refine R_S q0 2 (pc2 := 18) (ls2 := [some (.retAddr 0), vr 0, vr 83, vi (x3 + 5)]) (st2 := []) rfl ?_
  exact k
-- 23- 32=20 call X9_settle call X10_settle 788+
set_option maxRecDepth 16384 in
theorem b0_18_42 {E : env} {M : mem} {rv : Option Value} {M2 : mem} {x3 : Int32} {c1 : Int32} {N1 : mem} {c2 : Int32} {N2 : mem} (h0 : ¬ (((Int32.ofNat E.1) - 5) < x3)) (h1 : inR x3 E.1) (h2 : (E.2 x3.toNatClampNeg &&& 31) = 20) (h3 : Rm E 73 0 [vr 0] [] M (some (.int c1)) N1) (h4 : Rm E 135 0 [vr 83, vn, vn, vn] [] N1 (some (.int c2)) N2) (h5 : c1 = c2) (k : Rm E 0 18 [some (.retAddr 0), vr 0, vr 83, vi (x3 + 5)] [] N2 rv M2) : Rm E 0 18 [some (.retAddr 0), vr 0, vr 83, vi x3] [] M rv M2 := by
  refine R_S q0 5 (pc2 := 23) (ls2 := [some (.retAddr 0), vr 0, vr 83, vi x3]) (st2 := [.int ((Int32.ofNat E.1) - 5), .int x3]) rfl ?_
  refine R_icf q0 rfl (decide_eq_false h0) ?_
  show Rm E 0 26 [some (.retAddr 0), vr 0, vr 83, vi x3] [] M _ _
  refine R_S q0 2 (pc2 := 28) (ls2 := [some (.retAddr 0), vr 0, vr 83, vi x3]) (st2 := [.int x3, .retAddr 0]) rfl ?_
  refine R_sal q0 rfl h1 ?_
  show Rm E 0 29 [some (.retAddr 0), vr 0, vr 83, vi x3] [.int (E.2 x3.toNatClampNeg)] M _ _
  refine R_S q0 2 (pc2 := 32) (ls2 := [some (.retAddr 0), vr 0, vr 83, vi x3]) (st2 := [.int (E.2 x3.toNatClampNeg &&& 31)]) rfl ?_
  refine R_top h2 ?_
  refine R_S q0 1 (pc2 := 780) (ls2 := [some (.retAddr 0), vr 0, vr 83, vi x3]) (st2 := []) rfl ?_
  refine R_S q0 1 (pc2 := 781) (ls2 := [some (.retAddr 0), vr 0, vr 83, vi x3]) (st2 := [.ref 0]) rfl ?_
  refine R_call q0 rfl rfl rfl rfl rfl rfl h3 ?_
  show Rm E 0 784 [some (.retAddr 0), vr 0, vr 83, vi x3] [.int c1] N1 _ _
  refine R_S q0 1 (pc2 := 785) (ls2 := [some (.retAddr 0), vr 0, vr 83, vi x3]) (st2 := [.ref 83, .int c1]) rfl ?_
  refine R_call q0 rfl rfl rfl rfl rfl rfl h4 ?_
  show Rm E 0 788 [some (.retAddr 0), vr 0, vr 83, vi x3] [.int c2, .int c1] N2 _ _
  refine R_ict q0 rfl (decide_eq_true h5) ?_
  show Rm E 0 954 [some (.retAddr 0), vr 0, vr 83, vi x3] [] N2 _ _
  refine R_S q0 2 (pc2 := 18) (ls2 := [some (.retAddr 0), vr 0, vr 83, vi (x3 + 5)]) (st2 := []) rfl ?_
  exact k
-- 23- 32=21 call X9_waits call X10_waits 811+
set_option maxRecDepth 16384 in
theorem b0_18_44 {E : env} {M : mem} {rv : Option Value} {M2 : mem} {x3 : Int32} {c1 : Int32} {N1 : mem} {c2 : Int32} {N2 : mem} (h0 : ¬ (((Int32.ofNat E.1) - 5) < x3)) (h1 : inR x3 E.1) (h2 : (E.2 x3.toNatClampNeg &&& 31) = 21) (h3 : inR (x3 + 1) E.1) (h4 : Rm E 74 0 [vr 0, vi (E.2 (x3 + 1).toNatClampNeg)] [] M (some (.int c1)) N1) (h5 : inR (x3 + 1) E.1) (h6 : Rm E 136 0 [vr 83, vi (E.2 (x3 + 1).toNatClampNeg)] [] N1 (some (.int c2)) N2) (h7 : c1 = c2) (k : Rm E 0 18 [some (.retAddr 0), vr 0, vr 83, vi (x3 + 5)] [] N2 rv M2) : Rm E 0 18 [some (.retAddr 0), vr 0, vr 83, vi x3] [] M rv M2 := by
  refine R_S q0 5 (pc2 := 23) (ls2 := [some (.retAddr 0), vr 0, vr 83, vi x3]) (st2 := [.int ((Int32.ofNat E.1) - 5), .int x3]) rfl ?_
  refine R_icf q0 rfl (decide_eq_false h0) ?_
  show Rm E 0 26 [some (.retAddr 0), vr 0, vr 83, vi x3] [] M _ _
  refine R_S q0 2 (pc2 := 28) (ls2 := [some (.retAddr 0), vr 0, vr 83, vi x3]) (st2 := [.int x3, .retAddr 0]) rfl ?_
  refine R_sal q0 rfl h1 ?_
  show Rm E 0 29 [some (.retAddr 0), vr 0, vr 83, vi x3] [.int (E.2 x3.toNatClampNeg)] M _ _
  refine R_S q0 2 (pc2 := 32) (ls2 := [some (.retAddr 0), vr 0, vr 83, vi x3]) (st2 := [.int (E.2 x3.toNatClampNeg &&& 31)]) rfl ?_
  refine R_top h2 ?_
  refine R_S q0 1 (pc2 := 793) (ls2 := [some (.retAddr 0), vr 0, vr 83, vi x3]) (st2 := []) rfl ?_
  refine R_S q0 5 (pc2 := 798) (ls2 := [some (.retAddr 0), vr 0, vr 83, vi x3]) (st2 := [.int (x3 + 1), .retAddr 0, .ref 0]) rfl ?_
  refine R_sal q0 rfl h3 ?_
  show Rm E 0 799 [some (.retAddr 0), vr 0, vr 83, vi x3] [.int (E.2 (x3 + 1).toNatClampNeg), .ref 0] M _ _
  refine R_call q0 rfl rfl rfl rfl rfl rfl h4 ?_
  show Rm E 0 802 [some (.retAddr 0), vr 0, vr 83, vi x3] [.int c1] N1 _ _
  refine R_S q0 5 (pc2 := 807) (ls2 := [some (.retAddr 0), vr 0, vr 83, vi x3]) (st2 := [.int (x3 + 1), .retAddr 0, .ref 83, .int c1]) rfl ?_
  refine R_sal q0 rfl h5 ?_
  show Rm E 0 808 [some (.retAddr 0), vr 0, vr 83, vi x3] [.int (E.2 (x3 + 1).toNatClampNeg), .ref 83, .int c1] N1 _ _
  refine R_call q0 rfl rfl rfl rfl rfl rfl h6 ?_
  show Rm E 0 811 [some (.retAddr 0), vr 0, vr 83, vi x3] [.int c2, .int c1] N2 _ _
  refine R_ict q0 rfl (decide_eq_true h7) ?_
  show Rm E 0 954 [some (.retAddr 0), vr 0, vr 83, vi x3] [] N2 _ _
  refine R_S q0 2 (pc2 := 18) (ls2 := [some (.retAddr 0), vr 0, vr 83, vi (x3 + 5)]) (st2 := []) rfl ?_
  exact k
-- 23- 32=22 call X9_richest call X10_richest 834+
set_option maxRecDepth 16384 in
theorem b0_18_46 {E : env} {M : mem} {rv : Option Value} {M2 : mem} {x3 : Int32} {c1 : Int32} {N1 : mem} {c2 : Int32} {N2 : mem} (h0 : ¬ (((Int32.ofNat E.1) - 5) < x3)) (h1 : inR x3 E.1) (h2 : (E.2 x3.toNatClampNeg &&& 31) = 22) (h3 : inR (x3 + 1) E.1) (h4 : Rm E 75 0 [vr 0, vi (E.2 (x3 + 1).toNatClampNeg)] [] M (some (.int c1)) N1) (h5 : inR (x3 + 1) E.1) (h6 : Rm E 138 0 [vr 83, vi (E.2 (x3 + 1).toNatClampNeg)] [] N1 (some (.int c2)) N2) (h7 : c1 = c2) (k : Rm E 0 18 [some (.retAddr 0), vr 0, vr 83, vi (x3 + 5)] [] N2 rv M2) : Rm E 0 18 [some (.retAddr 0), vr 0, vr 83, vi x3] [] M rv M2 := by
  refine R_S q0 5 (pc2 := 23) (ls2 := [some (.retAddr 0), vr 0, vr 83, vi x3]) (st2 := [.int ((Int32.ofNat E.1) - 5), .int x3]) rfl ?_
  refine R_icf q0 rfl (decide_eq_false h0) ?_
  show Rm E 0 26 [some (.retAddr 0), vr 0, vr 83, vi x3] [] M _ _
  refine R_S q0 2 (pc2 := 28) (ls2 := [some (.retAddr 0), vr 0, vr 83, vi x3]) (st2 := [.int x3, .retAddr 0]) rfl ?_
  refine R_sal q0 rfl h1 ?_
  show Rm E 0 29 [some (.retAddr 0), vr 0, vr 83, vi x3] [.int (E.2 x3.toNatClampNeg)] M _ _
  refine R_S q0 2 (pc2 := 32) (ls2 := [some (.retAddr 0), vr 0, vr 83, vi x3]) (st2 := [.int (E.2 x3.toNatClampNeg &&& 31)]) rfl ?_
  refine R_top h2 ?_
  refine R_S q0 1 (pc2 := 816) (ls2 := [some (.retAddr 0), vr 0, vr 83, vi x3]) (st2 := []) rfl ?_
  refine R_S q0 5 (pc2 := 821) (ls2 := [some (.retAddr 0), vr 0, vr 83, vi x3]) (st2 := [.int (x3 + 1), .retAddr 0, .ref 0]) rfl ?_
  refine R_sal q0 rfl h3 ?_
  show Rm E 0 822 [some (.retAddr 0), vr 0, vr 83, vi x3] [.int (E.2 (x3 + 1).toNatClampNeg), .ref 0] M _ _
  refine R_call q0 rfl rfl rfl rfl rfl rfl h4 ?_
  show Rm E 0 825 [some (.retAddr 0), vr 0, vr 83, vi x3] [.int c1] N1 _ _
  refine R_S q0 5 (pc2 := 830) (ls2 := [some (.retAddr 0), vr 0, vr 83, vi x3]) (st2 := [.int (x3 + 1), .retAddr 0, .ref 83, .int c1]) rfl ?_
  refine R_sal q0 rfl h5 ?_
  show Rm E 0 831 [some (.retAddr 0), vr 0, vr 83, vi x3] [.int (E.2 (x3 + 1).toNatClampNeg), .ref 83, .int c1] N1 _ _
  refine R_call q0 rfl rfl rfl rfl rfl rfl h6 ?_
  show Rm E 0 834 [some (.retAddr 0), vr 0, vr 83, vi x3] [.int c2, .int c1] N2 _ _
  refine R_ict q0 rfl (decide_eq_true h7) ?_
  show Rm E 0 954 [some (.retAddr 0), vr 0, vr 83, vi x3] [] N2 _ _
  refine R_S q0 2 (pc2 := 18) (ls2 := [some (.retAddr 0), vr 0, vr 83, vi (x3 + 5)]) (st2 := []) rfl ?_
  exact k
-- 23- 32=23 call X9_longest call X10_longest 857+
set_option maxRecDepth 16384 in
theorem b0_18_48 {E : env} {M : mem} {rv : Option Value} {M2 : mem} {x3 : Int32} {c1 : Int32} {N1 : mem} {c2 : Int32} {N2 : mem} (h0 : ¬ (((Int32.ofNat E.1) - 5) < x3)) (h1 : inR x3 E.1) (h2 : (E.2 x3.toNatClampNeg &&& 31) = 23) (h3 : inR (x3 + 1) E.1) (h4 : Rm E 76 0 [vr 0, vi (E.2 (x3 + 1).toNatClampNeg)] [] M (some (.int c1)) N1) (h5 : inR (x3 + 1) E.1) (h6 : Rm E 139 0 [vr 83, vi (E.2 (x3 + 1).toNatClampNeg)] [] N1 (some (.int c2)) N2) (h7 : c1 = c2) (k : Rm E 0 18 [some (.retAddr 0), vr 0, vr 83, vi (x3 + 5)] [] N2 rv M2) : Rm E 0 18 [some (.retAddr 0), vr 0, vr 83, vi x3] [] M rv M2 := by
  refine R_S q0 5 (pc2 := 23) (ls2 := [some (.retAddr 0), vr 0, vr 83, vi x3]) (st2 := [.int ((Int32.ofNat E.1) - 5), .int x3]) rfl ?_
  refine R_icf q0 rfl (decide_eq_false h0) ?_
  show Rm E 0 26 [some (.retAddr 0), vr 0, vr 83, vi x3] [] M _ _
  refine R_S q0 2 (pc2 := 28) (ls2 := [some (.retAddr 0), vr 0, vr 83, vi x3]) (st2 := [.int x3, .retAddr 0]) rfl ?_
  refine R_sal q0 rfl h1 ?_
  show Rm E 0 29 [some (.retAddr 0), vr 0, vr 83, vi x3] [.int (E.2 x3.toNatClampNeg)] M _ _
  refine R_S q0 2 (pc2 := 32) (ls2 := [some (.retAddr 0), vr 0, vr 83, vi x3]) (st2 := [.int (E.2 x3.toNatClampNeg &&& 31)]) rfl ?_
  refine R_top h2 ?_
  refine R_S q0 1 (pc2 := 839) (ls2 := [some (.retAddr 0), vr 0, vr 83, vi x3]) (st2 := []) rfl ?_
  refine R_S q0 5 (pc2 := 844) (ls2 := [some (.retAddr 0), vr 0, vr 83, vi x3]) (st2 := [.int (x3 + 1), .retAddr 0, .ref 0]) rfl ?_
  refine R_sal q0 rfl h3 ?_
  show Rm E 0 845 [some (.retAddr 0), vr 0, vr 83, vi x3] [.int (E.2 (x3 + 1).toNatClampNeg), .ref 0] M _ _
  refine R_call q0 rfl rfl rfl rfl rfl rfl h4 ?_
  show Rm E 0 848 [some (.retAddr 0), vr 0, vr 83, vi x3] [.int c1] N1 _ _
  refine R_S q0 5 (pc2 := 853) (ls2 := [some (.retAddr 0), vr 0, vr 83, vi x3]) (st2 := [.int (x3 + 1), .retAddr 0, .ref 83, .int c1]) rfl ?_
  refine R_sal q0 rfl h5 ?_
  show Rm E 0 854 [some (.retAddr 0), vr 0, vr 83, vi x3] [.int (E.2 (x3 + 1).toNatClampNeg), .ref 83, .int c1] N1 _ _
  refine R_call q0 rfl rfl rfl rfl rfl rfl h6 ?_
  show Rm E 0 857 [some (.retAddr 0), vr 0, vr 83, vi x3] [.int c2, .int c1] N2 _ _
  refine R_ict q0 rfl (decide_eq_true h7) ?_
  show Rm E 0 954 [some (.retAddr 0), vr 0, vr 83, vi x3] [] N2 _ _
  refine R_S q0 2 (pc2 := 18) (ls2 := [some (.retAddr 0), vr 0, vr 83, vi (x3 + 5)]) (st2 := []) rfl ?_
  exact k
-- 23- 32=24 call X9_day call X10_day 900+
set_option maxRecDepth 16384 in
theorem b0_18_50 {E : env} {M : mem} {rv : Option Value} {M2 : mem} {x3 : Int32} {c1 : Int32} {N1 : mem} {c2 : Int32} {N2 : mem} (h0 : ¬ (((Int32.ofNat E.1) - 5) < x3)) (h1 : inR x3 E.1) (h2 : (E.2 x3.toNatClampNeg &&& 31) = 24) (h3 : inR (x3 + 1) E.1) (h4 : inR (x3 + 2) E.1) (h5 : inR (x3 + 3) E.1) (h6 : Rm E 77 0 [vr 0, vi (E.2 (x3 + 1).toNatClampNeg), vi (E.2 (x3 + 2).toNatClampNeg), vi (E.2 (x3 + 3).toNatClampNeg), vn] [] M (some (.int c1)) N1) (h7 : inR (x3 + 1) E.1) (h8 : inR (x3 + 2) E.1) (h9 : inR (x3 + 3) E.1) (h10 : Rm E 140 0 [vr 83, vi (E.2 (x3 + 1).toNatClampNeg), vi (E.2 (x3 + 2).toNatClampNeg), vi (E.2 (x3 + 3).toNatClampNeg), vn, vn, vn, vn, vn] [] N1 (some (.int c2)) N2) (h11 : c1 = c2) (k : Rm E 0 18 [some (.retAddr 0), vr 0, vr 83, vi (x3 + 5)] [] N2 rv M2) : Rm E 0 18 [some (.retAddr 0), vr 0, vr 83, vi x3] [] M rv M2 := by
  refine R_S q0 5 (pc2 := 23) (ls2 := [some (.retAddr 0), vr 0, vr 83, vi x3]) (st2 := [.int ((Int32.ofNat E.1) - 5), .int x3]) rfl ?_
  refine R_icf q0 rfl (decide_eq_false h0) ?_
  show Rm E 0 26 [some (.retAddr 0), vr 0, vr 83, vi x3] [] M _ _
  refine R_S q0 2 (pc2 := 28) (ls2 := [some (.retAddr 0), vr 0, vr 83, vi x3]) (st2 := [.int x3, .retAddr 0]) rfl ?_
  refine R_sal q0 rfl h1 ?_
  show Rm E 0 29 [some (.retAddr 0), vr 0, vr 83, vi x3] [.int (E.2 x3.toNatClampNeg)] M _ _
  refine R_S q0 2 (pc2 := 32) (ls2 := [some (.retAddr 0), vr 0, vr 83, vi x3]) (st2 := [.int (E.2 x3.toNatClampNeg &&& 31)]) rfl ?_
  refine R_top h2 ?_
  refine R_S q0 1 (pc2 := 862) (ls2 := [some (.retAddr 0), vr 0, vr 83, vi x3]) (st2 := []) rfl ?_
  refine R_S q0 5 (pc2 := 867) (ls2 := [some (.retAddr 0), vr 0, vr 83, vi x3]) (st2 := [.int (x3 + 1), .retAddr 0, .ref 0]) rfl ?_
  refine R_sal q0 rfl h3 ?_
  show Rm E 0 868 [some (.retAddr 0), vr 0, vr 83, vi x3] [.int (E.2 (x3 + 1).toNatClampNeg), .ref 0] M _ _
  refine R_S q0 4 (pc2 := 872) (ls2 := [some (.retAddr 0), vr 0, vr 83, vi x3]) (st2 := [.int (x3 + 2), .retAddr 0, .int (E.2 (x3 + 1).toNatClampNeg), .ref 0]) rfl ?_
  refine R_sal q0 rfl h4 ?_
  show Rm E 0 873 [some (.retAddr 0), vr 0, vr 83, vi x3] [.int (E.2 (x3 + 2).toNatClampNeg), .int (E.2 (x3 + 1).toNatClampNeg), .ref 0] M _ _
  refine R_S q0 4 (pc2 := 877) (ls2 := [some (.retAddr 0), vr 0, vr 83, vi x3]) (st2 := [.int (x3 + 3), .retAddr 0, .int (E.2 (x3 + 2).toNatClampNeg), .int (E.2 (x3 + 1).toNatClampNeg), .ref 0]) rfl ?_
  refine R_sal q0 rfl h5 ?_
  show Rm E 0 878 [some (.retAddr 0), vr 0, vr 83, vi x3] [.int (E.2 (x3 + 3).toNatClampNeg), .int (E.2 (x3 + 2).toNatClampNeg), .int (E.2 (x3 + 1).toNatClampNeg), .ref 0] M _ _
  refine R_call q0 rfl rfl rfl rfl rfl rfl h6 ?_
  show Rm E 0 881 [some (.retAddr 0), vr 0, vr 83, vi x3] [.int c1] N1 _ _
  refine R_S q0 5 (pc2 := 886) (ls2 := [some (.retAddr 0), vr 0, vr 83, vi x3]) (st2 := [.int (x3 + 1), .retAddr 0, .ref 83, .int c1]) rfl ?_
  refine R_sal q0 rfl h7 ?_
  show Rm E 0 887 [some (.retAddr 0), vr 0, vr 83, vi x3] [.int (E.2 (x3 + 1).toNatClampNeg), .ref 83, .int c1] N1 _ _
  refine R_S q0 4 (pc2 := 891) (ls2 := [some (.retAddr 0), vr 0, vr 83, vi x3]) (st2 := [.int (x3 + 2), .retAddr 0, .int (E.2 (x3 + 1).toNatClampNeg), .ref 83, .int c1]) rfl ?_
  refine R_sal q0 rfl h8 ?_
  show Rm E 0 892 [some (.retAddr 0), vr 0, vr 83, vi x3] [.int (E.2 (x3 + 2).toNatClampNeg), .int (E.2 (x3 + 1).toNatClampNeg), .ref 83, .int c1] N1 _ _
  refine R_S q0 4 (pc2 := 896) (ls2 := [some (.retAddr 0), vr 0, vr 83, vi x3]) (st2 := [.int (x3 + 3), .retAddr 0, .int (E.2 (x3 + 2).toNatClampNeg), .int (E.2 (x3 + 1).toNatClampNeg), .ref 83, .int c1]) rfl ?_
  refine R_sal q0 rfl h9 ?_
  show Rm E 0 897 [some (.retAddr 0), vr 0, vr 83, vi x3] [.int (E.2 (x3 + 3).toNatClampNeg), .int (E.2 (x3 + 2).toNatClampNeg), .int (E.2 (x3 + 1).toNatClampNeg), .ref 83, .int c1] N1 _ _
  refine R_call q0 rfl rfl rfl rfl rfl rfl h10 ?_
  show Rm E 0 900 [some (.retAddr 0), vr 0, vr 83, vi x3] [.int c2, .int c1] N2 _ _
  refine R_ict q0 rfl (decide_eq_true h11) ?_
  show Rm E 0 954 [some (.retAddr 0), vr 0, vr 83, vi x3] [] N2 _ _
  refine R_S q0 2 (pc2 := 18) (ls2 := [some (.retAddr 0), vr 0, vr 83, vi (x3 + 5)]) (st2 := []) rfl ?_
  exact k
-- 23- 32=25 call X9_keep call X10_keep 913+
set_option maxRecDepth 16384 in
theorem b0_18_52 {E : env} {M : mem} {rv : Option Value} {M2 : mem} {x3 : Int32} {c1 : Int32} {N1 : mem} {c2 : Int32} {N2 : mem} (h0 : ¬ (((Int32.ofNat E.1) - 5) < x3)) (h1 : inR x3 E.1) (h2 : (E.2 x3.toNatClampNeg &&& 31) = 25) (h3 : Rm E 78 0 [vr 0] [] M (some (.int c1)) N1) (h4 : Rm E 141 0 [vr 83, vn] [] N1 (some (.int c2)) N2) (h5 : c1 = c2) (k : Rm E 0 18 [some (.retAddr 0), vr 0, vr 83, vi (x3 + 5)] [] N2 rv M2) : Rm E 0 18 [some (.retAddr 0), vr 0, vr 83, vi x3] [] M rv M2 := by
  refine R_S q0 5 (pc2 := 23) (ls2 := [some (.retAddr 0), vr 0, vr 83, vi x3]) (st2 := [.int ((Int32.ofNat E.1) - 5), .int x3]) rfl ?_
  refine R_icf q0 rfl (decide_eq_false h0) ?_
  show Rm E 0 26 [some (.retAddr 0), vr 0, vr 83, vi x3] [] M _ _
  refine R_S q0 2 (pc2 := 28) (ls2 := [some (.retAddr 0), vr 0, vr 83, vi x3]) (st2 := [.int x3, .retAddr 0]) rfl ?_
  refine R_sal q0 rfl h1 ?_
  show Rm E 0 29 [some (.retAddr 0), vr 0, vr 83, vi x3] [.int (E.2 x3.toNatClampNeg)] M _ _
  refine R_S q0 2 (pc2 := 32) (ls2 := [some (.retAddr 0), vr 0, vr 83, vi x3]) (st2 := [.int (E.2 x3.toNatClampNeg &&& 31)]) rfl ?_
  refine R_top h2 ?_
  refine R_S q0 1 (pc2 := 905) (ls2 := [some (.retAddr 0), vr 0, vr 83, vi x3]) (st2 := []) rfl ?_
  refine R_S q0 1 (pc2 := 906) (ls2 := [some (.retAddr 0), vr 0, vr 83, vi x3]) (st2 := [.ref 0]) rfl ?_
  refine R_call q0 rfl rfl rfl rfl rfl rfl h3 ?_
  show Rm E 0 909 [some (.retAddr 0), vr 0, vr 83, vi x3] [.int c1] N1 _ _
  refine R_S q0 1 (pc2 := 910) (ls2 := [some (.retAddr 0), vr 0, vr 83, vi x3]) (st2 := [.ref 83, .int c1]) rfl ?_
  refine R_call q0 rfl rfl rfl rfl rfl rfl h4 ?_
  show Rm E 0 913 [some (.retAddr 0), vr 0, vr 83, vi x3] [.int c2, .int c1] N2 _ _
  refine R_ict q0 rfl (decide_eq_true h5) ?_
  show Rm E 0 954 [some (.retAddr 0), vr 0, vr 83, vi x3] [] N2 _ _
  refine R_S q0 2 (pc2 := 18) (ls2 := [some (.retAddr 0), vr 0, vr 83, vi (x3 + 5)]) (st2 := []) rfl ?_
  exact k
-- 23- 32=26 call X9_back call X10_back 926+
set_option maxRecDepth 16384 in
theorem b0_18_54 {E : env} {M : mem} {rv : Option Value} {M2 : mem} {x3 : Int32} {c1 : Int32} {N1 : mem} {c2 : Int32} {N2 : mem} (h0 : ¬ (((Int32.ofNat E.1) - 5) < x3)) (h1 : inR x3 E.1) (h2 : (E.2 x3.toNatClampNeg &&& 31) = 26) (h3 : Rm E 79 0 [vr 0] [] M (some (.int c1)) N1) (h4 : Rm E 142 0 [vr 83, vn] [] N1 (some (.int c2)) N2) (h5 : c1 = c2) (k : Rm E 0 18 [some (.retAddr 0), vr 0, vr 83, vi (x3 + 5)] [] N2 rv M2) : Rm E 0 18 [some (.retAddr 0), vr 0, vr 83, vi x3] [] M rv M2 := by
  refine R_S q0 5 (pc2 := 23) (ls2 := [some (.retAddr 0), vr 0, vr 83, vi x3]) (st2 := [.int ((Int32.ofNat E.1) - 5), .int x3]) rfl ?_
  refine R_icf q0 rfl (decide_eq_false h0) ?_
  show Rm E 0 26 [some (.retAddr 0), vr 0, vr 83, vi x3] [] M _ _
  refine R_S q0 2 (pc2 := 28) (ls2 := [some (.retAddr 0), vr 0, vr 83, vi x3]) (st2 := [.int x3, .retAddr 0]) rfl ?_
  refine R_sal q0 rfl h1 ?_
  show Rm E 0 29 [some (.retAddr 0), vr 0, vr 83, vi x3] [.int (E.2 x3.toNatClampNeg)] M _ _
  refine R_S q0 2 (pc2 := 32) (ls2 := [some (.retAddr 0), vr 0, vr 83, vi x3]) (st2 := [.int (E.2 x3.toNatClampNeg &&& 31)]) rfl ?_
  refine R_top h2 ?_
  refine R_S q0 1 (pc2 := 918) (ls2 := [some (.retAddr 0), vr 0, vr 83, vi x3]) (st2 := []) rfl ?_
  refine R_S q0 1 (pc2 := 919) (ls2 := [some (.retAddr 0), vr 0, vr 83, vi x3]) (st2 := [.ref 0]) rfl ?_
  refine R_call q0 rfl rfl rfl rfl rfl rfl h3 ?_
  show Rm E 0 922 [some (.retAddr 0), vr 0, vr 83, vi x3] [.int c1] N1 _ _
  refine R_S q0 1 (pc2 := 923) (ls2 := [some (.retAddr 0), vr 0, vr 83, vi x3]) (st2 := [.ref 83, .int c1]) rfl ?_
  refine R_call q0 rfl rfl rfl rfl rfl rfl h4 ?_
  show Rm E 0 926 [some (.retAddr 0), vr 0, vr 83, vi x3] [.int c2, .int c1] N2 _ _
  refine R_ict q0 rfl (decide_eq_true h5) ?_
  show Rm E 0 954 [some (.retAddr 0), vr 0, vr 83, vi x3] [] N2 _ _
  refine R_S q0 2 (pc2 := 18) (ls2 := [some (.retAddr 0), vr 0, vr 83, vi (x3 + 5)]) (st2 := []) rfl ?_
  exact k
-- 23- 32=27 call X9_count call X10_count 949+
set_option maxRecDepth 16384 in
theorem b0_18_56 {E : env} {M : mem} {rv : Option Value} {M2 : mem} {x3 : Int32} {c1 : Int32} {N1 : mem} {c2 : Int32} {N2 : mem} (h0 : ¬ (((Int32.ofNat E.1) - 5) < x3)) (h1 : inR x3 E.1) (h2 : (E.2 x3.toNatClampNeg &&& 31) = 27) (h3 : inR (x3 + 1) E.1) (h4 : Rm E 80 0 [vr 0, vi (E.2 (x3 + 1).toNatClampNeg)] [] M (some (.int c1)) N1) (h5 : inR (x3 + 1) E.1) (h6 : Rm E 144 0 [vr 83, vi (E.2 (x3 + 1).toNatClampNeg)] [] N1 (some (.int c2)) N2) (h7 : c1 = c2) (k : Rm E 0 18 [some (.retAddr 0), vr 0, vr 83, vi (x3 + 5)] [] N2 rv M2) : Rm E 0 18 [some (.retAddr 0), vr 0, vr 83, vi x3] [] M rv M2 := by
  refine R_S q0 5 (pc2 := 23) (ls2 := [some (.retAddr 0), vr 0, vr 83, vi x3]) (st2 := [.int ((Int32.ofNat E.1) - 5), .int x3]) rfl ?_
  refine R_icf q0 rfl (decide_eq_false h0) ?_
  show Rm E 0 26 [some (.retAddr 0), vr 0, vr 83, vi x3] [] M _ _
  refine R_S q0 2 (pc2 := 28) (ls2 := [some (.retAddr 0), vr 0, vr 83, vi x3]) (st2 := [.int x3, .retAddr 0]) rfl ?_
  refine R_sal q0 rfl h1 ?_
  show Rm E 0 29 [some (.retAddr 0), vr 0, vr 83, vi x3] [.int (E.2 x3.toNatClampNeg)] M _ _
  refine R_S q0 2 (pc2 := 32) (ls2 := [some (.retAddr 0), vr 0, vr 83, vi x3]) (st2 := [.int (E.2 x3.toNatClampNeg &&& 31)]) rfl ?_
  refine R_top h2 ?_
  refine R_S q0 1 (pc2 := 931) (ls2 := [some (.retAddr 0), vr 0, vr 83, vi x3]) (st2 := []) rfl ?_
  refine R_S q0 5 (pc2 := 936) (ls2 := [some (.retAddr 0), vr 0, vr 83, vi x3]) (st2 := [.int (x3 + 1), .retAddr 0, .ref 0]) rfl ?_
  refine R_sal q0 rfl h3 ?_
  show Rm E 0 937 [some (.retAddr 0), vr 0, vr 83, vi x3] [.int (E.2 (x3 + 1).toNatClampNeg), .ref 0] M _ _
  refine R_call q0 rfl rfl rfl rfl rfl rfl h4 ?_
  show Rm E 0 940 [some (.retAddr 0), vr 0, vr 83, vi x3] [.int c1] N1 _ _
  refine R_S q0 5 (pc2 := 945) (ls2 := [some (.retAddr 0), vr 0, vr 83, vi x3]) (st2 := [.int (x3 + 1), .retAddr 0, .ref 83, .int c1]) rfl ?_
  refine R_sal q0 rfl h5 ?_
  show Rm E 0 946 [some (.retAddr 0), vr 0, vr 83, vi x3] [.int (E.2 (x3 + 1).toNatClampNeg), .ref 83, .int c1] N1 _ _
  refine R_call q0 rfl rfl rfl rfl rfl rfl h6 ?_
  show Rm E 0 949 [some (.retAddr 0), vr 0, vr 83, vi x3] [.int c2, .int c1] N2 _ _
  refine R_ict q0 rfl (decide_eq_true h7) ?_
  show Rm E 0 954 [some (.retAddr 0), vr 0, vr 83, vi x3] [] N2 _ _
  refine R_S q0 2 (pc2 := 18) (ls2 := [some (.retAddr 0), vr 0, vr 83, vi (x3 + 5)]) (st2 := []) rfl ?_
  exact k
