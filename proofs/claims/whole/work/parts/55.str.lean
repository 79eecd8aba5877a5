/-! the first text, a String -/
theorem R_sbl {E : env} {i pc len a b : Nat} {c : Int} {pl : List Nat} {ls : lcs} {st : List Value} {M M2 : mem} {rv : Option Value} {cd : List (Nat × ent)} {x : Int32} (hq : cdOf i = some cd) (h : lku pc cd = some (.baload, len, a, b, c, pl)) (hi : inR x 60) (k : Rm E i (pc + 1) ls (.int (sB.getD x.toNatClampNeg 0) :: st) M rv M2) : Rm E i pc ls (.int x :: .retAddr 2 :: st) M rv M2 := by
  refine N_A1 hq h ?_ k
  simp [stpA, stRd, show inB x 60 = true from hi]
theorem stpR_c {q : minfo} {en : ent} {v : Int32} (h : en.1 = .ireturn) (hq : mRt q = some .char) (hv : narrow .char (.int v) = .int v) : stpR q en [.int v] = some (some (.int v)) := by
  unfold stpR
  rw [h, hq]
  exact if_pos hv
-- 151 jdk/internal/util/Preconditions.checkIndex(IILjava/util/function/BiFunction;)I  cuts [0]
theorem q151 : cdOf 151 = some mt151 := rfl
-- 1- 6+
theorem b151_0_0 {E : env} {M : mem} {x0 x1 : Int32}  (h0 : ¬ (x0 < 0)) (h1 : x0 < x1) : Rm E 151 0 [vi x0, vi x1, some (.retAddr 3)] [] M (some (.int x0)) M := by
  refine R_S q151 1 (pc2 := 1) (ls2 := [vi x0, vi x1, some (.retAddr 3)]) (st2 := [.int x0]) rfl ?_
  refine R_iff q151 rfl (decide_eq_false h0) ?_
  show Rm E 151 4 [vi x0, vi x1, some (.retAddr 3)] [] M _ _
  refine R_S q151 2 (pc2 := 6) (ls2 := [vi x0, vi x1, some (.retAddr 3)]) (st2 := [.int x1, .int x0]) rfl ?_
  refine R_ict q151 rfl (decide_eq_true h1) ?_
  show Rm E 151 16 [vi x0, vi x1, some (.retAddr 3)] [] M _ _
  refine R_S q151 1 (pc2 := 17) (ls2 := [vi x0, vi x1, some (.retAddr 3)]) (st2 := [.int x0]) rfl ?_
  exact R_ret rfl q151 rfl rfl rfl rfl (stpR_i rfl rfl)
-- 149 java/lang/String.checkIndex(II)V  cuts [0]
theorem q149 : cdOf 149 = some mt149 := rfl
-- call J3_checkIndex_8e157
theorem b149_0_0 {E : env} {M : mem} {x0 x1 : Int32} {c1 : Int32} (h0 : Rm E 151 0 [vi x0, vi x1, some (.retAddr 3)] [] M (some (.int c1)) M) : Rm E 149 0 [vi x0, vi x1] [] M none M := by
  refine R_S q149 3 (pc2 := 5) (ls2 := [vi x0, vi x1]) (st2 := [.retAddr 3, .int x1, .int x0]) rfl ?_
  refine R_call q149 rfl rfl rfl rfl rfl rfl h0 ?_
  show Rm E 149 8 [vi x0, vi x1] [.int c1] M _ _
  refine R_S q149 1 (pc2 := 9) (ls2 := [vi x0, vi x1]) (st2 := []) rfl ?_
  exact R_ret rfl q149 rfl rfl rfl rfl rfl
-- 150 java/lang/StringLatin1.charAt([BI)C  cuts [0]
theorem q150 : cdOf 150 = some mt150 := rfl
-- call J0_checkIndex_df160
theorem b150_0_0 {E : env} {M : mem} {x1 : Int32}  (h0 : Rm E 149 0 [vi x1, vi 60] [] M none M) (h1 : inR x1 60) (h2 : narrow .char (.int (((sB.getD (x1.toNatClampNeg) 0 &&& 255).toUInt32 % 65536).toInt32)) = .int (((sB.getD (x1.toNatClampNeg) 0 &&& 255).toUInt32 % 65536).toInt32)) : Rm E 150 0 [some (.retAddr 2), vi x1] [] M (some (.int (((sB.getD (x1.toNatClampNeg) 0 &&& 255).toUInt32 % 65536).toInt32))) M := by
  refine R_S q150 3 (pc2 := 3) (ls2 := [some (.retAddr 2), vi x1]) (st2 := [.int 60, .int x1]) rfl ?_
  refine R_call q150 rfl rfl rfl rfl rfl rfl h0 ?_
  show Rm E 150 6 [some (.retAddr 2), vi x1] [] M _ _
  refine R_S q150 2 (pc2 := 8) (ls2 := [some (.retAddr 2), vi x1]) (st2 := [.int x1, .retAddr 2]) rfl ?_
  refine R_sbl q150 rfl h1 ?_
  show Rm E 150 9 [some (.retAddr 2), vi x1] [.int (sB.getD (x1.toNatClampNeg) 0)] M _ _
  refine R_S q150 3 (pc2 := 14) (ls2 := [some (.retAddr 2), vi x1]) (st2 := [.int (((sB.getD (x1.toNatClampNeg) 0 &&& 255).toUInt32 % 65536).toInt32)]) rfl ?_
  exact R_ret rfl q150 rfl rfl rfl rfl (stpR_c rfl rfl h2)
-- 148 java/lang/String.isLatin1()Z  cuts [0]
theorem q148 : cdOf 148 = some mt148 := rfl
-- 
theorem b148_0_0 {E : env} {M : mem}   : Rm E 148 0 [some (.retAddr 1)] [] M (some (.int 1)) M := by
  refine R_S q148 7 (pc2 := 18) (ls2 := [some (.retAddr 1)]) (st2 := [.int 1]) rfl ?_
  exact R_ret rfl q148 rfl rfl rfl rfl rfl
-- 147 java/lang/String.coder()B  cuts [0]
theorem q147 : cdOf 147 = some mt147 := rfl
-- 
theorem b147_0_0 {E : env} {M : mem}   : Rm E 147 0 [some (.retAddr 1)] [] M (some (.int 0)) M := by
  refine R_S q147 5 (pc2 := 14) (ls2 := [some (.retAddr 1)]) (st2 := [.int 0]) rfl ?_
  exact R_ret rfl q147 rfl rfl rfl rfl rfl
-- 146 java/lang/String.charAt(I)C  cuts [0]
theorem q146 : cdOf 146 = some mt146 := rfl
-- call J0_isLatin1_aae02 4- call J1_charAt_3b067
theorem b146_0_0 {E : env} {M : mem} {x1 : Int32} {c1 : Int32} {c2 : Int32} (h0 : Rm E 148 0 [some (.retAddr 1)] [] M (some (.int c1)) M) (h1 : ¬ (c1 = 0)) (h2 : Rm E 150 0 [some (.retAddr 2), vi x1] [] M (some (.int c2)) M) (h3 : narrow .char (.int c2) = .int c2) : Rm E 146 0 [some (.retAddr 1), vi x1] [] M (some (.int c2)) M := by
  refine R_S q146 1 (pc2 := 1) (ls2 := [some (.retAddr 1), vi x1]) (st2 := [.retAddr 1]) rfl ?_
  refine R_call q146 rfl rfl rfl rfl rfl rfl h0 ?_
  show Rm E 146 4 [some (.retAddr 1), vi x1] [.int c1] M _ _
  refine R_iff q146 rfl (decide_eq_false h1) ?_
  show Rm E 146 7 [some (.retAddr 1), vi x1] [] M _ _
  refine R_S q146 3 (pc2 := 12) (ls2 := [some (.retAddr 1), vi x1]) (st2 := [.int x1, .retAddr 2]) rfl ?_
  refine R_call q146 rfl rfl rfl rfl rfl rfl h2 ?_
  show Rm E 146 15 [some (.retAddr 1), vi x1] [.int c2] M _ _
  exact R_ret rfl q146 rfl rfl rfl rfl (stpR_c rfl rfl h3)
-- 145 java/lang/String.length()I  cuts [0]
theorem q145 : cdOf 145 = some mt145 := rfl
-- call J0_coder_7d493
theorem b145_0_0 {E : env} {M : mem} {c1 : Int32} (h0 : Rm E 147 0 [some (.retAddr 1)] [] M (some (.int c1)) M) : Rm E 145 0 [some (.retAddr 1)] [] M (some (.int (60 >>> (c1 &&& 31)))) M := by
  refine R_S q145 4 (pc2 := 6) (ls2 := [some (.retAddr 1)]) (st2 := [.retAddr 1, .int 60]) rfl ?_
  refine R_call q145 rfl rfl rfl rfl rfl rfl h0 ?_
  show Rm E 145 9 [some (.retAddr 1)] [.int c1, .int 60] M _ _
  refine R_S q145 1 (pc2 := 10) (ls2 := [some (.retAddr 1)]) (st2 := [.int (60 >>> (c1 &&& 31))]) rfl ?_
  exact R_ret rfl q145 rfl rfl rfl rfl (stpR_i rfl rfl)
-- 52 HeavyChains.<init>()V  cuts [130]
theorem q52 : cdOf 52 = some mt52 := rfl
-- call J0_length_8abf5 136+ call X9_takeText
theorem b52_130_0 {E : env} {M : mem} {x1 : Int32} {c1 : Int32} {c2 : Int32} {N1 : mem} {N2 : mem} (h0 : Rm E 145 0 [some (.retAddr 1)] [] M (some (.int c1)) M) (h1 : c1 ≤ x1) (h2 : Rm E 84 0 [vr 0] [] M (some (.int c2)) N1) (eN2 : N2 = upM N1 1 1 0) : Rm E 52 130 [vr 0, vi x1] [] M none N2 := by
  refine R_S q52 2 (pc2 := 133) (ls2 := [vr 0, vi x1]) (st2 := [.retAddr 1, .int x1]) rfl ?_
  refine R_call q52 rfl rfl rfl rfl rfl rfl h0 ?_
  show Rm E 52 136 [vr 0, vi x1] [.int c1, .int x1] M _ _
  refine R_ict q52 rfl (decide_eq_true h1) ?_
  show Rm E 52 159 [vr 0, vi x1] [] M _ _
  refine R_S q52 1 (pc2 := 160) (ls2 := [vr 0, vi x1]) (st2 := [.ref 0]) rfl ?_
  refine R_call q52 rfl rfl rfl rfl rfl rfl h2 ?_
  show Rm E 52 163 [vr 0, vi x1] [.int c2] N1 _ _
  refine R_S q52 4 (pc2 := 169) (ls2 := [vr 0, vi x1]) (st2 := [.int 0, .ref 1]) rfl ?_
  refine R_pf q52 rfl rfl rfl rfl rfl eN2 ?_
  show Rm E 52 172 [vr 0, vi x1] [] N2 _ _
  exact R_ret rfl q52 rfl rfl rfl rfl rfl
-- call J0_length_8abf5 136- call J0_charAt_5068e call X1_append
theorem b52_130_1 {E : env} {M : mem} {rv : Option Value} {M2 : mem} {x1 : Int32} {c1 : Int32} {c2 : Int32} {c3 : Int32} {N1 : mem} (h0 : Rm E 145 0 [some (.retAddr 1)] [] M (some (.int c1)) M) (h1 : ¬ (c1 ≤ x1)) (h2 : Rm E 146 0 [some (.retAddr 1), vi x1] [] M (some (.int c2)) M) (h3 : Rm E 6 0 [vr 1, vi c2] [] M (some (.int c3)) N1) (k : Rm E 52 130 [vr 0, vi (x1 + 1)] [] N1 rv M2) : Rm E 52 130 [vr 0, vi x1] [] M rv M2 := by
  refine R_S q52 2 (pc2 := 133) (ls2 := [vr 0, vi x1]) (st2 := [.retAddr 1, .int x1]) rfl ?_
  refine R_call q52 rfl rfl rfl rfl rfl rfl h0 ?_
  show Rm E 52 136 [vr 0, vi x1] [.int c1, .int x1] M _ _
  refine R_icf q52 rfl (decide_eq_false h1) ?_
  show Rm E 52 139 [vr 0, vi x1] [] M _ _
  refine R_S q52 4 (pc2 := 146) (ls2 := [vr 0, vi x1]) (st2 := [.int x1, .retAddr 1, .ref 1]) rfl ?_
  refine R_call q52 rfl rfl rfl rfl rfl rfl h2 ?_
  show Rm E 52 149 [vr 0, vi x1] [.int c2, .ref 1] M _ _
  refine R_call q52 rfl rfl rfl rfl rfl rfl h3 ?_
  show Rm E 52 152 [vr 0, vi x1] [.int c3] N1 _ _
  refine R_S q52 3 (pc2 := 130) (ls2 := [vr 0, vi (x1 + 1)]) (st2 := []) rfl ?_
  exact k
section FIRST
variable {E : env} {M N : mem}
theorem sB_ch : ∀ k, k < 60 → ((sB.getD k 0 &&& 255).toUInt32 % 65536).toInt32 = sB.getD k 0 ∧ 32 ≤ sB.getD k 0 ∧ sB.getD k 0 ≤ 126 := by decide +kernel
theorem s145 : Rm E 145 0 [some (.retAddr 1)] [] M (some (.int 60)) M := b145_0_0 (c1 := 0) b147_0_0
theorem s146 {k : Nat} (hk : k < 60) : Rm E 146 0 [some (.retAddr 1), vi (nI k)] [] M (some (.int (sB.getD k 0))) M := by
  have hc : (nI k).toNatClampNeg = k := clampI (by omega)
  have h150 := b150_0_0 (E := E) (M := M) (x1 := nI k) (b149_0_0 (b151_0_0 (nI_pos (by omega)) (nI_lt (b := 60) hk (by decide)))) (inR_nI hk (by omega)) (pk_nc _)
  rw [hc, (sB_ch k hk).1] at h150
  refine b146_0_0 b148_0_0 (by decide) h150 ?_
  have := pk_nc (sB.getD k 0 &&& 255)
  rw [(sB_ch k hk).1] at this
  exact this
theorem sB_len : sB.length = 60 := rfl
theorem sB_take {k : Nat} (hk : k < 60) : sB.take (k + 1) = sB.take k ++ [sB.getD k 0] := by
  have h : k < sB.length := hk
  rw [List.take_add_one, List.getElem?_eq_getElem h, List.getD_eq_getElem?_getD, List.getElem?_eq_getElem h]
  rfl
theorem sB_ok : txOk sB := ⟨by decide, by decide +kernel⟩
theorem sB_ok2 {k : Nat} (hk : k ≤ 60) : (sB.take k).length = k := by rw [List.length_take, sB_len]; omega
theorem rd_sB : (rdT sB).1 = -4 ∧ 0 < (rdT sB).2.1 := by decide +kernel
end FIRST
