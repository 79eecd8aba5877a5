-- 89 HeavyChainsModel.<init>()V  cuts [119]
theorem q89 : cdOf 89 = some mt89 := rfl
-- call X10_says call X10_says call X10_says call X10_says call X10_says call X10_says call X10_says call X10_says call X10_lay
theorem b89_119_0 {E : env} {M : mem} {N1 : mem} {N2 : mem} {N3 : mem} {N4 : mem} {N5 : mem} {N6 : mem} {N7 : mem} {N8 : mem} {c9 : Int32} {N9 : mem} {N10 : mem} {N11 : mem} (h0 : Rm E 90 0 [vr 83, vl 8084014318966944307, vn, vi 8, vn] [] M none N1) (h1 : Rm E 90 0 [vr 83, vl 3689631397853936503, vn, vi 8, vn] [] N1 none N2) (h2 : Rm E 90 0 [vr 83, vl 3832625071217785139, vn, vi 8, vn] [] N2 none N3) (h3 : Rm E 90 0 [vr 83, vl 3905799769086977585, vn, vi 8, vn] [] N3 none N4) (h4 : Rm E 90 0 [vr 83, vl 3616728262177273137, vn, vi 8, vn] [] N4 none N5) (h5 : Rm E 90 0 [vr 83, vl 3616728262298252080, vn, vi 8, vn] [] N5 none N6) (h6 : Rm E 90 0 [vr 83, vl 3616724976544397104, vn, vi 8, vn] [] N6 none N7) (h7 : Rm E 90 0 [vr 83, vl 825373499, vn, vi 4, vn] [] N7 none N8) (h8 : Rm E 100 0 [vr 83, vn, vn, vn, vn] [] N8 (some (.int c9)) N9) (eN10 : N10 = upM N9 83 9 c9) (eN11 : N11 = upM N10 83 11 0) : Rm E 89 119 [vr 83] [] M none N11 := by
  refine R_S q89 3 (pc2 := 125) (ls2 := [vr 83]) (st2 := [.int 8, .long 8084014318966944307, .ref 83]) rfl ?_
  refine R_call q89 rfl rfl rfl rfl rfl rfl h0 ?_
  show Rm E 89 128 [vr 83] [] N1 _ _
  refine R_S q89 3 (pc2 := 134) (ls2 := [vr 83]) (st2 := [.int 8, .long 3689631397853936503, .ref 83]) rfl ?_
  refine R_call q89 rfl rfl rfl rfl rfl rfl h1 ?_
  show Rm E 89 137 [vr 83] [] N2 _ _
  refine R_S q89 3 (pc2 := 143) (ls2 := [vr 83]) (st2 := [.int 8, .long 3832625071217785139, .ref 83]) rfl ?_
  refine R_call q89 rfl rfl rfl rfl rfl rfl h2 ?_
  show Rm E 89 146 [vr 83] [] N3 _ _
  refine R_S q89 3 (pc2 := 152) (ls2 := [vr 83]) (st2 := [.int 8, .long 3905799769086977585, .ref 83]) rfl ?_
  refine R_call q89 rfl rfl rfl rfl rfl rfl h3 ?_
  show Rm E 89 155 [vr 83] [] N4 _ _
  refine R_S q89 3 (pc2 := 161) (ls2 := [vr 83]) (st2 := [.int 8, .long 3616728262177273137, .ref 83]) rfl ?_
  refine R_call q89 rfl rfl rfl rfl rfl rfl h4 ?_
  show Rm E 89 164 [vr 83] [] N5 _ _
  refine R_S q89 3 (pc2 := 170) (ls2 := [vr 83]) (st2 := [.int 8, .long 3616728262298252080, .ref 83]) rfl ?_
  refine R_call q89 rfl rfl rfl rfl rfl rfl h5 ?_
  show Rm E 89 173 [vr 83] [] N6 _ _
  refine R_S q89 3 (pc2 := 179) (ls2 := [vr 83]) (st2 := [.int 8, .long 3616724976544397104, .ref 83]) rfl ?_
  refine R_call q89 rfl rfl rfl rfl rfl rfl h6 ?_
  show Rm E 89 182 [vr 83] [] N7 _ _
  refine R_S q89 3 (pc2 := 187) (ls2 := [vr 83]) (st2 := [.int 4, .long 825373499, .ref 83]) rfl ?_
  refine R_call q89 rfl rfl rfl rfl rfl rfl h7 ?_
  show Rm E 89 190 [vr 83] [] N8 _ _
  refine R_S q89 2 (pc2 := 192) (ls2 := [vr 83]) (st2 := [.ref 83, .ref 83]) rfl ?_
  refine R_call q89 rfl rfl rfl rfl rfl rfl h8 ?_
  show Rm E 89 195 [vr 83] [.int c9, .ref 83] N9 _ _
  refine R_pf q89 rfl rfl rfl rfl rfl eN10 ?_
  show Rm E 89 198 [vr 83] [] N10 _ _
  refine R_S q89 2 (pc2 := 200) (ls2 := [vr 83]) (st2 := [.int 0, .ref 83]) rfl ?_
  refine R_pf q89 rfl rfl rfl rfl rfl eN11 ?_
  show Rm E 89 203 [vr 83] [] N11 _ _
  exact R_ret rfl q89 rfl rfl rfl rfl rfl
section CTOR
variable {E : env} {M N : mem}
/-- what both hold at the start -/
def RC0 (N : mem) : Prop := RC [] (rdT sB).2.1 (upT (rdT sB).2) (trT (rdT sB).2.1 (upT (rdT sB).2)) (rdT sB).2.2.2 [] [] (fun _ => false) [] 0 N
def RM0 (N : mem) : Prop := RM [] (rdT sB).2.1 (upT (rdT sB).2) (trT (rdT sB).2.1 (upT (rdT sB).2)) (rdT sB).2.2.2 [] [] (fun _ => false) [] 0 N
theorem wf0 : wfS [] (rdT sB).2.1 (upT (rdT sB).2) (trT (rdT sB).2.1 (upT (rdT sB).2)) (rdT sB).2.2.2 [] [] (fun _ => false) [] := (rd_wf sB_ok rd_sB.2).txn txOk_nil
theorem sB_all : sB.take 60 = sB := rfl
theorem c52 (h1 : M.1 1 1 = 0) (hp : cSh 26 28 8 [] M) (hk : cSh 60 62 2 [] M) (h73 : ∀ i, i < 30 → M.1 73 i = 1) : ∃ N, Rm E 52 130 [vr 0, vi (nI 0)] [] M none N ∧ RC0 N ∧ hiC M N := by
  have key : ∀ d k (K : mem), 60 - k = d → k ≤ 60 → cTx (sB.take k) K → K.2 = M.2 → (∀ a, a ≠ 1 → a ≠ 2 → K.1 a = M.1 a) → ∃ N, Rm E 52 130 [vr 0, vi (nI k)] [] K none N ∧ RC0 N ∧ hiC M N := by
    intro d
    induction d with
    | zero =>
      intro k K hd hk60 hT h2 he
      obtain rfl : k = 60 := by omega
      rw [sB_all] at hT
      obtain ⟨Z, z1, z2, z3⟩ := c84 (E := E) (M := K) sB_ok hT (hp.cg (by decide) (he _ (by decide) (by decide)) (fun a q1 q2 => he a (by omega) (by omega))) (hk.cg (by decide) (he _ (by decide) (by decide)) (fun a q1 q2 => he a (by omega) (by omega))) (fun i hi => by rw [he 73 (by decide) (by decide)]; exact h73 i hi) rd_sB.1 rd_sB.2
      exact ⟨upM Z 1 1 0, b52_130_0 s145 (by decide) z1 rfl, rc_txn z2 (fun a q1 _ => upM_ne q1) (cTx_nil upM_eq), (show hiC M K from ⟨h2, fun a ha => he a (by omega) (by omega)⟩).tr (z3.up (by decide))⟩
    | succ d ih =>
      intro k K hd hk60 hT h2 he
      have hk' : k < 60 := by omega
      obtain ⟨-, c1, c2⟩ := sB_ch k hk'
      obtain ⟨Z, z1, z2, z3, z4⟩ := s6 (E := E) hT (by rw [sB_ok2 hk60]; omega) ⟨c1, c2⟩
      rw [← sB_take hk'] at z4
      obtain ⟨N, n1, n2⟩ := ih (k + 1) Z (by omega) (by omega) z4 (z2.trans h2) (fun a q1 q2 => (z3 a q1 q2).trans (he a q1 q2))
      refine ⟨N, b52_130_1 s145 (by rw [show (60 : Int32) = nI 60 from rfl, nI_leI (by decide) (by omega)]; omega) (s146 hk') z1 ?_, n2⟩
      rw [nI_1]
      exact n1
  exact key 60 0 M rfl (by omega) (cTx_nil h1) rfl (fun _ _ _ => rfl)
/-- eight signs in a long -/
def chL (l : Int64) (j : Nat) : Int32 := ((l >>> ((8 * nI j).toInt64 &&& 63)) &&& 255).toInt32
def chs (l : Int64) : Nat → List Int32
  | 0 => []
  | n + 1 => chL l n :: chs l n
def chB (l : Int64) (n : Nat) : Bool := (List.range n).all (fun j => decide (32 ≤ chL l j) && decide (chL l j ≤ 126))
theorem chs_len {l : Int64} : ∀ n, (chs l n).length = n
  | 0 => rfl
  | n + 1 => by simp [chs, chs_len n]
theorem m90l {l : Int64} : ∀ n (tx : List Int32) (K : mem), n ≤ 8 → tx.length + n ≤ 200 → (∀ j, j < n → 32 ≤ chL l j ∧ chL l j ≤ 126) → mTx tx K → ∃ N, Rm E 90 5 [vr 83, vl l, vn, vn, vi (nI n - 1)] [] K none N ∧ mTx (tx ++ chs l n) N ∧ loM K N := by
  intro n
  induction n with
  | zero =>
    intro tx K h8 hl hc hT
    refine ⟨K, b90_5_0 (by decide), ?_, loM.rf⟩
    rw [show chs l 0 = [] from rfl, List.append_nil]
    exact hT
  | succ n ih =>
    intro tx K h8 hl hc hT
    obtain ⟨Z, z1, z2, z3, z4, z5⟩ := s92 (E := E) hT (by omega) (hc n (by omega))
    have t5 : mTx (tx ++ [chL l n]) (upM Z 83 11 (nI (tx.length + 1))) := by
      refine ⟨by rw [upM_eq, List.length_append]; rfl, fun j q hq => ?_⟩
      rw [upM_ne (by decide)]
      exact z5.2 j q hq
    obtain ⟨N, n1, n2, n3⟩ := ih (tx ++ [chL l n]) (upM Z 83 11 (nI (tx.length + 1))) (by omega) (by rw [List.length_append]; show tx.length + 1 + n ≤ 200; omega) (fun j hj => hc j (by omega)) t5
    have e1 : nI (n + 1) - 1 = nI n := by rw [← nI_1]; exact Int32.add_sub_cancel ..
    refine ⟨N, ?_, ?_, ?_⟩
    · rw [e1]
      refine b90_5_1 (nI_pos (by omega)) z1 rfl ?_
      rw [show nI n + (-1) = nI n - 1 from (Int32.sub_eq_add_neg ..).symm]
      exact n1
    · rw [List.append_assoc] at n2
      exact n2
    · exact (show loM K (upM Z 83 11 (nI (tx.length + 1))) from fun a ha => by rw [upM_ne (by omega)]; exact z3 a (by omega) (by omega)).tr n3
theorem m90 {l : Int64} {n : Nat} {x : Int32} {tx : List Int32} (hx : x = nI n) (h8 : n ≤ 8) (hl : tx.length + n ≤ 200) (hc : chB l n = true) (hT : mTx tx M) : ∃ N, Rm E 90 0 [vr 83, vl l, vn, vi x, vn] [] M none N ∧ mTx (tx ++ chs l n) N ∧ loM M N := by
  obtain ⟨N, n1, n2⟩ := m90l (E := E) (l := l) n tx M h8 hl (fun j hj => by
    have := all_range.mp hc j hj
    simpa using this) hT
  rw [hx]
  exact ⟨N, b90_0_0 n1, n2⟩
def t89 : List Int32 := (((((((([] ++ chs 8084014318966944307 8) ++ chs 3689631397853936503 8) ++ chs 3832625071217785139 8) ++ chs 3905799769086977585 8) ++ chs 3616728262177273137 8) ++ chs 3616728262298252080 8) ++ chs 3616724976544397104 8) ++ chs 825373499 4)
theorem t89_sB : t89 = sB := by decide +kernel
theorem k89 (h11 : M.1 83 11 = 0) : ∃ N, Rm E 89 119 [vr 83] [] M none N ∧ RM0 N ∧ loM M N := by
  obtain ⟨N1, a1, b1, d1⟩ := m90 (E := E) (l := 8084014318966944307) (n := 8) (x := 8) rfl (by decide) (by simp) (by decide +kernel) (mTx_nil h11)
  obtain ⟨N2, a2, b2, d2⟩ := m90 (E := E) (l := 3689631397853936503) (n := 8) (x := 8) rfl (by decide) (by simp [chs_len]) (by decide +kernel) b1
  obtain ⟨N3, a3, b3, d3⟩ := m90 (E := E) (l := 3832625071217785139) (n := 8) (x := 8) rfl (by decide) (by simp [chs_len]) (by decide +kernel) b2
  obtain ⟨N4, a4, b4, d4⟩ := m90 (E := E) (l := 3905799769086977585) (n := 8) (x := 8) rfl (by decide) (by simp [chs_len]) (by decide +kernel) b3
  obtain ⟨N5, a5, b5, d5⟩ := m90 (E := E) (l := 3616728262177273137) (n := 8) (x := 8) rfl (by decide) (by simp [chs_len]) (by decide +kernel) b4
  obtain ⟨N6, a6, b6, d6⟩ := m90 (E := E) (l := 3616728262298252080) (n := 8) (x := 8) rfl (by decide) (by simp [chs_len]) (by decide +kernel) b5
  obtain ⟨N7, a7, b7, d7⟩ := m90 (E := E) (l := 3616724976544397104) (n := 8) (x := 8) rfl (by decide) (by simp [chs_len]) (by decide +kernel) b6
  obtain ⟨N8, a8, b8, d8⟩ := m90 (E := E) (l := 825373499) (n := 4) (x := 4) rfl (by decide) (by simp [chs_len]) (by decide +kernel) b7
  have b9 : mTx sB N8 := by rw [← t89_sB]; exact b8
  obtain ⟨N9, a9, c9, d9⟩ := m100 (E := E) sB_ok b9 rd_sB.1 rd_sB.2
  refine ⟨upM (upM N9 83 9 (nI (rdT sB).2.1)) 83 11 0, b89_119_0 a1 a2 a3 a4 a5 a6 a7 a8 a9 rfl rfl, ?_, ?_⟩
  · have c10 := c9.kp (N := upM N9 83 9 (nI (rdT sB).2.1)) ⟨rfl, fun a ha => upM_ne (by omega), fun k hk => upM_nk (by omega)⟩
    exact rm_txn c10 rfl (fun a q1 _ => upM_ne q1) (fun k hk => upM_nk hk) (mTx_nil upM_eq)
  · refine ((((((((d1.tr d2).tr d3).tr d4).tr d5).tr d6).tr d7).tr d8).tr d9).tr (fun a ha => ?_)
    rw [upM_ne (by omega), upM_ne (by omega)]
/-! the class's cells among themselves -/
theorem mem_fvs {a : Nat} {v : Value} : ∀ (cs : List Nat) (b : Nat), v ∈ fvs M a b cs → ∃ k c, c ∈ cs ∧ v = fvl M a k c
  | [], _, h => by simp [fvs] at h
  | c :: r, b, h => by
    have h' : v ∈ fvl M a b c :: fvs M a (b + 1) r := h
    rcases List.mem_cons.mp h' with z | z
    · exact ⟨b, c, List.mem_cons_self, z⟩
    · obtain ⟨k, c', h1, h2⟩ := mem_fvs r (b + 1) z
      exact ⟨k, c', List.mem_cons_of_mem _ h1, h2⟩
def scB (s : scel) : Bool := match s with
  | .inl _ => true
  | .inr (.inl rs) => rs.all (fun r => decide (r < 83))
  | .inr (.inr o) => o.2.all (fun c => decide (c < 85))
theorem scB_t : (skel.take 83).all scB = true := by decide +kernel
theorem okHp_enc : okHp 83 (enc M) := by
  intro a c ha hc
  have hc2 : (encL M 0 skel)[a]? = some c := hc
  rw [encL_at, Nat.zero_add] at hc2
  obtain ⟨s, hs, rfl⟩ := map_some_inv hc2
  have hb : scB s = true := List.all_eq_true.mp scB_t s (List.mem_of_getElem? (i := a) (by rw [List.getElem?_take_of_lt ha]; exact hs))
  match s, hb with
  | .inl q, _ => exact trivial
  | .inr (.inl rs), hb =>
    intro j k hk
    have := List.all_eq_true.mp hb k (List.mem_of_getElem? hk)
    exact of_decide_eq_true this
  | .inr (.inr o), hb =>
    intro v hv
    obtain ⟨k, c, h1, rfl⟩ := mem_fvs o.2 0 hv
    have h2 : c < 85 := of_decide_eq_true (List.all_eq_true.mp hb c h1)
    match c, h2 with
    | 0, _ => exact trivial
    | 1, _ => exact trivial
    | r + 2, h2 => show r < 83; omega
theorem enc_len : (enc M).1.length = 98 := by
  show (encL M 0 skel).length = 98
  rw [encL_len]
  rfl
theorem chk_inv (h : chk52 = true) : ∃ x hp, runTo 0 (fun _ => 0) 2000 52 130 0 [vr 0, vn] [] ([.inr (9, dflt 9)], 11) = some ([some (.ref 0), some (.int x)], [], hp) ∧ ((decide (x = 0) && decide (hp.2 = 1935)) && (cellsB hp.1 (skel.take 83) && fOk (memOf hp.1))) = true := by
  unfold chk52 at h
  split at h
  · rename_i x hp heq
    exact ⟨x, hp, heq, h⟩
  · cases h
theorem made_c : ∃ N, Rn E 52 0 [vr 0, vn] [] ([.inr (9, dflt 9)], 11) none (cutH 83 1935 (enc N)) ∧ RC0 N ∧ N.2 = 0 := by
  obtain ⟨x, hp, hr, h⟩ := chk_inv chk52_t
  simp only [Bool.and_eq_true, decide_eq_true_eq] at h
  obtain ⟨⟨h1, h2⟩, h3, h4⟩ := h
  obtain ⟨-, r2⟩ := runTo_len hr
  have hrf : rfH hp := r2 (fun c hc => by
    have : c = .inr (9, dflt 9) := by simpa using hc
    rw [this]
    exact trivial)
  have hce := cells_eq hrf h3
  have hlen : hp.1.length = 83 := by
    rw [(cellsB_at h3).1]
    rfl
  unfold fOk at h4
  simp only [Bool.and_eq_true, decide_eq_true_eq] at h4
  obtain ⟨⟨f1, f2, f3, f4, f5⟩, f6⟩ := h4
  obtain ⟨N, n1, n2, n3⟩ := c52 (E := E) (M := memOf hp.1) f1 ⟨f2, by simp, 0, by decide, f3, fun j a hj => by simp at hj⟩ ⟨f4, by simp, 0, by decide, f5, fun j a hj => by simp at hj⟩ (fun i hi => by
    have := all_range.mp f6 i hi
    simpa using this)
  refine ⟨N, ?_, n2, n3.1⟩
  have k1 : Rn E 52 130 [vr 0, vi (nI 0)] [] (cutH 83 1935 (enc (memOf hp.1))) none (cutH 83 1935 (enc N)) := Rn_r (b := 83) (s0 := 1935) n1 (by rw [enc_len, enc_len]) (fun v hv => by
    rcases List.mem_cons.mp hv with z | z
    · cases z; show 0 < 83; decide
    · rcases List.mem_cons.mp z with z | z
      · cases z; exact trivial
      · cases z) (fun v hv => by cases hv) okHp_enc
  rw [h2] at hce
  rw [← hce] at k1
  rw [h1] at hr
  exact runTo_sound (b := 84) hr (by omega) (fun v hv => by
    rcases List.mem_cons.mp hv with z | z
    · cases z; show 0 < 84; decide
    · rcases List.mem_cons.mp z with z | z
      · cases z
      · cases z) (fun v hv => by cases hv) (fun a c ha hc => by
    have : c = .inr (9, dflt 9) := by
      have := List.mem_of_getElem? hc
      simpa using this
    rw [this]
    exact dflt_ok 9) k1
/-! the model's cells are made, whatever lies before them -/
def nw (n : Nat) : hcel := .inl (0, n, .inl (fun _ => 0))
theorem m_new {l : List hcel} {fs : List Value} {t : List hcel} {s pc pc1 n k ad ix : Nat} {x : Int32} {b1 : Nat} {c1 c2 : Int} {pl1 pl2 : List Nat} {rv : Option Value} {hp2 : hh} (hl : l.length = 83)
    (hs : ∀ hp, stA E mt89 hp 2 pc [vr 83] [] = some (pc1, [vr 83], [.int x, .ref 83])) (hx : ¬ x < 0) (hn : x.toNatClampNeg = n ∧ n ≤ 1000)
    (h2 : lku pc1 mt89 = some (.newarray .int, 2, 0, b1, c1, pl1)) (h3 : lku (pc1 + 2) mt89 = some (.putfield ix, 3, 10, k, c2, pl2)) (hk : k < fs.length) (ht : fTy 10 k = some (.array .int)) (had : 84 + t.length = ad)
    (kk : Rn E 89 (pc1 + 5) [vr 83] [] (l ++ .inr (10, fs.set k (.ref ad)) :: (t ++ [nw n]), s + n) rv hp2) : Rn E 89 pc [vr 83] [] (l ++ .inr (10, fs) :: t, s) rv hp2 := by
  refine N_S q89 2 (hs _) ?_
  refine N_B1 (st2 := [.ref ad, .ref 83]) (hp1 := (l ++ .inr (10, fs) :: (t ++ [nw n]), s + n)) q89 h2 rfl ?_ ?_
  · have e : (l ++ (.inr (10, fs) : hcel) :: t).length = ad := by rw [List.length_append, List.length_cons, hl]; omega
    have e2 : (l ++ (.inr (10, fs) : hcel) :: t) ++ [nw n] = l ++ .inr (10, fs) :: (t ++ [nw n]) := by simp
    simp only [stpB, eA, hn.1, hx, hn.2, not_false_eq_true, decide_true, Bool.and_self, if_true, e]
    rw [← e2]
    rfl
  · show Rn E 89 (pc1 + 2) [vr 83] [.ref ad, .ref 83] _ rv hp2
    refine N_B1 (st2 := []) (hp1 := (l ++ .inr (10, fs.set k (.ref ad)) :: (t ++ [nw n]), s + n)) q89 h3 rfl ?_ kk
    have e : (l ++ (.inr (10, fs) : hcel) :: (t ++ [nw n]))[83]? = some (.inr (10, fs)) := by
      rw [List.getElem?_append_right (by omega), hl]
      rfl
    have e2 : (l ++ (.inr (10, fs) : hcel) :: (t ++ [nw n])).set 83 (.inr (10, fs.set k (.ref ad))) = l ++ .inr (10, fs.set k (.ref ad)) :: (t ++ [nw n]) := by
      rw [List.set_append_right _ _ (by omega), hl]
      rfl
    simp only [stpB, e, eA, eB, ht, hk, okv, decide_true, Bool.and_self, if_true, e2]
/-- a new model behind the class's cells -/
def newM (N : mem) : mem := (fun a k => bif Nat.ble 83 a then 0 else N.1 a k, 0)
theorem newM_lo {a : Nat} (h : a < 83) : (newM N).1 a = N.1 a := by
  funext k
  show (bif Nat.ble 83 a then 0 else N.1 a k) = N.1 a k
  rw [show Nat.ble 83 a = false from by
    cases hb : Nat.ble 83 a
    · rfl
    · have := Nat.le_of_ble_eq_true hb
      omega]
  rfl
theorem newM_enc : enc (newM N) = ((cutH 83 1935 (enc N)).1 ++ encL (newM N) 83 (skel.drop 83), 3498) := by
  show (encL (newM N) 0 skel, 3498) = ((encL N 0 skel).take 83 ++ encL (newM N) 83 (skel.drop 83), 3498)
  congr 1
theorem made_m {rv : Option Value} {hp2 : hh} (kk : Rn E 89 119 [vr 83] [] (enc (newM N)) rv hp2) : Rn E 89 0 [vr 83] [] ((cutH 83 1935 (enc N)).1 ++ [.inr (10, dflt 10)], 1960) rv hp2 := by
  rw [newM_enc] at kk
  have hl : ((cutH 83 1935 (enc N)).1).length = 83 := by
    show ((encL N 0 skel).take 83).length = 83
    rw [List.length_take, encL_len]
    rfl
  generalize (cutH 83 1935 (enc N)).1 = l at hl kk ⊢
  refine N_S q89 2 (pc2 := 4) (ls2 := [vr 83]) (st2 := []) rfl ?_
  refine m_new (x := 90) (n := 90) (k := 0) (ad := 84) hl (fun _ => rfl) (by decide +kernel) (by decide +kernel) rfl rfl (by decide +kernel) rfl rfl ?_
  show Rn E 89 12 [vr 83] [] (l ++ .inr (10, [.ref 84, .int 0, .null, .null, .null, .null, .null, .null, .null, .int 0, .null, .int 0, .int 0, .null, .int 0, .int 0, .null, .int 0, .long 0, .null, .int 0, .int 0, .null, .null, .int 0]) :: [nw 90], 2050) rv hp2
  refine m_new (x := 30) (n := 30) (k := 2) (ad := 85) hl (fun _ => rfl) (by decide +kernel) (by decide +kernel) rfl rfl (by decide +kernel) rfl rfl ?_
  show Rn E 89 20 [vr 83] [] (l ++ .inr (10, [.ref 84, .int 0, .ref 85, .null, .null, .null, .null, .null, .null, .int 0, .null, .int 0, .int 0, .null, .int 0, .int 0, .null, .int 0, .long 0, .null, .int 0, .int 0, .null, .null, .int 0]) :: [nw 90, nw 30], 2080) rv hp2
  refine m_new (x := 30) (n := 30) (k := 3) (ad := 86) hl (fun _ => rfl) (by decide +kernel) (by decide +kernel) rfl rfl (by decide +kernel) rfl rfl ?_
  show Rn E 89 28 [vr 83] [] (l ++ .inr (10, [.ref 84, .int 0, .ref 85, .ref 86, .null, .null, .null, .null, .null, .int 0, .null, .int 0, .int 0, .null, .int 0, .int 0, .null, .int 0, .long 0, .null, .int 0, .int 0, .null, .null, .int 0]) :: [nw 90, nw 30, nw 30], 2110) rv hp2
  refine m_new (x := 30) (n := 30) (k := 4) (ad := 87) hl (fun _ => rfl) (by decide +kernel) (by decide +kernel) rfl rfl (by decide +kernel) rfl rfl ?_
  show Rn E 89 36 [vr 83] [] (l ++ .inr (10, [.ref 84, .int 0, .ref 85, .ref 86, .ref 87, .null, .null, .null, .null, .int 0, .null, .int 0, .int 0, .null, .int 0, .int 0, .null, .int 0, .long 0, .null, .int 0, .int 0, .null, .null, .int 0]) :: [nw 90, nw 30, nw 30, nw 30], 2140) rv hp2
  refine m_new (x := 30) (n := 30) (k := 5) (ad := 88) hl (fun _ => rfl) (by decide +kernel) (by decide +kernel) rfl rfl (by decide +kernel) rfl rfl ?_
  show Rn E 89 44 [vr 83] [] (l ++ .inr (10, [.ref 84, .int 0, .ref 85, .ref 86, .ref 87, .ref 88, .null, .null, .null, .int 0, .null, .int 0, .int 0, .null, .int 0, .int 0, .null, .int 0, .long 0, .null, .int 0, .int 0, .null, .null, .int 0]) :: [nw 90, nw 30, nw 30, nw 30, nw 30], 2170) rv hp2
  refine m_new (x := 30) (n := 30) (k := 6) (ad := 89) hl (fun _ => rfl) (by decide +kernel) (by decide +kernel) rfl rfl (by decide +kernel) rfl rfl ?_
  show Rn E 89 52 [vr 83] [] (l ++ .inr (10, [.ref 84, .int 0, .ref 85, .ref 86, .ref 87, .ref 88, .ref 89, .null, .null, .int 0, .null, .int 0, .int 0, .null, .int 0, .int 0, .null, .int 0, .long 0, .null, .int 0, .int 0, .null, .null, .int 0]) :: [nw 90, nw 30, nw 30, nw 30, nw 30, nw 30], 2200) rv hp2
  refine m_new (x := 30) (n := 30) (k := 7) (ad := 90) hl (fun _ => rfl) (by decide +kernel) (by decide +kernel) rfl rfl (by decide +kernel) rfl rfl ?_
  show Rn E 89 60 [vr 83] [] (l ++ .inr (10, [.ref 84, .int 0, .ref 85, .ref 86, .ref 87, .ref 88, .ref 89, .ref 90, .null, .int 0, .null, .int 0, .int 0, .null, .int 0, .int 0, .null, .int 0, .long 0, .null, .int 0, .int 0, .null, .null, .int 0]) :: [nw 90, nw 30, nw 30, nw 30, nw 30, nw 30, nw 30], 2230) rv hp2
  refine m_new (x := 30) (n := 30) (k := 8) (ad := 91) hl (fun _ => rfl) (by decide +kernel) (by decide +kernel) rfl rfl (by decide +kernel) rfl rfl ?_
  show Rn E 89 68 [vr 83] [] (l ++ .inr (10, [.ref 84, .int 0, .ref 85, .ref 86, .ref 87, .ref 88, .ref 89, .ref 90, .ref 91, .int 0, .null, .int 0, .int 0, .null, .int 0, .int 0, .null, .int 0, .long 0, .null, .int 0, .int 0, .null, .null, .int 0]) :: [nw 90, nw 30, nw 30, nw 30, nw 30, nw 30, nw 30, nw 30], 2260) rv hp2
  refine m_new (x := 200) (n := 200) (k := 10) (ad := 92) hl (fun _ => rfl) (by decide +kernel) (by decide +kernel) rfl rfl (by decide +kernel) rfl rfl ?_
  show Rn E 89 77 [vr 83] [] (l ++ .inr (10, [.ref 84, .int 0, .ref 85, .ref 86, .ref 87, .ref 88, .ref 89, .ref 90, .ref 91, .int 0, .ref 92, .int 0, .int 0, .null, .int 0, .int 0, .null, .int 0, .long 0, .null, .int 0, .int 0, .null, .null, .int 0]) :: [nw 90, nw 30, nw 30, nw 30, nw 30, nw 30, nw 30, nw 30, nw 200], 2460) rv hp2
  refine m_new (x := 60) (n := 60) (k := 13) (ad := 93) hl (fun _ => rfl) (by decide +kernel) (by decide +kernel) rfl rfl (by decide +kernel) rfl rfl ?_
  show Rn E 89 85 [vr 83] [] (l ++ .inr (10, [.ref 84, .int 0, .ref 85, .ref 86, .ref 87, .ref 88, .ref 89, .ref 90, .ref 91, .int 0, .ref 92, .int 0, .int 0, .ref 93, .int 0, .int 0, .null, .int 0, .long 0, .null, .int 0, .int 0, .null, .null, .int 0]) :: [nw 90, nw 30, nw 30, nw 30, nw 30, nw 30, nw 30, nw 30, nw 200, nw 60], 2520) rv hp2
  refine m_new (x := 720) (n := 720) (k := 16) (ad := 94) hl (fun _ => rfl) (by decide +kernel) (by decide +kernel) rfl rfl (by decide +kernel) rfl rfl ?_
  show Rn E 89 94 [vr 83] [] (l ++ .inr (10, [.ref 84, .int 0, .ref 85, .ref 86, .ref 87, .ref 88, .ref 89, .ref 90, .ref 91, .int 0, .ref 92, .int 0, .int 0, .ref 93, .int 0, .int 0, .ref 94, .int 0, .long 0, .null, .int 0, .int 0, .null, .null, .int 0]) :: [nw 90, nw 30, nw 30, nw 30, nw 30, nw 30, nw 30, nw 30, nw 200, nw 60, nw 720], 3240) rv hp2
  refine m_new (x := 48) (n := 48) (k := 19) (ad := 95) hl (fun _ => rfl) (by decide +kernel) (by decide +kernel) rfl rfl (by decide +kernel) rfl rfl ?_
  show Rn E 89 102 [vr 83] [] (l ++ .inr (10, [.ref 84, .int 0, .ref 85, .ref 86, .ref 87, .ref 88, .ref 89, .ref 90, .ref 91, .int 0, .ref 92, .int 0, .int 0, .ref 93, .int 0, .int 0, .ref 94, .int 0, .long 0, .ref 95, .int 0, .int 0, .null, .null, .int 0]) :: [nw 90, nw 30, nw 30, nw 30, nw 30, nw 30, nw 30, nw 30, nw 200, nw 60, nw 720, nw 48], 3288) rv hp2
  refine m_new (x := 30) (n := 30) (k := 22) (ad := 96) hl (fun _ => rfl) (by decide +kernel) (by decide +kernel) rfl rfl (by decide +kernel) rfl rfl ?_
  show Rn E 89 110 [vr 83] [] (l ++ .inr (10, [.ref 84, .int 0, .ref 85, .ref 86, .ref 87, .ref 88, .ref 89, .ref 90, .ref 91, .int 0, .ref 92, .int 0, .int 0, .ref 93, .int 0, .int 0, .ref 94, .int 0, .long 0, .ref 95, .int 0, .int 0, .ref 96, .null, .int 0]) :: [nw 90, nw 30, nw 30, nw 30, nw 30, nw 30, nw 30, nw 30, nw 200, nw 60, nw 720, nw 48, nw 30], 3318) rv hp2
  refine m_new (x := 180) (n := 180) (k := 23) (ad := 97) hl (fun _ => rfl) (by decide +kernel) (by decide +kernel) rfl rfl (by decide +kernel) rfl rfl ?_
  show Rn E 89 119 [vr 83] [] (l ++ .inr (10, [.ref 84, .int 0, .ref 85, .ref 86, .ref 87, .ref 88, .ref 89, .ref 90, .ref 91, .int 0, .ref 92, .int 0, .int 0, .ref 93, .int 0, .int 0, .ref 94, .int 0, .long 0, .ref 95, .int 0, .int 0, .ref 96, .ref 97, .int 0]) :: [nw 90, nw 30, nw 30, nw 30, nw 30, nw 30, nw 30, nw 30, nw 200, nw 60, nw 720, nw 48, nw 30, nw 180], 3498) rv hp2
  exact kk
set_option maxRecDepth 16384 in
theorem law_start (hL : E.1 ≤ 2560) : ∃ M2, Rn E 0 0 [some (.retAddr 0), vn, vn, vn] [] ([], 0) (some (.int 1)) (enc M2) := by
  obtain ⟨N, n1, n2, -⟩ := made_c (E := E)
  obtain ⟨K, k1, k2, k3⟩ := k89 (E := E) (M := newM N) rfl
  have hI : InvB K := ⟨_, _, _, _, _, _, _, _, _, _, wf0, (show RC0 K from RC.lo n2 (fun a ha => by rw [k3 a ha, newM_lo ha])), k2⟩
  obtain ⟨M2, g⟩ := law_loop hL E.1 0 K (by omega) (by omega) hI
  refine ⟨M2, ?_⟩
  have hl : ((cutH 83 1935 (enc N)).1).length = 83 := by
    show ((encL N 0 skel).take 83).length = 83
    rw [List.length_take, encL_len]
    rfl
  have k4 := made_m (E := E) k1
  refine N_B1 (st2 := [.ref 0]) (hp1 := ([.inr (9, dflt 9)], 11)) q0 (en := (.new 7, 3, 9, 0, 0, [53, 54, 36])) rfl rfl rfl ?_
  show Rn E 0 3 [some (.retAddr 0), vn, vn, vn] [.ref 0] ([.inr (9, dflt 9)], 11) _ _
  refine N_S q0 1 (pc2 := 4) (ls2 := [some (.retAddr 0), vn, vn, vn]) (st2 := [.ref 0, .ref 0]) rfl ?_
  refine N_C1 (j := 52) (as := [.ref 0]) (r := [.ref 0]) (qj := mi52) (en := (.invokespecial 9, 3, 52, 1, 0, [55, 56, 36])) q0 rfl rfl rfl rfl rfl rfl n1 ?_
  show Rn E 0 7 [some (.retAddr 0), vn, vn, vn] [.ref 0] (cutH 83 1935 (enc N)) _ _
  refine N_S q0 1 (pc2 := 8) (ls2 := [some (.retAddr 0), vr 0, vn, vn]) (st2 := []) rfl ?_
  refine N_B1 (st2 := [.ref 83]) (hp1 := ((cutH 83 1935 (enc N)).1 ++ [.inr (10, dflt 10)], 1960)) q0 (en := (.new 10, 3, 10, 0, 0, [697, 698, 52])) rfl rfl ?_ ?_
  · show some ([Value.ref (cutH 83 1935 (enc N)).1.length], (cutH 83 1935 (enc N)).1 ++ [.inr (10, dflt 10)], 1935 + 25) = _
    rw [hl]
  · show Rn E 0 11 [some (.retAddr 0), vr 0, vn, vn] [.ref 83] _ _ _
    refine N_S q0 1 (pc2 := 12) (ls2 := [some (.retAddr 0), vr 0, vn, vn]) (st2 := [.ref 83, .ref 83]) rfl ?_
    refine N_C1 (j := 89) (as := [.ref 83]) (r := [.ref 83]) (qj := mi89) (en := (.invokespecial 12, 3, 89, 1, 0, [699, 700, 52])) q0 rfl rfl rfl rfl rfl rfl k4 ?_
    show Rn E 0 15 [some (.retAddr 0), vr 0, vn, vn] [.ref 83] (enc K) _ _
    refine N_S q0 3 (pc2 := 18) (ls2 := [some (.retAddr 0), vr 0, vr 83, vi 0]) (st2 := []) rfl ?_
    exact g
end CTOR
theorem pure_all : PureAll := by
  intro L xs hL
  obtain ⟨M2, n, h⟩ := law_start (E := (L, xs)) hL
  refine ⟨n, enc M2, h, ?_, ?_⟩
  · rw [enc_len]; decide
  · show 3498 ≤ 7302250; decide
