/-! marks -/
theorem x64_and (x y : Int64) : (x ^^^ y) &&& 1 = (x &&& 1) ^^^ (y &&& 1) := by
  apply Int64.toBitVec_inj.mp
  simp only [Int64.toBitVec_and, Int64.toBitVec_xor]
  apply BitVec.eq_of_getLsbD_eq
  intro i hi
  simp only [BitVec.getLsbD_and, BitVec.getLsbD_xor]
  cases x.toBitVec.getLsbD i <;> cases y.toBitVec.getLsbD i <;> cases (1 : Int64).toBitVec.getLsbD i <;> rfl
theorem mb_one : ∀ i, i < 30 → ∀ j, j < 30 → mb (1 <<< ((nI j).toInt64 &&& 63)) i = if i = j then 1 else 0 := by decide +kernel
theorem mb_xor (L K : Int64) (i : Nat) : mb (L ^^^ K) i = mb L i ^^^ mb K i := by
  unfold mb
  rw [Int64.shiftRight_xor, x64_and]
def setB (m : Nat → Bool) (p : Nat) (v : Bool) : Nat → Bool := fun j => if j = p then v else m j
theorem setB_eq {m : Nat → Bool} {p : Nat} {v : Bool} : setB m p v p = v := if_pos rfl
theorem setB_ne {m : Nat → Bool} {p i : Nat} {v : Bool} (h : i ≠ p) : setB m p v i = m i := if_neg h
theorem mMk_fl {mk : Nat → Bool} {M : mem} (h : mMk mk M) {p : Nat} (hp : p < 30) {N : mem} (hN : N.2 = M.2 ^^^ (1 <<< ((nI p).toInt64 &&& 63))) : mMk (setB mk p (!mk p)) N := by
  intro i hi
  rw [hN, mb_xor, h i hi, mb_one i hi p hp]
  by_cases hip : i = p
  · subst hip
    rw [setB_eq, if_pos rfl]
    cases mk i <;> decide
  · rw [setB_ne hip, if_neg hip]
    cases mk i <;> decide
theorem cMk_up {mk : Nat → Bool} {M : mem} (h : cMk mk M) {p : Nat} {b : Bool} {v : Int32} (hv : v = b2 b) : cMk (setB mk p b) (upM M 77 p v) := by
  intro i hi
  by_cases hip : i = p
  · rw [hip, setB_eq, upM_eq, hv]
  · rw [setB_ne hip, upM_nk hip]; exact h i hi
def putF (how : Bool) (s : (Nat → Bool) × Int32) (p : Nat) : (Nat → Bool) × Int32 := if s.1 p = how then s else (setB s.1 p how, s.2 + 1)
def flF (m : Nat → Bool) (p : Nat) : Nat → Bool := setB m p (!m p)
theorem put_off {how : Bool} {i : Nat} : ∀ (w : List Nat) (s : (Nat → Bool) × Int32), i ∉ w → (w.foldl (putF how) s).1 i = s.1 i
  | [], s, _ => rfl
  | a :: r, s, h => by
    rw [List.foldl_cons, put_off r _ (fun z => h (List.mem_cons_of_mem _ z))]
    have hi : i ≠ a := fun z => h (by rw [z]; exact List.mem_cons_self)
    unfold putF
    split
    · rfl
    · exact setB_ne hi
theorem fl_off {i : Nat} : ∀ (w : List Nat) (m : Nat → Bool), i ∉ w → w.foldl flF m i = m i
  | [], m, _ => rfl
  | a :: r, m, h => by
    rw [List.foldl_cons, fl_off r _ (fun z => h (List.mem_cons_of_mem _ z))]
    exact setB_ne (fun z => h (by rw [z]; exact List.mem_cons_self))
theorem b2_eq {a b : Bool} : b2 a = b2 b ↔ a = b := by cases a <;> cases b <;> decide
theorem nar_b2 (b : Bool) : vp_nar .boolean (b2 b) = b2 b := by cases b <;> rfl
section MARKS
variable {tx : List Int32} {n : Nat} {up : Nat → Nat} {t : trf} {ac : accs} {pa ke : List accs} {mk mk' : Nat → Bool} {wa wa' : List wat} {so so' : Nat} {M N : mem} {E : env} {w : List Nat}
theorem RC.mks (h : RC tx n up t ac pa ke mk wa so M) (e : eqOff [77] M N) (g : cMk mk' N) : RC tx n up t ac pa ke mk' wa so N := by
  obtain ⟨g1, g2, g3, g4, g5, g6, g7, g8⟩ := h
  have e : ∀ a, a ≠ 77 → N.1 a = M.1 a := fun a ha => e.2 a (by simpa using ha)
  exact ⟨g1.cg (e _ (by omega)) (e _ (by omega)), g2.cg (fun a _ _ => e a (by omega)), g3.cg (e _ (by omega)) (e _ (by omega)) (e _ (by omega)), g4.cg (by omega) (e _ (by omega)) (fun a _ _ => e a (by omega)), g5.cg (by omega) (e _ (by omega)) (fun a _ _ => e a (by omega)), g, g7.cg (fun a _ _ => e a (by omega)), fun i hi => by rw [e 73 (by omega)]; exact g8 i hi⟩
theorem RM.mks (h : RM tx n up t ac pa ke mk wa so M) (e : N.1 = M.1) (g : mMk mk' N) : RM tx n up t ac pa ke mk' wa so N := by
  obtain ⟨g1, g2, g3, g4, g5, g6, g7⟩ := h
  exact ⟨g1.cg (by rw [e]) (by rw [e]), g2.cg (by rw [e]) (fun a _ _ => by rw [e]), g3.mk (fun i _ => by rw [e]), g4.cg (by rw [e]) (by rw [e]), g5.cg (by rw [e]) (by rw [e]), g, g7.cg (by rw [e]) (by rw [e]) (by rw [e])⟩
theorem s11 {how : Bool} (h : rtIs w M) (hm : cMk mk M) : ∃ N, Rm E 11 0 [vr 76, vr 70, vi (b2 how), vn, vn] [] M (some (.int (w.foldl (putF how) (mk, 0)).2)) N ∧ eqOff [77] M N ∧ cMk (w.foldl (putF how) (mk, 0)).1 N := by
  have key := foldR w (putF how) (fun s k fin => ∀ N, rtIs w N → cMk s.1 N → eqOff [77] M N → ∃ N', Rm E 11 5 [vr 76, vr 70, vi (b2 how), vi s.2, vi (nI k)] [] N (some (.int fin.2)) N' ∧ eqOff [77] M N' ∧ cMk fin.1 N') (fun s N hN hm he => ⟨N, b11_5_0 (rt_ex hN), he, hm⟩) (fun s k p fin hk ih N hN hm he => by
    obtain ⟨-, -, e0, e1, e2, e3, e4, e5, e6⟩ := rt_st hN hk
    by_cases hb : s.1 p = how
    · rw [show putF how s p = s from if_pos hb] at ih
      obtain ⟨N', h1, h2, h3⟩ := ih N hN hm he
      refine ⟨N', ?_, h2, h3⟩
      refine b11_5_1 e1 e2 (by rw [e3, e4]; exact e5) (by rw [e3, e4, e6, hm p e0, hb]) ?_
      rw [nI_1]
      exact h1
    · rw [show putF how s p = (setB s.1 p how, s.2 + 1) from if_neg hb] at ih
      obtain ⟨N', h1, h2, h3⟩ := ih (upM N 77 p (b2 how)) (hN.cg (upM_ne (by decide)) (upM_ne (by decide))) (cMk_up hm rfl) (he.up (by simp))
      refine ⟨N', ?_, h2, h3⟩
      refine b11_5_2 e1 e2 (by rw [e3, e4]; exact e5) (by rw [e3, e4, e6, hm p e0, b2_eq]; exact hb) e2 (by rw [e3, e4]; exact e5) rfl ?_
      rw [e3, e4, e6, nI_1, nar_b2]
      exact h1) (mk, 0)
  obtain ⟨N, h1, h2, h3⟩ := key M h hm eqOff.rf
  exact ⟨N, b11_0_0 h1, h2, h3⟩
theorem s12 (h : rtIs w M) (hm : cMk mk M) : ∃ N, Rm E 12 0 [vr 76, vr 70, vn] [] M none N ∧ eqOff [77] M N ∧ cMk (w.foldl flF mk) N := by
  have key := foldR w flF (fun s k fin => ∀ N, rtIs w N → cMk s N → eqOff [77] M N → ∃ N', Rm E 12 2 [vr 76, vr 70, vi (nI k)] [] N none N' ∧ eqOff [77] M N' ∧ cMk fin N') (fun s N hN hm he => ⟨N, b12_2_0 (rt_ex hN), he, hm⟩) (fun s k p fin hk ih N hN hm he => by
    obtain ⟨-, -, e0, e1, e2, e3, e4, e5, e6⟩ := rt_st hN hk
    obtain ⟨N', h1, h2, h3⟩ := ih (upM N 77 p (b2 (!s p))) (hN.cg (upM_ne (by decide)) (upM_ne (by decide))) (cMk_up hm rfl) (he.up (by simp))
    refine ⟨N', ?_, h2, h3⟩
    cases hb : s p
    · refine b12_2_2 e1 e2 e2 (by rw [e3, e4]; exact e5) (fun z => z (by rw [e3, e4, e6, hm p e0, hb]; rfl)) (by rw [e3, e4]; exact e5) rfl ?_
      rw [e3, e4, e6, nI_1]
      rw [hb] at h1
      exact h1
    · refine b12_2_1 e1 e2 e2 (by rw [e3, e4]; exact e5) (by rw [e3, e4, e6, hm p e0, hb]; decide) (by rw [e3, e4]; exact e5) rfl ?_
      rw [e3, e4, e6, nI_1]
      rw [hb] at h1
      exact h1) mk
  obtain ⟨N, h1, h2, h3⟩ := key M h hm eqOff.rf
  exact ⟨N, b12_0_0 h1, h2, h3⟩
theorem m129 {x : Int32} (h : waIs w M) (hm : mMk mk M) : ∃ N, Rm E 129 40 [vr 83, vn, vn, vi x, vi 0, vi 0, vn] [] M (some (.int (w.foldl (putF (decide (x = 1))) (mk, 0)).2)) N ∧ N.1 = M.1 ∧ mMk (w.foldl (putF (decide (x = 1))) (mk, 0)).1 N := by
  have key := foldR w (putF (decide (x = 1))) (fun s k fin => ∀ N, waIs w N → mMk s.1 N → N.1 = M.1 → ∃ N', Rm E 129 40 [vr 83, vn, vn, vi x, vi s.2, vi (nI k), vn] [] N (some (.int fin.2)) N' ∧ N'.1 = M.1 ∧ mMk fin.1 N') (fun s N hN hm he => ⟨N, b129_40_0 (wa_ex hN), he, hm⟩) (fun s k p fin hk ih N hN hm he => by
    obtain ⟨-, -, e0, e1, e2, e3, e4, e5, -, e6⟩ := wa_st hN hk
    have hmk : Rm E 128 0 [vr 83, vi (N.1 93 (nI k).toNatClampNeg)] [] N (some (.int (b2 (s.1 p)))) N := by rw [e3, e4]; exact s128 hm e0
    have same : mMk s.1 (N.1, N.2 ^^^ 0) := hm.cg (Int64.xor_zero)
    by_cases hb : s.1 p = decide (x = 1)
    · rw [show putF (decide (x = 1)) s p = s from if_pos hb] at ih
      obtain ⟨N', h1, h2, h3⟩ := ih (N.1, N.2 ^^^ 0) (hN.cg rfl rfl) same he
      refine ⟨N', ?_, h2, h3⟩
      by_cases hx : x = 1
      · refine b129_40_3 e1 e2 hmk (fun z => z hx) (by rw [hb, decide_eq_true hx]; rfl) rfl ?_
        rw [nI_1, Int32.add_zero]
        exact h1
      · refine b129_40_1 e1 e2 hmk hx (by rw [hb, decide_eq_false hx]; rfl) rfl ?_
        rw [nI_1, Int32.add_zero]
        exact h1
    · have hfl : setB s.1 p (decide (x = 1)) = setB s.1 p (!s.1 p) := by
        congr 1
        revert hb
        cases s.1 p <;> cases decide (x = 1) <;> simp
      rw [show putF (decide (x = 1)) s p = (setB s.1 p (decide (x = 1)), s.2 + 1) from if_neg hb, hfl] at ih
      obtain ⟨N', h1, h2, h3⟩ := ih (N.1, N.2 ^^^ (1 <<< ((nI p).toInt64 &&& 63))) (hN.cg rfl rfl) (mMk_fl hm e0 rfl) he
      refine ⟨N', ?_, h2, h3⟩
      by_cases hx : x = 1
      · refine b129_40_4 e1 e2 hmk (fun z => z hx) (by rw [decide_eq_true hx] at hb; cases hs : s.1 p; decide; exact absurd hs hb) e2 rfl ?_
        rw [e3, e4, nI_1]
        exact h1
      · refine b129_40_2 e1 e2 hmk hx (by rw [decide_eq_false hx] at hb; cases hs : s.1 p; exact absurd hs hb; decide) e2 rfl ?_
        rw [e3, e4, nI_1]
        exact h1) (mk, 0)
  exact key M h hm rfl
theorem m131 {c : Int32} (h : waIs w M) (hm : mMk mk M) (hc : ∀ N, N.1 = M.1 → mMk (w.foldl flF mk) N → Rm E 130 0 [vr 83, vn, vn] [] N (some (.int c)) N) : ∃ N, Rm E 131 17 [vr 83, vn, vi 0] [] M (some (.int c)) N ∧ N.1 = M.1 ∧ mMk (w.foldl flF mk) N := by
  have key := foldR w flF (fun s k fin => (∀ N, N.1 = M.1 → mMk fin N → Rm E 130 0 [vr 83, vn, vn] [] N (some (.int c)) N) → ∀ N, waIs w N → mMk s N → N.1 = M.1 → ∃ N', Rm E 131 17 [vr 83, vn, vi (nI k)] [] N (some (.int c)) N' ∧ N'.1 = M.1 ∧ mMk fin N') (fun s hc N hN hm he => ⟨N, b131_17_0 (wa_ex hN) (hc N he hm), he, hm⟩) (fun s k p fin hk ih hc N hN hm he => by
    obtain ⟨-, -, e0, e1, e2, e3, e4, e5, -, e6⟩ := wa_st hN hk
    obtain ⟨N', h1, h2, h3⟩ := ih hc (N.1, N.2 ^^^ (1 <<< ((nI p).toInt64 &&& 63))) (hN.cg rfl rfl) (mMk_fl hm e0 rfl) he
    refine ⟨N', ?_, h2, h3⟩
    refine b131_17_1 e1 e2 rfl ?_
    rw [e3, e4, nI_1]
    exact h1) mk
  exact key hc M h hm rfl
theorem wfS.mkn (hw : wfS tx n up t ac pa ke mk wa) (h : ∀ i, n ≤ i → mk' i = false) : wfS tx n up t ac pa ke mk' wa := ⟨hw.1, hw.2.1, hw.2.2.1, hw.2.2.2.1, hw.2.2.2.2.1, hw.2.2.2.2.2.1, h, hw.2.2.2.2.2.2.2⟩
theorem op_mark (hI : InvB M) {x y z : Int32} : Op2 E 68 129 [vr 0, vi x, vi y, vi z] [vr 83, vi x, vi y, vi z, vn, vn, vn] M := by
  obtain ⟨tx, n, up, t, ac, pa, ke, mk, wa, so, hw, hC, hM⟩ := hI
  have hn := hw.2.1.2.1
  rcases pst hn x with h | ⟨u, hu, rfl, h⟩
  · exact mkRd0 hw hC hM (b68_0_0 (cPst hC) (b2_f h)) (fun N1 hN => b129_0_0 (mPst hw hN) (b2_f h))
  rcases pst hn y with h2 | ⟨v, hv, rfl, h2⟩
  · exact mkRd0 hw hC hM (b68_0_1 (cPst hC) (b2_t h) (cPst hC) (b2_f h2)) (fun N1 hN => b129_0_1 (mPst hw hN) (b2_t h) (mPst hw hN) (b2_f h2))
  have in1 : ∀ {N1 : mem}, Rm E 88 0 [vl z.toInt64, vn, vl 0, vn, vl 1, vn] [] N1 (some (.int (b01 (0 ≤ z ∧ z ≤ 1)))) N1 := fun {N1} => s88i (y := 0) (z := 1) rfl rfl
  by_cases hz : 0 ≤ z ∧ z ≤ 1
  · refine mkOp (so' := so) (c := ((wy up u v).foldl (putF (decide (z = 1))) (mk, 0)).2) (mk' := ((wy up u v).foldl (putF (decide (z = 1))) (mk, 0)).1) hM (hw.mkn (fun i hi => ?_)) ?_ (fun N1 hN => ?_)
    · rw [put_off _ _ (fun hm => by have := (way_n hw.2.1.2.2.1 hu hv).1 i hm; omega)]
      exact hw.2.2.2.2.2.2.1 i hi
    · obtain ⟨K, k1, k2, k3, k4, k5, k6⟩ := cLead (E := E) hw hC hu hv
      obtain ⟨J, j1, j2, j3⟩ := s11 (E := E) (how := decide (z = 1)) k5 k2.2.2.2.2.2.1
      refine ⟨J, ?_, k2.mks j2 j3, k4.tr ⟨j2.1, fun a ha => j2.2 a (by simp; omega)⟩⟩
      by_cases hz1 : z = 1
      · rw [decide_eq_true hz1] at j1 ⊢
        exact b68_0_3 (cPst hC) (b2_t h) (cPst hC) (b2_t h2) s81 (b01_n hz) k1 (fun q => q hz1) j1
      · rw [decide_eq_false hz1] at j1 ⊢
        exact b68_0_2 (cPst hC) (b2_t h) (cPst hC) (b2_t h2) s81 (b01_n hz) k1 hz1 j1
    · obtain ⟨K, k1, k2, k3, k4, k5, k6⟩ := mLays (E := E) hw hN hu hv
      obtain ⟨J, j1, j2, j3⟩ := m129 (E := E) (x := z) k5 k2.2.2.2.2.2.1
      exact ⟨J, b129_0_2 (mPst hw hN) (b2_t h) (mPst hw hN) (b2_t h2) in1 (b01_n hz) k1 j1, k2.mks j2 j3, k4.tr (fun a _ => by rw [j2])⟩
  · exact mkRd0 hw hC hM (b68_0_4 (cPst hC) (b2_t h) (cPst hC) (b2_t h2) s81 (fun q => q (b01_0.mpr hz))) (fun N1 hN => b129_0_3 (mPst hw hN) (b2_t h) (mPst hw hN) (b2_t h2) in1 (fun q => q (b01_0.mpr hz)))
theorem op_turn (hI : InvB M) {x : Int32} : Op2 E 69 131 [vr 0, vi x] [vr 83, vi x, vn] M := by
  obtain ⟨tx, n, up, t, ac, pa, ke, mk, wa, so, hw, hC, hM⟩ := hI
  have hn := hw.2.1.2.1
  rcases pst hn x with h | ⟨u, hu, rfl, h⟩
  · exact mkRd0 hw hC hM (b69_0_1 (cPst hC) (fun q => q (b2_f h))) (fun N1 hN => b131_0_1 (mPst hw hN) (fun q => q (b2_f h)))
  have hm' : ∀ i, n ≤ i → (cvL t u).foldl flF mk i = false := fun i hi => by
    rw [fl_off _ _ (fun hm => by have := (cvL_n hw.2.1 hu).1 i hm; omega)]
    exact hw.2.2.2.2.2.2.1 i hi
  refine mkOp (so' := so) (c := mkW ((cvL t u).foldl flF mk) (List.range n)) (mk' := (cvL t u).foldl flF mk) hM (hw.mkn hm') ?_ (fun N1 hN => ?_)
  · obtain ⟨K, k1, k2, k3, k4, k5⟩ := cCover (E := E) hw hC hu
    obtain ⟨J, j1, j2, j3⟩ := s12 (E := E) k5 k2.2.2.2.2.2.1
    refine ⟨J, ?_, k2.mks j2 j3, k4.tr ⟨j2.1, fun a ha => j2.2 a (by simp; omega)⟩⟩
    rw [← mkW_range hn hm']
    exact b69_0_0 (cPst hC) (b2_t h) k1 j1 (s9 j3)
  · obtain ⟨K, k1, k2, k3, k4, k5⟩ := mBelow (E := E) hw hN hu
    obtain ⟨J, j1, j2, j3⟩ := m131 (E := E) (c := mkW ((cvL t u).foldl flF mk) (List.range n)) k5 k2.2.2.2.2.2.1 (fun N e g => s130 g hn (by rw [e]; exact k2.2.1.1))
    exact ⟨J, b131_0_0 (mPst hw hN) (b2_t h) k1 j1, k2.mks j2 j3, k4.tr (fun a _ => by rw [j2])⟩
def ffS (P : Nat → Bool) : Nat → Nat → Int32
  | 0, _ => -4
  | d + 1, k => if P k then nI k else ffS P d (k + 1)
theorem ffS_s (P : Nat → Bool) (d k : Nat) : ffS P (d + 1) k = if P k then nI k else ffS P d (k + 1) := rfl
theorem s13 (hO : trOk n up t) (hT : cTr n up t M) (hm : cMk mk M) : ∀ d k, n - k = d → k ≤ n → Rm E 13 2 [vr 76, vr 9, vn, vi (nI k)] [] M (some (.int (ffS (fun p => mk (t.2.2.1 p)) d k))) M := by
  have hn := hO.2.1
  intro d
  induction d with
  | zero =>
    intro k hd hk
    exact b13_2_0 (by rw [hT.1]; exact nI_le (by omega) (by omega))
  | succ d ih =>
    intro k hd hk
    have hkn : k < n := by omega
    have h0 : ¬ (M.1 9 0 ≤ nI k) := by rw [hT.1, nI_leI (by omega) (by omega)]; omega
    have hc : (nI k).toNatClampNeg = k := clampI (by omega)
    have hrw := (hT.2.2 k hkn).2.2.2.2.1
    have hrn := hO.2.2.2.2.1 k hkn
    have hc2 : (nI (t.2.2.1 k)).toNatClampNeg = t.2.2.1 k := clampI (by omega)
    unfold ffS
    cases hb : mk (t.2.2.1 k)
    · refine b13_2_1 h0 (inR_nI (by omega) (by omega)) (by rw [hc, hrw]; exact inR_nI (by omega) (by omega)) (by rw [hc, hrw, hc2, hm _ (by omega), hb]; rfl) ?_
      rw [nI_1]
      exact ih (k + 1) (by omega) (by omega)
    · refine b13_2_2 h0 (inR_nI (by omega) (by omega)) (by rw [hc, hrw]; exact inR_nI (by omega) (by omega)) (by rw [hc, hrw, hc2, hm _ (by omega), hb]; decide)
theorem m132 (hO : trOk n up t) (hT : mTr n up t M) (hm : mMk mk M) {pl : Nat} : ∀ d j, j - pl = d → pl ≤ j → j ≤ n → Rm E 132 20 [vr 83, vi (nI pl), vi (ffS (fun p => mk (t.2.2.1 p)) (n - j) j), vi (nI j - 1)] [] M (some (.int (ffS (fun p => mk (t.2.2.1 p)) (n - pl) pl))) M := by
  have hn := hO.2.1
  intro d
  induction d with
  | zero =>
    intro j hd hj hjn
    obtain rfl : j = pl := by omega
    refine b132_20_0 ?_
    cases j with
    | zero => decide
    | succ j => rw [dnI]; exact nI_lt (by omega) (by omega)
  | succ d ih =>
    intro j hd hj hjn
    obtain ⟨k, rfl⟩ : ∃ k, j = k + 1 := ⟨j - 1, by omega⟩
    rw [dnI]
    have hkn : k < n := by omega
    have hc : (nI k).toNatClampNeg = k := clampI (by omega)
    have hrw := (hT.2 k hkn).2.2.2.2.1
    have hrn := hO.2.2.2.2.1 k hkn
    have hmk : Rm E 128 0 [vr 83, vi (M.1 91 (nI k).toNatClampNeg)] [] M (some (.int (b2 (mk (t.2.2.1 k))))) M := by rw [hc, hrw]; exact s128 hm (by omega)
    have h0 : ¬ (nI k < nI pl) := nI_nlt (by omega) (by omega)
    have ih := ih k (by omega) (by omega) (by omega)
    rw [show ffS (fun p => mk (t.2.2.1 p)) (n - k) k = if mk (t.2.2.1 k) then nI k else ffS (fun p => mk (t.2.2.1 p)) (n - (k + 1)) (k + 1) by rw [show n - k = (n - (k + 1)) + 1 by omega]; rfl] at ih
    cases hb : mk (t.2.2.1 k)
    · refine b132_20_1 h0 (inR_nI (by omega) (by omega)) hmk (b2_f hb) ?_
      rw [negI]
      rw [hb] at ih
      exact ih
    · refine b132_20_2 h0 (inR_nI (by omega) (by omega)) hmk (b2_t hb) ?_
      rw [negI]
      rw [hb] at ih
      exact ih
theorem op_marked (hI : InvB M) {x : Int32} : Op2 E 70 132 [vr 0, vi x] [vr 83, vi x, vn, vn] M := by
  obtain ⟨tx, n, up, t, ac, pa, ke, mk, wa, so, hw, hC, hM⟩ := hI
  have hn := hw.2.1.2.1
  rcases pst hn x with h | ⟨u, hu, rfl, h⟩
  · exact mkRd0 hw hC hM (b70_0_0 (cPst hC) (b2_f h)) (fun N1 hN => b132_0_1 (mPst hw hN) (fun q => q (b2_f h)))
  · refine mkRd0 hw hC hM (b70_0_1 (cPst hC) (b2_t h) (b13_0_0 (s13 hw.2.1 hC.2.1 hC.2.2.2.2.2.1 _ u rfl (by omega)))) (fun N1 hN => b132_0_0 (mPst hw hN) (b2_t h) ?_)
    have := m132 (E := E) hw.2.1 hN.2.1 hN.2.2.2.2.2.1 (pl := u) _ n rfl (by omega) (by omega)
    rw [Nat.sub_self] at this
    rw [hN.2.1.1]
    exact this
def nrF (up : Nat → Nat) (mk : Nat → Bool) (u : Nat) (s : Option Nat) (p : Nat) : Option Nat := if mk p then (match s with | none => some p | some b => if (wy up u p).length < (wy up u b).length then some p else some b) else s
def nrA (s : Option Nat) : Int32 := match s with | none => -4 | some b => nI b
theorem s14 (hO : trOk n up t) {u : Nat} (hu : u < n) (hR : ∀ i, i < n → M.1 74 i = nI (wy up u i).length) (hm : cMk mk M) : Rm E 14 0 [vr 76, vi (nI n), vr 74, vn, vn] [] M (some (.int (nrA ((List.range n).foldl (nrF up mk u) none)))) M := by
  have hn := hO.2.1
  have hU := hO.2.2.1
  refine b14_0_0 ?_
  refine foldN n (nrF up mk u) (fun s k fin => (∀ b, s = some b → b < n) → Rm E 14 6 [vr 76, vi (nI n), vr 74, vi (nrA s), vi (nI k)] [] M (some (.int (nrA fin))) M) (fun s _ => b14_6_0 (nI_le (Nat.le_refl _) (by omega))) (fun s k fin hk ih hs => ?_) none (fun b hb => by cases hb)
  have h0 : ¬ (nI n ≤ nI k) := by rw [nI_leI (by omega) (by omega)]; omega
  have hc : (nI k).toNatClampNeg = k := clampI (by omega)
  have hr : inR (nI k) 30 := inR_nI (by omega) (by omega)
  have hlk := (way_n hU hu hk).2.1
  unfold nrF at ih
  cases hb : mk k
  · rw [hb] at ih
    refine b14_6_1 h0 hr (by rw [hc, hm k (by omega), hb]; rfl) ?_
    rw [nI_1]
    exact ih hs
  · rw [hb] at ih
    have h1 : ¬ (M.1 77 (nI k).toNatClampNeg = 0) := by rw [hc, hm k (by omega), hb]; decide
    cases s with
    | none =>
      refine b14_6_2 h0 hr h1 rfl ?_
      rw [nI_1]
      exact ih (fun b hb => by cases hb; exact hk)
    | some b =>
      have hbn := hs b rfl
      have hlb := (way_n hU hu hbn).2.1
      have hcb : (nI b).toNatClampNeg = b := clampI (by omega)
      have hne : ¬ (nI b = -4) := fun z => by
        have := nI_pos (n := b) (by omega)
        rw [z] at this
        exact this (by decide)
      by_cases hl : (wy up u k).length < (wy up u b).length
      · refine b14_6_4 h0 hr h1 hne hr (inR_nI (by omega) (by omega)) (by show ¬ (M.1 74 (nI b).toNatClampNeg ≤ _); rw [hc, hcb, hR k hk, hR b hbn, nI_leI (by omega) (by omega)]; omega) ?_
        rw [nI_1]
        have ih2 := ih (fun c hc => by simp only [if_true] at hc; rw [if_pos hl] at hc; cases hc; exact hk)
        simp only [if_true] at ih2
        rw [if_pos hl] at ih2
        exact ih2
      · refine b14_6_3 h0 hr h1 hne hr (inR_nI (by omega) (by omega)) (by show M.1 74 (nI b).toNatClampNeg ≤ _; rw [hc, hcb, hR k hk, hR b hbn]; exact nI_le (by omega) (by omega)) ?_
        rw [nI_1]
        have ih2 := ih (fun c hc => by simp only [if_true] at hc; rw [if_neg hl] at hc; cases hc; exact hbn)
        simp only [if_true] at ih2
        rw [if_neg hl] at ih2
        exact ih2
def nrL (up : Nat → Nat) (u : Nat) (s : Option Nat) : Int32 := match s with | none => 99 | some b => nI (wy up u b).length
theorem m133 (hw : wfS tx n up t ac pa ke mk wa) (hM : RM tx n up t ac pa ke mk wa so M) {u : Nat} (hu : u < n) : ∃ N', Rm E 133 19 [vr 83, vi (nI u), vi (-4), vi 99, vi 0] [] M (some (.int (nrA ((List.range n).foldl (nrF up mk u) none)))) N' ∧ keepM M N' ∧ loM M N' := by
  have hn := hw.2.1.2.1
  have hU := hw.2.1.2.2.1
  have key := foldN n (nrF up mk u) (fun s k fin => ∀ N, RM tx n up t ac pa ke mk wa so N → keepM M N → loM M N → (∀ b, s = some b → b < n) → ∃ N', Rm E 133 19 [vr 83, vi (nI u), vi (nrA s), vi (nrL up u s), vi (nI k)] [] N (some (.int (nrA fin))) N' ∧ keepM M N' ∧ loM M N') (fun s N hN h1 h2 _ => ⟨N, b133_19_0 (by rw [hN.2.1.1]; exact nI_le (Nat.le_refl _) (by omega)), h1, h2⟩) (fun s k fin hk ih N hN g1 g2 hs => by
    have h0 : ¬ (N.1 83 1 ≤ nI k) := by rw [hN.2.1.1, nI_leI (by omega) (by omega)]; omega
    have hmk : Rm E 128 0 [vr 83, vi (nI k)] [] N (some (.int (b2 (mk k)))) N := s128 hN.2.2.2.2.2.1 (by omega)
    unfold nrF at ih
    cases hb : mk k
    · rw [hb] at ih
      obtain ⟨N', r1, r2⟩ := ih N hN g1 g2 hs
      refine ⟨N', ?_, r2⟩
      refine b133_19_1 h0 hmk (b2_f hb) ?_
      rw [nI_1]
      exact r1
    · rw [hb] at ih
      simp only [if_true] at ih
      obtain ⟨K, k1, k2, k3, k4, k5, k6⟩ := mLays (E := E) hw hN hu hk
      have hlk := (way_n hU hu hk).2.1
      have kk : keepM M K := ⟨k3.1.trans g1.1, fun a ha => (k3.2.1 a ha).trans (g1.2.1 a ha), fun a ha => (k3.2.2 a ha).trans (g1.2.2 a ha)⟩
      have taken : nrF up mk u s k = some k → ¬ (nrL up u s ≤ K.1 83 14) → ∃ N', Rm E 133 19 [vr 83, vi (nI u), vi (nrA s), vi (nrL up u s), vi (nI k)] [] N (some (.int (nrA fin))) N' ∧ keepM M N' ∧ loM M N' := by
        intro e1 e2
        unfold nrF at e1
        rw [hb] at e1
        simp only [if_true] at e1
        rw [e1] at ih
        obtain ⟨N', r1, r2⟩ := ih K k2 kk (g2.tr k4) (fun b hb => by cases hb; exact hk)
        refine ⟨N', b133_19_5 h0 hmk (b2_t hb) k1 e2 e2 ?_, r2⟩
        rw [nI_1, k5.1]
        exact r1
      have left : nrF up mk u s k = s → nrL up u s ≤ K.1 83 14 → ∃ N', Rm E 133 19 [vr 83, vi (nI u), vi (nrA s), vi (nrL up u s), vi (nI k)] [] N (some (.int (nrA fin))) N' ∧ keepM M N' ∧ loM M N' := by
        intro e1 e2
        unfold nrF at e1
        rw [hb] at e1
        simp only [if_true] at e1
        rw [e1] at ih
        obtain ⟨N', r1, r2⟩ := ih K k2 kk (g2.tr k4) hs
        refine ⟨N', b133_19_2 h0 hmk (b2_t hb) k1 e2 e2 ?_, r2⟩
        rw [nI_1]
        exact r1
      cases s with
      | none => exact taken (by unfold nrF; rw [hb]; rfl) (by rw [k5.1]; show ¬ (nI 99 ≤ _); rw [nI_leI (by omega) (by omega)]; omega)
      | some b =>
        have hlb := (way_n hU hu (hs b rfl)).2.1
        by_cases hl : (wy up u k).length < (wy up u b).length
        · exact taken (by unfold nrF; rw [hb]; simp only [if_true]; rw [if_pos hl]) (by rw [k5.1]; show ¬ (nI _ ≤ _); rw [nI_leI (by omega) (by omega)]; omega)
        · exact left (by unfold nrF; rw [hb]; simp only [if_true]; rw [if_neg hl]) (by rw [k5.1]; exact nI_le (by omega) (by omega))) none
  exact key M hM keepM.rf loM.rf (fun b hb => by cases hb)
theorem sum_ones {g : Nat → Int32} {w : List Nat} (h : ∀ p ∈ w, g p = 1) : sumW g w = nI w.length := by
  induction w with
  | nil => rfl
  | cons a r ih =>
    rw [sumW_cons, h a List.mem_cons_self, ih (fun p hp => h p (List.mem_cons_of_mem _ hp)), Int32.add_comm, nI_1]
    rfl
theorem sk73 : skel[73]? = some (.inl (0, 30)) := rfl
theorem op_nearest (hI : InvB M) {x : Int32} : Op2 E 71 133 [vr 0, vi x] [vr 83, vi x, vn, vn, vn] M := by
  obtain ⟨tx, n, up, t, ac, pa, ke, mk, wa, so, hw, hC, hM⟩ := hI
  have hn := hw.2.1.2.1
  rcases pst hn x with h | ⟨u, hu, rfl, h⟩
  · exact mkRd0 hw hC hM (b71_0_1 (cPst hC) (fun q => q (b2_f h))) (fun N1 hN => b133_0_1 (mPst hw hN) (fun q => q (b2_f h)))
  · refine mkRd hw hC hM ?_ (fun N1 hN => ?_) (c := nrA ((List.range n).foldl (nrF up mk u) none))
    · obtain ⟨K, k1, k2, k3⟩ := s38 (E := E) (g := fun _ => 1) hw.2.1 hC.2.1 sk73 (by decide) (by decide) (fun i hi => hC.2.2.2.2.2.2.2 i (by omega)) hu
      have kc : keepC M K := fun a ha => k2.2 a (by simp; omega)
      refine ⟨K, b71_0_0 (cPst hC) (b2_t h) k1 ?_, kc, k2.1, fun a ha => k2.2 a (by simp; omega)⟩
      rw [k2.2 9 (by simp), hC.2.1.1]
      exact s14 hw.2.1 hu (fun i hi => by rw [k3 i hi]; exact sum_ones (fun _ _ => rfl)) (hC.2.2.2.2.2.1.cg (k2.2 77 (by simp)))
    · obtain ⟨K, k1, k2, k3⟩ := m133 (E := E) hw hN hu
      exact ⟨K, b133_0_0 (mPst hw hN) (b2_t h) k1, k2, k3⟩
end MARKS
