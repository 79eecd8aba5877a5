/-! what is asked of both, and changes nothing -/
def Op2 (E : env) (i j : Nat) (la lb : lcs) (M : mem) : Prop := ∃ c N1 N2, Rm E i 0 la [] M (some (.int c)) N1 ∧ Rm E j 0 lb [] N1 (some (.int c)) N2 ∧ InvB N2
theorem b2_t {b : Bool} (h : b = true) : ¬ b2 b = 0 := by subst h; decide
theorem b2_f {b : Bool} (h : b = false) : b2 b = 0 := by subst h; rfl
theorem b01_n {p : Prop} [Decidable p] (h : p) : ¬ b01 p = 0 := fun z => (b01_0.mp z) h
theorem i32_of {x : Int32} {k : Int} {y : Int32} (h : x.toInt = k) (hy : y.toInt = k) : x = y := Int32.toInt_inj.mp (h.trans hy.symm)
theorem sw8 (x : Int32) : (x.toInt < 0 ∨ 8 < x.toInt) ∨ x = 0 ∨ x = 1 ∨ x = 2 ∨ x = 3 ∨ x = 4 ∨ x = 5 ∨ x = 6 ∨ x = 7 ∨ x = 8 := by
  by_cases h : x.toInt < 0 ∨ 8 < x.toInt
  · exact Or.inl h
  · right
    have h2 : x.toInt = 0 ∨ x.toInt = 1 ∨ x.toInt = 2 ∨ x.toInt = 3 ∨ x.toInt = 4 ∨ x.toInt = 5 ∨ x.toInt = 6 ∨ x.toInt = 7 ∨ x.toInt = 8 := by omega
    rcases h2 with h | h | h | h | h | h | h | h | h
    · exact Or.inl (i32_of h rfl)
    · exact Or.inr (Or.inl (i32_of h rfl))
    · exact Or.inr (Or.inr (Or.inl (i32_of h rfl)))
    · exact Or.inr (Or.inr (Or.inr (Or.inl (i32_of h rfl))))
    · exact Or.inr (Or.inr (Or.inr (Or.inr (Or.inl (i32_of h rfl)))))
    · exact Or.inr (Or.inr (Or.inr (Or.inr (Or.inr (Or.inl (i32_of h rfl))))))
    · exact Or.inr (Or.inr (Or.inr (Or.inr (Or.inr (Or.inr (Or.inl (i32_of h rfl)))))))
    · exact Or.inr (Or.inr (Or.inr (Or.inr (Or.inr (Or.inr (Or.inr (Or.inl (i32_of h rfl))))))))
    · exact Or.inr (Or.inr (Or.inr (Or.inr (Or.inr (Or.inr (Or.inr (Or.inr (i32_of h rfl))))))))
theorem pst {n : Nat} (hn : n ≤ 30) (x : Int32) : isPd n x = false ∨ ∃ u, u < n ∧ x = nI u ∧ isPd n x = true := by
  cases h : isPd n x
  · exact Or.inl rfl
  · obtain ⟨u, h1, h2⟩ := isP_of hn (isPd_iff.mp h)
    exact Or.inr ⟨u, h1, h2, rfl⟩
theorem mem_at {w : List Nat} {p : Nat} (h : p ∈ w) : ∃ k : Nat, w[k]? = some p := List.mem_iff_getElem?.mp h
theorem rt_mem {w : List Nat} {M : mem} (h : rtIs w M) {p : Nat} (hp : p ∈ w) : p < 30 := by
  obtain ⟨k, hk⟩ := mem_at hp
  exact (h.2.2 k p hk).1
theorem wa_mem {w : List Nat} {M : mem} (h : waIs w M) {p : Nat} (hp : p ∈ w) : p < 30 := by
  obtain ⟨k, hk⟩ := mem_at hp
  exact (h.2.2 k p hk).1
theorem pcF_cg {σ : Type} {f g : σ → Nat → Nat → σ} : ∀ (w : List Nat) (s : σ), (∀ s p q, p ∈ w → q ∈ w → f s p q = g s p q) → pcF f s w = pcF g s w
  | [], s, _ => rfl
  | [_], s, _ => rfl
  | a :: b :: r, s, h => by
    show pcF f (f s a b) (b :: r) = pcF g (g s a b) (b :: r)
    rw [h s a b List.mem_cons_self (List.mem_cons_of_mem _ List.mem_cons_self)]
    exact pcF_cg (b :: r) _ (fun s p q hp hq => h s p q (List.mem_cons_of_mem _ hp) (List.mem_cons_of_mem _ hq))
theorem nc30 {n u : Nat} (hn : n ≤ 30) (hu : u < n) : (nI u).toNatClampNeg = u := clampI (by omega)
theorem nr30 {n u : Nat} (hn : n ≤ 30) (hu : u < n) : inR (nI u) 30 := inR_nI (by omega) (by omega)
section READS
variable {tx : List Int32} {n : Nat} {up : Nat → Nat} {t : trf} {ac : accs} {pa ke : List accs} {mk : Nat → Bool} {wa : List wat} {so : Nat} {M N : mem} {E : env}
theorem mkRd {i j : Nat} {la lb : lcs} {c : Int32} (hw : wfS tx n up t ac pa ke mk wa) (hC : RC tx n up t ac pa ke mk wa so M) (hM : RM tx n up t ac pa ke mk wa so M)
    (h1 : ∃ N1, Rm E i 0 la [] M (some (.int c)) N1 ∧ keepC M N1 ∧ hiC M N1)
    (h2 : ∀ N1, RM tx n up t ac pa ke mk wa so N1 → ∃ N2, Rm E j 0 lb [] N1 (some (.int c)) N2 ∧ keepM N1 N2 ∧ loM N1 N2) : Op2 E i j la lb M := by
  obtain ⟨N1, a1, a2, a3⟩ := h1
  refine mkOp hM hw ⟨N1, a1, hC.kp a2, a3⟩ (fun N1 hN => ?_)
  obtain ⟨N2, b1, b2, b3⟩ := h2 N1 hN
  exact ⟨N2, b1, hN.kp b2, b3⟩
theorem keepC.rf : keepC M M := fun _ _ => rfl
theorem keepM.rf : keepM M M := ⟨rfl, fun _ _ => rfl, fun _ _ => rfl⟩
theorem mkRd0 {i j : Nat} {la lb : lcs} {c : Int32} (hw : wfS tx n up t ac pa ke mk wa) (hC : RC tx n up t ac pa ke mk wa so M) (hM : RM tx n up t ac pa ke mk wa so M)
    (h1 : Rm E i 0 la [] M (some (.int c)) M) (h2 : ∀ N1, RM tx n up t ac pa ke mk wa so N1 → Rm E j 0 lb [] N1 (some (.int c)) N1) : Op2 E i j la lb M :=
  mkRd hw hC hM ⟨M, h1, keepC.rf, hiC.rf⟩ (fun N1 hN => ⟨N1, h2 N1 hN, keepM.rf, loM.rf⟩)
theorem cPst (hC : RC tx n up t ac pa ke mk wa so M) {x : Int32} : Rm E 83 0 [vr 0, vi x] [] M (some (.int (b2 (isPd n x)))) M := s83 hC.2.1.1
theorem mPst (hw : wfS tx n up t ac pa ke mk wa) (hM : RM tx n up t ac pa ke mk wa so M) {x : Int32} : Rm E 91 0 [vr 83, vi x] [] M (some (.int (b2 (isPd n x)))) M := s91 hw.2.1.1 hw.2.1.2.1 hM.2.1.1
theorem cLead (hw : wfS tx n up t ac pa ke mk wa) (hC : RC tx n up t ac pa ke mk wa so M) {u v : Nat} (hu : u < n) (hv : v < n) : ∃ N1, Rm E 23 0 [vr 70, vr 9, vi (nI u), vi (nI v), vn, vn, vn, vn] [] M none N1 ∧ RC tx n up t ac pa ke mk wa so N1 ∧ keepC M N1 ∧ hiC M N1 ∧ rtIs (wy up u v) N1 ∧ N1.1 70 2 = nI (mt up u v) := by
  obtain ⟨N1, h1, h2, h3, h4⟩ := s23 (E := E) hw.2.1 hC.2.1 hu hv
  obtain ⟨k1, k2⟩ := rt_kp h2
  exact ⟨N1, h1, hC.kp k1, k1, k2, h3, h4⟩
theorem cCover (hw : wfS tx n up t ac pa ke mk wa) (hC : RC tx n up t ac pa ke mk wa so M) {u : Nat} (hu : u < n) : ∃ N1, Rm E 24 0 [vr 70, vr 9, vi (nI u), vn] [] M none N1 ∧ RC tx n up t ac pa ke mk wa so N1 ∧ keepC M N1 ∧ hiC M N1 ∧ rtIs (cvL t u) N1 := by
  obtain ⟨N1, h1, h2, h3⟩ := s24 (E := E) hw.2.1 hC.2.1 hu
  obtain ⟨k1, k2⟩ := rt_kp h2
  exact ⟨N1, h1, hC.kp k1, k1, k2, h3⟩
theorem mLays (hw : wfS tx n up t ac pa ke mk wa) (hM : RM tx n up t ac pa ke mk wa so M) {u v : Nat} (hu : u < n) (hv : v < n) : ∃ N1, Rm E 105 0 [vr 83, vi (nI u), vi (nI v), vn, vn, vn, vn] [] M none N1 ∧ RM tx n up t ac pa ke mk wa so N1 ∧ keepM M N1 ∧ loM M N1 ∧ waIs (wy up u v) N1 ∧ N1.1 83 15 = nI (mt up u v) := by
  obtain ⟨N1, h1, h2, h3, h4⟩ := s105 (E := E) hw.2.1 hM.2.1 hu hv
  obtain ⟨k1, k2⟩ := wa_kp h2
  exact ⟨N1, h1, hM.kp k1, k1, k2, h3, h4⟩
theorem mBelow (hw : wfS tx n up t ac pa ke mk wa) (hM : RM tx n up t ac pa ke mk wa so M) {u : Nat} (hu : u < n) : ∃ N1, Rm E 106 0 [vr 83, vi (nI u), vn] [] M none N1 ∧ RM tx n up t ac pa ke mk wa so N1 ∧ keepM M N1 ∧ loM M N1 ∧ waIs (cvL t u) N1 := by
  obtain ⟨N1, h1, h2, h3⟩ := s106 (E := E) hw.2.1 hM.2.1 hu
  obtain ⟨k1, k2⟩ := wa_kp1 h2
  exact ⟨N1, h1, hM.kp k1, k1, k2, h3⟩
theorem cAm (hC : RC tx n up t ac pa ke mk wa so M) {p : Nat} (hp : p < 30) : M.1 19 p = ac.1 p := (hC.2.2.1 p hp).1
theorem cFa (hC : RC tx n up t ac pa ke mk wa so M) {p : Nat} (hp : p < 30) : M.1 20 p = ac.2.1 p := (hC.2.2.1 p hp).2.1
theorem cSf (hC : RC tx n up t ac pa ke mk wa so M) {p : Nat} (hp : p < 30) : M.1 21 p = ac.2.2 p := (hC.2.2.1 p hp).2.2
theorem mAm (hM : RM tx n up t ac pa ke mk wa so M) {p : Nat} (hp : p < 30) : M.1 84 p = ac.1 p := by have := (hM.2.2.1 p hp).1; rwa [Nat.zero_add] at this
theorem mFa (hM : RM tx n up t ac pa ke mk wa so M) {p : Nat} (hp : p < 30) : M.1 84 (30 + p) = ac.2.1 p := (hM.2.2.1 p hp).2.1
theorem mSf (hM : RM tx n up t ac pa ke mk wa so M) {p : Nat} (hp : p < 30) : M.1 84 (60 + p) = ac.2.2 p := (hM.2.2.1 p hp).2.2
theorem sk19 : skel[19]? = some (.inl (0, 30)) := rfl
theorem cSum {w : List Nat} (hC : RC tx n up t ac pa ke mk wa so M) (h : rtIs w M) : Rm E 26 0 [vr 70, vr 19, vn, vn] [] M (some (.int (sumW ac.1 w))) M := by
  rw [← sumW_cg (fun p hp => cAm hC (rt_mem h hp))]; exact s26 sk19 h
theorem cMax {w : List Nat} (hC : RC tx n up t ac pa ke mk wa so M) (h : rtIs w M) : Rm E 27 0 [vr 70, vr 19, vn, vn] [] M (some (.int (maxW ac.1 w))) M := by
  rw [← maxW_cg (fun p hp => cAm hC (rt_mem h hp))]; exact s27 sk19 h
theorem cMin {w : List Nat} (hC : RC tx n up t ac pa ke mk wa so M) (h : rtIs w M) : Rm E 28 0 [vr 70, vr 19, vn, vn] [] M (some (.int (minW ac.1 w))) M := by
  rw [← minW_cg (fun p hp => cAm hC (rt_mem h hp))]; exact s28 sk19 h
theorem cGain {w : List Nat} (hC : RC tx n up t ac pa ke mk wa so M) (h : rtIs w M) : Rm E 29 0 [vr 70, vr 19, vn, vn, vn] [] M (some (.int (gainW ac.1 w))) M := by
  rw [← gainW_cg (fun p hp => cAm hC (rt_mem h hp))]; exact s29 sk19 h
theorem cOn {w : List Nat} (hC : RC tx n up t ac pa ke mk wa so M) (h : rtIs w M) : Rm E 10 0 [vr 76, vr 70, vn, vn] [] M (some (.int (mkW mk w))) M := s10 h hC.2.2.2.2.2.1
theorem cPcs {w : List Nat} (hC : RC tx n up t ac pa ke mk wa so M) (h : rtIs w M) (hn : ∀ p ∈ w, p < n) (hl : 0 < w.length) : Rm E 25 0 [vr 70, vr 9, vn, vn] [] M (some (.int (pcF (pcf t.2.2.2.2.1) 1 w))) M := by
  rw [pcF_cg (g := pcf (M.1 15)) w 1 (fun s p q hp hq => by unfold pcf; rw [(hC.2.1.2.2 p (hn p hp)).2.2.2.2.2.1, (hC.2.1.2.2 q (hn q hq)).2.2.2.2.2.1])]
  exact s25 h hl
theorem cCar {w : List Nat} {x : Int32} (hC : RC tx n up t ac pa ke mk wa so M) (h : rtIs w M) : Rm E 30 0 [vr 70, vr 18, vi x, vn, vn] [] M (some (.int (w.foldl (thF ac.2.1 ac.2.2) x))) M := by
  rw [foldl_cg (g := thF (M.1 20) (M.1 21)) (fun s p hp => by unfold thF; rw [cFa hC (rt_mem h hp), cSf hC (rt_mem h hp)])]
  exact s30 h x
theorem mSum {w : List Nat} (hM : RM tx n up t ac pa ke mk wa so M) (h : waIs w M) : Rm E 107 0 [vr 83, vn, vn] [] M (some (.int (sumW ac.1 w))) M := by
  rw [← sumW_cg (fun p hp => mAm hM (wa_mem h hp))]; exact s107 h
theorem hd_of {w : List Nat} (hl : 0 < w.length) : ∃ p, w[0]? = some p ∧ p ∈ w := by
  cases w with
  | nil => simp at hl
  | cons a r => exact ⟨a, rfl, List.mem_cons_self⟩
theorem mMax {w : List Nat} (hw : wfS tx n up t ac pa ke mk wa) (hM : RM tx n up t ac pa ke mk wa so M) (h : waIs w M) (hl : 0 < w.length) : Rm E 108 0 [vr 83, vn, vn] [] M (some (.int (maxW ac.1 w))) M := by
  obtain ⟨p, h0, h1⟩ := hd_of hl
  rw [← maxW_cg (fun p hp => mAm hM (wa_mem h hp)), ← maxW_hd h0 (by rw [mAm hM (wa_mem h h1)]; exact (hw.2.2.2.1 p (wa_mem h h1)).1)]; exact s108 h h0
theorem mMin {w : List Nat} (hw : wfS tx n up t ac pa ke mk wa) (hM : RM tx n up t ac pa ke mk wa so M) (h : waIs w M) (hl : 0 < w.length) : Rm E 109 0 [vr 83, vn, vn] [] M (some (.int (minW ac.1 w))) M := by
  obtain ⟨p, h0, h1⟩ := hd_of hl
  rw [← minW_cg (fun p hp => mAm hM (wa_mem h hp)), ← minW_hd h0 (by rw [mAm hM (wa_mem h h1)]; exact (hw.2.2.2.1 p (wa_mem h h1)).1)]; exact s109 h h0
theorem mGain {w : List Nat} (hw : wfS tx n up t ac pa ke mk wa) (hM : RM tx n up t ac pa ke mk wa so M) (h : waIs w M) (hl : 0 < w.length) : Rm E 112 0 [vr 83, vn, vn, vn, vn] [] M (some (.int (gainW ac.1 w))) M := by
  obtain ⟨p, h0, h1⟩ := hd_of hl
  rw [← gainW_cg (fun p hp => mAm hM (wa_mem h hp)), ← gainW_hd h0 (by rw [mAm hM (wa_mem h h1)]; exact (hw.2.2.2.1 p (wa_mem h h1)).1)]; exact s112 h h0
theorem mOn {w : List Nat} (hM : RM tx n up t ac pa ke mk wa so M) (h : waIs w M) : Rm E 110 0 [vr 83, vn, vn] [] M (some (.int (mkW mk w))) M := s110 h hM.2.2.2.2.2.1
theorem mPcs {w : List Nat} (hM : RM tx n up t ac pa ke mk wa so M) (h : waIs w M) (hn : ∀ p ∈ w, p < n) (hl : 0 < w.length) : Rm E 111 0 [vr 83, vn, vn] [] M (some (.int (pcF (pcf t.2.2.2.2.1) 1 w))) M := by
  rw [pcF_cg (g := pcf (M.1 89)) w 1 (fun s p q hp hq => by unfold pcf; rw [(hM.2.1.2 p (hn p hp)).2.2.2.2.2.1, (hM.2.1.2 q (hn q hq)).2.2.2.2.2.1])]
  exact s111 h hl
theorem mThr {w : List Nat} (hM : RM tx n up t ac pa ke mk wa so M) (h : waIs w M) : ∀ x, Rm E 115 42 [vr 83, vn, vn, vn, vi x, vi 0] [] M (some (.int (w.foldl (thF ac.2.1 ac.2.2) x))) M := by
  intro x
  refine foldR w (thF ac.2.1 ac.2.2) (fun s k fin => Rm E 115 42 [vr 83, vn, vn, vn, vi s, vi (nI k)] [] M (some (.int fin)) M) (fun s => b115_42_0 (wa_ex h)) (fun s k p fin hk ih => ?_) x
  obtain ⟨-, -, e0, e1, e2, e3, e4, e5, -, e6⟩ := wa_st h hk
  have f1 : (30 : Int32) + nI p = nI (30 + p) := nI_add ..
  have f2 : (60 : Int32) + nI p = nI (60 + p) := nI_add ..
  refine b115_42_1 e1 e2 (by rw [e3, e4, f1]; exact inR_nI (by omega) (by omega)) e2 (by rw [e3, e4, f2]; exact inR_nI (by omega) (by omega)) ?_
  rw [e3, e4, f1, f2, clampI (by omega), clampI (by omega), mFa hM e0, mSf hM e0, nI_1]
  exact ih
theorem op_at (hI : InvB M) {x : Int32} : Op2 E 58 104 [vr 0, vi x] [vr 83, vi x] M := by
  obtain ⟨tx, n, up, t, ac, pa, ke, mk, wa, so, hw, hC, hM⟩ := hI
  have hn := hw.2.1.2.1
  rcases pst hn x with h | ⟨u, hu, rfl, h⟩
  · exact mkRd0 hw hC hM (b58_0_0 (cPst hC) (b2_f h)) (fun N1 hN => b104_0_0 (mPst hw hN) (b2_f h))
  · refine mkRd0 (c := nI (t.2.2.1 u)) hw hC hM ?_ (fun N1 hN => ?_)
    · have := b58_0_1 (cPst (E := E) hC) (b2_t h) (nr30 hn hu)
      rwa [nc30 hn hu, (hC.2.1.2.2 u hu).2.2.2.2.1] at this
    · have := b104_0_1 (mPst (E := E) hw hN) (b2_t h) (nr30 hn hu)
      rwa [nc30 hn hu, (hN.2.1.2 u hu).2.2.2.2.1] at this
theorem op_post (hI : InvB M) {x y : Int32} : Op2 E 57 103 [vr 0, vi x, vi y] [vr 83, vi x, vi y] M := by
  obtain ⟨tx, n, up, t, ac, pa, ke, mk, wa, so, hw, hC, hM⟩ := hI
  have hn := hw.2.1.2.1
  rcases pst hn x with h | ⟨u, hu, rfl, h⟩
  · exact mkRd0 hw hC hM (b57_0_10 (cPst hC) (fun z => z (b2_f h))) (fun N1 hN => b103_0_10 (mPst hw hN) (fun z => z (b2_f h)))
  · obtain ⟨q0, q1, q2, q3, q4, q5, q6⟩ := hC.2.1.2.2 u hu
    have hc := nc30 hn hu
    have hr := nr30 hn hu
    have hu30 : u < 30 := by omega
    have f1 : (30 : Int32) + nI u = nI (30 + u) := nI_add ..
    have f2 : (60 : Int32) + nI u = nI (60 + u) := nI_add ..
    rcases sw8 y with hy | rfl | rfl | rfl | rfl | rfl | rfl | rfl | rfl | rfl
    · exact mkRd0 hw hC hM (b57_0_0 (cPst hC) (b2_t h) hy) (fun N1 hN => b103_0_0 (mPst hw hN) (b2_t h) hy)
    · exact mkRd0 (c := upI up u) hw hC hM (by have := b57_0_1 (cPst (E := E) hC) (b2_t h) rfl hr; rwa [hc, q0] at this) (fun N1 hN => by have := b103_0_1 (mPst (E := E) hw hN) (b2_t h) rfl hr; rwa [hc, (hN.2.1.2 u hu).1] at this)
    · exact mkRd0 (c := t.2.2.2.1 u) hw hC hM (by have := b57_0_2 (cPst (E := E) hC) (b2_t h) rfl hr; rwa [hc, q1] at this) (fun N1 hN => by have := b103_0_2 (mPst (E := E) hw hN) (b2_t h) rfl hr; rwa [hc, (hN.2.1.2 u hu).2.1] at this)
    · exact mkRd0 (c := nI (t.1 u)) hw hC hM (by have := b57_0_3 (cPst (E := E) hC) (b2_t h) rfl hr; rwa [hc, q2] at this) (fun N1 hN => by have := b103_0_3 (mPst (E := E) hw hN) (b2_t h) rfl hr; rwa [hc, (hN.2.1.2 u hu).2.2.1] at this)
    · exact mkRd0 (c := nI (t.2.1 u)) hw hC hM (by have := b57_0_4 (cPst (E := E) hC) (b2_t h) rfl hr; rwa [hc, q3] at this) (fun N1 hN => by have := b103_0_4 (mPst (E := E) hw hN) (b2_t h) rfl hr; rwa [hc, (hN.2.1.2 u hu).2.2.2.1] at this)
    · exact mkRd0 (c := t.2.2.2.2.1 u) hw hC hM (by have := b57_0_5 (cPst (E := E) hC) (b2_t h) rfl hr; rwa [hc, q5] at this) (fun N1 hN => by have := b103_0_5 (mPst (E := E) hw hN) (b2_t h) rfl hr; rwa [hc, (hN.2.1.2 u hu).2.2.2.2.2.1] at this)
    · exact mkRd0 (c := nI (dpt up u)) hw hC hM (by have := b57_0_6 (cPst (E := E) hC) (b2_t h) rfl hr; rwa [hc, q6] at this) (fun N1 hN => by have := b103_0_6 (mPst (E := E) hw hN) (b2_t h) rfl hr; rwa [hc, (hN.2.1.2 u hu).2.2.2.2.2.2] at this)
    · exact mkRd0 (c := ac.1 u + 1000000) hw hC hM (by have := b57_0_7 (cPst (E := E) hC) (b2_t h) rfl hr; rwa [hc, cAm hC hu30] at this) (fun N1 hN => by have := b103_0_7 (mPst (E := E) hw hN) (b2_t h) rfl (inR_nI (by omega) (by omega)); rwa [hc, mAm hN hu30] at this)
    · exact mkRd0 (c := ac.2.1 u) hw hC hM (by have := b57_0_8 (cPst (E := E) hC) (b2_t h) rfl hr; rwa [hc, cFa hC hu30] at this) (fun N1 hN => by have := b103_0_8 (mPst (E := E) hw hN) (b2_t h) rfl (by rw [f1]; exact inR_nI (by omega) (by omega)); rwa [f1, clampI (by omega), mFa hN hu30] at this)
    · exact mkRd0 (c := ac.2.2 u) hw hC hM (by have := b57_0_9 (cPst (E := E) hC) (b2_t h) rfl hr; rwa [hc, cSf hC hu30] at this) (fun N1 hN => by have := b103_0_9 (mPst (E := E) hw hN) (b2_t h) rfl (by rw [f2]; exact inR_nI (by omega) (by omega)); rwa [f2, clampI (by omega), mSf hN hu30] at this)
theorem op_step (hI : InvB M) {x y z : Int32} : Op2 E 65 114 [vr 0, vi x, vi y, vi z] [vr 83, vi x, vi y, vi z] M := by
  obtain ⟨tx, n, up, t, ac, pa, ke, mk, wa, so, hw, hC, hM⟩ := hI
  have hn := hw.2.1.2.1
  rcases pst hn x with h | ⟨u, hu, rfl, h⟩
  · exact mkRd0 hw hC hM (b65_0_0 (cPst hC) (b2_f h)) (fun N1 hN => b114_0_0 (mPst hw hN) (b2_f h))
  rcases pst hn y with h2 | ⟨v, hv, rfl, h2⟩
  · exact mkRd0 hw hC hM (b65_0_1 (cPst hC) (b2_t h) (cPst hC) (b2_f h2)) (fun N1 hN => b114_0_1 (mPst hw hN) (b2_t h) (mPst hw hN) (b2_f h2))
  by_cases hz : 0 ≤ z
  · have hl := (way_n hw.2.1.2.2.1 hu hv).2.1
    by_cases hk : nI (wy up u v).length ≤ z
    · refine mkRd (c := -4) hw hC hM ?_ (fun N1 hN => ?_)
      · obtain ⟨K, k1, k2, k3, k4, k5, k6⟩ := cLead (E := E) hw hC hu hv
        exact ⟨K, b65_0_2 (cPst hC) (b2_t h) (cPst hC) (b2_t h2) hz k1 (by rw [k5.1]; exact hk), k3, k4⟩
      · obtain ⟨K, k1, k2, k3, k4, k5, k6⟩ := mLays (E := E) hw hN hu hv
        exact ⟨K, b114_0_2 (mPst hw hN) (b2_t h) (mPst hw hN) (b2_t h2) hz k1 (by rw [k5.1]; exact hk), k3, k4⟩
    · obtain ⟨k, hk2, rfl⟩ := isP_of (n := (wy up u v).length) (by omega) ⟨hz, Int32.not_le.mp hk⟩
      obtain ⟨p, hp⟩ : ∃ p, (wy up u v)[k]? = some p := ⟨_, List.getElem?_eq_getElem hk2⟩
      refine mkRd (c := nI p) hw hC hM ?_ (fun N1 hN => ?_)
      · obtain ⟨K, k1, k2, k3, k4, k5, k6⟩ := cLead (E := E) hw hC hu hv
        refine ⟨K, ?_, k3, k4⟩
        have := b65_0_3 (cPst (E := E) hC) (b2_t h) (cPst hC) (b2_t h2) hz k1 (by rw [k5.1]; exact hk) (inR_nI (by omega) (by omega))
        rwa [clampI (by omega), (k5.2.2 k p hp).2] at this
      · obtain ⟨K, k1, k2, k3, k4, k5, k6⟩ := mLays (E := E) hw hN hu hv
        refine ⟨K, ?_, k3, k4⟩
        have := b114_0_3 (mPst (E := E) hw hN) (b2_t h) (mPst hw hN) (b2_t h2) hz k1 (by rw [k5.1]; exact hk) (inR_nI (by omega) (by omega))
        rwa [clampI (by omega), (k5.2.2 k p hp).2] at this
  · exact mkRd0 hw hC hM (b65_0_4 (cPst hC) (b2_t h) (cPst hC) (b2_t h2) hz) (fun N1 hN => b114_0_4 (mPst hw hN) (b2_t h) (mPst hw hN) (b2_t h2) hz)
theorem op_through (hI : InvB M) {x y z : Int32} : Op2 E 66 115 [vr 0, vi x, vi y, vi z] [vr 83, vi x, vi y, vi z, vn, vn] M := by
  obtain ⟨tx, n, up, t, ac, pa, ke, mk, wa, so, hw, hC, hM⟩ := hI
  have hn := hw.2.1.2.1
  rcases pst hn x with h | ⟨u, hu, rfl, h⟩
  · exact mkRd0 hw hC hM (b66_0_0 (cPst hC) (b2_f h)) (fun N1 hN => b115_0_0 (mPst hw hN) (b2_f h))
  rcases pst hn y with h2 | ⟨v, hv, rfl, h2⟩
  · exact mkRd0 hw hC hM (b66_0_1 (cPst hC) (b2_t h) (cPst hC) (b2_f h2)) (fun N1 hN => b115_0_1 (mPst hw hN) (b2_t h) (mPst hw hN) (b2_f h2))
  by_cases hz : 0 ≤ z ∧ z ≤ 96
  · refine mkRd (c := (wy up u v).foldl (thF ac.2.1 ac.2.2) z) hw hC hM ?_ (fun N1 hN => ?_)
    · obtain ⟨K, k1, k2, k3, k4, k5, k6⟩ := cLead (E := E) hw hC hu hv
      exact ⟨K, b66_0_2 (cPst hC) (b2_t h) (cPst hC) (b2_t h2) s81 (b01_n hz) k1 (cCar k2 k5), k3, k4⟩
    · obtain ⟨K, k1, k2, k3, k4, k5, k6⟩ := mLays (E := E) hw hN hu hv
      exact ⟨K, b115_0_2 (mPst hw hN) (b2_t h) (mPst hw hN) (b2_t h2) (s88i (y := 0) (z := 96) rfl rfl) (b01_n hz) k1 (mThr k2 k5 _), k3, k4⟩
  · exact mkRd0 hw hC hM (b66_0_3 (cPst hC) (b2_t h) (cPst hC) (b2_t h2) s81 (fun q => q (b01_0.mpr hz))) (fun N1 hN => b115_0_3 (mPst hw hN) (b2_t h) (mPst hw hN) (b2_t h2) (s88i (y := 0) (z := 96) rfl rfl) (fun q => q (b01_0.mpr hz)))
theorem op_way (hI : InvB M) {x y z : Int32} : Op2 E 64 113 [vr 0, vi x, vi y, vi z] [vr 83, vi x, vi y, vi z] M := by
  obtain ⟨tx, n, up, t, ac, pa, ke, mk, wa, so, hw, hC, hM⟩ := hI
  have hn := hw.2.1.2.1
  rcases pst hn x with h | ⟨u, hu, rfl, h⟩
  · exact mkRd0 hw hC hM (b64_0_0 (cPst hC) (b2_f h)) (fun N1 hN => b113_0_0 (mPst hw hN) (b2_f h))
  rcases pst hn y with h2 | ⟨v, hv, rfl, h2⟩
  · exact mkRd0 hw hC hM (b64_0_10 (cPst hC) (b2_t h) (cPst hC) (fun q => q (b2_f h2))) (fun N1 hN => b113_0_10 (mPst hw hN) (b2_t h) (mPst hw hN) (fun q => q (b2_f h2)))
  have hl := way_pos hw.2.1.2.2.1 hu hv
  have hln := (way_n hw.2.1.2.2.1 hu hv).1
  obtain ⟨K, k1, k2, k3, k4, k5, k6⟩ := cLead (E := E) hw hC hu hv
  have mk2 : ∀ {c : Int32}, Rm E 64 0 [vr 0, vi (nI u), vi (nI v), vi z] [] M (some (.int c)) K → (∀ N1 K, RM tx n up t ac pa ke mk wa so N1 → RM tx n up t ac pa ke mk wa so K → Rm E 105 0 [vr 83, vi (nI u), vi (nI v), vn, vn, vn, vn] [] N1 none K → waIs (wy up u v) K → K.1 83 15 = nI (mt up u v) → Rm E 113 0 [vr 83, vi (nI u), vi (nI v), vi z] [] N1 (some (.int c)) K) → Op2 E 64 113 [vr 0, vi (nI u), vi (nI v), vi z] [vr 83, vi (nI u), vi (nI v), vi z] M := by
    intro c h1 h2
    refine mkRd hw hC hM ⟨K, h1, k3, k4⟩ (fun N1 hN => ?_)
    obtain ⟨K, k1, k2, k3, k4, k5, k6⟩ := mLays (E := E) hw hN hu hv
    exact ⟨K, h2 N1 K hN k2 k1 k5 k6, k3, k4⟩
  rcases sw8 z with hy | rfl | rfl | rfl | rfl | rfl | rfl | rfl | rfl | rfl
  · exact mk2 (b64_0_1 (cPst hC) (b2_t h) (cPst hC) (b2_t h2) k1 (by omega)) (fun N1 K hN hK r1 r2 r3 => b113_0_1 (mPst hw hN) (b2_t h) (mPst hw hN) (b2_t h2) r1 (by omega))
  · exact mk2 (c := nI (wy up u v).length) (by rw [← k5.1]; exact b64_0_2 (cPst hC) (b2_t h) (cPst hC) (b2_t h2) k1 rfl) (fun N1 K hN hK r1 r2 r3 => by rw [← r2.1]; exact b113_0_2 (mPst hw hN) (b2_t h) (mPst hw hN) (b2_t h2) r1 rfl)
  · exact mk2 (b64_0_3 (cPst hC) (b2_t h) (cPst hC) (b2_t h2) k1 rfl (cPcs k2 k5 hln hl)) (fun N1 K hN hK r1 r2 r3 => b113_0_3 (mPst hw hN) (b2_t h) (mPst hw hN) (b2_t h2) r1 rfl (mPcs hK r2 hln hl))
  · exact mk2 (c := nI (mt up u v)) (by rw [← k6]; exact b64_0_4 (cPst hC) (b2_t h) (cPst hC) (b2_t h2) k1 rfl) (fun N1 K hN hK r1 r2 r3 => by rw [← r3]; exact b113_0_4 (mPst hw hN) (b2_t h) (mPst hw hN) (b2_t h2) r1 rfl)
  · exact mk2 (b64_0_5 (cPst hC) (b2_t h) (cPst hC) (b2_t h2) k1 rfl (cSum k2 k5)) (fun N1 K hN hK r1 r2 r3 => b113_0_5 (mPst hw hN) (b2_t h) (mPst hw hN) (b2_t h2) r1 rfl (mSum hK r2))
  · exact mk2 (b64_0_6 (cPst hC) (b2_t h) (cPst hC) (b2_t h2) k1 rfl (cMax k2 k5)) (fun N1 K hN hK r1 r2 r3 => b113_0_6 (mPst hw hN) (b2_t h) (mPst hw hN) (b2_t h2) r1 rfl (mMax hw hK r2 hl))
  · exact mk2 (b64_0_7 (cPst hC) (b2_t h) (cPst hC) (b2_t h2) k1 rfl (cMin k2 k5)) (fun N1 K hN hK r1 r2 r3 => b113_0_7 (mPst hw hN) (b2_t h) (mPst hw hN) (b2_t h2) r1 rfl (mMin hw hK r2 hl))
  · exact mk2 (b64_0_8 (cPst hC) (b2_t h) (cPst hC) (b2_t h2) k1 rfl (cGain k2 k5)) (fun N1 K hN hK r1 r2 r3 => b113_0_8 (mPst hw hN) (b2_t h) (mPst hw hN) (b2_t h2) r1 rfl (mGain hw hK r2 hl))
  · exact mk2 (b64_0_9 (cPst hC) (b2_t h) (cPst hC) (b2_t h2) k1 rfl (cOn k2 k5)) (fun N1 K hN hK r1 r2 r3 => b113_0_9 (mPst hw hN) (b2_t h) (mPst hw hN) (b2_t h2) r1 rfl (mOn hK r2))
  · exact mk2 (b64_0_1 (cPst hC) (b2_t h) (cPst hC) (b2_t h2) k1 (Or.inr (by decide))) (fun N1 K hN hK r1 r2 r3 => b113_0_1 (mPst hw hN) (b2_t h) (mPst hw hN) (b2_t h2) r1 (Or.inr (by decide)))
theorem op_below (hI : InvB M) {x y : Int32} : Op2 E 67 116 [vr 0, vi x, vi y] [vr 83, vi x, vi y] M := by
  obtain ⟨tx, n, up, t, ac, pa, ke, mk, wa, so, hw, hC, hM⟩ := hI
  have hn := hw.2.1.2.1
  rcases pst hn x with h | ⟨u, hu, rfl, h⟩
  · exact mkRd0 hw hC hM (b67_0_4 (cPst hC) (fun q => q (b2_f h))) (fun N1 hN => b116_0_0 (mPst hw hN) (b2_f h))
  have hl := (cvL_n hw.2.1 hu).2.2.2
  obtain ⟨K, k1, k2, k3, k4, k5⟩ := cCover (E := E) hw hC hu
  have iny : ∀ {N1 : mem}, Rm E 88 0 [vl y.toInt64, vn, vl 0, vn, vl 2, vn] [] N1 (some (.int (b01 (0 ≤ y ∧ y ≤ 2)))) N1 := s88i (y := 0) (z := 2) rfl rfl
  by_cases hb : 0 ≤ y ∧ y ≤ 2
  · have mk2 : ∀ {c : Int32}, Rm E 67 0 [vr 0, vi (nI u), vi y] [] M (some (.int c)) K → (∀ N1 K, RM tx n up t ac pa ke mk wa so N1 → RM tx n up t ac pa ke mk wa so K → Rm E 106 0 [vr 83, vi (nI u), vn] [] N1 none K → waIs (cvL t u) K → Rm E 116 0 [vr 83, vi (nI u), vi y] [] N1 (some (.int c)) K) → Op2 E 67 116 [vr 0, vi (nI u), vi y] [vr 83, vi (nI u), vi y] M := by
      intro c h1 h2
      refine mkRd hw hC hM ⟨K, h1, k3, k4⟩ (fun N1 hN => ?_)
      obtain ⟨K, k1, k2, k3, k4, k5⟩ := mBelow (E := E) hw hN hu
      exact ⟨K, h2 N1 K hN k2 k1 k5, k3, k4⟩
    have hb1 := Int32.le_iff_toInt_le.mp hb.1
    have hb2 := Int32.le_iff_toInt_le.mp hb.2
    have e0 : (0 : Int32).toInt = 0 := rfl
    have e2 : (2 : Int32).toInt = 2 := rfl
    rw [e0] at hb1
    rw [e2] at hb2
    rcases (show y.toInt = 0 ∨ y.toInt = 1 ∨ y.toInt = 2 by omega) with e | e | e
    · have hy : y = 0 := i32_of e rfl
      exact mk2 (b67_0_1 (cPst hC) (b2_t h) k1 hy (cSum k2 k5)) (fun N1 K hN hK r1 r2 => b116_0_3 (mPst hw hN) (b2_t h) iny (b01_n hb) r1 (fun q => q hy) (mSum hK r2))
    · have hy : y = 1 := i32_of e rfl
      exact mk2 (b67_0_2 (cPst hC) (b2_t h) k1 hy (cMax k2 k5)) (fun N1 K hN hK r1 r2 => b116_0_2 (mPst hw hN) (b2_t h) iny (b01_n hb) r1 (by rw [hy]; decide) (fun q => q hy) (mMax hw hK r2 hl))
    · have hy : y = 2 := i32_of e rfl
      exact mk2 (b67_0_3 (cPst hC) (b2_t h) k1 hy (cOn k2 k5)) (fun N1 K hN hK r1 r2 => b116_0_1 (mPst hw hN) (b2_t h) iny (b01_n hb) r1 (by rw [hy]; decide) (by rw [hy]; decide) (mOn hK r2))
  · refine mkRd hw hC hM ⟨K, b67_0_0 (cPst hC) (b2_t h) k1 ?_, k3, k4⟩ (fun N1 hN => ⟨N1, b116_0_4 (mPst hw hN) (b2_t h) iny (fun q => q (b01_0.mpr hb)), keepM.rf, loM.rf⟩)
    rw [Int32.le_iff_toInt_le, Int32.le_iff_toInt_le] at hb
    have e0 : (0 : Int32).toInt = 0 := rfl
    have e2 : (2 : Int32).toInt = 2 := rfl
    omega
theorem s4 {m : Nat} (hm : m ≤ 30) : Rm E 4 0 [vr 18, vi (nI m), vn, vn] [] M (some (.int (sumW (M.1 19) (List.range m)))) M := by
  refine b4_0_0 ?_
  refine foldN m (fun s p => s + M.1 19 p) (fun s k fin => Rm E 4 4 [vr 18, vi (nI m), vi s, vi (nI k)] [] M (some (.int fin)) M) (fun s => b4_4_0 (nI_le (Nat.le_refl _) (by omega))) (fun s k fin hk ih => ?_) 0
  refine b4_4_1 (by rw [nI_leI (by omega) (by omega)]; omega) (inR_nI (by omega) (by omega)) ?_
  rw [clampI (by omega), nI_1]
  exact ih
theorem s143 {hd : Nat → Int32} (hn : n ≤ 30) (h1 : M.1 83 1 = nI n) (h2 : ∀ i, i < n → M.1 89 i = hd i) : Rm E 143 0 [vr 83, vn, vn] [] M (some (.int ((List.range n).foldl (fun s i => if hd i = nI i then s + 1 else s) 0))) M := by
  refine b143_0_0 ?_
  refine foldN n (fun s i => if hd i = nI i then s + 1 else s) (fun s k fin => Rm E 143 4 [vr 83, vi s, vi (nI k)] [] M (some (.int fin)) M) (fun s => b143_4_0 (by rw [h1]; exact nI_le (Nat.le_refl _) (by omega))) (fun s k fin hk ih => ?_) 0
  have h0 : ¬ (M.1 83 1 ≤ nI k) := by rw [h1, nI_leI (by omega) (by omega)]; omega
  by_cases hb : hd k = nI k
  · refine b143_4_2 h0 (inR_nI (by omega) (by omega)) (fun z => z (by rw [clampI (by omega), h2 k hk]; exact hb)) ?_
    rw [nI_1]
    rw [if_pos hb] at ih
    exact ih
  · refine b143_4_1 h0 (inR_nI (by omega) (by omega)) (by rw [clampI (by omega), h2 k hk]; exact hb) ?_
    rw [nI_1, Int32.add_zero]
    rw [if_neg hb] at ih
    exact ih
theorem sum_sh (g : Nat → Int32) : ∀ (w : List Nat) (s : Int32), w.foldl (fun s p => s + g p) s = s + sumW g w
  | [], s => (Int32.add_zero s).symm
  | a :: r, s => by
    unfold sumW
    rw [List.foldl_cons, List.foldl_cons, sum_sh g r (s + g a), sum_sh g r (0 + g a), Int32.zero_add, Int32.add_assoc]
theorem sumW_cons (g : Nat → Int32) (a : Nat) (r : List Nat) : sumW g (a :: r) = g a + sumW g r := by
  show r.foldl (fun s p => s + g p) (0 + g a) = _
  rw [sum_sh, Int32.zero_add]
theorem sumW_perm {g : Nat → Int32} {v w : List Nat} (h : v.Perm w) : sumW g v = sumW g w := by
  induction h with
  | nil => rfl
  | cons a _ ih => rw [sumW_cons, sumW_cons, ih]
  | swap a b r => rw [sumW_cons, sumW_cons, sumW_cons, sumW_cons, ← Int32.add_assoc, ← Int32.add_assoc, Int32.add_comm (g b)]
  | trans _ _ ih1 ih2 => exact ih1.trans ih2
theorem pig : ∀ (n : Nat) (v : List Nat), v.Nodup → (∀ x ∈ v, x < n) → v.length ≤ n ∧ (v.length = n → v.Perm (List.range n))
  | 0, v, _, h => by
    cases v with
    | nil => exact ⟨Nat.le_refl _, fun _ => List.Perm.refl _⟩
    | cons a r => exact absurd (h a List.mem_cons_self) (by omega)
  | n + 1, v, hn, h => by
    by_cases hm : n ∈ v
    · have hp := List.perm_cons_erase hm
      have hl : v.length = (v.erase n).length + 1 := hp.length_eq
      obtain ⟨i1, i2⟩ := pig n (v.erase n) (hn.erase n) (fun x hx => by
        obtain ⟨h1, h2⟩ := (List.Nodup.mem_erase_iff hn).mp hx
        have := h x h2
        omega)
      refine ⟨by omega, fun he => ?_⟩
      rw [List.range_succ]
      exact hp.trans ((List.Perm.cons n (i2 (by omega))).trans (List.perm_append_singleton n (List.range n)).symm)
    · obtain ⟨i1, i2⟩ := pig n v hn (fun x hx => by
        have := h x hx
        have hne : x ≠ n := fun z => hm (z ▸ hx)
        omega)
      exact ⟨by omega, fun he => by omega⟩
theorem cv0_perm (hO : trOk n up t) : (cvL t 0).Perm (List.range n) := by
  obtain ⟨c1, c2, c3, c4⟩ := cvL_n (n := n) (up := up) hO (u := 0) hO.1
  exact (pig n _ c2 c1).2 (by rw [cvL_len, hO.2.2.2.2.2.2.2])
theorem op_count (hI : InvB M) {x : Int32} : Op2 E 80 144 [vr 0, vi x] [vr 83, vi x] M := by
  obtain ⟨tx, n, up, t, ac, pa, ke, mk, wa, so, hw, hC, hM⟩ := hI
  have hn := hw.2.1.2.1
  rcases sw8 x with hx | rfl | rfl | rfl | rfl | rfl | rfl | rfl | rfl | rfl
  · exact mkRd0 hw hC hM (b80_0_0 hx) (fun N1 hN => b144_0_0 hx)
  · exact mkRd0 (c := nI n) hw hC hM (by rw [← hC.2.1.1]; exact b80_0_1 rfl) (fun N1 hN => by rw [← hN.2.1.1]; exact b144_0_1 rfl)
  · exact mkRd0 (c := t.2.2.2.2.2) hw hC hM (by rw [← hC.2.1.2.1]; exact b80_0_2 rfl) (fun N1 hN => by rw [hw.2.2.1]; exact b144_0_2 rfl (s143 hn hN.2.1.1 (fun i hi => (hN.2.1.2 i hi).2.2.2.2.2.1)))
  · exact mkRd0 (c := mkW mk (List.range 30)) hw hC hM (b80_0_3 rfl (s9 hC.2.2.2.2.2.1)) (fun N1 hN => by rw [mkW_range hn hw.2.2.2.2.2.2.1]; exact b144_0_3 rfl (s130 hN.2.2.2.2.2.1 hn hN.2.1.1))
  · exact mkRd0 (c := nI wa.length) hw hC hM (by rw [← hC.2.2.2.2.2.2.1.1]; exact b80_0_4 rfl) (fun N1 hN => by rw [← hN.2.2.2.2.2.2.1]; exact b144_0_4 rfl)
  · exact mkRd0 (c := nI so) hw hC hM (by rw [← hC.2.2.2.2.2.2.1.2.1]; exact b80_0_5 rfl) (fun N1 hN => by rw [← hN.2.2.2.2.2.2.2.1]; exact b144_0_5 rfl)
  · exact mkRd0 (c := nI pa.length) hw hC hM (by rw [← hC.2.2.2.1.1]; exact b80_0_6 rfl) (fun N1 hN => by rw [← hN.2.2.2.1.1]; exact b144_0_6 rfl)
  · exact mkRd0 (c := nI ke.length) hw hC hM (by rw [← hC.2.2.2.2.1.1]; exact b80_0_7 rfl) (fun N1 hN => by rw [← hN.2.2.2.2.1.1]; exact b144_0_7 rfl)
  · exact mkRd0 (c := nI tx.length) hw hC hM (by rw [← hC.1.1]; exact b80_0_8 rfl) (fun N1 hN => by rw [← hN.1.1]; exact b144_0_8 rfl)
  · refine mkRd (c := sumW ac.1 (List.range n) + 1000000) hw hC hM ⟨M, ?_, keepC.rf, hiC.rf⟩ (fun N1 hN => ?_)
    · refine b80_0_9 rfl ?_
      rw [hC.2.1.1, ← sumW_cg (g := M.1 19) (fun p hp => cAm hC (by have := List.mem_range.mp hp; omega))]
      exact s4 hn
    · obtain ⟨K, k1, k2, k3, k4, k5⟩ := mBelow (E := E) hw hN hw.2.1.1
      refine ⟨K, ?_, k3, k4⟩
      rw [← sumW_perm (cv0_perm hw.2.1)]
      exact b144_0_9 rfl k1 (mSum k2 k5)
end READS
