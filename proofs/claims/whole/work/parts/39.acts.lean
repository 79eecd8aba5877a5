/-! acts -/
section ACTS
variable {tx : List Int32} {n : Nat} {up : Nat → Nat} {t : trf} {ac ac' : accs} {pa ke pa' ke' : List accs} {mk : Nat → Bool} {wa : List wat} {so : Nat} {M N : mem} {E : env} {w : List Nat}
theorem RC.gen (h : RC tx n up t ac pa ke mk wa so M) (e : ∀ a, (a = 1 ∨ a = 2 ∨ (9 ≤ a ∧ a ≤ 16) ∨ a = 73 ∨ (77 ≤ a ∧ a ≤ 82)) → N.1 a = M.1 a) (h1 : acAt 18 ac' N) (h2 : cSh 26 28 8 pa' N) (h3 : cSh 60 62 2 ke' N) : RC tx n up t ac' pa' ke' mk wa so N := by
  obtain ⟨g1, g2, g3, g4, g5, g6, g7, g8⟩ := h
  exact ⟨g1.cg (e _ (by omega)) (e _ (by omega)), g2.cg (fun a _ _ => e a (by omega)), h1, h2, h3, g6.cg (e _ (by omega)), g7.cg (fun a _ _ => e a (by omega)), fun i hi => by rw [e 73 (by omega)]; exact g8 i hi⟩
theorem RM.gen (h : RM tx n up t ac pa ke mk wa so M) (e1 : N.2 = M.2) (e2 : ∀ a, ((85 ≤ a ∧ a ≤ 92) ∨ a = 95) → N.1 a = M.1 a) (e3 : ∀ k, k = 1 ∨ k = 11 ∨ k = 20 ∨ k = 21 → N.1 83 k = M.1 83 k) (h1 : roAt 84 0 ac' N) (h2 : mSh 17 94 8 pa' N) (h3 : mSh 24 97 2 ke' N) : RM tx n up t ac' pa' ke' mk wa so N := by
  obtain ⟨g1, g2, g3, g4, g5, g6, g7⟩ := h
  exact ⟨g1.cg (e3 _ (by omega)) (e2 _ (by omega)), g2.cg (e3 _ (by omega)) (fun a _ _ => e2 a (by omega)), h1, h2, h3, g6.cg e1, g7.cg (e3 _ (by omega)) (e3 _ (by omega)) (e2 _ (by omega))⟩
theorem all_cg {f g : Nat → Bool} (h : ∀ p ∈ w, f p = g p) : w.all f = w.all g := by
  induction w with
  | nil => rfl
  | cons a r ih => rw [List.all_cons, List.all_cons, h a List.mem_cons_self, ih (fun p hp => h p (List.mem_cons_of_mem _ hp))]
theorem setF_eq {g : Nat → Int32} {p : Nat} {v : Int32} : setF g p v p = v := if_pos rfl
theorem setF_ne {g : Nat → Int32} {p i : Nat} {v : Int32} (h : i ≠ p) : setF g p v i = g i := if_neg h
theorem tk_off {x k : Int32} {i : Nat} : ∀ (w : List Nat) (g : Nat → Int32), i ∉ w → w.foldl (tkF x k) g i = g i
  | [], g, _ => rfl
  | a :: r, g, h => by
    rw [List.foldl_cons, tk_off r _ (fun z => h (List.mem_cons_of_mem _ z))]
    exact setF_ne (fun z => h (by rw [z]; exact List.mem_cons_self))
theorem tk_nd {x k : Int32} {i : Nat} : ∀ (w : List Nat) (g : Nat → Int32), w.Nodup → i ∈ w → w.foldl (tkF x k) g i = adF (g i) x k
  | [], g, _, h => by simp at h
  | a :: r, g, hn, h => by
    obtain ⟨h1, h2⟩ := List.nodup_cons.mp hn
    rw [List.foldl_cons]
    by_cases hi : i = a
    · subst hi
      rw [tk_off r _ h1]
      exact setF_eq
    · rw [tk_nd r _ h2 (by simpa [hi] using h)]
      unfold tkF
      rw [setF_ne hi]
theorem tk_cg {x k : Int32} : ∀ (w : List Nat) (g h : Nat → Int32), (∀ p ∈ w, p < 30) → (∀ i, i < 30 → g i = h i) → ∀ i, i < 30 → w.foldl (tkF x k) g i = w.foldl (tkF x k) h i
  | [], g, h, _, he, i, hi => he i hi
  | a :: r, g, h, hp, he, i, hi => by
    rw [List.foldl_cons, List.foldl_cons]
    refine tk_cg r _ _ (fun p hq => hp p (List.mem_cons_of_mem _ hq)) (fun j hj => ?_) i hi
    unfold tkF
    rw [he a (hp a List.mem_cons_self)]
    by_cases hja : j = a
    · subst hja; rw [setF_eq, setF_eq]
    · rw [setF_ne hja, setF_ne hja, he j hj]
def tkA (x k : Int32) (w : List Nat) (ac : accs) : accs := (w.foldl (tkF x k) ac.1, ac.2.1, ac.2.2)
theorem tkA_ok {x k : Int32} (ha : acOk ac) (hn : w.Nodup) (h : w.all (fun p => okA (adF (ac.1 p) x k)) = true) : acOk (tkA x k w ac) := by
  intro i hi
  refine ⟨?_, (ha i hi).2⟩
  show okA (w.foldl (tkF x k) ac.1 i) = true
  by_cases hm : i ∈ w
  · rw [tk_nd w _ hn hm]
    exact List.all_eq_true.mp h i hm
  · rw [tk_off w _ hm]
    exact (ha i hi).1
theorem wfS.acn (hw : wfS tx n up t ac pa ke mk wa) (h : acOk ac') : wfS tx n up t ac' ((ac :: pa).take 8) ke mk wa := by
  obtain ⟨h1, h2, h3, h4, h5, h6, h7, h8⟩ := hw
  refine ⟨h1, h2, h3, h, fun a ha => ?_, h6, h7, h8⟩
  rcases List.mem_cons.mp (List.mem_of_mem_take ha) with rfl | h9
  · exact h4
  · exact h5 a h9
theorem eqR_hi {lo hi : Nat} (h : eqR lo hi M N) (hh : hi < 83) : hiC M N := ⟨h.1, fun a ha => h.2 a (by omega)⟩
theorem cPush (hC : RC tx n up t ac pa ke mk wa so M) : ∃ N, Rm E 35 0 [vr 26, vr 18] [] M none N ∧ eqR 26 59 M N ∧ RC tx n up t ac ((ac :: pa).take 8) ke mk wa so N := by
  obtain ⟨N, h1, h2, h3⟩ := s35p (E := E) hC.2.2.2.1 hC.2.2.1
  refine ⟨N, h1, h2, hC.gen (fun a ha => h2.2 a (by omega)) (hC.2.2.1.cg (h2.2 _ (by omega)) (h2.2 _ (by omega)) (h2.2 _ (by omega))) h3 (hC.2.2.2.2.1.cg (by omega) (h2.2 _ (by omega)) (fun a _ _ => h2.2 a (by omega)))⟩
theorem mNote (hM : RM tx n up t ac pa ke mk wa so M) : ∃ N, Rm E 117 0 [vr 83, vn] [] M none N ∧ eqM [94] [17] M N ∧ RM tx n up t ac ((ac :: pa).take 8) ke mk wa so N := by
  obtain ⟨N, h1, h2, h3⟩ := s117 (E := E) hM.2.2.2.1 hM.2.2.1
  have e : ∀ a, a ≠ 94 → a ≠ 83 → N.1 a = M.1 a := fun a ha hb => h2.2.1 a (by simpa using ha) hb
  have f : ∀ k, k ≠ 17 → N.1 83 k = M.1 83 k := fun k hk => h2.2.2 k (by simpa using hk)
  exact ⟨N, h1, h2, hM.gen h2.1 (fun a ha => e a (by omega) (by omega)) (fun k hk => f k (by omega)) (hM.2.2.1.mk (fun i _ => by rw [e 84 (by omega) (by omega)])) h3 (hM.2.2.2.2.1.cg (f _ (by omega)) (e _ (by omega) (by omega)))⟩
theorem cTake {x k : Int32} (hC : RC tx n up t ac pa ke mk wa so M) (h : rtIs w M) (hk : 0 ≤ k ∧ k ≤ 3) : ∃ N, Rm E 32 0 [vr 70, vr 19, vi x, vi k, vn] [] M none N ∧ eqOff [19] M N ∧ RC tx n up t (tkA x k w ac) pa ke mk wa so N := by
  refine ⟨_, s32 sk19 (by decide) (by decide) h hk, rowM_off, ?_⟩
  have e : ∀ a, a ≠ 19 → (rowM M 19 (w.foldl (tkF x k) (M.1 19))).1 a = M.1 a := fun a ha => rowM_ne ha
  refine hC.gen (fun a ha => e a (by omega)) (fun i hi => ⟨?_, ?_, ?_⟩) (hC.2.2.2.1.cg (by omega) (e _ (by omega)) (fun a _ _ => e a (by omega))) (hC.2.2.2.2.1.cg (by omega) (e _ (by omega)) (fun a _ _ => e a (by omega)))
  · show (rowM M 19 _).1 19 i = _
    rw [rowM_at]
    exact tk_cg w _ _ (fun p hp => rt_mem h hp) (fun i hi => cAm hC hi) i hi
  · show (rowM M 19 _).1 20 i = _
    rw [e 20 (by omega)]
    exact cFa hC hi
  · show (rowM M 19 _).1 21 i = _
    rw [e 21 (by omega)]
    exact cSf hC hi
theorem mTake {x k : Int32} (hM : RM tx n up t ac pa ke mk wa so M) (h : waIs w M) (hk : 0 ≤ k ∧ k ≤ 3) : ∃ N, Rm E 120 0 [vr 83, vi x, vi k, vn] [] M none N ∧ eqM [84] [] M N ∧ RM tx n up t (tkA x k w ac) pa ke mk wa so N := by
  have e : ∀ a, a ≠ 84 → (rowM M 84 (w.foldl (tkF x k) (M.1 84))).1 a = M.1 a := fun a ha => rowM_ne ha
  refine ⟨_, s120 h hk, ⟨rfl, fun a ha _ => e a (by simpa using ha), fun k _ => by rw [e 83 (by omega)]⟩, ?_⟩
  have hwm : ∀ j, 30 ≤ j → j ∉ w := fun j hj hm => by have := wa_mem h hm; omega
  refine hM.gen rfl (fun a ha => e a (by omega)) (fun k hk => by rw [e 83 (by omega)]) (fun i hi => ⟨?_, ?_, ?_⟩) (hM.2.2.2.1.cg (by rw [e 83 (by omega)]) (e _ (by omega))) (hM.2.2.2.2.1.cg (by rw [e 83 (by omega)]) (e _ (by omega)))
  · rw [rowM_at, Nat.zero_add]
    exact tk_cg w _ _ (fun p hp => wa_mem h hp) (fun i hi => mAm hM hi) i hi
  · rw [rowM_at, tk_off w _ (hwm _ (by omega))]
    exact (hM.2.2.1 i hi).2.1
  · rw [rowM_at, tk_off w _ (hwm _ (by omega))]
    exact (hM.2.2.1 i hi).2.2
theorem cCan {x k : Int32} (hC : RC tx n up t ac pa ke mk wa so M) (h : rtIs w M) (hk : 0 ≤ k ∧ k ≤ 3) : Rm E 31 0 [vr 70, vr 19, vi x, vi k, vn] [] M (some (.int (b2 (w.all (fun p => okA (adF (ac.1 p) x k)))))) M := by
  rw [← all_cg (f := fun p => okA (adF (M.1 19 p) x k)) (fun p hp => by rw [cAm hC (rt_mem h hp)])]
  exact s31 sk19 h hk
theorem mMay {x k : Int32} (hM : RM tx n up t ac pa ke mk wa so M) (h : waIs w M) (hk : 0 ≤ k ∧ k ≤ 3) : Rm E 119 0 [vr 83, vi x, vi k, vn, vn] [] M (some (.int (b2 (w.all (fun p => okA (adF (ac.1 p) x k)))))) M := by
  rw [← all_cg (f := fun p => okA (adF (M.1 84 p) x k)) (fun p hp => by rw [mAm hM (wa_mem h hp)])]
  exact s119 h hk
theorem rt_off {A : List Nat} (h : rtIs w M) (e : eqOff A M N) (h1 : 70 ∉ A) (h2 : 71 ∉ A) : rtIs w N := h.cg (e.2 _ h1) (e.2 _ h2)
theorem rt_R {lo hi : Nat} (h : rtIs w M) (e : eqR lo hi M N) (h1 : hi < 70) : rtIs w N := h.cg (e.2 _ (by omega)) (e.2 _ (by omega))
theorem cAdd {x k : Int32} (hC : RC tx n up t ac pa ke mk wa so M) (h : rtIs w M) (hk : 0 ≤ k ∧ k ≤ 3) (hall : w.all (fun p => okA (adF (ac.1 p) x k)) = true) : ∃ N, Rm E 85 0 [vr 0, vi x, vi k] [] M (some (.int (sumW (tkA x k w ac).1 w + 1000000))) N ∧ RC tx n up t (tkA x k w ac) ((ac :: pa).take 8) ke mk wa so N ∧ hiC M N := by
  obtain ⟨N1, a1, a2, a3⟩ := cPush (E := E) hC
  have r1 := rt_R h a2 (by omega)
  obtain ⟨N2, b1, b2, b3⟩ := cTake (E := E) (x := x) (k := k) a3 r1 hk
  have r2 := rt_off r1 b2 (by simp) (by simp)
  exact ⟨N2, b85_0_0 (cCan hC h hk) (b2_t hall) a1 b1 (cSum b3 r2), b3, (eqR_hi a2 (by omega)).tr ⟨b2.1, fun a ha => b2.2 a (by simp; omega)⟩⟩
theorem mAdd {x k : Int32} (hM : RM tx n up t ac pa ke mk wa so M) (h : waIs w M) (hk : 0 ≤ k ∧ k ≤ 3) (hall : w.all (fun p => okA (adF (ac.1 p) x k)) = true) : ∃ N, Rm E 122 0 [vr 83, vi x, vi k] [] M (some (.int (sumW (tkA x k w ac).1 w + 1000000))) N ∧ RM tx n up t (tkA x k w ac) ((ac :: pa).take 8) ke mk wa so N ∧ loM M N := by
  obtain ⟨N1, a1, a2, a3⟩ := mNote (E := E) hM
  have r1 := h.cg (a2.2.2 14 (by simp)) (a2.off (a := 93) (by simp) (by simp))
  obtain ⟨N2, b1, b2, b3⟩ := mTake (E := E) (x := x) (k := k) a3 r1 hk
  have r2 := r1.cg (b2.2.2 14 (by simp)) (b2.off (a := 93) (by simp) (by simp))
  exact ⟨N2, b122_0_0 (mMay hM h hk) (b2_t hall) a1 b1 (mSum b3 r2), b3, fun a ha => (b2.off (by simp; omega) (by omega)).trans (a2.off (by simp; omega) (by omega))⟩
theorem op_add (hI : InvB M) {x y z k : Int32} : Op2 E 59 123 [vr 0, vi x, vi y, vi z, vi k] [vr 83, vi x, vi y, vi z, vi k] M := by
  obtain ⟨tx, n, up, t, ac, pa, ke, mk, wa, so, hw, hC, hM⟩ := hI
  have hn := hw.2.1.2.1
  rcases pst hn x with h | ⟨u, hu, rfl, h⟩
  · exact mkRd0 hw hC hM (b59_0_0 (cPst hC) (b2_f h)) (fun N1 hN => b123_0_0 (mPst hw hN) (b2_f h))
  rcases pst hn y with h2 | ⟨v, hv, rfl, h2⟩
  · exact mkRd0 hw hC hM (b59_0_1 (cPst hC) (b2_t h) (cPst hC) (b2_f h2)) (fun N1 hN => b123_0_1 (mPst hw hN) (b2_t h) (mPst hw hN) (b2_f h2))
  by_cases hz : (-999 ≤ z ∧ z ≤ 999) ∧ 0 ≤ k ∧ k ≤ 3
  · cases hall : (wy up u v).all (fun p => okA (adF (ac.1 p) z k))
    · refine mkRd (c := -2) hw hC hM ?_ (fun N1 hN => ?_)
      · obtain ⟨K, k1, k2, k3, k4, k5, k6⟩ := cLead (E := E) hw hC hu hv
        exact ⟨K, b59_0_2 (cPst hC) (b2_t h) (cPst hC) (b2_t h2) s82 (b01_n hz) k1 (b85_0_1 (cCan k2 k5 hz.2) (fun q => q (b2_f hall))), k3, k4⟩
      · obtain ⟨K, k1, k2, k3, k4, k5, k6⟩ := mLays (E := E) hw hN hu hv
        exact ⟨K, b123_0_2 (mPst hw hN) (b2_t h) (mPst hw hN) (b2_t h2) s121 (b01_n hz) k1 (b122_0_1 (mMay k2 k5 hz.2) (fun q => q (b2_f hall))), k3, k4⟩
    · refine mkOp (so' := so) (c := sumW (tkA z k (wy up u v) ac).1 (wy up u v) + 1000000) hM (hw.acn (tkA_ok hw.2.2.2.1 (way_le hw.2.1.2.2.1 u v hu hv).2.1 hall)) ?_ (fun N1 hN => ?_)
      · obtain ⟨K, k1, k2, k3, k4, k5, k6⟩ := cLead (E := E) hw hC hu hv
        obtain ⟨J, j1, j2, j3⟩ := cAdd (E := E) k2 k5 hz.2 hall
        exact ⟨J, b59_0_2 (cPst hC) (b2_t h) (cPst hC) (b2_t h2) s82 (b01_n hz) k1 j1, j2, k4.tr j3⟩
      · obtain ⟨K, k1, k2, k3, k4, k5, k6⟩ := mLays (E := E) hw hN hu hv
        obtain ⟨J, j1, j2, j3⟩ := mAdd (E := E) k2 k5 hz.2 hall
        exact ⟨J, b123_0_2 (mPst hw hN) (b2_t h) (mPst hw hN) (b2_t h2) s121 (b01_n hz) k1 j1, j2, k4.tr j3⟩
  · exact mkRd0 hw hC hM (b59_0_3 (cPst hC) (b2_t h) (cPst hC) (b2_t h2) s82 (fun q => q (b01_0.mpr hz))) (fun N1 hN => b123_0_3 (mPst hw hN) (b2_t h) (mPst hw hN) (b2_t h2) s121 (fun q => q (b01_0.mpr hz)))
theorem op_pour (hI : InvB M) {x z k : Int32} : Op2 E 60 124 [vr 0, vi x, vi z, vi k] [vr 83, vi x, vi z, vi k] M := by
  obtain ⟨tx, n, up, t, ac, pa, ke, mk, wa, so, hw, hC, hM⟩ := hI
  have hn := hw.2.1.2.1
  rcases pst hn x with h | ⟨u, hu, rfl, h⟩
  · exact mkRd0 hw hC hM (b60_0_0 (cPst hC) (b2_f h)) (fun N1 hN => b124_0_0 (mPst hw hN) (b2_f h))
  by_cases hz : (-999 ≤ z ∧ z ≤ 999) ∧ 0 ≤ k ∧ k ≤ 3
  · cases hall : (cvL t u).all (fun p => okA (adF (ac.1 p) z k))
    · refine mkRd (c := -2) hw hC hM ?_ (fun N1 hN => ?_)
      · obtain ⟨K, k1, k2, k3, k4, k5⟩ := cCover (E := E) hw hC hu
        exact ⟨K, b60_0_1 (cPst hC) (b2_t h) s82 (b01_n hz) k1 (b85_0_1 (cCan k2 k5 hz.2) (fun q => q (b2_f hall))), k3, k4⟩
      · obtain ⟨K, k1, k2, k3, k4, k5⟩ := mBelow (E := E) hw hN hu
        exact ⟨K, b124_0_1 (mPst hw hN) (b2_t h) s121 (b01_n hz) k1 (b122_0_1 (mMay k2 k5 hz.2) (fun q => q (b2_f hall))), k3, k4⟩
    · refine mkOp (so' := so) (c := sumW (tkA z k (cvL t u) ac).1 (cvL t u) + 1000000) hM (hw.acn (tkA_ok hw.2.2.2.1 (cvL_n hw.2.1 hu).2.1 hall)) ?_ (fun N1 hN => ?_)
      · obtain ⟨K, k1, k2, k3, k4, k5⟩ := cCover (E := E) hw hC hu
        obtain ⟨J, j1, j2, j3⟩ := cAdd (E := E) k2 k5 hz.2 hall
        exact ⟨J, b60_0_1 (cPst hC) (b2_t h) s82 (b01_n hz) k1 j1, j2, k4.tr j3⟩
      · obtain ⟨K, k1, k2, k3, k4, k5⟩ := mBelow (E := E) hw hN hu
        obtain ⟨J, j1, j2, j3⟩ := mAdd (E := E) k2 k5 hz.2 hall
        exact ⟨J, b124_0_1 (mPst hw hN) (b2_t h) s121 (b01_n hz) k1 j1, j2, k4.tr j3⟩
  · exact mkRd0 hw hC hM (b60_0_2 (cPst hC) (b2_t h) s82 (fun q => q (b01_0.mpr hz))) (fun N1 hN => b124_0_2 (mPst hw hN) (b2_t h) s121 (fun q => q (b01_0.mpr hz)))
theorem op_set (hI : InvB M) {x y : Int32} : Op2 E 61 125 [vr 0, vi x, vi y, vn] [vr 83, vi x, vi y, vn] M := by
  obtain ⟨tx, n, up, t, ac, pa, ke, mk, wa, so, hw, hC, hM⟩ := hI
  have hn := hw.2.1.2.1
  rcases pst hn x with h | ⟨u, hu, rfl, h⟩
  · exact mkRd0 hw hC hM (b61_0_0 (cPst hC) (b2_f h)) (fun N1 hN => b125_0_0 (mPst hw hN) (b2_f h))
  have hc := nc30 hn hu
  have hr := nr30 hn hu
  have hu30 : u < 30 := by omega
  have hr9 : inR (nI u) 90 := inR_nI (by omega) (by omega)
  by_cases hz : -9999 ≤ y ∧ y ≤ 9999
  · by_cases he : ac.1 u = y
    · exact mkRd0 hw hC hM (b61_0_2 (cPst hC) (b2_t h) s81 (b01_n hz) hr (fun q => q (by rw [hc, cAm hC hu30, he]))) (fun N1 hN => b125_0_2 (mPst hw hN) (b2_t h) (s88i (y := -9999) (z := 9999) rfl rfl) (b01_n hz) hr9 (fun q => q (by rw [hc, mAm hN hu30, he])))
    · have hok : acOk (setF ac.1 u y, ac.2.1, ac.2.2) := by
        intro i hi
        refine ⟨?_, (hw.2.2.2.1 i hi).2⟩
        show okA (setF ac.1 u y i) = true
        by_cases hiu : i = u
        · rw [hiu, setF_eq]; exact okA_iff.mpr hz
        · rw [setF_ne hiu]; exact (hw.2.2.2.1 i hi).1
      refine mkOp (so' := so) (c := ac.1 u + 1000000) hM (hw.acn hok) ?_ (fun N1 hN => ?_)
      · obtain ⟨N, a1, a2, a3⟩ := cPush (E := E) hC
        have := b61_0_1 (cPst (E := E) hC) (b2_t h) s81 (b01_n hz) hr (by rw [hc, cAm hC hu30]; exact he) a1 hr rfl
        rw [hc, cAm hC hu30] at this
        refine ⟨_, this, ?_, (eqR_hi a2 (by omega)).tr ⟨rfl, fun a ha => upM_ne (by omega)⟩⟩
        refine a3.gen (fun a ha => upM_ne (by omega)) (fun i hi => ⟨?_, ?_, ?_⟩) (a3.2.2.2.1.cg (by omega) (upM_ne (by omega)) (fun a _ _ => upM_ne (by omega))) (a3.2.2.2.2.1.cg (by omega) (upM_ne (by omega)) (fun a _ _ => upM_ne (by omega)))
        · show (upM N 19 u y).1 19 i = setF ac.1 u y i
          by_cases hiu : i = u
          · rw [hiu, setF_eq, upM_eq]
          · rw [setF_ne hiu, upM_nk hiu]; exact cAm a3 hi
        · show (upM N 19 u y).1 20 i = _
          rw [upM_ne (by omega)]; exact cFa a3 hi
        · show (upM N 19 u y).1 21 i = _
          rw [upM_ne (by omega)]; exact cSf a3 hi
      · obtain ⟨N, a1, a2, a3⟩ := mNote (E := E) hN
        have := b125_0_1 (mPst (E := E) hw hN) (b2_t h) (s88i (y := -9999) (z := 9999) rfl rfl) (b01_n hz) hr9 (by rw [hc, mAm hN hu30]; exact he) a1 hr9 rfl
        rw [hc, mAm hN hu30] at this
        refine ⟨_, this, ?_, fun a ha => (upM_ne (by omega)).trans (a2.off (by simp; omega) (by omega))⟩
        refine a3.gen rfl (fun a ha => upM_ne (by omega)) (fun k hk => by rw [upM_ne (by omega)]) (fun i hi => ⟨?_, ?_, ?_⟩) (a3.2.2.2.1.cg (by rw [upM_ne (by omega)]) (upM_ne (by omega))) (a3.2.2.2.2.1.cg (by rw [upM_ne (by omega)]) (upM_ne (by omega)))
        · rw [Nat.zero_add]
          show _ = setF ac.1 u y i
          by_cases hiu : i = u
          · rw [hiu, setF_eq, upM_eq]
          · rw [setF_ne hiu, upM_nk hiu]; exact mAm a3 hi
        · rw [upM_nk (by omega)]; exact (a3.2.2.1 i hi).2.1
        · rw [upM_nk (by omega)]; exact (a3.2.2.1 i hi).2.2
  · exact mkRd0 hw hC hM (b61_0_3 (cPst hC) (b2_t h) s81 (fun q => q (b01_0.mpr hz))) (fun N1 hN => b125_0_3 (mPst hw hN) (b2_t h) (s88i (y := -9999) (z := 9999) rfl rfl) (fun q => q (b01_0.mpr hz)))
theorem dig_eq {a b c d : Int32} (ha : 0 ≤ a ∧ a ≤ 9) (hb : 0 ≤ b ∧ b ≤ 9) (hc : 0 ≤ c ∧ c ≤ 9) (hd : 0 ≤ d ∧ d ≤ 9) : 10 * a + b = 10 * c + d ↔ a = c ∧ b = d := by
  have dg : ∀ {x : Int32}, 0 ≤ x ∧ x ≤ 9 → ∃ k, k < 10 ∧ x = nI k := fun {x} h => isP_of (n := 10) (by omega) ⟨h.1, by
    have h2 := Int32.le_iff_toInt_le.mp h.2
    rw [Int32.lt_iff_toInt_lt]
    have e1 : (9 : Int32).toInt = 9 := rfl
    have e2 : (nI 10).toInt = 10 := rfl
    omega⟩
  obtain ⟨a, ha, rfl⟩ := dg ha
  obtain ⟨b, hb, rfl⟩ := dg hb
  obtain ⟨c, hc, rfl⟩ := dg hc
  obtain ⟨d, hd, rfl⟩ := dg hd
  rw [show (10 : Int32) = nI 10 from rfl, pk_mul, pk_mul, nI_add, nI_add, nI_eq (by omega) (by omega), nI_eq (by omega) (by omega), nI_eq (by omega) (by omega)]
  omega
theorem op_shape (hI : InvB M) {x y z : Int32} : Op2 E 62 126 [vr 0, vi x, vi y, vi z, vn, vn] [vr 83, vi x, vi y, vi z, vn] M := by
  obtain ⟨tx, n, up, t, ac, pa, ke, mk, wa, so, hw, hC, hM⟩ := hI
  have hn := hw.2.1.2.1
  rcases pst hn x with h | ⟨u, hu, rfl, h⟩
  · exact mkRd0 hw hC hM (b62_0_0 (cPst hC) (b2_f h)) (fun N1 hN => b126_0_0 (mPst hw hN) (b2_f h))
  have hc := nc30 hn hu
  have hr := nr30 hn hu
  have hu30 : u < 30 := by omega
  have f1 : (30 : Int32) + nI u = nI (30 + u) := nI_add ..
  have f2 : (60 : Int32) + nI u = nI (60 + u) := nI_add ..
  have hr1 : inR (30 + nI u) 90 := by rw [f1]; exact inR_nI (by omega) (by omega)
  have hr2 : inR (60 + nI u) 90 := by rw [f2]; exact inR_nI (by omega) (by omega)
  have hc1 : (30 + nI u).toNatClampNeg = 30 + u := by rw [f1]; exact clampI (by omega)
  have hc2 : (60 + nI u).toNatClampNeg = 60 + u := by rw [f2]; exact clampI (by omega)
  have in9 : ∀ {q : Int32} {N1 : mem}, Rm E 88 0 [vl q.toInt64, vn, vl 0, vn, vl 9, vn] [] N1 (some (.int (b01 (0 ≤ q ∧ q ≤ 9)))) N1 := fun {q} {N1} => s88i (y := 0) (z := 9) rfl rfl
  by_cases hy : 0 ≤ y ∧ y ≤ 9
  · by_cases hz : 0 ≤ z ∧ z ≤ 9
    · have hdig := dig_eq (hw.2.2.2.1 u hu30).2.1 (hw.2.2.2.1 u hu30).2.2 hy hz
      by_cases he : ac.2.1 u = y ∧ ac.2.2 u = z
      · exact mkRd0 hw hC hM (b62_0_4 (cPst hC) (b2_t h) s81 (b01_n hy) s81 (b01_n hz) hr hr (fun q => q (by rw [hc, cFa hC hu30, he.1])) (fun q => q (by rw [hc, cSf hC hu30, he.2]))) (fun N1 hN => b126_0_3 (mPst hw hN) (b2_t h) in9 (b01_n hy) in9 (b01_n hz) hr1 hr2 (fun q => q (by rw [hc1, hc2, mFa hN hu30, mSf hN hu30]; exact hdig.mpr he)))
      · have hok : acOk (ac.1, setF ac.2.1 u y, setF ac.2.2 u z) := by
          intro i hi
          refine ⟨(hw.2.2.2.1 i hi).1, ?_⟩
          show (0 ≤ setF ac.2.1 u y i ∧ setF ac.2.1 u y i ≤ 9) ∧ 0 ≤ setF ac.2.2 u z i ∧ setF ac.2.2 u z i ≤ 9
          by_cases hiu : i = u
          · rw [hiu, setF_eq, setF_eq]; exact ⟨hy, hz⟩
          · rw [setF_ne hiu, setF_ne hiu]; exact (hw.2.2.2.1 i hi).2
        refine mkOp (so' := so) (c := 10 * ac.2.1 u + ac.2.2 u) hM (hw.acn hok) ?_ (fun N1 hN => ?_)
        · obtain ⟨N, a1, a2, a3⟩ := cPush (E := E) hC
          have : Rm E 62 0 [vr 0, vi (nI u), vi y, vi z, vn, vn] [] M (some (.int (10 * ac.2.1 u + ac.2.2 u))) (upM (upM N 20 u y) 21 u z) := by
            by_cases he1 : ac.2.1 u = y
            · have := b62_0_3 (cPst (E := E) hC) (b2_t h) s81 (b01_n hy) s81 (b01_n hz) hr hr (fun q => q (by rw [hc, cFa hC hu30]; exact he1)) (by rw [hc, cSf hC hu30]; exact fun z => he ⟨he1, z⟩) a1 hr rfl hr rfl
              rwa [hc, cFa hC hu30, cSf hC hu30] at this
            · have := b62_0_2 (cPst (E := E) hC) (b2_t h) s81 (b01_n hy) s81 (b01_n hz) hr hr (by rw [hc, cFa hC hu30]; exact he1) a1 hr rfl hr rfl
              rwa [hc, cFa hC hu30, cSf hC hu30] at this
          have e : ∀ a, a ≠ 20 → a ≠ 21 → (upM (upM N 20 u y) 21 u z).1 a = N.1 a := fun a h1 h2 => (upM_ne h2).trans (upM_ne h1)
          refine ⟨_, this, ?_, (eqR_hi a2 (by omega)).tr ⟨rfl, fun a ha => e a (by omega) (by omega)⟩⟩
          refine a3.gen (fun a ha => e a (by omega) (by omega)) (fun i hi => ⟨?_, ?_, ?_⟩) (a3.2.2.2.1.cg (by omega) (e _ (by omega) (by omega)) (fun a _ _ => e a (by omega) (by omega))) (a3.2.2.2.2.1.cg (by omega) (e _ (by omega) (by omega)) (fun a _ _ => e a (by omega) (by omega)))
          · show (upM (upM N 20 u y) 21 u z).1 19 i = _
            rw [e 19 (by omega) (by omega)]; exact cAm a3 hi
          · show (upM (upM N 20 u y) 21 u z).1 20 i = setF ac.2.1 u y i
            rw [upM_ne (by omega)]
            by_cases hiu : i = u
            · rw [hiu, setF_eq, upM_eq]
            · rw [setF_ne hiu, upM_nk hiu]; exact cFa a3 hi
          · show (upM (upM N 20 u y) 21 u z).1 21 i = setF ac.2.2 u z i
            by_cases hiu : i = u
            · rw [hiu, setF_eq, upM_eq]
            · rw [setF_ne hiu, upM_nk hiu, upM_ne (by omega)]; exact cSf a3 hi
        · obtain ⟨N, a1, a2, a3⟩ := mNote (E := E) hN
          have := b126_0_2 (mPst (E := E) hw hN) (b2_t h) in9 (b01_n hy) in9 (b01_n hz) hr1 hr2 (by rw [hc1, hc2, mFa hN hu30, mSf hN hu30]; exact fun q => he (hdig.mp q)) a1 hr1 rfl hr2 rfl
          rw [hc1, hc2, mFa hN hu30, mSf hN hu30] at this
          have e : ∀ a, a ≠ 84 → (upM (upM N 84 (30 + u) y) 84 (60 + u) z).1 a = N.1 a := fun a h1 => (upM_ne h1).trans (upM_ne h1)
          refine ⟨_, this, ?_, fun a ha => (e a (by omega)).trans (a2.off (by simp; omega) (by omega))⟩
          refine a3.gen rfl (fun a ha => e a (by omega)) (fun k hk => by rw [e 83 (by omega)]) (fun i hi => ⟨?_, ?_, ?_⟩) (a3.2.2.2.1.cg (by rw [e 83 (by omega)]) (e _ (by omega))) (a3.2.2.2.2.1.cg (by rw [e 83 (by omega)]) (e _ (by omega)))
          · rw [upM_nk (by omega), upM_nk (by omega)]; exact (a3.2.2.1 i hi).1
          · rw [upM_nk (by omega)]
            show _ = setF ac.2.1 u y i
            by_cases hiu : i = u
            · rw [hiu, setF_eq]; exact upM_eq
            · rw [setF_ne hiu, upM_nk (by omega)]; exact (a3.2.2.1 i hi).2.1
          · show _ = setF ac.2.2 u z i
            by_cases hiu : i = u
            · rw [hiu, setF_eq]; exact upM_eq
            · rw [setF_ne hiu, upM_nk (by omega), upM_nk (by omega)]; exact (a3.2.2.1 i hi).2.2
    · exact mkRd0 hw hC hM (b62_0_5 (cPst hC) (b2_t h) s81 (b01_n hy) s81 (fun q => q (b01_0.mpr hz))) (fun N1 hN => b126_0_4 (mPst hw hN) (b2_t h) in9 (b01_n hy) in9 (fun q => q (b01_0.mpr hz)))
  · exact mkRd0 hw hC hM (b62_0_1 (cPst hC) (b2_t h) s81 (b01_0.mpr hy)) (fun N1 hN => b126_0_1 (mPst hw hN) (b2_t h) in9 (b01_0.mpr hy))
theorem op_undo (hI : InvB M) : Op2 E 63 127 [vr 0] [vr 83, vn] M := by
  obtain ⟨tx, n, up, t, ac, pa, ke, mk, wa, so, hw, hC, hM⟩ := hI
  cases pa with
  | nil => exact mkRd0 hw hC hM (b63_0_0 (s36p0 hC.2.2.2.1) rfl) (fun N1 hN => s127n hN.2.2.2.1)
  | cons a r =>
    have hw' : wfS tx n up t a r ke mk wa := ⟨hw.1, hw.2.1, hw.2.2.1, hw.2.2.2.2.1 a List.mem_cons_self, fun b hb => hw.2.2.2.2.1 b (List.mem_cons_of_mem _ hb), hw.2.2.2.2.2⟩
    refine mkOp (so' := so) (c := nI r.length) hM hw' ?_ (fun N1 hN => ?_)
    · obtain ⟨N, n1, n2, n3, n4, n5⟩ := s36p (E := E) hC.2.2.2.1
      refine ⟨N, ?_, ?_, n2, fun a ha => n3 a (by omega) (by omega)⟩
      · rw [← n5.1]; exact b63_0_1 n1 (by decide)
      · exact hC.gen (fun a ha => n3 a (by omega) (by omega)) n4 n5 (hC.2.2.2.2.1.cg (by omega) (n3 _ (by omega) (by omega)) (fun a _ _ => n3 a (by omega) (by omega)))
    · obtain ⟨N, n1, n2, n3, n4⟩ := s127 (E := E) hN.2.2.2.1
      refine ⟨N, n1, ?_, fun a ha => n2.off (by simp; omega) (by omega)⟩
      exact hN.gen n2.1 (fun a ha => n2.off (by simp; omega) (by omega)) (fun k hk => n2.2.2 k (by simp; omega)) n4 n3 (hN.2.2.2.2.1.cg (n2.2.2 _ (by simp)) (n2.off (by simp) (by simp)))
theorem op_keep (hI : InvB M) : Op2 E 78 141 [vr 0] [vr 83, vn] M := by
  obtain ⟨tx, n, up, t, ac, pa, ke, mk, wa, so, hw, hC, hM⟩ := hI
  have h2 := hC.2.2.2.2.1.2.1
  by_cases hl : ke.length < 2
  · have hw' : wfS tx n up t ac pa (ac :: ke) mk wa := ⟨hw.1, hw.2.1, hw.2.2.1, hw.2.2.2.1, hw.2.2.2.2.1, fun b hb => by rcases List.mem_cons.mp hb with rfl | h; exact hw.2.2.2.1; exact hw.2.2.2.2.2.1 b h, hw.2.2.2.2.2.2⟩
    refine mkOp (so' := so) (c := nI (ke.length + 1)) hM hw' ?_ (fun N1 hN => ?_)
    · obtain ⟨N, n1, n2, n3⟩ := s35k (E := E) hC.2.2.2.2.1 hC.2.2.1
      rw [List.take_of_length_le (by simp; omega)] at n3
      refine ⟨N, ?_, ?_, eqR_hi n2 (by omega)⟩
      · rw [← show N.1 60 1 = nI (ke.length + 1) from n3.1]
        exact b78_0_0 (by rw [hC.2.2.2.2.1.1]; exact nI_lt (b := 2) hl (by decide)) n1
      · exact hC.gen (fun a ha => n2.2 a (by omega)) (hC.2.2.1.cg (n2.2 _ (by omega)) (n2.2 _ (by omega)) (n2.2 _ (by omega))) (hC.2.2.2.1.cg (by omega) (n2.2 _ (by omega)) (fun a _ _ => n2.2 a (by omega))) n3
    · obtain ⟨N, n1, n2, n3⟩ := s141 (E := E) hN.2.2.2.2.1 hl hN.2.2.1
      refine ⟨N, n1, ?_, fun a ha => n2.off (by simp; omega) (by omega)⟩
      exact hN.gen n2.1 (fun a ha => n2.off (by simp; omega) (by omega)) (fun k hk => n2.2.2 k (by simp; omega)) (hN.2.2.1.mk (fun i _ => by rw [n2.off (a := 84) (by simp) (by simp)])) (hN.2.2.2.1.cg (n2.2.2 _ (by simp)) (n2.off (by simp) (by simp))) n3
  · exact mkRd0 hw hC hM (b78_0_1 (by rw [hC.2.2.2.2.1.1, show ke.length = 2 by omega]; decide)) (fun N1 hN => s141f hN.2.2.2.2.1 (by omega))
theorem op_back (hI : InvB M) : Op2 E 79 142 [vr 0] [vr 83, vn] M := by
  obtain ⟨tx, n, up, t, ac, pa, ke, mk, wa, so, hw, hC, hM⟩ := hI
  cases ke with
  | nil => exact mkRd0 hw hC hM (b79_0_1 (s36k0 hC.2.2.2.2.1) (fun q => q rfl)) (fun N1 hN => s142n hN.2.2.2.2.1)
  | cons a r =>
    have hw' : wfS tx n up t a [] r mk wa := ⟨hw.1, hw.2.1, hw.2.2.1, hw.2.2.2.2.2.1 a List.mem_cons_self, fun b hb => by simp at hb, fun b hb => hw.2.2.2.2.2.1 b (List.mem_cons_of_mem _ hb), hw.2.2.2.2.2.2⟩
    refine mkOp (so' := so) (c := nI r.length) hM hw' ?_ (fun N1 hN => ?_)
    · obtain ⟨N, n1, n2, n3, n4, n5⟩ := s36k (E := E) hC.2.2.2.2.1
      have e : ∀ a, a ≠ 26 → (upM N 26 1 0).1 a = N.1 a := fun a h1 => upM_ne h1
      refine ⟨upM N 26 1 0, ?_, ?_, n2, fun a ha => (e a (by omega)).trans (n3 a (by omega) (by omega))⟩
      · rw [← n5.1, ← e 60 (by omega)]; exact b79_0_0 n1 (by decide) rfl
      · have hp : cSh 26 28 8 pa N := hC.2.2.2.1.cg (by omega) (n3 _ (by omega) (by omega)) (fun a _ _ => n3 a (by omega) (by omega))
        exact hC.gen (fun a ha => (e a (by omega)).trans (n3 a (by omega) (by omega))) (n4.cg (e _ (by omega)) (e _ (by omega)) (e _ (by omega))) (hp.nil upM_eq (upM_nk (by omega))) (n5.cg (by omega) (e _ (by omega)) (fun a _ _ => e a (by omega)))
    · obtain ⟨N, n1, n2, n3, n4, n5⟩ := s142 (E := E) hN.2.2.2.2.1
      refine ⟨N, n1, ?_, fun a ha => n2.off (by simp; omega) (by omega)⟩
      exact hN.gen n2.1 (fun a ha => n2.off (by simp; omega) (by omega)) (fun k hk => n2.2.2 k (by simp; omega)) n5 (mSh.nil n3) n4
end ACTS
