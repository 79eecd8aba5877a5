/-! watches -/
section WATCH
variable {tx : List Int32} {n : Nat} {up : Nat → Nat} {t : trf} {ac : accs} {pa ke : List accs} {mk : Nat → Bool} {wa wa' : List wat} {so so' : Nat} {M N : mem} {E : env} {w : List Nat}
theorem RC.wat (h : RC tx n up t ac pa ke mk wa so M) (e : ∀ a, (a < 78 ∨ 82 < a) → N.1 a = M.1 a) (g : cWa wa' so' N) : RC tx n up t ac pa ke mk wa' so' N := by
  obtain ⟨g1, g2, g3, g4, g5, g6, g7, g8⟩ := h
  exact ⟨g1.cg (e _ (by omega)) (e _ (by omega)), g2.cg (fun a _ _ => e a (by omega)), g3.cg (e _ (by omega)) (e _ (by omega)) (e _ (by omega)), g4.cg (by omega) (e _ (by omega)) (fun a _ _ => e a (by omega)), g5.cg (by omega) (e _ (by omega)) (fun a _ _ => e a (by omega)), g6.cg (e _ (by omega)), g, fun i hi => by rw [e 73 (by omega)]; exact g8 i hi⟩
theorem RM.wat (h : RM tx n up t ac pa ke mk wa so M) (e1 : N.2 = M.2) (e2 : ∀ a, a ≠ 83 → a ≠ 95 → N.1 a = M.1 a) (e3 : ∀ k, k ≠ 20 → k ≠ 21 → N.1 83 k = M.1 83 k) (g : mWa wa' so' N) : RM tx n up t ac pa ke mk wa' so' N := by
  obtain ⟨g1, g2, g3, g4, g5, g6, g7⟩ := h
  exact ⟨g1.cg (e3 _ (by omega) (by omega)) (e2 _ (by omega) (by omega)), g2.cg (e3 _ (by omega) (by omega)) (fun a _ _ => e2 a (by omega) (by omega)), g3.mk (fun i _ => by rw [e2 84 (by omega) (by omega)]), g4.cg (e3 _ (by omega) (by omega)) (e2 _ (by omega) (by omega)), g5.cg (e3 _ (by omega) (by omega)) (e2 _ (by omega) (by omega)), g6.cg e1, g⟩
theorem wfS.wan (hw : wfS tx n up t ac pa ke mk wa) (h : waOk n wa') : wfS tx n up t ac pa ke mk wa' := ⟨hw.1, hw.2.1, hw.2.2.1, hw.2.2.2.1, hw.2.2.2.2.1, hw.2.2.2.2.2.1, hw.2.2.2.2.2.2.1, h⟩
theorem op_waits (hI : InvB M) {x : Int32} : Op2 E 74 136 [vr 0, vi x] [vr 83, vi x] M := by
  obtain ⟨tx, n, up, t, ac, pa, ke, mk, wa, so, hw, hC, hM⟩ := hI
  obtain ⟨c1, c2, c3⟩ := hC.2.2.2.2.2.2.1
  have hl := hw.2.2.2.2.2.2.2.1
  by_cases h0 : -1 ≤ x
  · by_cases h1 : x = -1
    · exact mkRd0 (c := nI wa.length) hw hC hM (by rw [← c1]; exact b74_0_2 h0 (fun z => z h1)) (fun N1 hN => by rw [← hN.2.2.2.2.2.2.1]; exact b136_0_2 h0 (fun z => z h1))
    · by_cases h2 : nI wa.length ≤ x
      · exact mkRd0 (c := -4) hw hC hM (b74_0_0 h0 h1 (by rw [c1]; exact h2)) (fun N1 hN => b136_0_0 h0 h1 (by rw [hN.2.2.2.2.2.2.1]; exact h2))
      · have hp : 0 ≤ x := by
          rw [Int32.le_iff_toInt_le] at h0 ⊢
          have e1 : (-1 : Int32).toInt = -1 := rfl
          have e0 : (0 : Int32).toInt = 0 := rfl
          have : x.toInt ≠ -1 := fun z => h1 (i32_of z rfl)
          omega
        obtain ⟨k, hk, rfl⟩ := isP_of (n := wa.length) (by omega) ⟨hp, Int32.not_le.mp h2⟩
        obtain ⟨q, hq⟩ : ∃ q, wa[k]? = some q := ⟨_, List.getElem?_eq_getElem hk⟩
        refine mkRd0 (c := nI q.1) hw hC hM ?_ (fun N1 hN => ?_)
        · have := b74_0_1 (E := E) (M := M) h0 h1 (by rw [c1]; exact h2) (inR_nI (n := 12) (by omega) (by omega))
          rwa [clampI (by omega), (c3 k q hq).1] at this
        · have e4 : 4 * nI k = nI (4 * k) := by rw [show (4 : Int32) = nI 4 from rfl, pk_mul]
          have := b136_0_1 (E := E) (M := N1) h0 h1 (by rw [hN.2.2.2.2.2.2.1]; exact h2) (by rw [e4]; exact inR_nI (by omega) (by omega))
          rwa [e4, clampI (by omega), (hN.2.2.2.2.2.2.2.2 k q hq).1] at this
  · exact mkRd0 hw hC hM (b74_0_3 h0) (fun N1 hN => b136_0_3 h0)
theorem app_at {α : Type} {l : List α} {x q : α} {j : Nat} (h : (l ++ [x])[j]? = some q) : l[j]? = some q ∧ j < l.length ∨ j = l.length ∧ q = x := by
  rcases Nat.lt_or_ge j l.length with h1 | h1
  · rw [List.getElem?_append_left h1] at h
    exact Or.inl ⟨h, h1⟩
  · rw [List.getElem?_append_right h1] at h
    right
    rcases Nat.eq_zero_or_pos (j - l.length) with h2 | h2
    · rw [h2] at h
      simp at h
      exact ⟨by omega, h.symm⟩
    · rw [List.getElem?_eq_none (by simp; omega)] at h
      cases h
theorem s49 (h : cWa wa so M) (hl : wa.length < 12) {u v : Nat} {y : Int32} : ∃ N, Rm E 49 0 [vr 78, vi (nI u), vi (nI v), vi y] [] M (some (.int (nI so))) N ∧ N.2 = M.2 ∧ (∀ a, (a < 78 ∨ 82 < a) → N.1 a = M.1 a) ∧ cWa (wa ++ [(so, u, v, y)]) (so + 1) N := by
  obtain ⟨c1, c2, c3⟩ := h
  have hc : (nI wa.length).toNatClampNeg = wa.length := clampI (by omega)
  have hr : inR (nI wa.length) 12 := inR_nI (by omega) (by omega)
  have d1 : (upM M 79 wa.length (nI so)).1 78 4 = nI wa.length := by rw [upM_ne (by decide)]; exact c1
  have d2 : (upM (upM M 79 wa.length (nI so)) 80 wa.length (nI u)).1 78 4 = nI wa.length := by rw [upM_ne (by decide)]; exact d1
  have d3 : (upM (upM (upM M 79 wa.length (nI so)) 80 wa.length (nI u)) 81 wa.length (nI v)).1 78 4 = nI wa.length := by rw [upM_ne (by decide)]; exact d2
  have d4 : (upM (upM (upM (upM M 79 wa.length (nI so)) 80 wa.length (nI u)) 81 wa.length (nI v)) 82 wa.length y).1 78 4 = nI wa.length := by rw [upM_ne (by decide)]; exact d3
  have d5 : (upM (upM (upM (upM (upM M 79 wa.length (nI so)) 80 wa.length (nI u)) 81 wa.length (nI v)) 82 wa.length y) 78 4 (nI (wa.length + 1))).1 78 5 = nI so := by
    rw [upM_nk (by decide), upM_ne (by decide), upM_ne (by decide), upM_ne (by decide), upM_ne (by decide)]; exact c2
  refine ⟨upM (upM (upM (upM (upM (upM M 79 wa.length (nI so)) 80 wa.length (nI u)) 81 wa.length (nI v)) 82 wa.length y) 78 4 (nI (wa.length + 1))) 78 5 (nI (so + 1)), ?_, rfl, ?_, ?_, ?_, ?_⟩
  · have e4 : (upM (upM (upM (upM (upM (upM M 79 wa.length (nI so)) 80 wa.length (nI u)) 81 wa.length (nI v)) 82 wa.length y) 78 4 (nI (wa.length + 1))) 78 5 (nI (so + 1))).1 78 4 = nI (wa.length + 1) := by rw [upM_nk (by decide), upM_eq]
    have := b49_0_0 (E := E) (M := M) (x1 := nI u) (x2 := nI v) (x3 := y) (N1 := upM M 79 wa.length (nI so)) (N2 := upM (upM M 79 wa.length (nI so)) 80 wa.length (nI u)) (N3 := upM (upM (upM M 79 wa.length (nI so)) 80 wa.length (nI u)) 81 wa.length (nI v)) (N4 := upM (upM (upM (upM M 79 wa.length (nI so)) 80 wa.length (nI u)) 81 wa.length (nI v)) 82 wa.length y) (N5 := upM (upM (upM (upM (upM M 79 wa.length (nI so)) 80 wa.length (nI u)) 81 wa.length (nI v)) 82 wa.length y) 78 4 (nI (wa.length + 1))) (N6 := upM (upM (upM (upM (upM (upM M 79 wa.length (nI so)) 80 wa.length (nI u)) 81 wa.length (nI v)) 82 wa.length y) 78 4 (nI (wa.length + 1))) 78 5 (nI (so + 1))) (by rw [c1]; exact nI_lt (b := 12) hl (by decide)) (by rw [c1]; exact hr) (by rw [c1, c2, hc]) (by rw [d1]; exact hr) (by rw [d1, hc]) (by rw [d2]; exact hr) (by rw [d2, hc]) (by rw [d3]; exact hr) (by rw [d3, hc]) (by rw [d4, nI_1]) (by rw [d5, nI_1]) (by rw [e4, dnI]; exact hr)
    rw [e4, dnI, hc] at this
    rwa [upM_ne (show 79 ≠ 78 by decide), upM_ne (show 79 ≠ 78 by decide), upM_ne (show 79 ≠ 82 by decide), upM_ne (show 79 ≠ 81 by decide), upM_ne (show 79 ≠ 80 by decide), upM_eq] at this
  · intro a ha
    rw [upM_ne (by omega), upM_ne (by omega), upM_ne (by omega), upM_ne (by omega), upM_ne (by omega), upM_ne (by omega)]
  · rw [upM_nk (by decide), upM_eq, List.length_append]; rfl
  · rw [upM_eq]
  · intro j q hq
    rw [upM_ne (show 79 ≠ 78 by decide), upM_ne (show 79 ≠ 78 by decide), upM_ne (show 79 ≠ 82 by decide), upM_ne (show 79 ≠ 81 by decide), upM_ne (show 79 ≠ 80 by decide), upM_ne (show 80 ≠ 78 by decide), upM_ne (show 80 ≠ 78 by decide), upM_ne (show 80 ≠ 82 by decide), upM_ne (show 80 ≠ 81 by decide), upM_ne (show 81 ≠ 78 by decide), upM_ne (show 81 ≠ 78 by decide), upM_ne (show 81 ≠ 82 by decide), upM_ne (show 82 ≠ 78 by decide), upM_ne (show 82 ≠ 78 by decide)]
    rcases app_at hq with ⟨h1, h2⟩ | ⟨rfl, rfl⟩
    · rw [upM_nk (by omega), upM_nk (by omega), upM_ne (show 80 ≠ 79 by decide), upM_nk (by omega), upM_ne (show 81 ≠ 80 by decide), upM_ne (show 81 ≠ 79 by decide), upM_nk (by omega), upM_ne (show 82 ≠ 81 by decide), upM_ne (show 82 ≠ 80 by decide), upM_ne (show 82 ≠ 79 by decide)]
      exact c3 j q h1
    · rw [upM_eq, upM_eq, upM_eq, upM_eq]
      exact ⟨rfl, rfl, rfl, rfl⟩
theorem op_watch (hI : InvB M) {x y z : Int32} : Op2 E 72 134 [vr 0, vi x, vi y, vi z] [vr 83, vi x, vi y, vi z] M := by
  obtain ⟨tx, n, up, t, ac, pa, ke, mk, wa, so, hw, hC, hM⟩ := hI
  have hn := hw.2.1.2.1
  rcases pst hn x with h | ⟨u, hu, rfl, h⟩
  · exact mkRd0 hw hC hM (b72_0_0 (cPst hC) (b2_f h)) (fun N1 hN => b134_0_0 (mPst hw hN) (b2_f h))
  rcases pst hn y with h2 | ⟨v, hv, rfl, h2⟩
  · exact mkRd0 hw hC hM (b72_0_1 (cPst hC) (b2_t h) (cPst hC) (b2_f h2)) (fun N1 hN => b134_0_1 (mPst hw hN) (b2_t h) (mPst hw hN) (b2_f h2))
  have in9 : ∀ {N1 : mem}, Rm E 88 0 [vl z.toInt64, vn, vl (-9999), vn, vl 9999, vn] [] N1 (some (.int (b01 (-9999 ≤ z ∧ z ≤ 9999)))) N1 := fun {N1} => s88i (y := -9999) (z := 9999) rfl rfl
  by_cases hz : -9999 ≤ z ∧ z ≤ 9999
  · have hl := hw.2.2.2.2.2.2.2.1
    by_cases hf : wa.length < 12
    · refine mkOp (c := nI so) (so' := so + 1) hM (hw.wan (wa' := wa ++ [(so, u, v, z)]) ⟨by simp; omega, fun q hq => ?_⟩) ?_ (fun N1 hN => ?_)
      · rcases List.mem_append.mp hq with h | h
        · exact hw.2.2.2.2.2.2.2.2 q h
        · simp at h
          subst h
          exact ⟨hu, hv⟩
      · obtain ⟨N, n1, n2, n3, n4⟩ := s49 (E := E) hC.2.2.2.2.2.2.1 hf (u := u) (v := v) (y := z)
        exact ⟨N, b72_0_2 (cPst hC) (b2_t h) (cPst hC) (b2_t h2) s81 (b01_n hz) n1, hC.wat n3 n4, n2, fun a ha => n3 a (by omega)⟩
      · obtain ⟨c1, c2, c3⟩ := hN.2.2.2.2.2.2
        have e0 : 4 * nI wa.length = nI (4 * wa.length) := by rw [show (4 : Int32) = nI 4 from rfl, pk_mul]
        have e1 : 4 * nI wa.length + 1 = nI (4 * wa.length + 1) := by rw [e0, nI_1]
        have e2 : 4 * nI wa.length + 2 = nI (4 * wa.length + 2) := by rw [e0]; exact nI_add _ 2
        have e3 : 4 * nI wa.length + 3 = nI (4 * wa.length + 3) := by rw [e0]; exact nI_add _ 3
        have rr : ∀ i, i < 4 → inR (nI (4 * wa.length + i)) 48 := fun i hi => inR_nI (by omega) (by omega)
        have cc : ∀ i, i < 4 → (nI (4 * wa.length + i)).toNatClampNeg = 4 * wa.length + i := fun i hi => clampI (by omega)
        have d1 : (upM N1 95 (4 * wa.length) (nI so)).1 83 20 = nI wa.length := by rw [upM_ne (by decide)]; exact c1
        have d2 : (upM (upM N1 95 (4 * wa.length) (nI so)) 95 (4 * wa.length + 1) (nI u)).1 83 20 = nI wa.length := by rw [upM_ne (by decide)]; exact d1
        have d3 : (upM (upM (upM N1 95 (4 * wa.length) (nI so)) 95 (4 * wa.length + 1) (nI u)) 95 (4 * wa.length + 2) (nI v)).1 83 20 = nI wa.length := by rw [upM_ne (by decide)]; exact d2
        have d4 : (upM (upM (upM (upM N1 95 (4 * wa.length) (nI so)) 95 (4 * wa.length + 1) (nI u)) 95 (4 * wa.length + 2) (nI v)) 95 (4 * wa.length + 3) z).1 83 20 = nI wa.length := by rw [upM_ne (by decide)]; exact d3
        have d5 : (upM (upM (upM (upM (upM N1 95 (4 * wa.length) (nI so)) 95 (4 * wa.length + 1) (nI u)) 95 (4 * wa.length + 2) (nI v)) 95 (4 * wa.length + 3) z) 83 20 (nI (wa.length + 1))).1 83 21 = nI so := by
          rw [upM_nk (by decide), upM_ne (by decide), upM_ne (by decide), upM_ne (by decide), upM_ne (by decide)]; exact c2
        refine ⟨upM (upM (upM (upM (upM (upM N1 95 (4 * wa.length) (nI so)) 95 (4 * wa.length + 1) (nI u)) 95 (4 * wa.length + 2) (nI v)) 95 (4 * wa.length + 3) z) 83 20 (nI (wa.length + 1))) 83 21 (nI (so + 1)), ?_, ?_, ?_⟩
        · have := b134_0_2 (mPst (E := E) hw hN) (b2_t h) (mPst hw hN) (b2_t h2) in9 (b01_n hz) (N1 := upM N1 95 (4 * wa.length) (nI so)) (N2 := upM (upM N1 95 (4 * wa.length) (nI so)) 95 (4 * wa.length + 1) (nI u)) (N3 := upM (upM (upM N1 95 (4 * wa.length) (nI so)) 95 (4 * wa.length + 1) (nI u)) 95 (4 * wa.length + 2) (nI v)) (N4 := upM (upM (upM (upM N1 95 (4 * wa.length) (nI so)) 95 (4 * wa.length + 1) (nI u)) 95 (4 * wa.length + 2) (nI v)) 95 (4 * wa.length + 3) z) (N5 := upM (upM (upM (upM (upM N1 95 (4 * wa.length) (nI so)) 95 (4 * wa.length + 1) (nI u)) 95 (4 * wa.length + 2) (nI v)) 95 (4 * wa.length + 3) z) 83 20 (nI (wa.length + 1))) (N6 := upM (upM (upM (upM (upM (upM N1 95 (4 * wa.length) (nI so)) 95 (4 * wa.length + 1) (nI u)) 95 (4 * wa.length + 2) (nI v)) 95 (4 * wa.length + 3) z) 83 20 (nI (wa.length + 1))) 83 21 (nI (so + 1))) (by rw [c1]; intro e; have := (nI_eq (b := 12) (by omega) (by decide)).mp e; omega) (by rw [c1, e0]; exact rr 0 (by omega)) (by rw [c1, c2, e0, clampI (by omega)]) (by rw [d1, e1]; exact rr 1 (by omega)) (by rw [d1, e1, cc 1 (by omega)]) (by rw [d2, e2]; exact rr 2 (by omega)) (by rw [d2, e2, cc 2 (by omega)]) (by rw [d3, e3]; exact rr 3 (by omega)) (by rw [d3, e3, cc 3 (by omega)]) (by rw [d4, nI_1]) (by rw [d5, nI_1])
          rwa [upM_eq, dnI] at this
        · refine hN.wat rfl (fun a h1 h2 => ?_) (fun k h1 h2 => ?_) ⟨?_, ?_, fun j q hq => ?_⟩
          · rw [upM_ne h1, upM_ne h1, upM_ne h2, upM_ne h2, upM_ne h2, upM_ne h2]
          · rw [upM_nk h2, upM_nk h1, upM_ne (by decide), upM_ne (by decide), upM_ne (by decide), upM_ne (by decide)]
          · rw [upM_nk (by decide), upM_eq, List.length_append]; rfl
          · rw [upM_eq]
          · rw [upM_ne (show 95 ≠ 83 by decide), upM_ne (show 95 ≠ 83 by decide)]
            rcases app_at hq with ⟨h1, h2⟩ | ⟨rfl, rfl⟩
            · have nn : ∀ i, i < 4 → (upM (upM (upM (upM N1 95 (4 * wa.length) (nI so)) 95 (4 * wa.length + 1) (nI u)) 95 (4 * wa.length + 2) (nI v)) 95 (4 * wa.length + 3) z).1 95 (4 * j + i) = N1.1 95 (4 * j + i) := fun i hi => by rw [upM_nk (by omega), upM_nk (by omega), upM_nk (by omega), upM_nk (by omega)]
              have n0 := nn 0 (by omega)
              simp only [Nat.add_zero] at n0
              rw [n0, nn 1 (by omega), nn 2 (by omega), nn 3 (by omega)]
              exact c3 j q h1
            · refine ⟨?_, ?_, ?_, ?_⟩
              · rw [upM_nk (by omega), upM_nk (by omega), upM_nk (by omega), upM_eq]
              · rw [upM_nk (by omega), upM_nk (by omega), upM_eq]
              · rw [upM_nk (by omega), upM_eq]
              · rw [upM_eq]
        · intro a ha
          rw [upM_ne (by omega), upM_ne (by omega), upM_ne (by omega), upM_ne (by omega), upM_ne (by omega), upM_ne (by omega)]
    · have h12 : wa.length = 12 := by omega
      exact mkRd0 hw hC hM (b72_0_2 (cPst hC) (b2_t h) (cPst hC) (b2_t h2) s81 (b01_n hz) (b49_0_1 (by rw [hC.2.2.2.2.2.2.1.1, h12]; decide))) (fun N1 hN => b134_0_3 (mPst hw hN) (b2_t h) (mPst hw hN) (b2_t h2) in9 (b01_n hz) (fun q => q (by rw [hN.2.2.2.2.2.2.1, h12]; rfl)))
  · exact mkRd0 hw hC hM (b72_0_3 (cPst hC) (b2_t h) (cPst hC) (b2_t h2) s81 (fun q => q (b01_0.mpr hz))) (fun N1 hN => b134_0_4 (mPst hw hN) (b2_t h) (mPst hw hN) (b2_t h2) in9 (fun q => q (b01_0.mpr hz)))
/-! settle -/
def stF (up : Nat → Nat) (g : Nat → Int32) (q : wat) : Bool := decide (sumW g (wy up q.2.1 q.2.2.1) < q.2.2.2)
theorem set_at {α : Type} {l : List α} {s j : Nat} {x q : α} (h : (l.set s x)[j]? = some q) : j = s ∧ q = x ∨ j ≠ s ∧ l[j]? = some q := by
  rw [List.getElem?_set] at h
  by_cases hs : s = j
  · rw [if_pos hs] at h
    split at h
    · cases h; exact Or.inl ⟨hs.symm, rfl⟩
    · cases h
  · rw [if_neg hs] at h
    exact Or.inr ⟨fun z => hs z.symm, h⟩
theorem s51 {L : List wat} {k s : Nat} {q : wat} (h : cWa L so M) (hk : k < 12) (hs : s < 12) (hq : L[k]? = some q) : ∃ N, Rm E 51 0 [vr 78, vi (nI k), vi (nI s)] [] M none N ∧ N.2 = M.2 ∧ (∀ a, (a < 78 ∨ 82 < a) → N.1 a = M.1 a) ∧ cWa (L.set s q) so N := by
  obtain ⟨c1, c2, c3⟩ := h
  obtain ⟨q1, q2, q3, q4⟩ := c3 k q hq
  have ck : (nI k).toNatClampNeg = k := clampI (by omega)
  have cs : (nI s).toNatClampNeg = s := clampI (by omega)
  have rk : inR (nI k) 12 := inR_nI hk (by omega)
  have rs : inR (nI s) 12 := inR_nI hs (by omega)
  refine ⟨upM (upM (upM (upM M 79 s (nI q.1)) 80 s (nI q.2.1)) 81 s (nI q.2.2.1)) 82 s q.2.2.2, ?_, rfl, ?_, ?_, ?_, ?_⟩
  · exact b51_0_0 rk rs rfl rk rs rfl rk rs rfl rk rs (by rw [ck, cs, q1, upM_ne (show 80 ≠ 79 by decide), q2, upM_ne (show 81 ≠ 80 by decide), upM_ne (show 81 ≠ 79 by decide), q3, upM_ne (show 82 ≠ 81 by decide), upM_ne (show 82 ≠ 80 by decide), upM_ne (show 82 ≠ 79 by decide), q4])
  · intro a ha
    rw [upM_ne (by omega), upM_ne (by omega), upM_ne (by omega), upM_ne (by omega)]
  · rw [upM_ne (by decide), upM_ne (by decide), upM_ne (by decide), upM_ne (by decide), List.length_set]; exact c1
  · rw [upM_ne (by decide), upM_ne (by decide), upM_ne (by decide), upM_ne (by decide)]; exact c2
  · intro j p hp
    rw [upM_ne (show 79 ≠ 82 by decide), upM_ne (show 79 ≠ 81 by decide), upM_ne (show 79 ≠ 80 by decide), upM_ne (show 80 ≠ 82 by decide), upM_ne (show 80 ≠ 81 by decide), upM_ne (show 81 ≠ 82 by decide)]
    rcases set_at hp with ⟨rfl, rfl⟩ | ⟨h1, h2⟩
    · rw [upM_eq, upM_eq, upM_eq, upM_eq]; exact ⟨rfl, rfl, rfl, rfl⟩
    · rw [upM_nk h1, upM_nk h1, upM_nk h1, upM_nk h1, upM_ne (show 80 ≠ 79 by decide), upM_ne (show 81 ≠ 80 by decide), upM_ne (show 81 ≠ 79 by decide), upM_ne (show 82 ≠ 81 by decide), upM_ne (show 82 ≠ 80 by decide), upM_ne (show 82 ≠ 79 by decide)]
      exact c3 j p h2
theorem drop_at {α : Type} {L wa : List α} {k : Nat} (h : L.drop k = wa.drop k) (hl : k < wa.length) : ∃ q, L[k]? = some q ∧ wa[k]? = some q ∧ L.drop (k + 1) = wa.drop (k + 1) ∧ wa.drop k = q :: wa.drop (k + 1) := by
  have h1 : L[k]? = wa[k]? := by
    have := congrArg (fun l => l[0]?) h
    simpa using this
  obtain ⟨q, hq⟩ : ∃ q, wa[k]? = some q := ⟨_, List.getElem?_eq_getElem hl⟩
  refine ⟨q, h1.trans hq, hq, ?_, ?_⟩
  · have := congrArg (List.drop 1) h
    simpa using this
  · rw [List.drop_eq_getElem_cons hl]
    congr 1
    exact Option.some.inj ((List.getElem?_eq_getElem hl).symm.trans hq)
theorem take_set {α : Type} {L : List α} {s : Nat} {q : α} (h : s < L.length) : (L.set s q).take (s + 1) = L.take s ++ [q] := by
  rw [List.take_add_one, List.take_set_of_le (Nat.le_refl _), List.getElem?_set_self h]
  rfl
theorem drop_set {α : Type} {L : List α} {s k : Nat} {q : α} (h : s < k) : (L.set s q).drop k = L.drop k := List.drop_set_of_lt h
theorem set_ok {L : List wat} {s : Nat} {q : wat} (h : waOk n L) (hq : q.2.1 < n ∧ q.2.2.1 < n) : waOk n (L.set s q) := ⟨by rw [List.length_set]; exact h.1, fun p hp => by
  rcases List.mem_or_eq_of_mem_set hp with h1 | h1
  · exact h.2 p h1
  · rw [h1]; exact hq⟩
theorem s50l (hw : wfS tx n up t ac pa ke mk wa) : ∀ d k (L : List wat) (s : Nat) (N : mem), wa.length - k = d → k ≤ wa.length → L.length = wa.length → s ≤ k → L.take s = (wa.take k).filter (stF up ac.1) → L.drop k = wa.drop k → waOk n L → RC tx n up t ac pa ke mk L so N → hiC M N → ∃ N', Rm E 50 6 [vr 78, vr 9, vr 70, vr 19, vi (nI s), vi (nI k)] [] N (some (.int (nI (wa.length - (wa.filter (stF up ac.1)).length)))) N' ∧ RC tx n up t ac pa ke mk (wa.filter (stF up ac.1)) so N' ∧ hiC M N' := by
  have hl := hw.2.2.2.2.2.2.2.1
  intro d
  induction d with
  | zero =>
    intro k L s N hd hk hL hs ht hdr hLw hC hh
    obtain rfl : k = wa.length := by omega
    rw [List.take_length] at ht
    have hsl : (wa.filter (stF up ac.1)).length = s := by rw [← ht, List.length_take]; omega
    obtain ⟨c1, c2, c3⟩ := hC.2.2.2.2.2.2.1
    refine ⟨upM N 78 4 (nI s), ?_, hC.wat (fun a ha => upM_ne (by omega)) ⟨?_, ?_, fun j q hq => ?_⟩, hh.up (by omega)⟩
    · have := b50_6_0 (E := E) (M := N) (x4 := nI s) (x5 := nI wa.length) sk19 (by rw [c1, hL]; exact nI_le (Nat.le_refl _) (by omega)) rfl
      rw [c1, hL, pk_sub (by omega)] at this
      rw [hsl]
      exact this
    · rw [upM_eq, hsl]
    · rw [upM_nk (by decide)]; exact c2
    · rw [upM_ne (show 79 ≠ 78 by decide), upM_ne (show 80 ≠ 78 by decide), upM_ne (show 81 ≠ 78 by decide), upM_ne (show 82 ≠ 78 by decide)]
      refine c3 j q ?_
      have hj : j < s := by rw [← hsl]; exact (List.getElem?_eq_some_iff.mp hq).1
      rw [← ht, List.getElem?_take_of_lt hj] at hq
      exact hq
  | succ d ih =>
    intro k L s N hd hk hL hs ht hdr hLw hC hh
    have hkl : k < wa.length := by omega
    obtain ⟨q, q1, q2, q3, q4⟩ := drop_at hdr hkl
    have hqm : q ∈ wa := List.mem_of_getElem? q2
    obtain ⟨hqu, hqv⟩ := hw.2.2.2.2.2.2.2.2 q hqm
    obtain ⟨c1, c2, c3⟩ := hC.2.2.2.2.2.2.1
    obtain ⟨e1, e2, e3, e4⟩ := c3 k q q1
    have ck : (nI k).toNatClampNeg = k := clampI (by omega)
    have rk : inR (nI k) 12 := inR_nI (by omega) (by omega)
    have h0 : ¬ (N.1 78 4 ≤ nI k) := by rw [c1, hL, nI_leI (by omega) (by omega)]; omega
    obtain ⟨K, k1, k2, k3, k4, k5, k6⟩ := cLead (E := E) (hw.wan hLw) hC hqu hqv
    have hkt : (wa.take (k + 1)).filter (stF up ac.1) = (wa.take k).filter (stF up ac.1) ++ [q].filter (stF up ac.1) := by
      rw [List.take_add_one, q2, List.filter_append]
      rfl
    have k1' : Rm E 23 0 [vr 70, vr 9, vi (N.1 80 (nI k).toNatClampNeg), vi (N.1 81 (nI k).toNatClampNeg), vn, vn, vn, vn] [] N none K := by rw [ck, e2, e3]; exact k1
    have e82 : K.1 82 (nI k).toNatClampNeg = q.2.2.2 := by rw [ck, k3 82 (by omega)]; exact e4
    cases hb : stF up ac.1 q
    · rw [show [q].filter (stF up ac.1) = [] by simp [hb], List.append_nil] at hkt
      obtain ⟨N', r1, r2, r3⟩ := ih (k + 1) L s K (by omega) (by omega) hL (by omega) (by rw [ht, hkt]) q3 hLw k2 (hh.tr k4)
      refine ⟨N', ?_, r2, r3⟩
      refine b50_6_1 sk19 h0 rk rk k1' (cSum k2 k5) rk (by rw [e82]; exact Int32.not_lt.mp (of_decide_eq_false hb)) ?_
      rw [nI_1]
      exact r1
    · rw [show [q].filter (stF up ac.1) = [q] by simp [hb]] at hkt
      obtain ⟨J, j1, j2, j3, j4⟩ := s51 (E := E) (s := s) k2.2.2.2.2.2.2.1 (by omega) (by omega) q1
      have hiJ : hiC K J := ⟨j2, fun a ha => j3 a (by omega)⟩
      obtain ⟨N', r1, r2, r3⟩ := ih (k + 1) (L.set s q) (s + 1) J (by omega) (by omega) (by rw [List.length_set, hL]) (by omega) (by rw [take_set (by omega), ht, hkt]) (by rw [drop_set (by omega)]; exact q3) (set_ok hLw ⟨hqu, hqv⟩) (k2.wat j3 j4) ((hh.tr k4).tr hiJ)
      refine ⟨N', ?_, r2, r3⟩
      refine b50_6_2 sk19 h0 rk rk k1' (cSum k2 k5) rk (by rw [e82]; exact Int32.not_le.mpr (of_decide_eq_true hb)) j1 ?_
      rw [nI_1, nI_1]
      exact r1
theorem m55 {L : List wat} {k s : Nat} {q : wat} {rv : Option Value} {P : mem → Prop} (h : mWa L so M) (hk : k < 12) (hs : s < 12) (hq : L[k]? = some q) (kk : ∀ N, N.2 = M.2 → (∀ a, a ≠ 95 → N.1 a = M.1 a) → mWa (L.set s q) so N → ∃ N', Rm E 135 4 [vr 83, vi (nI (s + 1)), vi (nI (k + 1)), vn] [] N rv N' ∧ P N') : ∃ N', Rm E 135 55 [vr 83, vi (nI s), vi (nI k), vi 0] [] M rv N' ∧ P N' := by
  obtain ⟨c1, c2, c3⟩ := h
  obtain ⟨q1, q2, q3, q4⟩ := c3 k q hq
  have st : ∀ (i : Nat) (v : Int32) (N : mem), i < 4 → N.1 95 (4 * k + i) = v → (∃ N', Rm E 135 55 [vr 83, vi (nI s), vi (nI k), vi (nI (i + 1))] [] (upM N 95 (4 * s + i) v) rv N' ∧ P N') → ∃ N', Rm E 135 55 [vr 83, vi (nI s), vi (nI k), vi (nI i)] [] N rv N' ∧ P N' := by
    intro i v N hi hv ⟨N', r1, r2⟩
    refine ⟨N', ?_, r2⟩
    have e1 : ∀ j, 4 * nI j + nI i = nI (4 * j + i) := fun j => by rw [show (4 : Int32) = nI 4 from rfl, pk_mul, nI_add]
    refine b135_55_1 (by rw [show (4 : Int32) = nI 4 from rfl, nI_leI (by omega) (by omega)]; omega) (by rw [e1]; exact inR_nI (by omega) (by omega)) (by rw [e1]; exact inR_nI (by omega) (by omega)) rfl ?_
    rw [e1, e1, clampI (by omega), clampI (by omega), hv, nI_1]
    exact r1
  refine st 0 (nI q.1) M (by omega) q1 ?_
  refine st 1 (nI q.2.1) _ (by omega) (by rw [Nat.add_zero]; by_cases z : 4 * k + 1 = 4 * s; omega; rw [upM_nk z]; exact q2) ?_
  refine st 2 (nI q.2.2.1) _ (by omega) (by rw [Nat.add_zero, upM_nk (by omega), upM_nk (by omega)]; exact q3) ?_
  refine st 3 q.2.2.2 _ (by omega) (by rw [Nat.add_zero, upM_nk (by omega), upM_nk (by omega), upM_nk (by omega)]; exact q4) ?_
  obtain ⟨N', r1, r2⟩ := kk (upM (upM (upM (upM M 95 (4 * s + 0) (nI q.1)) 95 (4 * s + 1) (nI q.2.1)) 95 (4 * s + 2) (nI q.2.2.1)) 95 (4 * s + 3) q.2.2.2) rfl (fun a ha => by rw [upM_ne ha, upM_ne ha, upM_ne ha, upM_ne ha]) (by
    refine ⟨?_, ?_, fun j p hp => ?_⟩
    · rw [upM_ne (by decide), upM_ne (by decide), upM_ne (by decide), upM_ne (by decide), List.length_set]; exact c1
    · rw [upM_ne (by decide), upM_ne (by decide), upM_ne (by decide), upM_ne (by decide)]; exact c2
    · rcases set_at hp with ⟨rfl, rfl⟩ | ⟨h1, h2⟩
      · refine ⟨?_, ?_, ?_, ?_⟩
        · rw [upM_nk (by omega), upM_nk (by omega), upM_nk (by omega)]; exact upM_eq
        · rw [upM_nk (by omega), upM_nk (by omega), upM_eq]
        · rw [upM_nk (by omega), upM_eq]
        · rw [upM_eq]
      · have nn : ∀ i, i < 4 → (upM (upM (upM (upM M 95 (4 * s + 0) (nI q.1)) 95 (4 * s + 1) (nI q.2.1)) 95 (4 * s + 2) (nI q.2.2.1)) 95 (4 * s + 3) q.2.2.2).1 95 (4 * j + i) = M.1 95 (4 * j + i) := fun i hi => by rw [upM_nk (by omega), upM_nk (by omega), upM_nk (by omega), upM_nk (by omega)]
        simp only [Nat.add_zero] at nn ⊢
        have n0 := nn 0 (by omega)
        simp only [Nat.add_zero] at n0
        rw [n0, nn 1 (by omega), nn 2 (by omega), nn 3 (by omega)]
        exact c3 j p h2)
  refine ⟨N', b135_55_0 (by decide) ?_, r2⟩
  rw [nI_1, nI_1]
  exact r1
theorem s135l (hw : wfS tx n up t ac pa ke mk wa) : ∀ d k (L : List wat) (s : Nat) (N : mem), wa.length - k = d → k ≤ wa.length → L.length = wa.length → s ≤ k → L.take s = (wa.take k).filter (stF up ac.1) → L.drop k = wa.drop k → waOk n L → RM tx n up t ac pa ke mk L so N → loM M N → ∃ N', Rm E 135 4 [vr 83, vi (nI s), vi (nI k), vn] [] N (some (.int (nI (wa.length - (wa.filter (stF up ac.1)).length)))) N' ∧ RM tx n up t ac pa ke mk (wa.filter (stF up ac.1)) so N' ∧ loM M N' := by
  have hl := hw.2.2.2.2.2.2.2.1
  intro d
  induction d with
  | zero =>
    intro k L s N hd hk hL hs ht hdr hLw hC hh
    obtain rfl : k = wa.length := by omega
    rw [List.take_length] at ht
    have hsl : (wa.filter (stF up ac.1)).length = s := by rw [← ht, List.length_take]; omega
    obtain ⟨c1, c2, c3⟩ := hC.2.2.2.2.2.2
    refine ⟨upM N 83 20 (nI s), ?_, hC.wat rfl (fun a h1 h2 => upM_ne h1) (fun k h1 h2 => upM_nk h1) ⟨?_, ?_, fun j q hq => ?_⟩, hh.up (by omega)⟩
    · have := b135_4_0 (E := E) (M := N) (x1 := nI s) (x2 := nI wa.length) (by rw [c1, hL]; exact nI_le (Nat.le_refl _) (by omega)) rfl
      rw [c1, hL, pk_sub (by omega)] at this
      rw [hsl]
      exact this
    · rw [upM_eq, hsl]
    · rw [upM_nk (by decide)]; exact c2
    · rw [upM_ne (show 95 ≠ 83 by decide)]
      refine c3 j q ?_
      have hj : j < s := by rw [← hsl]; exact (List.getElem?_eq_some_iff.mp hq).1
      rw [← ht, List.getElem?_take_of_lt hj] at hq
      exact hq
  | succ d ih =>
    intro k L s N hd hk hL hs ht hdr hLw hC hh
    have hkl : k < wa.length := by omega
    obtain ⟨q, q1, q2, q3, q4⟩ := drop_at hdr hkl
    have hqm : q ∈ wa := List.mem_of_getElem? q2
    obtain ⟨hqu, hqv⟩ := hw.2.2.2.2.2.2.2.2 q hqm
    obtain ⟨c1, c2, c3⟩ := hC.2.2.2.2.2.2
    obtain ⟨e1, e2, e3, e4⟩ := c3 k q q1
    have h0 : ¬ (N.1 83 20 ≤ nI k) := by rw [c1, hL, nI_leI (by omega) (by omega)]; omega
    obtain ⟨K, k1, k2, k3, k4, k5, k6⟩ := mLays (E := E) (hw.wan hLw) hC hqu hqv
    have hkt : (wa.take (k + 1)).filter (stF up ac.1) = (wa.take k).filter (stF up ac.1) ++ [q].filter (stF up ac.1) := by
      rw [List.take_add_one, q2, List.filter_append]
      rfl
    have f0 : 4 * nI k = nI (4 * k) := by rw [show (4 : Int32) = nI 4 from rfl, pk_mul]
    have f1 : 4 * nI k + 1 = nI (4 * k + 1) := by rw [f0, nI_1]
    have f2 : 4 * nI k + 2 = nI (4 * k + 2) := by rw [f0]; exact nI_add _ 2
    have f3 : 4 * nI k + 3 = nI (4 * k + 3) := by rw [f0]; exact nI_add _ 3
    have r1' : inR (4 * nI k + 1) 48 := by rw [f1]; exact inR_nI (by omega) (by omega)
    have r2' : inR (4 * nI k + 2) 48 := by rw [f2]; exact inR_nI (by omega) (by omega)
    have r3' : inR (4 * nI k + 3) 48 := by rw [f3]; exact inR_nI (by omega) (by omega)
    have k1' : Rm E 105 0 [vr 83, vi (N.1 95 (4 * nI k + 1).toNatClampNeg), vi (N.1 95 (4 * nI k + 2).toNatClampNeg), vn, vn, vn, vn] [] N none K := by rw [f1, f2, clampI (by omega), clampI (by omega), e2, e3]; exact k1
    have e95 : K.1 95 (4 * nI k + 3).toNatClampNeg = q.2.2.2 := by rw [f3, clampI (by omega), k3.2.1 95 (by omega)]; exact e4
    cases hb : stF up ac.1 q
    · rw [show [q].filter (stF up ac.1) = [] by simp [hb], List.append_nil] at hkt
      obtain ⟨N', r1, r2, r3⟩ := ih (k + 1) L s K (by omega) (by omega) hL (by omega) (by rw [ht, hkt]) q3 hLw k2 (hh.tr k4)
      refine ⟨N', ?_, r2, r3⟩
      refine b135_4_1 h0 r1' r2' k1' (mSum k2 k5) r3' (by rw [e95]; exact Int32.not_lt.mp (of_decide_eq_false hb)) ?_
      rw [nI_1]
      exact r1
    · rw [show [q].filter (stF up ac.1) = [q] by simp [hb]] at hkt
      have go : ∀ J, J.2 = K.2 → (∀ a, a ≠ 95 → J.1 a = K.1 a) → mWa (L.set s q) so J → ∃ N', Rm E 135 4 [vr 83, vi (nI (s + 1)), vi (nI (k + 1)), vn] [] J (some (.int (nI (wa.length - (wa.filter (stF up ac.1)).length)))) N' ∧ RM tx n up t ac pa ke mk (wa.filter (stF up ac.1)) so N' ∧ loM M N' := by
        intro J j2 j3 j4
        exact ih (k + 1) (L.set s q) (s + 1) J (by omega) (by omega) (by rw [List.length_set, hL]) (by omega) (by rw [take_set (by omega), ht, hkt]) (by rw [drop_set (by omega)]; exact q3) (set_ok hLw ⟨hqu, hqv⟩) (k2.wat j2 (fun a _ h2 => j3 a h2) (fun k _ _ => by rw [j3 83 (by decide)]) j4) ((hh.tr k4).tr (fun a ha => j3 a (by omega)))
      obtain ⟨N', r1, r2, r3⟩ := m55 (E := E) (s := s) (k := k) (rv := some (.int (nI (wa.length - (wa.filter (stF up ac.1)).length)))) (P := fun N' => RM tx n up t ac pa ke mk (wa.filter (stF up ac.1)) so N' ∧ loM M N') k2.2.2.2.2.2.2 (by omega) (by omega) q1 go
      refine ⟨N', ?_, r2, r3⟩
      exact b135_4_2 h0 r1' r2' k1' (mSum k2 k5) r3' (by rw [e95]; exact Int32.not_le.mpr (of_decide_eq_true hb)) r1
theorem op_settle (hI : InvB M) : Op2 E 73 135 [vr 0] [vr 83, vn, vn, vn] M := by
  obtain ⟨tx, n, up, t, ac, pa, ke, mk, wa, so, hw, hC, hM⟩ := hI
  have hok := hw.2.2.2.2.2.2.2
  refine mkOp (so' := so) (c := nI (wa.length - (wa.filter (stF up ac.1)).length)) hM (hw.wan (wa' := wa.filter (stF up ac.1)) ⟨Nat.le_trans (List.length_filter_le ..) hok.1, fun q hq => hok.2 q (List.mem_filter.mp hq).1⟩) ?_ (fun N1 hN => ?_)
  · obtain ⟨N, n1, n2, n3⟩ := s50l (E := E) (M := M) hw wa.length 0 wa 0 M (by omega) (by omega) rfl (by omega) rfl rfl hok hC hiC.rf
    exact ⟨N, b73_0_0 (b50_0_0 sk19 n1), n2, n3⟩
  · obtain ⟨N, n1, n2, n3⟩ := s135l (E := E) (M := N1) hw wa.length 0 wa 0 N1 (by omega) (by omega) rfl (by omega) rfl rfl hok hN loM.rf
    exact ⟨N, b135_0_0 n1, n2, n3⟩
end WATCH
