/-! the text, and all calls -/
section OPS
variable {tx tx' : List Int32} {n : Nat} {up : Nat → Nat} {t : trf} {ac : accs} {pa ke : List accs} {mk : Nat → Bool} {wa : List wat} {so : Nat} {M N : mem} {E : env}
theorem rc_txn (h : RC tx n up t ac pa ke mk wa so M) (e : ∀ a, a ≠ 1 → a ≠ 2 → N.1 a = M.1 a) (g : cTx tx' N) : RC tx' n up t ac pa ke mk wa so N := by
  have e' : ∀ a, 3 ≤ a → N.1 a = M.1 a := fun a ha => e a (by omega) (by omega)
  obtain ⟨g1, g2, g3, g4, g5, g6, g7, g8⟩ := h
  refine ⟨g, ?_, ?_, ?_, ?_, ?_, ?_, ?_⟩
  · exact g2.cg (fun a _ _ => e' a (by omega))
  · exact g3.cg (e' _ (by omega)) (e' _ (by omega)) (e' _ (by omega))
  · exact g4.cg (by omega) (e' _ (by omega)) (fun a _ _ => e' a (by omega))
  · exact g5.cg (by omega) (e' _ (by omega)) (fun a _ _ => e' a (by omega))
  · exact g6.cg (e' _ (by omega))
  · exact g7.cg (fun a _ _ => e' a (by omega))
  · exact fun i hi => by rw [e' 73 (by omega)]; exact g8 i hi
theorem rm_txn (h : RM tx n up t ac pa ke mk wa so M) (e1 : N.2 = M.2) (e2 : ∀ a, a ≠ 83 → a ≠ 92 → N.1 a = M.1 a) (e3 : ∀ k, k ≠ 11 → N.1 83 k = M.1 83 k) (g : mTx tx' N) : RM tx' n up t ac pa ke mk wa so N := by
  have e' : ∀ a, (84 ≤ a ∧ a ≤ 91) ∨ 93 ≤ a → N.1 a = M.1 a := fun a ha => e2 a (by omega) (by omega)
  obtain ⟨g1, g2, g3, g4, g5, g6, g7⟩ := h
  refine ⟨g, ?_, ?_, ?_, ?_, ?_, ?_⟩
  · exact g2.cg (e3 _ (by omega)) (fun a _ _ => e' a (by omega))
  · exact g3.mk (fun i _ => by rw [e' 84 (by omega)])
  · exact g4.cg (e3 _ (by omega)) (e' _ (by omega))
  · exact g5.cg (e3 _ (by omega)) (e' _ (by omega))
  · exact g6.cg e1
  · exact g7.cg (e3 _ (by omega)) (e3 _ (by omega)) (e' _ (by omega))
theorem wfS.txn (hw : wfS tx n up t ac pa ke mk wa) (h : txOk tx') : wfS tx' n up t ac pa ke mk wa := ⟨h, hw.2⟩
theorem chr_id {x : Int32} (h : 32 ≤ x ∧ x ≤ 126) : (x.toUInt32 % 65536).toInt32 = x ∧ vp_nar .char x = x := by
  obtain ⟨k, hk, rfl⟩ := in_n (m := 127) h (by decide) (by decide) (by decide)
  have e : ((nI k).toUInt32 % 65536).toInt32 = nI k := by rw [pk_char, pk_tn (by omega), Nat.mod_eq_of_lt (by omega)]
  refine ⟨e, ?_⟩
  have := pk_vc (nI k)
  rwa [e] at this
theorem s6 {x : Int32} (hT : cTx tx M) (hl : tx.length < 200) (hx : 32 ≤ x ∧ x ≤ 126) : ∃ N, Rm E 6 0 [vr 1, vi x] [] M (some (.int 1)) N ∧ N.2 = M.2 ∧ (∀ a, a ≠ 1 → a ≠ 2 → N.1 a = M.1 a) ∧ cTx (tx ++ [x]) N := by
  refine ⟨upM (upM M 2 tx.length x) 1 1 (nI (tx.length + 1)), ?_, rfl, fun a h1 h2 => by rw [upM_ne h1, upM_ne h2], ?_, ?_⟩
  · refine b6_0_0 (N1 := upM M 2 tx.length x) (by rw [hT.1]; exact nI_lt (b := 200) hl (by decide)) (by rw [hT.1]; exact inR_nI hl (by omega)) (by rw [hT.1, clampI (by omega), (chr_id hx).2]) ?_
    rw [upM_ne (show 1 ≠ 2 by decide), hT.1, nI_1]
  · rw [upM_eq, List.length_append]; rfl
  · intro j q hq
    rw [upM_ne (by decide)]
    rcases app_at hq with ⟨h1, h2⟩ | ⟨rfl, rfl⟩
    · rw [upM_nk (by omega)]; exact hT.2 j q h1
    · rw [upM_eq]
theorem s92 {x : Int32} (hT : mTx tx M) (hl : tx.length < 200) (hx : 32 ≤ x ∧ x ≤ 126) : ∃ N, Rm E 92 0 [vr 83, vi x] [] M (some (.int (nI (tx.length + 1)))) N ∧ N.2 = M.2 ∧ (∀ a, a ≠ 83 → a ≠ 92 → N.1 a = M.1 a) ∧ (∀ k, k ≠ 11 → N.1 83 k = M.1 83 k) ∧ mTx (tx ++ [x]) N := by
  have e1 : (upM M 92 tx.length x).1 83 11 = nI tx.length := by rw [upM_ne (by decide)]; exact hT.1
  refine ⟨upM (upM M 92 tx.length x) 83 11 (nI (tx.length + 1)), ?_, rfl, fun a h1 h2 => by rw [upM_ne h1, upM_ne h2], fun k hk => by rw [upM_nk hk, upM_ne (by decide)], ?_, ?_⟩
  · have := b92_0_0 (E := E) (M := M) (x1 := x) (N1 := upM M 92 tx.length x) (N2 := upM (upM M 92 tx.length x) 83 11 (nI (tx.length + 1))) (s88i (y := 32) (z := 126) rfl rfl) (b01_n hx) (by rw [hT.1]; intro z; have := (nI_eq (b := 200) (by omega) (by decide)).mp z; omega) (by rw [hT.1]; exact inR_nI hl (by omega)) (by rw [hT.1, clampI (by omega)]) (by rw [e1, nI_1])
    rwa [upM_eq] at this
  · rw [upM_eq, List.length_append]; rfl
  · intro j q hq
    rw [upM_ne (by decide)]
    rcases app_at hq with ⟨h1, h2⟩ | ⟨rfl, rfl⟩
    · rw [upM_nk (by omega)]; exact hT.2 j q h1
    · rw [upM_eq]
theorem txOk_app {x : Int32} (h : txOk tx) (hl : tx.length < 200) (hx : 32 ≤ x ∧ x ≤ 126) : txOk (tx ++ [x]) := ⟨by simp; omega, fun c hc => by
  rcases List.mem_append.mp hc with z | z
  · exact h.2 c z
  · simp at z
    rw [z]; exact hx⟩
theorem op_write (hI : InvB M) {x : Int32} : Op2 E 53 92 [vr 0, vi x] [vr 83, vi x] M := by
  obtain ⟨tx, n, up, t, ac, pa, ke, mk, wa, so, hw, hC, hM⟩ := hI
  have inx : ∀ {N1 : mem}, Rm E 88 0 [vl x.toInt64, vn, vl 32, vn, vl 126, vn] [] N1 (some (.int (b01 (32 ≤ x ∧ x ≤ 126)))) N1 := fun {N1} => s88i (y := 32) (z := 126) rfl rfl
  by_cases hx : 32 ≤ x ∧ x ≤ 126
  · have h200 := hw.1.1
    by_cases hl : tx.length < 200
    · refine mkOp (so' := so) (c := nI (tx.length + 1)) hM (hw.txn (txOk_app hw.1 hl hx)) ?_ (fun N1 hN => ?_)
      · obtain ⟨N, n1, n2, n3, n4⟩ := s6 (E := E) hC.1 hl hx
        refine ⟨N, ?_, rc_txn hC n3 n4, n2, fun a ha => n3 a (by omega) (by omega)⟩
        have e : N.1 1 1 = nI (tx.length + 1) := by rw [n4.1, List.length_append]; rfl
        rw [← e]
        exact b53_0_1 s81 (b01_n hx) (by rw [(chr_id hx).1]; exact n1) (by decide)
      · obtain ⟨N, n1, n2, n3, n4, n5⟩ := s92 (E := E) hN.1 hl hx
        exact ⟨N, n1, rm_txn hN n2 n3 n4 n5, fun a ha => n3 a (by omega) (by omega)⟩
    · have h2 : tx.length = 200 := by omega
      refine mkRd0 (c := -3) hw hC hM ?_ (fun N1 hN => b92_0_1 inx (b01_n hx) (fun q => q (by rw [hN.1.1, h2]; rfl)))
      exact b53_0_0 s81 (b01_n hx) (b6_0_1 (by rw [hC.1.1, h2]; decide)) rfl
  · exact mkRd0 hw hC hM (b53_0_2 s81 (fun q => q (b01_0.mpr hx))) (fun N1 hN => b92_0_2 inx (fun q => q (b01_0.mpr hx)))
theorem cTx_nil (h : M.1 1 1 = 0) : cTx [] M := ⟨h, fun j q z => by simp at z⟩
theorem mTx_nil (h : M.1 83 11 = 0) : mTx [] M := ⟨h, fun j q z => by simp at z⟩
theorem txOk_nil : txOk [] := ⟨by simp, fun c h => by simp at h⟩
theorem op_wipe (hI : InvB M) : Op2 E 54 93 [vr 0, vn] [vr 83, vn] M := by
  obtain ⟨tx, n, up, t, ac, pa, ke, mk, wa, so, hw, hC, hM⟩ := hI
  refine mkOp (tx' := []) (so' := so) (c := nI tx.length) hM (hw.txn txOk_nil) ?_ (fun N1 hN => ?_)
  · refine ⟨upM M 1 1 0, ?_, rc_txn hC (fun a h1 h2 => upM_ne h1) (cTx_nil upM_eq), rfl, fun a ha => upM_ne (by omega)⟩
    rw [← hC.1.1]
    exact b54_0_0 rfl
  · refine ⟨upM N1 83 11 0, ?_, rm_txn hN rfl (fun a h1 h2 => upM_ne h1) (fun k hk => upM_nk hk) (mTx_nil upM_eq), fun a ha => upM_ne (by omega)⟩
    rw [← hN.1.1]
    exact b93_0_0 rfl
theorem op_fault (hI : InvB M) : Op2 E 55 98 [vr 0] [vr 83, vn, vn, vn, vn, vn, vn] M := by
  obtain ⟨tx, n, up, t, ac, pa, ke, mk, wa, so, hw, hC, hM⟩ := hI
  refine mkRd (c := (rdT tx).1) hw hC hM ?_ (fun N1 hN => ?_)
  · obtain ⟨N, n1, n2, n3⟩ := s16 (E := E) hC.1 hw.1.1
    exact ⟨N, b55_0_0 n1, fun a ha => n2.2 a (by omega), n2.1, fun a ha => n2.2 a (by omega)⟩
  · obtain ⟨N, n1, n2, n3⟩ := m98 (E := E) hN.1 hw.1.1
    obtain ⟨k1, k2⟩ := n2.kpM (by simp) (by simp)
    exact ⟨N, n1, k1, k2⟩
theorem op_lay (hI : InvB M) : Op2 E 56 100 [vr 0] [vr 83, vn, vn, vn, vn] M := by
  obtain ⟨tx, n, up, t, ac, pa, ke, mk, wa, so, hw, hC, hM⟩ := hI
  by_cases h4 : (rdT tx).1 = -4
  · by_cases h0 : 0 < (rdT tx).2.1
    · refine mkOp (so' := 0) (c := nI (rdT tx).2.1) hM (rd_wf hw.1 h0) ?_ (fun N1 hN => ?_)
      · obtain ⟨N, n1, n2, n3⟩ := c84 (E := E) hw.1 hC.1 hC.2.2.2.1 hC.2.2.2.2.1 hC.2.2.2.2.2.2.2 h4 h0
        refine ⟨N, ?_, n2, n3⟩
        rw [← n2.2.1.1]
        exact b56_0_1 n1 (by decide)
      · exact m100 (E := E) hw.1 hN.1 h4 h0
    · have hz : (rdT tx).2.1 = 0 := by omega
      refine mkRd (c := -2) hw hC hM ?_ (fun N1 hN => ?_)
      · obtain ⟨N, n1, n2, n3⟩ := s16 (E := E) hC.1 hw.1.1
        exact ⟨N, b56_0_0 (b84_0_2 n1 (fun q => q h4) (fun q => q (by rw [(n3 h4).1, hz]; rfl))) rfl, fun a ha => n2.2 a (by omega), n2.1, fun a ha => n2.2 a (by omega)⟩
      · obtain ⟨N, n1, n2, n3⟩ := m98 (E := E) hN.1 hw.1.1
        obtain ⟨k1, k2⟩ := n2.kpM (by simp) (by simp)
        exact ⟨N, b100_0_2 n1 (fun q => q h4) (fun q => q (by rw [n3 h4, hz]; rfl)), k1, k2⟩
  · refine mkRd (c := -2) hw hC hM ?_ (fun N1 hN => ?_)
    · obtain ⟨N, n1, n2, n3⟩ := s16 (E := E) hC.1 hw.1.1
      exact ⟨N, b56_0_0 (b84_0_0 n1 h4) rfl, fun a ha => n2.2 a (by omega), n2.1, fun a ha => n2.2 a (by omega)⟩
    · obtain ⟨N, n1, n2, n3⟩ := m98 (E := E) hN.1 hw.1.1
      obtain ⟨k1, k2⟩ := n2.kpM (by simp) (by simp)
      exact ⟨N, b100_0_0 n1 h4, k1, k2⟩
end OPS
