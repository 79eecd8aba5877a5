/-! the law's loop -/
theorem law_loop {E : env} (hL : E.1 ≤ 2560) : ∀ d i (M : mem), E.1 - i ≤ d → i ≤ E.1 + 5 → InvB M → ∃ M2, Rm E 0 18 [some (.retAddr 0), vr 0, vr 83, vi (nI i)] [] M (some (.int 1)) M2 := by
  have hlen : Int32.ofNat E.1 = nI E.1 := rfl
  have hcmp : ∀ i, i ≤ E.1 + 5 → ((Int32.ofNat E.1 - 5 < nI i) ↔ E.1 < i + 5) := by
    intro i hi
    have e5 : (Int32.ofNat E.1 - 5).toInt = (E.1 : Int) - 5 := pk_sub_toInt (a := E.1) (b := 5) (by omega) (by omega)
    rw [Int32.lt_iff_toInt_lt, e5, nI_toInt (by omega)]
    omega
  intro d
  induction d with
  | zero =>
    intro i M hd hi hI
    exact ⟨M, b0_18_0 ((hcmp i hi).mpr (by omega))⟩
  | succ d ih =>
    intro i M hd hi hI
    by_cases hx : E.1 < i + 5
    · exact ⟨M, b0_18_0 ((hcmp i hi).mpr hx)⟩
    · have h0 : ¬ (Int32.ofNat E.1 - 5 < nI i) := fun z => hx ((hcmp i hi).mp z)
      have r0 : inR (nI i) E.1 := inR_nI (by omega) (by omega)
      have r1 : inR (nI i + 1) E.1 := by rw [show nI i + 1 = nI (i + 1) from nI_add _ 1]; exact inR_nI (by omega) (by omega)
      have r2 : inR (nI i + 2) E.1 := by rw [show nI i + 2 = nI (i + 2) from nI_add _ 2]; exact inR_nI (by omega) (by omega)
      have r3 : inR (nI i + 3) E.1 := by rw [show nI i + 3 = nI (i + 3) from nI_add _ 3]; exact inR_nI (by omega) (by omega)
      have r4 : inR (nI i + 4) E.1 := by rw [show nI i + 4 = nI (i + 4) from nI_add _ 4]; exact inR_nI (by omega) (by omega)
      have e5 : nI i + 5 = nI (i + 5) := nI_add _ 5
      have next : ∀ N, InvB N → ∃ M2, Rm E 0 18 [some (.retAddr 0), vr 0, vr 83, vi (nI i + 5)] [] N (some (.int 1)) M2 := fun N hN => by rw [e5]; exact ih (i + 5) N (by omega) (by omega) hN
      obtain ⟨j, hj, hv⟩ := pk_andE (E.2 (nI i).toNatClampNeg) (m := 31) 5 (by decide)
      have hj32 : j < 32 := hj
      rcases (show j = 0 ∨ j = 1 ∨ j = 2 ∨ j = 3 ∨ j = 4 ∨ j = 5 ∨ j = 6 ∨ j = 7 ∨ j = 8 ∨ j = 9 ∨ j = 10 ∨ j = 11 ∨ j = 12 ∨ j = 13 ∨ j = 14 ∨ j = 15 ∨ j = 16 ∨ j = 17 ∨ j = 18 ∨ j = 19 ∨ j = 20 ∨ j = 21 ∨ j = 22 ∨ j = 23 ∨ j = 24 ∨ j = 25 ∨ j = 26 ∨ j = 27 ∨ 28 ≤ j by omega) with rfl | rfl | rfl | rfl | rfl | rfl | rfl | rfl | rfl | rfl | rfl | rfl | rfl | rfl | rfl | rfl | rfl | rfl | rfl | rfl | rfl | rfl | rfl | rfl | rfl | rfl | rfl | rfl | hj2
      · obtain ⟨c, N1, N2, q1, q2, q3⟩ := op_write (E := E) hI (x := E.2 (nI i + 1).toNatClampNeg)
        obtain ⟨M2, k1⟩ := next N2 q3
        exact ⟨M2, b0_18_2 h0 r0 hv r1 q1 r1 q2 rfl k1⟩
      · obtain ⟨c, N1, N2, q1, q2, q3⟩ := op_wipe (E := E) hI
        obtain ⟨M2, k1⟩ := next N2 q3
        exact ⟨M2, b0_18_4 h0 r0 hv  q1  q2 rfl k1⟩
      · obtain ⟨c, N1, N2, q1, q2, q3⟩ := op_fault (E := E) hI
        obtain ⟨M2, k1⟩ := next N2 q3
        exact ⟨M2, b0_18_6 h0 r0 hv  q1  q2 rfl k1⟩
      · obtain ⟨c, N1, N2, q1, q2, q3⟩ := op_lay (E := E) hI
        obtain ⟨M2, k1⟩ := next N2 q3
        exact ⟨M2, b0_18_8 h0 r0 hv  q1  q2 rfl k1⟩
      · obtain ⟨c, N1, N2, q1, q2, q3⟩ := op_post (E := E) hI (x := E.2 (nI i + 1).toNatClampNeg) (y := E.2 (nI i + 2).toNatClampNeg)
        obtain ⟨M2, k1⟩ := next N2 q3
        exact ⟨M2, b0_18_10 h0 r0 hv r1 r2 q1 r1 r2 q2 rfl k1⟩
      · obtain ⟨c, N1, N2, q1, q2, q3⟩ := op_at (E := E) hI (x := E.2 (nI i + 1).toNatClampNeg)
        obtain ⟨M2, k1⟩ := next N2 q3
        exact ⟨M2, b0_18_12 h0 r0 hv r1 q1 r1 q2 rfl k1⟩
      · obtain ⟨c, N1, N2, q1, q2, q3⟩ := op_add (E := E) hI (x := E.2 (nI i + 1).toNatClampNeg) (y := E.2 (nI i + 2).toNatClampNeg) (z := E.2 (nI i + 3).toNatClampNeg) (k := E.2 (nI i + 4).toNatClampNeg)
        obtain ⟨M2, k1⟩ := next N2 q3
        exact ⟨M2, b0_18_14 h0 r0 hv r1 r2 r3 r4 q1 r1 r2 r3 r4 q2 rfl k1⟩
      · obtain ⟨c, N1, N2, q1, q2, q3⟩ := op_pour (E := E) hI (x := E.2 (nI i + 1).toNatClampNeg) (z := E.2 (nI i + 2).toNatClampNeg) (k := E.2 (nI i + 3).toNatClampNeg)
        obtain ⟨M2, k1⟩ := next N2 q3
        exact ⟨M2, b0_18_16 h0 r0 hv r1 r2 r3 q1 r1 r2 r3 q2 rfl k1⟩
      · obtain ⟨c, N1, N2, q1, q2, q3⟩ := op_set (E := E) hI (x := E.2 (nI i + 1).toNatClampNeg) (y := E.2 (nI i + 2).toNatClampNeg)
        obtain ⟨M2, k1⟩ := next N2 q3
        exact ⟨M2, b0_18_18 h0 r0 hv r1 r2 q1 r1 r2 q2 rfl k1⟩
      · obtain ⟨c, N1, N2, q1, q2, q3⟩ := op_shape (E := E) hI (x := E.2 (nI i + 1).toNatClampNeg) (y := E.2 (nI i + 2).toNatClampNeg) (z := E.2 (nI i + 3).toNatClampNeg)
        obtain ⟨M2, k1⟩ := next N2 q3
        exact ⟨M2, b0_18_20 h0 r0 hv r1 r2 r3 q1 r1 r2 r3 q2 rfl k1⟩
      · obtain ⟨c, N1, N2, q1, q2, q3⟩ := op_undo (E := E) hI
        obtain ⟨M2, k1⟩ := next N2 q3
        exact ⟨M2, b0_18_22 h0 r0 hv  q1  q2 rfl k1⟩
      · obtain ⟨c, N1, N2, q1, q2, q3⟩ := op_way (E := E) hI (x := E.2 (nI i + 1).toNatClampNeg) (y := E.2 (nI i + 2).toNatClampNeg) (z := E.2 (nI i + 3).toNatClampNeg)
        obtain ⟨M2, k1⟩ := next N2 q3
        exact ⟨M2, b0_18_24 h0 r0 hv r1 r2 r3 q1 r1 r2 r3 q2 rfl k1⟩
      · obtain ⟨c, N1, N2, q1, q2, q3⟩ := op_step (E := E) hI (x := E.2 (nI i + 1).toNatClampNeg) (y := E.2 (nI i + 2).toNatClampNeg) (z := E.2 (nI i + 3).toNatClampNeg)
        obtain ⟨M2, k1⟩ := next N2 q3
        exact ⟨M2, b0_18_26 h0 r0 hv r1 r2 r3 q1 r1 r2 r3 q2 rfl k1⟩
      · obtain ⟨c, N1, N2, q1, q2, q3⟩ := op_through (E := E) hI (x := E.2 (nI i + 1).toNatClampNeg) (y := E.2 (nI i + 2).toNatClampNeg) (z := E.2 (nI i + 3).toNatClampNeg)
        obtain ⟨M2, k1⟩ := next N2 q3
        exact ⟨M2, b0_18_28 h0 r0 hv r1 r2 r3 q1 r1 r2 r3 q2 rfl k1⟩
      · obtain ⟨c, N1, N2, q1, q2, q3⟩ := op_below (E := E) hI (x := E.2 (nI i + 1).toNatClampNeg) (y := E.2 (nI i + 2).toNatClampNeg)
        obtain ⟨M2, k1⟩ := next N2 q3
        exact ⟨M2, b0_18_30 h0 r0 hv r1 r2 q1 r1 r2 q2 rfl k1⟩
      · obtain ⟨c, N1, N2, q1, q2, q3⟩ := op_mark (E := E) hI (x := E.2 (nI i + 1).toNatClampNeg) (y := E.2 (nI i + 2).toNatClampNeg) (z := E.2 (nI i + 3).toNatClampNeg)
        obtain ⟨M2, k1⟩ := next N2 q3
        exact ⟨M2, b0_18_32 h0 r0 hv r1 r2 r3 q1 r1 r2 r3 q2 rfl k1⟩
      · obtain ⟨c, N1, N2, q1, q2, q3⟩ := op_turn (E := E) hI (x := E.2 (nI i + 1).toNatClampNeg)
        obtain ⟨M2, k1⟩ := next N2 q3
        exact ⟨M2, b0_18_34 h0 r0 hv r1 q1 r1 q2 rfl k1⟩
      · obtain ⟨c, N1, N2, q1, q2, q3⟩ := op_marked (E := E) hI (x := E.2 (nI i + 1).toNatClampNeg)
        obtain ⟨M2, k1⟩ := next N2 q3
        exact ⟨M2, b0_18_36 h0 r0 hv r1 q1 r1 q2 rfl k1⟩
      · obtain ⟨c, N1, N2, q1, q2, q3⟩ := op_nearest (E := E) hI (x := E.2 (nI i + 1).toNatClampNeg)
        obtain ⟨M2, k1⟩ := next N2 q3
        exact ⟨M2, b0_18_38 h0 r0 hv r1 q1 r1 q2 rfl k1⟩
      · obtain ⟨c, N1, N2, q1, q2, q3⟩ := op_watch (E := E) hI (x := E.2 (nI i + 1).toNatClampNeg) (y := E.2 (nI i + 2).toNatClampNeg) (z := E.2 (nI i + 3).toNatClampNeg)
        obtain ⟨M2, k1⟩ := next N2 q3
        exact ⟨M2, b0_18_40 h0 r0 hv r1 r2 r3 q1 r1 r2 r3 q2 rfl k1⟩
      · obtain ⟨c, N1, N2, q1, q2, q3⟩ := op_settle (E := E) hI
        obtain ⟨M2, k1⟩ := next N2 q3
        exact ⟨M2, b0_18_42 h0 r0 hv  q1  q2 rfl k1⟩
      · obtain ⟨c, N1, N2, q1, q2, q3⟩ := op_waits (E := E) hI (x := E.2 (nI i + 1).toNatClampNeg)
        obtain ⟨M2, k1⟩ := next N2 q3
        exact ⟨M2, b0_18_44 h0 r0 hv r1 q1 r1 q2 rfl k1⟩
      · obtain ⟨c, N1, N2, q1, q2, q3⟩ := op_richest (E := E) hI (x := E.2 (nI i + 1).toNatClampNeg)
        obtain ⟨M2, k1⟩ := next N2 q3
        exact ⟨M2, b0_18_46 h0 r0 hv r1 q1 r1 q2 rfl k1⟩
      · obtain ⟨c, N1, N2, q1, q2, q3⟩ := op_longest (E := E) hI (x := E.2 (nI i + 1).toNatClampNeg)
        obtain ⟨M2, k1⟩ := next N2 q3
        exact ⟨M2, b0_18_48 h0 r0 hv r1 q1 r1 q2 rfl k1⟩
      · obtain ⟨c, N1, N2, q1, q2, q3⟩ := op_day (E := E) hI (x := E.2 (nI i + 1).toNatClampNeg) (y := E.2 (nI i + 2).toNatClampNeg) (z := E.2 (nI i + 3).toNatClampNeg)
        obtain ⟨M2, k1⟩ := next N2 q3
        exact ⟨M2, b0_18_50 h0 r0 hv r1 r2 r3 q1 r1 r2 r3 q2 rfl k1⟩
      · obtain ⟨c, N1, N2, q1, q2, q3⟩ := op_keep (E := E) hI
        obtain ⟨M2, k1⟩ := next N2 q3
        exact ⟨M2, b0_18_52 h0 r0 hv  q1  q2 rfl k1⟩
      · obtain ⟨c, N1, N2, q1, q2, q3⟩ := op_back (E := E) hI
        obtain ⟨M2, k1⟩ := next N2 q3
        exact ⟨M2, b0_18_54 h0 r0 hv  q1  q2 rfl k1⟩
      · obtain ⟨c, N1, N2, q1, q2, q3⟩ := op_count (E := E) hI (x := E.2 (nI i + 1).toNatClampNeg)
        obtain ⟨M2, k1⟩ := next N2 q3
        exact ⟨M2, b0_18_56 h0 r0 hv r1 q1 r1 q2 rfl k1⟩
      · obtain ⟨M2, k1⟩ := next M hI
        exact ⟨M2, b0_18_1 h0 r0 (by rw [hv, nI_toInt (by omega)]; omega) k1⟩
