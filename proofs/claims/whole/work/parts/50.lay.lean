/-! a text laid -/
section LAY
variable {tx : List Int32} {M N : mem} {E : env}
theorem bad98 {x1 x3 x4 : Int32} : Rm E 98 132 [vr 83, vi x1, vn, vi x3, vi x4, vn, vn] [] M (some (.int x1)) M := b98_132_0 (b98_133_2 (fun z => z rfl))
theorem to66 {s : Nat} {n : Int32} {rv : Option Value} {M2 : mem} (hT : mTx tx M) (h200 : tx.length ≤ 200) (hs : s < tx.length) (h95 : Rm E 95 0 [vr 83, vi (nI s + 1), vn] [] M (some (.int n)) M) (k : Rm E 98 66 [vr 83, vi (nI s), vn, vi n, vi (b2 (decide (ch tx s = 112))), vn, vn] [.int (b2 (decide (ch tx s = 119 ∨ ch tx s = 102 ∨ ch tx s = 103)))] M rv M2) : Rm E 98 7 [vr 83, vi (nI s), vn, vn, vn, vn, vn] [] M rv M2 := by
  have h0 : ¬ (M.1 83 11 ≤ nI s) := by rw [hT.1, nI_leI (by omega) (by omega)]; omega
  have rs : inR (nI s) 200 := inR_nI (by omega) (by omega)
  have m92 : M.1 92 (nI s).toNatClampNeg = ch tx s := by rw [clampI (by omega)]; exact mTx_ch hT hs
  have k41 : Rm E 98 41 [vr 83, vi (nI s), vi (M.1 92 (nI s).toNatClampNeg), vi n, vn, vn, vn] [.int (b2 (decide (ch tx s = 112)))] M rv M2 := by
    rw [m92]
    by_cases h1 : ch tx s = 119
    · rw [decide_eq_true (p := ch tx s = 119 ∨ ch tx s = 102 ∨ ch tx s = 103) (Or.inl h1)] at k
      exact b98_41_0 h1 (b98_61_0 k)
    · by_cases h2 : ch tx s = 102
      · rw [decide_eq_true (p := ch tx s = 119 ∨ ch tx s = 102 ∨ ch tx s = 103) (Or.inr (Or.inl h2))] at k
        exact b98_41_1 h1 h2 (b98_61_0 k)
      · by_cases h3 : ch tx s = 103
        · rw [decide_eq_true (p := ch tx s = 119 ∨ ch tx s = 102 ∨ ch tx s = 103) (Or.inr (Or.inr h3))] at k
          exact b98_41_3 h1 h2 (fun z => z h3) (b98_61_0 k)
        · rw [decide_eq_false (p := ch tx s = 119 ∨ ch tx s = 102 ∨ ch tx s = 103) (fun z => by rcases z with z | z | z; exact h1 z; exact h2 z; exact h3 z)] at k
          exact b98_41_2 h1 h2 h3 k
  by_cases hp : ch tx s = 112
  · rw [decide_eq_true hp] at k41
    exact b98_7_2 h0 rs h95 (fun z => z (by rw [m92]; exact hp)) k41
  · rw [decide_eq_false hp] at k41
    exact b98_7_1 h0 rs h95 (by rw [m92]; exact hp) k41
theorem s95a (hT : mTx tx M) (h200 : tx.length ≤ 200) {s : Nat} (hs : s < tx.length) : Rm E 95 0 [vr 83, vi (nI s + 1), vn] [] M (some (.int (sfI tx (s + 1) (eo tx (s + 1))))) M := by
  rw [nI_1]
  exact b95_0_0 (s95 hT h200 (by omega) _ (s + 1) rfl (Nat.le_refl _) (by omega))
theorem m98l (hT : mTx tx M) (h200 : tx.length ≤ 200) : ∀ d s (st : tst) (N : mem), tx.length ≤ s + d → s ≤ tx.length + 1 → stOk st → eqM [] [12] M N → N.1 83 12 = nI st.1 → ∃ N', Rm E 98 7 [vr 83, vi (nI s), vn, vn, vn, vn, vn] [] N (some (.int (flT tx d s st).1)) N' ∧ eqM [] [12] M N' ∧ ((flT tx d s st).1 = -4 → N'.1 83 12 = nI (flT tx d s st).2.1) := by
  have hTN : ∀ {N : mem}, eqM [] [12] M N → mTx tx N := fun he => hT.cg (he.2.2 11 (by simp)) (he.off (by simp) (by simp))
  intro d
  induction d with
  | zero =>
    intro s st N hd hs hO he h12
    exact ⟨N, b98_7_0 (by rw [(hTN he).1]; exact nI_le (by omega) (by omega)), he, fun _ => h12⟩
  | succ d ih =>
    intro s st N hd hs hO he h12
    unfold flT
    by_cases hl : tx.length ≤ s
    · rw [if_pos hl]
      exact ⟨N, b98_7_0 (by rw [(hTN he).1]; exact nI_le hl (by omega)), he, fun _ => h12⟩
    · rw [if_neg hl]
      have hsl : s < tx.length := by omega
      have hTe := hTN he
      have h30 := hO.1
      obtain ⟨g1, g2, g3⟩ := sgn_is (tx := tx) hsl
      obtain ⟨e1, e2, e3, e4⟩ := eo_is (tx := tx) (k := s + 1) (by omega)
      have h95 := s95a (E := E) hTe h200 hsl
      by_cases hend : eo tx (s + 1) < tx.length ∧ ch tx (eo tx (s + 1)) = 59
      · rw [itB_c hend.1 hend.2]
        have hn : sfI tx (s + 1) (eo tx (s + 1)) = nI (sgn tx s) := if_pos hend
        rw [hn] at h95
        have hn4 : ¬ (nI (sgn tx s) = -4) := nI_n4 (by omega)
        have fail : itC tx st.1 s = false → Rm E 98 66 [vr 83, vi (nI s), vn, vi (nI (sgn tx s)), vi (b2 (decide (ch tx s = 112))), vn, vn] [.int (b2 (decide (ch tx s = 119 ∨ ch tx s = 102 ∨ ch tx s = 103)))] N (some (.int (nI s))) N → ∃ N', Rm E 98 7 [vr 83, vi (nI s), vn, vn, vn, vn, vn] [] N (some (.int (if itC tx st.1 s = true then flT tx d (eo tx (s + 1) + 1) (itS tx s st) else (nI s, st)).1)) N' ∧ eqM [] [12] M N' ∧ ((if itC tx st.1 s = true then flT tx d (eo tx (s + 1) + 1) (itS tx s st) else (nI s, st)).1 = -4 → N'.1 83 12 = nI (if itC tx st.1 s = true then flT tx d (eo tx (s + 1) + 1) (itS tx s st) else (nI s, st)).2.1) := by
          intro hb k
          rw [hb]
          simp only [Bool.false_eq_true, if_false]
          exact ⟨N, to66 hTe h200 hsl h95 k, he, fun z => absurd z (nI_n4 (by omega))⟩
        have good : ∀ v, v = nI (itS tx s st).1 → itC tx st.1 s = true → (∀ N', Rm E 98 158 [vr 83, vi (nI s), vn, vi (nI (sgn tx s)), vn, vn, vn] [.int v, .ref 83] N (some (.int (flT tx d (eo tx (s + 1) + 1) (itS tx s st)).1)) N' → Rm E 98 66 [vr 83, vi (nI s), vn, vi (nI (sgn tx s)), vi (b2 (decide (ch tx s = 112))), vn, vn] [.int (b2 (decide (ch tx s = 119 ∨ ch tx s = 102 ∨ ch tx s = 103)))] N (some (.int (flT tx d (eo tx (s + 1) + 1) (itS tx s st)).1)) N') → ∃ N', Rm E 98 7 [vr 83, vi (nI s), vn, vn, vn, vn, vn] [] N (some (.int (if itC tx st.1 s = true then flT tx d (eo tx (s + 1) + 1) (itS tx s st) else (nI s, st)).1)) N' ∧ eqM [] [12] M N' ∧ ((if itC tx st.1 s = true then flT tx d (eo tx (s + 1) + 1) (itS tx s st) else (nI s, st)).1 = -4 → N'.1 83 12 = nI (if itC tx st.1 s = true then flT tx d (eo tx (s + 1) + 1) (itS tx s st) else (nI s, st)).2.1) := by
          intro v hv hb k
          rw [hb]
          simp only [if_true]
          obtain ⟨N', r1, r2, r3⟩ := ih (eo tx (s + 1) + 1) (itS tx s st) (upM N 83 12 v) (by omega) (by omega) (itS_ok (by rw [itB_c hend.1 hend.2]; exact hb) hO) (he.fl (by simp)) (by rw [upM_eq, hv])
          refine ⟨N', to66 hTe h200 hsl h95 (k N' (b98_158_0 rfl ?_)), r2, r3⟩
          rw [show nI s + (nI (sgn tx s) + 2) = nI (eo tx (s + 1) + 1) by rw [show nI (sgn tx s) + 2 = nI (sgn tx s + 2) from nI_add _ 2, nI_add, ← g1]; congr 1; omega]
          exact r1
        by_cases hp : ch tx s = 112
        · have hno : ¬ (ch tx s = 119 ∨ ch tx s = 102 ∨ ch tx s = 103) := by rw [hp]; decide
          have hC := itC_p (tx := tx) (q := st.1) hp
          by_cases hq : st.1 = 0
          · have h120 : ¬ (¬ N.1 83 12 = 0) := fun z => z (by rw [h12, hq]; rfl)
            have hup := s96 (E := E) hTe h200 g2 g3
            rw [← nI_1] at hup
            rw [decide_eq_true hq, Bool.true_and] at hC
            cases hb : (decide (sgn tx s ≤ 29) && upsB tx s (sgn tx s))
            · refine fail (hC.trans hb) ?_
              rw [decide_eq_true hp, decide_eq_false hno]
              exact b98_66_4 hn4 (by decide) h120 hup (fun z => z (b2_f hb)) (b98_97_0 rfl bad98)
            · refine good (nI (sgn tx s) + 1) ?_ (hC.trans hb) (fun N' k => ?_)
              · rw [nI_1]; unfold itS; rw [if_pos hp]
              · rw [decide_eq_true hp, decide_eq_false hno]
                exact b98_66_3 hn4 (by decide) h120 hup (b2_t hb) (b98_128_0 (b98_133_1 (by decide) (by decide) k))
          · rw [decide_eq_false hq, Bool.false_and] at hC
            refine fail hC ?_
            rw [decide_eq_true hp, decide_eq_false hno]
            exact b98_66_2 hn4 (by decide) (by rw [h12]; intro z; have := (nI_eq (b := 0) (by omega) (by decide)).mp z; omega) (b98_97_0 rfl bad98)
        · by_cases hf : ch tx s = 119 ∨ ch tx s = 102 ∨ ch tx s = 103
          · have hC := itC_f (tx := tx) (q := st.1) hp hf
            have eS : (itS tx s st).1 = st.1 := by
              unfold itS
              rw [if_neg hp]
              split
              · rfl
              · split <;> rfl
            by_cases hq : 0 < st.1
            · have h106 : ¬ (N.1 83 12 ≤ 0) := by rw [h12]; exact nI_nle hq (by omega)
              rw [decide_eq_true hq, Bool.true_and] at hC
              by_cases hm : sgn tx s ≤ st.1
              · rw [decide_eq_true hm, Bool.true_and] at hC
                have h114 : ¬ (N.1 83 12 < nI (sgn tx s)) := by rw [h12]; exact nI_nlt hm (by omega)
                have hfg := s97 (E := E) hTe h200 g2 g3
                rw [← nI_1] at hfg
                cases hb : figB tx s (sgn tx s)
                · refine fail (hC.trans hb) ?_
                  rw [decide_eq_false hp, decide_eq_true hf]
                  exact b98_66_1 hn4 rfl (b98_97_3 (by decide) h106 h114 hfg (b2_f hb) bad98)
                · refine good (N.1 83 12) (by rw [h12, eS]) (hC.trans hb) (fun N' k => ?_)
                  rw [decide_eq_false hp, decide_eq_true hf]
                  exact b98_66_1 hn4 rfl (b98_97_4 (by decide) h106 h114 hfg (b2_t hb) (b98_128_0 (b98_133_0 (by decide) rfl k)))
              · rw [decide_eq_false hm, Bool.false_and] at hC
                refine fail hC ?_
                rw [decide_eq_false hp, decide_eq_true hf]
                exact b98_66_1 hn4 rfl (b98_97_2 (by decide) h106 (by rw [h12]; exact nI_lt (by omega) (by omega)) bad98)
            · rw [decide_eq_false hq, Bool.false_and] at hC
              refine fail hC ?_
              rw [decide_eq_false hp, decide_eq_true hf]
              exact b98_66_1 hn4 rfl (b98_97_1 (by decide) (by rw [h12, show st.1 = 0 by omega]; decide) bad98)
          · refine fail (itC_n hp hf) ?_
            rw [decide_eq_false hp, decide_eq_false hf]
            exact b98_66_1 hn4 rfl (b98_97_0 rfl bad98)
      · have hb : itB tx st.1 s = false := by
          unfold itB
          by_cases h1 : eo tx (s + 1) < tx.length
          · rw [decide_eq_false (fun z => hend ⟨h1, z⟩)]; simp
          · rw [decide_eq_false h1]; simp
        rw [hb]
        simp only [Bool.false_eq_true, if_false]
        have hn : sfI tx (s + 1) (eo tx (s + 1)) = -4 := if_neg hend
        rw [hn] at h95
        exact ⟨N, to66 hTe h200 hsl h95 (b98_66_0 rfl bad98), he, fun z => absurd z (nI_n4 (by omega))⟩
theorem m98 (hT : mTx tx M) (h200 : tx.length ≤ 200) : ∃ N', Rm E 98 0 [vr 83, vn, vn, vn, vn, vn, vn] [] M (some (.int (rdT tx).1)) N' ∧ eqM [] [12] M N' ∧ ((rdT tx).1 = -4 → N'.1 83 12 = nI (rdT tx).2.1) := by
  obtain ⟨N', r1, r2, r3⟩ := m98l (E := E) (M := M) hT h200 tx.length 0 st0 (upM M 83 12 0) (by omega) (by omega) st0_ok (eqM.rf.fl (by simp)) upM_eq
  exact ⟨N', b98_0_0 rfl r1, r2, r3⟩
def rowG (tx : List Int32) (fr m : Nat) (d : Int32) (i : Nat) : Int32 := if i < m then nI (vN tx (fr + i)) else d
theorem s99 {ro fr m : Nat} {dv : Int32} (hro : ro ≤ 60) (hT : mTx tx M) (h200 : tx.length ≤ 200) (hfm : fr + m ≤ tx.length) (hS : ∀ k, k < m → isS (ch tx (fr + k)) = true) : ∃ N, Rm E 99 0 [vr 83, vi (nI ro), vi (nI fr), vi (nI m), vi dv, vn] [] M none N ∧ eqM [84] [] M N ∧ (∀ k, k < 30 → N.1 84 (ro + k) = rowG tx fr m dv k) ∧ ∀ i, (i < ro ∨ ro + 30 ≤ i) → N.1 84 i = M.1 84 i := by
  have key : ∀ d j (N : mem), 30 - j = d → j ≤ 30 → eqM [84] [] M N → (∀ k, k < j → N.1 84 (ro + k) = rowG tx fr m dv k) → (∀ i, (i < ro ∨ ro + 30 ≤ i) → N.1 84 i = M.1 84 i) → ∃ N', Rm E 99 3 [vr 83, vi (nI ro), vi (nI fr), vi (nI m), vi dv, vi (nI j)] [] N none N' ∧ eqM [84] [] M N' ∧ (∀ k, k < 30 → N'.1 84 (ro + k) = rowG tx fr m dv k) ∧ ∀ i, (i < ro ∨ ro + 30 ≤ i) → N'.1 84 i = M.1 84 i := by
    intro d
    induction d with
    | zero =>
      intro j N hd hj he h1 h2
      obtain rfl : j = 30 := by omega
      exact ⟨N, b99_3_0 (by decide), he, h1, h2⟩
    | succ d ih =>
      intro j N hd hj he h1 h2
      have h30 : ¬ ((30 : Int32) ≤ nI j) := by rw [show (30 : Int32) = nI 30 from rfl, nI_leI (by omega) (by omega)]; omega
      have er : nI ro + nI j = nI (ro + j) := nI_add _ _
      have rr : inR (nI ro + nI j) 90 := by rw [er]; exact inR_nI (by omega) (by omega)
      have cr : (nI ro + nI j).toNatClampNeg = ro + j := by rw [er]; exact clampI (by omega)
      obtain ⟨N', r1, r2⟩ := ih (j + 1) (upM N 84 (ro + j) (rowG tx fr m dv j)) (by omega) (by omega) (he.up (by simp) (by decide)) (fun k hk => by
        by_cases hkj : k = j
        · rw [hkj, upM_eq]
        · rw [upM_nk (by omega)]; exact h1 k (by omega)) (fun i hi => by rw [upM_nk (by omega)]; exact h2 i hi)
      refine ⟨N', ?_, r2⟩
      by_cases hjm : j < m
      · have hs := hS j hjm
        have ef : nI fr + nI j = nI (fr + j) := nI_add _ _
        have rf' : inR (nI fr + nI j) 200 := by rw [ef]; exact inR_nI (by omega) (by omega)
        have hTe : mTx tx N := hT.cg (he.2.2 11 (by simp)) (he.off (by simp) (by simp))
        have hv : Rm E 94 0 [vi (N.1 92 (nI fr + nI j).toNatClampNeg)] [] N (some (.int (nI (vN tx (fr + j))))) N := s94s hs (by rw [ef, clampI (by omega)]; exact mTx_ch hTe (by omega))
        refine b99_3_2 h30 (by rw [nI_leI (by omega) (by omega)]; omega) rf' hv rr rfl ?_
        rw [cr, nI_1]
        rw [show rowG tx fr m dv j = nI (vN tx (fr + j)) from if_pos hjm] at r1
        exact r1
      · refine b99_3_1 h30 (nI_le (by omega) (by omega)) rr rfl ?_
        rw [cr, nI_1]
        rw [show rowG tx fr m dv j = dv from if_neg hjm] at r1
        exact r1
  obtain ⟨N', r1, r2⟩ := key 30 0 M rfl (by omega) eqM.rf (fun k hk => by omega) (fun _ _ => rfl)
  exact ⟨N', b99_0_0 r1, r2⟩
/-- what the second pass keeps -/
def MD (st : tst) (N : mem) : Prop := (0 < st.1 → ∀ i, i < st.1 → N.1 85 i = st.2.1 i) ∧ roAt 84 0 st.2.2 N
theorem m95 {s m : Nat} {rv : Option Value} {Q : mem → Prop} (hT : mTx tx M) (h200 : tx.length ≤ 200) (hsm : s + 1 + m ≤ tx.length) (hS : ∀ k, k < m → isS (ch tx (s + 1 + k)) = true) (hm : m ≤ 29) (kk : ∀ N, eqM [85] [] M N → N.1 85 0 = -4 → (∀ k, k < m → N.1 85 (1 + k) = nI (vN tx (s + 1 + k))) → ∃ N2, Rm E 100 55 [vr 83, vi (nI (s + 1 + m + 1)), vn, vn, vn] [] N rv N2 ∧ Q N2) : ∀ d j (N : mem), m - j = d → j ≤ m → eqM [85] [] M N → N.1 85 0 = -4 → (∀ k, k < j → N.1 85 (1 + k) = nI (vN tx (s + 1 + k))) → ∃ N2, Rm E 100 95 [vr 83, vi (nI s), vn, vi (nI m), vi (nI j)] [] N rv N2 ∧ Q N2 := by
  intro d
  induction d with
  | zero =>
    intro j N hd hj he h0 h1
    obtain rfl : j = m := by omega
    obtain ⟨N2, r1, r2⟩ := kk N he h0 h1
    refine ⟨N2, b100_95_0 (nI_le (Nat.le_refl _) (by omega)) ?_, r2⟩
    rw [show nI s + (nI j + 2) = nI (s + 1 + j + 1) by rw [show nI j + 2 = nI (j + 2) from nI_add _ 2, nI_add]; congr 1; omega]
    exact r1
  | succ d ih =>
    intro j N hd hj he h0 h1
    have hs := hS j (by omega)
    have ef : nI s + 1 + nI j = nI (s + 1 + j) := by rw [nI_1, nI_add]
    have e1 : (1 : Int32) + nI j = nI (1 + j) := nI_add 1 j
    have hTe : mTx tx N := hT.cg (he.2.2 11 (by simp)) (he.off (by simp) (by simp))
    have hv : Rm E 94 0 [vi (N.1 92 (nI s + 1 + nI j).toNatClampNeg)] [] N (some (.int (nI (vN tx (s + 1 + j))))) N := s94s hs (by rw [ef, clampI (by omega)]; exact mTx_ch hTe (by omega))
    obtain ⟨N2, r1, r2⟩ := ih (j + 1) (upM N 85 (1 + j) (nI (vN tx (s + 1 + j)))) (by omega) (by omega) (he.up (by simp) (by decide)) (by rw [upM_nk (by omega)]; exact h0) (fun k hk => by
      by_cases hkj : k = j
      · rw [hkj, upM_eq]
      · rw [upM_nk (by omega)]; exact h1 k (by omega))
    refine ⟨N2, b100_95_1 (by rw [nI_leI (by omega) (by omega)]; omega) (by rw [ef]; exact inR_nI (by omega) (by omega)) hv (by rw [e1]; exact inR_nI (by omega) (by omega)) rfl ?_, r2⟩
    rw [e1, clampI (by omega), nI_1]
    exact r1
theorem m100l {c : Int32} {Q : mem → Prop} (hT : mTx tx M) (h200 : tx.length ≤ 200) : ∀ d s (st : tst) (N : mem), tx.length ≤ s + d → s ≤ tx.length + 1 → stOk st → (flT tx d s st).1 = -4 → eqM [84, 85] [] M N → MD st N → (∀ N' x1, N'.1 83 11 ≤ x1 → eqM [84, 85] [] M N' → MD (flT tx d s st).2 N' → ∃ N2, Rm E 100 55 [vr 83, vi x1, vn, vn, vn] [] N' (some (.int c)) N2 ∧ Q N2) → ∃ N2, Rm E 100 55 [vr 83, vi (nI s), vn, vn, vn] [] N (some (.int c)) N2 ∧ Q N2 := by
  have hTN : ∀ {N : mem}, eqM [84, 85] [] M N → mTx tx N := fun he => hT.cg (he.2.2 11 (by simp)) (he.off (by simp) (by simp))
  intro d
  induction d with
  | zero =>
    intro s st N hd hs hO hf he hD k
    exact k N (nI s) (by rw [(hTN he).1]; exact nI_le (by omega) (by omega)) he hD
  | succ d ih =>
    intro s st N hd hs hO hf he hD k
    unfold flT at hf k
    by_cases hl : tx.length ≤ s
    · rw [if_pos hl] at hf k
      exact k N (nI s) (by rw [(hTN he).1]; exact nI_le hl (by omega)) he hD
    · rw [if_neg hl] at hf k
      have hsl : s < tx.length := by omega
      have hTe := hTN he
      have h30 := hO.1
      obtain ⟨g1, g2, g3⟩ := sgn_is (tx := tx) hsl
      obtain ⟨e1, e2, e3, e4⟩ := eo_is (tx := tx) (k := s + 1) (by omega)
      cases hb : itB tx st.1 s
      · rw [hb] at hf
        exact absurd hf (nI_n4 (by omega))
      · rw [hb] at hf k
        simp only [if_true] at hf k
        have hO2 := itS_ok hb hO
        have hend : eo tx (s + 1) < tx.length ∧ ch tx (eo tx (s + 1)) = 59 := by
          unfold itB at hb
          simp only [Bool.and_eq_true, decide_eq_true_eq] at hb
          exact hb.1
        have hbc : itC tx st.1 s = true := by rw [← itB_c hend.1 hend.2]; exact hb
        have h95 := s95a (E := E) hTe h200 hsl
        have hn : sfI tx (s + 1) (eo tx (s + 1)) = nI (sgn tx s) := if_pos hend
        rw [hn] at h95
        have h0 : ¬ (N.1 83 11 ≤ nI s) := by rw [hTe.1, nI_leI (by omega) (by omega)]; omega
        have rs : inR (nI s) 200 := inR_nI (by omega) (by omega)
        have m92 : N.1 92 (nI s).toNatClampNeg = ch tx s := by rw [clampI (by omega)]; exact mTx_ch hTe hsl
        have go : ∀ N', eqM [84, 85] [] M N' → MD (itS tx s st) N' → ∃ N2, Rm E 100 55 [vr 83, vi (nI (s + 1 + sgn tx s + 1)), vn, vn, vn] [] N' (some (.int c)) N2 ∧ Q N2 := by
          intro N' h1 h2
          rw [g1]
          exact ih (eo tx (s + 1) + 1) (itS tx s st) N' (by omega) (by omega) hO2 hf h1 h2 k
        by_cases hp : ch tx s = 112
        · rw [itC_p hp] at hbc
          simp only [Bool.and_eq_true, decide_eq_true_eq] at hbc
          obtain ⟨hq, h29, -⟩ := hbc
          have eS : itS tx s st = (sgn tx s + 1, fun i => if i = 0 then -4 else nI (vN tx (s + i)), dfl) := if_pos hp
          obtain ⟨N2, r1, r2⟩ := m95 (E := E) (M := upM N 85 0 (-4)) (rv := some (.int c)) (Q := Q) (hTe.cg (by rw [upM_ne (by decide)]) (by rw [upM_ne (by decide)])) h200 g2 g3 h29 (fun N' x1 x2 x3 => go N' (((he.up (by simp) (by decide)).tr (x1.wk (by simp) (by simp)))) (by
            rw [eS]
            refine ⟨fun _ i hi => ?_, fun i hi => ?_⟩
            · have hi' : i < sgn tx s + 1 := hi
              by_cases hi0 : i = 0
              · subst hi0; exact x2
              · have h3 := x3 (i - 1) (by omega)
                rw [show 1 + (i - 1) = i by omega, show s + 1 + (i - 1) = s + i by omega] at h3
                rw [h3]
                exact (if_neg hi0).symm
            · have h4 := hO.2.2.2 i (by omega) hi
              have h5 := hD.2 i hi
              rw [x1.off (a := 84) (by simp) (by decide), upM_ne (by decide), h5.1, h5.2.1, h5.2.2]
              exact h4)) (sgn tx s) 0 (upM N 85 0 (-4)) (by omega) (by omega) eqM.rf upM_eq (fun j hj => by omega)
          exact ⟨N2, b100_55_7 h0 rs h95 (fun z => z (by rw [m92]; exact hp)) rfl r1, r2⟩
        · have hx : nI s + (nI (sgn tx s) + 2) = nI (s + 1 + sgn tx s + 1) := by
            rw [show nI (sgn tx s) + 2 = nI (sgn tx s + 2) from nI_add _ 2, nI_add]
            congr 1
            omega
          have hp' : ¬ (N.1 92 (nI s).toNatClampNeg = 112) := by rw [m92]; exact hp
          by_cases h1 : ch tx s = 119
          · have eS : itS tx s st = (st.1, st.2.1, (rowF tx s (sgn tx s) 0, st.2.2.2.1, st.2.2.2.2)) := by unfold itS; rw [if_neg hp, if_pos h1]
            obtain ⟨K, k1, k2, k3, k4⟩ := s99 (E := E) (ro := 0) (dv := 0) (by omega) hTe h200 g2 g3
            obtain ⟨N2, r1, r2⟩ := go K (he.tr (k2.wk (by simp) (by simp))) (by
              rw [eS]
              refine ⟨fun z i hi => by rw [k2.off (a := 85) (by simp) (by decide)]; exact hD.1 z i hi, fun i hi => ⟨?_, ?_, ?_⟩⟩
              · exact k3 i hi
              · rw [k4 _ (by omega)]; exact (hD.2 i hi).2.1
              · rw [k4 _ (by omega)]; exact (hD.2 i hi).2.2)
            refine ⟨N2, b100_55_5 h0 rs h95 hp' (fun z => z (by rw [m92]; exact h1)) (by rw [m92, h1]; decide) (by rw [nI_1]; exact k1) ?_, r2⟩
            rw [hx]
            exact r1
          · have h1' : ¬ (N.1 92 (nI s).toNatClampNeg = 119) := by rw [m92]; exact h1
            by_cases h2 : ch tx s = 102
            · have eS : itS tx s st = (st.1, st.2.1, (st.2.2.1, rowF tx s (sgn tx s) 1, st.2.2.2.2)) := by unfold itS; rw [if_neg hp, if_neg h1, if_pos h2]
              obtain ⟨K, k1, k2, k3, k4⟩ := s99 (E := E) (ro := 30) (dv := 1) (by omega) hTe h200 g2 g3
              obtain ⟨N2, r1, r2⟩ := go K (he.tr (k2.wk (by simp) (by simp))) (by
                rw [eS]
                refine ⟨fun z i hi => by rw [k2.off (a := 85) (by simp) (by decide)]; exact hD.1 z i hi, fun i hi => ⟨?_, ?_, ?_⟩⟩
                · rw [k4 _ (by omega)]; exact (hD.2 i hi).1
                · exact k3 i hi
                · rw [k4 _ (by omega)]; exact (hD.2 i hi).2.2)
              refine ⟨N2, b100_55_4 h0 rs h95 hp' h1' (fun z => z (by rw [m92]; exact h2)) (fun z => z (by rw [m92]; exact h2)) (by rw [nI_1]; exact k1) ?_, r2⟩
              rw [hx]
              exact r1
            · have h2' : ¬ (N.1 92 (nI s).toNatClampNeg = 102) := by rw [m92]; exact h2
              have eS : itS tx s st = (st.1, st.2.1, (st.2.2.1, st.2.2.2.1, rowF tx s (sgn tx s) 0)) := by unfold itS; rw [if_neg hp, if_neg h1, if_neg h2]
              obtain ⟨K, k1, k2, k3, k4⟩ := s99 (E := E) (ro := 60) (dv := 0) (by omega) hTe h200 g2 g3
              obtain ⟨N2, r1, r2⟩ := go K (he.tr (k2.wk (by simp) (by simp))) (by
                rw [eS]
                refine ⟨fun z i hi => by rw [k2.off (a := 85) (by simp) (by decide)]; exact hD.1 z i hi, fun i hi => ⟨?_, ?_, ?_⟩⟩
                · rw [k4 _ (by omega)]; exact (hD.2 i hi).1
                · rw [k4 _ (by omega)]; exact (hD.2 i hi).2.1
                · exact k3 i hi)
              refine ⟨N2, b100_55_1 h0 rs h95 hp' h1' h2' h2' (by rw [nI_1]; exact k1) ?_, r2⟩
              rw [hx]
              exact r1
def upT (st : tst) (i : Nat) : Nat := (st.2.1 i).toNatClampNeg
theorem upT_ok {st : tst} (h : stOk st) (h0 : 0 < st.1) : upOk st.1 (upT st) ∧ ∀ i, i < st.1 → st.2.1 i = upI (upT st) i := by
  obtain ⟨o1, o2, o3, o4⟩ := h
  obtain ⟨p1, p2⟩ := o2 h0
  refine ⟨fun i h1 h2 => ?_, fun i hi => ?_⟩
  · obtain ⟨j, hj, e⟩ := p2 i h1 h2
    unfold upT
    rw [e, clampI (by omega)]
    exact hj
  · by_cases hi0 : i = 0
    · subst hi0; exact p1
    · obtain ⟨j, hj, e⟩ := p2 i (by omega) hi
      unfold upI upT
      rw [if_neg hi0, e, clampI (by omega)]
theorem rd_wf {tx : List Int32} (hx : txOk tx) (h4 : 0 < (rdT tx).2.1) : wfS tx (rdT tx).2.1 (upT (rdT tx).2) (trT (rdT tx).2.1 (upT (rdT tx).2)) (rdT tx).2.2.2 [] [] (fun _ => false) [] := by
  have hO : stOk (rdT tx).2 := flT_ok _ _ _ st0_ok
  obtain ⟨u1, u2⟩ := upT_ok hO h4
  exact ⟨hx, trT_ok u1 h4 hO.1, trT_ch, hO.2.2.1, fun a h => by simp at h, fun a h => by simp at h, fun _ _ => rfl, by simp, fun q h => by simp at h⟩
theorem s8 : ∃ N, Rm E 8 0 [vr 76, vn] [] M none N ∧ eqOff [77] M N ∧ cMk (fun _ => false) N := by
  have key : ∀ d j (N : mem), 30 - j = d → j ≤ 30 → eqOff [77] M N → (∀ i, i < j → N.1 77 i = 0) → ∃ N', Rm E 8 2 [vr 76, vi (nI j)] [] N none N' ∧ eqOff [77] M N' ∧ cMk (fun _ => false) N' := by
    intro d
    induction d with
    | zero =>
      intro j N hd hj he hb
      obtain rfl : j = 30 := by omega
      exact ⟨N, b8_2_0 (by decide), he, hb⟩
    | succ d ih =>
      intro j N hd hj he hb
      obtain ⟨N', r1, r2⟩ := ih (j + 1) (upM N 77 j 0) (by omega) (by omega) (he.up (by simp)) (fun i hi => by
        by_cases hij : i = j
        · rw [hij, upM_eq]
        · rw [upM_nk hij]; exact hb i (by omega))
      refine ⟨N', b8_2_1 (by rw [show (30 : Int32) = nI 30 from rfl, nI_leI (by omega) (by omega)]; omega) (inR_nI (by omega) (by omega)) rfl ?_, r2⟩
      rw [clampI (by omega), nI_1]
      exact r1
  obtain ⟨N', r1, r2⟩ := key 30 0 M rfl (by omega) eqOff.rf (fun i hi => by omega)
  exact ⟨N', b8_0_0 r1, r2⟩
theorem acc5 : accA 5 := by unfold accA; decide
theorem c84 {pa ke : List accs} (hx : txOk tx) (hT : cTx tx M) (hp : cSh 26 28 8 pa M) (hk : cSh 60 62 2 ke M) (h73 : ∀ i, i < 30 → M.1 73 i = 1) (h4 : (rdT tx).1 = -4) (h0 : 0 < (rdT tx).2.1) : ∃ N, Rm E 84 0 [vr 0] [] M (some (.int 1)) N ∧ RC tx (rdT tx).2.1 (upT (rdT tx).2) (trT (rdT tx).2.1 (upT (rdT tx).2)) (rdT tx).2.2.2 [] [] (fun _ => false) [] 0 N ∧ hiC M N := by
  have hO : stOk (rdT tx).2 := flT_ok _ _ _ st0_ok
  obtain ⟨u1, u2⟩ := upT_ok hO h0
  obtain ⟨N1, a1, a2, a3⟩ := s16 (E := E) hT hx.1
  obtain ⟨d1, d2⟩ := a3 h4
  obtain ⟨d3, d4⟩ := d2 h0
  obtain ⟨N2, b1, b2, b3⟩ := s42 (E := E) (M := N1) u1 h0 hO.1 (fun i hi => by rw [d3 i hi]; exact u2 i hi)
  obtain ⟨N3, c1, c2, c3⟩ := s3 (E := E) (M := N2) acc18 acc5 (by decide) (d4.cg (b2.2 _ (by omega)) (b2.2 _ (by omega)) (b2.2 _ (by omega)))
  obtain ⟨N6, f1, f2, f3⟩ := s8 (E := E) (M := upM (upM N3 26 1 0) 60 1 0)
  have z : ∀ a, a ≠ 26 → a ≠ 60 → a ≠ 77 → a ≠ 78 → (a < 19 ∨ 21 < a) → (a < 9 ∨ 17 < a) → (a < 3 ∨ 8 < a) → (upM (upM N6 78 4 0) 78 5 0).1 a = M.1 a := by
    intro a q1 q2 q3 q4 q5 q6 q7
    rw [upM_ne q4, upM_ne q4, f2.2 a (by simpa using q3), upM_ne q2, upM_ne q1, c2.2 a (by omega), b2.2 a q6, a2.2 a q7]
  have y : ∀ a, a ≠ 26 → a ≠ 60 → a ≠ 77 → a ≠ 78 → (upM (upM N6 78 4 0) 78 5 0).1 a = N3.1 a := by
    intro a q1 q2 q3 q4
    rw [upM_ne q4, upM_ne q4, f2.2 a (by simpa using q3), upM_ne q2, upM_ne q1]
  refine ⟨upM (upM N6 78 4 0) 78 5 0, b84_0_1 a1 (fun q => q h4) (by rw [d1]; intro q; have := (nI_eq (b := 0) (by have := hO.1; omega) (by decide)).mp q; omega) (by rw [d1]; exact b1) c1 rfl rfl f1 (b48_0_0 rfl rfl), ⟨?_, ?_, ?_, ?_, ?_, ?_, ?_, ?_⟩, ?_, ?_⟩
  · exact hT.cg (z 1 (by omega) (by omega) (by omega) (by omega) (by omega) (by omega) (by omega)) (z 2 (by omega) (by omega) (by omega) (by omega) (by omega) (by omega) (by omega))
  · exact b3.cg (fun a h1 h2 => by rw [y a (by omega) (by omega) (by omega) (by omega), c2.2 a (by omega)])
  · exact c3.cg (y _ (by omega) (by omega) (by omega) (by omega)) (y _ (by omega) (by omega) (by omega) (by omega)) (y _ (by omega) (by omega) (by omega) (by omega))
  · refine hp.nil ?_ ?_
    · rw [upM_ne (by decide), upM_ne (by decide), f2.2 26 (by simp), upM_ne (by decide), upM_eq]
    · rw [upM_ne (by decide), upM_ne (by decide), f2.2 26 (by simp), upM_ne (by decide), upM_nk (by decide), c2.2 26 (by omega), b2.2 26 (by omega), a2.2 26 (by omega)]
  · refine hk.nil ?_ ?_
    · rw [upM_ne (by decide), upM_ne (by decide), f2.2 60 (by simp), upM_eq]
    · rw [upM_ne (by decide), upM_ne (by decide), f2.2 60 (by simp), upM_nk (by decide), upM_ne (by decide), c2.2 60 (by omega), b2.2 60 (by omega), a2.2 60 (by omega)]
  · exact f3.cg (by rw [upM_ne (by decide), upM_ne (by decide)])
  · exact ⟨by rw [upM_nk (by decide), upM_eq]; rfl, by rw [upM_eq]; rfl, fun j q h => by simp at h⟩
  · intro i hi
    rw [z 73 (by omega) (by omega) (by omega) (by omega) (by omega) (by omega) (by omega)]
    exact h73 i hi
  · show N6.2 = M.2
    rw [f2.1]
    show N3.2 = M.2
    rw [c2.1, b2.1, a2.1]
  · intro a ha
    exact z a (by omega) (by omega) (by omega) (by omega) (by omega) (by omega) (by omega)
theorem mb_0 : ∀ i, i < 30 → mb 0 i = 0 := by decide +kernel
theorem m100 (hx : txOk tx) (hT : mTx tx M) (h4 : (rdT tx).1 = -4) (h0 : 0 < (rdT tx).2.1) : ∃ N, Rm E 100 0 [vr 83, vn, vn, vn, vn] [] M (some (.int (nI (rdT tx).2.1))) N ∧ RM tx (rdT tx).2.1 (upT (rdT tx).2) (trT (rdT tx).2.1 (upT (rdT tx).2)) (rdT tx).2.2.2 [] [] (fun _ => false) [] 0 N ∧ loM M N := by
  have hO : stOk (rdT tx).2 := flT_ok _ _ _ st0_ok
  obtain ⟨u1, u2⟩ := upT_ok hO h0
  have h200 := hx.1
  obtain ⟨N1, a1, a2, a3⟩ := m98 (E := E) hT h200
  have a4 := a3 h4
  have t1 : mTx tx N1 := hT.cg (a2.2.2 11 (by simp)) (a2.off (by simp) (by simp))
  have t2 : mTx tx (upM N1 83 1 (nI (rdT tx).2.1)) := t1.cg (upM_nk (by decide)) (upM_ne (by decide))
  obtain ⟨N3, c1, c2, c3, c4⟩ := s99 (E := E) (ro := 0) (fr := 0) (m := 0) (dv := 0) (by omega) t2 h200 (by omega) (fun k hk => by omega)
  have t3 : mTx tx N3 := t2.cg (c2.2.2 11 (by simp)) (c2.off (by simp) (by simp))
  obtain ⟨N4, d1, d2, d3, d4⟩ := s99 (E := E) (ro := 30) (fr := 0) (m := 0) (dv := 1) (by omega) t3 h200 (by omega) (fun k hk => by omega)
  have t4 : mTx tx N4 := t3.cg (d2.2.2 11 (by simp)) (d2.off (by simp) (by simp))
  obtain ⟨N5, e1, e2, e3, e4⟩ := s99 (E := E) (ro := 60) (fr := 0) (m := 0) (dv := 0) (by omega) t4 h200 (by omega) (fun k hk => by omega)
  have t5 : mTx tx N5 := t4.cg (e2.2.2 11 (by simp)) (e2.off (by simp) (by simp))
  have hD : MD st0 N5 := ⟨fun z => absurd z (by decide), fun i hi => ⟨by rw [e4 _ (by omega), d4 _ (by omega)]; exact c3 i hi, by rw [e4 _ (by omega)]; exact d3 i hi, e3 i hi⟩⟩
  have n1 : N5.1 83 1 = nI (rdT tx).2.1 := by rw [e2.2.2 1 (by simp), d2.2.2 1 (by simp), c2.2.2 1 (by simp), upM_eq]
  have lo5 : loM M N5 := fun a ha => by rw [e2.off (by simp; omega) (by omega), d2.off (by simp; omega) (by omega), c2.off (by simp; omega) (by omega), upM_ne (by omega), a2.off (by simp) (by omega)]
  obtain ⟨N6, r1, r2, r3⟩ := m100l (E := E) (M := N5) (c := nI (rdT tx).2.1) (Q := fun N2 => RM tx (rdT tx).2.1 (upT (rdT tx).2) (trT (rdT tx).2.1 (upT (rdT tx).2)) (rdT tx).2.2.2 [] [] (fun _ => false) [] 0 N2 ∧ loM M N2) t5 h200 tx.length 0 st0 N5 (by omega) (by omega) st0_ok h4 eqM.rf hD (fun N' x1 h11 he hD' => by
    obtain ⟨K, k1, k2, k3⟩ := s101 (E := E) (M := N') u1 h0 hO.1 (by rw [he.2.2 1 (by simp)]; exact n1) (fun i hi => by rw [hD'.1 h0 i hi]; exact u2 i hi)
    have y : ∀ a, a ≠ 83 → (upM (upM (upM (upM ((K.1, 0) : mem) 83 20 0) 83 21 0) 83 17 0) 83 24 0).1 a = K.1 a := fun a ha => by rw [upM_ne ha, upM_ne ha, upM_ne ha, upM_ne ha]
    have f : ∀ k, k ≠ 20 → k ≠ 21 → k ≠ 17 → k ≠ 24 → (upM (upM (upM (upM ((K.1, 0) : mem) 83 20 0) 83 21 0) 83 17 0) 83 24 0).1 83 k = N5.1 83 k := fun k q1 q2 q3 q4 => by rw [upM_nk q4, upM_nk q3, upM_nk q2, upM_nk q1]; exact (k2.2.2 k (by simp)).trans (he.2.2 k (by simp))
    refine ⟨upM (upM (upM (upM ((K.1, 0) : mem) 83 20 0) 83 21 0) 83 17 0) 83 24 0, ?_, ⟨?_, ?_, ?_, ?_, ?_, ?_, ?_⟩, ?_⟩
    · have := b100_55_0 (E := E) (M := N') (x1 := x1) h11 k1 rfl rfl rfl rfl rfl
      rw [f 1 (by decide) (by decide) (by decide) (by decide), n1] at this
      exact this
    · exact t5.cg (f 11 (by decide) (by decide) (by decide) (by decide)) (by rw [y 92 (by decide), k2.off (a := 92) (by decide) (by decide), he.off (a := 92) (by simp) (by decide)])
    · exact k3.cg ((f 1 (by decide) (by decide) (by decide) (by decide)).trans (by rw [k2.2.2 1 (by simp), he.2.2 1 (by simp)])) (fun a q1 q2 => y a (by omega))
    · exact hD'.2.mk (fun i _ => by rw [y 84 (by decide), k2.off (a := 84) (by decide) (by decide)])
    · exact mSh.nil (by rw [upM_nk (by decide), upM_eq])
    · exact mSh.nil (by rw [upM_eq])
    · exact fun i hi => mb_0 i hi
    · exact ⟨by rw [upM_nk (by decide), upM_nk (by decide), upM_nk (by decide), upM_eq]; rfl, by rw [upM_nk (by decide), upM_nk (by decide), upM_eq]; rfl, fun j q h => by simp at h⟩
    · exact lo5.tr (fun a ha => by rw [y a (by omega), k2.off (a := a) (by unfold A6; simp; omega) (by omega), he.off (a := a) (by simp; omega) (by omega)]))
  exact ⟨N6, b100_0_1 a1 (fun q => q h4) (by rw [a4]; intro q; have := (nI_eq (b := 0) (by have := hO.1; omega) (by decide)).mp q; omega) (by rw [a4]) c1 d1 e1 r1, r2, r3⟩
end LAY
