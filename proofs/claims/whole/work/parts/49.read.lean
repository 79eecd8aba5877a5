/-! both read -/
section READ
variable {tx : List Int32} {M N : mem} {E : env}
theorem sk6 : skel[6]? = some (.inl (0, 30)) := rfl
theorem sk7 : skel[7]? = some (.inl (0, 30)) := rfl
theorem sk8 : skel[8]? = some (.inl (0, 30)) := rfl
theorem sgn_is {s : Nat} (hs : s < tx.length) : s + 1 + sgn tx s = eo tx (s + 1) ∧ s + 1 + sgn tx s ≤ tx.length ∧ ∀ k, k < sgn tx s → isS (ch tx (s + 1 + k)) = true := by
  obtain ⟨e1, e2, e3, e4⟩ := eo_is (tx := tx) (k := s + 1) (by omega)
  have e : s + 1 + sgn tx s = eo tx (s + 1) := by unfold sgn; omega
  exact ⟨e, by omega, fun k hk => e3 _ (by omega) (by omega)⟩
theorem b2_01 {b : Bool} : b2 b = 0 ∨ b2 b = 1 := by cases b; exact Or.inl rfl; exact Or.inr rfl
/-- an item that has an end -/
def itC (tx : List Int32) (q s : Nat) : Bool := (decide (ch tx s = 112) && (decide (q = 0) && (decide (sgn tx s ≤ 29) && upsB tx s (sgn tx s)))) || (decide (ch tx s = 119 ∨ ch tx s = 102 ∨ ch tx s = 103) && (decide (0 < q) && (decide (sgn tx s ≤ q) && figB tx s (sgn tx s))))
theorem itB_c {q s : Nat} (h1 : eo tx (s + 1) < tx.length) (h2 : ch tx (eo tx (s + 1)) = 59) : itB tx q s = itC tx q s := by
  unfold itB itC
  rw [decide_eq_true h1, decide_eq_true h2]
  rfl
theorem itC_p {q s : Nat} (h : ch tx s = 112) : itC tx q s = (decide (q = 0) && (decide (sgn tx s ≤ 29) && upsB tx s (sgn tx s))) := by
  unfold itC
  rw [decide_eq_true h, decide_eq_false (show ¬ (ch tx s = 119 ∨ ch tx s = 102 ∨ ch tx s = 103) by rw [h]; decide)]
  simp
theorem itC_f {q s : Nat} (h0 : ¬ ch tx s = 112) (h : ch tx s = 119 ∨ ch tx s = 102 ∨ ch tx s = 103) : itC tx q s = (decide (0 < q) && (decide (sgn tx s ≤ q) && figB tx s (sgn tx s))) := by
  unfold itC
  rw [decide_eq_false h0, decide_eq_true h]
  simp
theorem itC_n {q s : Nat} (h0 : ¬ ch tx s = 112) (h : ¬ (ch tx s = 119 ∨ ch tx s = 102 ∨ ch tx s = 103)) : itC tx q s = false := by
  unfold itC
  rw [decide_eq_false h0, decide_eq_false h]
  rfl
theorem c19f {a : Nat} {dv : Int32} {st : tst} (ha : skel[a]? = some (.inl (0, 30))) (ha3 : 6 ≤ a ∧ a ≤ 8) (hdv : dv = 0 ∨ dv = 1) (hT : cTx tx M) (h200 : tx.length ≤ 200) {s : Nat} (hs : s < tx.length) (hR : RD st M) (hO : stOk st) : ∃ N, Rm E 21 0 [vr 3, vr a, vi dv, vr 1, vi (nI (s + 1)), vi (nI (eo tx (s + 1))), vn, vn] [] M (some (.int (b2 (decide (0 < st.1) && (decide (sgn tx s ≤ st.1) && figB tx s (sgn tx s)))))) N ∧ eqOff [a] M N ∧ ((decide (0 < st.1) && (decide (sgn tx s ≤ st.1) && figB tx s (sgn tx s))) = true → (∀ i, i < st.1 → N.1 a i = rowF tx s (sgn tx s) dv i) ∧ ∀ i, st.1 ≤ i → N.1 a i = M.1 a i) := by
  obtain ⟨g1, g2, g3⟩ := sgn_is hs
  have h30 := hO.1
  by_cases hq : 0 < st.1
  · by_cases hm : sgn tx s ≤ st.1
    · rw [decide_eq_true hq, decide_eq_true hm, ← g1]
      exact s21 ha ha3 hdv hT h200 g2 g3 hR.1 hq h30 hm
    · rw [decide_eq_true hq, decide_eq_false hm]
      refine ⟨M, b21_0_2 ha (by rw [hR.1]; intro z; have := (nI_eq (b := 0) (by omega) (by decide)).mp z; omega) ?_, eqOff.rf, fun z => by cases z⟩
      rw [hR.1, ← g1, pk_sub (by omega), nI_leI (by omega) (by omega)]
      omega
  · rw [decide_eq_false hq]
    exact ⟨M, b21_0_0 ha (by rw [hR.1, show st.1 = 0 by omega]; rfl), eqOff.rf, fun z => by cases z⟩
theorem c19 {st : tst} (hT : cTx tx M) (h200 : tx.length ≤ 200) {s : Nat} (hs : s < tx.length) (hR : RD st M) (hO : stOk st) : ∃ N, Rm E 19 0 [vr 3, vr 1, vi (nI s), vi (nI (eo tx (s + 1)))] [] M (some (.int (b2 (itC tx st.1 s)))) N ∧ eqR 3 8 M N ∧ (itC tx st.1 s = true → RD (itS tx s st) N) := by
  obtain ⟨g1, g2, g3⟩ := sgn_is hs
  have h30 := hO.1
  have cs : (nI s).toNatClampNeg = s := clampI (by omega)
  have rs : inR (nI s) 200 := inR_nI (by omega) (by omega)
  have m2 : M.1 2 (nI s).toNatClampNeg = ch tx s := by rw [cs]; exact cTx_ch hT hs
  by_cases hp : ch tx s = 112
  · rw [itC_p hp]
    have eS : itS tx s st = (sgn tx s + 1, fun i => if i = 0 then -4 else nI (vN tx (s + i)), dfl) := if_pos hp
    by_cases hq : st.1 = 0
    · by_cases hm : sgn tx s ≤ 29
      · obtain ⟨N, n1, n2, n3⟩ := s20 (E := E) hT h200 g2 g3 (by rw [hR.1, hq]; rfl) hm
        rw [decide_eq_true hq, decide_eq_true hm, eS]
        refine ⟨N, b19_0_3 rs (by rw [m2]; exact hp) ?_ b2_01, n2, n3⟩
        rw [nI_1, ← g1]
        exact n1
      · rw [decide_eq_true hq, decide_eq_false hm]
        refine ⟨M, b19_0_3 rs (by rw [m2]; exact hp) ?_ b2_01, eqR.rf, fun z => by cases z⟩
        refine b20_0_2 (by rw [hR.1, hq]; decide) ?_
        rw [nI_1, ← g1, pk_sub (by omega)]
        intro z
        have := (nI_ltI (b := 30) (by omega) (by decide)).mp z
        omega
    · rw [decide_eq_false hq]
      refine ⟨M, b19_0_3 rs (by rw [m2]; exact hp) (b20_0_0 ?_) b2_01, eqR.rf, fun z => by cases z⟩
      rw [hR.1]
      exact nI_lt (a := 0) (by omega) (by omega)
  · by_cases hf : ch tx s = 119 ∨ ch tx s = 102 ∨ ch tx s = 103
    · rw [itC_f hp hf]
      have fin : ∀ (a : Nat) (N : mem), 6 ≤ a ∧ a ≤ 8 → eqOff [a] M N → eqR 3 8 M N ∧ (∀ i, N.1 4 i = M.1 4 i) ∧ N.1 3 0 = nI st.1 := fun a N ha he => ⟨eqOff_R he (by simp; omega), fun i => by rw [he.2 4 (by simp; omega)], by rw [he.2 3 (by simp; omega)]; exact hR.1⟩
      by_cases h1 : ch tx s = 119
      · obtain ⟨N, n1, n2, n3⟩ := c19f (E := E) (a := 6) (dv := 0) sk6 (by decide) (Or.inl rfl) hT h200 hs hR hO
        obtain ⟨f1, f2, f3⟩ := fin 6 N (by decide) n2
        refine ⟨N, b19_0_4 rs (by rw [m2]; exact h1) (by rw [nI_1]; exact n1) b2_01, f1, fun hb => ?_⟩
        have eS : itS tx s st = (st.1, st.2.1, (rowF tx s (sgn tx s) 0, st.2.2.2.1, st.2.2.2.2)) := by unfold itS; rw [if_neg hp, if_pos h1]
        rw [eS]
        obtain ⟨r1, r2⟩ := n3 hb
        simp only [Bool.and_eq_true, decide_eq_true_eq] at hb
        refine ⟨f3, fun h0 => ⟨fun i hi => by rw [f2]; exact (hR.2 h0).1 i hi, fun i hi => ⟨?_, ?_, ?_⟩⟩⟩
        · show N.1 6 i = rowF tx s (sgn tx s) 0 i
          rcases Nat.lt_or_ge i st.1 with z | z
          · exact r1 i z
          · rw [r2 i z, show rowF tx s (sgn tx s) 0 i = 0 from if_neg (by omega)]
            exact (((hR.2 h0).2 i hi).1).trans (hO.2.2.2 i z hi).1
        · show N.1 7 i = _
          rw [n2.2 7 (by simp)]; exact ((hR.2 h0).2 i hi).2.1
        · show N.1 8 i = _
          rw [n2.2 8 (by simp)]; exact ((hR.2 h0).2 i hi).2.2
      · by_cases h2 : ch tx s = 102
        · obtain ⟨N, n1, n2, n3⟩ := c19f (E := E) (a := 7) (dv := 1) sk7 (by decide) (Or.inr rfl) hT h200 hs hR hO
          obtain ⟨f1, f2, f3⟩ := fin 7 N (by decide) n2
          refine ⟨N, b19_0_1 rs (by rw [m2]; exact h2) (by rw [nI_1]; exact n1) b2_01, f1, fun hb => ?_⟩
          have eS : itS tx s st = (st.1, st.2.1, (st.2.2.1, rowF tx s (sgn tx s) 1, st.2.2.2.2)) := by unfold itS; rw [if_neg hp, if_neg h1, if_pos h2]
          rw [eS]
          obtain ⟨r1, r2⟩ := n3 hb
          simp only [Bool.and_eq_true, decide_eq_true_eq] at hb
          refine ⟨f3, fun h0 => ⟨fun i hi => by rw [f2]; exact (hR.2 h0).1 i hi, fun i hi => ⟨?_, ?_, ?_⟩⟩⟩
          · show N.1 6 i = _
            rw [n2.2 6 (by simp)]; exact ((hR.2 h0).2 i hi).1
          · show N.1 7 i = rowF tx s (sgn tx s) 1 i
            rcases Nat.lt_or_ge i st.1 with z | z
            · exact r1 i z
            · rw [r2 i z, show rowF tx s (sgn tx s) 1 i = 1 from if_neg (by omega)]
              exact (((hR.2 h0).2 i hi).2.1).trans (hO.2.2.2 i z hi).2.1
          · show N.1 8 i = _
            rw [n2.2 8 (by simp)]; exact ((hR.2 h0).2 i hi).2.2
        · have h3 : ch tx s = 103 := by rcases hf with h | h | h; exact absurd h h1; exact absurd h h2; exact h
          obtain ⟨N, n1, n2, n3⟩ := c19f (E := E) (a := 8) (dv := 0) sk8 (by decide) (Or.inl rfl) hT h200 hs hR hO
          obtain ⟨f1, f2, f3⟩ := fin 8 N (by decide) n2
          refine ⟨N, b19_0_2 rs (by rw [m2]; exact h3) (by rw [nI_1]; exact n1) b2_01, f1, fun hb => ?_⟩
          have eS : itS tx s st = (st.1, st.2.1, (st.2.2.1, st.2.2.2.1, rowF tx s (sgn tx s) 0)) := by unfold itS; rw [if_neg hp, if_neg h1, if_neg h2]
          rw [eS]
          obtain ⟨r1, r2⟩ := n3 hb
          simp only [Bool.and_eq_true, decide_eq_true_eq] at hb
          refine ⟨f3, fun h0 => ⟨fun i hi => by rw [f2]; exact (hR.2 h0).1 i hi, fun i hi => ⟨?_, ?_, ?_⟩⟩⟩
          · show N.1 6 i = _
            rw [n2.2 6 (by simp)]; exact ((hR.2 h0).2 i hi).1
          · show N.1 7 i = _
            rw [n2.2 7 (by simp)]; exact ((hR.2 h0).2 i hi).2.1
          · show N.1 8 i = rowF tx s (sgn tx s) 0 i
            rcases Nat.lt_or_ge i st.1 with z | z
            · exact r1 i z
            · rw [r2 i z, show rowF tx s (sgn tx s) 0 i = 0 from if_neg (by omega)]
              exact (((hR.2 h0).2 i hi).2.2).trans (hO.2.2.2 i z hi).2.2
    · rw [itC_n hp hf]
      refine ⟨M, b19_0_0 rs (by rw [m2]; exact fun z => hf (Or.inr (Or.inl z))) (by rw [m2]; exact fun z => hf (Or.inr (Or.inr z))) (by rw [m2]; exact hp) (by rw [m2]; exact fun z => hf (Or.inl z)), eqR.rf, fun z => by cases z⟩
theorem nI_n4 {s : Nat} (h : s < 2 ^ 31) : nI s ≠ -4 := hvI_ne h
theorem s16l (hT : cTx tx M) (h200 : tx.length ≤ 200) : ∀ d s k (st : tst) (N : mem), tx.length ≤ s + d → s ≤ tx.length + 1 → k ≤ s → stOk st → eqR 3 8 M N → RD st N → ∃ N', Rm E 16 9 [vr 3, vr 1, vi (nI s), vi (nI k), vn] [] N (some (.int (flT tx d s st).1)) N' ∧ eqR 3 8 M N' ∧ ((flT tx d s st).1 = -4 → RD (flT tx d s st).2 N') := by
  intro d
  have hTN : ∀ {N : mem}, eqR 3 8 M N → cTx tx N := fun he => hT.cg (he.2 1 (by omega)) (he.2 2 (by omega))
  have ends : ∀ (s k : Nat) (st : tst) (N : mem), tx.length ≤ s → s ≤ 201 → eqR 3 8 M N → RD st N → ∃ N', Rm E 16 9 [vr 3, vr 1, vi (nI s), vi (nI k), vn] [] N (some (.int (-4))) N' ∧ eqR 3 8 M N' ∧ (((-4 : Int32) = -4) → RD st N') := by
    intro s k st N hs h201 he hR
    refine ⟨N, ?_, he, fun _ => hR⟩
    by_cases hk : (200 : Int32) ≤ nI k
    · exact b16_9_0 hk
    · exact b16_9_1 hk (by rw [(hTN he).1]; exact nI_le hs (by omega))
  induction d with
  | zero =>
    intro s k st N hd hs hk hO he hR
    exact ends s k st N (by omega) (by omega) he hR
  | succ d ih =>
    intro s k st N hd hs hk hO he hR
    unfold flT
    by_cases hl : tx.length ≤ s
    · rw [if_pos hl]
      exact ends s k st N hl (by omega) he hR
    · rw [if_neg hl]
      have hsl : s < tx.length := by omega
      have hTe := hTN he
      have hk2 : ¬ ((200 : Int32) ≤ nI k) := by rw [show (200 : Int32) = nI 200 from rfl, nI_leI (by omega) (by omega)]; omega
      have h11 : ¬ (N.1 1 1 ≤ nI s) := by rw [hTe.1, nI_leI (by omega) (by omega)]; omega
      obtain ⟨e1, e2, e3, e4⟩ := eo_is (tx := tx) (k := s + 1) (by omega)
      have h17 : Rm E 17 0 [vr 1, vi (nI s + 1), vn] [] N (some (.int (nI (eo tx (s + 1))))) N := by
        rw [nI_1]
        exact b17_0_0 (s17 hTe h200 _ (s + 1) rfl (by omega))
      by_cases hel : eo tx (s + 1) < tx.length
      · have h39 : ¬ (N.1 1 1 ≤ nI (eo tx (s + 1))) := by rw [hTe.1, nI_leI (by omega) (by omega)]; omega
        have ce : (nI (eo tx (s + 1))).toNatClampNeg = eo tx (s + 1) := clampI (by omega)
        have re : inR (nI (eo tx (s + 1))) 200 := inR_nI (by omega) (by omega)
        have m2 : N.1 2 (nI (eo tx (s + 1))).toNatClampNeg = ch tx (eo tx (s + 1)) := by rw [ce]; exact cTx_ch hTe hel
        by_cases h59 : ch tx (eo tx (s + 1)) = 59
        · rw [itB_c hel h59]
          obtain ⟨K, k1, k2, k3⟩ := c19 (E := E) hTe h200 hsl hR hO
          cases hb : itC tx st.1 s
          · rw [hb] at k1
            simp only [Bool.false_eq_true, if_false]
            exact ⟨K, b16_9_5 hk2 h11 h17 h39 re (fun z => z (by rw [m2]; exact h59)) k1 (fun z => z rfl), he.tr k2, fun z => absurd z (nI_n4 (by omega))⟩
          · rw [hb] at k1
            simp only [if_true]
            obtain ⟨N', r1, r2, r3⟩ := ih (eo tx (s + 1) + 1) (k + 1) (itS tx s st) K (by omega) (by omega) (by omega) (itS_ok (by rw [itB_c hel h59]; exact hb) hO) (he.tr k2) (k3 hb)
            refine ⟨N', b16_9_4 hk2 h11 h17 h39 re (fun z => z (by rw [m2]; exact h59)) k1 (by decide) ?_, r2, r3⟩
            rw [nI_1, nI_1]
            exact r1
        · have hb : itB tx st.1 s = false := by unfold itB; rw [decide_eq_false h59]; simp
          rw [hb]
          simp only [Bool.false_eq_true, if_false]
          exact ⟨N, b16_9_3 hk2 h11 h17 h39 re (by rw [m2]; exact h59), he, fun z => absurd z (nI_n4 (by omega))⟩
      · have hb : itB tx st.1 s = false := by unfold itB; rw [decide_eq_false hel]; simp
        rw [hb]
        simp only [Bool.false_eq_true, if_false]
        exact ⟨N, b16_9_2 hk2 h11 h17 (by rw [hTe.1]; exact nI_le (by omega) (by omega)), he, fun z => absurd z (nI_n4 (by omega))⟩
def st0 : tst := (0, fun _ => 0, dfl)
theorem st0_ok : stOk st0 := ⟨by decide, fun h => absurd h (by decide), dfl_ok, fun i _ _ => ⟨rfl, rfl, rfl⟩⟩
def rdT (tx : List Int32) : Int32 × tst := flT tx tx.length 0 st0
theorem s16 (hT : cTx tx M) (h200 : tx.length ≤ 200) : ∃ N', Rm E 16 0 [vr 3, vr 1, vn, vn, vn] [] M (some (.int (rdT tx).1)) N' ∧ eqR 3 8 M N' ∧ ((rdT tx).1 = -4 → RD (rdT tx).2 N') := by
  have e0 : eqR 3 8 M (upM M 3 0 0) := eqR.rf.up (by omega) (by omega)
  obtain ⟨N', r1, r2, r3⟩ := s16l (E := E) (M := M) hT h200 tx.length 0 0 st0 (upM M 3 0 0) (by omega) (by omega) (by omega) st0_ok e0 ⟨upM_eq, fun h => absurd h (by decide)⟩
  exact ⟨N', b16_0_0 rfl r1, r2, r3⟩
/-! the model -/
theorem s94 (c : Int32) : Rm E 94 0 [vi c] [] M (some (.int (if isS c then sv c else -4))) M := by
  have a1 : ∀ {N : mem}, Rm E 88 0 [vl c.toInt64, vn, vl 48, vn, vl 57, vn] [] N (some (.int (b01 (48 ≤ c ∧ c ≤ 57)))) N := fun {N} => s88i (y := 48) (z := 57) rfl rfl
  have a2 : ∀ {N : mem}, Rm E 88 0 [vl c.toInt64, vn, vl 97, vn, vl 115, vn] [] N (some (.int (b01 (97 ≤ c ∧ c ≤ 115)))) N := fun {N} => s88i (y := 97) (z := 115) rfl rfl
  unfold isS sv
  by_cases h1 : 48 ≤ c ∧ c ≤ 57
  · rw [decide_eq_true (Or.inl h1), if_pos rfl, if_pos h1]
    exact b94_0_2 a1 (b01_n h1)
  · by_cases h2 : 97 ≤ c ∧ c ≤ 115
    · rw [decide_eq_true (Or.inr h2), if_pos rfl, if_neg h1]
      exact b94_0_1 a1 (b01_0.mpr h1) a2 (b01_n h2)
    · rw [decide_eq_false (fun z => by rcases z with z | z; exact h1 z; exact h2 z)]
      exact b94_0_0 a1 (b01_0.mpr h1) a2 (b01_0.mpr h2)
theorem s94s {k : Nat} (h : isS (ch tx k) = true) {c : Int32} (hc : c = ch tx k) : Rm E 94 0 [vi c] [] M (some (.int (nI (vN tx k)))) M := by
  have := s94 (E := E) (M := M) c
  rw [hc, h, if_pos rfl, (sv_v h).1] at this
  rw [hc]
  exact this
def sfI (tx : List Int32) (k e : Nat) : Int32 := if e < tx.length ∧ ch tx e = 59 then nI (e - k) else -4
theorem s95 (hT : mTx tx M) (h200 : tx.length ≤ 200) {k0 : Nat} (hk0 : k0 ≤ tx.length) : ∀ d k, tx.length - k = d → k0 ≤ k → k ≤ tx.length → Rm E 95 2 [vr 83, vi (nI k0), vi (nI k)] [] M (some (.int (sfI tx k0 (eoD tx d k)))) M := by
  intro d
  induction d with
  | zero =>
    intro k hd h0 hk
    have h : M.1 83 11 ≤ nI k := by rw [hT.1]; exact nI_le (by omega) (by omega)
    rw [show sfI tx k0 (eoD tx 0 k) = -4 from if_neg (fun z => by have : k < tx.length := z.1; omega)]
    exact b95_2_0 h h
  | succ d ih =>
    intro k hd h0 hk
    have hkl : k < tx.length := by omega
    have h : ¬ (M.1 83 11 ≤ nI k) := by rw [hT.1, nI_leI (by omega) (by omega)]; omega
    have ck : (nI k).toNatClampNeg = k := clampI (by omega)
    have rk : inR (nI k) 200 := inR_nI (by omega) (by omega)
    have m92 : M.1 92 (nI k).toNatClampNeg = ch tx k := by rw [ck]; exact mTx_ch hT hkl
    have v := s94 (E := E) (M := M) (M.1 92 (nI k).toNatClampNeg)
    rw [m92] at v
    unfold eoD
    cases hs : isS (ch tx k)
    · rw [hs] at v
      simp only [Bool.false_eq_true, if_false] at v ⊢
      by_cases h59 : ch tx k = 59
      · rw [show sfI tx k0 k = nI (k - k0) from if_pos ⟨hkl, h59⟩, ← pk_sub h0]
        exact b95_2_5 h rk (by rw [m92]; exact v) rfl h rk (fun z => z (by rw [m92]; exact h59))
      · rw [show sfI tx k0 k = -4 from if_neg (fun z => h59 z.2)]
        exact b95_2_4 h rk (by rw [m92]; exact v) rfl h rk (by rw [m92]; exact h59)
    · rw [hs, if_pos rfl, (sv_v hs).1] at v
      simp only [if_true]
      refine b95_2_6 h rk (by rw [m92]; exact v) (nI_n4 (by have := (sv_v hs).2; omega)) ?_
      rw [nI_1]
      exact ih (k + 1) (by omega) (by omega) (by omega)
theorem s96 (hT : mTx tx M) (h200 : tx.length ≤ 200) {s m : Nat} (hsm : s + 1 + m ≤ tx.length) (hS : ∀ k, k < m → isS (ch tx (s + 1 + k)) = true) : Rm E 96 0 [vr 83, vi (nI (s + 1)), vi (nI m), vn, vn] [] M (some (.int (b2 (decide (m ≤ 29) && upsB tx s m)))) M := by
  have key : ∀ d k (b : Bool), m - k = d → k ≤ m → (b = true ↔ m ≤ 29 ∧ ∀ j, j < k → vN tx (s + 1 + j) ≤ j) → Rm E 96 15 [vr 83, vi (nI (s + 1)), vi (nI m), vi (b2 b), vi (nI k)] [] M (some (.int (b2 (decide (m ≤ 29) && upsB tx s m)))) M := by
    intro d
    induction d with
    | zero =>
      intro k b hd hk hb
      obtain rfl : k = m := by omega
      have : b = (decide (k ≤ 29) && upsB tx s k) := by
        rw [Bool.eq_iff_iff, hb, Bool.and_eq_true, decide_eq_true_eq]
        unfold upsB
        rw [all_range]
        simp only [decide_eq_true_eq]
      rw [← this]
      exact b96_15_0 (nI_le (Nat.le_refl _) (by omega)) b2_01
    | succ d ih =>
      intro k b hd hk hb
      have hlt : ¬ (nI m ≤ nI k) := by rw [nI_leI (by omega) (by omega)]; omega
      cases b with
      | false =>
        refine b96_15_1 hlt rfl ?_
        rw [nI_1]
        exact ih (k + 1) false (by omega) (by omega) ⟨(fun z => by cases z), fun z => hb.mpr ⟨z.1, fun j hj => z.2 j (by omega)⟩⟩
      | true =>
        have hs := hS k (by omega)
        have hvb := (sv_v hs).2
        have e0 : nI (s + 1) + nI k = nI (s + 1 + k) := nI_add _ _
        have rr : inR (nI (s + 1) + nI k) 200 := by rw [e0]; exact inR_nI (by omega) (by omega)
        have hv : Rm E 94 0 [vi (M.1 92 (nI (s + 1) + nI k).toNatClampNeg)] [] M (some (.int (nI (vN tx (s + 1 + k))))) M := s94s hs (by rw [e0, clampI (by omega)]; exact mTx_ch hT (by omega))
        by_cases hle : vN tx (s + 1 + k) ≤ k
        · refine b96_15_3 hlt (by decide) rr hv (nI_nlt hle (by omega)) ?_
          rw [nI_1]
          refine ih (k + 1) true (by omega) (by omega) ⟨fun _ => ⟨(hb.mp rfl).1, fun j hj => ?_⟩, fun _ => rfl⟩
          rcases Nat.lt_or_ge j k with z | z
          · exact (hb.mp rfl).2 j z
          · obtain rfl : j = k := by omega
            exact hle
        · refine b96_15_2 hlt (by decide) rr hv (nI_lt (by omega) (by omega)) ?_
          rw [nI_1]
          exact ih (k + 1) false (by omega) (by omega) ⟨(fun z => by cases z), fun z => absurd (z.2 k (by omega)) hle⟩
  by_cases h29 : m ≤ 29
  · exact b96_0_1 (nI_nlt (a := 29) h29 (by decide)) (key m 0 true (by omega) (by omega) ⟨fun _ => ⟨h29, fun j hj => by omega⟩, fun _ => rfl⟩)
  · exact b96_0_0 (nI_lt (a := 29) (by omega) (by omega)) (key m 0 false (by omega) (by omega) ⟨(fun z => by cases z), fun z => absurd z.1 h29⟩)
theorem s97 (hT : mTx tx M) (h200 : tx.length ≤ 200) {s m : Nat} (hsm : s + 1 + m ≤ tx.length) (hS : ∀ k, k < m → isS (ch tx (s + 1 + k)) = true) : Rm E 97 0 [vr 83, vi (nI (s + 1)), vi (nI m), vn, vn] [] M (some (.int (b2 (figB tx s m)))) M := by
  have key : ∀ d k (b : Bool), m - k = d → k ≤ m → (b = true ↔ ∀ j, j < k → vN tx (s + 1 + j) < 10) → Rm E 97 5 [vr 83, vi (nI (s + 1)), vi (nI m), vi (b2 b), vi (nI k)] [] M (some (.int (b2 (figB tx s m)))) M := by
    intro d
    induction d with
    | zero =>
      intro k b hd hk hb
      obtain rfl : k = m := by omega
      have : b = figB tx s k := by
        rw [Bool.eq_iff_iff, hb]
        unfold figB
        rw [all_range]
        simp only [decide_eq_true_eq]
      rw [← this]
      exact b97_5_0 (nI_le (Nat.le_refl _) (by omega)) b2_01
    | succ d ih =>
      intro k b hd hk hb
      have hlt : ¬ (nI m ≤ nI k) := by rw [nI_leI (by omega) (by omega)]; omega
      cases b with
      | false =>
        refine b97_5_1 hlt rfl ?_
        rw [nI_1]
        exact ih (k + 1) false (by omega) (by omega) ⟨(fun z => by cases z), fun z => hb.mpr (fun j hj => z j (by omega))⟩
      | true =>
        have hs := hS k (by omega)
        have hvb := (sv_v hs).2
        have e0 : nI (s + 1) + nI k = nI (s + 1 + k) := nI_add _ _
        have rr : inR (nI (s + 1) + nI k) 200 := by rw [e0]; exact inR_nI (by omega) (by omega)
        have hv : Rm E 94 0 [vi (M.1 92 (nI (s + 1) + nI k).toNatClampNeg)] [] M (some (.int (nI (vN tx (s + 1 + k))))) M := s94s hs (by rw [e0, clampI (by omega)]; exact mTx_ch hT (by omega))
        by_cases hle : vN tx (s + 1 + k) < 10
        · refine b97_5_3 hlt (by decide) rr hv (fun z => by have := (nI_leI (a := 10) (by decide) (by omega)).mp z; omega) ?_
          rw [nI_1]
          refine ih (k + 1) true (by omega) (by omega) ⟨fun _ j hj => ?_, fun _ => rfl⟩
          rcases Nat.lt_or_ge j k with z | z
          · exact (hb.mp rfl) j z
          · obtain rfl : j = k := by omega
            exact hle
        · refine b97_5_2 hlt (by decide) rr hv (nI_le (a := 10) (by omega) (by omega)) ?_
          rw [nI_1]
          exact ih (k + 1) false (by omega) (by omega) ⟨(fun z => by cases z), fun z => absurd (z k (by omega)) hle⟩
  exact b97_0_0 (key m 0 true (by omega) (by omega) ⟨fun _ j hj => by omega, fun _ => rfl⟩)
end READ
