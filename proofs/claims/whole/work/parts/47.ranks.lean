/-! the model lays the row -/
section RANKS
variable {n : Nat} {up : Nat → Nat} {M N : mem} {E : env}
def rkB (n : Nat) (up : Nat → Nat) (N : mem) : Prop := N.1 83 1 = nI n ∧ ∀ i, i < n → N.1 85 i = upI up i ∧ N.1 86 i = hvI (hvT n up i) ∧ N.1 87 i = nI (szT n up i) ∧ N.1 90 i = nI (dpt up i)
def rkP (n : Nat) (up : Nat → Nat) (j : Nat) (N : mem) : Prop := ∀ i, i < j → N.1 88 i = nI (plT n up i) ∧ N.1 91 (plT n up i) = nI i ∧ N.1 89 i = nI (hdT n up i)
theorem s102 (hU : upOk n up) (hn : 1 ≤ n) (h30 : n ≤ 30) {i : Nat} (h0 : 1 ≤ i) (hi : i < n) (hB : rkB n up M) (h88 : M.1 88 (up i) = nI (plT n up (up i))) : Rm E 102 0 [vr 83, vi (nI i), vn, vn, vn] [] M (some (.int (nI (plT n up i)))) M := by
  have hu := hU i h0 hi
  have ci : (nI i).toNatClampNeg = i := clampI (by omega)
  have ri : inR (nI i) 30 := inR_nI (by omega) (by omega)
  have cu : (nI (up i)).toNatClampNeg = up i := clampI (by omega)
  have ru : inR (nI (up i)) 30 := inR_nI (by omega) (by omega)
  have e85 : ∀ k, 1 ≤ k → k < n → M.1 85 k = nI (up k) := fun k h1 h2 => by rw [(hB.2 k h2).1]; exact if_neg (by omega)
  have m85 : M.1 85 (nI i).toNatClampNeg = nI (up i) := by rw [ci]; exact e85 i h0 hi
  have ruM : inR (M.1 85 (nI i).toNatClampNeg) 30 := by rw [m85]; exact ru
  obtain ⟨c, hc⟩ := hv_some (up := up) h0 hi
  obtain ⟨f1, f2, f3, f4⟩ := sz_form hU hn hc
  have h86 : M.1 86 (up i) = nI c := by rw [(hB.2 (up i) (by omega)).2.1, hc]; rfl
  have cc : (nI c).toNatClampNeg = c := clampI (by omega)
  have hpl := plT_s (n := n) h0 hu
  by_cases hv : hvT n up (up i) = some i
  · have hci : c = i := Option.some.inj (hc.symm.trans hv)
    rw [if_pos hv] at hpl
    have := b102_0_1 (E := E) (M := M) ri ruM ruM (fun z => z (by rw [m85, cu, h86, hci]))
    rw [m85, cu, h88, nI_1, show plT n up (up i) + 1 = plT n up i by rw [hpl]] at this
    exact this
  · rw [if_neg hv] at hpl
    have hci : c ≠ i := fun z => hv (by rw [hc, z])
    have key : ∀ d k, i - k = d → 1 ≤ k → k ≤ i → Rm E 102 45 [vr 83, vi (nI i), vi (nI (up i)), vi (nI (plT n up (up i) + 1 + hsT n up (up i) + smT n up (up i) k)), vi (nI k)] [] M (some (.int (nI (plT n up i)))) M := by
      intro d
      induction d with
      | zero =>
        intro k hd h1 h2
        obtain rfl : k = i := by omega
        rw [show plT n up (up k) + 1 + hsT n up (up k) + smT n up (up k) k = plT n up k by rw [hpl]; omega]
        exact b102_45_0 (nI_le (Nat.le_refl _) (by omega))
      | succ d ih =>
        intro k hd h1 h2
        have ih := ih (k + 1) (by omega) (by omega) (by omega)
        have ck : (nI k).toNatClampNeg = k := clampI (by omega)
        have rk : inR (nI k) 30 := inR_nI (by omega) (by omega)
        have hlt : ¬ (nI i ≤ nI k) := by rw [nI_leI (by omega) (by omega)]; omega
        have huk := hU k h1 (by omega)
        have he : M.1 85 (nI k).toNatClampNeg = nI (up i) ↔ up k = up i := by rw [ck, e85 k h1 (by omega), nI_eq (by omega) (by omega)]
        by_cases hk : up k = up i
        · by_cases hkc : k = c
          · rw [smT_same (Or.inr (by rw [hc, hkc]))] at ih
            refine b102_45_2 hlt rk (fun z => z (he.mpr hk)) ru (by rw [cu, h86, hkc]) ?_
            rw [nI_1, Int32.add_zero]
            exact ih
          · rw [smT_step (n := n) (up := up) (u := up i) ⟨h1, hk⟩ (fun z => hkc (Option.some.inj (z.symm.trans hc)))] at ih
            refine b102_45_3 hlt rk (fun z => z (he.mpr hk)) ru (by rw [cu, h86, nI_eq (by omega) (by omega)]; exact hkc) rk ?_
            rw [nI_1, ck, (hB.2 k (by omega)).2.2.1, nI_add, Nat.add_assoc]
            exact ih
        · rw [smT_same (Or.inl hk)] at ih
          refine b102_45_1 hlt rk (fun z => hk (he.mp z)) ?_
          rw [nI_1, Int32.add_zero]
          exact ih
    refine b102_0_0 ri ruM ruM (by rw [m85, cu, h86, nI_eq (by omega) (by omega)]; exact hci) ruM (by rw [m85, cu, h86]; exact inR_nI (by omega) (by omega)) ?_
    have k1 := key (i - 1) 1 rfl (by omega) h0
    rw [smT_z hU 1 (by omega) hn, Nat.add_zero] at k1
    rw [m85, cu, h86, cc, h88, (hB.2 c f3).2.2.1, nI_1, nI_add, ← hs_eq hc]
    exact k1
def A6 : List Nat := [86, 87, 88, 89, 90, 91]
theorem s168l (hU : upOk n up) (hn : 1 ≤ n) (h30 : n ≤ 30) : ∀ d i (N : mem), n - i = d → i ≤ n → eqM A6 [] M N → rkB n up N → rkP n up i N → ∃ N', Rm E 101 168 [vr 83, vi (nI i), vn] [] N none N' ∧ eqM A6 [] M N' ∧ rkB n up N' ∧ rkP n up n N' := by
  intro d
  induction d with
  | zero =>
    intro i N hd hi he hB hP
    obtain rfl : i = n := by omega
    exact ⟨N, b101_168_0 (by rw [hB.1]; exact nI_le (Nat.le_refl _) (by omega)), he, hB, hP⟩
  | succ d ih =>
    intro i N hd hi he hB hP
    have hin : i < n := by omega
    have ci : (nI i).toNatClampNeg = i := clampI (by omega)
    have ri : inR (nI i) 30 := inR_nI (by omega) (by omega)
    have hlt : ¬ (N.1 83 1 ≤ nI i) := by rw [hB.1, nI_leI (by omega) (by omega)]; omega
    have hplt := plT_lt hU hn hin
    have hsp := szT_pos hU hn i
    have rp : inR (nI (plT n up i)) 30 := inR_nI (by omega) (by omega)
    have cp : (nI (plT n up i)).toNatClampNeg = plT n up i := clampI (by omega)
    have hB1 : rkB n up (upM N 89 i (nI (hdT n up i))) := ⟨by rw [upM_ne (by decide)]; exact hB.1, fun x hx => by rw [upM_ne (show 85 ≠ 89 by decide), upM_ne (show 86 ≠ 89 by decide), upM_ne (show 87 ≠ 89 by decide), upM_ne (show 90 ≠ 89 by decide)]; exact hB.2 x hx⟩
    have hB2 : rkB n up (upM (upM (upM N 89 i (nI (hdT n up i))) 88 i (nI (plT n up i))) 91 (plT n up i) (nI i)) := ⟨by rw [upM_ne (by decide), upM_ne (by decide), upM_ne (by decide)]; exact hB.1, fun x hx => by rw [upM_ne (show 85 ≠ 91 by decide), upM_ne (show 86 ≠ 91 by decide), upM_ne (show 87 ≠ 91 by decide), upM_ne (show 90 ≠ 91 by decide), upM_ne (show 85 ≠ 88 by decide), upM_ne (show 86 ≠ 88 by decide), upM_ne (show 87 ≠ 88 by decide), upM_ne (show 90 ≠ 88 by decide)]; exact hB1.2 x hx⟩
    obtain ⟨N', r1, r2⟩ := ih (i + 1) (upM (upM (upM N 89 i (nI (hdT n up i))) 88 i (nI (plT n up i))) 91 (plT n up i) (nI i)) (by omega) (by omega) (((he.up (by decide) (by decide)).up (by decide) (by decide)).up (by decide) (by decide)) hB2 (fun x hx => by
      rw [upM_ne (show 88 ≠ 91 by decide), upM_ne (show 89 ≠ 91 by decide), upM_ne (show 89 ≠ 88 by decide)]
      by_cases hxi : x = i
      · rw [hxi, upM_eq, upM_eq, upM_eq]; exact ⟨rfl, rfl, rfl⟩
      · rw [upM_nk hxi, upM_nk (fun z => hxi (plT_inj hU hn (by omega) hin z)), upM_nk hxi, upM_ne (show 88 ≠ 89 by decide), upM_ne (show 91 ≠ 88 by decide), upM_ne (show 91 ≠ 89 by decide)]
        exact hP x (by omega))
    refine ⟨N', ?_, r2⟩
    have c88 : (upM (upM N 89 i (nI (hdT n up i))) 88 i (nI (plT n up i))).1 88 (nI i).toNatClampNeg = nI (plT n up i) := by rw [ci, upM_eq]
    rcases Nat.eq_zero_or_pos i with h0 | h0
    · refine b101_168_2 (N1 := upM N 89 i (nI (hdT n up i))) (N2 := upM (upM N 89 i (nI (hdT n up i))) 88 i (nI (plT n up i))) (N3 := upM (upM (upM N 89 i (nI (hdT n up i))) 88 i (nI (plT n up i))) 91 (plT n up i) (nI i)) hlt (by rw [h0]; decide) ri (by rw [ci, h0, hdT_0]) (fun z => z (by rw [h0]; rfl)) ri (by rw [ci, h0, plT_0]; rfl) ri (by rw [c88]; exact rp) (by rw [c88, cp]) ?_
      rw [nI_1]
      exact r1
    · have hu := hU i h0 hin
      have cu : (nI (up i)).toNatClampNeg = up i := clampI (by omega)
      have e85 : N.1 85 (nI i).toNatClampNeg = nI (up i) := by rw [ci, (hB.2 i hin).1]; exact if_neg (by omega)
      have ruM : inR (N.1 85 (nI i).toNatClampNeg) 30 := by rw [e85]; exact inR_nI (by omega) (by omega)
      have hle : ¬ (nI i ≤ 0) := nI_nle h0 (by omega)
      have hne0 : ¬ (nI i = 0) := fun z => by have := (nI_eq (b := 0) (by omega) (by decide)).mp z; omega
      have hpd : Rm E 102 0 [vr 83, vi (nI i), vn, vn, vn] [] (upM N 89 i (nI (hdT n up i))) (some (.int (nI (plT n up i)))) (upM N 89 i (nI (hdT n up i))) := s102 hU hn h30 h0 hin hB1 (by rw [upM_ne (by decide)]; exact (hP (up i) hu).1)
      have hhd := hdT_s (n := n) h0 hu
      obtain ⟨c, hc⟩ := hv_some (up := up) h0 hin
      obtain ⟨f1, f2, f3, f4⟩ := sz_form hU hn hc
      have h86 : N.1 86 (N.1 85 (nI i).toNatClampNeg).toNatClampNeg = nI c := by rw [e85, cu, (hB.2 (up i) (by omega)).2.1, hc]; rfl
      by_cases hv : hvT n up (up i) = some i
      · have hci : c = i := Option.some.inj (hc.symm.trans hv)
        rw [if_pos hv] at hhd
        refine b101_168_5 (N1 := upM N 89 i (nI (hdT n up i))) (N2 := upM (upM N 89 i (nI (hdT n up i))) 88 i (nI (plT n up i))) (N3 := upM (upM (upM N 89 i (nI (hdT n up i))) 88 i (nI (plT n up i))) 91 (plT n up i) (nI i)) hlt hle ri ruM (fun z => z (by rw [h86, hci])) ri ruM ri (by rw [e85, ci, cu, (hP (up i) hu).2.2, hhd]) hne0 hpd ri (by rw [ci]) ri (by rw [c88]; exact rp) (by rw [c88, cp]) ?_
        rw [nI_1]
        exact r1
      · have hci : ¬ (c = i) := fun z => hv (by rw [hc, z])
        rw [if_neg hv] at hhd
        refine b101_168_3 (N1 := upM N 89 i (nI (hdT n up i))) (N2 := upM (upM N 89 i (nI (hdT n up i))) 88 i (nI (plT n up i))) (N3 := upM (upM (upM N 89 i (nI (hdT n up i))) 88 i (nI (plT n up i))) 91 (plT n up i) (nI i)) hlt hle ri ruM (by rw [h86, nI_eq (by omega) (by omega)]; exact hci) ri (by rw [ci, hhd]) hne0 hpd ri (by rw [ci]) ri (by rw [c88]; exact rp) (by rw [c88, cp]) ?_
        rw [nI_1]
        exact r1
theorem s102l (hU : upOk n up) (hn : 1 ≤ n) (h30 : n ≤ 30) : ∀ j (N : mem), j + 1 ≤ n → eqM A6 [] M N → N.1 83 1 = nI n → (∀ x, x < n → N.1 85 x = upI up x ∧ N.1 87 x = nI (szT n up x) ∧ N.1 90 x = nI (dpt up x) ∧ ∃ r, N.1 86 x = hvI r ∧ isHv (szT n up) up x (j + 1) n r) → ∃ N', Rm E 101 102 [vr 83, vi (nI j), vn] [] N none N' ∧ eqM A6 [] M N' ∧ rkB n up N' ∧ rkP n up n N' := by
  have hS : ∀ x, x < n → szT n up x ≤ 30 := fun x hx => by have := plT_lt hU hn hx; omega
  intro j
  induction j with
  | zero =>
    intro N hj he h1 hb
    obtain ⟨N', r1, r2⟩ := s168l (E := E) (M := M) hU hn h30 n 0 N (by omega) (by omega) he ⟨h1, fun x hx => by
      obtain ⟨g1, g2, g3, r, g4, g5⟩ := hb x hx
      exact ⟨g1, by rw [g4, isHv_un g5 (hvT_is x)], g2, g3⟩⟩ (fun i hi => by omega)
    exact ⟨N', b101_102_0 (by decide) r1, r2⟩
  | succ j ih =>
    intro N hj he h1 hb
    have hin : j + 1 < n := by omega
    have hu := hU (j + 1) (by omega) hin
    have ci : (nI (j + 1)).toNatClampNeg = j + 1 := clampI (by omega)
    have ri : inR (nI (j + 1)) 30 := inR_nI (by omega) (by omega)
    have cu : (nI (up (j + 1))).toNatClampNeg = up (j + 1) := clampI (by omega)
    have e85 : N.1 85 (nI (j + 1)).toNatClampNeg = nI (up (j + 1)) := by rw [ci, (hb _ hin).1]; exact if_neg (by omega)
    have ru : inR (N.1 85 (nI (j + 1)).toNatClampNeg) 30 := by rw [e85]; exact inR_nI (by omega) (by omega)
    have hle : ¬ (nI (j + 1) ≤ 0) := nI_nle (by omega) (by omega)
    have grow : ∀ x r, x ≠ up (j + 1) → isHv (szT n up) up x (j + 1 + 1) n r → isHv (szT n up) up x (j + 1) n r := by
      intro x r hx h
      cases r with
      | none =>
        intro i h1 h2 z
        rcases Nat.lt_or_ge (j + 1) i with h3 | h3
        · exact h i (by omega) h2 z
        · obtain rfl : i = j + 1 := by omega
          exact hx z.symm
      | some c =>
        obtain ⟨q1, q2, q3, q4⟩ := h
        refine ⟨by omega, q2, q3, fun i h1 h2 z => ?_⟩
        rcases Nat.lt_or_ge (j + 1) i with h3 | h3
        · exact q4 i (by omega) h2 z
        · obtain rfl : i = j + 1 := by omega
          exact absurd z.symm hx
    have go : ∀ v r, v = hvI r → isHv (szT n up) up (up (j + 1)) (j + 1) n r → ∃ N', Rm E 101 102 [vr 83, vi (nI (j + 1) + (-1)), vn] [] (upM N 86 (up (j + 1)) v) none N' ∧ eqM A6 [] M N' ∧ rkB n up N' ∧ rkP n up n N' := by
      intro v r hv hr
      rw [pk_m1]
      refine ih _ (by omega) (he.up (by decide) (by decide)) (by rw [upM_ne (by decide)]; exact h1) (fun x hx => ?_)
      obtain ⟨g1, g2, g3, q, g4, g5⟩ := hb x hx
      rw [upM_ne (show 85 ≠ 86 by decide), upM_ne (show 87 ≠ 86 by decide), upM_ne (show 90 ≠ 86 by decide)]
      refine ⟨g1, g2, g3, ?_⟩
      by_cases hxu : x = up (j + 1)
      · rw [hxu, upM_eq]; exact ⟨r, hv, hr⟩
      · rw [upM_nk hxu]; exact ⟨q, g4, grow x q hxu g5⟩
    obtain ⟨g1, g2, g3, r, g4, g5⟩ := hb (up (j + 1)) (by omega)
    have new : ∀ (hS2 : ∀ i, j + 1 < i → i < n → up i = up (j + 1) → szT n up i ≤ szT n up (j + 1)), isHv (szT n up) up (up (j + 1)) (j + 1) n (some (j + 1)) := by
      intro hS2
      refine ⟨Nat.le_refl _, hin, rfl, fun i h1 h2 z => ?_⟩
      rcases Nat.lt_or_ge (j + 1) i with h3 | h3
      · exact ⟨hS2 i h3 h2 z, fun z => by omega⟩
      · obtain rfl : i = j + 1 := by omega
        exact ⟨Nat.le_refl _, fun z => by omega⟩
    cases r with
    | none =>
      obtain ⟨N', r1, r2⟩ := go (nI (j + 1)) (some (j + 1)) rfl (new (fun i h1 h2 z => absurd z (g5 i (by omega) h2)))
      refine ⟨N', b101_102_1 hle ri ru (by rw [e85, cu, g4]; rfl) ru (by rw [e85, cu]) r1, r2⟩
    | some c =>
      obtain ⟨q1, q2, q3, q4⟩ := g5
      have h86 : N.1 86 (N.1 85 (nI (j + 1)).toNatClampNeg).toNatClampNeg = nI c := by rw [e85, cu, g4]; rfl
      have cc : (nI c).toNatClampNeg = c := clampI (by omega)
      have hne : ¬ (N.1 86 (N.1 85 (nI (j + 1)).toNatClampNeg).toNatClampNeg = -4) := by rw [h86]; exact hvI_ne (by omega)
      have rc : inR (N.1 86 (N.1 85 (nI (j + 1)).toNatClampNeg).toNatClampNeg) 30 := by rw [h86]; exact inR_nI (by omega) (by omega)
      have s1 := hS (j + 1) hin
      have s2 := hS c q2
      have v1 : N.1 87 (nI (j + 1)).toNatClampNeg = nI (szT n up (j + 1)) := by rw [ci]; exact (hb _ hin).2.1
      have v2 : N.1 87 (N.1 86 (N.1 85 (nI (j + 1)).toNatClampNeg).toNatClampNeg).toNatClampNeg = nI (szT n up c) := by rw [h86, cc]; exact (hb _ q2).2.1
      by_cases hl : szT n up (j + 1) < szT n up c
      · obtain ⟨N', r1, r2⟩ := go (nI c) (some c) rfl ⟨by omega, q2, q3, fun i h1 h2 z => by
          rcases Nat.lt_or_ge (j + 1) i with h3 | h3
          · exact q4 i (by omega) h2 z
          · obtain rfl : i = j + 1 := by omega
            exact ⟨by omega, fun _ => hl⟩⟩
        exact ⟨N', b101_102_2 hle ri ru hne ri ru rc (by rw [v1, v2]; exact nI_lt hl (by omega)) ru ru (by rw [h86, e85, cu]) r1, r2⟩
      · obtain ⟨N', r1, r2⟩ := go (nI (j + 1)) (some (j + 1)) rfl (new (fun i h1 h2 z => by have := (q4 i (by omega) h2 z).1; omega))
        exact ⟨N', b101_102_3 hle ri ru hne ri ru rc (by rw [v1, v2]; exact nI_nlt (by omega) (by omega)) ru (by rw [e85, cu]) r1, r2⟩
theorem s65l (hU : upOk n up) (hn : 1 ≤ n) (h30 : n ≤ 30) : ∀ e d (N : mem), d + e = n - 1 → eqM A6 [] M N → N.1 83 1 = nI n → (∀ x, x < n → N.1 85 x = upI up x ∧ N.1 86 x = -4 ∧ N.1 87 x = nI (szL n up d x) ∧ N.1 90 x = nI (dpt up x)) → ∃ N', Rm E 101 65 [vr 83, vi (nI (n - 1 - d)), vn] [] N none N' ∧ eqM A6 [] M N' ∧ rkB n up N' ∧ rkP n up n N' := by
  intro e
  induction e with
  | zero =>
    intro d N hd he h1 hb
    obtain rfl : d = n - 1 := by omega
    obtain ⟨N', r1, r2⟩ := s102l (E := E) (M := M) hU hn h30 (n - 1) N (by omega) he h1 (fun x hx => ⟨(hb x hx).1, (hb x hx).2.2.1, (hb x hx).2.2.2, none, (hb x hx).2.1, fun i h1 h2 => by omega⟩)
    refine ⟨N', b101_65_0 (by rw [Nat.sub_self]; decide) ?_, r2⟩
    rw [h1, show nI n - 1 = nI (n - 1) from pk_sub (b := 1) hn]
    exact r1
  | succ e ih =>
    intro d N hd he h1 hb
    have h0 : 0 < n - 1 - d := by omega
    have hi : n - 1 - d < n := by omega
    have hu := hU _ h0 hi
    have ci : (nI (n - 1 - d)).toNatClampNeg = n - 1 - d := clampI (by omega)
    have ri : inR (nI (n - 1 - d)) 30 := inR_nI (by omega) (by omega)
    have e85 : N.1 85 (nI (n - 1 - d)).toNatClampNeg = nI (up (n - 1 - d)) := by rw [ci, (hb _ hi).1]; exact if_neg (by omega)
    have ru : inR (N.1 85 (nI (n - 1 - d)).toNatClampNeg) 30 := by rw [e85]; exact inR_nI (by omega) (by omega)
    have cu : (nI (up (n - 1 - d))).toNatClampNeg = up (n - 1 - d) := clampI (by omega)
    obtain ⟨N', r1, r2⟩ := ih (d + 1) (upM N 87 (up (n - 1 - d)) (nI (szL n up d (up (n - 1 - d)) + szL n up d (n - 1 - d)))) (by omega) (he.up (by decide) (by decide)) (by rw [upM_ne (by decide)]; exact h1) (fun x hx => ⟨by rw [upM_ne (by decide)]; exact (hb x hx).1, by rw [upM_ne (by decide)]; exact (hb x hx).2.1, by
      rw [szL_s]
      by_cases hxu : x = up (n - 1 - d)
      · rw [hxu, upM_eq, setN_eq]
      · rw [upM_nk hxu, setN_ne hxu]; exact (hb x hx).2.2.1, by rw [upM_ne (by decide)]; exact (hb x hx).2.2.2⟩)
    refine ⟨N', b101_65_1 (nI_nle h0 (by omega)) ri ru ri ru rfl ?_, r2⟩
    rw [e85, cu, ci, (hb _ hi).2.2.1, (hb (up (n - 1 - d)) (by omega)).2.2.1, nI_add, show nI (n - 1 - d) + (-1) = nI (n - 1 - (d + 1)) by rw [show n - 1 - d = (n - 1 - (d + 1)) + 1 by omega]; exact pk_m1 _]
    exact r1
theorem s101 (hU : upOk n up) (hn : 1 ≤ n) (h30 : n ≤ 30) (h1 : M.1 83 1 = nI n) (hup : ∀ i, i < n → M.1 85 i = upI up i) : ∃ N, Rm E 101 0 [vr 83, vn, vn] [] M none N ∧ eqM A6 [] M N ∧ mTr n up (trT n up) N := by
  have key : ∀ d j (N : mem), n - j = d → j ≤ n → eqM A6 [] M N → (∀ x, x < j → N.1 86 x = -4 ∧ N.1 87 x = nI 1 ∧ N.1 90 x = nI (dpt up x)) → ∃ N', Rm E 101 2 [vr 83, vi (nI j), vn] [] N none N' ∧ eqM A6 [] M N' ∧ rkB n up N' ∧ rkP n up n N' := by
    intro d
    induction d with
    | zero =>
      intro j N hd hj he hb
      obtain rfl : j = n := by omega
      have e1 : N.1 83 1 = nI j := by rw [he.2.2 1 (by simp)]; exact h1
      obtain ⟨N', r1, r2⟩ := s65l (E := E) (M := M) hU hn h30 (j - 1) 0 N (by omega) he e1 (fun x hx => ⟨by rw [he.off (a := 85) (by decide) (by decide)]; exact hup x hx, (hb x hx).1, (hb x hx).2.1, (hb x hx).2.2⟩)
      refine ⟨N', b101_2_0 (by rw [e1]; exact nI_le (Nat.le_refl _) (by omega)) ?_, r2⟩
      rw [e1, show nI j - 1 = nI (j - 1 - 0) from pk_sub (b := 1) hn]
      exact r1
    | succ d ih =>
      intro j N hd hj he hb
      have e1 : N.1 83 1 = nI n := by rw [he.2.2 1 (by simp)]; exact h1
      have cj : (nI j).toNatClampNeg = j := clampI (by omega)
      have rj : inR (nI j) 30 := inR_nI (by omega) (by omega)
      have hlt : ¬ (N.1 83 1 ≤ nI j) := by rw [e1, nI_leI (by omega) (by omega)]; omega
      obtain ⟨N', r1, r2⟩ := ih (j + 1) (upM (upM (upM N 87 j 1) 86 j (-4)) 90 j (nI (dpt up j))) (by omega) (by omega) (((he.up (by decide) (by decide)).up (by decide) (by decide)).up (by decide) (by decide)) (fun x hx => by
        rw [upM_ne (show 86 ≠ 90 by decide), upM_ne (show 87 ≠ 90 by decide), upM_ne (show 87 ≠ 86 by decide)]
        by_cases hxj : x = j
        · rw [hxj, upM_eq, upM_eq, upM_eq]; exact ⟨rfl, rfl, rfl⟩
        · rw [upM_nk hxj, upM_nk hxj, upM_nk hxj, upM_ne (show 86 ≠ 87 by decide), upM_ne (show 90 ≠ 86 by decide), upM_ne (show 90 ≠ 87 by decide)]
          exact hb x (by omega))
      refine ⟨N', ?_, r2⟩
      rcases Nat.eq_zero_or_pos j with h0 | h0
      · refine b101_2_2 (N1 := upM N 87 j 1) (N2 := upM (upM N 87 j 1) 86 j (-4)) (N3 := upM (upM (upM N 87 j 1) 86 j (-4)) 90 j (nI (dpt up j))) hlt rj (by rw [cj]) rj (by rw [cj]) (fun z => z (by rw [h0]; rfl)) rj (by rw [cj, h0, dpt_0]; rfl) ?_
        rw [nI_1]
        exact r1
      · have hu := hU j h0 (by omega)
        have e85 : (upM (upM N 87 j 1) 86 j (-4)).1 85 (nI j).toNatClampNeg = nI (up j) := by
          rw [cj, upM_ne (by decide), upM_ne (by decide), he.off (a := 85) (by decide) (by decide), hup j (by omega)]
          exact if_neg (by omega)
        refine b101_2_1 (N1 := upM N 87 j 1) (N2 := upM (upM N 87 j 1) 86 j (-4)) (N3 := upM (upM (upM N 87 j 1) 86 j (-4)) 90 j (nI (dpt up j))) hlt rj (by rw [cj]) rj (by rw [cj]) (fun z => by have := (nI_eq (b := 0) (by omega) (by decide)).mp z; omega) rj (by rw [e85]; exact inR_nI (by omega) (by omega)) rj (by rw [e85, cj, clampI (by omega), upM_ne (show 90 ≠ 86 by decide), upM_ne (show 90 ≠ 87 by decide), (hb (up j) hu).2.2, nI_1, dpt_s h0 hu]) ?_
        rw [nI_1]
        exact r1
  obtain ⟨N', r1, r2, hB, hP⟩ := key n 0 M (by omega) (by omega) eqM.rf (fun x hx => by omega)
  refine ⟨N', b101_0_0 r1, r2, hB.1, fun i hi => ?_⟩
  obtain ⟨q1, q2, q3, q4⟩ := hB.2 i hi
  obtain ⟨t1, t2, t3⟩ := hP i hi
  refine ⟨q1, q2, q3, t1, ?_, t3, q4⟩
  obtain ⟨k, hk, rfl⟩ := plT_sur hU hn hi
  show N'.1 91 (plT n up k) = nI (rwT n up (plT n up k))
  rw [rwT_pl hU hn hk]
  exact (hP k hk).2.1
end RANKS
