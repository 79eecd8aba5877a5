/-! of all ways that of most -/
abbrev bst : Type := Option (Nat × Nat × Int32)
def oF (W : Nat → Nat → Int32) (s : bst) (u v : Nat) : bst := match s with
  | none => some (u, v, W u v)
  | some q => if q.2.2 < W u v then some (u, v, W u v) else some q
def inF (W : Nat → Nat → Int32) (u : Nat) : Nat → Nat → bst → bst
  | 0, _, s => s
  | d + 1, v, s => inF W u d (v + 1) (oF W s u v)
def outF (W : Nat → Nat → Int32) (n : Nat) : Nat → Nat → bst → bst
  | 0, _, s => s
  | d + 1, u, s => outF W n d (u + 1) (inF W u (n - u) u s)
theorem oF_some (W : Nat → Nat → Int32) (s : bst) (u v : Nat) : oF W s u v ≠ none := by
  unfold oF
  cases s with
  | none => simp
  | some q => dsimp only; split <;> simp
theorem inF_some {W : Nat → Nat → Int32} {u : Nat} : ∀ d v s, (0 < d ∨ s ≠ none) → inF W u d v s ≠ none
  | 0, v, s, h => by rcases h with h | h; omega; exact h
  | d + 1, v, s, _ => inF_some d (v + 1) _ (Or.inr (oF_some W s u v))
theorem outF_some {W : Nat → Nat → Int32} {n : Nat} : ∀ d u s, u + d = n → (0 < d ∨ s ≠ none) → outF W n d u s ≠ none
  | 0, v, s, _, h => by rcases h with h | h; omega; exact h
  | d + 1, v, s, hd, _ => outF_some d (v + 1) _ (by omega) (Or.inr (inF_some _ _ _ (Or.inl (by omega))))
def stS (s : bst) (N : mem) : Prop := ∀ q, s = some q → N.1 72 3 = nI q.1 ∧ N.1 72 4 = nI q.2.1 ∧ N.1 72 5 = q.2.2
section MOST
variable {tx : List Int32} {n : Nat} {up : Nat → Nat} {t : trf} {ac : accs} {pa ke : List accs} {mk : Nat → Bool} {wa : List wat} {so : Nat} {M N : mem} {E : env}
theorem c39i {a : Nat} {W : Nat → Nat → Int32} (ha : skel[a]? = some (.inl (0, 30))) (hn : n ≤ 30) (h9 : M.1 9 0 = nI n) {u : Nat} {Q : mem → Prop} : ∀ d v (s : bst) (N : mem), n - v = d → u ≤ v → v ≤ n → (v = 0 ↔ s = none) → (∀ i, i < n → N.1 74 i = W u i) → stS s N → eqOff [72, 74, 75] M N → (∀ N', stS (inF W u d v s) N' → eqOff [72, 74, 75] M N' → ∃ N2, Rm E 39 2 [vr 72, vr 9, vr a, vi (nI (u + 1)), vn] [] N' none N2 ∧ Q N2) → ∃ N2, Rm E 39 20 [vr 72, vr 9, vr a, vi (nI u), vi (nI v)] [] N none N2 ∧ Q N2 := by
  intro d
  induction d with
  | zero =>
    intro v s N hd huv hv hs hR hst he k
    obtain rfl : v = n := by omega
    obtain ⟨N2, h1, h2⟩ := k N hst he
    refine ⟨N2, b39_20_0 ha (by rw [he.2 9 (by simp), h9]; exact nI_le (Nat.le_refl _) (by omega)) ?_, h2⟩
    rw [nI_1]
    exact h1
  | succ d ih =>
    intro v s N hd huv hv hs hR hst he k
    have h0 : ¬ (N.1 9 0 ≤ nI v) := by rw [he.2 9 (by simp), h9, nI_leI (by omega) (by omega)]; omega
    have hc : (nI v).toNatClampNeg = v := clampI (by omega)
    have hr : inR (nI v) 30 := inR_nI (by omega) (by omega)
    have hv0 : nI v = 0 ↔ v = 0 := nI_eq (b := 0) (by omega) (by decide)
    have tk : (upM (upM N 72 3 (nI u)) 72 4 (nI v)).1 74 (nI v).toNatClampNeg = W u v := by rw [hc, upM_ne (by decide), upM_ne (by decide)]; exact hR v (by omega)
    have taken : oF W s u v = some (u, v, W u v) → ∃ N2, Rm E 39 20 [vr 72, vr 9, vr a, vi (nI u), vi (nI v + 1)] [] (upM (upM (upM N 72 3 (nI u)) 72 4 (nI v)) 72 5 (W u v)) none N2 ∧ Q N2 := by
      intro e
      rw [nI_1]
      refine ih (v + 1) (some (u, v, W u v)) (upM (upM (upM N 72 3 (nI u)) 72 4 (nI v)) 72 5 (W u v)) (by omega) (by omega) (by omega) (by simp) (fun i hi => by rw [upM_ne (by decide), upM_ne (by decide), upM_ne (by decide)]; exact hR i hi) (fun q hq => ?_) (((he.up (by simp)).up (by simp)).up (by simp)) (fun N' h1 h2 => k N' (by unfold inF; rw [e]; exact h1) h2)
      cases hq
      exact ⟨by rw [upM_nk (by decide), upM_nk (by decide), upM_eq], by rw [upM_nk (by decide), upM_eq], by rw [upM_eq]⟩
    by_cases hz : v = 0
    · have hsn := hs.mp hz
      obtain ⟨N2, h1, h2⟩ := taken (by rw [hsn]; rfl)
      refine ⟨N2, b39_20_1 ha h0 (hv0.mpr hz) rfl rfl hr rfl ?_, h2⟩
      rw [tk]
      exact h1
    · cases s with
      | none => exact absurd (hs.mpr rfl) hz
      | some q =>
        obtain ⟨g1, g2, g3⟩ := hst q rfl
        by_cases hl : q.2.2 < W u v
        · obtain ⟨N2, h1, h2⟩ := taken (show (if q.2.2 < W u v then _ else _) = _ from if_pos hl)
          refine ⟨N2, b39_20_3 ha h0 (fun z => hz (hv0.mp z)) hr (by rw [hc, hR v (by omega), g3]; exact Int32.not_le.mpr hl) rfl rfl hr rfl ?_, h2⟩
          rw [tk]
          exact h1
        · have e : oF W (some q) u v = some q := if_neg hl
          obtain ⟨N2, h1, h2⟩ := ih (v + 1) (some q) N (by omega) (by omega) (by omega) (by simp) hR hst he (fun N' h1 h2 => k N' (by unfold inF; rw [e]; exact h1) h2)
          refine ⟨N2, b39_20_2 ha h0 (fun z => hz (hv0.mp z)) hr (by rw [hc, hR v (by omega), g3]; exact Int32.not_lt.mp hl) ?_, h2⟩
          rw [nI_1]
          exact h1
theorem s39 {a : Nat} {g : Nat → Int32} (hO : trOk n up t) (hT : cTr n up t M) (ha : skel[a]? = some (.inl (0, 30))) (h72 : a ≠ 72) (h74 : a ≠ 74) (h75 : a ≠ 75) (hg : ∀ i, i < n → M.1 a i = g i) : ∃ N, Rm E 39 0 [vr 72, vr 9, vr a, vn, vn] [] M none N ∧ stS (outF (fun u v => sumW g (wy up u v)) n n 0 none) N ∧ eqOff [72, 74, 75] M N := by
  have hn := hO.2.1
  have key : ∀ d u (s : bst) (N : mem), u + d = n → (u = 0 ↔ s = none) → stS s N → eqOff [72, 74, 75] M N → ∃ N2, Rm E 39 2 [vr 72, vr 9, vr a, vi (nI u), vn] [] N none N2 ∧ stS (outF (fun u v => sumW g (wy up u v)) n d u s) N2 ∧ eqOff [72, 74, 75] M N2 := by
    intro d
    induction d with
    | zero =>
      intro u s N hd hs hst he
      exact ⟨N, b39_2_0 ha (by rw [he.2 9 (by simp), hT.1]; exact nI_le (by omega) (by omega)), hst, he⟩
    | succ d ih =>
      intro u s N hd hs hst he
      have hu : u < n := by omega
      obtain ⟨K, k1, k2, k3⟩ := s38 (E := E) (M := N) (g := g) hO (hT.cg (fun b _ _ => he.2 b (by simp; omega))) ha h74 h75 (fun i hi => by rw [he.2 a (by simp [h72, h74, h75])]; exact hg i hi) hu
      obtain ⟨N2, r1, r2, r3⟩ := c39i (E := E) (M := M) (W := fun u v => sumW g (wy up u v)) (u := u) (Q := fun N2 => stS (outF (fun u v => sumW g (wy up u v)) n (d + 1) u s) N2 ∧ eqOff [72, 74, 75] M N2) ha hn hT.1 (n - u) u s K rfl (Nat.le_refl _) (by omega) hs k3 (fun q hq => by rw [k2.2 72 (by simp)]; exact hst q hq) (he.tr (k2.wk (by simp))) (fun N' h1 h2 => ih (u + 1) _ N' (by omega) ⟨fun z => by omega, fun z => absurd z (inF_some _ _ _ (Or.inl (by omega)))⟩ h1 h2)
      exact ⟨N2, b39_2_1 ha (by rw [he.2 9 (by simp), hT.1, nI_leI (by omega) (by omega)]; omega) k1 r1, r2, r3⟩
  obtain ⟨N2, h1, h2⟩ := key n 0 none M (by omega) (by simp) (fun q hq => by cases hq) eqOff.rf
  exact ⟨N2, b39_0_0 ha h1, h2⟩
def bA (s : bst) : Int32 := match s with | none => -4 | some q => nI q.1
def bB (s : bst) : Int32 := match s with | none => -4 | some q => nI q.2.1
def bW (s : bst) : Int32 := match s with | none => 0 | some q => q.2.2
theorem m137i {x y : Int32} {W : Nat → Nat → Int32} (hw : wfS tx n up t ac pa ke mk wa) (hW : ∀ u v, u < n → v < n → if x = 0 then W u v = nI (wy up u v).length else W u v = sumW ac.1 (wy up u v)) {u : Nat} (hu : u < n) {c : Int32} {Q : mem → Prop} : ∀ d v (s : bst) (N : mem), n - v = d → v ≤ n → (∀ q, s = some q → q.1 < n ∧ q.2.1 < n) → RM tx n up t ac pa ke mk wa so N → keepM M N → loM M N → (∀ N', (∀ q, inF W u d v s = some q → q.1 < n ∧ q.2.1 < n) → RM tx n up t ac pa ke mk wa so N' → keepM M N' → loM M N' → ∃ N2, Rm E 137 13 [vr 83, vi x, vi y, vi (bA (inF W u d v s)), vi (bB (inF W u d v s)), vi (bW (inF W u d v s)), vi (nI (u + 1)), vn, vn, vn] [] N' (some (.int c)) N2 ∧ Q N2) → ∃ N2, Rm E 137 26 [vr 83, vi x, vi y, vi (bA s), vi (bB s), vi (bW s), vi (nI u), vi (nI v), vn, vn] [] N (some (.int c)) N2 ∧ Q N2 := by
  have hn := hw.2.1.2.1
  intro d
  induction d with
  | zero =>
    intro v s N hd hv hs hN g1 g2 k
    obtain rfl : v = n := by omega
    obtain ⟨N2, h1, h2⟩ := k N hs hN g1 g2
    refine ⟨N2, b137_26_0 (by rw [hN.2.1.1]; exact nI_le (Nat.le_refl _) (by omega)) ?_, h2⟩
    rw [nI_1]
    exact h1
  | succ d ih =>
    intro v s N hd hv hs hN g1 g2 k
    have hvn : v < n := by omega
    have h0 : ¬ (N.1 83 1 ≤ nI v) := by rw [hN.2.1.1, nI_leI (by omega) (by omega)]; omega
    obtain ⟨K, k1, k2, k3, k4, k5, k6⟩ := mLays (E := E) hw hN hu hvn
    have kk : keepM M K := ⟨k3.1.trans g1.1, fun a ha => (k3.2.1 a ha).trans (g1.2.1 a ha), fun a ha => (k3.2.2 a ha).trans (g1.2.2 a ha)⟩
    have hWv := hW u v hu hvn
    have hsome : ∀ q, oF W s u v = some q → q.1 < n ∧ q.2.1 < n := by
      intro q hq
      unfold oF at hq
      cases s with
      | none => cases hq; exact ⟨hu, hvn⟩
      | some p0 =>
        dsimp only at hq
        by_cases hlt : p0.2.2 < W u v
        · rw [if_pos hlt] at hq
          have e := Option.some.inj hq
          rw [← e]
          exact ⟨hu, hvn⟩
        · rw [if_neg hlt] at hq
          have e := Option.some.inj hq
          rw [← e]
          exact hs p0 rfl
    obtain ⟨N2, r1, r2⟩ := ih (v + 1) (oF W s u v) K (by omega) (by omega) hsome k2 kk (g2.tr k4) (fun N' h1 h2 h3 h4 => k N' h1 h2 h3 h4)
    refine ⟨N2, ?_, r2⟩
    cases s with
    | none =>
      have e : oF W none u v = some (u, v, W u v) := rfl
      rw [e] at r1
      by_cases hx : x = 0
      · rw [if_pos hx] at hWv
        refine b137_26_1 h0 k1 hx rfl ?_
        rw [nI_1, k5.1, ← hWv]
        exact r1
      · rw [if_neg hx] at hWv
        refine b137_26_4 h0 k1 hx (mSum k2 k5) rfl ?_
        rw [nI_1, ← hWv]
        exact r1
    | some p =>
      have hp := hs p rfl
      have hne : ¬ (nI p.1 = -4) := fun z => by
        have := nI_pos (n := p.1) (by omega)
        rw [z] at this
        exact this (by decide)
      by_cases hl : p.2.2 < W u v
      · have e : oF W (some p) u v = some (u, v, W u v) := if_pos hl
        rw [e] at r1
        by_cases hx : x = 0
        · rw [if_pos hx] at hWv
          refine b137_26_3 h0 k1 hx hne (by rw [k5.1, ← hWv]; exact Int32.not_le.mpr hl) ?_
          rw [nI_1, k5.1, ← hWv]
          exact r1
        · rw [if_neg hx] at hWv
          refine b137_26_6 h0 k1 hx (mSum k2 k5) hne (by rw [← hWv]; exact Int32.not_le.mpr hl) ?_
          rw [nI_1, ← hWv]
          exact r1
      · have e : oF W (some p) u v = some p := if_neg hl
        rw [e] at r1
        by_cases hx : x = 0
        · rw [if_pos hx] at hWv
          refine b137_26_2 h0 k1 hx hne (by rw [k5.1, ← hWv]; exact Int32.not_lt.mp hl) ?_
          rw [nI_1]
          exact r1
        · rw [if_neg hx] at hWv
          refine b137_26_5 h0 k1 hx (mSum k2 k5) hne (by rw [← hWv]; exact Int32.not_lt.mp hl) ?_
          rw [nI_1]
          exact r1
theorem s137 {x y : Int32} {W : Nat → Nat → Int32} (hw : wfS tx n up t ac pa ke mk wa) (hM : RM tx n up t ac pa ke mk wa so M) (hW : ∀ u v, u < n → v < n → if x = 0 then W u v = nI (wy up u v).length else W u v = sumW ac.1 (wy up u v)) : ∃ N, Rm E 137 0 [vr 83, vi x, vi y, vn, vn, vn, vn, vn, vn, vn] [] M (some (.int (if y = 0 then bA (outF W n n 0 none) else if y = 1 then bB (outF W n n 0 none) else bW (outF W n n 0 none)))) N ∧ keepM M N ∧ loM M N := by
  have hn := hw.2.1.2.1
  have key : ∀ d u (s : bst) (N : mem), u + d = n → (∀ q, s = some q → q.1 < n ∧ q.2.1 < n) → RM tx n up t ac pa ke mk wa so N → keepM M N → loM M N → ∃ N2, Rm E 137 13 [vr 83, vi x, vi y, vi (bA s), vi (bB s), vi (bW s), vi (nI u), vn, vn, vn] [] N (some (.int (if y = 0 then bA (outF W n d u s) else if y = 1 then bB (outF W n d u s) else bW (outF W n d u s)))) N2 ∧ keepM M N2 ∧ loM M N2 := by
    intro d
    induction d with
    | zero =>
      intro u s N hd hs hN g1 g2
      have hx : N.1 83 1 ≤ nI u := by rw [hN.2.1.1]; exact nI_le (by omega) (by omega)
      refine ⟨N, ?_, g1, g2⟩
      by_cases h0 : y = 0
      · rw [if_pos h0]; exact b137_13_2 hx (fun z => z h0)
      · rw [if_neg h0]
        by_cases h1 : y = 1
        · rw [if_pos h1]; exact b137_13_1 hx h0 (fun z => z h1)
        · rw [if_neg h1]; exact b137_13_0 hx h0 h1
    | succ d ih =>
      intro u s N hd hs hN g1 g2
      have hu : u < n := by omega
      obtain ⟨N2, r1, r2⟩ := m137i (E := E) (M := M) (x := x) (y := y) (W := W) hw hW hu (c := if y = 0 then bA (outF W n (d + 1) u s) else if y = 1 then bB (outF W n (d + 1) u s) else bW (outF W n (d + 1) u s)) (Q := fun N2 => keepM M N2 ∧ loM M N2) (n - u) u s N rfl (by omega) hs hN g1 g2 (fun N' h1 h2 h3 h4 => ih (u + 1) _ N' (by omega) h1 h2 h3 h4)
      exact ⟨N2, b137_13_3 (by rw [hN.2.1.1, nI_leI (by omega) (by omega)]; omega) r1, r2⟩
  obtain ⟨N2, h1, h2⟩ := key n 0 none M (by omega) (fun q hq => by cases hq) hM keepM.rf loM.rf
  exact ⟨N2, b137_0_0 h1, h2⟩
theorem outF_cg {W V : Nat → Nat → Int32} (h : ∀ u v, u < n → v < n → W u v = V u v) : outF W n n 0 none = outF V n n 0 none := by
  have oc : ∀ s u v, u < n → v < n → oF W s u v = oF V s u v := fun s u v hu hv => by unfold oF; rw [h u v hu hv]
  have ic : ∀ d v u s, u < n → v + d = n → inF W u d v s = inF V u d v s := by
    intro d
    induction d with
    | zero => intros; rfl
    | succ d ih =>
      intro v u s hu hv
      unfold inF
      rw [oc s u v hu (by omega)]
      exact ih _ _ _ hu (by omega)
  have oo : ∀ d u s, u + d = n → outF W n d u s = outF V n d u s := by
    intro d
    induction d with
    | zero => intros; rfl
    | succ d ih =>
      intro u s hu
      unfold outF
      rw [ic _ _ _ _ (by omega) (by omega)]
      exact ih _ _ (by omega)
  exact oo n 0 none (by omega)
theorem in02 {x : Int32} (h : 0 ≤ x ∧ x ≤ 2) : x = 0 ∨ x = 1 ∨ x = 2 := by
  have h1 := Int32.le_iff_toInt_le.mp h.1
  have h2 := Int32.le_iff_toInt_le.mp h.2
  have e0 : (0 : Int32).toInt = 0 := rfl
  have e2 : (2 : Int32).toInt = 2 := rfl
  rcases (show x.toInt = 0 ∨ x.toInt = 1 ∨ x.toInt = 2 by omega) with e | e | e
  · exact Or.inl (i32_of e rfl)
  · exact Or.inr (Or.inl (i32_of e rfl))
  · exact Or.inr (Or.inr (i32_of e rfl))
theorem eo_kp {A : List Nat} (h : eqOff A M N) (hA : ∀ a ∈ A, a = 72 ∨ a = 74 ∨ a = 75) : keepC M N ∧ hiC M N := by
  refine ⟨fun a ha => h.2 a (fun z => ?_), h.1, fun a ha => h.2 a (fun z => ?_)⟩
  · have := hA a z; omega
  · have := hA a z; omega
theorem op_richest (hI : InvB M) {x : Int32} : Op2 E 75 138 [vr 0, vi x] [vr 83, vi x] M := by
  obtain ⟨tx, n, up, t, ac, pa, ke, mk, wa, so, hw, hC, hM⟩ := hI
  have hn := hw.2.1.2.1
  have inx : ∀ {N1 : mem}, Rm E 88 0 [vl x.toInt64, vn, vl 0, vn, vl 2, vn] [] N1 (some (.int (b01 (0 ≤ x ∧ x ≤ 2)))) N1 := fun {N1} => s88i (y := 0) (z := 2) rfl rfl
  by_cases hx : 0 ≤ x ∧ x ≤ 2
  · obtain ⟨N, n1, n2, n3⟩ := s39 (E := E) (g := ac.1) hw.2.1 hC.2.1 sk19 (by decide) (by decide) (by decide) (fun i hi => cAm hC (by omega))
    obtain ⟨k1, k2⟩ := eo_kp n3 (by simp)
    cases hs : outF (fun u v => sumW ac.1 (wy up u v)) n n 0 none with
    | none => exact absurd hs (outF_some _ _ _ (by omega) (Or.inl hw.2.1.1))
    | some q =>
      rw [hs] at n2
      obtain ⟨g1, g2, g3⟩ := n2 q rfl
      have mm : ∀ N1, RM tx n up t ac pa ke mk wa so N1 → ∃ N2, Rm E 137 0 [vr 83, vi 1, vi x, vn, vn, vn, vn, vn, vn, vn] [] N1 (some (.int (if x = 0 then nI q.1 else if x = 1 then nI q.2.1 else q.2.2))) N2 ∧ keepM N1 N2 ∧ loM N1 N2 := by
        intro N1 hN
        have := s137 (E := E) (x := 1) (y := x) (W := fun u v => sumW ac.1 (wy up u v)) hw hN (fun u v _ _ => by rw [if_neg (by decide)])
        rw [hs] at this
        exact this
      rcases in02 hx with e | e | e
      · refine mkRd (c := nI q.1) hw hC hM ⟨N, ?_, k1, k2⟩ (fun N1 hN => ?_)
        · rw [← g1]; exact b75_0_0 s81 (b01_n hx) n1 (by rw [e]; decide) (b40_0_1 (fun z => z e))
        · obtain ⟨N2, r1, r2⟩ := mm N1 hN
          rw [if_pos e] at r1
          have := b138_0_0 inx (b01_n hx) r1 (by rw [e]; decide)
          rw [Int32.add_zero] at this
          exact ⟨N2, this, r2⟩
      · refine mkRd (c := nI q.2.1) hw hC hM ⟨N, ?_, k1, k2⟩ (fun N1 hN => ?_)
        · rw [← g2]; exact b75_0_0 s81 (b01_n hx) n1 (by rw [e]; decide) (b40_0_0 (by rw [e]; decide))
        · obtain ⟨N2, r1, r2⟩ := mm N1 hN
          rw [if_neg (by rw [e]; decide), if_pos e] at r1
          have := b138_0_0 inx (b01_n hx) r1 (by rw [e]; decide)
          rw [Int32.add_zero] at this
          exact ⟨N2, this, r2⟩
      · refine mkRd (c := q.2.2 + 1000000) hw hC hM ⟨N, ?_, k1, k2⟩ (fun N1 hN => ?_)
        · rw [← g3]; exact b75_0_1 s81 (b01_n hx) n1 (fun z => z e)
        · obtain ⟨N2, r1, r2⟩ := mm N1 hN
          rw [if_neg (by rw [e]; decide), if_neg (by rw [e]; decide)] at r1
          exact ⟨N2, b138_0_1 inx (b01_n hx) r1 (fun z => z e), r2⟩
  · exact mkRd0 hw hC hM (b75_0_2 s81 (fun q => q (b01_0.mpr hx))) (fun N1 hN => b138_0_2 inx (fun q => q (b01_0.mpr hx)))
theorem op_longest (hI : InvB M) {x : Int32} : Op2 E 76 139 [vr 0, vi x] [vr 83, vi x] M := by
  obtain ⟨tx, n, up, t, ac, pa, ke, mk, wa, so, hw, hC, hM⟩ := hI
  have hn := hw.2.1.2.1
  have inx : ∀ {N1 : mem}, Rm E 88 0 [vl x.toInt64, vn, vl 0, vn, vl 2, vn] [] N1 (some (.int (b01 (0 ≤ x ∧ x ≤ 2)))) N1 := fun {N1} => s88i (y := 0) (z := 2) rfl rfl
  by_cases hx : 0 ≤ x ∧ x ≤ 2
  · obtain ⟨N, n1, n2, n3⟩ := s39 (E := E) (g := fun _ => 1) hw.2.1 hC.2.1 sk73 (by decide) (by decide) (by decide) (fun i hi => hC.2.2.2.2.2.2.2 i (by omega))
    obtain ⟨k1, k2⟩ := eo_kp n3 (by simp)
    rw [outF_cg (V := fun u v => nI (wy up u v).length) (fun u v _ _ => sum_ones (fun _ _ => rfl))] at n2
    cases hs : outF (fun u v => nI (wy up u v).length) n n 0 none with
    | none => exact absurd hs (outF_some _ _ _ (by omega) (Or.inl hw.2.1.1))
    | some q =>
      rw [hs] at n2
      obtain ⟨g1, g2, g3⟩ := n2 q rfl
      have mm : ∀ N1, RM tx n up t ac pa ke mk wa so N1 → ∃ N2, Rm E 137 0 [vr 83, vi 0, vi x, vn, vn, vn, vn, vn, vn, vn] [] N1 (some (.int (if x = 0 then nI q.1 else if x = 1 then nI q.2.1 else q.2.2))) N2 ∧ keepM N1 N2 ∧ loM N1 N2 := by
        intro N1 hN
        have := s137 (E := E) (x := 0) (y := x) (W := fun u v => nI (wy up u v).length) hw hN (fun u v _ _ => by rw [if_pos rfl])
        rw [hs] at this
        exact this
      rcases in02 hx with e | e | e
      · refine mkRd (c := nI q.1) hw hC hM ⟨N, ?_, k1, k2⟩ (fun N1 hN => ?_)
        · rw [← g1]; exact b76_0_0 s81 (b01_n hx) n1 (by rw [e]; decide) (b40_0_1 (fun z => z e))
        · obtain ⟨N2, r1, r2⟩ := mm N1 hN
          rw [if_pos e] at r1
          exact ⟨N2, b139_0_1 inx (b01_n hx) r1, r2⟩
      · refine mkRd (c := nI q.2.1) hw hC hM ⟨N, ?_, k1, k2⟩ (fun N1 hN => ?_)
        · rw [← g2]; exact b76_0_0 s81 (b01_n hx) n1 (by rw [e]; decide) (b40_0_0 (by rw [e]; decide))
        · obtain ⟨N2, r1, r2⟩ := mm N1 hN
          rw [if_neg (by rw [e]; decide), if_pos e] at r1
          exact ⟨N2, b139_0_1 inx (b01_n hx) r1, r2⟩
      · refine mkRd (c := q.2.2) hw hC hM ⟨N, ?_, k1, k2⟩ (fun N1 hN => ?_)
        · rw [← g3]; exact b76_0_1 s81 (b01_n hx) n1 (fun z => z e)
        · obtain ⟨N2, r1, r2⟩ := mm N1 hN
          rw [if_neg (by rw [e]; decide), if_neg (by rw [e]; decide)] at r1
          exact ⟨N2, b139_0_1 inx (b01_n hx) r1, r2⟩
  · exact mkRd0 hw hC hM (b76_0_2 s81 (fun q => q (b01_0.mpr hx))) (fun N1 hN => b139_0_0 inx (b01_0.mpr hx))
end MOST
