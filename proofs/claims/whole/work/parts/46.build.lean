/-! the class lays the row -/
section BUILD
variable {n : Nat} {up : Nat → Nat} {M N : mem} {E : env}
theorem hvI_ne {c : Nat} (h : c < 2 ^ 31) : ¬ nI c = -4 := fun z => by
  have := nI_pos (n := c) h
  rw [z] at this
  exact this (by decide)
theorem smT_z (hU : upOk n up) {x : Nat} : ∀ j, j ≤ x + 1 → j ≤ n → smT n up x j = 0
  | 0, _, _ => rfl
  | j + 1, h, hn => by
    unfold smT
    rw [smT_z hU j (by omega) (by omega), if_neg (fun z => by have := hU j z.1.1 (by omega); omega)]
theorem smT_same {x i : Nat} (h : up i ≠ x ∨ hvT n up x = some i) : smT n up x (i + 1) = smT n up x i := by
  show _ + (if _ then _ else _) = _
  rw [if_neg (fun z => by rcases h with h | h; exact h z.1.2; exact z.2 h)]
  rfl
theorem szL_s (n : Nat) (up : Nat → Nat) (d : Nat) : szL n up (d + 1) = setN (szL n up d) (up (n - 1 - d)) (szL n up d (up (n - 1 - d)) + szL n up d (n - 1 - d)) := rfl
/-- what stands of the row when the posts under j are placed -/
def plP (n : Nat) (up : Nat → Nat) (j : Nat) (N : mem) : Prop :=
  (N.1 9 0 = nI n ∧ ∀ i, i < n → N.1 10 i = upI up i ∧ N.1 11 i = hvI (hvT n up i) ∧ N.1 12 i = nI (szT n up i)) ∧
  (∀ i, i < j → N.1 13 i = nI (plT n up i) ∧ N.1 14 (plT n up i) = nI i ∧ N.1 15 i = nI (hdT n up i) ∧ N.1 16 i = nI (dpt up i) ∧ N.1 17 i = nI (plT n up i + 1 + hsT n up i + smT n up i j)) ∧
  N.1 9 1 = (List.range j).foldl (chF (fun i => nI (hdT n up i))) 0
theorem s45 (hU : upOk n up) (hn : 1 ≤ n) (h30 : n ≤ 30) {i p : Nat} (hi : i < n) (hp : p < 30) (h11 : M.1 11 i = hvI (hvT n up i)) (h12 : ∀ x, x < n → M.1 12 x = nI (szT n up x)) : Rm E 45 0 [vr 9, vi (nI i), vi (nI p)] [] M none (upM (upM (upM M 13 i (nI p)) 14 p (nI i)) 17 i (nI (p + 1 + hsT n up i))) := by
  have ci : (nI i).toNatClampNeg = i := clampI (by omega)
  have cp : (nI p).toNatClampNeg = p := clampI (by omega)
  have ri : inR (nI i) 30 := inR_nI (by omega) (by omega)
  have rp : inR (nI p) 30 := inR_nI (by omega) (by omega)
  have g11 : (upM (upM M 13 i (nI p)) 14 p (nI i)).1 11 i = hvI (hvT n up i) := by rw [upM_ne (by decide), upM_ne (by decide)]; exact h11
  cases hh : hvT n up i with
  | none =>
    rw [hh] at g11
    refine b45_0_1 ri rfl rp rfl ri (fun z => z (by rw [ci, cp]; exact g11)) ri ?_
    rw [ci, cp, nI_1, show hsT n up i = 0 by unfold hsT; rw [hh]]
    rw [Int32.add_zero]
  | some c =>
    obtain ⟨f1, f2, f3, f4⟩ := sz_form hU hn hh
    rw [hh] at g11
    have cc : (nI c).toNatClampNeg = c := clampI (by omega)
    refine b45_0_0 ri rfl rp rfl ri (by rw [ci, cp, g11]; exact hvI_ne (by omega)) ri (by rw [ci, cp, g11]; exact inR_nI (by omega) (by omega)) ri ?_
    rw [ci, cp, g11]
    show _ = upM _ 17 i (nI p + 1 + (upM (upM M 13 i (nI p)) 14 p (nI i)).1 12 (nI c).toNatClampNeg)
    rw [cc, upM_ne (show 12 ≠ 14 by decide), upM_ne (show 12 ≠ 13 by decide), h12 c f3, nI_1, nI_add, hs_eq hh]
theorem plP_put (hU : upOk n up) (hn : 1 ≤ n) {i : Nat} (hi : i < n) {K : mem} (h0 : plP n up i K ∨ i = 0) (hb : (K.1 9 0 = nI n ∧ ∀ x, x < n → K.1 10 x = upI up x ∧ K.1 11 x = hvI (hvT n up x) ∧ K.1 12 x = nI (szT n up x)))
    {N : mem} (e9 : N.1 9 0 = K.1 9 0) (e10 : N.1 10 = K.1 10) (e11 : N.1 11 = K.1 11) (e12 : N.1 12 = K.1 12)
    (e13 : ∀ x, N.1 13 x = if x = i then nI (plT n up i) else K.1 13 x) (e14 : ∀ x, N.1 14 x = if x = plT n up i then nI i else K.1 14 x)
    (e15 : ∀ x, N.1 15 x = if x = i then nI (hdT n up i) else K.1 15 x) (e16 : ∀ x, N.1 16 x = if x = i then nI (dpt up i) else K.1 16 x)
    (e17 : ∀ x, x < i → N.1 17 x = nI (plT n up x + 1 + hsT n up x + smT n up x (i + 1))) (e17i : N.1 17 i = nI (plT n up i + 1 + hsT n up i))
    (e91 : N.1 9 1 = (List.range (i + 1)).foldl (chF (fun i => nI (hdT n up i))) 0) : plP n up (i + 1) N := by
  refine ⟨⟨e9.trans hb.1, fun x hx => ?_⟩, fun x hx => ?_, e91⟩
  · rw [e10, e11, e12]; exact hb.2 x hx
  · by_cases hxi : x = i
    · subst hxi
      rw [e13, if_pos rfl, e14, if_pos rfl, e15, if_pos rfl, e16, if_pos rfl, e17i, smT_z hU (x + 1) (Nat.le_refl _) (by omega)]
      exact ⟨rfl, rfl, rfl, rfl, rfl⟩
    · rcases h0 with h0 | h0
      · obtain ⟨g1, g2, g3, g4, -⟩ := h0.2.1 x (by omega)
        have hpl : plT n up x ≠ plT n up i := fun z => hxi (plT_inj hU hn (by omega) hi z)
        rw [e13, if_neg hxi, e14, if_neg hpl, e15, if_neg hxi, e16, if_neg hxi]
        exact ⟨g1, g2, g3, g4, e17 x (by omega)⟩
      · omega
theorem fold_s {σ : Type} {f : σ → Nat → σ} {s : σ} {i : Nat} : (List.range (i + 1)).foldl f s = f ((List.range i).foldl f s) i := by
  rw [List.range_succ, List.foldl_append]
  rfl
theorem s44 (hU : upOk n up) (hn : 1 ≤ n) (h30 : n ≤ 30) {i : Nat} (h0 : 1 ≤ i) (hi : i < n) (hP : plP n up i M) : ∃ N, Rm E 44 0 [vr 9, vi (nI i), vn] [] M none N ∧ eqR 9 17 M N ∧ plP n up (i + 1) N := by
  obtain ⟨⟨b0, b1⟩, b2, b3⟩ := id hP
  have hu := hU i h0 hi
  have ci : (nI i).toNatClampNeg = i := clampI (by omega)
  have ri : inR (nI i) 30 := inR_nI (by omega) (by omega)
  have cu : (nI (up i)).toNatClampNeg = up i := clampI (by omega)
  have ru : inR (nI (up i)) 30 := inR_nI (by omega) (by omega)
  have e10 : M.1 10 i = nI (up i) := by rw [(b1 i hi).1]; exact if_neg (by omega)
  have m10 : M.1 10 (nI i).toNatClampNeg = nI (up i) := by rw [ci]; exact e10
  have mu : (M.1 10 (nI i).toNatClampNeg).toNatClampNeg = up i := by rw [m10, cu]
  have ruM : inR (M.1 10 (nI i).toNatClampNeg) 30 := by rw [m10]; exact ru
  obtain ⟨q13, q14, q15, q16, q17⟩ := b2 (up i) hu
  have hplt := plT_lt hU hn hi
  have hsp := szT_pos hU hn i
  have hd := dpt_s h0 hu
  have hpl := plT_s (n := n) h0 hu
  have hhd := hdT_s (n := n) h0 hu
  have v16 : M.1 16 (M.1 10 (nI i).toNatClampNeg).toNatClampNeg + 1 = nI (dpt up i) := by rw [mu, q16, nI_1, hd]
  have h11 : M.1 11 (up i) = hvI (hvT n up (up i)) := (b1 (up i) (by omega)).2.1
  obtain ⟨c, hc⟩ := hv_some (up := up) h0 hi
  obtain ⟨f1, f2, f3, f4⟩ := sz_form hU hn hc
  by_cases hv : hvT n up (up i) = some i
  · rw [if_pos hv] at hpl hhd
    have h11' : M.1 11 (up i) = nI i := by rw [h11, hv]; rfl
    have put := s45 (E := E) (M := upM (upM M 16 i (nI (dpt up i))) 15 i (nI (hdT n up (up i)))) hU hn h30 hi (p := plT n up i) (by omega) (by rw [upM_ne (by decide), upM_ne (by decide)]; exact (b1 i hi).2.1) (fun x hx => by rw [upM_ne (by decide), upM_ne (by decide)]; exact (b1 x hx).2.2)
    refine ⟨_, b44_0_1 (N1 := upM M 16 i (nI (dpt up i))) (N2 := upM (upM M 16 i (nI (dpt up i))) 15 i (nI (hdT n up (up i)))) ri ruM ri (by rw [v16, ci]) ruM (fun z => z (by rw [mu, upM_ne (by decide)]; exact h11')) ruM ri (by rw [mu, ci, upM_ne (show 15 ≠ 16 by decide), q15]) ruM (by
      rw [mu, upM_ne (show 13 ≠ 15 by decide), upM_ne (show 13 ≠ 16 by decide), q13, nI_1, show plT n up (up i) + 1 = plT n up i by rw [hpl]]
      exact put), ?_, ?_⟩
    · refine ⟨rfl, fun a ha => ?_⟩
      rw [upM_ne (by omega), upM_ne (by omega), upM_ne (by omega), upM_ne (by omega), upM_ne (by omega)]
    · refine plP_put hU hn hi (Or.inl hP) hP.1 ?_ ?_ ?_ ?_ (fun x => ?_) (fun x => ?_) (fun x => ?_) (fun x => ?_) (fun x hx => ?_) ?_ ?_
      · rw [upM_ne (by decide), upM_ne (by decide), upM_ne (by decide), upM_ne (by decide), upM_ne (by decide)]
      · rw [upM_ne (by decide), upM_ne (by decide), upM_ne (by decide), upM_ne (by decide), upM_ne (by decide)]
      · rw [upM_ne (by decide), upM_ne (by decide), upM_ne (by decide), upM_ne (by decide), upM_ne (by decide)]
      · rw [upM_ne (by decide), upM_ne (by decide), upM_ne (by decide), upM_ne (by decide), upM_ne (by decide)]
      · rw [upM_ne (by decide), upM_ne (by decide), upM_at, upM_ne (by decide), upM_ne (by decide)]; simp
      · rw [upM_ne (by decide), upM_at, upM_ne (by decide), upM_ne (by decide), upM_ne (by decide)]; simp
      · rw [upM_ne (by decide), upM_ne (by decide), upM_ne (by decide), upM_at, upM_ne (by decide), hhd]; simp
      · rw [upM_ne (by decide), upM_ne (by decide), upM_ne (by decide), upM_ne (by decide), upM_at]; simp
      · rw [upM_nk (by omega), upM_ne (by decide), upM_ne (by decide), upM_ne (by decide), upM_ne (by decide), (b2 x hx).2.2.2.2, smT_same (i := i)]
        by_cases hx2 : up i = x
        · right; rw [← hx2]; exact hv
        · left; exact hx2
      · rw [upM_eq]
      · rw [upM_ne (by decide), upM_ne (by decide), upM_ne (by decide), upM_ne (by decide), upM_ne (by decide), b3, fold_s]
        unfold chF
        rw [if_neg]
        have hle := hdT_le hU (up i) (by omega)
        show ¬ (nI (hdT n up i) = nI i)
        rw [hhd, nI_eq (by omega) (by omega)]
        omega
  · rw [if_neg hv] at hpl hhd
    have hp17 : plT n up (up i) + 1 + hsT n up (up i) + smT n up (up i) i = plT n up i := by rw [hpl]; omega
    have h11' : ¬ M.1 11 (up i) = nI i := by
      rw [h11, hc]
      show ¬ (nI c = nI i)
      rw [nI_eq (by omega) (by omega)]
      intro z
      exact hv (by rw [hc, z])
    have put := s45 (E := E) (M := upM (upM (upM M 16 i (nI (dpt up i))) 15 i (nI i)) 9 1 (M.1 9 1 + 1)) hU hn h30 hi (p := plT n up i) (by omega) (by rw [upM_ne (by decide), upM_ne (by decide), upM_ne (by decide)]; exact (b1 i hi).2.1) (fun x hx => by rw [upM_ne (by decide), upM_ne (by decide), upM_ne (by decide)]; exact (b1 x hx).2.2)
    have hne : up i ≠ i := by omega
    refine ⟨upM (upM (upM (upM (upM (upM (upM M 16 i (nI (dpt up i))) 15 i (nI i)) 9 1 (M.1 9 1 + 1)) 13 i (nI (plT n up i))) 14 (plT n up i) (nI i)) 17 i (nI (plT n up i + 1 + hsT n up i))) 17 (up i) (nI (plT n up i + szT n up i)), b44_0_0 (N1 := upM M 16 i (nI (dpt up i))) (N2 := upM (upM M 16 i (nI (dpt up i))) 15 i (nI i)) (N3 := upM (upM (upM M 16 i (nI (dpt up i))) 15 i (nI i)) 9 1 (M.1 9 1 + 1)) (N4 := upM (upM (upM (upM (upM (upM M 16 i (nI (dpt up i))) 15 i (nI i)) 9 1 (M.1 9 1 + 1)) 13 i (nI (plT n up i))) 14 (plT n up i) (nI i)) 17 i (nI (plT n up i + 1 + hsT n up i))) ri ruM ri (by rw [v16, ci]) ruM (by rw [mu, upM_ne (by decide)]; exact h11') ri (by rw [ci]) (by rw [upM_ne (show 9 ≠ 15 by decide), upM_ne (show 9 ≠ 16 by decide)]) ruM (by
      rw [mu, upM_ne (show 17 ≠ 9 by decide), upM_ne (show 17 ≠ 15 by decide), upM_ne (show 17 ≠ 16 by decide), q17, hp17]
      exact put) ruM ri ruM (by
      rw [mu, ci, upM_nk hne, upM_ne (show 17 ≠ 14 by decide), upM_ne (show 17 ≠ 13 by decide), upM_ne (show 17 ≠ 9 by decide), upM_ne (show 17 ≠ 15 by decide), upM_ne (show 17 ≠ 16 by decide), q17, hp17, upM_ne (show 12 ≠ 17 by decide), upM_ne (show 12 ≠ 14 by decide), upM_ne (show 12 ≠ 13 by decide), upM_ne (show 12 ≠ 9 by decide), upM_ne (show 12 ≠ 15 by decide), upM_ne (show 12 ≠ 16 by decide), (b1 i hi).2.2, nI_add]), ?_, ?_⟩
    · refine ⟨rfl, fun a ha => ?_⟩
      rw [upM_ne (by omega), upM_ne (by omega), upM_ne (by omega), upM_ne (by omega), upM_ne (by omega), upM_ne (by omega), upM_ne (by omega)]
    · refine plP_put hU hn hi (Or.inl hP) hP.1 ?_ ?_ ?_ ?_ (fun x => ?_) (fun x => ?_) (fun x => ?_) (fun x => ?_) (fun x hx => ?_) ?_ ?_
      · rw [upM_ne (by decide), upM_ne (by decide), upM_ne (by decide), upM_ne (by decide), upM_nk (by decide), upM_ne (by decide), upM_ne (by decide)]
      · rw [upM_ne (by decide), upM_ne (by decide), upM_ne (by decide), upM_ne (by decide), upM_ne (by decide), upM_ne (by decide), upM_ne (by decide)]
      · rw [upM_ne (by decide), upM_ne (by decide), upM_ne (by decide), upM_ne (by decide), upM_ne (by decide), upM_ne (by decide), upM_ne (by decide)]
      · rw [upM_ne (by decide), upM_ne (by decide), upM_ne (by decide), upM_ne (by decide), upM_ne (by decide), upM_ne (by decide), upM_ne (by decide)]
      · rw [upM_ne (by decide), upM_ne (by decide), upM_ne (by decide), upM_at, upM_ne (by decide), upM_ne (by decide), upM_ne (by decide)]; simp
      · rw [upM_ne (by decide), upM_ne (by decide), upM_at, upM_ne (by decide), upM_ne (by decide), upM_ne (by decide), upM_ne (by decide)]; simp
      · rw [upM_ne (by decide), upM_ne (by decide), upM_ne (by decide), upM_ne (by decide), upM_ne (by decide), upM_at, upM_ne (by decide), hhd]; simp
      · rw [upM_ne (by decide), upM_ne (by decide), upM_ne (by decide), upM_ne (by decide), upM_ne (by decide), upM_ne (by decide), upM_at]; simp
      · by_cases hx2 : x = up i
        · rw [hx2, upM_eq, smT_step (n := n) (up := up) (u := up i) ⟨h0, rfl⟩ hv]
          congr 1
          omega
        · rw [upM_nk hx2, upM_nk (by omega), upM_ne (by decide), upM_ne (by decide), upM_ne (by decide), upM_ne (by decide), upM_ne (by decide), (b2 x hx).2.2.2.2, smT_same (Or.inl (fun z => hx2 z.symm))]
      · rw [upM_nk (fun z => hne z.symm), upM_eq]
      · rw [upM_ne (by decide), upM_ne (by decide), upM_ne (by decide), upM_ne (by decide), upM_eq, b3, fold_s]
        unfold chF
        rw [if_pos (show nI (hdT n up i) = nI i by rw [hhd])]
theorem s141l (hU : upOk n up) (hn : 1 ≤ n) (h30 : n ≤ 30) : ∀ d i (N : mem), n - i = d → 1 ≤ i → i ≤ n → eqR 9 17 M N → plP n up i N → ∃ N', Rm E 42 141 [vr 9, vn, vn, vi (nI i)] [] N none N' ∧ eqR 9 17 M N' ∧ plP n up n N' := by
  intro d
  induction d with
  | zero =>
    intro i N hd h0 hi he hP
    obtain rfl : i = n := by omega
    exact ⟨N, b42_141_0 (by rw [hP.1.1]; exact nI_le (Nat.le_refl _) (by omega)), he, hP⟩
  | succ d ih =>
    intro i N hd h0 hi he hP
    obtain ⟨K, k1, k2, k3⟩ := s44 (E := E) hU hn h30 h0 (by omega) hP
    obtain ⟨N', r1, r2⟩ := ih (i + 1) K (by omega) (by omega) (by omega) (he.tr k2) k3
    refine ⟨N', b42_141_1 (by rw [hP.1.1, nI_leI (by omega) (by omega)]; omega) k1 ?_, r2⟩
    rw [nI_1]
    exact r1
theorem s43 {S : Nat → Nat} (h30 : n ≤ 30) {i : Nat} (h0 : 1 ≤ i) (hi : i < n) (hu : up i < n) (hS : ∀ x, x < n → S x ≤ 30) (h12 : ∀ x, x < n → M.1 12 x = nI (S x)) (h11 : ∀ x, x < n → M.1 11 x = hvI (hvU S up x i)) : ∃ N, Rm E 43 0 [vr 9, vi (nI (up i)), vi (nI i)] [] M none N ∧ eqOff [11] M N ∧ ∀ x, x < n → N.1 11 x = hvI (hvU S up x (i + 1)) := by
  have ci : (nI i).toNatClampNeg = i := clampI (by omega)
  have ri : inR (nI i) 30 := inR_nI (by omega) (by omega)
  have cu : (nI (up i)).toNatClampNeg = up i := clampI (by omega)
  have ru : inR (nI (up i)) 30 := inR_nI (by omega) (by omega)
  have other : ∀ x, x ≠ up i → hvU S up x (i + 1) = hvU S up x i := fun x hx => if_neg (fun z => hx z.2.symm)
  have own : hvU S up (up i) (i + 1) = match hvU S up (up i) i with | none => some i | some c => if S c < S i then some i else some c := if_pos ⟨h0, rfl⟩
  have set : hvU S up (up i) (i + 1) = some i → ∀ x, x < n → (upM M 11 (up i) (nI i)).1 11 x = hvI (hvU S up x (i + 1)) := by
    intro e x hx
    by_cases hxu : x = up i
    · rw [hxu, upM_eq, e]; rfl
    · rw [upM_nk hxu, other x hxu]; exact h11 x hx
  have h11u := h11 (up i) hu
  cases hh : hvU S up (up i) i with
  | none =>
    rw [hh] at own h11u
    refine ⟨upM M 11 (up i) (nI i), b43_0_0 ru (by rw [cu]; exact h11u) ru (by rw [cu]), eqOff.rf.up (by simp), set own⟩
  | some c =>
    have g := hvU_is S up (up i) i
    rw [hh] at own h11u g
    obtain ⟨g1, g2, g3, -⟩ := g
    have h11c : M.1 11 (up i) = nI c := h11u
    have cc : (nI c).toNatClampNeg = c := clampI (by omega)
    have hne : ¬ (M.1 11 (nI (up i)).toNatClampNeg = -4) := by rw [cu, h11c]; exact hvI_ne (by omega)
    have rc : inR (M.1 11 (nI (up i)).toNatClampNeg) 30 := by rw [cu, h11c]; exact inR_nI (by omega) (by omega)
    have hSi := hS i hi
    have hSc := hS c (by omega)
    dsimp only at own
    by_cases hl : S c < S i
    · rw [if_pos hl] at own
      exact ⟨upM M 11 (up i) (nI i), b43_0_2 ru hne ri ru rc (by rw [cu, h11c, cc, ci, h12 i hi, h12 c (by omega), nI_leI (by omega) (by omega)]; omega) ru (by rw [cu]), eqOff.rf.up (by simp), set own⟩
    · rw [if_neg hl] at own
      refine ⟨M, b43_0_1 ru hne ri ru rc (by rw [cu, h11c, cc, ci, h12 i hi, h12 c (by omega)]; exact nI_le (by omega) (by omega)), eqOff.rf, fun x hx => ?_⟩
      by_cases hxu : x = up i
      · rw [hxu, own]; exact h11c
      · rw [other x hxu]; exact h11 x hx
theorem eqOff_R {A : List Nat} {lo hi : Nat} (h : eqOff A M N) (hA : ∀ a ∈ A, lo ≤ a ∧ a ≤ hi) : eqR lo hi M N := ⟨h.1, fun a ha => h.2 a (fun z => by have := hA a z; omega)⟩
theorem s89l (hU : upOk n up) (hn : 1 ≤ n) (h30 : n ≤ 30) : ∀ d i (N : mem), n - i = d → 1 ≤ i → i ≤ n → eqR 9 17 M N → N.1 9 0 = nI n → (∀ x, x < n → N.1 10 x = upI up x ∧ N.1 11 x = hvI (hvU (szT n up) up x i) ∧ N.1 12 x = nI (szT n up x)) → ∃ N', Rm E 42 89 [vr 9, vn, vn, vi (nI i)] [] N none N' ∧ eqR 9 17 M N' ∧ plP n up n N' := by
  have hS : ∀ x, x < n → szT n up x ≤ 30 := fun x hx => by have := plT_lt hU hn hx; omega
  intro d
  induction d with
  | zero =>
    intro i N hd h0 hi he h9 hb
    obtain rfl : i = n := by omega
    have put := s45 (E := E) (M := upM (upM (upM N 9 1 1) 16 0 0) 15 0 0) hU hn h30 (i := 0) (by omega) (p := 0) (by omega) (by rw [upM_ne (by decide), upM_ne (by decide), upM_ne (by decide)]; exact (hb 0 (by omega)).2.1) (fun x hx => by rw [upM_ne (by decide), upM_ne (by decide), upM_ne (by decide)]; exact (hb x hx).2.2)
    have hP1 : plP i up 1 (upM (upM (upM (upM (upM (upM N 9 1 1) 16 0 0) 15 0 0) 13 0 (nI 0)) 14 0 (nI 0)) 17 0 (nI (0 + 1 + hsT i up 0))) := by
      refine plP_put hU hn (i := 0) (by omega) (K := N) (Or.inr rfl) ⟨h9, hb⟩ ?_ ?_ ?_ ?_ (fun x => ?_) (fun x => ?_) (fun x => ?_) (fun x => ?_) (fun x hx => by omega) ?_ ?_
      · rw [upM_ne (by decide), upM_ne (by decide), upM_ne (by decide), upM_ne (by decide), upM_ne (by decide), upM_nk (by decide)]
      · rw [upM_ne (by decide), upM_ne (by decide), upM_ne (by decide), upM_ne (by decide), upM_ne (by decide), upM_ne (by decide)]
      · rw [upM_ne (by decide), upM_ne (by decide), upM_ne (by decide), upM_ne (by decide), upM_ne (by decide), upM_ne (by decide)]
      · rw [upM_ne (by decide), upM_ne (by decide), upM_ne (by decide), upM_ne (by decide), upM_ne (by decide), upM_ne (by decide)]
      · rw [plT_0, upM_ne (by decide), upM_ne (by decide), upM_at, upM_ne (by decide), upM_ne (by decide), upM_ne (by decide)]; simp
      · rw [plT_0, upM_ne (by decide), upM_at, upM_ne (by decide), upM_ne (by decide), upM_ne (by decide), upM_ne (by decide)]; simp
      · rw [hdT_0, upM_ne (by decide), upM_ne (by decide), upM_ne (by decide), upM_at, upM_ne (by decide), upM_ne (by decide)]; simp; rfl
      · rw [dpt_0, upM_ne (by decide), upM_ne (by decide), upM_ne (by decide), upM_ne (by decide), upM_at, upM_ne (by decide)]; simp; rfl
      · rw [plT_0, upM_eq]
      · rw [upM_ne (by decide), upM_ne (by decide), upM_ne (by decide), upM_ne (by decide), upM_ne (by decide), upM_eq, fold_s]
        unfold chF
        rw [if_pos (show nI (hdT i up 0) = nI 0 by rw [hdT_0])]
        rfl
    obtain ⟨N', r1, r2⟩ := s141l (E := E) (M := M) hU hn h30 (i - 1) 1 (upM (upM (upM (upM (upM (upM N 9 1 1) 16 0 0) 15 0 0) 13 0 (nI 0)) 14 0 (nI 0)) 17 0 (nI (0 + 1 + hsT i up 0))) rfl (by omega) hn (⟨he.1, fun a ha => by rw [upM_ne (by omega), upM_ne (by omega), upM_ne (by omega), upM_ne (by omega), upM_ne (by omega), upM_ne (by omega)]; exact he.2 a ha⟩) hP1
    exact ⟨N', b42_89_0 (by rw [h9]; exact nI_le (Nat.le_refl _) (by omega)) rfl rfl rfl put r1, r2⟩
  | succ d ih =>
    intro i N hd h0 hi he h9 hb
    have hin : i < n := by omega
    have hu := hU i h0 hin
    obtain ⟨K, k1, k2, k3⟩ := s43 (E := E) (M := N) (up := up) h30 h0 hin (by omega) hS (fun x hx => (hb x hx).2.2) (fun x hx => (hb x hx).2.1)
    obtain ⟨N', r1, r2⟩ := ih (i + 1) K (by omega) (by omega) (by omega) (he.tr (eqOff_R k2 (by simp))) (by rw [k2.2 9 (by simp)]; exact h9) (fun x hx => ⟨by rw [k2.2 10 (by simp)]; exact (hb x hx).1, k3 x hx, by rw [k2.2 12 (by simp)]; exact (hb x hx).2.2⟩)
    refine ⟨N', b42_89_1 (by rw [h9, nI_leI (by omega) (by omega)]; omega) (inR_nI (by omega) (by omega)) (by rw [clampI (by omega), (hb i hin).1, show upI up i = nI (up i) from if_neg (by omega)]; exact k1) ?_, r2⟩
    rw [nI_1]
    exact r1
theorem s57l (hU : upOk n up) (hn : 1 ≤ n) (h30 : n ≤ 30) : ∀ e d (N : mem), d + e = n - 1 → eqR 9 17 M N → N.1 9 0 = nI n → (∀ x, x < n → N.1 10 x = upI up x ∧ N.1 11 x = -4 ∧ N.1 12 x = nI (szL n up d x)) → ∃ N', Rm E 42 57 [vr 9, vn, vn, vi (nI (n - 1 - d))] [] N none N' ∧ eqR 9 17 M N' ∧ plP n up n N' := by
  intro e
  induction e with
  | zero =>
    intro d N hd he h9 hb
    obtain rfl : d = n - 1 := by omega
    obtain ⟨N', r1, r2⟩ := s89l (E := E) (M := M) hU hn h30 (n - 1) 1 N rfl (by omega) hn he h9 (fun x hx => ⟨(hb x hx).1, by
      rw [(hb x hx).2.1]
      have : hvU (szT n up) up x 1 = none := if_neg (fun z => absurd z.1 (by decide))
      rw [this]
      rfl, (hb x hx).2.2⟩)
    exact ⟨N', b42_57_0 (by rw [Nat.sub_self]; decide) r1, r2⟩
  | succ e ih =>
    intro d N hd he h9 hb
    have h0 : 0 < n - 1 - d := by omega
    have hi : n - 1 - d < n := by omega
    have hu := hU _ h0 hi
    have ci : (nI (n - 1 - d)).toNatClampNeg = n - 1 - d := clampI (by omega)
    have ri : inR (nI (n - 1 - d)) 30 := inR_nI (by omega) (by omega)
    have e10 : N.1 10 (nI (n - 1 - d)).toNatClampNeg = nI (up (n - 1 - d)) := by rw [ci, (hb _ hi).1]; exact if_neg (by omega)
    have ru : inR (N.1 10 (nI (n - 1 - d)).toNatClampNeg) 30 := by rw [e10]; exact inR_nI (by omega) (by omega)
    have cu : (nI (up (n - 1 - d))).toNatClampNeg = up (n - 1 - d) := clampI (by omega)
    obtain ⟨N', r1, r2⟩ := ih (d + 1) (upM N 12 (up (n - 1 - d)) (nI (szL n up d (up (n - 1 - d)) + szL n up d (n - 1 - d)))) (by omega) (he.up (by omega) (by omega)) (by rw [upM_ne (by decide)]; exact h9) (fun x hx => ⟨by rw [upM_ne (by decide)]; exact (hb x hx).1, by rw [upM_ne (by decide)]; exact (hb x hx).2.1, by
      rw [szL_s]
      by_cases hxu : x = up (n - 1 - d)
      · rw [hxu, upM_eq, setN_eq]
      · rw [upM_nk hxu, setN_ne hxu]; exact (hb x hx).2.2⟩)
    refine ⟨N', b42_57_1 (nI_nle h0 (by omega)) ri ru ri ru rfl ?_, r2⟩
    rw [e10, cu, ci, (hb _ hi).2.2, (hb (up (n - 1 - d)) (by omega)).2.2, nI_add, show nI (n - 1 - d) + (-1) = nI (n - 1 - (d + 1)) by rw [show n - 1 - d = (n - 1 - (d + 1)) + 1 by omega]; exact pk_m1 _]
    exact r1
theorem s42 (hU : upOk n up) (hn : 1 ≤ n) (h30 : n ≤ 30) (h4 : ∀ i, i < n → M.1 4 i = upI up i) : ∃ N, Rm E 42 0 [vr 9, vi (nI n), vr 4, vn] [] M none N ∧ eqR 9 17 M N ∧ cTr n up (trT n up) N := by
  have key : ∀ d j (N : mem), n - j = d → j ≤ n → eqR 9 17 M N → N.1 9 0 = nI n → (∀ x, x < j → N.1 10 x = upI up x ∧ N.1 11 x = -4 ∧ N.1 12 x = nI 1) → ∃ N', Rm E 42 12 [vr 9, vn, vr 4, vi (nI j)] [] N none N' ∧ eqR 9 17 M N' ∧ plP n up n N' := by
    intro d
    induction d with
    | zero =>
      intro j N hd hj he h9 hb
      obtain rfl : j = n := by omega
      obtain ⟨N', r1, r2⟩ := s57l (E := E) (M := M) hU hn h30 (j - 1) 0 N (by omega) he h9 hb
      refine ⟨N', b42_12_0 (by rw [h9]; exact nI_le (Nat.le_refl _) (by omega)) ?_, r2⟩
      rw [h9, show nI j - 1 = nI (j - 1 - 0) from pk_sub (b := 1) hn]
      exact r1
    | succ d ih =>
      intro j N hd hj he h9 hb
      have cj : (nI j).toNatClampNeg = j := clampI (by omega)
      have rj : inR (nI j) 30 := inR_nI (by omega) (by omega)
      obtain ⟨N', r1, r2⟩ := ih (j + 1) (upM (upM (upM N 10 j (upI up j)) 12 j 1) 11 j (-4)) (by omega) (by omega) (((he.up (by omega) (by omega)).up (by omega) (by omega)).up (by omega) (by omega)) (by rw [upM_ne (by decide), upM_ne (by decide), upM_ne (by decide)]; exact h9) (fun x hx => by
        rw [upM_ne (show 10 ≠ 11 by decide), upM_ne (show 10 ≠ 12 by decide), upM_ne (show 12 ≠ 11 by decide)]
        by_cases hxj : x = j
        · rw [hxj, upM_eq, upM_eq, upM_eq]; exact ⟨rfl, rfl, rfl⟩
        · rw [upM_nk hxj, upM_nk hxj, upM_nk hxj, upM_ne (show 11 ≠ 12 by decide), upM_ne (show 11 ≠ 10 by decide), upM_ne (show 12 ≠ 10 by decide)]
          exact hb x (by omega))
      refine ⟨N', b42_12_1 (by rw [h9, nI_leI (by omega) (by omega)]; omega) rj rj rfl rj rfl rj rfl ?_, r2⟩
      rw [cj, he.2 4 (by omega), h4 j (by omega), nI_1]
      exact r1
  obtain ⟨N', r1, r2, ⟨⟨p1, p2⟩, p3, p4⟩⟩ := key n 0 (upM M 9 0 (nI n)) (by omega) (by omega) (eqR.rf.up (by omega) (by omega)) upM_eq (fun x hx => by omega)
  refine ⟨N', b42_0_0 (N1 := upM M 9 0 (nI n)) ?_ r1, r2, p1, p4, fun i hi => ?_⟩
  · rw [if_neg]
    show ¬ (nI 30 < nI n)
    exact nI_nlt h30 (by omega)
  · obtain ⟨q1, q2, q3⟩ := p2 i hi
    obtain ⟨t1, t2, t3, t4, t5⟩ := p3 i hi
    refine ⟨q1, q2, q3, t1, ?_, t3, t4⟩
    obtain ⟨k, hk, rfl⟩ := plT_sur hU hn hi
    show N'.1 14 (plT n up k) = nI (rwT n up (plT n up k))
    rw [rwT_pl hU hn hk]
    exact (p3 k hk).2.1
end BUILD
