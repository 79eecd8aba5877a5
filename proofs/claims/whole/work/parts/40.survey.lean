/-! what ways from one post come to -/
theorem sumW_snoc (g : Nat → Int32) (w : List Nat) (a : Nat) : sumW g (w ++ [a]) = sumW g w + g a := by
  unfold sumW
  rw [List.foldl_append]
  rfl
section SURVEY
variable {n : Nat} {up : Nat → Nat} {t : trf} {M N : mem} {E : env}
theorem anc_root (h : upOk n up) {u : Nat} (hu : u < n) : anc up 0 u := by
  obtain ⟨h1, h2⟩ := cl_dp h (dpt up u) u hu (Nat.le_refl _)
  refine ⟨dpt up u, Nat.le_refl _, ?_⟩
  rcases Nat.eq_zero_or_pos (cl up (dpt up u) u) with h3 | h3
  · exact h3
  · have := dpt_s h3 (h _ h3 h1)
    omega
theorem wy_dn (h : upOk n up) : ∀ u, u < n → ∀ v, 0 < v → v < n → ¬ anc up v u → wy up u v = wy up u (up v) ++ [v] := by
  intro u
  induction u using Nat.strongRecOn with
  | ind u ih =>
    intro hu v hv0 hv ha
    rcases Nat.lt_trichotomy u v with hc | hc | hc
    · exact wy_lt hc (h v hv0 hv)
    · subst hc
      exact absurd (anc_self up u) ha
    · have hu0 : 0 < u := by omega
      have huu := h u hu0 hu
      have hvv := h v hv0 hv
      rw [wy_gt hc huu, wy_gt (show up v < u by omega) huu, ih (up u) huu (by omega) v hv0 hv (fun z => ha (anc_dn h hu hu0 z))]
      rfl
theorem cl_lt (h : upOk n up) {j u : Nat} (hu : u < n) (hj : j + 1 ≤ dpt up u) : cl up (j + 1) u < u := by
  obtain ⟨h1, h2⟩ := cl_dp h (j + 1) u hu hj
  have h3 := anc_le h hu (x := cl up (j + 1) u) ⟨j + 1, hj, rfl⟩
  rcases Nat.lt_or_ge (cl up (j + 1) u) u with h4 | h4
  · exact h4
  · have h5 : cl up (j + 1) u = u := by omega
    rw [h5] at h2
    omega
theorem up_pos (h : upOk n up) {u : Nat} (hd : 1 ≤ dpt up u) : 0 < u := by
  rcases Nat.eq_zero_or_pos u with rfl | h0
  · rw [dpt_0] at hd; omega
  · exact h0
theorem wy_cl (h : upOk n up) : ∀ j u, u < n → j + 1 ≤ dpt up u → wy up u (cl up (j + 1) u) = wy up u (cl up j u) ++ [cl up (j + 1) u]
  | 0, u, hu, hd => by
    have hu0 := up_pos h hd
    have := h u hu0 hu
    show wy up u (up u) = wy up u u ++ [up u]
    rw [wy_gt this this, wy_self, wy_self]
    rfl
  | j + 1, u, hu, hd => by
    have hu0 := up_pos h (u := u) (by omega)
    have huu := h u hu0 hu
    have hd2 := dpt_s hu0 huu
    rw [wy_gt (cl_lt h hu hd) huu, wy_gt (cl_lt h hu (j := j) (by omega)) huu]
    show u :: wy up (up u) (cl up (j + 1) (up u)) = u :: wy up (up u) (cl up j (up u)) ++ [cl up (j + 1) (up u)]
    rw [wy_cl h j (up u) (by omega) (by omega)]
    rfl
theorem negI {k : Nat} : nI k + (-1) = nI k - 1 := by rw [Int32.sub_eq_add_neg]
theorem dnI {k : Nat} : nI (k + 1) - 1 = nI k := by rw [← nI_1, Int32.add_sub_cancel]
theorem lt0I {k : Nat} (h : k < 2 ^ 31) : ¬ nI k < 0 := nI_pos h
/-- behind the second loop -/
def survI (up : Nat → Nat) (g : Nat → Int32) (n u j : Nat) (N : mem) : Prop := ∀ v, v < n → ((∃ i, i < j ∧ cl up i u = v) → N.1 75 v = 1 ∧ N.1 74 v = sumW g (wy up u v)) ∧ (¬ (∃ i, i < j ∧ cl up i u = v) → N.1 75 v = 0)
theorem m89 {a : Nat} {g : Nat → Int32} (hO : trOk n up t) (hT : cTr n up t M) (ha : skel[a]? = some (.inl (0, 30))) (h74 : a ≠ 74) (h75 : a ≠ 75) (hg : ∀ i, i < n → M.1 a i = g i) {u : Nat} (hu : u < n) : ∀ d v (N : mem), n - v = d → 0 < v → v ≤ n → eqOff [74, 75] M N → (∀ i, i < n → (anc up i u → N.1 75 i = 1 ∧ N.1 74 i = sumW g (wy up u i)) ∧ (¬ anc up i u → N.1 75 i = 0)) → (∀ i, i < v → N.1 74 i = sumW g (wy up u i)) → ∃ N', Rm E 38 89 [vr 72, vr 9, vn, vr a, vn, vn, vi (nI v)] [] N none N' ∧ eqOff [74, 75] M N' ∧ ∀ i, i < n → N'.1 74 i = sumW g (wy up u i) := by
  intro d
  have hn := hO.2.1
  have hU := hO.2.2.1
  induction d with
  | zero =>
    intro v N hd hv0 hv hN hA hS
    obtain rfl : v = n := by omega
    exact ⟨N, b38_89_0 ha (by rw [hN.2 9 (by simp), hT.1]; exact nI_le (Nat.le_refl _) (by omega)), hN, hS⟩
  | succ d ih =>
    intro v N hd hv0 hv hN hA hS
    have hvn : v < n := by omega
    have h0 : ¬ (N.1 9 0 ≤ nI v) := by rw [hN.2 9 (by simp), hT.1, nI_leI (by omega) (by omega)]; omega
    have hr : inR (nI v) 30 := inR_nI (by omega) (by omega)
    have hc : (nI v).toNatClampNeg = v := clampI (by omega)
    by_cases hav : anc up v u
    · obtain ⟨N', h1, h2, h3⟩ := ih (v + 1) N (by omega) (by omega) (by omega) hN hA (fun i hi => by
        rcases Nat.lt_or_ge i v with h | h
        · exact hS i h
        · obtain rfl : i = v := by omega
          exact ((hA i hvn).1 hav).2)
      refine ⟨N', ?_, h2, h3⟩
      refine b38_89_1 ha h0 hr (by rw [hc, ((hA v hvn).1 hav).1]; decide) ?_
      rw [nI_1]
      exact h1
    · have huv := hU v hv0 hvn
      have hup : N.1 10 v = nI (up v) := by
        rw [hN.2 10 (by simp), (hT.2.2 v hvn).1]
        exact if_neg (by omega)
      have hval : N.1 74 (up v) + N.1 a v = sumW g (wy up u v) := by
        rw [wy_dn hU u hu v hv0 hvn hav, sumW_snoc, hS _ huv, hN.2 a (by simp [h74, h75]), hg v hvn]
      obtain ⟨N', h1, h2, h3⟩ := ih (v + 1) (upM N 74 v (sumW g (wy up u v))) (by omega) (by omega) (by omega) (hN.up (by simp)) (fun i hi => by
        rw [upM_ne (show 75 ≠ 74 by decide)]
        refine ⟨fun h => ⟨((hA i hi).1 h).1, ?_⟩, (hA i hi).2⟩
        rw [upM_nk (show i ≠ v from fun z => hav (by rw [← z]; exact h))]
        exact ((hA i hi).1 h).2) (fun i hi => by
        by_cases hiv : i = v
        · rw [hiv, upM_eq]
        · rw [upM_nk hiv]; exact hS i (by omega))
      refine ⟨N', ?_, h2, h3⟩
      refine b38_89_2 ha h0 hr (fun z => z (by rw [hc]; exact (hA v hvn).2 hav)) hr (by rw [hc, hup]; exact inR_nI (by omega) (by omega)) hr hr rfl ?_
      rw [hc, hup, clampI (by omega), hval, nI_1]
      exact h1
theorem m40 {a : Nat} {g : Nat → Int32} (hO : trOk n up t) (hT : cTr n up t M) (ha : skel[a]? = some (.inl (0, 30))) (h74 : a ≠ 74) (h75 : a ≠ 75) (hg : ∀ i, i < n → M.1 a i = g i) {u : Nat} (hu : u < n) : ∀ d j (N : mem) (x4 x5 : Int32), d + j = dpt up u + 1 → (0 < d → x5 = nI (cl up j u) ∧ x4 + g (cl up j u) = sumW g (wy up u (cl up j u))) → eqOff [74, 75] M N → survI up g n u j N → ∃ N', Rm E 38 40 [vr 72, vr 9, vn, vr a, vi x4, vi x5, vi (nI d - 1)] [] N none N' ∧ eqOff [74, 75] M N' ∧ ∀ i, i < n → N'.1 74 i = sumW g (wy up u i) := by
  intro d
  have hn := hO.2.1
  have hU := hO.2.2.1
  have hdu := dpt_le hU u hu
  induction d with
  | zero =>
    intro j N x4 x5 hd hx hN hS
    have hanc : ∀ i, anc up i u ↔ ∃ k, k < j ∧ cl up k u = i := fun i => ⟨fun ⟨k, h1, h2⟩ => ⟨k, by omega, h2⟩, fun ⟨k, h1, h2⟩ => ⟨k, by omega, h2⟩⟩
    obtain ⟨N', h1, h2, h3⟩ := m89 (E := E) hO hT ha h74 h75 hg hu (n - 1) 1 N rfl (by omega) hO.1 hN (fun i hi => by rw [hanc i]; exact hS i hi) (fun i hi => by
      obtain rfl : i = 0 := by omega
      exact ((hS 0 hO.1).1 ((hanc 0).mp (anc_root hU hu))).2)
    exact ⟨N', b38_40_0 ha (by decide) h1, h2, h3⟩
  | succ d ih =>
    intro j N x4 x5 hd hx hN hS
    obtain ⟨rfl, hx4⟩ := hx (by omega)
    obtain ⟨hcn, hcd⟩ := cl_dp hU j u hu (by omega)
    have hr : inR (nI (cl up j u)) 30 := inR_nI (by omega) (by omega)
    have hc : (nI (cl up j u)).toNatClampNeg = cl up j u := clampI (by omega)
    have hga : N.1 a (cl up j u) = g (cl up j u) := by rw [hN.2 a (by simp [h74, h75]), hg _ hcn]
    have hN2 : eqOff [74, 75] M (upM (upM N 74 (cl up j u) (sumW g (wy up u (cl up j u)))) 75 (cl up j u) 1) := (hN.up (by simp)).up (by simp)
    obtain ⟨N', h1, h2, h3⟩ := ih (j + 1) (upM (upM N 74 (cl up j u) (sumW g (wy up u (cl up j u)))) 75 (cl up j u) 1) (sumW g (wy up u (cl up j u))) (upI up (cl up j u)) (by omega) (fun h0 => by
      refine ⟨cl_up hU hu (by omega), ?_⟩
      rw [wy_cl hU j u hu (by omega), sumW_snoc]) hN2 (fun v hv => by
      by_cases hvc : v = cl up j u
      · subst hvc
        rw [upM_eq, upM_ne (show 74 ≠ 75 by decide), upM_eq]
        exact ⟨fun _ => ⟨rfl, rfl⟩, fun h => absurd ⟨j, by omega, rfl⟩ h⟩
      · rw [upM_nk hvc, upM_ne (show 74 ≠ 75 by decide), upM_nk hvc, upM_ne (show 75 ≠ 74 by decide)]
        refine ⟨fun ⟨i, h1, h2⟩ => (hS v hv).1 ⟨i, ?_, h2⟩, fun h => (hS v hv).2 (fun ⟨i, h1, h2⟩ => h ⟨i, by omega, h2⟩)⟩
        rcases Nat.lt_or_ge i j with h | h
        · exact h
        · obtain rfl : i = j := by omega
          exact absurd h2.symm hvc)
    refine ⟨N', ?_, h2, h3⟩
    rw [dnI]
    refine b38_40_1 ha (lt0I (by omega)) hr hr rfl hr rfl hr ?_
    rw [hc, hga, hx4, hN2.2 10 (by simp), (hT.2.2 _ hcn).1, negI]
    exact h1
theorem s38 {a : Nat} {g : Nat → Int32} (hO : trOk n up t) (hT : cTr n up t M) (ha : skel[a]? = some (.inl (0, 30))) (h74 : a ≠ 74) (h75 : a ≠ 75) (hg : ∀ i, i < n → M.1 a i = g i) {u : Nat} (hu : u < n) : ∃ N', Rm E 38 0 [vr 72, vr 9, vi (nI u), vr a, vn, vn, vn] [] M none N' ∧ eqOff [74, 75] M N' ∧ ∀ i, i < n → N'.1 74 i = sumW g (wy up u i) := by
  have hn := hO.2.1
  have hU := hO.2.2.1
  have hdu := dpt_le hU u hu
  have key : ∀ d j (N : mem), n - j = d → j ≤ n → eqOff [75] M N → (∀ i, i < j → N.1 75 i = 0) → ∃ N', Rm E 38 3 [vr 72, vr 9, vi (nI u), vr a, vi (nI j), vn, vn] [] N none N' ∧ eqOff [74, 75] M N' ∧ ∀ i, i < n → N'.1 74 i = sumW g (wy up u i) := by
    intro d
    induction d with
    | zero =>
      intro j N hd hj hN hz
      obtain rfl : j = n := by omega
      obtain ⟨N', h1, h2, h3⟩ := m40 (E := E) hO hT ha h74 h75 hg hu (dpt up u + 1) 0 N 0 (nI u) (by omega) (fun _ => ⟨rfl, by show 0 + g u = sumW g (wy up u u); rw [wy_self]; rfl⟩) (hN.wk (by simp)) (fun v hv => ⟨fun ⟨i, h, _⟩ => by omega, fun _ => hz v hv⟩)
      refine ⟨N', ?_, h2, h3⟩
      refine b38_3_0 ha (by rw [hN.2 9 (by simp), hT.1]; exact nI_le (Nat.le_refl _) (by omega)) (inR_nI (by omega) (by omega)) ?_
      rw [clampI (by omega), hN.2 16 (by simp), (hT.2.2 u hu).2.2.2.2.2.2]
      rw [dnI] at h1
      exact h1
    | succ d ih =>
      intro j N hd hj hN hz
      obtain ⟨N', h1, h2⟩ := ih (j + 1) (upM N 75 j 0) (by omega) (by omega) (hN.up (by simp)) (fun i hi => by
        by_cases hij : i = j
        · rw [hij, upM_eq]
        · rw [upM_nk hij]; exact hz i (by omega))
      refine ⟨N', ?_, h2⟩
      refine b38_3_1 ha (by rw [hN.2 9 (by simp), hT.1, nI_leI (by omega) (by omega)]; omega) (inR_nI (by omega) (by omega)) rfl ?_
      rw [clampI (by omega), nI_1]
      exact h1
  obtain ⟨N', h1, h2⟩ := key n 0 M (by omega) (by omega) eqOff.rf (fun i hi => by omega)
  exact ⟨N', b38_0_0 ha h1, h2⟩
end SURVEY
