/-! ancestors, and the model's ways -/
def anc (up : Nat → Nat) (x y : Nat) : Prop := ∃ k, k ≤ dpt up y ∧ cl up k y = x
section ANC
variable {n : Nat} {up : Nat → Nat}
theorem anc_self (up : Nat → Nat) (y : Nat) : anc up y y := ⟨0, Nat.zero_le _, rfl⟩
theorem anc_dp (h : upOk n up) {x y : Nat} (hy : y < n) (ha : anc up x y) : x < n ∧ (dpt up x < dpt up y ∨ x = y) := by
  obtain ⟨k, hk, rfl⟩ := ha
  have := cl_dp h k y hy hk
  refine ⟨this.1, ?_⟩
  cases k with
  | zero => exact Or.inr rfl
  | succ k => exact Or.inl (by omega)
theorem anc_le (h : upOk n up) {x y : Nat} (hy : y < n) (ha : anc up x y) : x ≤ y := by
  obtain ⟨k, hk, rfl⟩ := ha
  induction k generalizing y with
  | zero => exact Nat.le_refl _
  | succ k ih =>
    have h0 : 0 < y := by
      rcases Nat.eq_zero_or_pos y with rfl | h0
      · rw [dpt_0] at hk; omega
      · exact h0
    have h1 := h y h0 hy
    have h2 := dpt_s h0 h1
    have := ih (y := up y) (by omega) (by omega)
    show cl up k (up y) ≤ y
    omega
theorem anc_up (h : upOk n up) {x y : Nat} (hy : y < n) (ha : anc up x y) (hne : x ≠ y) : 0 < y ∧ anc up x (up y) := by
  obtain ⟨k, hk, rfl⟩ := ha
  cases k with
  | zero => exact absurd rfl hne
  | succ k =>
    have h0 : 0 < y := by
      rcases Nat.eq_zero_or_pos y with rfl | h0
      · rw [dpt_0] at hk; omega
      · exact h0
    have h2 := dpt_s h0 (h y h0 hy)
    exact ⟨h0, k, by omega, rfl⟩
theorem anc_dn (h : upOk n up) {x y : Nat} (hy : y < n) (h0 : 0 < y) (ha : anc up x (up y)) : anc up x y := by
  obtain ⟨k, hk, rfl⟩ := ha
  have h2 := dpt_s h0 (h y h0 hy)
  exact ⟨k + 1, by omega, rfl⟩
theorem mt_anc (h : upOk n up) : ∀ u v, u < n → v < n → anc up (mt up u v) u ∧ anc up (mt up u v) v ∧ ∀ z, anc up z u → anc up z v → z ≤ mt up u v := by
  refine way_ind h _ ?_ ?_ ?_
  · intro u hu
    rw [mt_self]
    exact ⟨anc_self up u, anc_self up u, fun z hz _ => anc_le h hu hz⟩
  · intro u v hu hvu ⟨a1, a2, a3⟩
    have h1 := h u (by omega) hu
    rw [mt_gt hvu h1]
    refine ⟨anc_dn h hu (by omega) a1, a2, fun z hz hz2 => a3 z (anc_up h hu hz ?_).2 hz2⟩
    have := anc_le h (by omega) hz2
    omega
  · intro u v hv huv ⟨a1, a2, a3⟩
    have h1 := h v (by omega) hv
    rw [mt_lt huv h1]
    refine ⟨a1, anc_dn h hv (by omega) a2, fun z hz hz2 => a3 z hz (anc_up h hv hz2 ?_).2⟩
    have := anc_le h (by omega) hz
    omega
theorem mt_max (h : upOk n up) {u v x : Nat} (hu : u < n) (hv : v < n) (h1 : anc up x u) (h2 : anc up x v) (h3 : ∀ z, anc up z u → anc up z v → z ≤ x) : mt up u v = x := by
  obtain ⟨a1, a2, a3⟩ := mt_anc h u v hu hv
  have := a3 x h1 h2
  have := h3 _ a1 a2
  omega
theorem mt_left (h : upOk n up) {u v : Nat} (hu : u < n) (hv : v < n) (hne : u ≠ v) (hd : dpt up v ≤ dpt up u) : 0 < u ∧ mt up u v = mt up (up u) v := by
  have h0 : 0 < u := by
    rcases Nat.eq_zero_or_pos u with rfl | h0
    · rw [dpt_0] at hd
      rcases Nat.eq_zero_or_pos v with rfl | hv0
      · exact absurd rfl hne
      · rw [dpt_s hv0 (h v hv0 hv)] at hd; omega
    · exact h0
  have h1 := h u h0 hu
  obtain ⟨a1, a2, a3⟩ := mt_anc h (up u) v (by omega) hv
  refine ⟨h0, mt_max h hu hv (anc_dn h hu h0 a1) a2 (fun z hz hz2 => a3 z (anc_up h hu hz (fun e => ?_)).2 hz2)⟩
  subst e
  rcases (anc_dp h hv hz2).2 with q | q
  · omega
  · exact hne q
theorem mt_right (h : upOk n up) {u v : Nat} (hu : u < n) (hv : v < n) (hne : u ≠ v) (hd : dpt up u ≤ dpt up v) : 0 < v ∧ mt up u v = mt up u (up v) := by
  have h0 : 0 < v := by
    rcases Nat.eq_zero_or_pos v with rfl | h0
    · rw [dpt_0] at hd
      rcases Nat.eq_zero_or_pos u with rfl | hv0
      · exact absurd rfl hne
      · rw [dpt_s hv0 (h u hv0 hu)] at hd; omega
    · exact h0
  have h1 := h v h0 hv
  obtain ⟨a1, a2, a3⟩ := mt_anc h u (up v) hu (by omega)
  refine ⟨h0, mt_max h hu hv a1 (anc_dn h hv h0 a2) (fun z hz hz2 => a3 z hz (anc_up h hv hz2 (fun e => ?_)).2)⟩
  subst e
  rcases (anc_dp h hu hz).2 with q | q
  · omega
  · exact hne q.symm
end ANC
/-- the model's cells: but the rows A and its own fields F -/
def eqM (A F : List Nat) (M N : mem) : Prop := N.2 = M.2 ∧ (∀ a, a ∉ A → a ≠ 83 → N.1 a = M.1 a) ∧ ∀ k, k ∉ F → N.1 83 k = M.1 83 k
theorem eqM.rf {A F : List Nat} {M : mem} : eqM A F M M := ⟨rfl, fun _ _ _ => rfl, fun _ _ => rfl⟩
theorem eqM.tr {A F : List Nat} {M N K : mem} (h : eqM A F M N) (g : eqM A F N K) : eqM A F M K := ⟨g.1.trans h.1, fun a ha h83 => (g.2.1 a ha h83).trans (h.2.1 a ha h83), fun k hk => (g.2.2 k hk).trans (h.2.2 k hk)⟩
theorem eqM.wk {A F B G : List Nat} {M N : mem} (h : eqM A F M N) (h1 : ∀ a ∈ A, a ∈ B) (h2 : ∀ a ∈ F, a ∈ G) : eqM B G M N := ⟨h.1, fun a ha h83 => h.2.1 a (fun z => ha (h1 a z)) h83, fun k hk => h.2.2 k (fun z => hk (h2 k z))⟩
theorem eqM.up {A F : List Nat} {M N : mem} {a j : Nat} {v : Int32} (h : eqM A F M N) (ha : a ∈ A) (h83 : a ≠ 83) : eqM A F M (upM N a j v) := ⟨h.1, fun b hb h2 => (upM_ne (fun z => hb (by rw [z]; exact ha))).trans (h.2.1 b hb h2), fun k hk => by rw [upM_ne (Ne.symm h83)]; exact h.2.2 k hk⟩
theorem eqM.fl {A F : List Nat} {M N : mem} {j : Nat} {v : Int32} (h : eqM A F M N) (ha : j ∈ F) : eqM A F M (upM N 83 j v) := ⟨h.1, fun b hb h2 => (upM_ne h2).trans (h.2.1 b hb h2), fun k hk => by rw [upM_nk (fun z => hk (by rw [z]; exact ha))]; exact h.2.2 k hk⟩
theorem eqM.off {A F : List Nat} {M N : mem} {a : Nat} (h : eqM A F M N) (ha : a ∉ A) (h83 : a ≠ 83) : N.1 a = M.1 a := h.2.1 a ha h83
def waIs (w : List Nat) (M : mem) : Prop := M.1 83 14 = nI w.length ∧ w.length ≤ 30 ∧ ∀ k p, w[k]? = some p → p < 30 ∧ M.1 93 k = nI p
theorem waIs.cg {w : List Nat} {M N : mem} (h : waIs w M) (h1 : N.1 83 14 = M.1 83 14) (h2 : N.1 93 = M.1 93) : waIs w N := by
  unfold waIs at h ⊢
  rw [h1, h2]
  exact h
theorem mTr.cg {n : Nat} {up : Nat → Nat} {t : trf} {M N : mem} (h : mTr n up t M) (e0 : N.1 83 1 = M.1 83 1) (e : ∀ a, 85 ≤ a → a ≤ 91 → N.1 a = M.1 a) : mTr n up t N := by
  unfold mTr at h ⊢
  rw [e0, e 85 (by omega) (by omega), e 86 (by omega) (by omega), e 87 (by omega) (by omega), e 88 (by omega) (by omega), e 89 (by omega) (by omega), e 90 (by omega) (by omega), e 91 (by omega) (by omega)]
  exact h
section MWAY
variable {E : env} {M : mem} {n : Nat} {up : Nat → Nat} {t : trf}
theorem s105l (hO : trOk n up t) (hT : mTr n up t M) {u v : Nat} {rv : Option Value} {M2 : mem} : ∀ s a b, a + b = s → a < n → b < n → Rm E 105 5 [vr 83, vi (nI u), vi (nI v), vi (nI (mt up a b)), vi (nI (mt up a b)), vn, vn] [] M rv M2 → Rm E 105 5 [vr 83, vi (nI u), vi (nI v), vi (nI a), vi (nI b), vn, vn] [] M rv M2 := by
  obtain ⟨hn1, hn, ho, -⟩ := id hO
  intro s
  induction s using Nat.strongRecOn with
  | _ s ih =>
    intro a b hs ha hb k
    have hua : M.1 85 a = upI up a := (hT.2 a ha).1
    have hub : M.1 85 b = upI up b := (hT.2 b hb).1
    have hda : M.1 90 a = nI (dpt up a) := (hT.2 a ha).2.2.2.2.2.2
    have hdb : M.1 90 b = nI (dpt up b) := (hT.2 b hb).2.2.2.2.2.2
    have la := dpt_le ho a ha
    have lb := dpt_le ho b hb
    by_cases hab : a = b
    · subst hab
      rw [mt_self] at k
      exact k
    · have h0 : ¬ (nI a = nI b) := by rw [nI_eq (by omega) (by omega)]; exact hab
      have ia : inR (nI a) 30 := inR_nI (by omega) (by omega)
      have ib : inR (nI b) 30 := inR_nI (by omega) (by omega)
      have ca : (nI a).toNatClampNeg = a := clampI (by omega)
      have cb : (nI b).toNatClampNeg = b := clampI (by omega)
      by_cases hd : dpt up a < dpt up b
      · obtain ⟨q0, q1⟩ := mt_right ho ha hb hab (by omega)
        have q2 := ho b q0 hb
        refine b105_5_3 h0 ia ib (by rw [ca, cb, hda, hdb]; exact nI_lt hd (by omega)) h0 ib ia (by rw [ca, cb, hda, hdb, nI_leI (by omega) (by omega)]; omega) ib ?_
        rw [cb, hub]
        unfold upI
        rw [if_neg (by omega)]
        rw [q1] at k
        exact ih (a + up b) (by omega) a (up b) rfl ha (by omega) k
      · obtain ⟨q0, q1⟩ := mt_left ho ha hb hab (by omega)
        have q2 := ho a q0 ha
        have hua2 : M.1 85 a = nI (up a) := by rw [hua]; unfold upI; rw [if_neg (by omega)]
        have hdu : M.1 90 (up a) = nI (dpt up (up a)) := (hT.2 (up a) (by omega)).2.2.2.2.2.2
        have lu := dpt_le ho (up a) (by omega)
        have h3 : ¬ (M.1 90 (nI a).toNatClampNeg < M.1 90 (nI b).toNatClampNeg) := by rw [ca, cb, hda, hdb, nI_ltI (by omega) (by omega)]; exact hd
        rw [q1] at k
        by_cases hub2 : up a = b
        · refine b105_5_4 h0 ia ib h3 ia (by rw [ca, hua2, hub2]) ?_
          rw [ca, hua2]
          exact ih (up a + b) (by omega) (up a) b rfl (by omega) hb k
        · have h5 : ¬ (M.1 85 (nI a).toNatClampNeg = nI b) := by rw [ca, hua2, nI_eq (by omega) (by omega)]; exact hub2
          have i7 : inR (M.1 85 (nI a).toNatClampNeg) 30 := by rw [ca, hua2]; exact inR_nI (by omega) (by omega)
          by_cases hd2 : dpt up b ≤ dpt up (up a)
          · refine b105_5_5 h0 ia ib h3 ia h5 ib i7 (by rw [ca, cb, hua2, clampI (by omega), hdb, hdu]; exact nI_le hd2 (by omega)) ?_
            rw [ca, hua2]
            exact ih (up a + b) (by omega) (up a) b rfl (by omega) hb k
          · obtain ⟨p0, p1⟩ := mt_right ho (show up a < n by omega) hb hub2 (by omega)
            have p2 := ho b p0 hb
            refine b105_5_6 h0 ia ib h3 ia h5 ib i7 (by rw [ca, cb, hua2, clampI (by omega), hdb, hdu, nI_leI (by omega) (by omega)]; exact hd2) ib ?_
            rw [ca, hua2, cb, hub]
            unfold upI
            rw [if_neg (by omega)]
            rw [p1] at k
            exact ih (up a + up b) (by omega) (up a) (up b) rfl (by omega) (by omega) k
theorem s105c (hO : trOk n up t) (hT : mTr n up t M) {u v r f : Nat} (hu : u < n) (hv : v < n) (hm : mt up u v < n) (hdf : dpt up v = dpt up (mt up u v) + f) (hrf : r + f < 30) : ∀ d j (M1 : mem) (x5 : Int32), f - j = d → j ≤ f → (j < f → x5 = nI (cl up j v)) → eqM [93] [14, 15] M M1 → M1.1 83 15 = nI (mt up u v) → M1.1 83 14 = nI (r + f + 1) → ∃ M', Rm E 105 189 [vr 83, vn, vi (nI v), vn, vn, vi x5, vi (nI j)] [] M1 none M' ∧ eqM [93] [] M1 M' ∧ (∀ i, j ≤ i → i < f → M'.1 93 (r + f - i) = nI (cl up i v)) ∧ ∀ p, (p ≤ r ∨ r + f - j < p) → M'.1 93 p = M1.1 93 p := by
  obtain ⟨hn1, hn, ho, -⟩ := id hO
  have hdv : M.1 90 v = nI (dpt up v) := (hT.2 v hv).2.2.2.2.2.2
  have hdm : M.1 90 (mt up u v) = nI (dpt up (mt up u v)) := (hT.2 _ hm).2.2.2.2.2.2
  have lv := dpt_le ho v hv
  intro d
  induction d with
  | zero =>
    intro j M1 x5 hd hj hx hq h15 h14
    obtain rfl : j = f := by omega
    refine ⟨M1, b105_189_0 (inR_nI (by omega) (by omega)) (by rw [h15]; exact inR_nI (by omega) (by omega)) ?_, eqM.rf, fun i h1 h2 => by omega, fun p _ => rfl⟩
    rw [h15, clampI (by omega), clampI (by omega), hq.off (by decide) (by decide), hdv, hdm, pk_sub (by omega), nI_leI (by omega) (by omega)]
    omega
  | succ d ih =>
    intro j M1 x5 hd hj hx hq h15 h14
    have hjf : j < f := by omega
    have hx := hx hjf
    subst hx
    have hc := cl_dp ho j v hv (by omega)
    have hup := (hT.2 _ hc.1).1
    obtain ⟨M', r1, r2, r3, r4⟩ := ih (j + 1) (upM M1 93 (r + f - j) (nI (cl up j v))) (nI (cl up (j + 1) v)) (by omega) (by omega) (fun _ => rfl) (hq.up (by decide) (by decide)) (by rw [upM_ne (show (83 : Nat) ≠ 93 by decide)]; exact h15) (by rw [upM_ne (show (83 : Nat) ≠ 93 by decide)]; exact h14)
    refine ⟨M', ?_, (eqM.rf.up (by decide) (by decide)).tr r2, fun i h1 h2 => ?_, fun p hp => ?_⟩
    · have e1 : (M1.1 83 14 - 1) - nI j = nI (r + f - j) := by rw [h14, nI_pred, pk_sub (by omega)]
      refine b105_189_1 (inR_nI (by omega) (by omega)) (by rw [h15]; exact inR_nI (by omega) (by omega)) ?_ (by rw [e1]; exact inR_nI (by omega) (by omega)) rfl (inR_nI (by omega) (by omega)) ?_
      · rw [h15, clampI (by omega), clampI (by omega), hq.off (by decide) (by decide), hdv, hdm, pk_sub (by omega), nI_leI (by omega) (by omega)]
        omega
      · rw [e1, clampI (by omega), clampI (by omega), upM_ne (show (85 : Nat) ≠ 93 by decide), hq.off (show (85 : Nat) ∉ [93] by decide) (by decide), hup, cl_up ho hv (by omega), nI_1]
        exact r1
    · by_cases hi : i = j
      · subst hi
        rw [r4 _ (Or.inr (by omega)), upM_eq]
      · exact r3 i (by omega) h2
    · rw [r4 p (by omega), upM_nk (by omega)]
theorem s105b (hO : trOk n up t) (hT : mTr n up t M) {u v r f : Nat} (hu : u < n) (hv : v < n) (hm : mt up u v < n) (hdr : dpt up u = dpt up (mt up u v) + r) (hdf : dpt up v = dpt up (mt up u v) + f) (hrf : r + f < 30) : ∀ d k (M1 : mem) (x5 : Int32), r + 1 - k = d → k ≤ r + 1 → (k ≤ r → x5 = nI (cl up k u)) → eqM [93] [14, 15] M M1 → M1.1 83 15 = nI (mt up u v) → M1.1 83 14 = nI (r + f + 1) → (∀ i, i < k → M1.1 93 i = nI (cl up i u)) → ∃ M', Rm E 105 122 [vr 83, vi (nI u), vi (nI v), vn, vn, vi x5, vi (nI k)] [] M1 none M' ∧ eqM [93] [] M1 M' ∧ (∀ i, i ≤ r → M'.1 93 i = nI (cl up i u)) ∧ ∀ i, i < f → M'.1 93 (r + f - i) = nI (cl up i v) := by
  obtain ⟨hn1, hn, ho, -⟩ := id hO
  have hdu : M.1 90 u = nI (dpt up u) := (hT.2 u hu).2.2.2.2.2.2
  have hdm : M.1 90 (mt up u v) = nI (dpt up (mt up u v)) := (hT.2 _ hm).2.2.2.2.2.2
  have lu := dpt_le ho u hu
  intro d
  induction d with
  | zero =>
    intro k M1 x5 hd hk hx hq h15 h14 h93
    obtain rfl : k = r + 1 := by omega
    obtain ⟨M', r1, r2, r3, r4⟩ := s105c (E := E) hO hT hu hv hm hdf hrf f 0 M1 (nI v) (by omega) (by omega) (fun _ => rfl) hq h15 h14
    refine ⟨M', b105_122_0 (inR_nI (by omega) (by omega)) (by rw [h15]; exact inR_nI (by omega) (by omega)) ?_ r1, r2, fun i hi => (r4 i (Or.inl hi)).trans (h93 i (by omega)), fun i hi => r3 i (by omega) hi⟩
    rw [h15, clampI (by omega), clampI (by omega), hq.off (by decide) (by decide), hdu, hdm, pk_sub (by omega)]
    exact nI_lt (by omega) (by omega)
  | succ d ih =>
    intro k M1 x5 hd hk hx hq h15 h14 h93
    have hx := hx (by omega)
    subst hx
    have hc := cl_dp ho k u hu (by omega)
    have hup := (hT.2 _ hc.1).1
    have h2 : ¬ ((M1.1 90 (nI u).toNatClampNeg - M1.1 90 (M1.1 83 15).toNatClampNeg) < nI k) := by
      rw [h15, clampI (by omega), clampI (by omega), hq.off (by decide) (by decide), hdu, hdm, pk_sub (by omega), nI_ltI (by omega) (by omega)]
      omega
    have hN : ∀ i, i < k + 1 → (upM M1 93 k (nI (cl up k u))).1 93 i = nI (cl up i u) := fun i hi => by
      by_cases hik : i = k
      · subst hik; exact upM_eq
      · rw [upM_nk hik]; exact h93 i (by omega)
    have e85 : (upM M1 93 (nI k).toNatClampNeg (nI (cl up k u))).1 85 (nI (cl up k u)).toNatClampNeg = upI up (cl up k u) := by
      rw [clampI (by omega), clampI (by omega), upM_ne (show (85 : Nat) ≠ 93 by decide), hq.off (show (85 : Nat) ∉ [93] by decide) (by decide), hup]
    by_cases hz : cl up k u = 0
    · obtain ⟨M', r1, r2, r3, r4⟩ := ih (k + 1) (upM M1 93 k (nI (cl up k u))) 0 (by omega) (by omega) (fun z => by rw [hz, dpt_0] at hc; omega) (hq.up (by decide) (by decide)) (by rw [upM_ne (show (83 : Nat) ≠ 93 by decide)]; exact h15) (by rw [upM_ne (show (83 : Nat) ≠ 93 by decide)]; exact h14) hN
      refine ⟨M', ?_, (eqM.rf.up (by decide) (by decide)).tr r2, r3, r4⟩
      refine b105_122_2 (inR_nI (by omega) (by omega)) (by rw [h15]; exact inR_nI (by omega) (by omega)) h2 (inR_nI (by omega) (by omega)) rfl (inR_nI (by omega) (by omega)) (fun z => z (by rw [e85, hz]; rfl)) ?_
      rw [clampI (by omega), nI_1]
      exact r1
    · obtain ⟨M', r1, r2, r3, r4⟩ := ih (k + 1) (upM M1 93 k (nI (cl up k u))) (upI up (cl up k u)) (by omega) (by omega) (fun z => cl_up ho hu (by omega)) (hq.up (by decide) (by decide)) (by rw [upM_ne (show (83 : Nat) ≠ 93 by decide)]; exact h15) (by rw [upM_ne (show (83 : Nat) ≠ 93 by decide)]; exact h14) hN
      refine ⟨M', ?_, (eqM.rf.up (by decide) (by decide)).tr r2, r3, r4⟩
      refine b105_122_1 (inR_nI (by omega) (by omega)) (by rw [h15]; exact inR_nI (by omega) (by omega)) h2 (inR_nI (by omega) (by omega)) rfl (inR_nI (by omega) (by omega)) ?_ (inR_nI (by omega) (by omega)) ?_
      · rw [e85]
        unfold upI
        rw [if_neg hz]
        have := ho _ (by omega) hc.1
        intro z
        have z2 := congrArg Int32.toInt z
        rw [nI_toInt (by omega)] at z2
        have z3 : (-4 : Int32).toInt = -4 := rfl
        omega
      · rw [e85, clampI (by omega), nI_1]
        exact r1
/-- lays: the way is laid in the model -/
theorem s105 (hO : trOk n up t) (hT : mTr n up t M) {u v : Nat} (hu : u < n) (hv : v < n) : ∃ M', Rm E 105 0 [vr 83, vi (nI u), vi (nI v), vn, vn, vn, vn] [] M none M' ∧ eqM [93] [14, 15] M M' ∧ waIs (wy up u v) M' ∧ M'.1 83 15 = nI (mt up u v) := by
  obtain ⟨hn1, hn, ho, -⟩ := id hO
  obtain ⟨r, f, a1, a2, a3, a4, a5, a6, a7⟩ := way_form ho u v hu hv
  obtain ⟨w1, w2, w3⟩ := way_n ho hu hv
  have hdu : M.1 90 u = nI (dpt up u) := (hT.2 u hu).2.2.2.2.2.2
  have hdv : M.1 90 v = nI (dpt up v) := (hT.2 v hv).2.2.2.2.2.2
  have hdm : M.1 90 (mt up u v) = nI (dpt up (mt up u v)) := (hT.2 _ w3).2.2.2.2.2.2
  have lu := dpt_le ho u hu
  have lv := dpt_le ho v hv
  have hN1 : (upM M 83 15 (nI (mt up u v))).1 90 = M.1 90 := upM_ne (by decide)
  obtain ⟨M', r1, r2, r3, r4⟩ := s105b (E := E) hO hT hu hv w3 a1 a2 (by omega) (r + 1) 0 (upM (upM M 83 15 (nI (mt up u v))) 83 14 (nI (r + f + 1))) (nI u) (by omega) (by omega) (fun _ => rfl) ((eqM.rf.fl (by decide)).fl (by decide)) (by rw [upM_nk (by decide), upM_eq]) upM_eq (fun i hi => by omega)
  refine ⟨M', b105_0_0 (s105l hO hT (u + v) u v rfl hu hv ?_), ((eqM.rf.fl (by decide)).fl (by decide)).tr (r2.wk (by decide) (by decide)), ⟨?_, by omega, ?_⟩, ?_⟩
  · refine b105_5_0 rfl rfl (inR_nI (by omega) (by omega)) (by rw [upM_eq]; exact inR_nI (by omega) (by omega)) (inR_nI (by omega) (by omega)) (by rw [upM_eq]; exact inR_nI (by omega) (by omega)) rfl ?_
    rw [upM_eq, clampI (by omega), clampI (by omega), clampI (by omega), hN1, hdu, hdv, hdm, pk_sub (by omega), nI_add, pk_sub (by omega), nI_1, show dpt up u - dpt up (mt up u v) + dpt up v - dpt up (mt up u v) + 1 = r + f + 1 by omega]
    exact r1
  · rw [r2.2.2 14 (by decide), upM_eq, a3]
    congr 1
    omega
  · intro k p hk
    have hp := w1 p (List.mem_of_getElem? hk)
    have hkl := (List.getElem?_eq_some_iff.mp hk).1
    refine ⟨by omega, ?_⟩
    by_cases hkr : k ≤ r
    · rw [a4 k hkr] at hk
      cases hk
      exact r3 k hkr
    · have := a5 (r + f - k) (by omega)
      rw [show r + f - (r + f - k) = k by omega, hk] at this
      cases this
      have := r4 (r + f - k) (by omega)
      rwa [show r + f - (r + f - k) = k by omega] at this
  · rw [r2.2.2 15 (by decide), upM_nk (by decide), upM_eq]
/-- laysBelow -/
theorem s106 (hO : trOk n up t) (hT : mTr n up t M) {u : Nat} (hu : u < n) : ∃ M', Rm E 106 0 [vr 83, vi (nI u), vn] [] M none M' ∧ eqM [93] [14] M M' ∧ waIs (cvL t u) M' := by
  obtain ⟨hn1, hn, ho, h1, h2, h3, -⟩ := id hO
  have hu1 := h1 u hu
  have key : ∀ d k (M1 : mem), t.1 u - k = d → k ≤ t.1 u → M1.1 88 = M.1 88 → M1.1 91 = M.1 91 → M1.1 83 14 = nI (t.1 u) → (∀ i, i < k → M1.1 93 i = nI (t.2.2.1 (t.2.1 u + i))) → ∃ M', Rm E 106 12 [vr 83, vi (nI u), vi (nI k)] [] M1 none M' ∧ eqM [93] [] M1 M' ∧ ∀ i, i < t.1 u → M'.1 93 i = nI (t.2.2.1 (t.2.1 u + i)) := by
    intro d
    induction d with
    | zero =>
      intro k M1 hd hk h13 h14 h70 h71
      obtain rfl : k = t.1 u := by omega
      exact ⟨M1, b106_12_0 (by rw [h70]; exact nI_le (by omega) (by omega)), eqM.rf, h71⟩
    | succ d ih =>
      intro k M1 hd hk h13 h14 h70 h71
      have hp := (hT.2 u hu).2.2.2.1
      have hrw := (hT.2 (t.2.1 u + k) (by omega)).2.2.2.2.1
      obtain ⟨M', r1, r2, r3⟩ := ih (k + 1) (upM M1 93 k (nI (t.2.2.1 (t.2.1 u + k)))) (by omega) (by omega) ((upM_ne (by decide)).trans h13) ((upM_ne (by decide)).trans h14) (by rw [upM_ne (show (83 : Nat) ≠ 93 by decide)]; exact h70) (fun i hi => by
        by_cases hik : i = k
        · subst hik; exact upM_eq
        · rw [upM_nk hik]; exact h71 i (by omega))
      refine ⟨M', ?_, (eqM.rf.up (by decide) (by decide)).tr r2, r3⟩
      refine b106_12_1 (by rw [h70, nI_leI (by omega) (by omega)]; omega) (inR_nI (by omega) (by omega)) (by rw [clampI (by omega), h13, hp, nI_add]; exact inR_nI (by omega) (by omega)) (inR_nI (by omega) (by omega)) rfl ?_
      rw [clampI (by omega), clampI (by omega), h13, hp, nI_add, clampI (by omega), h14, hrw, nI_1]
      exact r1
  have hsz := (hT.2 u hu).2.2.1
  obtain ⟨M', r1, r2, r3⟩ := key (t.1 u) 0 (upM M 83 14 (nI (t.1 u))) (by omega) (by omega) (by rw [upM_ne (by decide)]) (by rw [upM_ne (by decide)]) upM_eq (fun i hi => by omega)
  refine ⟨M', ?_, (eqM.rf.fl (by decide)).tr (r2.wk (by decide) (by decide)), ⟨?_, by rw [cvL_len]; omega, ?_⟩⟩
  · refine b106_0_0 (inR_nI (by omega) (by omega)) rfl ?_
    rw [clampI (by omega), hsz]
    exact r1
  · rw [r2.2.2 14 (by decide), upM_eq, cvL_len]
  · intro k p hk
    have hkl := (List.getElem?_eq_some_iff.mp hk).1
    rw [cvL_len] at hkl
    rw [cvL_at hkl] at hk
    cases hk
    exact ⟨by have := h2 (t.2.1 u + k) (by omega); omega, r3 k hkl⟩
end MWAY
