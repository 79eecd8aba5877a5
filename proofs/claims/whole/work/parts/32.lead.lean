/-! the class's tree, and ways over it -/
/-- size, place, row, heavy, head of the posts; how many chains -/
abbrev trf : Type := (Nat → Nat) × (Nat → Nat) × (Nat → Nat) × (Nat → Int32) × (Nat → Int32) × Int32
def upI (up : Nat → Nat) (i : Nat) : Int32 := if i = 0 then -4 else nI (up i)
def cTr (n : Nat) (up : Nat → Nat) (t : trf) (M : mem) : Prop := M.1 9 0 = nI n ∧ M.1 9 1 = t.2.2.2.2.2 ∧ ∀ i, i < n → M.1 10 i = upI up i ∧ M.1 11 i = t.2.2.2.1 i ∧ M.1 12 i = nI (t.1 i) ∧ M.1 13 i = nI (t.2.1 i) ∧ M.1 14 i = nI (t.2.2.1 i) ∧ M.1 15 i = t.2.2.2.2.1 i ∧ M.1 16 i = nI (dpt up i)
def mTr (n : Nat) (up : Nat → Nat) (t : trf) (M : mem) : Prop := M.1 83 1 = nI n ∧ ∀ i, i < n → M.1 85 i = upI up i ∧ M.1 86 i = t.2.2.2.1 i ∧ M.1 87 i = nI (t.1 i) ∧ M.1 88 i = nI (t.2.1 i) ∧ M.1 91 i = nI (t.2.2.1 i) ∧ M.1 89 i = t.2.2.2.2.1 i ∧ M.1 90 i = nI (dpt up i)
def trOk (n : Nat) (up : Nat → Nat) (t : trf) : Prop := 1 ≤ n ∧ n ≤ 30 ∧ upOk n up ∧ (∀ u, u < n → t.2.1 u + t.1 u ≤ n ∧ 0 < t.1 u) ∧ (∀ p, p < n → t.2.2.1 p < n) ∧ (∀ p q, p < n → q < n → t.2.2.1 p = t.2.2.1 q → p = q) ∧ t.2.1 0 = 0 ∧ t.1 0 = n
theorem cTr.cg {n : Nat} {up : Nat → Nat} {t : trf} {M N : mem} (h : cTr n up t M) (e : ∀ a, 9 ≤ a → a ≤ 16 → N.1 a = M.1 a) : cTr n up t N := by
  unfold cTr at h ⊢
  rw [e 9 (by omega) (by omega), e 10 (by omega) (by omega), e 11 (by omega) (by omega), e 12 (by omega) (by omega), e 13 (by omega) (by omega), e 14 (by omega) (by omega), e 15 (by omega) (by omega), e 16 (by omega) (by omega)]
  exact h
theorem cl_dp {n : Nat} {up : Nat → Nat} (h : upOk n up) : ∀ k u, u < n → k ≤ dpt up u → cl up k u < n ∧ dpt up (cl up k u) + k = dpt up u
  | 0, u, hu, _ => ⟨hu, rfl⟩
  | k + 1, u, hu, hk => by
    have h0 : 0 < u := by
      rcases Nat.eq_zero_or_pos u with rfl | h0
      · rw [dpt_0] at hk; omega
      · exact h0
    have h1 := h u h0 hu
    have h2 := dpt_s h0 h1
    have := cl_dp h k (up u) (by omega) (by omega)
    exact ⟨this.1, by show dpt up (cl up k (up u)) + (k + 1) = _; omega⟩
theorem cl_up {n : Nat} {up : Nat → Nat} (h : upOk n up) {k u : Nat} (hu : u < n) (hk : k + 1 ≤ dpt up u) : upI up (cl up k u) = nI (cl up (k + 1) u) := by
  have h1 := cl_dp h k u hu (by omega)
  have h0 : cl up k u ≠ 0 := fun z => by rw [z, dpt_0] at h1; omega
  rw [cl_succ]
  unfold upI
  rw [if_neg h0]
section LEAD
variable {E : env} {M : mem} {n : Nat} {up : Nat → Nat} {t : trf}
theorem s46 (hO : trOk n up t) (hup : ∀ i, i < n → M.1 10 i = upI up i) : ∀ u v, u < n → v < n → Rm E 46 0 [vr 9, vi (nI u), vi (nI v), vn, vn, vn] [] M (some (.int (nI (mt up u v)))) M := by
  obtain ⟨hn1, hn, ho, -⟩ := hO
  have key : ∀ u v, u < n → v < n → ∀ k, k + max u v ≤ 29 → Rm E 46 8 [vr 9, vn, vn, vi (nI u), vi (nI v), vi (nI k)] [] M (some (.int (nI (mt up u v)))) M := by
    refine way_ind ho _ ?_ ?_ ?_
    · intro u hu k hk
      rw [mt_self]
      exact b46_8_1 (by rw [show (60 : Int32) = nI 60 from rfl, nI_leI (by omega) (by omega)]; omega) rfl
    · intro u v hu hvu ih k hk
      have h1 := ho u (by omega) hu
      rw [mt_gt hvu h1]
      refine b46_8_3 (by rw [show (60 : Int32) = nI 60 from rfl, nI_leI (by omega) (by omega)]; omega) (by rw [nI_eq (by omega) (by omega)]; omega) (by rw [nI_leI (by omega) (by omega)]; omega) (inR_nI (by omega) (by omega)) ?_
      rw [clampI (by omega), hup u hu, nI_1]
      unfold upI
      rw [if_neg (by omega)]
      exact ih (k + 1) (by omega)
    · intro u v hv huv ih k hk
      have h1 := ho v (by omega) hv
      rw [mt_lt huv h1]
      refine b46_8_2 (by rw [show (60 : Int32) = nI 60 from rfl, nI_leI (by omega) (by omega)]; omega) (by rw [nI_eq (by omega) (by omega)]; omega) (by rw [nI_leI (by omega) (by omega)]; omega) (inR_nI (by omega) (by omega)) ?_
      rw [clampI (by omega), hup v hv, nI_1]
      unfold upI
      rw [if_neg (by omega)]
      exact ih (k + 1) (by omega)
  intro u v hu hv
  exact b46_0_0 (key u v hu hv 0 (by omega))
theorem s23b (hO : trOk n up t) (hup : ∀ i, i < n → M.1 10 i = upI up i) {v r f : Nat} (hv : v < n) (hf : f ≤ dpt up v) (hrf : r + f < 30) : ∀ d j (M1 : mem) (x6 : Int32), f - j = d → j ≤ f → (j < f → x6 = nI (cl up j v)) → M1.1 10 = M.1 10 → ∃ M', Rm E 23 101 [vr 70, vr 9, vn, vn, vi (nI r), vn, vi x6, vi (nI (r + f - j))] [] M1 none M' ∧ eqOff [71] M1 M' ∧ (∀ i, j ≤ i → i < f → M'.1 71 (r + f - i) = nI (cl up i v)) ∧ ∀ p, (p ≤ r ∨ r + f - j < p) → M'.1 71 p = M1.1 71 p := by
  obtain ⟨hn1, hn, ho, -⟩ := hO
  intro d
  induction d with
  | zero =>
    intro j M1 x6 hd hj hx h10
    obtain rfl : j = f := by omega
    refine ⟨M1, b23_101_0 (by rw [nI_leI (by omega) (by omega)]; omega), eqOff.rf, fun i h1 h2 => by omega, fun p _ => rfl⟩
  | succ d ih =>
    intro j M1 x6 hd hj hx h10
    have hjf : j < f := by omega
    have hx := hx hjf
    subst hx
    have hc := cl_dp ho j v hv (by omega)
    obtain ⟨M', r1, r2, r3, r4⟩ := ih (j + 1) (upM M1 71 (r + f - j) (nI (cl up j v))) (nI (cl up (j + 1) v)) (by omega) (by omega) (fun _ => rfl) ((upM_ne (by decide)).trans h10)
    refine ⟨M', ?_, (eqOff.rf.up (by decide)).tr r2, fun i h1 h2 => ?_, fun p hp => ?_⟩
    · refine b23_101_1 (by rw [nI_leI (by omega) (by omega)]; omega) (inR_nI (by omega) (by omega)) rfl (inR_nI (by omega) (by omega)) ?_
      rw [clampI (by omega), clampI (by omega), upM_ne (show (10 : Nat) ≠ 71 by decide), h10, hup _ hc.1, cl_up ho hv (by omega), show r + f - j = (r + f - (j + 1)) + 1 by omega, pk_m1]
      rw [show r + f - j = (r + f - (j + 1)) + 1 by omega] at r1
      exact r1
    · by_cases hi : i = j
      · subst hi
        rw [r4 _ (Or.inr (by omega)), upM_eq]
      · exact r3 i (by omega) h2
    · rw [r4 p (by omega), upM_nk (by omega)]
theorem s23a (hO : trOk n up t) (hup : ∀ i, i < n → M.1 10 i = upI up i) {u v r f : Nat} (hu : u < n) (hv : v < n) (hr : r ≤ dpt up u) (hf : f ≤ dpt up v) (hrf : r + f < 30) : ∀ d k (M1 : mem) (x5 : Int32), r + 1 - k = d → k ≤ r + 1 → (k ≤ r → x5 = nI (cl up k u)) → M1.1 10 = M.1 10 → M1.1 70 1 = nI (r + 1 + f) → (∀ i, i < k → M1.1 71 i = nI (cl up i u)) → ∃ M', Rm E 23 59 [vr 70, vr 9, vn, vi (nI v), vi (nI r), vi x5, vi (nI k), vn] [] M1 none M' ∧ eqOff [71] M1 M' ∧ (∀ i, i ≤ r → M'.1 71 i = nI (cl up i u)) ∧ ∀ i, i < f → M'.1 71 (r + f - i) = nI (cl up i v) := by
  obtain ⟨hn1, hn, ho, -⟩ := id hO
  intro d
  induction d with
  | zero =>
    intro k M1 x5 hd hk hx h10 h70 h71
    obtain rfl : k = r + 1 := by omega
    obtain ⟨M', r1, r2, r3, r4⟩ := s23b (E := E) hO hup hv hf hrf f 0 M1 (nI v) (by omega) (by omega) (fun _ => rfl) h10
    refine ⟨M', b23_59_0 (nI_lt (by omega) (by omega)) ?_, r2, fun i hi => (r4 i (Or.inl hi)).trans (h71 i (by omega)), fun i hi => r3 i (by omega) hi⟩
    rw [h70, show r + 1 + f = (r + f) + 1 by omega, nI_pred]
    exact r1
  | succ d ih =>
    intro k M1 x5 hd hk hx h10 h70 h71
    have hx := hx (by omega)
    subst hx
    have hc := cl_dp ho k u hu (by omega)
    obtain ⟨M', r1, r2, r3, r4⟩ := ih (k + 1) (upM M1 71 k (nI (cl up k u))) (upI up (cl up k u)) (by omega) (by omega) (fun z => cl_up ho hu (by omega)) ((upM_ne (by decide)).trans h10) (by rw [upM_ne (show (70 : Nat) ≠ 71 by decide)]; exact h70) (fun i hi => by
      by_cases hik : i = k
      · subst hik; exact upM_eq
      · rw [upM_nk hik]; exact h71 i (by omega))
    refine ⟨M', ?_, (eqOff.rf.up (by decide)).tr r2, r3, r4⟩
    refine b23_59_1 (by rw [nI_ltI (by omega) (by omega)]; omega) (inR_nI (by omega) (by omega)) rfl (inR_nI (by omega) (by omega)) ?_
    rw [clampI (by omega), clampI (by omega), upM_ne (show (10 : Nat) ≠ 71 by decide), h10, hup _ hc.1, nI_1]
    exact r1
/-- lead: the way is laid -/
theorem s23 (hO : trOk n up t) (hT : cTr n up t M) {u v : Nat} (hu : u < n) (hv : v < n) : ∃ M', Rm E 23 0 [vr 70, vr 9, vi (nI u), vi (nI v), vn, vn, vn, vn] [] M none M' ∧ eqOff [70, 71] M M' ∧ rtIs (wy up u v) M' ∧ M'.1 70 2 = nI (mt up u v) := by
  obtain ⟨hn1, hn, ho, -⟩ := id hO
  have hup : ∀ i, i < n → M.1 10 i = upI up i := fun i hi => (hT.2.2 i hi).1
  have hdp : ∀ i, i < n → M.1 16 i = nI (dpt up i) := fun i hi => (hT.2.2 i hi).2.2.2.2.2.2
  obtain ⟨r, f, a1, a2, a3, a4, a5, a6, a7⟩ := way_form ho u v hu hv
  obtain ⟨w1, w2, w3⟩ := way_n ho hu hv
  have hm := s46 (E := E) hO hup u v hu hv
  have hlm := dpt_le ho _ w3
  have hlu := dpt_le ho u hu
  have hlv := dpt_le ho v hv
  have hN1 : (upM M 70 2 (nI (mt up u v))).1 16 = M.1 16 := upM_ne (by decide)
  obtain ⟨M', r1, r2, r3, r4⟩ := s23a (E := E) (M := M) hO hup hu hv (r := r) (f := f) (by omega) (by omega) (by omega) (r + 1) 0 (upM (upM M 70 2 (nI (mt up u v))) 70 1 (nI (r + 1 + f))) (nI u) (by omega) (by omega) (fun _ => rfl) (by rw [upM_ne (by decide), upM_ne (by decide)]) upM_eq (fun i hi => by omega)
  refine ⟨M', ?_, ((eqOff.rf.up (by decide)).up (by decide)).tr (r2.wk (by decide)), ⟨?_, by omega, ?_⟩, ?_⟩
  · refine b23_0_0 hm rfl (inR_nI (by omega) (by omega)) (by rw [upM_eq]; exact inR_nI (by omega) (by omega)) (inR_nI (by omega) (by omega)) (by rw [upM_eq]; exact inR_nI (by omega) (by omega)) rfl ?_
    rw [upM_eq, clampI (by omega), clampI (by omega), clampI (by omega), hN1, hdp u hu, hdp v hv, hdp _ w3, pk_sub (by omega), show dpt up u - dpt up (mt up u v) = r by omega, nI_1, nI_add, pk_sub (by omega), show r + 1 + dpt up v - dpt up (mt up u v) = r + 1 + f by omega]
    exact r1
  · rw [r2.2 70 (by decide), upM_eq, a3]
  · intro k p hk
    have hp := w1 p (List.mem_of_getElem? hk)
    have hkl := (List.getElem?_eq_some_iff.mp hk).1
    refine ⟨by omega, ?_⟩
    by_cases hkr : k ≤ r
    · rw [a4 k hkr] at hk
      cases hk
      exact r3 k hkr
    · have := a5 (r + f - k) (by omega)
      rw [show r + f - (r + f - k) = k by omega, hk] at this
      cases this
      have := r4 (r + f - k) (by omega)
      rwa [show r + f - (r + f - k) = k by omega] at this
  · rw [r2.2 70 (by decide), upM_nk (by decide), upM_eq]
def cvL (t : trf) (u : Nat) : List Nat := (List.range (t.1 u)).map (fun k => t.2.2.1 (t.2.1 u + k))
theorem cvL_len (t : trf) (u : Nat) : (cvL t u).length = t.1 u := by unfold cvL; simp
theorem cvL_at {t : trf} {u k : Nat} (h : k < t.1 u) : (cvL t u)[k]? = some (t.2.2.1 (t.2.1 u + k)) := by unfold cvL; rw [List.getElem?_map, List.getElem?_range h]; rfl
theorem cvL_n (hO : trOk n up t) {u : Nat} (hu : u < n) : (∀ x ∈ cvL t u, x < n) ∧ (cvL t u).Nodup ∧ (cvL t u).length ≤ n ∧ 0 < (cvL t u).length := by
  obtain ⟨hn1, hn, ho, h1, h2, h3, -⟩ := hO
  have := h1 u hu
  refine ⟨fun x hx => ?_, ?_, by rw [cvL_len]; omega, by rw [cvL_len]; omega⟩
  · obtain ⟨k, hk, rfl⟩ := List.mem_map.mp hx
    have := List.mem_range.mp hk
    exact h2 _ (by omega)
  · unfold cvL
    refine List.nodup_iff_pairwise_ne.mpr ?_
    rw [List.pairwise_map]
    refine List.Pairwise.imp_of_mem ?_ (List.nodup_iff_pairwise_ne.mp List.nodup_range)
    intro a b ha hb hab z
    have ha := List.mem_range.mp ha
    have hb := List.mem_range.mp hb
    have := h3 _ _ (by omega) (by omega) z
    omega
/-- cover: a post and all below -/
theorem s24 (hO : trOk n up t) (hT : cTr n up t M) {u : Nat} (hu : u < n) : ∃ M', Rm E 24 0 [vr 70, vr 9, vi (nI u), vn] [] M none M' ∧ eqOff [70, 71] M M' ∧ rtIs (cvL t u) M' := by
  obtain ⟨hn1, hn, ho, h1, h2, h3, -⟩ := id hO
  have hu1 := h1 u hu
  have key : ∀ d k (M1 : mem), t.1 u - k = d → k ≤ t.1 u → M1.1 13 = M.1 13 → M1.1 14 = M.1 14 → M1.1 70 1 = nI (t.1 u) → (∀ i, i < k → M1.1 71 i = nI (t.2.2.1 (t.2.1 u + i))) → ∃ M', Rm E 24 17 [vr 70, vr 9, vi (nI u), vi (nI k)] [] M1 none M' ∧ eqOff [71] M1 M' ∧ ∀ i, i < t.1 u → M'.1 71 i = nI (t.2.2.1 (t.2.1 u + i)) := by
    intro d
    induction d with
    | zero =>
      intro k M1 hd hk h13 h14 h70 h71
      obtain rfl : k = t.1 u := by omega
      exact ⟨M1, b24_17_0 (by rw [h70]; exact nI_le (by omega) (by omega)), eqOff.rf, h71⟩
    | succ d ih =>
      intro k M1 hd hk h13 h14 h70 h71
      have hp := (hT.2.2 u hu).2.2.2.1
      have hrw := (hT.2.2 (t.2.1 u + k) (by omega)).2.2.2.2.1
      obtain ⟨M', r1, r2, r3⟩ := ih (k + 1) (upM M1 71 k (nI (t.2.2.1 (t.2.1 u + k)))) (by omega) (by omega) ((upM_ne (by decide)).trans h13) ((upM_ne (by decide)).trans h14) (by rw [upM_ne (show (70 : Nat) ≠ 71 by decide)]; exact h70) (fun i hi => by
        by_cases hik : i = k
        · subst hik; exact upM_eq
        · rw [upM_nk hik]; exact h71 i (by omega))
      refine ⟨M', ?_, (eqOff.rf.up (by decide)).tr r2, r3⟩
      refine b24_17_1 (by rw [h70, nI_leI (by omega) (by omega)]; omega) (inR_nI (by omega) (by omega)) (by rw [clampI (by omega), h13, hp, nI_add]; exact inR_nI (by omega) (by omega)) (inR_nI (by omega) (by omega)) rfl ?_
      rw [clampI (by omega), clampI (by omega), h13, hp, nI_add, clampI (by omega), h14, hrw, nI_1]
      exact r1
  have hsz := (hT.2.2 u hu).2.2.1
  obtain ⟨M', r1, r2, r3⟩ := key (t.1 u) 0 (upM (upM M 70 2 (nI u)) 70 1 (nI (t.1 u))) (by omega) (by omega) (by rw [upM_ne (by decide), upM_ne (by decide)]) (by rw [upM_ne (by decide), upM_ne (by decide)]) upM_eq (fun i hi => by omega)
  refine ⟨M', ?_, ((eqOff.rf.up (by decide)).up (by decide)).tr (r2.wk (by decide)), ⟨?_, by rw [cvL_len]; omega, ?_⟩⟩
  · refine b24_0_0 rfl (inR_nI (by omega) (by omega)) rfl ?_
    rw [clampI (by omega), upM_ne (show (12 : Nat) ≠ 70 by decide), hsz]
    exact r1
  · rw [r2.2 70 (by decide), upM_eq, cvL_len]
  · intro k p hk
    have hkl := (List.getElem?_eq_some_iff.mp hk).1
    rw [cvL_len] at hkl
    rw [cvL_at hkl] at hk
    cases hk
    exact ⟨by have := h2 (t.2.1 u + k) (by omega); omega, r3 k hkl⟩
end LEAD
