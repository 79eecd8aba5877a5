/-! the model's rows of what can be undone, of what is kept -/
def mSh (fld row cap : Nat) (pa : List accs) (M : mem) : Prop := M.1 83 fld = nI pa.length ∧ pa.length ≤ cap ∧ ∀ j a, pa[j]? = some a → roAt row (90 * (pa.length - 1 - j)) a M
theorem roAt.mk {x y o p : Nat} {a : accs} {M N : mem} (h : roAt x o a M) (e : ∀ i, i < 90 → N.1 y (p + i) = M.1 x (o + i)) : roAt y p a N := by
  intro i hi
  obtain ⟨h1, h2, h3⟩ := h i hi
  refine ⟨by rw [e i (by omega)]; exact h1, ?_, ?_⟩
  · rw [Nat.add_assoc, e (30 + i) (by omega), ← Nat.add_assoc]; exact h2
  · rw [Nat.add_assoc, e (60 + i) (by omega), ← Nat.add_assoc]; exact h3
theorem mSh.cg {fld row cap : Nat} {pa : List accs} {M N : mem} (h : mSh fld row cap pa M) (h1 : N.1 83 fld = M.1 83 fld) (h2 : N.1 row = M.1 row) : mSh fld row cap pa N := by
  obtain ⟨e1, e2, e3⟩ := h
  exact ⟨by rw [h1]; exact e1, e2, fun j a hj => (e3 j a hj).mk (fun i _ => by rw [h2])⟩
theorem mSh.nil {fld row cap : Nat} {N : mem} (h1 : N.1 83 fld = 0) : mSh fld row cap [] N := ⟨h1, by simp, fun j a hj => by simp at hj⟩
section MSHELF
variable {E : env} {M : mem} {pa : List accs} {a : accs}
theorem n48 {u : Nat} (hu : u < 8) : ∀ d k (M1 : mem), 90 - k = d → k ≤ 90 → M1.1 83 17 = nI u → ∃ M', Rm E 117 48 [vr 83, vi (nI k)] [] M1 none M' ∧ eqM [94] [17] M1 M' ∧ M'.1 83 17 = nI (u + 1) ∧ (∀ i, k ≤ i → i < 90 → M'.1 94 (90 * u + i) = M1.1 84 i) ∧ ∀ p, p < 90 * u + k → M'.1 94 p = M1.1 94 p := by
  intro d
  induction d with
  | zero =>
    intro k M1 hd hk h17
    obtain rfl : k = 90 := by omega
    refine ⟨_, b117_48_0 (by decide) rfl, eqM.rf.fl (by decide), by rw [upM_eq, h17, nI_1], fun i h1 h2 => by omega, fun p _ => by rw [upM_ne (by decide)]⟩
  | succ d ih =>
    intro k M1 hd hk h17
    have e : 90 * M1.1 83 17 + nI k = nI (90 * u + k) := by rw [h17, show (90 : Int32) = nI 90 from rfl, pk_mul, nI_add]
    obtain ⟨M', r1, r2, r3, r4, r5⟩ := ih (k + 1) (upM M1 94 (90 * u + k) (M1.1 84 k)) (by omega) (by omega) (by rw [upM_ne (by decide)]; exact h17)
    refine ⟨M', ?_, (eqM.rf.up (by decide) (by decide)).tr r2, r3, fun i h1 h2 => ?_, fun p hp => ?_⟩
    · refine b117_48_1 (by rw [show (90 : Int32) = nI 90 from rfl, nI_leI (by omega) (by omega)]; omega) (inR_nI (by omega) (by omega)) (by rw [e]; exact inR_nI (by omega) (by omega)) rfl ?_
      rw [e, clampI (by omega), clampI (by omega), nI_1]
      exact r1
    · by_cases hi : i = k
      · subst hi
        rw [r5 _ (by omega), upM_eq]
      · rw [r4 i (by omega) h2, upM_ne (by decide)]
    · rw [r5 p (by omega), upM_nk (by omega)]
theorem n12 {g : Nat → Int32} : ∀ d k (M1 : mem), 720 - k = d → 90 ≤ k → k ≤ 720 → (∀ p, p < k - 90 → M1.1 94 p = g (p + 90)) → (∀ p, k - 90 ≤ p → M1.1 94 p = g p) → ∃ M', Rm E 117 12 [vr 83, vi (nI k)] [] M1 none M' ∧ eqM [94] [17] M1 M' ∧ M'.1 83 17 = nI 8 ∧ (∀ i, i < 90 → M'.1 94 (630 + i) = M1.1 84 i) ∧ ∀ p, p < 630 → M'.1 94 p = g (p + 90) := by
  intro d
  induction d with
  | zero =>
    intro k M1 hd hk1 hk h1 h2
    obtain rfl : k = 720 := by omega
    obtain ⟨M', r1, r2, r3, r4, r5⟩ := n48 (E := E) (u := 7) (by omega) 90 0 (upM M1 83 17 (nI 7)) rfl (by omega) upM_eq
    refine ⟨M', b117_12_0 (by decide) rfl r1, (eqM.rf.fl (by decide)).tr r2, r3, fun i hi => ?_, fun p hp => ?_⟩
    · have := r4 i (by omega) hi
      rw [upM_ne (by decide)] at this
      exact this
    · rw [r5 p (by omega), upM_ne (by decide), h1 p (by omega)]
  | succ d ih =>
    intro k M1 hd hk1 hk h1 h2
    have e : nI k - 90 = nI (k - 90) := pk_sub hk1
    obtain ⟨M', r1, r2, r3, r4, r5⟩ := ih (k + 1) (upM M1 94 (k - 90) (M1.1 94 k)) (by omega) (by omega) (by omega) (fun p hp => by
      by_cases hpk : p = k - 90
      · subst hpk
        rw [upM_eq, h2 k (by omega)]
        congr 1
        omega
      · rw [upM_nk hpk, h1 p (by omega)]) (fun p hp => by rw [upM_nk (by omega), h2 p (by omega)])
    refine ⟨M', ?_, (eqM.rf.up (by decide) (by decide)).tr r2, r3, fun i hi => ?_, r5⟩
    · refine b117_12_1 (by rw [show (720 : Int32) = nI 720 from rfl, nI_leI (by omega) (by omega)]; omega) (inR_nI (by omega) (by omega)) (by rw [e]; exact inR_nI (by omega) (by omega)) rfl ?_
      rw [e, clampI (by omega), clampI (by omega), nI_1]
      exact r1
    · rw [r4 i hi, upM_ne (by decide)]
/-- notes -/
theorem s117 (hp : mSh 17 94 8 pa M) (ha : roAt 84 0 a M) : ∃ M', Rm E 117 0 [vr 83, vn] [] M none M' ∧ eqM [94] [17] M M' ∧ mSh 17 94 8 ((a :: pa).take 8) M' := by
  obtain ⟨e1, e2, e3⟩ := hp
  by_cases h8 : pa.length = 8
  · obtain ⟨M', r1, r2, r3, r4, r5⟩ := n12 (E := E) (g := M.1 94) 630 90 M rfl (by omega) (by omega) (fun p hp => by omega) (fun p _ => rfl)
    refine ⟨M', b117_0_1 (fun z => z (by rw [e1, h8]; rfl)) r1, r2, ?_⟩
    have hlen : ((a :: pa).take 8).length = 8 := by rw [List.length_take, List.length_cons]; omega
    refine ⟨by rw [r3, hlen], by omega, fun j b hj => ?_⟩
    rw [hlen]
    rw [List.getElem?_take] at hj
    split at hj
    · rename_i hj8
      cases j with
      | zero =>
        simp at hj
        subst hj
        exact ha.mk (fun i hi => by rw [show 90 * (8 - 1 - 0) = 630 from rfl, r4 i hi, Nat.zero_add])
      | succ j =>
        rw [List.getElem?_cons_succ] at hj
        refine (e3 j b hj).mk (fun i hi => ?_)
        rw [r5 _ (by omega), h8]
        exact congrArg (M.1 94) (by omega)
    · cases hj
  · obtain ⟨M', r1, r2, r3, r4, r5⟩ := n48 (E := E) (u := pa.length) (by omega) 90 0 M rfl (by omega) e1
    refine ⟨M', b117_0_0 (by rw [e1, show (8 : Int32) = nI 8 from rfl, nI_eq (by omega) (by omega)]; exact h8) r1, r2, ?_⟩
    have htk : (a :: pa).take 8 = a :: pa := List.take_of_length_le (by rw [List.length_cons]; omega)
    rw [htk]
    refine ⟨by rw [r3, List.length_cons], by rw [List.length_cons]; omega, fun j b hj => ?_⟩
    rw [List.length_cons]
    cases j with
    | zero =>
      simp at hj
      subst hj
      refine ha.mk (fun i hi => ?_)
      rw [show 90 * (pa.length + 1 - 1 - 0) = 90 * pa.length by omega, r4 i (by omega) hi, Nat.zero_add]
    | succ j =>
      rw [List.getElem?_cons_succ] at hj
      have hjl : j < pa.length := (List.getElem?_eq_some_iff.mp hj).1
      refine (e3 j b hj).mk (fun i hi => ?_)
      rw [show 90 * (pa.length + 1 - 1 - (j + 1)) = 90 * (pa.length - 1 - j) by omega, r5 _ (by omega)]
theorem n127 {u : Nat} (hu : u < 8) : ∀ d k (M1 : mem), 90 - k = d → k ≤ 90 → M1.1 83 17 = nI u → ∃ M', Rm E 127 22 [vr 83, vi (nI k)] [] M1 (some (.int (nI u))) M' ∧ eqM [84] [] M1 M' ∧ (∀ i, k ≤ i → i < 90 → M'.1 84 i = M1.1 94 (90 * u + i)) ∧ ∀ p, p < k → M'.1 84 p = M1.1 84 p := by
  intro d
  induction d with
  | zero =>
    intro k M1 hd hk h17
    obtain rfl : k = 90 := by omega
    refine ⟨M1, ?_, eqM.rf, fun i h1 h2 => by omega, fun p _ => rfl⟩
    rw [← h17]
    exact b127_22_0 (by decide)
  | succ d ih =>
    intro k M1 hd hk h17
    have e : 90 * M1.1 83 17 + nI k = nI (90 * u + k) := by rw [h17, show (90 : Int32) = nI 90 from rfl, pk_mul, nI_add]
    obtain ⟨M', r1, r2, r4, r5⟩ := ih (k + 1) (upM M1 84 k (M1.1 94 (90 * u + k))) (by omega) (by omega) (by rw [upM_ne (by decide)]; exact h17)
    refine ⟨M', ?_, (eqM.rf.up (by decide) (by decide)).tr r2, fun i h1 h2 => ?_, fun p hp => ?_⟩
    · refine b127_22_1 (by rw [show (90 : Int32) = nI 90 from rfl, nI_leI (by omega) (by omega)]; omega) (by rw [e]; exact inR_nI (by omega) (by omega)) (inR_nI (by omega) (by omega)) rfl ?_
      rw [e, clampI (by omega), clampI (by omega), nI_1]
      exact r1
    · by_cases hi : i = k
      · subst hi
        rw [r5 _ (by omega), upM_eq]
      · rw [r4 i (by omega) h2, upM_ne (by decide)]
    · rw [r5 p (by omega), upM_nk (by omega)]
/-- undo -/
theorem s127 (hp : mSh 17 94 8 (a :: pa) M) : ∃ M', Rm E 127 0 [vr 83, vn] [] M (some (.int (nI pa.length))) M' ∧ eqM [84] [17] M M' ∧ mSh 17 94 8 pa M' ∧ roAt 84 0 a M' := by
  obtain ⟨e1, e2, e3⟩ := hp
  rw [List.length_cons] at e1 e2 e3
  obtain ⟨M', r1, r2, r4, r5⟩ := n127 (E := E) (u := pa.length) (by omega) 90 0 (upM M 83 17 (nI pa.length)) rfl (by omega) upM_eq
  refine ⟨M', b127_0_0 (by rw [e1, show (0 : Int32) = nI 0 from rfl, nI_eq (by omega) (by omega)]; omega) (by rw [e1, nI_pred]) r1, (eqM.rf.fl (by decide)).tr (r2.wk (by decide) (by decide)), ⟨?_, by omega, fun j b hj => ?_⟩, ?_⟩
  · rw [r2.2.2 17 (by decide), upM_eq]
  · have := e3 (j + 1) b (by rw [List.getElem?_cons_succ]; exact hj)
    refine this.mk (fun i hi => ?_)
    rw [r2.off (by decide) (by decide), upM_ne (by decide)]
    exact congrArg (M.1 _) (by omega)
  · refine (e3 0 a rfl).mk (fun i hi => ?_)
    rw [Nat.zero_add, r4 i (by omega) hi, upM_ne (by decide)]
    exact congrArg (M.1 _) (by omega)
theorem s127n (hp : mSh 17 94 8 [] M) : Rm E 127 0 [vr 83, vn] [] M (some (.int (-2))) M := b127_0_1 (fun z => z hp.1)
theorem n141 {u : Nat} (hu : u < 2) : ∀ d k (M1 : mem), 90 - k = d → k ≤ 90 → M1.1 83 24 = nI u → ∃ M', Rm E 141 13 [vr 83, vi (nI k)] [] M1 (some (.int (nI (u + 1)))) M' ∧ eqM [97] [24] M1 M' ∧ M'.1 83 24 = nI (u + 1) ∧ (∀ i, k ≤ i → i < 90 → M'.1 97 (90 * u + i) = M1.1 84 i) ∧ ∀ p, p < 90 * u + k → M'.1 97 p = M1.1 97 p := by
  intro d
  induction d with
  | zero =>
    intro k M1 hd hk h17
    obtain rfl : k = 90 := by omega
    have e : (upM M1 83 24 (M1.1 83 24 + 1)).1 83 24 = nI (u + 1) := by rw [upM_eq, h17, nI_1]
    refine ⟨upM M1 83 24 (M1.1 83 24 + 1), ?_, eqM.rf.fl (by decide), e, fun i h1 h2 => by omega, fun p _ => by rw [upM_ne (by decide)]⟩
    rw [← e]
    exact b141_13_0 (by decide) rfl
  | succ d ih =>
    intro k M1 hd hk h17
    have e : 90 * M1.1 83 24 + nI k = nI (90 * u + k) := by rw [h17, show (90 : Int32) = nI 90 from rfl, pk_mul, nI_add]
    obtain ⟨M', r1, r2, r3, r4, r5⟩ := ih (k + 1) (upM M1 97 (90 * u + k) (M1.1 84 k)) (by omega) (by omega) (by rw [upM_ne (by decide)]; exact h17)
    refine ⟨M', ?_, (eqM.rf.up (by decide) (by decide)).tr r2, r3, fun i h1 h2 => ?_, fun p hp => ?_⟩
    · refine b141_13_1 (by rw [show (90 : Int32) = nI 90 from rfl, nI_leI (by omega) (by omega)]; omega) (inR_nI (by omega) (by omega)) (by rw [e]; exact inR_nI (by omega) (by omega)) rfl ?_
      rw [e, clampI (by omega), clampI (by omega), nI_1]
      exact r1
    · by_cases hi : i = k
      · subst hi
        rw [r5 _ (by omega), upM_eq]
      · rw [r4 i (by omega) h2, upM_ne (by decide)]
    · rw [r5 p (by omega), upM_nk (by omega)]
/-- keep -/
theorem s141 (hp : mSh 24 97 2 pa M) (h2 : pa.length < 2) (ha : roAt 84 0 a M) : ∃ M', Rm E 141 0 [vr 83, vn] [] M (some (.int (nI (pa.length + 1)))) M' ∧ eqM [97] [24] M M' ∧ mSh 24 97 2 (a :: pa) M' := by
  obtain ⟨e1, e2, e3⟩ := hp
  obtain ⟨M', r1, r2, r3, r4, r5⟩ := n141 (E := E) (u := pa.length) h2 90 0 M rfl (by omega) e1
  refine ⟨M', b141_0_0 (by rw [e1, show (2 : Int32) = nI 2 from rfl, nI_eq (by omega) (by omega)]; omega) r1, r2, ?_⟩
  refine ⟨by rw [r3, List.length_cons], by rw [List.length_cons]; omega, fun j b hj => ?_⟩
  rw [List.length_cons]
  cases j with
  | zero =>
    simp at hj
    subst hj
    refine ha.mk (fun i hi => ?_)
    rw [show 90 * (pa.length + 1 - 1 - 0) = 90 * pa.length by omega, r4 i (by omega) hi, Nat.zero_add]
  | succ j =>
    rw [List.getElem?_cons_succ] at hj
    have hjl : j < pa.length := (List.getElem?_eq_some_iff.mp hj).1
    refine (e3 j b hj).mk (fun i hi => ?_)
    rw [show 90 * (pa.length + 1 - 1 - (j + 1)) = 90 * (pa.length - 1 - j) by omega, r5 _ (by omega)]
theorem s141f (hp : mSh 24 97 2 pa M) (h2 : pa.length = 2) : Rm E 141 0 [vr 83, vn] [] M (some (.int (-3))) M := b141_0_1 (fun z => z (by rw [hp.1, h2]; rfl))
theorem n142 {u : Nat} (hu : u < 2) : ∀ d k (M1 : mem), 90 - k = d → k ≤ 90 → M1.1 83 24 = nI u → ∃ M', Rm E 142 22 [vr 83, vi (nI k)] [] M1 (some (.int (nI u))) M' ∧ eqM [84] [17] M1 M' ∧ M'.1 83 17 = 0 ∧ (∀ i, k ≤ i → i < 90 → M'.1 84 i = M1.1 97 (90 * u + i)) ∧ ∀ p, p < k → M'.1 84 p = M1.1 84 p := by
  intro d
  induction d with
  | zero =>
    intro k M1 hd hk h17
    obtain rfl : k = 90 := by omega
    refine ⟨upM M1 83 17 0, ?_, eqM.rf.fl (by decide), upM_eq, fun i h1 h2 => by omega, fun p _ => by rw [upM_ne (by decide)]⟩
    have e : (upM M1 83 17 0).1 83 24 = nI u := by rw [upM_nk (by decide), h17]
    rw [← e]
    exact b142_22_0 (by decide) rfl
  | succ d ih =>
    intro k M1 hd hk h17
    have e : 90 * M1.1 83 24 + nI k = nI (90 * u + k) := by rw [h17, show (90 : Int32) = nI 90 from rfl, pk_mul, nI_add]
    obtain ⟨M', r1, r2, r3, r4, r5⟩ := ih (k + 1) (upM M1 84 k (M1.1 97 (90 * u + k))) (by omega) (by omega) (by rw [upM_ne (by decide)]; exact h17)
    refine ⟨M', ?_, (eqM.rf.up (by decide) (by decide)).tr r2, r3, fun i h1 h2 => ?_, fun p hp => ?_⟩
    · refine b142_22_1 (by rw [show (90 : Int32) = nI 90 from rfl, nI_leI (by omega) (by omega)]; omega) (by rw [e]; exact inR_nI (by omega) (by omega)) (inR_nI (by omega) (by omega)) rfl ?_
      rw [e, clampI (by omega), clampI (by omega), nI_1]
      exact r1
    · by_cases hi : i = k
      · subst hi
        rw [r5 _ (by omega), upM_eq]
      · rw [r4 i (by omega) h2, upM_ne (by decide)]
    · rw [r5 p (by omega), upM_nk (by omega)]
/-- back -/
theorem s142 (hp : mSh 24 97 2 (a :: pa) M) : ∃ M', Rm E 142 0 [vr 83, vn] [] M (some (.int (nI pa.length))) M' ∧ eqM [84] [17, 24] M M' ∧ M'.1 83 17 = 0 ∧ mSh 24 97 2 pa M' ∧ roAt 84 0 a M' := by
  obtain ⟨e1, e2, e3⟩ := hp
  rw [List.length_cons] at e1 e2 e3
  obtain ⟨M', r1, r2, r3, r4, r5⟩ := n142 (E := E) (u := pa.length) (by omega) 90 0 (upM M 83 24 (nI pa.length)) rfl (by omega) upM_eq
  refine ⟨M', b142_0_0 (by rw [e1, show (0 : Int32) = nI 0 from rfl, nI_eq (by omega) (by omega)]; omega) (by rw [e1, nI_pred]) r1, (eqM.rf.fl (by decide)).tr (r2.wk (by decide) (by decide)), r3, ⟨?_, by omega, fun j b hj => ?_⟩, ?_⟩
  · rw [r2.2.2 24 (by decide), upM_eq]
  · have := e3 (j + 1) b (by rw [List.getElem?_cons_succ]; exact hj)
    refine this.mk (fun i hi => ?_)
    rw [r2.off (by decide) (by decide), upM_ne (by decide)]
    exact congrArg (M.1 _) (by omega)
  · refine (e3 0 a rfl).mk (fun i hi => ?_)
    rw [Nat.zero_add, r4 i (by omega) hi, upM_ne (by decide)]
    exact congrArg (M.1 _) (by omega)
theorem s142n (hp : mSh 24 97 2 [] M) : Rm E 142 0 [vr 83, vn] [] M (some (.int (-2))) M := b142_0_1 (fun z => z hp.1)
end MSHELF
