/-! the row, from who is above whom alone -/
def setN (f : Nat → Nat) (p v : Nat) : Nat → Nat := fun j => if j = p then v else f j
theorem setN_eq {f : Nat → Nat} {p v : Nat} : setN f p v p = v := if_pos rfl
theorem setN_ne {f : Nat → Nat} {p v i : Nat} (h : i ≠ p) : setN f p v i = f i := if_neg h
/-- sizes, the d highest posts told -/
def szL (n : Nat) (up : Nat → Nat) : Nat → Nat → Nat
  | 0 => fun _ => 1
  | d + 1 => setN (szL n up d) (up (n - 1 - d)) (szL n up d (up (n - 1 - d)) + szL n up d (n - 1 - d))
def szT (n : Nat) (up : Nat → Nat) : Nat → Nat := szL n up (n - 1)
/-- of those below u with a number under i, all sizes -/
def ctS (S : Nat → Nat) (up : Nat → Nat) (u : Nat) : Nat → Nat
  | 0 => 0
  | i + 1 => ctS S up u i + (if 1 ≤ i ∧ up i = u then S i else 0)
theorem ctS_s (S : Nat → Nat) (up : Nat → Nat) (u i : Nat) : ctS S up u (i + 1) = ctS S up u i + (if 1 ≤ i ∧ up i = u then S i else 0) := rfl
def smN (f : Nat → Nat) : Nat → Nat
  | 0 => 0
  | i + 1 => smN f i + f i
theorem smN_cg {f g : Nat → Nat} : ∀ j, (∀ i, i < j → f i = g i) → smN f j = smN g j
  | 0, _ => rfl
  | j + 1, h => by
    unfold smN
    rw [smN_cg j (fun i hi => h i (by omega)), h j (by omega)]
theorem smN_set {f : Nat → Nat} {p v : Nat} : ∀ j, p < j → smN (setN f p (f p + v)) j = smN f j + v
  | 0, h => by omega
  | j + 1, h => by
    unfold smN
    by_cases hp : p = j
    · subst hp
      rw [setN_eq, smN_cg (f := setN f p (f p + v)) (g := f) p (fun i hi => setN_ne (by omega))]
      omega
    · rw [setN_ne (fun z => hp z.symm), smN_set j (by omega)]
      omega
section TREE
variable {n : Nat} {up : Nat → Nat}
theorem szL_fin (hU : upOk n up) : ∀ e d x, d + e = n - 1 → n - 1 - d ≤ x → szT n up x = szL n up d x
  | 0, d, x, h, hx => by unfold szT; rw [show n - 1 = d by omega]
  | e + 1, d, x, h, hx => by
    rw [szL_fin hU e (d + 1) x (by omega) (by omega)]
    have := hU (n - 1 - d) (by omega) (by omega)
    exact setN_ne (by omega)
theorem szL_sum (hU : upOk n up) : ∀ d, d ≤ n - 1 → ∀ x, szL n up d x + ctS (szT n up) up x (n - d) = 1 + ctS (szT n up) up x n
  | 0, h, x => rfl
  | d + 1, h, x => by
    have ih := szL_sum hU d (by omega) x
    have hi : n - d = (n - 1 - d) + 1 := by omega
    rw [hi, ctS_s] at ih
    rw [show n - (d + 1) = n - 1 - d by omega]
    have hf := szL_fin hU (n - 1 - d) d (n - 1 - d) (by omega) (Nat.le_refl _)
    unfold szL
    by_cases hx : x = up (n - 1 - d)
    · subst hx
      rw [setN_eq]
      rw [if_pos ⟨by omega, rfl⟩, hf] at ih
      omega
    · rw [setN_ne hx]
      rw [if_neg (fun z => hx z.2.symm)] at ih
      omega
theorem ctS_1 (S : Nat → Nat) (up : Nat → Nat) (u : Nat) : ctS S up u 1 = 0 := by
  show 0 + (if 1 ≤ 0 ∧ up 0 = u then S 0 else 0) = 0
  rw [if_neg (by omega)]
theorem szT_eq (hU : upOk n up) (hn : 1 ≤ n) (x : Nat) : szT n up x = 1 + ctS (szT n up) up x n := by
  have h := szL_sum hU (n - 1) (Nat.le_refl _) x
  rw [show n - (n - 1) = 1 by omega, ctS_1] at h
  exact h
theorem szL_tot (hU : upOk n up) : ∀ d, d ≤ n - 1 → smN (szL n up d) (n - d) = n
  | 0, h => by
    have : ∀ j, smN (fun _ => 1) j = j := by
      intro j
      induction j with
      | zero => rfl
      | succ j ih => unfold smN; rw [ih]
    exact this n
  | d + 1, h => by
    have ih := szL_tot hU d (by omega)
    rw [show n - d = (n - 1 - d) + 1 by omega] at ih
    unfold smN at ih
    have hu := hU (n - 1 - d) (by omega) (by omega)
    rw [show n - (d + 1) = n - 1 - d by omega]
    unfold szL
    rw [smN_set _ hu]
    exact ih
theorem szT_0 (hU : upOk n up) (hn : 1 ≤ n) : szT n up 0 = n := by
  have h := szL_tot hU (n - 1) (Nat.le_refl _)
  rw [show n - (n - 1) = 0 + 1 by omega] at h
  unfold smN smN at h
  unfold szT
  omega
theorem szT_pos (hU : upOk n up) (hn : 1 ≤ n) (x : Nat) : 0 < szT n up x := by rw [szT_eq hU hn]; omega
end TREE
/-! the heavy one -/
def hvU (S : Nat → Nat) (up : Nat → Nat) (u : Nat) : Nat → Option Nat
  | 0 => none
  | i + 1 => if 1 ≤ i ∧ up i = u then (match hvU S up u i with | none => some i | some c => if S c < S i then some i else some c) else hvU S up u i
def isHv (S : Nat → Nat) (up : Nat → Nat) (u lo hi : Nat) (r : Option Nat) : Prop := match r with
  | none => ∀ i, lo ≤ i → i < hi → up i ≠ u
  | some c => lo ≤ c ∧ c < hi ∧ up c = u ∧ ∀ i, lo ≤ i → i < hi → up i = u → S i ≤ S c ∧ (i < c → S i < S c)
theorem isHv_un {S : Nat → Nat} {up : Nat → Nat} {u lo hi : Nat} {r q : Option Nat} (h : isHv S up u lo hi r) (g : isHv S up u lo hi q) : r = q := by
  cases r with
  | none => cases q with
    | none => rfl
    | some d => exact absurd g.2.2.1 (h d g.1 g.2.1)
  | some c => cases q with
    | none => exact absurd h.2.2.1 (g c h.1 h.2.1)
    | some d =>
      obtain ⟨h1, h2, h3, h4⟩ := h
      obtain ⟨g1, g2, g3, g4⟩ := g
      have a := h4 d g1 g2 g3
      have b := g4 c h1 h2 h3
      have : c = d := by
        rcases Nat.lt_trichotomy c d with z | z | z
        · have := b.2 z; omega
        · exact z
        · have := a.2 z; omega
      rw [this]
theorem hvU_is (S : Nat → Nat) (up : Nat → Nat) (u : Nat) : ∀ i, isHv S up u 1 i (hvU S up u i)
  | 0 => fun i h1 h2 => by omega
  | i + 1 => by
    have ih := hvU_is S up u i
    unfold hvU
    by_cases hc : 1 ≤ i ∧ up i = u
    · rw [if_pos hc]
      cases hr : hvU S up u i with
      | none =>
        rw [hr] at ih
        refine ⟨hc.1, by omega, hc.2, fun k h1 h2 h3 => ?_⟩
        rcases Nat.lt_or_ge k i with z | z
        · exact absurd h3 (ih k h1 z)
        · obtain rfl : k = i := by omega
          exact ⟨Nat.le_refl _, fun z => by omega⟩
      | some c =>
        rw [hr] at ih
        obtain ⟨g1, g2, g3, g4⟩ := ih
        dsimp only
        by_cases hl : S c < S i
        · rw [if_pos hl]
          refine ⟨hc.1, by omega, hc.2, fun k h1 h2 h3 => ?_⟩
          rcases Nat.lt_or_ge k i with z | z
          · have := (g4 k h1 z h3).1
            exact ⟨by omega, fun _ => by omega⟩
          · obtain rfl : k = i := by omega
            exact ⟨Nat.le_refl _, fun z => by omega⟩
        · rw [if_neg hl]
          refine ⟨g1, by omega, g3, fun k h1 h2 h3 => ?_⟩
          rcases Nat.lt_or_ge k i with z | z
          · exact g4 k h1 z h3
          · obtain rfl : k = i := by omega
            exact ⟨by omega, fun z => by omega⟩
    · rw [if_neg hc]
      cases hr : hvU S up u i with
      | none =>
        rw [hr] at ih
        intro k h1 h2
        rcases Nat.lt_or_ge k i with z | z
        · exact ih k h1 z
        · obtain rfl : k = i := by omega
          exact fun z => hc ⟨h1, z⟩
      | some c =>
        rw [hr] at ih
        obtain ⟨g1, g2, g3, g4⟩ := ih
        refine ⟨g1, by omega, g3, fun k h1 h2 h3 => ?_⟩
        rcases Nat.lt_or_ge k i with z | z
        · exact g4 k h1 z h3
        · obtain rfl : k = i := by omega
          exact absurd ⟨h1, h3⟩ hc
def hvT (n : Nat) (up : Nat → Nat) (u : Nat) : Option Nat := hvU (szT n up) up u n
/-- the size of the heavy one -/
def hsT (n : Nat) (up : Nat → Nat) (u : Nat) : Nat := match hvT n up u with | none => 0 | some c => szT n up c
/-- of those below u with a number under i, but the heavy one, all sizes -/
def smT (n : Nat) (up : Nat → Nat) (u : Nat) : Nat → Nat
  | 0 => 0
  | i + 1 => smT n up u i + (if (1 ≤ i ∧ up i = u) ∧ hvT n up u ≠ some i then szT n up i else 0)
def plT (n : Nat) (up : Nat → Nat) (i : Nat) : Nat := if i = 0 then 0 else
  plT n up (min (up i) (i - 1)) + 1 + (if hvT n up (up i) = some i then 0 else hsT n up (up i) + smT n up (up i) i)
termination_by i
decreasing_by omega
def hdT (n : Nat) (up : Nat → Nat) (i : Nat) : Nat := if i = 0 then 0 else if hvT n up (up i) = some i then hdT n up (min (up i) (i - 1)) else i
termination_by i
decreasing_by omega
def rwT (n : Nat) (up : Nat → Nat) (p : Nat) : Nat := ((List.range n).find? (fun i => plT n up i == p)).getD 0
section PLACE
variable {n : Nat} {up : Nat → Nat}
theorem plT_0 : plT n up 0 = 0 := by rw [plT]; simp
theorem plT_s {i : Nat} (h0 : 0 < i) (hu : up i < i) : plT n up i = plT n up (up i) + 1 + (if hvT n up (up i) = some i then 0 else hsT n up (up i) + smT n up (up i) i) := by
  rw [plT, if_neg (by omega), show min (up i) (i - 1) = up i by omega]
theorem hdT_0 : hdT n up 0 = 0 := by rw [hdT]; simp
theorem hdT_s {i : Nat} (h0 : 0 < i) (hu : up i < i) : hdT n up i = if hvT n up (up i) = some i then hdT n up (up i) else i := by
  rw [hdT, if_neg (by omega), show min (up i) (i - 1) = up i by omega]
theorem hdT_le (hU : upOk n up) : ∀ i, i < n → hdT n up i ≤ i := by
  intro i
  induction i using Nat.strongRecOn with
  | ind i ih =>
    intro hi
    rcases Nat.eq_zero_or_pos i with rfl | h0
    · rw [hdT_0]; exact Nat.le_refl _
    · have hu := hU i h0 hi
      rw [hdT_s h0 hu]
      split
      · have := ih (up i) hu (by omega)
        omega
      · exact Nat.le_refl _
theorem hvT_is (u : Nat) : isHv (szT n up) up u 1 n (hvT n up u) := hvU_is _ _ _ _
theorem smT_s (n : Nat) (up : Nat → Nat) (u i : Nat) : smT n up u (i + 1) = smT n up u i + (if (1 ≤ i ∧ up i = u) ∧ hvT n up u ≠ some i then szT n up i else 0) := rfl
theorem smT_step {u i : Nat} (hc : 1 ≤ i ∧ up i = u) (hh : hvT n up u ≠ some i) : smT n up u (i + 1) = smT n up u i + szT n up i := by
  show _ + (if _ then _ else _) = _
  rw [if_pos ⟨hc, hh⟩]
theorem smT_mono {u : Nat} {i : Nat} : ∀ d, smT n up u i ≤ smT n up u (i + d)
  | 0 => Nat.le_refl _
  | d + 1 => Nat.le_trans (smT_mono d) (Nat.le_add_right _ _)
theorem smT_le {u i j : Nat} (h : i ≤ j) : smT n up u i ≤ smT n up u j := by
  have := smT_mono (n := n) (up := up) (u := u) (i := i) (j - i)
  rwa [show i + (j - i) = j by omega] at this
theorem ct_sm {u c : Nat} (hh : hvT n up u = some c) (hc1 : 1 ≤ c) (hcu : up c = u) : ∀ i, ctS (szT n up) up u i = smT n up u i + (if c < i then szT n up c else 0)
  | 0 => rfl
  | i + 1 => by
    have ih := ct_sm hh hc1 hcu i
    rw [ctS_s, smT_s, ih]
    by_cases hci : c = i
    · subst hci
      have a1 : (if 1 ≤ c ∧ up c = u then szT n up c else 0) = szT n up c := if_pos ⟨hc1, hcu⟩
      have a2 : (if c < c then szT n up c else 0) = 0 := if_neg (Nat.lt_irrefl _)
      have a3 : (if c < c + 1 then szT n up c else 0) = szT n up c := if_pos (Nat.lt_succ_self _)
      have a4 : (if (1 ≤ c ∧ up c = u) ∧ hvT n up u ≠ some c then szT n up c else 0) = 0 := if_neg (fun z => z.2 hh)
      rw [a1, a2, a3, a4]
    · have e : (if c < i + 1 then szT n up c else 0) = if c < i then szT n up c else 0 := by
        by_cases h : c < i
        · rw [if_pos h, if_pos (by omega)]
        · rw [if_neg h, if_neg (by omega)]
      rw [e]
      by_cases hk : 1 ≤ i ∧ up i = u
      · have a1 : (if 1 ≤ i ∧ up i = u then szT n up i else 0) = szT n up i := if_pos hk
        have a4 : (if (1 ≤ i ∧ up i = u) ∧ hvT n up u ≠ some i then szT n up i else 0) = szT n up i := if_pos ⟨hk, fun z => hci (Option.some.inj (hh.symm.trans z))⟩
        rw [a1, a4]
        omega
      · have a1 : (if 1 ≤ i ∧ up i = u then szT n up i else 0) = 0 := if_neg hk
        have a4 : (if (1 ≤ i ∧ up i = u) ∧ hvT n up u ≠ some i then szT n up i else 0) = 0 := if_neg (fun z => hk z.1)
        rw [a1, a4]
        omega
theorem sz_form (hU : upOk n up) (hn : 1 ≤ n) {u c : Nat} (hh : hvT n up u = some c) : szT n up u = 1 + szT n up c + smT n up u n ∧ 1 ≤ c ∧ c < n ∧ up c = u := by
  have h := hvT_is (n := n) (up := up) u
  rw [hh] at h
  obtain ⟨h1, h2, h3, -⟩ := h
  rw [szT_eq hU hn u, ct_sm hh h1 h3 n, if_pos h2]
  omega
/-- a post that has one below it has a heavy one -/
theorem hv_some {i : Nat} (h0 : 1 ≤ i) (hi : i < n) : ∃ c, hvT n up (up i) = some c := by
  cases h : hvT n up (up i) with
  | some c => exact ⟨c, rfl⟩
  | none =>
    have g := hvT_is (n := n) (up := up) (up i)
    rw [h] at g
    exact absurd rfl (g i h0 hi)
theorem hs_eq {u c : Nat} (hh : hvT n up u = some c) : hsT n up u = szT n up c := by unfold hsT; rw [hh]
theorem int_in (hU : upOk n up) (hn : 1 ≤ n) {i : Nat} (h0 : 1 ≤ i) (hi : i < n) : plT n up (up i) < plT n up i ∧ plT n up i + szT n up i ≤ plT n up (up i) + szT n up (up i) := by
  obtain ⟨c, hh⟩ := hv_some (up := up) h0 hi
  obtain ⟨f1, f2, f3, f4⟩ := sz_form hU hn hh
  rw [plT_s h0 (hU i h0 hi), hs_eq hh]
  by_cases hc : hvT n up (up i) = some i
  · rw [if_pos hc]
    have : c = i := Option.some.inj (hh.symm.trans hc)
    subst this
    omega
  · rw [if_neg hc]
    have h1 := smT_step (n := n) (up := up) (u := up i) ⟨h0, rfl⟩ hc
    have h2 := smT_le (n := n) (up := up) (u := up i) (show i + 1 ≤ n by omega)
    omega
theorem int_dis (hU : upOk n up) {i j : Nat} (h0 : 1 ≤ i) (hi : i < n) (g0 : 1 ≤ j) (hj : j < n) (hij : i < j) (hu : up i = up j) : plT n up i + szT n up i ≤ plT n up j ∨ plT n up j + szT n up j ≤ plT n up i := by
  obtain ⟨c, hh⟩ := hv_some (up := up) h0 hi
  rw [plT_s h0 (hU i h0 hi), plT_s g0 (hU j g0 hj), ← hu, hs_eq hh]
  by_cases hc : hvT n up (up i) = some i
  · have : c = i := Option.some.inj (hh.symm.trans hc)
    subst this
    rw [if_pos hc, if_neg (fun z => by have := Option.some.inj (hc.symm.trans z); omega)]
    omega
  · rw [if_neg hc]
    have h1 := smT_step (n := n) (up := up) (u := up i) ⟨h0, rfl⟩ hc
    have h2 := smT_le (n := n) (up := up) (u := up i) (show i + 1 ≤ j by omega)
    by_cases hd : hvT n up (up i) = some j
    · have : c = j := Option.some.inj (hh.symm.trans hd)
      subst this
      rw [if_pos hd]
      omega
    · rw [if_neg hd]
      omega
theorem anc_int (hU : upOk n up) (hn : 1 ≤ n) : ∀ k y, y < n → k ≤ dpt up y → plT n up (cl up k y) + k ≤ plT n up y ∧ plT n up y + szT n up y ≤ plT n up (cl up k y) + szT n up (cl up k y)
  | 0, y, _, _ => ⟨Nat.le_refl _, Nat.le_refl _⟩
  | k + 1, y, hy, hk => by
    have h0 := up_pos hU (u := y) (by omega)
    have hu := hU y h0 hy
    have hd := dpt_s h0 hu
    obtain ⟨i1, i2⟩ := int_in hU hn h0 hy
    obtain ⟨j1, j2⟩ := anc_int hU hn k (up y) (by omega) (by omega)
    show plT n up (cl up k (up y)) + (k + 1) ≤ _ ∧ _ ≤ plT n up (cl up k (up y)) + szT n up (cl up k (up y))
    omega
theorem plT_inj (hU : upOk n up) (hn : 1 ≤ n) {i j : Nat} (hi : i < n) (hj : j < n) (he : plT n up i = plT n up j) : i = j := by
  obtain ⟨r, f, w1, w2, -, -, -, w3, w4⟩ := way_form hU i j hi hj
  obtain ⟨-, -, hmax⟩ := mt_anc hU i j hi hj
  have hpi := szT_pos hU hn i
  have hpj := szT_pos hU hn j
  cases r with
  | zero =>
    cases f with
    | zero => exact w3.trans w4.symm
    | succ f =>
      have := (anc_int hU hn (f + 1) j hj (by omega)).1
      rw [w4, ← w3] at this
      exact absurd this (by show ¬ (plT n up i + (f + 1) ≤ _); omega)
  | succ r =>
    cases f with
    | zero =>
      have := (anc_int hU hn (r + 1) i hi (by omega)).1
      rw [w3, ← w4] at this
      exact absurd this (by show ¬ (plT n up j + (r + 1) ≤ _); omega)
    | succ f =>
      have a1 := anc_int hU hn r i hi (by omega)
      have a2 := anc_int hU hn f j hj (by omega)
      have c1 := cl_dp hU r i hi (by omega)
      have c2 := cl_dp hU f j hj (by omega)
      have u1 : up (cl up r i) = mt up i j := (cl_succ up r i).symm.trans w3
      have u2 : up (cl up f j) = mt up i j := (cl_succ up f j).symm.trans w4
      have p1 := up_pos hU (u := cl up r i) (by omega)
      have p2 := up_pos hU (u := cl up f j) (by omega)
      have hne : cl up r i ≠ cl up f j := by
        intro z
        have h1 := hmax (cl up r i) ⟨r, by omega, rfl⟩ ⟨f, by omega, z.symm⟩
        have h2 := hU _ p1 c1.1
        rw [u1] at h2
        omega
      rcases Nat.lt_or_gt_of_ne hne with z | z
      · have := int_dis hU p1 c1.1 p2 c2.1 z (by rw [u1, u2])
        omega
      · have := int_dis hU p2 c2.1 p1 c1.1 z (by rw [u1, u2])
        omega
theorem plT_lt (hU : upOk n up) (hn : 1 ≤ n) {i : Nat} (hi : i < n) : plT n up i + szT n up i ≤ n := by
  obtain ⟨k, h1, h2⟩ := anc_root hU hi
  have := (anc_int hU hn k i hi h1).2
  rw [h2, plT_0, szT_0 hU hn] at this
  omega
theorem rwT_pl (hU : upOk n up) (hn : 1 ≤ n) {i : Nat} (hi : i < n) : rwT n up (plT n up i) = i := by
  unfold rwT
  cases h : (List.range n).find? (fun k => plT n up k == plT n up i) with
  | none =>
    have := List.find?_eq_none.mp h i (List.mem_range.mpr hi)
    simp at this
  | some k =>
    have h1 := List.find?_some h
    have h2 := List.mem_range.mp (List.mem_of_find?_eq_some h)
    simp at h1
    exact plT_inj hU hn h2 hi h1
theorem plT_sur (hU : upOk n up) (hn : 1 ≤ n) {p : Nat} (hp : p < n) : ∃ i, i < n ∧ plT n up i = p := by
  have hnd : ((List.range n).map (plT n up)).Nodup := by
    rw [List.nodup_iff_pairwise_ne, List.pairwise_map]
    refine List.Pairwise.imp_of_mem ?_ (List.nodup_iff_pairwise_ne.mp List.nodup_range)
    intro a b ha hb hab he
    exact hab (plT_inj hU hn (List.mem_range.mp ha) (List.mem_range.mp hb) he)
  have hlt : ∀ x ∈ (List.range n).map (plT n up), x < n := by
    intro x hx
    obtain ⟨i, h1, rfl⟩ := List.mem_map.mp hx
    have := plT_lt hU hn (List.mem_range.mp h1)
    have := szT_pos hU hn i
    omega
  have hpm := (pig n _ hnd hlt).2 (by rw [List.length_map, List.length_range])
  obtain ⟨i, h1, h2⟩ := List.mem_map.mp (hpm.mem_iff.mpr (List.mem_range.mpr hp))
  exact ⟨i, List.mem_range.mp h1, h2⟩
def hvI (o : Option Nat) : Int32 := match o with | none => -4 | some c => nI c
def chF (hd : Nat → Int32) (s : Int32) (i : Nat) : Int32 := if hd i = nI i then s + 1 else s
def trT (n : Nat) (up : Nat → Nat) : trf := (szT n up, plT n up, rwT n up, fun u => hvI (hvT n up u), fun i => nI (hdT n up i), (List.range n).foldl (chF (fun i => nI (hdT n up i))) 0)
theorem trT_ok (hU : upOk n up) (hn : 1 ≤ n) (h30 : n ≤ 30) : trOk n up (trT n up) := by
  refine ⟨hn, h30, hU, fun u hu => ⟨plT_lt hU hn hu, szT_pos hU hn u⟩, fun p hp => ?_, fun p q hp hq he => ?_, plT_0, szT_0 hU hn⟩
  · obtain ⟨i, hi, rfl⟩ := plT_sur hU hn hp
    show rwT n up (plT n up i) < n
    rw [rwT_pl hU hn hi]; exact hi
  · obtain ⟨i, hi, rfl⟩ := plT_sur hU hn hp
    obtain ⟨j, hj, rfl⟩ := plT_sur hU hn hq
    have he2 : rwT n up (plT n up i) = rwT n up (plT n up j) := he
    rw [rwT_pl hU hn hi, rwT_pl hU hn hj] at he2
    rw [he2]
theorem trT_ch : chOk n (trT n up) := rfl
end PLACE
