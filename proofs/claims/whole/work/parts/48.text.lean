/-! what a text tells -/
def ch (tx : List Int32) (k : Nat) : Int32 := (tx[k]?).getD 0
def isS (c : Int32) : Bool := decide ((48 ≤ c ∧ c ≤ 57) ∨ (97 ≤ c ∧ c ≤ 115))
def sv (c : Int32) : Int32 := if 48 ≤ c ∧ c ≤ 57 then c - 48 else c - 87
def vN (tx : List Int32) (k : Nat) : Nat := (sv (ch tx k)).toNatClampNeg
theorem i32_le {x y : Int32} : x ≤ y ↔ x.toInt ≤ y.toInt := Int32.le_iff_toInt_le
theorem i32_lt {x y : Int32} : x < y ↔ x.toInt < y.toInt := Int32.lt_iff_toInt_lt
theorem sv_n {c : Int32} (h : isS c = true) : ∃ v, v < 29 ∧ sv c = nI v := by
  have h := of_decide_eq_true h
  unfold sv
  by_cases h1 : 48 ≤ c ∧ c ≤ 57
  · rw [if_pos h1]
    obtain ⟨j, hj, rfl⟩ := in_n (m := 58) h1 (by decide) (by decide) (by decide)
    have h2 := (nI_leI (a := 48) (by decide) (by omega)).mp h1.1
    exact ⟨j - 48, by omega, pk_sub (b := 48) h2⟩
  · rw [if_neg h1]
    have h2 : 97 ≤ c ∧ c ≤ 115 := h.resolve_left h1
    obtain ⟨j, hj, rfl⟩ := in_n (m := 116) h2 (by decide) (by decide) (by decide)
    have h3 := (nI_leI (a := 97) (by decide) (by omega)).mp h2.1
    exact ⟨j - 87, by omega, pk_sub (b := 87) (by omega)⟩
theorem sv_v {tx : List Int32} {k : Nat} (h : isS (ch tx k) = true) : sv (ch tx k) = nI (vN tx k) ∧ vN tx k < 29 := by
  obtain ⟨v, h1, h2⟩ := sv_n h
  have : vN tx k = v := by unfold vN; rw [h2]; exact clampI (by omega)
  rw [this]
  exact ⟨h2, h1⟩
def eoD (tx : List Int32) : Nat → Nat → Nat
  | 0, k => k
  | d + 1, k => if isS (ch tx k) then eoD tx d (k + 1) else k
def eo (tx : List Int32) (k : Nat) : Nat := eoD tx (tx.length - k) k
theorem eoD_is (tx : List Int32) : ∀ d k, k ≤ eoD tx d k ∧ eoD tx d k ≤ k + d ∧ (∀ j, k ≤ j → j < eoD tx d k → isS (ch tx j) = true) ∧ (eoD tx d k < k + d → isS (ch tx (eoD tx d k)) = false)
  | 0, k => ⟨Nat.le_refl _, Nat.le_refl _, fun j h1 h2 => by unfold eoD at h2; omega, fun h => by unfold eoD at h; omega⟩
  | d + 1, k => by
    unfold eoD
    cases h : isS (ch tx k)
    · simp only [Bool.false_eq_true, if_false]
      exact ⟨Nat.le_refl _, by omega, fun j h1 h2 => by omega, fun _ => h⟩
    · simp only [if_true]
      obtain ⟨i1, i2, i3, i4⟩ := eoD_is tx d (k + 1)
      refine ⟨by omega, by omega, fun j h1 h2 => ?_, fun h => i4 (by omega)⟩
      rcases Nat.eq_or_lt_of_le h1 with rfl | h3
      · exact h
      · exact i3 j h3 h2
theorem eo_is {tx : List Int32} {k : Nat} (hk : k ≤ tx.length) : k ≤ eo tx k ∧ eo tx k ≤ tx.length ∧ (∀ j, k ≤ j → j < eo tx k → isS (ch tx j) = true) ∧ (eo tx k < tx.length → isS (ch tx (eo tx k)) = false) := by
  obtain ⟨i1, i2, i3, i4⟩ := eoD_is tx (tx.length - k) k
  exact ⟨i1, by unfold eo; omega, i3, fun h => i4 (by unfold eo at h; omega)⟩
/-- the signs of the item at s -/
def sgn (tx : List Int32) (s : Nat) : Nat := eo tx (s + 1) - (s + 1)
def upsB (tx : List Int32) (s m : Nat) : Bool := (List.range m).all (fun k => decide (vN tx (s + 1 + k) ≤ k))
def figB (tx : List Int32) (s m : Nat) : Bool := (List.range m).all (fun k => decide (vN tx (s + 1 + k) < 10))
def itB (tx : List Int32) (q s : Nat) : Bool := (decide (eo tx (s + 1) < tx.length) && decide (ch tx (eo tx (s + 1)) = 59)) && ((decide (ch tx s = 112) && (decide (q = 0) && (decide (sgn tx s ≤ 29) && upsB tx s (sgn tx s)))) || (decide (ch tx s = 119 ∨ ch tx s = 102 ∨ ch tx s = 103) && (decide (0 < q) && (decide (sgn tx s ≤ q) && figB tx s (sgn tx s)))))
abbrev tst : Type := Nat × (Nat → Int32) × accs
def dfl : accs := (fun _ => 0, fun _ => 1, fun _ => 0)
def rowF (tx : List Int32) (s m : Nat) (d : Int32) (i : Nat) : Int32 := if i < m then nI (vN tx (s + 1 + i)) else d
def itS (tx : List Int32) (s : Nat) (st : tst) : tst :=
  if ch tx s = 112 then (sgn tx s + 1, fun i => if i = 0 then -4 else nI (vN tx (s + i)), dfl)
  else if ch tx s = 119 then (st.1, st.2.1, (rowF tx s (sgn tx s) 0, st.2.2.2.1, st.2.2.2.2))
  else if ch tx s = 102 then (st.1, st.2.1, (st.2.2.1, rowF tx s (sgn tx s) 1, st.2.2.2.2))
  else (st.1, st.2.1, (st.2.2.1, st.2.2.2.1, rowF tx s (sgn tx s) 0))
def flT (tx : List Int32) : Nat → Nat → tst → Int32 × tst
  | 0, _, st => (-4, st)
  | d + 1, s, st => if tx.length ≤ s then (-4, st) else if itB tx st.1 s then flT tx d (eo tx (s + 1) + 1) (itS tx s st) else (nI s, st)
/-- what the read keeps -/
def stOk (st : tst) : Prop := st.1 ≤ 30 ∧ (0 < st.1 → st.2.1 0 = -4 ∧ ∀ i, 1 ≤ i → i < st.1 → ∃ j, j < i ∧ st.2.1 i = nI j) ∧ acOk st.2.2 ∧ ∀ i, st.1 ≤ i → i < 30 → st.2.2.1 i = 0 ∧ st.2.2.2.1 i = 1 ∧ st.2.2.2.2 i = 0
theorem dig9 {k : Nat} (h : k < 10) : okA (nI k) = true ∧ 0 ≤ nI k ∧ nI k ≤ 9 := by
  have h0 : 0 ≤ nI k := nI_pos' (by omega)
  have h9 : nI k ≤ 9 := nI_le (b := 9) (by omega) (by decide)
  refine ⟨okA_iff.mpr ⟨?_, ?_⟩, h0, h9⟩
  · exact Int32.le_trans (by decide) h0
  · exact Int32.le_trans h9 (by decide)
theorem dfl_ok : acOk dfl := fun i _ => ⟨show okA 0 = true by decide, show (0 : Int32) ≤ 1 ∧ (1 : Int32) ≤ 9 by decide, show (0 : Int32) ≤ 0 ∧ (0 : Int32) ≤ 9 by decide⟩
theorem row_dig {tx : List Int32} {s m : Nat} {d : Int32} (h : figB tx s m = true) (hd : d = 0 ∨ d = 1) (i : Nat) : okA (rowF tx s m d i) = true ∧ 0 ≤ rowF tx s m d i ∧ rowF tx s m d i ≤ 9 := by
  unfold rowF
  split
  · rename_i hi
    exact dig9 (of_decide_eq_true (List.all_eq_true.mp h i (List.mem_range.mpr hi)))
  · rcases hd with rfl | rfl <;> decide
theorem itS_ok {tx : List Int32} {s : Nat} {st : tst} (h : itB tx st.1 s = true) (hO : stOk st) : stOk (itS tx s st) := by
  unfold itB at h
  rw [Bool.and_eq_true, Bool.or_eq_true] at h
  obtain ⟨-, h⟩ := h
  obtain ⟨o1, o2, o3, o4⟩ := hO
  unfold itS
  by_cases hp : ch tx s = 112
  · rw [if_pos hp]
    rcases h with h | h
    · simp only [Bool.and_eq_true, decide_eq_true_eq] at h
      obtain ⟨-, h0, h29, hu⟩ := h
      refine ⟨by show sgn tx s + 1 ≤ 30; omega, fun _ => ⟨rfl, fun i h1 h2 => ?_⟩, dfl_ok, fun i _ _ => ⟨rfl, rfl, rfl⟩⟩
      have h2' : i < sgn tx s + 1 := h2
      have := of_decide_eq_true (List.all_eq_true.mp hu (i - 1) (List.mem_range.mpr (by omega)))
      rw [show s + 1 + (i - 1) = s + i by omega] at this
      exact ⟨vN tx (s + i), by omega, if_neg (by omega)⟩
    · simp only [Bool.and_eq_true, decide_eq_true_eq] at h
      rw [hp] at h
      exact absurd h.1 (by decide)
  · rw [if_neg hp]
    rcases h with h | h
    · simp only [Bool.and_eq_true, decide_eq_true_eq] at h
      exact absurd h.1 hp
    · simp only [Bool.and_eq_true, decide_eq_true_eq] at h
      obtain ⟨hl, h0, hm, hf⟩ := h
      have far : ∀ d i, st.1 ≤ i → rowF tx s (sgn tx s) d i = d := fun d i hi => if_neg (by omega)
      by_cases h1 : ch tx s = 119
      · rw [if_pos h1]
        exact ⟨o1, o2, fun i hi => ⟨(row_dig hf (Or.inl rfl) i).1, (o3 i hi).2⟩, fun i h2 h3 => ⟨far 0 i h2, (o4 i h2 h3).2⟩⟩
      · rw [if_neg h1]
        by_cases h2 : ch tx s = 102
        · rw [if_pos h2]
          exact ⟨o1, o2, fun i hi => ⟨(o3 i hi).1, (row_dig hf (Or.inr rfl) i).2, (o3 i hi).2.2⟩, fun i h3 h4 => ⟨(o4 i h3 h4).1, far 1 i h3, (o4 i h3 h4).2.2⟩⟩
        · rw [if_neg h2]
          exact ⟨o1, o2, fun i hi => ⟨(o3 i hi).1, (o3 i hi).2.1, (row_dig hf (Or.inl rfl) i).2⟩, fun i h3 h4 => ⟨(o4 i h3 h4).1, (o4 i h3 h4).2.1, far 0 i h3⟩⟩
theorem flT_ok {tx : List Int32} : ∀ d s st, stOk st → stOk (flT tx d s st).2
  | 0, s, st, h => h
  | d + 1, s, st, h => by
    unfold flT
    split
    · exact h
    · cases hb : itB tx st.1 s
      · simp only [Bool.false_eq_true, if_false]; exact h
      · simp only [if_true]; exact flT_ok d _ _ (itS_ok hb h)
theorem b59 : isS 59 = false := by decide
section CTEXT
variable {tx : List Int32} {M N : mem} {E : env}
theorem cTx_ch (h : cTx tx M) {k : Nat} (hk : k < tx.length) : M.1 2 k = ch tx k := by
  have e : tx[k]? = some tx[k] := List.getElem?_eq_getElem hk
  unfold ch
  rw [e]
  exact h.2 k _ e
theorem mTx_ch (h : mTx tx M) {k : Nat} (hk : k < tx.length) : M.1 92 k = ch tx k := by
  have e : tx[k]? = some tx[k] := List.getElem?_eq_getElem hk
  unfold ch
  rw [e]
  exact h.2 k _ e
theorem s18 (c : Int32) : Rm E 18 0 [vi c] [] M (some (.int (if isS c then sv c else -1))) M := by
  unfold isS sv
  by_cases h0 : c < 48
  · have h1 : ¬ ((48 ≤ c ∧ c ≤ 57) ∨ (97 ≤ c ∧ c ≤ 115)) := by
      rintro (⟨z, -⟩ | ⟨z, -⟩)
      · exact Int32.not_lt.mpr z h0
      · exact Int32.not_lt.mpr (Int32.le_trans (by decide) z) h0
    rw [decide_eq_false h1]
    exact b18_0_0 h0 (Int32.lt_trans h0 (by decide))
  · have h0' := Int32.not_lt.mp h0
    by_cases h1 : 57 < c
    · have n1 : ¬ (48 ≤ c ∧ c ≤ 57) := fun z => Int32.not_lt.mpr z.2 h1
      by_cases h2 : c < 97
      · have h3 : ¬ ((48 ≤ c ∧ c ≤ 57) ∨ (97 ≤ c ∧ c ≤ 115)) := by
          rintro (z | z)
          · exact n1 z
          · exact Int32.not_lt.mpr z.1 h2
        rw [decide_eq_false h3]
        exact b18_0_3 h0 h1 h2
      · by_cases h4 : 115 < c
        · have h3 : ¬ ((48 ≤ c ∧ c ≤ 57) ∨ (97 ≤ c ∧ c ≤ 115)) := by
            rintro (z | z)
            · exact n1 z
            · exact Int32.not_lt.mpr z.2 h4
          rw [decide_eq_false h3]
          exact b18_0_4 h0 h1 h2 h4
        · have h3 : ((48 ≤ c ∧ c ≤ 57) ∨ (97 ≤ c ∧ c ≤ 115)) := Or.inr ⟨Int32.not_lt.mp h2, Int32.not_lt.mp h4⟩
          rw [decide_eq_true h3, if_pos rfl, if_neg n1]
          have := b18_0_5 (E := E) (M := M) h0 h1 h2 h4
          rwa [show c - 97 + 10 = c - 87 by rw [Int32.sub_eq_add_neg, Int32.sub_eq_add_neg, Int32.add_assoc]; rfl] at this
    · have h3 : 48 ≤ c ∧ c ≤ 57 := ⟨h0', Int32.not_lt.mp h1⟩
      rw [decide_eq_true (Or.inl h3), if_pos rfl, if_pos h3]
      exact b18_0_6 h0 h1
theorem s18s {k : Nat} (h : isS (ch tx k) = true) {c : Int32} (hc : c = ch tx k) : Rm E 18 0 [vi c] [] M (some (.int (nI (vN tx k)))) M := by
  have := s18 (E := E) (M := M) c
  rw [hc, h, if_pos rfl, (sv_v h).1] at this
  rw [hc]
  exact this
theorem s17 (hT : cTx tx M) (h200 : tx.length ≤ 200) : ∀ d k, tx.length - k = d → k ≤ tx.length → Rm E 17 2 [vr 1, vn, vi (nI k)] [] M (some (.int (nI (eoD tx d k)))) M := by
  intro d
  induction d with
  | zero =>
    intro k hd hk
    exact b17_2_0 (by rw [hT.1]; exact nI_le (by omega) (by omega))
  | succ d ih =>
    intro k hd hk
    have hkl : k < tx.length := by omega
    have h0 : ¬ (M.1 1 1 ≤ nI k) := by rw [hT.1, nI_leI (by omega) (by omega)]; omega
    have ck : (nI k).toNatClampNeg = k := clampI (by omega)
    have v := s18 (E := E) (M := M) (M.1 2 (nI k).toNatClampNeg)
    rw [ck, cTx_ch hT hkl] at v
    unfold eoD
    cases hs : isS (ch tx k)
    · rw [hs] at v
      exact b17_2_1 h0 (inR_nI (by omega) (by omega)) (by rw [ck, cTx_ch hT hkl]; exact v) (show (-1 : Int32) < 0 by decide)
    · rw [hs, if_pos rfl, (sv_v hs).1] at v
      refine b17_2_2 h0 (inR_nI (by omega) (by omega)) (by rw [ck, cTx_ch hT hkl]; exact v) (nI_pos (by have := (sv_v hs).2; omega)) ?_
      rw [nI_1]
      exact ih (k + 1) (by omega) (by omega)
/-- what the reader holds -/
def RD (st : tst) (N : mem) : Prop := N.1 3 0 = nI st.1 ∧ (0 < st.1 → (∀ i, i < st.1 → N.1 4 i = st.2.1 i) ∧ acAt 5 st.2.2 N)
theorem s2 : ∃ N, Rm E 2 0 [vr 5, vn] [] M none N ∧ eqOff [6, 7, 8] M N ∧ acAt 5 dfl N := by
  have key : ∀ d j (N : mem), 30 - j = d → j ≤ 30 → eqOff [6, 7, 8] M N → (∀ i, i < j → N.1 6 i = 0 ∧ N.1 7 i = 1 ∧ N.1 8 i = 0) → ∃ N', Rm E 2 2 [vr 5, vi (nI j)] [] N none N' ∧ eqOff [6, 7, 8] M N' ∧ acAt 5 dfl N' := by
    intro d
    induction d with
    | zero =>
      intro j N hd hj he hb
      obtain rfl : j = 30 := by omega
      exact ⟨N, b2_2_0 (by decide), he, hb⟩
    | succ d ih =>
      intro j N hd hj he hb
      have cj : (nI j).toNatClampNeg = j := clampI (by omega)
      have rj : inR (nI j) 30 := inR_nI (by omega) (by omega)
      obtain ⟨N', r1, r2⟩ := ih (j + 1) (upM (upM (upM N 6 j 0) 7 j 1) 8 j 0) (by omega) (by omega) (((he.up (by simp)).up (by simp)).up (by simp)) (fun i hi => by
        rw [upM_ne (show 6 ≠ 8 by decide), upM_ne (show 6 ≠ 7 by decide), upM_ne (show 7 ≠ 8 by decide)]
        by_cases hij : i = j
        · rw [hij, upM_eq, upM_eq, upM_eq]; exact ⟨rfl, rfl, rfl⟩
        · rw [upM_nk hij, upM_nk hij, upM_nk hij, upM_ne (show 7 ≠ 6 by decide), upM_ne (show 8 ≠ 7 by decide), upM_ne (show 8 ≠ 6 by decide)]
          exact hb i (by omega))
      refine ⟨N', b2_2_1 (by rw [show (30 : Int32) = nI 30 from rfl, nI_leI (by omega) (by omega)]; omega) rj rfl rj rfl rj rfl ?_, r2⟩
      rw [cj, nI_1]
      exact r1
  obtain ⟨N', r1, r2⟩ := key 30 0 M rfl (by omega) eqOff.rf (fun i hi => by omega)
  exact ⟨N', b2_0_0 r1, r2⟩
theorem all_range {f : Nat → Bool} : ∀ {m : Nat}, (List.range m).all f = true ↔ ∀ k, k < m → f k = true := by
  intro m
  rw [List.all_eq_true]
  exact ⟨fun h k hk => h k (List.mem_range.mpr hk), fun h k hk => h k (List.mem_range.mp hk)⟩
theorem s20 (hT : cTx tx M) (h200 : tx.length ≤ 200) {s m : Nat} (hsm : s + 1 + m ≤ tx.length) (hS : ∀ k, k < m → isS (ch tx (s + 1 + k)) = true) (h0 : M.1 3 0 = 0) (hm : m ≤ 29) : ∃ N, Rm E 20 0 [vr 3, vr 1, vi (nI (s + 1)), vi (nI (s + 1 + m)), vn, vn] [] M (some (.int (b2 (upsB tx s m)))) N ∧ eqR 3 8 M N ∧ (upsB tx s m = true → RD (m + 1, fun i => if i = 0 then -4 else nI (vN tx (s + i)), dfl) N) := by
  have hsg : nI (s + 1 + m) - nI (s + 1) = nI m := by rw [pk_sub (by omega), show s + 1 + m - (s + 1) = m by omega]
  have key : ∀ d i (N : mem), m + 1 - i = d → 1 ≤ i → i ≤ m + 1 → eqR 3 8 M N → N.1 4 0 = -4 → (∀ k, k + 1 < i → vN tx (s + 1 + k) ≤ k) → (∀ j, 1 ≤ j → j < i → N.1 4 j = nI (vN tx (s + j))) → ∃ N', Rm E 20 32 [vr 3, vr 1, vi (nI (s + 1)), vn, vi (nI m), vi (nI i)] [] N (some (.int (b2 (upsB tx s m)))) N' ∧ eqR 3 8 M N' ∧ (upsB tx s m = true → RD (m + 1, fun i => if i = 0 then -4 else nI (vN tx (s + i)), dfl) N') := by
    intro d
    induction d with
    | zero =>
      intro i N hd h1 hi he h4 hlow hv
      obtain rfl : i = m + 1 := by omega
      have hb : upsB tx s m = true := all_range.mpr (fun k hk => decide_eq_true (hlow k (by omega)))
      obtain ⟨K, k1, k2, k3⟩ := s2 (E := E) (M := upM N 3 0 (nI (m + 1)))
      refine ⟨K, ?_, (he.up (by omega) (by omega)).tr (eqOff_R k2 (by simp)), fun _ => ⟨?_, fun _ => ⟨fun j hj => ?_, k3⟩⟩⟩
      · rw [hb]
        exact b20_32_0 (nI_lt (by omega) (by omega)) (by rw [nI_1]) k1
      · rw [k2.2 3 (by simp), upM_eq]
      · rw [k2.2 4 (by simp), upM_ne (by decide)]
        have hj' : j < m + 1 := hj
        by_cases hj0 : j = 0
        · subst hj0; exact h4
        · rw [hv j (by omega) hj']
          exact (if_neg hj0).symm
    | succ d ih =>
      intro i N hd h1 hi he h4 hlow hv
      have him : i ≤ m := by omega
      have hlt : ¬ (nI m < nI i) := nI_nlt (by omega) (by omega)
      have e0 : nI (s + 1) + nI i - 1 = nI (s + 1 + (i - 1)) := by rw [nI_add, show s + 1 + i = (s + 1 + (i - 1)) + 1 by omega, dnI]
      have ce : (nI (s + 1 + (i - 1))).toNatClampNeg = s + 1 + (i - 1) := clampI (by omega)
      have ci : (nI i).toNatClampNeg = i := clampI (by omega)
      have ri : inR (nI i) 30 := inR_nI (by omega) (by omega)
      have hs := hS (i - 1) (by omega)
      have hT2 : N.1 2 (s + 1 + (i - 1)) = ch tx (s + 1 + (i - 1)) := by rw [he.2 2 (by omega)]; exact cTx_ch hT (by omega)
      have hv18 : Rm E 18 0 [vi (N.1 2 (nI (s + 1) + nI i - 1).toNatClampNeg)] [] N (some (.int (nI (vN tx (s + 1 + (i - 1)))))) N := s18s hs (by rw [e0, ce]; exact hT2)
      have hvb := (sv_v hs).2
      have rr : inR (nI (s + 1) + nI i - 1) 200 := by rw [e0]; exact inR_nI (by omega) (by omega)
      by_cases hle : vN tx (s + 1 + (i - 1)) ≤ i - 1
      · obtain ⟨N', r1, r2⟩ := ih (i + 1) (upM N 4 i (nI (vN tx (s + 1 + (i - 1))))) (by omega) (by omega) (by omega) (he.up (by omega) (by omega)) (by rw [upM_nk (by omega)]; exact h4) (fun k hk => by
          rcases Nat.lt_or_ge (k + 1) i with z | z
          · exact hlow k z
          · obtain rfl : k = i - 1 := by omega
            exact hle) (fun j h1 h2 => by
          by_cases hji : j = i
          · rw [hji, upM_eq, show s + 1 + (i - 1) = s + i by omega]
          · rw [upM_nk hji]; exact hv j h1 (by omega))
        refine ⟨N', b20_32_1 (N1 := upM N 4 i (nI (vN tx (s + 1 + (i - 1))))) hlt rr hv18 ri (by rw [ci]) ri (by rw [ci, upM_eq]; exact nI_lt (by omega) (by omega)) ?_, r2⟩
        rw [nI_1]
        exact r1
      · have hb : upsB tx s m = false := by
          cases hb : upsB tx s m
          · rfl
          · exact absurd (of_decide_eq_true (all_range.mp hb (i - 1) (by omega))) hle
        refine ⟨upM N 4 i (nI (vN tx (s + 1 + (i - 1)))), ?_, he.up (by omega) (by omega), fun z => by rw [hb] at z; cases z⟩
        rw [hb]
        exact b20_32_2 hlt rr hv18 ri (by rw [ci]) ri (by rw [ci, upM_eq]; exact nI_nlt (by omega) (by omega))
  obtain ⟨N', r1, r2⟩ := key m 1 (upM M 4 0 (-4)) (by omega) (by omega) (by omega) (eqR.rf.up (by omega) (by omega)) upM_eq (fun k hk => by omega) (fun j h1 h2 => by omega)
  refine ⟨N', b20_0_1 (by rw [h0]; decide) (by rw [hsg]; exact nI_lt (b := 30) (by omega) (by decide)) rfl ?_, r2⟩
  rw [hsg]
  exact r1
theorem s21 {a : Nat} {dv : Int32} (ha : skel[a]? = some (.inl (0, 30))) (ha3 : 6 ≤ a ∧ a ≤ 8) (hdv : dv = 0 ∨ dv = 1) (hT : cTx tx M) (h200 : tx.length ≤ 200) {s m q : Nat} (hsm : s + 1 + m ≤ tx.length) (hS : ∀ k, k < m → isS (ch tx (s + 1 + k)) = true) (h0 : M.1 3 0 = nI q) (hq : 0 < q) (hq30 : q ≤ 30) (hm : m ≤ q) : ∃ N, Rm E 21 0 [vr 3, vr a, vi dv, vr 1, vi (nI (s + 1)), vi (nI (s + 1 + m)), vn, vn] [] M (some (.int (b2 (figB tx s m)))) N ∧ eqOff [a] M N ∧ (figB tx s m = true → (∀ i, i < q → N.1 a i = rowF tx s m dv i) ∧ ∀ i, q ≤ i → N.1 a i = M.1 a i) := by
  have hsg : nI (s + 1 + m) - nI (s + 1) = nI m := by rw [pk_sub (by omega), show s + 1 + m - (s + 1) = m by omega]
  have key : ∀ d i (N : mem), q - i = d → i ≤ q → eqOff [a] M N → (∀ k, k < i → k < m → vN tx (s + 1 + k) < 10) → (∀ j, j < i → N.1 a j = rowF tx s m dv j) → (∀ j, q ≤ j → N.1 a j = M.1 a j) → ∃ N', Rm E 21 28 [vr 3, vr a, vi dv, vr 1, vi (nI (s + 1)), vn, vi (nI m), vi (nI i)] [] N (some (.int (b2 (figB tx s m)))) N' ∧ eqOff [a] M N' ∧ (figB tx s m = true → (∀ i, i < q → N'.1 a i = rowF tx s m dv i) ∧ ∀ i, q ≤ i → N'.1 a i = M.1 a i) := by
    intro d
    induction d with
    | zero =>
      intro i N hd hi he hlow hv hfar
      obtain rfl : i = q := by omega
      have hb : figB tx s m = true := all_range.mpr (fun k hk => decide_eq_true (hlow k (by omega) hk))
      refine ⟨N, ?_, he, fun _ => ⟨hv, hfar⟩⟩
      rw [hb]
      exact b21_28_0 ha (by rw [he.2 3 (by simp; omega), h0]; exact nI_le (Nat.le_refl _) (by omega))
    | succ d ih =>
      intro i N hd hi he hlow hv hfar
      have hlt : ¬ (N.1 3 0 ≤ nI i) := by rw [he.2 3 (by simp; omega), h0, nI_leI (by omega) (by omega)]; omega
      have ci : (nI i).toNatClampNeg = i := clampI (by omega)
      have ri : inR (nI i) 30 := inR_nI (by omega) (by omega)
      have step : ∀ (hlow2 : i < m → vN tx (s + 1 + i) < 10), ∃ N', Rm E 21 28 [vr 3, vr a, vi dv, vr 1, vi (nI (s + 1)), vn, vi (nI m), vi (nI i + 1)] [] (upM N a i (rowF tx s m dv i)) (some (.int (b2 (figB tx s m)))) N' ∧ eqOff [a] M N' ∧ (figB tx s m = true → (∀ i, i < q → N'.1 a i = rowF tx s m dv i) ∧ ∀ i, q ≤ i → N'.1 a i = M.1 a i) := by
        intro hlow2
        rw [nI_1]
        refine ih (i + 1) _ (by omega) (by omega) (he.up (by simp)) (fun k h1 h2 => ?_) (fun j hj => ?_) (fun j hj => ?_)
        · rcases Nat.lt_or_ge k i with z | z
          · exact hlow k z h2
          · obtain rfl : k = i := by omega
            exact hlow2 h2
        · by_cases hji : j = i
          · rw [hji, upM_eq]
          · rw [upM_nk hji]; exact hv j (by omega)
        · rw [upM_nk (by omega)]; exact hfar j hj
      by_cases him : i < m
      · have hs := hS i him
        have hrow : rowF tx s m dv i = nI (vN tx (s + 1 + i)) := if_pos him
        have e0 : nI (s + 1) + nI i = nI (s + 1 + i) := nI_add _ _
        have ce : (nI (s + 1 + i)).toNatClampNeg = s + 1 + i := clampI (by omega)
        have hT2 : N.1 2 (s + 1 + i) = ch tx (s + 1 + i) := by rw [he.2 2 (by simp; omega)]; exact cTx_ch hT (by omega)
        have hv18 : Rm E 18 0 [vi (N.1 2 (nI (s + 1) + nI i).toNatClampNeg)] [] N (some (.int (nI (vN tx (s + 1 + i))))) N := s18s hs (by rw [e0, ce]; exact hT2)
        have hvb := (sv_v hs).2
        have rr : inR (nI (s + 1) + nI i) 200 := by rw [e0]; exact inR_nI (by omega) (by omega)
        have hnle : ¬ (nI m ≤ nI i) := by rw [nI_leI (by omega) (by omega)]; omega
        by_cases h10 : vN tx (s + 1 + i) < 10
        · obtain ⟨N', r1, r2⟩ := step (fun _ => h10)
          rw [hrow] at r1
          exact ⟨N', b21_28_3 ha hlt hnle rr hv18 ri (by rw [ci]) ri (by rw [ci, upM_eq]; exact nI_le (b := 9) (by omega) (by decide)) r1, r2⟩
        · have hb : figB tx s m = false := by
            cases hb : figB tx s m
            · rfl
            · exact absurd (of_decide_eq_true (all_range.mp hb i him)) h10
          refine ⟨upM N a i (nI (vN tx (s + 1 + i))), ?_, he.up (by simp), fun z => by rw [hb] at z; cases z⟩
          rw [hb]
          exact b21_28_4 ha hlt hnle rr hv18 ri (by rw [ci]) ri (by rw [ci, upM_eq]; intro z; have := (nI_leI (b := 9) (by omega) (by decide)).mp z; omega)
      · have hrow : rowF tx s m dv i = dv := if_neg him
        obtain ⟨N', r1, r2⟩ := step (fun z => absurd z him)
        rw [hrow] at r1
        exact ⟨N', b21_28_1 ha hlt (nI_le (by omega) (by omega)) ri (by rw [ci]) ri (by rw [ci, upM_eq]; rcases hdv with rfl | rfl <;> decide) r1, r2⟩
  obtain ⟨N', r1, r2⟩ := key q 0 M (by omega) (by omega) eqOff.rf (fun k h1 h2 => by omega) (fun j hj => by omega) (fun _ _ => rfl)
  refine ⟨N', b21_0_1 ha (by rw [h0]; intro z; have := (nI_eq (b := 0) (by omega) (by decide)).mp z; omega) (by rw [hsg, h0]; exact nI_le hm (by omega)) ?_, r2⟩
  rw [hsg]
  exact r1
end CTEXT
