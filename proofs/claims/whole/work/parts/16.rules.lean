/-! runs, without fuel -/
def exB (f : Nat → Nat → lcs → List Value → hh → Option (Option Value × hh)) (L : Nat) (xs : Nat → Int32) (i pc : Nat) (ls : lcs) (st : List Value) (hp : hh) : Option (Option Value × hh) :=
    match mtab[i]?, ctab i pc with
    | some q, some en =>
      (match stpA L xs en pc ls st hp with
      | some (pc2, ls2, st2) => f i pc2 ls2 st2 hp
      | none =>
        (match stpB en st hp with
        | some (st2, hp2) => f i (pc + en.2.1) ls st2 hp2
        | none =>
          (match stpC en st hp with
          | some (j, as, r) =>
            (match mtab[j]? with
            | some qj =>
              if decide ((ent0 (mLx qj) as).length = mLx qj) && decide (0 < j) then
                (match f j 0 (ent0 (mLx qj) as) [] hp with
                | some (rv, hp2) => f i (pc + 3) ls (rv.toList ++ r) hp2
                | none => none)
              else none
            | none => none)
          | none => (stpR q en st).map (fun rv => (rv, hp)))))
    | _, _ => none
theorem exec_succ (L : Nat) (xs : Nat → Int32) (n i pc : Nat) (ls : lcs) (st : List Value) (hp : hh) : exec L xs (n + 1) i pc ls st hp = exB (exec L xs n) L xs i pc ls st hp := rfl
theorem exB_mono {f g : Nat → Nat → lcs → List Value → hh → Option (Option Value × hh)} (hfg : ∀ i pc ls st hp r, f i pc ls st hp = some r → g i pc ls st hp = some r) {L : Nat} {xs : Nat → Int32} {i pc : Nat} {ls : lcs} {st : List Value} {hp : hh} {r : Option Value × hh} (h : exB f L xs i pc ls st hp = some r) : exB g L xs i pc ls st hp = some r := by
  unfold exB at h ⊢
  split at h
  · split at h
    · exact hfg _ _ _ _ _ _ h
    · split at h
      · exact hfg _ _ _ _ _ _ h
      · split at h
        · split at h
          · split at h
            · rename_i hc
              rw [if_pos hc]
              split at h
              · rename_i hx
                rw [hfg _ _ _ _ _ _ hx]
                exact hfg _ _ _ _ _ _ h
              · cases h
            · cases h
          · cases h
        · exact h
  · cases h
theorem exec_more {L : Nat} {xs : Nat → Int32} : ∀ {n i pc : Nat} {ls : lcs} {st : List Value} {hp : hh} {r : Option Value × hh}, exec L xs n i pc ls st hp = some r → exec L xs (n + 1) i pc ls st hp = some r
  | 0, i, pc, ls, st, hp, r, h => by cases h
  | n + 1, i, pc, ls, st, hp, r, h => by
    rw [exec_succ] at h ⊢
    exact exB_mono (fun _ _ _ _ _ _ z => exec_more z) h
theorem exec_le {L : Nat} {xs : Nat → Int32} {n i pc : Nat} {ls : lcs} {st : List Value} {hp : hh} {r : Option Value × hh} (h : exec L xs n i pc ls st hp = some r) : ∀ k, exec L xs (n + k) i pc ls st hp = some r
  | 0 => h
  | k + 1 => exec_more (exec_le h k)
abbrev env : Type := Nat × (Nat → Int32)
def Rn (E : env) (i pc : Nat) (ls : lcs) (st : List Value) (hp : hh) (rv : Option Value) (hp2 : hh) : Prop := ∃ n, exec E.1 E.2 n i pc ls st hp = some (rv, hp2)
def cdOf (i : Nat) : Option (List (Nat × ent)) := (mtab[i]?).map mCd
/-- steps that leave the cells as they are -/
def stA (E : env) (cd : List (Nat × ent)) (hp : hh) : Nat → Nat → lcs → List Value → Option (Nat × lcs × List Value)
  | 0, pc, ls, st => some (pc, ls, st)
  | n + 1, pc, ls, st => match lku pc cd with
    | some en => (match stpA E.1 E.2 en pc ls st hp with
      | some (pc2, ls2, st2) => stA E cd hp n pc2 ls2 st2
      | none => none)
    | none => none
section RULES
variable {E : env} {i pc pc2 : Nat} {ls ls2 : lcs} {st st2 : List Value} {hp hp1 hp2 : hh} {rv : Option Value} {cd : List (Nat × ent)} {en : ent}
theorem cd_q (hq : cdOf i = some cd) : ∃ q, mtab[i]? = some q ∧ mCd q = cd := map_some_inv hq
theorem cd_ctab (hq : cdOf i = some cd) (h : lku pc cd = some en) : ∃ q, mtab[i]? = some q ∧ ctab i pc = some en := by
  obtain ⟨q, h1, h2⟩ := cd_q hq
  refine ⟨q, h1, ?_⟩
  unfold ctab
  rw [h1, ← h, ← h2]
theorem N_A1 (hq : cdOf i = some cd) (h : lku pc cd = some en) (hA : stpA E.1 E.2 en pc ls st hp = some (pc2, ls2, st2)) (k : Rn E i pc2 ls2 st2 hp rv hp2) : Rn E i pc ls st hp rv hp2 := by
  obtain ⟨q, h1, h2⟩ := cd_ctab hq h
  obtain ⟨n, k⟩ := k
  refine ⟨n + 1, ?_⟩
  rw [exec_succ, exB]
  simp only [h1, h2, hA]
  exact k
theorem N_S (hq : cdOf i = some cd) : ∀ (n : Nat) {pc : Nat} {ls : lcs} {st : List Value}, stA E cd hp n pc ls st = some (pc2, ls2, st2) → Rn E i pc2 ls2 st2 hp rv hp2 → Rn E i pc ls st hp rv hp2
  | 0, pc, ls, st, h, k => by cases h; exact k
  | n + 1, pc, ls, st, h, k => by
    unfold stA at h
    split at h
    · rename_i en hen
      split at h
      · rename_i pc3 ls3 st3 hA
        exact N_A1 hq hen hA (N_S hq n h k)
      · cases h
    · cases h
theorem N_B1 (hq : cdOf i = some cd) (h : lku pc cd = some en) (hA : stpA E.1 E.2 en pc ls st hp = none) (hB : stpB en st hp = some (st2, hp1)) (k : Rn E i (pc + en.2.1) ls st2 hp1 rv hp2) : Rn E i pc ls st hp rv hp2 := by
  obtain ⟨q, h1, h2⟩ := cd_ctab hq h
  obtain ⟨n, k⟩ := k
  refine ⟨n + 1, ?_⟩
  rw [exec_succ, exB]
  simp only [h1, h2, hA, hB]
  exact k
theorem N_C1 {j : Nat} {as r : List Value} {qj : minfo} {rv1 : Option Value} (hq : cdOf i = some cd) (h : lku pc cd = some en) (hA : stpA E.1 E.2 en pc ls st hp = none) (hB : stpB en st hp = none) (hC : stpC en st hp = some (j, as, r)) (hj : mtab[j]? = some qj) (hc : (decide ((ent0 (mLx qj) as).length = mLx qj) && decide (0 < j)) = true) (hx : Rn E j 0 (ent0 (mLx qj) as) [] hp rv1 hp1) (k : Rn E i (pc + 3) ls (rv1.toList ++ r) hp1 rv hp2) : Rn E i pc ls st hp rv hp2 := by
  obtain ⟨q, h1, h2⟩ := cd_ctab hq h
  obtain ⟨n, hx⟩ := hx
  obtain ⟨n2, k⟩ := k
  refine ⟨n + n2 + 1, ?_⟩
  have e1 := exec_le hx n2
  have e2 := exec_le k n
  rw [Nat.add_comm n2 n] at e2
  rw [exec_succ, exB]
  simp only [h1, h2, hA, hB, hC, hj, hc, if_true, e1]
  exact e2
theorem N_R1 {q : minfo} (hm : mtab[i]? = some q) (hq : cdOf i = some cd) (h : lku pc cd = some en) (hA : stpA E.1 E.2 en pc ls st hp = none) (hB : stpB en st hp = none) (hC : stpC en st hp = none) (hR : stpR q en st = some rv) : Rn E i pc ls st hp rv hp := by
  obtain ⟨q', h1, h2⟩ := cd_ctab hq h
  cases hm.symm.trans h1
  refine ⟨1, ?_⟩
  rw [exec_succ, exB]
  simp only [hm, h2, hA, hB, hC, hR, Option.map_some]
end RULES
/-! locals that nobody reads any more may be forgotten -/
def lsle : lcs → lcs → Prop
  | [], [] => True
  | none :: r, _ :: s => lsle r s
  | some v :: r, w :: s => w = some v ∧ lsle r s
  | _, _ => False
theorem lsle_len : ∀ {a b : lcs}, lsle a b → a.length = b.length
  | [], [], _ => rfl
  | [], _ :: _, h => h.elim
  | none :: _, [], h => h.elim
  | some _ :: _, [], h => h.elim
  | none :: r, w :: s, h => by
    have := lsle_len (a := r) (b := s) h
    simp [this]
  | some v :: r, w :: s, h => by
    have := lsle_len (a := r) (b := s) h.2
    simp [this]
theorem lsle_get : ∀ {a b : lcs}, lsle a b → ∀ {k : Nat} {v : Value}, a[k]? = some (some v) → b[k]? = some (some v)
  | [], [], _, k, v, h => by simp at h
  | [], _ :: _, h, _, _, _ => h.elim
  | none :: _, [], h, _, _, _ => h.elim
  | some _ :: _, [], h, _, _, _ => h.elim
  | none :: r, w :: s, h, 0, v, hv => by simp at hv
  | none :: r, w :: s, h, k + 1, v, hv => by
    simp only [List.getElem?_cons_succ] at hv ⊢
    exact lsle_get (a := r) (b := s) h hv
  | some x :: r, w :: s, h, 0, v, hv => by
    simp at hv ⊢
    rw [h.1, hv]
  | some x :: r, w :: s, h, k + 1, v, hv => by
    simp only [List.getElem?_cons_succ] at hv ⊢
    exact lsle_get (a := r) (b := s) h.2 hv
theorem lsle_mk : ∀ {a b : lcs}, a.length = b.length → (∀ (k : Nat) (v : Value), a[k]? = some (some v) → b[k]? = some (some v)) → lsle a b
  | [], [], _, _ => trivial
  | [], _ :: _, h, _ => by simp at h
  | _ :: _, [], h, _ => by simp at h
  | none :: r, w :: s, h, hv => lsle_mk (a := r) (b := s) (by simpa using h) (fun k v h2 => by have := hv (k + 1) v (by simpa using h2); simpa using this)
  | some x :: r, w :: s, h, hv => ⟨by have := hv 0 x rfl; simpa using this, lsle_mk (a := r) (b := s) (by simpa using h) (fun k v h2 => by have := hv (k + 1) v (by simpa using h2); simpa using this)⟩
theorem lsle_lGet {a b : lcs} (h : lsle a b) {k : Nat} {v : Value} (hv : lGet a k = some v) : lGet b k = some v := lGet_iff.mpr (lsle_get h (lGet_iff.mp hv))
theorem lsle_clr {a b : lcs} (h : lsle a b) (i : Nat) : lsle (clr a i) (clr b i) := by
  refine lsle_mk (by rw [clr_len, clr_len]; exact lsle_len h) (fun k v hv => ?_)
  unfold clr at hv ⊢
  split
  · exact lsle_get h hv
  · rename_i j
    dsimp only at hv
    by_cases hkj : k = j
    · subst hkj
      split at hv
      · rename_i w hw
        rw [lsle_lGet h hw]
        split at hv
        · rw [List.getElem?_set, if_pos rfl] at hv
          split at hv <;> cases hv
        · rename_i hc
          dsimp only
          rw [if_neg hc]
          exact lsle_get h hv
      · rename_i hw
        rw [lGet_iff.mpr hv] at hw
        cases hw
    · have hv2 : a[k]? = some (some v) := by
        split at hv
        · split at hv
          · rw [List.getElem?_set, if_neg (fun z => hkj z.symm)] at hv
            exact hv
          · exact hv
        · exact hv
      have hb := lsle_get h hv2
      split
      · split
        · rw [List.getElem?_set, if_neg (fun z => hkj z.symm)]
          exact hb
        · exact hb
      · exact hb
theorem lsle_set {a b : lcs} (h : lsle a b) (i : Nat) (v : Option Value) : lsle (a.set i v) (b.set i v) := by
  refine lsle_mk (by rw [List.length_set, List.length_set]; exact lsle_len h) (fun k w hw => ?_)
  rw [List.getElem?_set] at hw ⊢
  rw [← lsle_len h]
  by_cases hk : i = k
  · rw [if_pos hk] at hw ⊢
    exact hw
  · rw [if_neg hk] at hw ⊢
    exact lsle_get h hw
theorem lsle_lSet {a b a2 : lcs} (h : lsle a b) {i : Nat} {v : Value} (hs : lSet a i v = some a2) : ∃ b2, lSet b i v = some b2 ∧ lsle a2 b2 := by
  unfold lSet at hs ⊢
  rw [← lsle_len h]
  split at hs
  · rename_i hc
    cases hs
    exact ⟨_, if_pos hc, lsle_set (lsle_clr h i) i _⟩
  · cases hs
theorem lsle_lSet2 {a b a2 : lcs} (h : lsle a b) {i : Nat} {v : Value} (hs : lSet2 a i v = some a2) : ∃ b2, lSet2 b i v = some b2 ∧ lsle a2 b2 := by
  unfold lSet2 at hs ⊢
  rw [← lsle_len h]
  split at hs
  · rename_i hc
    cases hs
    exact ⟨_, if_pos hc, lsle_set (lsle_set (lsle_clr h i) i _) _ _⟩
  · cases hs
theorem stpA_le {L : Nat} {xs : Nat → Int32} {en : ent} {pc pc2 : Nat} {ls ls' l2 : lcs} {st st2 : List Value} {hp : hh} (hle : lsle ls ls') (h : stpA L xs en pc ls st hp = some (pc2, l2, st2)) : ∃ l3, stpA L xs en pc ls' st hp = some (pc2, l3, st2) ∧ lsle l2 l3 := by
  have ldI : ∀ {k n : Nat}, stLdI ls k n pc st = some (pc2, l2, st2) → ∃ l3, stLdI ls' k n pc st = some (pc2, l3, st2) ∧ lsle l2 l3 := by
    intro k n h
    obtain ⟨x, h1, rfl, rfl, rfl⟩ := stLdI_inv h
    exact ⟨ls', by unfold stLdI; rw [lsle_lGet hle h1], hle⟩
  have ldL : ∀ {k n : Nat}, stLdL ls k n pc st = some (pc2, l2, st2) → ∃ l3, stLdL ls' k n pc st = some (pc2, l3, st2) ∧ lsle l2 l3 := by
    intro k n h
    obtain ⟨x, h1, rfl, rfl, rfl⟩ := stLdL_inv h
    exact ⟨ls', by unfold stLdL; rw [lsle_lGet hle h1], hle⟩
  have ldA : ∀ {k n : Nat}, stLdA ls k n pc st = some (pc2, l2, st2) → ∃ l3, stLdA ls' k n pc st = some (pc2, l3, st2) ∧ lsle l2 l3 := by
    intro k n h
    unfold stLdA at h ⊢
    split at h
    · rename_i x hx
      cases h
      exact ⟨ls', by rw [lsle_lGet hle hx], hle⟩
    · rename_i x hx
      split at h
      · rename_i hc
        cases h
        exact ⟨ls', by rw [lsle_lGet hle hx]; exact if_pos hc, hle⟩
      · cases h
    · cases h
  have stI : ∀ {k n : Nat}, stStI ls k n pc st = some (pc2, l2, st2) → ∃ l3, stStI ls' k n pc st = some (pc2, l3, st2) ∧ lsle l2 l3 := by
    intro k n h
    obtain ⟨x, rfl, h1, rfl⟩ := stStI_inv h
    obtain ⟨b2, h2, h3⟩ := lsle_lSet hle h1
    exact ⟨b2, by unfold stStI; simp [h2], h3⟩
  have stL : ∀ {k n : Nat}, stStL ls k n pc st = some (pc2, l2, st2) → ∃ l3, stStL ls' k n pc st = some (pc2, l3, st2) ∧ lsle l2 l3 := by
    intro k n h
    obtain ⟨x, rfl, h1, rfl⟩ := stStL_inv h
    obtain ⟨b2, h2, h3⟩ := lsle_lSet2 hle h1
    exact ⟨b2, by unfold stStL; simp [h2], h3⟩
  have stAA : ∀ {k n : Nat}, stStA ls k n pc st = some (pc2, l2, st2) → ∃ l3, stStA ls' k n pc st = some (pc2, l3, st2) ∧ lsle l2 l3 := by
    intro k n h
    obtain ⟨x, rfl, h1, rfl⟩ := stStA_inv h
    obtain ⟨b2, h2, h3⟩ := lsle_lSet hle h1
    exact ⟨b2, by unfold stStA; simp [h2], h3⟩
  have mp : ∀ {α : Type} {o : Option α} {f g : α → Nat × lcs × List Value}, o.map f = some (pc2, l2, st2) → (∀ x, (g x).1 = (f x).1 ∧ (f x).2.1 = ls ∧ (g x).2.1 = ls' ∧ (g x).2.2 = (f x).2.2) → ∃ l3, o.map g = some (pc2, l3, st2) ∧ lsle l2 l3 := by
    intro α o f g h hg
    obtain ⟨x, rfl, h2⟩ := map_some_inv h
    obtain ⟨g1, g2, g3, g4⟩ := hg x
    rw [h2] at g1 g2 g4
    dsimp only at g1 g2 g4
    refine ⟨ls', ?_, by rw [g2]; exact hle⟩
    show some (g x) = _
    rw [← g1, ← g3, ← g4]
  unfold stpA at h ⊢
  split at h
  · exact ldI h
  · exact ldI h
  · exact ldL h
  · exact ldL h
  · exact ldA h
  · exact ldA h
  · exact stI h
  · exact stI h
  · exact stL h
  · exact stL h
  · exact stAA h
  · exact stAA h
  · split at h
    · rename_i x hx1
      obtain ⟨l4, h1, h2⟩ := map_some_inv h
      cases h2
      obtain ⟨b2, h2, h3⟩ := lsle_lSet hle h1
      exact ⟨b2, by rw [lsle_lGet hle hx1]; simp [h2], h3⟩
    · cases h
  · cases h; exact ⟨_, rfl, hle⟩
  · cases h; exact ⟨_, rfl, hle⟩
  · cases h; exact ⟨_, rfl, hle⟩
  · cases h; exact ⟨_, rfl, hle⟩
  · cases h; exact ⟨_, rfl, hle⟩
  · cases h; exact ⟨_, rfl, hle⟩
  · split at h
    · cases h; exact ⟨_, rfl, hle⟩
    · cases h
  · split at h
    · cases h; exact ⟨_, rfl, hle⟩
    · cases h
  · split at h
    · split at h
      · rename_i hc
        rw [if_pos hc]
        exact mp h (fun _ => ⟨rfl, rfl, rfl, rfl⟩)
      · rename_i hc
        rw [if_neg hc]
        split at h
        · exact mp h (fun _ => ⟨rfl, rfl, rfl, rfl⟩)
        · cases h
    · cases h
  · split at h
    · exact mp h (fun _ => ⟨rfl, rfl, rfl, rfl⟩)
    · cases h
  · split at h
    · split at h
      · rename_i hc
        cases h
        exact ⟨_, if_pos hc, hle⟩
      · cases h
    · cases h
  · split at h
    · split at h
      · rename_i hc
        cases h
        exact ⟨_, if_pos hc, hle⟩
      · rename_i hc
        rw [if_neg hc]
        split at h
        · rename_i hc
          cases h
          exact ⟨_, if_pos hc, hle⟩
        · cases h
    · cases h
  · exact mp h (fun _ => ⟨rfl, rfl, rfl, rfl⟩)
  · exact mp h (fun _ => ⟨rfl, rfl, rfl, rfl⟩)
  · exact mp h (fun _ => ⟨rfl, rfl, rfl, rfl⟩)
  · exact mp h (fun _ => ⟨rfl, rfl, rfl, rfl⟩)
  · exact mp h (fun _ => ⟨rfl, rfl, rfl, rfl⟩)
  · exact mp h (fun _ => ⟨rfl, rfl, rfl, rfl⟩)
  · exact mp h (fun _ => ⟨rfl, rfl, rfl, rfl⟩)
/-- the instructions over the locals -/
def isLoc (en : ent) : Bool := match en.1 with
  | .iload_n _ | .iload _ | .lload_n _ | .lload _ | .aload_n _ | .aload _ | .istore_n _ | .istore _ | .lstore_n _ | .lstore _ | .astore_n _ | .astore _ | .iinc .. => true
  | _ => false
theorem loc_B {en : ent} {st : List Value} {hp : hh} (h : isLoc en = true) : stpB en st hp = none ∧ stpC en st hp = none ∧ ∀ q, stpR q en st = none := by
  obtain ⟨ins, len, ea, eb, ec, ep⟩ := en
  unfold isLoc at h
  dsimp only at h
  split at h <;> first | (cases h; done) | exact ⟨rfl, by unfold stpC; split <;> rfl, fun _ => rfl⟩
theorem map_none {α β γ : Type} {o : Option α} {f : α → β} {g : α → γ} (h : o.map f = none) : o.map g = none := by
  cases o with
  | none => rfl
  | some x => cases h
theorem loc_A {L : Nat} {xs : Nat → Int32} {en : ent} {pc : Nat} {ls ls' : lcs} {st : List Value} {hp : hh} (hn : isLoc en = false) (h : stpA L xs en pc ls st hp = none) : stpA L xs en pc ls' st hp = none := by
  obtain ⟨ins, len, ea, eb, ec, ep⟩ := en
  unfold isLoc at hn
  unfold stpA at h ⊢
  dsimp only at h hn ⊢
  split at h
  · cases hn
  · cases hn
  · cases hn
  · cases hn
  · cases hn
  · cases hn
  · cases hn
  · cases hn
  · cases hn
  · cases hn
  · cases hn
  · cases hn
  · cases hn
  · cases h
  · cases h
  · cases h
  · cases h
  · cases h
  · cases h
  · split at h
    · cases h
    · rfl
  · split at h
    · cases h
    · rfl
  · split at h
    · split at h
      · rename_i hc
        rw [if_pos hc]
        exact map_none h
      · rename_i hc
        rw [if_neg hc]
        split at h
        · exact map_none h
        · rfl
    · rfl
  · split at h
    · exact map_none h
    · rfl
  · split at h
    · split at h
      · cases h
      · rename_i hc
        rw [if_neg hc]
    · rfl
  · split at h
    · split at h
      · cases h
      · rename_i hc
        rw [if_neg hc]
        split at h
        · cases h
        · rename_i hc
          rw [if_neg hc]
    · rfl
  · exact map_none h
  · exact map_none h
  · exact map_none h
  · exact map_none h
  · exact map_none h
  · exact map_none h
  · exact map_none h
theorem exec_weak {L : Nat} {xs : Nat → Int32} : ∀ {n i pc : Nat} {ls ls' : lcs} {st : List Value} {hp : hh} {r : Option Value × hh}, lsle ls ls' → exec L xs n i pc ls st hp = some r → exec L xs n i pc ls' st hp = some r
  | 0, i, pc, ls, ls', st, hp, r, _, h => by cases h
  | n + 1, i, pc, ls, ls', st, hp, r, hle, h => by
    rw [exec_succ] at h ⊢
    unfold exB at h ⊢
    split at h
    · rename_i q en hq hen
      split at h
      · rename_i pc2 l2 st2 hA
        obtain ⟨l3, h1, h2⟩ := stpA_le hle hA
        rw [h1]
        exact exec_weak h2 h
      · rename_i hA
        by_cases hl : isLoc en = true
        · obtain ⟨b1, b2, b3⟩ := loc_B (st := st) (hp := hp) hl
          rw [b1, b2, b3] at h
          cases h
        · rw [loc_A (ls' := ls') (by simpa using hl) hA]
          dsimp only
          split at h
          · rename_i hB
            exact exec_weak hle h
          · split at h
            · split at h
              · split at h
                · rename_i hc
                  rw [if_pos hc]
                  split at h
                  · exact exec_weak hle h
                  · cases h
                · cases h
              · cases h
            · exact h
    · cases h
theorem Rn_weak {E : env} {i pc : Nat} {ls ls' : lcs} {st : List Value} {hp hp2 : hh} {rv : Option Value} (hle : lsle ls ls') (h : Rn E i pc ls st hp rv hp2) : Rn E i pc ls' st hp rv hp2 := by
  obtain ⟨n, h⟩ := h
  exact ⟨n, exec_weak hle h⟩
/-! the same over the cells of the two objects -/
abbrev vi (x : Int32) : Option Value := some (.int x)
abbrev vl (x : Int64) : Option Value := some (.long x)
abbrev vr (a : Nat) : Option Value := some (.ref a)
abbrev vn : Option Value := none
def Rm (E : env) (i pc : Nat) (ls : lcs) (st : List Value) (M : mem) (rv : Option Value) (M2 : mem) : Prop := Rn E i pc ls st (enc M) rv (enc M2)
theorem R_w {E : env} {i pc : Nat} {ls ls' : lcs} {st : List Value} {M M2 : mem} {rv : Option Value} (hle : lsle ls ls') (h : Rm E i pc ls st M rv M2) : Rm E i pc ls' st M rv M2 := Rn_weak hle h
def inR (x : Int32) (n : Nat) : Prop := inB x n = true
section MRULES
variable {E : env} {i pc pc2 : Nat} {ls ls2 : lcs} {st st2 : List Value} {M M1 M2 : mem} {rv : Option Value} {cd : List (Nat × ent)} {a b len : Nat} {c : Int} {pl : List Nat}
theorem R_S (hq : cdOf i = some cd) (n : Nat) (h : stA E cd (enc M) n pc ls st = some (pc2, ls2, st2)) (k : Rm E i pc2 ls2 st2 M rv M2) : Rm E i pc ls st M rv M2 := N_S hq n h k
theorem R_ial {x : Int32} {ad n : Nat} (hq : cdOf i = some cd) (h : lku pc cd = some (.iaload, len, a, b, c, pl)) (hs : skel[ad]? = some (.inl (0, n))) (hi : inR x n) (k : Rm E i (pc + 1) ls (.int (M.1 ad x.toNatClampNeg) :: st) M rv M2) : Rm E i pc ls (.int x :: .ref ad :: st) M rv M2 := by
  refine N_A1 hq h ?_ k
  simp [stpA, stRd, enc_at hs, scl, show inB x n = true from hi]
theorem R_bal {x : Int32} {ad n : Nat} (hq : cdOf i = some cd) (h : lku pc cd = some (.baload, len, a, b, c, pl)) (hs : skel[ad]? = some (.inl (1, n))) (hi : inR x n) (k : Rm E i (pc + 1) ls (.int (M.1 ad x.toNatClampNeg) :: st) M rv M2) : Rm E i pc ls (.int x :: .ref ad :: st) M rv M2 := by
  refine N_A1 hq h ?_ k
  simp [stpA, stRd, enc_at hs, scl, show inB x n = true from hi]
theorem R_cal {x : Int32} {ad n : Nat} (hq : cdOf i = some cd) (h : lku pc cd = some (.caload, len, a, b, c, pl)) (hs : skel[ad]? = some (.inl (2, n))) (hi : inR x n) (k : Rm E i (pc + 1) ls (.int (M.1 ad x.toNatClampNeg) :: st) M rv M2) : Rm E i pc ls (.int x :: .ref ad :: st) M rv M2 := by
  refine N_A1 hq h ?_ k
  simp [stpA, stRd, enc_at hs, scl, show inB x n = true from hi]
theorem R_aal {x : Int32} {ad y : Nat} {rs : List Nat} (hq : cdOf i = some cd) (h : lku pc cd = some (.aaload, len, a, b, c, pl)) (hs : skel[ad]? = some (.inr (.inl rs))) (hi : inR x rs.length) (hy : rs[x.toNatClampNeg]? = some y) (k : Rm E i (pc + 1) ls (.ref y :: st) M rv M2) : Rm E i pc ls (.int x :: .ref ad :: st) M rv M2 := by
  refine N_A1 hq h ?_ k
  simp [stpA, stRd, enc_at hs, scl, show inB x rs.length = true from hi, hy]
theorem R_gf {ad ci ix : Nat} {cs : List Nat} {v : Value} (hq : cdOf i = some cd) (h : lku pc cd = some (.getfield ix, len, a, b, c, pl)) (hs : skel[ad]? = some (.inr (.inr (ci, cs)))) (h99 : ¬ a = 99) (ha : ci = a) (hv : (cs[b]?).map (fvl M ad b) = some v) (k : Rm E i (pc + 3) ls (v :: st) M rv M2) : Rm E i pc ls (.ref ad :: st) M rv M2 := by
  refine N_A1 hq h ?_ k
  have : (fvs M ad 0 cs)[b]? = some v := by rw [fvs_at, Nat.zero_add]; exact hv
  simp [stpA, stRd, enc_at hs, scl, eA, eB, h99, ha, this]
theorem R_len {ad t n : Nat} (hq : cdOf i = some cd) (h : lku pc cd = some (.arraylength, len, a, b, c, pl)) (hs : skel[ad]? = some (.inl (t, n))) (ht : t < 4) (k : Rm E i (pc + 1) ls (.int (Int32.ofNat n) :: st) M rv M2) : Rm E i pc ls (.ref ad :: st) M rv M2 := by
  refine N_A1 hq h ?_ k
  simp [stpA, stRd, enc_at hs, scl, ht]
theorem R_ias {N : mem} {x v : Int32} {ad n : Nat} (hq : cdOf i = some cd) (h : lku pc cd = some (.iastore, 1, a, b, c, pl)) (hs : skel[ad]? = some (.inl (0, n))) (hi : inR x n) (hN : N = upM M ad x.toNatClampNeg v) (k : Rm E i (pc + 1) ls st N rv M2) : Rm E i pc ls (.int v :: .int x :: .ref ad :: st) M rv M2 := by
  subst hN
  refine N_B1 (hp1 := enc (upM M ad x.toNatClampNeg v)) hq h rfl ?_ k
  simp only [stpB, enc_at hs, scl, show inB x n = true from hi, decide_true, Bool.and_self, if_true]
  exact congrArg some (congrArg (Prod.mk st) (enc_setA hs))
theorem R_bas {N : mem} {x v : Int32} {ad n : Nat} (hq : cdOf i = some cd) (h : lku pc cd = some (.bastore, 1, a, b, c, pl)) (hs : skel[ad]? = some (.inl (1, n))) (hi : inR x n) (hN : N = upM M ad x.toNatClampNeg (vp_nar .boolean v)) (k : Rm E i (pc + 1) ls st N rv M2) : Rm E i pc ls (.int v :: .int x :: .ref ad :: st) M rv M2 := by
  subst hN
  refine N_B1 (hp1 := enc (upM M ad x.toNatClampNeg (vp_nar .boolean v))) hq h rfl ?_ k
  simp only [stpB, enc_at hs, scl, show inB x n = true from hi, decide_true, Bool.and_self, if_true]
  exact congrArg some (congrArg (Prod.mk st) (enc_setA hs))
theorem R_cas {N : mem} {x v : Int32} {ad n : Nat} (hq : cdOf i = some cd) (h : lku pc cd = some (.castore, 1, a, b, c, pl)) (hs : skel[ad]? = some (.inl (2, n))) (hi : inR x n) (hN : N = upM M ad x.toNatClampNeg (vp_nar .char v)) (k : Rm E i (pc + 1) ls st N rv M2) : Rm E i pc ls (.int v :: .int x :: .ref ad :: st) M rv M2 := by
  subst hN
  refine N_B1 (hp1 := enc (upM M ad x.toNatClampNeg (vp_nar .char v))) hq h rfl ?_ k
  simp only [stpB, enc_at hs, scl, show inB x n = true from hi, decide_true, Bool.and_self, if_true]
  exact congrArg some (congrArg (Prod.mk st) (enc_setA hs))
theorem R_pf {N : mem} {v : Int32} {ad ci ix : Nat} {cs : List Nat} (hq : cdOf i = some cd) (h : lku pc cd = some (.putfield ix, 3, a, b, c, pl)) (hs : skel[ad]? = some (.inr (.inr (ci, cs)))) (ha : ci = a) (hk : cs[b]? = some 0) (ht : fTy a b = some .int) (hN : N = upM M ad b v) (k : Rm E i (pc + 3) ls st N rv M2) : Rm E i pc ls (.int v :: .ref ad :: st) M rv M2 := by
  subst hN
  refine N_B1 (hp1 := enc (upM M ad b v)) hq h rfl ?_ k
  have hlt : b < (fvs M ad 0 cs).length := by rw [fvs_len]; exact (List.getElem?_eq_some_iff.mp hk).1
  simp only [stpB, enc_at hs, scl, eA, eB, ht, ha, okv, hlt, decide_true, Bool.and_self, if_true]
  subst ha
  exact congrArg some (congrArg (Prod.mk st) (enc_setF hs hk))
theorem R_pl {N : mem} {v : Int64} {ix : Nat} (hq : cdOf i = some cd) (h : lku pc cd = some (.putfield ix, 3, 10, 18, c, pl)) (hN : N = (M.1, v)) (k : Rm E i (pc + 3) ls st N rv M2) : Rm E i pc ls (.long v :: .ref 83 :: st) M rv M2 := by
  subst hN
  refine N_B1 (hp1 := enc (M.1, v)) hq h rfl ?_ k
  have hs : skel[83]? = some (.inr (.inr (10, [86, 0, 87, 88, 89, 90, 91, 92, 93, 0, 94, 0, 0, 95, 0, 0, 96, 0, 1, 97, 0, 0, 98, 99, 0]))) := rfl
  have ht : fTy 10 18 = some .long := rfl
  have hlt : 18 < (fvs M 83 0 [86, 0, 87, 88, 89, 90, 91, 92, 93, 0, 94, 0, 0, 95, 0, 0, 96, 0, 1, 97, 0, 0, 98, 99, 0]).length := by rw [fvs_len]; decide
  simp only [stpB, enc_at hs, scl, eA, eB, ht, okv, hlt, decide_true, Bool.and_self, if_true]
  exact congrArg some (congrArg (Prod.mk st) (enc_setL hs))
theorem R_cpy {N : mem} {ad ad0 ix : Nat} (hq : cdOf i = some cd) (h : lku pc cd = some (.invokestatic ix, 3, 9001, b, c, pl)) (hs0 : skel[ad0]? = some (.inl (0, 30))) (hs : skel[ad]? = some (.inl (0, 30))) (hst : catS st ≤ 8) (hN : N = cpM M ad0 ad) (k : Rm E i (pc + 3) ls st N rv M2) : Rm E i pc ls (.int 30 :: .int 0 :: .ref ad :: .int 0 :: .ref ad0 :: st) M rv M2 := by
  subst hN
  refine N_B1 (hp1 := enc (cpM M ad0 ad)) hq h rfl ?_ k
  simp only [stpB, enc_at hs, enc_at hs0, scl, eA, hst, decide_true, Bool.and_true]
  exact congrArg some (congrArg (Prod.mk st) (enc_setC hs))
theorem R_call {j : Nat} {as r : List Value} {qj : minfo} {rv1 : Option Value} {en : ent} (hq : cdOf i = some cd) (h : lku pc cd = some en) (hA : stpA E.1 E.2 en pc ls st (enc M) = none) (hB : stpB en st (enc M) = none) (hC : stpC en st (enc M) = some (j, as, r)) (hj : mtab[j]? = some qj) (hc : (decide ((ent0 (mLx qj) as).length = mLx qj) && decide (0 < j)) = true) (hx : Rm E j 0 (ent0 (mLx qj) as) [] M rv1 M1) (k : Rm E i (pc + 3) ls (rv1.toList ++ r) M1 rv M2) : Rm E i pc ls st M rv M2 := N_C1 hq h hA hB hC hj hc hx k
theorem R_ret {en : ent} {q : minfo} (hm : mtab[i]? = some q) (hq : cdOf i = some cd) (h : lku pc cd = some en) (hA : stpA E.1 E.2 en pc ls st (enc M) = none) (hB : stpB en st (enc M) = none) (hC : stpC en st (enc M) = none) (hR : stpR q en st = some rv) : Rm E i pc ls st M rv M := N_R1 hm hq h hA hB hC hR
theorem R_if {x : Int32} {cc : ClassFile.Cond} {off : Int} (hq : cdOf i = some cd) (h : lku pc cd = some (.ifCond cc off, len, a, b, c, pl)) (k : Rm E i (if cmpB cc x 0 then a else pc + 3) ls st M rv M2) : Rm E i pc ls (.int x :: st) M rv M2 := N_A1 hq h rfl k
theorem R_ic {x y : Int32} {cc : ClassFile.Cond} {off : Int} (hq : cdOf i = some cd) (h : lku pc cd = some (.if_icmp cc off, len, a, b, c, pl)) (k : Rm E i (if cmpB cc x y then a else pc + 3) ls st M rv M2) : Rm E i pc ls (.int y :: .int x :: st) M rv M2 := N_A1 hq h rfl k
theorem R_ift {x : Int32} {cc : ClassFile.Cond} {off : Int} (hq : cdOf i = some cd) (h : lku pc cd = some (.ifCond cc off, len, a, b, c, pl)) (hc : cmpB cc x 0 = true) (k : Rm E i a ls st M rv M2) : Rm E i pc ls (.int x :: st) M rv M2 := R_if hq h (by rw [hc]; exact k)
theorem R_iff {x : Int32} {cc : ClassFile.Cond} {off : Int} (hq : cdOf i = some cd) (h : lku pc cd = some (.ifCond cc off, len, a, b, c, pl)) (hc : cmpB cc x 0 = false) (k : Rm E i (pc + 3) ls st M rv M2) : Rm E i pc ls (.int x :: st) M rv M2 := R_if hq h (by rw [hc]; exact k)
theorem R_ict {x y : Int32} {cc : ClassFile.Cond} {off : Int} (hq : cdOf i = some cd) (h : lku pc cd = some (.if_icmp cc off, len, a, b, c, pl)) (hc : cmpB cc x y = true) (k : Rm E i a ls st M rv M2) : Rm E i pc ls (.int y :: .int x :: st) M rv M2 := R_ic hq h (by rw [hc]; exact k)
theorem R_icf {x y : Int32} {cc : ClassFile.Cond} {off : Int} (hq : cdOf i = some cd) (h : lku pc cd = some (.if_icmp cc off, len, a, b, c, pl)) (hc : cmpB cc x y = false) (k : Rm E i (pc + 3) ls st M rv M2) : Rm E i pc ls (.int y :: .int x :: st) M rv M2 := R_ic hq h (by rw [hc]; exact k)
theorem R_tsd {x : Int32} {d lo hi : Int} {offs : Array Int} {t : Nat} (hq : cdOf i = some cd) (h : lku pc cd = some (.tableswitch d lo hi offs, len, a, b, c, pl)) (hc : x.toInt < lo ∨ hi < x.toInt) (ht : tgtS pc d = some t) (k : Rm E i t ls st M rv M2) : Rm E i pc ls (.int x :: st) M rv M2 := by
  refine N_A1 hq h ?_ k
  simp only [stpA, if_pos hc, ht, Option.map_some]
theorem R_top {x y : Int32} (h : x = y) (k : Rm E i pc ls (.int y :: st) M rv M2) : Rm E i pc ls (.int x :: st) M rv M2 := by rw [h]; exact k
theorem R_dv {x y z : Int32} {en : ent} (hq : cdOf i = some cd) (h : lku pc cd = some en) (hi : en.1 = .idiv ∧ z = x / y ∨ en.1 = .irem ∧ z = x - x / y * y) (hy : ¬ y = 0) (k : Rm E i (pc + 1) ls (.int z :: st) M rv M2) : Rm E i pc ls (.int y :: .int x :: st) M rv M2 := by
  refine N_A1 hq h ?_ k
  rcases hi with ⟨h1, rfl⟩ | ⟨h1, rfl⟩ <;> simp [stpA, h1, stAr, hy]
end MRULES
