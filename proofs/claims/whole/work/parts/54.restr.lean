/-! a run that stays among the first b cells is a run over them alone -/
def okV (b : Nat) (v : Value) : Prop := match v with | .ref a => a < b | .retAddr x => x ≠ 0 | _ => True
def okS (b : Nat) (st : List Value) : Prop := ∀ v ∈ st, okV b v
def okL (b : Nat) (ls : lcs) : Prop := ∀ v, some v ∈ ls → okV b v
def okC (b : Nat) (c : hcel) : Prop := match c with
  | .inr o => okS b o.2
  | .inl (_, _, .inl _) => True
  | .inl (_, _, .inr g) => ∀ j k, g j = some k → k < b
def okHp (b : Nat) (hp : hh) : Prop := ∀ (a : Nat) (c : hcel), a < b → hp.1[a]? = some c → okC b c
def cutH (b s : Nat) (hp : hh) : hh := (hp.1.take b, s)
section RESTR
variable {b s0 : Nat} {hp hp2 : hh} {ls ls2 : lcs} {st st2 r : List Value} {hk : hh} {L L' : Nat} {xs xs' : Nat → Int32} {en : ent} {pc pc2 : Nat}
def agr (b : Nat) (hp hk : hh) : Prop := ∀ a, a < b → hk.1[a]? = hp.1[a]?
theorem cut_at {a : Nat} (h : a < b) : (cutH b s0 hp).1[a]? = hp.1[a]? := by
  show (hp.1.take b)[a]? = _
  exact List.getElem?_take_of_lt h
theorem okS_c {v : Value} (h : okS b (v :: r)) : okV b v ∧ okS b r := ⟨h v List.mem_cons_self, fun w hw => h w (List.mem_cons_of_mem _ hw)⟩
theorem okS_k {v : Value} (h : okV b v) (g : okS b r) : okS b (v :: r) := fun w hw => by
  rcases List.mem_cons.mp hw with rfl | z
  · exact h
  · exact g w z
theorem okS_i {x : Int32} (g : okS b r) : okS b (.int x :: r) := okS_k trivial g
theorem stRd_r (hK : agr b hp hk) (hS : okS b st) (hH : okHp b hp) : stRd L' xs' en st hk = stRd L xs en st hp ∧ ∀ q, stRd L xs en st hp = some q → okS b q := by
  unfold stRd
  split
  · obtain ⟨h1, h2⟩ := okS_c hS
    rw [hK _ h1]
    refine ⟨rfl, fun q hq => ?_⟩
    split at hq
    · rename_i o ho
      split at hq
      · cases hq
      · split at hq
        · obtain ⟨v, hv, rfl⟩ := map_some_inv hq
          have hc := hH _ _ h1 ho
          exact okS_k (hc v (List.mem_of_getElem? hv)) h2
        · cases hq
    · cases hq
  · refine ⟨rfl, fun q hq => ?_⟩
    obtain ⟨h1, h2⟩ := okS_c hS
    split at hq
    · cases hq
      refine okS_k ?_ h2
      split <;> first | trivial | exact (by decide : (1 : Nat) ≠ 0) | exact (by decide : (2 : Nat) ≠ 0) | exact (by decide : (3 : Nat) ≠ 0)
    · cases hq
  · obtain ⟨h0, h12⟩ := okS_c hS
    obtain ⟨h1, h2⟩ := okS_c h12
    rw [hK _ h1]
    refine ⟨rfl, fun q hq => ?_⟩
    split at hq
    · split at hq
      · cases hq; exact okS_i h2
      · cases hq
    · cases hq
  · obtain ⟨h0, h12⟩ := okS_c hS
    exact absurd rfl (okS_c h12).1
  · obtain ⟨h0, h12⟩ := okS_c hS
    obtain ⟨h1, h2⟩ := okS_c h12
    rw [hK _ h1]
    refine ⟨rfl, fun q hq => ?_⟩
    split at hq
    · split at hq
      · cases hq; exact okS_i h2
      · cases hq
    · cases hq
  · refine ⟨rfl, fun q hq => ?_⟩
    obtain ⟨h0, h12⟩ := okS_c hS
    obtain ⟨h1, h2⟩ := okS_c h12
    split at hq
    · cases hq; exact okS_i h2
    · cases hq
  · obtain ⟨h0, h12⟩ := okS_c hS
    obtain ⟨h1, h2⟩ := okS_c h12
    rw [hK _ h1]
    refine ⟨rfl, fun q hq => ?_⟩
    split at hq
    · split at hq
      · cases hq; exact okS_i h2
      · cases hq
    · cases hq
  · obtain ⟨h0, h12⟩ := okS_c hS
    obtain ⟨h1, h2⟩ := okS_c h12
    rw [hK _ h1]
    refine ⟨rfl, fun q hq => ?_⟩
    split at hq
    · rename_i t n g hg
      split at hq
      · obtain ⟨k, hk, rfl⟩ := map_some_inv hq
        have hc := hH _ _ h1 hg
        exact okS_k (hc _ k hk) h2
      · cases hq
    · cases hq
  · obtain ⟨h1, h2⟩ := okS_c hS
    rw [hK _ h1]
    refine ⟨rfl, fun q hq => ?_⟩
    split at hq
    · split at hq
      · cases hq; exact okS_i h2
      · cases hq
    · cases hq
  · exact absurd rfl (okS_c hS).1
  · refine ⟨rfl, fun q hq => ?_⟩
    obtain ⟨h1, h2⟩ := okS_c hS
    cases hq; exact okS_i h2
  · exact ⟨rfl, fun q hq => by cases hq⟩
theorem okL_get {k : Nat} {v : Value} (h : okL b ls) (hv : lGet ls k = some v) : okV b v := h v (List.mem_of_getElem? (lGet_iff.mp hv))
theorem okL_set {k : Nat} {v : Value} (h : okL b ls) (hv : okV b v) : okL b (ls.set k (some v)) := fun w hw => by
  rcases List.mem_or_eq_of_mem_set hw with z | z
  · exact h w z
  · cases z; exact hv
theorem okL_setn {k : Nat} (h : okL b ls) : okL b (ls.set k none) := fun w hw => by
  rcases List.mem_or_eq_of_mem_set hw with z | z
  · exact h w z
  · cases z
theorem okL_clr {k : Nat} (h : okL b ls) : okL b (clr ls k) := by
  unfold clr
  split
  · exact h
  · split
    · split
      · exact okL_setn h
      · exact h
    · exact h
theorem okL_lSet {k : Nat} {v : Value} (h : okL b ls) (hv : okV b v) (hs : lSet ls k v = some ls2) : okL b ls2 := by
  unfold lSet at hs
  split at hs
  · cases hs; exact okL_set (okL_clr h) hv
  · cases hs
theorem okL_lSet2 {k : Nat} {v : Value} (h : okL b ls) (hv : okV b v) (hs : lSet2 ls k v = some ls2) : okL b ls2 := by
  unfold lSet2 at hs
  split at hs
  · cases hs; exact okL_setn (okL_set (okL_clr h) hv)
  · cases hs
theorem stAr_ok {ins : Instr} (hS : okS b st) {q : List Value} (h : stAr ins st = some q) : okS b q := by
  unfold stAr at h
  split at h
  all_goals first
    | (cases h; done)
    | (cases h; first | exact okS_k trivial (okS_c (okS_c hS).2).2 | exact okS_k trivial (okS_c hS).2 | exact okS_k trivial hS)
    | (split at h
       · first | (cases h; done) | (cases h; first | exact okS_k (okS_c hS).1 hS | exact (okS_c hS).2 | exact okS_k (okS_c hS).1 (okS_k (okS_c (okS_c hS).2).1 hS))
       · first | (cases h; done) | (cases h; exact okS_k trivial (okS_c (okS_c hS).2).2))
theorem stpA_r (hK : agr b hp hk) (hL : okL b ls) (hS : okS b st) (hH : okHp b hp) : stpA L' xs' en pc ls st hk = stpA L xs en pc ls st hp ∧ ∀ q, stpA L xs en pc ls st hp = some q → okL b q.2.1 ∧ okS b q.2.2 := by
  have ldI : ∀ {k n : Nat} {q}, stLdI ls k n pc st = some q → okL b q.2.1 ∧ okS b q.2.2 := by
    intro k n q h
    obtain ⟨p1, p2, p3⟩ := q
    obtain ⟨x, h1, rfl, rfl, rfl⟩ := stLdI_inv h
    exact ⟨hL, okS_k trivial hS⟩
  have ldL : ∀ {k n : Nat} {q}, stLdL ls k n pc st = some q → okL b q.2.1 ∧ okS b q.2.2 := by
    intro k n q h
    obtain ⟨p1, p2, p3⟩ := q
    obtain ⟨x, h1, rfl, rfl, rfl⟩ := stLdL_inv h
    exact ⟨hL, okS_k trivial hS⟩
  have ldA : ∀ {k n : Nat} {q}, stLdA ls k n pc st = some q → okL b q.2.1 ∧ okS b q.2.2 := by
    intro k n q h
    unfold stLdA at h
    split at h
    · rename_i x hx
      cases h
      exact ⟨hL, okS_k (okL_get hL hx) hS⟩
    · rename_i x hx
      split at h
      · cases h; exact ⟨hL, okS_k (okL_get hL hx) hS⟩
      · cases h
    · cases h
  have stI : ∀ {k n : Nat} {q}, stStI ls k n pc st = some q → okL b q.2.1 ∧ okS b q.2.2 := by
    intro k n q h
    unfold stStI at h
    split at h
    · obtain ⟨l2, h2, rfl⟩ := map_some_inv h
      exact ⟨okL_lSet (v := .int _) hL trivial h2, (okS_c hS).2⟩
    · cases h
  have stL : ∀ {k n : Nat} {q}, stStL ls k n pc st = some q → okL b q.2.1 ∧ okS b q.2.2 := by
    intro k n q h
    unfold stStL at h
    split at h
    · obtain ⟨l2, h2, rfl⟩ := map_some_inv h
      exact ⟨okL_lSet2 (v := .long _) hL trivial h2, (okS_c hS).2⟩
    · cases h
  have stAA : ∀ {k n : Nat} {q}, stStA ls k n pc st = some q → okL b q.2.1 ∧ okS b q.2.2 := by
    intro k n q h
    unfold stStA at h
    split at h
    · obtain ⟨l2, h2, rfl⟩ := map_some_inv h
      exact ⟨okL_lSet hL (okS_c hS).1 h2, (okS_c hS).2⟩
    · cases h
  have rd : ∀ (n : Nat), (stRd L' xs' en st hk).map (fun s2 => (pc + n, ls, s2)) = (stRd L xs en st hp).map (fun s2 => (pc + n, ls, s2)) ∧ ∀ q, (stRd L xs en st hp).map (fun s2 => (pc + n, ls, s2)) = some q → okL b q.2.1 ∧ okS b q.2.2 := by
    intro n
    obtain ⟨r1, r2⟩ := stRd_r (L := L) (xs := xs) (L' := L') (xs' := xs') (en := en) hK hS hH
    refine ⟨by rw [r1], fun q hq => ?_⟩
    obtain ⟨s2, h2, rfl⟩ := map_some_inv hq
    exact ⟨hL, r2 s2 h2⟩
  unfold stpA
  split
  · exact ⟨rfl, fun q h => ldI h⟩
  · exact ⟨rfl, fun q h => ldI h⟩
  · exact ⟨rfl, fun q h => ldL h⟩
  · exact ⟨rfl, fun q h => ldL h⟩
  · exact ⟨rfl, fun q h => ldA h⟩
  · exact ⟨rfl, fun q h => ldA h⟩
  · exact ⟨rfl, fun q h => stI h⟩
  · exact ⟨rfl, fun q h => stI h⟩
  · exact ⟨rfl, fun q h => stL h⟩
  · exact ⟨rfl, fun q h => stL h⟩
  · exact ⟨rfl, fun q h => stAA h⟩
  · exact ⟨rfl, fun q h => stAA h⟩
  · refine ⟨rfl, fun q h => ?_⟩
    split at h
    · obtain ⟨l2, h2, rfl⟩ := map_some_inv h
      exact ⟨okL_lSet (v := .int _) hL trivial h2, hS⟩
    · cases h
  · exact ⟨rfl, fun q h => by cases h; exact ⟨hL, okS_k trivial hS⟩⟩
  · exact ⟨rfl, fun q h => by cases h; exact ⟨hL, okS_k trivial hS⟩⟩
  · refine ⟨rfl, fun q h => ?_⟩
    cases h
    refine ⟨hL, okS_k ?_ hS⟩
    split <;> first | trivial | exact (by decide : (1 : Nat) ≠ 0) | exact (by decide : (2 : Nat) ≠ 0) | exact (by decide : (3 : Nat) ≠ 0)
  · exact ⟨rfl, fun q h => by cases h; exact ⟨hL, okS_k trivial hS⟩⟩
  · refine ⟨rfl, fun q h => ?_⟩
    cases h
    refine ⟨hL, okS_k ?_ hS⟩
    split <;> first | trivial | exact (by decide : (1 : Nat) ≠ 0) | exact (by decide : (2 : Nat) ≠ 0) | exact (by decide : (3 : Nat) ≠ 0)
  · exact ⟨rfl, fun q h => by cases h; exact ⟨hL, hS⟩⟩
  · refine ⟨rfl, fun q h => ?_⟩
    split at h
    · cases h; exact ⟨hL, (okS_c hS).2⟩
    · cases h
  · refine ⟨rfl, fun q h => ?_⟩
    split at h
    · cases h; exact ⟨hL, (okS_c (okS_c hS).2).2⟩
    · cases h
  · refine ⟨rfl, fun q h => ?_⟩
    split at h
    · split at h
      · obtain ⟨t, h2, rfl⟩ := map_some_inv h
        exact ⟨hL, (okS_c hS).2⟩
      · split at h
        · obtain ⟨t, h2, rfl⟩ := map_some_inv h
          exact ⟨hL, (okS_c hS).2⟩
        · cases h
    · cases h
  · refine ⟨rfl, fun q h => ?_⟩
    split at h
    · obtain ⟨t, h2, rfl⟩ := map_some_inv h
      exact ⟨hL, (okS_c hS).2⟩
    · cases h
  · refine ⟨rfl, fun q h => ?_⟩
    split at h
    · split at h
      · cases h; exact ⟨hL, (okS_c hS).2⟩
      · cases h
    · cases h
  · refine ⟨rfl, fun q h => ?_⟩
    split at h
    · split at h
      · cases h; exact ⟨hL, okS_k trivial (okS_c (okS_c hS).2).2⟩
      · split at h
        · cases h; exact ⟨hL, okS_k trivial (okS_c (okS_c hS).2).2⟩
        · cases h
    · cases h
  · exact rd 3
  · exact rd 1
  · exact rd 1
  · exact rd 1
  · exact rd 1
  · exact rd 1
  · refine ⟨rfl, fun q h => ?_⟩
    obtain ⟨s2, h2, rfl⟩ := map_some_inv h
    exact ⟨hL, stAr_ok hS h2⟩
theorem okH_set {a : Nat} {c : hcel} (hH : okHp b hp) (hc : okC b c) : okHp b (hp.1.set a c, hp.2) := by
  intro x d hx hd
  have hd2 : (hp.1.set a c)[x]? = some d := hd
  rw [List.getElem?_set] at hd2
  split at hd2
  · split at hd2
    · cases hd2; exact hc
    · cases hd2
  · exact hH x d hx hd2
theorem cut_set {a : Nat} {c : hcel} (s : Nat) : ((cutH b s0 hp).1.set a c, s0) = cutH b s0 (hp.1.set a c, s) := by
  unfold cutH
  show ((hp.1.take b).set a c, s0) = ((hp.1.set a c).take b, s0)
  rw [List.take_set]
theorem okS_set {vs : List Value} {k : Nat} {v : Value} (h : okS b vs) (hv : okV b v) : okS b (vs.set k v) := fun w hw => by
  rcases List.mem_or_eq_of_mem_set hw with z | z
  · exact h w z
  · rw [z]; exact hv
theorem okH_app {c : hcel} {s : Nat} (hH : okHp b hp) (hc : okC b c) : okHp b (hp.1 ++ [c], s) := by
  intro x d hx hd
  rcases app_at (l := hp.1) hd with ⟨h1, h2⟩ | ⟨h1, h2⟩
  · exact hH x d hx h1
  · rw [h2]; exact hc
theorem dv_ok (ft : FieldType) : okV b (defaultValue ft) := by cases ft <;> trivial
theorem dflt_ok (ci : Nat) : okS b (dflt ci) := by
  intro v hv
  unfold dflt at hv
  split at hv
  · obtain ⟨k, -, rfl⟩ := List.mem_map.mp hv
    exact dv_ok _
  · cases hv
/-- what a step that changes cells does, if it makes none -/
theorem stpB_r (hS : okS b st) (hH : okHp b hp) : (∃ q, stpB en st hp = some q ∧ hp.1.length < q.2.1.length ∧ (hp.1.length < b → okS b q.1 ∧ okHp b q.2)) ∨ (stpB en st hp = none ∧ stpB en st (cutH b s0 hp) = none) ∨ ∃ q, stpB en st hp = some q ∧ stpB en st (cutH b s0 hp) = some (q.1, cutH b s0 q.2) ∧ okS b q.1 ∧ okHp b q.2 ∧ hp.1.length = q.2.1.length := by
  unfold stpB
  split
  · obtain ⟨h1, h23⟩ := okS_c hS
    obtain ⟨h2, h3⟩ := okS_c h23
    rename_i v a r heq
    rw [cut_at h2]
    right
    cases ho : hp.1[a]? with
    | none => exact Or.inl ⟨rfl, rfl⟩
    | some c => cases c with
      | inl z => exact Or.inl ⟨rfl, rfl⟩
      | inr o => cases ht : fTy (eA en) (eB en) with
        | none => exact Or.inl ⟨rfl, rfl⟩
        | some t =>
          dsimp only
          by_cases hc : (decide (o.1 = eA en) && decide (eB en < o.2.length) && okv t v) = true
          · rw [if_pos hc, if_pos hc]
            exact Or.inr ⟨_, rfl, congrArg some (congrArg (Prod.mk r) (cut_set hp.2)), h3, okH_set hH (show okS b _ from okS_set (hH _ _ h2 ho) h1), (List.length_set ..).symm⟩
          · rw [if_neg hc, if_neg hc]
            exact Or.inl ⟨rfl, rfl⟩
  · obtain ⟨h1, h23⟩ := okS_c hS
    obtain ⟨h2, h34⟩ := okS_c h23
    obtain ⟨h3, h4⟩ := okS_c h34
    rename_i i a r heq
    rw [cut_at h3]
    right
    cases ho : hp.1[a]? with
    | none => exact Or.inl ⟨rfl, rfl⟩
    | some c => cases c with
      | inr o => exact Or.inl ⟨rfl, rfl⟩
      | inl z =>
        obtain ⟨t, n, f⟩ := z
        cases f with
        | inr g => exact Or.inl ⟨rfl, rfl⟩
        | inl f =>
          dsimp only
          by_cases hc : (decide (t = 0) && inB i n) = true
          · rw [if_pos hc, if_pos hc]
            exact Or.inr ⟨_, rfl, congrArg some (congrArg (Prod.mk r) (cut_set hp.2)), h4, okH_set hH trivial, (List.length_set ..).symm⟩
          · rw [if_neg hc, if_neg hc]
            exact Or.inl ⟨rfl, rfl⟩
  · obtain ⟨h1, h23⟩ := okS_c hS
    obtain ⟨h2, h34⟩ := okS_c h23
    obtain ⟨h3, h4⟩ := okS_c h34
    rename_i i a r heq
    rw [cut_at h3]
    right
    cases ho : hp.1[a]? with
    | none => exact Or.inl ⟨rfl, rfl⟩
    | some c => cases c with
      | inr o => exact Or.inl ⟨rfl, rfl⟩
      | inl z =>
        obtain ⟨t, n, f⟩ := z
        cases f with
        | inr g => exact Or.inl ⟨rfl, rfl⟩
        | inl f =>
          dsimp only
          by_cases hc : (decide (t = 1) && inB i n) = true
          · rw [if_pos hc, if_pos hc]
            exact Or.inr ⟨_, rfl, congrArg some (congrArg (Prod.mk r) (cut_set hp.2)), h4, okH_set hH trivial, (List.length_set ..).symm⟩
          · rw [if_neg hc, if_neg hc]
            exact Or.inl ⟨rfl, rfl⟩
  · obtain ⟨h1, h23⟩ := okS_c hS
    obtain ⟨h2, h34⟩ := okS_c h23
    obtain ⟨h3, h4⟩ := okS_c h34
    rename_i i a r heq
    rw [cut_at h3]
    right
    cases ho : hp.1[a]? with
    | none => exact Or.inl ⟨rfl, rfl⟩
    | some c => cases c with
      | inr o => exact Or.inl ⟨rfl, rfl⟩
      | inl z =>
        obtain ⟨t, n, f⟩ := z
        cases f with
        | inr g => exact Or.inl ⟨rfl, rfl⟩
        | inl f =>
          dsimp only
          by_cases hc : (decide (t = 2) && inB i n) = true
          · rw [if_pos hc, if_pos hc]
            exact Or.inr ⟨_, rfl, congrArg some (congrArg (Prod.mk r) (cut_set hp.2)), h4, okH_set hH trivial, (List.length_set ..).symm⟩
          · rw [if_neg hc, if_neg hc]
            exact Or.inl ⟨rfl, rfl⟩
  · obtain ⟨h1, h23⟩ := okS_c hS
    obtain ⟨h2, h34⟩ := okS_c h23
    obtain ⟨h3, h4⟩ := okS_c h34
    rename_i v i a r heq
    rw [cut_at h3, cut_at h1]
    right
    cases ho : hp.1[a]? with
    | none => exact Or.inl ⟨rfl, rfl⟩
    | some c => cases c with
      | inr o => exact Or.inl ⟨rfl, rfl⟩
      | inl z =>
        obtain ⟨t, n, f⟩ := z
        cases f with
        | inl f => exact Or.inl ⟨rfl, rfl⟩
        | inr g => cases hv : hp.1[v]? with
          | none => exact Or.inl ⟨rfl, rfl⟩
          | some d => cases d with
            | inl z => exact Or.inl ⟨rfl, rfl⟩
            | inr o =>
              dsimp only
              by_cases hc : (decide (t = 3) && decide (o.1 = 0) && inB i n) = true
              · rw [if_pos hc, if_pos hc]
                refine Or.inr ⟨_, rfl, congrArg some (congrArg (Prod.mk r) (cut_set hp.2)), h4, okH_set hH (fun j k hk => ?_), (List.length_set ..).symm⟩
                unfold va_up at hk
                split at hk
                · cases hk; exact h1
                · exact hH _ _ h3 ho j k hk
              · rw [if_neg hc, if_neg hc]
                exact Or.inl ⟨rfl, rfl⟩
  · obtain ⟨h1, h23⟩ := okS_c hS
    obtain ⟨h2, h34⟩ := okS_c h23
    obtain ⟨h3, h45⟩ := okS_c h34
    obtain ⟨h4, h56⟩ := okS_c h45
    obtain ⟨h5, h6⟩ := okS_c h56
    rename_i a sp a0 r heq
    rw [cut_at h3, cut_at h5]
    right
    cases ho : hp.1[a0]? with
    | none => exact Or.inl ⟨rfl, rfl⟩
    | some c => cases c with
      | inr o => exact Or.inl ⟨rfl, rfl⟩
      | inl z =>
        obtain ⟨t0, n0, f⟩ := z
        cases f with
        | inr g => exact Or.inl ⟨rfl, rfl⟩
        | inl f => cases hv : hp.1[a]? with
          | none => exact Or.inl ⟨rfl, rfl⟩
          | some d => cases d with
            | inr z => exact Or.inl ⟨rfl, rfl⟩
            | inl z =>
              obtain ⟨t1, n1, g⟩ := z
              cases g with
              | inr g => exact Or.inl ⟨rfl, rfl⟩
              | inl g =>
                dsimp only
                split
                · exact Or.inr ⟨_, rfl, congrArg some (congrArg (Prod.mk r) (cut_set hp.2)), h6, okH_set hH trivial, (List.length_set ..).symm⟩
                · exact Or.inl ⟨rfl, rfl⟩
  · split
    · left
      exact ⟨_, rfl, by simp, fun hb => ⟨okS_k hb (okS_c hS).2, okH_app hH trivial⟩⟩
    · exact Or.inr (Or.inl ⟨rfl, rfl⟩)
  · split
    · left
      exact ⟨_, rfl, by simp, fun hb => ⟨okS_k hb (okS_c hS).2, okH_app hH (fun j k hk => by cases hk)⟩⟩
    · exact Or.inr (Or.inl ⟨rfl, rfl⟩)
  · split
    · left
      exact ⟨_, rfl, by simp, fun hb => ⟨okS_k hb hS, okH_app hH (show okS b _ from dflt_ok _)⟩⟩
    · exact Or.inr (Or.inl ⟨rfl, rfl⟩)
  · exact Or.inr (Or.inl ⟨rfl, rfl⟩)
theorem okS_drop {k : Nat} (h : okS b st) : okS b (st.drop k) := fun v hv => h v (List.mem_of_mem_drop hv)
theorem okS_rt {k : Nat} (h : okS b st) : okS b (st.take k).reverse := fun v hv => h v (List.mem_of_mem_take (List.mem_reverse.mp hv))
theorem stpC_r (hS : okS b st) : stpC en st (cutH b s0 hp) = stpC en st hp ∧ ∀ q, stpC en st hp = some q → okS b q.2.1 ∧ okS b q.2.2 := by
  unfold stpC
  split
  · have hr := okS_rt (k := eB en) hS
    have hd := okS_drop (k := eB en) hS
    split
    · rename_i heq
      rw [heq] at hr
      have h1 := (okS_c hr).1
      rw [cut_at h1]
      refine ⟨rfl, fun q hq => ?_⟩
      split at hq
      · split at hq
        · cases hq
        · split at hq
          · cases hq; exact ⟨hr, hd⟩
          · cases hq
      · cases hq
    · rename_i heq
      rw [heq] at hr
      refine ⟨rfl, fun q hq => ?_⟩
      split at hq
      · cases hq; exact ⟨hr, hd⟩
      · cases hq
    · rename_i heq
      rw [heq] at hr
      exact ⟨rfl, fun q hq => by cases hq; exact ⟨hr, hd⟩⟩
    · exact ⟨rfl, fun q hq => by cases hq; exact ⟨hr, hd⟩⟩
    · exact ⟨rfl, fun q hq => by cases hq⟩
  · exact ⟨rfl, fun q hq => by cases hq⟩
theorem stpB_len (h : stpB en st hp = some (st2, hp2)) : hp.1.length ≤ hp2.1.length := by
  unfold stpB at h
  split at h
  all_goals first
    | (cases h; done)
    | (split at h
       all_goals first
         | (cases h; done)
         | (cases h; simp; done)
         | (split at h
            all_goals first
              | (cases h; done)
              | (cases h; simp; done)))
theorem exec_len : ∀ {n i pc : Nat} {ls : lcs} {st : List Value} {hp : hh} {rv : Option Value} {hp2 : hh}, exec L xs n i pc ls st hp = some (rv, hp2) → hp.1.length ≤ hp2.1.length
  | 0, i, pc, ls, st, hp, rv, hp2, h => by cases h
  | n + 1, i, pc, ls, st, hp, rv, hp2, h => by
    rw [exec_succ] at h
    unfold exB at h
    split at h
    · split at h
      · exact exec_len h
      · split at h
        · rename_i hB
          exact Nat.le_trans (stpB_len hB) (exec_len h)
        · split at h
          · split at h
            · split at h
              · split at h
                · rename_i hx
                  exact Nat.le_trans (exec_len hx) (exec_len h)
                · cases h
              · cases h
            · cases h
          · obtain ⟨z, h2, h3⟩ := map_some_inv h
            cases h3
            exact Nat.le_refl _
    · cases h
theorem okL_ent0 {n : Nat} {as : List Value} (h : okS b as) : okL b (ent0 n as) := fun v hv => by
  unfold ent0 at hv
  rcases List.mem_append.mp hv with z | z
  · obtain ⟨w, hw, hz⟩ := List.mem_flatMap.mp z
    split at hz
    · rcases List.mem_cons.mp hz with q | q
      · cases q; exact h v hw
      · rcases List.mem_cons.mp q with q | q
        · cases q
        · cases q
    · rcases List.mem_cons.mp hz with q | q
      · cases q; exact h v hw
      · cases q
  · have := List.eq_of_mem_replicate z
    cases this
theorem stpR_ok {q : minfo} {rv : Option Value} (h : stpR q en st = some rv) : ∀ v, rv = some v → okV b v := by
  unfold stpR at h
  split at h
  · split at h
    · cases h; intro v hv; cases hv; trivial
    · cases h
  · cases h; intro v hv; cases hv
  · cases h
theorem exec_r : ∀ {n i pc : Nat} {ls : lcs} {st : List Value} {hp : hh} {rv : Option Value} {hp2 : hh}, exec L xs n i pc ls st hp = some (rv, hp2) → hp2.1.length = hp.1.length → okL b ls → okS b st → okHp b hp → exec L' xs' n i pc ls st (cutH b s0 hp) = some (rv, cutH b s0 hp2) ∧ okHp b hp2 ∧ ∀ v, rv = some v → okV b v
  | 0, i, pc, ls, st, hp, rv, hp2, h, _, _, _, _ => by cases h
  | n + 1, i, pc, ls, st, hp, rv, hp2, h, hl, hL, hS, hH => by
    rw [exec_succ] at h ⊢
    unfold exB at h ⊢
    split at h
    · rename_i q en hq hen
      obtain ⟨a1, a2⟩ := stpA_r (L := L) (xs := xs) (L' := L') (xs' := xs') (en := en) (pc := pc) (hk := cutH b s0 hp) (fun a h => cut_at h) hL hS hH
      obtain ⟨c1, c2⟩ := stpC_r (en := en) (s0 := s0) (hp := hp) hS
      rw [a1]
      split at h
      · rename_i pc2 ls2 st2 hA
        obtain ⟨h1, h2⟩ := a2 _ hA
        exact exec_r h hl h1 h2 hH
      · rename_i hA
        rcases stpB_r (en := en) (s0 := s0) hS hH with ⟨z, hz, hlt, -⟩ | ⟨hz, hz2⟩ | ⟨z, hz, hz2, z1, z2, z3⟩
        · rw [hz] at h
          have := exec_len h
          omega
        · rw [hz] at h
          rw [hz2, c1]
          dsimp only at h ⊢
          split at h
          · rename_i j as r hC
            obtain ⟨h1, h2⟩ := c2 _ hC
            split at h
            · rename_i qj hj
              split at h
              · rename_i hc
                rw [if_pos hc]
                split at h
                · rename_i rv1 hp1 hx
                  have l1 := exec_len hx
                  have l2 := exec_len h
                  obtain ⟨x1, x2, x3⟩ := exec_r hx (by omega) (okL_ent0 h1) (fun v hv => by cases hv) hH
                  rw [x1]
                  refine exec_r h (by omega) hL (fun v hv => ?_) x2
                  rcases List.mem_append.mp hv with y | y
                  · cases rv1 with
                    | none => cases y
                    | some w =>
                      have : v = w := by simpa using y
                      rw [this]; exact x3 w rfl
                  · exact h2 v y
                · cases h
              · cases h
            · cases h
          · obtain ⟨z, h2, h3⟩ := map_some_inv h
            cases h3
            rw [h2]
            exact ⟨rfl, hH, stpR_ok h2⟩
        · rw [hz] at h
          rw [hz2]
          exact exec_r h (by omega) hL z1 z2
    · cases h
theorem exec_E : ∀ {n i pc : Nat} {ls : lcs} {st : List Value} {hp : hh} {rv : Option Value} {hp2 : hh}, exec L xs n i pc ls st hp = some (rv, hp2) → hp2.1.length < b → okL b ls → okS b st → okHp b hp → exec L' xs' n i pc ls st hp = some (rv, hp2) ∧ okHp b hp2 ∧ ∀ v, rv = some v → okV b v
  | 0, i, pc, ls, st, hp, rv, hp2, h, _, _, _, _ => by cases h
  | n + 1, i, pc, ls, st, hp, rv, hp2, h, hl, hL, hS, hH => by
    rw [exec_succ] at h ⊢
    unfold exB at h ⊢
    split at h
    · rename_i q en hq hen
      obtain ⟨a1, a2⟩ := stpA_r (L := L) (xs := xs) (L' := L') (xs' := xs') (en := en) (pc := pc) (hk := hp) (fun a h => rfl) hL hS hH
      obtain ⟨c1, c2⟩ := stpC_r (en := en) (s0 := 0) (hp := hp) hS
      rw [a1]
      split at h
      · rename_i pc2 ls2 st2 hA
        obtain ⟨h1, h2⟩ := a2 _ hA
        exact exec_E h hl h1 h2 hH
      · rename_i hA
        rcases stpB_r (en := en) (s0 := 0) hS hH with ⟨z, hz, hlt, hzz⟩ | ⟨hz, hz2⟩ | ⟨z, hz, hz2, z1, z2, z3⟩
        · rw [hz] at h ⊢
          have := exec_len h
          obtain ⟨y1, y2⟩ := hzz (by omega)
          exact exec_E h hl hL y1 y2
        · rw [hz] at h ⊢
          dsimp only at h ⊢
          split at h
          · rename_i j as r hC
            obtain ⟨h1, h2⟩ := c2 _ hC
            split at h
            · rename_i qj hj
              split at h
              · rename_i hc
                rw [if_pos hc]
                split at h
                · rename_i rv1 hp1 hx
                  have l2 := exec_len h
                  obtain ⟨x1, x2, x3⟩ := exec_E hx (by omega) (okL_ent0 h1) (fun v hv => by cases hv) hH
                  rw [x1]
                  refine exec_E h hl hL (fun v hv => ?_) x2
                  rcases List.mem_append.mp hv with y | y
                  · cases rv1 with
                    | none => cases y
                    | some w =>
                      have : v = w := by simpa using y
                      rw [this]; exact x3 w rfl
                  · exact h2 v y
                · cases h
              · cases h
            · cases h
          · obtain ⟨z, h2, h3⟩ := map_some_inv h
            cases h3
            rw [h2]
            exact ⟨rfl, hH, stpR_ok h2⟩
        · rw [hz] at h ⊢
          exact exec_E h hl hL z1 z2
    · cases h
theorem Rn_r {E E' : env} {i pc : Nat} {ls : lcs} {st : List Value} {hp hp2 : hh} {rv : Option Value} (h : Rn E i pc ls st hp rv hp2) (hl : hp2.1.length = hp.1.length) (hL : okL b ls) (hS : okS b st) (hH : okHp b hp) : Rn E' i pc ls st (cutH b s0 hp) rv (cutH b s0 hp2) := by
  obtain ⟨n, h⟩ := h
  exact ⟨n, (exec_r h hl hL hS hH).1⟩
end RESTR
