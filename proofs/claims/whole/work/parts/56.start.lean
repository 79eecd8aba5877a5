/-! the class's cells are made: a closed run, read off by the kernel -/
def runTo (L : Nat) (xs : Nat → Int32) : Nat → Nat → Nat → Nat → lcs → List Value → hh → Option (lcs × List Value × hh)
  | 0, _, _, _, _, _, _ => none
  | n + 1, i, tg, pc, ls, st, hp =>
    if pc = tg then some (ls, st, hp) else
    match mtab[i]?, ctab i pc with
    | some _, some en =>
      (match stpA L xs en pc ls st hp with
      | some (pc2, ls2, st2) => runTo L xs n i tg pc2 ls2 st2 hp
      | none =>
        (match stpB en st hp with
        | some (st2, hp2) => runTo L xs n i tg (pc + en.2.1) ls st2 hp2
        | none =>
          (match stpC en st hp with
          | some (j, as, r) =>
            (match mtab[j]? with
            | some qj =>
              if decide ((ent0 (mLx qj) as).length = mLx qj) && decide (0 < j) then
                (match exec L xs n j 0 (ent0 (mLx qj) as) [] hp with
                | some (rv, hp2) => runTo L xs n i tg (pc + 3) ls (rv.toList ++ r) hp2
                | none => none)
              else none
            | none => none)
          | none => none)))
    | _, _ => none
def rfN (c : hcel) : Prop := match c with | .inl (_, n, .inr g) => ∀ j, n ≤ j → g j = none | _ => True
def rfH (hp : hh) : Prop := ∀ c ∈ hp.1, rfN c
section START
variable {b : Nat} {L : Nat} {xs : Nat → Int32} {E : env} {en : ent} {st st2 : List Value} {hp hp2 : hh}
theorem rfH_set {a s : Nat} {c : hcel} (h : rfH hp) (hc : rfN c) : rfH (hp.1.set a c, s) := fun d hd => by
  rcases List.mem_or_eq_of_mem_set hd with z | z
  · exact h d z
  · rw [z]; exact hc
theorem rfH_app {s : Nat} {c : hcel} (h : rfH hp) (hc : rfN c) : rfH (hp.1 ++ [c], s) := fun d hd => by
  rcases List.mem_append.mp hd with z | z
  · exact h d z
  · rw [List.mem_singleton.mp z]; exact hc
theorem inB_lt {i : Int32} {n : Nat} (h : inB i n = true) : i.toNatClampNeg < n := by
  unfold inB at h
  rw [Bool.and_eq_true] at h
  exact of_decide_eq_true h.2
theorem stpB_rf (h : stpB en st hp = some (st2, hp2)) (hr : rfH hp) : rfH hp2 := by
  unfold stpB at h
  split at h
  · split at h
    · split at h
      · cases h; exact rfH_set hr trivial
      · cases h
    · cases h
  · split at h
    · split at h
      · cases h; exact rfH_set hr trivial
      · cases h
    · cases h
  · split at h
    · split at h
      · cases h; exact rfH_set hr trivial
      · cases h
    · cases h
  · split at h
    · split at h
      · cases h; exact rfH_set hr trivial
      · cases h
    · cases h
  · split at h
    · rename_i t n g o hg ho
      split at h
      · rename_i hc
        cases h
        refine rfH_set hr (fun j hj => ?_)
        rw [Bool.and_eq_true] at hc
        have hi := inB_lt hc.2
        have hg2 : rfN (.inl (t, n, .inr g)) := hr _ (List.mem_of_getElem? hg)
        unfold va_up
        rw [if_neg (by omega)]
        exact hg2 j hj
      · cases h
    · cases h
  · split at h
    · split at h
      · cases h; exact rfH_set hr trivial
      · cases h
    · cases h
  · split at h
    · cases h; exact rfH_app hr trivial
    · cases h
  · split at h
    · cases h; exact rfH_app hr (fun _ _ => rfl)
    · cases h
  · split at h
    · cases h; exact rfH_app hr trivial
    · cases h
  · cases h
theorem exec_rf : ∀ {n i pc : Nat} {ls : lcs} {st : List Value} {hp : hh} {rv : Option Value} {hp2 : hh}, exec L xs n i pc ls st hp = some (rv, hp2) → rfH hp → rfH hp2
  | 0, i, pc, ls, st, hp, rv, hp2, h, _ => by cases h
  | n + 1, i, pc, ls, st, hp, rv, hp2, h, hr => by
    rw [exec_succ] at h
    unfold exB at h
    split at h
    · split at h
      · exact exec_rf h hr
      · split at h
        · rename_i hB
          exact exec_rf h (stpB_rf hB hr)
        · split at h
          · split at h
            · split at h
              · split at h
                · rename_i hx
                  exact exec_rf h (exec_rf hx hr)
                · cases h
              · cases h
            · cases h
          · obtain ⟨z, h2, h3⟩ := map_some_inv h
            cases h3
            exact hr
    · cases h
theorem runTo_len : ∀ {n i tg pc : Nat} {ls ls' : lcs} {st st' : List Value} {hp hp' : hh}, runTo L xs n i tg pc ls st hp = some (ls', st', hp') → hp.1.length ≤ hp'.1.length ∧ (rfH hp → rfH hp')
  | 0, i, tg, pc, ls, ls', st, st', hp, hp', h => by cases h
  | n + 1, i, tg, pc, ls, ls', st, st', hp, hp', h => by
    unfold runTo at h
    split at h
    · cases h; exact ⟨Nat.le_refl _, fun z => z⟩
    · split at h
      · split at h
        · exact runTo_len h
        · split at h
          · rename_i hB
            obtain ⟨h1, h2⟩ := runTo_len h
            exact ⟨Nat.le_trans (stpB_len hB) h1, fun z => h2 (stpB_rf hB z)⟩
          · split at h
            · split at h
              · split at h
                · split at h
                  · rename_i hx
                    obtain ⟨h1, h2⟩ := runTo_len h
                    exact ⟨Nat.le_trans (exec_len hx) h1, fun z => h2 (exec_rf hx z)⟩
                  · cases h
                · cases h
              · cases h
            · cases h
      · cases h
theorem runTo_sound : ∀ {n i tg pc : Nat} {ls ls' : lcs} {st st' : List Value} {hp hp' : hh} {rv : Option Value} {hpF : hh}, runTo L xs n i tg pc ls st hp = some (ls', st', hp') → hp'.1.length < b → okL b ls → okS b st → okHp b hp → Rn E i tg ls' st' hp' rv hpF → Rn E i pc ls st hp rv hpF
  | 0, i, tg, pc, ls, ls', st, st', hp, hp', rv, hpF, h, _, _, _, _, _ => by cases h
  | n + 1, i, tg, pc, ls, ls', st, st', hp, hp', rv, hpF, h, hl, hL, hS, hH, k => by
    unfold runTo at h
    split at h
    · rename_i he
      cases h
      rw [he]
      exact k
    · split at h
      · rename_i q en hq hen
        obtain ⟨a1, a2⟩ := stpA_r (L := L) (xs := xs) (L' := E.1) (xs' := E.2) (en := en) (pc := pc) (hk := hp) (fun a h => rfl) hL hS hH
        obtain ⟨c1, c2⟩ := stpC_r (en := en) (s0 := 0) (hp := hp) hS
        have hcd : cdOf i = some (mCd q) := by unfold cdOf; rw [hq]; rfl
        have hlk : lku pc (mCd q) = some en := by unfold ctab at hen; rw [hq] at hen; exact hen
        split at h
        · rename_i pc2 ls2 st2 hA
          obtain ⟨h1, h2⟩ := a2 _ hA
          exact N_A1 hcd hlk (a1.trans hA) (runTo_sound h hl h1 h2 hH k)
        · rename_i hA
          rcases stpB_r (en := en) (s0 := 0) hS hH with ⟨z, hz, hlt, hzz⟩ | ⟨hz, hz2⟩ | ⟨z, hz, hz2, z1, z2, z3⟩
          · rw [hz] at h
            have := (runTo_len h).1
            obtain ⟨y1, y2⟩ := hzz (by omega)
            exact N_B1 hcd hlk (a1.trans hA) hz (runTo_sound h hl hL y1 y2 k)
          · rw [hz] at h
            dsimp only at h
            split at h
            · rename_i j as r hC
              obtain ⟨h1, h2⟩ := c2 _ hC
              split at h
              · rename_i qj hj
                split at h
                · rename_i hc
                  split at h
                  · rename_i rv1 hp1 hx
                    have l2 := (runTo_len h).1
                    obtain ⟨x1, x2, x3⟩ := exec_E (L' := E.1) (xs' := E.2) hx (show hp1.1.length < b by omega) (okL_ent0 h1) (fun v hv => by cases hv) hH
                    refine N_C1 hcd hlk (a1.trans hA) hz hC hj hc ⟨n, x1⟩ (runTo_sound h hl hL (fun v hv => ?_) x2 k)
                    rcases List.mem_append.mp hv with y | y
                    · cases rv1 with
                      | none => cases y
                      | some w =>
                        have : v = w := by simpa using y
                        rw [this]; exact x3 w rfl
                    · exact h2 v y
                  · cases h
                · cases h
              · cases h
            · cases h
          · rw [hz] at h
            exact N_B1 hcd hlk (a1.trans hA) hz (runTo_sound h hl hL z1 z2 k)
      · cases h
end START
/-! what cells hold, and whether they lie as they must -/
def memOf (hs : List hcel) : mem := (fun a k => match hs[a]? with
  | some (.inl (_, _, .inl f)) => f k
  | some (.inr o) => (match o.2[k]? with | some (.int x) => x | _ => 0)
  | _ => 0, 0)
def fvB : List Value → List Nat → Bool
  | [], [] => true
  | v :: vs, c :: cs => (match v, c with | .int _, 0 => true | .ref r, k + 2 => r == k | _, _ => false) && fvB vs cs
  | _, _ => false
def cellB (c : hcel) (s : scel) : Bool := match c, s with
  | .inl (t, n, .inl _), .inl (t', n') => t == t' && n == n'
  | .inl (t, n, .inr g), .inr (.inl rs) => (t == 3 && n == rs.length) && (List.range n).all (fun j => g j == rs[j]?)
  | .inr (ci, vs), .inr (.inr (ci', cs)) => ci == ci' && fvB vs cs
  | _, _ => false
def cellsB : List hcel → List scel → Bool
  | [], [] => true
  | c :: hs, s :: ss => cellB c s && cellsB hs ss
  | _, _ => false
theorem cellsB_at : ∀ {hs : List hcel} {ss : List scel}, cellsB hs ss = true → hs.length = ss.length ∧ ∀ (a : Nat) (s : scel), ss[a]? = some s → ∃ c, hs[a]? = some c ∧ cellB c s = true
  | [], [], _ => ⟨rfl, fun a s h => by simp at h⟩
  | [], _ :: _, h => by cases h
  | _ :: _, [], h => by cases h
  | c :: hs, s :: ss, h => by
    unfold cellsB at h
    rw [Bool.and_eq_true] at h
    obtain ⟨i1, i2⟩ := cellsB_at h.2
    refine ⟨by simp [i1], fun a s' ha => ?_⟩
    cases a with
    | zero => simp at ha; subst ha; exact ⟨c, rfl, h.1⟩
    | succ a => simp at ha; obtain ⟨d, d1, d2⟩ := i2 a s' ha; exact ⟨d, by simpa using d1, d2⟩
theorem fvB_eq {hs : List hcel} {a ci : Nat} {vs0 : List Value} (h0 : hs[a]? = some (.inr (ci, vs0))) : ∀ (vs : List Value) (cs : List Nat) (k0 : Nat), fvB vs cs = true → (∀ k, vs[k]? = vs0[k0 + k]?) → vs = fvs (memOf hs) a k0 cs
  | [], [], _, _, _ => rfl
  | [], _ :: _, _, h, _ => by cases h
  | _ :: _, [], _, h, _ => by cases h
  | v :: vs, c :: cs, k0, h, hv => by
    unfold fvB at h
    rw [Bool.and_eq_true] at h
    have hv0 := hv 0
    rw [Nat.add_zero] at hv0
    have hv1 : vs0[k0]? = some v := hv0.symm
    have ih := fvB_eq h0 vs cs (k0 + 1) h.2 (fun k => by have := hv (k + 1); rw [show k0 + (k + 1) = k0 + 1 + k by omega] at this; simpa using this)
    show v :: vs = fvl (memOf hs) a k0 c :: fvs (memOf hs) a (k0 + 1) cs
    rw [← ih]
    congr 1
    have h1 := h.1
    split at h1
    · rename_i x
      show Value.int x = Value.int ((memOf hs).1 a k0)
      congr 1
      unfold memOf
      dsimp only
      rw [h0]
      dsimp only
      rw [hv1]
    · rename_i r k
      have : r = k := by simpa using h1
      rw [this]
      rfl
    · cases h1
theorem cellB_eq {hs : List hcel} {a : Nat} {c : hcel} {s : scel} (h0 : hs[a]? = some c) (hr : rfN c) (h : cellB c s = true) : c = scl (memOf hs) a s := by
  unfold cellB at h
  split at h
  · rename_i t n f t' n'
    simp only [Bool.and_eq_true, beq_iff_eq] at h
    obtain ⟨rfl, rfl⟩ := h
    show Sum.inl (t, n, Sum.inl f) = Sum.inl (t, n, Sum.inl ((memOf hs).1 a))
    congr 4
    funext k
    unfold memOf
    dsimp only
    rw [h0]
  · rename_i t n g rs
    simp only [Bool.and_eq_true, beq_iff_eq] at h
    obtain ⟨⟨rfl, rfl⟩, h2⟩ := h
    show Sum.inl (3, rs.length, Sum.inr g) = Sum.inl (3, rs.length, Sum.inr (fun j => rs[j]?))
    congr 4
    funext j
    rcases Nat.lt_or_ge j rs.length with z | z
    · have := all_range.mp h2 j z
      simpa using this
    · rw [hr j z, List.getElem?_eq_none z]
  · rename_i ci vs ci' cs
    simp only [Bool.and_eq_true, beq_iff_eq] at h
    obtain ⟨rfl, h2⟩ := h
    show Sum.inr (ci, vs) = Sum.inr (ci, fvs (memOf hs) a 0 cs)
    rw [fvB_eq h0 vs cs 0 h2 (fun k => by rw [Nat.zero_add])]
  · cases h
theorem cells_eq {hp : hh} (hr : rfH hp) (h : cellsB hp.1 (skel.take 83) = true) : hp = cutH 83 hp.2 (enc (memOf hp.1)) := by
  obtain ⟨h1, h2⟩ := cellsB_at h
  have hlen : (skel.take 83).length = 83 := rfl
  obtain ⟨hs, sl⟩ := hp
  unfold cutH
  show (hs, sl) = ((encL (memOf hs) 0 skel).take 83, sl)
  congr 1
  apply List.ext_getElem?
  intro a
  rcases Nat.lt_or_ge a 83 with z | z
  · rw [List.getElem?_take_of_lt z, encL_at, Nat.zero_add]
    have hsk : (skel.take 83)[a]? = skel[a]? := List.getElem?_take_of_lt z
    cases hs2 : skel[a]? with
    | none =>
      rw [hs2] at hsk
      have := List.getElem?_eq_none_iff.mp hsk
      omega
    | some s =>
      rw [hs2] at hsk
      obtain ⟨c, c1, c2⟩ := h2 a s hsk
      have c1' : hs[a]? = some c := c1
      rw [c1']
      exact congrArg some (cellB_eq c1' (hr c (List.mem_of_getElem? c1')) c2)
  · have l1 : hs.length = 83 := h1
    rw [List.getElem?_eq_none (by omega), List.getElem?_eq_none (by rw [List.length_take]; omega)]
def fOk (M : mem) : Bool := (decide (M.1 1 1 = 0) && (decide (M.1 26 1 = 0) && (decide (M.1 26 2 = 0) && (decide (M.1 60 1 = 0) && decide (M.1 60 2 = 0))))) && (List.range 30).all (fun i => decide (M.1 73 i = 1))
def chk52 : Bool := match runTo 0 (fun _ => 0) 2000 52 130 0 [vr 0, vn] [] ([.inr (9, dflt 9)], 11) with
  | some ([some (.ref 0), some (.int x)], [], hp) => (decide (x = 0) && decide (hp.2 = 1935)) && (cellsB hp.1 (skel.take 83) && fOk (memOf hp.1))
  | _ => false
set_option maxRecDepth 100000 in
theorem chk52_t : chk52 = true := by decide +kernel
