/-! how plain cells lie in the heap: the place k is the address pB + k -/
abbrev prm : Type := Nat × (Nat → Nat) × Value × (Nat → ClassId) × va_G × Nat × (Nat → Int32)
def pB (P : prm) : Nat := P.1
def pC (P : prm) : Nat → Nat := P.2.1
def pF (P : prm) : Value := P.2.2.1
def pY (P : prm) : Nat → ClassId := P.2.2.2.1
def pG (P : prm) : va_G := P.2.2.2.2.1
def pL (P : prm) : Nat := P.2.2.2.2.2.1
def pX (P : prm) : Nat → Int32 := P.2.2.2.2.2.2
def cv (P : prm) (v : Value) : Value := match v with
  | .ref k => .ref (pB P + k)
  | .retAddr k => if k < 3 then .ref (pC P k) else pF P
  | .int x => .int x
  | .long x => .long x
  | .float x => .float x
  | .double x => .double x
  | .null => .null
theorem cv_cat {P : prm} (hf : (pF P).category = 1) (v : Value) : (cv P v).category = v.category := by
  cases v <;> try rfl
  rename_i k
  show (if k < 3 then Value.ref (pC P k) else pF P).category = 1
  split
  · rfl
  · exact hf
theorem catS_cv {P : prm} (hf : (pF P).category = 1) (st : List Value) : ((st.map (cv P)).map fun v => v.category).sum = catS st := by
  unfold catS
  rw [List.map_map]
  congr 1
  apply List.map_congr_left
  intro v _
  exact cv_cat hf v
def cE (P : prm) (c : hcel) : va_E := match c with
  | .inl (t, n, .inl f) => .inl (pY P t, n, .inl f)
  | .inl (t, n, .inr g) => .inl (pY P t, n, .inr (.inr (.inr (.inr (fun j => (g j).map (fun k => pB P + k))))))
  | .inr (ci, fs) => .inr (ci, fs.map (cv P))
def conc (P : prm) (l : List hcel) : va_W := l.mapIdx (fun k c => (pB P + k, cE P c))
theorem conc_at {P : prm} {l : List hcel} {a : Nat} {c : hcel} (h : l[a]? = some c) : (conc P l)[a]? = some (pB P + a, cE P c) := by
  unfold conc
  rw [List.getElem?_mapIdx, h]
  rfl
theorem conc_of {P : prm} {l : List hcel} {a : Nat} {x : Nat × va_E} (h : (conc P l)[a]? = some x) : a < l.length ∧ x.1 = pB P + a := by
  unfold conc at h
  rw [List.getElem?_mapIdx] at h
  cases hc : l[a]? with
  | none => rw [hc] at h; cases h
  | some c =>
    rw [hc] at h
    cases h
    exact ⟨(List.getElem?_eq_some_iff.mp hc).1, rfl⟩
theorem conc_set {P : prm} {l : List hcel} {a : Nat} {c : hcel} : (conc P l).set a (pB P + a, cE P c) = conc P (l.set a c) := by
  apply List.ext_getElem?
  intro j
  unfold conc
  rw [List.getElem?_set, List.getElem?_mapIdx, List.getElem?_mapIdx, List.getElem?_set, List.length_mapIdx]
  by_cases h : a = j
  · subst h
    by_cases h2 : a < l.length
    · simp [h2]
    · simp [h2]
  · simp [h]
theorem conc_push {P : prm} {l : List hcel} {c : hcel} : conc P (l ++ [c]) = conc P l ++ [(pB P + l.length, cE P c)] := by
  unfold conc
  rw [List.mapIdx_append]
  simp
def AA (P : prm) : Nat → Prop := fun q => pB P ≤ q
def tys (P : prm) : List (ClassId × FieldType) := [(pY P 0, .int), (pY P 1, .boolean), (pY P 2, .char), (pY P 3, .object cn0)]
def nst : List Cond := lw_tbl.filter (fun w => match w with | .methodLinkNest .. => true | _ => false)
def gtb : List Cond := lw_tbl.filter goodWord
theorem gtb_in {w : Cond} (h : w ∈ gtb) : w ∈ lw_tbl := (List.mem_filter.mp h).1
theorem gtb_good {w : Cond} (h : w ∈ gtb) : goodWord w = true := (List.mem_filter.mp h).2
theorem gtb_mk {w : Cond} (h : w ∈ lw_tbl) (g : goodWord w = true) : w ∈ gtb := List.mem_filter.mpr ⟨h, g⟩
/-- what was there before the law, and is never written -/
def Cst (P : prm) (U : State) (H : Heap) : Prop := (∀ w ∈ nst, va_Nw w U) ∧ va_AO cn0 U ∧ vk_R hostN 80 fTx (pC P 1) U ∧ va_Z "java/lang/String" "COMPACT_STRINGS" "Z" (.int 1) (AA P) U H ∧ va_Z "jdk/internal/util/Preconditions" "SIOOBE_FORMATTER" "Ljava/util/function/BiFunction;" (pF P) (AA P) U H ∧ va_O "java/lang/String" (pC P 1) (AA P) U H ∧ va_OF "java/lang/String" "code\x72" "B" (.int 0) (pC P 1) (AA P) U H ∧ va_OF "java/lang/String" "value" "[B" (.ref (pC P 2)) (pC P 1) (AA P) U H ∧ va_T .byte (pC P 2) 60 (fun j => .int (sB.getD j 0)) (AA P) U H ∧ va_X (pC P 0) (pL P) (pX P) U H ∧ pC P 0 < pB P
theorem nst_form {w : Cond} (h : w ∈ nst) : ∃ a i x b, w = .methodLinkNest a i x b := by
  have h2 := (List.mem_filter.mp h).2
  split at h2
  · exact ⟨_, _, _, _, rfl⟩
  · cases h2
theorem Cst.go {P : prm} {s U : State} {locs : List Loc} (hW : s.WarmedH U.vm) (hB : pB P ≤ s.heap.size) (hS : va_S (AA P) s.heap U.heap locs) (h : Cst P s s.heap) : Cst P U U.heap := by
  obtain ⟨h1, h2, h3, h4, h5, h6, h7, h8, h9, h10, h11⟩ := h
  have hvm := hW.alike
  refine ⟨fun w hw => ?_, h2.moved hvm, h3.warm hW, (h4.moved hvm).kept hS.2.1, (h5.moved hvm).kept hS.2.1, (h6.moved hvm).kept hS.2.1, (h7.moved hvm).kept hS.2.1, (h8.moved hvm).kept hS.2.1, (h9.moved hvm).kept hS.2.1, (h10.moved hvm).kept (hS.2.1 _ (by omega) (by unfold AA; omega)), h11⟩
  obtain ⟨a, i, x, b, rfl⟩ := nst_form hw
  exact va_Nw.warmM hW (h1 _ hw)
theorem Cst.same {P : prm} {u U : State} (hv : u.vm = U.vm) (hh : U.heap = u.heap) (h : Cst P u u.heap) : Cst P U U.heap := by
  obtain ⟨h1, h2, h3, h4, h5, h6, h7, h8, h9, h10, h11⟩ := h
  have hvm : u.vm.Alike U.vm := by rw [hv]; exact Vm.Alike.refl _
  rw [hh]
  refine ⟨fun w hw => ?_, h2.moved hvm, h3.same hv.symm, h4.moved hvm, h5.moved hvm, h6.moved hvm, h7.moved hvm, h8.moved hvm, h9.moved hvm, h10.moved hvm, h11⟩
  obtain ⟨a, i, x, b, rfl⟩ := nst_form hw
  exact va_Nw.same rfl hv (h1 _ hw)
/-- the world of a state -/
def WD (P : prm) (hp : hh) (U : State) : Prop := U.heap.size = pB P + hp.1.length ∧ va_P (pG P) classes (conc P hp.1) U.heap ∧ va_K (pG P) classes (tys P) U ∧ va_D (AA P) (conc P hp.1) ∧ Cst P U U.heap
theorem conc_D {P : prm} {l : List hcel} : va_D (AA P) (conc P l) := by
  refine ⟨fun i j x y hx hy hxy => ?_, fun k x hx => ?_⟩
  · have h1 := (conc_of hx).2
    have h2 := (conc_of hy).2
    omega
  · have h1 := (conc_of hx).2
    show pB P ≤ x.1
    omega
/-- locals -/
def lvOf (P : prm) (ls : lcs) : List (Nat × Value) := ls.zipIdx.filterMap (fun q => q.1.map (fun v => (q.2, cv P v)))
theorem lvOf_mem {P : prm} {ls : lcs} {i : Nat} {w : Value} : (i, w) ∈ lvOf P ls ↔ ∃ v, ls[i]? = some (some v) ∧ w = cv P v := by
  unfold lvOf
  rw [List.mem_filterMap]
  constructor
  · rintro ⟨⟨o, j⟩, hm, he⟩
    rw [List.mem_zipIdx_iff_getElem?] at hm
    cases o with
    | none => cases he
    | some v =>
      simp only [Option.map_some, Option.some.injEq, Prod.mk.injEq] at he
      obtain ⟨rfl, rfl⟩ := he
      exact ⟨v, hm, rfl⟩
  · rintro ⟨v, hv, rfl⟩
    exact ⟨(some v, i), List.mem_zipIdx_iff_getElem?.mpr hv, rfl⟩
def hasL (P : prm) (lsr : Array Slot) (nL : Nat) (ls : lcs) : Prop := lv_has lsr nL (lvOf P ls) ∧ ls.length = nL
theorem lGet_iff {ls : lcs} {k : Nat} {v : Value} : lGet ls k = some v ↔ ls[k]? = some (some v) := by
  unfold lGet
  split
  · rename_i w h
    rw [h]; simp
  · rename_i h
    constructor
    · intro h2; cases h2
    · intro h2; exact absurd h2 (h v)
theorem hasL.get {P : prm} {lsr : Array Slot} {nL : Nat} {ls : lcs} (h : hasL P lsr nL ls) {k : Nat} {v : Value} (hk : lGet ls k = some v) : lsr[k]? = some (.val (cv P v)) := h.1.2.2 (k, cv P v) (lvOf_mem.mpr ⟨v, lGet_iff.mp hk, rfl⟩)
theorem hasL.size {P : prm} {lsr : Array Slot} {nL : Nat} {ls : lcs} (h : hasL P lsr nL ls) : lsr.size = nL := h.1.1
theorem clr_len (ls : lcs) (i : Nat) : (clr ls i).length = ls.length := by
  unfold clr
  split
  · rfl
  · split
    · split
      · exact List.length_set
      · rfl
    · rfl
/-- what is left of the locals was there, and isn't a long of which the second half goes -/
theorem clr_at {P : prm} (hf : (pF P).category = 1) {ls : lcs} {i j : Nat} {v : Value} (h : (clr ls i)[j]? = some (some v)) : ls[j]? = some (some v) ∧ ¬ (j + 1 = i ∧ (cv P v).category = 2) := by
  rw [cv_cat hf]
  unfold clr at h
  split at h
  · exact ⟨h, fun z => by omega⟩
  · rename_i k
    split at h
    · rename_i w hw
      have hw2 := lGet_iff.mp hw
      split at h
      · rw [List.getElem?_set] at h
        by_cases hj : k = j
        · subst hj
          rw [if_pos rfl] at h
          split at h <;> cases h
        · rw [if_neg hj] at h
          exact ⟨h, fun z => hj (by omega)⟩
      · rename_i hc
        refine ⟨h, fun z => ?_⟩
        have : k = j := by omega
        subst this
        rw [hw2] at h
        cases h
        exact hc z.2
    · rename_i hw
      refine ⟨h, fun z => ?_⟩
      have : k = j := by omega
      subst this
      rw [lGet_iff.mpr h] at hw
      cases hw
theorem hasL.set {P : prm} (hf : (pF P).category = 1) {lsr : Array Slot} {nL : Nat} {ls l2 : lcs} (h : hasL P lsr nL ls) {i : Nat} {v : Value} (hs : lSet ls i v = some l2) : i < nL ∧ ∀ lsr2 : Array Slot, lv_has lsr2 nL ((i, cv P v) :: (lvOf P ls).filter (fun q => !(q.1 == i) && !(q.1 + 1 == i && q.2.category == 2))) → hasL P lsr2 nL l2 := by
  unfold lSet at hs
  split at hs
  · rename_i hc
    cases hs
    refine ⟨by rw [← h.2]; exact hc, fun lsr2 h2 => ⟨⟨h2.1, h2.2.1, fun q hq => h2.2.2 q ?_⟩, by rw [List.length_set, clr_len]; exact h.2⟩⟩
    obtain ⟨j, w⟩ := q
    obtain ⟨x, hx, rfl⟩ := lvOf_mem.mp hq
    rw [List.getElem?_set, clr_len] at hx
    by_cases hj : i = j
    · subst hj
      rw [if_pos rfl, if_pos hc] at hx
      cases hx
      exact List.mem_cons_self
    · rw [if_neg hj] at hx
      obtain ⟨hx, h3⟩ := clr_at hf hx
      refine List.mem_cons_of_mem _ (List.mem_filter.mpr ⟨lvOf_mem.mpr ⟨x, hx, rfl⟩, ?_⟩)
      have h4 : ¬ j = i := fun z => hj z.symm
      by_cases h5 : j + 1 = i
      · have h6 : ¬ (cv P x).category = 2 := fun z => h3 ⟨h5, z⟩
        simp [h4, h6]
      · simp [h4, h5]
  · cases hs
theorem hasL.set2 {P : prm} (hf : (pF P).category = 1) {lsr : Array Slot} {nL : Nat} {ls l2 : lcs} (h : hasL P lsr nL ls) {i : Nat} {v : Value} (hs : lSet2 ls i v = some l2) : i + 1 < nL ∧ ∀ lsr2 : Array Slot, lv_has lsr2 nL ((i, cv P v) :: (lvOf P ls).filter (fun q => !(q.1 == i) && (!(q.1 == i + 1) && !(q.1 + 1 == i && q.2.category == 2)))) → hasL P lsr2 nL l2 := by
  unfold lSet2 at hs
  split at hs
  · rename_i hc
    cases hs
    refine ⟨by rw [← h.2]; exact hc, fun lsr2 h2 => ⟨⟨h2.1, h2.2.1, fun q hq => h2.2.2 q ?_⟩, by rw [List.length_set, List.length_set, clr_len]; exact h.2⟩⟩
    obtain ⟨j, w⟩ := q
    obtain ⟨x, hx, rfl⟩ := lvOf_mem.mp hq
    rw [List.getElem?_set, List.length_set, clr_len] at hx
    by_cases hj1 : i + 1 = j
    · subst hj1
      rw [if_pos rfl, if_pos hc] at hx
      cases hx
    · rw [if_neg hj1, List.getElem?_set, clr_len] at hx
      by_cases hj : i = j
      · subst hj
        rw [if_pos rfl, if_pos (by omega)] at hx
        cases hx
        exact List.mem_cons_self
      · rw [if_neg hj] at hx
        obtain ⟨hx, h3⟩ := clr_at hf hx
        refine List.mem_cons_of_mem _ (List.mem_filter.mpr ⟨lvOf_mem.mpr ⟨x, hx, rfl⟩, ?_⟩)
        have h4 : ¬ j = i := fun z => hj z.symm
        have h7 : ¬ j = i + 1 := fun z => hj1 z.symm
        by_cases h5 : j + 1 = i
        · have h6 : ¬ (cv P x).category = 2 := fun z => h3 ⟨h5, z⟩
          simp [h4, h6, h7]
        · simp [h4, h5, h7]
  · cases hs
theorem lvArgs_mem {P : prm} (hf : (pF P).category = 1) : ∀ (as : List Value) (pre : lcs) (i : Nat) (v : Value), (pre ++ as.flatMap fun v => if v.category = 2 then [some v, (none : Option Value)] else [some v])[i]? = some (some v) → pre[i]? = some (some v) ∨ (i, cv P v) ∈ lv_args pre.length (as.map (cv P))
  | [], pre, i, v, h => by simp at h; exact Or.inl h
  | x :: as, pre, i, v, h => by
    rw [List.flatMap_cons, ← List.append_assoc] at h
    rcases lvArgs_mem hf as _ i v h with h1 | h1
    · by_cases hx : x.category = 2
      · rw [if_pos hx] at h1
        rcases Nat.lt_trichotomy i pre.length with hi | hi | hi
        · rw [List.getElem?_append_left hi] at h1; exact Or.inl h1
        · subst hi
          rw [List.getElem?_append_right (Nat.le_refl _)] at h1
          simp at h1
          subst h1
          exact Or.inr List.mem_cons_self
        · rw [List.getElem?_append_right (by omega)] at h1
          rcases (show i - pre.length = 1 ∨ 2 ≤ i - pre.length by omega) with e | e
          · rw [e] at h1; simp at h1
          · have : [some x, (none : Option Value)][i - pre.length]? = none := List.getElem?_eq_none (by simpa using e)
            rw [this] at h1; cases h1
      · rw [if_neg hx] at h1
        rcases Nat.lt_trichotomy i pre.length with hi | hi | hi
        · rw [List.getElem?_append_left hi] at h1; exact Or.inl h1
        · subst hi
          rw [List.getElem?_append_right (Nat.le_refl _)] at h1
          simp at h1
          subst h1
          exact Or.inr List.mem_cons_self
        · rw [List.getElem?_append_right (by omega)] at h1
          have : [some x][i - pre.length]? = none := List.getElem?_eq_none (by simp; omega)
          rw [this] at h1; cases h1
    · refine Or.inr ?_
      show (i, cv P v) ∈ (pre.length, cv P x) :: lv_args (if (cv P x).category = 2 then pre.length + 2 else pre.length + 1) (as.map (cv P))
      refine List.mem_cons_of_mem _ ?_
      rw [cv_cat hf]
      by_cases hx : x.category = 2
      · rw [if_pos hx] at h1 ⊢
        simpa using h1
      · rw [if_neg hx] at h1 ⊢
        simpa using h1
theorem lgsl_len {P : prm} (hf : (pF P).category = 1) (as : List Value) : (lg_sl (as.map (cv P))).length = (as.flatMap fun v => if v.category = 2 then [some v, (none : Option Value)] else [some v]).length := by
  unfold lg_sl
  induction as with
  | nil => rfl
  | cons x as ih =>
    rw [List.map_cons, List.flatMap_cons, List.flatMap_cons, List.length_append, List.length_append, ih, cv_cat hf]
    by_cases hx : x.category = 2
    · rw [if_pos hx, if_pos hx]; rfl
    · rw [if_neg hx, if_neg hx]; rfl
theorem hasL.entry {P : prm} (hf : (pF P).category = 1) {as : List Value} {n : Nat} (h : (as.flatMap fun v => if v.category = 2 then [some v, (none : Option Value)] else [some v]).length ≤ n) : hasL P ((lg_sl (as.map (cv P)) ++ List.replicate (n - (lg_sl (as.map (cv P))).length) Slot.unset).toArray) n (ent0 n as) := by
  have h1 := lv_entry (as.map (cv P)) (n := n) (by rw [lgsl_len hf]; exact h)
  refine ⟨⟨h1.1, h1.2.1, fun q hq => h1.2.2 q ?_⟩, ?_⟩
  · obtain ⟨i, w⟩ := q
    obtain ⟨v, hv, rfl⟩ := lvOf_mem.mp hq
    unfold ent0 at hv
    by_cases hi : i < (as.flatMap fun v => if v.category = 2 then [some v, (none : Option Value)] else [some v]).length
    · rw [List.getElem?_append_left hi] at hv
      rcases lvArgs_mem hf as [] i v (by simpa using hv) with h2 | h2
      · simp at h2
      · exact h2
    · rw [List.getElem?_append_right (by omega), List.getElem?_replicate] at hv
      split at hv <;> cases hv
  · unfold ent0
    rw [List.length_append, List.length_replicate]
    omega
