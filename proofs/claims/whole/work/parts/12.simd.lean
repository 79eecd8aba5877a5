theorem stpB_mono {en : ent} {st st2 : List Value} {hp hp2 : hh} (h : stpB en st hp = some (st2, hp2)) : hp.1.length ≤ hp2.1.length ∧ hp.2 ≤ hp2.2 := by
  unfold stpB at h
  split at h
  · split at h
    · split at h
      · cases h; simp
      · cases h
    · cases h
  · split at h
    · split at h
      · cases h; simp
      · cases h
    · cases h
  · split at h
    · split at h
      · cases h; simp
      · cases h
    · cases h
  · split at h
    · split at h
      · cases h; simp
      · cases h
    · cases h
  · split at h
    · split at h
      · cases h; simp
      · cases h
    · cases h
  · split at h
    · split at h
      · cases h; simp
      · cases h
    · cases h
  · split at h
    · cases h; simp
    · cases h
  · split at h
    · cases h; simp
    · cases h
  · split at h
    · cases h; simp
    · cases h
  · cases h
theorem exec_mono {L : Nat} {xs : Nat → Int32} : ∀ {n i pc : Nat} {ls : lcs} {st : List Value} {hp hp2 : hh} {rv : Option Value}, exec L xs n i pc ls st hp = some (rv, hp2) → hp.1.length ≤ hp2.1.length ∧ hp.2 ≤ hp2.2
  | 0, i, pc, ls, st, hp, hp2, rv, h => by cases h
  | n + 1, i, pc, ls, st, hp, hp2, rv, h => by
    unfold exec at h
    split at h
    · split at h
      · exact exec_mono h
      · split at h
        · rename_i hB
          have h1 := stpB_mono hB
          have h2 := exec_mono h
          omega
        · split at h
          · split at h
            · split at h
              · split at h
                · rename_i hc
                  have h1 := exec_mono hc
                  have h2 := exec_mono h
                  omega
                · cases h
              · cases h
            · cases h
          · obtain ⟨v, h1, h2⟩ := map_some_inv h
            cases h2
            exact ⟨Nat.le_refl _, Nat.le_refl _⟩
    · cases h
/-- a method's end: its answer, and the world behind it -/
def Qm (P : prm) (rv : Option Value) (hp2 : hh) : Array Value → State → Outcome → State → Prop := fun _ st oc t => oc = .returned (rv.map (cv P)) ∧ WD P hp2 t ∧ va_F (AA P) st t
def wds (q : minfo) : List Cond := Cond.code (mNm q) (mBy q) (mLx q) (mRt q) :: gtb
theorem WD.blind {P : prm} {hp : hh} {as : List Value} : FrameBlind (va_Pc as (WD P hp)) := by
  intro a U g mk h
  obtain ⟨h0, h1, h2, h3, h4, h5⟩ := h
  exact ⟨h0, h1, h2, va_K.moved (u := U) (U := U.calling g mk a) (Vm.Alike.refl U.vm) h3, h4, Cst.same (u := U) (U := U.calling g mk a) rfl rfl h5⟩
section SIMC
variable {P : prm} {q : minfo} {p : Program} {l : Launch} {e : Env} {R : Room} {s : State} {m : MethodId} {args : Array Value} {below : List Frame} {meth : Method} {c : Code} {H : Heap} {locs : List Loc} {cells slots : Nat} {Q : State → Prop}
theorem sx_call {hp2 : hh} {rv : Option Value} {mc ms pc : Nat} {lsr : Array Slot} {st0 rest : List Value} {a : Array Value} (hr : va_Run p l e R s m args below meth c H locs cells slots mc ms (F0 m pc lsr st0) rest (Qm P rv hp2 a) (AA P)) (hS : va_S (AA P) s.heap H locs)
    (k : ∀ (H1 : Heap) (locs1 : List Loc), va_P (pG P) classes (conc P hp2.1) H1 → va_S (AA P) s.heap H1 locs1 → W p l e R s m args below meth c H1 locs1 (cells + mc) (slots + ms) Q (F0 m (pc + 3) lsr (rv.toList.map (cv P) ++ rest))) : W p l e R s m args below meth c H locs cells slots Q (F0 m pc lsr st0) := by
  intro T hT X
  obtain ⟨v, st₀, t, T', L, h0, X', hL, e1, e2, ⟨hv, hwd, hz, hk⟩, st⟩ := hr T hT X
  have hv2 : v = rv.map (cv P) := by injection hv
  subst hv2
  rw [h0] at hz hk
  obtain ⟨t2, a1, b1⟩ := k T'.heap (locs ++ L) (by rw [e1]; exact hwd.2.1)
    ⟨Nat.le_trans hS.1 (by rw [e1]; exact hz), fun x h1 h2 => by rw [e1, hk x (Nat.lt_of_lt_of_le h1 hS.1) h2]; exact hS.2.1 x h1 h2, fun x hx => by
      rcases List.mem_append.mp hx with h | h
      · exact hS.2.2 x h
      · exact hL x h⟩ T' rfl X'
  refine ⟨t2, st t2 ?_, b1⟩
  rw [show (rv.map (cv P)).toList = rv.toList.map (cv P) from by cases rv <;> rfl]
  exact a1
end SIMC
/-- what a return needs -/
def retOk (q : minfo) (pc : Nat) (rv : Option Value) : Prop := match rv with
  | some (.int v) => (∃ ty, mRt q = some ty ∧ narrow ty (.int v) = .int v) ∧ decode (mBy q) pc = .ok (.ireturn, 1)
  | none => mRt q = none ∧ decode (mBy q) pc = .ok (.return_, 1)
  | _ => False
def SimW (P : prm) (l : Launch) (n : Nat) : Prop := ∀ (i pc : Nat) (q : minfo) (ls : lcs) (st : List Value) (hp hp2 : hh) (rv : Option Value), mtab[i]? = some q → exec (pL P) (pX P) n i pc ls st hp = some (rv, hp2) →
  ∀ (p : Program) (e : Env) (R : Room) (s : State) (m : MethodId) (args : Array Value) (below : List Frame) (meth : Method) (c : Code) (H : Heap) (locs : List Loc) (cells slots : Nat) (Q : State → Prop) (lsr : Array Slot),
  Fx P q p R s m args meth c → hasL P lsr (mLx q) ls → va_P (pG P) classes (conc P hp.1) H → va_S (AA P) s.heap H locs → s.heap.size + cells = pB P + hp.1.length → cells + (hp2.1.length - hp.1.length) ≤ R.cells → slots + (hp2.2 - hp.2) ≤ R.slots →
  (∀ (H1 : Heap) (locs1 : List Loc) (pc1 : Nat) (lsr1 : Array Slot), retOk q pc1 rv → va_P (pG P) classes (conc P hp2.1) H1 → va_S (AA P) s.heap H1 locs1 → W p l e R s m args below meth c H1 locs1 (cells + (hp2.1.length - hp.1.length)) (slots + (hp2.2 - hp.2)) Q (F0 m pc1 lsr1 (rv.toList.map (cv P)))) →
  W p l e R s m args below meth c H locs cells slots Q (F0 m pc lsr (st.map (cv P)))
theorem met_of {P : prm} {l : Launch} {n j : Nat} {q : minfo} {as : List Value} {hp hp2 : hh} {rv : Option Value} (hf : (pF P).category = 1) (IH : SimW P l n) (hq : mtab[j]? = some q) (hj : 0 < j) (hlen : (ent0 (mLx q) as).length = mLx q) (h : exec (pL P) (pX P) n j 0 (ent0 (mLx q) as) [] hp = some (rv, hp2)) :
    Met l (mNm q) (wds q) { frames := mFr q, cells := hp2.1.length - hp.1.length, slots := hp2.2 - hp.2, locals := mLo q } (va_Pc (as.map (cv P)) (WD P hp)) (Qm P rv hp2) (hp2.1.length - hp.1.length) (hp2.2 - hp.2) (AA P) := by
  have hmem : q ∈ mtab.drop 1 := by
    obtain ⟨j, rfl⟩ : ∃ k, j = k + 1 := ⟨j - 1, by omega⟩
    refine List.mem_of_getElem? (i := j) ?_
    rw [List.getElem?_drop, Nat.add_comm]
    exact hq
  have hcd := cd_all q hmem
  have hmono := exec_mono h
  refine Met.ofW (cc := mBy q) (maxL := mLx q) (ret := mRt q) hcd.2.2 rfl ?_
  intro p e s m args below meth c s₁ B hml hv
  obtain ⟨rfl, hsz, hP, hK, hD, hC⟩ := hv
  have hts := atoms_spec (ws := wds q) B.pre
  have hown : s.vm.findClass (mNm q).cls = some m.cls := findClass_of_methodNamed B.named
  have hlocks := B.notSynchronized
  have hnm : meth.name = (mNm q).name := (name_of_methodNamed B.named B.method).1
  have hB : pB P ≤ s.heap.size := by omega
  have FX : Fx P q p (headSpec (wds q) { frames := mFr q, cells := hp2.1.length - hp.1.length, slots := hp2.2 - hp.2, locals := mLo q }).room s m (as.map (cv P)).toArray meth c := ⟨B.exec, B.bytes, hml, hown, fun w hw => hts w (List.mem_cons_of_mem _ hw), hK, hC, Nat.le_refl _, Nat.le_refl _, fun z => hnm.trans z, hf, hB⟩
  rw [lg_entry_eq]
  have hlen2 : (as.flatMap fun v => if v.category = 2 then [some v, (none : Option Value)] else [some v]).length ≤ mLx q := by
    unfold ent0 at hlen
    rw [List.length_append, List.length_replicate] at hlen
    omega
  have hl := hasL.entry hf hlen2
  refine IH j 0 q (ent0 (mLx q) as) [] hp hp2 rv hq h p e _ s m _ below meth c s.heap [] 0 0 _ _ FX hl hP va_S.rf (by omega) (by show 0 + _ ≤ hp2.1.length - hp.1.length; omega) (by show 0 + _ ≤ hp2.2 - hp.2; omega) ?_
  intro H1 locs1 pc1 lsr1 hret hP1 hS1
  rw [Nat.zero_add, Nat.zero_add]
  have hend : ∀ (T : State), T.heap = H1 → H1.size ≤ s.heap.size + (hp2.1.length - hp.1.length) → ∀ t : State, t.heap = H1 → s.WarmedH t.vm → WD P hp2 t ∧ va_F (AA P) s t := by
    intro T hT hup t ht hW
    have hs2 := size_eq (P := P) (l := hp2.1) (sz := s.heap.size) (cells := hp2.1.length - hp.1.length) (by omega) hB hP1 hS1.1 hup
    exact ⟨⟨by rw [ht]; exact hs2, by rw [ht]; exact hP1, va_K.moved hW.alike hK, conc_D, hC.go hW hB (by rw [ht]; exact hS1)⟩, hS1.F ht⟩
  cases rv with
  | none =>
    obtain ⟨h1, h2⟩ := hret
    intro T hT X
    have he := hend T hT (by rw [← hT]; exact X.same.2.2.1)
    exact W.vret B.exec B.bytes (B.returns.trans h1) (fun t ht hW => ⟨rfl, (he t ht hW).1, (he t ht hW).2⟩) (fun x hx => hS1.2.2 x hx) h2 hlocks T hT X
  | some v =>
    cases v with
    | int v =>
      obtain ⟨⟨ty, h1, h3⟩, h2⟩ := hret
      intro T hT X
      have he := hend T hT (by rw [← hT]; exact X.same.2.2.1)
      exact W.zret B.exec B.bytes (B.returns.trans h1) h3 (fun t ht hW => ⟨rfl, (he t ht hW).1, (he t ht hW).2⟩) (fun x hx => hS1.2.2 x hx) h2 hlocks T hT X
    | _ => exact hret.elim
theorem stpR_inv {q : minfo} {pc : Nat} {en : ent} {st : List Value} {rv : Option Value} (hen : eOk q pc en) (h : stpR q en st = some rv) : st = rv.toList ∧ retOk q pc rv := by
  obtain ⟨ins, len, ea, eb, ec, ep⟩ := en
  unfold stpR at h
  dsimp only at h
  split at h
  · split at h
    · rename_i hr hn
      cases h
      exact ⟨rfl, ⟨_, hr, hn⟩, hen.dec rfl⟩
    · cases h
  · rename_i hr
    cases h
    exact ⟨rfl, hr, hen.dec rfl⟩
  · cases h
theorem good_gtb {q : minfo} (h : q ∈ mtab.drop 1) {ws : List Cond} (hw : ∀ w ∈ ws, w ∈ gtb) : GoodIn gtb (ws ++ wds q) := by
  intro w hm
  have h2 : w ∈ gtb := by
    rcases List.mem_append.mp hm with h1 | h1
    · exact hw w h1
    · rcases List.mem_cons.mp h1 with rfl | h1
      · exact gtb_mk (cd_all q h).1 (cd_all q h).2.1
      · exact h1
  exact ⟨h2, good_of_word (gtb_good h2)⟩
