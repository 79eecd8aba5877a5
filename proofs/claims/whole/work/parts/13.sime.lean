def callK (en : ent) (hp : hh) (as : List Value) : Prop :=
  (∃ idx, en.1 = .invokestatic idx) ∨ (∃ idx a as', en.1 = .invokespecial idx ∧ as = .ref a :: as') ∨
  (∃ idx a as' o, en.1 = .invokevirtual idx ∧ as = .ref a :: as' ∧ hp.1[a]? = some (.inr o) ∧ ¬ eC en = 99 ∧ o.1 = (eC en).toNat) ∨
  (∃ idx as', en.1 = .invokevirtual idx ∧ as = .retAddr 1 :: as' ∧ eC en = 99)
theorem stpC_inv {en : ent} {st : List Value} {hp : hh} {j : Nat} {as r : List Value} (h : stpC en st hp = some (j, as, r)) : j = eA en ∧ catS r ≤ 8 ∧ st = as.reverse ++ r ∧ as.length = eB en ∧ callK en hp as := by
  unfold stpC at h
  split at h
  · rename_i hc
    simp only [Bool.and_eq_true, decide_eq_true_eq] at hc
    have key : ∀ {x : List Value}, (st.take (eB en)).reverse = x → st = x.reverse ++ st.drop (eB en) ∧ x.length = eB en := by
      intro x hx
      subst hx
      rw [List.reverse_reverse, List.length_reverse, List.length_take, List.take_append_drop]
      exact ⟨rfl, by omega⟩
    split at h
    · rename_i hi hs
      split at h
      · split at h
        · cases h
        · split at h
          · rename_i ho h99 hcl
            cases h
            exact ⟨rfl, hc.2, (key hs).1, (key hs).2, Or.inr (Or.inr (Or.inl ⟨_, _, _, _, hi, rfl, ho, h99, hcl⟩))⟩
          · cases h
      · cases h
    · rename_i hi hs
      split at h
      · rename_i h99
        cases h
        exact ⟨rfl, hc.2, (key hs).1, (key hs).2, Or.inr (Or.inr (Or.inr ⟨_, _, hi, rfl, h99⟩))⟩
      · cases h
    · rename_i hi hs
      cases h
      exact ⟨rfl, hc.2, (key hs).1, (key hs).2, Or.inr (Or.inl ⟨_, _, _, hi, rfl⟩)⟩
    · rename_i hi
      cases h
      exact ⟨rfl, hc.2, (key rfl).1, (key rfl).2, Or.inl ⟨_, hi⟩⟩
    · cases h
  · cases h
theorem fitC_inv {q c : minfo} {en : ent} {k : Nat} (hc : mtab[eA en]? = some c) (h : fitC q en k = true) : mFr c + 1 ≤ mFr q ∧ 8 + (mLx c + 11) + mLo c ≤ mLo q ∧ k ≤ eB en ∧ nArgs (mNm c) = some (eB en - k) ∧ (mNm c).cls ≠ "java/lang/invoke/MethodHandle" ∧ (mNm c).cls ≠ "java/lang/invoke/VarHandle" := by
  unfold fitC at h
  rw [hc] at h
  simp only [Bool.and_eq_true, decide_eq_true_eq, noMH] at h
  obtain ⟨⟨⟨⟨h1, h2⟩, h3⟩, h4⟩, h5, h6⟩ := h
  exact ⟨h1, h2, h3, h4, h5, h6⟩
theorem nest_in {q : minfo} {pc idx : Nat} {en : ent} {y : MethodName} {U : State} (hen : eOk q pc en) (hC : ∀ w ∈ nst, va_Nw w U) (hw : mLink (mNm q).cls idx y (eC en) ∈ need (mNm q).cls en) (h1 : eC en = 1) : va_Nw (.methodLinkNest (mNm q).cls idx y hostN) U := by
  have h2 := (hen.2.1 _ hw).1
  unfold mLink at h2
  rw [if_pos h1] at h2
  exact hC _ (List.mem_filter.mpr ⟨h2, rfl⟩)
section SIMD
variable {P : prm} {q : minfo} {p : Program} {l : Launch} {e : Env} {R : Room} {s : State} {m : MethodId} {args : Array Value} {below : List Frame} {meth : Method} {c : Code} {H : Heap} {locs : List Loc} {cells slots : Nat} {Q : State → Prop}
theorem simC {n pc j : Nat} {en : ent} {qc : minfo} {lsr : Array Slot} {st as r : List Value} {hp hp2 : hh} {rv : Option Value} (IH : SimW P l n) (FX : Fx P q p R s m args meth c) (hen : eOk q pc en) (hsz : lsr.size = mLx q) (hP : va_P (pG P) classes (conc P hp.1) H) (hS : va_S (AA P) s.heap H locs) (hcount : s.heap.size + cells = pB P + hp.1.length) (h : stpC en st hp = some (j, as, r)) (hq : mtab[j]? = some qc) (hj : 0 < j) (hlen : (ent0 (mLx qc) as).length = mLx qc) (hx : exec (pL P) (pX P) n j 0 (ent0 (mLx qc) as) [] hp = some (rv, hp2))
    (hcR : cells + (hp2.1.length - hp.1.length) ≤ R.cells) (hsR : slots + (hp2.2 - hp.2) ≤ R.slots)
    (k : ∀ (H1 : Heap) (locs1 : List Loc), va_P (pG P) classes (conc P hp2.1) H1 → va_S (AA P) s.heap H1 locs1 → W p l e R s m args below meth c H1 locs1 (cells + (hp2.1.length - hp.1.length)) (slots + (hp2.2 - hp.2)) Q (F0 m (pc + 3) lsr ((rv.toList ++ r).map (cv P)))) : W p l e R s m args below meth c H locs cells slots Q (F0 m pc lsr (st.map (cv P))) := by
  obtain ⟨hxx, hb, hml, hown, hts, hK, hC, hfr, hlo, hnm, hf, hB⟩ := id FX
  obtain ⟨rfl, hcat, rfl, hal, hk⟩ := stpC_inv h
  have hmet := met_of (l := l) hf IH hq hj hlen hx
  have hmem : qc ∈ mtab.drop 1 := by
    generalize eA en = j at hq hj
    obtain ⟨j, rfl⟩ : ∃ k, j = k + 1 := ⟨j - 1, by omega⟩
    refine List.mem_of_getElem? (i := j) ?_
    rw [List.getElem?_drop, Nat.add_comm]
    exact hq
  have k' : ∀ (H1 : Heap) (locs1 : List Loc), va_P (pG P) classes (conc P hp2.1) H1 → va_S (AA P) s.heap H1 locs1 → W p l e R s m args below meth c H1 locs1 (cells + (hp2.1.length - hp.1.length)) (slots + (hp2.2 - hp.2)) Q (F0 m (pc + 3) lsr (rv.toList.map (cv P) ++ r.map (cv P))) := by
    intro H1 locs1 h1 h2
    have := k H1 locs1 h1 h2
    rw [List.map_append] at this
    exact this
  have hroom : 2 * (F0 m pc lsr ((as.reverse ++ r).map (cv P))).monitorRoom + ((r.map (cv P)).map fun v => v.category).sum ≤ 8 := by
    show 2 * 0 + _ ≤ 8
    rw [catS_cv hf]
    omega
  have hstk : (as.reverse ++ r).map (cv P) = (as.map (cv P)).reverse ++ r.map (cv P) := by
    rw [List.map_append, List.map_reverse]
  intro T hT X
  have hs2 := size_eq (P := P) (l := hp.1) (sz := s.heap.size) (cells := cells) hcount hB hP hS.1 (by rw [← hT]; exact X.same.2.2.1)
  have hwd : ∀ U : State, U.heap = H → s.WarmedH U.vm → WD P hp U := fun U hU hW => ⟨by rw [hU]; exact hs2, by rw [hU]; exact hP, va_K.moved hW.alike hK, conc_D, hC.go hW hB (by rw [hU]; exact hS)⟩
  obtain ⟨ins, len, ea, eb, ec, ep⟩ := en
  rcases hk with ⟨idx, hi⟩ | ⟨idx, a, as', hi, rfl⟩ | ⟨idx, a, as', o, hi, rfl, ho, h99, hoc⟩ | ⟨idx, as', hi, rfl, h99⟩
  · have hi' : ins = .invokestatic idx := hi
    subst hi'
    have hst := hen.2.2.2
    unfold stat at hst
    have hne : ¬ (ea = 9001 ∨ ea = 9002 ∨ ea = 9003) := by
      have hlt := (List.getElem?_eq_some_iff.mp hq).1
      have : mtab.length = 152 := by rfl
      have h2 : ea < mtab.length := hlt
      omega
    simp only [eA, hne, if_false] at hst
    obtain ⟨f1, f2, f3, f4, f5, f6⟩ := fitC_inv hq hst
    have hne1 : ¬ ea = 9001 := fun z => hne (Or.inl z)
    have hne2 : ¬ ea = 9002 := fun z => hne (Or.inr (Or.inl z))
    have hne3 : ¬ ea = 9003 := fun z => hne (Or.inr (Or.inr z))
    have hq' : mtab[ea]? = some qc := hq
    have hndd : need (mNm q).cls (.invokestatic idx, len, ea, eb, ec, ep) = [mLink (mNm q).cls idx (mNm qc) ec, .static (mNm qc), .initialized (mNm qc).cls] := by
      unfold need
      simp only [eA, eC, hne1, hne2, hne3, if_false, hq']
    have w2 := hen.word hts (w := .static (mNm qc)) (by rw [hndd]; simp) rfl
    have w3 := hen.word hts (w := .initialized (mNm qc).cls) (by rw [hndd]; simp) rfl
    have hn0 : (as.map (cv P)).length = eb - 0 := by rw [List.length_map]; exact hal
    by_cases hc1 : ec = 1
    · have w1 := nest_in (idx := idx) (y := mNm qc) hen hC.1 (by rw [hndd]; exact List.mem_cons_self) hc1
      exact sx_call (va_runSN (As := as.map (cv P)) (rest := r.map (cv P)) ⟨hxx, hb, hml, hown, hts⟩ hmet ⟨va_cnB (eb - 0) hts (good_gtb (ws := []) hmem (by simp)) rfl rfl rfl w1 w3.2 ⟨f5, f6, f4⟩ ⟨by show mFr qc + 1 ≤ _; omega, by show 8 + (mLx qc + 11) + mLo qc ≤ _; omega⟩, w2.2, trivial⟩ ⟨WD.blind, fun U hU hW => ⟨rfl, hwd U hU hW⟩⟩ rfl hn0 hsz hstk hroom (hen.dec rfl) ⟨hcR, hsR⟩) hS k' T hT X
    · have w1 := hen.word hts (w := .methodLink (mNm q).cls idx (mNm qc)) (by rw [hndd]; unfold mLink; rw [if_neg hc1]; exact List.mem_cons_self) rfl
      refine sx_call (va_runS (As := as.map (cv P)) (rest := r.map (cv P)) ⟨hxx, hb, hml, hown, hts⟩ hmet (va_cwS (eb - 0) hts (good_gtb (ws := [_, _, _]) hmem ?_) rfl rfl rfl ⟨f5, f6, f4⟩ ⟨by show mFr qc + 1 ≤ _; omega, by show 8 + (mLx qc + 11) + mLo qc ≤ _; omega⟩) ⟨WD.blind, fun U hU hW => ⟨rfl, hwd U hU hW⟩⟩ rfl hn0 hsz hstk hroom (hen.dec rfl) ⟨hcR, hsR⟩) hS k' T hT X
      intro w hw
      simp only [List.mem_cons, List.not_mem_nil, or_false] at hw
      rcases hw with rfl | rfl | rfl
      · exact w1.1
      · exact w2.1
      · exact w3.1
  · have hi' : ins = .invokespecial idx := hi
    subst hi'
    have hst := hen.2.2.2
    unfold stat at hst
    have hne : ¬ ea = 9000 := by
      have hlt := (List.getElem?_eq_some_iff.mp hq).1
      have : mtab.length = 152 := by rfl
      have h2 : ea < mtab.length := hlt
      omega
    have hq' : mtab[ea]? = some qc := hq
    simp only [eA, hne, if_false, hq', Bool.and_eq_true, decide_eq_true_eq] at hst
    obtain ⟨hst, hini, hret⟩ := hst
    obtain ⟨f1, f2, f3, f4, f5, f6⟩ := fitC_inv hq hst
    have hndd : need (mNm q).cls (.invokespecial idx, len, ea, eb, ec, ep) = [mLink (mNm q).cls idx (mNm qc) ec, .instanceMethod (mNm qc), .initialized (mNm qc).cls] := by
      unfold need
      simp only [eA, eC, hne, if_false, hq']
    have w2 := hen.word hts (w := .instanceMethod (mNm qc)) (by rw [hndd]; simp) rfl
    have w3 := hen.word hts (w := .initialized (mNm qc).cls) (by rw [hndd]; simp) rfl
    have hn0 : (as'.map (cv P)).length = eb - 1 := by
      rw [List.length_map]
      have : (Value.ref a :: as').length = eb := hal
      rw [List.length_cons] at this
      omega
    have hws : wds qc = Cond.code (mNm qc) (mBy qc) (mLx qc) none :: gtb := by unfold wds; rw [hret]
    have hstk2 : ((Value.ref a :: as').reverse ++ r).map (cv P) = (as'.map (cv P)).reverse ++ .ref (pB P + a) :: r.map (cv P) := by
      rw [hstk, List.map_cons, List.reverse_cons, List.append_assoc]
      rfl
    by_cases hc1 : ec = 1
    · have w1 := nest_in (idx := idx) (y := mNm qc) hen hC.1 (by rw [hndd]; exact List.mem_cons_self) hc1
      exact sx_call (va_runIN (b := pB P + a) (As := as'.map (cv P)) (rest := r.map (cv P)) ⟨hxx, hb, hml, hown, hts⟩ hmet ⟨va_cnB (eb - 1) hts (good_gtb (ws := []) hmem (by simp)) hws rfl rfl w1 w3.2 ⟨f5, f6, f4⟩ ⟨by show mFr qc + 1 ≤ _; omega, by show 8 + (mLx qc + 11) + mLo qc ≤ _; omega⟩, hini, w2.2⟩ ⟨WD.blind, fun U hU hW => ⟨rfl, hwd U hU hW⟩⟩ rfl hn0 hsz hstk2 hroom (hen.dec rfl) ⟨hcR, hsR⟩) hS k' T hT X
    · have w1 := hen.word hts (w := .methodLink (mNm q).cls idx (mNm qc)) (by rw [hndd]; unfold mLink; rw [if_neg hc1]; exact List.mem_cons_self) rfl
      exact sx_call (va_runI (b := pB P + a) (As := as'.map (cv P)) (rest := r.map (cv P)) ⟨hxx, hb, hml, hown, hts⟩ hmet (cwI (eb - 1) hts (good_gtb (ws := []) hmem (by simp)) hws rfl rfl w3.2 w1.2 w2.2 hini ⟨f5, f6, f4⟩ ⟨by show mFr qc + 1 ≤ _; omega, by show 8 + (mLx qc + 11) + mLo qc ≤ _; omega⟩) ⟨WD.blind, fun U hU hW => ⟨rfl, hwd U hU hW⟩⟩ rfl hn0 hsz hstk2 hroom (hen.dec rfl) ⟨hcR, hsR⟩) hS k' T hT X
  · have hi' : ins = .invokevirtual idx := hi
    subst hi'
    have hst := hen.2.2.2
    unfold stat at hst
    have hq' : mtab[ea]? = some qc := hq
    have h99' : ¬ ec = 99 := h99
    simp only [eA, eC, hq', h99', if_false, Bool.and_eq_true, decide_eq_true_eq] at hst
    obtain ⟨hst, hcls⟩ := hst
    obtain ⟨f1, f2, f3, f4, f5, f6⟩ := fitC_inv hq hst
    have hndd : need (mNm q).cls (.invokevirtual idx, len, ea, eb, ec, ep) = [.methodLink (mNm q).cls idx (mNm qc), .instanceMethod (mNm qc), .selects (mNm qc).cls (mNm qc) (mNm qc), .initialized (mNm qc).cls] := by
      unfold need
      simp only [eA, hq']
    have w1 := hen.word hts (w := .methodLink (mNm q).cls idx (mNm qc)) (by rw [hndd]; simp) rfl
    have w2 := hen.word hts (w := .instanceMethod (mNm qc)) (by rw [hndd]; simp) rfl
    have w3 := hen.word hts (w := .selects (mNm qc).cls (mNm qc) (mNm qc)) (by rw [hndd]; simp) rfl
    have w4 := hen.word hts (w := .initialized (mNm qc).cls) (by rw [hndd]; simp) rfl
    have hn0 : (as'.map (cv P)).length = eb - 1 := by
      rw [List.length_map]
      have : (Value.ref a :: as').length = eb := hal
      rw [List.length_cons] at this
      omega
    have hstk2 : ((Value.ref a :: as').reverse ++ r).map (cv P) = (as'.map (cv P)).reverse ++ .ref (pB P + a) :: r.map (cv P) := by
      rw [hstk, List.map_cons, List.reverse_cons, List.append_assoc]
      rfl
    have hcls : (classes[ec.toNat]?).map (fun k => k.1) = some (mNm qc).cls := of_decide_eq_true hcls
    obtain ⟨oc, os⟩ := o
    have hoc' : oc = ec.toNat := hoc
    cases hcl : classes[oc]? with
    | none => rw [← hoc', hcl] at hcls; cases hcls
    | some cc =>
      rw [← hoc', hcl] at hcls
      have hcn : cc.1 = (mNm qc).cls := Option.some.inj hcls
      have hrecv := va_recv hK hP hcl (conc_at (P := P) ho)
      rw [hcn] at hrecv
      refine sx_call (va_runV (b := pB P + a) (C := (mNm qc).cls) (As := as'.map (cv P)) (rest := r.map (cv P)) ⟨hxx, hb, hml, hown, hts⟩ hmet (cwV (eb - 1) hts (good_gtb (ws := [_, _, _, _]) hmem ?_) rfl rfl rfl ⟨rfl, f5, f6, f4⟩ ⟨by show mFr qc + 1 ≤ _; omega, by show 8 + (mLx qc + 11) + mLo qc ≤ _; omega⟩) ⟨WD.blind, hrecv, fun U hU hW => ⟨rfl, hwd U hU hW⟩⟩ rfl hn0 hsz hstk2 hroom (hen.dec rfl) ⟨hcR, hsR⟩) hS k' T hT X
      intro w hw
      simp only [List.mem_cons, List.not_mem_nil, or_false] at hw
      rcases hw with rfl | rfl | rfl | rfl
      · exact w1.1
      · exact w2.1
      · exact w3.1
      · exact w4.1
  · have hi' : ins = .invokevirtual idx := hi
    subst hi'
    have hst := hen.2.2.2
    unfold stat at hst
    have hq' : mtab[ea]? = some qc := hq
    have h99' : ec = 99 := h99
    simp only [eA, eC, hq', h99', if_true, Bool.and_eq_true, decide_eq_true_eq] at hst
    obtain ⟨hst, hcls⟩ := hst
    obtain ⟨f1, f2, f3, f4, f5, f6⟩ := fitC_inv hq hst
    have hndd : need (mNm q).cls (.invokevirtual idx, len, ea, eb, ec, ep) = [.methodLink (mNm q).cls idx (mNm qc), .instanceMethod (mNm qc), .selects (mNm qc).cls (mNm qc) (mNm qc), .initialized (mNm qc).cls] := by
      unfold need
      simp only [eA, hq']
    have w1 := hen.word hts (w := .methodLink (mNm q).cls idx (mNm qc)) (by rw [hndd]; simp) rfl
    have w2 := hen.word hts (w := .instanceMethod (mNm qc)) (by rw [hndd]; simp) rfl
    have w3 := hen.word hts (w := .selects (mNm qc).cls (mNm qc) (mNm qc)) (by rw [hndd]; simp) rfl
    have w4 := hen.word hts (w := .initialized (mNm qc).cls) (by rw [hndd]; simp) rfl
    have hn0 : (as'.map (cv P)).length = eb - 1 := by
      rw [List.length_map]
      have : (Value.retAddr 1 :: as').length = eb := hal
      rw [List.length_cons] at this
      omega
    have hstk2 : ((Value.retAddr 1 :: as').reverse ++ r).map (cv P) = (as'.map (cv P)).reverse ++ .ref (pC P 1) :: r.map (cv P) := by
      rw [hstk, List.map_cons, List.reverse_cons, List.append_assoc]
      rfl
    have hrecv : ∃ cell : Cell, H[pC P 1]? = some cell ∧ cell.vm.isStatics = false ∧ s.vm.findClass (mNm qc).cls = some cell.cls := by
      obtain ⟨cell, z1, z2, z3, -⟩ := hC.2.2.2.2.2.1.kept hS.2.1
      exact ⟨cell, z1, z2, by rw [hcls]; exact z3⟩
    refine sx_call (va_runV (b := pC P 1) (C := (mNm qc).cls) (As := as'.map (cv P)) (rest := r.map (cv P)) ⟨hxx, hb, hml, hown, hts⟩ hmet (cwV (eb - 1) hts (good_gtb (ws := [_, _, _, _]) hmem ?_) rfl rfl rfl ⟨rfl, f5, f6, f4⟩ ⟨by show mFr qc + 1 ≤ _; omega, by show 8 + (mLx qc + 11) + mLo qc ≤ _; omega⟩) ⟨WD.blind, hrecv, fun U hU hW => ⟨rfl, hwd U hU hW⟩⟩ rfl hn0 hsz hstk2 hroom (hen.dec rfl) ⟨hcR, hsR⟩) hS k' T hT X
    intro w hw
    simp only [List.mem_cons, List.not_mem_nil, or_false] at hw
    rcases hw with rfl | rfl | rfl | rfl
    · exact w1.1
    · exact w2.1
    · exact w3.1
    · exact w4.1
end SIMD
/-- THE MACHINE OVER PLAIN CELLS IS THE MACHINE -/
theorem sim (P : prm) (l : Launch) : ∀ n, SimW P l n
  | 0 => by
    intro i pc q ls st hp hp2 rv hq h
    cases h
  | n + 1 => by
    have IH := sim P l n
    intro i pc q ls st hp hp2 rv hq h p e R s m args below meth c H locs cells slots Q lsr FX hl hP hS hcount hcR hsR hret
    have hmono := exec_mono h
    unfold exec at h
    rw [hq] at h
    cases hen0 : ctab i pc with
    | none => rw [hen0] at h; cases h
    | some en =>
      rw [hen0] at h
      have hen := ctab_ok hq hen0
      dsimp only at h
      split at h
      · rename_i pc2 ls2 st2 hA
        exact simA FX hen hl hP hS (by omega) (by omega) hA (fun lsr2 hl2 => IH i pc2 q ls2 st2 hp hp2 rv hq h p e R s m args below meth c H locs cells slots Q lsr2 FX hl2 hP hS hcount hcR hsR hret)
      · split at h
        · rename_i st2 hp1 hB
          have m1 := stpB_mono hB
          have m2 := exec_mono h
          refine simB FX hen hl.size hP hS hcount hB (by omega) (by omega) (fun H1 locs1 hP1 hS1 => ?_)
          refine IH i (pc + en.2.1) q ls st2 hp1 hp2 rv hq h p e R s m args below meth c H1 locs1 _ _ Q lsr FX hl hP1 hS1 (by omega) (by omega) (by omega) (fun H2 locs2 pc2 lsr2 r1 r2 r3 => ?_)
          have := hret H2 locs2 pc2 lsr2 r1 r2 r3
          rw [show cells + (hp1.1.length - hp.1.length) + (hp2.1.length - hp1.1.length) = cells + (hp2.1.length - hp.1.length) by omega, show slots + (hp1.2 - hp.2) + (hp2.2 - hp1.2) = slots + (hp2.2 - hp.2) by omega]
          exact this
        · split at h
          · rename_i j as r hC
            split at h
            · rename_i qj hqj
              split at h
              · rename_i hcond
                simp only [Bool.and_eq_true, decide_eq_true_eq] at hcond
                split at h
                · rename_i rv1 hp1 hx1
                  have m1 := exec_mono hx1
                  have m2 := exec_mono h
                  refine simC IH FX hen hl.size hP hS hcount hC hqj hcond.2 hcond.1 hx1 (by omega) (by omega) (fun H1 locs1 hP1 hS1 => ?_)
                  refine IH i (pc + 3) q ls (rv1.toList ++ r) hp1 hp2 rv hq h p e R s m args below meth c H1 locs1 _ _ Q lsr FX hl hP1 hS1 (by omega) (by omega) (by omega) (fun H2 locs2 pc2 lsr2 r1 r2 r3 => ?_)
                  have := hret H2 locs2 pc2 lsr2 r1 r2 r3
                  rw [show cells + (hp1.1.length - hp.1.length) + (hp2.1.length - hp1.1.length) = cells + (hp2.1.length - hp.1.length) by omega, show slots + (hp1.2 - hp.2) + (hp2.2 - hp1.2) = slots + (hp2.2 - hp.2) by omega]
                  exact this
                · cases h
              · cases h
            · cases h
          · obtain ⟨v, h1, h2⟩ := map_some_inv h
            cases h2
            obtain ⟨rfl, h3⟩ := stpR_inv hen h1
            have := hret H locs pc lsr h3 hP hS
            rw [Nat.sub_self, Nat.sub_self] at this
            exact this
