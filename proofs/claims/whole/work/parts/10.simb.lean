section SIMA2
variable {P : prm} {q : minfo} {p : Program} {l : Launch} {e : Env} {R : Room} {s : State} {m : MethodId} {args : Array Value} {below : List Frame} {meth : Method} {c : Code} {H : Heap} {locs : List Loc} {cells slots : Nat} {Q : State → Prop}
theorem simIf {pc len ea eb : Nat} {ec : Int} {ep : List Nat} {cd : ClassFile.Cond} {off : Int} {x : Int32} {lsr : Array Slot} {r : List Value} (FX : Fx P q p R s m args meth c) (hen : eOk q pc (.ifCond cd off, len, ea, eb, ec, ep))
    (k : W p l e R s m args below meth c H locs cells slots Q (F0 m (if cmpB cd x 0 then ea else pc + 3) lsr r)) : W p l e R s m args below meth c H locs cells slots Q (F0 m pc lsr (.int x :: r)) := by
  have hx := FX.1
  have hb := FX.2.1
  have ht : (pc : Int) + off = (ea : Int) := by
    have := hen.2.2.2
    unfold stat at this
    exact of_decide_eq_true this
  cases cd
  · refine lv_if_eq hx hb (hen.dec rfl) ht (fun hc => ?_) (fun hc => ?_) <;> simpa [cmpB, hc] using k
  · refine lv_if_ne hx hb (hen.dec rfl) ht (fun hc => ?_) (fun hc => ?_) <;> simpa [cmpB, hc] using k
  · refine lv_if_lt hx hb (hen.dec rfl) ht (fun hc => ?_) (fun hc => ?_) <;> simpa only [cmpB, hc, decide_true, decide_false, if_true, if_false, Bool.false_eq_true] using k
  · refine lv_if_ge hx hb (hen.dec rfl) ht (fun hc => ?_) (fun hc => ?_) <;> simpa only [cmpB, hc, decide_true, decide_false, if_true, if_false, Bool.false_eq_true] using k
  · refine lv_if_gt hx hb (hen.dec rfl) ht (fun hc => ?_) (fun hc => ?_) <;> simpa only [cmpB, hc, decide_true, decide_false, if_true, if_false, Bool.false_eq_true] using k
  · refine lv_if_le hx hb (hen.dec rfl) ht (fun hc => ?_) (fun hc => ?_) <;> simpa only [cmpB, hc, decide_true, decide_false, if_true, if_false, Bool.false_eq_true] using k
theorem simIcmp {pc len ea eb : Nat} {ec : Int} {ep : List Nat} {cd : ClassFile.Cond} {off : Int} {x y : Int32} {lsr : Array Slot} {r : List Value} (FX : Fx P q p R s m args meth c) (hen : eOk q pc (.if_icmp cd off, len, ea, eb, ec, ep))
    (k : W p l e R s m args below meth c H locs cells slots Q (F0 m (if cmpB cd x y then ea else pc + 3) lsr r)) : W p l e R s m args below meth c H locs cells slots Q (F0 m pc lsr (.int y :: .int x :: r)) := by
  have hx := FX.1
  have hb := FX.2.1
  have ht : (pc : Int) + off = (ea : Int) := by
    have := hen.2.2.2
    unfold stat at this
    exact of_decide_eq_true this
  cases cd
  · refine lv_icmp_eq hx hb (hen.dec rfl) ht (fun hc => ?_) (fun hc => ?_) <;> simpa only [cmpB, hc, decide_true, decide_false, if_true, if_false, Bool.false_eq_true] using k
  · refine lv_icmp_ne hx hb (hen.dec rfl) ht (fun hc => ?_) (fun hc => ?_) <;> simpa [cmpB, hc] using k
  · refine lv_icmp_lt hx hb (hen.dec rfl) ht (fun hc => ?_) (fun hc => ?_) <;> simpa only [cmpB, hc, decide_true, decide_false, if_true, if_false, Bool.false_eq_true] using k
  · refine lv_icmp_ge hx hb (hen.dec rfl) ht (fun hc => ?_) (fun hc => ?_) <;> simpa only [cmpB, hc, decide_true, decide_false, if_true, if_false, Bool.false_eq_true] using k
  · refine lv_icmp_gt hx hb (hen.dec rfl) ht (fun hc => ?_) (fun hc => ?_) <;> simpa only [cmpB, hc, decide_true, decide_false, if_true, if_false, Bool.false_eq_true] using k
  · refine lv_icmp_le hx hb (hen.dec rfl) ht (fun hc => ?_) (fun hc => ?_) <;> simpa only [cmpB, hc, decide_true, decide_false, if_true, if_false, Bool.false_eq_true] using k
theorem map_some_inv {α β : Type} {o : Option α} {f : α → β} {y : β} (h : o.map f = some y) : ∃ x, o = some x ∧ f x = y := by
  cases o with
  | none => cases h
  | some x => exact ⟨x, rfl, Option.some.inj h⟩
/-- a step that leaves the cells as they are -/
theorem simA {en : ent} {pc pc2 : Nat} {ls ls2 : lcs} {lsr : Array Slot} {st st2 : List Value} {hp : hh} (FX : Fx P q p R s m args meth c) (hen : eOk q pc en) (hl : hasL P lsr (mLx q) ls) (hP : va_P (pG P) classes (conc P hp.1) H) (hS : va_S (AA P) s.heap H locs) (hcR : cells ≤ R.cells) (hsR : slots ≤ R.slots) (h : stpA (pL P) (pX P) en pc ls st hp = some (pc2, ls2, st2))
    (k : ∀ lsr2 : Array Slot, hasL P lsr2 (mLx q) ls2 → W p l e R s m args below meth c H locs cells slots Q (F0 m pc2 lsr2 (st2.map (cv P)))) : W p l e R s m args below meth c H locs cells slots Q (F0 m pc lsr (st.map (cv P))) := by
  obtain ⟨hx, hb, hml, hown, hts, hK, hC, hfr, hlo, hnm, hf, hB⟩ := id FX
  obtain ⟨ins, len, ea, eb, ec, ep⟩ := en
  unfold stpA at h
  dsimp only at h
  split at h
  · obtain ⟨x, h1, rfl, rfl, rfl⟩ := stLdI_inv h
    exact lv_iload_n hx hb (hen.dec rfl) rfl (hl.get h1) (k _ hl)
  · obtain ⟨x, h1, rfl, rfl, rfl⟩ := stLdI_inv h
    exact lv_iload hx hb (hen.dec rfl) (hl.get h1) (k _ hl)
  · obtain ⟨x, h1, rfl, rfl, rfl⟩ := stLdL_inv h
    exact lv_lload_n hx hb (hen.dec rfl) rfl (hl.get h1) (k _ hl)
  · obtain ⟨x, h1, rfl, rfl, rfl⟩ := stLdL_inv h
    exact lv_lload hx hb (hen.dec rfl) (hl.get h1) (k _ hl)
  · obtain ⟨v, a, h1, h2, rfl, rfl, rfl⟩ := stLdA_inv h P
    refine lv_aload_n (x := a) hx hb (hen.dec rfl) rfl (by rw [← h2]; exact hl.get h1) ?_
    rw [← h2]
    exact k _ hl
  · obtain ⟨v, a, h1, h2, rfl, rfl, rfl⟩ := stLdA_inv h P
    refine lv_aload (x := a) hx hb (hen.dec rfl) (by rw [← h2]; exact hl.get h1) ?_
    rw [← h2]
    exact k _ hl
  · obtain ⟨x, rfl, h1, rfl⟩ := stStI_inv h
    exact lv_istore_n hx hb (hen.dec rfl) rfl hl.1 (hl.set hf h1).1 rfl (fun lsr2 h2 => k lsr2 ((hl.set hf h1).2 lsr2 h2))
  · obtain ⟨x, rfl, h1, rfl⟩ := stStI_inv h
    exact lv_istore hx hb (hen.dec rfl) hl.1 (hl.set hf h1).1 rfl (fun lsr2 h2 => k lsr2 ((hl.set hf h1).2 lsr2 h2))
  · obtain ⟨x, rfl, h1, rfl⟩ := stStL_inv h
    exact lv_lstore_n hx hb (hen.dec rfl) rfl hl.1 (hl.set2 hf h1).1 rfl (fun lsr2 h2 => k lsr2 ((hl.set2 hf h1).2 lsr2 h2))
  · obtain ⟨x, rfl, h1, rfl⟩ := stStL_inv h
    exact lv_lstore hx hb (hen.dec rfl) hl.1 (hl.set2 hf h1).1 rfl (fun lsr2 h2 => k lsr2 ((hl.set2 hf h1).2 lsr2 h2))
  · obtain ⟨x, rfl, h1, rfl⟩ := stStA_inv h
    exact lv_astore_n hx hb (hen.dec rfl) rfl hl.1 (hl.set hf h1).1 rfl (fun lsr2 h2 => k lsr2 ((hl.set hf h1).2 lsr2 h2))
  · obtain ⟨x, rfl, h1, rfl⟩ := stStA_inv h
    exact lv_astore hx hb (hen.dec rfl) hl.1 (hl.set hf h1).1 rfl (fun lsr2 h2 => k lsr2 ((hl.set hf h1).2 lsr2 h2))
  · split at h
    · rename_i x hx1
      obtain ⟨l2, h1, h2⟩ := map_some_inv h
      cases h2
      obtain ⟨j, hj⟩ := List.getElem?_of_mem (lvOf_mem.mpr ⟨_, lGet_iff.mp hx1, rfl⟩ : (_, cv P (.int x)) ∈ lvOf P ls)
      exact lv_iinc hx hb (hen.dec rfl) hl.1 hj rfl (hl.set hf h1).1 rfl (fun lsr2 h2 => k lsr2 ((hl.set hf h1).2 lsr2 h2))
    · cases h
  · cases h; exact lv_bipush hx hb (hen.dec rfl) rfl (k _ hl)
  · cases h; exact lv_sipush hx hb (hen.dec rfl) rfl (k _ hl)
  · cases h
    by_cases h0 : ea = 0
    · have hw := hen.word hts (w := .constant (mNm q).cls _ (Int32.ofInt ec)) (by unfold need; simp only [eA, eC, h0, if_true]; exact List.mem_cons_self) rfl
      refine lv_ldc hx hb hown hw.2 (hen.dec rfl) ?_
      have := k _ hl
      simp only [eA, eC, h0, if_true] at this
      exact this
    · have hw := hen.2.1 (.stringRef (mNm q).cls _ fTx) (by unfold need; simp only [eA, eC, h0, if_false]; exact List.mem_cons_self)
      obtain ⟨e1, e2⟩ := str_is hw.1
      subst e2
      rw [e1] at hown
      refine va_ldcS hx hb hown hC.2.2.1 (hen.dec rfl) ?_
      have := k _ hl
      simp only [eA, h0, if_false] at this
      exact this
  · cases h
    have hw := hen.word hts (w := .constantLong (mNm q).cls _ (Int64.ofInt ec)) (by unfold need; exact List.mem_cons_self) rfl
    exact lv_ldc2 hx hb hown hw.2 (hen.dec rfl) (k _ hl)
  · cases h
    by_cases h0 : ea = 0
    · have hw := hen.word hts (w := .fieldLink (mNm q).cls _ "java/lang/String" "COMPACT_STRINGS" "Z") (by unfold need; simp only [eA, h0, if_true]; exact List.mem_cons_self) rfl
      refine va_gets hx hb hC.2.2.2.1 hS hown hw.2 (fun _ z => z) (hen.dec rfl) ?_
      have := k _ hl
      simp only [eA, h0, if_true] at this
      exact this
    · have hw := hen.word hts (w := .fieldLink (mNm q).cls _ "jdk/internal/util/Preconditions" "SIOOBE_FORMATTER" "Ljava/util/function/BiFunction;") (by unfold need; simp only [eA, h0, if_false]; exact List.mem_cons_self) rfl
      refine va_gets hx hb hC.2.2.2.2.1 hS hown hw.2 (fun _ z => z) (hen.dec rfl) ?_
      have := k _ hl
      simp only [eA, h0, if_false] at this
      exact this
  · rename_i off
    cases h
    have ht : (pc : Int) + off = (ea : Int) := by
      have := hen.2.2.2
      unfold stat at this
      exact of_decide_eq_true this
    exact lv_goto hx hb (hen.dec rfl) ht (k _ hl)
  · split at h
    · cases h; exact simIf FX hen (k _ hl)
    · cases h
  · split at h
    · cases h; exact simIcmp FX hen (k _ hl)
    · cases h
  · split at h
    · split at h
      · rename_i hc
        obtain ⟨t, h1, h2⟩ := map_some_inv h
        cases h2
        exact lv_tableOut hx hb hen.1 hc (tgtS_inv h1) (k _ hl)
      · rename_i hc
        split at h
        · rename_i o ho
          obtain ⟨t, h1, h2⟩ := map_some_inv h
          cases h2
          exact lv_tableIn hx hb hen.1 (fun z => hc (Or.inl z)) (fun z => hc (Or.inr z)) ho (tgtS_inv h1) (k _ hl)
        · cases h
    · cases h
  · split at h
    · obtain ⟨t, h1, h2⟩ := map_some_inv h
      cases h2
      have hs := hen.2.2.2
      unfold stat at hs
      exact lv_lookup hx hb hen.1 hs rfl (tgtS_inv h1) (k _ hl)
    · cases h
  · split at h
    · split at h
      · rename_i hc
        cases h
        have h90 : ea = 9000 := hc.1
        have hw1 := hen.word hts (w := .methodLink (mNm q).cls _ objectInit) (by unfold need; simp only [eA, h90, if_true]; exact List.mem_cons_self) rfl
        have hw2 := hen.word hts (w := .instanceMethod objectInit) (by unfold need; simp only [eA, h90, if_true]; exact List.mem_cons_of_mem _ List.mem_cons_self) rfl
        have hw3 := hen.word hts (w := .code objectInit ⟨#[0xb1]⟩ 1 none) (by unfold need; simp only [eA, h90, if_true]; exact List.mem_cons_of_mem _ (List.mem_cons_of_mem _ List.mem_cons_self)) rfl
        have hs := hen.2.2.2
        unfold stat at hs
        simp only [eA, h90, if_true, Bool.and_eq_true, decide_eq_true_eq] at hs
        refine W.objInit hx hb hown hw1.2 hw2.2 hw3.2 rfl (hl.size.trans hml.symm) rfl (hen.dec rfl) (by omega) ?_ (k _ hl)
        show 2 * 0 + _ + 12 ≤ _
        rw [catS_cv hf]
        have := hc.2
        omega
      · cases h
    · cases h
  · rename_i idx
    split at h
    · rename_i y x r
      split at h
      · rename_i hc
        cases h
        have h90 : ea = 9002 := hc.1
        have hw1 := hen.word hts (w := .methodLink (mNm q).cls idx Lib.Math.max.name) (by unfold need; simp [eA, h90]) rfl
        have hw2 := hen.word hts (w := .static Lib.Math.max.name) (by unfold need; simp [eA, h90]) rfl
        have hw3 := hen.word hts (w := .initialized "java/lang/Math") (by unfold need; simp [eA, h90]) rfl
        have hw4 := hen.word hts (w := .code Lib.Math.max.name Lib.Math.max.code 2 (some .int)) (by unfold need; simp [eA, h90]) rfl
        have hs := hen.2.2.2
        unfold stat at hs
        simp only [eA, h90, or_true, true_or, if_true, Bool.and_eq_true, decide_eq_true_eq] at hs
        refine va_mmax hx hb (hml.trans hl.size.symm) hown hw1.2 hw2.2 hw3.2 hw4.2 (by omega) (by rw [catS_cv hf]; have := hc.2; omega) hcR hsR (hen.dec rfl) (k _ hl)
      · split at h
        · rename_i hc
          cases h
          have h90 : ea = 9003 := hc.1
          have hw1 := hen.word hts (w := .methodLink (mNm q).cls idx Lib.Math.min.name) (by unfold need; simp [eA, h90]) rfl
          have hw2 := hen.word hts (w := .static Lib.Math.min.name) (by unfold need; simp [eA, h90]) rfl
          have hw3 := hen.word hts (w := .initialized "java/lang/Math") (by unfold need; simp [eA, h90]) rfl
          have hw4 := hen.word hts (w := .code Lib.Math.min.name Lib.Math.min.code 2 (some .int)) (by unfold need; simp [eA, h90]) rfl
          have hs := hen.2.2.2
          unfold stat at hs
          simp only [eA, h90, or_true, true_or, if_true, Bool.and_eq_true, decide_eq_true_eq] at hs
          refine va_mmin hx hb (hml.trans hl.size.symm) hown hw1.2 hw2.2 hw3.2 hw4.2 (by omega) (by rw [catS_cv hf]; have := hc.2; omega) hcR hsR (hen.dec rfl) (k _ hl)
        · cases h
    · cases h
  · obtain ⟨s2, h1, h2⟩ := map_some_inv h
    cases h2
    exact simRd FX hen hP hS h1 (k _ hl)
  · obtain ⟨s2, h1, h2⟩ := map_some_inv h
    cases h2
    exact simRd FX hen hP hS h1 (k _ hl)
  · obtain ⟨s2, h1, h2⟩ := map_some_inv h
    cases h2
    exact simRd FX hen hP hS h1 (k _ hl)
  · obtain ⟨s2, h1, h2⟩ := map_some_inv h
    cases h2
    exact simRd FX hen hP hS h1 (k _ hl)
  · obtain ⟨s2, h1, h2⟩ := map_some_inv h
    cases h2
    exact simRd FX hen hP hS h1 (k _ hl)
  · obtain ⟨s2, h1, h2⟩ := map_some_inv h
    cases h2
    exact simRd FX hen hP hS h1 (k _ hl)
  · obtain ⟨s2, h1, h2⟩ := map_some_inv h
    cases h2
    exact simAr FX hen h1 (k _ hl)
end SIMA2
