/-! what the checks give of an entry of code -/
def eOk (q : minfo) (pc : Nat) (en : ent) : Prop := decode (mBy q) pc = .ok (en.1, en.2.1) ∧ (∀ w ∈ need (mNm q).cls en, w ∈ lw_tbl ∧ (goodWord w || isSpec w) = true) ∧ lenOk en = true ∧ stat q pc en = true
theorem lku_mem {pc : Nat} {en : ent} : ∀ {l : List (Nat × ent)}, lku pc l = some en → (pc, en) ∈ l
  | [], h => by cases h
  | x :: r, h => by
    unfold lku at h
    split at h
    · rename_i hx
      cases h
      have : x.1 = pc := Nat.eq_of_beq_eq_true hx
      subst this
      exact List.mem_cons_self
    · exact List.mem_cons_of_mem _ (lku_mem h)
theorem ctab_ok {i pc : Nat} {q : minfo} {en : ent} (hq : mtab[i]? = some q) (h : ctab i pc = some en) : eOk q pc en := by
  unfold ctab at h
  rw [hq] at h
  have hm : (pc, en) ∈ mCd q := lku_mem h
  have hc := List.all_eq_true.mp (ck_all q (List.mem_of_getElem? hq)) _ hm
  unfold chkE at hc
  simp only [Bool.and_eq_true, decide_eq_true_eq] at hc
  obtain ⟨⟨⟨⟨h1, h2⟩, h3⟩, h4⟩, h5⟩ := hc
  refine ⟨h1, fun w hw => ⟨?_, List.all_eq_true.mp h3 w hw⟩, h4, h5⟩
  have : some w ∈ (need (mNm q).cls en).map some := List.mem_map.mpr ⟨w, hw, rfl⟩
  rw [← h2] at this
  obtain ⟨p, -, hp⟩ := List.mem_map.mp this
  exact List.mem_of_getElem? hp
/-- what holds in a frame of the method q -/
def Fx (P : prm) (q : minfo) (p : Program) (R : Room) (s : State) (m : MethodId) (args : Array Value) (meth : Method) (c : Code) : Prop :=
  p.tables.exec = Jvm.exec ∧ c.code = mBy q ∧ c.maxLocals = mLx q ∧ s.vm.findClass (mNm q).cls = some m.cls ∧ (∀ w ∈ gtb, w.before args s = true) ∧ va_K (pG P) classes (tys P) s ∧ Cst P s s.heap ∧ mFr q ≤ R.frames ∧ mLo q ≤ R.locals ∧ ((mNm q).name = "<init>" → meth.name = "<init>") ∧ (pF P).category = 1 ∧ pB P ≤ s.heap.size
theorem eOk.dec {q : minfo} {pc len a b : Nat} {ins : Instr} {c : Int} {pl : List Nat} (h : eOk q pc (ins, len, a, b, c, pl)) {n : Nat} (hn : lenOk (ins, len, a, b, c, pl) = decide (len = n)) : decode (mBy q) pc = .ok (ins, n) := by
  obtain ⟨h1, -, h3, -⟩ := h
  rw [hn, decide_eq_true_eq] at h3
  rw [h1]
  simp only [h3]
theorem eOk.word {q : minfo} {pc : Nat} {en : ent} (h : eOk q pc en) {s : State} {args : Array Value} (hts : ∀ w ∈ gtb, w.before args s = true) {w : Cond} (hw : w ∈ need (mNm q).cls en) (hs : isSpec w = false) : w ∈ gtb ∧ w.before args s = true := by
  have h2 := h.2.1 w hw
  rw [hs, Bool.or_false] at h2
  have := gtb_mk h2.1 h2.2
  exact ⟨this, hts w this⟩
/-- the classes of the worlds -/
theorem cls_ok : ∀ (ci : Nat) (c : vw_C), classes[ci]? = some c → (∀ w ∈ u_ws c.1 c.2.1 c.2.2, w ∈ gtb) ∧ ∃ f, cfs[ci]? = some f ∧ (∀ k, k < c.2.2 → parseFieldDescriptor (c.2.1 k).2.2.1 = some (f k)) ∧ (∀ a, a < c.2.2 → ∀ b, b < c.2.2 → a ≠ b → (c.2.1 a).2.1 ≠ (c.2.1 b).2.1) := by
  have key : ∀ {C : String} {T : u_T} {N : Nat}, (∀ w ∈ u_ws C T N, w ∈ lw_tbl) → (u_ws C T N).all goodWord = true → ∀ w ∈ u_ws C T N, w ∈ gtb := fun h g w hw => gtb_mk (h w hw) (List.all_eq_true.mp g w hw)
  intro ci c h
  match ci, h with
  | 0, h => cases h; exact ⟨key cw0 (by decide +kernel), _, rfl, cp0, cm0⟩
  | 1, h => cases h; exact ⟨key cw1 (by decide +kernel), _, rfl, cp1, cm1⟩
  | 2, h => cases h; exact ⟨key cw2 (by decide +kernel), _, rfl, cp2, cm2⟩
  | 3, h => cases h; exact ⟨key cw3 (by decide +kernel), _, rfl, cp3, cm3⟩
  | 4, h => cases h; exact ⟨key cw4 (by decide +kernel), _, rfl, cp4, cm4⟩
  | 5, h => cases h; exact ⟨key cw5 (by decide +kernel), _, rfl, cp5, cm5⟩
  | 6, h => cases h; exact ⟨key cw6 (by decide +kernel), _, rfl, cp6, cm6⟩
  | 7, h => cases h; exact ⟨key cw7 (by decide +kernel), _, rfl, cp7, cm7⟩
  | 8, h => cases h; exact ⟨key cw8 (by decide +kernel), _, rfl, cp8, cm8⟩
  | 9, h => cases h; exact ⟨key cw9 (by decide +kernel), _, rfl, cp9, cm9⟩
  | 10, h => cases h; exact ⟨key cw10 (by decide +kernel), _, rfl, cp10, cm10⟩
  | k + 11, h => simp [classes] at h
theorem inB_in {i : Int32} {n : Nat} (h : inB i n = true) : vp_in i n := by
  unfold inB at h
  simp only [Bool.and_eq_true, decide_eq_true_eq] at h
  rintro (h1 | h1)
  · exact h.1 h1
  · omega
theorem tys_at {P : prm} {t : Nat} (h : t < 4) : ∃ ty, (tys P)[t]? = some (pY P t, ty) := by
  rcases (show t = 0 ∨ t = 1 ∨ t = 2 ∨ t = 3 by omega) with rfl | rfl | rfl | rfl
  · exact ⟨_, rfl⟩
  · exact ⟨_, rfl⟩
  · exact ⟨_, rfl⟩
  · exact ⟨_, rfl⟩
theorem stLdI_inv {ls ls2 : lcs} {k n pc pc2 : Nat} {st st2 : List Value} (h : stLdI ls k n pc st = some (pc2, ls2, st2)) : ∃ x, lGet ls k = some (.int x) ∧ pc2 = pc + n ∧ ls2 = ls ∧ st2 = .int x :: st := by
  unfold stLdI at h
  split at h
  · rename_i x hx
    cases h
    exact ⟨x, hx, rfl, rfl, rfl⟩
  · cases h
theorem stLdL_inv {ls ls2 : lcs} {k n pc pc2 : Nat} {st st2 : List Value} (h : stLdL ls k n pc st = some (pc2, ls2, st2)) : ∃ x, lGet ls k = some (.long x) ∧ pc2 = pc + n ∧ ls2 = ls ∧ st2 = .long x :: st := by
  unfold stLdL at h
  split at h
  · rename_i x hx
    cases h
    exact ⟨x, hx, rfl, rfl, rfl⟩
  · cases h
theorem stLdA_inv {ls ls2 : lcs} {k n pc pc2 : Nat} {st st2 : List Value} (h : stLdA ls k n pc st = some (pc2, ls2, st2)) (P : prm) : ∃ v a, lGet ls k = some v ∧ cv P v = .ref a ∧ pc2 = pc + n ∧ ls2 = ls ∧ st2 = v :: st := by
  unfold stLdA at h
  split at h
  · rename_i x hx
    cases h
    exact ⟨_, _, hx, rfl, rfl, rfl, rfl⟩
  · rename_i x hx
    split at h
    · rename_i h3
      cases h
      exact ⟨_, pC P x, hx, by show (if x < 3 then Value.ref (pC P x) else pF P) = _; rw [if_pos h3], rfl, rfl, rfl⟩
    · cases h
  · cases h
theorem stStI_inv {ls ls2 : lcs} {k n pc pc2 : Nat} {st st2 : List Value} (h : stStI ls k n pc st = some (pc2, ls2, st2)) : ∃ x, st = .int x :: st2 ∧ lSet ls k (.int x) = some ls2 ∧ pc2 = pc + n := by
  unfold stStI at h
  split at h
  · rename_i x r
    cases hs : lSet ls k (.int x) with
    | none => rw [hs] at h; cases h
    | some l2 => rw [hs] at h; cases h; exact ⟨x, rfl, hs, rfl⟩
  · cases h
theorem stStL_inv {ls ls2 : lcs} {k n pc pc2 : Nat} {st st2 : List Value} (h : stStL ls k n pc st = some (pc2, ls2, st2)) : ∃ x, st = .long x :: st2 ∧ lSet2 ls k (.long x) = some ls2 ∧ pc2 = pc + n := by
  unfold stStL at h
  split at h
  · rename_i x r
    cases hs : lSet2 ls k (.long x) with
    | none => rw [hs] at h; cases h
    | some l2 => rw [hs] at h; cases h; exact ⟨x, rfl, hs, rfl⟩
  · cases h
theorem stStA_inv {ls ls2 : lcs} {k n pc pc2 : Nat} {st st2 : List Value} (h : stStA ls k n pc st = some (pc2, ls2, st2)) : ∃ x, st = .ref x :: st2 ∧ lSet ls k (.ref x) = some ls2 ∧ pc2 = pc + n := by
  unfold stStA at h
  split at h
  · rename_i x r
    cases hs : lSet ls k (.ref x) with
    | none => rw [hs] at h; cases h
    | some l2 => rw [hs] at h; cases h; exact ⟨x, rfl, hs, rfl⟩
  · cases h
theorem tgtS_inv {pc t : Nat} {off : Int} (h : tgtS pc off = some t) : (pc : Int) + off = (t : Int) := by
  unfold tgtS at h
  split at h
  · cases h
    omega
  · cases h
theorem str_one : lw_tbl.all (fun w => match w with | .stringRef a b _ => decide (a = hostN) && decide (b = 80) | _ => true) = true := by decide +kernel
theorem str_is {a t : String} {i : Nat} (h : Cond.stringRef a i t ∈ lw_tbl) : a = hostN ∧ i = 80 := by
  have := List.all_eq_true.mp str_one _ h
  simpa using this
section SIMA
variable {P : prm} {q : minfo} {p : Program} {l : Launch} {e : Env} {R : Room} {s : State} {m : MethodId} {args : Array Value} {below : List Frame} {meth : Method} {c : Code} {H : Heap} {locs : List Loc} {cells slots : Nat} {Q : State → Prop}
/-- arithmetic -/
theorem simAr {pc len ea eb : Nat} {ec : Int} {ep : List Nat} {ins : Instr} {lsr : Array Slot} {st st2 : List Value} (FX : Fx P q p R s m args meth c) (hen : eOk q pc (ins, len, ea, eb, ec, ep)) (h : stAr ins st = some st2)
    (k : W p l e R s m args below meth c H locs cells slots Q (F0 m (pc + 1) lsr (st2.map (cv P)))) : W p l e R s m args below meth c H locs cells slots Q (F0 m pc lsr (st.map (cv P))) := by
  have hx := FX.1
  have hb := FX.2.1
  have hf := FX.2.2.2.2.2.2.2.2.2.2.1
  unfold stAr at h
  split at h
  · cases h; exact lv_iadd hx hb (hen.dec rfl) k
  · cases h; exact lv_isub hx hb (hen.dec rfl) k
  · cases h; exact lv_imul hx hb (hen.dec rfl) k
  · cases h; exact lv_iand hx hb (hen.dec rfl) k
  · cases h; exact lv_ishr hx hb (hen.dec rfl) k
  · split at h
    · cases h
    · rename_i hne; cases h; exact lv_idiv hx hb (hen.dec rfl) hne k
  · split at h
    · cases h
    · rename_i hne; cases h; exact lv_irem hx hb (hen.dec rfl) hne k
  · cases h; exact lv_ladd hx hb (hen.dec rfl) k
  · cases h; exact lv_lmul hx hb (hen.dec rfl) k
  · cases h; exact lv_land hx hb (hen.dec rfl) k
  · cases h; exact lv_lxor hx hb (hen.dec rfl) k
  · split at h
    · cases h
    · rename_i hne; cases h; exact lv_lrem hx hb (hen.dec rfl) hne k
  · cases h; exact W.lcmp hx hb (hen.dec rfl) k
  · cases h; exact lv_lshl hx hb (hen.dec rfl) rfl k
  · cases h; exact lv_lshr hx hb (hen.dec rfl) rfl k
  · cases h; exact lv_i2l hx hb (hen.dec rfl) rfl k
  · cases h; exact lv_l2i hx hb (hen.dec rfl) rfl k
  · cases h; exact lv_i2c hx hb (hen.dec rfl) rfl k
  · split at h
    · rename_i hv; cases h; exact lv_dup hx hb (hen.dec rfl) (by rw [cv_cat hf]; exact hv) k
    · cases h
  · split at h
    · rename_i hv; cases h; exact lv_pop hx hb (hen.dec rfl) (by rw [cv_cat hf]; exact hv) k
    · cases h
  · split at h
    · rename_i hv; cases h; exact lv_dup2_11 hx hb (hen.dec rfl) (by rw [cv_cat hf]; exact hv.1) (by rw [cv_cat hf]; exact hv.2) k
    · cases h
  · cases h; exact lv_iconst hx hb (hen.dec rfl) rfl k
  · cases h; exact lv_lconst hx hb (hen.dec rfl) rfl k
  · cases h
/-- reading cells -/
theorem simRd {pc len ea eb : Nat} {ec : Int} {ep : List Nat} {ins : Instr} {lsr : Array Slot} {st st2 : List Value} {hp : hh} (FX : Fx P q p R s m args meth c) (hen : eOk q pc (ins, len, ea, eb, ec, ep)) (hP : va_P (pG P) classes (conc P hp.1) H) (hS : va_S (AA P) s.heap H locs) (h : stRd (pL P) (pX P) (ins, len, ea, eb, ec, ep) st hp = some st2)
    (k : W p l e R s m args below meth c H locs cells slots Q (F0 m (pc + ilen ins) lsr (st2.map (cv P)))) : W p l e R s m args below meth c H locs cells slots Q (F0 m pc lsr (st.map (cv P))) := by
  obtain ⟨hx, hb, hml, hown, hts, hK, hC, hfr, hlo, hnm, hf, hB⟩ := id FX
  obtain ⟨c1, c2, c3, c4, c5, c6, c7, c8, c9, c10, c11⟩ := id hC
  unfold stRd at h
  dsimp only at h
  split at h
  · split at h
    · rename_i o ho
      split at h
      · cases h
      · rename_i h99
        split at h
        · rename_i ho1
          cases hv : o.2[eb]? with
          | none => rw [show eB _ = eb from rfl, hv] at h; cases h
          | some v =>
            rw [show eB _ = eb from rfl, hv] at h
            cases h
            have hst := hen.2.2.2
            have h99' : ¬ ea = 99 := h99
            cases hcl : classes[ea]? with
            | none =>
              unfold stat at hst
              simp only [eA, hcl, h99', decide_false, Bool.false_or] at hst
              cases hst
            | some cc =>
              unfold stat at hst
              simp only [eA, eB, hcl, h99', decide_false, Bool.false_or, decide_eq_true_eq] at hst
              have hw := hen.word hts (w := .fieldLink (mNm q).cls _ (cc.2.1 eb).1 (cc.2.1 eb).2.1 (cc.2.1 eb).2.2.1) (by unfold need; simp only [eA, eB, hcl, h99', if_false]; exact List.mem_cons_self) rfl
              obtain ⟨oc, os⟩ := o
              have hoe : oc = ea := ho1
              subst hoe
              exact va_get hx hb hts (cls_ok oc cc hcl).1 hown hK hP _ (fs := os.map (cv P)) (ci := oc) (conc_at ho) hcl eb (of_decide_eq_true hst) hw.2 (fun _ z => z) (v := cv P v) (by rw [List.getElem?_map, hv]; rfl) (hen.dec rfl) k
        · cases h
    · cases h
  · split at h
    · rename_i h99
      have h99' : ea = 99 := h99
      have hk1 : cv P (.retAddr 1) = .ref (pC P 1) := rfl
      cases h
      by_cases h0 : eb = 0
      · have hw := hen.word hts (w := .fieldLink (mNm q).cls _ "java/lang/String" "code\x72" "B") (by unfold need; simp only [eA, eB, h99', h0, if_true]; exact List.mem_cons_self) rfl
        refine vk_getf hx hb c7 hS hown hw.2 (fun _ z => z) (hen.dec rfl) ?_
        simpa [eB, h0, cv, ilen] using k
      · have hw := hen.word hts (w := .fieldLink (mNm q).cls _ "java/lang/String" "value" "[B") (by unfold need; simp only [eA, eB, h99', h0, if_true, if_false]; exact List.mem_cons_self) rfl
        refine vk_getf hx hb c8 hS hown hw.2 (fun _ z => z) (hen.dec rfl) ?_
        simpa [eB, h0, cv, ilen] using k
    · cases h
  · split at h
    · rename_i t n f ho
      split at h
      · rename_i hc
        simp only [Bool.and_eq_true, decide_eq_true_eq] at hc
        obtain ⟨rfl, hi⟩ := hc
        cases h
        exact va_iald hx hb hK hP _ 0 (conc_at ho) rfl (inB_in hi) (hen.dec rfl) k
      · cases h
    · cases h
  · split at h
    · rename_i hi
      cases h
      exact va_sld hx hb c10 (by omega) (by unfold AA; omega) hS (inB_in hi) (hen.dec rfl) k
    · cases h
  · split at h
    · rename_i t n f ho
      split at h
      · rename_i hc
        simp only [Bool.and_eq_true, decide_eq_true_eq] at hc
        obtain ⟨rfl, hi⟩ := hc
        cases h
        exact va_zald hx hb hK hP _ 1 (conc_at ho) rfl (inB_in hi) (hen.dec rfl) k
      · cases h
    · cases h
  · split at h
    · rename_i hi
      cases h
      exact va_tb hx hb c9 hS (inB_in hi) rfl (hen.dec rfl) k
    · cases h
  · split at h
    · rename_i t n f ho
      split at h
      · rename_i hc
        simp only [Bool.and_eq_true, decide_eq_true_eq] at hc
        obtain ⟨rfl, hi⟩ := hc
        cases h
        exact va_cald hx hb hK hP _ 2 (conc_at ho) rfl (inB_in hi) (hen.dec rfl) k
      · cases h
    · cases h
  · rename_i i a r
    split at h
    · rename_i t n g ho
      split at h
      · rename_i hc
        simp only [Bool.and_eq_true, decide_eq_true_eq] at hc
        obtain ⟨rfl, hi⟩ := hc
        cases hg : g i.toNatClampNeg with
        | none => rw [hg] at h; cases h
        | some y =>
          rw [hg] at h
          cases h
          refine va_aldq hx hb hK hP _ 3 (C := cn0) (conc_at ho) rfl (inB_in hi) (hen.dec rfl) ?_
          simpa [hg, va_rf, cv, ilen] using k
      · cases h
    · cases h
  · split at h
    · rename_i a r t n y ho
      split at h
      · rename_i ht
        cases h
        obtain ⟨ty, hty⟩ := tys_at (P := P) ht
        rcases y with f | g
        · exact va_alen hx hb hK hP _ t (conc_at ho) hty rfl (hen.dec rfl) k
        · exact va_alen hx hb hK hP _ t (conc_at ho) hty rfl (hen.dec rfl) k
      · cases h
    · cases h
  · cases h
    exact va_slen hx hb c10 (by omega) (by unfold AA; omega) hS (hen.dec rfl) k
  · cases h
    exact va_tlen hx hb c9 hS rfl (hen.dec rfl) k
  · cases h
end SIMA
