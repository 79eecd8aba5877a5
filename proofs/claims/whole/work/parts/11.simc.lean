theorem okv_ok {P : prm} {t : FieldType} {v : Value} (h : okv t v = true) : narrow t (cv P v) = cv P v ∧ fits t (cv P v) = true := by
  unfold okv at h
  split at h
  · exact ⟨rfl, rfl⟩
  · exact ⟨rfl, rfl⟩
  · exact ⟨rfl, rfl⟩
  · exact ⟨rfl, rfl⟩
  · cases h
theorem cv_dflt {P : prm} (t : FieldType) : cv P (defaultValue t) = defaultValue t := by cases t <;> rfl
theorem new_addr {P : prm} {D : va_G} {cl : List vw_C} {l : List hcel} {q sz cells : Nat} {en : va_E} {H1 : Heap} (hcount : sz + cells = pB P + l.length) (hP : va_P D cl (conc P l ++ [(q, en)]) H1) (hD : va_D (AA P) (conc P l ++ [(q, en)])) (hsz : H1.size ≤ sz + (cells + 1)) : q = pB P + l.length := by
  have hlen : (conc P l).length = l.length := by unfold conc; exact List.length_mapIdx
  have hat : (conc P l ++ [(q, en)])[l.length]? = some (q, en) := by
    rw [List.getElem?_append_right (by omega), hlen]
    simp
  have h1 := (hP _ _ hat).lt
  have h2 : pB P ≤ q := hD.2 _ _ hat
  have h3 : q < H1.size := h1
  rcases Nat.lt_or_ge q (pB P + l.length) with h | h
  · exfalso
    have hj : q - pB P < l.length := by omega
    have hc : (conc P l ++ [(q, en)])[q - pB P]? = some (pB P + (q - pB P), cE P l[q - pB P]) := by
      rw [List.getElem?_append_left (by omega)]
      exact conc_at (List.getElem?_eq_getElem hj)
    have := hD.1 _ _ _ _ hc hat (by show pB P + (q - pB P) = q; omega)
    omega
  · omega
theorem size_eq {P : prm} {D : va_G} {cl : List vw_C} {l : List hcel} {sz cells : Nat} {H : Heap} (hcount : sz + cells = pB P + l.length) (hB : pB P ≤ sz) (hP : va_P D cl (conc P l) H) (h1 : sz ≤ H.size) (h2 : H.size ≤ sz + cells) : H.size = pB P + l.length := by
  rcases Nat.eq_zero_or_pos l.length with h | h
  · omega
  · have hat := conc_at (P := P) (List.getElem?_eq_getElem (show l.length - 1 < l.length by omega))
    have h3 : pB P + (l.length - 1) < H.size := (hP _ _ hat).lt
    omega
section SIMB
variable {P : prm} {q : minfo} {p : Program} {l : Launch} {e : Env} {R : Room} {s : State} {m : MethodId} {args : Array Value} {below : List Frame} {meth : Method} {c : Code} {H : Heap} {locs : List Loc} {cells slots : Nat} {Q : State → Prop}
theorem W.zz {x y : Nat} {g : JFrame} (hx : x = 0) (hy : y = 0) (k : W p l e R s m args below meth c H locs (cells + x) (slots + y) Q g) : W p l e R s m args below meth c H locs cells slots Q g := by
  subst hx; subst hy; exact k
/-- a step that changes the cells -/
theorem simB {en : ent} {pc : Nat} {lsr : Array Slot} {st st2 : List Value} {hp hp2 : hh} (FX : Fx P q p R s m args meth c) (hen : eOk q pc en) (hsz : lsr.size = mLx q) (hP : va_P (pG P) classes (conc P hp.1) H) (hS : va_S (AA P) s.heap H locs) (hcount : s.heap.size + cells = pB P + hp.1.length) (h : stpB en st hp = some (st2, hp2)) (hcR : cells + (hp2.1.length - hp.1.length) ≤ R.cells) (hsR : slots + (hp2.2 - hp.2) ≤ R.slots)
    (k : ∀ (H1 : Heap) (locs1 : List Loc), va_P (pG P) classes (conc P hp2.1) H1 → va_S (AA P) s.heap H1 locs1 → W p l e R s m args below meth c H1 locs1 (cells + (hp2.1.length - hp.1.length)) (slots + (hp2.2 - hp.2)) Q (F0 m (pc + en.2.1) lsr (st2.map (cv P)))) : W p l e R s m args below meth c H locs cells slots Q (F0 m pc lsr (st.map (cv P))) := by
  obtain ⟨hx, hb, hml, hown, hts, hK, hC, hfr, hlo, hnm, hf, hB⟩ := id FX
  obtain ⟨ins, len, ea, eb, ec, ep⟩ := en
  have hD : va_D (AA P) (conc P hp.1) := conc_D
  have hA : ∀ x, s.heap.size ≤ x → AA P x := fun x hx => by show pB P ≤ x; omega
  unfold stpB at h
  dsimp only at h
  split at h
  · rename_i idx v a r
    split at h
    · rename_i o t ho ht
      split at h
      · rename_i hc
        simp only [Bool.and_eq_true, decide_eq_true_eq] at hc
        obtain ⟨⟨h1, h2⟩, h3⟩ := hc
        cases h
        obtain ⟨oc, os⟩ := o
        have hoe : oc = ea := h1
        subst hoe
        have hst := hen.2.2.2
        cases hcl : classes[oc]? with
        | none =>
          unfold stat at hst
          simp only [eA, hcl] at hst
          cases hst
        | some cc =>
          obtain ⟨hcw, f, hf1, hf2, hf3⟩ := cls_ok oc cc hcl
          unfold stat at hst
          simp only [eA, eB, hcl, Bool.and_eq_true, decide_eq_true_eq] at hst
          have hw := hen.word hts (w := .fieldLink (mNm q).cls idx (cc.2.1 eb).1 (cc.2.1 eb).2.1 (cc.2.1 eb).2.2.1) (by unfold need; simp only [eA, eB, hcl]; exact List.mem_cons_self) rfl
          have ht2 : t = f eb := by
            unfold fTy at ht
            simp only [eA, eB, hf1] at ht
            exact (Option.some.inj ht).symm
          subst ht2
          have hok := okv_ok (P := P) h3
          have hset : ∀ H1 : Heap, va_P (pG P) classes ((conc P hp.1).set a (pB P + a, .inr (oc, (os.map (cv P)).set eb (cv P v)))) H1 → va_P (pG P) classes (conc P (hp.1.set a (.inr (oc, os.set eb v)))) H1 := by
            intro H1 z
            rw [← conc_set]
            rw [show cE P (.inr (oc, os.set eb v)) = .inr (oc, (os.map (cv P)).set eb (cv P v)) from by show Sum.inr (oc, (os.set eb v).map (cv P)) = _; rw [List.map_set]]
            exact z
          have hlen2 : len = 3 := by
            have := hen.2.2.1
            unfold lenOk at this
            exact of_decide_eq_true this
          subst hlen2
          by_cases hfin : (cc.2.1 eb).2.2.2 = true
          · have h5 := hst.2
            simp only [hfin, Bool.not_true, Bool.false_or, Bool.and_eq_true, decide_eq_true_eq] at h5
            refine va_putF hx hb hts hcw f hf2 hf3 hown hK hP hD hS _ (conc_at ho) hcl eb (of_decide_eq_true hst.1) hw.2 (fun _ z => z) hfin (hnm h5.1) (of_decide_eq_true h5.2) (hf2 eb (of_decide_eq_true hst.1)) hok.1 hok.2 (by rw [List.length_map]; exact h2) (hen.dec rfl) (fun H1 locs1 hP1 _ hS1 => ?_)
            exact W.zz (by simp) (by simp) (k H1 locs1 (hset H1 hP1) hS1)
          · refine va_put hx hb hts hcw f hf2 hf3 hown hK hP hD hS _ (conc_at ho) hcl eb (of_decide_eq_true hst.1) hw.2 (fun _ z => z) (by simpa using hfin) (hf2 eb (of_decide_eq_true hst.1)) hok.1 hok.2 (by rw [List.length_map]; exact h2) (hen.dec rfl) (fun H1 locs1 hP1 _ hS1 => ?_)
            exact W.zz (by simp) (by simp) (k H1 locs1 (hset H1 hP1) hS1)
      · cases h
    · cases h
  · split at h
    · rename_i t n f ho
      split at h
      · rename_i hc
        simp only [Bool.and_eq_true, decide_eq_true_eq] at hc
        obtain ⟨rfl, hi⟩ := hc
        cases h
        have hlen2 : len = 1 := by
          have := hen.2.2.1
          unfold lenOk at this
          exact of_decide_eq_true this
        subst hlen2
        refine va_iast hx hb hK hP hD hS _ 0 (conc_at ho) rfl (inB_in hi) (hen.dec rfl) (fun H1 locs1 hP1 _ hS1 => ?_)
        exact W.zz (by simp) (by simp) (k H1 locs1 (by rw [← conc_set]; exact hP1) hS1)
      · cases h
    · cases h
  · split at h
    · rename_i t n f ho
      split at h
      · rename_i hc
        simp only [Bool.and_eq_true, decide_eq_true_eq] at hc
        obtain ⟨rfl, hi⟩ := hc
        cases h
        have hlen2 : len = 1 := by
          have := hen.2.2.1
          unfold lenOk at this
          exact of_decide_eq_true this
        subst hlen2
        refine va_zast hx hb hK hP hD hS _ 1 (conc_at ho) rfl (inB_in hi) (hen.dec rfl) (fun H1 locs1 hP1 _ hS1 => ?_)
        exact W.zz (by simp) (by simp) (k H1 locs1 (by rw [← conc_set]; exact hP1) hS1)
      · cases h
    · cases h
  · split at h
    · rename_i t n f ho
      split at h
      · rename_i hc
        simp only [Bool.and_eq_true, decide_eq_true_eq] at hc
        obtain ⟨rfl, hi⟩ := hc
        cases h
        have hlen2 : len = 1 := by
          have := hen.2.2.1
          unfold lenOk at this
          exact of_decide_eq_true this
        subst hlen2
        refine va_cast hx hb hK hP hD hS _ 2 (conc_at ho) rfl (inB_in hi) (hen.dec rfl) (fun H1 locs1 hP1 _ hS1 => ?_)
        exact W.zz (by simp) (by simp) (k H1 locs1 (by rw [← conc_set]; exact hP1) hS1)
      · cases h
    · cases h
  · rename_i v i a r
    split at h
    · rename_i t n g o ho hv
      split at h
      · rename_i hc
        simp only [Bool.and_eq_true, decide_eq_true_eq] at hc
        obtain ⟨⟨rfl, h0⟩, hi⟩ := hc
        cases h
        obtain ⟨oc, os⟩ := o
        have hoe : oc = 0 := h0
        subst hoe
        have hlen2 : len = 1 := by
          have := hen.2.2.1
          unfold lenOk at this
          exact of_decide_eq_true this
        subst hlen2
        refine va_astq hx hb hK hP hD hS _ 3 _ 0 (r := (cn0, ct0, 3)) (conc_at ho) rfl (conc_at hv) rfl (inB_in hi) (hen.dec rfl) (fun H1 locs1 hP1 _ hS1 => ?_)
        refine W.zz (by simp) (by simp) (k H1 locs1 ?_ hS1)
        rw [← conc_set]
        have : (fun j => (va_up g i.toNatClampNeg (some v) j).map (fun k => pB P + k)) = va_up (fun j => (g j).map (fun k => pB P + k)) i.toNatClampNeg (some (pB P + v)) := by
          funext j
          unfold va_up
          split <;> rfl
        show va_P _ _ ((conc P hp.1).set a (pB P + a, .inl (pY P 3, n, .inr (.inr (.inr (.inr (fun j => (va_up g i.toNatClampNeg (some v) j).map (fun k => pB P + k)))))))) H1
        rw [this]
        exact hP1
      · cases h
    · cases h
  · rename_i idx n dp a sp a0 r
    split at h
    · rename_i t0 n0 f t1 n1 g ho0 ho1
      split at h
      · rename_i hc
        simp only [Bool.and_eq_true, decide_eq_true_eq] at hc
        obtain ⟨⟨⟨⟨⟨⟨⟨⟨h90, rfl⟩, rfl⟩, h1⟩, h2⟩, h3⟩, h4⟩, h5⟩, h6⟩ := hc
        cases h
        have h90' : ea = 9001 := h90
        have hw1 := hen.word hts (w := .methodLink (mNm q).cls idx arraycopyName) (by unfold need; simp [eA, h90']) rfl
        have hw2 := hen.word hts (w := .native arraycopyName) (by unfold need; simp [eA, h90']) rfl
        have hw3 := hen.word hts (w := .static arraycopyName) (by unfold need; simp [eA, h90']) rfl
        have hw4 := hen.word hts (w := .initialized "java/lang/System") (by unfold need; simp [eA, h90']) rfl
        have hs := hen.2.2.2
        unfold stat at hs
        simp only [eA, h90', or_true, true_or, if_true, Bool.and_eq_true, decide_eq_true_eq] at hs
        have hlen2 : len = 3 := by
          have := hen.2.2.1
          unfold lenOk at this
          exact of_decide_eq_true this
        subst hlen2
        refine va_copyi hx hb (hml.trans hsz.symm) hown hw1.2 hw2.2 hw3.2 hw4.2 hK hP hD hS _ _ 0 0 (ty := .int) (conc_at ho0) (conc_at ho1) rfl rfl rfl h1 h2 h3 h4 h5 (fun _ _ => rfl) (by omega) (by rw [catS_cv hf]; omega) (hen.dec rfl) (fun H1 locs1 hP1 _ hS1 => ?_)
        exact W.zz (by simp) (by simp) (k H1 locs1 (by rw [← conc_set]; exact hP1) hS1)
      · cases h
    · cases h
  · rename_i ty n r
    split at h
    · rename_i hc
      simp only [Bool.and_eq_true, decide_eq_true_eq] at hc
      cases h
      have hw := hen.word hts (w := .arrayClass (newarray.typeOf ty)) (by unfold need; exact List.mem_cons_self) rfl
      have hlen2 : len = 2 := by
        have := hen.2.2.1
        unfold lenOk at this
        exact of_decide_eq_true this
      subst hlen2
      have e1 : (hp.1 ++ [Sum.inl (ea, n.toNatClampNeg, Sum.inl (fun _ => (0 : Int32)))]).length - hp.1.length = 1 := by rw [List.length_append]; simp
      have e2 : hp.2 + n.toNatClampNeg - hp.2 = n.toNatClampNeg := by omega
      simp only [eA, e1, e2] at hcR hsR k
      have hst := hen.2.2.2
      unfold stat at hst
      have main : ∀ (t : Nat) (ft : FieldType), ea = t → newarray.typeOf ty = ft → (tys P)[t]? = some (pY P t, ft) → (∀ cA : ClassId, vp_cell cA (n.toNatClampNeg, .inl (fun _ => (0 : Int32))) = arrV cA n.toNatClampNeg (fun _ => defaultValue ft)) → componentBytes ft ≤ 8 → (∀ a b : ClassId, va_RA s a ft → va_RA s b ft → a = b) → W p l e R s m args below meth c H locs cells slots Q (F0 m pc lsr (.int n :: r.map (cv P))) := by
        intro t ft hea hty htys hcell hcb huniq
        refine va_newa hx hb hw.2 hty hK hP hD hS hA (n := n) (N' := n.toNatClampNeg) (a0 := (n.toNatClampNeg, .inl (fun _ => 0))) hcell hc.1 rfl (by have := Nat.mul_le_mul hc.2 hcb; omega) (by omega) hsR (hen.dec rfl) (fun qa cA H1 hK1 hP1 hD1 hS1 => ?_)
        have hcy : cA = pY P t := by
          have h1 := (hK1.2 4 (cA, ft) rfl).2
          have h2 := (hK.2 t _ htys).2
          exact huniq _ _ h1 h2
        subst hcy
        intro T hT X
        have hqa := new_addr hcount hP1 hD1 (by rw [← hT]; exact X.same.2.2.1)
        subst hqa
        refine k H1 locs ?_ hS1 T hT X
        rw [conc_push]
        rw [hea]
        exact hP1
      have hu : ∀ (t : FieldType) (x : String) (a b : ClassId), s.vm.findClass x = some a → s.vm.findClass x = some b → a = b := fun _ x a b h1 h2 => Option.some.inj (h1.symm.trans h2)
      cases ty <;> simp only [eA, decide_eq_true_eq] at hst
      · exact main 1 .boolean (of_decide_eq_true hst) rfl rfl (fun _ => rfl) (by decide) (fun a b h1 h2 => hu .int _ a b h1 h2)
      · exact main 2 .char (of_decide_eq_true hst) rfl rfl (fun _ => rfl) (by decide) (fun a b h1 h2 => hu .int _ a b h1 h2)
      · cases hst
      · cases hst
      · cases hst
      · cases hst
      · exact main 0 .int (of_decide_eq_true hst) rfl rfl (fun _ => rfl) (by decide) (fun a b h1 h2 => hu .int _ a b h1 h2)
      · cases hst
    · cases h
  · rename_i idx n r
    split at h
    · rename_i hc
      simp only [Bool.and_eq_true, decide_eq_true_eq] at hc
      cases h
      have hw1 := hen.word hts (w := .classLink (mNm q).cls idx cn0) (by unfold need; exact List.mem_cons_self) rfl
      have hlen2 : len = 3 := by
        have := hen.2.2.1
        unfold lenOk at this
        exact of_decide_eq_true this
      subst hlen2
      have e1 : (hp.1 ++ [Sum.inl (3, n.toNatClampNeg, Sum.inr (fun _ => (none : Option Nat)))]).length - hp.1.length = 1 := by rw [List.length_append]; simp
      have e2 : hp.2 + n.toNatClampNeg - hp.2 = n.toNatClampNeg := by omega
      simp only [e1, e2] at hcR hsR k
      refine va_newq hx hb hown hw1.2 hC.2.1 hK hP hD hS hA (n := n) (N' := n.toNatClampNeg) hc.1 rfl (by have := hc.2; omega) (by omega) hsR (hen.dec rfl) (fun qa cA H1 hK1 hP1 hD1 hS1 => ?_)
      have hcy : cA = pY P 3 := by
        obtain ⟨_, _, _, _, _, h1⟩ := (hK1.2 4 (cA, .object cn0) rfl).2
        obtain ⟨_, _, _, _, _, h2⟩ := (hK.2 3 _ rfl).2
        exact Option.some.inj (h1.symm.trans h2)
      subst hcy
      intro T hT X
      have hqa := new_addr hcount hP1 hD1 (by rw [← hT]; exact X.same.2.2.1)
      subst hqa
      refine k H1 locs ?_ hS1 T hT X
      rw [conc_push]
      exact hP1
    · cases h
  · rename_i idx
    split at h
    · rename_i cc hcl
      cases h
      have hcl' : classes[ea]? = some cc := hcl
      obtain ⟨hcw, f, hf1, hf2, hf3⟩ := cls_ok ea cc hcl'
      have hw1 := hen.word hts (w := .classLink (mNm q).cls idx cc.1) (by unfold need; simp [eA, hcl']) rfl
      have hw2 := hen.word hts (w := .instantiable cc.1 cc.2.2) (by unfold need; simp [eA, hcl']) rfl
      have hw3 := hen.word hts (w := .initialized cc.1) (by unfold need; simp [eA, hcl']) rfl
      have hlen2 : len = 3 := by
        have := hen.2.2.1
        unfold lenOk at this
        exact of_decide_eq_true this
      subst hlen2
      have e1 : (hp.1 ++ [Sum.inr (ea, dflt ea)]).length - hp.1.length = 1 := by rw [List.length_append]; simp
      have e2 : hp.2 + cc.2.2 - hp.2 = cc.2.2 := by omega
      simp only [eA, e1, e2] at hcR hsR k
      refine va_new hx hb hts hcw f hf2 hown hw1.2 hw2.2 hw3.2 hK hP hD hS hA hcl' (fs := (dflt ea).map (cv P)) (fun j hj => ?_) (by omega) hsR (hen.dec rfl) (fun qa H1 hP1 hD1 hS1 => ?_)
      · unfold vp_V dflt
        simp only [hcl', hf1, List.map_map]
        rw [List.getD_eq_getElem?_getD, List.getElem?_map, List.getElem?_range hj]
        simp [cv_dflt]
      · intro T hT X
        have hqa := new_addr hcount hP1 hD1 (by rw [← hT]; exact X.same.2.2.1)
        subst hqa
        refine k H1 locs ?_ hS1 T hT X
        rw [conc_push]
        exact hP1
    · cases h
  · cases h
end SIMB
