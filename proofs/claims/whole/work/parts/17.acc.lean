/-! the accounts: their rows lie behind them -/
def accA (a : Nat) : Prop := a ∈ [5, 18, 22, 28, 32, 36, 40, 44, 48, 52, 56, 62, 66]
theorem acc0 {a : Nat} (h : accA a) : skel[a]? = some (.inr (.inr (0, [a + 3, a + 4, a + 5]))) := by
  have : ∀ a ∈ [5, 18, 22, 28, 32, 36, 40, 44, 48, 52, 56, 62, 66], skel[a]? = some (.inr (.inr (0, [a + 3, a + 4, a + 5]))) := by decide +kernel
  exact this a h
theorem acc1 {a : Nat} (h : accA a) : skel[a + 1]? = some (.inl (0, 30)) := by
  have : ∀ a ∈ [5, 18, 22, 28, 32, 36, 40, 44, 48, 52, 56, 62, 66], skel[a + 1]? = some (.inl (0, 30)) := by decide +kernel
  exact this a h
theorem acc2 {a : Nat} (h : accA a) : skel[a + 2]? = some (.inl (0, 30)) := by
  have : ∀ a ∈ [5, 18, 22, 28, 32, 36, 40, 44, 48, 52, 56, 62, 66], skel[a + 2]? = some (.inl (0, 30)) := by decide +kernel
  exact this a h
theorem acc3 {a : Nat} (h : accA a) : skel[a + 3]? = some (.inl (0, 30)) := by
  have : ∀ a ∈ [5, 18, 22, 28, 32, 36, 40, 44, 48, 52, 56, 62, 66], skel[a + 3]? = some (.inl (0, 30)) := by decide +kernel
  exact this a h
theorem stpR_z {q : minfo} {en : ent} {v : Int32} (h : en.1 = .ireturn) (hq : mRt q = some .boolean) (hv : v = 0 ∨ v = 1) : stpR q en [.int v] = some (some (.int v)) := by
  unfold stpR
  rw [h, hq]
  rcases hv with rfl | rfl <;> rfl
theorem R_lkd {E : env} {i pc : Nat} {ls : lcs} {st : List Value} {M M2 : mem} {rv : Option Value} {cd : List (Nat × ent)} {a b len t : Nat} {c : Int} {pl : List Nat} {x : Int32} {d : Int} {ps : Array (Int × Int)} (hq : cdOf i = some cd) (h : lku pc cd = some (.lookupswitch d ps, len, a, b, c, pl)) (ht : tgtS pc (Op.lookupswitch.offset ps.toList d x.toInt) = some t) (k : Rm E i t ls st M rv M2) : Rm E i pc ls (.int x :: st) M rv M2 := by
  refine N_A1 hq h ?_ k
  simp only [stpA, ht, Option.map_some]
theorem stpR_i {q : minfo} {en : ent} {v : Int32} (h : en.1 = .ireturn) (hq : mRt q = some .int) : stpR q en [.int v] = some (some (.int v)) := by
  unfold stpR
  rw [h, hq]
  exact if_pos rfl
theorem R_callA {E : env} {i pc : Nat} {ls : lcs} {r : List Value} {M M1 M2 : mem} {rv rv1 : Option Value} {cd : List (Nat × ent)} {pl cs : List Nat} {v : Value} {ad j ix : Nat} {qj : minfo} (hq : cdOf i = some cd) (h : lku pc cd = some (.invokevirtual ix, 3, j, 2, 0, pl)) (hs : skel[ad]? = some (.inr (.inr (0, cs)))) (hr : catS r ≤ 8) (hj : mtab[j]? = some qj) (hc : (decide ((ent0 (mLx qj) [.ref ad, v]).length = mLx qj) && decide (0 < j)) = true) (hx : Rm E j 0 (ent0 (mLx qj) [.ref ad, v]) [] M rv1 M1) (k : Rm E i (pc + 3) ls (rv1.toList ++ r) M1 rv M2) : Rm E i pc ls (v :: .ref ad :: r) M rv M2 := by
  refine N_C1 hq h rfl rfl ?_ hj hc hx k
  have h1 : (decide (2 ≤ (v :: Value.ref ad :: r).length) && decide (catS ((v :: Value.ref ad :: r).drop 2) ≤ 8)) = true := by simp [hr]
  unfold stpC
  rw [show eB (Instr.invokevirtual ix, 3, j, 2, (0 : Int), pl) = 2 from rfl, if_pos h1]
  show (match (enc M).1[ad]? with | some (.inr o) => _ | _ => _) = _
  rw [enc_at hs]
  rfl
