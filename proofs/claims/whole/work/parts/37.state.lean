/-! the state that both sides hold -/
/-- a watch: its number, from, to, how much -/
abbrev wat : Type := Nat × Nat × Nat × Int32
def cTx (tx : List Int32) (M : mem) : Prop := M.1 1 1 = nI tx.length ∧ ∀ k c, tx[k]? = some c → M.1 2 k = c
def mTx (tx : List Int32) (M : mem) : Prop := M.1 83 11 = nI tx.length ∧ ∀ k c, tx[k]? = some c → M.1 92 k = c
def txOk (tx : List Int32) : Prop := tx.length ≤ 200 ∧ ∀ c ∈ tx, 32 ≤ c ∧ c ≤ 126
def mb (L : Int64) (i : Nat) : Int64 := (L >>> ((nI i).toInt64 &&& 63)) &&& 1
def cMk (mk : Nat → Bool) (M : mem) : Prop := ∀ i, i < 30 → M.1 77 i = b2 (mk i)
def mMk (mk : Nat → Bool) (M : mem) : Prop := ∀ i, i < 30 → mb M.2 i = if mk i then 1 else 0
def cWa (wa : List wat) (so : Nat) (M : mem) : Prop := M.1 78 4 = nI wa.length ∧ M.1 78 5 = nI so ∧ ∀ j q, wa[j]? = some q → M.1 79 j = nI q.1 ∧ M.1 80 j = nI q.2.1 ∧ M.1 81 j = nI q.2.2.1 ∧ M.1 82 j = q.2.2.2
def mWa (wa : List wat) (so : Nat) (M : mem) : Prop := M.1 83 20 = nI wa.length ∧ M.1 83 21 = nI so ∧ ∀ j q, wa[j]? = some q → M.1 95 (4 * j) = nI q.1 ∧ M.1 95 (4 * j + 1) = nI q.2.1 ∧ M.1 95 (4 * j + 2) = nI q.2.2.1 ∧ M.1 95 (4 * j + 3) = q.2.2.2
def waOk (n : Nat) (wa : List wat) : Prop := wa.length ≤ 12 ∧ ∀ q ∈ wa, q.2.1 < n ∧ q.2.2.1 < n
def acOk (a : accs) : Prop := ∀ i, i < 30 → okA (a.1 i) = true ∧ (0 ≤ a.2.1 i ∧ a.2.1 i ≤ 9) ∧ 0 ≤ a.2.2 i ∧ a.2.2 i ≤ 9
def chOk (n : Nat) (t : trf) : Prop := t.2.2.2.2.2 = (List.range n).foldl (fun s i => if t.2.2.2.2.1 i = nI i then s + 1 else s) 0
def wfS (tx : List Int32) (n : Nat) (up : Nat → Nat) (t : trf) (ac : accs) (pa ke : List accs) (mk : Nat → Bool) (wa : List wat) : Prop := txOk tx ∧ trOk n up t ∧ chOk n t ∧ acOk ac ∧ (∀ a ∈ pa, acOk a) ∧ (∀ a ∈ ke, acOk a) ∧ (∀ i, n ≤ i → mk i = false) ∧ waOk n wa
def RC (tx : List Int32) (n : Nat) (up : Nat → Nat) (t : trf) (ac : accs) (pa ke : List accs) (mk : Nat → Bool) (wa : List wat) (so : Nat) (M : mem) : Prop := cTx tx M ∧ cTr n up t M ∧ acAt 18 ac M ∧ cSh 26 28 8 pa M ∧ cSh 60 62 2 ke M ∧ cMk mk M ∧ cWa wa so M ∧ ∀ i, i < 30 → M.1 73 i = 1
def RM (tx : List Int32) (n : Nat) (up : Nat → Nat) (t : trf) (ac : accs) (pa ke : List accs) (mk : Nat → Bool) (wa : List wat) (so : Nat) (M : mem) : Prop := mTx tx M ∧ mTr n up t M ∧ roAt 84 0 ac M ∧ mSh 17 94 8 pa M ∧ mSh 24 97 2 ke M ∧ mMk mk M ∧ mWa wa so M
def InvB (M : mem) : Prop := ∃ tx n up t ac pa ke mk wa so, wfS tx n up t ac pa ke mk wa ∧ RC tx n up t ac pa ke mk wa so M ∧ RM tx n up t ac pa ke mk wa so M
def hiC (M N : mem) : Prop := N.2 = M.2 ∧ ∀ a, 83 ≤ a → N.1 a = M.1 a
def loM (M N : mem) : Prop := ∀ a, a < 83 → N.1 a = M.1 a
theorem hiC.rf {M : mem} : hiC M M := ⟨rfl, fun _ _ => rfl⟩
theorem loM.rf {M : mem} : loM M M := fun _ _ => rfl
theorem hiC.tr {M N K : mem} (h : hiC M N) (g : hiC N K) : hiC M K := ⟨g.1.trans h.1, fun a ha => (g.2 a ha).trans (h.2 a ha)⟩
theorem loM.tr {M N K : mem} (h : loM M N) (g : loM N K) : loM M K := fun a ha => (g a ha).trans (h a ha)
theorem hiC.up {M N : mem} {a j : Nat} {v : Int32} (h : hiC M N) (ha : a < 83) : hiC M (upM N a j v) := ⟨h.1, fun b hb => (upM_ne (by omega)).trans (h.2 b hb)⟩
theorem loM.up {M N : mem} {a j : Nat} {v : Int32} (h : loM M N) (ha : 83 ≤ a) : loM M (upM N a j v) := fun b hb => (upM_ne (by omega)).trans (h b hb)
section STATE
variable {tx : List Int32} {n : Nat} {up : Nat → Nat} {t : trf} {ac : accs} {pa ke : List accs} {mk : Nat → Bool} {wa : List wat} {so : Nat} {M N : mem} {E : env}
/-- only the class's own scratch has changed -/
def keepC (M N : mem) : Prop := ∀ a, (a = 1 ∨ a = 2 ∨ (9 ≤ a ∧ a ≤ 16) ∨ (18 ≤ a ∧ a ≤ 21) ∨ (26 ≤ a ∧ a ≤ 69) ∨ a = 73 ∨ (77 ≤ a ∧ a ≤ 82)) → N.1 a = M.1 a
def keepM (M N : mem) : Prop := N.2 = M.2 ∧ (∀ a, ((84 ≤ a ∧ a ≤ 92) ∨ a = 94 ∨ a = 95 ∨ a = 97) → N.1 a = M.1 a) ∧ ∀ k, k = 1 ∨ k = 11 ∨ k = 17 ∨ k = 20 ∨ k = 21 ∨ k = 24 → N.1 83 k = M.1 83 k
theorem cTx.cg (h : cTx tx M) (h1 : N.1 1 = M.1 1) (h2 : N.1 2 = M.1 2) : cTx tx N := by unfold cTx at h ⊢; rw [h1, h2]; exact h
theorem mTx.cg (h : mTx tx M) (h1 : N.1 83 11 = M.1 83 11) (h2 : N.1 92 = M.1 92) : mTx tx N := by unfold mTx at h ⊢; rw [h1, h2]; exact h
theorem cMk.cg (h : cMk mk M) (h1 : N.1 77 = M.1 77) : cMk mk N := by unfold cMk at h ⊢; rw [h1]; exact h
theorem cWa.cg (h : cWa wa so M) (e : ∀ a, 78 ≤ a → a ≤ 82 → N.1 a = M.1 a) : cWa wa so N := by
  unfold cWa at h ⊢
  rw [e 78 (by omega) (by omega), e 79 (by omega) (by omega), e 80 (by omega) (by omega), e 81 (by omega) (by omega), e 82 (by omega) (by omega)]
  exact h
theorem mWa.cg (h : mWa wa so M) (h1 : N.1 83 20 = M.1 83 20) (h2 : N.1 83 21 = M.1 83 21) (h3 : N.1 95 = M.1 95) : mWa wa so N := by unfold mWa at h ⊢; rw [h1, h2, h3]; exact h
theorem mMk.cg (h : mMk mk M) (h1 : N.2 = M.2) : mMk mk N := by unfold mMk at h ⊢; rw [h1]; exact h
theorem RC.kp (h : RC tx n up t ac pa ke mk wa so M) (e : keepC M N) : RC tx n up t ac pa ke mk wa so N := by
  obtain ⟨h1, h2, h3, h4, h5, h6, h7, h8⟩ := h
  exact ⟨h1.cg (e _ (by omega)) (e _ (by omega)), h2.cg (fun a _ _ => e a (by omega)), h3.cg (e _ (by omega)) (e _ (by omega)) (e _ (by omega)), h4.cg (by omega) (e _ (by omega)) (fun a _ _ => e a (by omega)), h5.cg (by omega) (e _ (by omega)) (fun a _ _ => e a (by omega)), h6.cg (e _ (by omega)), h7.cg (fun a _ _ => e a (by omega)), fun i hi => by rw [e 73 (by omega)]; exact h8 i hi⟩
theorem RM.kp (h : RM tx n up t ac pa ke mk wa so M) (e : keepM M N) : RM tx n up t ac pa ke mk wa so N := by
  obtain ⟨h1, h2, h3, h4, h5, h6, h7⟩ := h
  obtain ⟨e1, e2, e3⟩ := e
  exact ⟨h1.cg (e3 _ (by omega)) (e2 _ (by omega)), h2.cg (e3 _ (by omega)) (fun a _ _ => e2 a (by omega)), h3.mk (fun i _ => by rw [e2 84 (by omega)]), h4.cg (e3 _ (by omega)) (e2 _ (by omega)), h5.cg (e3 _ (by omega)) (e2 _ (by omega)), h6.cg e1, h7.cg (e3 _ (by omega)) (e3 _ (by omega)) (e2 _ (by omega))⟩
theorem RM.hi (h : RM tx n up t ac pa ke mk wa so M) (e : hiC M N) : RM tx n up t ac pa ke mk wa so N := h.kp ⟨e.1, fun a _ => e.2 a (by omega), fun k _ => by rw [e.2 83 (by omega)]⟩
theorem RC.lo (h : RC tx n up t ac pa ke mk wa so M) (e : loM M N) : RC tx n up t ac pa ke mk wa so N := h.kp (fun a _ => e a (by omega))
theorem eqOff.kpC {A : List Nat} (h : eqOff A M N) (hA : ∀ a ∈ A, a = 70 ∨ a = 71) : keepC M N ∧ hiC M N := by
  refine ⟨fun a ha => h.2 a (fun z => ?_), h.1, fun a ha => h.2 a (fun z => ?_)⟩
  · have := hA a z; omega
  · have := hA a z; omega
theorem rt_kp (h : eqOff [70, 71] M N) : keepC M N ∧ hiC M N := h.kpC (by simp)
theorem eqM.kpM {A F : List Nat} (h : eqM A F M N) (hA : ∀ a ∈ A, a = 93 ∨ a = 96) (hF : ∀ k ∈ F, k = 14 ∨ k = 15 ∨ k = 12 ∨ k = 9) : keepM M N ∧ loM M N := by
  refine ⟨⟨h.1, fun a ha => h.2.1 a (fun z => ?_) (by omega), fun k hk => h.2.2 k (fun z => ?_)⟩, fun a ha => h.2.1 a (fun z => ?_) (by omega)⟩
  · have := hA a z; omega
  · have := hF k z; omega
  · have := hA a z; omega
theorem wa_kp (h : eqM [93] [14, 15] M N) : keepM M N ∧ loM M N := h.kpM (by simp) (by simp)
theorem wa_kp1 (h : eqM [93] [14] M N) : keepM M N ∧ loM M N := h.kpM (by simp) (by simp)
/-- an operation, out of its two halves -/
theorem mkOp {i j : Nat} {la lb : lcs} {tx' : List Int32} {n' : Nat} {up' : Nat → Nat} {t' : trf} {ac' : accs} {pa' ke' : List accs} {mk' : Nat → Bool} {wa' : List wat} {so' : Nat} {c : Int32}
    (hM : RM tx n up t ac pa ke mk wa so M) (hw : wfS tx' n' up' t' ac' pa' ke' mk' wa')
    (h1 : ∃ N1, Rm E i 0 la [] M (some (.int c)) N1 ∧ RC tx' n' up' t' ac' pa' ke' mk' wa' so' N1 ∧ hiC M N1)
    (h2 : ∀ N1, RM tx n up t ac pa ke mk wa so N1 → ∃ N2, Rm E j 0 lb [] N1 (some (.int c)) N2 ∧ RM tx' n' up' t' ac' pa' ke' mk' wa' so' N2 ∧ loM N1 N2) :
    ∃ c N1 N2, Rm E i 0 la [] M (some (.int c)) N1 ∧ Rm E j 0 lb [] N1 (some (.int c)) N2 ∧ InvB N2 := by
  obtain ⟨N1, a1, a2, a3⟩ := h1
  obtain ⟨N2, b1, b2, b3⟩ := h2 N1 (hM.hi a3)
  exact ⟨c, N1, N2, a1, b1, _, _, _, _, _, _, _, _, _, _, hw, a2.lo b3, b2⟩
end STATE
/-! sums over rows, whatever row holds the numbers -/
theorem foldl_cg {σ : Type} {w : List Nat} {f g : σ → Nat → σ} (h : ∀ s p, p ∈ w → f s p = g s p) : ∀ s, w.foldl f s = w.foldl g s := by
  induction w with
  | nil => intro s; rfl
  | cons a r ih =>
    intro s
    rw [List.foldl_cons, List.foldl_cons, h s a List.mem_cons_self]
    exact ih (fun s p hp => h s p (List.mem_cons_of_mem _ hp)) _
def sumW (g : Nat → Int32) (w : List Nat) : Int32 := w.foldl (fun s p => s + g p) 0
def maxW (g : Nat → Int32) (w : List Nat) : Int32 := w.foldl (fun s p => if s < g p then g p else s) (-9999)
def minW (g : Nat → Int32) (w : List Nat) : Int32 := w.foldl (fun s p => if g p < s then g p else s) 9999
def gainW (g : Nat → Int32) (w : List Nat) : Int32 := (w.foldl (gnF g) (0, 9999)).1
def mkW (mk : Nat → Bool) (w : List Nat) : Int32 := w.foldl (fun s p => s + b2 (mk p)) 0
theorem sumW_cg {g h : Nat → Int32} {w : List Nat} (e : ∀ p ∈ w, g p = h p) : sumW g w = sumW h w := foldl_cg (fun s p hp => by rw [e p hp]) 0
theorem maxW_cg {g h : Nat → Int32} {w : List Nat} (e : ∀ p ∈ w, g p = h p) : maxW g w = maxW h w := foldl_cg (fun s p hp => by rw [e p hp]) _
theorem minW_cg {g h : Nat → Int32} {w : List Nat} (e : ∀ p ∈ w, g p = h p) : minW g w = minW h w := foldl_cg (fun s p hp => by rw [e p hp]) _
theorem gainW_cg {g h : Nat → Int32} {w : List Nat} (e : ∀ p ∈ w, g p = h p) : gainW g w = gainW h w := congrArg Prod.fst (foldl_cg (fun s p hp => by unfold gnF; rw [e p hp]) _)
theorem maxW_hd {g : Nat → Int32} {w : List Nat} {p0 : Nat} (h : w[0]? = some p0) (hok : okA (g p0) = true) : w.foldl (fun s p => if s < g p then g p else s) (g p0) = maxW g w := by
  cases w with
  | nil => cases h
  | cons a r =>
    simp at h
    subst h
    unfold maxW
    rw [List.foldl_cons, List.foldl_cons, if_neg (fun z => Int32.lt_irrefl z)]
    congr 1
    have := (okA_iff.mp hok).1
    by_cases hl : -9999 < g a
    · rw [if_pos hl]
    · rw [if_neg hl]
      exact Int32.le_antisymm (Int32.not_lt.mp hl) this
theorem minW_hd {g : Nat → Int32} {w : List Nat} {p0 : Nat} (h : w[0]? = some p0) (hok : okA (g p0) = true) : w.foldl (fun s p => if g p < s then g p else s) (g p0) = minW g w := by
  cases w with
  | nil => cases h
  | cons a r =>
    simp at h
    subst h
    unfold minW
    rw [List.foldl_cons, List.foldl_cons, if_neg (fun z => Int32.lt_irrefl z)]
    congr 1
    have := (okA_iff.mp hok).2
    by_cases hl : g a < 9999
    · rw [if_pos hl]
    · rw [if_neg hl]
      exact Int32.le_antisymm this (Int32.not_lt.mp hl)
theorem gainW_hd {g : Nat → Int32} {w : List Nat} {p0 : Nat} (h : w[0]? = some p0) (hok : okA (g p0) = true) : (w.foldl (gnF g) (0, g p0)).1 = gainW g w := by
  cases w with
  | nil => cases h
  | cons a r =>
    simp at h
    subst h
    unfold gainW
    rw [List.foldl_cons, List.foldl_cons]
    congr 2
    unfold gnF
    dsimp only
    rw [if_neg (fun z => Int32.lt_irrefl z)]
    have := (okA_iff.mp hok).2
    by_cases hl : g a < 9999
    · rw [if_pos hl]
    · rw [if_neg hl]
      rw [show g a = 9999 from Int32.le_antisymm this (Int32.not_lt.mp hl)]
section MARKR
variable {E : env} {M : mem} {w : List Nat} {mk : Nat → Bool}
theorem b2_0 {b : Bool} : b2 b = 0 ↔ b = false := by cases b <;> decide
theorem s10 (h : rtIs w M) (hm : cMk mk M) : Rm E 10 0 [vr 76, vr 70, vn, vn] [] M (some (.int (mkW mk w))) M := by
  refine b10_0_0 ?_
  refine foldR w (fun s p => s + b2 (mk p)) (fun s k fin => Rm E 10 4 [vr 76, vr 70, vi s, vi (nI k)] [] M (some (.int fin)) M) (fun s => b10_4_0 (rt_ex h)) (fun s k p fin hk ih => ?_) 0
  obtain ⟨-, -, e0, e1, e2, e3, e4, e5, e6⟩ := rt_st h hk
  cases hb : mk p
  · refine b10_4_1 e1 e2 (by rw [e3, e4]; exact e5) (by rw [e3, e4, e6, hm p e0, hb]; rfl) ?_
    rw [nI_1]
    rw [hb, show s + b2 false = s from Int32.add_zero s] at ih
    exact ih
  · refine b10_4_2 e1 e2 (by rw [e3, e4]; exact e5) (by rw [e3, e4, e6, hm p e0, hb]; decide) ?_
    rw [nI_1]
    rw [hb] at ih
    exact ih
theorem s110 (h : waIs w M) (hm : mMk mk M) : Rm E 110 0 [vr 83, vn, vn] [] M (some (.int (mkW mk w))) M := by
  refine b110_0_0 ?_
  refine foldR w (fun s p => s + b2 (mk p)) (fun s k fin => Rm E 110 4 [vr 83, vi s, vi (nI k)] [] M (some (.int fin)) M) (fun s => b110_4_0 (wa_ex h)) (fun s k p fin hk ih => ?_) 0
  obtain ⟨-, -, e0, e1, e2, e3, e4, e5, -, e6⟩ := wa_st h hk
  refine b110_4_1 e1 e2 ?_
  have hb : ((M.2 >>> ((M.1 93 (nI k).toNatClampNeg).toInt64 &&& 63)) &&& 1).toInt32 = b2 (mk p) := by
    rw [e3, e4]
    have := hm p e0
    unfold mb at this
    rw [this]
    cases mk p <;> rfl
  rw [hb, nI_1]
  exact ih
theorem range_at {m k p : Nat} (h : (List.range m)[k]? = some p) : k < m ∧ p = k := by
  have hl := (List.getElem?_eq_some_iff.mp h).1
  rw [List.length_range] at hl
  rw [List.getElem?_range hl] at h
  cases h
  exact ⟨hl, rfl⟩
theorem foldN {σ : Type} (m : Nat) (f : σ → Nat → σ) (R : σ → Nat → σ → Prop) (hexit : ∀ a, R a m a) (hstep : ∀ a k fin, k < m → R (f a k) (k + 1) fin → R a k fin) (a0 : σ) : R a0 0 ((List.range m).foldl f a0) := by
  refine foldR (List.range m) f R (fun a => by rw [List.length_range]; exact hexit a) (fun a k p fin hk ih => ?_) a0
  obtain ⟨h1, rfl⟩ := range_at hk
  exact hstep a _ fin h1 ih
theorem s9 (hm : cMk mk M) : Rm E 9 0 [vr 76, vn, vn] [] M (some (.int (mkW mk (List.range 30)))) M := by
  refine b9_0_0 ?_
  refine foldN 30 (fun s p => s + b2 (mk p)) (fun s k fin => Rm E 9 4 [vr 76, vi s, vi (nI k)] [] M (some (.int fin)) M) (fun s => b9_4_0 (by decide)) (fun s k fin hk ih => ?_) 0
  have h0 : ¬ ((30 : Int32) ≤ nI k) := by rw [show (30 : Int32) = nI 30 from rfl, nI_leI (by omega) (by omega)]; omega
  cases hb : mk k
  · refine b9_4_1 h0 (inR_nI hk (by omega)) (by rw [clampI (by omega), hm k hk, hb]; rfl) ?_
    rw [nI_1]
    rw [hb, show s + b2 false = s from Int32.add_zero s] at ih
    exact ih
  · refine b9_4_2 h0 (inR_nI hk (by omega)) (by rw [clampI (by omega), hm k hk, hb]; decide) ?_
    rw [nI_1]
    rw [hb] at ih
    exact ih
theorem s128 (hm : mMk mk M) {p : Nat} (hp : p < 30) : Rm E 128 0 [vr 83, vi (nI p)] [] M (some (.int (b2 (mk p)))) M := by
  have h := hm p hp
  unfold mb at h
  cases hb : mk p
  · refine b128_0_0 ?_
    rw [h, hb, lg_cmp_eq]
    decide
  · refine b128_0_1 (fun z => z ?_)
    rw [h, hb, lg_cmp_eq]
    rfl
theorem s130 (hm : mMk mk M) {n : Nat} (hn : n ≤ 30) (h1 : M.1 83 1 = nI n) : Rm E 130 0 [vr 83, vn, vn] [] M (some (.int (mkW mk (List.range n)))) M := by
  refine b130_0_0 ?_
  refine foldN n (fun s p => s + b2 (mk p)) (fun s k fin => Rm E 130 4 [vr 83, vi s, vi (nI k)] [] M (some (.int fin)) M) (fun s => b130_4_0 (by rw [h1]; exact nI_le (Nat.le_refl _) (by omega))) (fun s k fin hk ih => ?_) 0
  have h0 : ¬ (M.1 83 1 ≤ nI k) := by rw [h1, nI_leI (by omega) (by omega)]; omega
  cases hb : mk k
  · refine b130_4_1 h0 (s128 hm (by omega)) (by rw [hb]; rfl) ?_
    rw [nI_1]
    rw [hb] at ih
    exact ih
  · refine b130_4_2 h0 (s128 hm (by omega)) (by rw [hb]; decide) ?_
    rw [nI_1]
    rw [hb] at ih
    exact ih
theorem mkW_range {n : Nat} (hn : n ≤ 30) (h : ∀ i, n ≤ i → mk i = false) : mkW mk (List.range 30) = mkW mk (List.range n) := by
  have key : ∀ d, n + d ≤ 30 → mkW mk (List.range (n + d)) = mkW mk (List.range n) := by
    intro d
    induction d with
    | zero => intro _; rfl
    | succ d ih =>
      intro hd
      rw [← ih (by omega)]
      show mkW mk (List.range (n + d + 1)) = _
      rw [List.range_succ]
      unfold mkW
      rw [List.foldl_append, List.foldl_cons, List.foldl_nil, h (n + d) (by omega)]
      exact Int32.add_zero _
  have := key (30 - n) (by omega)
  rwa [show n + (30 - n) = 30 by omega] at this
end MARKR
