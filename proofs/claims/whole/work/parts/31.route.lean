/-! the class's Route -/
def rtIs (w : List Nat) (M : mem) : Prop := M.1 70 1 = nI w.length ∧ w.length ≤ 30 ∧ ∀ k p, w[k]? = some p → p < 30 ∧ M.1 71 k = nI p
theorem rtIs.cg {w : List Nat} {M N : mem} (h : rtIs w M) (h1 : N.1 70 = M.1 70) (h2 : N.1 71 = M.1 71) : rtIs w N := by
  unfold rtIs at h ⊢
  rw [h1, h2]
  exact h
/-- a loop along a row -/
theorem foldR {σ : Type} (w : List Nat) (f : σ → Nat → σ) (R : σ → Nat → σ → Prop) (hexit : ∀ a, R a w.length a) (hstep : ∀ a k p fin, w[k]? = some p → R (f a p) (k + 1) fin → R a k fin) (a0 : σ) : R a0 0 (w.foldl f a0) := by
  have key : ∀ d k a, w.length - k = d → k ≤ w.length → R a k ((w.drop k).foldl f a) := by
    intro d
    induction d with
    | zero =>
      intro k a hd hk
      obtain rfl : k = w.length := by omega
      rw [List.drop_length]
      exact hexit a
    | succ d ih =>
      intro k a hd hk
      have hlt : k < w.length := by omega
      rw [List.drop_eq_getElem_cons hlt, List.foldl_cons]
      exact hstep a k _ _ (List.getElem?_eq_getElem hlt) (ih (k + 1) _ (by omega) (by omega))
  have := key w.length 0 a0 rfl (Nat.zero_le _)
  rwa [List.drop_zero] at this
def pcF {σ : Type} (f : σ → Nat → Nat → σ) : σ → List Nat → σ
  | s, a :: b :: r => pcF f (f s a b) (b :: r)
  | s, _ => s
theorem foldR1 {σ : Type} (w : List Nat) (hw : 0 < w.length) (f : σ → Nat → Nat → σ) (R : σ → Nat → σ → Prop) (hexit : ∀ a, R a w.length a) (hstep : ∀ a k p q fin, w[k]? = some p → w[k + 1]? = some q → R (f a p q) (k + 2) fin → R a (k + 1) fin) (a0 : σ) : R a0 1 (pcF f a0 w) := by
  have key : ∀ d k a, w.length - k = d + 1 → R a (k + 1) (pcF f a (w.drop k)) := by
    intro d
    induction d with
    | zero =>
      intro k a hd
      have hlt : k < w.length := by omega
      rw [List.drop_eq_getElem_cons hlt, show w.drop (k + 1) = [] from List.drop_eq_nil_of_le (by omega)]
      have := hexit a
      rwa [show w.length = k + 1 by omega] at this
    | succ d ih =>
      intro k a hd
      have hlt : k < w.length := by omega
      have hlt2 : k + 1 < w.length := by omega
      rw [List.drop_eq_getElem_cons hlt, List.drop_eq_getElem_cons hlt2, pcF, ← List.drop_eq_getElem_cons hlt2]
      exact hstep a k _ _ _ (List.getElem?_eq_getElem hlt) (List.getElem?_eq_getElem hlt2) (ih (k + 1) _ (by omega))
  have := key (w.length - 1) 0 a0 (by omega)
  rwa [List.drop_zero] at this
section ROUTE
variable {E : env} {M : mem} {w : List Nat} {a : Nat}
theorem rt_st (h : rtIs w M) {k p : Nat} (hk : w[k]? = some p) : k < w.length ∧ k < 30 ∧ p < 30 ∧ ¬ (M.1 70 1 ≤ nI k) ∧ inR (nI k) 30 ∧ (nI k).toNatClampNeg = k ∧ M.1 71 k = nI p ∧ inR (nI p) 30 ∧ (nI p).toNatClampNeg = p := by
  obtain ⟨h1, h2, h3⟩ := h
  have hl : k < w.length := (List.getElem?_eq_some_iff.mp hk).1
  obtain ⟨h4, h5⟩ := h3 k p hk
  refine ⟨hl, by omega, h4, ?_, inR_nI (by omega) (by omega), clampI (by omega), h5, inR_nI h4 (by omega), clampI (by omega)⟩
  rw [h1, nI_leI (by omega) (by omega)]
  omega
theorem rt_ex (h : rtIs w M) : M.1 70 1 ≤ nI w.length := by rw [h.1]; exact nI_le (Nat.le_refl _) (by have := h.2.1; omega)
theorem s26 (ha : skel[a]? = some (.inl (0, 30))) (h : rtIs w M) : Rm E 26 0 [vr 70, vr a, vn, vn] [] M (some (.int (w.foldl (fun s p => s + M.1 a p) 0))) M := by
  refine b26_0_0 ha ?_
  refine foldR w (fun s p => s + M.1 a p) (fun s k fin => Rm E 26 4 [vr 70, vr a, vi s, vi (nI k)] [] M (some (.int fin)) M) (fun s => b26_4_0 ha (rt_ex h)) (fun s k p fin hk ih => ?_) 0
  obtain ⟨-, -, -, e1, e2, e3, e4, e5, e6⟩ := rt_st h hk
  refine b26_4_1 ha e1 e2 (by rw [e3, e4]; exact e5) ?_
  rw [e3, e4, e6, nI_1]
  exact ih
theorem s27 (ha : skel[a]? = some (.inl (0, 30))) (h : rtIs w M) : Rm E 27 0 [vr 70, vr a, vn, vn] [] M (some (.int (w.foldl (fun s p => if s < M.1 a p then M.1 a p else s) (-9999)))) M := by
  refine b27_0_0 ha ?_
  refine foldR w (fun s p => if s < M.1 a p then M.1 a p else s) (fun s k fin => Rm E 27 6 [vr 70, vr a, vi s, vi (nI k)] [] M (some (.int fin)) M) (fun s => b27_6_0 ha (rt_ex h)) (fun s k p fin hk ih => ?_) (-9999)
  obtain ⟨-, -, -, e1, e2, e3, e4, e5, e6⟩ := rt_st h hk
  refine b27_6_1 ha e1 e2 (by rw [e3, e4]; exact e5) ?_
  rw [e3, e4, e6, nI_1]
  exact ih
theorem s28 (ha : skel[a]? = some (.inl (0, 30))) (h : rtIs w M) : Rm E 28 0 [vr 70, vr a, vn, vn] [] M (some (.int (w.foldl (fun s p => if M.1 a p < s then M.1 a p else s) 9999))) M := by
  refine b28_0_0 ha ?_
  refine foldR w (fun s p => if M.1 a p < s then M.1 a p else s) (fun s k fin => Rm E 28 6 [vr 70, vr a, vi s, vi (nI k)] [] M (some (.int fin)) M) (fun s => b28_6_0 ha (rt_ex h)) (fun s k p fin hk ih => ?_) 9999
  obtain ⟨-, -, -, e1, e2, e3, e4, e5, e6⟩ := rt_st h hk
  refine b28_6_1 ha e1 e2 (by rw [e3, e4]; exact e5) ?_
  rw [e3, e4, e6, nI_1]
  exact ih
/-- the least so far, and the gain -/
def gnF (g : Nat → Int32) (s : Int32 × Int32) (p : Nat) : Int32 × Int32 :=
  (if s.1 < g p - (if g p < s.2 then g p else s.2) then g p - (if g p < s.2 then g p else s.2) else s.1, if g p < s.2 then g p else s.2)
theorem s29 (ha : skel[a]? = some (.inl (0, 30))) (h : rtIs w M) : Rm E 29 0 [vr 70, vr a, vn, vn, vn] [] M (some (.int (w.foldl (gnF (M.1 a)) (0, 9999)).1)) M := by
  refine b29_0_0 ha ?_
  refine foldR w (gnF (M.1 a)) (fun s k fin => Rm E 29 9 [vr 70, vr a, vi s.1, vi s.2, vi (nI k)] [] M (some (.int fin.1)) M) (fun s => b29_9_0 ha (rt_ex h)) (fun s k p fin hk ih => ?_) (0, 9999)
  obtain ⟨-, -, -, e1, e2, e3, e4, e5, e6⟩ := rt_st h hk
  refine b29_9_1 ha e1 e2 (by rw [e3, e4]; exact e5) e2 (by rw [e3, e4]; exact e5) ?_
  rw [e3, e4, e6, nI_1]
  exact ih
def thF (f g : Nat → Int32) (s : Int32) (p : Nat) : Int32 := (f p * s + g p) - (f p * s + g p) / 97 * 97
theorem s30 (h : rtIs w M) (x : Int32) : Rm E 30 0 [vr 70, vr 18, vi x, vn, vn] [] M (some (.int (w.foldl (thF (M.1 20) (M.1 21)) x))) M := by
  refine b30_0_0 ?_
  refine foldR w (thF (M.1 20) (M.1 21)) (fun s k fin => Rm E 30 5 [vr 70, vr 18, vn, vi s, vi (nI k)] [] M (some (.int fin)) M) (fun s => b30_5_0 (rt_ex h)) (fun s k p fin hk ih => ?_) x
  obtain ⟨-, -, -, e1, e2, e3, e4, e5, e6⟩ := rt_st h hk
  refine b30_5_1 e1 e2 (by rw [e3, e4]; exact e5) e2 (by rw [e3, e4]; exact e5) ?_
  rw [e3, e4, e6, nI_1]
  exact ih
def pcf (hd : Nat → Int32) (s : Int32) (p q : Nat) : Int32 := if hd q = hd p then s else s + 1
theorem s25 (h : rtIs w M) (hw : 0 < w.length) : Rm E 25 0 [vr 70, vr 9, vn, vn] [] M (some (.int (pcF (pcf (M.1 15)) 1 w))) M := by
  refine b25_0_0 ?_
  refine foldR1 w hw (pcf (M.1 15)) (fun s k fin => Rm E 25 4 [vr 70, vr 9, vi s, vi (nI k)] [] M (some (.int fin)) M) (fun s => b25_4_0 (rt_ex h)) (fun s k p q fin hk hk2 ih => ?_) 1
  obtain ⟨-, -, -, e1, e2, e3, e4, e5, e6⟩ := rt_st h hk2
  obtain ⟨-, -, -, -, f2, f3, f4, f5, f6⟩ := rt_st h hk
  by_cases hc : M.1 15 q = M.1 15 p
  · refine b25_4_1 e1 e2 (by rw [e3, e4]; exact e5) (by rw [nI_pred]; exact f2) (by rw [nI_pred, f3, f4]; exact f5) (by rw [nI_pred, e3, e4, e6, f3, f4, f6]; exact hc) ?_
    rw [nI_1]
    rwa [pcf, if_pos hc] at ih
  · refine b25_4_2 e1 e2 (by rw [e3, e4]; exact e5) (by rw [nI_pred]; exact f2) (by rw [nI_pred, f3, f4]; exact f5) (by rw [nI_pred, e3, e4, e6, f3, f4, f6]; exact hc) ?_
    rw [nI_1]
    rwa [pcf, if_neg hc] at ih
/-- what is added by a kind -/
def adF (v x k : Int32) : Int32 := if k = 0 then v + x else if k = 1 then v + 2 * x else if k = 2 then (if 0 < v + x then v + x else 0) else (if 0 < v + x / 2 then v + x / 2 else 0)
theorem s33 {v x k : Int32} (hk : 0 ≤ k ∧ k ≤ 3) : Rm E 33 0 [vi v, vi x, vi k] [] M (some (.int (adF v x k))) M := by
  unfold adF
  by_cases h0 : k = 0
  · rw [if_pos h0]; exact b33_0_1 h0
  · rw [if_neg h0]
    by_cases h1 : k = 1
    · rw [if_pos h1]; exact b33_0_2 h1
    · rw [if_neg h1]
      by_cases h2 : k = 2
      · rw [if_pos h2]; exact b33_0_3 h2
      · rw [if_neg h2]
        refine b33_0_0 (Or.inr ?_)
        have e1 := Int32.le_iff_toInt_le.mp hk.1
        have e2 := Int32.le_iff_toInt_le.mp hk.2
        have n0 : ¬ k.toInt = 0 := fun z => h0 (Int32.toInt_inj.mp z)
        have n1 : ¬ k.toInt = 1 := fun z => h1 (Int32.toInt_inj.mp z)
        have n2 : ¬ k.toInt = 2 := fun z => h2 (Int32.toInt_inj.mp z)
        have z0 : (0 : Int32).toInt = 0 := rfl
        omega
def b01 (p : Prop) [Decidable p] : Int32 := if p then 1 else 0
theorem b01_t {p : Prop} [Decidable p] (h : p) : b01 p = 1 := if_pos h
theorem b01_f {p : Prop} [Decidable p] (h : ¬ p) : b01 p = 0 := if_neg h
theorem b01_0 {p : Prop} [Decidable p] : b01 p = 0 ↔ ¬ p := by
  unfold b01
  split <;> simp_all
theorem s81 {x y z : Int32} : Rm E 81 0 [vi x, vi y, vi z] [] M (some (.int (b01 (y ≤ x ∧ x ≤ z)))) M := by
  by_cases h0 : x < y
  · rw [b01_f (fun q => absurd q.1 (Int32.not_le.mpr h0))]; exact b81_0_0 h0
  · by_cases h1 : z < x
    · rw [b01_f (fun q => absurd q.2 (Int32.not_le.mpr h1))]; exact b81_0_1 h0 h1
    · rw [b01_t ⟨Int32.not_lt.mp h0, Int32.not_lt.mp h1⟩]; exact b81_0_2 h0 h1
theorem s82 {x k : Int32} : Rm E 82 0 [vi x, vi k] [] M (some (.int (b01 ((-999 ≤ x ∧ x ≤ 999) ∧ 0 ≤ k ∧ k ≤ 3)))) M := by
  by_cases h0 : (-999 ≤ x ∧ x ≤ 999)
  · by_cases h1 : (0 ≤ k ∧ k ≤ 3)
    · rw [b01_t ⟨h0, h1⟩]
      exact b82_0_2 s81 (fun z => b01_0.mp z h0) s81 (fun z => b01_0.mp z h1)
    · rw [b01_f (fun z => h1 z.2)]
      exact b82_0_1 s81 (fun z => b01_0.mp z h0) s81 (b01_0.mpr h1)
  · rw [b01_f (fun z => h0 z.1)]
    exact b82_0_0 s81 (b01_0.mpr h0)
def b2 (b : Bool) : Int32 := if b then 1 else 0
def okA (v : Int32) : Bool := decide (-9999 ≤ v ∧ v ≤ 9999)
theorem okA_iff {v : Int32} : okA v = true ↔ -9999 ≤ v ∧ v ≤ 9999 := by unfold okA; exact decide_eq_true_iff
theorem s31 (ha : skel[a]? = some (.inl (0, 30))) (h : rtIs w M) {x k : Int32} (hk : 0 ≤ k ∧ k ≤ 3) : Rm E 31 0 [vr 70, vr a, vi x, vi k, vn] [] M (some (.int (b2 (w.all (fun p => okA (adF (M.1 a p) x k)))))) M := by
  refine b31_0_0 ha ?_
  have key : ∀ d j, w.length - j = d → j ≤ w.length → Rm E 31 3 [vr 70, vr a, vi x, vi k, vi (nI j)] [] M (some (.int (b2 ((w.drop j).all (fun p => okA (adF (M.1 a p) x k)))))) M := by
    intro d
    induction d with
    | zero =>
      intro j hd hj
      obtain rfl : j = w.length := by omega
      rw [List.drop_length]
      exact b31_3_0 ha (rt_ex h)
    | succ d ih =>
      intro j hd hj
      have hlt : j < w.length := by omega
      have hat := List.getElem?_eq_getElem hlt
      obtain ⟨-, -, -, e1, e2, e3, e4, e5, e6⟩ := rt_st h hat
      rw [List.drop_eq_getElem_cons hlt, List.all_cons]
      cases hc : okA (adF (M.1 a w[j]) x k)
      · have hc2 : ¬ (-9999 ≤ adF (M.1 a w[j]) x k ∧ adF (M.1 a w[j]) x k ≤ 9999) := fun z => by rw [okA_iff.mpr z] at hc; cases hc
        rw [Bool.false_and]
        exact b31_3_2 ha e1 e2 (by rw [e3, e4]; exact e5) (by rw [e3, e4, e6]; exact s33 hk) s81 (fun z => z (b01_0.mpr hc2))
      · rw [Bool.true_and]
        refine b31_3_1 ha e1 e2 (by rw [e3, e4]; exact e5) (by rw [e3, e4, e6]; exact s33 hk) s81 (fun z => b01_0.mp z (okA_iff.mp hc)) ?_
        rw [nI_1]
        exact ih (j + 1) (by omega) (by omega)
  have := key w.length 0 rfl (Nat.zero_le _)
  rwa [List.drop_zero] at this
/-- a row told anew at one place -/
def setF (g : Nat → Int32) (p : Nat) (v : Int32) : Nat → Int32 := fun j => if j = p then v else g j
def tkF (x k : Int32) (g : Nat → Int32) (p : Nat) : Nat → Int32 := setF g p (adF (g p) x k)
/-- a memory with the row a as it is told -/
def rowM (M : mem) (a : Nat) (g : Nat → Int32) : mem := (fun b => if b = a then g else M.1 b, M.2)
theorem rowM_self (M : mem) (a : Nat) : rowM M a (M.1 a) = M := by
  unfold rowM
  obtain ⟨m1, m2⟩ := M
  congr 1
  funext b
  by_cases h : b = a
  · subst h; simp
  · simp [h]
theorem rowM_at {M : mem} {a : Nat} {g : Nat → Int32} : (rowM M a g).1 a = g := by unfold rowM; simp
theorem rowM_ne {M : mem} {a b : Nat} {g : Nat → Int32} (h : b ≠ a) : (rowM M a g).1 b = M.1 b := by unfold rowM; simp [h]
theorem rowM_up {M : mem} {a j : Nat} {g : Nat → Int32} {v : Int32} : upM (rowM M a g) a j v = rowM M a (setF g j v) := by
  unfold rowM upM setF
  congr 1
  funext b k
  by_cases h : b = a
  · subst h
    by_cases h2 : k = j <;> simp [h2]
  · simp [h]
theorem rowM_off {M : mem} {a : Nat} {g : Nat → Int32} : eqOff [a] M (rowM M a g) := ⟨rfl, fun b hb => rowM_ne (fun z => hb (by rw [z]; exact List.mem_cons_self))⟩
theorem s32 (ha : skel[a]? = some (.inl (0, 30))) (h70 : a ≠ 70) (h71 : a ≠ 71) (h : rtIs w M) {x k : Int32} (hk : 0 ≤ k ∧ k ≤ 3) : Rm E 32 0 [vr 70, vr a, vi x, vi k, vn] [] M none (rowM M a (w.foldl (tkF x k) (M.1 a))) := by
  refine b32_0_0 ha ?_
  have hh : ∀ g, rtIs w (rowM M a g) := fun g => h.cg (rowM_ne (fun z => h70 z.symm)) (rowM_ne (fun z => h71 z.symm))
  have := foldR w (tkF x k) (fun g j fin => Rm E 32 3 [vr 70, vr a, vi x, vi k, vi (nI j)] [] (rowM M a g) none (rowM M a fin)) (fun g => b32_3_0 ha (rt_ex (hh g))) (fun g j p fin hj ih => ?_) (M.1 a)
  · rwa [rowM_self] at this
  · obtain ⟨-, -, -, e1, e2, e3, e4, e5, e6⟩ := rt_st (hh g) hj
    refine b32_3_1 ha e1 e2 e2 (by rw [e3, e4]; exact e5) (by rw [e3, e4, e6]; exact s33 hk) (by rw [e3, e4]; exact e5) rfl ?_
    rw [e3, e4, e6, nI_1, rowM_up, rowM_at]
    exact ih
end ROUTE
