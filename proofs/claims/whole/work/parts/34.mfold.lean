/-! what the model makes of a way -/
theorem i64_le {x y : Int32} : x.toInt64 ≤ y.toInt64 ↔ x ≤ y := by
  rw [Int64.le_iff_toInt_le, Int32.le_iff_toInt_le, Int32.toInt_toInt64, Int32.toInt_toInt64]
section MFOLD
variable {E : env} {M : mem} {w : List Nat}
theorem s88 {a b c : Int64} : Rm E 88 0 [vl a, vn, vl b, vn, vl c, vn] [] M (some (.int (b01 (b ≤ a ∧ a ≤ c)))) M := by
  by_cases h0 : a < b
  · rw [b01_f (fun q => absurd q.1 (Int64.not_le.mpr h0))]; exact b88_0_0 ((lg_cmp_lt a b).mpr h0)
  · by_cases h1 : c < a
    · rw [b01_f (fun q => absurd q.2 (Int64.not_le.mpr h1))]; exact b88_0_1 (fun z => h0 ((lg_cmp_lt a b).mp z)) ((lg_cmp_gt a c).mpr h1)
    · rw [b01_t ⟨Int64.not_lt.mp h0, Int64.not_lt.mp h1⟩]; exact b88_0_2 (fun z => h0 ((lg_cmp_lt a b).mp z)) (fun z => h1 ((lg_cmp_gt a c).mp z))
theorem b01_c {p q : Prop} [Decidable p] [Decidable q] (h : p ↔ q) : b01 p = b01 q := by
  by_cases hp : p
  · rw [b01_t hp, b01_t (h.mp hp)]
  · rw [b01_f hp, b01_f (fun z => hp (h.mpr z))]
theorem s88i {x y z : Int32} {b c : Int64} (hb : b = y.toInt64) (hc : c = z.toInt64) : Rm E 88 0 [vl x.toInt64, vn, vl b, vn, vl c, vn] [] M (some (.int (b01 (y ≤ x ∧ x ≤ z)))) M := by
  subst hb; subst hc
  have := s88 (E := E) (M := M) (a := x.toInt64) (b := y.toInt64) (c := z.toInt64)
  rwa [b01_c (show (y.toInt64 ≤ x.toInt64 ∧ x.toInt64 ≤ z.toInt64) ↔ (y ≤ x ∧ x ≤ z) by rw [i64_le, i64_le])] at this
theorem b01_or {p : Prop} [Decidable p] : b01 p = 0 ∨ b01 p = 1 := by unfold b01; split <;> simp
/-- a post, by its number -/
def isP (n : Nat) (x : Int32) : Prop := 0 ≤ x ∧ x < nI n
theorem isP_of {n : Nat} {x : Int32} (hn : n ≤ 30) (h : isP n x) : ∃ u, u < n ∧ x = nI u := by
  obtain ⟨j, hj, rfl⟩ := nI_of (x := x) (Int32.not_lt.mpr h.1)
  exact ⟨j, (nI_ltI hj (by omega)).mp h.2, rfl⟩
theorem isP_nI {n u : Nat} (hn : n ≤ 30) (h : u < n) : isP n (nI u) := ⟨nI_pos' (by omega), nI_lt h (by omega)⟩
def isPd (n : Nat) (x : Int32) : Bool := decide (0 ≤ x ∧ x < nI n)
theorem isPd_iff {n : Nat} {x : Int32} : isPd n x = true ↔ isP n x := by unfold isPd isP; exact decide_eq_true_iff
theorem s91 {n : Nat} (hn1 : 1 ≤ n) (hn : n ≤ 30) (h : M.1 83 1 = nI n) {x : Int32} : Rm E 91 0 [vr 83, vi x] [] M (some (.int (b2 (isPd n x)))) M := by
  have e : M.1 83 1 - 1 = nI (n - 1) := by rw [h, show n = (n - 1) + 1 by omega, nI_pred]; congr 1
  have key := s88i (E := E) (M := M) (x := x) (y := 0) (z := nI (n - 1)) (b := 0) (c := ((M.1 83 1 - 1 : Int32)).toInt64) (by decide) (by rw [e])
  have hiff : (0 ≤ x ∧ x ≤ nI (n - 1)) ↔ (0 ≤ x ∧ x < nI n) := by
    constructor
    · rintro ⟨h1, h2⟩
      obtain ⟨j, hj, rfl⟩ := nI_of (x := x) (Int32.not_lt.mpr h1)
      exact ⟨h1, nI_lt (by have := (nI_leI hj (by omega)).mp h2; omega) (by omega)⟩
    · rintro ⟨h1, h2⟩
      obtain ⟨j, hj, rfl⟩ := nI_of (x := x) (Int32.not_lt.mpr h1)
      exact ⟨h1, nI_le (by have := (nI_ltI hj (by omega)).mp h2; omega) (by omega)⟩
  rw [b01_c hiff] at key
  have := b91_0_0 key b01_or
  have e2 : b01 (0 ≤ x ∧ x < nI n) = b2 (isPd n x) := by
    unfold b01 b2 isPd
    by_cases hp : (0 ≤ x ∧ x < nI n) <;> simp [hp]
  rwa [e2] at this
theorem s83 {n : Nat} (h : M.1 9 0 = nI n) {x : Int32} : Rm E 83 0 [vr 0, vi x] [] M (some (.int (b2 (isPd n x)))) M := by
  by_cases h0 : x < 0
  · have : isPd n x = false := by unfold isPd; exact decide_eq_false (fun z => absurd z.1 (Int32.not_le.mpr h0))
    rw [this]; exact b83_0_0 h0
  · by_cases h1 : nI n ≤ x
    · have : isPd n x = false := by unfold isPd; exact decide_eq_false (fun z => absurd z.2 (Int32.not_lt.mpr h1))
      rw [this]; exact b83_0_1 h0 (by rw [h]; exact h1)
    · have : isPd n x = true := by unfold isPd; exact decide_eq_true ⟨Int32.not_lt.mp h0, Int32.not_le.mp h1⟩
      rw [this]; exact b83_0_2 h0 (by rw [h]; exact h1)
theorem wa_st (h : waIs w M) {k p : Nat} (hk : w[k]? = some p) : k < w.length ∧ k < 30 ∧ p < 30 ∧ ¬ (M.1 83 14 ≤ nI k) ∧ inR (nI k) 60 ∧ (nI k).toNatClampNeg = k ∧ M.1 93 k = nI p ∧ inR (nI p) 90 ∧ inR (nI p) 30 ∧ (nI p).toNatClampNeg = p := by
  obtain ⟨h1, h2, h3⟩ := h
  have hl : k < w.length := (List.getElem?_eq_some_iff.mp hk).1
  obtain ⟨h4, h5⟩ := h3 k p hk
  refine ⟨hl, by omega, h4, ?_, inR_nI (by omega) (by omega), clampI (by omega), h5, inR_nI (by omega) (by omega), inR_nI h4 (by omega), clampI (by omega)⟩
  rw [h1, nI_leI (by omega) (by omega)]
  omega
theorem wa_ex (h : waIs w M) : M.1 83 14 ≤ nI w.length := by rw [h.1]; exact nI_le (Nat.le_refl _) (by have := h.2.1; omega)
theorem s107 (h : waIs w M) : Rm E 107 0 [vr 83, vn, vn] [] M (some (.int (w.foldl (fun s p => s + M.1 84 p) 0))) M := by
  refine b107_0_0 ?_
  refine foldR w (fun s p => s + M.1 84 p) (fun s k fin => Rm E 107 4 [vr 83, vi s, vi (nI k)] [] M (some (.int fin)) M) (fun s => b107_4_0 (wa_ex h)) (fun s k p fin hk ih => ?_) 0
  obtain ⟨-, -, -, e1, e2, e3, e4, e5, -, e6⟩ := wa_st h hk
  refine b107_4_1 e1 e2 (by rw [e3, e4]; exact e5) ?_
  rw [e3, e4, e6, nI_1]
  exact ih
theorem ite_lt {α : Type} {x y : Int32} {a b : α} : (if x < y then a else b) = (if y ≤ x then b else a) := by
  by_cases h : x < y
  · rw [if_pos h, if_neg (Int32.not_le.mpr h)]
  · rw [if_neg h, if_pos (Int32.not_lt.mp h)]
theorem s108 (h : waIs w M) {p0 : Nat} (hw : w[0]? = some p0) : Rm E 108 0 [vr 83, vn, vn] [] M (some (.int (w.foldl (fun s p => if s < M.1 84 p then M.1 84 p else s) (M.1 84 p0)))) M := by
  obtain ⟨-, -, -, -, -, -, f4, f5, -, f6⟩ := wa_st h hw
  refine b108_0_0 (by rw [f4]; exact f5) ?_
  rw [f4, f6]
  refine foldR w (fun s p => if s < M.1 84 p then M.1 84 p else s) (fun s k fin => Rm E 108 14 [vr 83, vi s, vi (nI k)] [] M (some (.int fin)) M) (fun s => b108_14_0 (wa_ex h)) (fun s k p fin hk ih => ?_) (M.1 84 p0)
  obtain ⟨-, -, -, e1, e2, e3, e4, e5, -, e6⟩ := wa_st h hk
  by_cases hc : M.1 84 p ≤ s
  · refine b108_14_1 e1 e2 (by rw [e3, e4]; exact e5) (by rw [e3, e4, e6]; exact hc) ?_
    rw [nI_1]
    rwa [ite_lt, if_pos hc] at ih
  · refine b108_14_2 e1 e2 (by rw [e3, e4]; exact e5) (by rw [e3, e4, e6]; exact hc) e2 (by rw [e3, e4]; exact e5) ?_
    rw [e3, e4, e6, nI_1]
    rwa [ite_lt, if_neg hc] at ih
theorem s109 (h : waIs w M) {p0 : Nat} (hw : w[0]? = some p0) : Rm E 109 0 [vr 83, vn, vn] [] M (some (.int (w.foldl (fun s p => if M.1 84 p < s then M.1 84 p else s) (M.1 84 p0)))) M := by
  obtain ⟨-, -, -, -, -, -, f4, f5, -, f6⟩ := wa_st h hw
  refine b109_0_0 (by rw [f4]; exact f5) ?_
  rw [f4, f6]
  refine foldR w (fun s p => if M.1 84 p < s then M.1 84 p else s) (fun s k fin => Rm E 109 14 [vr 83, vi s, vi (nI k)] [] M (some (.int fin)) M) (fun s => b109_14_0 (wa_ex h)) (fun s k p fin hk ih => ?_) (M.1 84 p0)
  obtain ⟨-, -, -, e1, e2, e3, e4, e5, -, e6⟩ := wa_st h hk
  by_cases hc : s ≤ M.1 84 p
  · refine b109_14_1 e1 e2 (by rw [e3, e4]; exact e5) (by rw [e3, e4, e6]; exact hc) ?_
    rw [nI_1]
    rwa [ite_lt, if_pos hc] at ih
  · refine b109_14_2 e1 e2 (by rw [e3, e4]; exact e5) (by rw [e3, e4, e6]; exact hc) e2 (by rw [e3, e4]; exact e5) ?_
    rw [e3, e4, e6, nI_1]
    rwa [ite_lt, if_neg hc] at ih
theorem s111 (h : waIs w M) (hw : 0 < w.length) : Rm E 111 0 [vr 83, vn, vn] [] M (some (.int (pcF (pcf (M.1 89)) 1 w))) M := by
  refine b111_0_0 ?_
  refine foldR1 w hw (pcf (M.1 89)) (fun s k fin => Rm E 111 4 [vr 83, vi s, vi (nI k)] [] M (some (.int fin)) M) (fun s => b111_4_0 (wa_ex h)) (fun s k p q fin hk hk2 ih => ?_) 1
  obtain ⟨-, -, -, e1, e2, e3, e4, -, e5, e6⟩ := wa_st h hk2
  obtain ⟨-, -, -, -, f2, f3, f4, -, f5, f6⟩ := wa_st h hk
  by_cases hc : M.1 89 q = M.1 89 p
  · refine b111_4_2 e1 e2 (by rw [e3, e4]; exact e5) (by rw [nI_pred]; exact f2) (by rw [nI_pred, f3, f4]; exact f5) (by rw [nI_pred, e3, e4, e6, f3, f4, f6]; exact fun z => z hc) ?_
    rw [nI_1, show s + 0 = s from Int32.add_zero s]
    rwa [pcf, if_pos hc] at ih
  · refine b111_4_1 e1 e2 (by rw [e3, e4]; exact e5) (by rw [nI_pred]; exact f2) (by rw [nI_pred, f3, f4]; exact f5) (by rw [nI_pred, e3, e4, e6, f3, f4, f6]; exact hc) ?_
    rw [nI_1]
    rwa [pcf, if_neg hc] at ih
theorem s112 (h : waIs w M) {p0 : Nat} (hw : w[0]? = some p0) : Rm E 112 0 [vr 83, vn, vn, vn, vn] [] M (some (.int (w.foldl (gnF (M.1 84)) (0, M.1 84 p0)).1)) M := by
  obtain ⟨-, -, -, -, -, -, f4, f5, -, f6⟩ := wa_st h hw
  refine b112_0_0 (by rw [f4]; exact f5) ?_
  rw [f4, f6]
  refine foldR w (gnF (M.1 84)) (fun s k fin => Rm E 112 16 [vr 83, vi s.2, vi s.1, vi (nI k), vn] [] M (some (.int fin.1)) M) (fun s => b112_16_0 (wa_ex h)) (fun s k p fin hk ih => ?_) (0, M.1 84 p0)
  obtain ⟨-, -, -, e1, e2, e3, e4, e5, -, e6⟩ := wa_st h hk
  have hi : inR (M.1 93 (nI k).toNatClampNeg) 90 := by rw [e3, e4]; exact e5
  have hv : M.1 84 (M.1 93 (nI k).toNatClampNeg).toNatClampNeg = M.1 84 p := by rw [e3, e4, e6]
  unfold gnF at ih
  dsimp only at ih
  by_cases hc : s.2 ≤ M.1 84 p
  · rw [ite_lt (x := M.1 84 p) (y := s.2), if_pos hc] at ih
    by_cases hd : M.1 84 p - s.2 ≤ s.1
    · rw [ite_lt, if_pos hd] at ih
      refine b112_16_1 e1 e2 hi (by rw [hv]; exact hc) (by rw [hv]; exact hd) ?_
      rw [nI_1]
      exact ih
    · rw [ite_lt, if_neg hd] at ih
      refine b112_16_2 e1 e2 hi (by rw [hv]; exact hc) (by rw [hv]; exact hd) ?_
      rw [nI_1, hv]
      exact ih
  · rw [ite_lt (x := M.1 84 p) (y := s.2), if_neg hc] at ih
    by_cases hd : M.1 84 p - M.1 84 p ≤ s.1
    · rw [ite_lt, if_pos hd] at ih
      refine b112_16_3 e1 e2 hi (by rw [hv]; exact hc) (by rw [hv]; exact hd) ?_
      rw [nI_1, hv]
      exact ih
    · rw [ite_lt, if_neg hd] at ih
      refine b112_16_4 e1 e2 hi (by rw [hv]; exact hc) (by rw [hv]; exact hd) ?_
      rw [nI_1, hv]
      exact ih
theorem ge_lt {v : Int32} : (if 0 < v then v else 0) = (if 0 ≤ v then v else 0) := by
  by_cases h : 0 < v
  · rw [if_pos h, if_pos (Int32.le_of_lt h)]
  · rw [if_neg h]
    by_cases h2 : 0 ≤ v
    · rw [if_pos h2]
      exact Int32.le_antisymm h2 (Int32.not_lt.mp h)
    · rw [if_neg h2]
theorem s118 {v x k : Int32} (hk : 0 ≤ k ∧ k ≤ 3) : Rm E 118 0 [vi v, vi x, vi k, vn] [] M (some (.int (adF v x k))) M := by
  have l1 : ¬ (2 : Int32) ≤ 1 := by decide
  have l2 : ¬ (3 : Int32) ≤ 1 := by decide
  have hk4 : k = 0 ∨ k = 1 ∨ k = 2 ∨ k = 3 := by
    obtain ⟨j, hj, rfl⟩ := nI_of2 (x := k) (M := 3) (n := 3) rfl (Int32.not_lt.mpr hk.1) hk.2
    rcases (show j = 0 ∨ j = 1 ∨ j = 2 ∨ j = 3 by omega) with rfl | rfl | rfl | rfl
    · exact Or.inl rfl
    · exact Or.inr (Or.inl rfl)
    · exact Or.inr (Or.inr (Or.inl rfl))
    · exact Or.inr (Or.inr (Or.inr rfl))
  rcases hk4 with rfl | rfl | rfl | rfl
  · exact b118_0_0 (by decide) (by decide) (by decide)
  · exact b118_0_6 (by decide) (by decide)
  · show Rm E 118 0 _ [] M (some (.int (if 0 < v + x then v + x else 0))) M
    rw [ge_lt]
    by_cases h : 0 ≤ v + x
    · rw [if_pos h]; exact b118_0_1 (by decide) (by decide) l1 h
    · rw [if_neg h]; exact b118_0_2 (by decide) (by decide) l1 h
  · show Rm E 118 0 _ [] M (some (.int (if 0 < v + x / 2 then v + x / 2 else 0))) M
    rw [ge_lt]
    by_cases h : 0 ≤ v + x / 2
    · rw [if_pos h]; exact b118_0_4 (by decide) (by decide) l2 h
    · rw [if_neg h]; exact b118_0_5 (by decide) (by decide) l2 h
theorem s121 {x k : Int32} : Rm E 121 0 [vi x, vi k] [] M (some (.int (b01 ((-999 ≤ x ∧ x ≤ 999) ∧ 0 ≤ k ∧ k ≤ 3)))) M := by
  have c1 : Rm E 88 0 [vl x.toInt64, vn, vl (-999), vn, vl 999, vn] [] M (some (.int (b01 (-999 ≤ x ∧ x ≤ 999)))) M := s88i (by decide) (by decide)
  have c2 : Rm E 88 0 [vl k.toInt64, vn, vl 0, vn, vl 3, vn] [] M (some (.int (b01 (0 ≤ k ∧ k ≤ 3)))) M := s88i (by decide) (by decide)
  by_cases h0 : (-999 ≤ x ∧ x ≤ 999)
  · by_cases h1 : (0 ≤ k ∧ k ≤ 3)
    · rw [b01_t ⟨h0, h1⟩]
      exact b121_0_2 c1 (fun z => b01_0.mp z h0) c2 (fun z => b01_0.mp z h1)
    · rw [b01_f (fun z => h1 z.2)]
      exact b121_0_1 c1 (fun z => b01_0.mp z h0) c2 (b01_0.mpr h1)
  · rw [b01_f (fun z => h0 z.1)]
    exact b121_0_0 c1 (b01_0.mpr h0)
theorem s119 (h : waIs w M) {x k : Int32} (hk : 0 ≤ k ∧ k ≤ 3) : Rm E 119 0 [vr 83, vi x, vi k, vn, vn] [] M (some (.int (b2 (w.all (fun p => okA (adF (M.1 84 p) x k)))))) M := by
  refine b119_0_0 ?_
  have key : ∀ d j (b : Bool), w.length - j = d → j ≤ w.length → Rm E 119 5 [vr 83, vi x, vi k, vi (b2 b), vi (nI j)] [] M (some (.int (b2 (b && (w.drop j).all (fun p => okA (adF (M.1 84 p) x k)))))) M := by
    intro d
    induction d with
    | zero =>
      intro j b hd hj
      obtain rfl : j = w.length := by omega
      rw [List.drop_length, List.all_nil, Bool.and_true]
      exact b119_5_0 (wa_ex h) (by cases b; exact Or.inl rfl; exact Or.inr rfl)
    | succ d ih =>
      intro j b hd hj
      have hlt : j < w.length := by omega
      have hat := List.getElem?_eq_getElem hlt
      obtain ⟨-, -, -, e1, e2, e3, e4, e5, -, e6⟩ := wa_st h hat
      rw [List.drop_eq_getElem_cons hlt, List.all_cons]
      cases b
      · rw [Bool.false_and]
        refine b119_5_1 e1 rfl ?_
        rw [nI_1]
        have := ih (j + 1) false (by omega) (by omega)
        rwa [Bool.false_and] at this
      · have hin : Rm E 118 0 [vi (M.1 84 (M.1 93 (nI j).toNatClampNeg).toNatClampNeg), vi x, vi k, vn] [] M (some (.int (adF (M.1 84 w[j]) x k))) M := by rw [e3, e4, e6]; exact s118 hk
        have hok : Rm E 88 0 [vl (adF (M.1 84 w[j]) x k).toInt64, vn, vl (-9999), vn, vl 9999, vn] [] M (some (.int (b01 (-9999 ≤ adF (M.1 84 w[j]) x k ∧ adF (M.1 84 w[j]) x k ≤ 9999)))) M := s88i (by decide) (by decide)
        cases hc : okA (adF (M.1 84 w[j]) x k)
        · have hc2 : ¬ (-9999 ≤ adF (M.1 84 w[j]) x k ∧ adF (M.1 84 w[j]) x k ≤ 9999) := fun z => by rw [okA_iff.mpr z] at hc; cases hc
          refine b119_5_2 e1 (by decide) e2 (by rw [e3, e4]; exact e5) hin hok (b01_0.mpr hc2) ?_
          rw [nI_1]
          have := ih (j + 1) false (by omega) (by omega)
          rw [Bool.false_and] at this
          rw [Bool.false_and, Bool.and_false]
          exact this
        · refine b119_5_3 e1 (by decide) e2 (by rw [e3, e4]; exact e5) hin hok (fun z => b01_0.mp z (okA_iff.mp hc)) ?_
          rw [nI_1, Bool.true_and, Bool.true_and]
          have := ih (j + 1) true (by omega) (by omega)
          rwa [Bool.true_and] at this
  have := key w.length 0 true rfl (Nat.zero_le _)
  rwa [List.drop_zero, Bool.true_and] at this
theorem s120 (h : waIs w M) {x k : Int32} (hk : 0 ≤ k ∧ k ≤ 3) : Rm E 120 0 [vr 83, vi x, vi k, vn] [] M none (rowM M 84 (w.foldl (tkF x k) (M.1 84))) := by
  refine b120_0_0 ?_
  have hh : ∀ g, waIs w (rowM M 84 g) := fun g => h.cg (by rw [rowM_ne (by decide)]) (rowM_ne (by decide))
  have := foldR w (tkF x k) (fun g j fin => Rm E 120 2 [vr 83, vi x, vi k, vi (nI j)] [] (rowM M 84 g) none (rowM M 84 fin)) (fun g => b120_2_0 (wa_ex (hh g))) (fun g j p fin hj ih => ?_) (M.1 84)
  · rwa [rowM_self] at this
  · obtain ⟨-, -, -, e1, e2, e3, e4, e5, -, e6⟩ := wa_st (hh g) hj
    refine b120_2_1 e1 e2 e2 (by rw [e3, e4]; exact e5) (by rw [e3, e4, e6]; exact s118 hk) (by rw [e3, e4]; exact e5) rfl ?_
    rw [e3, e4, e6, nI_1, rowM_up, rowM_at]
    exact ih
end MFOLD
