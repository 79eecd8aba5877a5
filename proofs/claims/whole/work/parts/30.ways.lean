/-! plain facts on numbers and memories -/
theorem inR_nI {k n : Nat} (h : k < n) (hn : n < 2 ^ 31) : inR (nI k) n := by
  show inB (nI k) n = true
  unfold inB
  have h1 : ¬ nI k < 0 := nI_pos (by omega)
  rw [nI_clamp (by omega)]
  simp [h1, h]
theorem clampI {k : Nat} (h : k < 2 ^ 31) : (nI k).toNatClampNeg = k := nI_clamp h
def eqOff (A : List Nat) (M N : mem) : Prop := N.2 = M.2 ∧ ∀ a, a ∉ A → N.1 a = M.1 a
theorem eqOff.rf {A : List Nat} {M : mem} : eqOff A M M := ⟨rfl, fun _ _ => rfl⟩
theorem eqOff.tr {A : List Nat} {M N K : mem} (h : eqOff A M N) (g : eqOff A N K) : eqOff A M K := ⟨g.1.trans h.1, fun a ha => (g.2 a ha).trans (h.2 a ha)⟩
theorem upM_ne {M : mem} {a j b : Nat} {v : Int32} (h : b ≠ a) : (upM M a j v).1 b = M.1 b := by
  funext k
  show (if b = a ∧ k = j then v else M.1 b k) = M.1 b k
  rw [if_neg (fun z => h z.1)]
theorem upM_eq {M : mem} {a j : Nat} {v : Int32} : (upM M a j v).1 a j = v := by
  show (if a = a ∧ j = j then v else M.1 a j) = v
  simp
theorem upM_nk {M : mem} {a j k : Nat} {v : Int32} (h : k ≠ j) : (upM M a j v).1 a k = M.1 a k := by
  show (if a = a ∧ k = j then v else M.1 a k) = M.1 a k
  simp [h]
theorem eqOff.up {A : List Nat} {M N : mem} {a j : Nat} {v : Int32} (h : eqOff A M N) (ha : a ∈ A) : eqOff A M (upM N a j v) := ⟨h.1, fun b hb => (upM_ne (fun z => hb (by rw [z]; exact ha))).trans (h.2 b hb)⟩
theorem eqOff.wk {A B : List Nat} {M N : mem} (h : eqOff A M N) (hs : ∀ a ∈ A, a ∈ B) : eqOff B M N := ⟨h.1, fun a ha => h.2 a (fun z => ha (hs a z))⟩
/-! trees: up i is the one above i -/
def upOk (n : Nat) (up : Nat → Nat) : Prop := ∀ i, 0 < i → i < n → up i < i
def mt (up : Nat → Nat) (u v : Nat) : Nat := if u = v then u else if v < u then mt up (min (up u) (u - 1)) v else mt up u (min (up v) (v - 1))
termination_by u + v
def wy (up : Nat → Nat) (u v : Nat) : List Nat := if u = v then [u] else if v < u then u :: wy up (min (up u) (u - 1)) v else wy up u (min (up v) (v - 1)) ++ [v]
termination_by u + v
def dpt (up : Nat → Nat) (u : Nat) : Nat := if u = 0 then 0 else dpt up (min (up u) (u - 1)) + 1
termination_by u
def cl (up : Nat → Nat) : Nat → Nat → Nat
  | 0, u => u
  | k + 1, u => cl up k (up u)
theorem cl_succ (up : Nat → Nat) : ∀ k u, cl up (k + 1) u = up (cl up k u)
  | 0, u => rfl
  | k + 1, u => by rw [cl, cl_succ up k (up u)]; rfl
theorem mt_self (up : Nat → Nat) (u : Nat) : mt up u u = u := by rw [mt]; simp
theorem mt_gt {up : Nat → Nat} {u v : Nat} (h : v < u) (hu : up u < u) : mt up u v = mt up (up u) v := by
  rw [mt, if_neg (by omega), if_pos h, show min (up u) (u - 1) = up u by omega]
theorem mt_lt {up : Nat → Nat} {u v : Nat} (h : u < v) (hv : up v < v) : mt up u v = mt up u (up v) := by
  rw [mt, if_neg (by omega), if_neg (by omega), show min (up v) (v - 1) = up v by omega]
theorem wy_self (up : Nat → Nat) (u : Nat) : wy up u u = [u] := by rw [wy]; simp
theorem wy_gt {up : Nat → Nat} {u v : Nat} (h : v < u) (hu : up u < u) : wy up u v = u :: wy up (up u) v := by
  rw [wy, if_neg (by omega), if_pos h, show min (up u) (u - 1) = up u by omega]
theorem wy_lt {up : Nat → Nat} {u v : Nat} (h : u < v) (hv : up v < v) : wy up u v = wy up u (up v) ++ [v] := by
  rw [wy, if_neg (by omega), if_neg (by omega), show min (up v) (v - 1) = up v by omega]
theorem dpt_0 (up : Nat → Nat) : dpt up 0 = 0 := by rw [dpt]; simp
theorem dpt_s {up : Nat → Nat} {u : Nat} (h : 0 < u) (hu : up u < u) : dpt up u = dpt up (up u) + 1 := by
  rw [dpt, if_neg (by omega), show min (up u) (u - 1) = up u by omega]
theorem dpt_le {n : Nat} {up : Nat → Nat} (h : upOk n up) : ∀ u, u < n → dpt up u ≤ u := by
  intro u
  induction u using Nat.strongRecOn with
  | _ u ih =>
    intro hu
    rcases Nat.eq_zero_or_pos u with rfl | h0
    · rw [dpt_0]; omega
    · have h1 := h u h0 hu
      rw [dpt_s h0 h1]
      have := ih (up u) h1 (by omega)
      omega
/-- induction along a way -/
theorem way_ind {n : Nat} {up : Nat → Nat} (h : upOk n up) (C : Nat → Nat → Prop) (h1 : ∀ u, u < n → C u u) (h2 : ∀ u v, u < n → v < u → C (up u) v → C u v) (h3 : ∀ u v, v < n → u < v → C u (up v) → C u v) : ∀ u v, u < n → v < n → C u v := by
  have key : ∀ s u v, u + v = s → u < n → v < n → C u v := by
    intro s
    induction s using Nat.strongRecOn with
    | _ s ih =>
      intro u v hs hu hv
      rcases Nat.lt_trichotomy u v with hlt | rfl | hgt
      · have := h v (by omega) hv
        exact h3 u v hv hlt (ih (u + up v) (by omega) u (up v) rfl hu (by omega))
      · exact h1 u hu
      · have := h u (by omega) hu
        exact h2 u v hu hgt (ih (up u + v) (by omega) (up u) v rfl (by omega) hv)
  exact fun u v hu hv => key (u + v) u v rfl hu hv
/-- a way: up from u, then down to v -/
theorem way_form {n : Nat} {up : Nat → Nat} (h : upOk n up) : ∀ u v, u < n → v < n → ∃ r f, dpt up u = dpt up (mt up u v) + r ∧ dpt up v = dpt up (mt up u v) + f ∧ (wy up u v).length = r + 1 + f ∧ (∀ k, k ≤ r → (wy up u v)[k]? = some (cl up k u)) ∧ (∀ k, k < f → (wy up u v)[r + f - k]? = some (cl up k v)) ∧ cl up r u = mt up u v ∧ cl up f v = mt up u v := by
  refine way_ind h _ ?_ ?_ ?_
  · intro u hu
    refine ⟨0, 0, by rw [mt_self]; rfl, by rw [mt_self]; rfl, by rw [wy_self]; rfl, fun k hk => ?_, fun k hk => by omega, (mt_self up u).symm, (mt_self up u).symm⟩
    obtain rfl : k = 0 := by omega
    rw [wy_self]; rfl
  · intro u v hu hvu ⟨r, f, a1, a2, a3, a4, a5, a6, a7⟩
    have hup := h u (by omega) hu
    rw [mt_gt hvu hup, wy_gt hvu hup]
    refine ⟨r + 1, f, by rw [dpt_s (by omega) hup, a1]; omega, a2, by rw [List.length_cons, a3]; omega, fun k hk => ?_, fun k hk => ?_, a6, a7⟩
    · cases k with
      | zero => rfl
      | succ k => rw [List.getElem?_cons_succ, a4 k (by omega)]; rfl
    · rw [show r + 1 + f - k = (r + f - k) + 1 by omega, List.getElem?_cons_succ, a5 k hk]
  · intro u v hv huv ⟨r, f, a1, a2, a3, a4, a5, a6, a7⟩
    have hup := h v (by omega) hv
    rw [mt_lt huv hup, wy_lt huv hup]
    refine ⟨r, f + 1, a1, by rw [dpt_s (by omega) hup, a2]; omega, by rw [List.length_append, a3]; simp; omega, fun k hk => ?_, fun k hk => ?_, a6, a7⟩
    · rw [List.getElem?_append_left (by omega), a4 k hk]
    · cases k with
      | zero =>
        rw [List.getElem?_append_right (by omega), show r + (f + 1) - 0 - (wy up u (up v)).length = 0 by omega]
        rfl
      | succ k =>
        rw [List.getElem?_append_left (by omega), show r + (f + 1) - (k + 1) = r + f - k by omega, a5 k (by omega)]
        rfl
theorem way_le {n : Nat} {up : Nat → Nat} (h : upOk n up) : ∀ u v, u < n → v < n → (∀ x ∈ wy up u v, x ≤ max u v) ∧ (wy up u v).Nodup ∧ (wy up u v).length ≤ max u v + 1 ∧ mt up u v ≤ min u v := by
  refine way_ind h _ ?_ ?_ ?_
  · intro u hu
    rw [wy_self, mt_self]
    simp
  · intro u v hu hvu ⟨a1, a2, a3, a4⟩
    have hup := h u (by omega) hu
    rw [mt_gt hvu hup, wy_gt hvu hup]
    refine ⟨fun x hx => ?_, ?_, by rw [List.length_cons]; omega, by omega⟩
    · rcases List.mem_cons.mp hx with rfl | hx
      · omega
      · have := a1 x hx; omega
    · refine List.nodup_cons.mpr ⟨fun hx => ?_, a2⟩
      have := a1 u hx; omega
  · intro u v hv huv ⟨a1, a2, a3, a4⟩
    have hup := h v (by omega) hv
    rw [mt_lt huv hup, wy_lt huv hup]
    refine ⟨fun x hx => ?_, ?_, by rw [List.length_append]; simp; omega, by omega⟩
    · rcases List.mem_append.mp hx with hx | hx
      · have := a1 x hx; omega
      · simp at hx; omega
    · refine List.nodup_append.mpr ⟨a2, by simp, fun a ha b hb => ?_⟩
      simp at hb
      have := a1 a ha
      omega
theorem way_n {n : Nat} {up : Nat → Nat} (h : upOk n up) {u v : Nat} (hu : u < n) (hv : v < n) : (∀ x ∈ wy up u v, x < n) ∧ (wy up u v).length ≤ n ∧ mt up u v < n := by
  obtain ⟨a1, a2, a3, a4⟩ := way_le h u v hu hv
  exact ⟨fun x hx => by have := a1 x hx; omega, by omega, by omega⟩
theorem way_pos {n : Nat} {up : Nat → Nat} (h : upOk n up) {u v : Nat} (hu : u < n) (hv : v < n) : 0 < (wy up u v).length := by
  obtain ⟨r, f, -, -, a3, -⟩ := way_form h u v hu hv
  omega
