/-! accounts and what is kept of them -/
abbrev accs : Type := (Nat → Int32) × (Nat → Int32) × (Nat → Int32)
def acAt (d : Nat) (a : accs) (M : mem) : Prop := ∀ i, i < 30 → M.1 (d + 1) i = a.1 i ∧ M.1 (d + 2) i = a.2.1 i ∧ M.1 (d + 3) i = a.2.2 i
def roAt (x o : Nat) (a : accs) (M : mem) : Prop := ∀ i, i < 30 → M.1 x (o + i) = a.1 i ∧ M.1 x (o + 30 + i) = a.2.1 i ∧ M.1 x (o + 60 + i) = a.2.2 i
def eqR (lo hi : Nat) (M N : mem) : Prop := N.2 = M.2 ∧ ∀ a, (a < lo ∨ hi < a) → N.1 a = M.1 a
theorem eqR.rf {lo hi : Nat} {M : mem} : eqR lo hi M M := ⟨rfl, fun _ _ => rfl⟩
theorem eqR.tr {lo hi : Nat} {M N K : mem} (h : eqR lo hi M N) (g : eqR lo hi N K) : eqR lo hi M K := ⟨g.1.trans h.1, fun a ha => (g.2 a ha).trans (h.2 a ha)⟩
theorem eqR.up {lo hi : Nat} {M N : mem} {a j : Nat} {v : Int32} (h : eqR lo hi M N) (h1 : lo ≤ a) (h2 : a ≤ hi) : eqR lo hi M (upM N a j v) := ⟨h.1, fun b hb => (upM_ne (by omega)).trans (h.2 b hb)⟩
theorem acAt.cg {d : Nat} {a : accs} {M N : mem} (h : acAt d a M) (h1 : N.1 (d + 1) = M.1 (d + 1)) (h2 : N.1 (d + 2) = M.1 (d + 2)) (h3 : N.1 (d + 3) = M.1 (d + 3)) : acAt d a N := by
  unfold acAt at h ⊢
  rw [h1, h2, h3]
  exact h
theorem cpM_ne {M : mem} {a0 a b : Nat} (h : b ≠ a) : (cpM M a0 a).1 b = M.1 b := by
  funext k
  show (if b = a ∧ k < 30 then M.1 a0 k else M.1 b k) = M.1 b k
  rw [if_neg (fun z => h z.1)]
theorem cpM_eq {M : mem} {a0 a k : Nat} (h : k < 30) : (cpM M a0 a).1 a k = M.1 a0 k := by
  show (if a = a ∧ k < 30 then M.1 a0 k else M.1 a k) = M.1 a0 k
  simp [h]
theorem accA_apart {a b : Nat} (ha : accA a) (hb : accA b) (h : a ≠ b) : a + 4 ≤ b ∨ b + 4 ≤ a := by
  have key : ∀ a ∈ [5, 18, 22, 28, 32, 36, 40, 44, 48, 52, 56, 62, 66], ∀ b ∈ [5, 18, 22, 28, 32, 36, 40, 44, 48, 52, 56, 62, 66], a ≠ b → a + 4 ≤ b ∨ b + 4 ≤ a := by decide
  exact key a ha b hb h
/-- copy -/
theorem s3 {E : env} {M : mem} {a b : Nat} {x : accs} (ha : accA a) (hb : accA b) (hne : a ≠ b) (h : acAt b x M) : ∃ M', Rm E 3 0 [vr a, vr b] [] M none M' ∧ eqR (a + 1) (a + 3) M M' ∧ acAt a x M' := by
  have hap := accA_apart ha hb hne
  refine ⟨_, b3_0_0 ha hb rfl rfl rfl, ⟨rfl, fun c hc => ?_⟩, fun i hi => ?_⟩
  · rw [cpM_ne (by omega), cpM_ne (by omega), cpM_ne (by omega)]
  · obtain ⟨h1, h2, h3⟩ := h i hi
    refine ⟨?_, ?_, ?_⟩
    · rw [cpM_ne (by omega), cpM_ne (by omega), cpM_eq hi, h1]
    · rw [cpM_ne (by omega), cpM_eq hi, cpM_ne (by omega), h2]
    · rw [cpM_eq hi, cpM_ne (by omega), cpM_ne (by omega), h3]
/-- a shelf at sh with room for cap copies, the first at base; the last put comes first -/
def cSh (sh base cap : Nat) (pa : List accs) (M : mem) : Prop := M.1 sh 1 = nI pa.length ∧ pa.length ≤ cap ∧ ∃ nx, nx < cap ∧ M.1 sh 2 = nI nx ∧ ∀ j a, pa[j]? = some a → acAt (base + 4 * ((nx + cap - 1 - j) % cap)) a M
theorem cSh.cg {sh base cap : Nat} {pa : List accs} {M N : mem} (h : cSh sh base cap pa M) (hc : 0 < cap) (h1 : N.1 sh = M.1 sh) (h2 : ∀ a, base ≤ a → a < base + 4 * cap → N.1 a = M.1 a) : cSh sh base cap pa N := by
  obtain ⟨e1, e2, nx, e3, e4, e5⟩ := h
  refine ⟨by rw [h1]; exact e1, e2, nx, e3, by rw [h1]; exact e4, fun j a hj => ?_⟩
  have := Nat.mod_lt (nx + cap - 1 - j) hc
  exact (e5 j a hj).cg (h2 _ (by omega) (by omega)) (h2 _ (by omega) (by omega)) (h2 _ (by omega) (by omega))
theorem cSh.nil {sh base cap : Nat} {pa : List accs} {M N : mem} (h : cSh sh base cap pa M) (h1 : N.1 sh 1 = 0) (h2 : N.1 sh 2 = M.1 sh 2) : cSh sh base cap [] N := by
  obtain ⟨e1, e2, nx, e3, e4, e5⟩ := h
  exact ⟨h1, by simp, nx, e3, by rw [h2]; exact e4, fun j a hj => by simp at hj⟩
theorem push_math {cap nx : Nat} (hn : nx < cap) {pa : List accs} {a : accs} {M N : mem} {base : Nat} (hpa : ∀ j b, pa[j]? = some b → acAt (base + 4 * ((nx + cap - 1 - j) % cap)) b M) (hN : acAt (base + 4 * nx) a N) (hk : ∀ i, i < cap → i ≠ nx → ∀ b, acAt (base + 4 * i) b M → acAt (base + 4 * i) b N) : ∀ j b, ((a :: pa).take cap)[j]? = some b → acAt (base + 4 * ((((nx + 1) % cap) + cap - 1 - j) % cap)) b N := by
  intro j b hj
  rw [List.getElem?_take] at hj
  split at hj
  · rename_i hjc
    cases j with
    | zero =>
      simp at hj
      subst hj
      have e : ((nx + 1) % cap + cap - 1 - 0) % cap = nx := by
        rcases Nat.lt_or_ge (nx + 1) cap with h | h
        · rw [Nat.mod_eq_of_lt h, show nx + 1 + cap - 1 - 0 = nx + cap by omega, Nat.add_mod_right, Nat.mod_eq_of_lt hn]
        · have : nx + 1 = cap := by omega
          rw [this, Nat.mod_self, Nat.mod_eq_of_lt (by omega)]
          omega
      rw [e]
      exact hN
    | succ j =>
      rw [List.getElem?_cons_succ] at hj
      have hM := hpa j b hj
      have e : ((nx + 1) % cap + cap - 1 - (j + 1)) % cap = (nx + cap - 1 - j) % cap := by
        rcases Nat.lt_or_ge (nx + 1) cap with h | h
        · rw [Nat.mod_eq_of_lt h]
          congr 1
          omega
        · have h2 : nx + 1 = cap := by omega
          rw [h2, Nat.mod_self, show nx + cap - 1 - j = (0 + cap - 1 - (j + 1)) + cap by omega, Nat.add_mod_right]
      rw [e]
      refine hk _ (Nat.mod_lt _ (by omega)) (fun z => ?_) b hM
      rcases Nat.lt_or_ge (nx + cap - 1 - j) cap with h | h
      · rw [Nat.mod_eq_of_lt h] at z; omega
      · rw [Nat.mod_eq_sub_mod h, Nat.mod_eq_of_lt (by omega)] at z
        omega
  · cases hj
theorem pop_math {cap nx : Nat} (hn : nx < cap) {pa : List accs} {a : accs} {M : mem} {base : Nat} (hpa : ∀ j b, (a :: pa)[j]? = some b → acAt (base + 4 * ((nx + cap - 1 - j) % cap)) b M) (hl : pa.length < cap) : acAt (base + 4 * ((nx + cap - 1) % cap)) a M ∧ ∀ j b, pa[j]? = some b → acAt (base + 4 * ((((nx + cap - 1) % cap) + cap - 1 - j) % cap)) b M := by
  refine ⟨hpa 0 a rfl, fun j b hj => ?_⟩
  have := hpa (j + 1) b (by rw [List.getElem?_cons_succ]; exact hj)
  have hjl : j < pa.length := (List.getElem?_eq_some_iff.mp hj).1
  have e : ((nx + cap - 1) % cap + cap - 1 - j) % cap = (nx + cap - 1 - (j + 1)) % cap := by
    rcases Nat.eq_zero_or_pos nx with rfl | h
    · rw [Nat.mod_eq_of_lt (show 0 + cap - 1 < cap by omega), show 0 + cap - 1 + cap - 1 - j = (0 + cap - 1 - (j + 1)) + cap by omega, Nat.add_mod_right]
    · have e1 : (nx + cap - 1) % cap = nx - 1 := by rw [show nx + cap - 1 = (nx - 1) + cap by omega, Nat.add_mod_right, Nat.mod_eq_of_lt (by omega)]
      rw [e1]
      congr 1
      omega
  rw [e]
  exact this
section SHELF
variable {E : env} {M : mem} {pa : List accs} {a : accs}
theorem past_y : ∀ nx, nx < 8 → [28, 32, 36, 40, 44, 48, 52, 56][nx]? = some (28 + 4 * nx) ∧ accA (28 + 4 * nx) := by
  have : ∀ nx, nx < 8 → [28, 32, 36, 40, 44, 48, 52, 56][nx]? = some (28 + 4 * nx) ∧ 28 + 4 * nx ∈ [5, 18, 22, 28, 32, 36, 40, 44, 48, 52, 56, 62, 66] := by decide
  exact this
theorem kept_y : ∀ nx, nx < 2 → [62, 66][nx]? = some (62 + 4 * nx) ∧ accA (62 + 4 * nx) := by
  have : ∀ nx, nx < 2 → [62, 66][nx]? = some (62 + 4 * nx) ∧ 62 + 4 * nx ∈ [5, 18, 22, 28, 32, 36, 40, 44, 48, 52, 56, 62, 66] := by decide
  exact this
theorem acc18 : accA 18 := by unfold accA; decide
theorem take_len {pa : List accs} {a : accs} {cap : Nat} (h : pa.length ≤ cap) (hc : 0 < cap) : ((a :: pa).take cap).length = if cap < pa.length + 1 then cap else pa.length + 1 := by
  rw [List.length_take, List.length_cons]
  split <;> omega
theorem heldI {c k : Nat} (hk : k ≤ c) (hc : c < 100) : (if nI c < nI k + 1 then nI c else nI k + 1) = nI (if c < k + 1 then c else k + 1) := by
  rw [nI_1]
  by_cases h : c < k + 1
  · rw [if_pos h, if_pos (nI_lt h (by omega))]
  · rw [if_neg h, if_neg (by rw [nI_ltI (by omega) (by omega)]; exact h)]
/-- push on what can be undone -/
theorem s35p (hp : cSh 26 28 8 pa M) (ha : acAt 18 a M) : ∃ M', Rm E 35 0 [vr 26, vr 18] [] M none M' ∧ eqR 26 59 M M' ∧ cSh 26 28 8 ((a :: pa).take 8) M' := by
  obtain ⟨e1, e2, nx, e3, e4, e5⟩ := hp
  obtain ⟨y1, y2⟩ := past_y nx e3
  obtain ⟨N1, r1, r2, r3⟩ := s3 (E := E) y2 acc18 (by omega) ha
  have h26 : N1.1 26 = M.1 26 := r2.2 26 (by omega)
  have q2 : N1.1 26 2 = nI nx := by rw [h26]; exact e4
  have q1 : N1.1 26 1 = nI pa.length := by rw [h26]; exact e1
  have fin : ∀ (nx' : Nat), nx' = (nx + 1) % 8 → eqR 26 59 M (upM (upM N1 26 2 (nI nx')) 26 1 (nI ((a :: pa).take 8).length)) ∧ cSh 26 28 8 ((a :: pa).take 8) (upM (upM N1 26 2 (nI nx')) 26 1 (nI ((a :: pa).take 8).length)) := by
    intro nx' hnx
    have hr : eqR 26 59 M N1 := ⟨r2.1, fun c hc => r2.2 c (by omega)⟩
    refine ⟨(hr.up (by omega) (by omega)).up (by omega) (by omega), upM_eq, by rw [List.length_take]; omega, nx', by omega, by rw [upM_nk (by decide), upM_eq], ?_⟩
    subst hnx
    refine push_math e3 e5 ?_ (fun i hi hne b hb => ?_)
    · exact r3.cg (by rw [upM_ne (by omega), upM_ne (by omega)]) (by rw [upM_ne (by omega), upM_ne (by omega)]) (by rw [upM_ne (by omega), upM_ne (by omega)])
    · exact hb.cg (by rw [upM_ne (by omega), upM_ne (by omega), r2.2 _ (by omega)]) (by rw [upM_ne (by omega), upM_ne (by omega), r2.2 _ (by omega)]) (by rw [upM_ne (by omega), upM_ne (by omega), r2.2 _ (by omega)])
  have hheld : ∀ v, (if (8 : Int32) < ((upM N1 26 2 v).1 26 1 + 1) then 8 else ((upM N1 26 2 v).1 26 1 + 1)) = nI ((a :: pa).take 8).length := by
    intro v
    rw [upM_nk (by decide), q1, take_len e2 (by omega)]
    exact heldI (c := 8) e2 (by omega)
  have i0 : inR (M.1 26 2) 8 := by rw [e4]; exact inR_nI e3 (by omega)
  have i1 : [28, 32, 36, 40, 44, 48, 52, 56][(M.1 26 2).toNatClampNeg]? = some (28 + 4 * nx) := by rw [e4, clampI (by omega)]; exact y1
  by_cases hx : 8 ≤ nx + 1
  · obtain ⟨z1, z2⟩ := fin 0 (by omega)
    refine ⟨_, ?_, z1, z2⟩
    refine b35p_0_0 acc18 i0 i1 y2 r1 (by rw [q2, nI_1]; exact nI_le hx (by omega)) rfl ?_
    rw [hheld]
    rfl
  · obtain ⟨z1, z2⟩ := fin (nx + 1) (by omega)
    refine ⟨_, ?_, z1, z2⟩
    refine b35p_0_1 acc18 i0 i1 y2 r1 (by rw [q2, nI_1, show (8 : Int32) = nI 8 from rfl, nI_leI (by omega) (by omega)]; exact hx) rfl ?_
    rw [hheld, q2, nI_1]
theorem s35k (hp : cSh 60 62 2 pa M) (ha : acAt 18 a M) : ∃ M', Rm E 35 0 [vr 60, vr 18] [] M none M' ∧ eqR 60 69 M M' ∧ cSh 60 62 2 ((a :: pa).take 2) M' := by
  obtain ⟨e1, e2, nx, e3, e4, e5⟩ := hp
  obtain ⟨y1, y2⟩ := kept_y nx e3
  obtain ⟨N1, r1, r2, r3⟩ := s3 (E := E) y2 acc18 (by omega) ha
  have h26 : N1.1 60 = M.1 60 := r2.2 60 (by omega)
  have q2 : N1.1 60 2 = nI nx := by rw [h26]; exact e4
  have q1 : N1.1 60 1 = nI pa.length := by rw [h26]; exact e1
  have fin : ∀ (nx' : Nat), nx' = (nx + 1) % 2 → eqR 60 69 M (upM (upM N1 60 2 (nI nx')) 60 1 (nI ((a :: pa).take 2).length)) ∧ cSh 60 62 2 ((a :: pa).take 2) (upM (upM N1 60 2 (nI nx')) 60 1 (nI ((a :: pa).take 2).length)) := by
    intro nx' hnx
    have hr : eqR 60 69 M N1 := ⟨r2.1, fun c hc => r2.2 c (by omega)⟩
    refine ⟨(hr.up (by omega) (by omega)).up (by omega) (by omega), upM_eq, by rw [List.length_take]; omega, nx', by omega, by rw [upM_nk (by decide), upM_eq], ?_⟩
    subst hnx
    refine push_math e3 e5 ?_ (fun i hi hne b hb => ?_)
    · exact r3.cg (by rw [upM_ne (by omega), upM_ne (by omega)]) (by rw [upM_ne (by omega), upM_ne (by omega)]) (by rw [upM_ne (by omega), upM_ne (by omega)])
    · exact hb.cg (by rw [upM_ne (by omega), upM_ne (by omega), r2.2 _ (by omega)]) (by rw [upM_ne (by omega), upM_ne (by omega), r2.2 _ (by omega)]) (by rw [upM_ne (by omega), upM_ne (by omega), r2.2 _ (by omega)])
  have hheld : ∀ v, (if (2 : Int32) < ((upM N1 60 2 v).1 60 1 + 1) then 2 else ((upM N1 60 2 v).1 60 1 + 1)) = nI ((a :: pa).take 2).length := by
    intro v
    rw [upM_nk (by decide), q1, take_len e2 (by omega)]
    exact heldI (c := 2) e2 (by omega)
  have i0 : inR (M.1 60 2) 2 := by rw [e4]; exact inR_nI e3 (by omega)
  have i1 : [62, 66][(M.1 60 2).toNatClampNeg]? = some (62 + 4 * nx) := by rw [e4, clampI (by omega)]; exact y1
  by_cases hx : 2 ≤ nx + 1
  · obtain ⟨z1, z2⟩ := fin 0 (by omega)
    refine ⟨_, ?_, z1, z2⟩
    refine b35k_0_0 acc18 i0 i1 y2 r1 (by rw [q2, nI_1]; exact nI_le hx (by omega)) rfl ?_
    rw [hheld]
    rfl
  · obtain ⟨z1, z2⟩ := fin (nx + 1) (by omega)
    refine ⟨_, ?_, z1, z2⟩
    refine b35k_0_1 acc18 i0 i1 y2 r1 (by rw [q2, nI_1, show (2 : Int32) = nI 2 from rfl, nI_leI (by omega) (by omega)]; exact hx) rfl ?_
    rw [hheld, q2, nI_1]
theorem s36p0 (hp : cSh 26 28 8 [] M) : Rm E 36 0 [vr 26, vr 18] [] M (some (.int 0)) M := b36p_0_2 acc18 (by rw [hp.1]; decide)
theorem s36k0 (hp : cSh 60 62 2 [] M) : Rm E 36 0 [vr 60, vr 18] [] M (some (.int 0)) M := b36k_0_2 acc18 (by rw [hp.1]; decide)
/-- pop -/
theorem s36p (hp : cSh 26 28 8 (a :: pa) M) : ∃ M', Rm E 36 0 [vr 26, vr 18] [] M (some (.int 1)) M' ∧ M'.2 = M.2 ∧ (∀ c, c ≠ 26 → (c < 19 ∨ 21 < c) → M'.1 c = M.1 c) ∧ acAt 18 a M' ∧ cSh 26 28 8 pa M' := by
  obtain ⟨e1, e2, nx, e3, e4, e5⟩ := hp
  rw [List.length_cons] at e1 e2
  obtain ⟨p1, p2⟩ := pop_math e3 e5 (by omega)
  have key : ∀ nx', nx' = (nx + 8 - 1) % 8 → ∃ N3, Rm E 3 0 [vr 18, vr (28 + 4 * nx')] [] (upM (upM M 26 2 (nI nx')) 26 1 (nI pa.length)) none N3 ∧ N3.2 = M.2 ∧ (∀ c, c ≠ 26 → (c < 19 ∨ 21 < c) → N3.1 c = M.1 c) ∧ acAt 18 a N3 ∧ cSh 26 28 8 pa N3 := by
    intro nx' hnx
    have hnx8 : nx' < 8 := by omega
    subst hnx
    obtain ⟨N3, r1, r2, r3⟩ := s3 (E := E) (M := upM (upM M 26 2 (nI ((nx + 8 - 1) % 8))) 26 1 (nI pa.length)) (x := a) acc18 (past_y _ hnx8).2 (by omega) (p1.cg (by rw [upM_ne (by omega), upM_ne (by omega)]) (by rw [upM_ne (by omega), upM_ne (by omega)]) (by rw [upM_ne (by omega), upM_ne (by omega)]))
    refine ⟨N3, r1, r2.1, fun c hc hc2 => by rw [r2.2 c (by omega), upM_ne hc, upM_ne hc], r3, by rw [r2.2 26 (by omega)]; exact upM_eq, by omega, (nx + 8 - 1) % 8, hnx8, by rw [r2.2 26 (by omega), upM_nk (by decide)]; exact upM_eq, fun j b hj => ?_⟩
    have hm := Nat.mod_lt ((nx + 8 - 1) % 8 + 8 - 1 - j) (show 0 < 8 by omega)
    exact (p2 j b hj).cg (by rw [r2.2 _ (by omega), upM_ne (by omega), upM_ne (by omega)]) (by rw [r2.2 _ (by omega), upM_ne (by omega), upM_ne (by omega)]) (by rw [r2.2 _ (by omega), upM_ne (by omega), upM_ne (by omega)])
  have h0 : 0 < M.1 26 1 := by rw [e1, show (0 : Int32) = nI 0 from rfl]; exact nI_lt (by omega) (by omega)
  have hh : ∀ v, (upM M 26 2 v).1 26 1 - 1 = nI pa.length := fun v => by rw [upM_nk (by decide), e1, nI_pred]
  by_cases hx : nx = 0
  · obtain ⟨N3, r1, r2⟩ := key 7 (by omega)
    refine ⟨N3, ?_, r2⟩
    refine b36p_0_0 (N1 := upM M 26 2 (nI 7)) (N2 := upM (upM M 26 2 (nI 7)) 26 1 (nI pa.length)) (y1 := 28 + 4 * 7) acc18 h0 (by rw [e4, hx]; decide) rfl (by rw [hh]) (by rw [upM_nk (by decide), upM_eq]; exact inR_nI (by omega) (by omega)) (by rw [upM_nk (by decide), upM_eq, clampI (by omega)]; rfl) (past_y 7 (by omega)).2 r1
  · obtain ⟨N3, r1, r2⟩ := key (nx - 1) (by omega)
    have e6 : M.1 26 2 - 1 = nI (nx - 1) := by rw [e4, show nx = (nx - 1) + 1 by omega, nI_pred]; congr 1
    refine ⟨N3, ?_, r2⟩
    refine b36p_0_1 (N1 := upM M 26 2 (nI (nx - 1))) (N2 := upM (upM M 26 2 (nI (nx - 1))) 26 1 (nI pa.length)) (y1 := 28 + 4 * (nx - 1)) acc18 h0 (by rw [e4, show (0 : Int32) = nI 0 from rfl, nI_leI (by omega) (by omega)]; omega) (by rw [e6]) (by rw [hh]) (by rw [upM_nk (by decide), upM_eq]; exact inR_nI (by omega) (by omega)) (by rw [upM_nk (by decide), upM_eq, clampI (by omega)]; exact (past_y _ (by omega)).1) (past_y _ (by omega)).2 r1
theorem s36k (hp : cSh 60 62 2 (a :: pa) M) : ∃ M', Rm E 36 0 [vr 60, vr 18] [] M (some (.int 1)) M' ∧ M'.2 = M.2 ∧ (∀ c, c ≠ 60 → (c < 19 ∨ 21 < c) → M'.1 c = M.1 c) ∧ acAt 18 a M' ∧ cSh 60 62 2 pa M' := by
  obtain ⟨e1, e2, nx, e3, e4, e5⟩ := hp
  rw [List.length_cons] at e1 e2
  obtain ⟨p1, p2⟩ := pop_math e3 e5 (by omega)
  have key : ∀ nx', nx' = (nx + 2 - 1) % 2 → ∃ N3, Rm E 3 0 [vr 18, vr (62 + 4 * nx')] [] (upM (upM M 60 2 (nI nx')) 60 1 (nI pa.length)) none N3 ∧ N3.2 = M.2 ∧ (∀ c, c ≠ 60 → (c < 19 ∨ 21 < c) → N3.1 c = M.1 c) ∧ acAt 18 a N3 ∧ cSh 60 62 2 pa N3 := by
    intro nx' hnx
    have hnx8 : nx' < 2 := by omega
    subst hnx
    obtain ⟨N3, r1, r2, r3⟩ := s3 (E := E) (M := upM (upM M 60 2 (nI ((nx + 2 - 1) % 2))) 60 1 (nI pa.length)) (x := a) acc18 (kept_y _ hnx8).2 (by omega) (p1.cg (by rw [upM_ne (by omega), upM_ne (by omega)]) (by rw [upM_ne (by omega), upM_ne (by omega)]) (by rw [upM_ne (by omega), upM_ne (by omega)]))
    refine ⟨N3, r1, r2.1, fun c hc hc2 => by rw [r2.2 c (by omega), upM_ne hc, upM_ne hc], r3, by rw [r2.2 60 (by omega)]; exact upM_eq, by omega, (nx + 2 - 1) % 2, hnx8, by rw [r2.2 60 (by omega), upM_nk (by decide)]; exact upM_eq, fun j b hj => ?_⟩
    have hm := Nat.mod_lt ((nx + 2 - 1) % 2 + 2 - 1 - j) (show 0 < 2 by omega)
    exact (p2 j b hj).cg (by rw [r2.2 _ (by omega), upM_ne (by omega), upM_ne (by omega)]) (by rw [r2.2 _ (by omega), upM_ne (by omega), upM_ne (by omega)]) (by rw [r2.2 _ (by omega), upM_ne (by omega), upM_ne (by omega)])
  have h0 : 0 < M.1 60 1 := by rw [e1, show (0 : Int32) = nI 0 from rfl]; exact nI_lt (by omega) (by omega)
  have hh : ∀ v, (upM M 60 2 v).1 60 1 - 1 = nI pa.length := fun v => by rw [upM_nk (by decide), e1, nI_pred]
  by_cases hx : nx = 0
  · obtain ⟨N3, r1, r2⟩ := key 1 (by omega)
    refine ⟨N3, ?_, r2⟩
    refine b36k_0_0 (N1 := upM M 60 2 (nI 1)) (N2 := upM (upM M 60 2 (nI 1)) 60 1 (nI pa.length)) (y1 := 62 + 4 * 1) acc18 h0 (by rw [e4, hx]; decide) rfl (by rw [hh]) (by rw [upM_nk (by decide), upM_eq]; exact inR_nI (by omega) (by omega)) (by rw [upM_nk (by decide), upM_eq, clampI (by omega)]; rfl) (kept_y 1 (by omega)).2 r1
  · obtain ⟨N3, r1, r2⟩ := key (nx - 1) (by omega)
    have e6 : M.1 60 2 - 1 = nI (nx - 1) := by rw [e4, show nx = (nx - 1) + 1 by omega, nI_pred]; congr 1
    refine ⟨N3, ?_, r2⟩
    refine b36k_0_1 (N1 := upM M 60 2 (nI (nx - 1))) (N2 := upM (upM M 60 2 (nI (nx - 1))) 60 1 (nI pa.length)) (y1 := 62 + 4 * (nx - 1)) acc18 h0 (by rw [e4, show (0 : Int32) = nI 0 from rfl, nI_leI (by omega) (by omega)]; omega) (by rw [e6]) (by rw [hh]) (by rw [upM_nk (by decide), upM_eq]; exact inR_nI (by omega) (by omega)) (by rw [upM_nk (by decide), upM_eq, clampI (by omega)]; exact (kept_y _ (by omega)).1) (kept_y _ (by omega)).2 r1
end SHELF
