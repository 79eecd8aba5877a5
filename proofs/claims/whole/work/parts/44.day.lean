/-! days -/
def drR (a b : Nat) : Nat := (7919 * a + 6151 * b + 1) * (7919 * a + 6151 * b + 1) % 65521
theorem drE {a b : Nat} (ha : a ≤ 9999) (hb : b < 20) : (((((7919 * (nI a).toInt64) + (6151 * (nI b).toInt64)) + 1) * (((7919 * (nI a).toInt64) + (6151 * (nI b).toInt64)) + 1)) - ((((7919 * (nI a).toInt64) + (6151 * (nI b).toInt64)) + 1) * (((7919 * (nI a).toInt64) + (6151 * (nI b).toInt64)) + 1)) / 65521 * 65521).toInt32 = nI (drR a b) := by
  have hX : 7919 * a + 6151 * b + 1 ≤ 80000000 := by omega
  have hXX := Nat.mul_le_mul hX hX
  rw [nI_l (by omega), nI_l (by omega), show (7919 : Int64) = lN 7919 from rfl, show (6151 : Int64) = lN 6151 from rfl, lN_mul, lN_mul, lN_add, lN_1, lN_mul, show (65521 : Int64) = lN 65521 from rfl, pk_lRem (by omega) (by decide) (by decide), lN_i]
  rfl
theorem drR_lt (a b : Nat) : drR a b < 65521 := Nat.mod_lt _ (by decide)
theorem dr_div {r n d : Nat} (hr : r < 65521) (hn0 : 1 ≤ n) (hn : n ≤ 30) (hd0 : 0 < d) (hd : d < 1000) : nI r / nI d - nI r / nI d / nI n * nI n = nI (r / d % n) := by
  rw [pk_div (by omega) hd0 (by omega)]
  exact pk_rem (Nat.lt_of_le_of_lt (Nat.div_le_self r d) (by omega)) (by omega) (by omega)
theorem dr_kd {r : Nat} (hr : r < 65521) : nI r - nI r / 4 * 4 = nI (r % 4) := pk_rem (d := 4) (by omega) (by decide) (by decide)
theorem kd_ok (r : Nat) : 0 ≤ nI (r % 4) ∧ nI (r % 4) ≤ 3 := by
  have h := Nat.mod_lt r (show 0 < 4 by decide)
  exact ⟨nI_pos' (by omega), nI_le (b := 3) (by omega) (by decide)⟩
def xR (r : Nat) : Int32 := nI r / 64 - nI r / 64 / 41 * 41 - 20
def dyW (up : Nat → Nat) (n r : Nat) : List Nat := wy up (r / 4 % n) (r / 256 % n)
def dyF (up : Nat → Nat) (n a : Nat) (s : accs) (b : Nat) : accs := if (dyW up n (drR a b)).all (fun p => okA (adF (s.1 p) (xR (drR a b)) (nI (drR a b % 4)))) then tkA (xR (drR a b)) (nI (drR a b % 4)) (dyW up n (drR a b)) s else s
theorem sk23 : skel[23]? = some (.inl (0, 30)) := rfl
section DAY
variable {tx : List Int32} {n : Nat} {up : Nat → Nat} {t : trf} {ac : accs} {pa ke : List accs} {mk : Nat → Bool} {wa : List wat} {so : Nat} {M N : mem} {E : env} {w : List Nat}
def dyA (t : trf) (y : Int32) (s : accs) : Int32 := (if y = 0 then sumW s.1 (cvL t 0) else maxW s.1 (cvL t 0)) + 1000000
theorem c87 (hw : wfS tx n up t ac pa ke mk wa) (hC : RC tx n up t ac pa ke mk wa so M) {g : accs} (hg : ∀ i, i < 30 → M.1 23 i = g.1 i) {a b : Nat} : ∃ N, Rm E 87 0 [vr 0, vi (nI (drR a b)), vn, vn, vn] [] M none N ∧ keepC M N ∧ hiC M N ∧ ∀ i, i < 30 → N.1 23 i = (dyF up n a g b).1 i := by
  have hn := hw.2.1.2.1
  have hn1 := hw.2.1.1
  have hr := drR_lt a b
  have hif : (if 1 < M.1 9 0 then M.1 9 0 else 1) = nI n := by
    rw [hC.2.1.1]
    by_cases h : n = 1
    · subst h; rfl
    · exact if_pos (nI_lt (a := 1) (by omega) (by omega))
  have h0 : ¬ (if 1 < M.1 9 0 then M.1 9 0 else 1) = 0 := by rw [hif]; intro z; have := (nI_eq (b := 0) (by omega) (by decide)).mp z; omega
  have hu : drR a b / 4 % n < n := Nat.mod_lt _ (by omega)
  have hv : drR a b / 256 % n < n := Nat.mod_lt _ (by omega)
  obtain ⟨K, k1, k2, k5, k6⟩ := s23 (E := E) hw.2.1 hC.2.1 hu hv
  obtain ⟨k3, k4⟩ := rt_kp k2
  have k1' : Rm E 23 0 [vr 70, vr 9, vi ((nI (drR a b) / 4) - (nI (drR a b) / 4) / (if 1 < M.1 9 0 then M.1 9 0 else 1) * (if 1 < M.1 9 0 then M.1 9 0 else 1)), vi ((nI (drR a b) / 256) - (nI (drR a b) / 256) / (if 1 < M.1 9 0 then M.1 9 0 else 1) * (if 1 < M.1 9 0 then M.1 9 0 else 1)), vn, vn, vn, vn] [] M none K := by
    rw [hif, show (4 : Int32) = nI 4 from rfl, show (256 : Int32) = nI 256 from rfl, dr_div hr hn1 hn (by decide) (by decide), dr_div hr hn1 hn (by decide) (by decide)]
    exact k1
  have h23 : K.1 23 = M.1 23 := k2.2 23 (by simp)
  have hall : (dyW up n (drR a b)).all (fun p => okA (adF (K.1 23 p) (xR (drR a b)) (nI (drR a b % 4)))) = (dyW up n (drR a b)).all (fun p => okA (adF (g.1 p) (xR (drR a b)) (nI (drR a b % 4)))) := all_cg (fun p hp => by rw [h23, hg p (rt_mem k5 hp)])
  have c1 : Rm E 31 0 [vr 70, vr 23, vi (((nI (drR a b) / 64) - (nI (drR a b) / 64) / 41 * 41) - 20), vi (nI (drR a b) - nI (drR a b) / 4 * 4), vn] [] K (some (.int (b2 ((dyW up n (drR a b)).all (fun p => okA (adF (g.1 p) (xR (drR a b)) (nI (drR a b % 4)))))))) K := by
    rw [dr_kd hr, ← hall]
    exact s31 sk23 k5 (kd_ok (drR a b))
  cases hb : (dyW up n (drR a b)).all (fun p => okA (adF (g.1 p) (xR (drR a b)) (nI (drR a b % 4))))
  · refine ⟨K, b87_0_0 h0 h0 k1' c1 (b2_f hb), k3, k4, fun i hi => ?_⟩
    unfold dyF
    rw [hb, h23]
    exact hg i hi
  · have c2 : Rm E 32 0 [vr 70, vr 23, vi (((nI (drR a b) / 64) - (nI (drR a b) / 64) / 41 * 41) - 20), vi (nI (drR a b) - nI (drR a b) / 4 * 4), vn] [] K none (rowM K 23 ((dyW up n (drR a b)).foldl (tkF (xR (drR a b)) (nI (drR a b % 4))) (K.1 23))) := by
      rw [dr_kd hr]
      exact s32 sk23 (by decide) (by decide) k5 (kd_ok (drR a b))
    refine ⟨_, b87_0_1 h0 h0 k1' c1 (b2_t hb) c2, fun x hx => (rowM_ne (by omega)).trans (k3 x hx), k4.tr ⟨rfl, fun x hx => rowM_ne (by omega)⟩, fun i hi => ?_⟩
    unfold dyF
    rw [hb, if_pos rfl, rowM_at]
    exact tk_cg _ _ _ (fun p hp => rt_mem k5 hp) (fun i hi => by rw [h23]; exact hg i hi) i hi
theorem c77 (hw : wfS tx n up t ac pa ke mk wa) (hC : RC tx n up t ac pa ke mk wa so M) {a m : Nat} {y : Int32} (ha : a ≤ 9999) (hm : m ≤ 20) (s0 : accs) : ∀ N, keepC M N → hiC M N → (∀ i, i < 30 → N.1 23 i = s0.1 i) → ∃ N', Rm E 77 46 [vr 0, vi (nI a), vi (nI m), vi y, vi 0] [] N (some (.int (dyA t y ((List.range m).foldl (dyF up n a) s0)))) N' ∧ keepC M N' ∧ hiC M N' := by
  refine foldN m (dyF up n a) (fun s k fin => ∀ N, keepC M N → hiC M N → (∀ i, i < 30 → N.1 23 i = s.1 i) → ∃ N', Rm E 77 46 [vr 0, vi (nI a), vi (nI m), vi y, vi (nI k)] [] N (some (.int (dyA t y fin))) N' ∧ keepC M N' ∧ hiC M N') (fun s N g1 g2 g3 => ?_) (fun s k fin hk ih N g1 g2 g3 => ?_) s0
  · have hN := hC.kp g1
    obtain ⟨K, k1, k2, k5⟩ := s24 (E := E) hw.2.1 hN.2.1 hw.2.1.1
    obtain ⟨k3, k4⟩ := rt_kp k2
    have e23 : ∀ p ∈ cvL t 0, K.1 23 p = s.1 p := fun p hp => by rw [k2.2 23 (by simp)]; exact g3 p (rt_mem k5 hp)
    have kk : keepC M K := fun x hx => (k3 x hx).trans (g1 x hx)
    have hx : nI m ≤ nI m := nI_le (Nat.le_refl _) (by omega)
    unfold dyA
    by_cases hy : y = 0
    · rw [if_pos hy, ← sumW_cg e23]
      exact ⟨K, b77_46_1 hx k1 (fun z => z hy) (s26 sk23 k5), kk, g2.tr k4⟩
    · rw [if_neg hy, ← maxW_cg e23]
      exact ⟨K, b77_46_0 hx k1 hy (s27 sk23 k5), kk, g2.tr k4⟩
  · obtain ⟨K, k1, k2, k3, k4⟩ := c87 (E := E) hw (hC.kp g1) g3 (a := a) (b := k)
    obtain ⟨N', r1, r2⟩ := ih K (fun x hx => (k2 x hx).trans (g1 x hx)) (g2.tr k3) k4
    refine ⟨N', b77_46_2 (c1 := nI (drR a k)) (by rw [nI_leI (by omega) (by omega)]; omega) (by rw [← drE ha (show k < 20 by omega)]; exact b86_0_0) k1 ?_, r2⟩
    rw [nI_1]
    exact r1
theorem m199 {y : Int32} {g : Nat → Int32} : ∀ d j (N : mem), 30 - j = d → j ≤ 30 → eqM [84] [] M N → (∀ i, i < 30 → M.1 96 i = g i) → (∀ i, i < j → N.1 84 i = g i) → (∀ i, 30 ≤ i → N.1 84 i = M.1 84 i) → ∃ N', Rm E 140 199 [vr 83, vn, vn, vn, vi y, vi (nI j), vn, vn, vn] [] N (some (.int y)) N' ∧ eqM [84] [] M N' ∧ (∀ i, i < 30 → N'.1 84 i = g i) ∧ ∀ i, 30 ≤ i → N'.1 84 i = M.1 84 i := by
  intro d
  induction d with
  | zero =>
    intro j N hd hj he hg h1 h2
    obtain rfl : j = 30 := by omega
    exact ⟨N, b140_199_0 (by decide), he, h1, h2⟩
  | succ d ih =>
    intro j N hd hj he hg h1 h2
    obtain ⟨N', r1, r2⟩ := ih (j + 1) (upM N 84 j (g j)) (by omega) (by omega) (he.up (by simp) (by decide)) hg (fun i hi => by
      by_cases hij : i = j
      · rw [hij, upM_eq]
      · rw [upM_nk hij]; exact h1 i (by omega)) (fun i hi => by rw [upM_nk (by omega)]; exact h2 i hi)
    refine ⟨N', ?_, r2⟩
    refine b140_199_1 (by rw [show (30 : Int32) = nI 30 from rfl, nI_leI (by omega) (by omega)]; omega) (inR_nI (by omega) (by omega)) (inR_nI (by omega) (by omega)) rfl ?_
    rw [clampI (by omega), he.off (a := 96) (by simp) (by decide), hg j (by omega), nI_1]
    exact r1
theorem m39 {rv : Option Value} {Q : mem → Prop} {x1 x2 x3 : Int32} (k : ∀ N', eqM [96] [] M N' → (∀ i, i < 30 → N'.1 96 i = M.1 84 i) → ∃ N2, Rm E 140 69 [vr 83, vi x1, vi x2, vi x3, vi 0, vn, vn, vn, vn] [] N' rv N2 ∧ Q N2) : ∀ d j (N : mem), 30 - j = d → j ≤ 30 → eqM [96] [] M N → (∀ i, i < j → N.1 96 i = M.1 84 i) → ∃ N2, Rm E 140 39 [vr 83, vi x1, vi x2, vi x3, vi (nI j), vn, vn, vn, vn] [] N rv N2 ∧ Q N2 := by
  intro d
  induction d with
  | zero =>
    intro j N hd hj he h1
    obtain rfl : j = 30 := by omega
    obtain ⟨N2, r1, r2⟩ := k N he h1
    exact ⟨N2, b140_39_0 (by decide) r1, r2⟩
  | succ d ih =>
    intro j N hd hj he h1
    obtain ⟨N', r1, r2⟩ := ih (j + 1) (upM N 96 j (M.1 84 j)) (by omega) (by omega) (he.up (by simp) (by decide)) (fun i hi => by
      by_cases hij : i = j
      · rw [hij, upM_eq]
      · rw [upM_nk hij]; exact h1 i (by omega))
    refine ⟨N', ?_, r2⟩
    refine b140_39_1 (by rw [show (30 : Int32) = nI 30 from rfl, nI_leI (by omega) (by omega)]; omega) (inR_nI (by omega) (by omega)) (inR_nI (by omega) (by omega)) rfl ?_
    rw [clampI (by omega), he.off (a := 84) (by simp) (by decide), nI_1]
    exact r1
theorem dyF_2 {a : Nat} {s : accs} {b : Nat} : (dyF up n a s b).2 = s.2 := by
  unfold dyF
  split <;> rfl
theorem dyF_ok (hU : upOk n up) (hn : 1 ≤ n) {a : Nat} {s : accs} {b : Nat} (h : acOk s) : acOk (dyF up n a s b) := by
  unfold dyF
  split
  · rename_i hall
    exact tkA_ok h (way_le hU _ _ (Nat.mod_lt _ (by omega)) (Nat.mod_lt _ (by omega))).2.1 hall
  · exact h
theorem m69 (hw : wfS tx n up t ac pa ke mk wa) {a m : Nat} {y : Int32} (ha : a ≤ 9999) (hm : m ≤ 20) (s0 : accs) : ∀ N, RM tx n up t s0 pa ke mk wa so N → acOk s0 → s0.2 = ac.2 → (∀ i, i < 30 → N.1 96 i = ac.1 i) → loM M N → ∃ N', Rm E 140 69 [vr 83, vi (nI a), vi (nI m), vi y, vi 0, vn, vn, vn, vn] [] N (some (.int (dyA t y ((List.range m).foldl (dyF up n a) s0)))) N' ∧ RM tx n up t ac pa ke mk wa so N' ∧ loM M N' := by
  have hn := hw.2.1.2.1
  have hn1 := hw.2.1.1
  have hws : ∀ {s : accs}, acOk s → wfS tx n up t s pa ke mk wa := fun h => ⟨hw.1, hw.2.1, hw.2.2.1, h, hw.2.2.2.2⟩
  refine foldN m (dyF up n a) (fun s k fin => ∀ N, RM tx n up t s pa ke mk wa so N → acOk s → s.2 = ac.2 → (∀ i, i < 30 → N.1 96 i = ac.1 i) → loM M N → ∃ N', Rm E 140 69 [vr 83, vi (nI a), vi (nI m), vi y, vi (nI k), vn, vn, vn, vn] [] N (some (.int (dyA t y fin))) N' ∧ RM tx n up t ac pa ke mk wa so N' ∧ loM M N') (fun s N hN hok hs2 h96 hlo => ?_) (fun s k fin hk ih N hN hok hs2 h96 hlo => ?_) s0
  · obtain ⟨K, k1, k2, k5⟩ := s106 (E := E) hw.2.1 hN.2.1 hw.2.1.1
    obtain ⟨k3, k4⟩ := wa_kp1 k2
    have hK := hN.kp k3
    have hl := (cvL_n hw.2.1 hw.2.1.1).2.2.2
    have hx : nI m ≤ nI m := nI_le (Nat.le_refl _) (by omega)
    have hloK : loM M K := hlo.tr k4
    have fin : ∀ N', eqM [84] [] K N' → (∀ i, i < 30 → N'.1 84 i = ac.1 i) → (∀ i, 30 ≤ i → N'.1 84 i = K.1 84 i) → RM tx n up t ac pa ke mk wa so N' ∧ loM M N' := by
      intro N' e1 e2 e3
      refine ⟨hK.gen e1.1 (fun x hx => e1.off (by simp; omega) (by omega)) (fun x hx => e1.2.2 x (by simp)) (fun i hi => ⟨?_, ?_, ?_⟩) (hK.2.2.2.1.cg (e1.2.2 _ (by simp)) (e1.off (by simp) (by simp))) (hK.2.2.2.2.1.cg (e1.2.2 _ (by simp)) (e1.off (by simp) (by simp))), hloK.tr (fun x hx => e1.off (by simp; omega) (by omega))⟩
      · rw [Nat.zero_add]; exact e2 i hi
      · rw [e3 _ (by omega), (hK.2.2.1 i hi).2.1, hs2]
      · rw [e3 _ (by omega), (hK.2.2.1 i hi).2.2, hs2]
    have h96K : ∀ i, i < 30 → K.1 96 i = ac.1 i := fun i hi => by rw [k2.off (a := 96) (by simp) (by simp)]; exact h96 i hi
    unfold dyA
    by_cases hy : y = 0
    · rw [if_pos hy]
      obtain ⟨N', r1, r2, r3, r4⟩ := m199 (E := E) (y := sumW s.1 (cvL t 0) + 1000000) 30 0 K rfl (by omega) eqM.rf h96K (fun i hi => by omega) (fun _ _ => rfl)
      exact ⟨N', b140_69_1 hx k1 (fun z => z hy) (mSum hK k5) r1, fin N' r2 r3 r4⟩
    · rw [if_neg hy]
      obtain ⟨N', r1, r2, r3, r4⟩ := m199 (E := E) (y := maxW s.1 (cvL t 0) + 1000000) 30 0 K rfl (by omega) eqM.rf h96K (fun i hi => by omega) (fun _ _ => rfl)
      exact ⟨N', b140_69_0 hx k1 hy (mMax (hws hok) hK k5 hl) r1, fin N' r2 r3 r4⟩
  · have hr := drR_lt a k
    have hk20 : k < 20 := by omega
    have hu : drR a k / 4 % n < n := Nat.mod_lt _ (by omega)
    have hv : drR a k / 256 % n < n := Nat.mod_lt _ (by omega)
    obtain ⟨K, k1, k2, k5, k6⟩ := s105 (E := E) hw.2.1 hN.2.1 hu hv
    obtain ⟨k3, k4⟩ := wa_kp k2
    have hK := hN.kp k3
    have h83 : ¬ N.1 83 1 = 0 := by rw [hN.2.1.1]; intro z; have := (nI_eq (b := 0) (by omega) (by decide)).mp z; omega
    have h0 : ¬ (nI m ≤ nI k) := by rw [nI_leI (by omega) (by omega)]; omega
    have h96K : ∀ i, i < 30 → K.1 96 i = ac.1 i := fun i hi => by rw [k2.off (a := 96) (by simp) (by simp)]; exact h96 i hi
    have k1' : Rm E 105 0 [vr 83, vi (nI (drR a k) / 4 - nI (drR a k) / 4 / N.1 83 1 * N.1 83 1), vi (nI (drR a k) / 256 - nI (drR a k) / 256 / N.1 83 1 * N.1 83 1), vn, vn, vn, vn] [] N none K := by
      rw [hN.2.1.1, show (4 : Int32) = nI 4 from rfl, show (256 : Int32) = nI 256 from rfl, dr_div hr hn1 hn (by decide) (by decide), dr_div hr hn1 hn (by decide) (by decide)]
      exact k1
    have c1 : Rm E 119 0 [vr 83, vi (nI (drR a k) / 64 - nI (drR a k) / 64 / 41 * 41 - 20), vi (nI (drR a k) - nI (drR a k) / 4 * 4), vn, vn] [] K (some (.int (b2 ((dyW up n (drR a k)).all (fun p => okA (adF (s.1 p) (xR (drR a k)) (nI (drR a k % 4)))))))) K := by
      rw [dr_kd hr]
      exact mMay hK k5 (kd_ok (drR a k))
    cases hb : (dyW up n (drR a k)).all (fun p => okA (adF (s.1 p) (xR (drR a k)) (nI (drR a k % 4))))
    · have e : dyF up n a s k = s := by unfold dyF; rw [hb]; rfl
      rw [e] at ih
      obtain ⟨N', r1, r2⟩ := ih K hK hok hs2 h96K (hlo.tr k4)
      refine ⟨N', b140_69_2 h0 h83 h83 (by rw [drE ha hk20]; exact k1') (by rw [drE ha hk20]; exact c1) (b2_f hb) ?_, r2⟩
      rw [nI_1]
      exact r1
    · have e : dyF up n a s k = tkA (xR (drR a k)) (nI (drR a k % 4)) (dyW up n (drR a k)) s := by unfold dyF; rw [hb]; rfl
      rw [e] at ih
      obtain ⟨J, j1, j2, j3⟩ := mTake (E := E) (x := xR (drR a k)) hK k5 (kd_ok (drR a k))
      have c2 : Rm E 120 0 [vr 83, vi (nI (drR a k) / 64 - nI (drR a k) / 64 / 41 * 41 - 20), vi (nI (drR a k) - nI (drR a k) / 4 * 4), vn] [] K none J := by
        rw [dr_kd hr]
        exact j1
      obtain ⟨N', r1, r2⟩ := ih J j3 (by rw [← e]; exact dyF_ok hw.2.1.2.2.1 hn1 hok) (by rw [← e, dyF_2]; exact hs2) (fun i hi => by rw [j2.off (a := 96) (by simp) (by simp)]; exact h96K i hi) ((hlo.tr k4).tr (fun x hx => j2.off (by simp; omega) (by omega)))
      refine ⟨N', b140_69_3 h0 h83 h83 (by rw [drE ha hk20]; exact k1') (by rw [drE ha hk20]; exact c1) (b2_t hb) (by rw [drE ha hk20]; exact c2) ?_, r2⟩
      rw [nI_1]
      exact r1
theorem in_n {x lo hi : Int32} {m : Nat} (h : lo ≤ x ∧ x ≤ hi) (hlo : 0 ≤ lo.toInt) (hhi : hi.toInt < m) (hm : m < 2 ^ 31) : ∃ j, j < m ∧ x = nI j := by
  rcases pk_ix x hm with h1 | h1 | h1
  · have h2 := Int32.le_iff_toInt_le.mp h.1
    have h3 := Int32.lt_iff_toInt_lt.mp h1
    have e0 : (0 : Int32).toInt = 0 := rfl
    omega
  · have h2 := Int32.le_iff_toInt_le.mp h.2
    have h3 := Int32.le_iff_toInt_le.mp h1
    rw [nI_toInt hm] at h3
    omega
  · exact h1
theorem acc22 : accA 22 := by unfold accA; decide
theorem op_day (hI : InvB M) {x y z : Int32} : Op2 E 77 140 [vr 0, vi x, vi y, vi z, vn] [vr 83, vi x, vi y, vi z, vn, vn, vn, vn, vn] M := by
  obtain ⟨tx, n, up, t, ac, pa, ke, mk, wa, so, hw, hC, hM⟩ := hI
  have inx : ∀ {N1 : mem}, Rm E 88 0 [vl x.toInt64, vn, vl 0, vn, vl 9999, vn] [] N1 (some (.int (b01 (0 ≤ x ∧ x ≤ 9999)))) N1 := fun {N1} => s88i (y := 0) (z := 9999) rfl rfl
  have iny : ∀ {N1 : mem}, Rm E 88 0 [vl y.toInt64, vn, vl 1, vn, vl 20, vn] [] N1 (some (.int (b01 (1 ≤ y ∧ y ≤ 20)))) N1 := fun {N1} => s88i (y := 1) (z := 20) rfl rfl
  have inz : ∀ {N1 : mem}, Rm E 88 0 [vl z.toInt64, vn, vl 0, vn, vl 1, vn] [] N1 (some (.int (b01 (0 ≤ z ∧ z ≤ 1)))) N1 := fun {N1} => s88i (y := 0) (z := 1) rfl rfl
  by_cases hx : 0 ≤ x ∧ x ≤ 9999
  · by_cases hy : 1 ≤ y ∧ y ≤ 20
    · by_cases hz : 0 ≤ z ∧ z ≤ 1
      · obtain ⟨a, ha, rfl⟩ := in_n (m := 10000) hx (by decide) (by decide) (by decide)
        obtain ⟨m, hm, rfl⟩ := in_n (m := 21) hy (by decide) (by decide) (by decide)
        refine mkOp (so' := so) (c := dyA t z ((List.range m).foldl (dyF up n a) ac)) hM hw ?_ (fun N1 hN => ?_)
        · obtain ⟨K, k1, k2, k3⟩ := s3 (E := E) acc22 acc18 (by decide) hC.2.2.1
          obtain ⟨N', r1, r2, r3⟩ := c77 (E := E) (y := z) hw hC (show a ≤ 9999 by omega) (show m ≤ 20 by omega) ac K (fun b hb => k2.2 b (by omega)) ⟨k2.1, fun b hb => k2.2 b (by omega)⟩ (fun i hi => (k3 i hi).1)
          exact ⟨N', b77_0_2 s81 (b01_n hx) s81 (b01_n hy) s81 (b01_n hz) k1 r1, hC.kp r2, r3⟩
        · obtain ⟨N', r1, r2, r3⟩ := m39 (E := E) (M := N1) (x1 := nI a) (x2 := nI m) (x3 := z) (rv := some (.int (dyA t z ((List.range m).foldl (dyF up n a) ac)))) (Q := fun N2 => RM tx n up t ac pa ke mk wa so N2 ∧ loM N1 N2) (fun N' e1 e2 => by
            obtain ⟨e3, e4⟩ := e1.kpM (by simp) (by simp)
            exact m69 (E := E) hw (show a ≤ 9999 by omega) (show m ≤ 20 by omega) ac N' (hN.kp e3) hw.2.2.2.1 rfl (fun i hi => by rw [e2 i hi]; exact mAm hN hi) e4) 30 0 N1 rfl (by omega) eqM.rf (fun i hi => by omega)
          exact ⟨N', b140_0_2 inx (b01_n hx) iny (b01_n hy) inz (b01_n hz) r1, r2, r3⟩
      · exact mkRd0 hw hC hM (b77_0_3 s81 (b01_n hx) s81 (b01_n hy) s81 (fun q => q (b01_0.mpr hz))) (fun N1 hN => b140_0_3 inx (b01_n hx) iny (b01_n hy) inz (fun q => q (b01_0.mpr hz)))
    · exact mkRd0 hw hC hM (b77_0_1 s81 (b01_n hx) s81 (b01_0.mpr hy)) (fun N1 hN => b140_0_1 inx (b01_n hx) iny (b01_0.mpr hy))
  · exact mkRd0 hw hC hM (b77_0_0 s81 (b01_0.mpr hx)) (fun N1 hN => b140_0_0 inx (b01_0.mpr hx))
end DAY
