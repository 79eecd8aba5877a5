/-! THE CLAIM OUT OF ONE WALK OF THE LAW'S BODY. Your part is whole_start (and what it stands on); all else here is the same for every law, but numbers. -/
def R_law : String := "HeavyChainsLaw"
def lw_P (b : Addr) (xs : List Int32) (args : Array Value) (s : State) : Prop := args = #[.ref b] ∧ s.IntsAt b xs ∧ xs.length ≤ 2560 ∧ (Jvm.Cond.and given_1 narrow_1).before args s = true
def lw_Q (_ : Array Value) (s : State) (o : Outcome) (t : State) : Prop := o = .returned (some (.int 1)) ∧ Framed s o t [] 600000 7302250
def lw_Z (below : List Frame) (a : Array Value) (s : State) : State → Prop := fun t => ∃ o, t.status = .running ∧ Ended t below o ∧ lw_Q a s o t
/-- the law's own end, with 1 on the stack, nothing written that was there before, its room as the claim has it -/
theorem lw_ret {p : Program} {l : Launch} {e : Env} {s : State} {m : MethodId} {below : List Frame} {meth : Method} {c : Code} {b : Nat} (hx : p.tables.exec = Jvm.exec) (hb : c.code = code) (hr : meth.sig.returnType = ret) (hlocks : meth.locks = false) {pc : Nat} {H : Heap} {ls : Array Slot} (hdg : decode code pc = .ok (.ireturn, 1)) : W p l e room_1 s m #[Value.ref b] below meth c H [] 600000 7302250 (lw_Z below #[Value.ref b] s) (F0 m pc ls [.int 1]) := by
  intro T hT X
  obtain ⟨fs, hret, hrun, hended, hW, hframe⟩ := X.leave (v := some (.int 1)) (hlocks := hlocks) (fun h => by rw [hr] at h; cases h)
  have hmeth' : T.vm.method? m = some meth := X.method'
  refine ⟨T.setFrames fs, ?_, .returned (some (.int 1)), hrun, hended, rfl, ⟨_, rfl⟩, hW, hframe⟩
  jvm_step X.here [X.here.top, hx, hb, hdg, hmeth', hr, ret, narrow_b1]
  (try refine ⟨rfl, ?_⟩); (try refine ⟨rfl, ?_⟩)
  first | (intro acts; rw [hret _ acts rfl rfl rfl]) | rw [hret _ _ rfl rfl rfl]
  exact Steps.refl _
/-- what holds at the law's entry: the machine, the code, the tables' words (any of lw_tbl by 'hts w (by decide +kernel)'), the script of L ints xs at the cell b, what the Statement gives of the start (any of its parts by flat_of_before) -/
def lw_At (p : Program) (s : State) (m : MethodId) (meth : Method) (c : Code) (b L : Nat) (xs : Nat → Int32) : Prop :=
  p.tables.exec = Jvm.exec ∧ c.code = code ∧ meth.sig.returnType = ret ∧ c.maxLocals = 4 ∧ s.vm.findClass R_law = some m.cls ∧ (∀ w ∈ lw_tbl, w.before #[Value.ref b] s = true) ∧ va_X b L xs s s.heap ∧ b < s.heap.size ∧ meth.locks = false ∧ (Jvm.Cond.and given_1 narrow_1).before #[Value.ref b] s = true
/-- the pure claim: over plain cells the law comes to its end, with 1 -/
def PureAll : Prop := ∀ (L : Nat) (xs : Nat → Int32), L ≤ 2560 → ∃ (n : Nat) (hp : hh), exec L xs n 0 0 [some (.retAddr 0), none, none, none] [] ([], 0) = some (some (.int 1), hp) ∧ hp.1.length ≤ 600000 ∧ hp.2 ≤ 7302250
set_option maxHeartbeats 4000000 in
theorem whole_of (pure_all : PureAll) {p : Program} {e : Env} {s : State} {m : MethodId} {below : List Frame} {meth : Method} {c : Code} (l : Launch) {b L : Nat} {xs : Nat → Int32} (hL : L ≤ 2560) (C0 : lw_At p s m meth c b L xs) : W p l e room_1 s m #[Value.ref b] below meth c s.heap [] 0 0 (lw_Z below #[Value.ref b] s) (entryFrame m ([Value.ref b] : List Value).toArray 4) := by
  obtain ⟨hx, hb, hr, hml, hown, hts, hX, hbl, hlocks, hgv⟩ := id C0
  have hs := flat_of_before _ hgv
  have hA : ∀ a : Nat, a < s.heap.size → ¬ (s.heap.size ≤ a) := fun a h => by omega
  obtain ⟨e0, f0, k0⟩ := u_known (C := cn0) (T := ct0) (N := 3) (n := 3) hts cw0 (hts (.instantiable cn0 3) (List.mem_of_getElem? (i := 85) (by decide +kernel)))
  obtain ⟨e1, f1, k1⟩ := u_known (C := cn1) (T := ct1) (N := 2) (n := 2) hts cw1 (hts (.instantiable cn1 2) (List.mem_of_getElem? (i := 62) (by decide +kernel)))
  obtain ⟨e2, f2, k2⟩ := u_known (C := cn2) (T := ct2) (N := 1) (n := 1) hts cw2 (hts (.instantiable cn2 1) (List.mem_of_getElem? (i := 255) (by decide +kernel)))
  obtain ⟨e3, f3, k3⟩ := u_known (C := cn3) (T := ct3) (N := 3) (n := 3) hts cw3 (hts (.instantiable cn3 3) (List.mem_of_getElem? (i := 79) (by decide +kernel)))
  obtain ⟨e4, f4, k4⟩ := u_known (C := cn4) (T := ct4) (N := 3) (n := 3) hts cw4 (hts (.instantiable cn4 3) (List.mem_of_getElem? (i := 205) (by decide +kernel)))
  obtain ⟨e5, f5, k5⟩ := u_known (C := cn5) (T := ct5) (N := 3) (n := 3) hts cw5 (hts (.instantiable cn5 3) (List.mem_of_getElem? (i := 182) (by decide +kernel)))
  obtain ⟨e6, f6, k6⟩ := u_known (C := cn6) (T := ct6) (N := 6) (n := 6) hts cw6 (hts (.instantiable cn6 6) (List.mem_of_getElem? (i := 226) (by decide +kernel)))
  obtain ⟨e7, f7, k7⟩ := u_known (C := cn7) (T := ct7) (N := 10) (n := 10) hts cw7 (hts (.instantiable cn7 10) (List.mem_of_getElem? (i := 123) (by decide +kernel)))
  obtain ⟨e8, f8, k8⟩ := u_known (C := cn8) (T := ct8) (N := 6) (n := 6) hts cw8 (hts (.instantiable cn8 6) (List.mem_of_getElem? (i := 265) (by decide +kernel)))
  obtain ⟨e9, f9, k9⟩ := u_known (C := cn9) (T := ct9) (N := 11) (n := 11) hts cw9 (hts (.instantiable cn9 11) (List.mem_of_getElem? (i := 54) (by decide +kernel)))
  obtain ⟨e10, f10, k10⟩ := u_known (C := cn10) (T := ct10) (N := 25) (n := 25) hts cw10 (hts (.instantiable cn10 25) (List.mem_of_getElem? (i := 698) (by decide +kernel)))
  obtain ⟨G, hG⟩ : ∃ G : va_G, ∀ (k : Nat) (q : vw_C), classes[k]? = some q → u_Kn s q.1 q.2.1 q.2.2 (G.1 k) (G.2 k) := by
    refine ⟨(fun k => [e0, e1, e2, e3, e4, e5, e6, e7, e8, e9, e10].getD k 0, fun k => [f0, f1, f2, f3, f4, f5, f6, f7, f8, f9, f10].getD k (fun _ => 0)), ?_⟩
    intro k q h
    match k, h with
    | 0, h => cases h; exact k0
    | 1, h => cases h; exact k1
    | 2, h => cases h; exact k2
    | 3, h => cases h; exact k3
    | 4, h => cases h; exact k4
    | 5, h => cases h; exact k5
    | 6, h => cases h; exact k6
    | 7, h => cases h; exact k7
    | 8, h => cases h; exact k8
    | 9, h => cases h; exact k9
    | 10, h => cases h; exact k10
    | k + 11, h => simp [classes] at h
  have hprim : ∀ ty : FieldType, (Cond.arrayClass ty).before #[Value.ref b] s = true → (∀ cA, s.vm.findClass ("[" ++ ty.toString) = some cA → va_RA s cA ty) → ∃ cA : ClassId, ArrOfT s cA ty ∧ va_RA s cA ty := by
    intro ty h h2
    obtain ⟨cA, kA, comp, g1, g2, g3⟩ := Cond.arrayClass_spec h
    exact ⟨cA, fun n z => ⟨fun k h => (by cases h), kA, g2, comp, g3⟩, h2 cA g1⟩
  obtain ⟨cI, tI⟩ := hprim .int (hts _ (List.mem_of_getElem? (i := 108) (by decide +kernel))) (fun _ h => h)
  obtain ⟨cZ, tZ⟩ := hprim .boolean (hts _ (List.mem_of_getElem? (i := 253) (by decide +kernel))) (fun _ h => h)
  obtain ⟨cC, tC⟩ := hprim .char (hts _ (List.mem_of_getElem? (i := 77) (by decide +kernel))) (fun _ h => h)
  have hao : (Cond.arrayOver (.object cn0)).before #[Value.ref b] s = true := hts _ (List.mem_of_getElem? (i := 191) (by decide +kernel))
  obtain ⟨cO, tO⟩ : ∃ cA : ClassId, ArrOfT s cA (.object cn0) ∧ va_RA s cA (.object cn0) := by
    obtain ⟨comp, cA, kA, g1, g2, g3, g4, g5⟩ := Cond.arrayOver_spec hao
    exact ⟨cA, fun n z => ⟨fun k h => (by cases h), kA, g3, comp, g4⟩, kA, comp, g3, g4, g1, g5⟩
  obtain ⟨adK, adV, hstr, hev⟩ := vk_Sof (args := #[Value.ref b]) (s := s) (N := 1) (tm := fun _ => .string hostN 80) (len := [60]) (byt := [sB]) (A := fun q => s.heap.size ≤ q)
    (fun i hi => by obtain rfl : i = 0 := by omega
                    decide)
    (fun i hi => hs _ (by decide +kernel))
    (fun i hi => hs _ (by decide +kernel))
    (fun i hi => hs _ (by decide +kernel))
    (fun i hi => by obtain rfl : i = 0 := by omega
                    exact hs _ (by decide +kernel))
    (fun i hi j hj => by
      obtain rfl : i = 0 := by omega
      have key : ∀ j, j < 60 → (Cond.eq (.elem (.field (.string hostN 80) "java/lang/String" "value" "[B") (.int (Int32.ofNat j))) (.int (([sB].getD 0 []).getD j 0))) ∈ flatC (Jvm.Cond.and given_1 narrow_1) := by decide +kernel
      exact hs _ (key j hj))
    (fun i j hi hj h => by omega) hA
  have hstr0 := hstr.1 0 (by omega)
  have hev0 := hev 0 (by omega)
  have hcs := va_Zof (A := fun q => s.heap.size ≤ q) (hts (.laysStatic "java/lang/String" "COMPACT_STRINGS" "Z") (List.mem_of_getElem? (i := 302) (by decide +kernel))) (hts (.initialized "java/lang/String") (List.mem_of_getElem? (i := 47) (by decide +kernel))) (va_eqi (z := 1) (hs _ (by decide +kernel))) hA
  have hfq := va_Zqof (A := fun q => s.heap.size ≤ q) (hts (.laysStatic "jdk/internal/util/Preconditions" "SIOOBE_FORMATTER" "Ljava/util/function/BiFunction;") (List.mem_of_getElem? (i := 318) (by decide +kernel))) (hts (.initialized "jdk/internal/util/Preconditions") (List.mem_of_getElem? (i := 49) (by decide +kernel))) (hs _ (by decide +kernel)) hA
  obtain ⟨fm, hfm, hfc⟩ : ∃ fm : Value, va_Z "jdk/internal/util/Preconditions" "SIOOBE_FORMATTER" "Ljava/util/function/BiFunction;" fm (fun q => s.heap.size ≤ q) s s.heap ∧ fm.category = 1 := by
    rcases hfq with h | ⟨t, h⟩
    · exact ⟨_, h, rfl⟩
    · exact ⟨_, h, rfl⟩
  let P : prm := (s.heap.size, fun k => if k = 0 then b else if k = 1 then adK 0 else adV 0, fm, fun k => if k = 0 then cI else if k = 1 then cZ else if k = 2 then cC else cO, G, L, xs)
  have hK : va_K (pG P) classes (tys P) s := by
    refine ⟨hG, fun k q h => ?_⟩
    match k, h with
    | 0, h => cases h; exact tI
    | 1, h => cases h; exact tZ
    | 2, h => cases h; exact tC
    | 3, h => cases h; exact tO
    | k + 4, h => simp [tys] at h
  have hnst : ∀ w ∈ nst, va_Nw w s := by
    intro w hw
    obtain ⟨x1, x2, x3, x4, rfl⟩ := nst_form hw
    exact va_Nw.of rfl (hts _ (List.mem_filter.mp hw).1)
  have hsr : (Cond.stringRef hostN 80 fTx).before #[Value.ref b] s = true := hts _ (List.mem_of_getElem? (i := 292) (by decide +kernel))
  have hC : Cst P s s.heap := ⟨hnst, va_AO.of hao, vk_R.of hsr hev0, hcs, hfm, hstr0.1, hstr0.2.1, hstr0.2.2.1, hstr0.2.2.2, hX, hbl⟩
  obtain ⟨n, hp, hex, hp1, hp2⟩ := pure_all L xs hL
  have FX : Fx P mi0 p room_1 s m #[Value.ref b] meth c := ⟨hx, hb, hml, hown, fun w hw => hts w (gtb_in hw), hK, hC, by decide, by decide, fun z => absurd z (by decide), hfc, Nat.le_refl _⟩
  have hl := hasL.entry (P := P) hfc (as := [.retAddr 0]) (n := 4) (by decide)
  rw [lg_entry_eq]
  have hP : va_P (pG P) classes (conc P ([] : List hcel)) s.heap := fun k q h => by simp [conc] at h
  refine sim P l n 0 0 mi0 [some (.retAddr 0), none, none, none] [] ([], 0) hp (some (.int 1)) rfl hex p e room_1 s m #[Value.ref b] below meth c s.heap [] 0 0 (lw_Z below #[Value.ref b] s) _ FX hl hP va_S.rf rfl (by show 0 + (hp.1.length - 0) ≤ 600000; omega) (by show 0 + (hp.2 - 0) ≤ 7302250; omega) ?_
  intro H1 locs1 pc1 lsr1 hret hP1 hS1
  refine va_forget (fun q hq => hS1.2.2 q hq) ?_
  refine W.widen (k := 600000) (n := 7302250) (by show 0 + (hp.1.length - 0) ≤ 600000; omega) (by show 0 + (hp.2 - 0) ≤ 7302250; omega) ?_
  exact lw_ret hx hb hr hlocks hret.2
