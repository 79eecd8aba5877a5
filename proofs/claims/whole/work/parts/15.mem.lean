/-! the cells of the two objects: what is where is fixed, what they hold is a function -/
abbrev scel : Type := (Nat × Nat) ⊕ (List Nat) ⊕ (Nat × List Nat)
abbrev mem : Type := (Nat → Nat → Int32) × Int64
def fvl (M : mem) (a k c : Nat) : Value := match c with
  | 0 => .int (M.1 a k)
  | 1 => .long M.2
  | r + 2 => .ref r
def fvs (M : mem) (a : Nat) : Nat → List Nat → List Value
  | _, [] => []
  | k, c :: r => fvl M a k c :: fvs M a (k + 1) r
def scl (M : mem) (a : Nat) (s : scel) : hcel := match s with
  | .inl q => .inl (q.1, q.2, .inl (M.1 a))
  | .inr (.inl rs) => .inl (3, rs.length, .inr (fun j => rs[j]?))
  | .inr (.inr o) => .inr (o.1, fvs M a 0 o.2)
def encL (M : mem) : Nat → List scel → List hcel
  | _, [] => []
  | a, s :: r => scl M a s :: encL M (a + 1) r
def skel : List scel := [.inr (.inr (9, [3, 5, 11, 20, 24, 28, 62, 72, 74, 78, 80])),
  .inr (.inr (1, [4, 0])),
  .inl (2, 200),
  .inr (.inr (3, [0, 6, 7])),
  .inl (0, 30),
  .inr (.inr (0, [8, 9, 10])),
  .inl (0, 30),
  .inl (0, 30),
  .inl (0, 30),
  .inr (.inr (7, [0, 0, 12, 13, 14, 15, 16, 17, 18, 19])),
  .inl (0, 30),
  .inl (0, 30),
  .inl (0, 30),
  .inl (0, 30),
  .inl (0, 30),
  .inl (0, 30),
  .inl (0, 30),
  .inl (0, 30),
  .inr (.inr (0, [21, 22, 23])),
  .inl (0, 30),
  .inl (0, 30),
  .inl (0, 30),
  .inr (.inr (0, [25, 26, 27])),
  .inl (0, 30),
  .inl (0, 30),
  .inl (0, 30),
  .inr (.inr (5, [29, 0, 0])),
  .inr (.inl [28, 32, 36, 40, 44, 48, 52, 56]),
  .inr (.inr (0, [31, 32, 33])),
  .inl (0, 30),
  .inl (0, 30),
  .inl (0, 30),
  .inr (.inr (0, [35, 36, 37])),
  .inl (0, 30),
  .inl (0, 30),
  .inl (0, 30),
  .inr (.inr (0, [39, 40, 41])),
  .inl (0, 30),
  .inl (0, 30),
  .inl (0, 30),
  .inr (.inr (0, [43, 44, 45])),
  .inl (0, 30),
  .inl (0, 30),
  .inl (0, 30),
  .inr (.inr (0, [47, 48, 49])),
  .inl (0, 30),
  .inl (0, 30),
  .inl (0, 30),
  .inr (.inr (0, [51, 52, 53])),
  .inl (0, 30),
  .inl (0, 30),
  .inl (0, 30),
  .inr (.inr (0, [55, 56, 57])),
  .inl (0, 30),
  .inl (0, 30),
  .inl (0, 30),
  .inr (.inr (0, [59, 60, 61])),
  .inl (0, 30),
  .inl (0, 30),
  .inl (0, 30),
  .inr (.inr (5, [63, 0, 0])),
  .inr (.inl [62, 66]),
  .inr (.inr (0, [65, 66, 67])),
  .inl (0, 30),
  .inl (0, 30),
  .inl (0, 30),
  .inr (.inr (0, [69, 70, 71])),
  .inl (0, 30),
  .inl (0, 30),
  .inl (0, 30),
  .inr (.inr (4, [73, 0, 0])),
  .inl (0, 30),
  .inr (.inr (6, [75, 76, 77, 0, 0, 0])),
  .inl (0, 30),
  .inl (0, 30),
  .inl (1, 30),
  .inr (.inr (2, [79])),
  .inl (1, 30),
  .inr (.inr (8, [81, 82, 83, 84, 0, 0])),
  .inl (0, 12),
  .inl (0, 12),
  .inl (0, 12),
  .inl (0, 12),
  .inr (.inr (10, [86, 0, 87, 88, 89, 90, 91, 92, 93, 0, 94, 0, 0, 95, 0, 0, 96, 0, 1, 97, 0, 0, 98, 99, 0])),
  .inl (0, 90),
  .inl (0, 30),
  .inl (0, 30),
  .inl (0, 30),
  .inl (0, 30),
  .inl (0, 30),
  .inl (0, 30),
  .inl (0, 30),
  .inl (0, 200),
  .inl (0, 60),
  .inl (0, 720),
  .inl (0, 48),
  .inl (0, 30),
  .inl (0, 180)]
def slotsN : Nat := 3498

def enc (M : mem) : hh := (encL M 0 skel, slotsN)
theorem encL_at {M : mem} : ∀ (l : List scel) (b a : Nat), (encL M b l)[a]? = (l[a]?).map (scl M (b + a))
  | [], b, a => by simp [encL]
  | s :: r, b, 0 => by simp [encL]
  | s :: r, b, a + 1 => by
    simp only [encL, List.getElem?_cons_succ]
    rw [encL_at r (b + 1) a, show b + 1 + a = b + (a + 1) by omega]
theorem enc_at {M : mem} {a : Nat} {s : scel} (h : skel[a]? = some s) : (enc M).1[a]? = some (scl M a s) := by
  show (encL M 0 skel)[a]? = _
  rw [encL_at, h, Nat.zero_add]
  rfl
theorem encL_len {M : mem} : ∀ (l : List scel) (b : Nat), (encL M b l).length = l.length
  | [], _ => rfl
  | s :: r, b => by simp [encL, encL_len r (b + 1)]
theorem fvs_at {M : mem} {a : Nat} : ∀ (l : List Nat) (b k : Nat), (fvs M a b l)[k]? = (l[k]?).map (fvl M a (b + k))
  | [], b, k => by simp [fvs]
  | s :: r, b, 0 => by simp [fvs]
  | s :: r, b, k + 1 => by
    simp only [fvs, List.getElem?_cons_succ]
    rw [fvs_at r (b + 1) k, show b + 1 + k = b + (k + 1) by omega]
theorem fvs_len {M : mem} {a : Nat} : ∀ (l : List Nat) (b : Nat), (fvs M a b l).length = l.length
  | [], _ => rfl
  | s :: r, b => by simp [fvs, fvs_len r (b + 1)]
/-- one number told anew -/
def upM (M : mem) (a j : Nat) (v : Int32) : mem := (fun b k => if b = a ∧ k = j then v else M.1 b k, M.2)
theorem upM_at (M : mem) (a j : Nat) (v : Int32) (b k : Nat) : (upM M a j v).1 b k = if b = a ∧ k = j then v else M.1 b k := rfl
theorem upM_2 (M : mem) (a j : Nat) (v : Int32) : (upM M a j v).2 = M.2 := rfl
/-- a row of 30 copied -/
def cpM (M : mem) (a0 a : Nat) : mem := (fun b k => if b = a ∧ k < 30 then M.1 a0 k else M.1 b k, M.2)
theorem enc_ext {M N : mem} {a : Nat} {c : hcel} {s : scel} (hs : skel[a]? = some s) (h1 : c = scl N a s) (h2 : ∀ b s2, b ≠ a → skel[b]? = some s2 → scl M b s2 = scl N b s2) : ((enc M).1.set a c, slotsN) = enc N := by
  show (_, slotsN) = (encL N 0 skel, slotsN)
  congr 1
  apply List.ext_getElem?
  intro b
  show ((encL M 0 skel).set a c)[b]? = (encL N 0 skel)[b]?
  rw [List.getElem?_set, encL_len, encL_at, encL_at, Nat.zero_add]
  by_cases hb : a = b
  · subst hb
    have := (List.getElem?_eq_some_iff.mp hs).1
    rw [if_pos rfl, if_pos this, hs, h1]
    rfl
  · rw [if_neg hb]
    cases hk : skel[b]? with
    | none => rfl
    | some s2 =>
      show some _ = some _
      rw [h2 b s2 (fun z => hb z.symm) hk]
theorem fvs_ext {M N : mem} {a b : Nat} (h2 : M.2 = N.2) (h : ∀ k, M.1 a k = N.1 a k) : ∀ (l : List Nat) (b : Nat), fvs M a b l = fvs N a b l
  | [], _ => rfl
  | c :: r, b => by
    simp only [fvs]
    rw [fvs_ext (b := b) h2 h r (b + 1)]
    congr 1
    match c with
    | 0 => show Value.int _ = Value.int _; rw [h]
    | 1 => show Value.long _ = Value.long _; rw [h2]
    | c + 2 => rfl
theorem scl_ext {M N : mem} {a : Nat} (h2 : M.2 = N.2) (h : ∀ k, M.1 a k = N.1 a k) (s : scel) : scl M a s = scl N a s := by
  match s with
  | .inl q => show Sum.inl (q.1, q.2, Sum.inl (M.1 a)) = Sum.inl (q.1, q.2, Sum.inl (N.1 a)); rw [show M.1 a = N.1 a from funext h]
  | .inr (.inl rs) => rfl
  | .inr (.inr o) => show Sum.inr (o.1, fvs M a 0 o.2) = Sum.inr (o.1, fvs N a 0 o.2); rw [fvs_ext (b := 0) h2 h]
theorem enc_setA {M : mem} {a t n j : Nat} {v : Int32} (hs : skel[a]? = some (.inl (t, n))) : ((enc M).1.set a (.inl (t, n, .inl (upd (M.1 a) j v))), slotsN) = enc (upM M a j v) := by
  refine enc_ext hs ?_ (fun b s2 hb _ => scl_ext (M := M) (N := upM M a j v) rfl (fun k => ?_) s2)
  · show _ = Sum.inl (t, n, Sum.inl ((upM M a j v).1 a))
    congr 4
    funext k
    show (if k = j then v else M.1 a k) = if a = a ∧ k = j then v else M.1 a k
    simp
  · show M.1 b k = if b = a ∧ k = j then v else M.1 b k
    rw [if_neg (fun z => hb z.1)]
theorem enc_setC {M : mem} {a a0 t n : Nat} (hs : skel[a]? = some (.inl (t, n))) : ((enc M).1.set a (.inl (t, n, .inl (va_cpy (M.1 a0) (M.1 a) 0 0 30))), slotsN) = enc (cpM M a0 a) := by
  refine enc_ext hs ?_ (fun b s2 hb _ => scl_ext (M := M) (N := cpM M a0 a) rfl (fun k => ?_) s2)
  · show _ = Sum.inl (t, n, Sum.inl ((cpM M a0 a).1 a))
    congr 4
    funext k
    show (if 0 ≤ k ∧ k < 0 + 30 then M.1 a0 (0 + (k - 0)) else M.1 a k) = if a = a ∧ k < 30 then M.1 a0 k else M.1 a k
    simp
  · show M.1 b k = if b = a ∧ k < 30 then M.1 a0 k else M.1 b k
    rw [if_neg (fun z => hb z.1)]
theorem enc_setF {M : mem} {a ci k : Nat} {cs : List Nat} {v : Int32} (hs : skel[a]? = some (.inr (.inr (ci, cs)))) (hk : cs[k]? = some 0) : ((enc M).1.set a (.inr (ci, (fvs M a 0 cs).set k (.int v))), slotsN) = enc (upM M a k v) := by
  refine enc_ext hs ?_ (fun b s2 hb _ => scl_ext (M := M) (N := upM M a k v) rfl (fun j => ?_) s2)
  · show _ = Sum.inr (ci, fvs (upM M a k v) a 0 cs)
    congr 2
    apply List.ext_getElem?
    intro j
    rw [List.getElem?_set, fvs_at, fvs_at, fvs_len, Nat.zero_add]
    by_cases hj : k = j
    · subst hj
      have := (List.getElem?_eq_some_iff.mp hk).1
      rw [if_pos rfl, if_pos this, hk]
      show some (Value.int v) = some (Value.int (if a = a ∧ k = k then v else M.1 a k))
      simp
    · rw [if_neg hj]
      cases hc : cs[j]? with
      | none => rfl
      | some c =>
        show some _ = some _
        congr 1
        match c with
        | 0 =>
          show Value.int (M.1 a j) = Value.int (if a = a ∧ j = k then v else M.1 a j)
          rw [if_neg (fun z => hj z.2.symm)]
        | 1 => rfl
        | c + 2 => rfl
  · show M.1 b j = if b = a ∧ j = k then v else M.1 b j
    rw [if_neg (fun z => hb z.1)]
theorem one_long : ∀ b, b < skel.length → b ≠ 83 → ∀ ci cs, skel[b]? = some (.inr (.inr (ci, cs))) → (1 : Nat) ∉ cs := by
  have : skel.zipIdx.all (fun q => decide (q.2 = 83) || (match q.1 with | .inr (.inr o) => !(o.2.contains 1) | _ => true)) = true := by decide +kernel
  intro b hb hne ci cs h hm
  have h2 := List.all_eq_true.mp this (_, b) (List.mem_zipIdx_iff_getElem?.mpr h)
  simp [hne] at h2
  exact h2 hm
theorem fvs_ext2 {M N : mem} {a : Nat} (h : ∀ k, M.1 a k = N.1 a k) : ∀ (l : List Nat) (b : Nat), (1 : Nat) ∉ l → fvs M a b l = fvs N a b l
  | [], _, _ => rfl
  | c :: r, b, hm => by
    simp only [fvs]
    rw [fvs_ext2 h r (b + 1) (fun z => hm (List.mem_cons_of_mem _ z))]
    congr 1
    match c with
    | 0 => show Value.int _ = Value.int _; rw [h]
    | 1 => exact absurd List.mem_cons_self hm
    | c + 2 => rfl
theorem enc_setL {M : mem} {v : Int64} {ci : Nat} {cs : List Nat} (hs : skel[83]? = some (.inr (.inr (ci, cs)))) : ((enc M).1.set 83 (.inr (ci, (fvs M 83 0 cs).set 18 (.long v))), slotsN) = enc (M.1, v) := by
  have hcs : skel[83]? = some (.inr (.inr (10, [86, 0, 87, 88, 89, 90, 91, 92, 93, 0, 94, 0, 0, 95, 0, 0, 96, 0, 1, 97, 0, 0, 98, 99, 0]))) := rfl
  have he : Sum.inr (Sum.inr (ci, cs)) = (Sum.inr (Sum.inr (10, [86, 0, 87, 88, 89, 90, 91, 92, 93, 0, 94, 0, 0, 95, 0, 0, 96, 0, 1, 97, 0, 0, 98, 99, 0])) : scel) := Option.some.inj (hs.symm.trans hcs)
  cases he
  refine enc_ext hs rfl (fun b s2 hb h2 => ?_)
  match s2, h2 with
  | .inl q, _ => rfl
  | .inr (.inl rs), _ => rfl
  | .inr (.inr o), h2 =>
    show Sum.inr (o.1, fvs M b 0 o.2) = Sum.inr (o.1, fvs (M.1, v) b 0 o.2)
    rw [fvs_ext2 (M := M) (N := (M.1, v)) (fun _ => rfl) o.2 0 (one_long b (List.getElem?_eq_some_iff.mp h2).1 hb o.1 o.2 h2)]
