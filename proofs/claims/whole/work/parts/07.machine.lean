/-! the machine over plain cells: refs are places in the list of cells; .retAddr 0 .. 3 are what was there before (the script, the text's String, its bytes, the formatter) -/
abbrev hcel : Type := (Nat × Nat × ((Nat → Int32) ⊕ (Nat → Option Nat))) ⊕ (Nat × List Value)
abbrev hh : Type := List hcel × Nat
abbrev lcs : Type := List (Option Value)
def lku (pc : Nat) : List (Nat × ent) → Option ent
  | [] => none
  | q :: r => if Nat.beq q.1 pc then some q.2 else lku pc r
def ctab (i pc : Nat) : Option ent := match mtab[i]? with
  | some q => lku pc (mCd q)
  | none => none
def lGet (ls : lcs) (k : Nat) : Option Value := match ls[k]? with
  | some (some v) => some v
  | _ => none
/-- a long whose second half is written over goes -/
def clr (ls : lcs) (i : Nat) : lcs := match i with
  | 0 => ls
  | j + 1 => (match lGet ls j with
    | some v => if v.category = 2 then ls.set j none else ls
    | none => ls)
def lSet (ls : lcs) (i : Nat) (v : Value) : Option lcs := if i < ls.length then some ((clr ls i).set i (some v)) else none
def lSet2 (ls : lcs) (i : Nat) (v : Value) : Option lcs := if i + 1 < ls.length then some (((clr ls i).set i (some v)).set (i + 1) none) else none
def inB (i : Int32) (n : Nat) : Bool := decide (¬ i < 0) && decide (i.toNatClampNeg < n)
def cmpB (c : ClassFile.Cond) (x y : Int32) : Bool := match c with
  | .eq => decide (x = y)
  | .ne => decide (¬ x = y)
  | .lt => decide (x < y)
  | .ge => decide (y ≤ x)
  | .gt => decide (y < x)
  | .le => decide (x ≤ y)
def catS (st : List Value) : Nat := (st.map fun v => v.category).sum
def sB : List Int32 := [112, 48, 48, 49, 49, 50, 50, 51, 51, 52, 52, 53, 53, 54, 59, 119, 53, 48, 56, 50, 55, 49, 57, 51, 54, 52, 48, 50, 56, 59, 102, 49, 50, 49, 51, 49, 52, 49, 53, 49, 50, 49, 51, 49, 59, 103, 51, 48, 50, 49, 48, 52, 53, 54, 55, 48, 49, 50, 51, 59]
def cfs : List (Nat → FieldType) := [cf0, cf1, cf2, cf3, cf4, cf5, cf6, cf7, cf8, cf9, cf10]
def okv (t : FieldType) (v : Value) : Bool := match t, v with
  | .int, .int _ => true
  | .long, .long _ => true
  | .object _, .ref _ => true
  | .array _, .ref _ => true
  | _, _ => false
def fTy (ci k : Nat) : Option FieldType := match cfs[ci]? with
  | some f => some (f k)
  | none => none
def stLdI (ls : lcs) (k n pc : Nat) (st : List Value) : Option (Nat × lcs × List Value) := match lGet ls k with
  | some (.int x) => some (pc + n, ls, .int x :: st)
  | _ => none
def stLdL (ls : lcs) (k n pc : Nat) (st : List Value) : Option (Nat × lcs × List Value) := match lGet ls k with
  | some (.long x) => some (pc + n, ls, .long x :: st)
  | _ => none
def stLdA (ls : lcs) (k n pc : Nat) (st : List Value) : Option (Nat × lcs × List Value) := match lGet ls k with
  | some (.ref x) => some (pc + n, ls, .ref x :: st)
  | some (.retAddr x) => if x < 3 then some (pc + n, ls, .retAddr x :: st) else none
  | _ => none
def stStI (ls : lcs) (k n pc : Nat) (st : List Value) : Option (Nat × lcs × List Value) := match st with
  | .int x :: r => (lSet ls k (.int x)).map (fun l2 => (pc + n, l2, r))
  | _ => none
def stStL (ls : lcs) (k n pc : Nat) (st : List Value) : Option (Nat × lcs × List Value) := match st with
  | .long x :: r => (lSet2 ls k (.long x)).map (fun l2 => (pc + n, l2, r))
  | _ => none
def stStA (ls : lcs) (k n pc : Nat) (st : List Value) : Option (Nat × lcs × List Value) := match st with
  | .ref x :: r => (lSet ls k (.ref x)).map (fun l2 => (pc + n, l2, r))
  | _ => none
/-- what an instruction makes of the numbers on the stack -/
def stAr (ins : Instr) (st : List Value) : Option (List Value) := match ins, st with
  | .iadd, .int y :: .int x :: r => some (.int (x + y) :: r)
  | .isub, .int y :: .int x :: r => some (.int (x - y) :: r)
  | .imul, .int y :: .int x :: r => some (.int (x * y) :: r)
  | .iand, .int y :: .int x :: r => some (.int (x &&& y) :: r)
  | .ishr, .int y :: .int x :: r => some (.int (x >>> (y &&& 31)) :: r)
  | .idiv, .int y :: .int x :: r => if y = 0 then none else some (.int (x / y) :: r)
  | .irem, .int y :: .int x :: r => if y = 0 then none else some (.int (x - x / y * y) :: r)
  | .ladd, .long y :: .long x :: r => some (.long (x + y) :: r)
  | .lmul, .long y :: .long x :: r => some (.long (x * y) :: r)
  | .land, .long y :: .long x :: r => some (.long (x &&& y) :: r)
  | .lxor, .long y :: .long x :: r => some (.long (x ^^^ y) :: r)
  | .lrem, .long y :: .long x :: r => if y = 0 then none else some (.long (x - x / y * y) :: r)
  | .lcmp, .long y :: .long x :: r => some (.int (lg_cmp x y) :: r)
  | .lshl, .int y :: .long x :: r => some (.long (x <<< (y.toInt64 &&& 63)) :: r)
  | .lshr, .int y :: .long x :: r => some (.long (x >>> (y.toInt64 &&& 63)) :: r)
  | .i2l, .int x :: r => some (.long x.toInt64 :: r)
  | .l2i, .long x :: r => some (.int x.toInt32 :: r)
  | .i2c, .int x :: r => some (.int (x.toUInt32 % 65536).toInt32 :: r)
  | .dup, v :: r => if v.category = 1 then some (v :: v :: r) else none
  | .pop, v :: r => if v.category = 1 then some r else none
  | .dup2, v :: w :: r => if v.category = 1 ∧ w.category = 1 then some (v :: w :: v :: w :: r) else none
  | .iconst n, r => some (.int (Int32.ofInt n) :: r)
  | .lconst n, r => some (.long (Int64.ofNat (n : Nat)) :: r)
  | _, _ => none
/-- what an instruction reads of the cells -/
def stRd (L : Nat) (xs : Nat → Int32) (en : ent) (st : List Value) (hp : hh) : Option (List Value) := match en.1, st with
  | .getfield _, .ref a :: r => (match hp.1[a]? with
    | some (.inr o) => if eA en = 99 then none else if o.1 = eA en then (o.2[eB en]?).map (fun v => v :: r) else none
    | _ => none)
  | .getfield _, .retAddr 1 :: r => if eA en = 99 then some ((if eB en = 0 then .int 0 else .retAddr 2) :: r) else none
  | .iaload, .int i :: .ref a :: r => (match hp.1[a]? with
    | some (.inl (t, n, .inl f)) => if decide (t = 0) && inB i n then some (.int (f i.toNatClampNeg) :: r) else none
    | _ => none)
  | .iaload, .int i :: .retAddr 0 :: r => if inB i L then some (.int (xs i.toNatClampNeg) :: r) else none
  | .baload, .int i :: .ref a :: r => (match hp.1[a]? with
    | some (.inl (t, n, .inl f)) => if decide (t = 1) && inB i n then some (.int (f i.toNatClampNeg) :: r) else none
    | _ => none)
  | .baload, .int i :: .retAddr 2 :: r => if inB i 60 then some (.int (sB.getD i.toNatClampNeg 0) :: r) else none
  | .caload, .int i :: .ref a :: r => (match hp.1[a]? with
    | some (.inl (t, n, .inl f)) => if decide (t = 2) && inB i n then some (.int (f i.toNatClampNeg) :: r) else none
    | _ => none)
  | .aaload, .int i :: .ref a :: r => (match hp.1[a]? with
    | some (.inl (t, n, .inr g)) => if decide (t = 3) && inB i n then (g i.toNatClampNeg).map (fun k => .ref k :: r) else none
    | _ => none)
  | .arraylength, .ref a :: r => (match hp.1[a]? with
    | some (.inl (t, n, _)) => if t < 4 then some (.int (Int32.ofNat n) :: r) else none
    | _ => none)
  | .arraylength, .retAddr 0 :: r => some (.int (Int32.ofNat L) :: r)
  | .arraylength, .retAddr 2 :: r => some (.int (Int32.ofNat 60) :: r)
  | _, _ => none
def tgtS (pc : Nat) (off : Int) : Option Nat := if 0 ≤ (pc : Int) + off then some ((pc : Int) + off).toNat else none
def stpA (L : Nat) (xs : Nat → Int32) (en : ent) (pc : Nat) (ls : lcs) (st : List Value) (hp : hh) : Option (Nat × lcs × List Value) :=
  match en.1 with
  | .iload_n k => stLdI ls k 1 pc st
  | .iload k => stLdI ls k 2 pc st
  | .lload_n k => stLdL ls k 1 pc st
  | .lload k => stLdL ls k 2 pc st
  | .aload_n k => stLdA ls k 1 pc st
  | .aload k => stLdA ls k 2 pc st
  | .istore_n k => stStI ls k 1 pc st
  | .istore k => stStI ls k 2 pc st
  | .lstore_n k => stStL ls k 1 pc st
  | .lstore k => stStL ls k 2 pc st
  | .astore_n k => stStA ls k 1 pc st
  | .astore k => stStA ls k 2 pc st
  | .iinc k n => (match lGet ls k with
    | some (.int x) => (lSet ls k (.int (x + Int32.ofInt n))).map (fun l2 => (pc + 3, l2, st))
    | _ => none)
  | .bipush n => some (pc + 2, ls, .int (Int8.ofInt n).toInt32 :: st)
  | .sipush n => some (pc + 3, ls, .int (Int16.ofInt n).toInt32 :: st)
  | .ldc _ => some (pc + 2, ls, (if eA en = 0 then .int (Int32.ofInt (eC en)) else .retAddr 1) :: st)
  | .ldc2_w _ => some (pc + 3, ls, .long (Int64.ofInt (eC en)) :: st)
  | .getstatic _ => some (pc + 3, ls, (if eA en = 0 then .int 1 else .retAddr 3) :: st)
  | .goto _ => some (eA en, ls, st)
  | .ifCond c _ => (match st with
    | .int x :: r => some (if cmpB c x 0 then eA en else pc + 3, ls, r)
    | _ => none)
  | .if_icmp c _ => (match st with
    | .int y :: .int x :: r => some (if cmpB c x y then eA en else pc + 3, ls, r)
    | _ => none)
  | .tableswitch d lo hi offs => (match st with
    | .int x :: r => if x.toInt < lo ∨ hi < x.toInt then (tgtS pc d).map (fun t => (t, ls, r)) else
        (match offs[(x.toInt - lo).toNat]? with
        | some o => (tgtS pc o).map (fun t => (t, ls, r))
        | none => none)
    | _ => none)
  | .lookupswitch d ps => (match st with
    | .int x :: r => (tgtS pc (Op.lookupswitch.offset ps.toList d x.toInt)).map (fun t => (t, ls, r))
    | _ => none)
  | .invokespecial _ => (match st with
    | .ref _ :: r => if eA en = 9000 ∧ catS r ≤ 8 then some (pc + 3, ls, r) else none
    | _ => none)
  | .invokestatic _ => (match st with
    | .int y :: .int x :: r => if eA en = 9002 ∧ catS r ≤ 8 then some (pc + 3, ls, .int (if x < y then y else x) :: r) else
        if eA en = 9003 ∧ catS r ≤ 8 then some (pc + 3, ls, .int (if y < x then y else x) :: r) else none
    | _ => none)
  | .getfield _ => (stRd L xs en st hp).map (fun s2 => (pc + 3, ls, s2))
  | .iaload => (stRd L xs en st hp).map (fun s2 => (pc + 1, ls, s2))
  | .baload => (stRd L xs en st hp).map (fun s2 => (pc + 1, ls, s2))
  | .caload => (stRd L xs en st hp).map (fun s2 => (pc + 1, ls, s2))
  | .aaload => (stRd L xs en st hp).map (fun s2 => (pc + 1, ls, s2))
  | .arraylength => (stRd L xs en st hp).map (fun s2 => (pc + 1, ls, s2))
  | ins => (stAr ins st).map (fun s2 => (pc + 1, ls, s2))
def dflt (ci : Nat) : List Value := match classes[ci]?, cfs[ci]? with
  | some c, some f => (List.range c.2.2).map (fun k => defaultValue (f k))
  | _, _ => []
/-- what an instruction changes of the cells -/
def stpB (en : ent) (st : List Value) (hp : hh) : Option (List Value × hh) := match en.1, st with
  | .putfield _, v :: .ref a :: r => (match hp.1[a]?, fTy (eA en) (eB en) with
    | some (.inr o), some t => if decide (o.1 = eA en) && decide (eB en < o.2.length) && okv t v then some (r, hp.1.set a (.inr (o.1, o.2.set (eB en) v)), hp.2) else none
    | _, _ => none)
  | .iastore, .int x :: .int i :: .ref a :: r => (match hp.1[a]? with
    | some (.inl (t, n, .inl f)) => if decide (t = 0) && inB i n then some (r, hp.1.set a (.inl (t, n, .inl (upd f i.toNatClampNeg x))), hp.2) else none
    | _ => none)
  | .bastore, .int x :: .int i :: .ref a :: r => (match hp.1[a]? with
    | some (.inl (t, n, .inl f)) => if decide (t = 1) && inB i n then some (r, hp.1.set a (.inl (t, n, .inl (upd f i.toNatClampNeg (vp_nar .boolean x)))), hp.2) else none
    | _ => none)
  | .castore, .int x :: .int i :: .ref a :: r => (match hp.1[a]? with
    | some (.inl (t, n, .inl f)) => if decide (t = 2) && inB i n then some (r, hp.1.set a (.inl (t, n, .inl (upd f i.toNatClampNeg (vp_nar .char x)))), hp.2) else none
    | _ => none)
  | .aastore, .ref v :: .int i :: .ref a :: r => (match hp.1[a]?, hp.1[v]? with
    | some (.inl (t, n, .inr g)), some (.inr o) => if decide (t = 3) && decide (o.1 = 0) && inB i n then some (r, hp.1.set a (.inl (t, n, .inr (va_up g i.toNatClampNeg (some v)))), hp.2) else none
    | _, _ => none)
  | .invokestatic _, .int n :: .int dp :: .ref a :: .int sp :: .ref a0 :: r => (match hp.1[a0]?, hp.1[a]? with
    | some (.inl (t0, n0, .inl f)), some (.inl (t1, n1, .inl g)) => if decide (eA en = 9001) && decide (t0 = 0) && decide (t1 = 0) && decide (¬ sp < 0) && decide (¬ dp < 0) && decide (¬ n < 0) && decide (sp.toNatClampNeg + n.toNatClampNeg ≤ n0) && decide (dp.toNatClampNeg + n.toNatClampNeg ≤ n1) && decide (catS r ≤ 8) then
        some (r, hp.1.set a (.inl (t1, n1, .inl (va_cpy f g sp.toNatClampNeg dp.toNatClampNeg n.toNatClampNeg))), hp.2) else none
    | _, _ => none)
  | .newarray _, .int n :: r => if decide (¬ n < 0) && decide (n.toNatClampNeg ≤ 1000) then some (.ref hp.1.length :: r, hp.1 ++ [.inl (eA en, n.toNatClampNeg, .inl (fun _ => 0))], hp.2 + n.toNatClampNeg) else none
  | .anewarray _, .int n :: r => if decide (¬ n < 0) && decide (n.toNatClampNeg ≤ 1000) then some (.ref hp.1.length :: r, hp.1 ++ [.inl (3, n.toNatClampNeg, .inr (fun _ => none))], hp.2 + n.toNatClampNeg) else none
  | .new _, r => (match classes[eA en]? with
    | some c => some (.ref hp.1.length :: r, hp.1 ++ [.inr (eA en, dflt (eA en))], hp.2 + c.2.2)
    | none => none)
  | _, _ => none
/-- a call: which method, its arguments, what stays on the stack -/
def stpC (en : ent) (st : List Value) (hp : hh) : Option (Nat × List Value × List Value) :=
  if decide (eB en ≤ st.length) && decide (catS (st.drop (eB en)) ≤ 8) then
    (match en.1, (st.take (eB en)).reverse with
    | .invokevirtual _, .ref a :: as => (match hp.1[a]? with
      | some (.inr o) => if eC en = 99 then none else if o.1 = (eC en).toNat then some (eA en, .ref a :: as, st.drop (eB en)) else none
      | _ => none)
    | .invokevirtual _, .retAddr 1 :: as => if eC en = 99 then some (eA en, .retAddr 1 :: as, st.drop (eB en)) else none
    | .invokespecial _, .ref a :: as => some (eA en, .ref a :: as, st.drop (eB en))
    | .invokestatic _, as => some (eA en, as, st.drop (eB en))
    | _, _ => none)
  else none
def stpR (q : minfo) (en : ent) (st : List Value) : Option (Option Value) := match en.1, st, mRt q with
  | .ireturn, [.int v], some ty => if narrow ty (.int v) = .int v then some (some (.int v)) else none
  | .return_, [], none => some none
  | _, _, _ => none
def ent0 (n : Nat) (as : List Value) : lcs :=
  (as.flatMap fun v => if v.category = 2 then [some v, none] else [some v]) ++ List.replicate (n - (as.flatMap fun v => if v.category = 2 then [some v, (none : Option Value)] else [some v]).length) none
def exec (L : Nat) (xs : Nat → Int32) : Nat → Nat → Nat → lcs → List Value → hh → Option (Option Value × hh)
  | 0, _, _, _, _, _ => none
  | n + 1, i, pc, ls, st, hp =>
    match mtab[i]?, ctab i pc with
    | some q, some en =>
      (match stpA L xs en pc ls st hp with
      | some (pc2, ls2, st2) => exec L xs n i pc2 ls2 st2 hp
      | none =>
        (match stpB en st hp with
        | some (st2, hp2) => exec L xs n i (pc + en.2.1) ls st2 hp2
        | none =>
          (match stpC en st hp with
          | some (j, as, r) =>
            (match mtab[j]? with
            | some qj =>
              if decide ((ent0 (mLx qj) as).length = mLx qj) && decide (0 < j) then
                (match exec L xs n j 0 (ent0 (mLx qj) as) [] hp with
                | some (rv, hp2) => exec L xs n i (pc + 3) ls (rv.toList ++ r) hp2
                | none => none)
              else none
            | none => none)
          | none => (stpR q en st).map (fun rv => (rv, hp)))))
    | _, _ => none
