section
/-- a private method of a class that the tables say can be made, by its rows of tables_1 -/
def lw_okq (q : MethodName × Nat) : Prop := (q.1.cls ≠ "java/lang/invoke/MethodHandle" ∧ q.1.cls ≠ "java/lang/invoke/VarHandle") ∧ Cond.instantiable q.1.cls q.2 ∈ tables_1 ∧ Cond.privateMethod q.1 ∈ tables_1 ∧ Cond.instanceMethod q.1 ∈ tables_1
theorem lw_p0 : lw_okq (⟨"HeavyChains", "takeText", "()Z"⟩, 11) := ⟨⟨by decide +kernel, by decide +kernel⟩, List.mem_of_getElem? (i := 19) (by decide +kernel), List.mem_of_getElem? (i := 311) (by decide +kernel), List.mem_of_getElem? (i := 312) (by decide +kernel)⟩
theorem lw_p1 : lw_okq (⟨"HeavyChains$Reade\x72", "takeItem", "(LHeavyChains$Letters;II)Z"⟩, 3) := ⟨⟨by decide +kernel, by decide +kernel⟩, List.mem_of_getElem? (i := 44) (by decide +kernel), List.mem_of_getElem? (i := 325) (by decide +kernel), List.mem_of_getElem? (i := 326) (by decide +kernel)⟩
theorem lw_p2 : lw_okq (⟨"HeavyChains$Reade\x72", "takeUppers", "(LHeavyChains$Letters;II)Z"⟩, 3) := ⟨⟨by decide +kernel, by decide +kernel⟩, List.mem_of_getElem? (i := 44) (by decide +kernel), List.mem_of_getElem? (i := 329) (by decide +kernel), List.mem_of_getElem? (i := 330) (by decide +kernel)⟩
theorem lw_p3 : lw_okq (⟨"HeavyChains$Reade\x72", "takeFigures", "([IILHeavyChains$Letters;II)Z"⟩, 3) := ⟨⟨by decide +kernel, by decide +kernel⟩, List.mem_of_getElem? (i := 44) (by decide +kernel), List.mem_of_getElem? (i := 337) (by decide +kernel), List.mem_of_getElem? (i := 338) (by decide +kernel)⟩
theorem lw_p4 : lw_okq (⟨"HeavyChains$Tree", "chooseHeavy", "(II)V"⟩, 10) := ⟨⟨by decide +kernel, by decide +kernel⟩, List.mem_of_getElem? (i := 88) (by decide +kernel), List.mem_of_getElem? (i := 348) (by decide +kernel), List.mem_of_getElem? (i := 349) (by decide +kernel)⟩
theorem lw_p5 : lw_okq (⟨"HeavyChains$Tree", "putAt", "(II)V"⟩, 10) := ⟨⟨by decide +kernel, by decide +kernel⟩, List.mem_of_getElem? (i := 88) (by decide +kernel), List.mem_of_getElem? (i := 352) (by decide +kernel), List.mem_of_getElem? (i := 353) (by decide +kernel)⟩
theorem lw_p6 : lw_okq (⟨"HeavyChains$Tree", "placeLowe\x72", "(I)V"⟩, 10) := ⟨⟨by decide +kernel, by decide +kernel⟩, List.mem_of_getElem? (i := 88) (by decide +kernel), List.mem_of_getElem? (i := 356) (by decide +kernel), List.mem_of_getElem? (i := 357) (by decide +kernel)⟩
theorem lw_p7 : lw_okq (⟨"HeavyChains", "isPost", "(I)Z"⟩, 11) := ⟨⟨by decide +kernel, by decide +kernel⟩, List.mem_of_getElem? (i := 19) (by decide +kernel), List.mem_of_getElem? (i := 433) (by decide +kernel), List.mem_of_getElem? (i := 434) (by decide +kernel)⟩
theorem lw_p8 : lw_okq (⟨"HeavyChains", "addToRoute", "(II)I"⟩, 11) := ⟨⟨by decide +kernel, by decide +kernel⟩, List.mem_of_getElem? (i := 19) (by decide +kernel), List.mem_of_getElem? (i := 457) (by decide +kernel), List.mem_of_getElem? (i := 458) (by decide +kernel)⟩
theorem lw_p9 : lw_okq (⟨"HeavyChains$Watches", "move", "(II)V"⟩, 6) := ⟨⟨by decide +kernel, by decide +kernel⟩, List.mem_of_getElem? (i := 230) (by decide +kernel), List.mem_of_getElem? (i := 607) (by decide +kernel), List.mem_of_getElem? (i := 608) (by decide +kernel)⟩
theorem lw_p10 : lw_okq (⟨"HeavyChains", "tryDraw", "(I)V"⟩, 11) := ⟨⟨by decide +kernel, by decide +kernel⟩, List.mem_of_getElem? (i := 19) (by decide +kernel), List.mem_of_getElem? (i := 642) (by decide +kernel), List.mem_of_getElem? (i := 643) (by decide +kernel)⟩
theorem lw_p11 : lw_okq (⟨"HeavyChainsModel", "says", "(JI)V"⟩, 25) := ⟨⟨by decide +kernel, by decide +kernel⟩, List.mem_of_getElem? (i := 663) (by decide +kernel), List.mem_of_getElem? (i := 670) (by decide +kernel), List.mem_of_getElem? (i := 671) (by decide +kernel)⟩
theorem lw_p12 : lw_okq (⟨"HeavyChainsModel", "signsFrom", "(I)I"⟩, 25) := ⟨⟨by decide +kernel, by decide +kernel⟩, List.mem_of_getElem? (i := 663) (by decide +kernel), List.mem_of_getElem? (i := 699) (by decide +kernel), List.mem_of_getElem? (i := 700) (by decide +kernel)⟩
theorem lw_p13 : lw_okq (⟨"HeavyChainsModel", "isUppe\x72", "(II)Z"⟩, 25) := ⟨⟨by decide +kernel, by decide +kernel⟩, List.mem_of_getElem? (i := 663) (by decide +kernel), List.mem_of_getElem? (i := 710) (by decide +kernel), List.mem_of_getElem? (i := 711) (by decide +kernel)⟩
theorem lw_p14 : lw_okq (⟨"HeavyChainsModel", "areFigures", "(II)Z"⟩, 25) := ⟨⟨by decide +kernel, by decide +kernel⟩, List.mem_of_getElem? (i := 663) (by decide +kernel), List.mem_of_getElem? (i := 714) (by decide +kernel), List.mem_of_getElem? (i := 715) (by decide +kernel)⟩
theorem lw_p15 : lw_okq (⟨"HeavyChainsModel", "reads", "(IIII)V"⟩, 25) := ⟨⟨by decide +kernel, by decide +kernel⟩, List.mem_of_getElem? (i := 663) (by decide +kernel), List.mem_of_getElem? (i := 718) (by decide +kernel), List.mem_of_getElem? (i := 719) (by decide +kernel)⟩
def lw_privs_1 : List (MethodName × Nat) := [(⟨"HeavyChains", "takeText", "()Z"⟩, 11), (⟨"HeavyChains$Reade\x72", "takeItem", "(LHeavyChains$Letters;II)Z"⟩, 3), (⟨"HeavyChains$Reade\x72", "takeUppers", "(LHeavyChains$Letters;II)Z"⟩, 3), (⟨"HeavyChains$Reade\x72", "takeFigures", "([IILHeavyChains$Letters;II)Z"⟩, 3), (⟨"HeavyChains$Tree", "chooseHeavy", "(II)V"⟩, 10), (⟨"HeavyChains$Tree", "putAt", "(II)V"⟩, 10), (⟨"HeavyChains$Tree", "placeLowe\x72", "(I)V"⟩, 10), (⟨"HeavyChains", "isPost", "(I)Z"⟩, 11), (⟨"HeavyChains", "addToRoute", "(II)I"⟩, 11), (⟨"HeavyChains$Watches", "move", "(II)V"⟩, 6), (⟨"HeavyChains", "tryDraw", "(I)V"⟩, 11), (⟨"HeavyChainsModel", "says", "(JI)V"⟩, 25), (⟨"HeavyChainsModel", "signsFrom", "(I)I"⟩, 25), (⟨"HeavyChainsModel", "isUppe\x72", "(II)Z"⟩, 25), (⟨"HeavyChainsModel", "areFigures", "(II)Z"⟩, 25), (⟨"HeavyChainsModel", "reads", "(IIII)V"⟩, 25)]
theorem lw_r1 : ∀ q ∈ lw_privs_1, lw_okq q := List.forall_mem_cons.mpr ⟨lw_p0, List.forall_mem_cons.mpr ⟨lw_p1, List.forall_mem_cons.mpr ⟨lw_p2, List.forall_mem_cons.mpr ⟨lw_p3, List.forall_mem_cons.mpr ⟨lw_p4, List.forall_mem_cons.mpr ⟨lw_p5, List.forall_mem_cons.mpr ⟨lw_p6, List.forall_mem_cons.mpr ⟨lw_p7, List.forall_mem_cons.mpr ⟨lw_p8, List.forall_mem_cons.mpr ⟨lw_p9, List.forall_mem_cons.mpr ⟨lw_p10, List.forall_mem_cons.mpr ⟨lw_p11, List.forall_mem_cons.mpr ⟨lw_p12, List.forall_mem_cons.mpr ⟨lw_p13, List.forall_mem_cons.mpr ⟨lw_p14, List.forall_mem_cons.mpr ⟨lw_p15, fun _ h => absurd h List.not_mem_nil⟩⟩⟩⟩⟩⟩⟩⟩⟩⟩⟩⟩⟩⟩⟩⟩
theorem lw_p16 : lw_okq (⟨"HeavyChainsModel", "ranks", "()V"⟩, 25) := ⟨⟨by decide +kernel, by decide +kernel⟩, List.mem_of_getElem? (i := 663) (by decide +kernel), List.mem_of_getElem? (i := 722) (by decide +kernel), List.mem_of_getElem? (i := 723) (by decide +kernel)⟩
theorem lw_p17 : lw_okq (⟨"HeavyChainsModel", "placed", "(I)I"⟩, 25) := ⟨⟨by decide +kernel, by decide +kernel⟩, List.mem_of_getElem? (i := 663) (by decide +kernel), List.mem_of_getElem? (i := 726) (by decide +kernel), List.mem_of_getElem? (i := 727) (by decide +kernel)⟩
theorem lw_p18 : lw_okq (⟨"HeavyChainsModel", "isPost", "(I)Z"⟩, 25) := ⟨⟨by decide +kernel, by decide +kernel⟩, List.mem_of_getElem? (i := 663) (by decide +kernel), List.mem_of_getElem? (i := 817) (by decide +kernel), List.mem_of_getElem? (i := 818) (by decide +kernel)⟩
theorem lw_p19 : lw_okq (⟨"HeavyChainsModel", "lays", "(II)V"⟩, 25) := ⟨⟨by decide +kernel, by decide +kernel⟩, List.mem_of_getElem? (i := 663) (by decide +kernel), List.mem_of_getElem? (i := 830) (by decide +kernel), List.mem_of_getElem? (i := 831) (by decide +kernel)⟩
theorem lw_p20 : lw_okq (⟨"HeavyChainsModel", "pieces", "()I"⟩, 25) := ⟨⟨by decide +kernel, by decide +kernel⟩, List.mem_of_getElem? (i := 663) (by decide +kernel), List.mem_of_getElem? (i := 834) (by decide +kernel), List.mem_of_getElem? (i := 835) (by decide +kernel)⟩
theorem lw_p21 : lw_okq (⟨"HeavyChainsModel", "sumOf", "()I"⟩, 25) := ⟨⟨by decide +kernel, by decide +kernel⟩, List.mem_of_getElem? (i := 663) (by decide +kernel), List.mem_of_getElem? (i := 838) (by decide +kernel), List.mem_of_getElem? (i := 839) (by decide +kernel)⟩
theorem lw_p22 : lw_okq (⟨"HeavyChainsModel", "greatest", "()I"⟩, 25) := ⟨⟨by decide +kernel, by decide +kernel⟩, List.mem_of_getElem? (i := 663) (by decide +kernel), List.mem_of_getElem? (i := 842) (by decide +kernel), List.mem_of_getElem? (i := 843) (by decide +kernel)⟩
theorem lw_p23 : lw_okq (⟨"HeavyChainsModel", "least", "()I"⟩, 25) := ⟨⟨by decide +kernel, by decide +kernel⟩, List.mem_of_getElem? (i := 663) (by decide +kernel), List.mem_of_getElem? (i := 846) (by decide +kernel), List.mem_of_getElem? (i := 847) (by decide +kernel)⟩
theorem lw_p24 : lw_okq (⟨"HeavyChainsModel", "gain", "()I"⟩, 25) := ⟨⟨by decide +kernel, by decide +kernel⟩, List.mem_of_getElem? (i := 663) (by decide +kernel), List.mem_of_getElem? (i := 850) (by decide +kernel), List.mem_of_getElem? (i := 851) (by decide +kernel)⟩
theorem lw_p25 : lw_okq (⟨"HeavyChainsModel", "markedOf", "()I"⟩, 25) := ⟨⟨by decide +kernel, by decide +kernel⟩, List.mem_of_getElem? (i := 663) (by decide +kernel), List.mem_of_getElem? (i := 854) (by decide +kernel), List.mem_of_getElem? (i := 855) (by decide +kernel)⟩
theorem lw_p26 : lw_okq (⟨"HeavyChainsModel", "laysBelow", "(I)V"⟩, 25) := ⟨⟨by decide +kernel, by decide +kernel⟩, List.mem_of_getElem? (i := 663) (by decide +kernel), List.mem_of_getElem? (i := 872) (by decide +kernel), List.mem_of_getElem? (i := 873) (by decide +kernel)⟩
theorem lw_p27 : lw_okq (⟨"HeavyChainsModel", "addsLaid", "(II)I"⟩, 25) := ⟨⟨by decide +kernel, by decide +kernel⟩, List.mem_of_getElem? (i := 663) (by decide +kernel), List.mem_of_getElem? (i := 886) (by decide +kernel), List.mem_of_getElem? (i := 887) (by decide +kernel)⟩
theorem lw_p28 : lw_okq (⟨"HeavyChainsModel", "mayAdd", "(II)Z"⟩, 25) := ⟨⟨by decide +kernel, by decide +kernel⟩, List.mem_of_getElem? (i := 663) (by decide +kernel), List.mem_of_getElem? (i := 890) (by decide +kernel), List.mem_of_getElem? (i := 891) (by decide +kernel)⟩
theorem lw_p29 : lw_okq (⟨"HeavyChainsModel", "notes", "()V"⟩, 25) := ⟨⟨by decide +kernel, by decide +kernel⟩, List.mem_of_getElem? (i := 663) (by decide +kernel), List.mem_of_getElem? (i := 899) (by decide +kernel), List.mem_of_getElem? (i := 900) (by decide +kernel)⟩
theorem lw_p30 : lw_okq (⟨"HeavyChainsModel", "adds", "(II)V"⟩, 25) := ⟨⟨by decide +kernel, by decide +kernel⟩, List.mem_of_getElem? (i := 663) (by decide +kernel), List.mem_of_getElem? (i := 903) (by decide +kernel), List.mem_of_getElem? (i := 904) (by decide +kernel)⟩
theorem lw_p31 : lw_okq (⟨"HeavyChainsModel", "isMarked", "(I)Z"⟩, 25) := ⟨⟨by decide +kernel, by decide +kernel⟩, List.mem_of_getElem? (i := 663) (by decide +kernel), List.mem_of_getElem? (i := 928) (by decide +kernel), List.mem_of_getElem? (i := 929) (by decide +kernel)⟩
def lw_privs_2 : List (MethodName × Nat) := [(⟨"HeavyChainsModel", "ranks", "()V"⟩, 25), (⟨"HeavyChainsModel", "placed", "(I)I"⟩, 25), (⟨"HeavyChainsModel", "isPost", "(I)Z"⟩, 25), (⟨"HeavyChainsModel", "lays", "(II)V"⟩, 25), (⟨"HeavyChainsModel", "pieces", "()I"⟩, 25), (⟨"HeavyChainsModel", "sumOf", "()I"⟩, 25), (⟨"HeavyChainsModel", "greatest", "()I"⟩, 25), (⟨"HeavyChainsModel", "least", "()I"⟩, 25), (⟨"HeavyChainsModel", "gain", "()I"⟩, 25), (⟨"HeavyChainsModel", "markedOf", "()I"⟩, 25), (⟨"HeavyChainsModel", "laysBelow", "(I)V"⟩, 25), (⟨"HeavyChainsModel", "addsLaid", "(II)I"⟩, 25), (⟨"HeavyChainsModel", "mayAdd", "(II)Z"⟩, 25), (⟨"HeavyChainsModel", "notes", "()V"⟩, 25), (⟨"HeavyChainsModel", "adds", "(II)V"⟩, 25), (⟨"HeavyChainsModel", "isMarked", "(I)Z"⟩, 25)]
theorem lw_r2 : ∀ q ∈ lw_privs_2, lw_okq q := List.forall_mem_cons.mpr ⟨lw_p16, List.forall_mem_cons.mpr ⟨lw_p17, List.forall_mem_cons.mpr ⟨lw_p18, List.forall_mem_cons.mpr ⟨lw_p19, List.forall_mem_cons.mpr ⟨lw_p20, List.forall_mem_cons.mpr ⟨lw_p21, List.forall_mem_cons.mpr ⟨lw_p22, List.forall_mem_cons.mpr ⟨lw_p23, List.forall_mem_cons.mpr ⟨lw_p24, List.forall_mem_cons.mpr ⟨lw_p25, List.forall_mem_cons.mpr ⟨lw_p26, List.forall_mem_cons.mpr ⟨lw_p27, List.forall_mem_cons.mpr ⟨lw_p28, List.forall_mem_cons.mpr ⟨lw_p29, List.forall_mem_cons.mpr ⟨lw_p30, List.forall_mem_cons.mpr ⟨lw_p31, fun _ h => absurd h List.not_mem_nil⟩⟩⟩⟩⟩⟩⟩⟩⟩⟩⟩⟩⟩⟩⟩⟩
theorem lw_p32 : lw_okq (⟨"HeavyChainsModel", "markedAll", "()I"⟩, 25) := ⟨⟨by decide +kernel, by decide +kernel⟩, List.mem_of_getElem? (i := 663) (by decide +kernel), List.mem_of_getElem? (i := 936) (by decide +kernel), List.mem_of_getElem? (i := 937) (by decide +kernel)⟩
theorem lw_p33 : lw_okq (⟨"HeavyChainsModel", "mostOf", "(ZI)I"⟩, 25) := ⟨⟨by decide +kernel, by decide +kernel⟩, List.mem_of_getElem? (i := 663) (by decide +kernel), List.mem_of_getElem? (i := 964) (by decide +kernel), List.mem_of_getElem? (i := 965) (by decide +kernel)⟩
theorem lw_p34 : lw_okq (⟨"HeavyChainsModel", "chains", "()I"⟩, 25) := ⟨⟨by decide +kernel, by decide +kernel⟩, List.mem_of_getElem? (i := 663) (by decide +kernel), List.mem_of_getElem? (i := 992) (by decide +kernel), List.mem_of_getElem? (i := 993) (by decide +kernel)⟩
def lw_privs_3 : List (MethodName × Nat) := [(⟨"HeavyChainsModel", "markedAll", "()I"⟩, 25), (⟨"HeavyChainsModel", "mostOf", "(ZI)I"⟩, 25), (⟨"HeavyChainsModel", "chains", "()I"⟩, 25)]
theorem lw_r3 : ∀ q ∈ lw_privs_3, lw_okq q := List.forall_mem_cons.mpr ⟨lw_p32, List.forall_mem_cons.mpr ⟨lw_p33, List.forall_mem_cons.mpr ⟨lw_p34, fun _ h => absurd h List.not_mem_nil⟩⟩⟩
def lw_privs : List (MethodName × Nat) := lw_privs_1 ++ (lw_privs_2 ++ (lw_privs_3))
def lw_tbl : List Cond := k2_sels lw_privs ++ tables_1
theorem lw_privs_ok : ∀ q ∈ lw_privs, lw_okq q := by
  show ∀ q ∈ lw_privs_1 ++ (lw_privs_2 ++ (lw_privs_3)), lw_okq q
  exact List.forall_mem_append.mpr ⟨lw_r1, List.forall_mem_append.mpr ⟨lw_r2, lw_r3⟩⟩
end
section
/-! the program as data: an entry of code is (instruction, its length, a, b, c, the places of the words that it needs) -/
abbrev ent : Type := Instr × Nat × Nat × Nat × Int × List Nat
/-- a method: its name, bytes, locals, answer's type, frames and locals that it needs below it, code -/
abbrev minfo : Type := MethodName × ByteArray × Nat × Option FieldType × Nat × Nat × List (Nat × ent)
def mNm (q : minfo) : MethodName := q.1
def mBy (q : minfo) : ByteArray := q.2.1
def mLx (q : minfo) : Nat := q.2.2.1
def mRt (q : minfo) : Option FieldType := q.2.2.2.1
def mFr (q : minfo) : Nat := q.2.2.2.2.1
def mLo (q : minfo) : Nat := q.2.2.2.2.2.1
def mCd (q : minfo) : List (Nat × ent) := q.2.2.2.2.2.2
def eA (e : ent) : Nat := e.2.2.1
def eB (e : ent) : Nat := e.2.2.2.1
def eC (e : ent) : Int := e.2.2.2.2.1
def eP (e : ent) : List Nat := e.2.2.2.2.2
def cn0 : String := "HeavyChains$Accounts"
def ct0 : u_T := fun k => match k with
  | 0 => (cn0, "amount", "[I", true)
  | 1 => (cn0, "facto\x72", "[I", true)
  | _ => (cn0, "shift", "[I", true)
def cf0 : Nat → FieldType := fun k => match k with
  | 0 => .array .int
  | 1 => .array .int
  | _ => .array .int
def cn1 : String := "HeavyChains$Letters"
def ct1 : u_T := fun k => match k with
  | 0 => (cn1, "letters", "[C", true)
  | _ => (cn1, "length", "I", false)
def cf1 : Nat → FieldType := fun k => match k with
  | 0 => .array .char
  | _ => .int
def cn2 : String := "HeavyChains$Marks"
def ct2 : u_T := fun k => match k with
  | _ => (cn2, "isSet", "[Z", true)
def cf2 : Nat → FieldType := fun k => match k with
  | _ => .array .boolean
def cn3 : String := "HeavyChains$Reade\x72"
def ct3 : u_T := fun k => match k with
  | 0 => (cn3, "posts", "I", false)
  | 1 => (cn3, "uppe\x72", "[I", true)
  | _ => (cn3, "told", "LHeavyChains$Accounts;", true)
def cf3 : Nat → FieldType := fun k => match k with
  | 0 => .int
  | 1 => .array .int
  | _ => .object "HeavyChains$Accounts"
def cn4 : String := "HeavyChains$Route"
def ct4 : u_T := fun k => match k with
  | 0 => (cn4, "stops", "[I", true)
  | 1 => (cn4, "length", "I", false)
  | _ => (cn4, "meet", "I", false)
def cf4 : Nat → FieldType := fun k => match k with
  | 0 => .array .int
  | 1 => .int
  | _ => .int
def cn5 : String := "HeavyChains$Shelf"
def ct5 : u_T := fun k => match k with
  | 0 => (cn5, "copies", "[LHeavyChains$Accounts;", true)
  | 1 => (cn5, "held", "I", false)
  | _ => (cn5, "next", "I", false)
def cf5 : Nat → FieldType := fun k => match k with
  | 0 => .array (.object "HeavyChains$Accounts")
  | 1 => .int
  | _ => .int
def cn6 : String := "HeavyChains$Survey"
def ct6 : u_T := fun k => match k with
  | 0 => (cn6, "ones", "[I", true)
  | 1 => (cn6, "reach", "[I", true)
  | 2 => (cn6, "known", "[Z", true)
  | 3 => (cn6, "from", "I", false)
  | 4 => (cn6, "to", "I", false)
  | _ => (cn6, "worth", "I", false)
def cf6 : Nat → FieldType := fun k => match k with
  | 0 => .array .int
  | 1 => .array .int
  | 2 => .array .boolean
  | 3 => .int
  | 4 => .int
  | _ => .int
def cn7 : String := "HeavyChains$Tree"
def ct7 : u_T := fun k => match k with
  | 0 => (cn7, "posts", "I", false)
  | 1 => (cn7, "chains", "I", false)
  | 2 => (cn7, "uppe\x72", "[I", true)
  | 3 => (cn7, "heavy", "[I", true)
  | 4 => (cn7, "size", "[I", true)
  | 5 => (cn7, "place", "[I", true)
  | 6 => (cn7, "row", "[I", true)
  | 7 => (cn7, "head", "[I", true)
  | 8 => (cn7, "depth", "[I", true)
  | _ => (cn7, "free", "[I", true)
def cf7 : Nat → FieldType := fun k => match k with
  | 0 => .int
  | 1 => .int
  | 2 => .array .int
  | 3 => .array .int
  | 4 => .array .int
  | 5 => .array .int
  | 6 => .array .int
  | 7 => .array .int
  | 8 => .array .int
  | _ => .array .int
def cn8 : String := "HeavyChains$Watches"
def ct8 : u_T := fun k => match k with
  | 0 => (cn8, "numbe\x72", "[I", true)
  | 1 => (cn8, "from", "[I", true)
  | 2 => (cn8, "to", "[I", true)
  | 3 => (cn8, "much", "[I", true)
  | 4 => (cn8, "waiting", "I", false)
  | _ => (cn8, "soFa\x72", "I", false)
def cf8 : Nat → FieldType := fun k => match k with
  | 0 => .array .int
  | 1 => .array .int
  | 2 => .array .int
  | 3 => .array .int
  | 4 => .int
  | _ => .int
def cn9 : String := "HeavyChains"
def ct9 : u_T := fun k => match k with
  | 0 => (cn9, "text", "LHeavyChains$Letters;", true)
  | 1 => (cn9, "reade\x72", "LHeavyChains$Reader;", true)
  | 2 => (cn9, "tree", "LHeavyChains$Tree;", true)
  | 3 => (cn9, "accounts", "LHeavyChains$Accounts;", true)
  | 4 => (cn9, "trial", "LHeavyChains$Accounts;", true)
  | 5 => (cn9, "past", "LHeavyChains$Shelf;", true)
  | 6 => (cn9, "kept", "LHeavyChains$Shelf;", true)
  | 7 => (cn9, "route", "LHeavyChains$Route;", true)
  | 8 => (cn9, "survey", "LHeavyChains$Survey;", true)
  | 9 => (cn9, "marks", "LHeavyChains$Marks;", true)
  | _ => (cn9, "watches", "LHeavyChains$Watches;", true)
def cf9 : Nat → FieldType := fun k => match k with
  | 0 => .object "HeavyChains$Letters"
  | 1 => .object "HeavyChains$Reade\x72"
  | 2 => .object "HeavyChains$Tree"
  | 3 => .object "HeavyChains$Accounts"
  | 4 => .object "HeavyChains$Accounts"
  | 5 => .object "HeavyChains$Shelf"
  | 6 => .object "HeavyChains$Shelf"
  | 7 => .object "HeavyChains$Route"
  | 8 => .object "HeavyChains$Survey"
  | 9 => .object "HeavyChains$Marks"
  | _ => .object "HeavyChains$Watches"
def cn10 : String := "HeavyChainsModel"
def ct10 : u_T := fun k => match k with
  | 0 => (cn10, "now", "[I", true)
  | 1 => (cn10, "posts", "I", false)
  | 2 => (cn10, "uppe\x72", "[I", true)
  | 3 => (cn10, "heavy", "[I", true)
  | 4 => (cn10, "size", "[I", true)
  | 5 => (cn10, "placeOf", "[I", true)
  | 6 => (cn10, "head", "[I", true)
  | 7 => (cn10, "above", "[I", true)
  | 8 => (cn10, "atPlace", "[I", true)
  | 9 => (cn10, "laid", "I", false)
  | 10 => (cn10, "text", "[I", true)
  | 11 => (cn10, "written", "I", false)
  | 12 => (cn10, "told", "I", false)
  | 13 => (cn10, "way", "[I", true)
  | 14 => (cn10, "wayMany", "I", false)
  | 15 => (cn10, "meet", "I", false)
  | 16 => (cn10, "ahead", "[I", true)
  | 17 => (cn10, "undos", "I", false)
  | 18 => (cn10, "marks", "J", false)
  | 19 => (cn10, "wait", "[I", true)
  | 20 => (cn10, "waiting", "I", false)
  | 21 => (cn10, "watches", "I", false)
  | 22 => (cn10, "aside", "[I", true)
  | 23 => (cn10, "kept", "[I", true)
  | _ => (cn10, "keeps", "I", false)
def cf10 : Nat → FieldType := fun k => match k with
  | 0 => .array .int
  | 1 => .int
  | 2 => .array .int
  | 3 => .array .int
  | 4 => .array .int
  | 5 => .array .int
  | 6 => .array .int
  | 7 => .array .int
  | 8 => .array .int
  | 9 => .int
  | 10 => .array .int
  | 11 => .int
  | 12 => .int
  | 13 => .array .int
  | 14 => .int
  | 15 => .int
  | 16 => .array .int
  | 17 => .int
  | 18 => .long
  | 19 => .array .int
  | 20 => .int
  | 21 => .int
  | 22 => .array .int
  | 23 => .array .int
  | _ => .int
abbrev classes : List vw_C := [(cn0, ct0, 3), (cn1, ct1, 2), (cn2, ct2, 1), (cn3, ct3, 3), (cn4, ct4, 3), (cn5, ct5, 3), (cn6, ct6, 6), (cn7, ct7, 10), (cn8, ct8, 6), (cn9, ct9, 11), (cn10, ct10, 25)]
theorem cm0 : ∀ a, a < 3 → ∀ b, b < 3 → a ≠ b → (ct0 a).2.1 ≠ (ct0 b).2.1 := by decide +kernel
theorem cp0 : ∀ k, k < 3 → parseFieldDescriptor (ct0 k).2.2.1 = some (cf0 k) := by decide +kernel
theorem cw0 : ∀ w ∈ u_ws cn0 ct0 3, w ∈ lw_tbl := by
  intro w hw
  have h : u_ws cn0 ct0 3 = [101, 103, 105].filterMap (fun i => lw_tbl[i]?) := by decide +kernel
  rw [h] at hw
  obtain ⟨i, -, hi⟩ := List.mem_filterMap.mp hw
  exact List.mem_of_getElem? hi
theorem cm1 : ∀ a, a < 2 → ∀ b, b < 2 → a ≠ b → (ct1 a).2.1 ≠ (ct1 b).2.1 := by decide +kernel
theorem cp1 : ∀ k, k < 2 → parseFieldDescriptor (ct1 k).2.2.1 = some (cf1 k) := by decide +kernel
theorem cw1 : ∀ w ∈ u_ws cn1 ct1 2, w ∈ lw_tbl := by
  intro w hw
  have h : u_ws cn1 ct1 2 = [72, 74].filterMap (fun i => lw_tbl[i]?) := by decide +kernel
  rw [h] at hw
  obtain ⟨i, -, hi⟩ := List.mem_filterMap.mp hw
  exact List.mem_of_getElem? hi
theorem cm2 : ∀ a, a < 1 → ∀ b, b < 1 → a ≠ b → (ct2 a).2.1 ≠ (ct2 b).2.1 := by decide +kernel
theorem cp2 : ∀ k, k < 1 → parseFieldDescriptor (ct2 k).2.2.1 = some (cf2 k) := by decide +kernel
theorem cw2 : ∀ w ∈ u_ws cn2 ct2 1, w ∈ lw_tbl := by
  intro w hw
  have h : u_ws cn2 ct2 1 = [261].filterMap (fun i => lw_tbl[i]?) := by decide +kernel
  rw [h] at hw
  obtain ⟨i, -, hi⟩ := List.mem_filterMap.mp hw
  exact List.mem_of_getElem? hi
theorem cm3 : ∀ a, a < 3 → ∀ b, b < 3 → a ≠ b → (ct3 a).2.1 ≠ (ct3 b).2.1 := by decide +kernel
theorem cp3 : ∀ k, k < 3 → parseFieldDescriptor (ct3 k).2.2.1 = some (cf3 k) := by decide +kernel
theorem cw3 : ∀ w ∈ u_ws cn3 ct3 3, w ∈ lw_tbl := by
  intro w hw
  have h : u_ws cn3 ct3 3 = [115, 117, 119].filterMap (fun i => lw_tbl[i]?) := by decide +kernel
  rw [h] at hw
  obtain ⟨i, -, hi⟩ := List.mem_filterMap.mp hw
  exact List.mem_of_getElem? hi
theorem cm4 : ∀ a, a < 3 → ∀ b, b < 3 → a ≠ b → (ct4 a).2.1 ≠ (ct4 b).2.1 := by decide +kernel
theorem cp4 : ∀ k, k < 3 → parseFieldDescriptor (ct4 k).2.2.1 = some (cf4 k) := by decide +kernel
theorem cw4 : ∀ w ∈ u_ws cn4 ct4 3, w ∈ lw_tbl := by
  intro w hw
  have h : u_ws cn4 ct4 3 = [218, 220, 222].filterMap (fun i => lw_tbl[i]?) := by decide +kernel
  rw [h] at hw
  obtain ⟨i, -, hi⟩ := List.mem_filterMap.mp hw
  exact List.mem_of_getElem? hi
theorem cm5 : ∀ a, a < 3 → ∀ b, b < 3 → a ≠ b → (ct5 a).2.1 ≠ (ct5 b).2.1 := by decide +kernel
theorem cp5 : ∀ k, k < 3 → parseFieldDescriptor (ct5 k).2.2.1 = some (cf5 k) := by decide +kernel
theorem cw5 : ∀ w ∈ u_ws cn5 ct5 3, w ∈ lw_tbl := by
  intro w hw
  have h : u_ws cn5 ct5 3 = [197, 199, 201].filterMap (fun i => lw_tbl[i]?) := by decide +kernel
  rw [h] at hw
  obtain ⟨i, -, hi⟩ := List.mem_filterMap.mp hw
  exact List.mem_of_getElem? hi
theorem cm6 : ∀ a, a < 6 → ∀ b, b < 6 → a ≠ b → (ct6 a).2.1 ≠ (ct6 b).2.1 := by decide +kernel
theorem cp6 : ∀ k, k < 6 → parseFieldDescriptor (ct6 k).2.2.1 = some (cf6 k) := by decide +kernel
theorem cw6 : ∀ w ∈ u_ws cn6 ct6 6, w ∈ lw_tbl := by
  intro w hw
  have h : u_ws cn6 ct6 6 = [240, 242, 244, 246, 248, 250].filterMap (fun i => lw_tbl[i]?) := by decide +kernel
  rw [h] at hw
  obtain ⟨i, -, hi⟩ := List.mem_filterMap.mp hw
  exact List.mem_of_getElem? hi
theorem cm7 : ∀ a, a < 10 → ∀ b, b < 10 → a ≠ b → (ct7 a).2.1 ≠ (ct7 b).2.1 := by decide +kernel
theorem cp7 : ∀ k, k < 10 → parseFieldDescriptor (ct7 k).2.2.1 = some (cf7 k) := by decide +kernel
theorem cw7 : ∀ w ∈ u_ws cn7 ct7 10, w ∈ lw_tbl := by
  intro w hw
  have h : u_ws cn7 ct7 10 = [158, 160, 162, 164, 166, 168, 170, 172, 174, 176].filterMap (fun i => lw_tbl[i]?) := by decide +kernel
  rw [h] at hw
  obtain ⟨i, -, hi⟩ := List.mem_filterMap.mp hw
  exact List.mem_of_getElem? hi
theorem cm8 : ∀ a, a < 6 → ∀ b, b < 6 → a ≠ b → (ct8 a).2.1 ≠ (ct8 b).2.1 := by decide +kernel
theorem cp8 : ∀ k, k < 6 → parseFieldDescriptor (ct8 k).2.2.1 = some (cf8 k) := by decide +kernel
theorem cw8 : ∀ w ∈ u_ws cn8 ct8 6, w ∈ lw_tbl := by
  intro w hw
  have h : u_ws cn8 ct8 6 = [279, 281, 283, 285, 287, 289].filterMap (fun i => lw_tbl[i]?) := by decide +kernel
  rw [h] at hw
  obtain ⟨i, -, hi⟩ := List.mem_filterMap.mp hw
  exact List.mem_of_getElem? hi
theorem cm9 : ∀ a, a < 11 → ∀ b, b < 11 → a ≠ b → (ct9 a).2.1 ≠ (ct9 b).2.1 := by decide +kernel
theorem cp9 : ∀ k, k < 11 → parseFieldDescriptor (ct9 k).2.2.1 = some (cf9 k) := by decide +kernel
theorem cw9 : ∀ w ∈ u_ws cn9 ct9 11, w ∈ lw_tbl := by
  intro w hw
  have h : u_ws cn9 ct9 11 = [420, 422, 424, 426, 428, 430, 432, 434, 436, 438, 440].filterMap (fun i => lw_tbl[i]?) := by decide +kernel
  rw [h] at hw
  obtain ⟨i, -, hi⟩ := List.mem_filterMap.mp hw
  exact List.mem_of_getElem? hi
theorem cm10 : ∀ a, a < 25 → ∀ b, b < 25 → a ≠ b → (ct10 a).2.1 ≠ (ct10 b).2.1 := by decide +kernel
theorem cp10 : ∀ k, k < 25 → parseFieldDescriptor (ct10 k).2.2.1 = some (cf10 k) := by decide +kernel
theorem cw10 : ∀ w ∈ u_ws cn10 ct10 25, w ∈ lw_tbl := by
  intro w hw
  have h : u_ws cn10 ct10 25 = [789, 791, 793, 795, 797, 799, 801, 803, 805, 807, 809, 811, 813, 815, 817, 819, 821, 823, 825, 827, 829, 831, 833, 835, 837].filterMap (fun i => lw_tbl[i]?) := by decide +kernel
  rw [h] at hw
  obtain ⟨i, -, hi⟩ := List.mem_filterMap.mp hw
  exact List.mem_of_getElem? hi
def mt0_0 : List (Nat × ent) := [(0, .new 7, 3, 9, 0, 0, [53, 54, 36]),
  (3, .dup, 1, 0, 0, 0, []),
  (4, .invokespecial 9, 3, 52, 1, 0, [55, 56, 36]),
  (7, .astore_n 1, 1, 0, 0, 0, []),
  (8, .new 10, 3, 10, 0, 0, [697, 698, 52]),
  (11, .dup, 1, 0, 0, 0, []),
  (12, .invokespecial 12, 3, 89, 1, 0, [699, 700, 52]),
  (15, .astore_n 2, 1, 0, 0, 0, []),
  (16, .iconst 0, 1, 0, 0, 0, []),
  (17, .istore_n 3, 1, 0, 0, 0, []),
  (18, .iload_n 3, 1, 0, 0, 0, []),
  (19, .aload_n 0, 1, 0, 0, 0, []),
  (20, .arraylength, 1, 0, 0, 0, []),
  (21, .iconst 5, 1, 0, 0, 0, []),
  (22, .isub, 1, 0, 0, 0, []),
  (23, .if_icmp .gt 937, 3, 960, 0, 0, []),
  (26, .aload_n 0, 1, 0, 0, 0, []),
  (27, .iload_n 3, 1, 0, 0, 0, []),
  (28, .iaload, 1, 0, 0, 0, []),
  (29, .bipush 31, 2, 0, 0, 0, []),
  (31, .iand, 1, 0, 0, 0, []),
  (32, .tableswitch 922 0 27 #[128, 151, 164, 177, 190, 223, 246, 299, 342, 375, 418, 431, 474, 517, 560, 593, 636, 659, 682, 705, 748, 761, 784, 807, 830, 873, 886, 899], 128, 0, 0, 0, []),
  (160, .aload_n 1, 1, 0, 0, 0, []),
  (161, .aload_n 0, 1, 0, 0, 0, []),
  (162, .iload_n 3, 1, 0, 0, 0, []),
  (163, .iconst 1, 1, 0, 0, 0, []),
  (164, .iadd, 1, 0, 0, 0, []),
  (165, .iaload, 1, 0, 0, 0, []),
  (166, .invokevirtual 13, 3, 53, 2, 9, [444, 445, 446, 36]),
  (169, .aload_n 2, 1, 0, 0, 0, []),
  (170, .aload_n 0, 1, 0, 0, 0, []),
  (171, .iload_n 3, 1, 0, 0, 0, []),
  (172, .iconst 1, 1, 0, 0, 0, []),
  (173, .iadd, 1, 0, 0, 0, []),
  (174, .iaload, 1, 0, 0, 0, []),
  (175, .invokevirtual 17, 3, 92, 2, 10, [840, 710, 711, 52]),
  (178, .if_icmp .eq 776, 3, 954, 0, 0, []),
  (181, .iconst 0, 1, 0, 0, 0, []),
  (182, .ireturn, 1, 0, 0, 0, []),
  (183, .aload_n 1, 1, 0, 0, 0, [])]
def mt0_1 : List (Nat × ent) := [(184, .invokevirtual 18, 3, 54, 1, 9, [451, 452, 453, 36]),
  (187, .aload_n 2, 1, 0, 0, 0, []),
  (188, .invokevirtual 22, 3, 93, 1, 10, [841, 842, 843, 52]),
  (191, .if_icmp .eq 763, 3, 954, 0, 0, []),
  (194, .iconst 0, 1, 0, 0, 0, []),
  (195, .ireturn, 1, 0, 0, 0, []),
  (196, .aload_n 1, 1, 0, 0, 0, []),
  (197, .invokevirtual 23, 3, 55, 1, 9, [455, 456, 457, 36]),
  (200, .aload_n 2, 1, 0, 0, 0, []),
  (201, .invokevirtual 26, 3, 98, 1, 10, [845, 730, 731, 52]),
  (204, .if_icmp .eq 750, 3, 954, 0, 0, []),
  (207, .iconst 0, 1, 0, 0, 0, []),
  (208, .ireturn, 1, 0, 0, 0, []),
  (209, .aload_n 1, 1, 0, 0, 0, []),
  (210, .invokevirtual 27, 3, 56, 1, 9, [459, 460, 461, 36]),
  (213, .aload_n 2, 1, 0, 0, 0, []),
  (214, .invokevirtual 30, 3, 100, 1, 10, [846, 726, 727, 52]),
  (217, .if_icmp .eq 737, 3, 954, 0, 0, []),
  (220, .iconst 0, 1, 0, 0, 0, []),
  (221, .ireturn, 1, 0, 0, 0, []),
  (222, .aload_n 1, 1, 0, 0, 0, []),
  (223, .aload_n 0, 1, 0, 0, 0, []),
  (224, .iload_n 3, 1, 0, 0, 0, []),
  (225, .iconst 1, 1, 0, 0, 0, []),
  (226, .iadd, 1, 0, 0, 0, []),
  (227, .iaload, 1, 0, 0, 0, []),
  (228, .aload_n 0, 1, 0, 0, 0, []),
  (229, .iload_n 3, 1, 0, 0, 0, []),
  (230, .iconst 2, 1, 0, 0, 0, []),
  (231, .iadd, 1, 0, 0, 0, []),
  (232, .iaload, 1, 0, 0, 0, []),
  (233, .invokevirtual 31, 3, 57, 3, 9, [463, 464, 465, 36]),
  (236, .aload_n 2, 1, 0, 0, 0, []),
  (237, .aload_n 0, 1, 0, 0, 0, []),
  (238, .iload_n 3, 1, 0, 0, 0, []),
  (239, .iconst 1, 1, 0, 0, 0, []),
  (240, .iadd, 1, 0, 0, 0, []),
  (241, .iaload, 1, 0, 0, 0, []),
  (242, .aload_n 0, 1, 0, 0, 0, []),
  (243, .iload_n 3, 1, 0, 0, 0, [])]
def mt0_2 : List (Nat × ent) := [(244, .iconst 2, 1, 0, 0, 0, []),
  (245, .iadd, 1, 0, 0, 0, []),
  (246, .iaload, 1, 0, 0, 0, []),
  (247, .invokevirtual 35, 3, 103, 3, 10, [847, 848, 849, 52]),
  (250, .if_icmp .eq 704, 3, 954, 0, 0, []),
  (253, .iconst 0, 1, 0, 0, 0, []),
  (254, .ireturn, 1, 0, 0, 0, []),
  (255, .aload_n 1, 1, 0, 0, 0, []),
  (256, .aload_n 0, 1, 0, 0, 0, []),
  (257, .iload_n 3, 1, 0, 0, 0, []),
  (258, .iconst 1, 1, 0, 0, 0, []),
  (259, .iadd, 1, 0, 0, 0, []),
  (260, .iaload, 1, 0, 0, 0, []),
  (261, .invokevirtual 36, 3, 58, 2, 9, [472, 473, 474, 36]),
  (264, .aload_n 2, 1, 0, 0, 0, []),
  (265, .aload_n 0, 1, 0, 0, 0, []),
  (266, .iload_n 3, 1, 0, 0, 0, []),
  (267, .iconst 1, 1, 0, 0, 0, []),
  (268, .iadd, 1, 0, 0, 0, []),
  (269, .iaload, 1, 0, 0, 0, []),
  (270, .invokevirtual 39, 3, 104, 2, 10, [856, 857, 858, 52]),
  (273, .if_icmp .eq 681, 3, 954, 0, 0, []),
  (276, .iconst 0, 1, 0, 0, 0, []),
  (277, .ireturn, 1, 0, 0, 0, []),
  (278, .aload_n 1, 1, 0, 0, 0, []),
  (279, .aload_n 0, 1, 0, 0, 0, []),
  (280, .iload_n 3, 1, 0, 0, 0, []),
  (281, .iconst 1, 1, 0, 0, 0, []),
  (282, .iadd, 1, 0, 0, 0, []),
  (283, .iaload, 1, 0, 0, 0, []),
  (284, .aload_n 0, 1, 0, 0, 0, []),
  (285, .iload_n 3, 1, 0, 0, 0, []),
  (286, .iconst 2, 1, 0, 0, 0, []),
  (287, .iadd, 1, 0, 0, 0, []),
  (288, .iaload, 1, 0, 0, 0, []),
  (289, .aload_n 0, 1, 0, 0, 0, []),
  (290, .iload_n 3, 1, 0, 0, 0, []),
  (291, .iconst 3, 1, 0, 0, 0, []),
  (292, .iadd, 1, 0, 0, 0, []),
  (293, .iaload, 1, 0, 0, 0, [])]
def mt0_3 : List (Nat × ent) := [(294, .aload_n 0, 1, 0, 0, 0, []),
  (295, .iload_n 3, 1, 0, 0, 0, []),
  (296, .iconst 4, 1, 0, 0, 0, []),
  (297, .iadd, 1, 0, 0, 0, []),
  (298, .iaload, 1, 0, 0, 0, []),
  (299, .invokevirtual 40, 3, 59, 5, 9, [476, 477, 478, 36]),
  (302, .aload_n 2, 1, 0, 0, 0, []),
  (303, .aload_n 0, 1, 0, 0, 0, []),
  (304, .iload_n 3, 1, 0, 0, 0, []),
  (305, .iconst 1, 1, 0, 0, 0, []),
  (306, .iadd, 1, 0, 0, 0, []),
  (307, .iaload, 1, 0, 0, 0, []),
  (308, .aload_n 0, 1, 0, 0, 0, []),
  (309, .iload_n 3, 1, 0, 0, 0, []),
  (310, .iconst 2, 1, 0, 0, 0, []),
  (311, .iadd, 1, 0, 0, 0, []),
  (312, .iaload, 1, 0, 0, 0, []),
  (313, .aload_n 0, 1, 0, 0, 0, []),
  (314, .iload_n 3, 1, 0, 0, 0, []),
  (315, .iconst 3, 1, 0, 0, 0, []),
  (316, .iadd, 1, 0, 0, 0, []),
  (317, .iaload, 1, 0, 0, 0, []),
  (318, .aload_n 0, 1, 0, 0, 0, []),
  (319, .iload_n 3, 1, 0, 0, 0, []),
  (320, .iconst 4, 1, 0, 0, 0, []),
  (321, .iadd, 1, 0, 0, 0, []),
  (322, .iaload, 1, 0, 0, 0, []),
  (323, .invokevirtual 44, 3, 123, 5, 10, [910, 911, 912, 52]),
  (326, .if_icmp .eq 628, 3, 954, 0, 0, []),
  (329, .iconst 0, 1, 0, 0, 0, []),
  (330, .ireturn, 1, 0, 0, 0, []),
  (331, .aload_n 1, 1, 0, 0, 0, []),
  (332, .aload_n 0, 1, 0, 0, 0, []),
  (333, .iload_n 3, 1, 0, 0, 0, []),
  (334, .iconst 1, 1, 0, 0, 0, []),
  (335, .iadd, 1, 0, 0, 0, []),
  (336, .iaload, 1, 0, 0, 0, []),
  (337, .aload_n 0, 1, 0, 0, 0, []),
  (338, .iload_n 3, 1, 0, 0, 0, []),
  (339, .iconst 2, 1, 0, 0, 0, [])]
def mt0_4 : List (Nat × ent) := [(340, .iadd, 1, 0, 0, 0, []),
  (341, .iaload, 1, 0, 0, 0, []),
  (342, .aload_n 0, 1, 0, 0, 0, []),
  (343, .iload_n 3, 1, 0, 0, 0, []),
  (344, .iconst 3, 1, 0, 0, 0, []),
  (345, .iadd, 1, 0, 0, 0, []),
  (346, .iaload, 1, 0, 0, 0, []),
  (347, .invokevirtual 45, 3, 60, 4, 9, [518, 519, 520, 36]),
  (350, .aload_n 2, 1, 0, 0, 0, []),
  (351, .aload_n 0, 1, 0, 0, 0, []),
  (352, .iload_n 3, 1, 0, 0, 0, []),
  (353, .iconst 1, 1, 0, 0, 0, []),
  (354, .iadd, 1, 0, 0, 0, []),
  (355, .iaload, 1, 0, 0, 0, []),
  (356, .aload_n 0, 1, 0, 0, 0, []),
  (357, .iload_n 3, 1, 0, 0, 0, []),
  (358, .iconst 2, 1, 0, 0, 0, []),
  (359, .iadd, 1, 0, 0, 0, []),
  (360, .iaload, 1, 0, 0, 0, []),
  (361, .aload_n 0, 1, 0, 0, 0, []),
  (362, .iload_n 3, 1, 0, 0, 0, []),
  (363, .iconst 3, 1, 0, 0, 0, []),
  (364, .iadd, 1, 0, 0, 0, []),
  (365, .iaload, 1, 0, 0, 0, []),
  (366, .invokevirtual 49, 3, 124, 4, 10, [941, 942, 943, 52]),
  (369, .if_icmp .eq 585, 3, 954, 0, 0, []),
  (372, .iconst 0, 1, 0, 0, 0, []),
  (373, .ireturn, 1, 0, 0, 0, []),
  (374, .aload_n 1, 1, 0, 0, 0, []),
  (375, .aload_n 0, 1, 0, 0, 0, []),
  (376, .iload_n 3, 1, 0, 0, 0, []),
  (377, .iconst 1, 1, 0, 0, 0, []),
  (378, .iadd, 1, 0, 0, 0, []),
  (379, .iaload, 1, 0, 0, 0, []),
  (380, .aload_n 0, 1, 0, 0, 0, []),
  (381, .iload_n 3, 1, 0, 0, 0, []),
  (382, .iconst 2, 1, 0, 0, 0, []),
  (383, .iadd, 1, 0, 0, 0, []),
  (384, .iaload, 1, 0, 0, 0, []),
  (385, .invokevirtual 50, 3, 61, 3, 9, [526, 527, 528, 36])]
def mt0_5 : List (Nat × ent) := [(388, .aload_n 2, 1, 0, 0, 0, []),
  (389, .aload_n 0, 1, 0, 0, 0, []),
  (390, .iload_n 3, 1, 0, 0, 0, []),
  (391, .iconst 1, 1, 0, 0, 0, []),
  (392, .iadd, 1, 0, 0, 0, []),
  (393, .iaload, 1, 0, 0, 0, []),
  (394, .aload_n 0, 1, 0, 0, 0, []),
  (395, .iload_n 3, 1, 0, 0, 0, []),
  (396, .iconst 2, 1, 0, 0, 0, []),
  (397, .iadd, 1, 0, 0, 0, []),
  (398, .iaload, 1, 0, 0, 0, []),
  (399, .invokevirtual 53, 3, 125, 3, 10, [945, 946, 947, 52]),
  (402, .if_icmp .eq 552, 3, 954, 0, 0, []),
  (405, .iconst 0, 1, 0, 0, 0, []),
  (406, .ireturn, 1, 0, 0, 0, []),
  (407, .aload_n 1, 1, 0, 0, 0, []),
  (408, .aload_n 0, 1, 0, 0, 0, []),
  (409, .iload_n 3, 1, 0, 0, 0, []),
  (410, .iconst 1, 1, 0, 0, 0, []),
  (411, .iadd, 1, 0, 0, 0, []),
  (412, .iaload, 1, 0, 0, 0, []),
  (413, .aload_n 0, 1, 0, 0, 0, []),
  (414, .iload_n 3, 1, 0, 0, 0, []),
  (415, .iconst 2, 1, 0, 0, 0, []),
  (416, .iadd, 1, 0, 0, 0, []),
  (417, .iaload, 1, 0, 0, 0, []),
  (418, .aload_n 0, 1, 0, 0, 0, []),
  (419, .iload_n 3, 1, 0, 0, 0, []),
  (420, .iconst 3, 1, 0, 0, 0, []),
  (421, .iadd, 1, 0, 0, 0, []),
  (422, .iaload, 1, 0, 0, 0, []),
  (423, .invokevirtual 54, 3, 62, 4, 9, [530, 531, 532, 36]),
  (426, .aload_n 2, 1, 0, 0, 0, []),
  (427, .aload_n 0, 1, 0, 0, 0, []),
  (428, .iload_n 3, 1, 0, 0, 0, []),
  (429, .iconst 1, 1, 0, 0, 0, []),
  (430, .iadd, 1, 0, 0, 0, []),
  (431, .iaload, 1, 0, 0, 0, []),
  (432, .aload_n 0, 1, 0, 0, 0, []),
  (433, .iload_n 3, 1, 0, 0, 0, [])]
def mt0_6 : List (Nat × ent) := [(434, .iconst 2, 1, 0, 0, 0, []),
  (435, .iadd, 1, 0, 0, 0, []),
  (436, .iaload, 1, 0, 0, 0, []),
  (437, .aload_n 0, 1, 0, 0, 0, []),
  (438, .iload_n 3, 1, 0, 0, 0, []),
  (439, .iconst 3, 1, 0, 0, 0, []),
  (440, .iadd, 1, 0, 0, 0, []),
  (441, .iaload, 1, 0, 0, 0, []),
  (442, .invokevirtual 57, 3, 126, 4, 10, [949, 950, 951, 52]),
  (445, .if_icmp .eq 509, 3, 954, 0, 0, []),
  (448, .iconst 0, 1, 0, 0, 0, []),
  (449, .ireturn, 1, 0, 0, 0, []),
  (450, .aload_n 1, 1, 0, 0, 0, []),
  (451, .invokevirtual 58, 3, 63, 1, 9, [534, 535, 536, 36]),
  (454, .aload_n 2, 1, 0, 0, 0, []),
  (455, .invokevirtual 61, 3, 127, 1, 10, [954, 955, 956, 52]),
  (458, .if_icmp .eq 496, 3, 954, 0, 0, []),
  (461, .iconst 0, 1, 0, 0, 0, []),
  (462, .ireturn, 1, 0, 0, 0, []),
  (463, .aload_n 1, 1, 0, 0, 0, []),
  (464, .aload_n 0, 1, 0, 0, 0, []),
  (465, .iload_n 3, 1, 0, 0, 0, []),
  (466, .iconst 1, 1, 0, 0, 0, []),
  (467, .iadd, 1, 0, 0, 0, []),
  (468, .iaload, 1, 0, 0, 0, []),
  (469, .aload_n 0, 1, 0, 0, 0, []),
  (470, .iload_n 3, 1, 0, 0, 0, []),
  (471, .iconst 2, 1, 0, 0, 0, []),
  (472, .iadd, 1, 0, 0, 0, []),
  (473, .iaload, 1, 0, 0, 0, []),
  (474, .aload_n 0, 1, 0, 0, 0, []),
  (475, .iload_n 3, 1, 0, 0, 0, []),
  (476, .iconst 3, 1, 0, 0, 0, []),
  (477, .iadd, 1, 0, 0, 0, []),
  (478, .iaload, 1, 0, 0, 0, []),
  (479, .invokevirtual 62, 3, 64, 4, 9, [542, 543, 544, 36]),
  (482, .aload_n 2, 1, 0, 0, 0, []),
  (483, .aload_n 0, 1, 0, 0, 0, []),
  (484, .iload_n 3, 1, 0, 0, 0, []),
  (485, .iconst 1, 1, 0, 0, 0, [])]
def mt0_7 : List (Nat × ent) := [(486, .iadd, 1, 0, 0, 0, []),
  (487, .iaload, 1, 0, 0, 0, []),
  (488, .aload_n 0, 1, 0, 0, 0, []),
  (489, .iload_n 3, 1, 0, 0, 0, []),
  (490, .iconst 2, 1, 0, 0, 0, []),
  (491, .iadd, 1, 0, 0, 0, []),
  (492, .iaload, 1, 0, 0, 0, []),
  (493, .aload_n 0, 1, 0, 0, 0, []),
  (494, .iload_n 3, 1, 0, 0, 0, []),
  (495, .iconst 3, 1, 0, 0, 0, []),
  (496, .iadd, 1, 0, 0, 0, []),
  (497, .iaload, 1, 0, 0, 0, []),
  (498, .invokevirtual 65, 3, 113, 4, 10, [860, 861, 862, 52]),
  (501, .if_icmp .eq 453, 3, 954, 0, 0, []),
  (504, .iconst 0, 1, 0, 0, 0, []),
  (505, .ireturn, 1, 0, 0, 0, []),
  (506, .aload_n 1, 1, 0, 0, 0, []),
  (507, .aload_n 0, 1, 0, 0, 0, []),
  (508, .iload_n 3, 1, 0, 0, 0, []),
  (509, .iconst 1, 1, 0, 0, 0, []),
  (510, .iadd, 1, 0, 0, 0, []),
  (511, .iaload, 1, 0, 0, 0, []),
  (512, .aload_n 0, 1, 0, 0, 0, []),
  (513, .iload_n 3, 1, 0, 0, 0, []),
  (514, .iconst 2, 1, 0, 0, 0, []),
  (515, .iadd, 1, 0, 0, 0, []),
  (516, .iaload, 1, 0, 0, 0, []),
  (517, .aload_n 0, 1, 0, 0, 0, []),
  (518, .iload_n 3, 1, 0, 0, 0, []),
  (519, .iconst 3, 1, 0, 0, 0, []),
  (520, .iadd, 1, 0, 0, 0, []),
  (521, .iaload, 1, 0, 0, 0, []),
  (522, .invokevirtual 66, 3, 65, 4, 9, [567, 568, 569, 36]),
  (525, .aload_n 2, 1, 0, 0, 0, []),
  (526, .aload_n 0, 1, 0, 0, 0, []),
  (527, .iload_n 3, 1, 0, 0, 0, []),
  (528, .iconst 1, 1, 0, 0, 0, []),
  (529, .iadd, 1, 0, 0, 0, []),
  (530, .iaload, 1, 0, 0, 0, []),
  (531, .aload_n 0, 1, 0, 0, 0, [])]
def mt0_8 : List (Nat × ent) := [(532, .iload_n 3, 1, 0, 0, 0, []),
  (533, .iconst 2, 1, 0, 0, 0, []),
  (534, .iadd, 1, 0, 0, 0, []),
  (535, .iaload, 1, 0, 0, 0, []),
  (536, .aload_n 0, 1, 0, 0, 0, []),
  (537, .iload_n 3, 1, 0, 0, 0, []),
  (538, .iconst 3, 1, 0, 0, 0, []),
  (539, .iadd, 1, 0, 0, 0, []),
  (540, .iaload, 1, 0, 0, 0, []),
  (541, .invokevirtual 69, 3, 114, 4, 10, [892, 893, 894, 52]),
  (544, .if_icmp .eq 410, 3, 954, 0, 0, []),
  (547, .iconst 0, 1, 0, 0, 0, []),
  (548, .ireturn, 1, 0, 0, 0, []),
  (549, .aload_n 1, 1, 0, 0, 0, []),
  (550, .aload_n 0, 1, 0, 0, 0, []),
  (551, .iload_n 3, 1, 0, 0, 0, []),
  (552, .iconst 1, 1, 0, 0, 0, []),
  (553, .iadd, 1, 0, 0, 0, []),
  (554, .iaload, 1, 0, 0, 0, []),
  (555, .aload_n 0, 1, 0, 0, 0, []),
  (556, .iload_n 3, 1, 0, 0, 0, []),
  (557, .iconst 2, 1, 0, 0, 0, []),
  (558, .iadd, 1, 0, 0, 0, []),
  (559, .iaload, 1, 0, 0, 0, []),
  (560, .aload_n 0, 1, 0, 0, 0, []),
  (561, .iload_n 3, 1, 0, 0, 0, []),
  (562, .iconst 3, 1, 0, 0, 0, []),
  (563, .iadd, 1, 0, 0, 0, []),
  (564, .iaload, 1, 0, 0, 0, []),
  (565, .invokevirtual 70, 3, 66, 4, 9, [571, 572, 573, 36]),
  (568, .aload_n 2, 1, 0, 0, 0, []),
  (569, .aload_n 0, 1, 0, 0, 0, []),
  (570, .iload_n 3, 1, 0, 0, 0, []),
  (571, .iconst 1, 1, 0, 0, 0, []),
  (572, .iadd, 1, 0, 0, 0, []),
  (573, .iaload, 1, 0, 0, 0, []),
  (574, .aload_n 0, 1, 0, 0, 0, []),
  (575, .iload_n 3, 1, 0, 0, 0, []),
  (576, .iconst 2, 1, 0, 0, 0, []),
  (577, .iadd, 1, 0, 0, 0, [])]
def mt0_9 : List (Nat × ent) := [(578, .iaload, 1, 0, 0, 0, []),
  (579, .aload_n 0, 1, 0, 0, 0, []),
  (580, .iload_n 3, 1, 0, 0, 0, []),
  (581, .iconst 3, 1, 0, 0, 0, []),
  (582, .iadd, 1, 0, 0, 0, []),
  (583, .iaload, 1, 0, 0, 0, []),
  (584, .invokevirtual 73, 3, 115, 4, 10, [896, 897, 898, 52]),
  (587, .if_icmp .eq 367, 3, 954, 0, 0, []),
  (590, .iconst 0, 1, 0, 0, 0, []),
  (591, .ireturn, 1, 0, 0, 0, []),
  (592, .aload_n 1, 1, 0, 0, 0, []),
  (593, .aload_n 0, 1, 0, 0, 0, []),
  (594, .iload_n 3, 1, 0, 0, 0, []),
  (595, .iconst 1, 1, 0, 0, 0, []),
  (596, .iadd, 1, 0, 0, 0, []),
  (597, .iaload, 1, 0, 0, 0, []),
  (598, .aload_n 0, 1, 0, 0, 0, []),
  (599, .iload_n 3, 1, 0, 0, 0, []),
  (600, .iconst 2, 1, 0, 0, 0, []),
  (601, .iadd, 1, 0, 0, 0, []),
  (602, .iaload, 1, 0, 0, 0, []),
  (603, .invokevirtual 74, 3, 67, 3, 9, [579, 580, 581, 36]),
  (606, .aload_n 2, 1, 0, 0, 0, []),
  (607, .aload_n 0, 1, 0, 0, 0, []),
  (608, .iload_n 3, 1, 0, 0, 0, []),
  (609, .iconst 1, 1, 0, 0, 0, []),
  (610, .iadd, 1, 0, 0, 0, []),
  (611, .iaload, 1, 0, 0, 0, []),
  (612, .aload_n 0, 1, 0, 0, 0, []),
  (613, .iload_n 3, 1, 0, 0, 0, []),
  (614, .iconst 2, 1, 0, 0, 0, []),
  (615, .iadd, 1, 0, 0, 0, []),
  (616, .iaload, 1, 0, 0, 0, []),
  (617, .invokevirtual 77, 3, 116, 3, 10, [901, 902, 903, 52]),
  (620, .if_icmp .eq 334, 3, 954, 0, 0, []),
  (623, .iconst 0, 1, 0, 0, 0, []),
  (624, .ireturn, 1, 0, 0, 0, []),
  (625, .aload_n 1, 1, 0, 0, 0, []),
  (626, .aload_n 0, 1, 0, 0, 0, []),
  (627, .iload_n 3, 1, 0, 0, 0, [])]
def mt0_10 : List (Nat × ent) := [(628, .iconst 1, 1, 0, 0, 0, []),
  (629, .iadd, 1, 0, 0, 0, []),
  (630, .iaload, 1, 0, 0, 0, []),
  (631, .aload_n 0, 1, 0, 0, 0, []),
  (632, .iload_n 3, 1, 0, 0, 0, []),
  (633, .iconst 2, 1, 0, 0, 0, []),
  (634, .iadd, 1, 0, 0, 0, []),
  (635, .iaload, 1, 0, 0, 0, []),
  (636, .aload_n 0, 1, 0, 0, 0, []),
  (637, .iload_n 3, 1, 0, 0, 0, []),
  (638, .iconst 3, 1, 0, 0, 0, []),
  (639, .iadd, 1, 0, 0, 0, []),
  (640, .iaload, 1, 0, 0, 0, []),
  (641, .invokevirtual 78, 3, 68, 4, 9, [583, 584, 585, 36]),
  (644, .aload_n 2, 1, 0, 0, 0, []),
  (645, .aload_n 0, 1, 0, 0, 0, []),
  (646, .iload_n 3, 1, 0, 0, 0, []),
  (647, .iconst 1, 1, 0, 0, 0, []),
  (648, .iadd, 1, 0, 0, 0, []),
  (649, .iaload, 1, 0, 0, 0, []),
  (650, .aload_n 0, 1, 0, 0, 0, []),
  (651, .iload_n 3, 1, 0, 0, 0, []),
  (652, .iconst 2, 1, 0, 0, 0, []),
  (653, .iadd, 1, 0, 0, 0, []),
  (654, .iaload, 1, 0, 0, 0, []),
  (655, .aload_n 0, 1, 0, 0, 0, []),
  (656, .iload_n 3, 1, 0, 0, 0, []),
  (657, .iconst 3, 1, 0, 0, 0, []),
  (658, .iadd, 1, 0, 0, 0, []),
  (659, .iaload, 1, 0, 0, 0, []),
  (660, .invokevirtual 81, 3, 129, 4, 10, [958, 959, 960, 52]),
  (663, .if_icmp .eq 291, 3, 954, 0, 0, []),
  (666, .iconst 0, 1, 0, 0, 0, []),
  (667, .ireturn, 1, 0, 0, 0, []),
  (668, .aload_n 1, 1, 0, 0, 0, []),
  (669, .aload_n 0, 1, 0, 0, 0, []),
  (670, .iload_n 3, 1, 0, 0, 0, []),
  (671, .iconst 1, 1, 0, 0, 0, []),
  (672, .iadd, 1, 0, 0, 0, []),
  (673, .iaload, 1, 0, 0, 0, [])]
def mt0_11 : List (Nat × ent) := [(674, .invokevirtual 82, 3, 69, 2, 9, [591, 592, 593, 36]),
  (677, .aload_n 2, 1, 0, 0, 0, []),
  (678, .aload_n 0, 1, 0, 0, 0, []),
  (679, .iload_n 3, 1, 0, 0, 0, []),
  (680, .iconst 1, 1, 0, 0, 0, []),
  (681, .iadd, 1, 0, 0, 0, []),
  (682, .iaload, 1, 0, 0, 0, []),
  (683, .invokevirtual 85, 3, 131, 2, 10, [966, 967, 968, 52]),
  (686, .if_icmp .eq 268, 3, 954, 0, 0, []),
  (689, .iconst 0, 1, 0, 0, 0, []),
  (690, .ireturn, 1, 0, 0, 0, []),
  (691, .aload_n 1, 1, 0, 0, 0, []),
  (692, .aload_n 0, 1, 0, 0, 0, []),
  (693, .iload_n 3, 1, 0, 0, 0, []),
  (694, .iconst 1, 1, 0, 0, 0, []),
  (695, .iadd, 1, 0, 0, 0, []),
  (696, .iaload, 1, 0, 0, 0, []),
  (697, .invokevirtual 86, 3, 70, 2, 9, [603, 604, 605, 36]),
  (700, .aload_n 2, 1, 0, 0, 0, []),
  (701, .aload_n 0, 1, 0, 0, 0, []),
  (702, .iload_n 3, 1, 0, 0, 0, []),
  (703, .iconst 1, 1, 0, 0, 0, []),
  (704, .iadd, 1, 0, 0, 0, []),
  (705, .iaload, 1, 0, 0, 0, []),
  (706, .invokevirtual 89, 3, 132, 2, 10, [974, 975, 976, 52]),
  (709, .if_icmp .eq 245, 3, 954, 0, 0, []),
  (712, .iconst 0, 1, 0, 0, 0, []),
  (713, .ireturn, 1, 0, 0, 0, []),
  (714, .aload_n 1, 1, 0, 0, 0, []),
  (715, .aload_n 0, 1, 0, 0, 0, []),
  (716, .iload_n 3, 1, 0, 0, 0, []),
  (717, .iconst 1, 1, 0, 0, 0, []),
  (718, .iadd, 1, 0, 0, 0, []),
  (719, .iaload, 1, 0, 0, 0, []),
  (720, .invokevirtual 90, 3, 71, 2, 9, [611, 612, 613, 36]),
  (723, .aload_n 2, 1, 0, 0, 0, []),
  (724, .aload_n 0, 1, 0, 0, 0, []),
  (725, .iload_n 3, 1, 0, 0, 0, []),
  (726, .iconst 1, 1, 0, 0, 0, []),
  (727, .iadd, 1, 0, 0, 0, [])]
def mt0_12 : List (Nat × ent) := [(728, .iaload, 1, 0, 0, 0, []),
  (729, .invokevirtual 93, 3, 133, 2, 10, [978, 979, 980, 52]),
  (732, .if_icmp .eq 222, 3, 954, 0, 0, []),
  (735, .iconst 0, 1, 0, 0, 0, []),
  (736, .ireturn, 1, 0, 0, 0, []),
  (737, .aload_n 1, 1, 0, 0, 0, []),
  (738, .aload_n 0, 1, 0, 0, 0, []),
  (739, .iload_n 3, 1, 0, 0, 0, []),
  (740, .iconst 1, 1, 0, 0, 0, []),
  (741, .iadd, 1, 0, 0, 0, []),
  (742, .iaload, 1, 0, 0, 0, []),
  (743, .aload_n 0, 1, 0, 0, 0, []),
  (744, .iload_n 3, 1, 0, 0, 0, []),
  (745, .iconst 2, 1, 0, 0, 0, []),
  (746, .iadd, 1, 0, 0, 0, []),
  (747, .iaload, 1, 0, 0, 0, []),
  (748, .aload_n 0, 1, 0, 0, 0, []),
  (749, .iload_n 3, 1, 0, 0, 0, []),
  (750, .iconst 3, 1, 0, 0, 0, []),
  (751, .iadd, 1, 0, 0, 0, []),
  (752, .iaload, 1, 0, 0, 0, []),
  (753, .invokevirtual 94, 3, 72, 4, 9, [623, 624, 625, 36]),
  (756, .aload_n 2, 1, 0, 0, 0, []),
  (757, .aload_n 0, 1, 0, 0, 0, []),
  (758, .iload_n 3, 1, 0, 0, 0, []),
  (759, .iconst 1, 1, 0, 0, 0, []),
  (760, .iadd, 1, 0, 0, 0, []),
  (761, .iaload, 1, 0, 0, 0, []),
  (762, .aload_n 0, 1, 0, 0, 0, []),
  (763, .iload_n 3, 1, 0, 0, 0, []),
  (764, .iconst 2, 1, 0, 0, 0, []),
  (765, .iadd, 1, 0, 0, 0, []),
  (766, .iaload, 1, 0, 0, 0, []),
  (767, .aload_n 0, 1, 0, 0, 0, []),
  (768, .iload_n 3, 1, 0, 0, 0, []),
  (769, .iconst 3, 1, 0, 0, 0, []),
  (770, .iadd, 1, 0, 0, 0, []),
  (771, .iaload, 1, 0, 0, 0, []),
  (772, .invokevirtual 97, 3, 134, 4, 10, [982, 983, 984, 52]),
  (775, .if_icmp .eq 179, 3, 954, 0, 0, [])]
def mt0_13 : List (Nat × ent) := [(778, .iconst 0, 1, 0, 0, 0, []),
  (779, .ireturn, 1, 0, 0, 0, []),
  (780, .aload_n 1, 1, 0, 0, 0, []),
  (781, .invokevirtual 98, 3, 73, 1, 9, [631, 632, 633, 36]),
  (784, .aload_n 2, 1, 0, 0, 0, []),
  (785, .invokevirtual 101, 3, 135, 1, 10, [986, 987, 988, 52]),
  (788, .if_icmp .eq 166, 3, 954, 0, 0, []),
  (791, .iconst 0, 1, 0, 0, 0, []),
  (792, .ireturn, 1, 0, 0, 0, []),
  (793, .aload_n 1, 1, 0, 0, 0, []),
  (794, .aload_n 0, 1, 0, 0, 0, []),
  (795, .iload_n 3, 1, 0, 0, 0, []),
  (796, .iconst 1, 1, 0, 0, 0, []),
  (797, .iadd, 1, 0, 0, 0, []),
  (798, .iaload, 1, 0, 0, 0, []),
  (799, .invokevirtual 102, 3, 74, 2, 9, [645, 646, 647, 36]),
  (802, .aload_n 2, 1, 0, 0, 0, []),
  (803, .aload_n 0, 1, 0, 0, 0, []),
  (804, .iload_n 3, 1, 0, 0, 0, []),
  (805, .iconst 1, 1, 0, 0, 0, []),
  (806, .iadd, 1, 0, 0, 0, []),
  (807, .iaload, 1, 0, 0, 0, []),
  (808, .invokevirtual 105, 3, 136, 2, 10, [990, 991, 992, 52]),
  (811, .if_icmp .eq 143, 3, 954, 0, 0, []),
  (814, .iconst 0, 1, 0, 0, 0, []),
  (815, .ireturn, 1, 0, 0, 0, []),
  (816, .aload_n 1, 1, 0, 0, 0, []),
  (817, .aload_n 0, 1, 0, 0, 0, []),
  (818, .iload_n 3, 1, 0, 0, 0, []),
  (819, .iconst 1, 1, 0, 0, 0, []),
  (820, .iadd, 1, 0, 0, 0, []),
  (821, .iaload, 1, 0, 0, 0, []),
  (822, .invokevirtual 106, 3, 75, 2, 9, [649, 650, 651, 36]),
  (825, .aload_n 2, 1, 0, 0, 0, []),
  (826, .aload_n 0, 1, 0, 0, 0, []),
  (827, .iload_n 3, 1, 0, 0, 0, []),
  (828, .iconst 1, 1, 0, 0, 0, []),
  (829, .iadd, 1, 0, 0, 0, []),
  (830, .iaload, 1, 0, 0, 0, []),
  (831, .invokevirtual 109, 3, 138, 2, 10, [994, 995, 996, 52])]
def mt0_14 : List (Nat × ent) := [(834, .if_icmp .eq 120, 3, 954, 0, 0, []),
  (837, .iconst 0, 1, 0, 0, 0, []),
  (838, .ireturn, 1, 0, 0, 0, []),
  (839, .aload_n 1, 1, 0, 0, 0, []),
  (840, .aload_n 0, 1, 0, 0, 0, []),
  (841, .iload_n 3, 1, 0, 0, 0, []),
  (842, .iconst 1, 1, 0, 0, 0, []),
  (843, .iadd, 1, 0, 0, 0, []),
  (844, .iaload, 1, 0, 0, 0, []),
  (845, .invokevirtual 110, 3, 76, 2, 9, [662, 663, 664, 36]),
  (848, .aload_n 2, 1, 0, 0, 0, []),
  (849, .aload_n 0, 1, 0, 0, 0, []),
  (850, .iload_n 3, 1, 0, 0, 0, []),
  (851, .iconst 1, 1, 0, 0, 0, []),
  (852, .iadd, 1, 0, 0, 0, []),
  (853, .iaload, 1, 0, 0, 0, []),
  (854, .invokevirtual 113, 3, 139, 2, 10, [1002, 1003, 1004, 52]),
  (857, .if_icmp .eq 97, 3, 954, 0, 0, []),
  (860, .iconst 0, 1, 0, 0, 0, []),
  (861, .ireturn, 1, 0, 0, 0, []),
  (862, .aload_n 1, 1, 0, 0, 0, []),
  (863, .aload_n 0, 1, 0, 0, 0, []),
  (864, .iload_n 3, 1, 0, 0, 0, []),
  (865, .iconst 1, 1, 0, 0, 0, []),
  (866, .iadd, 1, 0, 0, 0, []),
  (867, .iaload, 1, 0, 0, 0, []),
  (868, .aload_n 0, 1, 0, 0, 0, []),
  (869, .iload_n 3, 1, 0, 0, 0, []),
  (870, .iconst 2, 1, 0, 0, 0, []),
  (871, .iadd, 1, 0, 0, 0, []),
  (872, .iaload, 1, 0, 0, 0, []),
  (873, .aload_n 0, 1, 0, 0, 0, []),
  (874, .iload_n 3, 1, 0, 0, 0, []),
  (875, .iconst 3, 1, 0, 0, 0, []),
  (876, .iadd, 1, 0, 0, 0, []),
  (877, .iaload, 1, 0, 0, 0, []),
  (878, .invokevirtual 114, 3, 77, 4, 9, [666, 667, 668, 36]),
  (881, .aload_n 2, 1, 0, 0, 0, []),
  (882, .aload_n 0, 1, 0, 0, 0, []),
  (883, .iload_n 3, 1, 0, 0, 0, [])]
def mt0_15 : List (Nat × ent) := [(884, .iconst 1, 1, 0, 0, 0, []),
  (885, .iadd, 1, 0, 0, 0, []),
  (886, .iaload, 1, 0, 0, 0, []),
  (887, .aload_n 0, 1, 0, 0, 0, []),
  (888, .iload_n 3, 1, 0, 0, 0, []),
  (889, .iconst 2, 1, 0, 0, 0, []),
  (890, .iadd, 1, 0, 0, 0, []),
  (891, .iaload, 1, 0, 0, 0, []),
  (892, .aload_n 0, 1, 0, 0, 0, []),
  (893, .iload_n 3, 1, 0, 0, 0, []),
  (894, .iconst 3, 1, 0, 0, 0, []),
  (895, .iadd, 1, 0, 0, 0, []),
  (896, .iaload, 1, 0, 0, 0, []),
  (897, .invokevirtual 117, 3, 140, 4, 10, [1006, 1007, 1008, 52]),
  (900, .if_icmp .eq 54, 3, 954, 0, 0, []),
  (903, .iconst 0, 1, 0, 0, 0, []),
  (904, .ireturn, 1, 0, 0, 0, []),
  (905, .aload_n 1, 1, 0, 0, 0, []),
  (906, .invokevirtual 118, 3, 78, 1, 9, [681, 682, 683, 36]),
  (909, .aload_n 2, 1, 0, 0, 0, []),
  (910, .invokevirtual 121, 3, 141, 1, 10, [1014, 1015, 1016, 52]),
  (913, .if_icmp .eq 41, 3, 954, 0, 0, []),
  (916, .iconst 0, 1, 0, 0, 0, []),
  (917, .ireturn, 1, 0, 0, 0, []),
  (918, .aload_n 1, 1, 0, 0, 0, []),
  (919, .invokevirtual 122, 3, 79, 1, 9, [685, 686, 687, 36]),
  (922, .aload_n 2, 1, 0, 0, 0, []),
  (923, .invokevirtual 125, 3, 142, 1, 10, [1018, 1019, 1020, 52]),
  (926, .if_icmp .eq 28, 3, 954, 0, 0, []),
  (929, .iconst 0, 1, 0, 0, 0, []),
  (930, .ireturn, 1, 0, 0, 0, []),
  (931, .aload_n 1, 1, 0, 0, 0, []),
  (932, .aload_n 0, 1, 0, 0, 0, []),
  (933, .iload_n 3, 1, 0, 0, 0, []),
  (934, .iconst 1, 1, 0, 0, 0, []),
  (935, .iadd, 1, 0, 0, 0, []),
  (936, .iaload, 1, 0, 0, 0, []),
  (937, .invokevirtual 126, 3, 80, 2, 9, [689, 690, 691, 36]),
  (940, .aload_n 2, 1, 0, 0, 0, []),
  (941, .aload_n 0, 1, 0, 0, 0, [])]
def mt0_16 : List (Nat × ent) := [(942, .iload_n 3, 1, 0, 0, 0, []),
  (943, .iconst 1, 1, 0, 0, 0, []),
  (944, .iadd, 1, 0, 0, 0, []),
  (945, .iaload, 1, 0, 0, 0, []),
  (946, .invokevirtual 129, 3, 144, 2, 10, [1022, 1023, 1024, 52]),
  (949, .if_icmp .eq 5, 3, 954, 0, 0, []),
  (952, .iconst 0, 1, 0, 0, 0, []),
  (953, .ireturn, 1, 0, 0, 0, []),
  (954, .iinc 3 5, 3, 0, 0, 0, []),
  (957, .goto (-939), 3, 18, 0, 0, []),
  (960, .iconst 1, 1, 0, 0, 0, []),
  (961, .ireturn, 1, 0, 0, 0, [])]
def mt0 : List (Nat × ent) := mt0_0 ++ (mt0_1 ++ (mt0_2 ++ (mt0_3 ++ (mt0_4 ++ (mt0_5 ++ (mt0_6 ++ (mt0_7 ++ (mt0_8 ++ (mt0_9 ++ (mt0_10 ++ (mt0_11 ++ (mt0_12 ++ (mt0_13 ++ (mt0_14 ++ (mt0_15 ++ (mt0_16))))))))))))))))
def mi0 : minfo := (⟨"HeavyChainsLaw", "law", "([I)Z"⟩, code, 4, (some .boolean), 7, 199, mt0)
def mt1 : List (Nat × ent) := [(0, .aload_n 0, 1, 0, 0, 0, []),
  (1, .invokespecial 3, 3, 9000, 1, 0, [89, 59, 60]),
  (4, .aload_n 0, 1, 0, 0, 0, []),
  (5, .bipush 30, 2, 0, 0, 0, []),
  (7, .newarray .int, 2, 0, 0, 0, [108]),
  (9, .putfield 9, 3, 0, 0, 0, [90]),
  (12, .aload_n 0, 1, 0, 0, 0, []),
  (13, .bipush 30, 2, 0, 0, 0, []),
  (15, .newarray .int, 2, 0, 0, 0, [108]),
  (17, .putfield 15, 3, 0, 1, 0, [93]),
  (20, .aload_n 0, 1, 0, 0, 0, []),
  (21, .bipush 30, 2, 0, 0, 0, []),
  (23, .newarray .int, 2, 0, 0, 0, [108]),
  (25, .putfield 18, 3, 0, 2, 0, [97]),
  (28, .return_, 1, 0, 0, 0, [])]
def mi1 : minfo := (⟨"HeavyChains$Accounts", "<init>", "()V"⟩, prog_2_method_1_code, 1, none, 1, 60, mt1)
def mt2 : List (Nat × ent) := [(0, .iconst 0, 1, 0, 0, 0, []),
  (1, .istore_n 1, 1, 0, 0, 0, []),
  (2, .iload_n 1, 1, 0, 0, 0, []),
  (3, .bipush 30, 2, 0, 0, 0, []),
  (5, .if_icmp .ge 30, 3, 35, 0, 0, []),
  (8, .aload_n 0, 1, 0, 0, 0, []),
  (9, .getfield 9, 3, 0, 0, 0, [90]),
  (12, .iload_n 1, 1, 0, 0, 0, []),
  (13, .iconst 0, 1, 0, 0, 0, []),
  (14, .iastore, 1, 0, 0, 0, []),
  (15, .aload_n 0, 1, 0, 0, 0, []),
  (16, .getfield 15, 3, 0, 1, 0, [93]),
  (19, .iload_n 1, 1, 0, 0, 0, []),
  (20, .iconst 1, 1, 0, 0, 0, []),
  (21, .iastore, 1, 0, 0, 0, []),
  (22, .aload_n 0, 1, 0, 0, 0, []),
  (23, .getfield 18, 3, 0, 2, 0, [97]),
  (26, .iload_n 1, 1, 0, 0, 0, []),
  (27, .iconst 0, 1, 0, 0, 0, []),
  (28, .iastore, 1, 0, 0, 0, []),
  (29, .iinc 1 1, 3, 0, 0, 0, []),
  (32, .goto (-30), 3, 2, 0, 0, []),
  (35, .return_, 1, 0, 0, 0, [])]
def mi2 : minfo := (⟨"HeavyChains$Accounts", "clea\x72", "()V"⟩, prog_2_method_2_code, 2, none, 1, 60, mt2)
def mt3 : List (Nat × ent) := [(0, .aload_n 1, 1, 0, 0, 0, []),
  (1, .getfield 9, 3, 0, 0, 0, [90]),
  (4, .iconst 0, 1, 0, 0, 0, []),
  (5, .aload_n 0, 1, 0, 0, 0, []),
  (6, .getfield 9, 3, 0, 0, 0, [90]),
  (9, .iconst 0, 1, 0, 0, 0, []),
  (10, .bipush 30, 2, 0, 0, 0, []),
  (12, .invokestatic 21, 3, 9001, 5, 0, [398, 400, 399, 51]),
  (15, .aload_n 1, 1, 0, 0, 0, []),
  (16, .getfield 15, 3, 0, 1, 0, [93]),
  (19, .iconst 0, 1, 0, 0, 0, []),
  (20, .aload_n 0, 1, 0, 0, 0, []),
  (21, .getfield 15, 3, 0, 1, 0, [93]),
  (24, .iconst 0, 1, 0, 0, 0, []),
  (25, .bipush 30, 2, 0, 0, 0, []),
  (27, .invokestatic 21, 3, 9001, 5, 0, [398, 400, 399, 51]),
  (30, .aload_n 1, 1, 0, 0, 0, []),
  (31, .getfield 18, 3, 0, 2, 0, [97]),
  (34, .iconst 0, 1, 0, 0, 0, []),
  (35, .aload_n 0, 1, 0, 0, 0, []),
  (36, .getfield 18, 3, 0, 2, 0, [97]),
  (39, .iconst 0, 1, 0, 0, 0, []),
  (40, .bipush 30, 2, 0, 0, 0, []),
  (42, .invokestatic 21, 3, 9001, 5, 0, [398, 400, 399, 51]),
  (45, .return_, 1, 0, 0, 0, [])]
def mi3 : minfo := (⟨"HeavyChains$Accounts", "copy", "(LHeavyChains$Accounts;)V"⟩, prog_2_method_3_code, 2, none, 1, 60, mt3)
def mt4 : List (Nat × ent) := [(0, .iconst 0, 1, 0, 0, 0, []),
  (1, .istore_n 2, 1, 0, 0, 0, []),
  (2, .iconst 0, 1, 0, 0, 0, []),
  (3, .istore_n 3, 1, 0, 0, 0, []),
  (4, .iload_n 3, 1, 0, 0, 0, []),
  (5, .iload_n 1, 1, 0, 0, 0, []),
  (6, .if_icmp .ge 18, 3, 24, 0, 0, []),
  (9, .iload_n 2, 1, 0, 0, 0, []),
  (10, .aload_n 0, 1, 0, 0, 0, []),
  (11, .getfield 9, 3, 0, 0, 0, [90]),
  (14, .iload_n 3, 1, 0, 0, 0, []),
  (15, .iaload, 1, 0, 0, 0, []),
  (16, .iadd, 1, 0, 0, 0, []),
  (17, .istore_n 2, 1, 0, 0, 0, []),
  (18, .iinc 3 1, 3, 0, 0, 0, []),
  (21, .goto (-17), 3, 4, 0, 0, []),
  (24, .iload_n 2, 1, 0, 0, 0, []),
  (25, .ireturn, 1, 0, 0, 0, [])]
def mi4 : minfo := (⟨"HeavyChains$Accounts", "total", "(I)I"⟩, prog_2_method_4_code, 4, (some .int), 1, 60, mt4)
def mt5 : List (Nat × ent) := [(0, .aload_n 0, 1, 0, 0, 0, []),
  (1, .invokespecial 3, 3, 9000, 1, 0, [66, 59, 60]),
  (4, .aload_n 0, 1, 0, 0, 0, []),
  (5, .sipush 200, 3, 0, 0, 0, []),
  (8, .newarray .char, 2, 2, 0, 0, [77]),
  (10, .putfield 9, 3, 1, 0, 0, [67]),
  (13, .return_, 1, 0, 0, 0, [])]
def mi5 : minfo := (⟨"HeavyChains$Letters", "<init>", "()V"⟩, prog_3_method_1_code, 1, none, 1, 60, mt5)
def mt6 : List (Nat × ent) := [(0, .aload_n 0, 1, 0, 0, 0, []),
  (1, .getfield 15, 3, 1, 1, 0, [70]),
  (4, .sipush 200, 3, 0, 0, 0, []),
  (7, .if_icmp .lt 5, 3, 12, 0, 0, []),
  (10, .iconst 0, 1, 0, 0, 0, []),
  (11, .ireturn, 1, 0, 0, 0, []),
  (12, .aload_n 0, 1, 0, 0, 0, []),
  (13, .getfield 9, 3, 1, 0, 0, [67]),
  (16, .aload_n 0, 1, 0, 0, 0, []),
  (17, .getfield 15, 3, 1, 1, 0, [70]),
  (20, .iload_n 1, 1, 0, 0, 0, []),
  (21, .castore, 1, 0, 0, 0, []),
  (22, .aload_n 0, 1, 0, 0, 0, []),
  (23, .dup, 1, 0, 0, 0, []),
  (24, .getfield 15, 3, 1, 1, 0, [70]),
  (27, .iconst 1, 1, 0, 0, 0, []),
  (28, .iadd, 1, 0, 0, 0, []),
  (29, .putfield 15, 3, 1, 1, 0, [70]),
  (32, .iconst 1, 1, 0, 0, 0, []),
  (33, .ireturn, 1, 0, 0, 0, [])]
def mi6 : minfo := (⟨"HeavyChains$Letters", "append", "(C)Z"⟩, prog_3_method_2_code, 2, (some .boolean), 1, 60, mt6)
def mt7 : List (Nat × ent) := [(0, .aload_n 0, 1, 0, 0, 0, []),
  (1, .invokespecial 3, 3, 9000, 1, 0, [259, 59, 60]),
  (4, .aload_n 0, 1, 0, 0, 0, []),
  (5, .bipush 30, 2, 0, 0, 0, []),
  (7, .newarray .boolean, 2, 1, 0, 0, [253]),
  (9, .putfield 9, 3, 2, 0, 0, [260]),
  (12, .return_, 1, 0, 0, 0, [])]
def mi7 : minfo := (⟨"HeavyChains$Marks", "<init>", "()V"⟩, prog_4_method_1_code, 1, none, 1, 60, mt7)
def mt8 : List (Nat × ent) := [(0, .iconst 0, 1, 0, 0, 0, []),
  (1, .istore_n 1, 1, 0, 0, 0, []),
  (2, .iload_n 1, 1, 0, 0, 0, []),
  (3, .bipush 30, 2, 0, 0, 0, []),
  (5, .if_icmp .ge 16, 3, 21, 0, 0, []),
  (8, .aload_n 0, 1, 0, 0, 0, []),
  (9, .getfield 9, 3, 2, 0, 0, [260]),
  (12, .iload_n 1, 1, 0, 0, 0, []),
  (13, .iconst 0, 1, 0, 0, 0, []),
  (14, .bastore, 1, 0, 0, 0, []),
  (15, .iinc 1 1, 3, 0, 0, 0, []),
  (18, .goto (-16), 3, 2, 0, 0, []),
  (21, .return_, 1, 0, 0, 0, [])]
def mi8 : minfo := (⟨"HeavyChains$Marks", "clea\x72", "()V"⟩, prog_4_method_2_code, 2, none, 1, 60, mt8)
def mt9 : List (Nat × ent) := [(0, .iconst 0, 1, 0, 0, 0, []),
  (1, .istore_n 1, 1, 0, 0, 0, []),
  (2, .iconst 0, 1, 0, 0, 0, []),
  (3, .istore_n 2, 1, 0, 0, 0, []),
  (4, .iload_n 2, 1, 0, 0, 0, []),
  (5, .bipush 30, 2, 0, 0, 0, []),
  (7, .if_icmp .ge 21, 3, 28, 0, 0, []),
  (10, .aload_n 0, 1, 0, 0, 0, []),
  (11, .getfield 9, 3, 2, 0, 0, [260]),
  (14, .iload_n 2, 1, 0, 0, 0, []),
  (15, .baload, 1, 0, 0, 0, []),
  (16, .ifCond .eq 6, 3, 22, 0, 0, []),
  (19, .iinc 1 1, 3, 0, 0, 0, []),
  (22, .iinc 2 1, 3, 0, 0, 0, []),
  (25, .goto (-21), 3, 4, 0, 0, []),
  (28, .iload_n 1, 1, 0, 0, 0, []),
  (29, .ireturn, 1, 0, 0, 0, [])]
def mi9 : minfo := (⟨"HeavyChains$Marks", "all", "()I"⟩, prog_4_method_3_code, 3, (some .int), 1, 60, mt9)
def mt10 : List (Nat × ent) := [(0, .iconst 0, 1, 0, 0, 0, []),
  (1, .istore_n 2, 1, 0, 0, 0, []),
  (2, .iconst 0, 1, 0, 0, 0, []),
  (3, .istore_n 3, 1, 0, 0, 0, []),
  (4, .iload_n 3, 1, 0, 0, 0, []),
  (5, .aload_n 1, 1, 0, 0, 0, []),
  (6, .getfield 15, 3, 4, 1, 0, [214]),
  (9, .if_icmp .ge 26, 3, 35, 0, 0, []),
  (12, .aload_n 0, 1, 0, 0, 0, []),
  (13, .getfield 9, 3, 2, 0, 0, [260]),
  (16, .aload_n 1, 1, 0, 0, 0, []),
  (17, .getfield 21, 3, 4, 0, 0, [211]),
  (20, .iload_n 3, 1, 0, 0, 0, []),
  (21, .iaload, 1, 0, 0, 0, []),
  (22, .baload, 1, 0, 0, 0, []),
  (23, .ifCond .eq 6, 3, 29, 0, 0, []),
  (26, .iinc 2 1, 3, 0, 0, 0, []),
  (29, .iinc 3 1, 3, 0, 0, 0, []),
  (32, .goto (-28), 3, 4, 0, 0, []),
  (35, .iload_n 2, 1, 0, 0, 0, []),
  (36, .ireturn, 1, 0, 0, 0, [])]
def mi10 : minfo := (⟨"HeavyChains$Marks", "on", "(LHeavyChains$Route;)I"⟩, prog_4_method_4_code, 4, (some .int), 1, 60, mt10)
def mt11 : List (Nat × ent) := [(0, .iconst 0, 1, 0, 0, 0, []),
  (1, .istore_n 3, 1, 0, 0, 0, []),
  (2, .iconst 0, 1, 0, 0, 0, []),
  (3, .istore 4, 2, 0, 0, 0, []),
  (5, .iload 4, 2, 0, 0, 0, []),
  (7, .aload_n 1, 1, 0, 0, 0, []),
  (8, .getfield 15, 3, 4, 1, 0, [214]),
  (11, .if_icmp .ge 41, 3, 52, 0, 0, []),
  (14, .aload_n 0, 1, 0, 0, 0, []),
  (15, .getfield 9, 3, 2, 0, 0, [260]),
  (18, .aload_n 1, 1, 0, 0, 0, []),
  (19, .getfield 21, 3, 4, 0, 0, [211]),
  (22, .iload 4, 2, 0, 0, 0, []),
  (24, .iaload, 1, 0, 0, 0, []),
  (25, .baload, 1, 0, 0, 0, []),
  (26, .iload_n 2, 1, 0, 0, 0, []),
  (27, .if_icmp .eq 19, 3, 46, 0, 0, []),
  (30, .aload_n 0, 1, 0, 0, 0, []),
  (31, .getfield 9, 3, 2, 0, 0, [260]),
  (34, .aload_n 1, 1, 0, 0, 0, []),
  (35, .getfield 21, 3, 4, 0, 0, [211]),
  (38, .iload 4, 2, 0, 0, 0, []),
  (40, .iaload, 1, 0, 0, 0, []),
  (41, .iload_n 2, 1, 0, 0, 0, []),
  (42, .bastore, 1, 0, 0, 0, []),
  (43, .iinc 3 1, 3, 0, 0, 0, []),
  (46, .iinc 4 1, 3, 0, 0, 0, []),
  (49, .goto (-44), 3, 5, 0, 0, []),
  (52, .iload_n 3, 1, 0, 0, 0, []),
  (53, .ireturn, 1, 0, 0, 0, [])]
def mi11 : minfo := (⟨"HeavyChains$Marks", "put", "(LHeavyChains$Route;Z)I"⟩, prog_4_method_5_code, 5, (some .int), 1, 60, mt11)
def mt12 : List (Nat × ent) := [(0, .iconst 0, 1, 0, 0, 0, []),
  (1, .istore_n 2, 1, 0, 0, 0, []),
  (2, .iload_n 2, 1, 0, 0, 0, []),
  (3, .aload_n 1, 1, 0, 0, 0, []),
  (4, .getfield 15, 3, 4, 1, 0, [214]),
  (7, .if_icmp .ge 39, 3, 46, 0, 0, []),
  (10, .aload_n 0, 1, 0, 0, 0, []),
  (11, .getfield 9, 3, 2, 0, 0, [260]),
  (14, .aload_n 1, 1, 0, 0, 0, []),
  (15, .getfield 21, 3, 4, 0, 0, [211]),
  (18, .iload_n 2, 1, 0, 0, 0, []),
  (19, .iaload, 1, 0, 0, 0, []),
  (20, .aload_n 0, 1, 0, 0, 0, []),
  (21, .getfield 9, 3, 2, 0, 0, [260]),
  (24, .aload_n 1, 1, 0, 0, 0, []),
  (25, .getfield 21, 3, 4, 0, 0, [211]),
  (28, .iload_n 2, 1, 0, 0, 0, []),
  (29, .iaload, 1, 0, 0, 0, []),
  (30, .baload, 1, 0, 0, 0, []),
  (31, .ifCond .ne 7, 3, 38, 0, 0, []),
  (34, .iconst 1, 1, 0, 0, 0, []),
  (35, .goto 4, 3, 39, 0, 0, []),
  (38, .iconst 0, 1, 0, 0, 0, []),
  (39, .bastore, 1, 0, 0, 0, []),
  (40, .iinc 2 1, 3, 0, 0, 0, []),
  (43, .goto (-41), 3, 2, 0, 0, []),
  (46, .return_, 1, 0, 0, 0, [])]
def mi12 : minfo := (⟨"HeavyChains$Marks", "flip", "(LHeavyChains$Route;)V"⟩, prog_4_method_6_code, 3, none, 1, 60, mt12)
def mt13 : List (Nat × ent) := [(0, .iload_n 2, 1, 0, 0, 0, []),
  (1, .istore_n 3, 1, 0, 0, 0, []),
  (2, .iload_n 3, 1, 0, 0, 0, []),
  (3, .aload_n 1, 1, 0, 0, 0, []),
  (4, .getfield 25, 3, 7, 0, 0, [131]),
  (7, .if_icmp .ge 25, 3, 32, 0, 0, []),
  (10, .aload_n 0, 1, 0, 0, 0, []),
  (11, .getfield 9, 3, 2, 0, 0, [260]),
  (14, .aload_n 1, 1, 0, 0, 0, []),
  (15, .getfield 30, 3, 7, 6, 0, [149]),
  (18, .iload_n 3, 1, 0, 0, 0, []),
  (19, .iaload, 1, 0, 0, 0, []),
  (20, .baload, 1, 0, 0, 0, []),
  (21, .ifCond .eq 5, 3, 26, 0, 0, []),
  (24, .iload_n 3, 1, 0, 0, 0, []),
  (25, .ireturn, 1, 0, 0, 0, []),
  (26, .iinc 3 1, 3, 0, 0, 0, []),
  (29, .goto (-27), 3, 2, 0, 0, []),
  (32, .bipush (-4), 2, 0, 0, 0, []),
  (34, .ireturn, 1, 0, 0, 0, [])]
def mi13 : minfo := (⟨"HeavyChains$Marks", "firstFrom", "(LHeavyChains$Tree;I)I"⟩, prog_4_method_7_code, 4, (some .int), 1, 60, mt13)
def mt14 : List (Nat × ent) := [(0, .bipush (-4), 2, 0, 0, 0, []),
  (2, .istore_n 3, 1, 0, 0, 0, []),
  (3, .iconst 0, 1, 0, 0, 0, []),
  (4, .istore 4, 2, 0, 0, 0, []),
  (6, .iload 4, 2, 0, 0, 0, []),
  (8, .iload_n 1, 1, 0, 0, 0, []),
  (9, .if_icmp .ge 38, 3, 47, 0, 0, []),
  (12, .aload_n 0, 1, 0, 0, 0, []),
  (13, .getfield 9, 3, 2, 0, 0, [260]),
  (16, .iload 4, 2, 0, 0, 0, []),
  (18, .baload, 1, 0, 0, 0, []),
  (19, .ifCond .eq 22, 3, 41, 0, 0, []),
  (22, .iload_n 3, 1, 0, 0, 0, []),
  (23, .bipush (-4), 2, 0, 0, 0, []),
  (25, .if_icmp .eq 13, 3, 38, 0, 0, []),
  (28, .aload_n 2, 1, 0, 0, 0, []),
  (29, .iload 4, 2, 0, 0, 0, []),
  (31, .iaload, 1, 0, 0, 0, []),
  (32, .aload_n 2, 1, 0, 0, 0, []),
  (33, .iload_n 3, 1, 0, 0, 0, []),
  (34, .iaload, 1, 0, 0, 0, []),
  (35, .if_icmp .ge 6, 3, 41, 0, 0, []),
  (38, .iload 4, 2, 0, 0, 0, []),
  (40, .istore_n 3, 1, 0, 0, 0, []),
  (41, .iinc 4 1, 3, 0, 0, 0, []),
  (44, .goto (-38), 3, 6, 0, 0, []),
  (47, .iload_n 3, 1, 0, 0, 0, []),
  (48, .ireturn, 1, 0, 0, 0, [])]
def mi14 : minfo := (⟨"HeavyChains$Marks", "closest", "(I[I)I"⟩, prog_4_method_8_code, 5, (some .int), 1, 60, mt14)
def mt15 : List (Nat × ent) := [(0, .aload_n 0, 1, 0, 0, 0, []),
  (1, .invokespecial 3, 3, 9000, 1, 0, [83, 59, 60]),
  (4, .aload_n 0, 1, 0, 0, 0, []),
  (5, .bipush 30, 2, 0, 0, 0, []),
  (7, .newarray .int, 2, 0, 0, 0, [108]),
  (9, .putfield 9, 3, 3, 1, 0, [111]),
  (12, .aload_n 0, 1, 0, 0, 0, []),
  (13, .new 15, 3, 0, 0, 0, [84, 85, 39]),
  (16, .dup, 1, 0, 0, 0, []),
  (17, .invokespecial 17, 3, 1, 1, 1, [86, 87, 39]),
  (20, .putfield 18, 3, 3, 2, 0, [113]),
  (23, .return_, 1, 0, 0, 0, [])]
def mi15 : minfo := (⟨"HeavyChains$Reade\x72", "<init>", "()V"⟩, prog_5_method_1_code, 1, none, 2, 80, mt15)
def mt16 : List (Nat × ent) := [(0, .aload_n 0, 1, 0, 0, 0, []),
  (1, .iconst 0, 1, 0, 0, 0, []),
  (2, .putfield 22, 3, 3, 0, 0, [109]),
  (5, .iconst 0, 1, 0, 0, 0, []),
  (6, .istore_n 2, 1, 0, 0, 0, []),
  (7, .iconst 0, 1, 0, 0, 0, []),
  (8, .istore_n 3, 1, 0, 0, 0, []),
  (9, .iload_n 3, 1, 0, 0, 0, []),
  (10, .sipush 200, 3, 0, 0, 0, []),
  (13, .if_icmp .ge 65, 3, 78, 0, 0, []),
  (16, .iload_n 2, 1, 0, 0, 0, []),
  (17, .aload_n 1, 1, 0, 0, 0, []),
  (18, .getfield 26, 3, 1, 1, 0, [71]),
  (21, .if_icmp .ge 57, 3, 78, 0, 0, []),
  (24, .aload_n 1, 1, 0, 0, 0, []),
  (25, .iload_n 2, 1, 0, 0, 0, []),
  (26, .iconst 1, 1, 0, 0, 0, []),
  (27, .iadd, 1, 0, 0, 0, []),
  (28, .invokestatic 31, 3, 17, 2, 0, [353, 354, 38]),
  (31, .istore 4, 2, 0, 0, 0, []),
  (33, .iload 4, 2, 0, 0, 0, []),
  (35, .aload_n 1, 1, 0, 0, 0, []),
  (36, .getfield 26, 3, 1, 1, 0, [71]),
  (39, .if_icmp .ge 26, 3, 65, 0, 0, []),
  (42, .aload_n 1, 1, 0, 0, 0, []),
  (43, .getfield 35, 3, 1, 0, 0, [68]),
  (46, .iload 4, 2, 0, 0, 0, []),
  (48, .caload, 1, 0, 0, 0, []),
  (49, .bipush 59, 2, 0, 0, 0, []),
  (51, .if_icmp .ne 14, 3, 65, 0, 0, []),
  (54, .aload_n 0, 1, 0, 0, 0, []),
  (55, .aload_n 1, 1, 0, 0, 0, []),
  (56, .iload_n 2, 1, 0, 0, 0, []),
  (57, .iload 4, 2, 0, 0, 0, []),
  (59, .invokevirtual 39, 3, 19, 4, 3, [359, 361, 1, 38]),
  (62, .ifCond .ne 5, 3, 67, 0, 0, []),
  (65, .iload_n 2, 1, 0, 0, 0, []),
  (66, .ireturn, 1, 0, 0, 0, []),
  (67, .iload 4, 2, 0, 0, 0, []),
  (69, .iconst 1, 1, 0, 0, 0, []),
  (70, .iadd, 1, 0, 0, 0, []),
  (71, .istore_n 2, 1, 0, 0, 0, []),
  (72, .iinc 3 1, 3, 0, 0, 0, []),
  (75, .goto (-66), 3, 9, 0, 0, []),
  (78, .bipush (-4), 2, 0, 0, 0, []),
  (80, .ireturn, 1, 0, 0, 0, [])]
def mi16 : minfo := (⟨"HeavyChains$Reade\x72", "read", "(LHeavyChains$Letters;)I"⟩, prog_5_method_2_code, 5, (some .int), 4, 130, mt16)
def mt17 : List (Nat × ent) := [(0, .iload_n 1, 1, 0, 0, 0, []),
  (1, .istore_n 2, 1, 0, 0, 0, []),
  (2, .iload_n 2, 1, 0, 0, 0, []),
  (3, .aload_n 0, 1, 0, 0, 0, []),
  (4, .getfield 26, 3, 1, 1, 0, [71]),
  (7, .if_icmp .ge 21, 3, 28, 0, 0, []),
  (10, .aload_n 0, 1, 0, 0, 0, []),
  (11, .getfield 35, 3, 1, 0, 0, [68]),
  (14, .iload_n 2, 1, 0, 0, 0, []),
  (15, .caload, 1, 0, 0, 0, []),
  (16, .invokestatic 43, 3, 18, 1, 0, [356, 357, 38]),
  (19, .ifCond .lt 9, 3, 28, 0, 0, []),
  (22, .iinc 2 1, 3, 0, 0, 0, []),
  (25, .goto (-23), 3, 2, 0, 0, []),
  (28, .iload_n 2, 1, 0, 0, 0, []),
  (29, .ireturn, 1, 0, 0, 0, [])]
def mi17 : minfo := (⟨"HeavyChains$Reade\x72", "endOfSigns", "(LHeavyChains$Letters;I)I"⟩, prog_5_method_3_code, 3, (some .int), 2, 80, mt17)
def mt18 : List (Nat × ent) := [(0, .iload_n 0, 1, 0, 0, 0, []),
  (1, .bipush 48, 2, 0, 0, 0, []),
  (3, .if_icmp .lt 14, 3, 17, 0, 0, []),
  (6, .iload_n 0, 1, 0, 0, 0, []),
  (7, .bipush 57, 2, 0, 0, 0, []),
  (9, .if_icmp .gt 8, 3, 17, 0, 0, []),
  (12, .iload_n 0, 1, 0, 0, 0, []),
  (13, .bipush 48, 2, 0, 0, 0, []),
  (15, .isub, 1, 0, 0, 0, []),
  (16, .ireturn, 1, 0, 0, 0, []),
  (17, .iload_n 0, 1, 0, 0, 0, []),
  (18, .bipush 97, 2, 0, 0, 0, []),
  (20, .if_icmp .lt 19, 3, 39, 0, 0, []),
  (23, .iload_n 0, 1, 0, 0, 0, []),
  (24, .bipush 115, 2, 0, 0, 0, []),
  (26, .if_icmp .gt 13, 3, 39, 0, 0, []),
  (29, .iload_n 0, 1, 0, 0, 0, []),
  (30, .bipush 97, 2, 0, 0, 0, []),
  (32, .isub, 1, 0, 0, 0, []),
  (33, .bipush 10, 2, 0, 0, 0, []),
  (35, .iadd, 1, 0, 0, 0, []),
  (36, .goto 4, 3, 40, 0, 0, []),
  (39, .iconst (-1), 1, 0, 0, 0, []),
  (40, .ireturn, 1, 0, 0, 0, [])]
def mi18 : minfo := (⟨"HeavyChains$Reade\x72", "valueOf", "(C)I"⟩, prog_5_method_4_code, 1, (some .int), 1, 60, mt18)
def mt19 : List (Nat × ent) := [(0, .aload_n 1, 1, 0, 0, 0, []),
  (1, .getfield 35, 3, 1, 0, 0, [68]),
  (4, .iload_n 2, 1, 0, 0, 0, []),
  (5, .caload, 1, 0, 0, 0, []),
  (6, .lookupswitch 106 #[(102, 70), (103, 88), (112, 42), (119, 52)], 42, 0, 0, 0, []),
  (48, .aload_n 0, 1, 0, 0, 0, []),
  (49, .aload_n 1, 1, 0, 0, 0, []),
  (50, .iload_n 2, 1, 0, 0, 0, []),
  (51, .iconst 1, 1, 0, 0, 0, []),
  (52, .iadd, 1, 0, 0, 0, []),
  (53, .iload_n 3, 1, 0, 0, 0, []),
  (54, .invokevirtual 47, 3, 20, 4, 3, [363, 365, 2, 38]),
  (57, .ireturn, 1, 0, 0, 0, []),
  (58, .aload_n 0, 1, 0, 0, 0, []),
  (59, .aload_n 0, 1, 0, 0, 0, []),
  (60, .getfield 18, 3, 3, 2, 0, [113]),
  (63, .getfield 50, 3, 0, 0, 0, [91]),
  (66, .iconst 0, 1, 0, 0, 0, []),
  (67, .aload_n 1, 1, 0, 0, 0, []),
  (68, .iload_n 2, 1, 0, 0, 0, []),
  (69, .iconst 1, 1, 0, 0, 0, []),
  (70, .iadd, 1, 0, 0, 0, []),
  (71, .iload_n 3, 1, 0, 0, 0, []),
  (72, .invokevirtual 53, 3, 21, 6, 3, [371, 373, 3, 38]),
  (75, .ireturn, 1, 0, 0, 0, []),
  (76, .aload_n 0, 1, 0, 0, 0, []),
  (77, .aload_n 0, 1, 0, 0, 0, []),
  (78, .getfield 18, 3, 3, 2, 0, [113]),
  (81, .getfield 57, 3, 0, 1, 0, [94]),
  (84, .iconst 1, 1, 0, 0, 0, []),
  (85, .aload_n 1, 1, 0, 0, 0, []),
  (86, .iload_n 2, 1, 0, 0, 0, []),
  (87, .iconst 1, 1, 0, 0, 0, []),
  (88, .iadd, 1, 0, 0, 0, []),
  (89, .iload_n 3, 1, 0, 0, 0, []),
  (90, .invokevirtual 53, 3, 21, 6, 3, [371, 373, 3, 38]),
  (93, .ireturn, 1, 0, 0, 0, []),
  (94, .aload_n 0, 1, 0, 0, 0, []),
  (95, .aload_n 0, 1, 0, 0, 0, []),
  (96, .getfield 18, 3, 3, 2, 0, [113]),
  (99, .getfield 60, 3, 0, 2, 0, [98]),
  (102, .iconst 0, 1, 0, 0, 0, []),
  (103, .aload_n 1, 1, 0, 0, 0, []),
  (104, .iload_n 2, 1, 0, 0, 0, []),
  (105, .iconst 1, 1, 0, 0, 0, []),
  (106, .iadd, 1, 0, 0, 0, []),
  (107, .iload_n 3, 1, 0, 0, 0, []),
  (108, .invokevirtual 53, 3, 21, 6, 3, [371, 373, 3, 38]),
  (111, .ireturn, 1, 0, 0, 0, []),
  (112, .iconst 0, 1, 0, 0, 0, []),
  (113, .ireturn, 1, 0, 0, 0, [])]
def mi19 : minfo := (⟨"HeavyChains$Reade\x72", "takeItem", "(LHeavyChains$Letters;II)Z"⟩, prog_5_method_5_code, 4, (some .boolean), 3, 107, mt19)
def mt20 : List (Nat × ent) := [(0, .iload_n 3, 1, 0, 0, 0, []),
  (1, .iload_n 2, 1, 0, 0, 0, []),
  (2, .isub, 1, 0, 0, 0, []),
  (3, .istore 4, 2, 0, 0, 0, []),
  (5, .aload_n 0, 1, 0, 0, 0, []),
  (6, .getfield 22, 3, 3, 0, 0, [109]),
  (9, .ifCond .gt 10, 3, 19, 0, 0, []),
  (12, .iload 4, 2, 0, 0, 0, []),
  (14, .bipush 30, 2, 0, 0, 0, []),
  (16, .if_icmp .lt 5, 3, 21, 0, 0, []),
  (19, .iconst 0, 1, 0, 0, 0, []),
  (20, .ireturn, 1, 0, 0, 0, []),
  (21, .aload_n 0, 1, 0, 0, 0, []),
  (22, .getfield 9, 3, 3, 1, 0, [111]),
  (25, .iconst 0, 1, 0, 0, 0, []),
  (26, .bipush (-4), 2, 0, 0, 0, []),
  (28, .iastore, 1, 0, 0, 0, []),
  (29, .iconst 1, 1, 0, 0, 0, []),
  (30, .istore 5, 2, 0, 0, 0, []),
  (32, .iload 5, 2, 0, 0, 0, []),
  (34, .iload 4, 2, 0, 0, 0, []),
  (36, .if_icmp .gt 44, 3, 80, 0, 0, []),
  (39, .aload_n 0, 1, 0, 0, 0, []),
  (40, .getfield 9, 3, 3, 1, 0, [111]),
  (43, .iload 5, 2, 0, 0, 0, []),
  (45, .aload_n 1, 1, 0, 0, 0, []),
  (46, .getfield 35, 3, 1, 0, 0, [68]),
  (49, .iload_n 2, 1, 0, 0, 0, []),
  (50, .iload 5, 2, 0, 0, 0, []),
  (52, .iadd, 1, 0, 0, 0, []),
  (53, .iconst 1, 1, 0, 0, 0, []),
  (54, .isub, 1, 0, 0, 0, []),
  (55, .caload, 1, 0, 0, 0, []),
  (56, .invokestatic 43, 3, 18, 1, 0, [356, 357, 38]),
  (59, .iastore, 1, 0, 0, 0, []),
  (60, .aload_n 0, 1, 0, 0, 0, []),
  (61, .getfield 9, 3, 3, 1, 0, [111]),
  (64, .iload 5, 2, 0, 0, 0, []),
  (66, .iaload, 1, 0, 0, 0, []),
  (67, .iload 5, 2, 0, 0, 0, []),
  (69, .if_icmp .lt 5, 3, 74, 0, 0, []),
  (72, .iconst 0, 1, 0, 0, 0, []),
  (73, .ireturn, 1, 0, 0, 0, []),
  (74, .iinc 5 1, 3, 0, 0, 0, []),
  (77, .goto (-45), 3, 32, 0, 0, []),
  (80, .aload_n 0, 1, 0, 0, 0, []),
  (81, .iload 4, 2, 0, 0, 0, []),
  (83, .iconst 1, 1, 0, 0, 0, []),
  (84, .iadd, 1, 0, 0, 0, []),
  (85, .putfield 22, 3, 3, 0, 0, [109]),
  (88, .aload_n 0, 1, 0, 0, 0, []),
  (89, .getfield 18, 3, 3, 2, 0, [113]),
  (92, .invokevirtual 63, 3, 2, 1, 0, [367, 368, 369, 39]),
  (95, .iconst 1, 1, 0, 0, 0, []),
  (96, .ireturn, 1, 0, 0, 0, [])]
def mi20 : minfo := (⟨"HeavyChains$Reade\x72", "takeUppers", "(LHeavyChains$Letters;II)Z"⟩, prog_5_method_6_code, 6, (some .boolean), 2, 81, mt20)
def mt21 : List (Nat × ent) := [(0, .iload 5, 2, 0, 0, 0, []),
  (2, .iload 4, 2, 0, 0, 0, []),
  (4, .isub, 1, 0, 0, 0, []),
  (5, .istore 6, 2, 0, 0, 0, []),
  (7, .aload_n 0, 1, 0, 0, 0, []),
  (8, .getfield 22, 3, 3, 0, 0, [109]),
  (11, .ifCond .eq 12, 3, 23, 0, 0, []),
  (14, .iload 6, 2, 0, 0, 0, []),
  (16, .aload_n 0, 1, 0, 0, 0, []),
  (17, .getfield 22, 3, 3, 0, 0, [109]),
  (20, .if_icmp .le 5, 3, 25, 0, 0, []),
  (23, .iconst 0, 1, 0, 0, 0, []),
  (24, .ireturn, 1, 0, 0, 0, []),
  (25, .iconst 0, 1, 0, 0, 0, []),
  (26, .istore 7, 2, 0, 0, 0, []),
  (28, .iload 7, 2, 0, 0, 0, []),
  (30, .aload_n 0, 1, 0, 0, 0, []),
  (31, .getfield 22, 3, 3, 0, 0, [109]),
  (34, .if_icmp .ge 48, 3, 82, 0, 0, []),
  (37, .aload_n 1, 1, 0, 0, 0, []),
  (38, .iload 7, 2, 0, 0, 0, []),
  (40, .iload 7, 2, 0, 0, 0, []),
  (42, .iload 6, 2, 0, 0, 0, []),
  (44, .if_icmp .ge 19, 3, 63, 0, 0, []),
  (47, .aload_n 3, 1, 0, 0, 0, []),
  (48, .getfield 35, 3, 1, 0, 0, [68]),
  (51, .iload 4, 2, 0, 0, 0, []),
  (53, .iload 7, 2, 0, 0, 0, []),
  (55, .iadd, 1, 0, 0, 0, []),
  (56, .caload, 1, 0, 0, 0, []),
  (57, .invokestatic 43, 3, 18, 1, 0, [356, 357, 38]),
  (60, .goto 4, 3, 64, 0, 0, []),
  (63, .iload_n 2, 1, 0, 0, 0, []),
  (64, .iastore, 1, 0, 0, 0, []),
  (65, .aload_n 1, 1, 0, 0, 0, []),
  (66, .iload 7, 2, 0, 0, 0, []),
  (68, .iaload, 1, 0, 0, 0, []),
  (69, .bipush 9, 2, 0, 0, 0, []),
  (71, .if_icmp .le 5, 3, 76, 0, 0, []),
  (74, .iconst 0, 1, 0, 0, 0, []),
  (75, .ireturn, 1, 0, 0, 0, []),
  (76, .iinc 7 1, 3, 0, 0, 0, []),
  (79, .goto (-51), 3, 28, 0, 0, []),
  (82, .iconst 1, 1, 0, 0, 0, []),
  (83, .ireturn, 1, 0, 0, 0, [])]
def mi21 : minfo := (⟨"HeavyChains$Reade\x72", "takeFigures", "([IILHeavyChains$Letters;II)Z"⟩, prog_5_method_7_code, 8, (some .boolean), 2, 80, mt21)
def mt22 : List (Nat × ent) := [(0, .aload_n 0, 1, 0, 0, 0, []),
  (1, .invokespecial 3, 3, 9000, 1, 0, [209, 59, 60]),
  (4, .aload_n 0, 1, 0, 0, 0, []),
  (5, .bipush 30, 2, 0, 0, 0, []),
  (7, .newarray .int, 2, 0, 0, 0, [108]),
  (9, .putfield 9, 3, 4, 0, 0, [210]),
  (12, .return_, 1, 0, 0, 0, [])]
def mi22 : minfo := (⟨"HeavyChains$Route", "<init>", "()V"⟩, prog_6_method_1_code, 1, none, 1, 60, mt22)
def mt23 : List (Nat × ent) := [(0, .aload_n 0, 1, 0, 0, 0, []),
  (1, .aload_n 1, 1, 0, 0, 0, []),
  (2, .iload_n 2, 1, 0, 0, 0, []),
  (3, .iload_n 3, 1, 0, 0, 0, []),
  (4, .invokevirtual 15, 3, 46, 3, 7, [487, 488, 489, 40]),
  (7, .putfield 21, 3, 4, 2, 0, [216]),
  (10, .aload_n 1, 1, 0, 0, 0, []),
  (11, .getfield 25, 3, 7, 8, 0, [154]),
  (14, .iload_n 2, 1, 0, 0, 0, []),
  (15, .iaload, 1, 0, 0, 0, []),
  (16, .aload_n 1, 1, 0, 0, 0, []),
  (17, .getfield 25, 3, 7, 8, 0, [154]),
  (20, .aload_n 0, 1, 0, 0, 0, []),
  (21, .getfield 21, 3, 4, 2, 0, [216]),
  (24, .iaload, 1, 0, 0, 0, []),
  (25, .isub, 1, 0, 0, 0, []),
  (26, .istore 4, 2, 0, 0, 0, []),
  (28, .aload_n 0, 1, 0, 0, 0, []),
  (29, .iload 4, 2, 0, 0, 0, []),
  (31, .iconst 1, 1, 0, 0, 0, []),
  (32, .iadd, 1, 0, 0, 0, []),
  (33, .aload_n 1, 1, 0, 0, 0, []),
  (34, .getfield 25, 3, 7, 8, 0, [154]),
  (37, .iload_n 3, 1, 0, 0, 0, []),
  (38, .iaload, 1, 0, 0, 0, []),
  (39, .iadd, 1, 0, 0, 0, []),
  (40, .aload_n 1, 1, 0, 0, 0, []),
  (41, .getfield 25, 3, 7, 8, 0, [154]),
  (44, .aload_n 0, 1, 0, 0, 0, []),
  (45, .getfield 21, 3, 4, 2, 0, [216]),
  (48, .iaload, 1, 0, 0, 0, []),
  (49, .isub, 1, 0, 0, 0, []),
  (50, .putfield 28, 3, 4, 1, 0, [213]),
  (53, .iload_n 2, 1, 0, 0, 0, []),
  (54, .istore 5, 2, 0, 0, 0, []),
  (56, .iconst 0, 1, 0, 0, 0, []),
  (57, .istore 6, 2, 0, 0, 0, []),
  (59, .iload 6, 2, 0, 0, 0, []),
  (61, .iload 4, 2, 0, 0, 0, []),
  (63, .if_icmp .gt 27, 3, 90, 0, 0, []),
  (66, .aload_n 0, 1, 0, 0, 0, []),
  (67, .getfield 9, 3, 4, 0, 0, [210]),
  (70, .iload 6, 2, 0, 0, 0, []),
  (72, .iload 5, 2, 0, 0, 0, []),
  (74, .iastore, 1, 0, 0, 0, []),
  (75, .aload_n 1, 1, 0, 0, 0, []),
  (76, .getfield 31, 3, 7, 2, 0, [136]),
  (79, .iload 5, 2, 0, 0, 0, []),
  (81, .iaload, 1, 0, 0, 0, []),
  (82, .istore 5, 2, 0, 0, 0, []),
  (84, .iinc 6 1, 3, 0, 0, 0, []),
  (87, .goto (-28), 3, 59, 0, 0, []),
  (90, .iload_n 3, 1, 0, 0, 0, []),
  (91, .istore 6, 2, 0, 0, 0, []),
  (93, .aload_n 0, 1, 0, 0, 0, []),
  (94, .getfield 28, 3, 4, 1, 0, [213]),
  (97, .iconst 1, 1, 0, 0, 0, []),
  (98, .isub, 1, 0, 0, 0, []),
  (99, .istore 7, 2, 0, 0, 0, []),
  (101, .iload 7, 2, 0, 0, 0, []),
  (103, .iload 4, 2, 0, 0, 0, []),
  (105, .if_icmp .le 27, 3, 132, 0, 0, []),
  (108, .aload_n 0, 1, 0, 0, 0, []),
  (109, .getfield 9, 3, 4, 0, 0, [210]),
  (112, .iload 7, 2, 0, 0, 0, []),
  (114, .iload 6, 2, 0, 0, 0, []),
  (116, .iastore, 1, 0, 0, 0, []),
  (117, .aload_n 1, 1, 0, 0, 0, []),
  (118, .getfield 31, 3, 7, 2, 0, [136]),
  (121, .iload 6, 2, 0, 0, 0, []),
  (123, .iaload, 1, 0, 0, 0, []),
  (124, .istore 6, 2, 0, 0, 0, []),
  (126, .iinc 7 (-1), 3, 0, 0, 0, []),
  (129, .goto (-28), 3, 101, 0, 0, []),
  (132, .return_, 1, 0, 0, 0, [])]
def mi23 : minfo := (⟨"HeavyChains$Route", "lead", "(LHeavyChains$Tree;II)V"⟩, prog_6_method_2_code, 8, none, 2, 85, mt23)
def mt24 : List (Nat × ent) := [(0, .aload_n 0, 1, 0, 0, 0, []),
  (1, .iload_n 2, 1, 0, 0, 0, []),
  (2, .putfield 21, 3, 4, 2, 0, [216]),
  (5, .aload_n 0, 1, 0, 0, 0, []),
  (6, .aload_n 1, 1, 0, 0, 0, []),
  (7, .getfield 34, 3, 7, 4, 0, [141]),
  (10, .iload_n 2, 1, 0, 0, 0, []),
  (11, .iaload, 1, 0, 0, 0, []),
  (12, .putfield 28, 3, 4, 1, 0, [213]),
  (15, .iconst 0, 1, 0, 0, 0, []),
  (16, .istore_n 3, 1, 0, 0, 0, []),
  (17, .iload_n 3, 1, 0, 0, 0, []),
  (18, .aload_n 0, 1, 0, 0, 0, []),
  (19, .getfield 28, 3, 4, 1, 0, [213]),
  (22, .if_icmp .ge 28, 3, 50, 0, 0, []),
  (25, .aload_n 0, 1, 0, 0, 0, []),
  (26, .getfield 9, 3, 4, 0, 0, [210]),
  (29, .iload_n 3, 1, 0, 0, 0, []),
  (30, .aload_n 1, 1, 0, 0, 0, []),
  (31, .getfield 37, 3, 7, 6, 0, [147]),
  (34, .aload_n 1, 1, 0, 0, 0, []),
  (35, .getfield 40, 3, 7, 5, 0, [144]),
  (38, .iload_n 2, 1, 0, 0, 0, []),
  (39, .iaload, 1, 0, 0, 0, []),
  (40, .iload_n 3, 1, 0, 0, 0, []),
  (41, .iadd, 1, 0, 0, 0, []),
  (42, .iaload, 1, 0, 0, 0, []),
  (43, .iastore, 1, 0, 0, 0, []),
  (44, .iinc 3 1, 3, 0, 0, 0, []),
  (47, .goto (-30), 3, 17, 0, 0, []),
  (50, .return_, 1, 0, 0, 0, [])]
def mi24 : minfo := (⟨"HeavyChains$Route", "cove\x72", "(LHeavyChains$Tree;I)V"⟩, prog_6_method_3_code, 4, none, 1, 60, mt24)
def mt25 : List (Nat × ent) := [(0, .iconst 1, 1, 0, 0, 0, []),
  (1, .istore_n 2, 1, 0, 0, 0, []),
  (2, .iconst 1, 1, 0, 0, 0, []),
  (3, .istore_n 3, 1, 0, 0, 0, []),
  (4, .iload_n 3, 1, 0, 0, 0, []),
  (5, .aload_n 0, 1, 0, 0, 0, []),
  (6, .getfield 28, 3, 4, 1, 0, [213]),
  (9, .if_icmp .ge 39, 3, 48, 0, 0, []),
  (12, .aload_n 1, 1, 0, 0, 0, []),
  (13, .getfield 43, 3, 7, 7, 0, [151]),
  (16, .aload_n 0, 1, 0, 0, 0, []),
  (17, .getfield 9, 3, 4, 0, 0, [210]),
  (20, .iload_n 3, 1, 0, 0, 0, []),
  (21, .iaload, 1, 0, 0, 0, []),
  (22, .iaload, 1, 0, 0, 0, []),
  (23, .aload_n 1, 1, 0, 0, 0, []),
  (24, .getfield 43, 3, 7, 7, 0, [151]),
  (27, .aload_n 0, 1, 0, 0, 0, []),
  (28, .getfield 9, 3, 4, 0, 0, [210]),
  (31, .iload_n 3, 1, 0, 0, 0, []),
  (32, .iconst 1, 1, 0, 0, 0, []),
  (33, .isub, 1, 0, 0, 0, []),
  (34, .iaload, 1, 0, 0, 0, []),
  (35, .iaload, 1, 0, 0, 0, []),
  (36, .if_icmp .eq 6, 3, 42, 0, 0, []),
  (39, .iinc 2 1, 3, 0, 0, 0, []),
  (42, .iinc 3 1, 3, 0, 0, 0, []),
  (45, .goto (-41), 3, 4, 0, 0, []),
  (48, .iload_n 2, 1, 0, 0, 0, []),
  (49, .ireturn, 1, 0, 0, 0, [])]
def mi25 : minfo := (⟨"HeavyChains$Route", "pieces", "(LHeavyChains$Tree;)I"⟩, prog_6_method_4_code, 4, (some .int), 1, 60, mt25)
def mt26 : List (Nat × ent) := [(0, .iconst 0, 1, 0, 0, 0, []),
  (1, .istore_n 2, 1, 0, 0, 0, []),
  (2, .iconst 0, 1, 0, 0, 0, []),
  (3, .istore_n 3, 1, 0, 0, 0, []),
  (4, .iload_n 3, 1, 0, 0, 0, []),
  (5, .aload_n 0, 1, 0, 0, 0, []),
  (6, .getfield 28, 3, 4, 1, 0, [213]),
  (9, .if_icmp .ge 20, 3, 29, 0, 0, []),
  (12, .iload_n 2, 1, 0, 0, 0, []),
  (13, .aload_n 1, 1, 0, 0, 0, []),
  (14, .aload_n 0, 1, 0, 0, 0, []),
  (15, .getfield 9, 3, 4, 0, 0, [210]),
  (18, .iload_n 3, 1, 0, 0, 0, []),
  (19, .iaload, 1, 0, 0, 0, []),
  (20, .iaload, 1, 0, 0, 0, []),
  (21, .iadd, 1, 0, 0, 0, []),
  (22, .istore_n 2, 1, 0, 0, 0, []),
  (23, .iinc 3 1, 3, 0, 0, 0, []),
  (26, .goto (-22), 3, 4, 0, 0, []),
  (29, .iload_n 2, 1, 0, 0, 0, []),
  (30, .ireturn, 1, 0, 0, 0, [])]
def mi26 : minfo := (⟨"HeavyChains$Route", "sum", "([I)I"⟩, prog_6_method_5_code, 4, (some .int), 1, 60, mt26)
def mt27 : List (Nat × ent) := [(0, .sipush (-9999), 3, 0, 0, 0, []),
  (3, .istore_n 2, 1, 0, 0, 0, []),
  (4, .iconst 0, 1, 0, 0, 0, []),
  (5, .istore_n 3, 1, 0, 0, 0, []),
  (6, .iload_n 3, 1, 0, 0, 0, []),
  (7, .aload_n 0, 1, 0, 0, 0, []),
  (8, .getfield 28, 3, 4, 1, 0, [213]),
  (11, .if_icmp .ge 22, 3, 33, 0, 0, []),
  (14, .iload_n 2, 1, 0, 0, 0, []),
  (15, .aload_n 1, 1, 0, 0, 0, []),
  (16, .aload_n 0, 1, 0, 0, 0, []),
  (17, .getfield 9, 3, 4, 0, 0, [210]),
  (20, .iload_n 3, 1, 0, 0, 0, []),
  (21, .iaload, 1, 0, 0, 0, []),
  (22, .iaload, 1, 0, 0, 0, []),
  (23, .invokestatic 46, 3, 9002, 2, 0, [502, 188, 42, 189]),
  (26, .istore_n 2, 1, 0, 0, 0, []),
  (27, .iinc 3 1, 3, 0, 0, 0, []),
  (30, .goto (-24), 3, 6, 0, 0, []),
  (33, .iload_n 2, 1, 0, 0, 0, []),
  (34, .ireturn, 1, 0, 0, 0, [])]
def mi27 : minfo := (⟨"HeavyChains$Route", "greatest", "([I)I"⟩, prog_6_method_6_code, 4, (some .int), 1, 60, mt27)
def mt28 : List (Nat × ent) := [(0, .sipush 9999, 3, 0, 0, 0, []),
  (3, .istore_n 2, 1, 0, 0, 0, []),
  (4, .iconst 0, 1, 0, 0, 0, []),
  (5, .istore_n 3, 1, 0, 0, 0, []),
  (6, .iload_n 3, 1, 0, 0, 0, []),
  (7, .aload_n 0, 1, 0, 0, 0, []),
  (8, .getfield 28, 3, 4, 1, 0, [213]),
  (11, .if_icmp .ge 22, 3, 33, 0, 0, []),
  (14, .iload_n 2, 1, 0, 0, 0, []),
  (15, .aload_n 1, 1, 0, 0, 0, []),
  (16, .aload_n 0, 1, 0, 0, 0, []),
  (17, .getfield 9, 3, 4, 0, 0, [210]),
  (20, .iload_n 3, 1, 0, 0, 0, []),
  (21, .iaload, 1, 0, 0, 0, []),
  (22, .iaload, 1, 0, 0, 0, []),
  (23, .invokestatic 51, 3, 9003, 2, 0, [558, 380, 42, 381]),
  (26, .istore_n 2, 1, 0, 0, 0, []),
  (27, .iinc 3 1, 3, 0, 0, 0, []),
  (30, .goto (-24), 3, 6, 0, 0, []),
  (33, .iload_n 2, 1, 0, 0, 0, []),
  (34, .ireturn, 1, 0, 0, 0, [])]
def mi28 : minfo := (⟨"HeavyChains$Route", "least", "([I)I"⟩, prog_6_method_7_code, 4, (some .int), 1, 60, mt28)
def mt29 : List (Nat × ent) := [(0, .iconst 0, 1, 0, 0, 0, []),
  (1, .istore_n 2, 1, 0, 0, 0, []),
  (2, .sipush 9999, 3, 0, 0, 0, []),
  (5, .istore_n 3, 1, 0, 0, 0, []),
  (6, .iconst 0, 1, 0, 0, 0, []),
  (7, .istore 4, 2, 0, 0, 0, []),
  (9, .iload 4, 2, 0, 0, 0, []),
  (11, .aload_n 0, 1, 0, 0, 0, []),
  (12, .getfield 28, 3, 4, 1, 0, [213]),
  (15, .if_icmp .ge 39, 3, 54, 0, 0, []),
  (18, .iload_n 3, 1, 0, 0, 0, []),
  (19, .aload_n 1, 1, 0, 0, 0, []),
  (20, .aload_n 0, 1, 0, 0, 0, []),
  (21, .getfield 9, 3, 4, 0, 0, [210]),
  (24, .iload 4, 2, 0, 0, 0, []),
  (26, .iaload, 1, 0, 0, 0, []),
  (27, .iaload, 1, 0, 0, 0, []),
  (28, .invokestatic 51, 3, 9003, 2, 0, [558, 380, 42, 381]),
  (31, .istore_n 3, 1, 0, 0, 0, []),
  (32, .iload_n 2, 1, 0, 0, 0, []),
  (33, .aload_n 1, 1, 0, 0, 0, []),
  (34, .aload_n 0, 1, 0, 0, 0, []),
  (35, .getfield 9, 3, 4, 0, 0, [210]),
  (38, .iload 4, 2, 0, 0, 0, []),
  (40, .iaload, 1, 0, 0, 0, []),
  (41, .iaload, 1, 0, 0, 0, []),
  (42, .iload_n 3, 1, 0, 0, 0, []),
  (43, .isub, 1, 0, 0, 0, []),
  (44, .invokestatic 46, 3, 9002, 2, 0, [502, 188, 42, 189]),
  (47, .istore_n 2, 1, 0, 0, 0, []),
  (48, .iinc 4 1, 3, 0, 0, 0, []),
  (51, .goto (-42), 3, 9, 0, 0, []),
  (54, .iload_n 2, 1, 0, 0, 0, []),
  (55, .ireturn, 1, 0, 0, 0, [])]
def mi29 : minfo := (⟨"HeavyChains$Route", "gain", "([I)I"⟩, prog_6_method_8_code, 5, (some .int), 1, 60, mt29)
def mt30 : List (Nat × ent) := [(0, .iload_n 2, 1, 0, 0, 0, []),
  (1, .istore_n 3, 1, 0, 0, 0, []),
  (2, .iconst 0, 1, 0, 0, 0, []),
  (3, .istore 4, 2, 0, 0, 0, []),
  (5, .iload 4, 2, 0, 0, 0, []),
  (7, .aload_n 0, 1, 0, 0, 0, []),
  (8, .getfield 28, 3, 4, 1, 0, [213]),
  (11, .if_icmp .ge 40, 3, 51, 0, 0, []),
  (14, .aload_n 1, 1, 0, 0, 0, []),
  (15, .getfield 54, 3, 0, 1, 0, [96]),
  (18, .aload_n 0, 1, 0, 0, 0, []),
  (19, .getfield 9, 3, 4, 0, 0, [210]),
  (22, .iload 4, 2, 0, 0, 0, []),
  (24, .iaload, 1, 0, 0, 0, []),
  (25, .iaload, 1, 0, 0, 0, []),
  (26, .iload_n 3, 1, 0, 0, 0, []),
  (27, .imul, 1, 0, 0, 0, []),
  (28, .aload_n 1, 1, 0, 0, 0, []),
  (29, .getfield 59, 3, 0, 2, 0, [100]),
  (32, .aload_n 0, 1, 0, 0, 0, []),
  (33, .getfield 9, 3, 4, 0, 0, [210]),
  (36, .iload 4, 2, 0, 0, 0, []),
  (38, .iaload, 1, 0, 0, 0, []),
  (39, .iaload, 1, 0, 0, 0, []),
  (40, .iadd, 1, 0, 0, 0, []),
  (41, .bipush 97, 2, 0, 0, 0, []),
  (43, .irem, 1, 0, 0, 0, []),
  (44, .istore_n 3, 1, 0, 0, 0, []),
  (45, .iinc 4 1, 3, 0, 0, 0, []),
  (48, .goto (-43), 3, 5, 0, 0, []),
  (51, .iload_n 3, 1, 0, 0, 0, []),
  (52, .ireturn, 1, 0, 0, 0, [])]
def mi30 : minfo := (⟨"HeavyChains$Route", "carry", "(LHeavyChains$Accounts;I)I"⟩, prog_6_method_9_code, 5, (some .int), 1, 60, mt30)
def mt31 : List (Nat × ent) := [(0, .iconst 0, 1, 0, 0, 0, []),
  (1, .istore 4, 2, 0, 0, 0, []),
  (3, .iload 4, 2, 0, 0, 0, []),
  (5, .aload_n 0, 1, 0, 0, 0, []),
  (6, .getfield 28, 3, 4, 1, 0, [213]),
  (9, .if_icmp .ge 37, 3, 46, 0, 0, []),
  (12, .aload_n 1, 1, 0, 0, 0, []),
  (13, .aload_n 0, 1, 0, 0, 0, []),
  (14, .getfield 9, 3, 4, 0, 0, [210]),
  (17, .iload 4, 2, 0, 0, 0, []),
  (19, .iaload, 1, 0, 0, 0, []),
  (20, .iaload, 1, 0, 0, 0, []),
  (21, .iload_n 2, 1, 0, 0, 0, []),
  (22, .iload_n 3, 1, 0, 0, 0, []),
  (23, .invokestatic 62, 3, 33, 3, 0, [499, 500, 43]),
  (26, .sipush (-9999), 3, 0, 0, 0, []),
  (29, .sipush 9999, 3, 0, 0, 0, []),
  (32, .invokestatic 66, 3, 81, 3, 1, [503, 449, 36]),
  (35, .ifCond .ne 5, 3, 40, 0, 0, []),
  (38, .iconst 0, 1, 0, 0, 0, []),
  (39, .ireturn, 1, 0, 0, 0, []),
  (40, .iinc 4 1, 3, 0, 0, 0, []),
  (43, .goto (-40), 3, 3, 0, 0, []),
  (46, .iconst 1, 1, 0, 0, 0, []),
  (47, .ireturn, 1, 0, 0, 0, [])]
def mi31 : minfo := (⟨"HeavyChains$Route", "canTake", "([III)Z"⟩, prog_6_method_10_code, 5, (some .boolean), 2, 82, mt31)
def mt32 : List (Nat × ent) := [(0, .iconst 0, 1, 0, 0, 0, []),
  (1, .istore 4, 2, 0, 0, 0, []),
  (3, .iload 4, 2, 0, 0, 0, []),
  (5, .aload_n 0, 1, 0, 0, 0, []),
  (6, .getfield 28, 3, 4, 1, 0, [213]),
  (9, .if_icmp .ge 32, 3, 41, 0, 0, []),
  (12, .aload_n 1, 1, 0, 0, 0, []),
  (13, .aload_n 0, 1, 0, 0, 0, []),
  (14, .getfield 9, 3, 4, 0, 0, [210]),
  (17, .iload 4, 2, 0, 0, 0, []),
  (19, .iaload, 1, 0, 0, 0, []),
  (20, .aload_n 1, 1, 0, 0, 0, []),
  (21, .aload_n 0, 1, 0, 0, 0, []),
  (22, .getfield 9, 3, 4, 0, 0, [210]),
  (25, .iload 4, 2, 0, 0, 0, []),
  (27, .iaload, 1, 0, 0, 0, []),
  (28, .iaload, 1, 0, 0, 0, []),
  (29, .iload_n 2, 1, 0, 0, 0, []),
  (30, .iload_n 3, 1, 0, 0, 0, []),
  (31, .invokestatic 62, 3, 33, 3, 0, [499, 500, 43]),
  (34, .iastore, 1, 0, 0, 0, []),
  (35, .iinc 4 1, 3, 0, 0, 0, []),
  (38, .goto (-35), 3, 3, 0, 0, []),
  (41, .return_, 1, 0, 0, 0, [])]
def mi32 : minfo := (⟨"HeavyChains$Route", "take", "([III)V"⟩, prog_6_method_11_code, 5, none, 2, 82, mt32)
def mt33 : List (Nat × ent) := [(0, .iload_n 2, 1, 0, 0, 0, []),
  (1, .tableswitch 45 0 2 #[27, 31, 37], 27, 0, 0, 0, []),
  (28, .iload_n 0, 1, 0, 0, 0, []),
  (29, .iload_n 1, 1, 0, 0, 0, []),
  (30, .iadd, 1, 0, 0, 0, []),
  (31, .ireturn, 1, 0, 0, 0, []),
  (32, .iload_n 0, 1, 0, 0, 0, []),
  (33, .iconst 2, 1, 0, 0, 0, []),
  (34, .iload_n 1, 1, 0, 0, 0, []),
  (35, .imul, 1, 0, 0, 0, []),
  (36, .iadd, 1, 0, 0, 0, []),
  (37, .ireturn, 1, 0, 0, 0, []),
  (38, .iconst 0, 1, 0, 0, 0, []),
  (39, .iload_n 0, 1, 0, 0, 0, []),
  (40, .iload_n 1, 1, 0, 0, 0, []),
  (41, .iadd, 1, 0, 0, 0, []),
  (42, .invokestatic 46, 3, 9002, 2, 0, [502, 188, 42, 189]),
  (45, .ireturn, 1, 0, 0, 0, []),
  (46, .iconst 0, 1, 0, 0, 0, []),
  (47, .iload_n 0, 1, 0, 0, 0, []),
  (48, .iload_n 1, 1, 0, 0, 0, []),
  (49, .iconst 2, 1, 0, 0, 0, []),
  (50, .idiv, 1, 0, 0, 0, []),
  (51, .iadd, 1, 0, 0, 0, []),
  (52, .invokestatic 46, 3, 9002, 2, 0, [502, 188, 42, 189]),
  (55, .ireturn, 1, 0, 0, 0, [])]
def mi33 : minfo := (⟨"HeavyChains$Route", "added", "(III)I"⟩, prog_6_method_12_code, 3, (some .int), 1, 60, mt33)
def mt34 : List (Nat × ent) := [(0, .aload_n 0, 1, 0, 0, 0, []),
  (1, .invokespecial 1, 3, 9000, 1, 0, [186, 59, 60]),
  (4, .aload_n 0, 1, 0, 0, 0, []),
  (5, .iconst 1, 1, 0, 0, 0, []),
  (6, .iload_n 1, 1, 0, 0, 0, []),
  (7, .invokestatic 7, 3, 9002, 2, 0, [187, 188, 42, 189]),
  (10, .anewarray 13, 3, 3, 0, 0, [190, 191]),
  (13, .putfield 15, 3, 5, 0, 0, [193]),
  (16, .iconst 0, 1, 0, 0, 0, []),
  (17, .istore_n 2, 1, 0, 0, 0, []),
  (18, .iload_n 2, 1, 0, 0, 0, []),
  (19, .aload_n 0, 1, 0, 0, 0, []),
  (20, .getfield 15, 3, 5, 0, 0, [193]),
  (23, .arraylength, 1, 0, 0, 0, []),
  (24, .if_icmp .ge 22, 3, 46, 0, 0, []),
  (27, .aload_n 0, 1, 0, 0, 0, []),
  (28, .getfield 15, 3, 5, 0, 0, [193]),
  (31, .iload_n 2, 1, 0, 0, 0, []),
  (32, .new 13, 3, 0, 0, 0, [190, 85, 39]),
  (35, .dup, 1, 0, 0, 0, []),
  (36, .invokespecial 21, 3, 1, 1, 1, [192, 87, 39]),
  (39, .aastore, 1, 0, 0, 0, []),
  (40, .iinc 2 1, 3, 0, 0, 0, []),
  (43, .goto (-25), 3, 18, 0, 0, []),
  (46, .return_, 1, 0, 0, 0, [])]
def mi34 : minfo := (⟨"HeavyChains$Shelf", "<init>", "(I)V"⟩, prog_7_method_1_code, 3, none, 2, 80, mt34)
def mt35 : List (Nat × ent) := [(0, .aload_n 0, 1, 0, 0, 0, []),
  (1, .getfield 15, 3, 5, 0, 0, [193]),
  (4, .aload_n 0, 1, 0, 0, 0, []),
  (5, .getfield 22, 3, 5, 2, 0, [196]),
  (8, .aaload, 1, 0, 0, 0, []),
  (9, .aload_n 1, 1, 0, 0, 0, []),
  (10, .invokevirtual 26, 3, 3, 2, 0, [508, 395, 396, 39]),
  (13, .aload_n 0, 1, 0, 0, 0, []),
  (14, .aload_n 0, 1, 0, 0, 0, []),
  (15, .getfield 22, 3, 5, 2, 0, [196]),
  (18, .iconst 1, 1, 0, 0, 0, []),
  (19, .iadd, 1, 0, 0, 0, []),
  (20, .aload_n 0, 1, 0, 0, 0, []),
  (21, .getfield 15, 3, 5, 0, 0, [193]),
  (24, .arraylength, 1, 0, 0, 0, []),
  (25, .if_icmp .ge 12, 3, 37, 0, 0, []),
  (28, .aload_n 0, 1, 0, 0, 0, []),
  (29, .getfield 22, 3, 5, 2, 0, [196]),
  (32, .iconst 1, 1, 0, 0, 0, []),
  (33, .iadd, 1, 0, 0, 0, []),
  (34, .goto 4, 3, 38, 0, 0, []),
  (37, .iconst 0, 1, 0, 0, 0, []),
  (38, .putfield 22, 3, 5, 2, 0, [196]),
  (41, .aload_n 0, 1, 0, 0, 0, []),
  (42, .aload_n 0, 1, 0, 0, 0, []),
  (43, .getfield 30, 3, 5, 1, 0, [194]),
  (46, .iconst 1, 1, 0, 0, 0, []),
  (47, .iadd, 1, 0, 0, 0, []),
  (48, .aload_n 0, 1, 0, 0, 0, []),
  (49, .getfield 15, 3, 5, 0, 0, [193]),
  (52, .arraylength, 1, 0, 0, 0, []),
  (53, .invokestatic 33, 3, 9003, 2, 0, [509, 380, 42, 381]),
  (56, .putfield 30, 3, 5, 1, 0, [194]),
  (59, .return_, 1, 0, 0, 0, [])]
def mi35 : minfo := (⟨"HeavyChains$Shelf", "push", "(LHeavyChains$Accounts;)V"⟩, prog_7_method_2_code, 2, none, 2, 81, mt35)
def mt36 : List (Nat × ent) := [(0, .aload_n 0, 1, 0, 0, 0, []),
  (1, .getfield 30, 3, 5, 1, 0, [194]),
  (4, .ifCond .gt 5, 3, 9, 0, 0, []),
  (7, .iconst 0, 1, 0, 0, 0, []),
  (8, .ireturn, 1, 0, 0, 0, []),
  (9, .aload_n 0, 1, 0, 0, 0, []),
  (10, .aload_n 0, 1, 0, 0, 0, []),
  (11, .getfield 22, 3, 5, 2, 0, [196]),
  (14, .ifCond .le 12, 3, 26, 0, 0, []),
  (17, .aload_n 0, 1, 0, 0, 0, []),
  (18, .getfield 22, 3, 5, 2, 0, [196]),
  (21, .iconst 1, 1, 0, 0, 0, []),
  (22, .isub, 1, 0, 0, 0, []),
  (23, .goto 10, 3, 33, 0, 0, []),
  (26, .aload_n 0, 1, 0, 0, 0, []),
  (27, .getfield 15, 3, 5, 0, 0, [193]),
  (30, .arraylength, 1, 0, 0, 0, []),
  (31, .iconst 1, 1, 0, 0, 0, []),
  (32, .isub, 1, 0, 0, 0, []),
  (33, .putfield 22, 3, 5, 2, 0, [196]),
  (36, .aload_n 0, 1, 0, 0, 0, []),
  (37, .dup, 1, 0, 0, 0, []),
  (38, .getfield 30, 3, 5, 1, 0, [194]),
  (41, .iconst 1, 1, 0, 0, 0, []),
  (42, .isub, 1, 0, 0, 0, []),
  (43, .putfield 30, 3, 5, 1, 0, [194]),
  (46, .aload_n 1, 1, 0, 0, 0, []),
  (47, .aload_n 0, 1, 0, 0, 0, []),
  (48, .getfield 15, 3, 5, 0, 0, [193]),
  (51, .aload_n 0, 1, 0, 0, 0, []),
  (52, .getfield 22, 3, 5, 2, 0, [196]),
  (55, .aaload, 1, 0, 0, 0, []),
  (56, .invokevirtual 26, 3, 3, 2, 0, [508, 395, 396, 39]),
  (59, .iconst 1, 1, 0, 0, 0, []),
  (60, .ireturn, 1, 0, 0, 0, [])]
def mi36 : minfo := (⟨"HeavyChains$Shelf", "pop", "(LHeavyChains$Accounts;)Z"⟩, prog_7_method_3_code, 2, (some .boolean), 2, 81, mt36)
def mt37 : List (Nat × ent) := [(0, .aload_n 0, 1, 0, 0, 0, []),
  (1, .invokespecial 3, 3, 9000, 1, 0, [230, 59, 60]),
  (4, .aload_n 0, 1, 0, 0, 0, []),
  (5, .bipush 30, 2, 0, 0, 0, []),
  (7, .newarray .int, 2, 0, 0, 0, [108]),
  (9, .putfield 9, 3, 6, 0, 0, [231]),
  (12, .aload_n 0, 1, 0, 0, 0, []),
  (13, .bipush 30, 2, 0, 0, 0, []),
  (15, .newarray .int, 2, 0, 0, 0, [108]),
  (17, .putfield 15, 3, 6, 1, 0, [233]),
  (20, .aload_n 0, 1, 0, 0, 0, []),
  (21, .bipush 30, 2, 0, 0, 0, []),
  (23, .newarray .boolean, 2, 1, 0, 0, [253]),
  (25, .putfield 18, 3, 6, 2, 0, [235]),
  (28, .iconst 0, 1, 0, 0, 0, []),
  (29, .istore_n 1, 1, 0, 0, 0, []),
  (30, .iload_n 1, 1, 0, 0, 0, []),
  (31, .bipush 30, 2, 0, 0, 0, []),
  (33, .if_icmp .ge 16, 3, 49, 0, 0, []),
  (36, .aload_n 0, 1, 0, 0, 0, []),
  (37, .getfield 9, 3, 6, 0, 0, [231]),
  (40, .iload_n 1, 1, 0, 0, 0, []),
  (41, .iconst 1, 1, 0, 0, 0, []),
  (42, .iastore, 1, 0, 0, 0, []),
  (43, .iinc 1 1, 3, 0, 0, 0, []),
  (46, .goto (-16), 3, 30, 0, 0, []),
  (49, .return_, 1, 0, 0, 0, [])]
def mi37 : minfo := (⟨"HeavyChains$Survey", "<init>", "()V"⟩, prog_8_method_1_code, 2, none, 1, 60, mt37)
def mt38 : List (Nat × ent) := [(0, .iconst 0, 1, 0, 0, 0, []),
  (1, .istore 4, 2, 0, 0, 0, []),
  (3, .iload 4, 2, 0, 0, 0, []),
  (5, .aload_n 1, 1, 0, 0, 0, []),
  (6, .getfield 22, 3, 7, 0, 0, [128]),
  (9, .if_icmp .ge 17, 3, 26, 0, 0, []),
  (12, .aload_n 0, 1, 0, 0, 0, []),
  (13, .getfield 18, 3, 6, 2, 0, [235]),
  (16, .iload 4, 2, 0, 0, 0, []),
  (18, .iconst 0, 1, 0, 0, 0, []),
  (19, .bastore, 1, 0, 0, 0, []),
  (20, .iinc 4 1, 3, 0, 0, 0, []),
  (23, .goto (-20), 3, 3, 0, 0, []),
  (26, .iconst 0, 1, 0, 0, 0, []),
  (27, .istore 4, 2, 0, 0, 0, []),
  (29, .iload_n 2, 1, 0, 0, 0, []),
  (30, .istore 5, 2, 0, 0, 0, []),
  (32, .aload_n 1, 1, 0, 0, 0, []),
  (33, .getfield 28, 3, 7, 8, 0, [155]),
  (36, .iload_n 2, 1, 0, 0, 0, []),
  (37, .iaload, 1, 0, 0, 0, []),
  (38, .istore 6, 2, 0, 0, 0, []),
  (40, .iload 6, 2, 0, 0, 0, []),
  (42, .ifCond .lt 44, 3, 86, 0, 0, []),
  (45, .iload 4, 2, 0, 0, 0, []),
  (47, .aload_n 3, 1, 0, 0, 0, []),
  (48, .iload 5, 2, 0, 0, 0, []),
  (50, .iaload, 1, 0, 0, 0, []),
  (51, .iadd, 1, 0, 0, 0, []),
  (52, .istore 4, 2, 0, 0, 0, []),
  (54, .aload_n 0, 1, 0, 0, 0, []),
  (55, .getfield 15, 3, 6, 1, 0, [233]),
  (58, .iload 5, 2, 0, 0, 0, []),
  (60, .iload 4, 2, 0, 0, 0, []),
  (62, .iastore, 1, 0, 0, 0, []),
  (63, .aload_n 0, 1, 0, 0, 0, []),
  (64, .getfield 18, 3, 6, 2, 0, [235]),
  (67, .iload 5, 2, 0, 0, 0, []),
  (69, .iconst 1, 1, 0, 0, 0, []),
  (70, .bastore, 1, 0, 0, 0, []),
  (71, .aload_n 1, 1, 0, 0, 0, []),
  (72, .getfield 31, 3, 7, 2, 0, [135]),
  (75, .iload 5, 2, 0, 0, 0, []),
  (77, .iaload, 1, 0, 0, 0, []),
  (78, .istore 5, 2, 0, 0, 0, []),
  (80, .iinc 6 (-1), 3, 0, 0, 0, []),
  (83, .goto (-43), 3, 40, 0, 0, []),
  (86, .iconst 1, 1, 0, 0, 0, []),
  (87, .istore 6, 2, 0, 0, 0, []),
  (89, .iload 6, 2, 0, 0, 0, []),
  (91, .aload_n 1, 1, 0, 0, 0, []),
  (92, .getfield 22, 3, 7, 0, 0, [128]),
  (95, .if_icmp .ge 43, 3, 138, 0, 0, []),
  (98, .aload_n 0, 1, 0, 0, 0, []),
  (99, .getfield 18, 3, 6, 2, 0, [235]),
  (102, .iload 6, 2, 0, 0, 0, []),
  (104, .baload, 1, 0, 0, 0, []),
  (105, .ifCond .ne 27, 3, 132, 0, 0, []),
  (108, .aload_n 0, 1, 0, 0, 0, []),
  (109, .getfield 15, 3, 6, 1, 0, [233]),
  (112, .iload 6, 2, 0, 0, 0, []),
  (114, .aload_n 0, 1, 0, 0, 0, []),
  (115, .getfield 15, 3, 6, 1, 0, [233]),
  (118, .aload_n 1, 1, 0, 0, 0, []),
  (119, .getfield 31, 3, 7, 2, 0, [135]),
  (122, .iload 6, 2, 0, 0, 0, []),
  (124, .iaload, 1, 0, 0, 0, []),
  (125, .iaload, 1, 0, 0, 0, []),
  (126, .aload_n 3, 1, 0, 0, 0, []),
  (127, .iload 6, 2, 0, 0, 0, []),
  (129, .iaload, 1, 0, 0, 0, []),
  (130, .iadd, 1, 0, 0, 0, []),
  (131, .iastore, 1, 0, 0, 0, []),
  (132, .iinc 6 1, 3, 0, 0, 0, []),
  (135, .goto (-46), 3, 89, 0, 0, []),
  (138, .return_, 1, 0, 0, 0, [])]
def mi38 : minfo := (⟨"HeavyChains$Survey", "measure", "(LHeavyChains$Tree;I[I)V"⟩, prog_8_method_2_code, 7, none, 1, 60, mt38)
def mt39 : List (Nat × ent) := [(0, .iconst 0, 1, 0, 0, 0, []),
  (1, .istore_n 3, 1, 0, 0, 0, []),
  (2, .iload_n 3, 1, 0, 0, 0, []),
  (3, .aload_n 1, 1, 0, 0, 0, []),
  (4, .getfield 22, 3, 7, 0, 0, [128]),
  (7, .if_icmp .ge 75, 3, 82, 0, 0, []),
  (10, .aload_n 0, 1, 0, 0, 0, []),
  (11, .aload_n 1, 1, 0, 0, 0, []),
  (12, .iload_n 3, 1, 0, 0, 0, []),
  (13, .aload_n 2, 1, 0, 0, 0, []),
  (14, .invokevirtual 34, 3, 38, 4, 6, [657, 616, 617, 44]),
  (17, .iload_n 3, 1, 0, 0, 0, []),
  (18, .istore 4, 2, 0, 0, 0, []),
  (20, .iload 4, 2, 0, 0, 0, []),
  (22, .aload_n 1, 1, 0, 0, 0, []),
  (23, .getfield 22, 3, 7, 0, 0, [128]),
  (26, .if_icmp .ge 50, 3, 76, 0, 0, []),
  (29, .iload 4, 2, 0, 0, 0, []),
  (31, .ifCond .eq 17, 3, 48, 0, 0, []),
  (34, .aload_n 0, 1, 0, 0, 0, []),
  (35, .getfield 15, 3, 6, 1, 0, [233]),
  (38, .iload 4, 2, 0, 0, 0, []),
  (40, .iaload, 1, 0, 0, 0, []),
  (41, .aload_n 0, 1, 0, 0, 0, []),
  (42, .getfield 38, 3, 6, 5, 0, [238]),
  (45, .if_icmp .le 25, 3, 70, 0, 0, []),
  (48, .aload_n 0, 1, 0, 0, 0, []),
  (49, .iload_n 3, 1, 0, 0, 0, []),
  (50, .putfield 41, 3, 6, 3, 0, [236]),
  (53, .aload_n 0, 1, 0, 0, 0, []),
  (54, .iload 4, 2, 0, 0, 0, []),
  (56, .putfield 44, 3, 6, 4, 0, [237]),
  (59, .aload_n 0, 1, 0, 0, 0, []),
  (60, .aload_n 0, 1, 0, 0, 0, []),
  (61, .getfield 15, 3, 6, 1, 0, [233]),
  (64, .iload 4, 2, 0, 0, 0, []),
  (66, .iaload, 1, 0, 0, 0, []),
  (67, .putfield 38, 3, 6, 5, 0, [238]),
  (70, .iinc 4 1, 3, 0, 0, 0, []),
  (73, .goto (-53), 3, 20, 0, 0, []),
  (76, .iinc 3 1, 3, 0, 0, 0, []),
  (79, .goto (-77), 3, 2, 0, 0, []),
  (82, .return_, 1, 0, 0, 0, [])]
def mi39 : minfo := (⟨"HeavyChains$Survey", "search", "(LHeavyChains$Tree;[I)V"⟩, prog_8_method_3_code, 5, none, 2, 86, mt39)
def mt40 : List (Nat × ent) := [(0, .iload_n 1, 1, 0, 0, 0, []),
  (1, .ifCond .ne 10, 3, 11, 0, 0, []),
  (4, .aload_n 0, 1, 0, 0, 0, []),
  (5, .getfield 41, 3, 6, 3, 0, [236]),
  (8, .goto 7, 3, 15, 0, 0, []),
  (11, .aload_n 0, 1, 0, 0, 0, []),
  (12, .getfield 44, 3, 6, 4, 0, [237]),
  (15, .ireturn, 1, 0, 0, 0, [])]
def mi40 : minfo := (⟨"HeavyChains$Survey", "end", "(I)I"⟩, prog_8_method_4_code, 2, (some .int), 1, 60, mt40)
def mt41 : List (Nat × ent) := [(0, .aload_n 0, 1, 0, 0, 0, []),
  (1, .invokespecial 3, 3, 9000, 1, 0, [127, 59, 60]),
  (4, .aload_n 0, 1, 0, 0, 0, []),
  (5, .bipush 30, 2, 0, 0, 0, []),
  (7, .newarray .int, 2, 0, 0, 0, [108]),
  (9, .putfield 9, 3, 7, 2, 0, [134]),
  (12, .aload_n 0, 1, 0, 0, 0, []),
  (13, .bipush 30, 2, 0, 0, 0, []),
  (15, .newarray .int, 2, 0, 0, 0, [108]),
  (17, .putfield 15, 3, 7, 3, 0, [138]),
  (20, .aload_n 0, 1, 0, 0, 0, []),
  (21, .bipush 30, 2, 0, 0, 0, []),
  (23, .newarray .int, 2, 0, 0, 0, [108]),
  (25, .putfield 18, 3, 7, 4, 0, [140]),
  (28, .aload_n 0, 1, 0, 0, 0, []),
  (29, .bipush 30, 2, 0, 0, 0, []),
  (31, .newarray .int, 2, 0, 0, 0, [108]),
  (33, .putfield 21, 3, 7, 5, 0, [143]),
  (36, .aload_n 0, 1, 0, 0, 0, []),
  (37, .bipush 30, 2, 0, 0, 0, []),
  (39, .newarray .int, 2, 0, 0, 0, [108]),
  (41, .putfield 24, 3, 7, 6, 0, [146]),
  (44, .aload_n 0, 1, 0, 0, 0, []),
  (45, .bipush 30, 2, 0, 0, 0, []),
  (47, .newarray .int, 2, 0, 0, 0, [108]),
  (49, .putfield 27, 3, 7, 7, 0, [150]),
  (52, .aload_n 0, 1, 0, 0, 0, []),
  (53, .bipush 30, 2, 0, 0, 0, []),
  (55, .newarray .int, 2, 0, 0, 0, [108]),
  (57, .putfield 30, 3, 7, 8, 0, [153]),
  (60, .aload_n 0, 1, 0, 0, 0, []),
  (61, .bipush 30, 2, 0, 0, 0, []),
  (63, .newarray .int, 2, 0, 0, 0, [108]),
  (65, .putfield 33, 3, 7, 9, 0, [157]),
  (68, .return_, 1, 0, 0, 0, [])]
def mi41 : minfo := (⟨"HeavyChains$Tree", "<init>", "()V"⟩, prog_9_method_1_code, 1, none, 1, 60, mt41)
def mt42 : List (Nat × ent) := [(0, .aload_n 0, 1, 0, 0, 0, []),
  (1, .iload_n 1, 1, 0, 0, 0, []),
  (2, .bipush 30, 2, 0, 0, 0, []),
  (4, .invokestatic 36, 3, 9003, 2, 0, [379, 380, 42, 381]),
  (7, .putfield 42, 3, 7, 0, 0, [129]),
  (10, .iconst 0, 1, 0, 0, 0, []),
  (11, .istore_n 3, 1, 0, 0, 0, []),
  (12, .iload_n 3, 1, 0, 0, 0, []),
  (13, .aload_n 0, 1, 0, 0, 0, []),
  (14, .getfield 42, 3, 7, 0, 0, [129]),
  (17, .if_icmp .ge 33, 3, 50, 0, 0, []),
  (20, .aload_n 0, 1, 0, 0, 0, []),
  (21, .getfield 9, 3, 7, 2, 0, [134]),
  (24, .iload_n 3, 1, 0, 0, 0, []),
  (25, .aload_n 2, 1, 0, 0, 0, []),
  (26, .iload_n 3, 1, 0, 0, 0, []),
  (27, .iaload, 1, 0, 0, 0, []),
  (28, .iastore, 1, 0, 0, 0, []),
  (29, .aload_n 0, 1, 0, 0, 0, []),
  (30, .getfield 18, 3, 7, 4, 0, [140]),
  (33, .iload_n 3, 1, 0, 0, 0, []),
  (34, .iconst 1, 1, 0, 0, 0, []),
  (35, .iastore, 1, 0, 0, 0, []),
  (36, .aload_n 0, 1, 0, 0, 0, []),
  (37, .getfield 15, 3, 7, 3, 0, [138]),
  (40, .iload_n 3, 1, 0, 0, 0, []),
  (41, .bipush (-4), 2, 0, 0, 0, []),
  (43, .iastore, 1, 0, 0, 0, []),
  (44, .iinc 3 1, 3, 0, 0, 0, []),
  (47, .goto (-35), 3, 12, 0, 0, []),
  (50, .aload_n 0, 1, 0, 0, 0, []),
  (51, .getfield 42, 3, 7, 0, 0, [129]),
  (54, .iconst 1, 1, 0, 0, 0, []),
  (55, .isub, 1, 0, 0, 0, []),
  (56, .istore_n 3, 1, 0, 0, 0, []),
  (57, .iload_n 3, 1, 0, 0, 0, []),
  (58, .ifCond .le 29, 3, 87, 0, 0, []),
  (61, .aload_n 0, 1, 0, 0, 0, []),
  (62, .getfield 18, 3, 7, 4, 0, [140]),
  (65, .aload_n 0, 1, 0, 0, 0, []),
  (66, .getfield 9, 3, 7, 2, 0, [134]),
  (69, .iload_n 3, 1, 0, 0, 0, []),
  (70, .iaload, 1, 0, 0, 0, []),
  (71, .dup2, 1, 0, 0, 0, []),
  (72, .iaload, 1, 0, 0, 0, []),
  (73, .aload_n 0, 1, 0, 0, 0, []),
  (74, .getfield 18, 3, 7, 4, 0, [140]),
  (77, .iload_n 3, 1, 0, 0, 0, []),
  (78, .iaload, 1, 0, 0, 0, []),
  (79, .iadd, 1, 0, 0, 0, []),
  (80, .iastore, 1, 0, 0, 0, []),
  (81, .iinc 3 (-1), 3, 0, 0, 0, []),
  (84, .goto (-27), 3, 57, 0, 0, []),
  (87, .iconst 1, 1, 0, 0, 0, []),
  (88, .istore_n 3, 1, 0, 0, 0, []),
  (89, .iload_n 3, 1, 0, 0, 0, []),
  (90, .aload_n 0, 1, 0, 0, 0, []),
  (91, .getfield 42, 3, 7, 0, 0, [129]),
  (94, .if_icmp .ge 20, 3, 114, 0, 0, []),
  (97, .aload_n 0, 1, 0, 0, 0, []),
  (98, .aload_n 0, 1, 0, 0, 0, []),
  (99, .getfield 9, 3, 7, 2, 0, [134]),
  (102, .iload_n 3, 1, 0, 0, 0, []),
  (103, .iaload, 1, 0, 0, 0, []),
  (104, .iload_n 3, 1, 0, 0, 0, []),
  (105, .invokevirtual 46, 3, 43, 3, 7, [382, 384, 4, 40]),
  (108, .iinc 3 1, 3, 0, 0, 0, []),
  (111, .goto (-22), 3, 89, 0, 0, []),
  (114, .aload_n 0, 1, 0, 0, 0, []),
  (115, .iconst 1, 1, 0, 0, 0, []),
  (116, .putfield 50, 3, 7, 1, 0, [132]),
  (119, .aload_n 0, 1, 0, 0, 0, []),
  (120, .getfield 30, 3, 7, 8, 0, [153]),
  (123, .iconst 0, 1, 0, 0, 0, []),
  (124, .iconst 0, 1, 0, 0, 0, []),
  (125, .iastore, 1, 0, 0, 0, []),
  (126, .aload_n 0, 1, 0, 0, 0, []),
  (127, .getfield 27, 3, 7, 7, 0, [150]),
  (130, .iconst 0, 1, 0, 0, 0, []),
  (131, .iconst 0, 1, 0, 0, 0, []),
  (132, .iastore, 1, 0, 0, 0, []),
  (133, .aload_n 0, 1, 0, 0, 0, []),
  (134, .iconst 0, 1, 0, 0, 0, []),
  (135, .iconst 0, 1, 0, 0, 0, []),
  (136, .invokevirtual 53, 3, 45, 3, 7, [386, 388, 5, 40]),
  (139, .iconst 1, 1, 0, 0, 0, []),
  (140, .istore_n 3, 1, 0, 0, 0, []),
  (141, .iload_n 3, 1, 0, 0, 0, []),
  (142, .aload_n 0, 1, 0, 0, 0, []),
  (143, .getfield 42, 3, 7, 0, 0, [129]),
  (146, .if_icmp .ge 14, 3, 160, 0, 0, []),
  (149, .aload_n 0, 1, 0, 0, 0, []),
  (150, .iload_n 3, 1, 0, 0, 0, []),
  (151, .invokevirtual 56, 3, 44, 2, 7, [390, 392, 6, 40]),
  (154, .iinc 3 1, 3, 0, 0, 0, []),
  (157, .goto (-16), 3, 141, 0, 0, []),
  (160, .return_, 1, 0, 0, 0, [])]
def mi42 : minfo := (⟨"HeavyChains$Tree", "build", "(I[I)V"⟩, prog_9_method_2_code, 4, none, 3, 104, mt42)
def mt43 : List (Nat × ent) := [(0, .aload_n 0, 1, 0, 0, 0, []),
  (1, .getfield 15, 3, 7, 3, 0, [138]),
  (4, .iload_n 1, 1, 0, 0, 0, []),
  (5, .iaload, 1, 0, 0, 0, []),
  (6, .bipush (-4), 2, 0, 0, 0, []),
  (8, .if_icmp .eq 23, 3, 31, 0, 0, []),
  (11, .aload_n 0, 1, 0, 0, 0, []),
  (12, .getfield 18, 3, 7, 4, 0, [140]),
  (15, .iload_n 2, 1, 0, 0, 0, []),
  (16, .iaload, 1, 0, 0, 0, []),
  (17, .aload_n 0, 1, 0, 0, 0, []),
  (18, .getfield 18, 3, 7, 4, 0, [140]),
  (21, .aload_n 0, 1, 0, 0, 0, []),
  (22, .getfield 15, 3, 7, 3, 0, [138]),
  (25, .iload_n 1, 1, 0, 0, 0, []),
  (26, .iaload, 1, 0, 0, 0, []),
  (27, .iaload, 1, 0, 0, 0, []),
  (28, .if_icmp .le 10, 3, 38, 0, 0, []),
  (31, .aload_n 0, 1, 0, 0, 0, []),
  (32, .getfield 15, 3, 7, 3, 0, [138]),
  (35, .iload_n 1, 1, 0, 0, 0, []),
  (36, .iload_n 2, 1, 0, 0, 0, []),
  (37, .iastore, 1, 0, 0, 0, []),
  (38, .return_, 1, 0, 0, 0, [])]
def mi43 : minfo := (⟨"HeavyChains$Tree", "chooseHeavy", "(II)V"⟩, prog_9_method_3_code, 3, none, 1, 60, mt43)
def mt44 : List (Nat × ent) := [(0, .aload_n 0, 1, 0, 0, 0, []),
  (1, .getfield 9, 3, 7, 2, 0, [134]),
  (4, .iload_n 1, 1, 0, 0, 0, []),
  (5, .iaload, 1, 0, 0, 0, []),
  (6, .istore_n 2, 1, 0, 0, 0, []),
  (7, .aload_n 0, 1, 0, 0, 0, []),
  (8, .getfield 30, 3, 7, 8, 0, [153]),
  (11, .iload_n 1, 1, 0, 0, 0, []),
  (12, .aload_n 0, 1, 0, 0, 0, []),
  (13, .getfield 30, 3, 7, 8, 0, [153]),
  (16, .iload_n 2, 1, 0, 0, 0, []),
  (17, .iaload, 1, 0, 0, 0, []),
  (18, .iconst 1, 1, 0, 0, 0, []),
  (19, .iadd, 1, 0, 0, 0, []),
  (20, .iastore, 1, 0, 0, 0, []),
  (21, .aload_n 0, 1, 0, 0, 0, []),
  (22, .getfield 15, 3, 7, 3, 0, [138]),
  (25, .iload_n 2, 1, 0, 0, 0, []),
  (26, .iaload, 1, 0, 0, 0, []),
  (27, .iload_n 1, 1, 0, 0, 0, []),
  (28, .if_icmp .ne 31, 3, 59, 0, 0, []),
  (31, .aload_n 0, 1, 0, 0, 0, []),
  (32, .getfield 27, 3, 7, 7, 0, [150]),
  (35, .iload_n 1, 1, 0, 0, 0, []),
  (36, .aload_n 0, 1, 0, 0, 0, []),
  (37, .getfield 27, 3, 7, 7, 0, [150]),
  (40, .iload_n 2, 1, 0, 0, 0, []),
  (41, .iaload, 1, 0, 0, 0, []),
  (42, .iastore, 1, 0, 0, 0, []),
  (43, .aload_n 0, 1, 0, 0, 0, []),
  (44, .iload_n 1, 1, 0, 0, 0, []),
  (45, .aload_n 0, 1, 0, 0, 0, []),
  (46, .getfield 21, 3, 7, 5, 0, [143]),
  (49, .iload_n 2, 1, 0, 0, 0, []),
  (50, .iaload, 1, 0, 0, 0, []),
  (51, .iconst 1, 1, 0, 0, 0, []),
  (52, .iadd, 1, 0, 0, 0, []),
  (53, .invokevirtual 53, 3, 45, 3, 7, [386, 388, 5, 40]),
  (56, .goto 46, 3, 102, 0, 0, []),
  (59, .aload_n 0, 1, 0, 0, 0, []),
  (60, .getfield 27, 3, 7, 7, 0, [150]),
  (63, .iload_n 1, 1, 0, 0, 0, []),
  (64, .iload_n 1, 1, 0, 0, 0, []),
  (65, .iastore, 1, 0, 0, 0, []),
  (66, .aload_n 0, 1, 0, 0, 0, []),
  (67, .dup, 1, 0, 0, 0, []),
  (68, .getfield 50, 3, 7, 1, 0, [132]),
  (71, .iconst 1, 1, 0, 0, 0, []),
  (72, .iadd, 1, 0, 0, 0, []),
  (73, .putfield 50, 3, 7, 1, 0, [132]),
  (76, .aload_n 0, 1, 0, 0, 0, []),
  (77, .iload_n 1, 1, 0, 0, 0, []),
  (78, .aload_n 0, 1, 0, 0, 0, []),
  (79, .getfield 33, 3, 7, 9, 0, [157]),
  (82, .iload_n 2, 1, 0, 0, 0, []),
  (83, .iaload, 1, 0, 0, 0, []),
  (84, .invokevirtual 53, 3, 45, 3, 7, [386, 388, 5, 40]),
  (87, .aload_n 0, 1, 0, 0, 0, []),
  (88, .getfield 33, 3, 7, 9, 0, [157]),
  (91, .iload_n 2, 1, 0, 0, 0, []),
  (92, .dup2, 1, 0, 0, 0, []),
  (93, .iaload, 1, 0, 0, 0, []),
  (94, .aload_n 0, 1, 0, 0, 0, []),
  (95, .getfield 18, 3, 7, 4, 0, [140]),
  (98, .iload_n 1, 1, 0, 0, 0, []),
  (99, .iaload, 1, 0, 0, 0, []),
  (100, .iadd, 1, 0, 0, 0, []),
  (101, .iastore, 1, 0, 0, 0, []),
  (102, .return_, 1, 0, 0, 0, [])]
def mi44 : minfo := (⟨"HeavyChains$Tree", "placeLowe\x72", "(I)V"⟩, prog_9_method_4_code, 3, none, 2, 82, mt44)
def mt45 : List (Nat × ent) := [(0, .aload_n 0, 1, 0, 0, 0, []),
  (1, .getfield 21, 3, 7, 5, 0, [143]),
  (4, .iload_n 1, 1, 0, 0, 0, []),
  (5, .iload_n 2, 1, 0, 0, 0, []),
  (6, .iastore, 1, 0, 0, 0, []),
  (7, .aload_n 0, 1, 0, 0, 0, []),
  (8, .getfield 24, 3, 7, 6, 0, [146]),
  (11, .iload_n 2, 1, 0, 0, 0, []),
  (12, .iload_n 1, 1, 0, 0, 0, []),
  (13, .iastore, 1, 0, 0, 0, []),
  (14, .aload_n 0, 1, 0, 0, 0, []),
  (15, .getfield 33, 3, 7, 9, 0, [157]),
  (18, .iload_n 1, 1, 0, 0, 0, []),
  (19, .iload_n 2, 1, 0, 0, 0, []),
  (20, .iconst 1, 1, 0, 0, 0, []),
  (21, .iadd, 1, 0, 0, 0, []),
  (22, .aload_n 0, 1, 0, 0, 0, []),
  (23, .getfield 15, 3, 7, 3, 0, [138]),
  (26, .iload_n 1, 1, 0, 0, 0, []),
  (27, .iaload, 1, 0, 0, 0, []),
  (28, .bipush (-4), 2, 0, 0, 0, []),
  (30, .if_icmp .ne 7, 3, 37, 0, 0, []),
  (33, .iconst 0, 1, 0, 0, 0, []),
  (34, .goto 14, 3, 48, 0, 0, []),
  (37, .aload_n 0, 1, 0, 0, 0, []),
  (38, .getfield 18, 3, 7, 4, 0, [140]),
  (41, .aload_n 0, 1, 0, 0, 0, []),
  (42, .getfield 15, 3, 7, 3, 0, [138]),
  (45, .iload_n 1, 1, 0, 0, 0, []),
  (46, .iaload, 1, 0, 0, 0, []),
  (47, .iaload, 1, 0, 0, 0, []),
  (48, .iadd, 1, 0, 0, 0, []),
  (49, .iastore, 1, 0, 0, 0, []),
  (50, .return_, 1, 0, 0, 0, [])]
def mi45 : minfo := (⟨"HeavyChains$Tree", "putAt", "(II)V"⟩, prog_9_method_5_code, 3, none, 1, 60, mt45)
def mt46 : List (Nat × ent) := [(0, .iload_n 1, 1, 0, 0, 0, []),
  (1, .istore_n 3, 1, 0, 0, 0, []),
  (2, .iload_n 2, 1, 0, 0, 0, []),
  (3, .istore 4, 2, 0, 0, 0, []),
  (5, .iconst 0, 1, 0, 0, 0, []),
  (6, .istore 5, 2, 0, 0, 0, []),
  (8, .iload 5, 2, 0, 0, 0, []),
  (10, .bipush 60, 2, 0, 0, 0, []),
  (12, .if_icmp .ge 40, 3, 52, 0, 0, []),
  (15, .iload_n 3, 1, 0, 0, 0, []),
  (16, .iload 4, 2, 0, 0, 0, []),
  (18, .if_icmp .eq 34, 3, 52, 0, 0, []),
  (21, .iload_n 3, 1, 0, 0, 0, []),
  (22, .iload 4, 2, 0, 0, 0, []),
  (24, .if_icmp .le 13, 3, 37, 0, 0, []),
  (27, .aload_n 0, 1, 0, 0, 0, []),
  (28, .getfield 9, 3, 7, 2, 0, [134]),
  (31, .iload_n 3, 1, 0, 0, 0, []),
  (32, .iaload, 1, 0, 0, 0, []),
  (33, .istore_n 3, 1, 0, 0, 0, []),
  (34, .goto 12, 3, 46, 0, 0, []),
  (37, .aload_n 0, 1, 0, 0, 0, []),
  (38, .getfield 9, 3, 7, 2, 0, [134]),
  (41, .iload 4, 2, 0, 0, 0, []),
  (43, .iaload, 1, 0, 0, 0, []),
  (44, .istore 4, 2, 0, 0, 0, []),
  (46, .iinc 5 1, 3, 0, 0, 0, []),
  (49, .goto (-41), 3, 8, 0, 0, []),
  (52, .iload_n 3, 1, 0, 0, 0, []),
  (53, .ireturn, 1, 0, 0, 0, [])]
def mi46 : minfo := (⟨"HeavyChains$Tree", "meeting", "(II)I"⟩, prog_9_method_6_code, 6, (some .int), 1, 60, mt46)
def mt47 : List (Nat × ent) := [(0, .aload_n 0, 1, 0, 0, 0, []),
  (1, .invokespecial 3, 3, 9000, 1, 0, [269, 59, 60]),
  (4, .aload_n 0, 1, 0, 0, 0, []),
  (5, .bipush 12, 2, 0, 0, 0, []),
  (7, .newarray .int, 2, 0, 0, 0, [108]),
  (9, .putfield 9, 3, 8, 0, 0, [270]),
  (12, .aload_n 0, 1, 0, 0, 0, []),
  (13, .bipush 12, 2, 0, 0, 0, []),
  (15, .newarray .int, 2, 0, 0, 0, [108]),
  (17, .putfield 15, 3, 8, 1, 0, [272]),
  (20, .aload_n 0, 1, 0, 0, 0, []),
  (21, .bipush 12, 2, 0, 0, 0, []),
  (23, .newarray .int, 2, 0, 0, 0, [108]),
  (25, .putfield 18, 3, 8, 2, 0, [273]),
  (28, .aload_n 0, 1, 0, 0, 0, []),
  (29, .bipush 12, 2, 0, 0, 0, []),
  (31, .newarray .int, 2, 0, 0, 0, [108]),
  (33, .putfield 21, 3, 8, 3, 0, [274]),
  (36, .return_, 1, 0, 0, 0, [])]
def mi47 : minfo := (⟨"HeavyChains$Watches", "<init>", "()V"⟩, prog_10_method_1_code, 1, none, 1, 60, mt47)
def mt48 : List (Nat × ent) := [(0, .aload_n 0, 1, 0, 0, 0, []),
  (1, .iconst 0, 1, 0, 0, 0, []),
  (2, .putfield 24, 3, 8, 4, 0, [275]),
  (5, .aload_n 0, 1, 0, 0, 0, []),
  (6, .iconst 0, 1, 0, 0, 0, []),
  (7, .putfield 28, 3, 8, 5, 0, [277]),
  (10, .return_, 1, 0, 0, 0, [])]
def mi48 : minfo := (⟨"HeavyChains$Watches", "clea\x72", "()V"⟩, prog_10_method_2_code, 1, none, 1, 60, mt48)
def mt49 : List (Nat × ent) := [(0, .aload_n 0, 1, 0, 0, 0, []),
  (1, .getfield 24, 3, 8, 4, 0, [275]),
  (4, .bipush 12, 2, 0, 0, 0, []),
  (6, .if_icmp .lt 6, 3, 12, 0, 0, []),
  (9, .bipush (-3), 2, 0, 0, 0, []),
  (11, .ireturn, 1, 0, 0, 0, []),
  (12, .aload_n 0, 1, 0, 0, 0, []),
  (13, .getfield 9, 3, 8, 0, 0, [270]),
  (16, .aload_n 0, 1, 0, 0, 0, []),
  (17, .getfield 24, 3, 8, 4, 0, [275]),
  (20, .aload_n 0, 1, 0, 0, 0, []),
  (21, .getfield 28, 3, 8, 5, 0, [277]),
  (24, .iastore, 1, 0, 0, 0, []),
  (25, .aload_n 0, 1, 0, 0, 0, []),
  (26, .getfield 15, 3, 8, 1, 0, [272]),
  (29, .aload_n 0, 1, 0, 0, 0, []),
  (30, .getfield 24, 3, 8, 4, 0, [275]),
  (33, .iload_n 1, 1, 0, 0, 0, []),
  (34, .iastore, 1, 0, 0, 0, []),
  (35, .aload_n 0, 1, 0, 0, 0, []),
  (36, .getfield 18, 3, 8, 2, 0, [273]),
  (39, .aload_n 0, 1, 0, 0, 0, []),
  (40, .getfield 24, 3, 8, 4, 0, [275]),
  (43, .iload_n 2, 1, 0, 0, 0, []),
  (44, .iastore, 1, 0, 0, 0, []),
  (45, .aload_n 0, 1, 0, 0, 0, []),
  (46, .getfield 21, 3, 8, 3, 0, [274]),
  (49, .aload_n 0, 1, 0, 0, 0, []),
  (50, .getfield 24, 3, 8, 4, 0, [275]),
  (53, .iload_n 3, 1, 0, 0, 0, []),
  (54, .iastore, 1, 0, 0, 0, []),
  (55, .aload_n 0, 1, 0, 0, 0, []),
  (56, .dup, 1, 0, 0, 0, []),
  (57, .getfield 24, 3, 8, 4, 0, [275]),
  (60, .iconst 1, 1, 0, 0, 0, []),
  (61, .iadd, 1, 0, 0, 0, []),
  (62, .putfield 24, 3, 8, 4, 0, [275]),
  (65, .aload_n 0, 1, 0, 0, 0, []),
  (66, .dup, 1, 0, 0, 0, []),
  (67, .getfield 28, 3, 8, 5, 0, [277]),
  (70, .iconst 1, 1, 0, 0, 0, []),
  (71, .iadd, 1, 0, 0, 0, []),
  (72, .putfield 28, 3, 8, 5, 0, [277]),
  (75, .aload_n 0, 1, 0, 0, 0, []),
  (76, .getfield 9, 3, 8, 0, 0, [270]),
  (79, .aload_n 0, 1, 0, 0, 0, []),
  (80, .getfield 24, 3, 8, 4, 0, [275]),
  (83, .iconst 1, 1, 0, 0, 0, []),
  (84, .isub, 1, 0, 0, 0, []),
  (85, .iaload, 1, 0, 0, 0, []),
  (86, .ireturn, 1, 0, 0, 0, [])]
def mi49 : minfo := (⟨"HeavyChains$Watches", "open", "(III)I"⟩, prog_10_method_3_code, 4, (some .int), 1, 60, mt49)
def mt50 : List (Nat × ent) := [(0, .iconst 0, 1, 0, 0, 0, []),
  (1, .istore 4, 2, 0, 0, 0, []),
  (3, .iconst 0, 1, 0, 0, 0, []),
  (4, .istore 5, 2, 0, 0, 0, []),
  (6, .iload 5, 2, 0, 0, 0, []),
  (8, .aload_n 0, 1, 0, 0, 0, []),
  (9, .getfield 24, 3, 8, 4, 0, [275]),
  (12, .if_icmp .ge 54, 3, 66, 0, 0, []),
  (15, .aload_n 2, 1, 0, 0, 0, []),
  (16, .aload_n 1, 1, 0, 0, 0, []),
  (17, .aload_n 0, 1, 0, 0, 0, []),
  (18, .getfield 15, 3, 8, 1, 0, [272]),
  (21, .iload 5, 2, 0, 0, 0, []),
  (23, .iaload, 1, 0, 0, 0, []),
  (24, .aload_n 0, 1, 0, 0, 0, []),
  (25, .getfield 18, 3, 8, 2, 0, [273]),
  (28, .iload 5, 2, 0, 0, 0, []),
  (30, .iaload, 1, 0, 0, 0, []),
  (31, .invokevirtual 31, 3, 23, 4, 4, [639, 484, 485, 43]),
  (34, .aload_n 2, 1, 0, 0, 0, []),
  (35, .aload_n 3, 1, 0, 0, 0, []),
  (36, .invokevirtual 37, 3, 26, 2, 4, [640, 515, 516, 43]),
  (39, .aload_n 0, 1, 0, 0, 0, []),
  (40, .getfield 21, 3, 8, 3, 0, [274]),
  (43, .iload 5, 2, 0, 0, 0, []),
  (45, .iaload, 1, 0, 0, 0, []),
  (46, .if_icmp .ge 14, 3, 60, 0, 0, []),
  (49, .aload_n 0, 1, 0, 0, 0, []),
  (50, .iload 5, 2, 0, 0, 0, []),
  (52, .iload 4, 2, 0, 0, 0, []),
  (54, .invokevirtual 41, 3, 51, 3, 8, [641, 643, 9, 46]),
  (57, .iinc 4 1, 3, 0, 0, 0, []),
  (60, .iinc 5 1, 3, 0, 0, 0, []),
  (63, .goto (-57), 3, 6, 0, 0, []),
  (66, .aload_n 0, 1, 0, 0, 0, []),
  (67, .getfield 24, 3, 8, 4, 0, [275]),
  (70, .iload 4, 2, 0, 0, 0, []),
  (72, .isub, 1, 0, 0, 0, []),
  (73, .istore 5, 2, 0, 0, 0, []),
  (75, .aload_n 0, 1, 0, 0, 0, []),
  (76, .iload 4, 2, 0, 0, 0, []),
  (78, .putfield 24, 3, 8, 4, 0, [275]),
  (81, .iload 5, 2, 0, 0, 0, []),
  (83, .ireturn, 1, 0, 0, 0, [])]
def mi50 : minfo := (⟨"HeavyChains$Watches", "release", "(LHeavyChains$Tree;LHeavyChains$Route;[I)I"⟩, prog_10_method_4_code, 6, (some .int), 3, 112, mt50)
def mt51 : List (Nat × ent) := [(0, .aload_n 0, 1, 0, 0, 0, []),
  (1, .getfield 9, 3, 8, 0, 0, [270]),
  (4, .iload_n 2, 1, 0, 0, 0, []),
  (5, .aload_n 0, 1, 0, 0, 0, []),
  (6, .getfield 9, 3, 8, 0, 0, [270]),
  (9, .iload_n 1, 1, 0, 0, 0, []),
  (10, .iaload, 1, 0, 0, 0, []),
  (11, .iastore, 1, 0, 0, 0, []),
  (12, .aload_n 0, 1, 0, 0, 0, []),
  (13, .getfield 15, 3, 8, 1, 0, [272]),
  (16, .iload_n 2, 1, 0, 0, 0, []),
  (17, .aload_n 0, 1, 0, 0, 0, []),
  (18, .getfield 15, 3, 8, 1, 0, [272]),
  (21, .iload_n 1, 1, 0, 0, 0, []),
  (22, .iaload, 1, 0, 0, 0, []),
  (23, .iastore, 1, 0, 0, 0, []),
  (24, .aload_n 0, 1, 0, 0, 0, []),
  (25, .getfield 18, 3, 8, 2, 0, [273]),
  (28, .iload_n 2, 1, 0, 0, 0, []),
  (29, .aload_n 0, 1, 0, 0, 0, []),
  (30, .getfield 18, 3, 8, 2, 0, [273]),
  (33, .iload_n 1, 1, 0, 0, 0, []),
  (34, .iaload, 1, 0, 0, 0, []),
  (35, .iastore, 1, 0, 0, 0, []),
  (36, .aload_n 0, 1, 0, 0, 0, []),
  (37, .getfield 21, 3, 8, 3, 0, [274]),
  (40, .iload_n 2, 1, 0, 0, 0, []),
  (41, .aload_n 0, 1, 0, 0, 0, []),
  (42, .getfield 21, 3, 8, 3, 0, [274]),
  (45, .iload_n 1, 1, 0, 0, 0, []),
  (46, .iaload, 1, 0, 0, 0, []),
  (47, .iastore, 1, 0, 0, 0, []),
  (48, .return_, 1, 0, 0, 0, [])]
def mi51 : minfo := (⟨"HeavyChains$Watches", "move", "(II)V"⟩, prog_10_method_5_code, 3, none, 1, 60, mt51)
def mt52 : List (Nat × ent) := [(0, .aload_n 0, 1, 0, 0, 0, []),
  (1, .invokespecial 1, 3, 9000, 1, 0, [58, 59, 60]),
  (4, .aload_n 0, 1, 0, 0, 0, []),
  (5, .new 7, 3, 1, 0, 0, [61, 62, 37]),
  (8, .dup, 1, 0, 0, 0, []),
  (9, .invokespecial 9, 3, 5, 1, 1, [63, 64, 37]),
  (12, .putfield 10, 3, 9, 0, 0, [409]),
  (15, .aload_n 0, 1, 0, 0, 0, []),
  (16, .new 16, 3, 3, 0, 0, [78, 79, 38]),
  (19, .dup, 1, 0, 0, 0, []),
  (20, .invokespecial 18, 3, 15, 1, 1, [80, 81, 38]),
  (23, .putfield 19, 3, 9, 1, 0, [410]),
  (26, .aload_n 0, 1, 0, 0, 0, []),
  (27, .new 23, 3, 7, 0, 0, [122, 123, 40]),
  (30, .dup, 1, 0, 0, 0, []),
  (31, .invokespecial 25, 3, 41, 1, 1, [124, 125, 40]),
  (34, .putfield 26, 3, 9, 2, 0, [411]),
  (37, .aload_n 0, 1, 0, 0, 0, []),
  (38, .new 30, 3, 0, 0, 0, [179, 85, 39]),
  (41, .dup, 1, 0, 0, 0, []),
  (42, .invokespecial 32, 3, 1, 1, 1, [180, 87, 39]),
  (45, .putfield 33, 3, 9, 3, 0, [412]),
  (48, .aload_n 0, 1, 0, 0, 0, []),
  (49, .new 30, 3, 0, 0, 0, [179, 85, 39]),
  (52, .dup, 1, 0, 0, 0, []),
  (53, .invokespecial 32, 3, 1, 1, 1, [180, 87, 39]),
  (56, .putfield 37, 3, 9, 4, 0, [413]),
  (59, .aload_n 0, 1, 0, 0, 0, []),
  (60, .new 40, 3, 5, 0, 0, [181, 182, 41]),
  (63, .dup, 1, 0, 0, 0, []),
  (64, .bipush 8, 2, 0, 0, 0, []),
  (66, .invokespecial 42, 3, 34, 2, 0, [183, 184, 41]),
  (69, .putfield 45, 3, 9, 5, 0, [414]),
  (72, .aload_n 0, 1, 0, 0, 0, []),
  (73, .new 40, 3, 5, 0, 0, [181, 182, 41]),
  (76, .dup, 1, 0, 0, 0, []),
  (77, .iconst 2, 1, 0, 0, 0, []),
  (78, .invokespecial 42, 3, 34, 2, 0, [183, 184, 41]),
  (81, .putfield 49, 3, 9, 6, 0, [415]),
  (84, .aload_n 0, 1, 0, 0, 0, []),
  (85, .new 52, 3, 4, 0, 0, [204, 205, 43]),
  (88, .dup, 1, 0, 0, 0, []),
  (89, .invokespecial 54, 3, 22, 1, 1, [206, 207, 43]),
  (92, .putfield 55, 3, 9, 7, 0, [416]),
  (95, .aload_n 0, 1, 0, 0, 0, []),
  (96, .new 59, 3, 6, 0, 0, [225, 226, 44]),
  (99, .dup, 1, 0, 0, 0, []),
  (100, .invokespecial 61, 3, 37, 1, 0, [227, 228, 44]),
  (103, .putfield 62, 3, 9, 8, 0, [417]),
  (106, .aload_n 0, 1, 0, 0, 0, []),
  (107, .new 66, 3, 2, 0, 0, [254, 255, 45]),
  (110, .dup, 1, 0, 0, 0, []),
  (111, .invokespecial 68, 3, 7, 1, 1, [256, 257, 45]),
  (114, .putfield 69, 3, 9, 9, 0, [418]),
  (117, .aload_n 0, 1, 0, 0, 0, []),
  (118, .new 73, 3, 8, 0, 0, [264, 265, 46]),
  (121, .dup, 1, 0, 0, 0, []),
  (122, .invokespecial 75, 3, 47, 1, 1, [266, 267, 46]),
  (125, .putfield 76, 3, 9, 10, 0, [419]),
  (128, .iconst 0, 1, 0, 0, 0, []),
  (129, .istore_n 1, 1, 0, 0, 0, []),
  (130, .iload_n 1, 1, 0, 0, 0, []),
  (131, .ldc 80, 2, 1, 0, 0, [292]),
  (133, .invokevirtual 82, 3, 145, 1, 99, [293, 294, 295, 47]),
  (136, .if_icmp .ge 23, 3, 159, 0, 0, []),
  (139, .aload_n 0, 1, 0, 0, 0, []),
  (140, .getfield 10, 3, 9, 0, 0, [409]),
  (143, .ldc 80, 2, 1, 0, 0, [292]),
  (145, .iload_n 1, 1, 0, 0, 0, []),
  (146, .invokevirtual 88, 3, 146, 2, 99, [303, 304, 305, 47]),
  (149, .invokevirtual 92, 3, 6, 2, 1, [341, 342, 343, 37]),
  (152, .pop, 1, 0, 0, 0, []),
  (153, .iinc 1 1, 3, 0, 0, 0, []),
  (156, .goto (-26), 3, 130, 0, 0, []),
  (159, .aload_n 0, 1, 0, 0, 0, []),
  (160, .invokevirtual 96, 3, 84, 1, 9, [345, 347, 0, 36]),
  (163, .pop, 1, 0, 0, 0, []),
  (164, .aload_n 0, 1, 0, 0, 0, []),
  (165, .getfield 10, 3, 9, 0, 0, [409]),
  (168, .iconst 0, 1, 0, 0, 0, []),
  (169, .putfield 100, 3, 1, 1, 0, [69]),
  (172, .return_, 1, 0, 0, 0, [])]
def mi52 : minfo := (⟨"HeavyChains", "<init>", "()V"⟩, prog_1_method_1_code, 2, none, 6, 174, mt52)
def mt53 : List (Nat × ent) := [(0, .iload_n 1, 1, 0, 0, 0, []),
  (1, .bipush 32, 2, 0, 0, 0, []),
  (3, .bipush 126, 2, 0, 0, 0, []),
  (5, .invokestatic 103, 3, 81, 3, 0, [448, 449, 36]),
  (8, .ifCond .ne 5, 3, 13, 0, 0, []),
  (11, .iconst (-1), 1, 0, 0, 0, []),
  (12, .ireturn, 1, 0, 0, 0, []),
  (13, .aload_n 0, 1, 0, 0, 0, []),
  (14, .getfield 10, 3, 9, 0, 0, [409]),
  (17, .iload_n 1, 1, 0, 0, 0, []),
  (18, .i2c, 1, 0, 0, 0, []),
  (19, .invokevirtual 92, 3, 6, 2, 1, [341, 342, 343, 37]),
  (22, .ifCond .eq 13, 3, 35, 0, 0, []),
  (25, .aload_n 0, 1, 0, 0, 0, []),
  (26, .getfield 10, 3, 9, 0, 0, [409]),
  (29, .getfield 100, 3, 1, 1, 0, [69]),
  (32, .goto 5, 3, 37, 0, 0, []),
  (35, .bipush (-3), 2, 0, 0, 0, []),
  (37, .ireturn, 1, 0, 0, 0, [])]
def mi53 : minfo := (⟨"HeavyChains", "write", "(I)I"⟩, prog_1_method_2_code, 2, (some .int), 2, 82, mt53)
def mt54 : List (Nat × ent) := [(0, .aload_n 0, 1, 0, 0, 0, []),
  (1, .getfield 10, 3, 9, 0, 0, [409]),
  (4, .getfield 100, 3, 1, 1, 0, [69]),
  (7, .istore_n 1, 1, 0, 0, 0, []),
  (8, .aload_n 0, 1, 0, 0, 0, []),
  (9, .getfield 10, 3, 9, 0, 0, [409]),
  (12, .iconst 0, 1, 0, 0, 0, []),
  (13, .putfield 100, 3, 1, 1, 0, [69]),
  (16, .iload_n 1, 1, 0, 0, 0, []),
  (17, .ireturn, 1, 0, 0, 0, [])]
def mi54 : minfo := (⟨"HeavyChains", "wipe", "()I"⟩, prog_1_method_3_code, 2, (some .int), 1, 60, mt54)
def mt55 : List (Nat × ent) := [(0, .aload_n 0, 1, 0, 0, 0, []),
  (1, .getfield 19, 3, 9, 1, 0, [410]),
  (4, .aload_n 0, 1, 0, 0, 0, []),
  (5, .getfield 10, 3, 9, 0, 0, [409]),
  (8, .invokevirtual 107, 3, 16, 2, 3, [349, 350, 351, 38]),
  (11, .ireturn, 1, 0, 0, 0, [])]
def mi55 : minfo := (⟨"HeavyChains", "fault", "()I"⟩, prog_1_method_4_code, 1, (some .int), 5, 154, mt55)
def mt56 : List (Nat × ent) := [(0, .aload_n 0, 1, 0, 0, 0, []),
  (1, .invokevirtual 96, 3, 84, 1, 9, [345, 347, 0, 36]),
  (4, .ifCond .eq 13, 3, 17, 0, 0, []),
  (7, .aload_n 0, 1, 0, 0, 0, []),
  (8, .getfield 26, 3, 9, 2, 0, [411]),
  (11, .getfield 111, 3, 7, 0, 0, [130]),
  (14, .goto 5, 3, 19, 0, 0, []),
  (17, .bipush (-2), 2, 0, 0, 0, []),
  (19, .ireturn, 1, 0, 0, 0, [])]
def mi56 : minfo := (⟨"HeavyChains", "lay", "()I"⟩, prog_1_method_5_code, 1, (some .int), 6, 174, mt56)
def mt57 : List (Nat × ent) := [(0, .aload_n 0, 1, 0, 0, 0, []),
  (1, .iload_n 1, 1, 0, 0, 0, []),
  (2, .invokevirtual 114, 3, 83, 2, 9, [467, 469, 7, 36]),
  (5, .ifCond .ne 5, 3, 10, 0, 0, []),
  (8, .iconst (-1), 1, 0, 0, 0, []),
  (9, .ireturn, 1, 0, 0, 0, []),
  (10, .iload_n 2, 1, 0, 0, 0, []),
  (11, .tableswitch 142 0 8 #[49, 59, 69, 79, 89, 99, 109, 122, 132], 49, 0, 0, 0, []),
  (60, .aload_n 0, 1, 0, 0, 0, []),
  (61, .getfield 26, 3, 9, 2, 0, [411]),
  (64, .getfield 118, 3, 7, 2, 0, [137]),
  (67, .iload_n 1, 1, 0, 0, 0, []),
  (68, .iaload, 1, 0, 0, 0, []),
  (69, .ireturn, 1, 0, 0, 0, []),
  (70, .aload_n 0, 1, 0, 0, 0, []),
  (71, .getfield 26, 3, 9, 2, 0, [411]),
  (74, .getfield 122, 3, 7, 3, 0, [139]),
  (77, .iload_n 1, 1, 0, 0, 0, []),
  (78, .iaload, 1, 0, 0, 0, []),
  (79, .ireturn, 1, 0, 0, 0, []),
  (80, .aload_n 0, 1, 0, 0, 0, []),
  (81, .getfield 26, 3, 9, 2, 0, [411]),
  (84, .getfield 125, 3, 7, 4, 0, [142]),
  (87, .iload_n 1, 1, 0, 0, 0, []),
  (88, .iaload, 1, 0, 0, 0, []),
  (89, .ireturn, 1, 0, 0, 0, []),
  (90, .aload_n 0, 1, 0, 0, 0, []),
  (91, .getfield 26, 3, 9, 2, 0, [411]),
  (94, .getfield 128, 3, 7, 5, 0, [145]),
  (97, .iload_n 1, 1, 0, 0, 0, []),
  (98, .iaload, 1, 0, 0, 0, []),
  (99, .ireturn, 1, 0, 0, 0, []),
  (100, .aload_n 0, 1, 0, 0, 0, []),
  (101, .getfield 26, 3, 9, 2, 0, [411]),
  (104, .getfield 131, 3, 7, 7, 0, [152]),
  (107, .iload_n 1, 1, 0, 0, 0, []),
  (108, .iaload, 1, 0, 0, 0, []),
  (109, .ireturn, 1, 0, 0, 0, []),
  (110, .aload_n 0, 1, 0, 0, 0, []),
  (111, .getfield 26, 3, 9, 2, 0, [411]),
  (114, .getfield 134, 3, 7, 8, 0, [156]),
  (117, .iload_n 1, 1, 0, 0, 0, []),
  (118, .iaload, 1, 0, 0, 0, []),
  (119, .ireturn, 1, 0, 0, 0, []),
  (120, .aload_n 0, 1, 0, 0, 0, []),
  (121, .getfield 33, 3, 9, 3, 0, [412]),
  (124, .getfield 137, 3, 0, 0, 0, [92]),
  (127, .iload_n 1, 1, 0, 0, 0, []),
  (128, .iaload, 1, 0, 0, 0, []),
  (129, .ldc 140, 2, 0, 0, 1000000, [471]),
  (131, .iadd, 1, 0, 0, 0, []),
  (132, .ireturn, 1, 0, 0, 0, []),
  (133, .aload_n 0, 1, 0, 0, 0, []),
  (134, .getfield 33, 3, 9, 3, 0, [412]),
  (137, .getfield 141, 3, 0, 1, 0, [95]),
  (140, .iload_n 1, 1, 0, 0, 0, []),
  (141, .iaload, 1, 0, 0, 0, []),
  (142, .ireturn, 1, 0, 0, 0, []),
  (143, .aload_n 0, 1, 0, 0, 0, []),
  (144, .getfield 33, 3, 9, 3, 0, [412]),
  (147, .getfield 144, 3, 0, 2, 0, [99]),
  (150, .iload_n 1, 1, 0, 0, 0, []),
  (151, .iaload, 1, 0, 0, 0, []),
  (152, .ireturn, 1, 0, 0, 0, []),
  (153, .iconst (-1), 1, 0, 0, 0, []),
  (154, .ireturn, 1, 0, 0, 0, [])]
def mi57 : minfo := (⟨"HeavyChains", "post", "(II)I"⟩, prog_1_method_6_code, 3, (some .int), 2, 81, mt57)
def mt58 : List (Nat × ent) := [(0, .aload_n 0, 1, 0, 0, 0, []),
  (1, .iload_n 1, 1, 0, 0, 0, []),
  (2, .invokevirtual 114, 3, 83, 2, 9, [467, 469, 7, 36]),
  (5, .ifCond .eq 15, 3, 20, 0, 0, []),
  (8, .aload_n 0, 1, 0, 0, 0, []),
  (9, .getfield 26, 3, 9, 2, 0, [411]),
  (12, .getfield 147, 3, 7, 6, 0, [148]),
  (15, .iload_n 1, 1, 0, 0, 0, []),
  (16, .iaload, 1, 0, 0, 0, []),
  (17, .goto 4, 3, 21, 0, 0, []),
  (20, .iconst (-1), 1, 0, 0, 0, []),
  (21, .ireturn, 1, 0, 0, 0, [])]
def mi58 : minfo := (⟨"HeavyChains", "at", "(I)I"⟩, prog_1_method_7_code, 2, (some .int), 2, 81, mt58)
def mt59 : List (Nat × ent) := [(0, .aload_n 0, 1, 0, 0, 0, []),
  (1, .iload_n 1, 1, 0, 0, 0, []),
  (2, .invokevirtual 114, 3, 83, 2, 9, [467, 469, 7, 36]),
  (5, .ifCond .eq 20, 3, 25, 0, 0, []),
  (8, .aload_n 0, 1, 0, 0, 0, []),
  (9, .iload_n 2, 1, 0, 0, 0, []),
  (10, .invokevirtual 114, 3, 83, 2, 9, [467, 469, 7, 36]),
  (13, .ifCond .eq 12, 3, 25, 0, 0, []),
  (16, .iload_n 3, 1, 0, 0, 0, []),
  (17, .iload 4, 2, 0, 0, 0, []),
  (19, .invokestatic 150, 3, 82, 2, 0, [480, 481, 36]),
  (22, .ifCond .ne 5, 3, 27, 0, 0, []),
  (25, .iconst (-1), 1, 0, 0, 0, []),
  (26, .ireturn, 1, 0, 0, 0, []),
  (27, .aload_n 0, 1, 0, 0, 0, []),
  (28, .getfield 55, 3, 9, 7, 0, [416]),
  (31, .aload_n 0, 1, 0, 0, 0, []),
  (32, .getfield 26, 3, 9, 2, 0, [411]),
  (35, .iload_n 1, 1, 0, 0, 0, []),
  (36, .iload_n 2, 1, 0, 0, 0, []),
  (37, .invokevirtual 154, 3, 23, 4, 4, [483, 484, 485, 43]),
  (40, .aload_n 0, 1, 0, 0, 0, []),
  (41, .iload_n 3, 1, 0, 0, 0, []),
  (42, .iload 4, 2, 0, 0, 0, []),
  (44, .invokevirtual 158, 3, 85, 3, 9, [491, 493, 8, 36]),
  (47, .ireturn, 1, 0, 0, 0, [])]
def mi59 : minfo := (⟨"HeavyChains", "add", "(IIII)I"⟩, prog_1_method_8_code, 5, (some .int), 4, 128, mt59)
def mt60 : List (Nat × ent) := [(0, .aload_n 0, 1, 0, 0, 0, []),
  (1, .iload_n 1, 1, 0, 0, 0, []),
  (2, .invokevirtual 114, 3, 83, 2, 9, [467, 469, 7, 36]),
  (5, .ifCond .eq 11, 3, 16, 0, 0, []),
  (8, .iload_n 2, 1, 0, 0, 0, []),
  (9, .iload_n 3, 1, 0, 0, 0, []),
  (10, .invokestatic 150, 3, 82, 2, 0, [480, 481, 36]),
  (13, .ifCond .ne 5, 3, 18, 0, 0, []),
  (16, .iconst (-1), 1, 0, 0, 0, []),
  (17, .ireturn, 1, 0, 0, 0, []),
  (18, .aload_n 0, 1, 0, 0, 0, []),
  (19, .getfield 55, 3, 9, 7, 0, [416]),
  (22, .aload_n 0, 1, 0, 0, 0, []),
  (23, .getfield 26, 3, 9, 2, 0, [411]),
  (26, .iload_n 1, 1, 0, 0, 0, []),
  (27, .invokevirtual 162, 3, 24, 3, 4, [522, 523, 524, 43]),
  (30, .aload_n 0, 1, 0, 0, 0, []),
  (31, .iload_n 2, 1, 0, 0, 0, []),
  (32, .iload_n 3, 1, 0, 0, 0, []),
  (33, .invokevirtual 158, 3, 85, 3, 9, [491, 493, 8, 36]),
  (36, .ireturn, 1, 0, 0, 0, [])]
def mi60 : minfo := (⟨"HeavyChains", "pou\x72", "(III)I"⟩, prog_1_method_9_code, 4, (some .int), 4, 128, mt60)
def mt61 : List (Nat × ent) := [(0, .aload_n 0, 1, 0, 0, 0, []),
  (1, .iload_n 1, 1, 0, 0, 0, []),
  (2, .invokevirtual 114, 3, 83, 2, 9, [467, 469, 7, 36]),
  (5, .ifCond .eq 16, 3, 21, 0, 0, []),
  (8, .iload_n 2, 1, 0, 0, 0, []),
  (9, .sipush (-9999), 3, 0, 0, 0, []),
  (12, .sipush 9999, 3, 0, 0, 0, []),
  (15, .invokestatic 103, 3, 81, 3, 0, [448, 449, 36]),
  (18, .ifCond .ne 5, 3, 23, 0, 0, []),
  (21, .iconst (-1), 1, 0, 0, 0, []),
  (22, .ireturn, 1, 0, 0, 0, []),
  (23, .aload_n 0, 1, 0, 0, 0, []),
  (24, .getfield 33, 3, 9, 3, 0, [412]),
  (27, .getfield 137, 3, 0, 0, 0, [92]),
  (30, .iload_n 1, 1, 0, 0, 0, []),
  (31, .iaload, 1, 0, 0, 0, []),
  (32, .istore_n 3, 1, 0, 0, 0, []),
  (33, .iload_n 3, 1, 0, 0, 0, []),
  (34, .iload_n 2, 1, 0, 0, 0, []),
  (35, .if_icmp .ne 6, 3, 41, 0, 0, []),
  (38, .bipush (-2), 2, 0, 0, 0, []),
  (40, .ireturn, 1, 0, 0, 0, []),
  (41, .aload_n 0, 1, 0, 0, 0, []),
  (42, .getfield 45, 3, 9, 5, 0, [414]),
  (45, .aload_n 0, 1, 0, 0, 0, []),
  (46, .getfield 33, 3, 9, 3, 0, [412]),
  (49, .invokevirtual 166, 3, 35, 2, 5, [504, 505, 506, 41]),
  (52, .aload_n 0, 1, 0, 0, 0, []),
  (53, .getfield 33, 3, 9, 3, 0, [412]),
  (56, .getfield 137, 3, 0, 0, 0, [92]),
  (59, .iload_n 1, 1, 0, 0, 0, []),
  (60, .iload_n 2, 1, 0, 0, 0, []),
  (61, .iastore, 1, 0, 0, 0, []),
  (62, .iload_n 3, 1, 0, 0, 0, []),
  (63, .ldc 140, 2, 0, 0, 1000000, [471]),
  (65, .iadd, 1, 0, 0, 0, []),
  (66, .ireturn, 1, 0, 0, 0, [])]
def mi61 : minfo := (⟨"HeavyChains", "set", "(II)I"⟩, prog_1_method_10_code, 4, (some .int), 3, 102, mt61)
def mt62 : List (Nat × ent) := [(0, .aload_n 0, 1, 0, 0, 0, []),
  (1, .iload_n 1, 1, 0, 0, 0, []),
  (2, .invokevirtual 114, 3, 83, 2, 9, [467, 469, 7, 36]),
  (5, .ifCond .eq 23, 3, 28, 0, 0, []),
  (8, .iload_n 2, 1, 0, 0, 0, []),
  (9, .iconst 0, 1, 0, 0, 0, []),
  (10, .bipush 9, 2, 0, 0, 0, []),
  (12, .invokestatic 103, 3, 81, 3, 0, [448, 449, 36]),
  (15, .ifCond .eq 13, 3, 28, 0, 0, []),
  (18, .iload_n 3, 1, 0, 0, 0, []),
  (19, .iconst 0, 1, 0, 0, 0, []),
  (20, .bipush 9, 2, 0, 0, 0, []),
  (22, .invokestatic 103, 3, 81, 3, 0, [448, 449, 36]),
  (25, .ifCond .ne 5, 3, 30, 0, 0, []),
  (28, .iconst (-1), 1, 0, 0, 0, []),
  (29, .ireturn, 1, 0, 0, 0, []),
  (30, .aload_n 0, 1, 0, 0, 0, []),
  (31, .getfield 33, 3, 9, 3, 0, [412]),
  (34, .getfield 141, 3, 0, 1, 0, [95]),
  (37, .iload_n 1, 1, 0, 0, 0, []),
  (38, .iaload, 1, 0, 0, 0, []),
  (39, .istore 4, 2, 0, 0, 0, []),
  (41, .aload_n 0, 1, 0, 0, 0, []),
  (42, .getfield 33, 3, 9, 3, 0, [412]),
  (45, .getfield 144, 3, 0, 2, 0, [99]),
  (48, .iload_n 1, 1, 0, 0, 0, []),
  (49, .iaload, 1, 0, 0, 0, []),
  (50, .istore 5, 2, 0, 0, 0, []),
  (52, .iload 4, 2, 0, 0, 0, []),
  (54, .iload_n 2, 1, 0, 0, 0, []),
  (55, .if_icmp .ne 12, 3, 67, 0, 0, []),
  (58, .iload 5, 2, 0, 0, 0, []),
  (60, .iload_n 3, 1, 0, 0, 0, []),
  (61, .if_icmp .ne 6, 3, 67, 0, 0, []),
  (64, .bipush (-2), 2, 0, 0, 0, []),
  (66, .ireturn, 1, 0, 0, 0, []),
  (67, .aload_n 0, 1, 0, 0, 0, []),
  (68, .getfield 45, 3, 9, 5, 0, [414]),
  (71, .aload_n 0, 1, 0, 0, 0, []),
  (72, .getfield 33, 3, 9, 3, 0, [412]),
  (75, .invokevirtual 166, 3, 35, 2, 5, [504, 505, 506, 41]),
  (78, .aload_n 0, 1, 0, 0, 0, []),
  (79, .getfield 33, 3, 9, 3, 0, [412]),
  (82, .getfield 141, 3, 0, 1, 0, [95]),
  (85, .iload_n 1, 1, 0, 0, 0, []),
  (86, .iload_n 2, 1, 0, 0, 0, []),
  (87, .iastore, 1, 0, 0, 0, []),
  (88, .aload_n 0, 1, 0, 0, 0, []),
  (89, .getfield 33, 3, 9, 3, 0, [412]),
  (92, .getfield 144, 3, 0, 2, 0, [99]),
  (95, .iload_n 1, 1, 0, 0, 0, []),
  (96, .iload_n 3, 1, 0, 0, 0, []),
  (97, .iastore, 1, 0, 0, 0, []),
  (98, .bipush 10, 2, 0, 0, 0, []),
  (100, .iload 4, 2, 0, 0, 0, []),
  (102, .imul, 1, 0, 0, 0, []),
  (103, .iload 5, 2, 0, 0, 0, []),
  (105, .iadd, 1, 0, 0, 0, []),
  (106, .ireturn, 1, 0, 0, 0, [])]
def mi62 : minfo := (⟨"HeavyChains", "shape", "(III)I"⟩, prog_1_method_11_code, 6, (some .int), 3, 102, mt62)
def mt63 : List (Nat × ent) := [(0, .aload_n 0, 1, 0, 0, 0, []),
  (1, .getfield 45, 3, 9, 5, 0, [414]),
  (4, .aload_n 0, 1, 0, 0, 0, []),
  (5, .getfield 33, 3, 9, 3, 0, [412]),
  (8, .invokevirtual 170, 3, 36, 2, 5, [538, 539, 540, 41]),
  (11, .ifCond .eq 13, 3, 24, 0, 0, []),
  (14, .aload_n 0, 1, 0, 0, 0, []),
  (15, .getfield 45, 3, 9, 5, 0, [414]),
  (18, .getfield 174, 3, 5, 1, 0, [195]),
  (21, .goto 5, 3, 26, 0, 0, []),
  (24, .bipush (-2), 2, 0, 0, 0, []),
  (26, .ireturn, 1, 0, 0, 0, [])]
def mi63 : minfo := (⟨"HeavyChains", "undo", "()I"⟩, prog_1_method_12_code, 1, (some .int), 3, 102, mt63)
def mt64 : List (Nat × ent) := [(0, .aload_n 0, 1, 0, 0, 0, []),
  (1, .iload_n 1, 1, 0, 0, 0, []),
  (2, .invokevirtual 114, 3, 83, 2, 9, [467, 469, 7, 36]),
  (5, .ifCond .eq 11, 3, 16, 0, 0, []),
  (8, .aload_n 0, 1, 0, 0, 0, []),
  (9, .iload_n 2, 1, 0, 0, 0, []),
  (10, .invokevirtual 114, 3, 83, 2, 9, [467, 469, 7, 36]),
  (13, .ifCond .ne 5, 3, 18, 0, 0, []),
  (16, .iconst (-1), 1, 0, 0, 0, []),
  (17, .ireturn, 1, 0, 0, 0, []),
  (18, .aload_n 0, 1, 0, 0, 0, []),
  (19, .getfield 55, 3, 9, 7, 0, [416]),
  (22, .aload_n 0, 1, 0, 0, 0, []),
  (23, .getfield 26, 3, 9, 2, 0, [411]),
  (26, .iload_n 1, 1, 0, 0, 0, []),
  (27, .iload_n 2, 1, 0, 0, 0, []),
  (28, .invokevirtual 154, 3, 23, 4, 4, [483, 484, 485, 43]),
  (31, .iload_n 3, 1, 0, 0, 0, []),
  (32, .tableswitch 157 0 7 #[48, 56, 68, 76, 94, 112, 130, 145], 48, 0, 0, 0, []),
  (80, .aload_n 0, 1, 0, 0, 0, []),
  (81, .getfield 55, 3, 9, 7, 0, [416]),
  (84, .getfield 177, 3, 4, 1, 0, [215]),
  (87, .ireturn, 1, 0, 0, 0, []),
  (88, .aload_n 0, 1, 0, 0, 0, []),
  (89, .getfield 55, 3, 9, 7, 0, [416]),
  (92, .aload_n 0, 1, 0, 0, 0, []),
  (93, .getfield 26, 3, 9, 2, 0, [411]),
  (96, .invokevirtual 178, 3, 25, 2, 4, [546, 547, 548, 43]),
  (99, .ireturn, 1, 0, 0, 0, []),
  (100, .aload_n 0, 1, 0, 0, 0, []),
  (101, .getfield 55, 3, 9, 7, 0, [416]),
  (104, .getfield 182, 3, 4, 2, 0, [217]),
  (107, .ireturn, 1, 0, 0, 0, []),
  (108, .aload_n 0, 1, 0, 0, 0, []),
  (109, .getfield 55, 3, 9, 7, 0, [416]),
  (112, .aload_n 0, 1, 0, 0, 0, []),
  (113, .getfield 33, 3, 9, 3, 0, [412]),
  (116, .getfield 137, 3, 0, 0, 0, [92]),
  (119, .invokevirtual 185, 3, 26, 2, 4, [514, 515, 516, 43]),
  (122, .ldc 140, 2, 0, 0, 1000000, [471]),
  (124, .iadd, 1, 0, 0, 0, []),
  (125, .ireturn, 1, 0, 0, 0, []),
  (126, .aload_n 0, 1, 0, 0, 0, []),
  (127, .getfield 55, 3, 9, 7, 0, [416]),
  (130, .aload_n 0, 1, 0, 0, 0, []),
  (131, .getfield 33, 3, 9, 3, 0, [412]),
  (134, .getfield 137, 3, 0, 0, 0, [92]),
  (137, .invokevirtual 189, 3, 27, 2, 4, [550, 551, 552, 43]),
  (140, .ldc 140, 2, 0, 0, 1000000, [471]),
  (142, .iadd, 1, 0, 0, 0, []),
  (143, .ireturn, 1, 0, 0, 0, []),
  (144, .aload_n 0, 1, 0, 0, 0, []),
  (145, .getfield 55, 3, 9, 7, 0, [416]),
  (148, .aload_n 0, 1, 0, 0, 0, []),
  (149, .getfield 33, 3, 9, 3, 0, [412]),
  (152, .getfield 137, 3, 0, 0, 0, [92]),
  (155, .invokevirtual 192, 3, 28, 2, 4, [554, 555, 556, 43]),
  (158, .ldc 140, 2, 0, 0, 1000000, [471]),
  (160, .iadd, 1, 0, 0, 0, []),
  (161, .ireturn, 1, 0, 0, 0, []),
  (162, .aload_n 0, 1, 0, 0, 0, []),
  (163, .getfield 55, 3, 9, 7, 0, [416]),
  (166, .aload_n 0, 1, 0, 0, 0, []),
  (167, .getfield 33, 3, 9, 3, 0, [412]),
  (170, .getfield 137, 3, 0, 0, 0, [92]),
  (173, .invokevirtual 195, 3, 29, 2, 4, [559, 560, 561, 43]),
  (176, .ireturn, 1, 0, 0, 0, []),
  (177, .aload_n 0, 1, 0, 0, 0, []),
  (178, .getfield 69, 3, 9, 9, 0, [418]),
  (181, .aload_n 0, 1, 0, 0, 0, []),
  (182, .getfield 55, 3, 9, 7, 0, [416]),
  (185, .invokevirtual 198, 3, 10, 2, 2, [563, 564, 565, 45]),
  (188, .ireturn, 1, 0, 0, 0, []),
  (189, .iconst (-1), 1, 0, 0, 0, []),
  (190, .ireturn, 1, 0, 0, 0, [])]
def mi64 : minfo := (⟨"HeavyChains", "way", "(III)I"⟩, prog_1_method_13_code, 4, (some .int), 3, 112, mt64)
def mt65 : List (Nat × ent) := [(0, .aload_n 0, 1, 0, 0, 0, []),
  (1, .iload_n 1, 1, 0, 0, 0, []),
  (2, .invokevirtual 114, 3, 83, 2, 9, [467, 469, 7, 36]),
  (5, .ifCond .eq 15, 3, 20, 0, 0, []),
  (8, .aload_n 0, 1, 0, 0, 0, []),
  (9, .iload_n 2, 1, 0, 0, 0, []),
  (10, .invokevirtual 114, 3, 83, 2, 9, [467, 469, 7, 36]),
  (13, .ifCond .eq 7, 3, 20, 0, 0, []),
  (16, .iload_n 3, 1, 0, 0, 0, []),
  (17, .ifCond .ge 5, 3, 22, 0, 0, []),
  (20, .iconst (-1), 1, 0, 0, 0, []),
  (21, .ireturn, 1, 0, 0, 0, []),
  (22, .aload_n 0, 1, 0, 0, 0, []),
  (23, .getfield 55, 3, 9, 7, 0, [416]),
  (26, .aload_n 0, 1, 0, 0, 0, []),
  (27, .getfield 26, 3, 9, 2, 0, [411]),
  (30, .iload_n 1, 1, 0, 0, 0, []),
  (31, .iload_n 2, 1, 0, 0, 0, []),
  (32, .invokevirtual 154, 3, 23, 4, 4, [483, 484, 485, 43]),
  (35, .iload_n 3, 1, 0, 0, 0, []),
  (36, .aload_n 0, 1, 0, 0, 0, []),
  (37, .getfield 55, 3, 9, 7, 0, [416]),
  (40, .getfield 177, 3, 4, 1, 0, [215]),
  (43, .if_icmp .ge 15, 3, 58, 0, 0, []),
  (46, .aload_n 0, 1, 0, 0, 0, []),
  (47, .getfield 55, 3, 9, 7, 0, [416]),
  (50, .getfield 202, 3, 4, 0, 0, [212]),
  (53, .iload_n 3, 1, 0, 0, 0, []),
  (54, .iaload, 1, 0, 0, 0, []),
  (55, .goto 5, 3, 60, 0, 0, []),
  (58, .bipush (-4), 2, 0, 0, 0, []),
  (60, .ireturn, 1, 0, 0, 0, [])]
def mi65 : minfo := (⟨"HeavyChains", "step", "(III)I"⟩, prog_1_method_14_code, 4, (some .int), 3, 112, mt65)
def mt66 : List (Nat × ent) := [(0, .aload_n 0, 1, 0, 0, 0, []),
  (1, .iload_n 1, 1, 0, 0, 0, []),
  (2, .invokevirtual 114, 3, 83, 2, 9, [467, 469, 7, 36]),
  (5, .ifCond .eq 21, 3, 26, 0, 0, []),
  (8, .aload_n 0, 1, 0, 0, 0, []),
  (9, .iload_n 2, 1, 0, 0, 0, []),
  (10, .invokevirtual 114, 3, 83, 2, 9, [467, 469, 7, 36]),
  (13, .ifCond .eq 13, 3, 26, 0, 0, []),
  (16, .iload_n 3, 1, 0, 0, 0, []),
  (17, .iconst 0, 1, 0, 0, 0, []),
  (18, .bipush 96, 2, 0, 0, 0, []),
  (20, .invokestatic 103, 3, 81, 3, 0, [448, 449, 36]),
  (23, .ifCond .ne 5, 3, 28, 0, 0, []),
  (26, .iconst (-1), 1, 0, 0, 0, []),
  (27, .ireturn, 1, 0, 0, 0, []),
  (28, .aload_n 0, 1, 0, 0, 0, []),
  (29, .getfield 55, 3, 9, 7, 0, [416]),
  (32, .aload_n 0, 1, 0, 0, 0, []),
  (33, .getfield 26, 3, 9, 2, 0, [411]),
  (36, .iload_n 1, 1, 0, 0, 0, []),
  (37, .iload_n 2, 1, 0, 0, 0, []),
  (38, .invokevirtual 154, 3, 23, 4, 4, [483, 484, 485, 43]),
  (41, .aload_n 0, 1, 0, 0, 0, []),
  (42, .getfield 55, 3, 9, 7, 0, [416]),
  (45, .aload_n 0, 1, 0, 0, 0, []),
  (46, .getfield 33, 3, 9, 3, 0, [412]),
  (49, .iload_n 3, 1, 0, 0, 0, []),
  (50, .invokevirtual 205, 3, 30, 3, 4, [575, 576, 577, 43]),
  (53, .ireturn, 1, 0, 0, 0, [])]
def mi66 : minfo := (⟨"HeavyChains", "through", "(III)I"⟩, prog_1_method_15_code, 4, (some .int), 3, 112, mt66)
def mt67 : List (Nat × ent) := [(0, .aload_n 0, 1, 0, 0, 0, []),
  (1, .iload_n 1, 1, 0, 0, 0, []),
  (2, .invokevirtual 114, 3, 83, 2, 9, [467, 469, 7, 36]),
  (5, .ifCond .ne 5, 3, 10, 0, 0, []),
  (8, .iconst (-1), 1, 0, 0, 0, []),
  (9, .ireturn, 1, 0, 0, 0, []),
  (10, .aload_n 0, 1, 0, 0, 0, []),
  (11, .getfield 55, 3, 9, 7, 0, [416]),
  (14, .aload_n 0, 1, 0, 0, 0, []),
  (15, .getfield 26, 3, 9, 2, 0, [411]),
  (18, .iload_n 1, 1, 0, 0, 0, []),
  (19, .invokevirtual 162, 3, 24, 3, 4, [522, 523, 524, 43]),
  (22, .iload_n 2, 1, 0, 0, 0, []),
  (23, .tableswitch 73 0 2 #[25, 43, 61], 25, 0, 0, 0, []),
  (48, .aload_n 0, 1, 0, 0, 0, []),
  (49, .getfield 55, 3, 9, 7, 0, [416]),
  (52, .aload_n 0, 1, 0, 0, 0, []),
  (53, .getfield 33, 3, 9, 3, 0, [412]),
  (56, .getfield 137, 3, 0, 0, 0, [92]),
  (59, .invokevirtual 185, 3, 26, 2, 4, [514, 515, 516, 43]),
  (62, .ldc 140, 2, 0, 0, 1000000, [471]),
  (64, .iadd, 1, 0, 0, 0, []),
  (65, .ireturn, 1, 0, 0, 0, []),
  (66, .aload_n 0, 1, 0, 0, 0, []),
  (67, .getfield 55, 3, 9, 7, 0, [416]),
  (70, .aload_n 0, 1, 0, 0, 0, []),
  (71, .getfield 33, 3, 9, 3, 0, [412]),
  (74, .getfield 137, 3, 0, 0, 0, [92]),
  (77, .invokevirtual 189, 3, 27, 2, 4, [550, 551, 552, 43]),
  (80, .ldc 140, 2, 0, 0, 1000000, [471]),
  (82, .iadd, 1, 0, 0, 0, []),
  (83, .ireturn, 1, 0, 0, 0, []),
  (84, .aload_n 0, 1, 0, 0, 0, []),
  (85, .getfield 69, 3, 9, 9, 0, [418]),
  (88, .aload_n 0, 1, 0, 0, 0, []),
  (89, .getfield 55, 3, 9, 7, 0, [416]),
  (92, .invokevirtual 198, 3, 10, 2, 2, [563, 564, 565, 45]),
  (95, .ireturn, 1, 0, 0, 0, []),
  (96, .iconst (-1), 1, 0, 0, 0, []),
  (97, .ireturn, 1, 0, 0, 0, [])]
def mi67 : minfo := (⟨"HeavyChains", "below", "(II)I"⟩, prog_1_method_16_code, 3, (some .int), 2, 83, mt67)
def mt68 : List (Nat × ent) := [(0, .aload_n 0, 1, 0, 0, 0, []),
  (1, .iload_n 1, 1, 0, 0, 0, []),
  (2, .invokevirtual 114, 3, 83, 2, 9, [467, 469, 7, 36]),
  (5, .ifCond .eq 20, 3, 25, 0, 0, []),
  (8, .aload_n 0, 1, 0, 0, 0, []),
  (9, .iload_n 2, 1, 0, 0, 0, []),
  (10, .invokevirtual 114, 3, 83, 2, 9, [467, 469, 7, 36]),
  (13, .ifCond .eq 12, 3, 25, 0, 0, []),
  (16, .iload_n 3, 1, 0, 0, 0, []),
  (17, .iconst 0, 1, 0, 0, 0, []),
  (18, .iconst 1, 1, 0, 0, 0, []),
  (19, .invokestatic 103, 3, 81, 3, 0, [448, 449, 36]),
  (22, .ifCond .ne 5, 3, 27, 0, 0, []),
  (25, .iconst (-1), 1, 0, 0, 0, []),
  (26, .ireturn, 1, 0, 0, 0, []),
  (27, .aload_n 0, 1, 0, 0, 0, []),
  (28, .getfield 55, 3, 9, 7, 0, [416]),
  (31, .aload_n 0, 1, 0, 0, 0, []),
  (32, .getfield 26, 3, 9, 2, 0, [411]),
  (35, .iload_n 1, 1, 0, 0, 0, []),
  (36, .iload_n 2, 1, 0, 0, 0, []),
  (37, .invokevirtual 154, 3, 23, 4, 4, [483, 484, 485, 43]),
  (40, .aload_n 0, 1, 0, 0, 0, []),
  (41, .getfield 69, 3, 9, 9, 0, [418]),
  (44, .aload_n 0, 1, 0, 0, 0, []),
  (45, .getfield 55, 3, 9, 7, 0, [416]),
  (48, .iload_n 3, 1, 0, 0, 0, []),
  (49, .iconst 1, 1, 0, 0, 0, []),
  (50, .if_icmp .ne 7, 3, 57, 0, 0, []),
  (53, .iconst 1, 1, 0, 0, 0, []),
  (54, .goto 4, 3, 58, 0, 0, []),
  (57, .iconst 0, 1, 0, 0, 0, []),
  (58, .invokevirtual 209, 3, 11, 3, 2, [587, 588, 589, 45]),
  (61, .ireturn, 1, 0, 0, 0, [])]
def mi68 : minfo := (⟨"HeavyChains", "mark", "(III)I"⟩, prog_1_method_17_code, 4, (some .int), 3, 112, mt68)
def mt69 : List (Nat × ent) := [(0, .aload_n 0, 1, 0, 0, 0, []),
  (1, .iload_n 1, 1, 0, 0, 0, []),
  (2, .invokevirtual 114, 3, 83, 2, 9, [467, 469, 7, 36]),
  (5, .ifCond .ne 5, 3, 10, 0, 0, []),
  (8, .iconst (-1), 1, 0, 0, 0, []),
  (9, .ireturn, 1, 0, 0, 0, []),
  (10, .aload_n 0, 1, 0, 0, 0, []),
  (11, .getfield 55, 3, 9, 7, 0, [416]),
  (14, .aload_n 0, 1, 0, 0, 0, []),
  (15, .getfield 26, 3, 9, 2, 0, [411]),
  (18, .iload_n 1, 1, 0, 0, 0, []),
  (19, .invokevirtual 162, 3, 24, 3, 4, [522, 523, 524, 43]),
  (22, .aload_n 0, 1, 0, 0, 0, []),
  (23, .getfield 69, 3, 9, 9, 0, [418]),
  (26, .aload_n 0, 1, 0, 0, 0, []),
  (27, .getfield 55, 3, 9, 7, 0, [416]),
  (30, .invokevirtual 213, 3, 12, 2, 2, [595, 596, 597, 45]),
  (33, .aload_n 0, 1, 0, 0, 0, []),
  (34, .getfield 69, 3, 9, 9, 0, [418]),
  (37, .invokevirtual 217, 3, 9, 1, 2, [599, 600, 601, 45]),
  (40, .ireturn, 1, 0, 0, 0, [])]
def mi69 : minfo := (⟨"HeavyChains", "turn", "(I)I"⟩, prog_1_method_18_code, 2, (some .int), 2, 83, mt69)
def mt70 : List (Nat × ent) := [(0, .aload_n 0, 1, 0, 0, 0, []),
  (1, .iload_n 1, 1, 0, 0, 0, []),
  (2, .invokevirtual 114, 3, 83, 2, 9, [467, 469, 7, 36]),
  (5, .ifCond .eq 18, 3, 23, 0, 0, []),
  (8, .aload_n 0, 1, 0, 0, 0, []),
  (9, .getfield 69, 3, 9, 9, 0, [418]),
  (12, .aload_n 0, 1, 0, 0, 0, []),
  (13, .getfield 26, 3, 9, 2, 0, [411]),
  (16, .iload_n 1, 1, 0, 0, 0, []),
  (17, .invokevirtual 220, 3, 13, 3, 2, [607, 608, 609, 45]),
  (20, .goto 4, 3, 24, 0, 0, []),
  (23, .iconst (-1), 1, 0, 0, 0, []),
  (24, .ireturn, 1, 0, 0, 0, [])]
def mi70 : minfo := (⟨"HeavyChains", "marked", "(I)I"⟩, prog_1_method_19_code, 2, (some .int), 2, 83, mt70)
def mt71 : List (Nat × ent) := [(0, .aload_n 0, 1, 0, 0, 0, []),
  (1, .iload_n 1, 1, 0, 0, 0, []),
  (2, .invokevirtual 114, 3, 83, 2, 9, [467, 469, 7, 36]),
  (5, .ifCond .ne 5, 3, 10, 0, 0, []),
  (8, .iconst (-1), 1, 0, 0, 0, []),
  (9, .ireturn, 1, 0, 0, 0, []),
  (10, .aload_n 0, 1, 0, 0, 0, []),
  (11, .getfield 62, 3, 9, 8, 0, [417]),
  (14, .aload_n 0, 1, 0, 0, 0, []),
  (15, .getfield 26, 3, 9, 2, 0, [411]),
  (18, .iload_n 1, 1, 0, 0, 0, []),
  (19, .aload_n 0, 1, 0, 0, 0, []),
  (20, .getfield 62, 3, 9, 8, 0, [417]),
  (23, .getfield 224, 3, 6, 0, 0, [232]),
  (26, .invokevirtual 227, 3, 38, 4, 6, [615, 616, 617, 44]),
  (29, .aload_n 0, 1, 0, 0, 0, []),
  (30, .getfield 69, 3, 9, 9, 0, [418]),
  (33, .aload_n 0, 1, 0, 0, 0, []),
  (34, .getfield 26, 3, 9, 2, 0, [411]),
  (37, .getfield 111, 3, 7, 0, 0, [130]),
  (40, .aload_n 0, 1, 0, 0, 0, []),
  (41, .getfield 62, 3, 9, 8, 0, [417]),
  (44, .getfield 231, 3, 6, 1, 0, [234]),
  (47, .invokevirtual 234, 3, 14, 3, 2, [619, 620, 621, 45]),
  (50, .ireturn, 1, 0, 0, 0, [])]
def mi71 : minfo := (⟨"HeavyChains", "nearest", "(I)I"⟩, prog_1_method_20_code, 2, (some .int), 2, 86, mt71)
def mt72 : List (Nat × ent) := [(0, .aload_n 0, 1, 0, 0, 0, []),
  (1, .iload_n 1, 1, 0, 0, 0, []),
  (2, .invokevirtual 114, 3, 83, 2, 9, [467, 469, 7, 36]),
  (5, .ifCond .eq 24, 3, 29, 0, 0, []),
  (8, .aload_n 0, 1, 0, 0, 0, []),
  (9, .iload_n 2, 1, 0, 0, 0, []),
  (10, .invokevirtual 114, 3, 83, 2, 9, [467, 469, 7, 36]),
  (13, .ifCond .eq 16, 3, 29, 0, 0, []),
  (16, .iload_n 3, 1, 0, 0, 0, []),
  (17, .sipush (-9999), 3, 0, 0, 0, []),
  (20, .sipush 9999, 3, 0, 0, 0, []),
  (23, .invokestatic 103, 3, 81, 3, 0, [448, 449, 36]),
  (26, .ifCond .ne 5, 3, 31, 0, 0, []),
  (29, .iconst (-1), 1, 0, 0, 0, []),
  (30, .ireturn, 1, 0, 0, 0, []),
  (31, .aload_n 0, 1, 0, 0, 0, []),
  (32, .getfield 76, 3, 9, 10, 0, [419]),
  (35, .iload_n 1, 1, 0, 0, 0, []),
  (36, .iload_n 2, 1, 0, 0, 0, []),
  (37, .iload_n 3, 1, 0, 0, 0, []),
  (38, .invokevirtual 238, 3, 49, 4, 8, [627, 628, 629, 46]),
  (41, .ireturn, 1, 0, 0, 0, [])]
def mi72 : minfo := (⟨"HeavyChains", "watch", "(III)I"⟩, prog_1_method_21_code, 4, (some .int), 2, 83, mt72)
def mt73 : List (Nat × ent) := [(0, .aload_n 0, 1, 0, 0, 0, []),
  (1, .getfield 76, 3, 9, 10, 0, [419]),
  (4, .aload_n 0, 1, 0, 0, 0, []),
  (5, .getfield 26, 3, 9, 2, 0, [411]),
  (8, .aload_n 0, 1, 0, 0, 0, []),
  (9, .getfield 55, 3, 9, 7, 0, [416]),
  (12, .aload_n 0, 1, 0, 0, 0, []),
  (13, .getfield 33, 3, 9, 3, 0, [412]),
  (16, .getfield 137, 3, 0, 0, 0, [92]),
  (19, .invokevirtual 242, 3, 50, 4, 8, [635, 636, 637, 46]),
  (22, .ireturn, 1, 0, 0, 0, [])]
def mi73 : minfo := (⟨"HeavyChains", "settle", "()I"⟩, prog_1_method_22_code, 1, (some .int), 4, 137, mt73)
def mt74 : List (Nat × ent) := [(0, .iload_n 1, 1, 0, 0, 0, []),
  (1, .iconst (-1), 1, 0, 0, 0, []),
  (2, .if_icmp .ge 5, 3, 7, 0, 0, []),
  (5, .iconst (-1), 1, 0, 0, 0, []),
  (6, .ireturn, 1, 0, 0, 0, []),
  (7, .iload_n 1, 1, 0, 0, 0, []),
  (8, .iconst (-1), 1, 0, 0, 0, []),
  (9, .if_icmp .ne 11, 3, 20, 0, 0, []),
  (12, .aload_n 0, 1, 0, 0, 0, []),
  (13, .getfield 76, 3, 9, 10, 0, [419]),
  (16, .getfield 246, 3, 8, 4, 0, [276]),
  (19, .ireturn, 1, 0, 0, 0, []),
  (20, .iload_n 1, 1, 0, 0, 0, []),
  (21, .aload_n 0, 1, 0, 0, 0, []),
  (22, .getfield 76, 3, 9, 10, 0, [419]),
  (25, .getfield 246, 3, 8, 4, 0, [276]),
  (28, .if_icmp .ge 15, 3, 43, 0, 0, []),
  (31, .aload_n 0, 1, 0, 0, 0, []),
  (32, .getfield 76, 3, 9, 10, 0, [419]),
  (35, .getfield 249, 3, 8, 0, 0, [271]),
  (38, .iload_n 1, 1, 0, 0, 0, []),
  (39, .iaload, 1, 0, 0, 0, []),
  (40, .goto 5, 3, 45, 0, 0, []),
  (43, .bipush (-4), 2, 0, 0, 0, []),
  (45, .ireturn, 1, 0, 0, 0, [])]
def mi74 : minfo := (⟨"HeavyChains", "waits", "(I)I"⟩, prog_1_method_23_code, 2, (some .int), 1, 60, mt74)
def mt75 : List (Nat × ent) := [(0, .iload_n 1, 1, 0, 0, 0, []),
  (1, .iconst 0, 1, 0, 0, 0, []),
  (2, .iconst 2, 1, 0, 0, 0, []),
  (3, .invokestatic 103, 3, 81, 3, 0, [448, 449, 36]),
  (6, .ifCond .ne 5, 3, 11, 0, 0, []),
  (9, .iconst (-1), 1, 0, 0, 0, []),
  (10, .ireturn, 1, 0, 0, 0, []),
  (11, .aload_n 0, 1, 0, 0, 0, []),
  (12, .getfield 62, 3, 9, 8, 0, [417]),
  (15, .aload_n 0, 1, 0, 0, 0, []),
  (16, .getfield 26, 3, 9, 2, 0, [411]),
  (19, .aload_n 0, 1, 0, 0, 0, []),
  (20, .getfield 33, 3, 9, 3, 0, [412]),
  (23, .getfield 137, 3, 0, 0, 0, [92]),
  (26, .invokevirtual 252, 3, 39, 3, 6, [653, 654, 655, 44]),
  (29, .iload_n 1, 1, 0, 0, 0, []),
  (30, .iconst 2, 1, 0, 0, 0, []),
  (31, .if_icmp .ne 16, 3, 47, 0, 0, []),
  (34, .aload_n 0, 1, 0, 0, 0, []),
  (35, .getfield 62, 3, 9, 8, 0, [417]),
  (38, .getfield 256, 3, 6, 5, 0, [239]),
  (41, .ldc 140, 2, 0, 0, 1000000, [471]),
  (43, .iadd, 1, 0, 0, 0, []),
  (44, .goto 11, 3, 55, 0, 0, []),
  (47, .aload_n 0, 1, 0, 0, 0, []),
  (48, .getfield 62, 3, 9, 8, 0, [417]),
  (51, .iload_n 1, 1, 0, 0, 0, []),
  (52, .invokevirtual 259, 3, 40, 2, 6, [658, 659, 660, 44]),
  (55, .ireturn, 1, 0, 0, 0, [])]
def mi75 : minfo := (⟨"HeavyChains", "richest", "(I)I"⟩, prog_1_method_24_code, 2, (some .int), 3, 110, mt75)
def mt76 : List (Nat × ent) := [(0, .iload_n 1, 1, 0, 0, 0, []),
  (1, .iconst 0, 1, 0, 0, 0, []),
  (2, .iconst 2, 1, 0, 0, 0, []),
  (3, .invokestatic 103, 3, 81, 3, 0, [448, 449, 36]),
  (6, .ifCond .ne 5, 3, 11, 0, 0, []),
  (9, .iconst (-1), 1, 0, 0, 0, []),
  (10, .ireturn, 1, 0, 0, 0, []),
  (11, .aload_n 0, 1, 0, 0, 0, []),
  (12, .getfield 62, 3, 9, 8, 0, [417]),
  (15, .aload_n 0, 1, 0, 0, 0, []),
  (16, .getfield 26, 3, 9, 2, 0, [411]),
  (19, .aload_n 0, 1, 0, 0, 0, []),
  (20, .getfield 62, 3, 9, 8, 0, [417]),
  (23, .getfield 224, 3, 6, 0, 0, [232]),
  (26, .invokevirtual 252, 3, 39, 3, 6, [653, 654, 655, 44]),
  (29, .iload_n 1, 1, 0, 0, 0, []),
  (30, .iconst 2, 1, 0, 0, 0, []),
  (31, .if_icmp .ne 13, 3, 44, 0, 0, []),
  (34, .aload_n 0, 1, 0, 0, 0, []),
  (35, .getfield 62, 3, 9, 8, 0, [417]),
  (38, .getfield 256, 3, 6, 5, 0, [239]),
  (41, .goto 11, 3, 52, 0, 0, []),
  (44, .aload_n 0, 1, 0, 0, 0, []),
  (45, .getfield 62, 3, 9, 8, 0, [417]),
  (48, .iload_n 1, 1, 0, 0, 0, []),
  (49, .invokevirtual 259, 3, 40, 2, 6, [658, 659, 660, 44]),
  (52, .ireturn, 1, 0, 0, 0, [])]
def mi76 : minfo := (⟨"HeavyChains", "longest", "(I)I"⟩, prog_1_method_25_code, 2, (some .int), 3, 110, mt76)
def mt77 : List (Nat × ent) := [(0, .iload_n 1, 1, 0, 0, 0, []),
  (1, .iconst 0, 1, 0, 0, 0, []),
  (2, .sipush 9999, 3, 0, 0, 0, []),
  (5, .invokestatic 103, 3, 81, 3, 0, [448, 449, 36]),
  (8, .ifCond .eq 22, 3, 30, 0, 0, []),
  (11, .iload_n 2, 1, 0, 0, 0, []),
  (12, .iconst 1, 1, 0, 0, 0, []),
  (13, .bipush 20, 2, 0, 0, 0, []),
  (15, .invokestatic 103, 3, 81, 3, 0, [448, 449, 36]),
  (18, .ifCond .eq 12, 3, 30, 0, 0, []),
  (21, .iload_n 3, 1, 0, 0, 0, []),
  (22, .iconst 0, 1, 0, 0, 0, []),
  (23, .iconst 1, 1, 0, 0, 0, []),
  (24, .invokestatic 103, 3, 81, 3, 0, [448, 449, 36]),
  (27, .ifCond .ne 5, 3, 32, 0, 0, []),
  (30, .iconst (-1), 1, 0, 0, 0, []),
  (31, .ireturn, 1, 0, 0, 0, []),
  (32, .aload_n 0, 1, 0, 0, 0, []),
  (33, .getfield 37, 3, 9, 4, 0, [413]),
  (36, .aload_n 0, 1, 0, 0, 0, []),
  (37, .getfield 33, 3, 9, 3, 0, [412]),
  (40, .invokevirtual 263, 3, 3, 2, 0, [394, 395, 396, 39]),
  (43, .iconst 0, 1, 0, 0, 0, []),
  (44, .istore 4, 2, 0, 0, 0, []),
  (46, .iload 4, 2, 0, 0, 0, []),
  (48, .iload_n 2, 1, 0, 0, 0, []),
  (49, .if_icmp .ge 19, 3, 68, 0, 0, []),
  (52, .aload_n 0, 1, 0, 0, 0, []),
  (53, .iload_n 1, 1, 0, 0, 0, []),
  (54, .iload 4, 2, 0, 0, 0, []),
  (56, .invokestatic 266, 3, 86, 2, 0, [670, 671, 36]),
  (59, .invokevirtual 269, 3, 87, 2, 9, [676, 678, 10, 36]),
  (62, .iinc 4 1, 3, 0, 0, 0, []),
  (65, .goto (-19), 3, 46, 0, 0, []),
  (68, .aload_n 0, 1, 0, 0, 0, []),
  (69, .getfield 55, 3, 9, 7, 0, [416]),
  (72, .aload_n 0, 1, 0, 0, 0, []),
  (73, .getfield 26, 3, 9, 2, 0, [411]),
  (76, .iconst 0, 1, 0, 0, 0, []),
  (77, .invokevirtual 162, 3, 24, 3, 4, [522, 523, 524, 43]),
  (80, .iload_n 3, 1, 0, 0, 0, []),
  (81, .ifCond .ne 20, 3, 101, 0, 0, []),
  (84, .aload_n 0, 1, 0, 0, 0, []),
  (85, .getfield 55, 3, 9, 7, 0, [416]),
  (88, .aload_n 0, 1, 0, 0, 0, []),
  (89, .getfield 37, 3, 9, 4, 0, [413]),
  (92, .getfield 137, 3, 0, 0, 0, [92]),
  (95, .invokevirtual 185, 3, 26, 2, 4, [514, 515, 516, 43]),
  (98, .goto 17, 3, 115, 0, 0, []),
  (101, .aload_n 0, 1, 0, 0, 0, []),
  (102, .getfield 55, 3, 9, 7, 0, [416]),
  (105, .aload_n 0, 1, 0, 0, 0, []),
  (106, .getfield 37, 3, 9, 4, 0, [413]),
  (109, .getfield 137, 3, 0, 0, 0, [92]),
  (112, .invokevirtual 189, 3, 27, 2, 4, [550, 551, 552, 43]),
  (115, .ldc 140, 2, 0, 0, 1000000, [471]),
  (117, .iadd, 1, 0, 0, 0, []),
  (118, .ireturn, 1, 0, 0, 0, [])]
def mi77 : minfo := (⟨"HeavyChains", "day", "(III)I"⟩, prog_1_method_26_code, 5, (some .int), 4, 136, mt77)
def mt78 : List (Nat × ent) := [(0, .aload_n 0, 1, 0, 0, 0, []),
  (1, .getfield 49, 3, 9, 6, 0, [415]),
  (4, .getfield 174, 3, 5, 1, 0, [195]),
  (7, .iconst 2, 1, 0, 0, 0, []),
  (8, .if_icmp .lt 6, 3, 14, 0, 0, []),
  (11, .bipush (-3), 2, 0, 0, 0, []),
  (13, .ireturn, 1, 0, 0, 0, []),
  (14, .aload_n 0, 1, 0, 0, 0, []),
  (15, .getfield 49, 3, 9, 6, 0, [415]),
  (18, .aload_n 0, 1, 0, 0, 0, []),
  (19, .getfield 33, 3, 9, 3, 0, [412]),
  (22, .invokevirtual 166, 3, 35, 2, 5, [504, 505, 506, 41]),
  (25, .aload_n 0, 1, 0, 0, 0, []),
  (26, .getfield 49, 3, 9, 6, 0, [415]),
  (29, .getfield 174, 3, 5, 1, 0, [195]),
  (32, .ireturn, 1, 0, 0, 0, [])]
def mi78 : minfo := (⟨"HeavyChains", "keep", "()I"⟩, prog_1_method_27_code, 1, (some .int), 3, 102, mt78)
def mt79 : List (Nat × ent) := [(0, .aload_n 0, 1, 0, 0, 0, []),
  (1, .getfield 49, 3, 9, 6, 0, [415]),
  (4, .aload_n 0, 1, 0, 0, 0, []),
  (5, .getfield 33, 3, 9, 3, 0, [412]),
  (8, .invokevirtual 170, 3, 36, 2, 5, [538, 539, 540, 41]),
  (11, .ifCond .ne 6, 3, 17, 0, 0, []),
  (14, .bipush (-2), 2, 0, 0, 0, []),
  (16, .ireturn, 1, 0, 0, 0, []),
  (17, .aload_n 0, 1, 0, 0, 0, []),
  (18, .getfield 45, 3, 9, 5, 0, [414]),
  (21, .iconst 0, 1, 0, 0, 0, []),
  (22, .putfield 174, 3, 5, 1, 0, [195]),
  (25, .aload_n 0, 1, 0, 0, 0, []),
  (26, .getfield 49, 3, 9, 6, 0, [415]),
  (29, .getfield 174, 3, 5, 1, 0, [195]),
  (32, .ireturn, 1, 0, 0, 0, [])]
def mi79 : minfo := (⟨"HeavyChains", "back", "()I"⟩, prog_1_method_28_code, 1, (some .int), 3, 102, mt79)
def mt80 : List (Nat × ent) := [(0, .iload_n 1, 1, 0, 0, 0, []),
  (1, .tableswitch 133 0 8 #[51, 59, 67, 75, 83, 91, 99, 107, 115], 51, 0, 0, 0, []),
  (52, .aload_n 0, 1, 0, 0, 0, []),
  (53, .getfield 26, 3, 9, 2, 0, [411]),
  (56, .getfield 111, 3, 7, 0, 0, [130]),
  (59, .ireturn, 1, 0, 0, 0, []),
  (60, .aload_n 0, 1, 0, 0, 0, []),
  (61, .getfield 26, 3, 9, 2, 0, [411]),
  (64, .getfield 272, 3, 7, 1, 0, [133]),
  (67, .ireturn, 1, 0, 0, 0, []),
  (68, .aload_n 0, 1, 0, 0, 0, []),
  (69, .getfield 69, 3, 9, 9, 0, [418]),
  (72, .invokevirtual 217, 3, 9, 1, 2, [599, 600, 601, 45]),
  (75, .ireturn, 1, 0, 0, 0, []),
  (76, .aload_n 0, 1, 0, 0, 0, []),
  (77, .getfield 76, 3, 9, 10, 0, [419]),
  (80, .getfield 246, 3, 8, 4, 0, [276]),
  (83, .ireturn, 1, 0, 0, 0, []),
  (84, .aload_n 0, 1, 0, 0, 0, []),
  (85, .getfield 76, 3, 9, 10, 0, [419]),
  (88, .getfield 275, 3, 8, 5, 0, [278]),
  (91, .ireturn, 1, 0, 0, 0, []),
  (92, .aload_n 0, 1, 0, 0, 0, []),
  (93, .getfield 45, 3, 9, 5, 0, [414]),
  (96, .getfield 174, 3, 5, 1, 0, [195]),
  (99, .ireturn, 1, 0, 0, 0, []),
  (100, .aload_n 0, 1, 0, 0, 0, []),
  (101, .getfield 49, 3, 9, 6, 0, [415]),
  (104, .getfield 174, 3, 5, 1, 0, [195]),
  (107, .ireturn, 1, 0, 0, 0, []),
  (108, .aload_n 0, 1, 0, 0, 0, []),
  (109, .getfield 10, 3, 9, 0, 0, [409]),
  (112, .getfield 100, 3, 1, 1, 0, [69]),
  (115, .ireturn, 1, 0, 0, 0, []),
  (116, .aload_n 0, 1, 0, 0, 0, []),
  (117, .getfield 33, 3, 9, 3, 0, [412]),
  (120, .aload_n 0, 1, 0, 0, 0, []),
  (121, .getfield 26, 3, 9, 2, 0, [411]),
  (124, .getfield 111, 3, 7, 0, 0, [130]),
  (127, .invokevirtual 278, 3, 4, 2, 0, [693, 694, 695, 39]),
  (130, .ldc 140, 2, 0, 0, 1000000, [471]),
  (132, .iadd, 1, 0, 0, 0, []),
  (133, .ireturn, 1, 0, 0, 0, []),
  (134, .iconst (-1), 1, 0, 0, 0, []),
  (135, .ireturn, 1, 0, 0, 0, [])]
def mi80 : minfo := (⟨"HeavyChains", "count", "(I)I"⟩, prog_1_method_29_code, 2, (some .int), 2, 83, mt80)
def mt81 : List (Nat × ent) := [(0, .iload_n 0, 1, 0, 0, 0, []),
  (1, .iload_n 1, 1, 0, 0, 0, []),
  (2, .if_icmp .lt 12, 3, 14, 0, 0, []),
  (5, .iload_n 0, 1, 0, 0, 0, []),
  (6, .iload_n 2, 1, 0, 0, 0, []),
  (7, .if_icmp .gt 7, 3, 14, 0, 0, []),
  (10, .iconst 1, 1, 0, 0, 0, []),
  (11, .goto 4, 3, 15, 0, 0, []),
  (14, .iconst 0, 1, 0, 0, 0, []),
  (15, .ireturn, 1, 0, 0, 0, [])]
def mi81 : minfo := (⟨"HeavyChains", "within", "(III)Z"⟩, prog_1_method_30_code, 3, (some .boolean), 1, 60, mt81)
def mt82 : List (Nat × ent) := [(0, .iload_n 0, 1, 0, 0, 0, []),
  (1, .sipush (-999), 3, 0, 0, 0, []),
  (4, .sipush 999, 3, 0, 0, 0, []),
  (7, .invokestatic 103, 3, 81, 3, 0, [448, 449, 36]),
  (10, .ifCond .eq 16, 3, 26, 0, 0, []),
  (13, .iload_n 1, 1, 0, 0, 0, []),
  (14, .iconst 0, 1, 0, 0, 0, []),
  (15, .iconst 3, 1, 0, 0, 0, []),
  (16, .invokestatic 103, 3, 81, 3, 0, [448, 449, 36]),
  (19, .ifCond .eq 7, 3, 26, 0, 0, []),
  (22, .iconst 1, 1, 0, 0, 0, []),
  (23, .goto 4, 3, 27, 0, 0, []),
  (26, .iconst 0, 1, 0, 0, 0, []),
  (27, .ireturn, 1, 0, 0, 0, [])]
def mi82 : minfo := (⟨"HeavyChains", "isAddition", "(II)Z"⟩, prog_1_method_31_code, 2, (some .boolean), 2, 82, mt82)
def mt83 : List (Nat × ent) := [(0, .iload_n 1, 1, 0, 0, 0, []),
  (1, .ifCond .lt 18, 3, 19, 0, 0, []),
  (4, .iload_n 1, 1, 0, 0, 0, []),
  (5, .aload_n 0, 1, 0, 0, 0, []),
  (6, .getfield 26, 3, 9, 2, 0, [411]),
  (9, .getfield 111, 3, 7, 0, 0, [130]),
  (12, .if_icmp .ge 7, 3, 19, 0, 0, []),
  (15, .iconst 1, 1, 0, 0, 0, []),
  (16, .goto 4, 3, 20, 0, 0, []),
  (19, .iconst 0, 1, 0, 0, 0, []),
  (20, .ireturn, 1, 0, 0, 0, [])]
def mi83 : minfo := (⟨"HeavyChains", "isPost", "(I)Z"⟩, prog_1_method_32_code, 2, (some .boolean), 1, 60, mt83)
def mt84 : List (Nat × ent) := [(0, .aload_n 0, 1, 0, 0, 0, []),
  (1, .getfield 19, 3, 9, 1, 0, [410]),
  (4, .aload_n 0, 1, 0, 0, 0, []),
  (5, .getfield 10, 3, 9, 0, 0, [409]),
  (8, .invokevirtual 107, 3, 16, 2, 3, [349, 350, 351, 38]),
  (11, .bipush (-4), 2, 0, 0, 0, []),
  (13, .if_icmp .ne 13, 3, 26, 0, 0, []),
  (16, .aload_n 0, 1, 0, 0, 0, []),
  (17, .getfield 19, 3, 9, 1, 0, [410]),
  (20, .getfield 281, 3, 3, 0, 0, [110]),
  (23, .ifCond .ne 5, 3, 28, 0, 0, []),
  (26, .iconst 0, 1, 0, 0, 0, []),
  (27, .ireturn, 1, 0, 0, 0, []),
  (28, .aload_n 0, 1, 0, 0, 0, []),
  (29, .getfield 26, 3, 9, 2, 0, [411]),
  (32, .aload_n 0, 1, 0, 0, 0, []),
  (33, .getfield 19, 3, 9, 1, 0, [410]),
  (36, .getfield 281, 3, 3, 0, 0, [110]),
  (39, .aload_n 0, 1, 0, 0, 0, []),
  (40, .getfield 19, 3, 9, 1, 0, [410]),
  (43, .getfield 282, 3, 3, 1, 0, [112]),
  (46, .invokevirtual 283, 3, 42, 3, 7, [375, 376, 377, 40]),
  (49, .aload_n 0, 1, 0, 0, 0, []),
  (50, .getfield 33, 3, 9, 3, 0, [412]),
  (53, .aload_n 0, 1, 0, 0, 0, []),
  (54, .getfield 19, 3, 9, 1, 0, [410]),
  (57, .getfield 287, 3, 3, 2, 0, [114]),
  (60, .invokevirtual 263, 3, 3, 2, 0, [394, 395, 396, 39]),
  (63, .aload_n 0, 1, 0, 0, 0, []),
  (64, .getfield 45, 3, 9, 5, 0, [414]),
  (67, .iconst 0, 1, 0, 0, 0, []),
  (68, .putfield 174, 3, 5, 1, 0, [195]),
  (71, .aload_n 0, 1, 0, 0, 0, []),
  (72, .getfield 49, 3, 9, 6, 0, [415]),
  (75, .iconst 0, 1, 0, 0, 0, []),
  (76, .putfield 174, 3, 5, 1, 0, [195]),
  (79, .aload_n 0, 1, 0, 0, 0, []),
  (80, .getfield 69, 3, 9, 9, 0, [418]),
  (83, .invokevirtual 290, 3, 8, 1, 2, [401, 402, 403, 45]),
  (86, .aload_n 0, 1, 0, 0, 0, []),
  (87, .getfield 76, 3, 9, 10, 0, [419]),
  (90, .invokevirtual 293, 3, 48, 1, 8, [405, 406, 407, 46]),
  (93, .iconst 1, 1, 0, 0, 0, []),
  (94, .ireturn, 1, 0, 0, 0, [])]
def mi84 : minfo := (⟨"HeavyChains", "takeText", "()Z"⟩, prog_1_method_33_code, 1, (some .boolean), 5, 154, mt84)
def mt85 : List (Nat × ent) := [(0, .aload_n 0, 1, 0, 0, 0, []),
  (1, .getfield 55, 3, 9, 7, 0, [416]),
  (4, .aload_n 0, 1, 0, 0, 0, []),
  (5, .getfield 33, 3, 9, 3, 0, [412]),
  (8, .getfield 137, 3, 0, 0, 0, [92]),
  (11, .iload_n 1, 1, 0, 0, 0, []),
  (12, .iload_n 2, 1, 0, 0, 0, []),
  (13, .invokevirtual 294, 3, 31, 4, 4, [495, 496, 497, 43]),
  (16, .ifCond .ne 6, 3, 22, 0, 0, []),
  (19, .bipush (-2), 2, 0, 0, 0, []),
  (21, .ireturn, 1, 0, 0, 0, []),
  (22, .aload_n 0, 1, 0, 0, 0, []),
  (23, .getfield 45, 3, 9, 5, 0, [414]),
  (26, .aload_n 0, 1, 0, 0, 0, []),
  (27, .getfield 33, 3, 9, 3, 0, [412]),
  (30, .invokevirtual 166, 3, 35, 2, 5, [504, 505, 506, 41]),
  (33, .aload_n 0, 1, 0, 0, 0, []),
  (34, .getfield 55, 3, 9, 7, 0, [416]),
  (37, .aload_n 0, 1, 0, 0, 0, []),
  (38, .getfield 33, 3, 9, 3, 0, [412]),
  (41, .getfield 137, 3, 0, 0, 0, [92]),
  (44, .iload_n 1, 1, 0, 0, 0, []),
  (45, .iload_n 2, 1, 0, 0, 0, []),
  (46, .invokevirtual 298, 3, 32, 4, 4, [510, 511, 512, 43]),
  (49, .aload_n 0, 1, 0, 0, 0, []),
  (50, .getfield 55, 3, 9, 7, 0, [416]),
  (53, .aload_n 0, 1, 0, 0, 0, []),
  (54, .getfield 33, 3, 9, 3, 0, [412]),
  (57, .getfield 137, 3, 0, 0, 0, [92]),
  (60, .invokevirtual 185, 3, 26, 2, 4, [514, 515, 516, 43]),
  (63, .ldc 140, 2, 0, 0, 1000000, [471]),
  (65, .iadd, 1, 0, 0, 0, []),
  (66, .ireturn, 1, 0, 0, 0, [])]
def mi85 : minfo := (⟨"HeavyChains", "addToRoute", "(II)I"⟩, prog_1_method_34_code, 3, (some .int), 3, 106, mt85)
def mt86 : List (Nat × ent) := [(0, .ldc2_w 302, 3, 0, 0, 7919, [673]),
  (3, .iload_n 0, 1, 0, 0, 0, []),
  (4, .i2l, 1, 0, 0, 0, []),
  (5, .lmul, 1, 0, 0, 0, []),
  (6, .ldc2_w 304, 3, 0, 0, 6151, [674]),
  (9, .iload_n 1, 1, 0, 0, 0, []),
  (10, .i2l, 1, 0, 0, 0, []),
  (11, .lmul, 1, 0, 0, 0, []),
  (12, .ladd, 1, 0, 0, 0, []),
  (13, .lconst 1, 1, 0, 0, 0, []),
  (14, .ladd, 1, 0, 0, 0, []),
  (15, .lstore_n 2, 1, 0, 0, 0, []),
  (16, .lload_n 2, 1, 0, 0, 0, []),
  (17, .lload_n 2, 1, 0, 0, 0, []),
  (18, .lmul, 1, 0, 0, 0, []),
  (19, .ldc2_w 306, 3, 0, 0, 65521, [675]),
  (22, .lrem, 1, 0, 0, 0, []),
  (23, .l2i, 1, 0, 0, 0, []),
  (24, .ireturn, 1, 0, 0, 0, [])]
def mi86 : minfo := (⟨"HeavyChains", "draw", "(II)I"⟩, prog_1_method_35_code, 4, (some .int), 1, 60, mt86)
def mt87 : List (Nat × ent) := [(0, .iconst 1, 1, 0, 0, 0, []),
  (1, .aload_n 0, 1, 0, 0, 0, []),
  (2, .getfield 26, 3, 9, 2, 0, [411]),
  (5, .getfield 111, 3, 7, 0, 0, [130]),
  (8, .invokestatic 308, 3, 9002, 2, 0, [680, 188, 42, 189]),
  (11, .istore_n 2, 1, 0, 0, 0, []),
  (12, .iload_n 1, 1, 0, 0, 0, []),
  (13, .bipush 64, 2, 0, 0, 0, []),
  (15, .idiv, 1, 0, 0, 0, []),
  (16, .bipush 41, 2, 0, 0, 0, []),
  (18, .irem, 1, 0, 0, 0, []),
  (19, .bipush 20, 2, 0, 0, 0, []),
  (21, .isub, 1, 0, 0, 0, []),
  (22, .istore_n 3, 1, 0, 0, 0, []),
  (23, .iload_n 1, 1, 0, 0, 0, []),
  (24, .iconst 4, 1, 0, 0, 0, []),
  (25, .irem, 1, 0, 0, 0, []),
  (26, .istore 4, 2, 0, 0, 0, []),
  (28, .aload_n 0, 1, 0, 0, 0, []),
  (29, .getfield 55, 3, 9, 7, 0, [416]),
  (32, .aload_n 0, 1, 0, 0, 0, []),
  (33, .getfield 26, 3, 9, 2, 0, [411]),
  (36, .iload_n 1, 1, 0, 0, 0, []),
  (37, .iconst 4, 1, 0, 0, 0, []),
  (38, .idiv, 1, 0, 0, 0, []),
  (39, .iload_n 2, 1, 0, 0, 0, []),
  (40, .irem, 1, 0, 0, 0, []),
  (41, .iload_n 1, 1, 0, 0, 0, []),
  (42, .sipush 256, 3, 0, 0, 0, []),
  (45, .idiv, 1, 0, 0, 0, []),
  (46, .iload_n 2, 1, 0, 0, 0, []),
  (47, .irem, 1, 0, 0, 0, []),
  (48, .invokevirtual 154, 3, 23, 4, 4, [483, 484, 485, 43]),
  (51, .aload_n 0, 1, 0, 0, 0, []),
  (52, .getfield 55, 3, 9, 7, 0, [416]),
  (55, .aload_n 0, 1, 0, 0, 0, []),
  (56, .getfield 37, 3, 9, 4, 0, [413]),
  (59, .getfield 137, 3, 0, 0, 0, [92]),
  (62, .iload_n 3, 1, 0, 0, 0, []),
  (63, .iload 4, 2, 0, 0, 0, []),
  (65, .invokevirtual 294, 3, 31, 4, 4, [495, 496, 497, 43]),
  (68, .ifCond .eq 20, 3, 88, 0, 0, []),
  (71, .aload_n 0, 1, 0, 0, 0, []),
  (72, .getfield 55, 3, 9, 7, 0, [416]),
  (75, .aload_n 0, 1, 0, 0, 0, []),
  (76, .getfield 37, 3, 9, 4, 0, [413]),
  (79, .getfield 137, 3, 0, 0, 0, [92]),
  (82, .iload_n 3, 1, 0, 0, 0, []),
  (83, .iload 4, 2, 0, 0, 0, []),
  (85, .invokevirtual 298, 3, 32, 4, 4, [510, 511, 512, 43]),
  (88, .return_, 1, 0, 0, 0, [])]
def mi87 : minfo := (⟨"HeavyChains", "tryDraw", "(I)V"⟩, prog_1_method_36_code, 5, none, 3, 112, mt87)
def mt88 : List (Nat × ent) := [(0, .lload_n 0, 1, 0, 0, 0, []),
  (1, .lload_n 2, 1, 0, 0, 0, []),
  (2, .lcmp, 1, 0, 0, 0, []),
  (3, .ifCond .lt 14, 3, 17, 0, 0, []),
  (6, .lload_n 0, 1, 0, 0, 0, []),
  (7, .lload 4, 2, 0, 0, 0, []),
  (9, .lcmp, 1, 0, 0, 0, []),
  (10, .ifCond .gt 7, 3, 17, 0, 0, []),
  (13, .iconst 1, 1, 0, 0, 0, []),
  (14, .goto 4, 3, 18, 0, 0, []),
  (17, .iconst 0, 1, 0, 0, 0, []),
  (18, .ireturn, 1, 0, 0, 0, [])]
def mi88 : minfo := (⟨"HeavyChainsModel", "in", "(JJJ)Z"⟩, prog_12_method_2_code, 6, (some .boolean), 1, 60, mt88)
def mt89 : List (Nat × ent) := [(0, .aload_n 0, 1, 0, 0, 0, []),
  (1, .invokespecial 1, 3, 9000, 1, 0, [702, 59, 60]),
  (4, .aload_n 0, 1, 0, 0, 0, []),
  (5, .bipush 90, 2, 0, 0, 0, []),
  (7, .newarray .int, 2, 0, 0, 0, [108]),
  (9, .putfield 7, 3, 10, 0, 0, [764]),
  (12, .aload_n 0, 1, 0, 0, 0, []),
  (13, .bipush 30, 2, 0, 0, 0, []),
  (15, .newarray .int, 2, 0, 0, 0, [108]),
  (17, .putfield 13, 3, 10, 2, 0, [766]),
  (20, .aload_n 0, 1, 0, 0, 0, []),
  (21, .bipush 30, 2, 0, 0, 0, []),
  (23, .newarray .int, 2, 0, 0, 0, [108]),
  (25, .putfield 16, 3, 10, 3, 0, [767]),
  (28, .aload_n 0, 1, 0, 0, 0, []),
  (29, .bipush 30, 2, 0, 0, 0, []),
  (31, .newarray .int, 2, 0, 0, 0, [108]),
  (33, .putfield 19, 3, 10, 4, 0, [768]),
  (36, .aload_n 0, 1, 0, 0, 0, []),
  (37, .bipush 30, 2, 0, 0, 0, []),
  (39, .newarray .int, 2, 0, 0, 0, [108]),
  (41, .putfield 22, 3, 10, 5, 0, [769]),
  (44, .aload_n 0, 1, 0, 0, 0, []),
  (45, .bipush 30, 2, 0, 0, 0, []),
  (47, .newarray .int, 2, 0, 0, 0, [108]),
  (49, .putfield 25, 3, 10, 6, 0, [770]),
  (52, .aload_n 0, 1, 0, 0, 0, []),
  (53, .bipush 30, 2, 0, 0, 0, []),
  (55, .newarray .int, 2, 0, 0, 0, [108]),
  (57, .putfield 28, 3, 10, 7, 0, [771]),
  (60, .aload_n 0, 1, 0, 0, 0, []),
  (61, .bipush 30, 2, 0, 0, 0, []),
  (63, .newarray .int, 2, 0, 0, 0, [108]),
  (65, .putfield 31, 3, 10, 8, 0, [772]),
  (68, .aload_n 0, 1, 0, 0, 0, []),
  (69, .sipush 200, 3, 0, 0, 0, []),
  (72, .newarray .int, 2, 0, 0, 0, [108]),
  (74, .putfield 34, 3, 10, 10, 0, [774]),
  (77, .aload_n 0, 1, 0, 0, 0, []),
  (78, .bipush 60, 2, 0, 0, 0, []),
  (80, .newarray .int, 2, 0, 0, 0, [108]),
  (82, .putfield 37, 3, 10, 13, 0, [777]),
  (85, .aload_n 0, 1, 0, 0, 0, []),
  (86, .sipush 720, 3, 0, 0, 0, []),
  (89, .newarray .int, 2, 0, 0, 0, [108]),
  (91, .putfield 40, 3, 10, 16, 0, [780]),
  (94, .aload_n 0, 1, 0, 0, 0, []),
  (95, .bipush 48, 2, 0, 0, 0, []),
  (97, .newarray .int, 2, 0, 0, 0, [108]),
  (99, .putfield 43, 3, 10, 19, 0, [783]),
  (102, .aload_n 0, 1, 0, 0, 0, []),
  (103, .bipush 30, 2, 0, 0, 0, []),
  (105, .newarray .int, 2, 0, 0, 0, [108]),
  (107, .putfield 46, 3, 10, 22, 0, [786]),
  (110, .aload_n 0, 1, 0, 0, 0, []),
  (111, .sipush 180, 3, 0, 0, 0, []),
  (114, .newarray .int, 2, 0, 0, 0, [108]),
  (116, .putfield 49, 3, 10, 23, 0, [787]),
  (119, .aload_n 0, 1, 0, 0, 0, []),
  (120, .ldc2_w 52, 3, 0, 0, 8084014318966944307, [703]),
  (123, .bipush 8, 2, 0, 0, 0, []),
  (125, .invokevirtual 54, 3, 90, 3, 10, [704, 706, 11, 52]),
  (128, .aload_n 0, 1, 0, 0, 0, []),
  (129, .ldc2_w 58, 3, 0, 0, 3689631397853936503, [718]),
  (132, .bipush 8, 2, 0, 0, 0, []),
  (134, .invokevirtual 54, 3, 90, 3, 10, [704, 706, 11, 52]),
  (137, .aload_n 0, 1, 0, 0, 0, []),
  (138, .ldc2_w 60, 3, 0, 0, 3832625071217785139, [719]),
  (141, .bipush 8, 2, 0, 0, 0, []),
  (143, .invokevirtual 54, 3, 90, 3, 10, [704, 706, 11, 52]),
  (146, .aload_n 0, 1, 0, 0, 0, []),
  (147, .ldc2_w 62, 3, 0, 0, 3905799769086977585, [720]),
  (150, .bipush 8, 2, 0, 0, 0, []),
  (152, .invokevirtual 54, 3, 90, 3, 10, [704, 706, 11, 52]),
  (155, .aload_n 0, 1, 0, 0, 0, []),
  (156, .ldc2_w 64, 3, 0, 0, 3616728262177273137, [721]),
  (159, .bipush 8, 2, 0, 0, 0, []),
  (161, .invokevirtual 54, 3, 90, 3, 10, [704, 706, 11, 52]),
  (164, .aload_n 0, 1, 0, 0, 0, []),
  (165, .ldc2_w 66, 3, 0, 0, 3616728262298252080, [722]),
  (168, .bipush 8, 2, 0, 0, 0, []),
  (170, .invokevirtual 54, 3, 90, 3, 10, [704, 706, 11, 52]),
  (173, .aload_n 0, 1, 0, 0, 0, []),
  (174, .ldc2_w 68, 3, 0, 0, 3616724976544397104, [723]),
  (177, .bipush 8, 2, 0, 0, 0, []),
  (179, .invokevirtual 54, 3, 90, 3, 10, [704, 706, 11, 52]),
  (182, .aload_n 0, 1, 0, 0, 0, []),
  (183, .ldc2_w 70, 3, 0, 0, 825373499, [724]),
  (186, .iconst 4, 1, 0, 0, 0, []),
  (187, .invokevirtual 54, 3, 90, 3, 10, [704, 706, 11, 52]),
  (190, .aload_n 0, 1, 0, 0, 0, []),
  (191, .aload_n 0, 1, 0, 0, 0, []),
  (192, .invokevirtual 72, 3, 100, 1, 10, [725, 726, 727, 52]),
  (195, .putfield 76, 3, 10, 9, 0, [773]),
  (198, .aload_n 0, 1, 0, 0, 0, []),
  (199, .iconst 0, 1, 0, 0, 0, []),
  (200, .putfield 80, 3, 10, 11, 0, [775]),
  (203, .return_, 1, 0, 0, 0, [])]
def mi89 : minfo := (⟨"HeavyChainsModel", "<init>", "()V"⟩, prog_12_method_3_code, 1, none, 6, 179, mt89)
def mt90 : List (Nat × ent) := [(0, .iload_n 3, 1, 0, 0, 0, []),
  (1, .iconst 1, 1, 0, 0, 0, []),
  (2, .isub, 1, 0, 0, 0, []),
  (3, .istore 4, 2, 0, 0, 0, []),
  (5, .iload 4, 2, 0, 0, 0, []),
  (7, .ifCond .lt 29, 3, 36, 0, 0, []),
  (10, .aload_n 0, 1, 0, 0, 0, []),
  (11, .aload_n 0, 1, 0, 0, 0, []),
  (12, .lload_n 1, 1, 0, 0, 0, []),
  (13, .bipush 8, 2, 0, 0, 0, []),
  (15, .iload 4, 2, 0, 0, 0, []),
  (17, .imul, 1, 0, 0, 0, []),
  (18, .lshr, 1, 0, 0, 0, []),
  (19, .ldc2_w 83, 3, 0, 0, 255, [708]),
  (22, .land, 1, 0, 0, 0, []),
  (23, .l2i, 1, 0, 0, 0, []),
  (24, .invokevirtual 85, 3, 92, 2, 10, [709, 710, 711, 52]),
  (27, .putfield 80, 3, 10, 11, 0, [775]),
  (30, .iinc 4 (-1), 3, 0, 0, 0, []),
  (33, .goto (-28), 3, 5, 0, 0, []),
  (36, .return_, 1, 0, 0, 0, [])]
def mi90 : minfo := (⟨"HeavyChainsModel", "says", "(JI)V"⟩, prog_12_method_4_code, 5, none, 3, 106, mt90)
def mt91 : List (Nat × ent) := [(0, .iload_n 1, 1, 0, 0, 0, []),
  (1, .i2l, 1, 0, 0, 0, []),
  (2, .lconst 0, 1, 0, 0, 0, []),
  (3, .aload_n 0, 1, 0, 0, 0, []),
  (4, .getfield 89, 3, 10, 1, 0, [765]),
  (7, .iconst 1, 1, 0, 0, 0, []),
  (8, .isub, 1, 0, 0, 0, []),
  (9, .i2l, 1, 0, 0, 0, []),
  (10, .invokestatic 92, 3, 88, 3, 0, [715, 716, 52]),
  (13, .ireturn, 1, 0, 0, 0, [])]
def mi91 : minfo := (⟨"HeavyChainsModel", "isPost", "(I)Z"⟩, prog_12_method_5_code, 2, (some .boolean), 2, 85, mt91)
def mt92 : List (Nat × ent) := [(0, .iload_n 1, 1, 0, 0, 0, []),
  (1, .i2l, 1, 0, 0, 0, []),
  (2, .ldc2_w 96, 3, 0, 0, 32, [713]),
  (5, .ldc2_w 98, 3, 0, 0, 126, [714]),
  (8, .invokestatic 92, 3, 88, 3, 0, [715, 716, 52]),
  (11, .ifCond .ne 5, 3, 16, 0, 0, []),
  (14, .iconst (-1), 1, 0, 0, 0, []),
  (15, .ireturn, 1, 0, 0, 0, []),
  (16, .aload_n 0, 1, 0, 0, 0, []),
  (17, .getfield 80, 3, 10, 11, 0, [775]),
  (20, .sipush 200, 3, 0, 0, 0, []),
  (23, .if_icmp .ne 6, 3, 29, 0, 0, []),
  (26, .bipush (-3), 2, 0, 0, 0, []),
  (28, .ireturn, 1, 0, 0, 0, []),
  (29, .aload_n 0, 1, 0, 0, 0, []),
  (30, .getfield 34, 3, 10, 10, 0, [774]),
  (33, .aload_n 0, 1, 0, 0, 0, []),
  (34, .getfield 80, 3, 10, 11, 0, [775]),
  (37, .iload_n 1, 1, 0, 0, 0, []),
  (38, .iastore, 1, 0, 0, 0, []),
  (39, .aload_n 0, 1, 0, 0, 0, []),
  (40, .dup, 1, 0, 0, 0, []),
  (41, .getfield 80, 3, 10, 11, 0, [775]),
  (44, .iconst 1, 1, 0, 0, 0, []),
  (45, .iadd, 1, 0, 0, 0, []),
  (46, .putfield 80, 3, 10, 11, 0, [775]),
  (49, .aload_n 0, 1, 0, 0, 0, []),
  (50, .getfield 80, 3, 10, 11, 0, [775]),
  (53, .ireturn, 1, 0, 0, 0, [])]
def mi92 : minfo := (⟨"HeavyChainsModel", "write", "(I)I"⟩, prog_12_method_6_code, 2, (some .int), 2, 85, mt92)
def mt93 : List (Nat × ent) := [(0, .aload_n 0, 1, 0, 0, 0, []),
  (1, .getfield 80, 3, 10, 11, 0, [775]),
  (4, .istore_n 1, 1, 0, 0, 0, []),
  (5, .aload_n 0, 1, 0, 0, 0, []),
  (6, .iconst 0, 1, 0, 0, 0, []),
  (7, .putfield 80, 3, 10, 11, 0, [775]),
  (10, .iload_n 1, 1, 0, 0, 0, []),
  (11, .ireturn, 1, 0, 0, 0, [])]
def mi93 : minfo := (⟨"HeavyChainsModel", "wipe", "()I"⟩, prog_12_method_7_code, 2, (some .int), 1, 60, mt93)
def mt94 : List (Nat × ent) := [(0, .iload_n 0, 1, 0, 0, 0, []),
  (1, .i2l, 1, 0, 0, 0, []),
  (2, .ldc2_w 100, 3, 0, 0, 48, [740]),
  (5, .ldc2_w 102, 3, 0, 0, 57, [741]),
  (8, .invokestatic 92, 3, 88, 3, 0, [715, 716, 52]),
  (11, .ifCond .eq 10, 3, 21, 0, 0, []),
  (14, .iload_n 0, 1, 0, 0, 0, []),
  (15, .bipush 48, 2, 0, 0, 0, []),
  (17, .isub, 1, 0, 0, 0, []),
  (18, .goto 26, 3, 44, 0, 0, []),
  (21, .iload_n 0, 1, 0, 0, 0, []),
  (22, .i2l, 1, 0, 0, 0, []),
  (23, .ldc2_w 104, 3, 0, 0, 97, [742]),
  (26, .ldc2_w 106, 3, 0, 0, 115, [743]),
  (29, .invokestatic 92, 3, 88, 3, 0, [715, 716, 52]),
  (32, .ifCond .eq 10, 3, 42, 0, 0, []),
  (35, .iload_n 0, 1, 0, 0, 0, []),
  (36, .bipush 87, 2, 0, 0, 0, []),
  (38, .isub, 1, 0, 0, 0, []),
  (39, .goto 5, 3, 44, 0, 0, []),
  (42, .bipush (-4), 2, 0, 0, 0, []),
  (44, .ireturn, 1, 0, 0, 0, [])]
def mi94 : minfo := (⟨"HeavyChainsModel", "worth", "(I)I"⟩, prog_12_method_8_code, 1, (some .int), 2, 85, mt94)
def mt95 : List (Nat × ent) := [(0, .iload_n 1, 1, 0, 0, 0, []),
  (1, .istore_n 2, 1, 0, 0, 0, []),
  (2, .iload_n 2, 1, 0, 0, 0, []),
  (3, .aload_n 0, 1, 0, 0, 0, []),
  (4, .getfield 80, 3, 10, 11, 0, [775]),
  (7, .if_icmp .ge 23, 3, 30, 0, 0, []),
  (10, .aload_n 0, 1, 0, 0, 0, []),
  (11, .getfield 34, 3, 10, 10, 0, [774]),
  (14, .iload_n 2, 1, 0, 0, 0, []),
  (15, .iaload, 1, 0, 0, 0, []),
  (16, .invokestatic 108, 3, 94, 1, 0, [737, 738, 52]),
  (19, .bipush (-4), 2, 0, 0, 0, []),
  (21, .if_icmp .eq 9, 3, 30, 0, 0, []),
  (24, .iinc 2 1, 3, 0, 0, 0, []),
  (27, .goto (-25), 3, 2, 0, 0, []),
  (30, .iload_n 2, 1, 0, 0, 0, []),
  (31, .aload_n 0, 1, 0, 0, 0, []),
  (32, .getfield 80, 3, 10, 11, 0, [775]),
  (35, .if_icmp .ge 20, 3, 55, 0, 0, []),
  (38, .aload_n 0, 1, 0, 0, 0, []),
  (39, .getfield 34, 3, 10, 10, 0, [774]),
  (42, .iload_n 2, 1, 0, 0, 0, []),
  (43, .iaload, 1, 0, 0, 0, []),
  (44, .bipush 59, 2, 0, 0, 0, []),
  (46, .if_icmp .ne 9, 3, 55, 0, 0, []),
  (49, .iload_n 2, 1, 0, 0, 0, []),
  (50, .iload_n 1, 1, 0, 0, 0, []),
  (51, .isub, 1, 0, 0, 0, []),
  (52, .goto 5, 3, 57, 0, 0, []),
  (55, .bipush (-4), 2, 0, 0, 0, []),
  (57, .ireturn, 1, 0, 0, 0, [])]
def mi95 : minfo := (⟨"HeavyChainsModel", "signsFrom", "(I)I"⟩, prog_12_method_9_code, 3, (some .int), 3, 105, mt95)
def mt96 : List (Nat × ent) := [(0, .iload_n 2, 1, 0, 0, 0, []),
  (1, .bipush 29, 2, 0, 0, 0, []),
  (3, .if_icmp .gt 7, 3, 10, 0, 0, []),
  (6, .iconst 1, 1, 0, 0, 0, []),
  (7, .goto 4, 3, 11, 0, 0, []),
  (10, .iconst 0, 1, 0, 0, 0, []),
  (11, .istore_n 3, 1, 0, 0, 0, []),
  (12, .iconst 0, 1, 0, 0, 0, []),
  (13, .istore 4, 2, 0, 0, 0, []),
  (15, .iload 4, 2, 0, 0, 0, []),
  (17, .iload_n 2, 1, 0, 0, 0, []),
  (18, .if_icmp .ge 36, 3, 54, 0, 0, []),
  (21, .iload_n 3, 1, 0, 0, 0, []),
  (22, .ifCond .eq 24, 3, 46, 0, 0, []),
  (25, .aload_n 0, 1, 0, 0, 0, []),
  (26, .getfield 34, 3, 10, 10, 0, [774]),
  (29, .iload_n 1, 1, 0, 0, 0, []),
  (30, .iload 4, 2, 0, 0, 0, []),
  (32, .iadd, 1, 0, 0, 0, []),
  (33, .iaload, 1, 0, 0, 0, []),
  (34, .invokestatic 108, 3, 94, 1, 0, [737, 738, 52]),
  (37, .iload 4, 2, 0, 0, 0, []),
  (39, .if_icmp .gt 7, 3, 46, 0, 0, []),
  (42, .iconst 1, 1, 0, 0, 0, []),
  (43, .goto 4, 3, 47, 0, 0, []),
  (46, .iconst 0, 1, 0, 0, 0, []),
  (47, .istore_n 3, 1, 0, 0, 0, []),
  (48, .iinc 4 1, 3, 0, 0, 0, []),
  (51, .goto (-36), 3, 15, 0, 0, []),
  (54, .iload_n 3, 1, 0, 0, 0, []),
  (55, .ireturn, 1, 0, 0, 0, [])]
def mi96 : minfo := (⟨"HeavyChainsModel", "isUppe\x72", "(II)Z"⟩, prog_12_method_10_code, 5, (some .boolean), 3, 105, mt96)
def mt97 : List (Nat × ent) := [(0, .iconst 1, 1, 0, 0, 0, []),
  (1, .istore_n 3, 1, 0, 0, 0, []),
  (2, .iconst 0, 1, 0, 0, 0, []),
  (3, .istore 4, 2, 0, 0, 0, []),
  (5, .iload 4, 2, 0, 0, 0, []),
  (7, .iload_n 2, 1, 0, 0, 0, []),
  (8, .if_icmp .ge 36, 3, 44, 0, 0, []),
  (11, .iload_n 3, 1, 0, 0, 0, []),
  (12, .ifCond .eq 24, 3, 36, 0, 0, []),
  (15, .aload_n 0, 1, 0, 0, 0, []),
  (16, .getfield 34, 3, 10, 10, 0, [774]),
  (19, .iload_n 1, 1, 0, 0, 0, []),
  (20, .iload 4, 2, 0, 0, 0, []),
  (22, .iadd, 1, 0, 0, 0, []),
  (23, .iaload, 1, 0, 0, 0, []),
  (24, .invokestatic 108, 3, 94, 1, 0, [737, 738, 52]),
  (27, .bipush 10, 2, 0, 0, 0, []),
  (29, .if_icmp .ge 7, 3, 36, 0, 0, []),
  (32, .iconst 1, 1, 0, 0, 0, []),
  (33, .goto 4, 3, 37, 0, 0, []),
  (36, .iconst 0, 1, 0, 0, 0, []),
  (37, .istore_n 3, 1, 0, 0, 0, []),
  (38, .iinc 4 1, 3, 0, 0, 0, []),
  (41, .goto (-36), 3, 5, 0, 0, []),
  (44, .iload_n 3, 1, 0, 0, 0, []),
  (45, .ireturn, 1, 0, 0, 0, [])]
def mi97 : minfo := (⟨"HeavyChainsModel", "areFigures", "(II)Z"⟩, prog_12_method_11_code, 5, (some .boolean), 3, 105, mt97)
def mt98 : List (Nat × ent) := [(0, .aload_n 0, 1, 0, 0, 0, []),
  (1, .iconst 0, 1, 0, 0, 0, []),
  (2, .putfield 111, 3, 10, 12, 0, [776]),
  (5, .iconst 0, 1, 0, 0, 0, []),
  (6, .istore_n 1, 1, 0, 0, 0, []),
  (7, .iload_n 1, 1, 0, 0, 0, []),
  (8, .aload_n 0, 1, 0, 0, 0, []),
  (9, .getfield 80, 3, 10, 11, 0, [775]),
  (12, .if_icmp .ge 158, 3, 170, 0, 0, []),
  (15, .aload_n 0, 1, 0, 0, 0, []),
  (16, .getfield 34, 3, 10, 10, 0, [774]),
  (19, .iload_n 1, 1, 0, 0, 0, []),
  (20, .iaload, 1, 0, 0, 0, []),
  (21, .istore_n 2, 1, 0, 0, 0, []),
  (22, .aload_n 0, 1, 0, 0, 0, []),
  (23, .iload_n 1, 1, 0, 0, 0, []),
  (24, .iconst 1, 1, 0, 0, 0, []),
  (25, .iadd, 1, 0, 0, 0, []),
  (26, .invokevirtual 114, 3, 95, 2, 10, [733, 735, 12, 52]),
  (29, .istore_n 3, 1, 0, 0, 0, []),
  (30, .iload_n 2, 1, 0, 0, 0, []),
  (31, .bipush 112, 2, 0, 0, 0, []),
  (33, .if_icmp .ne 7, 3, 40, 0, 0, []),
  (36, .iconst 1, 1, 0, 0, 0, []),
  (37, .goto 4, 3, 41, 0, 0, []),
  (40, .iconst 0, 1, 0, 0, 0, []),
  (41, .istore 4, 2, 0, 0, 0, []),
  (43, .iload_n 2, 1, 0, 0, 0, []),
  (44, .bipush 119, 2, 0, 0, 0, []),
  (46, .if_icmp .eq 15, 3, 61, 0, 0, []),
  (49, .iload_n 2, 1, 0, 0, 0, []),
  (50, .bipush 102, 2, 0, 0, 0, []),
  (52, .if_icmp .eq 9, 3, 61, 0, 0, []),
  (55, .iload_n 2, 1, 0, 0, 0, []),
  (56, .bipush 103, 2, 0, 0, 0, []),
  (58, .if_icmp .ne 7, 3, 65, 0, 0, []),
  (61, .iconst 1, 1, 0, 0, 0, []),
  (62, .goto 4, 3, 66, 0, 0, []),
  (65, .iconst 0, 1, 0, 0, 0, []),
  (66, .istore 5, 2, 0, 0, 0, []),
  (68, .iload_n 3, 1, 0, 0, 0, []),
  (69, .bipush (-4), 2, 0, 0, 0, []),
  (71, .if_icmp .eq 61, 3, 132, 0, 0, []),
  (74, .iload 4, 2, 0, 0, 0, []),
  (76, .ifCond .eq 21, 3, 97, 0, 0, []),
  (79, .aload_n 0, 1, 0, 0, 0, []),
  (80, .getfield 111, 3, 10, 12, 0, [776]),
  (83, .ifCond .ne 14, 3, 97, 0, 0, []),
  (86, .aload_n 0, 1, 0, 0, 0, []),
  (87, .iload_n 1, 1, 0, 0, 0, []),
  (88, .iconst 1, 1, 0, 0, 0, []),
  (89, .iadd, 1, 0, 0, 0, []),
  (90, .iload_n 3, 1, 0, 0, 0, []),
  (91, .invokevirtual 117, 3, 96, 3, 10, [744, 746, 13, 52]),
  (94, .ifCond .ne 34, 3, 128, 0, 0, []),
  (97, .iload 5, 2, 0, 0, 0, []),
  (99, .ifCond .eq 33, 3, 132, 0, 0, []),
  (102, .aload_n 0, 1, 0, 0, 0, []),
  (103, .getfield 111, 3, 10, 12, 0, [776]),
  (106, .ifCond .le 26, 3, 132, 0, 0, []),
  (109, .iload_n 3, 1, 0, 0, 0, []),
  (110, .aload_n 0, 1, 0, 0, 0, []),
  (111, .getfield 111, 3, 10, 12, 0, [776]),
  (114, .if_icmp .gt 18, 3, 132, 0, 0, []),
  (117, .aload_n 0, 1, 0, 0, 0, []),
  (118, .iload_n 1, 1, 0, 0, 0, []),
  (119, .iconst 1, 1, 0, 0, 0, []),
  (120, .iadd, 1, 0, 0, 0, []),
  (121, .iload_n 3, 1, 0, 0, 0, []),
  (122, .invokevirtual 121, 3, 97, 3, 10, [748, 750, 14, 52]),
  (125, .ifCond .eq 7, 3, 132, 0, 0, []),
  (128, .iconst 1, 1, 0, 0, 0, []),
  (129, .goto 4, 3, 133, 0, 0, []),
  (132, .iconst 0, 1, 0, 0, 0, []),
  (133, .istore 6, 2, 0, 0, 0, []),
  (135, .iload 6, 2, 0, 0, 0, []),
  (137, .ifCond .ne 5, 3, 142, 0, 0, []),
  (140, .iload_n 1, 1, 0, 0, 0, []),
  (141, .ireturn, 1, 0, 0, 0, []),
  (142, .aload_n 0, 1, 0, 0, 0, []),
  (143, .iload 4, 2, 0, 0, 0, []),
  (145, .ifCond .eq 9, 3, 154, 0, 0, []),
  (148, .iload_n 3, 1, 0, 0, 0, []),
  (149, .iconst 1, 1, 0, 0, 0, []),
  (150, .iadd, 1, 0, 0, 0, []),
  (151, .goto 7, 3, 158, 0, 0, []),
  (154, .aload_n 0, 1, 0, 0, 0, []),
  (155, .getfield 111, 3, 10, 12, 0, [776]),
  (158, .putfield 111, 3, 10, 12, 0, [776]),
  (161, .iload_n 1, 1, 0, 0, 0, []),
  (162, .iload_n 3, 1, 0, 0, 0, []),
  (163, .iconst 2, 1, 0, 0, 0, []),
  (164, .iadd, 1, 0, 0, 0, []),
  (165, .iadd, 1, 0, 0, 0, []),
  (166, .istore_n 1, 1, 0, 0, 0, []),
  (167, .goto (-160), 3, 7, 0, 0, []),
  (170, .bipush (-4), 2, 0, 0, 0, []),
  (172, .ireturn, 1, 0, 0, 0, [])]
def mi98 : minfo := (⟨"HeavyChainsModel", "fault", "()I"⟩, prog_12_method_12_code, 7, (some .int), 4, 129, mt98)
def mt99 : List (Nat × ent) := [(0, .iconst 0, 1, 0, 0, 0, []),
  (1, .istore 5, 2, 0, 0, 0, []),
  (3, .iload 5, 2, 0, 0, 0, []),
  (5, .bipush 30, 2, 0, 0, 0, []),
  (7, .if_icmp .ge 41, 3, 48, 0, 0, []),
  (10, .aload_n 0, 1, 0, 0, 0, []),
  (11, .getfield 7, 3, 10, 0, 0, [764]),
  (14, .iload_n 1, 1, 0, 0, 0, []),
  (15, .iload 5, 2, 0, 0, 0, []),
  (17, .iadd, 1, 0, 0, 0, []),
  (18, .iload 5, 2, 0, 0, 0, []),
  (20, .iload_n 3, 1, 0, 0, 0, []),
  (21, .if_icmp .ge 18, 3, 39, 0, 0, []),
  (24, .aload_n 0, 1, 0, 0, 0, []),
  (25, .getfield 34, 3, 10, 10, 0, [774]),
  (28, .iload_n 2, 1, 0, 0, 0, []),
  (29, .iload 5, 2, 0, 0, 0, []),
  (31, .iadd, 1, 0, 0, 0, []),
  (32, .iaload, 1, 0, 0, 0, []),
  (33, .invokestatic 108, 3, 94, 1, 0, [737, 738, 52]),
  (36, .goto 5, 3, 41, 0, 0, []),
  (39, .iload 4, 2, 0, 0, 0, []),
  (41, .iastore, 1, 0, 0, 0, []),
  (42, .iinc 5 1, 3, 0, 0, 0, []),
  (45, .goto (-42), 3, 3, 0, 0, []),
  (48, .return_, 1, 0, 0, 0, [])]
def mi99 : minfo := (⟨"HeavyChainsModel", "reads", "(IIII)V"⟩, prog_12_method_13_code, 6, none, 3, 105, mt99)
def mt100 : List (Nat × ent) := [(0, .aload_n 0, 1, 0, 0, 0, []),
  (1, .invokevirtual 124, 3, 98, 1, 10, [729, 730, 731, 52]),
  (4, .bipush (-4), 2, 0, 0, 0, []),
  (6, .if_icmp .ne 10, 3, 16, 0, 0, []),
  (9, .aload_n 0, 1, 0, 0, 0, []),
  (10, .getfield 111, 3, 10, 12, 0, [776]),
  (13, .ifCond .ne 6, 3, 19, 0, 0, []),
  (16, .bipush (-2), 2, 0, 0, 0, []),
  (18, .ireturn, 1, 0, 0, 0, []),
  (19, .aload_n 0, 1, 0, 0, 0, []),
  (20, .aload_n 0, 1, 0, 0, 0, []),
  (21, .getfield 111, 3, 10, 12, 0, [776]),
  (24, .putfield 89, 3, 10, 1, 0, [765]),
  (27, .aload_n 0, 1, 0, 0, 0, []),
  (28, .iconst 0, 1, 0, 0, 0, []),
  (29, .iconst 0, 1, 0, 0, 0, []),
  (30, .iconst 0, 1, 0, 0, 0, []),
  (31, .iconst 0, 1, 0, 0, 0, []),
  (32, .invokevirtual 127, 3, 99, 5, 10, [752, 754, 15, 52]),
  (35, .aload_n 0, 1, 0, 0, 0, []),
  (36, .bipush 30, 2, 0, 0, 0, []),
  (38, .iconst 0, 1, 0, 0, 0, []),
  (39, .iconst 0, 1, 0, 0, 0, []),
  (40, .iconst 1, 1, 0, 0, 0, []),
  (41, .invokevirtual 127, 3, 99, 5, 10, [752, 754, 15, 52]),
  (44, .aload_n 0, 1, 0, 0, 0, []),
  (45, .bipush 60, 2, 0, 0, 0, []),
  (47, .iconst 0, 1, 0, 0, 0, []),
  (48, .iconst 0, 1, 0, 0, 0, []),
  (49, .iconst 0, 1, 0, 0, 0, []),
  (50, .invokevirtual 127, 3, 99, 5, 10, [752, 754, 15, 52]),
  (53, .iconst 0, 1, 0, 0, 0, []),
  (54, .istore_n 1, 1, 0, 0, 0, []),
  (55, .iload_n 1, 1, 0, 0, 0, []),
  (56, .aload_n 0, 1, 0, 0, 0, []),
  (57, .getfield 80, 3, 10, 11, 0, [775]),
  (60, .if_icmp .ge 124, 3, 184, 0, 0, []),
  (63, .aload_n 0, 1, 0, 0, 0, []),
  (64, .getfield 34, 3, 10, 10, 0, [774]),
  (67, .iload_n 1, 1, 0, 0, 0, []),
  (68, .iaload, 1, 0, 0, 0, []),
  (69, .istore_n 2, 1, 0, 0, 0, []),
  (70, .aload_n 0, 1, 0, 0, 0, []),
  (71, .iload_n 1, 1, 0, 0, 0, []),
  (72, .iconst 1, 1, 0, 0, 0, []),
  (73, .iadd, 1, 0, 0, 0, []),
  (74, .invokevirtual 114, 3, 95, 2, 10, [733, 735, 12, 52]),
  (77, .istore_n 3, 1, 0, 0, 0, []),
  (78, .iload_n 2, 1, 0, 0, 0, []),
  (79, .bipush 112, 2, 0, 0, 0, []),
  (81, .if_icmp .ne 52, 3, 133, 0, 0, []),
  (84, .aload_n 0, 1, 0, 0, 0, []),
  (85, .getfield 13, 3, 10, 2, 0, [766]),
  (88, .iconst 0, 1, 0, 0, 0, []),
  (89, .bipush (-4), 2, 0, 0, 0, []),
  (91, .iastore, 1, 0, 0, 0, []),
  (92, .iconst 0, 1, 0, 0, 0, []),
  (93, .istore 4, 2, 0, 0, 0, []),
  (95, .iload 4, 2, 0, 0, 0, []),
  (97, .iload_n 3, 1, 0, 0, 0, []),
  (98, .if_icmp .ge 32, 3, 130, 0, 0, []),
  (101, .aload_n 0, 1, 0, 0, 0, []),
  (102, .getfield 13, 3, 10, 2, 0, [766]),
  (105, .iconst 1, 1, 0, 0, 0, []),
  (106, .iload 4, 2, 0, 0, 0, []),
  (108, .iadd, 1, 0, 0, 0, []),
  (109, .aload_n 0, 1, 0, 0, 0, []),
  (110, .getfield 34, 3, 10, 10, 0, [774]),
  (113, .iload_n 1, 1, 0, 0, 0, []),
  (114, .iconst 1, 1, 0, 0, 0, []),
  (115, .iadd, 1, 0, 0, 0, []),
  (116, .iload 4, 2, 0, 0, 0, []),
  (118, .iadd, 1, 0, 0, 0, []),
  (119, .iaload, 1, 0, 0, 0, []),
  (120, .invokestatic 108, 3, 94, 1, 0, [737, 738, 52]),
  (123, .iastore, 1, 0, 0, 0, []),
  (124, .iinc 4 1, 3, 0, 0, 0, []),
  (127, .goto (-32), 3, 95, 0, 0, []),
  (130, .goto 45, 3, 175, 0, 0, []),
  (133, .aload_n 0, 1, 0, 0, 0, []),
  (134, .iload_n 2, 1, 0, 0, 0, []),
  (135, .bipush 119, 2, 0, 0, 0, []),
  (137, .if_icmp .ne 7, 3, 144, 0, 0, []),
  (140, .iconst 0, 1, 0, 0, 0, []),
  (141, .goto 16, 3, 157, 0, 0, []),
  (144, .iload_n 2, 1, 0, 0, 0, []),
  (145, .bipush 102, 2, 0, 0, 0, []),
  (147, .if_icmp .ne 8, 3, 155, 0, 0, []),
  (150, .bipush 30, 2, 0, 0, 0, []),
  (152, .goto 5, 3, 157, 0, 0, []),
  (155, .bipush 60, 2, 0, 0, 0, []),
  (157, .iload_n 1, 1, 0, 0, 0, []),
  (158, .iconst 1, 1, 0, 0, 0, []),
  (159, .iadd, 1, 0, 0, 0, []),
  (160, .iload_n 3, 1, 0, 0, 0, []),
  (161, .iload_n 2, 1, 0, 0, 0, []),
  (162, .bipush 102, 2, 0, 0, 0, []),
  (164, .if_icmp .ne 7, 3, 171, 0, 0, []),
  (167, .iconst 1, 1, 0, 0, 0, []),
  (168, .goto 4, 3, 172, 0, 0, []),
  (171, .iconst 0, 1, 0, 0, 0, []),
  (172, .invokevirtual 127, 3, 99, 5, 10, [752, 754, 15, 52]),
  (175, .iload_n 1, 1, 0, 0, 0, []),
  (176, .iload_n 3, 1, 0, 0, 0, []),
  (177, .iconst 2, 1, 0, 0, 0, []),
  (178, .iadd, 1, 0, 0, 0, []),
  (179, .iadd, 1, 0, 0, 0, []),
  (180, .istore_n 1, 1, 0, 0, 0, []),
  (181, .goto (-126), 3, 55, 0, 0, []),
  (184, .aload_n 0, 1, 0, 0, 0, []),
  (185, .invokevirtual 131, 3, 101, 1, 10, [756, 758, 16, 52]),
  (188, .aload_n 0, 1, 0, 0, 0, []),
  (189, .lconst 0, 1, 0, 0, 0, []),
  (190, .putfield 134, 3, 10, 18, 0, [782]),
  (193, .aload_n 0, 1, 0, 0, 0, []),
  (194, .iconst 0, 1, 0, 0, 0, []),
  (195, .putfield 138, 3, 10, 20, 0, [784]),
  (198, .aload_n 0, 1, 0, 0, 0, []),
  (199, .iconst 0, 1, 0, 0, 0, []),
  (200, .putfield 141, 3, 10, 21, 0, [785]),
  (203, .aload_n 0, 1, 0, 0, 0, []),
  (204, .iconst 0, 1, 0, 0, 0, []),
  (205, .putfield 144, 3, 10, 17, 0, [781]),
  (208, .aload_n 0, 1, 0, 0, 0, []),
  (209, .iconst 0, 1, 0, 0, 0, []),
  (210, .putfield 147, 3, 10, 24, 0, [788]),
  (213, .aload_n 0, 1, 0, 0, 0, []),
  (214, .getfield 89, 3, 10, 1, 0, [765]),
  (217, .ireturn, 1, 0, 0, 0, [])]
def mi100 : minfo := (⟨"HeavyChainsModel", "lay", "()I"⟩, prog_12_method_14_code, 5, (some .int), 5, 155, mt100)
def mt101 : List (Nat × ent) := [(0, .iconst 0, 1, 0, 0, 0, []),
  (1, .istore_n 1, 1, 0, 0, 0, []),
  (2, .iload_n 1, 1, 0, 0, 0, []),
  (3, .aload_n 0, 1, 0, 0, 0, []),
  (4, .getfield 89, 3, 10, 1, 0, [765]),
  (7, .if_icmp .ge 51, 3, 58, 0, 0, []),
  (10, .aload_n 0, 1, 0, 0, 0, []),
  (11, .getfield 19, 3, 10, 4, 0, [768]),
  (14, .iload_n 1, 1, 0, 0, 0, []),
  (15, .iconst 1, 1, 0, 0, 0, []),
  (16, .iastore, 1, 0, 0, 0, []),
  (17, .aload_n 0, 1, 0, 0, 0, []),
  (18, .getfield 16, 3, 10, 3, 0, [767]),
  (21, .iload_n 1, 1, 0, 0, 0, []),
  (22, .bipush (-4), 2, 0, 0, 0, []),
  (24, .iastore, 1, 0, 0, 0, []),
  (25, .aload_n 0, 1, 0, 0, 0, []),
  (26, .getfield 28, 3, 10, 7, 0, [771]),
  (29, .iload_n 1, 1, 0, 0, 0, []),
  (30, .iload_n 1, 1, 0, 0, 0, []),
  (31, .ifCond .ne 7, 3, 38, 0, 0, []),
  (34, .iconst 0, 1, 0, 0, 0, []),
  (35, .goto 16, 3, 51, 0, 0, []),
  (38, .aload_n 0, 1, 0, 0, 0, []),
  (39, .getfield 28, 3, 10, 7, 0, [771]),
  (42, .aload_n 0, 1, 0, 0, 0, []),
  (43, .getfield 13, 3, 10, 2, 0, [766]),
  (46, .iload_n 1, 1, 0, 0, 0, []),
  (47, .iaload, 1, 0, 0, 0, []),
  (48, .iaload, 1, 0, 0, 0, []),
  (49, .iconst 1, 1, 0, 0, 0, []),
  (50, .iadd, 1, 0, 0, 0, []),
  (51, .iastore, 1, 0, 0, 0, []),
  (52, .iinc 1 1, 3, 0, 0, 0, []),
  (55, .goto (-53), 3, 2, 0, 0, []),
  (58, .aload_n 0, 1, 0, 0, 0, []),
  (59, .getfield 89, 3, 10, 1, 0, [765]),
  (62, .iconst 1, 1, 0, 0, 0, []),
  (63, .isub, 1, 0, 0, 0, []),
  (64, .istore_n 1, 1, 0, 0, 0, []),
  (65, .iload_n 1, 1, 0, 0, 0, []),
  (66, .ifCond .le 29, 3, 95, 0, 0, []),
  (69, .aload_n 0, 1, 0, 0, 0, []),
  (70, .getfield 19, 3, 10, 4, 0, [768]),
  (73, .aload_n 0, 1, 0, 0, 0, []),
  (74, .getfield 13, 3, 10, 2, 0, [766]),
  (77, .iload_n 1, 1, 0, 0, 0, []),
  (78, .iaload, 1, 0, 0, 0, []),
  (79, .dup2, 1, 0, 0, 0, []),
  (80, .iaload, 1, 0, 0, 0, []),
  (81, .aload_n 0, 1, 0, 0, 0, []),
  (82, .getfield 19, 3, 10, 4, 0, [768]),
  (85, .iload_n 1, 1, 0, 0, 0, []),
  (86, .iaload, 1, 0, 0, 0, []),
  (87, .iadd, 1, 0, 0, 0, []),
  (88, .iastore, 1, 0, 0, 0, []),
  (89, .iinc 1 (-1), 3, 0, 0, 0, []),
  (92, .goto (-27), 3, 65, 0, 0, []),
  (95, .aload_n 0, 1, 0, 0, 0, []),
  (96, .getfield 89, 3, 10, 1, 0, [765]),
  (99, .iconst 1, 1, 0, 0, 0, []),
  (100, .isub, 1, 0, 0, 0, []),
  (101, .istore_n 1, 1, 0, 0, 0, []),
  (102, .iload_n 1, 1, 0, 0, 0, []),
  (103, .ifCond .le 63, 3, 166, 0, 0, []),
  (106, .aload_n 0, 1, 0, 0, 0, []),
  (107, .getfield 13, 3, 10, 2, 0, [766]),
  (110, .iload_n 1, 1, 0, 0, 0, []),
  (111, .iaload, 1, 0, 0, 0, []),
  (112, .istore_n 2, 1, 0, 0, 0, []),
  (113, .aload_n 0, 1, 0, 0, 0, []),
  (114, .getfield 16, 3, 10, 3, 0, [767]),
  (117, .iload_n 2, 1, 0, 0, 0, []),
  (118, .aload_n 0, 1, 0, 0, 0, []),
  (119, .getfield 16, 3, 10, 3, 0, [767]),
  (122, .iload_n 2, 1, 0, 0, 0, []),
  (123, .iaload, 1, 0, 0, 0, []),
  (124, .bipush (-4), 2, 0, 0, 0, []),
  (126, .if_icmp .eq 23, 3, 149, 0, 0, []),
  (129, .aload_n 0, 1, 0, 0, 0, []),
  (130, .getfield 19, 3, 10, 4, 0, [768]),
  (133, .iload_n 1, 1, 0, 0, 0, []),
  (134, .iaload, 1, 0, 0, 0, []),
  (135, .aload_n 0, 1, 0, 0, 0, []),
  (136, .getfield 19, 3, 10, 4, 0, [768]),
  (139, .aload_n 0, 1, 0, 0, 0, []),
  (140, .getfield 16, 3, 10, 3, 0, [767]),
  (143, .iload_n 2, 1, 0, 0, 0, []),
  (144, .iaload, 1, 0, 0, 0, []),
  (145, .iaload, 1, 0, 0, 0, []),
  (146, .if_icmp .lt 7, 3, 153, 0, 0, []),
  (149, .iload_n 1, 1, 0, 0, 0, []),
  (150, .goto 9, 3, 159, 0, 0, []),
  (153, .aload_n 0, 1, 0, 0, 0, []),
  (154, .getfield 16, 3, 10, 3, 0, [767]),
  (157, .iload_n 2, 1, 0, 0, 0, []),
  (158, .iaload, 1, 0, 0, 0, []),
  (159, .iastore, 1, 0, 0, 0, []),
  (160, .iinc 1 (-1), 3, 0, 0, 0, []),
  (163, .goto (-61), 3, 102, 0, 0, []),
  (166, .iconst 0, 1, 0, 0, 0, []),
  (167, .istore_n 1, 1, 0, 0, 0, []),
  (168, .iload_n 1, 1, 0, 0, 0, []),
  (169, .aload_n 0, 1, 0, 0, 0, []),
  (170, .getfield 89, 3, 10, 1, 0, [765]),
  (173, .if_icmp .ge 80, 3, 253, 0, 0, []),
  (176, .aload_n 0, 1, 0, 0, 0, []),
  (177, .getfield 25, 3, 10, 6, 0, [770]),
  (180, .iload_n 1, 1, 0, 0, 0, []),
  (181, .iload_n 1, 1, 0, 0, 0, []),
  (182, .ifCond .le 32, 3, 214, 0, 0, []),
  (185, .aload_n 0, 1, 0, 0, 0, []),
  (186, .getfield 16, 3, 10, 3, 0, [767]),
  (189, .aload_n 0, 1, 0, 0, 0, []),
  (190, .getfield 13, 3, 10, 2, 0, [766]),
  (193, .iload_n 1, 1, 0, 0, 0, []),
  (194, .iaload, 1, 0, 0, 0, []),
  (195, .iaload, 1, 0, 0, 0, []),
  (196, .iload_n 1, 1, 0, 0, 0, []),
  (197, .if_icmp .ne 17, 3, 214, 0, 0, []),
  (200, .aload_n 0, 1, 0, 0, 0, []),
  (201, .getfield 25, 3, 10, 6, 0, [770]),
  (204, .aload_n 0, 1, 0, 0, 0, []),
  (205, .getfield 13, 3, 10, 2, 0, [766]),
  (208, .iload_n 1, 1, 0, 0, 0, []),
  (209, .iaload, 1, 0, 0, 0, []),
  (210, .iaload, 1, 0, 0, 0, []),
  (211, .goto 4, 3, 215, 0, 0, []),
  (214, .iload_n 1, 1, 0, 0, 0, []),
  (215, .iastore, 1, 0, 0, 0, []),
  (216, .aload_n 0, 1, 0, 0, 0, []),
  (217, .getfield 22, 3, 10, 5, 0, [769]),
  (220, .iload_n 1, 1, 0, 0, 0, []),
  (221, .iload_n 1, 1, 0, 0, 0, []),
  (222, .ifCond .ne 7, 3, 229, 0, 0, []),
  (225, .iconst 0, 1, 0, 0, 0, []),
  (226, .goto 8, 3, 234, 0, 0, []),
  (229, .aload_n 0, 1, 0, 0, 0, []),
  (230, .iload_n 1, 1, 0, 0, 0, []),
  (231, .invokevirtual 150, 3, 102, 2, 10, [760, 762, 17, 52]),
  (234, .iastore, 1, 0, 0, 0, []),
  (235, .aload_n 0, 1, 0, 0, 0, []),
  (236, .getfield 31, 3, 10, 8, 0, [772]),
  (239, .aload_n 0, 1, 0, 0, 0, []),
  (240, .getfield 22, 3, 10, 5, 0, [769]),
  (243, .iload_n 1, 1, 0, 0, 0, []),
  (244, .iaload, 1, 0, 0, 0, []),
  (245, .iload_n 1, 1, 0, 0, 0, []),
  (246, .iastore, 1, 0, 0, 0, []),
  (247, .iinc 1 1, 3, 0, 0, 0, []),
  (250, .goto (-82), 3, 168, 0, 0, []),
  (253, .return_, 1, 0, 0, 0, [])]
def mi101 : minfo := (⟨"HeavyChainsModel", "ranks", "()V"⟩, prog_12_method_15_code, 3, none, 2, 84, mt101)
def mt102 : List (Nat × ent) := [(0, .aload_n 0, 1, 0, 0, 0, []),
  (1, .getfield 13, 3, 10, 2, 0, [766]),
  (4, .iload_n 1, 1, 0, 0, 0, []),
  (5, .iaload, 1, 0, 0, 0, []),
  (6, .istore_n 2, 1, 0, 0, 0, []),
  (7, .aload_n 0, 1, 0, 0, 0, []),
  (8, .getfield 22, 3, 10, 5, 0, [769]),
  (11, .iload_n 2, 1, 0, 0, 0, []),
  (12, .iaload, 1, 0, 0, 0, []),
  (13, .iconst 1, 1, 0, 0, 0, []),
  (14, .iadd, 1, 0, 0, 0, []),
  (15, .istore_n 3, 1, 0, 0, 0, []),
  (16, .aload_n 0, 1, 0, 0, 0, []),
  (17, .getfield 16, 3, 10, 3, 0, [767]),
  (20, .iload_n 2, 1, 0, 0, 0, []),
  (21, .iaload, 1, 0, 0, 0, []),
  (22, .iload_n 1, 1, 0, 0, 0, []),
  (23, .if_icmp .ne 5, 3, 28, 0, 0, []),
  (26, .iload_n 3, 1, 0, 0, 0, []),
  (27, .ireturn, 1, 0, 0, 0, []),
  (28, .iload_n 3, 1, 0, 0, 0, []),
  (29, .aload_n 0, 1, 0, 0, 0, []),
  (30, .getfield 19, 3, 10, 4, 0, [768]),
  (33, .aload_n 0, 1, 0, 0, 0, []),
  (34, .getfield 16, 3, 10, 3, 0, [767]),
  (37, .iload_n 2, 1, 0, 0, 0, []),
  (38, .iaload, 1, 0, 0, 0, []),
  (39, .iaload, 1, 0, 0, 0, []),
  (40, .iadd, 1, 0, 0, 0, []),
  (41, .istore_n 3, 1, 0, 0, 0, []),
  (42, .iconst 1, 1, 0, 0, 0, []),
  (43, .istore 4, 2, 0, 0, 0, []),
  (45, .iload 4, 2, 0, 0, 0, []),
  (47, .iload_n 1, 1, 0, 0, 0, []),
  (48, .if_icmp .ge 45, 3, 93, 0, 0, []),
  (51, .iload_n 3, 1, 0, 0, 0, []),
  (52, .aload_n 0, 1, 0, 0, 0, []),
  (53, .getfield 13, 3, 10, 2, 0, [766]),
  (56, .iload 4, 2, 0, 0, 0, []),
  (58, .iaload, 1, 0, 0, 0, []),
  (59, .iload_n 2, 1, 0, 0, 0, []),
  (60, .if_icmp .ne 24, 3, 84, 0, 0, []),
  (63, .iload 4, 2, 0, 0, 0, []),
  (65, .aload_n 0, 1, 0, 0, 0, []),
  (66, .getfield 16, 3, 10, 3, 0, [767]),
  (69, .iload_n 2, 1, 0, 0, 0, []),
  (70, .iaload, 1, 0, 0, 0, []),
  (71, .if_icmp .eq 13, 3, 84, 0, 0, []),
  (74, .aload_n 0, 1, 0, 0, 0, []),
  (75, .getfield 19, 3, 10, 4, 0, [768]),
  (78, .iload 4, 2, 0, 0, 0, []),
  (80, .iaload, 1, 0, 0, 0, []),
  (81, .goto 4, 3, 85, 0, 0, []),
  (84, .iconst 0, 1, 0, 0, 0, []),
  (85, .iadd, 1, 0, 0, 0, []),
  (86, .istore_n 3, 1, 0, 0, 0, []),
  (87, .iinc 4 1, 3, 0, 0, 0, []),
  (90, .goto (-45), 3, 45, 0, 0, []),
  (93, .iload_n 3, 1, 0, 0, 0, []),
  (94, .ireturn, 1, 0, 0, 0, [])]
def mi102 : minfo := (⟨"HeavyChainsModel", "placed", "(I)I"⟩, prog_12_method_16_code, 5, (some .int), 1, 60, mt102)
def mt103 : List (Nat × ent) := [(0, .aload_n 0, 1, 0, 0, 0, []),
  (1, .iload_n 1, 1, 0, 0, 0, []),
  (2, .invokevirtual 153, 3, 91, 2, 10, [851, 853, 18, 52]),
  (5, .ifCond .ne 5, 3, 10, 0, 0, []),
  (8, .iconst (-1), 1, 0, 0, 0, []),
  (9, .ireturn, 1, 0, 0, 0, []),
  (10, .iload_n 2, 1, 0, 0, 0, []),
  (11, .tableswitch 121 0 8 #[49, 56, 63, 70, 77, 84, 91, 101, 111], 49, 0, 0, 0, []),
  (60, .aload_n 0, 1, 0, 0, 0, []),
  (61, .getfield 13, 3, 10, 2, 0, [766]),
  (64, .iload_n 1, 1, 0, 0, 0, []),
  (65, .iaload, 1, 0, 0, 0, []),
  (66, .ireturn, 1, 0, 0, 0, []),
  (67, .aload_n 0, 1, 0, 0, 0, []),
  (68, .getfield 16, 3, 10, 3, 0, [767]),
  (71, .iload_n 1, 1, 0, 0, 0, []),
  (72, .iaload, 1, 0, 0, 0, []),
  (73, .ireturn, 1, 0, 0, 0, []),
  (74, .aload_n 0, 1, 0, 0, 0, []),
  (75, .getfield 19, 3, 10, 4, 0, [768]),
  (78, .iload_n 1, 1, 0, 0, 0, []),
  (79, .iaload, 1, 0, 0, 0, []),
  (80, .ireturn, 1, 0, 0, 0, []),
  (81, .aload_n 0, 1, 0, 0, 0, []),
  (82, .getfield 22, 3, 10, 5, 0, [769]),
  (85, .iload_n 1, 1, 0, 0, 0, []),
  (86, .iaload, 1, 0, 0, 0, []),
  (87, .ireturn, 1, 0, 0, 0, []),
  (88, .aload_n 0, 1, 0, 0, 0, []),
  (89, .getfield 25, 3, 10, 6, 0, [770]),
  (92, .iload_n 1, 1, 0, 0, 0, []),
  (93, .iaload, 1, 0, 0, 0, []),
  (94, .ireturn, 1, 0, 0, 0, []),
  (95, .aload_n 0, 1, 0, 0, 0, []),
  (96, .getfield 28, 3, 10, 7, 0, [771]),
  (99, .iload_n 1, 1, 0, 0, 0, []),
  (100, .iaload, 1, 0, 0, 0, []),
  (101, .ireturn, 1, 0, 0, 0, []),
  (102, .aload_n 0, 1, 0, 0, 0, []),
  (103, .getfield 7, 3, 10, 0, 0, [764]),
  (106, .iload_n 1, 1, 0, 0, 0, []),
  (107, .iaload, 1, 0, 0, 0, []),
  (108, .ldc 157, 2, 0, 0, 1000000, [855]),
  (110, .iadd, 1, 0, 0, 0, []),
  (111, .ireturn, 1, 0, 0, 0, []),
  (112, .aload_n 0, 1, 0, 0, 0, []),
  (113, .getfield 7, 3, 10, 0, 0, [764]),
  (116, .bipush 30, 2, 0, 0, 0, []),
  (118, .iload_n 1, 1, 0, 0, 0, []),
  (119, .iadd, 1, 0, 0, 0, []),
  (120, .iaload, 1, 0, 0, 0, []),
  (121, .ireturn, 1, 0, 0, 0, []),
  (122, .aload_n 0, 1, 0, 0, 0, []),
  (123, .getfield 7, 3, 10, 0, 0, [764]),
  (126, .bipush 60, 2, 0, 0, 0, []),
  (128, .iload_n 1, 1, 0, 0, 0, []),
  (129, .iadd, 1, 0, 0, 0, []),
  (130, .iaload, 1, 0, 0, 0, []),
  (131, .ireturn, 1, 0, 0, 0, []),
  (132, .iconst (-1), 1, 0, 0, 0, []),
  (133, .ireturn, 1, 0, 0, 0, [])]
def mi103 : minfo := (⟨"HeavyChainsModel", "post", "(II)I"⟩, prog_12_method_17_code, 3, (some .int), 3, 106, mt103)
def mt104 : List (Nat × ent) := [(0, .aload_n 0, 1, 0, 0, 0, []),
  (1, .iload_n 1, 1, 0, 0, 0, []),
  (2, .invokevirtual 153, 3, 91, 2, 10, [851, 853, 18, 52]),
  (5, .ifCond .eq 12, 3, 17, 0, 0, []),
  (8, .aload_n 0, 1, 0, 0, 0, []),
  (9, .getfield 31, 3, 10, 8, 0, [772]),
  (12, .iload_n 1, 1, 0, 0, 0, []),
  (13, .iaload, 1, 0, 0, 0, []),
  (14, .goto 4, 3, 18, 0, 0, []),
  (17, .iconst (-1), 1, 0, 0, 0, []),
  (18, .ireturn, 1, 0, 0, 0, [])]
def mi104 : minfo := (⟨"HeavyChainsModel", "at", "(I)I"⟩, prog_12_method_18_code, 2, (some .int), 3, 106, mt104)
def mt105 : List (Nat × ent) := [(0, .iload_n 1, 1, 0, 0, 0, []),
  (1, .istore_n 3, 1, 0, 0, 0, []),
  (2, .iload_n 2, 1, 0, 0, 0, []),
  (3, .istore 4, 2, 0, 0, 0, []),
  (5, .iload_n 3, 1, 0, 0, 0, []),
  (6, .iload 4, 2, 0, 0, 0, []),
  (8, .if_icmp .eq 64, 3, 72, 0, 0, []),
  (11, .aload_n 0, 1, 0, 0, 0, []),
  (12, .getfield 28, 3, 10, 7, 0, [771]),
  (15, .iload_n 3, 1, 0, 0, 0, []),
  (16, .iaload, 1, 0, 0, 0, []),
  (17, .aload_n 0, 1, 0, 0, 0, []),
  (18, .getfield 28, 3, 10, 7, 0, [771]),
  (21, .iload 4, 2, 0, 0, 0, []),
  (23, .iaload, 1, 0, 0, 0, []),
  (24, .if_icmp .lt 12, 3, 36, 0, 0, []),
  (27, .aload_n 0, 1, 0, 0, 0, []),
  (28, .getfield 13, 3, 10, 2, 0, [766]),
  (31, .iload_n 3, 1, 0, 0, 0, []),
  (32, .iaload, 1, 0, 0, 0, []),
  (33, .goto 4, 3, 37, 0, 0, []),
  (36, .iload_n 3, 1, 0, 0, 0, []),
  (37, .istore_n 3, 1, 0, 0, 0, []),
  (38, .iload_n 3, 1, 0, 0, 0, []),
  (39, .iload 4, 2, 0, 0, 0, []),
  (41, .if_icmp .eq (-36), 3, 5, 0, 0, []),
  (44, .aload_n 0, 1, 0, 0, 0, []),
  (45, .getfield 28, 3, 10, 7, 0, [771]),
  (48, .iload 4, 2, 0, 0, 0, []),
  (50, .iaload, 1, 0, 0, 0, []),
  (51, .aload_n 0, 1, 0, 0, 0, []),
  (52, .getfield 28, 3, 10, 7, 0, [771]),
  (55, .iload_n 3, 1, 0, 0, 0, []),
  (56, .iaload, 1, 0, 0, 0, []),
  (57, .if_icmp .le (-52), 3, 5, 0, 0, []),
  (60, .aload_n 0, 1, 0, 0, 0, []),
  (61, .getfield 13, 3, 10, 2, 0, [766]),
  (64, .iload 4, 2, 0, 0, 0, []),
  (66, .iaload, 1, 0, 0, 0, []),
  (67, .istore 4, 2, 0, 0, 0, []),
  (69, .goto (-64), 3, 5, 0, 0, []),
  (72, .aload_n 0, 1, 0, 0, 0, []),
  (73, .iload_n 3, 1, 0, 0, 0, []),
  (74, .putfield 158, 3, 10, 15, 0, [779]),
  (77, .aload_n 0, 1, 0, 0, 0, []),
  (78, .aload_n 0, 1, 0, 0, 0, []),
  (79, .getfield 28, 3, 10, 7, 0, [771]),
  (82, .iload_n 1, 1, 0, 0, 0, []),
  (83, .iaload, 1, 0, 0, 0, []),
  (84, .aload_n 0, 1, 0, 0, 0, []),
  (85, .getfield 28, 3, 10, 7, 0, [771]),
  (88, .aload_n 0, 1, 0, 0, 0, []),
  (89, .getfield 158, 3, 10, 15, 0, [779]),
  (92, .iaload, 1, 0, 0, 0, []),
  (93, .isub, 1, 0, 0, 0, []),
  (94, .aload_n 0, 1, 0, 0, 0, []),
  (95, .getfield 28, 3, 10, 7, 0, [771]),
  (98, .iload_n 2, 1, 0, 0, 0, []),
  (99, .iaload, 1, 0, 0, 0, []),
  (100, .iadd, 1, 0, 0, 0, []),
  (101, .aload_n 0, 1, 0, 0, 0, []),
  (102, .getfield 28, 3, 10, 7, 0, [771]),
  (105, .aload_n 0, 1, 0, 0, 0, []),
  (106, .getfield 158, 3, 10, 15, 0, [779]),
  (109, .iaload, 1, 0, 0, 0, []),
  (110, .isub, 1, 0, 0, 0, []),
  (111, .iconst 1, 1, 0, 0, 0, []),
  (112, .iadd, 1, 0, 0, 0, []),
  (113, .putfield 161, 3, 10, 14, 0, [778]),
  (116, .iload_n 1, 1, 0, 0, 0, []),
  (117, .istore 5, 2, 0, 0, 0, []),
  (119, .iconst 0, 1, 0, 0, 0, []),
  (120, .istore 6, 2, 0, 0, 0, []),
  (122, .iload 6, 2, 0, 0, 0, []),
  (124, .aload_n 0, 1, 0, 0, 0, []),
  (125, .getfield 28, 3, 10, 7, 0, [771]),
  (128, .iload_n 1, 1, 0, 0, 0, []),
  (129, .iaload, 1, 0, 0, 0, []),
  (130, .aload_n 0, 1, 0, 0, 0, []),
  (131, .getfield 28, 3, 10, 7, 0, [771]),
  (134, .aload_n 0, 1, 0, 0, 0, []),
  (135, .getfield 158, 3, 10, 15, 0, [779]),
  (138, .iaload, 1, 0, 0, 0, []),
  (139, .isub, 1, 0, 0, 0, []),
  (140, .if_icmp .gt 43, 3, 183, 0, 0, []),
  (143, .aload_n 0, 1, 0, 0, 0, []),
  (144, .getfield 37, 3, 10, 13, 0, [777]),
  (147, .iload 6, 2, 0, 0, 0, []),
  (149, .iload 5, 2, 0, 0, 0, []),
  (151, .iastore, 1, 0, 0, 0, []),
  (152, .aload_n 0, 1, 0, 0, 0, []),
  (153, .getfield 13, 3, 10, 2, 0, [766]),
  (156, .iload 5, 2, 0, 0, 0, []),
  (158, .iaload, 1, 0, 0, 0, []),
  (159, .bipush (-4), 2, 0, 0, 0, []),
  (161, .if_icmp .ne 7, 3, 168, 0, 0, []),
  (164, .iconst 0, 1, 0, 0, 0, []),
  (165, .goto 10, 3, 175, 0, 0, []),
  (168, .aload_n 0, 1, 0, 0, 0, []),
  (169, .getfield 13, 3, 10, 2, 0, [766]),
  (172, .iload 5, 2, 0, 0, 0, []),
  (174, .iaload, 1, 0, 0, 0, []),
  (175, .istore 5, 2, 0, 0, 0, []),
  (177, .iinc 6 1, 3, 0, 0, 0, []),
  (180, .goto (-58), 3, 122, 0, 0, []),
  (183, .iload_n 2, 1, 0, 0, 0, []),
  (184, .istore 5, 2, 0, 0, 0, []),
  (186, .iconst 0, 1, 0, 0, 0, []),
  (187, .istore 6, 2, 0, 0, 0, []),
  (189, .iload 6, 2, 0, 0, 0, []),
  (191, .aload_n 0, 1, 0, 0, 0, []),
  (192, .getfield 28, 3, 10, 7, 0, [771]),
  (195, .iload_n 2, 1, 0, 0, 0, []),
  (196, .iaload, 1, 0, 0, 0, []),
  (197, .aload_n 0, 1, 0, 0, 0, []),
  (198, .getfield 28, 3, 10, 7, 0, [771]),
  (201, .aload_n 0, 1, 0, 0, 0, []),
  (202, .getfield 158, 3, 10, 15, 0, [779]),
  (205, .iaload, 1, 0, 0, 0, []),
  (206, .isub, 1, 0, 0, 0, []),
  (207, .if_icmp .ge 34, 3, 241, 0, 0, []),
  (210, .aload_n 0, 1, 0, 0, 0, []),
  (211, .getfield 37, 3, 10, 13, 0, [777]),
  (214, .aload_n 0, 1, 0, 0, 0, []),
  (215, .getfield 161, 3, 10, 14, 0, [778]),
  (218, .iconst 1, 1, 0, 0, 0, []),
  (219, .isub, 1, 0, 0, 0, []),
  (220, .iload 6, 2, 0, 0, 0, []),
  (222, .isub, 1, 0, 0, 0, []),
  (223, .iload 5, 2, 0, 0, 0, []),
  (225, .iastore, 1, 0, 0, 0, []),
  (226, .aload_n 0, 1, 0, 0, 0, []),
  (227, .getfield 13, 3, 10, 2, 0, [766]),
  (230, .iload 5, 2, 0, 0, 0, []),
  (232, .iaload, 1, 0, 0, 0, []),
  (233, .istore 5, 2, 0, 0, 0, []),
  (235, .iinc 6 1, 3, 0, 0, 0, []),
  (238, .goto (-49), 3, 189, 0, 0, []),
  (241, .return_, 1, 0, 0, 0, [])]
def mi105 : minfo := (⟨"HeavyChainsModel", "lays", "(II)V"⟩, prog_12_method_19_code, 7, none, 1, 60, mt105)
def mt106 : List (Nat × ent) := [(0, .aload_n 0, 1, 0, 0, 0, []),
  (1, .aload_n 0, 1, 0, 0, 0, []),
  (2, .getfield 19, 3, 10, 4, 0, [768]),
  (5, .iload_n 1, 1, 0, 0, 0, []),
  (6, .iaload, 1, 0, 0, 0, []),
  (7, .putfield 161, 3, 10, 14, 0, [778]),
  (10, .iconst 0, 1, 0, 0, 0, []),
  (11, .istore_n 2, 1, 0, 0, 0, []),
  (12, .iload_n 2, 1, 0, 0, 0, []),
  (13, .aload_n 0, 1, 0, 0, 0, []),
  (14, .getfield 161, 3, 10, 14, 0, [778]),
  (17, .if_icmp .ge 28, 3, 45, 0, 0, []),
  (20, .aload_n 0, 1, 0, 0, 0, []),
  (21, .getfield 37, 3, 10, 13, 0, [777]),
  (24, .iload_n 2, 1, 0, 0, 0, []),
  (25, .aload_n 0, 1, 0, 0, 0, []),
  (26, .getfield 31, 3, 10, 8, 0, [772]),
  (29, .aload_n 0, 1, 0, 0, 0, []),
  (30, .getfield 22, 3, 10, 5, 0, [769]),
  (33, .iload_n 1, 1, 0, 0, 0, []),
  (34, .iaload, 1, 0, 0, 0, []),
  (35, .iload_n 2, 1, 0, 0, 0, []),
  (36, .iadd, 1, 0, 0, 0, []),
  (37, .iaload, 1, 0, 0, 0, []),
  (38, .iastore, 1, 0, 0, 0, []),
  (39, .iinc 2 1, 3, 0, 0, 0, []),
  (42, .goto (-30), 3, 12, 0, 0, []),
  (45, .return_, 1, 0, 0, 0, [])]
def mi106 : minfo := (⟨"HeavyChainsModel", "laysBelow", "(I)V"⟩, prog_12_method_20_code, 3, none, 1, 60, mt106)
def mt107 : List (Nat × ent) := [(0, .iconst 0, 1, 0, 0, 0, []),
  (1, .istore_n 1, 1, 0, 0, 0, []),
  (2, .iconst 0, 1, 0, 0, 0, []),
  (3, .istore_n 2, 1, 0, 0, 0, []),
  (4, .iload_n 2, 1, 0, 0, 0, []),
  (5, .aload_n 0, 1, 0, 0, 0, []),
  (6, .getfield 161, 3, 10, 14, 0, [778]),
  (9, .if_icmp .ge 23, 3, 32, 0, 0, []),
  (12, .iload_n 1, 1, 0, 0, 0, []),
  (13, .aload_n 0, 1, 0, 0, 0, []),
  (14, .getfield 7, 3, 10, 0, 0, [764]),
  (17, .aload_n 0, 1, 0, 0, 0, []),
  (18, .getfield 37, 3, 10, 13, 0, [777]),
  (21, .iload_n 2, 1, 0, 0, 0, []),
  (22, .iaload, 1, 0, 0, 0, []),
  (23, .iaload, 1, 0, 0, 0, []),
  (24, .iadd, 1, 0, 0, 0, []),
  (25, .istore_n 1, 1, 0, 0, 0, []),
  (26, .iinc 2 1, 3, 0, 0, 0, []),
  (29, .goto (-25), 3, 4, 0, 0, []),
  (32, .iload_n 1, 1, 0, 0, 0, []),
  (33, .ireturn, 1, 0, 0, 0, [])]
def mi107 : minfo := (⟨"HeavyChainsModel", "sumOf", "()I"⟩, prog_12_method_21_code, 3, (some .int), 1, 60, mt107)
def mt108 : List (Nat × ent) := [(0, .aload_n 0, 1, 0, 0, 0, []),
  (1, .getfield 7, 3, 10, 0, 0, [764]),
  (4, .aload_n 0, 1, 0, 0, 0, []),
  (5, .getfield 37, 3, 10, 13, 0, [777]),
  (8, .iconst 0, 1, 0, 0, 0, []),
  (9, .iaload, 1, 0, 0, 0, []),
  (10, .iaload, 1, 0, 0, 0, []),
  (11, .istore_n 1, 1, 0, 0, 0, []),
  (12, .iconst 0, 1, 0, 0, 0, []),
  (13, .istore_n 2, 1, 0, 0, 0, []),
  (14, .iload_n 2, 1, 0, 0, 0, []),
  (15, .aload_n 0, 1, 0, 0, 0, []),
  (16, .getfield 161, 3, 10, 14, 0, [778]),
  (19, .if_icmp .ge 40, 3, 59, 0, 0, []),
  (22, .aload_n 0, 1, 0, 0, 0, []),
  (23, .getfield 7, 3, 10, 0, 0, [764]),
  (26, .aload_n 0, 1, 0, 0, 0, []),
  (27, .getfield 37, 3, 10, 13, 0, [777]),
  (30, .iload_n 2, 1, 0, 0, 0, []),
  (31, .iaload, 1, 0, 0, 0, []),
  (32, .iaload, 1, 0, 0, 0, []),
  (33, .iload_n 1, 1, 0, 0, 0, []),
  (34, .if_icmp .le 17, 3, 51, 0, 0, []),
  (37, .aload_n 0, 1, 0, 0, 0, []),
  (38, .getfield 7, 3, 10, 0, 0, [764]),
  (41, .aload_n 0, 1, 0, 0, 0, []),
  (42, .getfield 37, 3, 10, 13, 0, [777]),
  (45, .iload_n 2, 1, 0, 0, 0, []),
  (46, .iaload, 1, 0, 0, 0, []),
  (47, .iaload, 1, 0, 0, 0, []),
  (48, .goto 4, 3, 52, 0, 0, []),
  (51, .iload_n 1, 1, 0, 0, 0, []),
  (52, .istore_n 1, 1, 0, 0, 0, []),
  (53, .iinc 2 1, 3, 0, 0, 0, []),
  (56, .goto (-42), 3, 14, 0, 0, []),
  (59, .iload_n 1, 1, 0, 0, 0, []),
  (60, .ireturn, 1, 0, 0, 0, [])]
def mi108 : minfo := (⟨"HeavyChainsModel", "greatest", "()I"⟩, prog_12_method_22_code, 3, (some .int), 1, 60, mt108)
def mt109 : List (Nat × ent) := [(0, .aload_n 0, 1, 0, 0, 0, []),
  (1, .getfield 7, 3, 10, 0, 0, [764]),
  (4, .aload_n 0, 1, 0, 0, 0, []),
  (5, .getfield 37, 3, 10, 13, 0, [777]),
  (8, .iconst 0, 1, 0, 0, 0, []),
  (9, .iaload, 1, 0, 0, 0, []),
  (10, .iaload, 1, 0, 0, 0, []),
  (11, .istore_n 1, 1, 0, 0, 0, []),
  (12, .iconst 0, 1, 0, 0, 0, []),
  (13, .istore_n 2, 1, 0, 0, 0, []),
  (14, .iload_n 2, 1, 0, 0, 0, []),
  (15, .aload_n 0, 1, 0, 0, 0, []),
  (16, .getfield 161, 3, 10, 14, 0, [778]),
  (19, .if_icmp .ge 40, 3, 59, 0, 0, []),
  (22, .aload_n 0, 1, 0, 0, 0, []),
  (23, .getfield 7, 3, 10, 0, 0, [764]),
  (26, .aload_n 0, 1, 0, 0, 0, []),
  (27, .getfield 37, 3, 10, 13, 0, [777]),
  (30, .iload_n 2, 1, 0, 0, 0, []),
  (31, .iaload, 1, 0, 0, 0, []),
  (32, .iaload, 1, 0, 0, 0, []),
  (33, .iload_n 1, 1, 0, 0, 0, []),
  (34, .if_icmp .ge 17, 3, 51, 0, 0, []),
  (37, .aload_n 0, 1, 0, 0, 0, []),
  (38, .getfield 7, 3, 10, 0, 0, [764]),
  (41, .aload_n 0, 1, 0, 0, 0, []),
  (42, .getfield 37, 3, 10, 13, 0, [777]),
  (45, .iload_n 2, 1, 0, 0, 0, []),
  (46, .iaload, 1, 0, 0, 0, []),
  (47, .iaload, 1, 0, 0, 0, []),
  (48, .goto 4, 3, 52, 0, 0, []),
  (51, .iload_n 1, 1, 0, 0, 0, []),
  (52, .istore_n 1, 1, 0, 0, 0, []),
  (53, .iinc 2 1, 3, 0, 0, 0, []),
  (56, .goto (-42), 3, 14, 0, 0, []),
  (59, .iload_n 1, 1, 0, 0, 0, []),
  (60, .ireturn, 1, 0, 0, 0, [])]
def mi109 : minfo := (⟨"HeavyChainsModel", "least", "()I"⟩, prog_12_method_23_code, 3, (some .int), 1, 60, mt109)
def mt110 : List (Nat × ent) := [(0, .iconst 0, 1, 0, 0, 0, []),
  (1, .istore_n 1, 1, 0, 0, 0, []),
  (2, .iconst 0, 1, 0, 0, 0, []),
  (3, .istore_n 2, 1, 0, 0, 0, []),
  (4, .iload_n 2, 1, 0, 0, 0, []),
  (5, .aload_n 0, 1, 0, 0, 0, []),
  (6, .getfield 161, 3, 10, 14, 0, [778]),
  (9, .if_icmp .ge 26, 3, 35, 0, 0, []),
  (12, .iload_n 1, 1, 0, 0, 0, []),
  (13, .aload_n 0, 1, 0, 0, 0, []),
  (14, .getfield 134, 3, 10, 18, 0, [782]),
  (17, .aload_n 0, 1, 0, 0, 0, []),
  (18, .getfield 37, 3, 10, 13, 0, [777]),
  (21, .iload_n 2, 1, 0, 0, 0, []),
  (22, .iaload, 1, 0, 0, 0, []),
  (23, .lshr, 1, 0, 0, 0, []),
  (24, .lconst 1, 1, 0, 0, 0, []),
  (25, .land, 1, 0, 0, 0, []),
  (26, .l2i, 1, 0, 0, 0, []),
  (27, .iadd, 1, 0, 0, 0, []),
  (28, .istore_n 1, 1, 0, 0, 0, []),
  (29, .iinc 2 1, 3, 0, 0, 0, []),
  (32, .goto (-28), 3, 4, 0, 0, []),
  (35, .iload_n 1, 1, 0, 0, 0, []),
  (36, .ireturn, 1, 0, 0, 0, [])]
def mi110 : minfo := (⟨"HeavyChainsModel", "markedOf", "()I"⟩, prog_12_method_24_code, 3, (some .int), 1, 60, mt110)
def mt111 : List (Nat × ent) := [(0, .iconst 1, 1, 0, 0, 0, []),
  (1, .istore_n 1, 1, 0, 0, 0, []),
  (2, .iconst 1, 1, 0, 0, 0, []),
  (3, .istore_n 2, 1, 0, 0, 0, []),
  (4, .iload_n 2, 1, 0, 0, 0, []),
  (5, .aload_n 0, 1, 0, 0, 0, []),
  (6, .getfield 161, 3, 10, 14, 0, [778]),
  (9, .if_icmp .ge 44, 3, 53, 0, 0, []),
  (12, .iload_n 1, 1, 0, 0, 0, []),
  (13, .aload_n 0, 1, 0, 0, 0, []),
  (14, .getfield 25, 3, 10, 6, 0, [770]),
  (17, .aload_n 0, 1, 0, 0, 0, []),
  (18, .getfield 37, 3, 10, 13, 0, [777]),
  (21, .iload_n 2, 1, 0, 0, 0, []),
  (22, .iaload, 1, 0, 0, 0, []),
  (23, .iaload, 1, 0, 0, 0, []),
  (24, .aload_n 0, 1, 0, 0, 0, []),
  (25, .getfield 25, 3, 10, 6, 0, [770]),
  (28, .aload_n 0, 1, 0, 0, 0, []),
  (29, .getfield 37, 3, 10, 13, 0, [777]),
  (32, .iload_n 2, 1, 0, 0, 0, []),
  (33, .iconst 1, 1, 0, 0, 0, []),
  (34, .isub, 1, 0, 0, 0, []),
  (35, .iaload, 1, 0, 0, 0, []),
  (36, .iaload, 1, 0, 0, 0, []),
  (37, .if_icmp .ne 7, 3, 44, 0, 0, []),
  (40, .iconst 0, 1, 0, 0, 0, []),
  (41, .goto 4, 3, 45, 0, 0, []),
  (44, .iconst 1, 1, 0, 0, 0, []),
  (45, .iadd, 1, 0, 0, 0, []),
  (46, .istore_n 1, 1, 0, 0, 0, []),
  (47, .iinc 2 1, 3, 0, 0, 0, []),
  (50, .goto (-46), 3, 4, 0, 0, []),
  (53, .iload_n 1, 1, 0, 0, 0, []),
  (54, .ireturn, 1, 0, 0, 0, [])]
def mi111 : minfo := (⟨"HeavyChainsModel", "pieces", "()I"⟩, prog_12_method_25_code, 3, (some .int), 1, 60, mt111)
def mt112 : List (Nat × ent) := [(0, .aload_n 0, 1, 0, 0, 0, []),
  (1, .getfield 7, 3, 10, 0, 0, [764]),
  (4, .aload_n 0, 1, 0, 0, 0, []),
  (5, .getfield 37, 3, 10, 13, 0, [777]),
  (8, .iconst 0, 1, 0, 0, 0, []),
  (9, .iaload, 1, 0, 0, 0, []),
  (10, .iaload, 1, 0, 0, 0, []),
  (11, .istore_n 1, 1, 0, 0, 0, []),
  (12, .iconst 0, 1, 0, 0, 0, []),
  (13, .istore_n 2, 1, 0, 0, 0, []),
  (14, .iconst 0, 1, 0, 0, 0, []),
  (15, .istore_n 3, 1, 0, 0, 0, []),
  (16, .iload_n 3, 1, 0, 0, 0, []),
  (17, .aload_n 0, 1, 0, 0, 0, []),
  (18, .getfield 161, 3, 10, 14, 0, [778]),
  (21, .if_icmp .ge 52, 3, 73, 0, 0, []),
  (24, .aload_n 0, 1, 0, 0, 0, []),
  (25, .getfield 7, 3, 10, 0, 0, [764]),
  (28, .aload_n 0, 1, 0, 0, 0, []),
  (29, .getfield 37, 3, 10, 13, 0, [777]),
  (32, .iload_n 3, 1, 0, 0, 0, []),
  (33, .iaload, 1, 0, 0, 0, []),
  (34, .iaload, 1, 0, 0, 0, []),
  (35, .istore 4, 2, 0, 0, 0, []),
  (37, .iload 4, 2, 0, 0, 0, []),
  (39, .iload_n 1, 1, 0, 0, 0, []),
  (40, .if_icmp .ge 8, 3, 48, 0, 0, []),
  (43, .iload 4, 2, 0, 0, 0, []),
  (45, .goto 4, 3, 49, 0, 0, []),
  (48, .iload_n 1, 1, 0, 0, 0, []),
  (49, .istore_n 1, 1, 0, 0, 0, []),
  (50, .iload 4, 2, 0, 0, 0, []),
  (52, .iload_n 1, 1, 0, 0, 0, []),
  (53, .isub, 1, 0, 0, 0, []),
  (54, .iload_n 2, 1, 0, 0, 0, []),
  (55, .if_icmp .le 10, 3, 65, 0, 0, []),
  (58, .iload 4, 2, 0, 0, 0, []),
  (60, .iload_n 1, 1, 0, 0, 0, []),
  (61, .isub, 1, 0, 0, 0, []),
  (62, .goto 4, 3, 66, 0, 0, []),
  (65, .iload_n 2, 1, 0, 0, 0, []),
  (66, .istore_n 2, 1, 0, 0, 0, []),
  (67, .iinc 3 1, 3, 0, 0, 0, []),
  (70, .goto (-54), 3, 16, 0, 0, []),
  (73, .iload_n 2, 1, 0, 0, 0, []),
  (74, .ireturn, 1, 0, 0, 0, [])]
def mi112 : minfo := (⟨"HeavyChainsModel", "gain", "()I"⟩, prog_12_method_26_code, 5, (some .int), 1, 60, mt112)
def mt113 : List (Nat × ent) := [(0, .aload_n 0, 1, 0, 0, 0, []),
  (1, .iload_n 1, 1, 0, 0, 0, []),
  (2, .invokevirtual 153, 3, 91, 2, 10, [851, 853, 18, 52]),
  (5, .ifCond .eq 11, 3, 16, 0, 0, []),
  (8, .aload_n 0, 1, 0, 0, 0, []),
  (9, .iload_n 2, 1, 0, 0, 0, []),
  (10, .invokevirtual 153, 3, 91, 2, 10, [851, 853, 18, 52]),
  (13, .ifCond .ne 5, 3, 18, 0, 0, []),
  (16, .iconst (-1), 1, 0, 0, 0, []),
  (17, .ireturn, 1, 0, 0, 0, []),
  (18, .aload_n 0, 1, 0, 0, 0, []),
  (19, .iload_n 1, 1, 0, 0, 0, []),
  (20, .iload_n 2, 1, 0, 0, 0, []),
  (21, .invokevirtual 164, 3, 105, 3, 10, [864, 866, 19, 52]),
  (24, .iload_n 3, 1, 0, 0, 0, []),
  (25, .tableswitch 96 0 7 #[47, 52, 57, 62, 70, 78, 86, 91], 47, 0, 0, 0, []),
  (72, .aload_n 0, 1, 0, 0, 0, []),
  (73, .getfield 161, 3, 10, 14, 0, [778]),
  (76, .ireturn, 1, 0, 0, 0, []),
  (77, .aload_n 0, 1, 0, 0, 0, []),
  (78, .invokevirtual 168, 3, 111, 1, 10, [868, 870, 20, 52]),
  (81, .ireturn, 1, 0, 0, 0, []),
  (82, .aload_n 0, 1, 0, 0, 0, []),
  (83, .getfield 158, 3, 10, 15, 0, [779]),
  (86, .ireturn, 1, 0, 0, 0, []),
  (87, .aload_n 0, 1, 0, 0, 0, []),
  (88, .invokevirtual 171, 3, 107, 1, 10, [872, 874, 21, 52]),
  (91, .ldc 157, 2, 0, 0, 1000000, [855]),
  (93, .iadd, 1, 0, 0, 0, []),
  (94, .ireturn, 1, 0, 0, 0, []),
  (95, .aload_n 0, 1, 0, 0, 0, []),
  (96, .invokevirtual 174, 3, 108, 1, 10, [876, 878, 22, 52]),
  (99, .ldc 157, 2, 0, 0, 1000000, [855]),
  (101, .iadd, 1, 0, 0, 0, []),
  (102, .ireturn, 1, 0, 0, 0, []),
  (103, .aload_n 0, 1, 0, 0, 0, []),
  (104, .invokevirtual 177, 3, 109, 1, 10, [880, 882, 23, 52]),
  (107, .ldc 157, 2, 0, 0, 1000000, [855]),
  (109, .iadd, 1, 0, 0, 0, []),
  (110, .ireturn, 1, 0, 0, 0, []),
  (111, .aload_n 0, 1, 0, 0, 0, []),
  (112, .invokevirtual 180, 3, 112, 1, 10, [884, 886, 24, 52]),
  (115, .ireturn, 1, 0, 0, 0, []),
  (116, .aload_n 0, 1, 0, 0, 0, []),
  (117, .invokevirtual 183, 3, 110, 1, 10, [888, 890, 25, 52]),
  (120, .ireturn, 1, 0, 0, 0, []),
  (121, .iconst (-1), 1, 0, 0, 0, []),
  (122, .ireturn, 1, 0, 0, 0, [])]
def mi113 : minfo := (⟨"HeavyChainsModel", "way", "(III)I"⟩, prog_12_method_27_code, 4, (some .int), 3, 106, mt113)
def mt114 : List (Nat × ent) := [(0, .aload_n 0, 1, 0, 0, 0, []),
  (1, .iload_n 1, 1, 0, 0, 0, []),
  (2, .invokevirtual 153, 3, 91, 2, 10, [851, 853, 18, 52]),
  (5, .ifCond .eq 15, 3, 20, 0, 0, []),
  (8, .aload_n 0, 1, 0, 0, 0, []),
  (9, .iload_n 2, 1, 0, 0, 0, []),
  (10, .invokevirtual 153, 3, 91, 2, 10, [851, 853, 18, 52]),
  (13, .ifCond .eq 7, 3, 20, 0, 0, []),
  (16, .iload_n 3, 1, 0, 0, 0, []),
  (17, .ifCond .ge 5, 3, 22, 0, 0, []),
  (20, .iconst (-1), 1, 0, 0, 0, []),
  (21, .ireturn, 1, 0, 0, 0, []),
  (22, .aload_n 0, 1, 0, 0, 0, []),
  (23, .iload_n 1, 1, 0, 0, 0, []),
  (24, .iload_n 2, 1, 0, 0, 0, []),
  (25, .invokevirtual 164, 3, 105, 3, 10, [864, 866, 19, 52]),
  (28, .iload_n 3, 1, 0, 0, 0, []),
  (29, .aload_n 0, 1, 0, 0, 0, []),
  (30, .getfield 161, 3, 10, 14, 0, [778]),
  (33, .if_icmp .ge 12, 3, 45, 0, 0, []),
  (36, .aload_n 0, 1, 0, 0, 0, []),
  (37, .getfield 37, 3, 10, 13, 0, [777]),
  (40, .iload_n 3, 1, 0, 0, 0, []),
  (41, .iaload, 1, 0, 0, 0, []),
  (42, .goto 5, 3, 47, 0, 0, []),
  (45, .bipush (-4), 2, 0, 0, 0, []),
  (47, .ireturn, 1, 0, 0, 0, [])]
def mi114 : minfo := (⟨"HeavyChainsModel", "step", "(III)I"⟩, prog_12_method_28_code, 4, (some .int), 3, 106, mt114)
def mt115 : List (Nat × ent) := [(0, .aload_n 0, 1, 0, 0, 0, []),
  (1, .iload_n 1, 1, 0, 0, 0, []),
  (2, .invokevirtual 153, 3, 91, 2, 10, [851, 853, 18, 52]),
  (5, .ifCond .eq 23, 3, 28, 0, 0, []),
  (8, .aload_n 0, 1, 0, 0, 0, []),
  (9, .iload_n 2, 1, 0, 0, 0, []),
  (10, .invokevirtual 153, 3, 91, 2, 10, [851, 853, 18, 52]),
  (13, .ifCond .eq 15, 3, 28, 0, 0, []),
  (16, .iload_n 3, 1, 0, 0, 0, []),
  (17, .i2l, 1, 0, 0, 0, []),
  (18, .lconst 0, 1, 0, 0, 0, []),
  (19, .ldc2_w 186, 3, 0, 0, 96, [900]),
  (22, .invokestatic 92, 3, 88, 3, 0, [715, 716, 52]),
  (25, .ifCond .ne 5, 3, 30, 0, 0, []),
  (28, .iconst (-1), 1, 0, 0, 0, []),
  (29, .ireturn, 1, 0, 0, 0, []),
  (30, .aload_n 0, 1, 0, 0, 0, []),
  (31, .iload_n 1, 1, 0, 0, 0, []),
  (32, .iload_n 2, 1, 0, 0, 0, []),
  (33, .invokevirtual 164, 3, 105, 3, 10, [864, 866, 19, 52]),
  (36, .iload_n 3, 1, 0, 0, 0, []),
  (37, .istore 4, 2, 0, 0, 0, []),
  (39, .iconst 0, 1, 0, 0, 0, []),
  (40, .istore 5, 2, 0, 0, 0, []),
  (42, .iload 5, 2, 0, 0, 0, []),
  (44, .aload_n 0, 1, 0, 0, 0, []),
  (45, .getfield 161, 3, 10, 14, 0, [778]),
  (48, .if_icmp .ge 48, 3, 96, 0, 0, []),
  (51, .aload_n 0, 1, 0, 0, 0, []),
  (52, .getfield 7, 3, 10, 0, 0, [764]),
  (55, .bipush 30, 2, 0, 0, 0, []),
  (57, .aload_n 0, 1, 0, 0, 0, []),
  (58, .getfield 37, 3, 10, 13, 0, [777]),
  (61, .iload 5, 2, 0, 0, 0, []),
  (63, .iaload, 1, 0, 0, 0, []),
  (64, .iadd, 1, 0, 0, 0, []),
  (65, .iaload, 1, 0, 0, 0, []),
  (66, .iload 4, 2, 0, 0, 0, []),
  (68, .imul, 1, 0, 0, 0, []),
  (69, .aload_n 0, 1, 0, 0, 0, []),
  (70, .getfield 7, 3, 10, 0, 0, [764]),
  (73, .bipush 60, 2, 0, 0, 0, []),
  (75, .aload_n 0, 1, 0, 0, 0, []),
  (76, .getfield 37, 3, 10, 13, 0, [777]),
  (79, .iload 5, 2, 0, 0, 0, []),
  (81, .iaload, 1, 0, 0, 0, []),
  (82, .iadd, 1, 0, 0, 0, []),
  (83, .iaload, 1, 0, 0, 0, []),
  (84, .iadd, 1, 0, 0, 0, []),
  (85, .bipush 97, 2, 0, 0, 0, []),
  (87, .irem, 1, 0, 0, 0, []),
  (88, .istore 4, 2, 0, 0, 0, []),
  (90, .iinc 5 1, 3, 0, 0, 0, []),
  (93, .goto (-51), 3, 42, 0, 0, []),
  (96, .iload 4, 2, 0, 0, 0, []),
  (98, .ireturn, 1, 0, 0, 0, [])]
def mi115 : minfo := (⟨"HeavyChainsModel", "through", "(III)I"⟩, prog_12_method_29_code, 6, (some .int), 3, 106, mt115)
def mt116 : List (Nat × ent) := [(0, .aload_n 0, 1, 0, 0, 0, []),
  (1, .iload_n 1, 1, 0, 0, 0, []),
  (2, .invokevirtual 153, 3, 91, 2, 10, [851, 853, 18, 52]),
  (5, .ifCond .eq 15, 3, 20, 0, 0, []),
  (8, .iload_n 2, 1, 0, 0, 0, []),
  (9, .i2l, 1, 0, 0, 0, []),
  (10, .lconst 0, 1, 0, 0, 0, []),
  (11, .ldc2_w 188, 3, 0, 0, 2, [905]),
  (14, .invokestatic 92, 3, 88, 3, 0, [715, 716, 52]),
  (17, .ifCond .ne 5, 3, 22, 0, 0, []),
  (20, .iconst (-1), 1, 0, 0, 0, []),
  (21, .ireturn, 1, 0, 0, 0, []),
  (22, .aload_n 0, 1, 0, 0, 0, []),
  (23, .iload_n 1, 1, 0, 0, 0, []),
  (24, .invokevirtual 190, 3, 106, 2, 10, [906, 908, 26, 52]),
  (27, .iload_n 2, 1, 0, 0, 0, []),
  (28, .ifCond .ne 13, 3, 41, 0, 0, []),
  (31, .aload_n 0, 1, 0, 0, 0, []),
  (32, .invokevirtual 171, 3, 107, 1, 10, [872, 874, 21, 52]),
  (35, .ldc 157, 2, 0, 0, 1000000, [855]),
  (37, .iadd, 1, 0, 0, 0, []),
  (38, .goto 22, 3, 60, 0, 0, []),
  (41, .iload_n 2, 1, 0, 0, 0, []),
  (42, .iconst 1, 1, 0, 0, 0, []),
  (43, .if_icmp .ne 13, 3, 56, 0, 0, []),
  (46, .aload_n 0, 1, 0, 0, 0, []),
  (47, .invokevirtual 174, 3, 108, 1, 10, [876, 878, 22, 52]),
  (50, .ldc 157, 2, 0, 0, 1000000, [855]),
  (52, .iadd, 1, 0, 0, 0, []),
  (53, .goto 7, 3, 60, 0, 0, []),
  (56, .aload_n 0, 1, 0, 0, 0, []),
  (57, .invokevirtual 183, 3, 110, 1, 10, [888, 890, 25, 52]),
  (60, .ireturn, 1, 0, 0, 0, [])]
def mi116 : minfo := (⟨"HeavyChainsModel", "below", "(II)I"⟩, prog_12_method_30_code, 3, (some .int), 3, 106, mt116)
def mt117 : List (Nat × ent) := [(0, .aload_n 0, 1, 0, 0, 0, []),
  (1, .getfield 144, 3, 10, 17, 0, [781]),
  (4, .bipush 8, 2, 0, 0, 0, []),
  (6, .if_icmp .ne 40, 3, 46, 0, 0, []),
  (9, .bipush 90, 2, 0, 0, 0, []),
  (11, .istore_n 1, 1, 0, 0, 0, []),
  (12, .iload_n 1, 1, 0, 0, 0, []),
  (13, .sipush 720, 3, 0, 0, 0, []),
  (16, .if_icmp .ge 24, 3, 40, 0, 0, []),
  (19, .aload_n 0, 1, 0, 0, 0, []),
  (20, .getfield 40, 3, 10, 16, 0, [780]),
  (23, .iload_n 1, 1, 0, 0, 0, []),
  (24, .bipush 90, 2, 0, 0, 0, []),
  (26, .isub, 1, 0, 0, 0, []),
  (27, .aload_n 0, 1, 0, 0, 0, []),
  (28, .getfield 40, 3, 10, 16, 0, [780]),
  (31, .iload_n 1, 1, 0, 0, 0, []),
  (32, .iaload, 1, 0, 0, 0, []),
  (33, .iastore, 1, 0, 0, 0, []),
  (34, .iinc 1 1, 3, 0, 0, 0, []),
  (37, .goto (-25), 3, 12, 0, 0, []),
  (40, .aload_n 0, 1, 0, 0, 0, []),
  (41, .bipush 7, 2, 0, 0, 0, []),
  (43, .putfield 144, 3, 10, 17, 0, [781]),
  (46, .iconst 0, 1, 0, 0, 0, []),
  (47, .istore_n 1, 1, 0, 0, 0, []),
  (48, .iload_n 1, 1, 0, 0, 0, []),
  (49, .bipush 90, 2, 0, 0, 0, []),
  (51, .if_icmp .ge 29, 3, 80, 0, 0, []),
  (54, .aload_n 0, 1, 0, 0, 0, []),
  (55, .getfield 40, 3, 10, 16, 0, [780]),
  (58, .bipush 90, 2, 0, 0, 0, []),
  (60, .aload_n 0, 1, 0, 0, 0, []),
  (61, .getfield 144, 3, 10, 17, 0, [781]),
  (64, .imul, 1, 0, 0, 0, []),
  (65, .iload_n 1, 1, 0, 0, 0, []),
  (66, .iadd, 1, 0, 0, 0, []),
  (67, .aload_n 0, 1, 0, 0, 0, []),
  (68, .getfield 7, 3, 10, 0, 0, [764]),
  (71, .iload_n 1, 1, 0, 0, 0, []),
  (72, .iaload, 1, 0, 0, 0, []),
  (73, .iastore, 1, 0, 0, 0, []),
  (74, .iinc 1 1, 3, 0, 0, 0, []),
  (77, .goto (-29), 3, 48, 0, 0, []),
  (80, .aload_n 0, 1, 0, 0, 0, []),
  (81, .dup, 1, 0, 0, 0, []),
  (82, .getfield 144, 3, 10, 17, 0, [781]),
  (85, .iconst 1, 1, 0, 0, 0, []),
  (86, .iadd, 1, 0, 0, 0, []),
  (87, .putfield 144, 3, 10, 17, 0, [781]),
  (90, .return_, 1, 0, 0, 0, [])]
def mi117 : minfo := (⟨"HeavyChainsModel", "notes", "()V"⟩, prog_12_method_31_code, 2, none, 1, 60, mt117)
def mt118 : List (Nat × ent) := [(0, .iload_n 0, 1, 0, 0, 0, []),
  (1, .iload_n 2, 1, 0, 0, 0, []),
  (2, .iconst 1, 1, 0, 0, 0, []),
  (3, .if_icmp .ne 9, 3, 12, 0, 0, []),
  (6, .iconst 2, 1, 0, 0, 0, []),
  (7, .iload_n 1, 1, 0, 0, 0, []),
  (8, .imul, 1, 0, 0, 0, []),
  (9, .goto 15, 3, 24, 0, 0, []),
  (12, .iload_n 2, 1, 0, 0, 0, []),
  (13, .iconst 3, 1, 0, 0, 0, []),
  (14, .if_icmp .ne 9, 3, 23, 0, 0, []),
  (17, .iload_n 1, 1, 0, 0, 0, []),
  (18, .iconst 2, 1, 0, 0, 0, []),
  (19, .idiv, 1, 0, 0, 0, []),
  (20, .goto 4, 3, 24, 0, 0, []),
  (23, .iload_n 1, 1, 0, 0, 0, []),
  (24, .iadd, 1, 0, 0, 0, []),
  (25, .istore_n 3, 1, 0, 0, 0, []),
  (26, .iload_n 2, 1, 0, 0, 0, []),
  (27, .iconst 1, 1, 0, 0, 0, []),
  (28, .if_icmp .le 11, 3, 39, 0, 0, []),
  (31, .iload_n 3, 1, 0, 0, 0, []),
  (32, .ifCond .ge 7, 3, 39, 0, 0, []),
  (35, .iconst 0, 1, 0, 0, 0, []),
  (36, .goto 4, 3, 40, 0, 0, []),
  (39, .iload_n 3, 1, 0, 0, 0, []),
  (40, .ireturn, 1, 0, 0, 0, [])]
def mi118 : minfo := (⟨"HeavyChainsModel", "added", "(III)I"⟩, prog_12_method_32_code, 4, (some .int), 1, 60, mt118)
def mt119 : List (Nat × ent) := [(0, .iconst 1, 1, 0, 0, 0, []),
  (1, .istore_n 3, 1, 0, 0, 0, []),
  (2, .iconst 0, 1, 0, 0, 0, []),
  (3, .istore 4, 2, 0, 0, 0, []),
  (5, .iload 4, 2, 0, 0, 0, []),
  (7, .aload_n 0, 1, 0, 0, 0, []),
  (8, .getfield 161, 3, 10, 14, 0, [778]),
  (11, .if_icmp .ge 49, 3, 60, 0, 0, []),
  (14, .iload_n 3, 1, 0, 0, 0, []),
  (15, .ifCond .eq 37, 3, 52, 0, 0, []),
  (18, .aload_n 0, 1, 0, 0, 0, []),
  (19, .getfield 7, 3, 10, 0, 0, [764]),
  (22, .aload_n 0, 1, 0, 0, 0, []),
  (23, .getfield 37, 3, 10, 13, 0, [777]),
  (26, .iload 4, 2, 0, 0, 0, []),
  (28, .iaload, 1, 0, 0, 0, []),
  (29, .iaload, 1, 0, 0, 0, []),
  (30, .iload_n 1, 1, 0, 0, 0, []),
  (31, .iload_n 2, 1, 0, 0, 0, []),
  (32, .invokestatic 194, 3, 118, 3, 0, [928, 929, 52]),
  (35, .i2l, 1, 0, 0, 0, []),
  (36, .ldc2_w 198, 3, 0, 0, (-9999), [931]),
  (39, .ldc2_w 200, 3, 0, 0, 9999, [932]),
  (42, .invokestatic 92, 3, 88, 3, 0, [715, 716, 52]),
  (45, .ifCond .eq 7, 3, 52, 0, 0, []),
  (48, .iconst 1, 1, 0, 0, 0, []),
  (49, .goto 4, 3, 53, 0, 0, []),
  (52, .iconst 0, 1, 0, 0, 0, []),
  (53, .istore_n 3, 1, 0, 0, 0, []),
  (54, .iinc 4 1, 3, 0, 0, 0, []),
  (57, .goto (-52), 3, 5, 0, 0, []),
  (60, .iload_n 3, 1, 0, 0, 0, []),
  (61, .ireturn, 1, 0, 0, 0, [])]
def mi119 : minfo := (⟨"HeavyChainsModel", "mayAdd", "(II)Z"⟩, prog_12_method_33_code, 5, (some .boolean), 2, 85, mt119)
def mt120 : List (Nat × ent) := [(0, .iconst 0, 1, 0, 0, 0, []),
  (1, .istore_n 3, 1, 0, 0, 0, []),
  (2, .iload_n 3, 1, 0, 0, 0, []),
  (3, .aload_n 0, 1, 0, 0, 0, []),
  (4, .getfield 161, 3, 10, 14, 0, [778]),
  (7, .if_icmp .ge 36, 3, 43, 0, 0, []),
  (10, .aload_n 0, 1, 0, 0, 0, []),
  (11, .getfield 7, 3, 10, 0, 0, [764]),
  (14, .aload_n 0, 1, 0, 0, 0, []),
  (15, .getfield 37, 3, 10, 13, 0, [777]),
  (18, .iload_n 3, 1, 0, 0, 0, []),
  (19, .iaload, 1, 0, 0, 0, []),
  (20, .aload_n 0, 1, 0, 0, 0, []),
  (21, .getfield 7, 3, 10, 0, 0, [764]),
  (24, .aload_n 0, 1, 0, 0, 0, []),
  (25, .getfield 37, 3, 10, 13, 0, [777]),
  (28, .iload_n 3, 1, 0, 0, 0, []),
  (29, .iaload, 1, 0, 0, 0, []),
  (30, .iaload, 1, 0, 0, 0, []),
  (31, .iload_n 1, 1, 0, 0, 0, []),
  (32, .iload_n 2, 1, 0, 0, 0, []),
  (33, .invokestatic 194, 3, 118, 3, 0, [928, 929, 52]),
  (36, .iastore, 1, 0, 0, 0, []),
  (37, .iinc 3 1, 3, 0, 0, 0, []),
  (40, .goto (-38), 3, 2, 0, 0, []),
  (43, .return_, 1, 0, 0, 0, [])]
def mi120 : minfo := (⟨"HeavyChainsModel", "adds", "(II)V"⟩, prog_12_method_34_code, 4, none, 2, 83, mt120)
def mt121 : List (Nat × ent) := [(0, .iload_n 0, 1, 0, 0, 0, []),
  (1, .i2l, 1, 0, 0, 0, []),
  (2, .ldc2_w 202, 3, 0, 0, (-999), [917]),
  (5, .ldc2_w 204, 3, 0, 0, 999, [918]),
  (8, .invokestatic 92, 3, 88, 3, 0, [715, 716, 52]),
  (11, .ifCond .eq 19, 3, 30, 0, 0, []),
  (14, .iload_n 1, 1, 0, 0, 0, []),
  (15, .i2l, 1, 0, 0, 0, []),
  (16, .lconst 0, 1, 0, 0, 0, []),
  (17, .ldc2_w 206, 3, 0, 0, 3, [919]),
  (20, .invokestatic 92, 3, 88, 3, 0, [715, 716, 52]),
  (23, .ifCond .eq 7, 3, 30, 0, 0, []),
  (26, .iconst 1, 1, 0, 0, 0, []),
  (27, .goto 4, 3, 31, 0, 0, []),
  (30, .iconst 0, 1, 0, 0, 0, []),
  (31, .ireturn, 1, 0, 0, 0, [])]
def mi121 : minfo := (⟨"HeavyChainsModel", "isAdding", "(II)Z"⟩, prog_12_method_35_code, 2, (some .boolean), 2, 85, mt121)
def mt122 : List (Nat × ent) := [(0, .aload_n 0, 1, 0, 0, 0, []),
  (1, .iload_n 1, 1, 0, 0, 0, []),
  (2, .iload_n 2, 1, 0, 0, 0, []),
  (3, .invokevirtual 208, 3, 119, 3, 10, [924, 926, 28, 52]),
  (6, .ifCond .ne 6, 3, 12, 0, 0, []),
  (9, .bipush (-2), 2, 0, 0, 0, []),
  (11, .ireturn, 1, 0, 0, 0, []),
  (12, .aload_n 0, 1, 0, 0, 0, []),
  (13, .invokevirtual 211, 3, 117, 1, 10, [933, 935, 29, 52]),
  (16, .aload_n 0, 1, 0, 0, 0, []),
  (17, .iload_n 1, 1, 0, 0, 0, []),
  (18, .iload_n 2, 1, 0, 0, 0, []),
  (19, .invokevirtual 214, 3, 120, 3, 10, [937, 939, 30, 52]),
  (22, .aload_n 0, 1, 0, 0, 0, []),
  (23, .invokevirtual 171, 3, 107, 1, 10, [872, 874, 21, 52]),
  (26, .ldc 157, 2, 0, 0, 1000000, [855]),
  (28, .iadd, 1, 0, 0, 0, []),
  (29, .ireturn, 1, 0, 0, 0, [])]
def mi122 : minfo := (⟨"HeavyChainsModel", "addsLaid", "(II)I"⟩, prog_12_method_36_code, 3, (some .int), 3, 109, mt122)
def mt123 : List (Nat × ent) := [(0, .aload_n 0, 1, 0, 0, 0, []),
  (1, .iload_n 1, 1, 0, 0, 0, []),
  (2, .invokevirtual 153, 3, 91, 2, 10, [851, 853, 18, 52]),
  (5, .ifCond .eq 20, 3, 25, 0, 0, []),
  (8, .aload_n 0, 1, 0, 0, 0, []),
  (9, .iload_n 2, 1, 0, 0, 0, []),
  (10, .invokevirtual 153, 3, 91, 2, 10, [851, 853, 18, 52]),
  (13, .ifCond .eq 12, 3, 25, 0, 0, []),
  (16, .iload_n 3, 1, 0, 0, 0, []),
  (17, .iload 4, 2, 0, 0, 0, []),
  (19, .invokestatic 217, 3, 121, 2, 0, [914, 915, 52]),
  (22, .ifCond .ne 5, 3, 27, 0, 0, []),
  (25, .iconst (-1), 1, 0, 0, 0, []),
  (26, .ireturn, 1, 0, 0, 0, []),
  (27, .aload_n 0, 1, 0, 0, 0, []),
  (28, .iload_n 1, 1, 0, 0, 0, []),
  (29, .iload_n 2, 1, 0, 0, 0, []),
  (30, .invokevirtual 164, 3, 105, 3, 10, [864, 866, 19, 52]),
  (33, .aload_n 0, 1, 0, 0, 0, []),
  (34, .iload_n 3, 1, 0, 0, 0, []),
  (35, .iload 4, 2, 0, 0, 0, []),
  (37, .invokevirtual 220, 3, 122, 3, 10, [920, 922, 27, 52]),
  (40, .ireturn, 1, 0, 0, 0, [])]
def mi123 : minfo := (⟨"HeavyChainsModel", "add", "(IIII)I"⟩, prog_12_method_37_code, 5, (some .int), 4, 131, mt123)
def mt124 : List (Nat × ent) := [(0, .aload_n 0, 1, 0, 0, 0, []),
  (1, .iload_n 1, 1, 0, 0, 0, []),
  (2, .invokevirtual 153, 3, 91, 2, 10, [851, 853, 18, 52]),
  (5, .ifCond .eq 11, 3, 16, 0, 0, []),
  (8, .iload_n 2, 1, 0, 0, 0, []),
  (9, .iload_n 3, 1, 0, 0, 0, []),
  (10, .invokestatic 217, 3, 121, 2, 0, [914, 915, 52]),
  (13, .ifCond .ne 5, 3, 18, 0, 0, []),
  (16, .iconst (-1), 1, 0, 0, 0, []),
  (17, .ireturn, 1, 0, 0, 0, []),
  (18, .aload_n 0, 1, 0, 0, 0, []),
  (19, .iload_n 1, 1, 0, 0, 0, []),
  (20, .invokevirtual 190, 3, 106, 2, 10, [906, 908, 26, 52]),
  (23, .aload_n 0, 1, 0, 0, 0, []),
  (24, .iload_n 2, 1, 0, 0, 0, []),
  (25, .iload_n 3, 1, 0, 0, 0, []),
  (26, .invokevirtual 220, 3, 122, 3, 10, [920, 922, 27, 52]),
  (29, .ireturn, 1, 0, 0, 0, [])]
def mi124 : minfo := (⟨"HeavyChainsModel", "pou\x72", "(III)I"⟩, prog_12_method_38_code, 4, (some .int), 4, 131, mt124)
def mt125 : List (Nat × ent) := [(0, .aload_n 0, 1, 0, 0, 0, []),
  (1, .iload_n 1, 1, 0, 0, 0, []),
  (2, .invokevirtual 153, 3, 91, 2, 10, [851, 853, 18, 52]),
  (5, .ifCond .eq 17, 3, 22, 0, 0, []),
  (8, .iload_n 2, 1, 0, 0, 0, []),
  (9, .i2l, 1, 0, 0, 0, []),
  (10, .ldc2_w 198, 3, 0, 0, (-9999), [931]),
  (13, .ldc2_w 200, 3, 0, 0, 9999, [932]),
  (16, .invokestatic 92, 3, 88, 3, 0, [715, 716, 52]),
  (19, .ifCond .ne 5, 3, 24, 0, 0, []),
  (22, .iconst (-1), 1, 0, 0, 0, []),
  (23, .ireturn, 1, 0, 0, 0, []),
  (24, .aload_n 0, 1, 0, 0, 0, []),
  (25, .getfield 7, 3, 10, 0, 0, [764]),
  (28, .iload_n 1, 1, 0, 0, 0, []),
  (29, .iaload, 1, 0, 0, 0, []),
  (30, .istore_n 3, 1, 0, 0, 0, []),
  (31, .iload_n 3, 1, 0, 0, 0, []),
  (32, .iload_n 2, 1, 0, 0, 0, []),
  (33, .if_icmp .ne 6, 3, 39, 0, 0, []),
  (36, .bipush (-2), 2, 0, 0, 0, []),
  (38, .ireturn, 1, 0, 0, 0, []),
  (39, .aload_n 0, 1, 0, 0, 0, []),
  (40, .invokevirtual 211, 3, 117, 1, 10, [933, 935, 29, 52]),
  (43, .aload_n 0, 1, 0, 0, 0, []),
  (44, .getfield 7, 3, 10, 0, 0, [764]),
  (47, .iload_n 1, 1, 0, 0, 0, []),
  (48, .iload_n 2, 1, 0, 0, 0, []),
  (49, .iastore, 1, 0, 0, 0, []),
  (50, .iload_n 3, 1, 0, 0, 0, []),
  (51, .ldc 157, 2, 0, 0, 1000000, [855]),
  (53, .iadd, 1, 0, 0, 0, []),
  (54, .ireturn, 1, 0, 0, 0, [])]
def mi125 : minfo := (⟨"HeavyChainsModel", "set", "(II)I"⟩, prog_12_method_39_code, 4, (some .int), 3, 106, mt125)
def mt126 : List (Nat × ent) := [(0, .aload_n 0, 1, 0, 0, 0, []),
  (1, .iload_n 1, 1, 0, 0, 0, []),
  (2, .invokevirtual 153, 3, 91, 2, 10, [851, 853, 18, 52]),
  (5, .ifCond .eq 27, 3, 32, 0, 0, []),
  (8, .iload_n 2, 1, 0, 0, 0, []),
  (9, .i2l, 1, 0, 0, 0, []),
  (10, .lconst 0, 1, 0, 0, 0, []),
  (11, .ldc2_w 224, 3, 0, 0, 9, [953]),
  (14, .invokestatic 92, 3, 88, 3, 0, [715, 716, 52]),
  (17, .ifCond .eq 15, 3, 32, 0, 0, []),
  (20, .iload_n 3, 1, 0, 0, 0, []),
  (21, .i2l, 1, 0, 0, 0, []),
  (22, .lconst 0, 1, 0, 0, 0, []),
  (23, .ldc2_w 224, 3, 0, 0, 9, [953]),
  (26, .invokestatic 92, 3, 88, 3, 0, [715, 716, 52]),
  (29, .ifCond .ne 5, 3, 34, 0, 0, []),
  (32, .iconst (-1), 1, 0, 0, 0, []),
  (33, .ireturn, 1, 0, 0, 0, []),
  (34, .bipush 10, 2, 0, 0, 0, []),
  (36, .aload_n 0, 1, 0, 0, 0, []),
  (37, .getfield 7, 3, 10, 0, 0, [764]),
  (40, .bipush 30, 2, 0, 0, 0, []),
  (42, .iload_n 1, 1, 0, 0, 0, []),
  (43, .iadd, 1, 0, 0, 0, []),
  (44, .iaload, 1, 0, 0, 0, []),
  (45, .imul, 1, 0, 0, 0, []),
  (46, .aload_n 0, 1, 0, 0, 0, []),
  (47, .getfield 7, 3, 10, 0, 0, [764]),
  (50, .bipush 60, 2, 0, 0, 0, []),
  (52, .iload_n 1, 1, 0, 0, 0, []),
  (53, .iadd, 1, 0, 0, 0, []),
  (54, .iaload, 1, 0, 0, 0, []),
  (55, .iadd, 1, 0, 0, 0, []),
  (56, .istore 4, 2, 0, 0, 0, []),
  (58, .iload 4, 2, 0, 0, 0, []),
  (60, .bipush 10, 2, 0, 0, 0, []),
  (62, .iload_n 2, 1, 0, 0, 0, []),
  (63, .imul, 1, 0, 0, 0, []),
  (64, .iload_n 3, 1, 0, 0, 0, []),
  (65, .iadd, 1, 0, 0, 0, []),
  (66, .if_icmp .ne 6, 3, 72, 0, 0, []),
  (69, .bipush (-2), 2, 0, 0, 0, []),
  (71, .ireturn, 1, 0, 0, 0, []),
  (72, .aload_n 0, 1, 0, 0, 0, []),
  (73, .invokevirtual 211, 3, 117, 1, 10, [933, 935, 29, 52]),
  (76, .aload_n 0, 1, 0, 0, 0, []),
  (77, .getfield 7, 3, 10, 0, 0, [764]),
  (80, .bipush 30, 2, 0, 0, 0, []),
  (82, .iload_n 1, 1, 0, 0, 0, []),
  (83, .iadd, 1, 0, 0, 0, []),
  (84, .iload_n 2, 1, 0, 0, 0, []),
  (85, .iastore, 1, 0, 0, 0, []),
  (86, .aload_n 0, 1, 0, 0, 0, []),
  (87, .getfield 7, 3, 10, 0, 0, [764]),
  (90, .bipush 60, 2, 0, 0, 0, []),
  (92, .iload_n 1, 1, 0, 0, 0, []),
  (93, .iadd, 1, 0, 0, 0, []),
  (94, .iload_n 3, 1, 0, 0, 0, []),
  (95, .iastore, 1, 0, 0, 0, []),
  (96, .iload 4, 2, 0, 0, 0, []),
  (98, .ireturn, 1, 0, 0, 0, [])]
def mi126 : minfo := (⟨"HeavyChainsModel", "shape", "(III)I"⟩, prog_12_method_40_code, 5, (some .int), 3, 106, mt126)
def mt127 : List (Nat × ent) := [(0, .aload_n 0, 1, 0, 0, 0, []),
  (1, .getfield 144, 3, 10, 17, 0, [781]),
  (4, .ifCond .ne 6, 3, 10, 0, 0, []),
  (7, .bipush (-2), 2, 0, 0, 0, []),
  (9, .ireturn, 1, 0, 0, 0, []),
  (10, .aload_n 0, 1, 0, 0, 0, []),
  (11, .dup, 1, 0, 0, 0, []),
  (12, .getfield 144, 3, 10, 17, 0, [781]),
  (15, .iconst 1, 1, 0, 0, 0, []),
  (16, .isub, 1, 0, 0, 0, []),
  (17, .putfield 144, 3, 10, 17, 0, [781]),
  (20, .iconst 0, 1, 0, 0, 0, []),
  (21, .istore_n 1, 1, 0, 0, 0, []),
  (22, .iload_n 1, 1, 0, 0, 0, []),
  (23, .bipush 90, 2, 0, 0, 0, []),
  (25, .if_icmp .ge 29, 3, 54, 0, 0, []),
  (28, .aload_n 0, 1, 0, 0, 0, []),
  (29, .getfield 7, 3, 10, 0, 0, [764]),
  (32, .iload_n 1, 1, 0, 0, 0, []),
  (33, .aload_n 0, 1, 0, 0, 0, []),
  (34, .getfield 40, 3, 10, 16, 0, [780]),
  (37, .bipush 90, 2, 0, 0, 0, []),
  (39, .aload_n 0, 1, 0, 0, 0, []),
  (40, .getfield 144, 3, 10, 17, 0, [781]),
  (43, .imul, 1, 0, 0, 0, []),
  (44, .iload_n 1, 1, 0, 0, 0, []),
  (45, .iadd, 1, 0, 0, 0, []),
  (46, .iaload, 1, 0, 0, 0, []),
  (47, .iastore, 1, 0, 0, 0, []),
  (48, .iinc 1 1, 3, 0, 0, 0, []),
  (51, .goto (-29), 3, 22, 0, 0, []),
  (54, .aload_n 0, 1, 0, 0, 0, []),
  (55, .getfield 144, 3, 10, 17, 0, [781]),
  (58, .ireturn, 1, 0, 0, 0, [])]
def mi127 : minfo := (⟨"HeavyChainsModel", "undo", "()I"⟩, prog_12_method_41_code, 2, (some .int), 1, 60, mt127)
def mt128 : List (Nat × ent) := [(0, .aload_n 0, 1, 0, 0, 0, []),
  (1, .getfield 134, 3, 10, 18, 0, [782]),
  (4, .iload_n 1, 1, 0, 0, 0, []),
  (5, .lshr, 1, 0, 0, 0, []),
  (6, .lconst 1, 1, 0, 0, 0, []),
  (7, .land, 1, 0, 0, 0, []),
  (8, .lconst 1, 1, 0, 0, 0, []),
  (9, .lcmp, 1, 0, 0, 0, []),
  (10, .ifCond .ne 7, 3, 17, 0, 0, []),
  (13, .iconst 1, 1, 0, 0, 0, []),
  (14, .goto 4, 3, 18, 0, 0, []),
  (17, .iconst 0, 1, 0, 0, 0, []),
  (18, .ireturn, 1, 0, 0, 0, [])]
def mi128 : minfo := (⟨"HeavyChainsModel", "isMarked", "(I)Z"⟩, prog_12_method_42_code, 2, (some .boolean), 1, 60, mt128)
def mt129 : List (Nat × ent) := [(0, .aload_n 0, 1, 0, 0, 0, []),
  (1, .iload_n 1, 1, 0, 0, 0, []),
  (2, .invokevirtual 153, 3, 91, 2, 10, [851, 853, 18, 52]),
  (5, .ifCond .eq 21, 3, 26, 0, 0, []),
  (8, .aload_n 0, 1, 0, 0, 0, []),
  (9, .iload_n 2, 1, 0, 0, 0, []),
  (10, .invokevirtual 153, 3, 91, 2, 10, [851, 853, 18, 52]),
  (13, .ifCond .eq 13, 3, 26, 0, 0, []),
  (16, .iload_n 3, 1, 0, 0, 0, []),
  (17, .i2l, 1, 0, 0, 0, []),
  (18, .lconst 0, 1, 0, 0, 0, []),
  (19, .lconst 1, 1, 0, 0, 0, []),
  (20, .invokestatic 92, 3, 88, 3, 0, [715, 716, 52]),
  (23, .ifCond .ne 5, 3, 28, 0, 0, []),
  (26, .iconst (-1), 1, 0, 0, 0, []),
  (27, .ireturn, 1, 0, 0, 0, []),
  (28, .aload_n 0, 1, 0, 0, 0, []),
  (29, .iload_n 1, 1, 0, 0, 0, []),
  (30, .iload_n 2, 1, 0, 0, 0, []),
  (31, .invokevirtual 164, 3, 105, 3, 10, [864, 866, 19, 52]),
  (34, .iconst 0, 1, 0, 0, 0, []),
  (35, .istore 4, 2, 0, 0, 0, []),
  (37, .iconst 0, 1, 0, 0, 0, []),
  (38, .istore 5, 2, 0, 0, 0, []),
  (40, .iload 5, 2, 0, 0, 0, []),
  (42, .aload_n 0, 1, 0, 0, 0, []),
  (43, .getfield 161, 3, 10, 14, 0, [778]),
  (46, .if_icmp .ge 82, 3, 128, 0, 0, []),
  (49, .aload_n 0, 1, 0, 0, 0, []),
  (50, .aload_n 0, 1, 0, 0, 0, []),
  (51, .getfield 37, 3, 10, 13, 0, [777]),
  (54, .iload 5, 2, 0, 0, 0, []),
  (56, .iaload, 1, 0, 0, 0, []),
  (57, .invokevirtual 226, 3, 128, 2, 10, [962, 964, 31, 52]),
  (60, .iload_n 3, 1, 0, 0, 0, []),
  (61, .iconst 1, 1, 0, 0, 0, []),
  (62, .if_icmp .ne 7, 3, 69, 0, 0, []),
  (65, .iconst 1, 1, 0, 0, 0, []),
  (66, .goto 4, 3, 70, 0, 0, []),
  (69, .iconst 0, 1, 0, 0, 0, []),
  (70, .if_icmp .eq 7, 3, 77, 0, 0, []),
  (73, .iconst 1, 1, 0, 0, 0, []),
  (74, .goto 4, 3, 78, 0, 0, []),
  (77, .iconst 0, 1, 0, 0, 0, []),
  (78, .istore 6, 2, 0, 0, 0, []),
  (80, .aload_n 0, 1, 0, 0, 0, []),
  (81, .dup, 1, 0, 0, 0, []),
  (82, .getfield 134, 3, 10, 18, 0, [782]),
  (85, .iload 6, 2, 0, 0, 0, []),
  (87, .ifCond .eq 15, 3, 102, 0, 0, []),
  (90, .lconst 1, 1, 0, 0, 0, []),
  (91, .aload_n 0, 1, 0, 0, 0, []),
  (92, .getfield 37, 3, 10, 13, 0, [777]),
  (95, .iload 5, 2, 0, 0, 0, []),
  (97, .iaload, 1, 0, 0, 0, []),
  (98, .lshl, 1, 0, 0, 0, []),
  (99, .goto 4, 3, 103, 0, 0, []),
  (102, .lconst 0, 1, 0, 0, 0, []),
  (103, .lxor, 1, 0, 0, 0, []),
  (104, .putfield 134, 3, 10, 18, 0, [782]),
  (107, .iload 4, 2, 0, 0, 0, []),
  (109, .iload 6, 2, 0, 0, 0, []),
  (111, .ifCond .eq 7, 3, 118, 0, 0, []),
  (114, .iconst 1, 1, 0, 0, 0, []),
  (115, .goto 4, 3, 119, 0, 0, []),
  (118, .iconst 0, 1, 0, 0, 0, []),
  (119, .iadd, 1, 0, 0, 0, []),
  (120, .istore 4, 2, 0, 0, 0, []),
  (122, .iinc 5 1, 3, 0, 0, 0, []),
  (125, .goto (-85), 3, 40, 0, 0, []),
  (128, .iload 4, 2, 0, 0, 0, []),
  (130, .ireturn, 1, 0, 0, 0, [])]
def mi129 : minfo := (⟨"HeavyChainsModel", "mark", "(III)I"⟩, prog_12_method_43_code, 7, (some .int), 3, 106, mt129)
def mt130 : List (Nat × ent) := [(0, .iconst 0, 1, 0, 0, 0, []),
  (1, .istore_n 1, 1, 0, 0, 0, []),
  (2, .iconst 0, 1, 0, 0, 0, []),
  (3, .istore_n 2, 1, 0, 0, 0, []),
  (4, .iload_n 2, 1, 0, 0, 0, []),
  (5, .aload_n 0, 1, 0, 0, 0, []),
  (6, .getfield 89, 3, 10, 1, 0, [765]),
  (9, .if_icmp .ge 25, 3, 34, 0, 0, []),
  (12, .iload_n 1, 1, 0, 0, 0, []),
  (13, .aload_n 0, 1, 0, 0, 0, []),
  (14, .iload_n 2, 1, 0, 0, 0, []),
  (15, .invokevirtual 226, 3, 128, 2, 10, [962, 964, 31, 52]),
  (18, .ifCond .eq 7, 3, 25, 0, 0, []),
  (21, .iconst 1, 1, 0, 0, 0, []),
  (22, .goto 4, 3, 26, 0, 0, []),
  (25, .iconst 0, 1, 0, 0, 0, []),
  (26, .iadd, 1, 0, 0, 0, []),
  (27, .istore_n 1, 1, 0, 0, 0, []),
  (28, .iinc 2 1, 3, 0, 0, 0, []),
  (31, .goto (-27), 3, 4, 0, 0, []),
  (34, .iload_n 1, 1, 0, 0, 0, []),
  (35, .ireturn, 1, 0, 0, 0, [])]
def mi130 : minfo := (⟨"HeavyChainsModel", "markedAll", "()I"⟩, prog_12_method_44_code, 3, (some .int), 2, 81, mt130)
def mt131 : List (Nat × ent) := [(0, .aload_n 0, 1, 0, 0, 0, []),
  (1, .iload_n 1, 1, 0, 0, 0, []),
  (2, .invokevirtual 153, 3, 91, 2, 10, [851, 853, 18, 52]),
  (5, .ifCond .ne 5, 3, 10, 0, 0, []),
  (8, .iconst (-1), 1, 0, 0, 0, []),
  (9, .ireturn, 1, 0, 0, 0, []),
  (10, .aload_n 0, 1, 0, 0, 0, []),
  (11, .iload_n 1, 1, 0, 0, 0, []),
  (12, .invokevirtual 190, 3, 106, 2, 10, [906, 908, 26, 52]),
  (15, .iconst 0, 1, 0, 0, 0, []),
  (16, .istore_n 2, 1, 0, 0, 0, []),
  (17, .iload_n 2, 1, 0, 0, 0, []),
  (18, .aload_n 0, 1, 0, 0, 0, []),
  (19, .getfield 161, 3, 10, 14, 0, [778]),
  (22, .if_icmp .ge 26, 3, 48, 0, 0, []),
  (25, .aload_n 0, 1, 0, 0, 0, []),
  (26, .dup, 1, 0, 0, 0, []),
  (27, .getfield 134, 3, 10, 18, 0, [782]),
  (30, .lconst 1, 1, 0, 0, 0, []),
  (31, .aload_n 0, 1, 0, 0, 0, []),
  (32, .getfield 37, 3, 10, 13, 0, [777]),
  (35, .iload_n 2, 1, 0, 0, 0, []),
  (36, .iaload, 1, 0, 0, 0, []),
  (37, .lshl, 1, 0, 0, 0, []),
  (38, .lxor, 1, 0, 0, 0, []),
  (39, .putfield 134, 3, 10, 18, 0, [782]),
  (42, .iinc 2 1, 3, 0, 0, 0, []),
  (45, .goto (-28), 3, 17, 0, 0, []),
  (48, .aload_n 0, 1, 0, 0, 0, []),
  (49, .invokevirtual 229, 3, 130, 1, 10, [970, 972, 32, 52]),
  (52, .ireturn, 1, 0, 0, 0, [])]
def mi131 : minfo := (⟨"HeavyChainsModel", "turn", "(I)I"⟩, prog_12_method_45_code, 3, (some .int), 3, 106, mt131)
def mt132 : List (Nat × ent) := [(0, .aload_n 0, 1, 0, 0, 0, []),
  (1, .iload_n 1, 1, 0, 0, 0, []),
  (2, .invokevirtual 153, 3, 91, 2, 10, [851, 853, 18, 52]),
  (5, .ifCond .ne 5, 3, 10, 0, 0, []),
  (8, .iconst (-1), 1, 0, 0, 0, []),
  (9, .ireturn, 1, 0, 0, 0, []),
  (10, .bipush (-4), 2, 0, 0, 0, []),
  (12, .istore_n 2, 1, 0, 0, 0, []),
  (13, .aload_n 0, 1, 0, 0, 0, []),
  (14, .getfield 89, 3, 10, 1, 0, [765]),
  (17, .iconst 1, 1, 0, 0, 0, []),
  (18, .isub, 1, 0, 0, 0, []),
  (19, .istore_n 3, 1, 0, 0, 0, []),
  (20, .iload_n 3, 1, 0, 0, 0, []),
  (21, .iload_n 1, 1, 0, 0, 0, []),
  (22, .if_icmp .lt 28, 3, 50, 0, 0, []),
  (25, .aload_n 0, 1, 0, 0, 0, []),
  (26, .aload_n 0, 1, 0, 0, 0, []),
  (27, .getfield 31, 3, 10, 8, 0, [772]),
  (30, .iload_n 3, 1, 0, 0, 0, []),
  (31, .iaload, 1, 0, 0, 0, []),
  (32, .invokevirtual 226, 3, 128, 2, 10, [962, 964, 31, 52]),
  (35, .ifCond .eq 7, 3, 42, 0, 0, []),
  (38, .iload_n 3, 1, 0, 0, 0, []),
  (39, .goto 4, 3, 43, 0, 0, []),
  (42, .iload_n 2, 1, 0, 0, 0, []),
  (43, .istore_n 2, 1, 0, 0, 0, []),
  (44, .iinc 3 (-1), 3, 0, 0, 0, []),
  (47, .goto (-27), 3, 20, 0, 0, []),
  (50, .iload_n 2, 1, 0, 0, 0, []),
  (51, .ireturn, 1, 0, 0, 0, [])]
def mi132 : minfo := (⟨"HeavyChainsModel", "marked", "(I)I"⟩, prog_12_method_46_code, 4, (some .int), 3, 106, mt132)
def mt133 : List (Nat × ent) := [(0, .aload_n 0, 1, 0, 0, 0, []),
  (1, .iload_n 1, 1, 0, 0, 0, []),
  (2, .invokevirtual 153, 3, 91, 2, 10, [851, 853, 18, 52]),
  (5, .ifCond .ne 5, 3, 10, 0, 0, []),
  (8, .iconst (-1), 1, 0, 0, 0, []),
  (9, .ireturn, 1, 0, 0, 0, []),
  (10, .bipush (-4), 2, 0, 0, 0, []),
  (12, .istore_n 2, 1, 0, 0, 0, []),
  (13, .bipush 99, 2, 0, 0, 0, []),
  (15, .istore_n 3, 1, 0, 0, 0, []),
  (16, .iconst 0, 1, 0, 0, 0, []),
  (17, .istore 4, 2, 0, 0, 0, []),
  (19, .iload 4, 2, 0, 0, 0, []),
  (21, .aload_n 0, 1, 0, 0, 0, []),
  (22, .getfield 89, 3, 10, 1, 0, [765]),
  (25, .if_icmp .ge 57, 3, 82, 0, 0, []),
  (28, .aload_n 0, 1, 0, 0, 0, []),
  (29, .iload 4, 2, 0, 0, 0, []),
  (31, .invokevirtual 226, 3, 128, 2, 10, [962, 964, 31, 52]),
  (34, .ifCond .eq 42, 3, 76, 0, 0, []),
  (37, .aload_n 0, 1, 0, 0, 0, []),
  (38, .iload_n 1, 1, 0, 0, 0, []),
  (39, .iload 4, 2, 0, 0, 0, []),
  (41, .invokevirtual 164, 3, 105, 3, 10, [864, 866, 19, 52]),
  (44, .aload_n 0, 1, 0, 0, 0, []),
  (45, .getfield 161, 3, 10, 14, 0, [778]),
  (48, .iload_n 3, 1, 0, 0, 0, []),
  (49, .if_icmp .ge 8, 3, 57, 0, 0, []),
  (52, .iload 4, 2, 0, 0, 0, []),
  (54, .goto 4, 3, 58, 0, 0, []),
  (57, .iload_n 2, 1, 0, 0, 0, []),
  (58, .istore_n 2, 1, 0, 0, 0, []),
  (59, .aload_n 0, 1, 0, 0, 0, []),
  (60, .getfield 161, 3, 10, 14, 0, [778]),
  (63, .iload_n 3, 1, 0, 0, 0, []),
  (64, .if_icmp .ge 10, 3, 74, 0, 0, []),
  (67, .aload_n 0, 1, 0, 0, 0, []),
  (68, .getfield 161, 3, 10, 14, 0, [778]),
  (71, .goto 4, 3, 75, 0, 0, []),
  (74, .iload_n 3, 1, 0, 0, 0, []),
  (75, .istore_n 3, 1, 0, 0, 0, []),
  (76, .iinc 4 1, 3, 0, 0, 0, []),
  (79, .goto (-60), 3, 19, 0, 0, []),
  (82, .iload_n 2, 1, 0, 0, 0, []),
  (83, .ireturn, 1, 0, 0, 0, [])]
def mi133 : minfo := (⟨"HeavyChainsModel", "nearest", "(I)I"⟩, prog_12_method_47_code, 5, (some .int), 3, 106, mt133)
def mt134 : List (Nat × ent) := [(0, .aload_n 0, 1, 0, 0, 0, []),
  (1, .iload_n 1, 1, 0, 0, 0, []),
  (2, .invokevirtual 153, 3, 91, 2, 10, [851, 853, 18, 52]),
  (5, .ifCond .eq 25, 3, 30, 0, 0, []),
  (8, .aload_n 0, 1, 0, 0, 0, []),
  (9, .iload_n 2, 1, 0, 0, 0, []),
  (10, .invokevirtual 153, 3, 91, 2, 10, [851, 853, 18, 52]),
  (13, .ifCond .eq 17, 3, 30, 0, 0, []),
  (16, .iload_n 3, 1, 0, 0, 0, []),
  (17, .i2l, 1, 0, 0, 0, []),
  (18, .ldc2_w 198, 3, 0, 0, (-9999), [931]),
  (21, .ldc2_w 200, 3, 0, 0, 9999, [932]),
  (24, .invokestatic 92, 3, 88, 3, 0, [715, 716, 52]),
  (27, .ifCond .ne 5, 3, 32, 0, 0, []),
  (30, .iconst (-1), 1, 0, 0, 0, []),
  (31, .ireturn, 1, 0, 0, 0, []),
  (32, .aload_n 0, 1, 0, 0, 0, []),
  (33, .getfield 138, 3, 10, 20, 0, [784]),
  (36, .bipush 12, 2, 0, 0, 0, []),
  (38, .if_icmp .ne 6, 3, 44, 0, 0, []),
  (41, .bipush (-3), 2, 0, 0, 0, []),
  (43, .ireturn, 1, 0, 0, 0, []),
  (44, .aload_n 0, 1, 0, 0, 0, []),
  (45, .getfield 43, 3, 10, 19, 0, [783]),
  (48, .iconst 4, 1, 0, 0, 0, []),
  (49, .aload_n 0, 1, 0, 0, 0, []),
  (50, .getfield 138, 3, 10, 20, 0, [784]),
  (53, .imul, 1, 0, 0, 0, []),
  (54, .aload_n 0, 1, 0, 0, 0, []),
  (55, .getfield 141, 3, 10, 21, 0, [785]),
  (58, .iastore, 1, 0, 0, 0, []),
  (59, .aload_n 0, 1, 0, 0, 0, []),
  (60, .getfield 43, 3, 10, 19, 0, [783]),
  (63, .iconst 4, 1, 0, 0, 0, []),
  (64, .aload_n 0, 1, 0, 0, 0, []),
  (65, .getfield 138, 3, 10, 20, 0, [784]),
  (68, .imul, 1, 0, 0, 0, []),
  (69, .iconst 1, 1, 0, 0, 0, []),
  (70, .iadd, 1, 0, 0, 0, []),
  (71, .iload_n 1, 1, 0, 0, 0, []),
  (72, .iastore, 1, 0, 0, 0, []),
  (73, .aload_n 0, 1, 0, 0, 0, []),
  (74, .getfield 43, 3, 10, 19, 0, [783]),
  (77, .iconst 4, 1, 0, 0, 0, []),
  (78, .aload_n 0, 1, 0, 0, 0, []),
  (79, .getfield 138, 3, 10, 20, 0, [784]),
  (82, .imul, 1, 0, 0, 0, []),
  (83, .iconst 2, 1, 0, 0, 0, []),
  (84, .iadd, 1, 0, 0, 0, []),
  (85, .iload_n 2, 1, 0, 0, 0, []),
  (86, .iastore, 1, 0, 0, 0, []),
  (87, .aload_n 0, 1, 0, 0, 0, []),
  (88, .getfield 43, 3, 10, 19, 0, [783]),
  (91, .iconst 4, 1, 0, 0, 0, []),
  (92, .aload_n 0, 1, 0, 0, 0, []),
  (93, .getfield 138, 3, 10, 20, 0, [784]),
  (96, .imul, 1, 0, 0, 0, []),
  (97, .iconst 3, 1, 0, 0, 0, []),
  (98, .iadd, 1, 0, 0, 0, []),
  (99, .iload_n 3, 1, 0, 0, 0, []),
  (100, .iastore, 1, 0, 0, 0, []),
  (101, .aload_n 0, 1, 0, 0, 0, []),
  (102, .dup, 1, 0, 0, 0, []),
  (103, .getfield 138, 3, 10, 20, 0, [784]),
  (106, .iconst 1, 1, 0, 0, 0, []),
  (107, .iadd, 1, 0, 0, 0, []),
  (108, .putfield 138, 3, 10, 20, 0, [784]),
  (111, .aload_n 0, 1, 0, 0, 0, []),
  (112, .dup, 1, 0, 0, 0, []),
  (113, .getfield 141, 3, 10, 21, 0, [785]),
  (116, .iconst 1, 1, 0, 0, 0, []),
  (117, .iadd, 1, 0, 0, 0, []),
  (118, .putfield 141, 3, 10, 21, 0, [785]),
  (121, .aload_n 0, 1, 0, 0, 0, []),
  (122, .getfield 141, 3, 10, 21, 0, [785]),
  (125, .iconst 1, 1, 0, 0, 0, []),
  (126, .isub, 1, 0, 0, 0, []),
  (127, .ireturn, 1, 0, 0, 0, [])]
def mi134 : minfo := (⟨"HeavyChainsModel", "watch", "(III)I"⟩, prog_12_method_48_code, 4, (some .int), 3, 106, mt134)
def mt135 : List (Nat × ent) := [(0, .iconst 0, 1, 0, 0, 0, []),
  (1, .istore_n 1, 1, 0, 0, 0, []),
  (2, .iconst 0, 1, 0, 0, 0, []),
  (3, .istore_n 2, 1, 0, 0, 0, []),
  (4, .iload_n 2, 1, 0, 0, 0, []),
  (5, .aload_n 0, 1, 0, 0, 0, []),
  (6, .getfield 138, 3, 10, 20, 0, [784]),
  (9, .if_icmp .ge 86, 3, 95, 0, 0, []),
  (12, .aload_n 0, 1, 0, 0, 0, []),
  (13, .aload_n 0, 1, 0, 0, 0, []),
  (14, .getfield 43, 3, 10, 19, 0, [783]),
  (17, .iconst 4, 1, 0, 0, 0, []),
  (18, .iload_n 2, 1, 0, 0, 0, []),
  (19, .imul, 1, 0, 0, 0, []),
  (20, .iconst 1, 1, 0, 0, 0, []),
  (21, .iadd, 1, 0, 0, 0, []),
  (22, .iaload, 1, 0, 0, 0, []),
  (23, .aload_n 0, 1, 0, 0, 0, []),
  (24, .getfield 43, 3, 10, 19, 0, [783]),
  (27, .iconst 4, 1, 0, 0, 0, []),
  (28, .iload_n 2, 1, 0, 0, 0, []),
  (29, .imul, 1, 0, 0, 0, []),
  (30, .iconst 2, 1, 0, 0, 0, []),
  (31, .iadd, 1, 0, 0, 0, []),
  (32, .iaload, 1, 0, 0, 0, []),
  (33, .invokevirtual 164, 3, 105, 3, 10, [864, 866, 19, 52]),
  (36, .aload_n 0, 1, 0, 0, 0, []),
  (37, .invokevirtual 171, 3, 107, 1, 10, [872, 874, 21, 52]),
  (40, .aload_n 0, 1, 0, 0, 0, []),
  (41, .getfield 43, 3, 10, 19, 0, [783]),
  (44, .iconst 4, 1, 0, 0, 0, []),
  (45, .iload_n 2, 1, 0, 0, 0, []),
  (46, .imul, 1, 0, 0, 0, []),
  (47, .iconst 3, 1, 0, 0, 0, []),
  (48, .iadd, 1, 0, 0, 0, []),
  (49, .iaload, 1, 0, 0, 0, []),
  (50, .if_icmp .ge 39, 3, 89, 0, 0, []),
  (53, .iconst 0, 1, 0, 0, 0, []),
  (54, .istore_n 3, 1, 0, 0, 0, []),
  (55, .iload_n 3, 1, 0, 0, 0, []),
  (56, .iconst 4, 1, 0, 0, 0, []),
  (57, .if_icmp .ge 29, 3, 86, 0, 0, []),
  (60, .aload_n 0, 1, 0, 0, 0, []),
  (61, .getfield 43, 3, 10, 19, 0, [783]),
  (64, .iconst 4, 1, 0, 0, 0, []),
  (65, .iload_n 1, 1, 0, 0, 0, []),
  (66, .imul, 1, 0, 0, 0, []),
  (67, .iload_n 3, 1, 0, 0, 0, []),
  (68, .iadd, 1, 0, 0, 0, []),
  (69, .aload_n 0, 1, 0, 0, 0, []),
  (70, .getfield 43, 3, 10, 19, 0, [783]),
  (73, .iconst 4, 1, 0, 0, 0, []),
  (74, .iload_n 2, 1, 0, 0, 0, []),
  (75, .imul, 1, 0, 0, 0, []),
  (76, .iload_n 3, 1, 0, 0, 0, []),
  (77, .iadd, 1, 0, 0, 0, []),
  (78, .iaload, 1, 0, 0, 0, []),
  (79, .iastore, 1, 0, 0, 0, []),
  (80, .iinc 3 1, 3, 0, 0, 0, []),
  (83, .goto (-28), 3, 55, 0, 0, []),
  (86, .iinc 1 1, 3, 0, 0, 0, []),
  (89, .iinc 2 1, 3, 0, 0, 0, []),
  (92, .goto (-88), 3, 4, 0, 0, []),
  (95, .aload_n 0, 1, 0, 0, 0, []),
  (96, .getfield 138, 3, 10, 20, 0, [784]),
  (99, .iload_n 1, 1, 0, 0, 0, []),
  (100, .isub, 1, 0, 0, 0, []),
  (101, .istore_n 2, 1, 0, 0, 0, []),
  (102, .aload_n 0, 1, 0, 0, 0, []),
  (103, .iload_n 1, 1, 0, 0, 0, []),
  (104, .putfield 138, 3, 10, 20, 0, [784]),
  (107, .iload_n 2, 1, 0, 0, 0, []),
  (108, .ireturn, 1, 0, 0, 0, [])]
def mi135 : minfo := (⟨"HeavyChainsModel", "settle", "()I"⟩, prog_12_method_49_code, 4, (some .int), 2, 86, mt135)
def mt136 : List (Nat × ent) := [(0, .iload_n 1, 1, 0, 0, 0, []),
  (1, .iconst (-1), 1, 0, 0, 0, []),
  (2, .if_icmp .ge 5, 3, 7, 0, 0, []),
  (5, .iconst (-1), 1, 0, 0, 0, []),
  (6, .ireturn, 1, 0, 0, 0, []),
  (7, .iload_n 1, 1, 0, 0, 0, []),
  (8, .iconst (-1), 1, 0, 0, 0, []),
  (9, .if_icmp .ne 10, 3, 19, 0, 0, []),
  (12, .aload_n 0, 1, 0, 0, 0, []),
  (13, .getfield 138, 3, 10, 20, 0, [784]),
  (16, .goto 24, 3, 40, 0, 0, []),
  (19, .iload_n 1, 1, 0, 0, 0, []),
  (20, .aload_n 0, 1, 0, 0, 0, []),
  (21, .getfield 138, 3, 10, 20, 0, [784]),
  (24, .if_icmp .ge 14, 3, 38, 0, 0, []),
  (27, .aload_n 0, 1, 0, 0, 0, []),
  (28, .getfield 43, 3, 10, 19, 0, [783]),
  (31, .iconst 4, 1, 0, 0, 0, []),
  (32, .iload_n 1, 1, 0, 0, 0, []),
  (33, .imul, 1, 0, 0, 0, []),
  (34, .iaload, 1, 0, 0, 0, []),
  (35, .goto 5, 3, 40, 0, 0, []),
  (38, .bipush (-4), 2, 0, 0, 0, []),
  (40, .ireturn, 1, 0, 0, 0, [])]
def mi136 : minfo := (⟨"HeavyChainsModel", "waits", "(I)I"⟩, prog_12_method_50_code, 2, (some .int), 1, 60, mt136)
def mt137 : List (Nat × ent) := [(0, .bipush (-4), 2, 0, 0, 0, []),
  (2, .istore_n 3, 1, 0, 0, 0, []),
  (3, .bipush (-4), 2, 0, 0, 0, []),
  (5, .istore 4, 2, 0, 0, 0, []),
  (7, .iconst 0, 1, 0, 0, 0, []),
  (8, .istore 5, 2, 0, 0, 0, []),
  (10, .iconst 0, 1, 0, 0, 0, []),
  (11, .istore 6, 2, 0, 0, 0, []),
  (13, .iload 6, 2, 0, 0, 0, []),
  (15, .aload_n 0, 1, 0, 0, 0, []),
  (16, .getfield 89, 3, 10, 1, 0, [765]),
  (19, .if_icmp .ge 113, 3, 132, 0, 0, []),
  (22, .iload 6, 2, 0, 0, 0, []),
  (24, .istore 7, 2, 0, 0, 0, []),
  (26, .iload 7, 2, 0, 0, 0, []),
  (28, .aload_n 0, 1, 0, 0, 0, []),
  (29, .getfield 89, 3, 10, 1, 0, [765]),
  (32, .if_icmp .ge 94, 3, 126, 0, 0, []),
  (35, .aload_n 0, 1, 0, 0, 0, []),
  (36, .iload 6, 2, 0, 0, 0, []),
  (38, .iload 7, 2, 0, 0, 0, []),
  (40, .invokevirtual 164, 3, 105, 3, 10, [864, 866, 19, 52]),
  (43, .iload_n 1, 1, 0, 0, 0, []),
  (44, .ifCond .eq 10, 3, 54, 0, 0, []),
  (47, .aload_n 0, 1, 0, 0, 0, []),
  (48, .invokevirtual 171, 3, 107, 1, 10, [872, 874, 21, 52]),
  (51, .goto 7, 3, 58, 0, 0, []),
  (54, .aload_n 0, 1, 0, 0, 0, []),
  (55, .getfield 161, 3, 10, 14, 0, [778]),
  (58, .istore 8, 2, 0, 0, 0, []),
  (60, .iload_n 3, 1, 0, 0, 0, []),
  (61, .bipush (-4), 2, 0, 0, 0, []),
  (63, .if_icmp .eq 10, 3, 73, 0, 0, []),
  (66, .iload 8, 2, 0, 0, 0, []),
  (68, .iload 5, 2, 0, 0, 0, []),
  (70, .if_icmp .le 7, 3, 77, 0, 0, []),
  (73, .iconst 1, 1, 0, 0, 0, []),
  (74, .goto 4, 3, 78, 0, 0, []),
  (77, .iconst 0, 1, 0, 0, 0, []),
  (78, .istore 9, 2, 0, 0, 0, []),
  (80, .iload 9, 2, 0, 0, 0, []),
  (82, .ifCond .eq 8, 3, 90, 0, 0, []),
  (85, .iload 6, 2, 0, 0, 0, []),
  (87, .goto 4, 3, 91, 0, 0, []),
  (90, .iload_n 3, 1, 0, 0, 0, []),
  (91, .istore_n 3, 1, 0, 0, 0, []),
  (92, .iload 9, 2, 0, 0, 0, []),
  (94, .ifCond .eq 8, 3, 102, 0, 0, []),
  (97, .iload 7, 2, 0, 0, 0, []),
  (99, .goto 5, 3, 104, 0, 0, []),
  (102, .iload 4, 2, 0, 0, 0, []),
  (104, .istore 4, 2, 0, 0, 0, []),
  (106, .iload 9, 2, 0, 0, 0, []),
  (108, .ifCond .eq 8, 3, 116, 0, 0, []),
  (111, .iload 8, 2, 0, 0, 0, []),
  (113, .goto 5, 3, 118, 0, 0, []),
  (116, .iload 5, 2, 0, 0, 0, []),
  (118, .istore 5, 2, 0, 0, 0, []),
  (120, .iinc 7 1, 3, 0, 0, 0, []),
  (123, .goto (-97), 3, 26, 0, 0, []),
  (126, .iinc 6 1, 3, 0, 0, 0, []),
  (129, .goto (-116), 3, 13, 0, 0, []),
  (132, .iload_n 2, 1, 0, 0, 0, []),
  (133, .ifCond .ne 7, 3, 140, 0, 0, []),
  (136, .iload_n 3, 1, 0, 0, 0, []),
  (137, .goto 15, 3, 152, 0, 0, []),
  (140, .iload_n 2, 1, 0, 0, 0, []),
  (141, .iconst 1, 1, 0, 0, 0, []),
  (142, .if_icmp .ne 8, 3, 150, 0, 0, []),
  (145, .iload 4, 2, 0, 0, 0, []),
  (147, .goto 5, 3, 152, 0, 0, []),
  (150, .iload 5, 2, 0, 0, 0, []),
  (152, .ireturn, 1, 0, 0, 0, [])]
def mi137 : minfo := (⟨"HeavyChainsModel", "mostOf", "(ZI)I"⟩, prog_12_method_51_code, 10, (some .int), 2, 86, mt137)
def mt138 : List (Nat × ent) := [(0, .iload_n 1, 1, 0, 0, 0, []),
  (1, .i2l, 1, 0, 0, 0, []),
  (2, .lconst 0, 1, 0, 0, 0, []),
  (3, .ldc2_w 188, 3, 0, 0, 2, [905]),
  (6, .invokestatic 92, 3, 88, 3, 0, [715, 716, 52]),
  (9, .ifCond .ne 5, 3, 14, 0, 0, []),
  (12, .iconst (-1), 1, 0, 0, 0, []),
  (13, .ireturn, 1, 0, 0, 0, []),
  (14, .aload_n 0, 1, 0, 0, 0, []),
  (15, .iconst 1, 1, 0, 0, 0, []),
  (16, .iload_n 1, 1, 0, 0, 0, []),
  (17, .invokevirtual 232, 3, 137, 3, 10, [998, 1000, 33, 52]),
  (20, .iload_n 1, 1, 0, 0, 0, []),
  (21, .iconst 2, 1, 0, 0, 0, []),
  (22, .if_icmp .ne 8, 3, 30, 0, 0, []),
  (25, .ldc 157, 2, 0, 0, 1000000, [855]),
  (27, .goto 4, 3, 31, 0, 0, []),
  (30, .iconst 0, 1, 0, 0, 0, []),
  (31, .iadd, 1, 0, 0, 0, []),
  (32, .ireturn, 1, 0, 0, 0, [])]
def mi138 : minfo := (⟨"HeavyChainsModel", "richest", "(I)I"⟩, prog_12_method_52_code, 2, (some .int), 3, 115, mt138)
def mt139 : List (Nat × ent) := [(0, .iload_n 1, 1, 0, 0, 0, []),
  (1, .i2l, 1, 0, 0, 0, []),
  (2, .lconst 0, 1, 0, 0, 0, []),
  (3, .ldc2_w 188, 3, 0, 0, 2, [905]),
  (6, .invokestatic 92, 3, 88, 3, 0, [715, 716, 52]),
  (9, .ifCond .eq 12, 3, 21, 0, 0, []),
  (12, .aload_n 0, 1, 0, 0, 0, []),
  (13, .iconst 0, 1, 0, 0, 0, []),
  (14, .iload_n 1, 1, 0, 0, 0, []),
  (15, .invokevirtual 232, 3, 137, 3, 10, [998, 1000, 33, 52]),
  (18, .goto 4, 3, 22, 0, 0, []),
  (21, .iconst (-1), 1, 0, 0, 0, []),
  (22, .ireturn, 1, 0, 0, 0, [])]
def mi139 : minfo := (⟨"HeavyChainsModel", "longest", "(I)I"⟩, prog_12_method_53_code, 2, (some .int), 3, 115, mt139)
def mt140 : List (Nat × ent) := [(0, .iload_n 1, 1, 0, 0, 0, []),
  (1, .i2l, 1, 0, 0, 0, []),
  (2, .lconst 0, 1, 0, 0, 0, []),
  (3, .ldc2_w 200, 3, 0, 0, 9999, [932]),
  (6, .invokestatic 92, 3, 88, 3, 0, [715, 716, 52]),
  (9, .ifCond .eq 25, 3, 34, 0, 0, []),
  (12, .iload_n 2, 1, 0, 0, 0, []),
  (13, .i2l, 1, 0, 0, 0, []),
  (14, .lconst 1, 1, 0, 0, 0, []),
  (15, .ldc2_w 236, 3, 0, 0, 20, [1010]),
  (18, .invokestatic 92, 3, 88, 3, 0, [715, 716, 52]),
  (21, .ifCond .eq 13, 3, 34, 0, 0, []),
  (24, .iload_n 3, 1, 0, 0, 0, []),
  (25, .i2l, 1, 0, 0, 0, []),
  (26, .lconst 0, 1, 0, 0, 0, []),
  (27, .lconst 1, 1, 0, 0, 0, []),
  (28, .invokestatic 92, 3, 88, 3, 0, [715, 716, 52]),
  (31, .ifCond .ne 5, 3, 36, 0, 0, []),
  (34, .iconst (-1), 1, 0, 0, 0, []),
  (35, .ireturn, 1, 0, 0, 0, []),
  (36, .iconst 0, 1, 0, 0, 0, []),
  (37, .istore 4, 2, 0, 0, 0, []),
  (39, .iload 4, 2, 0, 0, 0, []),
  (41, .bipush 30, 2, 0, 0, 0, []),
  (43, .if_icmp .ge 23, 3, 66, 0, 0, []),
  (46, .aload_n 0, 1, 0, 0, 0, []),
  (47, .getfield 46, 3, 10, 22, 0, [786]),
  (50, .iload 4, 2, 0, 0, 0, []),
  (52, .aload_n 0, 1, 0, 0, 0, []),
  (53, .getfield 7, 3, 10, 0, 0, [764]),
  (56, .iload 4, 2, 0, 0, 0, []),
  (58, .iaload, 1, 0, 0, 0, []),
  (59, .iastore, 1, 0, 0, 0, []),
  (60, .iinc 4 1, 3, 0, 0, 0, []),
  (63, .goto (-24), 3, 39, 0, 0, []),
  (66, .iconst 0, 1, 0, 0, 0, []),
  (67, .istore 4, 2, 0, 0, 0, []),
  (69, .iload 4, 2, 0, 0, 0, []),
  (71, .iload_n 2, 1, 0, 0, 0, []),
  (72, .if_icmp .ge 99, 3, 171, 0, 0, []),
  (75, .ldc2_w 238, 3, 0, 0, 7919, [1011]),
  (78, .iload_n 1, 1, 0, 0, 0, []),
  (79, .i2l, 1, 0, 0, 0, []),
  (80, .lmul, 1, 0, 0, 0, []),
  (81, .ldc2_w 240, 3, 0, 0, 6151, [1012]),
  (84, .iload 4, 2, 0, 0, 0, []),
  (86, .i2l, 1, 0, 0, 0, []),
  (87, .lmul, 1, 0, 0, 0, []),
  (88, .ladd, 1, 0, 0, 0, []),
  (89, .lconst 1, 1, 0, 0, 0, []),
  (90, .ladd, 1, 0, 0, 0, []),
  (91, .lstore 5, 2, 0, 0, 0, []),
  (93, .lload 5, 2, 0, 0, 0, []),
  (95, .lload 5, 2, 0, 0, 0, []),
  (97, .lmul, 1, 0, 0, 0, []),
  (98, .ldc2_w 242, 3, 0, 0, 65521, [1013]),
  (101, .lrem, 1, 0, 0, 0, []),
  (102, .l2i, 1, 0, 0, 0, []),
  (103, .istore 7, 2, 0, 0, 0, []),
  (105, .iload 7, 2, 0, 0, 0, []),
  (107, .bipush 64, 2, 0, 0, 0, []),
  (109, .idiv, 1, 0, 0, 0, []),
  (110, .bipush 41, 2, 0, 0, 0, []),
  (112, .irem, 1, 0, 0, 0, []),
  (113, .bipush 20, 2, 0, 0, 0, []),
  (115, .isub, 1, 0, 0, 0, []),
  (116, .istore 8, 2, 0, 0, 0, []),
  (118, .aload_n 0, 1, 0, 0, 0, []),
  (119, .iload 7, 2, 0, 0, 0, []),
  (121, .iconst 4, 1, 0, 0, 0, []),
  (122, .idiv, 1, 0, 0, 0, []),
  (123, .aload_n 0, 1, 0, 0, 0, []),
  (124, .getfield 89, 3, 10, 1, 0, [765]),
  (127, .irem, 1, 0, 0, 0, []),
  (128, .iload 7, 2, 0, 0, 0, []),
  (130, .sipush 256, 3, 0, 0, 0, []),
  (133, .idiv, 1, 0, 0, 0, []),
  (134, .aload_n 0, 1, 0, 0, 0, []),
  (135, .getfield 89, 3, 10, 1, 0, [765]),
  (138, .irem, 1, 0, 0, 0, []),
  (139, .invokevirtual 164, 3, 105, 3, 10, [864, 866, 19, 52]),
  (142, .aload_n 0, 1, 0, 0, 0, []),
  (143, .iload 8, 2, 0, 0, 0, []),
  (145, .iload 7, 2, 0, 0, 0, []),
  (147, .iconst 4, 1, 0, 0, 0, []),
  (148, .irem, 1, 0, 0, 0, []),
  (149, .invokevirtual 208, 3, 119, 3, 10, [924, 926, 28, 52]),
  (152, .ifCond .eq 13, 3, 165, 0, 0, []),
  (155, .aload_n 0, 1, 0, 0, 0, []),
  (156, .iload 8, 2, 0, 0, 0, []),
  (158, .iload 7, 2, 0, 0, 0, []),
  (160, .iconst 4, 1, 0, 0, 0, []),
  (161, .irem, 1, 0, 0, 0, []),
  (162, .invokevirtual 214, 3, 120, 3, 10, [937, 939, 30, 52]),
  (165, .iinc 4 1, 3, 0, 0, 0, []),
  (168, .goto (-99), 3, 69, 0, 0, []),
  (171, .aload_n 0, 1, 0, 0, 0, []),
  (172, .iconst 0, 1, 0, 0, 0, []),
  (173, .invokevirtual 190, 3, 106, 2, 10, [906, 908, 26, 52]),
  (176, .iload_n 3, 1, 0, 0, 0, []),
  (177, .ifCond .ne 10, 3, 187, 0, 0, []),
  (180, .aload_n 0, 1, 0, 0, 0, []),
  (181, .invokevirtual 171, 3, 107, 1, 10, [872, 874, 21, 52]),
  (184, .goto 7, 3, 191, 0, 0, []),
  (187, .aload_n 0, 1, 0, 0, 0, []),
  (188, .invokevirtual 174, 3, 108, 1, 10, [876, 878, 22, 52]),
  (191, .ldc 157, 2, 0, 0, 1000000, [855]),
  (193, .iadd, 1, 0, 0, 0, []),
  (194, .istore 4, 2, 0, 0, 0, []),
  (196, .iconst 0, 1, 0, 0, 0, []),
  (197, .istore 5, 2, 0, 0, 0, []),
  (199, .iload 5, 2, 0, 0, 0, []),
  (201, .bipush 30, 2, 0, 0, 0, []),
  (203, .if_icmp .ge 23, 3, 226, 0, 0, []),
  (206, .aload_n 0, 1, 0, 0, 0, []),
  (207, .getfield 7, 3, 10, 0, 0, [764]),
  (210, .iload 5, 2, 0, 0, 0, []),
  (212, .aload_n 0, 1, 0, 0, 0, []),
  (213, .getfield 46, 3, 10, 22, 0, [786]),
  (216, .iload 5, 2, 0, 0, 0, []),
  (218, .iaload, 1, 0, 0, 0, []),
  (219, .iastore, 1, 0, 0, 0, []),
  (220, .iinc 5 1, 3, 0, 0, 0, []),
  (223, .goto (-24), 3, 199, 0, 0, []),
  (226, .iload 4, 2, 0, 0, 0, []),
  (228, .ireturn, 1, 0, 0, 0, [])]
def mi140 : minfo := (⟨"HeavyChainsModel", "day", "(III)I"⟩, prog_12_method_54_code, 9, (some .int), 3, 109, mt140)
def mt141 : List (Nat × ent) := [(0, .aload_n 0, 1, 0, 0, 0, []),
  (1, .getfield 147, 3, 10, 24, 0, [788]),
  (4, .iconst 2, 1, 0, 0, 0, []),
  (5, .if_icmp .ne 6, 3, 11, 0, 0, []),
  (8, .bipush (-3), 2, 0, 0, 0, []),
  (10, .ireturn, 1, 0, 0, 0, []),
  (11, .iconst 0, 1, 0, 0, 0, []),
  (12, .istore_n 1, 1, 0, 0, 0, []),
  (13, .iload_n 1, 1, 0, 0, 0, []),
  (14, .bipush 90, 2, 0, 0, 0, []),
  (16, .if_icmp .ge 29, 3, 45, 0, 0, []),
  (19, .aload_n 0, 1, 0, 0, 0, []),
  (20, .getfield 49, 3, 10, 23, 0, [787]),
  (23, .bipush 90, 2, 0, 0, 0, []),
  (25, .aload_n 0, 1, 0, 0, 0, []),
  (26, .getfield 147, 3, 10, 24, 0, [788]),
  (29, .imul, 1, 0, 0, 0, []),
  (30, .iload_n 1, 1, 0, 0, 0, []),
  (31, .iadd, 1, 0, 0, 0, []),
  (32, .aload_n 0, 1, 0, 0, 0, []),
  (33, .getfield 7, 3, 10, 0, 0, [764]),
  (36, .iload_n 1, 1, 0, 0, 0, []),
  (37, .iaload, 1, 0, 0, 0, []),
  (38, .iastore, 1, 0, 0, 0, []),
  (39, .iinc 1 1, 3, 0, 0, 0, []),
  (42, .goto (-29), 3, 13, 0, 0, []),
  (45, .aload_n 0, 1, 0, 0, 0, []),
  (46, .dup, 1, 0, 0, 0, []),
  (47, .getfield 147, 3, 10, 24, 0, [788]),
  (50, .iconst 1, 1, 0, 0, 0, []),
  (51, .iadd, 1, 0, 0, 0, []),
  (52, .putfield 147, 3, 10, 24, 0, [788]),
  (55, .aload_n 0, 1, 0, 0, 0, []),
  (56, .getfield 147, 3, 10, 24, 0, [788]),
  (59, .ireturn, 1, 0, 0, 0, [])]
def mi141 : minfo := (⟨"HeavyChainsModel", "keep", "()I"⟩, prog_12_method_55_code, 2, (some .int), 1, 60, mt141)
def mt142 : List (Nat × ent) := [(0, .aload_n 0, 1, 0, 0, 0, []),
  (1, .getfield 147, 3, 10, 24, 0, [788]),
  (4, .ifCond .ne 6, 3, 10, 0, 0, []),
  (7, .bipush (-2), 2, 0, 0, 0, []),
  (9, .ireturn, 1, 0, 0, 0, []),
  (10, .aload_n 0, 1, 0, 0, 0, []),
  (11, .dup, 1, 0, 0, 0, []),
  (12, .getfield 147, 3, 10, 24, 0, [788]),
  (15, .iconst 1, 1, 0, 0, 0, []),
  (16, .isub, 1, 0, 0, 0, []),
  (17, .putfield 147, 3, 10, 24, 0, [788]),
  (20, .iconst 0, 1, 0, 0, 0, []),
  (21, .istore_n 1, 1, 0, 0, 0, []),
  (22, .iload_n 1, 1, 0, 0, 0, []),
  (23, .bipush 90, 2, 0, 0, 0, []),
  (25, .if_icmp .ge 29, 3, 54, 0, 0, []),
  (28, .aload_n 0, 1, 0, 0, 0, []),
  (29, .getfield 7, 3, 10, 0, 0, [764]),
  (32, .iload_n 1, 1, 0, 0, 0, []),
  (33, .aload_n 0, 1, 0, 0, 0, []),
  (34, .getfield 49, 3, 10, 23, 0, [787]),
  (37, .bipush 90, 2, 0, 0, 0, []),
  (39, .aload_n 0, 1, 0, 0, 0, []),
  (40, .getfield 147, 3, 10, 24, 0, [788]),
  (43, .imul, 1, 0, 0, 0, []),
  (44, .iload_n 1, 1, 0, 0, 0, []),
  (45, .iadd, 1, 0, 0, 0, []),
  (46, .iaload, 1, 0, 0, 0, []),
  (47, .iastore, 1, 0, 0, 0, []),
  (48, .iinc 1 1, 3, 0, 0, 0, []),
  (51, .goto (-29), 3, 22, 0, 0, []),
  (54, .aload_n 0, 1, 0, 0, 0, []),
  (55, .iconst 0, 1, 0, 0, 0, []),
  (56, .putfield 144, 3, 10, 17, 0, [781]),
  (59, .aload_n 0, 1, 0, 0, 0, []),
  (60, .getfield 147, 3, 10, 24, 0, [788]),
  (63, .ireturn, 1, 0, 0, 0, [])]
def mi142 : minfo := (⟨"HeavyChainsModel", "back", "()I"⟩, prog_12_method_56_code, 2, (some .int), 1, 60, mt142)
def mt143 : List (Nat × ent) := [(0, .iconst 0, 1, 0, 0, 0, []),
  (1, .istore_n 1, 1, 0, 0, 0, []),
  (2, .iconst 0, 1, 0, 0, 0, []),
  (3, .istore_n 2, 1, 0, 0, 0, []),
  (4, .iload_n 2, 1, 0, 0, 0, []),
  (5, .aload_n 0, 1, 0, 0, 0, []),
  (6, .getfield 89, 3, 10, 1, 0, [765]),
  (9, .if_icmp .ge 27, 3, 36, 0, 0, []),
  (12, .iload_n 1, 1, 0, 0, 0, []),
  (13, .aload_n 0, 1, 0, 0, 0, []),
  (14, .getfield 25, 3, 10, 6, 0, [770]),
  (17, .iload_n 2, 1, 0, 0, 0, []),
  (18, .iaload, 1, 0, 0, 0, []),
  (19, .iload_n 2, 1, 0, 0, 0, []),
  (20, .if_icmp .ne 7, 3, 27, 0, 0, []),
  (23, .iconst 1, 1, 0, 0, 0, []),
  (24, .goto 4, 3, 28, 0, 0, []),
  (27, .iconst 0, 1, 0, 0, 0, []),
  (28, .iadd, 1, 0, 0, 0, []),
  (29, .istore_n 1, 1, 0, 0, 0, []),
  (30, .iinc 2 1, 3, 0, 0, 0, []),
  (33, .goto (-29), 3, 4, 0, 0, []),
  (36, .iload_n 1, 1, 0, 0, 0, []),
  (37, .ireturn, 1, 0, 0, 0, [])]
def mi143 : minfo := (⟨"HeavyChainsModel", "chains", "()I"⟩, prog_12_method_57_code, 3, (some .int), 1, 60, mt143)
def mt144 : List (Nat × ent) := [(0, .iload_n 1, 1, 0, 0, 0, []),
  (1, .tableswitch 104 0 8 #[51, 56, 61, 66, 71, 76, 81, 86, 91], 51, 0, 0, 0, []),
  (52, .aload_n 0, 1, 0, 0, 0, []),
  (53, .getfield 89, 3, 10, 1, 0, [765]),
  (56, .ireturn, 1, 0, 0, 0, []),
  (57, .aload_n 0, 1, 0, 0, 0, []),
  (58, .invokevirtual 244, 3, 143, 1, 10, [1026, 1028, 34, 52]),
  (61, .ireturn, 1, 0, 0, 0, []),
  (62, .aload_n 0, 1, 0, 0, 0, []),
  (63, .invokevirtual 229, 3, 130, 1, 10, [970, 972, 32, 52]),
  (66, .ireturn, 1, 0, 0, 0, []),
  (67, .aload_n 0, 1, 0, 0, 0, []),
  (68, .getfield 138, 3, 10, 20, 0, [784]),
  (71, .ireturn, 1, 0, 0, 0, []),
  (72, .aload_n 0, 1, 0, 0, 0, []),
  (73, .getfield 141, 3, 10, 21, 0, [785]),
  (76, .ireturn, 1, 0, 0, 0, []),
  (77, .aload_n 0, 1, 0, 0, 0, []),
  (78, .getfield 144, 3, 10, 17, 0, [781]),
  (81, .ireturn, 1, 0, 0, 0, []),
  (82, .aload_n 0, 1, 0, 0, 0, []),
  (83, .getfield 147, 3, 10, 24, 0, [788]),
  (86, .ireturn, 1, 0, 0, 0, []),
  (87, .aload_n 0, 1, 0, 0, 0, []),
  (88, .getfield 80, 3, 10, 11, 0, [775]),
  (91, .ireturn, 1, 0, 0, 0, []),
  (92, .aload_n 0, 1, 0, 0, 0, []),
  (93, .iconst 0, 1, 0, 0, 0, []),
  (94, .invokevirtual 190, 3, 106, 2, 10, [906, 908, 26, 52]),
  (97, .aload_n 0, 1, 0, 0, 0, []),
  (98, .invokevirtual 171, 3, 107, 1, 10, [872, 874, 21, 52]),
  (101, .ldc 157, 2, 0, 0, 1000000, [855]),
  (103, .iadd, 1, 0, 0, 0, []),
  (104, .ireturn, 1, 0, 0, 0, []),
  (105, .iconst (-1), 1, 0, 0, 0, []),
  (106, .ireturn, 1, 0, 0, 0, [])]
def mi144 : minfo := (⟨"HeavyChainsModel", "count", "(I)I"⟩, prog_12_method_58_code, 2, (some .int), 3, 103, mt144)
def mt145 : List (Nat × ent) := [(0, .aload_n 0, 1, 0, 0, 0, []),
  (1, .getfield 9, 3, 99, 1, 0, [1030]),
  (4, .arraylength, 1, 0, 0, 0, []),
  (5, .aload_n 0, 1, 0, 0, 0, []),
  (6, .invokevirtual 335, 3, 147, 1, 99, [297, 298, 299, 47]),
  (9, .ishr, 1, 0, 0, 0, []),
  (10, .ireturn, 1, 0, 0, 0, [])]
def mi145 : minfo := (⟨"java/lang/String", "length", "()I"⟩, prog_14_method_54_code, 1, (some .int), 2, 80, mt145)
def mt146 : List (Nat × ent) := [(0, .aload_n 0, 1, 0, 0, 0, []),
  (1, .invokevirtual 492, 3, 148, 1, 99, [307, 308, 309, 47]),
  (4, .ifCond .eq 12, 3, 16, 0, 0, []),
  (7, .aload_n 0, 1, 0, 0, 0, []),
  (8, .getfield 9, 3, 99, 1, 0, [1030]),
  (11, .iload_n 1, 1, 0, 0, 0, []),
  (12, .invokestatic 495, 3, 150, 2, 0, [311, 312, 48]),
  (15, .ireturn, 1, 0, 0, 0, []),
  (16, .aload_n 0, 1, 0, 0, 0, []),
  (17, .getfield 9, 3, 99, 1, 0, [1030]),
  (20, .iload_n 1, 1, 0, 0, 0, []),
  (21, .invokestatic 498, 3, 9999, 0, 0, []),
  (24, .ireturn, 1, 0, 0, 0, [])]
def mi146 : minfo := (⟨"java/lang/String", "charAt", "(I)C"⟩, prog_14_method_56_code, 2, (some .char), 4, 124, mt146)
def mt147 : List (Nat × ent) := [(0, .getstatic 38, 3, 0, 0, 0, [301]),
  (3, .ifCond .eq 10, 3, 13, 0, 0, []),
  (6, .aload_n 0, 1, 0, 0, 0, []),
  (7, .getfield 15, 3, 99, 0, 0, [1031]),
  (10, .goto 4, 3, 14, 0, 0, []),
  (13, .iconst 1, 1, 0, 0, 0, []),
  (14, .ireturn, 1, 0, 0, 0, [])]
def mi147 : minfo := (⟨"java/lang/String", "code\x72", "()B"⟩, prog_14_method_152_code, 1, (some .byte), 1, 60, mt147)
def mt148 : List (Nat × ent) := [(0, .getstatic 38, 3, 0, 0, 0, [301]),
  (3, .ifCond .eq 14, 3, 17, 0, 0, []),
  (6, .aload_n 0, 1, 0, 0, 0, []),
  (7, .getfield 15, 3, 99, 0, 0, [1031]),
  (10, .ifCond .ne 7, 3, 17, 0, 0, []),
  (13, .iconst 1, 1, 0, 0, 0, []),
  (14, .goto 4, 3, 18, 0, 0, []),
  (17, .iconst 0, 1, 0, 0, 0, []),
  (18, .ireturn, 1, 0, 0, 0, [])]
def mi148 : minfo := (⟨"java/lang/String", "isLatin1", "()Z"⟩, prog_14_method_154_code, 1, (some .boolean), 1, 60, mt148)
def mt149 : List (Nat × ent) := [(0, .iload_n 0, 1, 0, 0, 0, []),
  (1, .iload_n 1, 1, 0, 0, 0, []),
  (2, .getstatic 1053, 3, 1, 0, 0, [317]),
  (5, .invokestatic 1059, 3, 151, 3, 0, [319, 320, 49]),
  (8, .pop, 1, 0, 0, 0, []),
  (9, .return_, 1, 0, 0, 0, [])]
def mi149 : minfo := (⟨"java/lang/String", "checkIndex", "(II)V"⟩, prog_14_method_155_code, 2, none, 2, 82, mt149)
def mt150 : List (Nat × ent) := [(0, .iload_n 1, 1, 0, 0, 0, []),
  (1, .aload_n 0, 1, 0, 0, 0, []),
  (2, .arraylength, 1, 0, 0, 0, []),
  (3, .invokestatic 9, 3, 149, 2, 0, [314, 315, 47]),
  (6, .aload_n 0, 1, 0, 0, 0, []),
  (7, .iload_n 1, 1, 0, 0, 0, []),
  (8, .baload, 1, 0, 0, 0, []),
  (9, .sipush 255, 3, 0, 0, 0, []),
  (12, .iand, 1, 0, 0, 0, []),
  (13, .i2c, 1, 0, 0, 0, []),
  (14, .ireturn, 1, 0, 0, 0, [])]
def mi150 : minfo := (⟨"java/lang/StringLatin1", "charAt", "([BI)C"⟩, prog_15_method_2_code, 2, (some .char), 3, 103, mt150)
def mt151 : List (Nat × ent) := [(0, .iload_n 0, 1, 0, 0, 0, []),
  (1, .ifCond .lt 8, 3, 9, 0, 0, []),
  (4, .iload_n 0, 1, 0, 0, 0, []),
  (5, .iload_n 1, 1, 0, 0, 0, []),
  (6, .if_icmp .lt 10, 3, 16, 0, 0, []),
  (9, .aload_n 2, 1, 0, 0, 0, []),
  (10, .iload_n 0, 1, 0, 0, 0, []),
  (11, .iload_n 1, 1, 0, 0, 0, []),
  (12, .invokestatic 95, 3, 9999, 0, 0, []),
  (15, .athrow, 1, 0, 0, 0, []),
  (16, .iload_n 0, 1, 0, 0, 0, []),
  (17, .ireturn, 1, 0, 0, 0, [])]
def mi151 : minfo := (⟨"jdk/internal/util/Preconditions", "checkIndex", "(IILjava/util/function/BiFunction;)I"⟩, prog_18_method_11_code, 3, (some .int), 1, 60, mt151)
def mtab : List minfo := [mi0, mi1, mi2, mi3, mi4, mi5, mi6, mi7, mi8, mi9, mi10, mi11, mi12, mi13, mi14, mi15, mi16, mi17, mi18, mi19, mi20, mi21, mi22, mi23, mi24, mi25, mi26, mi27, mi28, mi29, mi30, mi31, mi32, mi33, mi34, mi35, mi36, mi37, mi38, mi39, mi40, mi41, mi42, mi43, mi44, mi45, mi46, mi47, mi48, mi49, mi50, mi51, mi52, mi53, mi54, mi55, mi56, mi57, mi58, mi59, mi60, mi61, mi62, mi63, mi64, mi65, mi66, mi67, mi68, mi69, mi70, mi71, mi72, mi73, mi74, mi75, mi76, mi77, mi78, mi79, mi80, mi81, mi82, mi83, mi84, mi85, mi86, mi87, mi88, mi89, mi90, mi91, mi92, mi93, mi94, mi95, mi96, mi97, mi98, mi99, mi100, mi101, mi102, mi103, mi104, mi105, mi106, mi107, mi108, mi109, mi110, mi111, mi112, mi113, mi114, mi115, mi116, mi117, mi118, mi119, mi120, mi121, mi122, mi123, mi124, mi125, mi126, mi127, mi128, mi129, mi130, mi131, mi132, mi133, mi134, mi135, mi136, mi137, mi138, mi139, mi140, mi141, mi142, mi143, mi144, mi145, mi146, mi147, mi148, mi149, mi150, mi151]
end
section
/-! what an entry of code needs of the tables, and that it has it -/
def hostN : String := "HeavyChains"
def fTx : String := "p0011223344556;w5082719364028;f1213141512131;g3021045670123;"
def noMH (y : MethodName) : Bool := decide (y.cls ≠ "java/lang/invoke/MethodHandle") && decide (y.cls ≠ "java/lang/invoke/VarHandle")
def mLink (own : String) (idx : Nat) (y : MethodName) (c : Int) : Cond := if c = 1 then .methodLinkNest own idx y hostN else .methodLink own idx y
def need (own : String) (e : ent) : List Cond :=
  match e.1 with
  | .getfield idx => if eA e = 99 then (if eB e = 0 then [.fieldLink own idx "java/lang/String" "code\x72" "B"] else [.fieldLink own idx "java/lang/String" "value" "[B"]) else
      match classes[eA e]? with
      | some c => [.fieldLink own idx (c.2.1 (eB e)).1 (c.2.1 (eB e)).2.1 (c.2.1 (eB e)).2.2.1]
      | none => []
  | .putfield idx =>
      match classes[eA e]? with
      | some c => [.fieldLink own idx (c.2.1 (eB e)).1 (c.2.1 (eB e)).2.1 (c.2.1 (eB e)).2.2.1]
      | none => []
  | .getstatic idx => if eA e = 0 then [.fieldLink own idx "java/lang/String" "COMPACT_STRINGS" "Z"] else [.fieldLink own idx "jdk/internal/util/Preconditions" "SIOOBE_FORMATTER" "Ljava/util/function/BiFunction;"]
  | .ldc idx => if eA e = 0 then [.constant own idx (Int32.ofInt (eC e))] else [.stringRef own idx fTx]
  | .ldc2_w idx => [.constantLong own idx (Int64.ofInt (eC e))]
  | .new idx =>
      match classes[eA e]? with
      | some c => [.classLink own idx c.1, .instantiable c.1 c.2.2, .initialized c.1]
      | none => []
  | .newarray t => [.arrayClass (newarray.typeOf t)]
  | .anewarray idx => [.classLink own idx cn0, .arrayOver (.object cn0)]
  | .invokevirtual idx =>
      match mtab[eA e]? with
      | some q => [.methodLink own idx (mNm q), .instanceMethod (mNm q), .selects (mNm q).cls (mNm q) (mNm q), .initialized (mNm q).cls]
      | none => []
  | .invokestatic idx =>
      if eA e = 9001 then [.methodLink own idx arraycopyName, .native arraycopyName, .static arraycopyName, .initialized "java/lang/System"] else
      if eA e = 9002 then [.methodLink own idx Lib.Math.max.name, .static Lib.Math.max.name, .initialized "java/lang/Math", .code Lib.Math.max.name Lib.Math.max.code 2 (some .int)] else
      if eA e = 9003 then [.methodLink own idx Lib.Math.min.name, .static Lib.Math.min.name, .initialized "java/lang/Math", .code Lib.Math.min.name Lib.Math.min.code 2 (some .int)] else
      match mtab[eA e]? with
      | some q => [mLink own idx (mNm q) (eC e), .static (mNm q), .initialized (mNm q).cls]
      | none => []
  | .invokespecial idx =>
      if eA e = 9000 then [.methodLink own idx objectInit, .instanceMethod objectInit, .code objectInit ⟨#[0xb1]⟩ 1 none] else
      match mtab[eA e]? with
      | some q => [mLink own idx (mNm q) (eC e), .instanceMethod (mNm q), .initialized (mNm q).cls]
      | none => []
  | _ => []
def nArgs (y : MethodName) : Option Nat := (parseMethodDescriptor y.desc).map (fun d => d.parameters.length)
/-- a call that fits its caller's room -/
def fitC (q : minfo) (e : ent) (k : Nat) : Bool :=
  match mtab[eA e]? with
  | some c => decide (mFr c + 1 ≤ mFr q) && decide (8 + (mLx c + 11) + mLo c ≤ mLo q) && decide (k ≤ eB e) && decide (nArgs (mNm c) = some (eB e - k)) && noMH (mNm c)
  | none => decide (9999 ≤ eA e)
def ilen : Instr → Nat
  | .iload _ | .lload _ | .aload _ | .istore _ | .lstore _ | .astore _ | .bipush _ | .ldc _ | .newarray _ => 2
  | .sipush _ | .ldc2_w _ | .iinc .. | .ifCond .. | .if_icmp .. | .goto _ | .getfield _ | .putfield _ | .getstatic _ | .new _ | .anewarray _ | .invokevirtual _ | .invokestatic _ | .invokespecial _ => 3
  | _ => 1
def lenOk (e : ent) : Bool := match e.1 with
  | .tableswitch .. => true
  | .lookupswitch .. => true
  | i => decide (e.2.1 = ilen i)
def isSpec : Cond → Bool
  | .methodLinkNest .. => true
  | .arrayOver _ => true
  | .stringRef .. => true
  | _ => false
def stat (q : minfo) (pc : Nat) (e : ent) : Bool :=
  match e.1 with
  | .goto off => decide ((pc : Int) + off = (eA e : Int))
  | .ifCond _ off => decide ((pc : Int) + off = (eA e : Int))
  | .if_icmp _ off => decide ((pc : Int) + off = (eA e : Int))
  | .lookupswitch _ ps => (ps.toList.zip (ps.toList.drop 1)).all (fun (a, next) => a.1 < next.1)
  | .getfield _ => decide (eA e = 99) || (match classes[eA e]? with | some c => decide (eB e < c.2.2) | none => false)
  | .putfield _ => (match classes[eA e]? with | some c => decide (eB e < c.2.2) && (!(c.2.1 (eB e)).2.2.2 || (decide ((mNm q).name = "<init>") && decide ((c.2.1 (eB e)).1 = (mNm q).cls))) | none => false)
  | .new _ => (match classes[eA e]? with | some _ => true | none => false)
  | .newarray t => (match t with | .int => decide (eA e = 0) | .boolean => decide (eA e = 1) | .char => decide (eA e = 2) | _ => false)
  | .invokevirtual _ => fitC q e 1 && (match mtab[eA e]? with | some c => (if eC e = 99 then decide ((mNm c).cls = "java/lang/String") else decide ((classes[(eC e).toNat]?).map (fun k => k.1) = some (mNm c).cls)) | none => true)
  | .invokestatic _ => if eA e = 9001 ∨ eA e = 9002 ∨ eA e = 9003 then decide (1 ≤ mFr q) && decide (8 + (nativeFrameWords "java/lang/System" "arraycopy" 5 + 13) ≤ mLo q) else fitC q e 0
  | .invokespecial _ => if eA e = 9000 then decide (1 ≤ mFr q) && decide (20 ≤ mLo q) else fitC q e 1 && (match mtab[eA e]? with | some c => decide ((mNm c).name = "<init>") && decide (mRt c = none) | none => true)
  | _ => true
def chkE (q : minfo) (pe : Nat × ent) : Bool :=
  decide (decode (mBy q) pe.1 = .ok (pe.2.1, pe.2.2.1)) && decide ((eP pe.2).map (fun p => lw_tbl[p]?) = (need (mNm q).cls pe.2).map some) && (need (mNm q).cls pe.2).all (fun w => goodWord w || isSpec w) && lenOk pe.2 && stat q pe.1 pe.2
end
section
theorem ck1 : (mCd mi1).all (chkE mi1) = true := by decide +kernel
theorem ck2 : (mCd mi2).all (chkE mi2) = true := by decide +kernel
theorem ck3 : (mCd mi3).all (chkE mi3) = true := by decide +kernel
theorem ck4 : (mCd mi4).all (chkE mi4) = true := by decide +kernel
theorem ck5 : (mCd mi5).all (chkE mi5) = true := by decide +kernel
theorem ck6 : (mCd mi6).all (chkE mi6) = true := by decide +kernel
theorem ck7 : (mCd mi7).all (chkE mi7) = true := by decide +kernel
theorem ck8 : (mCd mi8).all (chkE mi8) = true := by decide +kernel
theorem ck9 : (mCd mi9).all (chkE mi9) = true := by decide +kernel
theorem ck10 : (mCd mi10).all (chkE mi10) = true := by decide +kernel
theorem ck11 : (mCd mi11).all (chkE mi11) = true := by decide +kernel
theorem ck12 : (mCd mi12).all (chkE mi12) = true := by decide +kernel
theorem ck13 : (mCd mi13).all (chkE mi13) = true := by decide +kernel
theorem ck14 : (mCd mi14).all (chkE mi14) = true := by decide +kernel
theorem ck15 : (mCd mi15).all (chkE mi15) = true := by decide +kernel
theorem ck16 : (mCd mi16).all (chkE mi16) = true := by decide +kernel
theorem ck17 : (mCd mi17).all (chkE mi17) = true := by decide +kernel
theorem ck18 : (mCd mi18).all (chkE mi18) = true := by decide +kernel
theorem ck19 : (mCd mi19).all (chkE mi19) = true := by decide +kernel
theorem ck20 : (mCd mi20).all (chkE mi20) = true := by decide +kernel
theorem ck21 : (mCd mi21).all (chkE mi21) = true := by decide +kernel
theorem ck22 : (mCd mi22).all (chkE mi22) = true := by decide +kernel
theorem ck23 : (mCd mi23).all (chkE mi23) = true := by decide +kernel
theorem ck24 : (mCd mi24).all (chkE mi24) = true := by decide +kernel
theorem ck25 : (mCd mi25).all (chkE mi25) = true := by decide +kernel
theorem ck26 : (mCd mi26).all (chkE mi26) = true := by decide +kernel
theorem ck27 : (mCd mi27).all (chkE mi27) = true := by decide +kernel
theorem ck28 : (mCd mi28).all (chkE mi28) = true := by decide +kernel
theorem ck29 : (mCd mi29).all (chkE mi29) = true := by decide +kernel
theorem ck30 : (mCd mi30).all (chkE mi30) = true := by decide +kernel
theorem ck31 : (mCd mi31).all (chkE mi31) = true := by decide +kernel
theorem ck32 : (mCd mi32).all (chkE mi32) = true := by decide +kernel
theorem ck33 : (mCd mi33).all (chkE mi33) = true := by decide +kernel
theorem ck34 : (mCd mi34).all (chkE mi34) = true := by decide +kernel
theorem ck35 : (mCd mi35).all (chkE mi35) = true := by decide +kernel
theorem ck36 : (mCd mi36).all (chkE mi36) = true := by decide +kernel
theorem ck37 : (mCd mi37).all (chkE mi37) = true := by decide +kernel
theorem ck38 : (mCd mi38).all (chkE mi38) = true := by decide +kernel
theorem ck39 : (mCd mi39).all (chkE mi39) = true := by decide +kernel
theorem ck40 : (mCd mi40).all (chkE mi40) = true := by decide +kernel
theorem ck41 : (mCd mi41).all (chkE mi41) = true := by decide +kernel
theorem ck42 : (mCd mi42).all (chkE mi42) = true := by decide +kernel
theorem ck43 : (mCd mi43).all (chkE mi43) = true := by decide +kernel
theorem ck44 : (mCd mi44).all (chkE mi44) = true := by decide +kernel
theorem ck45 : (mCd mi45).all (chkE mi45) = true := by decide +kernel
theorem ck46 : (mCd mi46).all (chkE mi46) = true := by decide +kernel
theorem ck47 : (mCd mi47).all (chkE mi47) = true := by decide +kernel
theorem ck48 : (mCd mi48).all (chkE mi48) = true := by decide +kernel
theorem ck49 : (mCd mi49).all (chkE mi49) = true := by decide +kernel
theorem ck50 : (mCd mi50).all (chkE mi50) = true := by decide +kernel
theorem ck51 : (mCd mi51).all (chkE mi51) = true := by decide +kernel
theorem ck52 : (mCd mi52).all (chkE mi52) = true := by decide +kernel
theorem ck53 : (mCd mi53).all (chkE mi53) = true := by decide +kernel
theorem ck54 : (mCd mi54).all (chkE mi54) = true := by decide +kernel
theorem ck55 : (mCd mi55).all (chkE mi55) = true := by decide +kernel
theorem ck56 : (mCd mi56).all (chkE mi56) = true := by decide +kernel
theorem ck57 : (mCd mi57).all (chkE mi57) = true := by decide +kernel
theorem ck58 : (mCd mi58).all (chkE mi58) = true := by decide +kernel
theorem ck59 : (mCd mi59).all (chkE mi59) = true := by decide +kernel
theorem ck60 : (mCd mi60).all (chkE mi60) = true := by decide +kernel
theorem ck61 : (mCd mi61).all (chkE mi61) = true := by decide +kernel
theorem ck62 : (mCd mi62).all (chkE mi62) = true := by decide +kernel
theorem ck63 : (mCd mi63).all (chkE mi63) = true := by decide +kernel
theorem ck64 : (mCd mi64).all (chkE mi64) = true := by decide +kernel
theorem ck65 : (mCd mi65).all (chkE mi65) = true := by decide +kernel
theorem ck66 : (mCd mi66).all (chkE mi66) = true := by decide +kernel
theorem ck67 : (mCd mi67).all (chkE mi67) = true := by decide +kernel
theorem ck68 : (mCd mi68).all (chkE mi68) = true := by decide +kernel
theorem ck69 : (mCd mi69).all (chkE mi69) = true := by decide +kernel
theorem ck70 : (mCd mi70).all (chkE mi70) = true := by decide +kernel
theorem ck71 : (mCd mi71).all (chkE mi71) = true := by decide +kernel
theorem ck72 : (mCd mi72).all (chkE mi72) = true := by decide +kernel
theorem ck73 : (mCd mi73).all (chkE mi73) = true := by decide +kernel
theorem ck74 : (mCd mi74).all (chkE mi74) = true := by decide +kernel
theorem ck75 : (mCd mi75).all (chkE mi75) = true := by decide +kernel
theorem ck76 : (mCd mi76).all (chkE mi76) = true := by decide +kernel
theorem ck77 : (mCd mi77).all (chkE mi77) = true := by decide +kernel
theorem ck78 : (mCd mi78).all (chkE mi78) = true := by decide +kernel
theorem ck79 : (mCd mi79).all (chkE mi79) = true := by decide +kernel
theorem ck80 : (mCd mi80).all (chkE mi80) = true := by decide +kernel
theorem ck81 : (mCd mi81).all (chkE mi81) = true := by decide +kernel
theorem ck82 : (mCd mi82).all (chkE mi82) = true := by decide +kernel
theorem ck83 : (mCd mi83).all (chkE mi83) = true := by decide +kernel
theorem ck84 : (mCd mi84).all (chkE mi84) = true := by decide +kernel
theorem ck85 : (mCd mi85).all (chkE mi85) = true := by decide +kernel
theorem ck86 : (mCd mi86).all (chkE mi86) = true := by decide +kernel
theorem ck87 : (mCd mi87).all (chkE mi87) = true := by decide +kernel
theorem ck88 : (mCd mi88).all (chkE mi88) = true := by decide +kernel
theorem ck89 : (mCd mi89).all (chkE mi89) = true := by decide +kernel
theorem ck90 : (mCd mi90).all (chkE mi90) = true := by decide +kernel
theorem ck91 : (mCd mi91).all (chkE mi91) = true := by decide +kernel
theorem ck92 : (mCd mi92).all (chkE mi92) = true := by decide +kernel
theorem ck93 : (mCd mi93).all (chkE mi93) = true := by decide +kernel
theorem ck94 : (mCd mi94).all (chkE mi94) = true := by decide +kernel
theorem ck95 : (mCd mi95).all (chkE mi95) = true := by decide +kernel
theorem ck96 : (mCd mi96).all (chkE mi96) = true := by decide +kernel
theorem ck97 : (mCd mi97).all (chkE mi97) = true := by decide +kernel
theorem ck98 : (mCd mi98).all (chkE mi98) = true := by decide +kernel
theorem ck99 : (mCd mi99).all (chkE mi99) = true := by decide +kernel
theorem ck100 : (mCd mi100).all (chkE mi100) = true := by decide +kernel
theorem ck101 : (mCd mi101).all (chkE mi101) = true := by decide +kernel
theorem ck102 : (mCd mi102).all (chkE mi102) = true := by decide +kernel
theorem ck103 : (mCd mi103).all (chkE mi103) = true := by decide +kernel
theorem ck104 : (mCd mi104).all (chkE mi104) = true := by decide +kernel
theorem ck105 : (mCd mi105).all (chkE mi105) = true := by decide +kernel
theorem ck106 : (mCd mi106).all (chkE mi106) = true := by decide +kernel
theorem ck107 : (mCd mi107).all (chkE mi107) = true := by decide +kernel
theorem ck108 : (mCd mi108).all (chkE mi108) = true := by decide +kernel
theorem ck109 : (mCd mi109).all (chkE mi109) = true := by decide +kernel
theorem ck110 : (mCd mi110).all (chkE mi110) = true := by decide +kernel
theorem ck111 : (mCd mi111).all (chkE mi111) = true := by decide +kernel
theorem ck112 : (mCd mi112).all (chkE mi112) = true := by decide +kernel
theorem ck113 : (mCd mi113).all (chkE mi113) = true := by decide +kernel
theorem ck114 : (mCd mi114).all (chkE mi114) = true := by decide +kernel
theorem ck115 : (mCd mi115).all (chkE mi115) = true := by decide +kernel
theorem ck116 : (mCd mi116).all (chkE mi116) = true := by decide +kernel
theorem ck117 : (mCd mi117).all (chkE mi117) = true := by decide +kernel
theorem ck118 : (mCd mi118).all (chkE mi118) = true := by decide +kernel
theorem ck119 : (mCd mi119).all (chkE mi119) = true := by decide +kernel
theorem ck120 : (mCd mi120).all (chkE mi120) = true := by decide +kernel
theorem ck121 : (mCd mi121).all (chkE mi121) = true := by decide +kernel
theorem ck122 : (mCd mi122).all (chkE mi122) = true := by decide +kernel
theorem ck123 : (mCd mi123).all (chkE mi123) = true := by decide +kernel
theorem ck124 : (mCd mi124).all (chkE mi124) = true := by decide +kernel
theorem ck125 : (mCd mi125).all (chkE mi125) = true := by decide +kernel
theorem ck126 : (mCd mi126).all (chkE mi126) = true := by decide +kernel
theorem ck127 : (mCd mi127).all (chkE mi127) = true := by decide +kernel
theorem ck128 : (mCd mi128).all (chkE mi128) = true := by decide +kernel
theorem ck129 : (mCd mi129).all (chkE mi129) = true := by decide +kernel
theorem ck130 : (mCd mi130).all (chkE mi130) = true := by decide +kernel
theorem ck131 : (mCd mi131).all (chkE mi131) = true := by decide +kernel
theorem ck132 : (mCd mi132).all (chkE mi132) = true := by decide +kernel
theorem ck133 : (mCd mi133).all (chkE mi133) = true := by decide +kernel
theorem ck134 : (mCd mi134).all (chkE mi134) = true := by decide +kernel
theorem ck135 : (mCd mi135).all (chkE mi135) = true := by decide +kernel
theorem ck136 : (mCd mi136).all (chkE mi136) = true := by decide +kernel
theorem ck137 : (mCd mi137).all (chkE mi137) = true := by decide +kernel
theorem ck138 : (mCd mi138).all (chkE mi138) = true := by decide +kernel
theorem ck139 : (mCd mi139).all (chkE mi139) = true := by decide +kernel
theorem ck140 : (mCd mi140).all (chkE mi140) = true := by decide +kernel
theorem ck141 : (mCd mi141).all (chkE mi141) = true := by decide +kernel
theorem ck142 : (mCd mi142).all (chkE mi142) = true := by decide +kernel
theorem ck143 : (mCd mi143).all (chkE mi143) = true := by decide +kernel
theorem ck144 : (mCd mi144).all (chkE mi144) = true := by decide +kernel
theorem ck145 : (mCd mi145).all (chkE mi145) = true := by decide +kernel
theorem ck146 : (mCd mi146).all (chkE mi146) = true := by decide +kernel
theorem ck147 : (mCd mi147).all (chkE mi147) = true := by decide +kernel
theorem ck148 : (mCd mi148).all (chkE mi148) = true := by decide +kernel
theorem ck149 : (mCd mi149).all (chkE mi149) = true := by decide +kernel
theorem ck150 : (mCd mi150).all (chkE mi150) = true := by decide +kernel
theorem ck151 : (mCd mi151).all (chkE mi151) = true := by decide +kernel
end
section
theorem ck0_0 : mt0_0.all (chkE mi0) = true := by decide +kernel
theorem ck0_1 : mt0_1.all (chkE mi0) = true := by decide +kernel
theorem ck0_2 : mt0_2.all (chkE mi0) = true := by decide +kernel
theorem ck0_3 : mt0_3.all (chkE mi0) = true := by decide +kernel
theorem ck0_4 : mt0_4.all (chkE mi0) = true := by decide +kernel
theorem ck0_5 : mt0_5.all (chkE mi0) = true := by decide +kernel
theorem ck0_6 : mt0_6.all (chkE mi0) = true := by decide +kernel
theorem ck0_7 : mt0_7.all (chkE mi0) = true := by decide +kernel
theorem ck0_8 : mt0_8.all (chkE mi0) = true := by decide +kernel
theorem ck0_9 : mt0_9.all (chkE mi0) = true := by decide +kernel
theorem ck0_10 : mt0_10.all (chkE mi0) = true := by decide +kernel
theorem ck0_11 : mt0_11.all (chkE mi0) = true := by decide +kernel
theorem ck0_12 : mt0_12.all (chkE mi0) = true := by decide +kernel
theorem ck0_13 : mt0_13.all (chkE mi0) = true := by decide +kernel
theorem ck0_14 : mt0_14.all (chkE mi0) = true := by decide +kernel
theorem ck0_15 : mt0_15.all (chkE mi0) = true := by decide +kernel
theorem ck0_16 : mt0_16.all (chkE mi0) = true := by decide +kernel
theorem ck0 : (mCd mi0).all (chkE mi0) = true := by
  show mt0.all (chkE mi0) = true
  simp only [mt0, List.all_append, ck0_0, ck0_1, ck0_2, ck0_3, ck0_4, ck0_5, ck0_6, ck0_7, ck0_8, ck0_9, ck0_10, ck0_11, ck0_12, ck0_13, ck0_14, ck0_15, ck0_16, Bool.and_self]
end
section
theorem cd1 : Cond.code (mNm mi1) (mBy mi1) (mLx mi1) (mRt mi1) ∈ lw_tbl ∧ goodWord (Cond.code (mNm mi1) (mBy mi1) (mLx mi1) (mRt mi1)) = true ∧ plainName (mNm mi1).cls = true := ⟨List.mem_of_getElem? (i := 88) (by decide +kernel), by decide +kernel, by decide +kernel⟩
theorem cd2 : Cond.code (mNm mi2) (mBy mi2) (mLx mi2) (mRt mi2) ∈ lw_tbl ∧ goodWord (Cond.code (mNm mi2) (mBy mi2) (mLx mi2) (mRt mi2)) = true ∧ plainName (mNm mi2).cls = true := ⟨List.mem_of_getElem? (i := 370) (by decide +kernel), by decide +kernel, by decide +kernel⟩
theorem cd3 : Cond.code (mNm mi3) (mBy mi3) (mLx mi3) (mRt mi3) ∈ lw_tbl ∧ goodWord (Cond.code (mNm mi3) (mBy mi3) (mLx mi3) (mRt mi3)) = true ∧ plainName (mNm mi3).cls = true := ⟨List.mem_of_getElem? (i := 397) (by decide +kernel), by decide +kernel, by decide +kernel⟩
theorem cd4 : Cond.code (mNm mi4) (mBy mi4) (mLx mi4) (mRt mi4) ∈ lw_tbl ∧ goodWord (Cond.code (mNm mi4) (mBy mi4) (mLx mi4) (mRt mi4)) = true ∧ plainName (mNm mi4).cls = true := ⟨List.mem_of_getElem? (i := 696) (by decide +kernel), by decide +kernel, by decide +kernel⟩
theorem cd5 : Cond.code (mNm mi5) (mBy mi5) (mLx mi5) (mRt mi5) ∈ lw_tbl ∧ goodWord (Cond.code (mNm mi5) (mBy mi5) (mLx mi5) (mRt mi5)) = true ∧ plainName (mNm mi5).cls = true := ⟨List.mem_of_getElem? (i := 65) (by decide +kernel), by decide +kernel, by decide +kernel⟩
theorem cd6 : Cond.code (mNm mi6) (mBy mi6) (mLx mi6) (mRt mi6) ∈ lw_tbl ∧ goodWord (Cond.code (mNm mi6) (mBy mi6) (mLx mi6) (mRt mi6)) = true ∧ plainName (mNm mi6).cls = true := ⟨List.mem_of_getElem? (i := 344) (by decide +kernel), by decide +kernel, by decide +kernel⟩
theorem cd7 : Cond.code (mNm mi7) (mBy mi7) (mLx mi7) (mRt mi7) ∈ lw_tbl ∧ goodWord (Cond.code (mNm mi7) (mBy mi7) (mLx mi7) (mRt mi7)) = true ∧ plainName (mNm mi7).cls = true := ⟨List.mem_of_getElem? (i := 258) (by decide +kernel), by decide +kernel, by decide +kernel⟩
theorem cd8 : Cond.code (mNm mi8) (mBy mi8) (mLx mi8) (mRt mi8) ∈ lw_tbl ∧ goodWord (Cond.code (mNm mi8) (mBy mi8) (mLx mi8) (mRt mi8)) = true ∧ plainName (mNm mi8).cls = true := ⟨List.mem_of_getElem? (i := 404) (by decide +kernel), by decide +kernel, by decide +kernel⟩
theorem cd9 : Cond.code (mNm mi9) (mBy mi9) (mLx mi9) (mRt mi9) ∈ lw_tbl ∧ goodWord (Cond.code (mNm mi9) (mBy mi9) (mLx mi9) (mRt mi9)) = true ∧ plainName (mNm mi9).cls = true := ⟨List.mem_of_getElem? (i := 602) (by decide +kernel), by decide +kernel, by decide +kernel⟩
theorem cd10 : Cond.code (mNm mi10) (mBy mi10) (mLx mi10) (mRt mi10) ∈ lw_tbl ∧ goodWord (Cond.code (mNm mi10) (mBy mi10) (mLx mi10) (mRt mi10)) = true ∧ plainName (mNm mi10).cls = true := ⟨List.mem_of_getElem? (i := 566) (by decide +kernel), by decide +kernel, by decide +kernel⟩
theorem cd11 : Cond.code (mNm mi11) (mBy mi11) (mLx mi11) (mRt mi11) ∈ lw_tbl ∧ goodWord (Cond.code (mNm mi11) (mBy mi11) (mLx mi11) (mRt mi11)) = true ∧ plainName (mNm mi11).cls = true := ⟨List.mem_of_getElem? (i := 590) (by decide +kernel), by decide +kernel, by decide +kernel⟩
theorem cd12 : Cond.code (mNm mi12) (mBy mi12) (mLx mi12) (mRt mi12) ∈ lw_tbl ∧ goodWord (Cond.code (mNm mi12) (mBy mi12) (mLx mi12) (mRt mi12)) = true ∧ plainName (mNm mi12).cls = true := ⟨List.mem_of_getElem? (i := 598) (by decide +kernel), by decide +kernel, by decide +kernel⟩
theorem cd13 : Cond.code (mNm mi13) (mBy mi13) (mLx mi13) (mRt mi13) ∈ lw_tbl ∧ goodWord (Cond.code (mNm mi13) (mBy mi13) (mLx mi13) (mRt mi13)) = true ∧ plainName (mNm mi13).cls = true := ⟨List.mem_of_getElem? (i := 610) (by decide +kernel), by decide +kernel, by decide +kernel⟩
theorem cd14 : Cond.code (mNm mi14) (mBy mi14) (mLx mi14) (mRt mi14) ∈ lw_tbl ∧ goodWord (Cond.code (mNm mi14) (mBy mi14) (mLx mi14) (mRt mi14)) = true ∧ plainName (mNm mi14).cls = true := ⟨List.mem_of_getElem? (i := 622) (by decide +kernel), by decide +kernel, by decide +kernel⟩
theorem cd15 : Cond.code (mNm mi15) (mBy mi15) (mLx mi15) (mRt mi15) ∈ lw_tbl ∧ goodWord (Cond.code (mNm mi15) (mBy mi15) (mLx mi15) (mRt mi15)) = true ∧ plainName (mNm mi15).cls = true := ⟨List.mem_of_getElem? (i := 82) (by decide +kernel), by decide +kernel, by decide +kernel⟩
theorem cd16 : Cond.code (mNm mi16) (mBy mi16) (mLx mi16) (mRt mi16) ∈ lw_tbl ∧ goodWord (Cond.code (mNm mi16) (mBy mi16) (mLx mi16) (mRt mi16)) = true ∧ plainName (mNm mi16).cls = true := ⟨List.mem_of_getElem? (i := 352) (by decide +kernel), by decide +kernel, by decide +kernel⟩
theorem cd17 : Cond.code (mNm mi17) (mBy mi17) (mLx mi17) (mRt mi17) ∈ lw_tbl ∧ goodWord (Cond.code (mNm mi17) (mBy mi17) (mLx mi17) (mRt mi17)) = true ∧ plainName (mNm mi17).cls = true := ⟨List.mem_of_getElem? (i := 355) (by decide +kernel), by decide +kernel, by decide +kernel⟩
theorem cd18 : Cond.code (mNm mi18) (mBy mi18) (mLx mi18) (mRt mi18) ∈ lw_tbl ∧ goodWord (Cond.code (mNm mi18) (mBy mi18) (mLx mi18) (mRt mi18)) = true ∧ plainName (mNm mi18).cls = true := ⟨List.mem_of_getElem? (i := 358) (by decide +kernel), by decide +kernel, by decide +kernel⟩
theorem cd19 : Cond.code (mNm mi19) (mBy mi19) (mLx mi19) (mRt mi19) ∈ lw_tbl ∧ goodWord (Cond.code (mNm mi19) (mBy mi19) (mLx mi19) (mRt mi19)) = true ∧ plainName (mNm mi19).cls = true := ⟨List.mem_of_getElem? (i := 362) (by decide +kernel), by decide +kernel, by decide +kernel⟩
theorem cd20 : Cond.code (mNm mi20) (mBy mi20) (mLx mi20) (mRt mi20) ∈ lw_tbl ∧ goodWord (Cond.code (mNm mi20) (mBy mi20) (mLx mi20) (mRt mi20)) = true ∧ plainName (mNm mi20).cls = true := ⟨List.mem_of_getElem? (i := 366) (by decide +kernel), by decide +kernel, by decide +kernel⟩
theorem cd21 : Cond.code (mNm mi21) (mBy mi21) (mLx mi21) (mRt mi21) ∈ lw_tbl ∧ goodWord (Cond.code (mNm mi21) (mBy mi21) (mLx mi21) (mRt mi21)) = true ∧ plainName (mNm mi21).cls = true := ⟨List.mem_of_getElem? (i := 374) (by decide +kernel), by decide +kernel, by decide +kernel⟩
theorem cd22 : Cond.code (mNm mi22) (mBy mi22) (mLx mi22) (mRt mi22) ∈ lw_tbl ∧ goodWord (Cond.code (mNm mi22) (mBy mi22) (mLx mi22) (mRt mi22)) = true ∧ plainName (mNm mi22).cls = true := ⟨List.mem_of_getElem? (i := 208) (by decide +kernel), by decide +kernel, by decide +kernel⟩
theorem cd23 : Cond.code (mNm mi23) (mBy mi23) (mLx mi23) (mRt mi23) ∈ lw_tbl ∧ goodWord (Cond.code (mNm mi23) (mBy mi23) (mLx mi23) (mRt mi23)) = true ∧ plainName (mNm mi23).cls = true := ⟨List.mem_of_getElem? (i := 486) (by decide +kernel), by decide +kernel, by decide +kernel⟩
theorem cd24 : Cond.code (mNm mi24) (mBy mi24) (mLx mi24) (mRt mi24) ∈ lw_tbl ∧ goodWord (Cond.code (mNm mi24) (mBy mi24) (mLx mi24) (mRt mi24)) = true ∧ plainName (mNm mi24).cls = true := ⟨List.mem_of_getElem? (i := 525) (by decide +kernel), by decide +kernel, by decide +kernel⟩
theorem cd25 : Cond.code (mNm mi25) (mBy mi25) (mLx mi25) (mRt mi25) ∈ lw_tbl ∧ goodWord (Cond.code (mNm mi25) (mBy mi25) (mLx mi25) (mRt mi25)) = true ∧ plainName (mNm mi25).cls = true := ⟨List.mem_of_getElem? (i := 549) (by decide +kernel), by decide +kernel, by decide +kernel⟩
theorem cd26 : Cond.code (mNm mi26) (mBy mi26) (mLx mi26) (mRt mi26) ∈ lw_tbl ∧ goodWord (Cond.code (mNm mi26) (mBy mi26) (mLx mi26) (mRt mi26)) = true ∧ plainName (mNm mi26).cls = true := ⟨List.mem_of_getElem? (i := 517) (by decide +kernel), by decide +kernel, by decide +kernel⟩
theorem cd27 : Cond.code (mNm mi27) (mBy mi27) (mLx mi27) (mRt mi27) ∈ lw_tbl ∧ goodWord (Cond.code (mNm mi27) (mBy mi27) (mLx mi27) (mRt mi27)) = true ∧ plainName (mNm mi27).cls = true := ⟨List.mem_of_getElem? (i := 553) (by decide +kernel), by decide +kernel, by decide +kernel⟩
theorem cd28 : Cond.code (mNm mi28) (mBy mi28) (mLx mi28) (mRt mi28) ∈ lw_tbl ∧ goodWord (Cond.code (mNm mi28) (mBy mi28) (mLx mi28) (mRt mi28)) = true ∧ plainName (mNm mi28).cls = true := ⟨List.mem_of_getElem? (i := 557) (by decide +kernel), by decide +kernel, by decide +kernel⟩
theorem cd29 : Cond.code (mNm mi29) (mBy mi29) (mLx mi29) (mRt mi29) ∈ lw_tbl ∧ goodWord (Cond.code (mNm mi29) (mBy mi29) (mLx mi29) (mRt mi29)) = true ∧ plainName (mNm mi29).cls = true := ⟨List.mem_of_getElem? (i := 562) (by decide +kernel), by decide +kernel, by decide +kernel⟩
theorem cd30 : Cond.code (mNm mi30) (mBy mi30) (mLx mi30) (mRt mi30) ∈ lw_tbl ∧ goodWord (Cond.code (mNm mi30) (mBy mi30) (mLx mi30) (mRt mi30)) = true ∧ plainName (mNm mi30).cls = true := ⟨List.mem_of_getElem? (i := 578) (by decide +kernel), by decide +kernel, by decide +kernel⟩
theorem cd31 : Cond.code (mNm mi31) (mBy mi31) (mLx mi31) (mRt mi31) ∈ lw_tbl ∧ goodWord (Cond.code (mNm mi31) (mBy mi31) (mLx mi31) (mRt mi31)) = true ∧ plainName (mNm mi31).cls = true := ⟨List.mem_of_getElem? (i := 498) (by decide +kernel), by decide +kernel, by decide +kernel⟩
theorem cd32 : Cond.code (mNm mi32) (mBy mi32) (mLx mi32) (mRt mi32) ∈ lw_tbl ∧ goodWord (Cond.code (mNm mi32) (mBy mi32) (mLx mi32) (mRt mi32)) = true ∧ plainName (mNm mi32).cls = true := ⟨List.mem_of_getElem? (i := 513) (by decide +kernel), by decide +kernel, by decide +kernel⟩
theorem cd33 : Cond.code (mNm mi33) (mBy mi33) (mLx mi33) (mRt mi33) ∈ lw_tbl ∧ goodWord (Cond.code (mNm mi33) (mBy mi33) (mLx mi33) (mRt mi33)) = true ∧ plainName (mNm mi33).cls = true := ⟨List.mem_of_getElem? (i := 501) (by decide +kernel), by decide +kernel, by decide +kernel⟩
theorem cd34 : Cond.code (mNm mi34) (mBy mi34) (mLx mi34) (mRt mi34) ∈ lw_tbl ∧ goodWord (Cond.code (mNm mi34) (mBy mi34) (mLx mi34) (mRt mi34)) = true ∧ plainName (mNm mi34).cls = true := ⟨List.mem_of_getElem? (i := 185) (by decide +kernel), by decide +kernel, by decide +kernel⟩
theorem cd35 : Cond.code (mNm mi35) (mBy mi35) (mLx mi35) (mRt mi35) ∈ lw_tbl ∧ goodWord (Cond.code (mNm mi35) (mBy mi35) (mLx mi35) (mRt mi35)) = true ∧ plainName (mNm mi35).cls = true := ⟨List.mem_of_getElem? (i := 507) (by decide +kernel), by decide +kernel, by decide +kernel⟩
theorem cd36 : Cond.code (mNm mi36) (mBy mi36) (mLx mi36) (mRt mi36) ∈ lw_tbl ∧ goodWord (Cond.code (mNm mi36) (mBy mi36) (mLx mi36) (mRt mi36)) = true ∧ plainName (mNm mi36).cls = true := ⟨List.mem_of_getElem? (i := 541) (by decide +kernel), by decide +kernel, by decide +kernel⟩
theorem cd37 : Cond.code (mNm mi37) (mBy mi37) (mLx mi37) (mRt mi37) ∈ lw_tbl ∧ goodWord (Cond.code (mNm mi37) (mBy mi37) (mLx mi37) (mRt mi37)) = true ∧ plainName (mNm mi37).cls = true := ⟨List.mem_of_getElem? (i := 229) (by decide +kernel), by decide +kernel, by decide +kernel⟩
theorem cd38 : Cond.code (mNm mi38) (mBy mi38) (mLx mi38) (mRt mi38) ∈ lw_tbl ∧ goodWord (Cond.code (mNm mi38) (mBy mi38) (mLx mi38) (mRt mi38)) = true ∧ plainName (mNm mi38).cls = true := ⟨List.mem_of_getElem? (i := 618) (by decide +kernel), by decide +kernel, by decide +kernel⟩
theorem cd39 : Cond.code (mNm mi39) (mBy mi39) (mLx mi39) (mRt mi39) ∈ lw_tbl ∧ goodWord (Cond.code (mNm mi39) (mBy mi39) (mLx mi39) (mRt mi39)) = true ∧ plainName (mNm mi39).cls = true := ⟨List.mem_of_getElem? (i := 656) (by decide +kernel), by decide +kernel, by decide +kernel⟩
theorem cd40 : Cond.code (mNm mi40) (mBy mi40) (mLx mi40) (mRt mi40) ∈ lw_tbl ∧ goodWord (Cond.code (mNm mi40) (mBy mi40) (mLx mi40) (mRt mi40)) = true ∧ plainName (mNm mi40).cls = true := ⟨List.mem_of_getElem? (i := 661) (by decide +kernel), by decide +kernel, by decide +kernel⟩
theorem cd41 : Cond.code (mNm mi41) (mBy mi41) (mLx mi41) (mRt mi41) ∈ lw_tbl ∧ goodWord (Cond.code (mNm mi41) (mBy mi41) (mLx mi41) (mRt mi41)) = true ∧ plainName (mNm mi41).cls = true := ⟨List.mem_of_getElem? (i := 126) (by decide +kernel), by decide +kernel, by decide +kernel⟩
theorem cd42 : Cond.code (mNm mi42) (mBy mi42) (mLx mi42) (mRt mi42) ∈ lw_tbl ∧ goodWord (Cond.code (mNm mi42) (mBy mi42) (mLx mi42) (mRt mi42)) = true ∧ plainName (mNm mi42).cls = true := ⟨List.mem_of_getElem? (i := 378) (by decide +kernel), by decide +kernel, by decide +kernel⟩
theorem cd43 : Cond.code (mNm mi43) (mBy mi43) (mLx mi43) (mRt mi43) ∈ lw_tbl ∧ goodWord (Cond.code (mNm mi43) (mBy mi43) (mLx mi43) (mRt mi43)) = true ∧ plainName (mNm mi43).cls = true := ⟨List.mem_of_getElem? (i := 385) (by decide +kernel), by decide +kernel, by decide +kernel⟩
theorem cd44 : Cond.code (mNm mi44) (mBy mi44) (mLx mi44) (mRt mi44) ∈ lw_tbl ∧ goodWord (Cond.code (mNm mi44) (mBy mi44) (mLx mi44) (mRt mi44)) = true ∧ plainName (mNm mi44).cls = true := ⟨List.mem_of_getElem? (i := 393) (by decide +kernel), by decide +kernel, by decide +kernel⟩
theorem cd45 : Cond.code (mNm mi45) (mBy mi45) (mLx mi45) (mRt mi45) ∈ lw_tbl ∧ goodWord (Cond.code (mNm mi45) (mBy mi45) (mLx mi45) (mRt mi45)) = true ∧ plainName (mNm mi45).cls = true := ⟨List.mem_of_getElem? (i := 389) (by decide +kernel), by decide +kernel, by decide +kernel⟩
theorem cd46 : Cond.code (mNm mi46) (mBy mi46) (mLx mi46) (mRt mi46) ∈ lw_tbl ∧ goodWord (Cond.code (mNm mi46) (mBy mi46) (mLx mi46) (mRt mi46)) = true ∧ plainName (mNm mi46).cls = true := ⟨List.mem_of_getElem? (i := 490) (by decide +kernel), by decide +kernel, by decide +kernel⟩
theorem cd47 : Cond.code (mNm mi47) (mBy mi47) (mLx mi47) (mRt mi47) ∈ lw_tbl ∧ goodWord (Cond.code (mNm mi47) (mBy mi47) (mLx mi47) (mRt mi47)) = true ∧ plainName (mNm mi47).cls = true := ⟨List.mem_of_getElem? (i := 268) (by decide +kernel), by decide +kernel, by decide +kernel⟩
theorem cd48 : Cond.code (mNm mi48) (mBy mi48) (mLx mi48) (mRt mi48) ∈ lw_tbl ∧ goodWord (Cond.code (mNm mi48) (mBy mi48) (mLx mi48) (mRt mi48)) = true ∧ plainName (mNm mi48).cls = true := ⟨List.mem_of_getElem? (i := 408) (by decide +kernel), by decide +kernel, by decide +kernel⟩
theorem cd49 : Cond.code (mNm mi49) (mBy mi49) (mLx mi49) (mRt mi49) ∈ lw_tbl ∧ goodWord (Cond.code (mNm mi49) (mBy mi49) (mLx mi49) (mRt mi49)) = true ∧ plainName (mNm mi49).cls = true := ⟨List.mem_of_getElem? (i := 630) (by decide +kernel), by decide +kernel, by decide +kernel⟩
theorem cd50 : Cond.code (mNm mi50) (mBy mi50) (mLx mi50) (mRt mi50) ∈ lw_tbl ∧ goodWord (Cond.code (mNm mi50) (mBy mi50) (mLx mi50) (mRt mi50)) = true ∧ plainName (mNm mi50).cls = true := ⟨List.mem_of_getElem? (i := 638) (by decide +kernel), by decide +kernel, by decide +kernel⟩
theorem cd51 : Cond.code (mNm mi51) (mBy mi51) (mLx mi51) (mRt mi51) ∈ lw_tbl ∧ goodWord (Cond.code (mNm mi51) (mBy mi51) (mLx mi51) (mRt mi51)) = true ∧ plainName (mNm mi51).cls = true := ⟨List.mem_of_getElem? (i := 644) (by decide +kernel), by decide +kernel, by decide +kernel⟩
theorem cd52 : Cond.code (mNm mi52) (mBy mi52) (mLx mi52) (mRt mi52) ∈ lw_tbl ∧ goodWord (Cond.code (mNm mi52) (mBy mi52) (mLx mi52) (mRt mi52)) = true ∧ plainName (mNm mi52).cls = true := ⟨List.mem_of_getElem? (i := 57) (by decide +kernel), by decide +kernel, by decide +kernel⟩
theorem cd53 : Cond.code (mNm mi53) (mBy mi53) (mLx mi53) (mRt mi53) ∈ lw_tbl ∧ goodWord (Cond.code (mNm mi53) (mBy mi53) (mLx mi53) (mRt mi53)) = true ∧ plainName (mNm mi53).cls = true := ⟨List.mem_of_getElem? (i := 447) (by decide +kernel), by decide +kernel, by decide +kernel⟩
theorem cd54 : Cond.code (mNm mi54) (mBy mi54) (mLx mi54) (mRt mi54) ∈ lw_tbl ∧ goodWord (Cond.code (mNm mi54) (mBy mi54) (mLx mi54) (mRt mi54)) = true ∧ plainName (mNm mi54).cls = true := ⟨List.mem_of_getElem? (i := 454) (by decide +kernel), by decide +kernel, by decide +kernel⟩
theorem cd55 : Cond.code (mNm mi55) (mBy mi55) (mLx mi55) (mRt mi55) ∈ lw_tbl ∧ goodWord (Cond.code (mNm mi55) (mBy mi55) (mLx mi55) (mRt mi55)) = true ∧ plainName (mNm mi55).cls = true := ⟨List.mem_of_getElem? (i := 458) (by decide +kernel), by decide +kernel, by decide +kernel⟩
theorem cd56 : Cond.code (mNm mi56) (mBy mi56) (mLx mi56) (mRt mi56) ∈ lw_tbl ∧ goodWord (Cond.code (mNm mi56) (mBy mi56) (mLx mi56) (mRt mi56)) = true ∧ plainName (mNm mi56).cls = true := ⟨List.mem_of_getElem? (i := 462) (by decide +kernel), by decide +kernel, by decide +kernel⟩
theorem cd57 : Cond.code (mNm mi57) (mBy mi57) (mLx mi57) (mRt mi57) ∈ lw_tbl ∧ goodWord (Cond.code (mNm mi57) (mBy mi57) (mLx mi57) (mRt mi57)) = true ∧ plainName (mNm mi57).cls = true := ⟨List.mem_of_getElem? (i := 466) (by decide +kernel), by decide +kernel, by decide +kernel⟩
theorem cd58 : Cond.code (mNm mi58) (mBy mi58) (mLx mi58) (mRt mi58) ∈ lw_tbl ∧ goodWord (Cond.code (mNm mi58) (mBy mi58) (mLx mi58) (mRt mi58)) = true ∧ plainName (mNm mi58).cls = true := ⟨List.mem_of_getElem? (i := 475) (by decide +kernel), by decide +kernel, by decide +kernel⟩
theorem cd59 : Cond.code (mNm mi59) (mBy mi59) (mLx mi59) (mRt mi59) ∈ lw_tbl ∧ goodWord (Cond.code (mNm mi59) (mBy mi59) (mLx mi59) (mRt mi59)) = true ∧ plainName (mNm mi59).cls = true := ⟨List.mem_of_getElem? (i := 479) (by decide +kernel), by decide +kernel, by decide +kernel⟩
theorem cd60 : Cond.code (mNm mi60) (mBy mi60) (mLx mi60) (mRt mi60) ∈ lw_tbl ∧ goodWord (Cond.code (mNm mi60) (mBy mi60) (mLx mi60) (mRt mi60)) = true ∧ plainName (mNm mi60).cls = true := ⟨List.mem_of_getElem? (i := 521) (by decide +kernel), by decide +kernel, by decide +kernel⟩
theorem cd61 : Cond.code (mNm mi61) (mBy mi61) (mLx mi61) (mRt mi61) ∈ lw_tbl ∧ goodWord (Cond.code (mNm mi61) (mBy mi61) (mLx mi61) (mRt mi61)) = true ∧ plainName (mNm mi61).cls = true := ⟨List.mem_of_getElem? (i := 529) (by decide +kernel), by decide +kernel, by decide +kernel⟩
theorem cd62 : Cond.code (mNm mi62) (mBy mi62) (mLx mi62) (mRt mi62) ∈ lw_tbl ∧ goodWord (Cond.code (mNm mi62) (mBy mi62) (mLx mi62) (mRt mi62)) = true ∧ plainName (mNm mi62).cls = true := ⟨List.mem_of_getElem? (i := 533) (by decide +kernel), by decide +kernel, by decide +kernel⟩
theorem cd63 : Cond.code (mNm mi63) (mBy mi63) (mLx mi63) (mRt mi63) ∈ lw_tbl ∧ goodWord (Cond.code (mNm mi63) (mBy mi63) (mLx mi63) (mRt mi63)) = true ∧ plainName (mNm mi63).cls = true := ⟨List.mem_of_getElem? (i := 537) (by decide +kernel), by decide +kernel, by decide +kernel⟩
theorem cd64 : Cond.code (mNm mi64) (mBy mi64) (mLx mi64) (mRt mi64) ∈ lw_tbl ∧ goodWord (Cond.code (mNm mi64) (mBy mi64) (mLx mi64) (mRt mi64)) = true ∧ plainName (mNm mi64).cls = true := ⟨List.mem_of_getElem? (i := 545) (by decide +kernel), by decide +kernel, by decide +kernel⟩
theorem cd65 : Cond.code (mNm mi65) (mBy mi65) (mLx mi65) (mRt mi65) ∈ lw_tbl ∧ goodWord (Cond.code (mNm mi65) (mBy mi65) (mLx mi65) (mRt mi65)) = true ∧ plainName (mNm mi65).cls = true := ⟨List.mem_of_getElem? (i := 570) (by decide +kernel), by decide +kernel, by decide +kernel⟩
theorem cd66 : Cond.code (mNm mi66) (mBy mi66) (mLx mi66) (mRt mi66) ∈ lw_tbl ∧ goodWord (Cond.code (mNm mi66) (mBy mi66) (mLx mi66) (mRt mi66)) = true ∧ plainName (mNm mi66).cls = true := ⟨List.mem_of_getElem? (i := 574) (by decide +kernel), by decide +kernel, by decide +kernel⟩
theorem cd67 : Cond.code (mNm mi67) (mBy mi67) (mLx mi67) (mRt mi67) ∈ lw_tbl ∧ goodWord (Cond.code (mNm mi67) (mBy mi67) (mLx mi67) (mRt mi67)) = true ∧ plainName (mNm mi67).cls = true := ⟨List.mem_of_getElem? (i := 582) (by decide +kernel), by decide +kernel, by decide +kernel⟩
theorem cd68 : Cond.code (mNm mi68) (mBy mi68) (mLx mi68) (mRt mi68) ∈ lw_tbl ∧ goodWord (Cond.code (mNm mi68) (mBy mi68) (mLx mi68) (mRt mi68)) = true ∧ plainName (mNm mi68).cls = true := ⟨List.mem_of_getElem? (i := 586) (by decide +kernel), by decide +kernel, by decide +kernel⟩
theorem cd69 : Cond.code (mNm mi69) (mBy mi69) (mLx mi69) (mRt mi69) ∈ lw_tbl ∧ goodWord (Cond.code (mNm mi69) (mBy mi69) (mLx mi69) (mRt mi69)) = true ∧ plainName (mNm mi69).cls = true := ⟨List.mem_of_getElem? (i := 594) (by decide +kernel), by decide +kernel, by decide +kernel⟩
theorem cd70 : Cond.code (mNm mi70) (mBy mi70) (mLx mi70) (mRt mi70) ∈ lw_tbl ∧ goodWord (Cond.code (mNm mi70) (mBy mi70) (mLx mi70) (mRt mi70)) = true ∧ plainName (mNm mi70).cls = true := ⟨List.mem_of_getElem? (i := 606) (by decide +kernel), by decide +kernel, by decide +kernel⟩
theorem cd71 : Cond.code (mNm mi71) (mBy mi71) (mLx mi71) (mRt mi71) ∈ lw_tbl ∧ goodWord (Cond.code (mNm mi71) (mBy mi71) (mLx mi71) (mRt mi71)) = true ∧ plainName (mNm mi71).cls = true := ⟨List.mem_of_getElem? (i := 614) (by decide +kernel), by decide +kernel, by decide +kernel⟩
theorem cd72 : Cond.code (mNm mi72) (mBy mi72) (mLx mi72) (mRt mi72) ∈ lw_tbl ∧ goodWord (Cond.code (mNm mi72) (mBy mi72) (mLx mi72) (mRt mi72)) = true ∧ plainName (mNm mi72).cls = true := ⟨List.mem_of_getElem? (i := 626) (by decide +kernel), by decide +kernel, by decide +kernel⟩
theorem cd73 : Cond.code (mNm mi73) (mBy mi73) (mLx mi73) (mRt mi73) ∈ lw_tbl ∧ goodWord (Cond.code (mNm mi73) (mBy mi73) (mLx mi73) (mRt mi73)) = true ∧ plainName (mNm mi73).cls = true := ⟨List.mem_of_getElem? (i := 634) (by decide +kernel), by decide +kernel, by decide +kernel⟩
theorem cd74 : Cond.code (mNm mi74) (mBy mi74) (mLx mi74) (mRt mi74) ∈ lw_tbl ∧ goodWord (Cond.code (mNm mi74) (mBy mi74) (mLx mi74) (mRt mi74)) = true ∧ plainName (mNm mi74).cls = true := ⟨List.mem_of_getElem? (i := 648) (by decide +kernel), by decide +kernel, by decide +kernel⟩
theorem cd75 : Cond.code (mNm mi75) (mBy mi75) (mLx mi75) (mRt mi75) ∈ lw_tbl ∧ goodWord (Cond.code (mNm mi75) (mBy mi75) (mLx mi75) (mRt mi75)) = true ∧ plainName (mNm mi75).cls = true := ⟨List.mem_of_getElem? (i := 652) (by decide +kernel), by decide +kernel, by decide +kernel⟩
theorem cd76 : Cond.code (mNm mi76) (mBy mi76) (mLx mi76) (mRt mi76) ∈ lw_tbl ∧ goodWord (Cond.code (mNm mi76) (mBy mi76) (mLx mi76) (mRt mi76)) = true ∧ plainName (mNm mi76).cls = true := ⟨List.mem_of_getElem? (i := 665) (by decide +kernel), by decide +kernel, by decide +kernel⟩
theorem cd77 : Cond.code (mNm mi77) (mBy mi77) (mLx mi77) (mRt mi77) ∈ lw_tbl ∧ goodWord (Cond.code (mNm mi77) (mBy mi77) (mLx mi77) (mRt mi77)) = true ∧ plainName (mNm mi77).cls = true := ⟨List.mem_of_getElem? (i := 669) (by decide +kernel), by decide +kernel, by decide +kernel⟩
theorem cd78 : Cond.code (mNm mi78) (mBy mi78) (mLx mi78) (mRt mi78) ∈ lw_tbl ∧ goodWord (Cond.code (mNm mi78) (mBy mi78) (mLx mi78) (mRt mi78)) = true ∧ plainName (mNm mi78).cls = true := ⟨List.mem_of_getElem? (i := 684) (by decide +kernel), by decide +kernel, by decide +kernel⟩
theorem cd79 : Cond.code (mNm mi79) (mBy mi79) (mLx mi79) (mRt mi79) ∈ lw_tbl ∧ goodWord (Cond.code (mNm mi79) (mBy mi79) (mLx mi79) (mRt mi79)) = true ∧ plainName (mNm mi79).cls = true := ⟨List.mem_of_getElem? (i := 688) (by decide +kernel), by decide +kernel, by decide +kernel⟩
theorem cd80 : Cond.code (mNm mi80) (mBy mi80) (mLx mi80) (mRt mi80) ∈ lw_tbl ∧ goodWord (Cond.code (mNm mi80) (mBy mi80) (mLx mi80) (mRt mi80)) = true ∧ plainName (mNm mi80).cls = true := ⟨List.mem_of_getElem? (i := 692) (by decide +kernel), by decide +kernel, by decide +kernel⟩
theorem cd81 : Cond.code (mNm mi81) (mBy mi81) (mLx mi81) (mRt mi81) ∈ lw_tbl ∧ goodWord (Cond.code (mNm mi81) (mBy mi81) (mLx mi81) (mRt mi81)) = true ∧ plainName (mNm mi81).cls = true := ⟨List.mem_of_getElem? (i := 450) (by decide +kernel), by decide +kernel, by decide +kernel⟩
theorem cd82 : Cond.code (mNm mi82) (mBy mi82) (mLx mi82) (mRt mi82) ∈ lw_tbl ∧ goodWord (Cond.code (mNm mi82) (mBy mi82) (mLx mi82) (mRt mi82)) = true ∧ plainName (mNm mi82).cls = true := ⟨List.mem_of_getElem? (i := 482) (by decide +kernel), by decide +kernel, by decide +kernel⟩
theorem cd83 : Cond.code (mNm mi83) (mBy mi83) (mLx mi83) (mRt mi83) ∈ lw_tbl ∧ goodWord (Cond.code (mNm mi83) (mBy mi83) (mLx mi83) (mRt mi83)) = true ∧ plainName (mNm mi83).cls = true := ⟨List.mem_of_getElem? (i := 470) (by decide +kernel), by decide +kernel, by decide +kernel⟩
theorem cd84 : Cond.code (mNm mi84) (mBy mi84) (mLx mi84) (mRt mi84) ∈ lw_tbl ∧ goodWord (Cond.code (mNm mi84) (mBy mi84) (mLx mi84) (mRt mi84)) = true ∧ plainName (mNm mi84).cls = true := ⟨List.mem_of_getElem? (i := 348) (by decide +kernel), by decide +kernel, by decide +kernel⟩
theorem cd85 : Cond.code (mNm mi85) (mBy mi85) (mLx mi85) (mRt mi85) ∈ lw_tbl ∧ goodWord (Cond.code (mNm mi85) (mBy mi85) (mLx mi85) (mRt mi85)) = true ∧ plainName (mNm mi85).cls = true := ⟨List.mem_of_getElem? (i := 494) (by decide +kernel), by decide +kernel, by decide +kernel⟩
theorem cd86 : Cond.code (mNm mi86) (mBy mi86) (mLx mi86) (mRt mi86) ∈ lw_tbl ∧ goodWord (Cond.code (mNm mi86) (mBy mi86) (mLx mi86) (mRt mi86)) = true ∧ plainName (mNm mi86).cls = true := ⟨List.mem_of_getElem? (i := 672) (by decide +kernel), by decide +kernel, by decide +kernel⟩
theorem cd87 : Cond.code (mNm mi87) (mBy mi87) (mLx mi87) (mRt mi87) ∈ lw_tbl ∧ goodWord (Cond.code (mNm mi87) (mBy mi87) (mLx mi87) (mRt mi87)) = true ∧ plainName (mNm mi87).cls = true := ⟨List.mem_of_getElem? (i := 679) (by decide +kernel), by decide +kernel, by decide +kernel⟩
theorem cd88 : Cond.code (mNm mi88) (mBy mi88) (mLx mi88) (mRt mi88) ∈ lw_tbl ∧ goodWord (Cond.code (mNm mi88) (mBy mi88) (mLx mi88) (mRt mi88)) = true ∧ plainName (mNm mi88).cls = true := ⟨List.mem_of_getElem? (i := 717) (by decide +kernel), by decide +kernel, by decide +kernel⟩
theorem cd89 : Cond.code (mNm mi89) (mBy mi89) (mLx mi89) (mRt mi89) ∈ lw_tbl ∧ goodWord (Cond.code (mNm mi89) (mBy mi89) (mLx mi89) (mRt mi89)) = true ∧ plainName (mNm mi89).cls = true := ⟨List.mem_of_getElem? (i := 701) (by decide +kernel), by decide +kernel, by decide +kernel⟩
theorem cd90 : Cond.code (mNm mi90) (mBy mi90) (mLx mi90) (mRt mi90) ∈ lw_tbl ∧ goodWord (Cond.code (mNm mi90) (mBy mi90) (mLx mi90) (mRt mi90)) = true ∧ plainName (mNm mi90).cls = true := ⟨List.mem_of_getElem? (i := 707) (by decide +kernel), by decide +kernel, by decide +kernel⟩
theorem cd91 : Cond.code (mNm mi91) (mBy mi91) (mLx mi91) (mRt mi91) ∈ lw_tbl ∧ goodWord (Cond.code (mNm mi91) (mBy mi91) (mLx mi91) (mRt mi91)) = true ∧ plainName (mNm mi91).cls = true := ⟨List.mem_of_getElem? (i := 854) (by decide +kernel), by decide +kernel, by decide +kernel⟩
theorem cd92 : Cond.code (mNm mi92) (mBy mi92) (mLx mi92) (mRt mi92) ∈ lw_tbl ∧ goodWord (Cond.code (mNm mi92) (mBy mi92) (mLx mi92) (mRt mi92)) = true ∧ plainName (mNm mi92).cls = true := ⟨List.mem_of_getElem? (i := 712) (by decide +kernel), by decide +kernel, by decide +kernel⟩
theorem cd93 : Cond.code (mNm mi93) (mBy mi93) (mLx mi93) (mRt mi93) ∈ lw_tbl ∧ goodWord (Cond.code (mNm mi93) (mBy mi93) (mLx mi93) (mRt mi93)) = true ∧ plainName (mNm mi93).cls = true := ⟨List.mem_of_getElem? (i := 844) (by decide +kernel), by decide +kernel, by decide +kernel⟩
theorem cd94 : Cond.code (mNm mi94) (mBy mi94) (mLx mi94) (mRt mi94) ∈ lw_tbl ∧ goodWord (Cond.code (mNm mi94) (mBy mi94) (mLx mi94) (mRt mi94)) = true ∧ plainName (mNm mi94).cls = true := ⟨List.mem_of_getElem? (i := 739) (by decide +kernel), by decide +kernel, by decide +kernel⟩
theorem cd95 : Cond.code (mNm mi95) (mBy mi95) (mLx mi95) (mRt mi95) ∈ lw_tbl ∧ goodWord (Cond.code (mNm mi95) (mBy mi95) (mLx mi95) (mRt mi95)) = true ∧ plainName (mNm mi95).cls = true := ⟨List.mem_of_getElem? (i := 736) (by decide +kernel), by decide +kernel, by decide +kernel⟩
theorem cd96 : Cond.code (mNm mi96) (mBy mi96) (mLx mi96) (mRt mi96) ∈ lw_tbl ∧ goodWord (Cond.code (mNm mi96) (mBy mi96) (mLx mi96) (mRt mi96)) = true ∧ plainName (mNm mi96).cls = true := ⟨List.mem_of_getElem? (i := 747) (by decide +kernel), by decide +kernel, by decide +kernel⟩
theorem cd97 : Cond.code (mNm mi97) (mBy mi97) (mLx mi97) (mRt mi97) ∈ lw_tbl ∧ goodWord (Cond.code (mNm mi97) (mBy mi97) (mLx mi97) (mRt mi97)) = true ∧ plainName (mNm mi97).cls = true := ⟨List.mem_of_getElem? (i := 751) (by decide +kernel), by decide +kernel, by decide +kernel⟩
theorem cd98 : Cond.code (mNm mi98) (mBy mi98) (mLx mi98) (mRt mi98) ∈ lw_tbl ∧ goodWord (Cond.code (mNm mi98) (mBy mi98) (mLx mi98) (mRt mi98)) = true ∧ plainName (mNm mi98).cls = true := ⟨List.mem_of_getElem? (i := 732) (by decide +kernel), by decide +kernel, by decide +kernel⟩
theorem cd99 : Cond.code (mNm mi99) (mBy mi99) (mLx mi99) (mRt mi99) ∈ lw_tbl ∧ goodWord (Cond.code (mNm mi99) (mBy mi99) (mLx mi99) (mRt mi99)) = true ∧ plainName (mNm mi99).cls = true := ⟨List.mem_of_getElem? (i := 755) (by decide +kernel), by decide +kernel, by decide +kernel⟩
theorem cd100 : Cond.code (mNm mi100) (mBy mi100) (mLx mi100) (mRt mi100) ∈ lw_tbl ∧ goodWord (Cond.code (mNm mi100) (mBy mi100) (mLx mi100) (mRt mi100)) = true ∧ plainName (mNm mi100).cls = true := ⟨List.mem_of_getElem? (i := 728) (by decide +kernel), by decide +kernel, by decide +kernel⟩
theorem cd101 : Cond.code (mNm mi101) (mBy mi101) (mLx mi101) (mRt mi101) ∈ lw_tbl ∧ goodWord (Cond.code (mNm mi101) (mBy mi101) (mLx mi101) (mRt mi101)) = true ∧ plainName (mNm mi101).cls = true := ⟨List.mem_of_getElem? (i := 759) (by decide +kernel), by decide +kernel, by decide +kernel⟩
theorem cd102 : Cond.code (mNm mi102) (mBy mi102) (mLx mi102) (mRt mi102) ∈ lw_tbl ∧ goodWord (Cond.code (mNm mi102) (mBy mi102) (mLx mi102) (mRt mi102)) = true ∧ plainName (mNm mi102).cls = true := ⟨List.mem_of_getElem? (i := 763) (by decide +kernel), by decide +kernel, by decide +kernel⟩
theorem cd103 : Cond.code (mNm mi103) (mBy mi103) (mLx mi103) (mRt mi103) ∈ lw_tbl ∧ goodWord (Cond.code (mNm mi103) (mBy mi103) (mLx mi103) (mRt mi103)) = true ∧ plainName (mNm mi103).cls = true := ⟨List.mem_of_getElem? (i := 850) (by decide +kernel), by decide +kernel, by decide +kernel⟩
theorem cd104 : Cond.code (mNm mi104) (mBy mi104) (mLx mi104) (mRt mi104) ∈ lw_tbl ∧ goodWord (Cond.code (mNm mi104) (mBy mi104) (mLx mi104) (mRt mi104)) = true ∧ plainName (mNm mi104).cls = true := ⟨List.mem_of_getElem? (i := 859) (by decide +kernel), by decide +kernel, by decide +kernel⟩
theorem cd105 : Cond.code (mNm mi105) (mBy mi105) (mLx mi105) (mRt mi105) ∈ lw_tbl ∧ goodWord (Cond.code (mNm mi105) (mBy mi105) (mLx mi105) (mRt mi105)) = true ∧ plainName (mNm mi105).cls = true := ⟨List.mem_of_getElem? (i := 867) (by decide +kernel), by decide +kernel, by decide +kernel⟩
theorem cd106 : Cond.code (mNm mi106) (mBy mi106) (mLx mi106) (mRt mi106) ∈ lw_tbl ∧ goodWord (Cond.code (mNm mi106) (mBy mi106) (mLx mi106) (mRt mi106)) = true ∧ plainName (mNm mi106).cls = true := ⟨List.mem_of_getElem? (i := 909) (by decide +kernel), by decide +kernel, by decide +kernel⟩
theorem cd107 : Cond.code (mNm mi107) (mBy mi107) (mLx mi107) (mRt mi107) ∈ lw_tbl ∧ goodWord (Cond.code (mNm mi107) (mBy mi107) (mLx mi107) (mRt mi107)) = true ∧ plainName (mNm mi107).cls = true := ⟨List.mem_of_getElem? (i := 875) (by decide +kernel), by decide +kernel, by decide +kernel⟩
theorem cd108 : Cond.code (mNm mi108) (mBy mi108) (mLx mi108) (mRt mi108) ∈ lw_tbl ∧ goodWord (Cond.code (mNm mi108) (mBy mi108) (mLx mi108) (mRt mi108)) = true ∧ plainName (mNm mi108).cls = true := ⟨List.mem_of_getElem? (i := 879) (by decide +kernel), by decide +kernel, by decide +kernel⟩
theorem cd109 : Cond.code (mNm mi109) (mBy mi109) (mLx mi109) (mRt mi109) ∈ lw_tbl ∧ goodWord (Cond.code (mNm mi109) (mBy mi109) (mLx mi109) (mRt mi109)) = true ∧ plainName (mNm mi109).cls = true := ⟨List.mem_of_getElem? (i := 883) (by decide +kernel), by decide +kernel, by decide +kernel⟩
theorem cd110 : Cond.code (mNm mi110) (mBy mi110) (mLx mi110) (mRt mi110) ∈ lw_tbl ∧ goodWord (Cond.code (mNm mi110) (mBy mi110) (mLx mi110) (mRt mi110)) = true ∧ plainName (mNm mi110).cls = true := ⟨List.mem_of_getElem? (i := 891) (by decide +kernel), by decide +kernel, by decide +kernel⟩
theorem cd111 : Cond.code (mNm mi111) (mBy mi111) (mLx mi111) (mRt mi111) ∈ lw_tbl ∧ goodWord (Cond.code (mNm mi111) (mBy mi111) (mLx mi111) (mRt mi111)) = true ∧ plainName (mNm mi111).cls = true := ⟨List.mem_of_getElem? (i := 871) (by decide +kernel), by decide +kernel, by decide +kernel⟩
theorem cd112 : Cond.code (mNm mi112) (mBy mi112) (mLx mi112) (mRt mi112) ∈ lw_tbl ∧ goodWord (Cond.code (mNm mi112) (mBy mi112) (mLx mi112) (mRt mi112)) = true ∧ plainName (mNm mi112).cls = true := ⟨List.mem_of_getElem? (i := 887) (by decide +kernel), by decide +kernel, by decide +kernel⟩
theorem cd113 : Cond.code (mNm mi113) (mBy mi113) (mLx mi113) (mRt mi113) ∈ lw_tbl ∧ goodWord (Cond.code (mNm mi113) (mBy mi113) (mLx mi113) (mRt mi113)) = true ∧ plainName (mNm mi113).cls = true := ⟨List.mem_of_getElem? (i := 863) (by decide +kernel), by decide +kernel, by decide +kernel⟩
theorem cd114 : Cond.code (mNm mi114) (mBy mi114) (mLx mi114) (mRt mi114) ∈ lw_tbl ∧ goodWord (Cond.code (mNm mi114) (mBy mi114) (mLx mi114) (mRt mi114)) = true ∧ plainName (mNm mi114).cls = true := ⟨List.mem_of_getElem? (i := 895) (by decide +kernel), by decide +kernel, by decide +kernel⟩
theorem cd115 : Cond.code (mNm mi115) (mBy mi115) (mLx mi115) (mRt mi115) ∈ lw_tbl ∧ goodWord (Cond.code (mNm mi115) (mBy mi115) (mLx mi115) (mRt mi115)) = true ∧ plainName (mNm mi115).cls = true := ⟨List.mem_of_getElem? (i := 899) (by decide +kernel), by decide +kernel, by decide +kernel⟩
theorem cd116 : Cond.code (mNm mi116) (mBy mi116) (mLx mi116) (mRt mi116) ∈ lw_tbl ∧ goodWord (Cond.code (mNm mi116) (mBy mi116) (mLx mi116) (mRt mi116)) = true ∧ plainName (mNm mi116).cls = true := ⟨List.mem_of_getElem? (i := 904) (by decide +kernel), by decide +kernel, by decide +kernel⟩
theorem cd117 : Cond.code (mNm mi117) (mBy mi117) (mLx mi117) (mRt mi117) ∈ lw_tbl ∧ goodWord (Cond.code (mNm mi117) (mBy mi117) (mLx mi117) (mRt mi117)) = true ∧ plainName (mNm mi117).cls = true := ⟨List.mem_of_getElem? (i := 936) (by decide +kernel), by decide +kernel, by decide +kernel⟩
theorem cd118 : Cond.code (mNm mi118) (mBy mi118) (mLx mi118) (mRt mi118) ∈ lw_tbl ∧ goodWord (Cond.code (mNm mi118) (mBy mi118) (mLx mi118) (mRt mi118)) = true ∧ plainName (mNm mi118).cls = true := ⟨List.mem_of_getElem? (i := 930) (by decide +kernel), by decide +kernel, by decide +kernel⟩
theorem cd119 : Cond.code (mNm mi119) (mBy mi119) (mLx mi119) (mRt mi119) ∈ lw_tbl ∧ goodWord (Cond.code (mNm mi119) (mBy mi119) (mLx mi119) (mRt mi119)) = true ∧ plainName (mNm mi119).cls = true := ⟨List.mem_of_getElem? (i := 927) (by decide +kernel), by decide +kernel, by decide +kernel⟩
theorem cd120 : Cond.code (mNm mi120) (mBy mi120) (mLx mi120) (mRt mi120) ∈ lw_tbl ∧ goodWord (Cond.code (mNm mi120) (mBy mi120) (mLx mi120) (mRt mi120)) = true ∧ plainName (mNm mi120).cls = true := ⟨List.mem_of_getElem? (i := 940) (by decide +kernel), by decide +kernel, by decide +kernel⟩
theorem cd121 : Cond.code (mNm mi121) (mBy mi121) (mLx mi121) (mRt mi121) ∈ lw_tbl ∧ goodWord (Cond.code (mNm mi121) (mBy mi121) (mLx mi121) (mRt mi121)) = true ∧ plainName (mNm mi121).cls = true := ⟨List.mem_of_getElem? (i := 916) (by decide +kernel), by decide +kernel, by decide +kernel⟩
theorem cd122 : Cond.code (mNm mi122) (mBy mi122) (mLx mi122) (mRt mi122) ∈ lw_tbl ∧ goodWord (Cond.code (mNm mi122) (mBy mi122) (mLx mi122) (mRt mi122)) = true ∧ plainName (mNm mi122).cls = true := ⟨List.mem_of_getElem? (i := 923) (by decide +kernel), by decide +kernel, by decide +kernel⟩
theorem cd123 : Cond.code (mNm mi123) (mBy mi123) (mLx mi123) (mRt mi123) ∈ lw_tbl ∧ goodWord (Cond.code (mNm mi123) (mBy mi123) (mLx mi123) (mRt mi123)) = true ∧ plainName (mNm mi123).cls = true := ⟨List.mem_of_getElem? (i := 913) (by decide +kernel), by decide +kernel, by decide +kernel⟩
theorem cd124 : Cond.code (mNm mi124) (mBy mi124) (mLx mi124) (mRt mi124) ∈ lw_tbl ∧ goodWord (Cond.code (mNm mi124) (mBy mi124) (mLx mi124) (mRt mi124)) = true ∧ plainName (mNm mi124).cls = true := ⟨List.mem_of_getElem? (i := 944) (by decide +kernel), by decide +kernel, by decide +kernel⟩
theorem cd125 : Cond.code (mNm mi125) (mBy mi125) (mLx mi125) (mRt mi125) ∈ lw_tbl ∧ goodWord (Cond.code (mNm mi125) (mBy mi125) (mLx mi125) (mRt mi125)) = true ∧ plainName (mNm mi125).cls = true := ⟨List.mem_of_getElem? (i := 948) (by decide +kernel), by decide +kernel, by decide +kernel⟩
theorem cd126 : Cond.code (mNm mi126) (mBy mi126) (mLx mi126) (mRt mi126) ∈ lw_tbl ∧ goodWord (Cond.code (mNm mi126) (mBy mi126) (mLx mi126) (mRt mi126)) = true ∧ plainName (mNm mi126).cls = true := ⟨List.mem_of_getElem? (i := 952) (by decide +kernel), by decide +kernel, by decide +kernel⟩
theorem cd127 : Cond.code (mNm mi127) (mBy mi127) (mLx mi127) (mRt mi127) ∈ lw_tbl ∧ goodWord (Cond.code (mNm mi127) (mBy mi127) (mLx mi127) (mRt mi127)) = true ∧ plainName (mNm mi127).cls = true := ⟨List.mem_of_getElem? (i := 957) (by decide +kernel), by decide +kernel, by decide +kernel⟩
theorem cd128 : Cond.code (mNm mi128) (mBy mi128) (mLx mi128) (mRt mi128) ∈ lw_tbl ∧ goodWord (Cond.code (mNm mi128) (mBy mi128) (mLx mi128) (mRt mi128)) = true ∧ plainName (mNm mi128).cls = true := ⟨List.mem_of_getElem? (i := 965) (by decide +kernel), by decide +kernel, by decide +kernel⟩
theorem cd129 : Cond.code (mNm mi129) (mBy mi129) (mLx mi129) (mRt mi129) ∈ lw_tbl ∧ goodWord (Cond.code (mNm mi129) (mBy mi129) (mLx mi129) (mRt mi129)) = true ∧ plainName (mNm mi129).cls = true := ⟨List.mem_of_getElem? (i := 961) (by decide +kernel), by decide +kernel, by decide +kernel⟩
theorem cd130 : Cond.code (mNm mi130) (mBy mi130) (mLx mi130) (mRt mi130) ∈ lw_tbl ∧ goodWord (Cond.code (mNm mi130) (mBy mi130) (mLx mi130) (mRt mi130)) = true ∧ plainName (mNm mi130).cls = true := ⟨List.mem_of_getElem? (i := 973) (by decide +kernel), by decide +kernel, by decide +kernel⟩
theorem cd131 : Cond.code (mNm mi131) (mBy mi131) (mLx mi131) (mRt mi131) ∈ lw_tbl ∧ goodWord (Cond.code (mNm mi131) (mBy mi131) (mLx mi131) (mRt mi131)) = true ∧ plainName (mNm mi131).cls = true := ⟨List.mem_of_getElem? (i := 969) (by decide +kernel), by decide +kernel, by decide +kernel⟩
theorem cd132 : Cond.code (mNm mi132) (mBy mi132) (mLx mi132) (mRt mi132) ∈ lw_tbl ∧ goodWord (Cond.code (mNm mi132) (mBy mi132) (mLx mi132) (mRt mi132)) = true ∧ plainName (mNm mi132).cls = true := ⟨List.mem_of_getElem? (i := 977) (by decide +kernel), by decide +kernel, by decide +kernel⟩
theorem cd133 : Cond.code (mNm mi133) (mBy mi133) (mLx mi133) (mRt mi133) ∈ lw_tbl ∧ goodWord (Cond.code (mNm mi133) (mBy mi133) (mLx mi133) (mRt mi133)) = true ∧ plainName (mNm mi133).cls = true := ⟨List.mem_of_getElem? (i := 981) (by decide +kernel), by decide +kernel, by decide +kernel⟩
theorem cd134 : Cond.code (mNm mi134) (mBy mi134) (mLx mi134) (mRt mi134) ∈ lw_tbl ∧ goodWord (Cond.code (mNm mi134) (mBy mi134) (mLx mi134) (mRt mi134)) = true ∧ plainName (mNm mi134).cls = true := ⟨List.mem_of_getElem? (i := 985) (by decide +kernel), by decide +kernel, by decide +kernel⟩
theorem cd135 : Cond.code (mNm mi135) (mBy mi135) (mLx mi135) (mRt mi135) ∈ lw_tbl ∧ goodWord (Cond.code (mNm mi135) (mBy mi135) (mLx mi135) (mRt mi135)) = true ∧ plainName (mNm mi135).cls = true := ⟨List.mem_of_getElem? (i := 989) (by decide +kernel), by decide +kernel, by decide +kernel⟩
theorem cd136 : Cond.code (mNm mi136) (mBy mi136) (mLx mi136) (mRt mi136) ∈ lw_tbl ∧ goodWord (Cond.code (mNm mi136) (mBy mi136) (mLx mi136) (mRt mi136)) = true ∧ plainName (mNm mi136).cls = true := ⟨List.mem_of_getElem? (i := 993) (by decide +kernel), by decide +kernel, by decide +kernel⟩
theorem cd137 : Cond.code (mNm mi137) (mBy mi137) (mLx mi137) (mRt mi137) ∈ lw_tbl ∧ goodWord (Cond.code (mNm mi137) (mBy mi137) (mLx mi137) (mRt mi137)) = true ∧ plainName (mNm mi137).cls = true := ⟨List.mem_of_getElem? (i := 1001) (by decide +kernel), by decide +kernel, by decide +kernel⟩
theorem cd138 : Cond.code (mNm mi138) (mBy mi138) (mLx mi138) (mRt mi138) ∈ lw_tbl ∧ goodWord (Cond.code (mNm mi138) (mBy mi138) (mLx mi138) (mRt mi138)) = true ∧ plainName (mNm mi138).cls = true := ⟨List.mem_of_getElem? (i := 997) (by decide +kernel), by decide +kernel, by decide +kernel⟩
theorem cd139 : Cond.code (mNm mi139) (mBy mi139) (mLx mi139) (mRt mi139) ∈ lw_tbl ∧ goodWord (Cond.code (mNm mi139) (mBy mi139) (mLx mi139) (mRt mi139)) = true ∧ plainName (mNm mi139).cls = true := ⟨List.mem_of_getElem? (i := 1005) (by decide +kernel), by decide +kernel, by decide +kernel⟩
theorem cd140 : Cond.code (mNm mi140) (mBy mi140) (mLx mi140) (mRt mi140) ∈ lw_tbl ∧ goodWord (Cond.code (mNm mi140) (mBy mi140) (mLx mi140) (mRt mi140)) = true ∧ plainName (mNm mi140).cls = true := ⟨List.mem_of_getElem? (i := 1009) (by decide +kernel), by decide +kernel, by decide +kernel⟩
theorem cd141 : Cond.code (mNm mi141) (mBy mi141) (mLx mi141) (mRt mi141) ∈ lw_tbl ∧ goodWord (Cond.code (mNm mi141) (mBy mi141) (mLx mi141) (mRt mi141)) = true ∧ plainName (mNm mi141).cls = true := ⟨List.mem_of_getElem? (i := 1017) (by decide +kernel), by decide +kernel, by decide +kernel⟩
theorem cd142 : Cond.code (mNm mi142) (mBy mi142) (mLx mi142) (mRt mi142) ∈ lw_tbl ∧ goodWord (Cond.code (mNm mi142) (mBy mi142) (mLx mi142) (mRt mi142)) = true ∧ plainName (mNm mi142).cls = true := ⟨List.mem_of_getElem? (i := 1021) (by decide +kernel), by decide +kernel, by decide +kernel⟩
theorem cd143 : Cond.code (mNm mi143) (mBy mi143) (mLx mi143) (mRt mi143) ∈ lw_tbl ∧ goodWord (Cond.code (mNm mi143) (mBy mi143) (mLx mi143) (mRt mi143)) = true ∧ plainName (mNm mi143).cls = true := ⟨List.mem_of_getElem? (i := 1029) (by decide +kernel), by decide +kernel, by decide +kernel⟩
theorem cd144 : Cond.code (mNm mi144) (mBy mi144) (mLx mi144) (mRt mi144) ∈ lw_tbl ∧ goodWord (Cond.code (mNm mi144) (mBy mi144) (mLx mi144) (mRt mi144)) = true ∧ plainName (mNm mi144).cls = true := ⟨List.mem_of_getElem? (i := 1025) (by decide +kernel), by decide +kernel, by decide +kernel⟩
theorem cd145 : Cond.code (mNm mi145) (mBy mi145) (mLx mi145) (mRt mi145) ∈ lw_tbl ∧ goodWord (Cond.code (mNm mi145) (mBy mi145) (mLx mi145) (mRt mi145)) = true ∧ plainName (mNm mi145).cls = true := ⟨List.mem_of_getElem? (i := 296) (by decide +kernel), by decide +kernel, by decide +kernel⟩
theorem cd146 : Cond.code (mNm mi146) (mBy mi146) (mLx mi146) (mRt mi146) ∈ lw_tbl ∧ goodWord (Cond.code (mNm mi146) (mBy mi146) (mLx mi146) (mRt mi146)) = true ∧ plainName (mNm mi146).cls = true := ⟨List.mem_of_getElem? (i := 306) (by decide +kernel), by decide +kernel, by decide +kernel⟩
theorem cd147 : Cond.code (mNm mi147) (mBy mi147) (mLx mi147) (mRt mi147) ∈ lw_tbl ∧ goodWord (Cond.code (mNm mi147) (mBy mi147) (mLx mi147) (mRt mi147)) = true ∧ plainName (mNm mi147).cls = true := ⟨List.mem_of_getElem? (i := 300) (by decide +kernel), by decide +kernel, by decide +kernel⟩
theorem cd148 : Cond.code (mNm mi148) (mBy mi148) (mLx mi148) (mRt mi148) ∈ lw_tbl ∧ goodWord (Cond.code (mNm mi148) (mBy mi148) (mLx mi148) (mRt mi148)) = true ∧ plainName (mNm mi148).cls = true := ⟨List.mem_of_getElem? (i := 310) (by decide +kernel), by decide +kernel, by decide +kernel⟩
theorem cd149 : Cond.code (mNm mi149) (mBy mi149) (mLx mi149) (mRt mi149) ∈ lw_tbl ∧ goodWord (Cond.code (mNm mi149) (mBy mi149) (mLx mi149) (mRt mi149)) = true ∧ plainName (mNm mi149).cls = true := ⟨List.mem_of_getElem? (i := 316) (by decide +kernel), by decide +kernel, by decide +kernel⟩
theorem cd150 : Cond.code (mNm mi150) (mBy mi150) (mLx mi150) (mRt mi150) ∈ lw_tbl ∧ goodWord (Cond.code (mNm mi150) (mBy mi150) (mLx mi150) (mRt mi150)) = true ∧ plainName (mNm mi150).cls = true := ⟨List.mem_of_getElem? (i := 313) (by decide +kernel), by decide +kernel, by decide +kernel⟩
theorem cd151 : Cond.code (mNm mi151) (mBy mi151) (mLx mi151) (mRt mi151) ∈ lw_tbl ∧ goodWord (Cond.code (mNm mi151) (mBy mi151) (mLx mi151) (mRt mi151)) = true ∧ plainName (mNm mi151).cls = true := ⟨List.mem_of_getElem? (i := 321) (by decide +kernel), by decide +kernel, by decide +kernel⟩
set_option maxRecDepth 20000 in
theorem ck_all : ∀ q ∈ mtab, (mCd q).all (chkE q) = true := List.forall_mem_cons.mpr ⟨ck0, List.forall_mem_cons.mpr ⟨ck1, List.forall_mem_cons.mpr ⟨ck2, List.forall_mem_cons.mpr ⟨ck3, List.forall_mem_cons.mpr ⟨ck4, List.forall_mem_cons.mpr ⟨ck5, List.forall_mem_cons.mpr ⟨ck6, List.forall_mem_cons.mpr ⟨ck7, List.forall_mem_cons.mpr ⟨ck8, List.forall_mem_cons.mpr ⟨ck9, List.forall_mem_cons.mpr ⟨ck10, List.forall_mem_cons.mpr ⟨ck11, List.forall_mem_cons.mpr ⟨ck12, List.forall_mem_cons.mpr ⟨ck13, List.forall_mem_cons.mpr ⟨ck14, List.forall_mem_cons.mpr ⟨ck15, List.forall_mem_cons.mpr ⟨ck16, List.forall_mem_cons.mpr ⟨ck17, List.forall_mem_cons.mpr ⟨ck18, List.forall_mem_cons.mpr ⟨ck19, List.forall_mem_cons.mpr ⟨ck20, List.forall_mem_cons.mpr ⟨ck21, List.forall_mem_cons.mpr ⟨ck22, List.forall_mem_cons.mpr ⟨ck23, List.forall_mem_cons.mpr ⟨ck24, List.forall_mem_cons.mpr ⟨ck25, List.forall_mem_cons.mpr ⟨ck26, List.forall_mem_cons.mpr ⟨ck27, List.forall_mem_cons.mpr ⟨ck28, List.forall_mem_cons.mpr ⟨ck29, List.forall_mem_cons.mpr ⟨ck30, List.forall_mem_cons.mpr ⟨ck31, List.forall_mem_cons.mpr ⟨ck32, List.forall_mem_cons.mpr ⟨ck33, List.forall_mem_cons.mpr ⟨ck34, List.forall_mem_cons.mpr ⟨ck35, List.forall_mem_cons.mpr ⟨ck36, List.forall_mem_cons.mpr ⟨ck37, List.forall_mem_cons.mpr ⟨ck38, List.forall_mem_cons.mpr ⟨ck39, List.forall_mem_cons.mpr ⟨ck40, List.forall_mem_cons.mpr ⟨ck41, List.forall_mem_cons.mpr ⟨ck42, List.forall_mem_cons.mpr ⟨ck43, List.forall_mem_cons.mpr ⟨ck44, List.forall_mem_cons.mpr ⟨ck45, List.forall_mem_cons.mpr ⟨ck46, List.forall_mem_cons.mpr ⟨ck47, List.forall_mem_cons.mpr ⟨ck48, List.forall_mem_cons.mpr ⟨ck49, List.forall_mem_cons.mpr ⟨ck50, List.forall_mem_cons.mpr ⟨ck51, List.forall_mem_cons.mpr ⟨ck52, List.forall_mem_cons.mpr ⟨ck53, List.forall_mem_cons.mpr ⟨ck54, List.forall_mem_cons.mpr ⟨ck55, List.forall_mem_cons.mpr ⟨ck56, List.forall_mem_cons.mpr ⟨ck57, List.forall_mem_cons.mpr ⟨ck58, List.forall_mem_cons.mpr ⟨ck59, List.forall_mem_cons.mpr ⟨ck60, List.forall_mem_cons.mpr ⟨ck61, List.forall_mem_cons.mpr ⟨ck62, List.forall_mem_cons.mpr ⟨ck63, List.forall_mem_cons.mpr ⟨ck64, List.forall_mem_cons.mpr ⟨ck65, List.forall_mem_cons.mpr ⟨ck66, List.forall_mem_cons.mpr ⟨ck67, List.forall_mem_cons.mpr ⟨ck68, List.forall_mem_cons.mpr ⟨ck69, List.forall_mem_cons.mpr ⟨ck70, List.forall_mem_cons.mpr ⟨ck71, List.forall_mem_cons.mpr ⟨ck72, List.forall_mem_cons.mpr ⟨ck73, List.forall_mem_cons.mpr ⟨ck74, List.forall_mem_cons.mpr ⟨ck75, List.forall_mem_cons.mpr ⟨ck76, List.forall_mem_cons.mpr ⟨ck77, List.forall_mem_cons.mpr ⟨ck78, List.forall_mem_cons.mpr ⟨ck79, List.forall_mem_cons.mpr ⟨ck80, List.forall_mem_cons.mpr ⟨ck81, List.forall_mem_cons.mpr ⟨ck82, List.forall_mem_cons.mpr ⟨ck83, List.forall_mem_cons.mpr ⟨ck84, List.forall_mem_cons.mpr ⟨ck85, List.forall_mem_cons.mpr ⟨ck86, List.forall_mem_cons.mpr ⟨ck87, List.forall_mem_cons.mpr ⟨ck88, List.forall_mem_cons.mpr ⟨ck89, List.forall_mem_cons.mpr ⟨ck90, List.forall_mem_cons.mpr ⟨ck91, List.forall_mem_cons.mpr ⟨ck92, List.forall_mem_cons.mpr ⟨ck93, List.forall_mem_cons.mpr ⟨ck94, List.forall_mem_cons.mpr ⟨ck95, List.forall_mem_cons.mpr ⟨ck96, List.forall_mem_cons.mpr ⟨ck97, List.forall_mem_cons.mpr ⟨ck98, List.forall_mem_cons.mpr ⟨ck99, List.forall_mem_cons.mpr ⟨ck100, List.forall_mem_cons.mpr ⟨ck101, List.forall_mem_cons.mpr ⟨ck102, List.forall_mem_cons.mpr ⟨ck103, List.forall_mem_cons.mpr ⟨ck104, List.forall_mem_cons.mpr ⟨ck105, List.forall_mem_cons.mpr ⟨ck106, List.forall_mem_cons.mpr ⟨ck107, List.forall_mem_cons.mpr ⟨ck108, List.forall_mem_cons.mpr ⟨ck109, List.forall_mem_cons.mpr ⟨ck110, List.forall_mem_cons.mpr ⟨ck111, List.forall_mem_cons.mpr ⟨ck112, List.forall_mem_cons.mpr ⟨ck113, List.forall_mem_cons.mpr ⟨ck114, List.forall_mem_cons.mpr ⟨ck115, List.forall_mem_cons.mpr ⟨ck116, List.forall_mem_cons.mpr ⟨ck117, List.forall_mem_cons.mpr ⟨ck118, List.forall_mem_cons.mpr ⟨ck119, List.forall_mem_cons.mpr ⟨ck120, List.forall_mem_cons.mpr ⟨ck121, List.forall_mem_cons.mpr ⟨ck122, List.forall_mem_cons.mpr ⟨ck123, List.forall_mem_cons.mpr ⟨ck124, List.forall_mem_cons.mpr ⟨ck125, List.forall_mem_cons.mpr ⟨ck126, List.forall_mem_cons.mpr ⟨ck127, List.forall_mem_cons.mpr ⟨ck128, List.forall_mem_cons.mpr ⟨ck129, List.forall_mem_cons.mpr ⟨ck130, List.forall_mem_cons.mpr ⟨ck131, List.forall_mem_cons.mpr ⟨ck132, List.forall_mem_cons.mpr ⟨ck133, List.forall_mem_cons.mpr ⟨ck134, List.forall_mem_cons.mpr ⟨ck135, List.forall_mem_cons.mpr ⟨ck136, List.forall_mem_cons.mpr ⟨ck137, List.forall_mem_cons.mpr ⟨ck138, List.forall_mem_cons.mpr ⟨ck139, List.forall_mem_cons.mpr ⟨ck140, List.forall_mem_cons.mpr ⟨ck141, List.forall_mem_cons.mpr ⟨ck142, List.forall_mem_cons.mpr ⟨ck143, List.forall_mem_cons.mpr ⟨ck144, List.forall_mem_cons.mpr ⟨ck145, List.forall_mem_cons.mpr ⟨ck146, List.forall_mem_cons.mpr ⟨ck147, List.forall_mem_cons.mpr ⟨ck148, List.forall_mem_cons.mpr ⟨ck149, List.forall_mem_cons.mpr ⟨ck150, List.forall_mem_cons.mpr ⟨ck151, fun _ h => absurd h List.not_mem_nil⟩⟩⟩⟩⟩⟩⟩⟩⟩⟩⟩⟩⟩⟩⟩⟩⟩⟩⟩⟩⟩⟩⟩⟩⟩⟩⟩⟩⟩⟩⟩⟩⟩⟩⟩⟩⟩⟩⟩⟩⟩⟩⟩⟩⟩⟩⟩⟩⟩⟩⟩⟩⟩⟩⟩⟩⟩⟩⟩⟩⟩⟩⟩⟩⟩⟩⟩⟩⟩⟩⟩⟩⟩⟩⟩⟩⟩⟩⟩⟩⟩⟩⟩⟩⟩⟩⟩⟩⟩⟩⟩⟩⟩⟩⟩⟩⟩⟩⟩⟩⟩⟩⟩⟩⟩⟩⟩⟩⟩⟩⟩⟩⟩⟩⟩⟩⟩⟩⟩⟩⟩⟩⟩⟩⟩⟩⟩⟩⟩⟩⟩⟩⟩⟩⟩⟩⟩⟩⟩⟩⟩⟩⟩⟩⟩⟩⟩⟩⟩⟩⟩⟩
set_option maxRecDepth 20000 in
theorem cd_all : ∀ q ∈ mtab.drop 1, Cond.code (mNm q) (mBy q) (mLx q) (mRt q) ∈ lw_tbl ∧ goodWord (Cond.code (mNm q) (mBy q) (mLx q) (mRt q)) = true ∧ plainName (mNm q).cls = true := List.forall_mem_cons.mpr ⟨cd1, List.forall_mem_cons.mpr ⟨cd2, List.forall_mem_cons.mpr ⟨cd3, List.forall_mem_cons.mpr ⟨cd4, List.forall_mem_cons.mpr ⟨cd5, List.forall_mem_cons.mpr ⟨cd6, List.forall_mem_cons.mpr ⟨cd7, List.forall_mem_cons.mpr ⟨cd8, List.forall_mem_cons.mpr ⟨cd9, List.forall_mem_cons.mpr ⟨cd10, List.forall_mem_cons.mpr ⟨cd11, List.forall_mem_cons.mpr ⟨cd12, List.forall_mem_cons.mpr ⟨cd13, List.forall_mem_cons.mpr ⟨cd14, List.forall_mem_cons.mpr ⟨cd15, List.forall_mem_cons.mpr ⟨cd16, List.forall_mem_cons.mpr ⟨cd17, List.forall_mem_cons.mpr ⟨cd18, List.forall_mem_cons.mpr ⟨cd19, List.forall_mem_cons.mpr ⟨cd20, List.forall_mem_cons.mpr ⟨cd21, List.forall_mem_cons.mpr ⟨cd22, List.forall_mem_cons.mpr ⟨cd23, List.forall_mem_cons.mpr ⟨cd24, List.forall_mem_cons.mpr ⟨cd25, List.forall_mem_cons.mpr ⟨cd26, List.forall_mem_cons.mpr ⟨cd27, List.forall_mem_cons.mpr ⟨cd28, List.forall_mem_cons.mpr ⟨cd29, List.forall_mem_cons.mpr ⟨cd30, List.forall_mem_cons.mpr ⟨cd31, List.forall_mem_cons.mpr ⟨cd32, List.forall_mem_cons.mpr ⟨cd33, List.forall_mem_cons.mpr ⟨cd34, List.forall_mem_cons.mpr ⟨cd35, List.forall_mem_cons.mpr ⟨cd36, List.forall_mem_cons.mpr ⟨cd37, List.forall_mem_cons.mpr ⟨cd38, List.forall_mem_cons.mpr ⟨cd39, List.forall_mem_cons.mpr ⟨cd40, List.forall_mem_cons.mpr ⟨cd41, List.forall_mem_cons.mpr ⟨cd42, List.forall_mem_cons.mpr ⟨cd43, List.forall_mem_cons.mpr ⟨cd44, List.forall_mem_cons.mpr ⟨cd45, List.forall_mem_cons.mpr ⟨cd46, List.forall_mem_cons.mpr ⟨cd47, List.forall_mem_cons.mpr ⟨cd48, List.forall_mem_cons.mpr ⟨cd49, List.forall_mem_cons.mpr ⟨cd50, List.forall_mem_cons.mpr ⟨cd51, List.forall_mem_cons.mpr ⟨cd52, List.forall_mem_cons.mpr ⟨cd53, List.forall_mem_cons.mpr ⟨cd54, List.forall_mem_cons.mpr ⟨cd55, List.forall_mem_cons.mpr ⟨cd56, List.forall_mem_cons.mpr ⟨cd57, List.forall_mem_cons.mpr ⟨cd58, List.forall_mem_cons.mpr ⟨cd59, List.forall_mem_cons.mpr ⟨cd60, List.forall_mem_cons.mpr ⟨cd61, List.forall_mem_cons.mpr ⟨cd62, List.forall_mem_cons.mpr ⟨cd63, List.forall_mem_cons.mpr ⟨cd64, List.forall_mem_cons.mpr ⟨cd65, List.forall_mem_cons.mpr ⟨cd66, List.forall_mem_cons.mpr ⟨cd67, List.forall_mem_cons.mpr ⟨cd68, List.forall_mem_cons.mpr ⟨cd69, List.forall_mem_cons.mpr ⟨cd70, List.forall_mem_cons.mpr ⟨cd71, List.forall_mem_cons.mpr ⟨cd72, List.forall_mem_cons.mpr ⟨cd73, List.forall_mem_cons.mpr ⟨cd74, List.forall_mem_cons.mpr ⟨cd75, List.forall_mem_cons.mpr ⟨cd76, List.forall_mem_cons.mpr ⟨cd77, List.forall_mem_cons.mpr ⟨cd78, List.forall_mem_cons.mpr ⟨cd79, List.forall_mem_cons.mpr ⟨cd80, List.forall_mem_cons.mpr ⟨cd81, List.forall_mem_cons.mpr ⟨cd82, List.forall_mem_cons.mpr ⟨cd83, List.forall_mem_cons.mpr ⟨cd84, List.forall_mem_cons.mpr ⟨cd85, List.forall_mem_cons.mpr ⟨cd86, List.forall_mem_cons.mpr ⟨cd87, List.forall_mem_cons.mpr ⟨cd88, List.forall_mem_cons.mpr ⟨cd89, List.forall_mem_cons.mpr ⟨cd90, List.forall_mem_cons.mpr ⟨cd91, List.forall_mem_cons.mpr ⟨cd92, List.forall_mem_cons.mpr ⟨cd93, List.forall_mem_cons.mpr ⟨cd94, List.forall_mem_cons.mpr ⟨cd95, List.forall_mem_cons.mpr ⟨cd96, List.forall_mem_cons.mpr ⟨cd97, List.forall_mem_cons.mpr ⟨cd98, List.forall_mem_cons.mpr ⟨cd99, List.forall_mem_cons.mpr ⟨cd100, List.forall_mem_cons.mpr ⟨cd101, List.forall_mem_cons.mpr ⟨cd102, List.forall_mem_cons.mpr ⟨cd103, List.forall_mem_cons.mpr ⟨cd104, List.forall_mem_cons.mpr ⟨cd105, List.forall_mem_cons.mpr ⟨cd106, List.forall_mem_cons.mpr ⟨cd107, List.forall_mem_cons.mpr ⟨cd108, List.forall_mem_cons.mpr ⟨cd109, List.forall_mem_cons.mpr ⟨cd110, List.forall_mem_cons.mpr ⟨cd111, List.forall_mem_cons.mpr ⟨cd112, List.forall_mem_cons.mpr ⟨cd113, List.forall_mem_cons.mpr ⟨cd114, List.forall_mem_cons.mpr ⟨cd115, List.forall_mem_cons.mpr ⟨cd116, List.forall_mem_cons.mpr ⟨cd117, List.forall_mem_cons.mpr ⟨cd118, List.forall_mem_cons.mpr ⟨cd119, List.forall_mem_cons.mpr ⟨cd120, List.forall_mem_cons.mpr ⟨cd121, List.forall_mem_cons.mpr ⟨cd122, List.forall_mem_cons.mpr ⟨cd123, List.forall_mem_cons.mpr ⟨cd124, List.forall_mem_cons.mpr ⟨cd125, List.forall_mem_cons.mpr ⟨cd126, List.forall_mem_cons.mpr ⟨cd127, List.forall_mem_cons.mpr ⟨cd128, List.forall_mem_cons.mpr ⟨cd129, List.forall_mem_cons.mpr ⟨cd130, List.forall_mem_cons.mpr ⟨cd131, List.forall_mem_cons.mpr ⟨cd132, List.forall_mem_cons.mpr ⟨cd133, List.forall_mem_cons.mpr ⟨cd134, List.forall_mem_cons.mpr ⟨cd135, List.forall_mem_cons.mpr ⟨cd136, List.forall_mem_cons.mpr ⟨cd137, List.forall_mem_cons.mpr ⟨cd138, List.forall_mem_cons.mpr ⟨cd139, List.forall_mem_cons.mpr ⟨cd140, List.forall_mem_cons.mpr ⟨cd141, List.forall_mem_cons.mpr ⟨cd142, List.forall_mem_cons.mpr ⟨cd143, List.forall_mem_cons.mpr ⟨cd144, List.forall_mem_cons.mpr ⟨cd145, List.forall_mem_cons.mpr ⟨cd146, List.forall_mem_cons.mpr ⟨cd147, List.forall_mem_cons.mpr ⟨cd148, List.forall_mem_cons.mpr ⟨cd149, List.forall_mem_cons.mpr ⟨cd150, List.forall_mem_cons.mpr ⟨cd151, fun _ h => absurd h List.not_mem_nil⟩⟩⟩⟩⟩⟩⟩⟩⟩⟩⟩⟩⟩⟩⟩⟩⟩⟩⟩⟩⟩⟩⟩⟩⟩⟩⟩⟩⟩⟩⟩⟩⟩⟩⟩⟩⟩⟩⟩⟩⟩⟩⟩⟩⟩⟩⟩⟩⟩⟩⟩⟩⟩⟩⟩⟩⟩⟩⟩⟩⟩⟩⟩⟩⟩⟩⟩⟩⟩⟩⟩⟩⟩⟩⟩⟩⟩⟩⟩⟩⟩⟩⟩⟩⟩⟩⟩⟩⟩⟩⟩⟩⟩⟩⟩⟩⟩⟩⟩⟩⟩⟩⟩⟩⟩⟩⟩⟩⟩⟩⟩⟩⟩⟩⟩⟩⟩⟩⟩⟩⟩⟩⟩⟩⟩⟩⟩⟩⟩⟩⟩⟩⟩⟩⟩⟩⟩⟩⟩⟩⟩⟩⟩⟩⟩⟩⟩⟩⟩⟩⟩
end
section
/-! the machine over plain cells: refs are places in the list of cells; .retAddr 0 .. 3 are what was there before (the script, the text's String, its bytes, the formatter) -/
abbrev hcel : Type := (Nat × Nat × ((Nat → Int32) ⊕ (Nat → Option Nat))) ⊕ (Nat × List Value)
abbrev hh : Type := List hcel × Nat
abbrev lcs : Type := List (Option Value)
def lku (pc : Nat) : List (Nat × ent) → Option ent
  | [] => none
  | q :: r => if Nat.beq q.1 pc then some q.2 else lku pc r
def ctab (i pc : Nat) : Option ent := match mtab[i]? with
  | some q => lku pc (mCd q)
  | none => none
def lGet (ls : lcs) (k : Nat) : Option Value := match ls[k]? with
  | some (some v) => some v
  | _ => none
/-- a long whose second half is written over goes -/
def clr (ls : lcs) (i : Nat) : lcs := match i with
  | 0 => ls
  | j + 1 => (match lGet ls j with
    | some v => if v.category = 2 then ls.set j none else ls
    | none => ls)
def lSet (ls : lcs) (i : Nat) (v : Value) : Option lcs := if i < ls.length then some ((clr ls i).set i (some v)) else none
def lSet2 (ls : lcs) (i : Nat) (v : Value) : Option lcs := if i + 1 < ls.length then some (((clr ls i).set i (some v)).set (i + 1) none) else none
def inB (i : Int32) (n : Nat) : Bool := decide (¬ i < 0) && decide (i.toNatClampNeg < n)
def cmpB (c : ClassFile.Cond) (x y : Int32) : Bool := match c with
  | .eq => decide (x = y)
  | .ne => decide (¬ x = y)
  | .lt => decide (x < y)
  | .ge => decide (y ≤ x)
  | .gt => decide (y < x)
  | .le => decide (x ≤ y)
def catS (st : List Value) : Nat := (st.map fun v => v.category).sum
def sB : List Int32 := [112, 48, 48, 49, 49, 50, 50, 51, 51, 52, 52, 53, 53, 54, 59, 119, 53, 48, 56, 50, 55, 49, 57, 51, 54, 52, 48, 50, 56, 59, 102, 49, 50, 49, 51, 49, 52, 49, 53, 49, 50, 49, 51, 49, 59, 103, 51, 48, 50, 49, 48, 52, 53, 54, 55, 48, 49, 50, 51, 59]
def cfs : List (Nat → FieldType) := [cf0, cf1, cf2, cf3, cf4, cf5, cf6, cf7, cf8, cf9, cf10]
def okv (t : FieldType) (v : Value) : Bool := match t, v with
  | .int, .int _ => true
  | .long, .long _ => true
  | .object _, .ref _ => true
  | .array _, .ref _ => true
  | _, _ => false
def fTy (ci k : Nat) : Option FieldType := match cfs[ci]? with
  | some f => some (f k)
  | none => none
def stLdI (ls : lcs) (k n pc : Nat) (st : List Value) : Option (Nat × lcs × List Value) := match lGet ls k with
  | some (.int x) => some (pc + n, ls, .int x :: st)
  | _ => none
def stLdL (ls : lcs) (k n pc : Nat) (st : List Value) : Option (Nat × lcs × List Value) := match lGet ls k with
  | some (.long x) => some (pc + n, ls, .long x :: st)
  | _ => none
def stLdA (ls : lcs) (k n pc : Nat) (st : List Value) : Option (Nat × lcs × List Value) := match lGet ls k with
  | some (.ref x) => some (pc + n, ls, .ref x :: st)
  | some (.retAddr x) => if x < 3 then some (pc + n, ls, .retAddr x :: st) else none
  | _ => none
def stStI (ls : lcs) (k n pc : Nat) (st : List Value) : Option (Nat × lcs × List Value) := match st with
  | .int x :: r => (lSet ls k (.int x)).map (fun l2 => (pc + n, l2, r))
  | _ => none
def stStL (ls : lcs) (k n pc : Nat) (st : List Value) : Option (Nat × lcs × List Value) := match st with
  | .long x :: r => (lSet2 ls k (.long x)).map (fun l2 => (pc + n, l2, r))
  | _ => none
def stStA (ls : lcs) (k n pc : Nat) (st : List Value) : Option (Nat × lcs × List Value) := match st with
  | .ref x :: r => (lSet ls k (.ref x)).map (fun l2 => (pc + n, l2, r))
  | _ => none
/-- what an instruction makes of the numbers on the stack -/
def stAr (ins : Instr) (st : List Value) : Option (List Value) := match ins, st with
  | .iadd, .int y :: .int x :: r => some (.int (x + y) :: r)
  | .isub, .int y :: .int x :: r => some (.int (x - y) :: r)
  | .imul, .int y :: .int x :: r => some (.int (x * y) :: r)
  | .iand, .int y :: .int x :: r => some (.int (x &&& y) :: r)
  | .ishr, .int y :: .int x :: r => some (.int (x >>> (y &&& 31)) :: r)
  | .idiv, .int y :: .int x :: r => if y = 0 then none else some (.int (x / y) :: r)
  | .irem, .int y :: .int x :: r => if y = 0 then none else some (.int (x - x / y * y) :: r)
  | .ladd, .long y :: .long x :: r => some (.long (x + y) :: r)
  | .lmul, .long y :: .long x :: r => some (.long (x * y) :: r)
  | .land, .long y :: .long x :: r => some (.long (x &&& y) :: r)
  | .lxor, .long y :: .long x :: r => some (.long (x ^^^ y) :: r)
  | .lrem, .long y :: .long x :: r => if y = 0 then none else some (.long (x - x / y * y) :: r)
  | .lcmp, .long y :: .long x :: r => some (.int (lg_cmp x y) :: r)
  | .lshl, .int y :: .long x :: r => some (.long (x <<< (y.toInt64 &&& 63)) :: r)
  | .lshr, .int y :: .long x :: r => some (.long (x >>> (y.toInt64 &&& 63)) :: r)
  | .i2l, .int x :: r => some (.long x.toInt64 :: r)
  | .l2i, .long x :: r => some (.int x.toInt32 :: r)
  | .i2c, .int x :: r => some (.int (x.toUInt32 % 65536).toInt32 :: r)
  | .dup, v :: r => if v.category = 1 then some (v :: v :: r) else none
  | .pop, v :: r => if v.category = 1 then some r else none
  | .dup2, v :: w :: r => if v.category = 1 ∧ w.category = 1 then some (v :: w :: v :: w :: r) else none
  | .iconst n, r => some (.int (Int32.ofInt n) :: r)
  | .lconst n, r => some (.long (Int64.ofNat (n : Nat)) :: r)
  | _, _ => none
/-- what an instruction reads of the cells -/
def stRd (L : Nat) (xs : Nat → Int32) (en : ent) (st : List Value) (hp : hh) : Option (List Value) := match en.1, st with
  | .getfield _, .ref a :: r => (match hp.1[a]? with
    | some (.inr o) => if eA en = 99 then none else if o.1 = eA en then (o.2[eB en]?).map (fun v => v :: r) else none
    | _ => none)
  | .getfield _, .retAddr 1 :: r => if eA en = 99 then some ((if eB en = 0 then .int 0 else .retAddr 2) :: r) else none
  | .iaload, .int i :: .ref a :: r => (match hp.1[a]? with
    | some (.inl (t, n, .inl f)) => if decide (t = 0) && inB i n then some (.int (f i.toNatClampNeg) :: r) else none
    | _ => none)
  | .iaload, .int i :: .retAddr 0 :: r => if inB i L then some (.int (xs i.toNatClampNeg) :: r) else none
  | .baload, .int i :: .ref a :: r => (match hp.1[a]? with
    | some (.inl (t, n, .inl f)) => if decide (t = 1) && inB i n then some (.int (f i.toNatClampNeg) :: r) else none
    | _ => none)
  | .baload, .int i :: .retAddr 2 :: r => if inB i 60 then some (.int (sB.getD i.toNatClampNeg 0) :: r) else none
  | .caload, .int i :: .ref a :: r => (match hp.1[a]? with
    | some (.inl (t, n, .inl f)) => if decide (t = 2) && inB i n then some (.int (f i.toNatClampNeg) :: r) else none
    | _ => none)
  | .aaload, .int i :: .ref a :: r => (match hp.1[a]? with
    | some (.inl (t, n, .inr g)) => if decide (t = 3) && inB i n then (g i.toNatClampNeg).map (fun k => .ref k :: r) else none
    | _ => none)
  | .arraylength, .ref a :: r => (match hp.1[a]? with
    | some (.inl (t, n, _)) => if t < 4 then some (.int (Int32.ofNat n) :: r) else none
    | _ => none)
  | .arraylength, .retAddr 0 :: r => some (.int (Int32.ofNat L) :: r)
  | .arraylength, .retAddr 2 :: r => some (.int (Int32.ofNat 60) :: r)
  | _, _ => none
def tgtS (pc : Nat) (off : Int) : Option Nat := if 0 ≤ (pc : Int) + off then some ((pc : Int) + off).toNat else none
def stpA (L : Nat) (xs : Nat → Int32) (en : ent) (pc : Nat) (ls : lcs) (st : List Value) (hp : hh) : Option (Nat × lcs × List Value) :=
  match en.1 with
  | .iload_n k => stLdI ls k 1 pc st
  | .iload k => stLdI ls k 2 pc st
  | .lload_n k => stLdL ls k 1 pc st
  | .lload k => stLdL ls k 2 pc st
  | .aload_n k => stLdA ls k 1 pc st
  | .aload k => stLdA ls k 2 pc st
  | .istore_n k => stStI ls k 1 pc st
  | .istore k => stStI ls k 2 pc st
  | .lstore_n k => stStL ls k 1 pc st
  | .lstore k => stStL ls k 2 pc st
  | .astore_n k => stStA ls k 1 pc st
  | .astore k => stStA ls k 2 pc st
  | .iinc k n => (match lGet ls k with
    | some (.int x) => (lSet ls k (.int (x + Int32.ofInt n))).map (fun l2 => (pc + 3, l2, st))
    | _ => none)
  | .bipush n => some (pc + 2, ls, .int (Int8.ofInt n).toInt32 :: st)
  | .sipush n => some (pc + 3, ls, .int (Int16.ofInt n).toInt32 :: st)
  | .ldc _ => some (pc + 2, ls, (if eA en = 0 then .int (Int32.ofInt (eC en)) else .retAddr 1) :: st)
  | .ldc2_w _ => some (pc + 3, ls, .long (Int64.ofInt (eC en)) :: st)
  | .getstatic _ => some (pc + 3, ls, (if eA en = 0 then .int 1 else .retAddr 3) :: st)
  | .goto _ => some (eA en, ls, st)
  | .ifCond c _ => (match st with
    | .int x :: r => some (if cmpB c x 0 then eA en else pc + 3, ls, r)
    | _ => none)
  | .if_icmp c _ => (match st with
    | .int y :: .int x :: r => some (if cmpB c x y then eA en else pc + 3, ls, r)
    | _ => none)
  | .tableswitch d lo hi offs => (match st with
    | .int x :: r => if x.toInt < lo ∨ hi < x.toInt then (tgtS pc d).map (fun t => (t, ls, r)) else
        (match offs[(x.toInt - lo).toNat]? with
        | some o => (tgtS pc o).map (fun t => (t, ls, r))
        | none => none)
    | _ => none)
  | .lookupswitch d ps => (match st with
    | .int x :: r => (tgtS pc (Op.lookupswitch.offset ps.toList d x.toInt)).map (fun t => (t, ls, r))
    | _ => none)
  | .invokespecial _ => (match st with
    | .ref _ :: r => if eA en = 9000 ∧ catS r ≤ 8 then some (pc + 3, ls, r) else none
    | _ => none)
  | .invokestatic _ => (match st with
    | .int y :: .int x :: r => if eA en = 9002 ∧ catS r ≤ 8 then some (pc + 3, ls, .int (if x < y then y else x) :: r) else
        if eA en = 9003 ∧ catS r ≤ 8 then some (pc + 3, ls, .int (if y < x then y else x) :: r) else none
    | _ => none)
  | .getfield _ => (stRd L xs en st hp).map (fun s2 => (pc + 3, ls, s2))
  | .iaload => (stRd L xs en st hp).map (fun s2 => (pc + 1, ls, s2))
  | .baload => (stRd L xs en st hp).map (fun s2 => (pc + 1, ls, s2))
  | .caload => (stRd L xs en st hp).map (fun s2 => (pc + 1, ls, s2))
  | .aaload => (stRd L xs en st hp).map (fun s2 => (pc + 1, ls, s2))
  | .arraylength => (stRd L xs en st hp).map (fun s2 => (pc + 1, ls, s2))
  | ins => (stAr ins st).map (fun s2 => (pc + 1, ls, s2))
def dflt (ci : Nat) : List Value := match classes[ci]?, cfs[ci]? with
  | some c, some f => (List.range c.2.2).map (fun k => defaultValue (f k))
  | _, _ => []
/-- what an instruction changes of the cells -/
def stpB (en : ent) (st : List Value) (hp : hh) : Option (List Value × hh) := match en.1, st with
  | .putfield _, v :: .ref a :: r => (match hp.1[a]?, fTy (eA en) (eB en) with
    | some (.inr o), some t => if decide (o.1 = eA en) && decide (eB en < o.2.length) && okv t v then some (r, hp.1.set a (.inr (o.1, o.2.set (eB en) v)), hp.2) else none
    | _, _ => none)
  | .iastore, .int x :: .int i :: .ref a :: r => (match hp.1[a]? with
    | some (.inl (t, n, .inl f)) => if decide (t = 0) && inB i n then some (r, hp.1.set a (.inl (t, n, .inl (upd f i.toNatClampNeg x))), hp.2) else none
    | _ => none)
  | .bastore, .int x :: .int i :: .ref a :: r => (match hp.1[a]? with
    | some (.inl (t, n, .inl f)) => if decide (t = 1) && inB i n then some (r, hp.1.set a (.inl (t, n, .inl (upd f i.toNatClampNeg (vp_nar .boolean x)))), hp.2) else none
    | _ => none)
  | .castore, .int x :: .int i :: .ref a :: r => (match hp.1[a]? with
    | some (.inl (t, n, .inl f)) => if decide (t = 2) && inB i n then some (r, hp.1.set a (.inl (t, n, .inl (upd f i.toNatClampNeg (vp_nar .char x)))), hp.2) else none
    | _ => none)
  | .aastore, .ref v :: .int i :: .ref a :: r => (match hp.1[a]?, hp.1[v]? with
    | some (.inl (t, n, .inr g)), some (.inr o) => if decide (t = 3) && decide (o.1 = 0) && inB i n then some (r, hp.1.set a (.inl (t, n, .inr (va_up g i.toNatClampNeg (some v)))), hp.2) else none
    | _, _ => none)
  | .invokestatic _, .int n :: .int dp :: .ref a :: .int sp :: .ref a0 :: r => (match hp.1[a0]?, hp.1[a]? with
    | some (.inl (t0, n0, .inl f)), some (.inl (t1, n1, .inl g)) => if decide (eA en = 9001) && decide (t0 = 0) && decide (t1 = 0) && decide (¬ sp < 0) && decide (¬ dp < 0) && decide (¬ n < 0) && decide (sp.toNatClampNeg + n.toNatClampNeg ≤ n0) && decide (dp.toNatClampNeg + n.toNatClampNeg ≤ n1) && decide (catS r ≤ 8) then
        some (r, hp.1.set a (.inl (t1, n1, .inl (va_cpy f g sp.toNatClampNeg dp.toNatClampNeg n.toNatClampNeg))), hp.2) else none
    | _, _ => none)
  | .newarray _, .int n :: r => if decide (¬ n < 0) && decide (n.toNatClampNeg ≤ 1000) then some (.ref hp.1.length :: r, hp.1 ++ [.inl (eA en, n.toNatClampNeg, .inl (fun _ => 0))], hp.2 + n.toNatClampNeg) else none
  | .anewarray _, .int n :: r => if decide (¬ n < 0) && decide (n.toNatClampNeg ≤ 1000) then some (.ref hp.1.length :: r, hp.1 ++ [.inl (3, n.toNatClampNeg, .inr (fun _ => none))], hp.2 + n.toNatClampNeg) else none
  | .new _, r => (match classes[eA en]? with
    | some c => some (.ref hp.1.length :: r, hp.1 ++ [.inr (eA en, dflt (eA en))], hp.2 + c.2.2)
    | none => none)
  | _, _ => none
/-- a call: which method, its arguments, what stays on the stack -/
def stpC (en : ent) (st : List Value) (hp : hh) : Option (Nat × List Value × List Value) :=
  if decide (eB en ≤ st.length) && decide (catS (st.drop (eB en)) ≤ 8) then
    (match en.1, (st.take (eB en)).reverse with
    | .invokevirtual _, .ref a :: as => (match hp.1[a]? with
      | some (.inr o) => if eC en = 99 then none else if o.1 = (eC en).toNat then some (eA en, .ref a :: as, st.drop (eB en)) else none
      | _ => none)
    | .invokevirtual _, .retAddr 1 :: as => if eC en = 99 then some (eA en, .retAddr 1 :: as, st.drop (eB en)) else none
    | .invokespecial _, .ref a :: as => some (eA en, .ref a :: as, st.drop (eB en))
    | .invokestatic _, as => some (eA en, as, st.drop (eB en))
    | _, _ => none)
  else none
def stpR (q : minfo) (en : ent) (st : List Value) : Option (Option Value) := match en.1, st, mRt q with
  | .ireturn, [.int v], some ty => if narrow ty (.int v) = .int v then some (some (.int v)) else none
  | .return_, [], none => some none
  | _, _, _ => none
def ent0 (n : Nat) (as : List Value) : lcs :=
  (as.flatMap fun v => if v.category = 2 then [some v, none] else [some v]) ++ List.replicate (n - (as.flatMap fun v => if v.category = 2 then [some v, (none : Option Value)] else [some v]).length) none
def exec (L : Nat) (xs : Nat → Int32) : Nat → Nat → Nat → lcs → List Value → hh → Option (Option Value × hh)
  | 0, _, _, _, _, _ => none
  | n + 1, i, pc, ls, st, hp =>
    match mtab[i]?, ctab i pc with
    | some q, some en =>
      (match stpA L xs en pc ls st hp with
      | some (pc2, ls2, st2) => exec L xs n i pc2 ls2 st2 hp
      | none =>
        (match stpB en st hp with
        | some (st2, hp2) => exec L xs n i (pc + en.2.1) ls st2 hp2
        | none =>
          (match stpC en st hp with
          | some (j, as, r) =>
            (match mtab[j]? with
            | some qj =>
              if decide ((ent0 (mLx qj) as).length = mLx qj) && decide (0 < j) then
                (match exec L xs n j 0 (ent0 (mLx qj) as) [] hp with
                | some (rv, hp2) => exec L xs n i (pc + 3) ls (rv.toList ++ r) hp2
                | none => none)
              else none
            | none => none)
          | none => (stpR q en st).map (fun rv => (rv, hp)))))
    | _, _ => none
end
section
/-! how plain cells lie in the heap: the place k is the address pB + k -/
abbrev prm : Type := Nat × (Nat → Nat) × Value × (Nat → ClassId) × va_G × Nat × (Nat → Int32)
def pB (P : prm) : Nat := P.1
def pC (P : prm) : Nat → Nat := P.2.1
def pF (P : prm) : Value := P.2.2.1
def pY (P : prm) : Nat → ClassId := P.2.2.2.1
def pG (P : prm) : va_G := P.2.2.2.2.1
def pL (P : prm) : Nat := P.2.2.2.2.2.1
def pX (P : prm) : Nat → Int32 := P.2.2.2.2.2.2
def cv (P : prm) (v : Value) : Value := match v with
  | .ref k => .ref (pB P + k)
  | .retAddr k => if k < 3 then .ref (pC P k) else pF P
  | .int x => .int x
  | .long x => .long x
  | .float x => .float x
  | .double x => .double x
  | .null => .null
theorem cv_cat {P : prm} (hf : (pF P).category = 1) (v : Value) : (cv P v).category = v.category := by
  cases v <;> try rfl
  rename_i k
  show (if k < 3 then Value.ref (pC P k) else pF P).category = 1
  split
  · rfl
  · exact hf
theorem catS_cv {P : prm} (hf : (pF P).category = 1) (st : List Value) : ((st.map (cv P)).map fun v => v.category).sum = catS st := by
  unfold catS
  rw [List.map_map]
  congr 1
  apply List.map_congr_left
  intro v _
  exact cv_cat hf v
def cE (P : prm) (c : hcel) : va_E := match c with
  | .inl (t, n, .inl f) => .inl (pY P t, n, .inl f)
  | .inl (t, n, .inr g) => .inl (pY P t, n, .inr (.inr (.inr (.inr (fun j => (g j).map (fun k => pB P + k))))))
  | .inr (ci, fs) => .inr (ci, fs.map (cv P))
def conc (P : prm) (l : List hcel) : va_W := l.mapIdx (fun k c => (pB P + k, cE P c))
theorem conc_at {P : prm} {l : List hcel} {a : Nat} {c : hcel} (h : l[a]? = some c) : (conc P l)[a]? = some (pB P + a, cE P c) := by
  unfold conc
  rw [List.getElem?_mapIdx, h]
  rfl
theorem conc_of {P : prm} {l : List hcel} {a : Nat} {x : Nat × va_E} (h : (conc P l)[a]? = some x) : a < l.length ∧ x.1 = pB P + a := by
  unfold conc at h
  rw [List.getElem?_mapIdx] at h
  cases hc : l[a]? with
  | none => rw [hc] at h; cases h
  | some c =>
    rw [hc] at h
    cases h
    exact ⟨(List.getElem?_eq_some_iff.mp hc).1, rfl⟩
theorem conc_set {P : prm} {l : List hcel} {a : Nat} {c : hcel} : (conc P l).set a (pB P + a, cE P c) = conc P (l.set a c) := by
  apply List.ext_getElem?
  intro j
  unfold conc
  rw [List.getElem?_set, List.getElem?_mapIdx, List.getElem?_mapIdx, List.getElem?_set, List.length_mapIdx]
  by_cases h : a = j
  · subst h
    by_cases h2 : a < l.length
    · simp [h2]
    · simp [h2]
  · simp [h]
theorem conc_push {P : prm} {l : List hcel} {c : hcel} : conc P (l ++ [c]) = conc P l ++ [(pB P + l.length, cE P c)] := by
  unfold conc
  rw [List.mapIdx_append]
  simp
def AA (P : prm) : Nat → Prop := fun q => pB P ≤ q
def tys (P : prm) : List (ClassId × FieldType) := [(pY P 0, .int), (pY P 1, .boolean), (pY P 2, .char), (pY P 3, .object cn0)]
def nst : List Cond := lw_tbl.filter (fun w => match w with | .methodLinkNest .. => true | _ => false)
def gtb : List Cond := lw_tbl.filter goodWord
theorem gtb_in {w : Cond} (h : w ∈ gtb) : w ∈ lw_tbl := (List.mem_filter.mp h).1
theorem gtb_good {w : Cond} (h : w ∈ gtb) : goodWord w = true := (List.mem_filter.mp h).2
theorem gtb_mk {w : Cond} (h : w ∈ lw_tbl) (g : goodWord w = true) : w ∈ gtb := List.mem_filter.mpr ⟨h, g⟩
/-- what was there before the law, and is never written -/
def Cst (P : prm) (U : State) (H : Heap) : Prop := (∀ w ∈ nst, va_Nw w U) ∧ va_AO cn0 U ∧ vk_R hostN 80 fTx (pC P 1) U ∧ va_Z "java/lang/String" "COMPACT_STRINGS" "Z" (.int 1) (AA P) U H ∧ va_Z "jdk/internal/util/Preconditions" "SIOOBE_FORMATTER" "Ljava/util/function/BiFunction;" (pF P) (AA P) U H ∧ va_O "java/lang/String" (pC P 1) (AA P) U H ∧ va_OF "java/lang/String" "code\x72" "B" (.int 0) (pC P 1) (AA P) U H ∧ va_OF "java/lang/String" "value" "[B" (.ref (pC P 2)) (pC P 1) (AA P) U H ∧ va_T .byte (pC P 2) 60 (fun j => .int (sB.getD j 0)) (AA P) U H ∧ va_X (pC P 0) (pL P) (pX P) U H ∧ pC P 0 < pB P
theorem nst_form {w : Cond} (h : w ∈ nst) : ∃ a i x b, w = .methodLinkNest a i x b := by
  have h2 := (List.mem_filter.mp h).2
  split at h2
  · exact ⟨_, _, _, _, rfl⟩
  · cases h2
theorem Cst.go {P : prm} {s U : State} {locs : List Loc} (hW : s.WarmedH U.vm) (hB : pB P ≤ s.heap.size) (hS : va_S (AA P) s.heap U.heap locs) (h : Cst P s s.heap) : Cst P U U.heap := by
  obtain ⟨h1, h2, h3, h4, h5, h6, h7, h8, h9, h10, h11⟩ := h
  have hvm := hW.alike
  refine ⟨fun w hw => ?_, h2.moved hvm, h3.warm hW, (h4.moved hvm).kept hS.2.1, (h5.moved hvm).kept hS.2.1, (h6.moved hvm).kept hS.2.1, (h7.moved hvm).kept hS.2.1, (h8.moved hvm).kept hS.2.1, (h9.moved hvm).kept hS.2.1, (h10.moved hvm).kept (hS.2.1 _ (by omega) (by unfold AA; omega)), h11⟩
  obtain ⟨a, i, x, b, rfl⟩ := nst_form hw
  exact va_Nw.warmM hW (h1 _ hw)
theorem Cst.same {P : prm} {u U : State} (hv : u.vm = U.vm) (hh : U.heap = u.heap) (h : Cst P u u.heap) : Cst P U U.heap := by
  obtain ⟨h1, h2, h3, h4, h5, h6, h7, h8, h9, h10, h11⟩ := h
  have hvm : u.vm.Alike U.vm := by rw [hv]; exact Vm.Alike.refl _
  rw [hh]
  refine ⟨fun w hw => ?_, h2.moved hvm, h3.same hv.symm, h4.moved hvm, h5.moved hvm, h6.moved hvm, h7.moved hvm, h8.moved hvm, h9.moved hvm, h10.moved hvm, h11⟩
  obtain ⟨a, i, x, b, rfl⟩ := nst_form hw
  exact va_Nw.same rfl hv (h1 _ hw)
/-- the world of a state -/
def WD (P : prm) (hp : hh) (U : State) : Prop := U.heap.size = pB P + hp.1.length ∧ va_P (pG P) classes (conc P hp.1) U.heap ∧ va_K (pG P) classes (tys P) U ∧ va_D (AA P) (conc P hp.1) ∧ Cst P U U.heap
theorem conc_D {P : prm} {l : List hcel} : va_D (AA P) (conc P l) := by
  refine ⟨fun i j x y hx hy hxy => ?_, fun k x hx => ?_⟩
  · have h1 := (conc_of hx).2
    have h2 := (conc_of hy).2
    omega
  · have h1 := (conc_of hx).2
    show pB P ≤ x.1
    omega
/-- locals -/
def lvOf (P : prm) (ls : lcs) : List (Nat × Value) := ls.zipIdx.filterMap (fun q => q.1.map (fun v => (q.2, cv P v)))
theorem lvOf_mem {P : prm} {ls : lcs} {i : Nat} {w : Value} : (i, w) ∈ lvOf P ls ↔ ∃ v, ls[i]? = some (some v) ∧ w = cv P v := by
  unfold lvOf
  rw [List.mem_filterMap]
  constructor
  · rintro ⟨⟨o, j⟩, hm, he⟩
    rw [List.mem_zipIdx_iff_getElem?] at hm
    cases o with
    | none => cases he
    | some v =>
      simp only [Option.map_some, Option.some.injEq, Prod.mk.injEq] at he
      obtain ⟨rfl, rfl⟩ := he
      exact ⟨v, hm, rfl⟩
  · rintro ⟨v, hv, rfl⟩
    exact ⟨(some v, i), List.mem_zipIdx_iff_getElem?.mpr hv, rfl⟩
def hasL (P : prm) (lsr : Array Slot) (nL : Nat) (ls : lcs) : Prop := lv_has lsr nL (lvOf P ls) ∧ ls.length = nL
theorem lGet_iff {ls : lcs} {k : Nat} {v : Value} : lGet ls k = some v ↔ ls[k]? = some (some v) := by
  unfold lGet
  split
  · rename_i w h
    rw [h]; simp
  · rename_i h
    constructor
    · intro h2; cases h2
    · intro h2; exact absurd h2 (h v)
theorem hasL.get {P : prm} {lsr : Array Slot} {nL : Nat} {ls : lcs} (h : hasL P lsr nL ls) {k : Nat} {v : Value} (hk : lGet ls k = some v) : lsr[k]? = some (.val (cv P v)) := h.1.2.2 (k, cv P v) (lvOf_mem.mpr ⟨v, lGet_iff.mp hk, rfl⟩)
theorem hasL.size {P : prm} {lsr : Array Slot} {nL : Nat} {ls : lcs} (h : hasL P lsr nL ls) : lsr.size = nL := h.1.1
theorem clr_len (ls : lcs) (i : Nat) : (clr ls i).length = ls.length := by
  unfold clr
  split
  · rfl
  · split
    · split
      · exact List.length_set
      · rfl
    · rfl
/-- what is left of the locals was there, and isn't a long of which the second half goes -/
theorem clr_at {P : prm} (hf : (pF P).category = 1) {ls : lcs} {i j : Nat} {v : Value} (h : (clr ls i)[j]? = some (some v)) : ls[j]? = some (some v) ∧ ¬ (j + 1 = i ∧ (cv P v).category = 2) := by
  rw [cv_cat hf]
  unfold clr at h
  split at h
  · exact ⟨h, fun z => by omega⟩
  · rename_i k
    split at h
    · rename_i w hw
      have hw2 := lGet_iff.mp hw
      split at h
      · rw [List.getElem?_set] at h
        by_cases hj : k = j
        · subst hj
          rw [if_pos rfl] at h
          split at h <;> cases h
        · rw [if_neg hj] at h
          exact ⟨h, fun z => hj (by omega)⟩
      · rename_i hc
        refine ⟨h, fun z => ?_⟩
        have : k = j := by omega
        subst this
        rw [hw2] at h
        cases h
        exact hc z.2
    · rename_i hw
      refine ⟨h, fun z => ?_⟩
      have : k = j := by omega
      subst this
      rw [lGet_iff.mpr h] at hw
      cases hw
theorem hasL.set {P : prm} (hf : (pF P).category = 1) {lsr : Array Slot} {nL : Nat} {ls l2 : lcs} (h : hasL P lsr nL ls) {i : Nat} {v : Value} (hs : lSet ls i v = some l2) : i < nL ∧ ∀ lsr2 : Array Slot, lv_has lsr2 nL ((i, cv P v) :: (lvOf P ls).filter (fun q => !(q.1 == i) && !(q.1 + 1 == i && q.2.category == 2))) → hasL P lsr2 nL l2 := by
  unfold lSet at hs
  split at hs
  · rename_i hc
    cases hs
    refine ⟨by rw [← h.2]; exact hc, fun lsr2 h2 => ⟨⟨h2.1, h2.2.1, fun q hq => h2.2.2 q ?_⟩, by rw [List.length_set, clr_len]; exact h.2⟩⟩
    obtain ⟨j, w⟩ := q
    obtain ⟨x, hx, rfl⟩ := lvOf_mem.mp hq
    rw [List.getElem?_set, clr_len] at hx
    by_cases hj : i = j
    · subst hj
      rw [if_pos rfl, if_pos hc] at hx
      cases hx
      exact List.mem_cons_self
    · rw [if_neg hj] at hx
      obtain ⟨hx, h3⟩ := clr_at hf hx
      refine List.mem_cons_of_mem _ (List.mem_filter.mpr ⟨lvOf_mem.mpr ⟨x, hx, rfl⟩, ?_⟩)
      have h4 : ¬ j = i := fun z => hj z.symm
      by_cases h5 : j + 1 = i
      · have h6 : ¬ (cv P x).category = 2 := fun z => h3 ⟨h5, z⟩
        simp [h4, h6]
      · simp [h4, h5]
  · cases hs
theorem hasL.set2 {P : prm} (hf : (pF P).category = 1) {lsr : Array Slot} {nL : Nat} {ls l2 : lcs} (h : hasL P lsr nL ls) {i : Nat} {v : Value} (hs : lSet2 ls i v = some l2) : i + 1 < nL ∧ ∀ lsr2 : Array Slot, lv_has lsr2 nL ((i, cv P v) :: (lvOf P ls).filter (fun q => !(q.1 == i) && (!(q.1 == i + 1) && !(q.1 + 1 == i && q.2.category == 2)))) → hasL P lsr2 nL l2 := by
  unfold lSet2 at hs
  split at hs
  · rename_i hc
    cases hs
    refine ⟨by rw [← h.2]; exact hc, fun lsr2 h2 => ⟨⟨h2.1, h2.2.1, fun q hq => h2.2.2 q ?_⟩, by rw [List.length_set, List.length_set, clr_len]; exact h.2⟩⟩
    obtain ⟨j, w⟩ := q
    obtain ⟨x, hx, rfl⟩ := lvOf_mem.mp hq
    rw [List.getElem?_set, List.length_set, clr_len] at hx
    by_cases hj1 : i + 1 = j
    · subst hj1
      rw [if_pos rfl, if_pos hc] at hx
      cases hx
    · rw [if_neg hj1, List.getElem?_set, clr_len] at hx
      by_cases hj : i = j
      · subst hj
        rw [if_pos rfl, if_pos (by omega)] at hx
        cases hx
        exact List.mem_cons_self
      · rw [if_neg hj] at hx
        obtain ⟨hx, h3⟩ := clr_at hf hx
        refine List.mem_cons_of_mem _ (List.mem_filter.mpr ⟨lvOf_mem.mpr ⟨x, hx, rfl⟩, ?_⟩)
        have h4 : ¬ j = i := fun z => hj z.symm
        have h7 : ¬ j = i + 1 := fun z => hj1 z.symm
        by_cases h5 : j + 1 = i
        · have h6 : ¬ (cv P x).category = 2 := fun z => h3 ⟨h5, z⟩
          simp [h4, h6, h7]
        · simp [h4, h5, h7]
  · cases hs
theorem lvArgs_mem {P : prm} (hf : (pF P).category = 1) : ∀ (as : List Value) (pre : lcs) (i : Nat) (v : Value), (pre ++ as.flatMap fun v => if v.category = 2 then [some v, (none : Option Value)] else [some v])[i]? = some (some v) → pre[i]? = some (some v) ∨ (i, cv P v) ∈ lv_args pre.length (as.map (cv P))
  | [], pre, i, v, h => by simp at h; exact Or.inl h
  | x :: as, pre, i, v, h => by
    rw [List.flatMap_cons, ← List.append_assoc] at h
    rcases lvArgs_mem hf as _ i v h with h1 | h1
    · by_cases hx : x.category = 2
      · rw [if_pos hx] at h1
        rcases Nat.lt_trichotomy i pre.length with hi | hi | hi
        · rw [List.getElem?_append_left hi] at h1; exact Or.inl h1
        · subst hi
          rw [List.getElem?_append_right (Nat.le_refl _)] at h1
          simp at h1
          subst h1
          exact Or.inr List.mem_cons_self
        · rw [List.getElem?_append_right (by omega)] at h1
          rcases (show i - pre.length = 1 ∨ 2 ≤ i - pre.length by omega) with e | e
          · rw [e] at h1; simp at h1
          · have : [some x, (none : Option Value)][i - pre.length]? = none := List.getElem?_eq_none (by simpa using e)
            rw [this] at h1; cases h1
      · rw [if_neg hx] at h1
        rcases Nat.lt_trichotomy i pre.length with hi | hi | hi
        · rw [List.getElem?_append_left hi] at h1; exact Or.inl h1
        · subst hi
          rw [List.getElem?_append_right (Nat.le_refl _)] at h1
          simp at h1
          subst h1
          exact Or.inr List.mem_cons_self
        · rw [List.getElem?_append_right (by omega)] at h1
          have : [some x][i - pre.length]? = none := List.getElem?_eq_none (by simp; omega)
          rw [this] at h1; cases h1
    · refine Or.inr ?_
      show (i, cv P v) ∈ (pre.length, cv P x) :: lv_args (if (cv P x).category = 2 then pre.length + 2 else pre.length + 1) (as.map (cv P))
      refine List.mem_cons_of_mem _ ?_
      rw [cv_cat hf]
      by_cases hx : x.category = 2
      · rw [if_pos hx] at h1 ⊢
        simpa using h1
      · rw [if_neg hx] at h1 ⊢
        simpa using h1
theorem lgsl_len {P : prm} (hf : (pF P).category = 1) (as : List Value) : (lg_sl (as.map (cv P))).length = (as.flatMap fun v => if v.category = 2 then [some v, (none : Option Value)] else [some v]).length := by
  unfold lg_sl
  induction as with
  | nil => rfl
  | cons x as ih =>
    rw [List.map_cons, List.flatMap_cons, List.flatMap_cons, List.length_append, List.length_append, ih, cv_cat hf]
    by_cases hx : x.category = 2
    · rw [if_pos hx, if_pos hx]; rfl
    · rw [if_neg hx, if_neg hx]; rfl
theorem hasL.entry {P : prm} (hf : (pF P).category = 1) {as : List Value} {n : Nat} (h : (as.flatMap fun v => if v.category = 2 then [some v, (none : Option Value)] else [some v]).length ≤ n) : hasL P ((lg_sl (as.map (cv P)) ++ List.replicate (n - (lg_sl (as.map (cv P))).length) Slot.unset).toArray) n (ent0 n as) := by
  have h1 := lv_entry (as.map (cv P)) (n := n) (by rw [lgsl_len hf]; exact h)
  refine ⟨⟨h1.1, h1.2.1, fun q hq => h1.2.2 q ?_⟩, ?_⟩
  · obtain ⟨i, w⟩ := q
    obtain ⟨v, hv, rfl⟩ := lvOf_mem.mp hq
    unfold ent0 at hv
    by_cases hi : i < (as.flatMap fun v => if v.category = 2 then [some v, (none : Option Value)] else [some v]).length
    · rw [List.getElem?_append_left hi] at hv
      rcases lvArgs_mem hf as [] i v (by simpa using hv) with h2 | h2
      · simp at h2
      · exact h2
    · rw [List.getElem?_append_right (by omega), List.getElem?_replicate] at hv
      split at hv <;> cases hv
  · unfold ent0
    rw [List.length_append, List.length_replicate]
    omega
end
section
/-! what the checks give of an entry of code -/
def eOk (q : minfo) (pc : Nat) (en : ent) : Prop := decode (mBy q) pc = .ok (en.1, en.2.1) ∧ (∀ w ∈ need (mNm q).cls en, w ∈ lw_tbl ∧ (goodWord w || isSpec w) = true) ∧ lenOk en = true ∧ stat q pc en = true
theorem lku_mem {pc : Nat} {en : ent} : ∀ {l : List (Nat × ent)}, lku pc l = some en → (pc, en) ∈ l
  | [], h => by cases h
  | x :: r, h => by
    unfold lku at h
    split at h
    · rename_i hx
      cases h
      have : x.1 = pc := Nat.eq_of_beq_eq_true hx
      subst this
      exact List.mem_cons_self
    · exact List.mem_cons_of_mem _ (lku_mem h)
theorem ctab_ok {i pc : Nat} {q : minfo} {en : ent} (hq : mtab[i]? = some q) (h : ctab i pc = some en) : eOk q pc en := by
  unfold ctab at h
  rw [hq] at h
  have hm : (pc, en) ∈ mCd q := lku_mem h
  have hc := List.all_eq_true.mp (ck_all q (List.mem_of_getElem? hq)) _ hm
  unfold chkE at hc
  simp only [Bool.and_eq_true, decide_eq_true_eq] at hc
  obtain ⟨⟨⟨⟨h1, h2⟩, h3⟩, h4⟩, h5⟩ := hc
  refine ⟨h1, fun w hw => ⟨?_, List.all_eq_true.mp h3 w hw⟩, h4, h5⟩
  have : some w ∈ (need (mNm q).cls en).map some := List.mem_map.mpr ⟨w, hw, rfl⟩
  rw [← h2] at this
  obtain ⟨p, -, hp⟩ := List.mem_map.mp this
  exact List.mem_of_getElem? hp
/-- what holds in a frame of the method q -/
def Fx (P : prm) (q : minfo) (p : Program) (R : Room) (s : State) (m : MethodId) (args : Array Value) (meth : Method) (c : Code) : Prop :=
  p.tables.exec = Jvm.exec ∧ c.code = mBy q ∧ c.maxLocals = mLx q ∧ s.vm.findClass (mNm q).cls = some m.cls ∧ (∀ w ∈ gtb, w.before args s = true) ∧ va_K (pG P) classes (tys P) s ∧ Cst P s s.heap ∧ mFr q ≤ R.frames ∧ mLo q ≤ R.locals ∧ ((mNm q).name = "<init>" → meth.name = "<init>") ∧ (pF P).category = 1 ∧ pB P ≤ s.heap.size
theorem eOk.dec {q : minfo} {pc len a b : Nat} {ins : Instr} {c : Int} {pl : List Nat} (h : eOk q pc (ins, len, a, b, c, pl)) {n : Nat} (hn : lenOk (ins, len, a, b, c, pl) = decide (len = n)) : decode (mBy q) pc = .ok (ins, n) := by
  obtain ⟨h1, -, h3, -⟩ := h
  rw [hn, decide_eq_true_eq] at h3
  rw [h1]
  simp only [h3]
theorem eOk.word {q : minfo} {pc : Nat} {en : ent} (h : eOk q pc en) {s : State} {args : Array Value} (hts : ∀ w ∈ gtb, w.before args s = true) {w : Cond} (hw : w ∈ need (mNm q).cls en) (hs : isSpec w = false) : w ∈ gtb ∧ w.before args s = true := by
  have h2 := h.2.1 w hw
  rw [hs, Bool.or_false] at h2
  have := gtb_mk h2.1 h2.2
  exact ⟨this, hts w this⟩
/-- the classes of the worlds -/
theorem cls_ok : ∀ (ci : Nat) (c : vw_C), classes[ci]? = some c → (∀ w ∈ u_ws c.1 c.2.1 c.2.2, w ∈ gtb) ∧ ∃ f, cfs[ci]? = some f ∧ (∀ k, k < c.2.2 → parseFieldDescriptor (c.2.1 k).2.2.1 = some (f k)) ∧ (∀ a, a < c.2.2 → ∀ b, b < c.2.2 → a ≠ b → (c.2.1 a).2.1 ≠ (c.2.1 b).2.1) := by
  have key : ∀ {C : String} {T : u_T} {N : Nat}, (∀ w ∈ u_ws C T N, w ∈ lw_tbl) → (u_ws C T N).all goodWord = true → ∀ w ∈ u_ws C T N, w ∈ gtb := fun h g w hw => gtb_mk (h w hw) (List.all_eq_true.mp g w hw)
  intro ci c h
  match ci, h with
  | 0, h => cases h; exact ⟨key cw0 (by decide +kernel), _, rfl, cp0, cm0⟩
  | 1, h => cases h; exact ⟨key cw1 (by decide +kernel), _, rfl, cp1, cm1⟩
  | 2, h => cases h; exact ⟨key cw2 (by decide +kernel), _, rfl, cp2, cm2⟩
  | 3, h => cases h; exact ⟨key cw3 (by decide +kernel), _, rfl, cp3, cm3⟩
  | 4, h => cases h; exact ⟨key cw4 (by decide +kernel), _, rfl, cp4, cm4⟩
  | 5, h => cases h; exact ⟨key cw5 (by decide +kernel), _, rfl, cp5, cm5⟩
  | 6, h => cases h; exact ⟨key cw6 (by decide +kernel), _, rfl, cp6, cm6⟩
  | 7, h => cases h; exact ⟨key cw7 (by decide +kernel), _, rfl, cp7, cm7⟩
  | 8, h => cases h; exact ⟨key cw8 (by decide +kernel), _, rfl, cp8, cm8⟩
  | 9, h => cases h; exact ⟨key cw9 (by decide +kernel), _, rfl, cp9, cm9⟩
  | 10, h => cases h; exact ⟨key cw10 (by decide +kernel), _, rfl, cp10, cm10⟩
  | k + 11, h => simp [classes] at h
theorem inB_in {i : Int32} {n : Nat} (h : inB i n = true) : vp_in i n := by
  unfold inB at h
  simp only [Bool.and_eq_true, decide_eq_true_eq] at h
  rintro (h1 | h1)
  · exact h.1 h1
  · omega
theorem tys_at {P : prm} {t : Nat} (h : t < 4) : ∃ ty, (tys P)[t]? = some (pY P t, ty) := by
  rcases (show t = 0 ∨ t = 1 ∨ t = 2 ∨ t = 3 by omega) with rfl | rfl | rfl | rfl
  · exact ⟨_, rfl⟩
  · exact ⟨_, rfl⟩
  · exact ⟨_, rfl⟩
  · exact ⟨_, rfl⟩
theorem stLdI_inv {ls ls2 : lcs} {k n pc pc2 : Nat} {st st2 : List Value} (h : stLdI ls k n pc st = some (pc2, ls2, st2)) : ∃ x, lGet ls k = some (.int x) ∧ pc2 = pc + n ∧ ls2 = ls ∧ st2 = .int x :: st := by
  unfold stLdI at h
  split at h
  · rename_i x hx
    cases h
    exact ⟨x, hx, rfl, rfl, rfl⟩
  · cases h
theorem stLdL_inv {ls ls2 : lcs} {k n pc pc2 : Nat} {st st2 : List Value} (h : stLdL ls k n pc st = some (pc2, ls2, st2)) : ∃ x, lGet ls k = some (.long x) ∧ pc2 = pc + n ∧ ls2 = ls ∧ st2 = .long x :: st := by
  unfold stLdL at h
  split at h
  · rename_i x hx
    cases h
    exact ⟨x, hx, rfl, rfl, rfl⟩
  · cases h
theorem stLdA_inv {ls ls2 : lcs} {k n pc pc2 : Nat} {st st2 : List Value} (h : stLdA ls k n pc st = some (pc2, ls2, st2)) (P : prm) : ∃ v a, lGet ls k = some v ∧ cv P v = .ref a ∧ pc2 = pc + n ∧ ls2 = ls ∧ st2 = v :: st := by
  unfold stLdA at h
  split at h
  · rename_i x hx
    cases h
    exact ⟨_, _, hx, rfl, rfl, rfl, rfl⟩
  · rename_i x hx
    split at h
    · rename_i h3
      cases h
      exact ⟨_, pC P x, hx, by show (if x < 3 then Value.ref (pC P x) else pF P) = _; rw [if_pos h3], rfl, rfl, rfl⟩
    · cases h
  · cases h
theorem stStI_inv {ls ls2 : lcs} {k n pc pc2 : Nat} {st st2 : List Value} (h : stStI ls k n pc st = some (pc2, ls2, st2)) : ∃ x, st = .int x :: st2 ∧ lSet ls k (.int x) = some ls2 ∧ pc2 = pc + n := by
  unfold stStI at h
  split at h
  · rename_i x r
    cases hs : lSet ls k (.int x) with
    | none => rw [hs] at h; cases h
    | some l2 => rw [hs] at h; cases h; exact ⟨x, rfl, hs, rfl⟩
  · cases h
theorem stStL_inv {ls ls2 : lcs} {k n pc pc2 : Nat} {st st2 : List Value} (h : stStL ls k n pc st = some (pc2, ls2, st2)) : ∃ x, st = .long x :: st2 ∧ lSet2 ls k (.long x) = some ls2 ∧ pc2 = pc + n := by
  unfold stStL at h
  split at h
  · rename_i x r
    cases hs : lSet2 ls k (.long x) with
    | none => rw [hs] at h; cases h
    | some l2 => rw [hs] at h; cases h; exact ⟨x, rfl, hs, rfl⟩
  · cases h
theorem stStA_inv {ls ls2 : lcs} {k n pc pc2 : Nat} {st st2 : List Value} (h : stStA ls k n pc st = some (pc2, ls2, st2)) : ∃ x, st = .ref x :: st2 ∧ lSet ls k (.ref x) = some ls2 ∧ pc2 = pc + n := by
  unfold stStA at h
  split at h
  · rename_i x r
    cases hs : lSet ls k (.ref x) with
    | none => rw [hs] at h; cases h
    | some l2 => rw [hs] at h; cases h; exact ⟨x, rfl, hs, rfl⟩
  · cases h
theorem tgtS_inv {pc t : Nat} {off : Int} (h : tgtS pc off = some t) : (pc : Int) + off = (t : Int) := by
  unfold tgtS at h
  split at h
  · cases h
    omega
  · cases h
theorem str_one : lw_tbl.all (fun w => match w with | .stringRef a b _ => decide (a = hostN) && decide (b = 80) | _ => true) = true := by decide +kernel
theorem str_is {a t : String} {i : Nat} (h : Cond.stringRef a i t ∈ lw_tbl) : a = hostN ∧ i = 80 := by
  have := List.all_eq_true.mp str_one _ h
  simpa using this
section SIMA
variable {P : prm} {q : minfo} {p : Program} {l : Launch} {e : Env} {R : Room} {s : State} {m : MethodId} {args : Array Value} {below : List Frame} {meth : Method} {c : Code} {H : Heap} {locs : List Loc} {cells slots : Nat} {Q : State → Prop}
/-- arithmetic -/
theorem simAr {pc len ea eb : Nat} {ec : Int} {ep : List Nat} {ins : Instr} {lsr : Array Slot} {st st2 : List Value} (FX : Fx P q p R s m args meth c) (hen : eOk q pc (ins, len, ea, eb, ec, ep)) (h : stAr ins st = some st2)
    (k : W p l e R s m args below meth c H locs cells slots Q (F0 m (pc + 1) lsr (st2.map (cv P)))) : W p l e R s m args below meth c H locs cells slots Q (F0 m pc lsr (st.map (cv P))) := by
  have hx := FX.1
  have hb := FX.2.1
  have hf := FX.2.2.2.2.2.2.2.2.2.2.1
  unfold stAr at h
  split at h
  · cases h; exact lv_iadd hx hb (hen.dec rfl) k
  · cases h; exact lv_isub hx hb (hen.dec rfl) k
  · cases h; exact lv_imul hx hb (hen.dec rfl) k
  · cases h; exact lv_iand hx hb (hen.dec rfl) k
  · cases h; exact lv_ishr hx hb (hen.dec rfl) k
  · split at h
    · cases h
    · rename_i hne; cases h; exact lv_idiv hx hb (hen.dec rfl) hne k
  · split at h
    · cases h
    · rename_i hne; cases h; exact lv_irem hx hb (hen.dec rfl) hne k
  · cases h; exact lv_ladd hx hb (hen.dec rfl) k
  · cases h; exact lv_lmul hx hb (hen.dec rfl) k
  · cases h; exact lv_land hx hb (hen.dec rfl) k
  · cases h; exact lv_lxor hx hb (hen.dec rfl) k
  · split at h
    · cases h
    · rename_i hne; cases h; exact lv_lrem hx hb (hen.dec rfl) hne k
  · cases h; exact W.lcmp hx hb (hen.dec rfl) k
  · cases h; exact lv_lshl hx hb (hen.dec rfl) rfl k
  · cases h; exact lv_lshr hx hb (hen.dec rfl) rfl k
  · cases h; exact lv_i2l hx hb (hen.dec rfl) rfl k
  · cases h; exact lv_l2i hx hb (hen.dec rfl) rfl k
  · cases h; exact lv_i2c hx hb (hen.dec rfl) rfl k
  · split at h
    · rename_i hv; cases h; exact lv_dup hx hb (hen.dec rfl) (by rw [cv_cat hf]; exact hv) k
    · cases h
  · split at h
    · rename_i hv; cases h; exact lv_pop hx hb (hen.dec rfl) (by rw [cv_cat hf]; exact hv) k
    · cases h
  · split at h
    · rename_i hv; cases h; exact lv_dup2_11 hx hb (hen.dec rfl) (by rw [cv_cat hf]; exact hv.1) (by rw [cv_cat hf]; exact hv.2) k
    · cases h
  · cases h; exact lv_iconst hx hb (hen.dec rfl) rfl k
  · cases h; exact lv_lconst hx hb (hen.dec rfl) rfl k
  · cases h
/-- reading cells -/
theorem simRd {pc len ea eb : Nat} {ec : Int} {ep : List Nat} {ins : Instr} {lsr : Array Slot} {st st2 : List Value} {hp : hh} (FX : Fx P q p R s m args meth c) (hen : eOk q pc (ins, len, ea, eb, ec, ep)) (hP : va_P (pG P) classes (conc P hp.1) H) (hS : va_S (AA P) s.heap H locs) (h : stRd (pL P) (pX P) (ins, len, ea, eb, ec, ep) st hp = some st2)
    (k : W p l e R s m args below meth c H locs cells slots Q (F0 m (pc + ilen ins) lsr (st2.map (cv P)))) : W p l e R s m args below meth c H locs cells slots Q (F0 m pc lsr (st.map (cv P))) := by
  obtain ⟨hx, hb, hml, hown, hts, hK, hC, hfr, hlo, hnm, hf, hB⟩ := id FX
  obtain ⟨c1, c2, c3, c4, c5, c6, c7, c8, c9, c10, c11⟩ := id hC
  unfold stRd at h
  dsimp only at h
  split at h
  · split at h
    · rename_i o ho
      split at h
      · cases h
      · rename_i h99
        split at h
        · rename_i ho1
          cases hv : o.2[eb]? with
          | none => rw [show eB _ = eb from rfl, hv] at h; cases h
          | some v =>
            rw [show eB _ = eb from rfl, hv] at h
            cases h
            have hst := hen.2.2.2
            have h99' : ¬ ea = 99 := h99
            cases hcl : classes[ea]? with
            | none =>
              unfold stat at hst
              simp only [eA, hcl, h99', decide_false, Bool.false_or] at hst
              cases hst
            | some cc =>
              unfold stat at hst
              simp only [eA, eB, hcl, h99', decide_false, Bool.false_or, decide_eq_true_eq] at hst
              have hw := hen.word hts (w := .fieldLink (mNm q).cls _ (cc.2.1 eb).1 (cc.2.1 eb).2.1 (cc.2.1 eb).2.2.1) (by unfold need; simp only [eA, eB, hcl, h99', if_false]; exact List.mem_cons_self) rfl
              obtain ⟨oc, os⟩ := o
              have hoe : oc = ea := ho1
              subst hoe
              exact va_get hx hb hts (cls_ok oc cc hcl).1 hown hK hP _ (fs := os.map (cv P)) (ci := oc) (conc_at ho) hcl eb (of_decide_eq_true hst) hw.2 (fun _ z => z) (v := cv P v) (by rw [List.getElem?_map, hv]; rfl) (hen.dec rfl) k
        · cases h
    · cases h
  · split at h
    · rename_i h99
      have h99' : ea = 99 := h99
      have hk1 : cv P (.retAddr 1) = .ref (pC P 1) := rfl
      cases h
      by_cases h0 : eb = 0
      · have hw := hen.word hts (w := .fieldLink (mNm q).cls _ "java/lang/String" "code\x72" "B") (by unfold need; simp only [eA, eB, h99', h0, if_true]; exact List.mem_cons_self) rfl
        refine vk_getf hx hb c7 hS hown hw.2 (fun _ z => z) (hen.dec rfl) ?_
        simpa [eB, h0, cv, ilen] using k
      · have hw := hen.word hts (w := .fieldLink (mNm q).cls _ "java/lang/String" "value" "[B") (by unfold need; simp only [eA, eB, h99', h0, if_true, if_false]; exact List.mem_cons_self) rfl
        refine vk_getf hx hb c8 hS hown hw.2 (fun _ z => z) (hen.dec rfl) ?_
        simpa [eB, h0, cv, ilen] using k
    · cases h
  · split at h
    · rename_i t n f ho
      split at h
      · rename_i hc
        simp only [Bool.and_eq_true, decide_eq_true_eq] at hc
        obtain ⟨rfl, hi⟩ := hc
        cases h
        exact va_iald hx hb hK hP _ 0 (conc_at ho) rfl (inB_in hi) (hen.dec rfl) k
      · cases h
    · cases h
  · split at h
    · rename_i hi
      cases h
      exact va_sld hx hb c10 (by omega) (by unfold AA; omega) hS (inB_in hi) (hen.dec rfl) k
    · cases h
  · split at h
    · rename_i t n f ho
      split at h
      · rename_i hc
        simp only [Bool.and_eq_true, decide_eq_true_eq] at hc
        obtain ⟨rfl, hi⟩ := hc
        cases h
        exact va_zald hx hb hK hP _ 1 (conc_at ho) rfl (inB_in hi) (hen.dec rfl) k
      · cases h
    · cases h
  · split at h
    · rename_i hi
      cases h
      exact va_tb hx hb c9 hS (inB_in hi) rfl (hen.dec rfl) k
    · cases h
  · split at h
    · rename_i t n f ho
      split at h
      · rename_i hc
        simp only [Bool.and_eq_true, decide_eq_true_eq] at hc
        obtain ⟨rfl, hi⟩ := hc
        cases h
        exact va_cald hx hb hK hP _ 2 (conc_at ho) rfl (inB_in hi) (hen.dec rfl) k
      · cases h
    · cases h
  · rename_i i a r
    split at h
    · rename_i t n g ho
      split at h
      · rename_i hc
        simp only [Bool.and_eq_true, decide_eq_true_eq] at hc
        obtain ⟨rfl, hi⟩ := hc
        cases hg : g i.toNatClampNeg with
        | none => rw [hg] at h; cases h
        | some y =>
          rw [hg] at h
          cases h
          refine va_aldq hx hb hK hP _ 3 (C := cn0) (conc_at ho) rfl (inB_in hi) (hen.dec rfl) ?_
          simpa [hg, va_rf, cv, ilen] using k
      · cases h
    · cases h
  · split at h
    · rename_i a r t n y ho
      split at h
      · rename_i ht
        cases h
        obtain ⟨ty, hty⟩ := tys_at (P := P) ht
        rcases y with f | g
        · exact va_alen hx hb hK hP _ t (conc_at ho) hty rfl (hen.dec rfl) k
        · exact va_alen hx hb hK hP _ t (conc_at ho) hty rfl (hen.dec rfl) k
      · cases h
    · cases h
  · cases h
    exact va_slen hx hb c10 (by omega) (by unfold AA; omega) hS (hen.dec rfl) k
  · cases h
    exact va_tlen hx hb c9 hS rfl (hen.dec rfl) k
  · cases h
end SIMA
end
section
section SIMA2
variable {P : prm} {q : minfo} {p : Program} {l : Launch} {e : Env} {R : Room} {s : State} {m : MethodId} {args : Array Value} {below : List Frame} {meth : Method} {c : Code} {H : Heap} {locs : List Loc} {cells slots : Nat} {Q : State → Prop}
theorem simIf {pc len ea eb : Nat} {ec : Int} {ep : List Nat} {cd : ClassFile.Cond} {off : Int} {x : Int32} {lsr : Array Slot} {r : List Value} (FX : Fx P q p R s m args meth c) (hen : eOk q pc (.ifCond cd off, len, ea, eb, ec, ep))
    (k : W p l e R s m args below meth c H locs cells slots Q (F0 m (if cmpB cd x 0 then ea else pc + 3) lsr r)) : W p l e R s m args below meth c H locs cells slots Q (F0 m pc lsr (.int x :: r)) := by
  have hx := FX.1
  have hb := FX.2.1
  have ht : (pc : Int) + off = (ea : Int) := by
    have := hen.2.2.2
    unfold stat at this
    exact of_decide_eq_true this
  cases cd
  · refine lv_if_eq hx hb (hen.dec rfl) ht (fun hc => ?_) (fun hc => ?_) <;> simpa [cmpB, hc] using k
  · refine lv_if_ne hx hb (hen.dec rfl) ht (fun hc => ?_) (fun hc => ?_) <;> simpa [cmpB, hc] using k
  · refine lv_if_lt hx hb (hen.dec rfl) ht (fun hc => ?_) (fun hc => ?_) <;> simpa only [cmpB, hc, decide_true, decide_false, if_true, if_false, Bool.false_eq_true] using k
  · refine lv_if_ge hx hb (hen.dec rfl) ht (fun hc => ?_) (fun hc => ?_) <;> simpa only [cmpB, hc, decide_true, decide_false, if_true, if_false, Bool.false_eq_true] using k
  · refine lv_if_gt hx hb (hen.dec rfl) ht (fun hc => ?_) (fun hc => ?_) <;> simpa only [cmpB, hc, decide_true, decide_false, if_true, if_false, Bool.false_eq_true] using k
  · refine lv_if_le hx hb (hen.dec rfl) ht (fun hc => ?_) (fun hc => ?_) <;> simpa only [cmpB, hc, decide_true, decide_false, if_true, if_false, Bool.false_eq_true] using k
theorem simIcmp {pc len ea eb : Nat} {ec : Int} {ep : List Nat} {cd : ClassFile.Cond} {off : Int} {x y : Int32} {lsr : Array Slot} {r : List Value} (FX : Fx P q p R s m args meth c) (hen : eOk q pc (.if_icmp cd off, len, ea, eb, ec, ep))
    (k : W p l e R s m args below meth c H locs cells slots Q (F0 m (if cmpB cd x y then ea else pc + 3) lsr r)) : W p l e R s m args below meth c H locs cells slots Q (F0 m pc lsr (.int y :: .int x :: r)) := by
  have hx := FX.1
  have hb := FX.2.1
  have ht : (pc : Int) + off = (ea : Int) := by
    have := hen.2.2.2
    unfold stat at this
    exact of_decide_eq_true this
  cases cd
  · refine lv_icmp_eq hx hb (hen.dec rfl) ht (fun hc => ?_) (fun hc => ?_) <;> simpa only [cmpB, hc, decide_true, decide_false, if_true, if_false, Bool.false_eq_true] using k
  · refine lv_icmp_ne hx hb (hen.dec rfl) ht (fun hc => ?_) (fun hc => ?_) <;> simpa [cmpB, hc] using k
  · refine lv_icmp_lt hx hb (hen.dec rfl) ht (fun hc => ?_) (fun hc => ?_) <;> simpa only [cmpB, hc, decide_true, decide_false, if_true, if_false, Bool.false_eq_true] using k
  · refine lv_icmp_ge hx hb (hen.dec rfl) ht (fun hc => ?_) (fun hc => ?_) <;> simpa only [cmpB, hc, decide_true, decide_false, if_true, if_false, Bool.false_eq_true] using k
  · refine lv_icmp_gt hx hb (hen.dec rfl) ht (fun hc => ?_) (fun hc => ?_) <;> simpa only [cmpB, hc, decide_true, decide_false, if_true, if_false, Bool.false_eq_true] using k
  · refine lv_icmp_le hx hb (hen.dec rfl) ht (fun hc => ?_) (fun hc => ?_) <;> simpa only [cmpB, hc, decide_true, decide_false, if_true, if_false, Bool.false_eq_true] using k
theorem map_some_inv {α β : Type} {o : Option α} {f : α → β} {y : β} (h : o.map f = some y) : ∃ x, o = some x ∧ f x = y := by
  cases o with
  | none => cases h
  | some x => exact ⟨x, rfl, Option.some.inj h⟩
/-- a step that leaves the cells as they are -/
theorem simA {en : ent} {pc pc2 : Nat} {ls ls2 : lcs} {lsr : Array Slot} {st st2 : List Value} {hp : hh} (FX : Fx P q p R s m args meth c) (hen : eOk q pc en) (hl : hasL P lsr (mLx q) ls) (hP : va_P (pG P) classes (conc P hp.1) H) (hS : va_S (AA P) s.heap H locs) (hcR : cells ≤ R.cells) (hsR : slots ≤ R.slots) (h : stpA (pL P) (pX P) en pc ls st hp = some (pc2, ls2, st2))
    (k : ∀ lsr2 : Array Slot, hasL P lsr2 (mLx q) ls2 → W p l e R s m args below meth c H locs cells slots Q (F0 m pc2 lsr2 (st2.map (cv P)))) : W p l e R s m args below meth c H locs cells slots Q (F0 m pc lsr (st.map (cv P))) := by
  obtain ⟨hx, hb, hml, hown, hts, hK, hC, hfr, hlo, hnm, hf, hB⟩ := id FX
  obtain ⟨ins, len, ea, eb, ec, ep⟩ := en
  unfold stpA at h
  dsimp only at h
  split at h
  · obtain ⟨x, h1, rfl, rfl, rfl⟩ := stLdI_inv h
    exact lv_iload_n hx hb (hen.dec rfl) rfl (hl.get h1) (k _ hl)
  · obtain ⟨x, h1, rfl, rfl, rfl⟩ := stLdI_inv h
    exact lv_iload hx hb (hen.dec rfl) (hl.get h1) (k _ hl)
  · obtain ⟨x, h1, rfl, rfl, rfl⟩ := stLdL_inv h
    exact lv_lload_n hx hb (hen.dec rfl) rfl (hl.get h1) (k _ hl)
  · obtain ⟨x, h1, rfl, rfl, rfl⟩ := stLdL_inv h
    exact lv_lload hx hb (hen.dec rfl) (hl.get h1) (k _ hl)
  · obtain ⟨v, a, h1, h2, rfl, rfl, rfl⟩ := stLdA_inv h P
    refine lv_aload_n (x := a) hx hb (hen.dec rfl) rfl (by rw [← h2]; exact hl.get h1) ?_
    rw [← h2]
    exact k _ hl
  · obtain ⟨v, a, h1, h2, rfl, rfl, rfl⟩ := stLdA_inv h P
    refine lv_aload (x := a) hx hb (hen.dec rfl) (by rw [← h2]; exact hl.get h1) ?_
    rw [← h2]
    exact k _ hl
  · obtain ⟨x, rfl, h1, rfl⟩ := stStI_inv h
    exact lv_istore_n hx hb (hen.dec rfl) rfl hl.1 (hl.set hf h1).1 rfl (fun lsr2 h2 => k lsr2 ((hl.set hf h1).2 lsr2 h2))
  · obtain ⟨x, rfl, h1, rfl⟩ := stStI_inv h
    exact lv_istore hx hb (hen.dec rfl) hl.1 (hl.set hf h1).1 rfl (fun lsr2 h2 => k lsr2 ((hl.set hf h1).2 lsr2 h2))
  · obtain ⟨x, rfl, h1, rfl⟩ := stStL_inv h
    exact lv_lstore_n hx hb (hen.dec rfl) rfl hl.1 (hl.set2 hf h1).1 rfl (fun lsr2 h2 => k lsr2 ((hl.set2 hf h1).2 lsr2 h2))
  · obtain ⟨x, rfl, h1, rfl⟩ := stStL_inv h
    exact lv_lstore hx hb (hen.dec rfl) hl.1 (hl.set2 hf h1).1 rfl (fun lsr2 h2 => k lsr2 ((hl.set2 hf h1).2 lsr2 h2))
  · obtain ⟨x, rfl, h1, rfl⟩ := stStA_inv h
    exact lv_astore_n hx hb (hen.dec rfl) rfl hl.1 (hl.set hf h1).1 rfl (fun lsr2 h2 => k lsr2 ((hl.set hf h1).2 lsr2 h2))
  · obtain ⟨x, rfl, h1, rfl⟩ := stStA_inv h
    exact lv_astore hx hb (hen.dec rfl) hl.1 (hl.set hf h1).1 rfl (fun lsr2 h2 => k lsr2 ((hl.set hf h1).2 lsr2 h2))
  · split at h
    · rename_i x hx1
      obtain ⟨l2, h1, h2⟩ := map_some_inv h
      cases h2
      obtain ⟨j, hj⟩ := List.getElem?_of_mem (lvOf_mem.mpr ⟨_, lGet_iff.mp hx1, rfl⟩ : (_, cv P (.int x)) ∈ lvOf P ls)
      exact lv_iinc hx hb (hen.dec rfl) hl.1 hj rfl (hl.set hf h1).1 rfl (fun lsr2 h2 => k lsr2 ((hl.set hf h1).2 lsr2 h2))
    · cases h
  · cases h; exact lv_bipush hx hb (hen.dec rfl) rfl (k _ hl)
  · cases h; exact lv_sipush hx hb (hen.dec rfl) rfl (k _ hl)
  · cases h
    by_cases h0 : ea = 0
    · have hw := hen.word hts (w := .constant (mNm q).cls _ (Int32.ofInt ec)) (by unfold need; simp only [eA, eC, h0, if_true]; exact List.mem_cons_self) rfl
      refine lv_ldc hx hb hown hw.2 (hen.dec rfl) ?_
      have := k _ hl
      simp only [eA, eC, h0, if_true] at this
      exact this
    · have hw := hen.2.1 (.stringRef (mNm q).cls _ fTx) (by unfold need; simp only [eA, eC, h0, if_false]; exact List.mem_cons_self)
      obtain ⟨e1, e2⟩ := str_is hw.1
      subst e2
      rw [e1] at hown
      refine va_ldcS hx hb hown hC.2.2.1 (hen.dec rfl) ?_
      have := k _ hl
      simp only [eA, h0, if_false] at this
      exact this
  · cases h
    have hw := hen.word hts (w := .constantLong (mNm q).cls _ (Int64.ofInt ec)) (by unfold need; exact List.mem_cons_self) rfl
    exact lv_ldc2 hx hb hown hw.2 (hen.dec rfl) (k _ hl)
  · cases h
    by_cases h0 : ea = 0
    · have hw := hen.word hts (w := .fieldLink (mNm q).cls _ "java/lang/String" "COMPACT_STRINGS" "Z") (by unfold need; simp only [eA, h0, if_true]; exact List.mem_cons_self) rfl
      refine va_gets hx hb hC.2.2.2.1 hS hown hw.2 (fun _ z => z) (hen.dec rfl) ?_
      have := k _ hl
      simp only [eA, h0, if_true] at this
      exact this
    · have hw := hen.word hts (w := .fieldLink (mNm q).cls _ "jdk/internal/util/Preconditions" "SIOOBE_FORMATTER" "Ljava/util/function/BiFunction;") (by unfold need; simp only [eA, h0, if_false]; exact List.mem_cons_self) rfl
      refine va_gets hx hb hC.2.2.2.2.1 hS hown hw.2 (fun _ z => z) (hen.dec rfl) ?_
      have := k _ hl
      simp only [eA, h0, if_false] at this
      exact this
  · rename_i off
    cases h
    have ht : (pc : Int) + off = (ea : Int) := by
      have := hen.2.2.2
      unfold stat at this
      exact of_decide_eq_true this
    exact lv_goto hx hb (hen.dec rfl) ht (k _ hl)
  · split at h
    · cases h; exact simIf FX hen (k _ hl)
    · cases h
  · split at h
    · cases h; exact simIcmp FX hen (k _ hl)
    · cases h
  · split at h
    · split at h
      · rename_i hc
        obtain ⟨t, h1, h2⟩ := map_some_inv h
        cases h2
        exact lv_tableOut hx hb hen.1 hc (tgtS_inv h1) (k _ hl)
      · rename_i hc
        split at h
        · rename_i o ho
          obtain ⟨t, h1, h2⟩ := map_some_inv h
          cases h2
          exact lv_tableIn hx hb hen.1 (fun z => hc (Or.inl z)) (fun z => hc (Or.inr z)) ho (tgtS_inv h1) (k _ hl)
        · cases h
    · cases h
  · split at h
    · obtain ⟨t, h1, h2⟩ := map_some_inv h
      cases h2
      have hs := hen.2.2.2
      unfold stat at hs
      exact lv_lookup hx hb hen.1 hs rfl (tgtS_inv h1) (k _ hl)
    · cases h
  · split at h
    · split at h
      · rename_i hc
        cases h
        have h90 : ea = 9000 := hc.1
        have hw1 := hen.word hts (w := .methodLink (mNm q).cls _ objectInit) (by unfold need; simp only [eA, h90, if_true]; exact List.mem_cons_self) rfl
        have hw2 := hen.word hts (w := .instanceMethod objectInit) (by unfold need; simp only [eA, h90, if_true]; exact List.mem_cons_of_mem _ List.mem_cons_self) rfl
        have hw3 := hen.word hts (w := .code objectInit ⟨#[0xb1]⟩ 1 none) (by unfold need; simp only [eA, h90, if_true]; exact List.mem_cons_of_mem _ (List.mem_cons_of_mem _ List.mem_cons_self)) rfl
        have hs := hen.2.2.2
        unfold stat at hs
        simp only [eA, h90, if_true, Bool.and_eq_true, decide_eq_true_eq] at hs
        refine W.objInit hx hb hown hw1.2 hw2.2 hw3.2 rfl (hl.size.trans hml.symm) rfl (hen.dec rfl) (by omega) ?_ (k _ hl)
        show 2 * 0 + _ + 12 ≤ _
        rw [catS_cv hf]
        have := hc.2
        omega
      · cases h
    · cases h
  · rename_i idx
    split at h
    · rename_i y x r
      split at h
      · rename_i hc
        cases h
        have h90 : ea = 9002 := hc.1
        have hw1 := hen.word hts (w := .methodLink (mNm q).cls idx Lib.Math.max.name) (by unfold need; simp [eA, h90]) rfl
        have hw2 := hen.word hts (w := .static Lib.Math.max.name) (by unfold need; simp [eA, h90]) rfl
        have hw3 := hen.word hts (w := .initialized "java/lang/Math") (by unfold need; simp [eA, h90]) rfl
        have hw4 := hen.word hts (w := .code Lib.Math.max.name Lib.Math.max.code 2 (some .int)) (by unfold need; simp [eA, h90]) rfl
        have hs := hen.2.2.2
        unfold stat at hs
        simp only [eA, h90, or_true, true_or, if_true, Bool.and_eq_true, decide_eq_true_eq] at hs
        refine va_mmax hx hb (hml.trans hl.size.symm) hown hw1.2 hw2.2 hw3.2 hw4.2 (by omega) (by rw [catS_cv hf]; have := hc.2; omega) hcR hsR (hen.dec rfl) (k _ hl)
      · split at h
        · rename_i hc
          cases h
          have h90 : ea = 9003 := hc.1
          have hw1 := hen.word hts (w := .methodLink (mNm q).cls idx Lib.Math.min.name) (by unfold need; simp [eA, h90]) rfl
          have hw2 := hen.word hts (w := .static Lib.Math.min.name) (by unfold need; simp [eA, h90]) rfl
          have hw3 := hen.word hts (w := .initialized "java/lang/Math") (by unfold need; simp [eA, h90]) rfl
          have hw4 := hen.word hts (w := .code Lib.Math.min.name Lib.Math.min.code 2 (some .int)) (by unfold need; simp [eA, h90]) rfl
          have hs := hen.2.2.2
          unfold stat at hs
          simp only [eA, h90, or_true, true_or, if_true, Bool.and_eq_true, decide_eq_true_eq] at hs
          refine va_mmin hx hb (hml.trans hl.size.symm) hown hw1.2 hw2.2 hw3.2 hw4.2 (by omega) (by rw [catS_cv hf]; have := hc.2; omega) hcR hsR (hen.dec rfl) (k _ hl)
        · cases h
    · cases h
  · obtain ⟨s2, h1, h2⟩ := map_some_inv h
    cases h2
    exact simRd FX hen hP hS h1 (k _ hl)
  · obtain ⟨s2, h1, h2⟩ := map_some_inv h
    cases h2
    exact simRd FX hen hP hS h1 (k _ hl)
  · obtain ⟨s2, h1, h2⟩ := map_some_inv h
    cases h2
    exact simRd FX hen hP hS h1 (k _ hl)
  · obtain ⟨s2, h1, h2⟩ := map_some_inv h
    cases h2
    exact simRd FX hen hP hS h1 (k _ hl)
  · obtain ⟨s2, h1, h2⟩ := map_some_inv h
    cases h2
    exact simRd FX hen hP hS h1 (k _ hl)
  · obtain ⟨s2, h1, h2⟩ := map_some_inv h
    cases h2
    exact simRd FX hen hP hS h1 (k _ hl)
  · obtain ⟨s2, h1, h2⟩ := map_some_inv h
    cases h2
    exact simAr FX hen h1 (k _ hl)
end SIMA2
end
section
theorem okv_ok {P : prm} {t : FieldType} {v : Value} (h : okv t v = true) : narrow t (cv P v) = cv P v ∧ fits t (cv P v) = true := by
  unfold okv at h
  split at h
  · exact ⟨rfl, rfl⟩
  · exact ⟨rfl, rfl⟩
  · exact ⟨rfl, rfl⟩
  · exact ⟨rfl, rfl⟩
  · cases h
theorem cv_dflt {P : prm} (t : FieldType) : cv P (defaultValue t) = defaultValue t := by cases t <;> rfl
theorem new_addr {P : prm} {D : va_G} {cl : List vw_C} {l : List hcel} {q sz cells : Nat} {en : va_E} {H1 : Heap} (hcount : sz + cells = pB P + l.length) (hP : va_P D cl (conc P l ++ [(q, en)]) H1) (hD : va_D (AA P) (conc P l ++ [(q, en)])) (hsz : H1.size ≤ sz + (cells + 1)) : q = pB P + l.length := by
  have hlen : (conc P l).length = l.length := by unfold conc; exact List.length_mapIdx
  have hat : (conc P l ++ [(q, en)])[l.length]? = some (q, en) := by
    rw [List.getElem?_append_right (by omega), hlen]
    simp
  have h1 := (hP _ _ hat).lt
  have h2 : pB P ≤ q := hD.2 _ _ hat
  have h3 : q < H1.size := h1
  rcases Nat.lt_or_ge q (pB P + l.length) with h | h
  · exfalso
    have hj : q - pB P < l.length := by omega
    have hc : (conc P l ++ [(q, en)])[q - pB P]? = some (pB P + (q - pB P), cE P l[q - pB P]) := by
      rw [List.getElem?_append_left (by omega)]
      exact conc_at (List.getElem?_eq_getElem hj)
    have := hD.1 _ _ _ _ hc hat (by show pB P + (q - pB P) = q; omega)
    omega
  · omega
theorem size_eq {P : prm} {D : va_G} {cl : List vw_C} {l : List hcel} {sz cells : Nat} {H : Heap} (hcount : sz + cells = pB P + l.length) (hB : pB P ≤ sz) (hP : va_P D cl (conc P l) H) (h1 : sz ≤ H.size) (h2 : H.size ≤ sz + cells) : H.size = pB P + l.length := by
  rcases Nat.eq_zero_or_pos l.length with h | h
  · omega
  · have hat := conc_at (P := P) (List.getElem?_eq_getElem (show l.length - 1 < l.length by omega))
    have h3 : pB P + (l.length - 1) < H.size := (hP _ _ hat).lt
    omega
section SIMB
variable {P : prm} {q : minfo} {p : Program} {l : Launch} {e : Env} {R : Room} {s : State} {m : MethodId} {args : Array Value} {below : List Frame} {meth : Method} {c : Code} {H : Heap} {locs : List Loc} {cells slots : Nat} {Q : State → Prop}
theorem W.zz {x y : Nat} {g : JFrame} (hx : x = 0) (hy : y = 0) (k : W p l e R s m args below meth c H locs (cells + x) (slots + y) Q g) : W p l e R s m args below meth c H locs cells slots Q g := by
  subst hx; subst hy; exact k
/-- a step that changes the cells -/
theorem simB {en : ent} {pc : Nat} {lsr : Array Slot} {st st2 : List Value} {hp hp2 : hh} (FX : Fx P q p R s m args meth c) (hen : eOk q pc en) (hsz : lsr.size = mLx q) (hP : va_P (pG P) classes (conc P hp.1) H) (hS : va_S (AA P) s.heap H locs) (hcount : s.heap.size + cells = pB P + hp.1.length) (h : stpB en st hp = some (st2, hp2)) (hcR : cells + (hp2.1.length - hp.1.length) ≤ R.cells) (hsR : slots + (hp2.2 - hp.2) ≤ R.slots)
    (k : ∀ (H1 : Heap) (locs1 : List Loc), va_P (pG P) classes (conc P hp2.1) H1 → va_S (AA P) s.heap H1 locs1 → W p l e R s m args below meth c H1 locs1 (cells + (hp2.1.length - hp.1.length)) (slots + (hp2.2 - hp.2)) Q (F0 m (pc + en.2.1) lsr (st2.map (cv P)))) : W p l e R s m args below meth c H locs cells slots Q (F0 m pc lsr (st.map (cv P))) := by
  obtain ⟨hx, hb, hml, hown, hts, hK, hC, hfr, hlo, hnm, hf, hB⟩ := id FX
  obtain ⟨ins, len, ea, eb, ec, ep⟩ := en
  have hD : va_D (AA P) (conc P hp.1) := conc_D
  have hA : ∀ x, s.heap.size ≤ x → AA P x := fun x hx => by show pB P ≤ x; omega
  unfold stpB at h
  dsimp only at h
  split at h
  · rename_i idx v a r
    split at h
    · rename_i o t ho ht
      split at h
      · rename_i hc
        simp only [Bool.and_eq_true, decide_eq_true_eq] at hc
        obtain ⟨⟨h1, h2⟩, h3⟩ := hc
        cases h
        obtain ⟨oc, os⟩ := o
        have hoe : oc = ea := h1
        subst hoe
        have hst := hen.2.2.2
        cases hcl : classes[oc]? with
        | none =>
          unfold stat at hst
          simp only [eA, hcl] at hst
          cases hst
        | some cc =>
          obtain ⟨hcw, f, hf1, hf2, hf3⟩ := cls_ok oc cc hcl
          unfold stat at hst
          simp only [eA, eB, hcl, Bool.and_eq_true, decide_eq_true_eq] at hst
          have hw := hen.word hts (w := .fieldLink (mNm q).cls idx (cc.2.1 eb).1 (cc.2.1 eb).2.1 (cc.2.1 eb).2.2.1) (by unfold need; simp only [eA, eB, hcl]; exact List.mem_cons_self) rfl
          have ht2 : t = f eb := by
            unfold fTy at ht
            simp only [eA, eB, hf1] at ht
            exact (Option.some.inj ht).symm
          subst ht2
          have hok := okv_ok (P := P) h3
          have hset : ∀ H1 : Heap, va_P (pG P) classes ((conc P hp.1).set a (pB P + a, .inr (oc, (os.map (cv P)).set eb (cv P v)))) H1 → va_P (pG P) classes (conc P (hp.1.set a (.inr (oc, os.set eb v)))) H1 := by
            intro H1 z
            rw [← conc_set]
            rw [show cE P (.inr (oc, os.set eb v)) = .inr (oc, (os.map (cv P)).set eb (cv P v)) from by show Sum.inr (oc, (os.set eb v).map (cv P)) = _; rw [List.map_set]]
            exact z
          have hlen2 : len = 3 := by
            have := hen.2.2.1
            unfold lenOk at this
            exact of_decide_eq_true this
          subst hlen2
          by_cases hfin : (cc.2.1 eb).2.2.2 = true
          · have h5 := hst.2
            simp only [hfin, Bool.not_true, Bool.false_or, Bool.and_eq_true, decide_eq_true_eq] at h5
            refine va_putF hx hb hts hcw f hf2 hf3 hown hK hP hD hS _ (conc_at ho) hcl eb (of_decide_eq_true hst.1) hw.2 (fun _ z => z) hfin (hnm h5.1) (of_decide_eq_true h5.2) (hf2 eb (of_decide_eq_true hst.1)) hok.1 hok.2 (by rw [List.length_map]; exact h2) (hen.dec rfl) (fun H1 locs1 hP1 _ hS1 => ?_)
            exact W.zz (by simp) (by simp) (k H1 locs1 (hset H1 hP1) hS1)
          · refine va_put hx hb hts hcw f hf2 hf3 hown hK hP hD hS _ (conc_at ho) hcl eb (of_decide_eq_true hst.1) hw.2 (fun _ z => z) (by simpa using hfin) (hf2 eb (of_decide_eq_true hst.1)) hok.1 hok.2 (by rw [List.length_map]; exact h2) (hen.dec rfl) (fun H1 locs1 hP1 _ hS1 => ?_)
            exact W.zz (by simp) (by simp) (k H1 locs1 (hset H1 hP1) hS1)
      · cases h
    · cases h
  · split at h
    · rename_i t n f ho
      split at h
      · rename_i hc
        simp only [Bool.and_eq_true, decide_eq_true_eq] at hc
        obtain ⟨rfl, hi⟩ := hc
        cases h
        have hlen2 : len = 1 := by
          have := hen.2.2.1
          unfold lenOk at this
          exact of_decide_eq_true this
        subst hlen2
        refine va_iast hx hb hK hP hD hS _ 0 (conc_at ho) rfl (inB_in hi) (hen.dec rfl) (fun H1 locs1 hP1 _ hS1 => ?_)
        exact W.zz (by simp) (by simp) (k H1 locs1 (by rw [← conc_set]; exact hP1) hS1)
      · cases h
    · cases h
  · split at h
    · rename_i t n f ho
      split at h
      · rename_i hc
        simp only [Bool.and_eq_true, decide_eq_true_eq] at hc
        obtain ⟨rfl, hi⟩ := hc
        cases h
        have hlen2 : len = 1 := by
          have := hen.2.2.1
          unfold lenOk at this
          exact of_decide_eq_true this
        subst hlen2
        refine va_zast hx hb hK hP hD hS _ 1 (conc_at ho) rfl (inB_in hi) (hen.dec rfl) (fun H1 locs1 hP1 _ hS1 => ?_)
        exact W.zz (by simp) (by simp) (k H1 locs1 (by rw [← conc_set]; exact hP1) hS1)
      · cases h
    · cases h
  · split at h
    · rename_i t n f ho
      split at h
      · rename_i hc
        simp only [Bool.and_eq_true, decide_eq_true_eq] at hc
        obtain ⟨rfl, hi⟩ := hc
        cases h
        have hlen2 : len = 1 := by
          have := hen.2.2.1
          unfold lenOk at this
          exact of_decide_eq_true this
        subst hlen2
        refine va_cast hx hb hK hP hD hS _ 2 (conc_at ho) rfl (inB_in hi) (hen.dec rfl) (fun H1 locs1 hP1 _ hS1 => ?_)
        exact W.zz (by simp) (by simp) (k H1 locs1 (by rw [← conc_set]; exact hP1) hS1)
      · cases h
    · cases h
  · rename_i v i a r
    split at h
    · rename_i t n g o ho hv
      split at h
      · rename_i hc
        simp only [Bool.and_eq_true, decide_eq_true_eq] at hc
        obtain ⟨⟨rfl, h0⟩, hi⟩ := hc
        cases h
        obtain ⟨oc, os⟩ := o
        have hoe : oc = 0 := h0
        subst hoe
        have hlen2 : len = 1 := by
          have := hen.2.2.1
          unfold lenOk at this
          exact of_decide_eq_true this
        subst hlen2
        refine va_astq hx hb hK hP hD hS _ 3 _ 0 (r := (cn0, ct0, 3)) (conc_at ho) rfl (conc_at hv) rfl (inB_in hi) (hen.dec rfl) (fun H1 locs1 hP1 _ hS1 => ?_)
        refine W.zz (by simp) (by simp) (k H1 locs1 ?_ hS1)
        rw [← conc_set]
        have : (fun j => (va_up g i.toNatClampNeg (some v) j).map (fun k => pB P + k)) = va_up (fun j => (g j).map (fun k => pB P + k)) i.toNatClampNeg (some (pB P + v)) := by
          funext j
          unfold va_up
          split <;> rfl
        show va_P _ _ ((conc P hp.1).set a (pB P + a, .inl (pY P 3, n, .inr (.inr (.inr (.inr (fun j => (va_up g i.toNatClampNeg (some v) j).map (fun k => pB P + k)))))))) H1
        rw [this]
        exact hP1
      · cases h
    · cases h
  · rename_i idx n dp a sp a0 r
    split at h
    · rename_i t0 n0 f t1 n1 g ho0 ho1
      split at h
      · rename_i hc
        simp only [Bool.and_eq_true, decide_eq_true_eq] at hc
        obtain ⟨⟨⟨⟨⟨⟨⟨⟨h90, rfl⟩, rfl⟩, h1⟩, h2⟩, h3⟩, h4⟩, h5⟩, h6⟩ := hc
        cases h
        have h90' : ea = 9001 := h90
        have hw1 := hen.word hts (w := .methodLink (mNm q).cls idx arraycopyName) (by unfold need; simp [eA, h90']) rfl
        have hw2 := hen.word hts (w := .native arraycopyName) (by unfold need; simp [eA, h90']) rfl
        have hw3 := hen.word hts (w := .static arraycopyName) (by unfold need; simp [eA, h90']) rfl
        have hw4 := hen.word hts (w := .initialized "java/lang/System") (by unfold need; simp [eA, h90']) rfl
        have hs := hen.2.2.2
        unfold stat at hs
        simp only [eA, h90', or_true, true_or, if_true, Bool.and_eq_true, decide_eq_true_eq] at hs
        have hlen2 : len = 3 := by
          have := hen.2.2.1
          unfold lenOk at this
          exact of_decide_eq_true this
        subst hlen2
        refine va_copyi hx hb (hml.trans hsz.symm) hown hw1.2 hw2.2 hw3.2 hw4.2 hK hP hD hS _ _ 0 0 (ty := .int) (conc_at ho0) (conc_at ho1) rfl rfl rfl h1 h2 h3 h4 h5 (fun _ _ => rfl) (by omega) (by rw [catS_cv hf]; omega) (hen.dec rfl) (fun H1 locs1 hP1 _ hS1 => ?_)
        exact W.zz (by simp) (by simp) (k H1 locs1 (by rw [← conc_set]; exact hP1) hS1)
      · cases h
    · cases h
  · rename_i ty n r
    split at h
    · rename_i hc
      simp only [Bool.and_eq_true, decide_eq_true_eq] at hc
      cases h
      have hw := hen.word hts (w := .arrayClass (newarray.typeOf ty)) (by unfold need; exact List.mem_cons_self) rfl
      have hlen2 : len = 2 := by
        have := hen.2.2.1
        unfold lenOk at this
        exact of_decide_eq_true this
      subst hlen2
      have e1 : (hp.1 ++ [Sum.inl (ea, n.toNatClampNeg, Sum.inl (fun _ => (0 : Int32)))]).length - hp.1.length = 1 := by rw [List.length_append]; simp
      have e2 : hp.2 + n.toNatClampNeg - hp.2 = n.toNatClampNeg := by omega
      simp only [eA, e1, e2] at hcR hsR k
      have hst := hen.2.2.2
      unfold stat at hst
      have main : ∀ (t : Nat) (ft : FieldType), ea = t → newarray.typeOf ty = ft → (tys P)[t]? = some (pY P t, ft) → (∀ cA : ClassId, vp_cell cA (n.toNatClampNeg, .inl (fun _ => (0 : Int32))) = arrV cA n.toNatClampNeg (fun _ => defaultValue ft)) → componentBytes ft ≤ 8 → (∀ a b : ClassId, va_RA s a ft → va_RA s b ft → a = b) → W p l e R s m args below meth c H locs cells slots Q (F0 m pc lsr (.int n :: r.map (cv P))) := by
        intro t ft hea hty htys hcell hcb huniq
        refine va_newa hx hb hw.2 hty hK hP hD hS hA (n := n) (N' := n.toNatClampNeg) (a0 := (n.toNatClampNeg, .inl (fun _ => 0))) hcell hc.1 rfl (by have := Nat.mul_le_mul hc.2 hcb; omega) (by omega) hsR (hen.dec rfl) (fun qa cA H1 hK1 hP1 hD1 hS1 => ?_)
        have hcy : cA = pY P t := by
          have h1 := (hK1.2 4 (cA, ft) rfl).2
          have h2 := (hK.2 t _ htys).2
          exact huniq _ _ h1 h2
        subst hcy
        intro T hT X
        have hqa := new_addr hcount hP1 hD1 (by rw [← hT]; exact X.same.2.2.1)
        subst hqa
        refine k H1 locs ?_ hS1 T hT X
        rw [conc_push]
        rw [hea]
        exact hP1
      have hu : ∀ (t : FieldType) (x : String) (a b : ClassId), s.vm.findClass x = some a → s.vm.findClass x = some b → a = b := fun _ x a b h1 h2 => Option.some.inj (h1.symm.trans h2)
      cases ty <;> simp only [eA, decide_eq_true_eq] at hst
      · exact main 1 .boolean (of_decide_eq_true hst) rfl rfl (fun _ => rfl) (by decide) (fun a b h1 h2 => hu .int _ a b h1 h2)
      · exact main 2 .char (of_decide_eq_true hst) rfl rfl (fun _ => rfl) (by decide) (fun a b h1 h2 => hu .int _ a b h1 h2)
      · cases hst
      · cases hst
      · cases hst
      · cases hst
      · exact main 0 .int (of_decide_eq_true hst) rfl rfl (fun _ => rfl) (by decide) (fun a b h1 h2 => hu .int _ a b h1 h2)
      · cases hst
    · cases h
  · rename_i idx n r
    split at h
    · rename_i hc
      simp only [Bool.and_eq_true, decide_eq_true_eq] at hc
      cases h
      have hw1 := hen.word hts (w := .classLink (mNm q).cls idx cn0) (by unfold need; exact List.mem_cons_self) rfl
      have hlen2 : len = 3 := by
        have := hen.2.2.1
        unfold lenOk at this
        exact of_decide_eq_true this
      subst hlen2
      have e1 : (hp.1 ++ [Sum.inl (3, n.toNatClampNeg, Sum.inr (fun _ => (none : Option Nat)))]).length - hp.1.length = 1 := by rw [List.length_append]; simp
      have e2 : hp.2 + n.toNatClampNeg - hp.2 = n.toNatClampNeg := by omega
      simp only [e1, e2] at hcR hsR k
      refine va_newq hx hb hown hw1.2 hC.2.1 hK hP hD hS hA (n := n) (N' := n.toNatClampNeg) hc.1 rfl (by have := hc.2; omega) (by omega) hsR (hen.dec rfl) (fun qa cA H1 hK1 hP1 hD1 hS1 => ?_)
      have hcy : cA = pY P 3 := by
        obtain ⟨_, _, _, _, _, h1⟩ := (hK1.2 4 (cA, .object cn0) rfl).2
        obtain ⟨_, _, _, _, _, h2⟩ := (hK.2 3 _ rfl).2
        exact Option.some.inj (h1.symm.trans h2)
      subst hcy
      intro T hT X
      have hqa := new_addr hcount hP1 hD1 (by rw [← hT]; exact X.same.2.2.1)
      subst hqa
      refine k H1 locs ?_ hS1 T hT X
      rw [conc_push]
      exact hP1
    · cases h
  · rename_i idx
    split at h
    · rename_i cc hcl
      cases h
      have hcl' : classes[ea]? = some cc := hcl
      obtain ⟨hcw, f, hf1, hf2, hf3⟩ := cls_ok ea cc hcl'
      have hw1 := hen.word hts (w := .classLink (mNm q).cls idx cc.1) (by unfold need; simp [eA, hcl']) rfl
      have hw2 := hen.word hts (w := .instantiable cc.1 cc.2.2) (by unfold need; simp [eA, hcl']) rfl
      have hw3 := hen.word hts (w := .initialized cc.1) (by unfold need; simp [eA, hcl']) rfl
      have hlen2 : len = 3 := by
        have := hen.2.2.1
        unfold lenOk at this
        exact of_decide_eq_true this
      subst hlen2
      have e1 : (hp.1 ++ [Sum.inr (ea, dflt ea)]).length - hp.1.length = 1 := by rw [List.length_append]; simp
      have e2 : hp.2 + cc.2.2 - hp.2 = cc.2.2 := by omega
      simp only [eA, e1, e2] at hcR hsR k
      refine va_new hx hb hts hcw f hf2 hown hw1.2 hw2.2 hw3.2 hK hP hD hS hA hcl' (fs := (dflt ea).map (cv P)) (fun j hj => ?_) (by omega) hsR (hen.dec rfl) (fun qa H1 hP1 hD1 hS1 => ?_)
      · unfold vp_V dflt
        simp only [hcl', hf1, List.map_map]
        rw [List.getD_eq_getElem?_getD, List.getElem?_map, List.getElem?_range hj]
        simp [cv_dflt]
      · intro T hT X
        have hqa := new_addr hcount hP1 hD1 (by rw [← hT]; exact X.same.2.2.1)
        subst hqa
        refine k H1 locs ?_ hS1 T hT X
        rw [conc_push]
        exact hP1
    · cases h
  · cases h
end SIMB
end
section
theorem stpB_mono {en : ent} {st st2 : List Value} {hp hp2 : hh} (h : stpB en st hp = some (st2, hp2)) : hp.1.length ≤ hp2.1.length ∧ hp.2 ≤ hp2.2 := by
  unfold stpB at h
  split at h
  · split at h
    · split at h
      · cases h; simp
      · cases h
    · cases h
  · split at h
    · split at h
      · cases h; simp
      · cases h
    · cases h
  · split at h
    · split at h
      · cases h; simp
      · cases h
    · cases h
  · split at h
    · split at h
      · cases h; simp
      · cases h
    · cases h
  · split at h
    · split at h
      · cases h; simp
      · cases h
    · cases h
  · split at h
    · split at h
      · cases h; simp
      · cases h
    · cases h
  · split at h
    · cases h; simp
    · cases h
  · split at h
    · cases h; simp
    · cases h
  · split at h
    · cases h; simp
    · cases h
  · cases h
theorem exec_mono {L : Nat} {xs : Nat → Int32} : ∀ {n i pc : Nat} {ls : lcs} {st : List Value} {hp hp2 : hh} {rv : Option Value}, exec L xs n i pc ls st hp = some (rv, hp2) → hp.1.length ≤ hp2.1.length ∧ hp.2 ≤ hp2.2
  | 0, i, pc, ls, st, hp, hp2, rv, h => by cases h
  | n + 1, i, pc, ls, st, hp, hp2, rv, h => by
    unfold exec at h
    split at h
    · split at h
      · exact exec_mono h
      · split at h
        · rename_i hB
          have h1 := stpB_mono hB
          have h2 := exec_mono h
          omega
        · split at h
          · split at h
            · split at h
              · split at h
                · rename_i hc
                  have h1 := exec_mono hc
                  have h2 := exec_mono h
                  omega
                · cases h
              · cases h
            · cases h
          · obtain ⟨v, h1, h2⟩ := map_some_inv h
            cases h2
            exact ⟨Nat.le_refl _, Nat.le_refl _⟩
    · cases h
/-- a method's end: its answer, and the world behind it -/
def Qm (P : prm) (rv : Option Value) (hp2 : hh) : Array Value → State → Outcome → State → Prop := fun _ st oc t => oc = .returned (rv.map (cv P)) ∧ WD P hp2 t ∧ va_F (AA P) st t
def wds (q : minfo) : List Cond := Cond.code (mNm q) (mBy q) (mLx q) (mRt q) :: gtb
theorem WD.blind {P : prm} {hp : hh} {as : List Value} : FrameBlind (va_Pc as (WD P hp)) := by
  intro a U g mk h
  obtain ⟨h0, h1, h2, h3, h4, h5⟩ := h
  exact ⟨h0, h1, h2, va_K.moved (u := U) (U := U.calling g mk a) (Vm.Alike.refl U.vm) h3, h4, Cst.same (u := U) (U := U.calling g mk a) rfl rfl h5⟩
section SIMC
variable {P : prm} {q : minfo} {p : Program} {l : Launch} {e : Env} {R : Room} {s : State} {m : MethodId} {args : Array Value} {below : List Frame} {meth : Method} {c : Code} {H : Heap} {locs : List Loc} {cells slots : Nat} {Q : State → Prop}
theorem sx_call {hp2 : hh} {rv : Option Value} {mc ms pc : Nat} {lsr : Array Slot} {st0 rest : List Value} {a : Array Value} (hr : va_Run p l e R s m args below meth c H locs cells slots mc ms (F0 m pc lsr st0) rest (Qm P rv hp2 a) (AA P)) (hS : va_S (AA P) s.heap H locs)
    (k : ∀ (H1 : Heap) (locs1 : List Loc), va_P (pG P) classes (conc P hp2.1) H1 → va_S (AA P) s.heap H1 locs1 → W p l e R s m args below meth c H1 locs1 (cells + mc) (slots + ms) Q (F0 m (pc + 3) lsr (rv.toList.map (cv P) ++ rest))) : W p l e R s m args below meth c H locs cells slots Q (F0 m pc lsr st0) := by
  intro T hT X
  obtain ⟨v, st₀, t, T', L, h0, X', hL, e1, e2, ⟨hv, hwd, hz, hk⟩, st⟩ := hr T hT X
  have hv2 : v = rv.map (cv P) := by injection hv
  subst hv2
  rw [h0] at hz hk
  obtain ⟨t2, a1, b1⟩ := k T'.heap (locs ++ L) (by rw [e1]; exact hwd.2.1)
    ⟨Nat.le_trans hS.1 (by rw [e1]; exact hz), fun x h1 h2 => by rw [e1, hk x (Nat.lt_of_lt_of_le h1 hS.1) h2]; exact hS.2.1 x h1 h2, fun x hx => by
      rcases List.mem_append.mp hx with h | h
      · exact hS.2.2 x h
      · exact hL x h⟩ T' rfl X'
  refine ⟨t2, st t2 ?_, b1⟩
  rw [show (rv.map (cv P)).toList = rv.toList.map (cv P) from by cases rv <;> rfl]
  exact a1
end SIMC
/-- what a return needs -/
def retOk (q : minfo) (pc : Nat) (rv : Option Value) : Prop := match rv with
  | some (.int v) => (∃ ty, mRt q = some ty ∧ narrow ty (.int v) = .int v) ∧ decode (mBy q) pc = .ok (.ireturn, 1)
  | none => mRt q = none ∧ decode (mBy q) pc = .ok (.return_, 1)
  | _ => False
def SimW (P : prm) (l : Launch) (n : Nat) : Prop := ∀ (i pc : Nat) (q : minfo) (ls : lcs) (st : List Value) (hp hp2 : hh) (rv : Option Value), mtab[i]? = some q → exec (pL P) (pX P) n i pc ls st hp = some (rv, hp2) →
  ∀ (p : Program) (e : Env) (R : Room) (s : State) (m : MethodId) (args : Array Value) (below : List Frame) (meth : Method) (c : Code) (H : Heap) (locs : List Loc) (cells slots : Nat) (Q : State → Prop) (lsr : Array Slot),
  Fx P q p R s m args meth c → hasL P lsr (mLx q) ls → va_P (pG P) classes (conc P hp.1) H → va_S (AA P) s.heap H locs → s.heap.size + cells = pB P + hp.1.length → cells + (hp2.1.length - hp.1.length) ≤ R.cells → slots + (hp2.2 - hp.2) ≤ R.slots →
  (∀ (H1 : Heap) (locs1 : List Loc) (pc1 : Nat) (lsr1 : Array Slot), retOk q pc1 rv → va_P (pG P) classes (conc P hp2.1) H1 → va_S (AA P) s.heap H1 locs1 → W p l e R s m args below meth c H1 locs1 (cells + (hp2.1.length - hp.1.length)) (slots + (hp2.2 - hp.2)) Q (F0 m pc1 lsr1 (rv.toList.map (cv P)))) →
  W p l e R s m args below meth c H locs cells slots Q (F0 m pc lsr (st.map (cv P)))
theorem met_of {P : prm} {l : Launch} {n j : Nat} {q : minfo} {as : List Value} {hp hp2 : hh} {rv : Option Value} (hf : (pF P).category = 1) (IH : SimW P l n) (hq : mtab[j]? = some q) (hj : 0 < j) (hlen : (ent0 (mLx q) as).length = mLx q) (h : exec (pL P) (pX P) n j 0 (ent0 (mLx q) as) [] hp = some (rv, hp2)) :
    Met l (mNm q) (wds q) { frames := mFr q, cells := hp2.1.length - hp.1.length, slots := hp2.2 - hp.2, locals := mLo q } (va_Pc (as.map (cv P)) (WD P hp)) (Qm P rv hp2) (hp2.1.length - hp.1.length) (hp2.2 - hp.2) (AA P) := by
  have hmem : q ∈ mtab.drop 1 := by
    obtain ⟨j, rfl⟩ : ∃ k, j = k + 1 := ⟨j - 1, by omega⟩
    refine List.mem_of_getElem? (i := j) ?_
    rw [List.getElem?_drop, Nat.add_comm]
    exact hq
  have hcd := cd_all q hmem
  have hmono := exec_mono h
  refine Met.ofW (cc := mBy q) (maxL := mLx q) (ret := mRt q) hcd.2.2 rfl ?_
  intro p e s m args below meth c s₁ B hml hv
  obtain ⟨rfl, hsz, hP, hK, hD, hC⟩ := hv
  have hts := atoms_spec (ws := wds q) B.pre
  have hown : s.vm.findClass (mNm q).cls = some m.cls := findClass_of_methodNamed B.named
  have hlocks := B.notSynchronized
  have hnm : meth.name = (mNm q).name := (name_of_methodNamed B.named B.method).1
  have hB : pB P ≤ s.heap.size := by omega
  have FX : Fx P q p (headSpec (wds q) { frames := mFr q, cells := hp2.1.length - hp.1.length, slots := hp2.2 - hp.2, locals := mLo q }).room s m (as.map (cv P)).toArray meth c := ⟨B.exec, B.bytes, hml, hown, fun w hw => hts w (List.mem_cons_of_mem _ hw), hK, hC, Nat.le_refl _, Nat.le_refl _, fun z => hnm.trans z, hf, hB⟩
  rw [lg_entry_eq]
  have hlen2 : (as.flatMap fun v => if v.category = 2 then [some v, (none : Option Value)] else [some v]).length ≤ mLx q := by
    unfold ent0 at hlen
    rw [List.length_append, List.length_replicate] at hlen
    omega
  have hl := hasL.entry hf hlen2
  refine IH j 0 q (ent0 (mLx q) as) [] hp hp2 rv hq h p e _ s m _ below meth c s.heap [] 0 0 _ _ FX hl hP va_S.rf (by omega) (by show 0 + _ ≤ hp2.1.length - hp.1.length; omega) (by show 0 + _ ≤ hp2.2 - hp.2; omega) ?_
  intro H1 locs1 pc1 lsr1 hret hP1 hS1
  rw [Nat.zero_add, Nat.zero_add]
  have hend : ∀ (T : State), T.heap = H1 → H1.size ≤ s.heap.size + (hp2.1.length - hp.1.length) → ∀ t : State, t.heap = H1 → s.WarmedH t.vm → WD P hp2 t ∧ va_F (AA P) s t := by
    intro T hT hup t ht hW
    have hs2 := size_eq (P := P) (l := hp2.1) (sz := s.heap.size) (cells := hp2.1.length - hp.1.length) (by omega) hB hP1 hS1.1 hup
    exact ⟨⟨by rw [ht]; exact hs2, by rw [ht]; exact hP1, va_K.moved hW.alike hK, conc_D, hC.go hW hB (by rw [ht]; exact hS1)⟩, hS1.F ht⟩
  cases rv with
  | none =>
    obtain ⟨h1, h2⟩ := hret
    intro T hT X
    have he := hend T hT (by rw [← hT]; exact X.same.2.2.1)
    exact W.vret B.exec B.bytes (B.returns.trans h1) (fun t ht hW => ⟨rfl, (he t ht hW).1, (he t ht hW).2⟩) (fun x hx => hS1.2.2 x hx) h2 hlocks T hT X
  | some v =>
    cases v with
    | int v =>
      obtain ⟨⟨ty, h1, h3⟩, h2⟩ := hret
      intro T hT X
      have he := hend T hT (by rw [← hT]; exact X.same.2.2.1)
      exact W.zret B.exec B.bytes (B.returns.trans h1) h3 (fun t ht hW => ⟨rfl, (he t ht hW).1, (he t ht hW).2⟩) (fun x hx => hS1.2.2 x hx) h2 hlocks T hT X
    | _ => exact hret.elim
theorem stpR_inv {q : minfo} {pc : Nat} {en : ent} {st : List Value} {rv : Option Value} (hen : eOk q pc en) (h : stpR q en st = some rv) : st = rv.toList ∧ retOk q pc rv := by
  obtain ⟨ins, len, ea, eb, ec, ep⟩ := en
  unfold stpR at h
  dsimp only at h
  split at h
  · split at h
    · rename_i hr hn
      cases h
      exact ⟨rfl, ⟨_, hr, hn⟩, hen.dec rfl⟩
    · cases h
  · rename_i hr
    cases h
    exact ⟨rfl, hr, hen.dec rfl⟩
  · cases h
theorem good_gtb {q : minfo} (h : q ∈ mtab.drop 1) {ws : List Cond} (hw : ∀ w ∈ ws, w ∈ gtb) : GoodIn gtb (ws ++ wds q) := by
  intro w hm
  have h2 : w ∈ gtb := by
    rcases List.mem_append.mp hm with h1 | h1
    · exact hw w h1
    · rcases List.mem_cons.mp h1 with rfl | h1
      · exact gtb_mk (cd_all q h).1 (cd_all q h).2.1
      · exact h1
  exact ⟨h2, good_of_word (gtb_good h2)⟩
end
section
def callK (en : ent) (hp : hh) (as : List Value) : Prop :=
  (∃ idx, en.1 = .invokestatic idx) ∨ (∃ idx a as', en.1 = .invokespecial idx ∧ as = .ref a :: as') ∨
  (∃ idx a as' o, en.1 = .invokevirtual idx ∧ as = .ref a :: as' ∧ hp.1[a]? = some (.inr o) ∧ ¬ eC en = 99 ∧ o.1 = (eC en).toNat) ∨
  (∃ idx as', en.1 = .invokevirtual idx ∧ as = .retAddr 1 :: as' ∧ eC en = 99)
theorem stpC_inv {en : ent} {st : List Value} {hp : hh} {j : Nat} {as r : List Value} (h : stpC en st hp = some (j, as, r)) : j = eA en ∧ catS r ≤ 8 ∧ st = as.reverse ++ r ∧ as.length = eB en ∧ callK en hp as := by
  unfold stpC at h
  split at h
  · rename_i hc
    simp only [Bool.and_eq_true, decide_eq_true_eq] at hc
    have key : ∀ {x : List Value}, (st.take (eB en)).reverse = x → st = x.reverse ++ st.drop (eB en) ∧ x.length = eB en := by
      intro x hx
      subst hx
      rw [List.reverse_reverse, List.length_reverse, List.length_take, List.take_append_drop]
      exact ⟨rfl, by omega⟩
    split at h
    · rename_i hi hs
      split at h
      · split at h
        · cases h
        · split at h
          · rename_i ho h99 hcl
            cases h
            exact ⟨rfl, hc.2, (key hs).1, (key hs).2, Or.inr (Or.inr (Or.inl ⟨_, _, _, _, hi, rfl, ho, h99, hcl⟩))⟩
          · cases h
      · cases h
    · rename_i hi hs
      split at h
      · rename_i h99
        cases h
        exact ⟨rfl, hc.2, (key hs).1, (key hs).2, Or.inr (Or.inr (Or.inr ⟨_, _, hi, rfl, h99⟩))⟩
      · cases h
    · rename_i hi hs
      cases h
      exact ⟨rfl, hc.2, (key hs).1, (key hs).2, Or.inr (Or.inl ⟨_, _, _, hi, rfl⟩)⟩
    · rename_i hi
      cases h
      exact ⟨rfl, hc.2, (key rfl).1, (key rfl).2, Or.inl ⟨_, hi⟩⟩
    · cases h
  · cases h
theorem fitC_inv {q c : minfo} {en : ent} {k : Nat} (hc : mtab[eA en]? = some c) (h : fitC q en k = true) : mFr c + 1 ≤ mFr q ∧ 8 + (mLx c + 11) + mLo c ≤ mLo q ∧ k ≤ eB en ∧ nArgs (mNm c) = some (eB en - k) ∧ (mNm c).cls ≠ "java/lang/invoke/MethodHandle" ∧ (mNm c).cls ≠ "java/lang/invoke/VarHandle" := by
  unfold fitC at h
  rw [hc] at h
  simp only [Bool.and_eq_true, decide_eq_true_eq, noMH] at h
  obtain ⟨⟨⟨⟨h1, h2⟩, h3⟩, h4⟩, h5, h6⟩ := h
  exact ⟨h1, h2, h3, h4, h5, h6⟩
theorem nest_in {q : minfo} {pc idx : Nat} {en : ent} {y : MethodName} {U : State} (hen : eOk q pc en) (hC : ∀ w ∈ nst, va_Nw w U) (hw : mLink (mNm q).cls idx y (eC en) ∈ need (mNm q).cls en) (h1 : eC en = 1) : va_Nw (.methodLinkNest (mNm q).cls idx y hostN) U := by
  have h2 := (hen.2.1 _ hw).1
  unfold mLink at h2
  rw [if_pos h1] at h2
  exact hC _ (List.mem_filter.mpr ⟨h2, rfl⟩)
section SIMD
variable {P : prm} {q : minfo} {p : Program} {l : Launch} {e : Env} {R : Room} {s : State} {m : MethodId} {args : Array Value} {below : List Frame} {meth : Method} {c : Code} {H : Heap} {locs : List Loc} {cells slots : Nat} {Q : State → Prop}
theorem simC {n pc j : Nat} {en : ent} {qc : minfo} {lsr : Array Slot} {st as r : List Value} {hp hp2 : hh} {rv : Option Value} (IH : SimW P l n) (FX : Fx P q p R s m args meth c) (hen : eOk q pc en) (hsz : lsr.size = mLx q) (hP : va_P (pG P) classes (conc P hp.1) H) (hS : va_S (AA P) s.heap H locs) (hcount : s.heap.size + cells = pB P + hp.1.length) (h : stpC en st hp = some (j, as, r)) (hq : mtab[j]? = some qc) (hj : 0 < j) (hlen : (ent0 (mLx qc) as).length = mLx qc) (hx : exec (pL P) (pX P) n j 0 (ent0 (mLx qc) as) [] hp = some (rv, hp2))
    (hcR : cells + (hp2.1.length - hp.1.length) ≤ R.cells) (hsR : slots + (hp2.2 - hp.2) ≤ R.slots)
    (k : ∀ (H1 : Heap) (locs1 : List Loc), va_P (pG P) classes (conc P hp2.1) H1 → va_S (AA P) s.heap H1 locs1 → W p l e R s m args below meth c H1 locs1 (cells + (hp2.1.length - hp.1.length)) (slots + (hp2.2 - hp.2)) Q (F0 m (pc + 3) lsr ((rv.toList ++ r).map (cv P)))) : W p l e R s m args below meth c H locs cells slots Q (F0 m pc lsr (st.map (cv P))) := by
  obtain ⟨hxx, hb, hml, hown, hts, hK, hC, hfr, hlo, hnm, hf, hB⟩ := id FX
  obtain ⟨rfl, hcat, rfl, hal, hk⟩ := stpC_inv h
  have hmet := met_of (l := l) hf IH hq hj hlen hx
  have hmem : qc ∈ mtab.drop 1 := by
    generalize eA en = j at hq hj
    obtain ⟨j, rfl⟩ : ∃ k, j = k + 1 := ⟨j - 1, by omega⟩
    refine List.mem_of_getElem? (i := j) ?_
    rw [List.getElem?_drop, Nat.add_comm]
    exact hq
  have k' : ∀ (H1 : Heap) (locs1 : List Loc), va_P (pG P) classes (conc P hp2.1) H1 → va_S (AA P) s.heap H1 locs1 → W p l e R s m args below meth c H1 locs1 (cells + (hp2.1.length - hp.1.length)) (slots + (hp2.2 - hp.2)) Q (F0 m (pc + 3) lsr (rv.toList.map (cv P) ++ r.map (cv P))) := by
    intro H1 locs1 h1 h2
    have := k H1 locs1 h1 h2
    rw [List.map_append] at this
    exact this
  have hroom : 2 * (F0 m pc lsr ((as.reverse ++ r).map (cv P))).monitorRoom + ((r.map (cv P)).map fun v => v.category).sum ≤ 8 := by
    show 2 * 0 + _ ≤ 8
    rw [catS_cv hf]
    omega
  have hstk : (as.reverse ++ r).map (cv P) = (as.map (cv P)).reverse ++ r.map (cv P) := by
    rw [List.map_append, List.map_reverse]
  intro T hT X
  have hs2 := size_eq (P := P) (l := hp.1) (sz := s.heap.size) (cells := cells) hcount hB hP hS.1 (by rw [← hT]; exact X.same.2.2.1)
  have hwd : ∀ U : State, U.heap = H → s.WarmedH U.vm → WD P hp U := fun U hU hW => ⟨by rw [hU]; exact hs2, by rw [hU]; exact hP, va_K.moved hW.alike hK, conc_D, hC.go hW hB (by rw [hU]; exact hS)⟩
  obtain ⟨ins, len, ea, eb, ec, ep⟩ := en
  rcases hk with ⟨idx, hi⟩ | ⟨idx, a, as', hi, rfl⟩ | ⟨idx, a, as', o, hi, rfl, ho, h99, hoc⟩ | ⟨idx, as', hi, rfl, h99⟩
  · have hi' : ins = .invokestatic idx := hi
    subst hi'
    have hst := hen.2.2.2
    unfold stat at hst
    have hne : ¬ (ea = 9001 ∨ ea = 9002 ∨ ea = 9003) := by
      have hlt := (List.getElem?_eq_some_iff.mp hq).1
      have : mtab.length = 152 := by rfl
      have h2 : ea < mtab.length := hlt
      omega
    simp only [eA, hne, if_false] at hst
    obtain ⟨f1, f2, f3, f4, f5, f6⟩ := fitC_inv hq hst
    have hne1 : ¬ ea = 9001 := fun z => hne (Or.inl z)
    have hne2 : ¬ ea = 9002 := fun z => hne (Or.inr (Or.inl z))
    have hne3 : ¬ ea = 9003 := fun z => hne (Or.inr (Or.inr z))
    have hq' : mtab[ea]? = some qc := hq
    have hndd : need (mNm q).cls (.invokestatic idx, len, ea, eb, ec, ep) = [mLink (mNm q).cls idx (mNm qc) ec, .static (mNm qc), .initialized (mNm qc).cls] := by
      unfold need
      simp only [eA, eC, hne1, hne2, hne3, if_false, hq']
    have w2 := hen.word hts (w := .static (mNm qc)) (by rw [hndd]; simp) rfl
    have w3 := hen.word hts (w := .initialized (mNm qc).cls) (by rw [hndd]; simp) rfl
    have hn0 : (as.map (cv P)).length = eb - 0 := by rw [List.length_map]; exact hal
    by_cases hc1 : ec = 1
    · have w1 := nest_in (idx := idx) (y := mNm qc) hen hC.1 (by rw [hndd]; exact List.mem_cons_self) hc1
      exact sx_call (va_runSN (As := as.map (cv P)) (rest := r.map (cv P)) ⟨hxx, hb, hml, hown, hts⟩ hmet ⟨va_cnB (eb - 0) hts (good_gtb (ws := []) hmem (by simp)) rfl rfl rfl w1 w3.2 ⟨f5, f6, f4⟩ ⟨by show mFr qc + 1 ≤ _; omega, by show 8 + (mLx qc + 11) + mLo qc ≤ _; omega⟩, w2.2, trivial⟩ ⟨WD.blind, fun U hU hW => ⟨rfl, hwd U hU hW⟩⟩ rfl hn0 hsz hstk hroom (hen.dec rfl) ⟨hcR, hsR⟩) hS k' T hT X
    · have w1 := hen.word hts (w := .methodLink (mNm q).cls idx (mNm qc)) (by rw [hndd]; unfold mLink; rw [if_neg hc1]; exact List.mem_cons_self) rfl
      refine sx_call (va_runS (As := as.map (cv P)) (rest := r.map (cv P)) ⟨hxx, hb, hml, hown, hts⟩ hmet (va_cwS (eb - 0) hts (good_gtb (ws := [_, _, _]) hmem ?_) rfl rfl rfl ⟨f5, f6, f4⟩ ⟨by show mFr qc + 1 ≤ _; omega, by show 8 + (mLx qc + 11) + mLo qc ≤ _; omega⟩) ⟨WD.blind, fun U hU hW => ⟨rfl, hwd U hU hW⟩⟩ rfl hn0 hsz hstk hroom (hen.dec rfl) ⟨hcR, hsR⟩) hS k' T hT X
      intro w hw
      simp only [List.mem_cons, List.not_mem_nil, or_false] at hw
      rcases hw with rfl | rfl | rfl
      · exact w1.1
      · exact w2.1
      · exact w3.1
  · have hi' : ins = .invokespecial idx := hi
    subst hi'
    have hst := hen.2.2.2
    unfold stat at hst
    have hne : ¬ ea = 9000 := by
      have hlt := (List.getElem?_eq_some_iff.mp hq).1
      have : mtab.length = 152 := by rfl
      have h2 : ea < mtab.length := hlt
      omega
    have hq' : mtab[ea]? = some qc := hq
    simp only [eA, hne, if_false, hq', Bool.and_eq_true, decide_eq_true_eq] at hst
    obtain ⟨hst, hini, hret⟩ := hst
    obtain ⟨f1, f2, f3, f4, f5, f6⟩ := fitC_inv hq hst
    have hndd : need (mNm q).cls (.invokespecial idx, len, ea, eb, ec, ep) = [mLink (mNm q).cls idx (mNm qc) ec, .instanceMethod (mNm qc), .initialized (mNm qc).cls] := by
      unfold need
      simp only [eA, eC, hne, if_false, hq']
    have w2 := hen.word hts (w := .instanceMethod (mNm qc)) (by rw [hndd]; simp) rfl
    have w3 := hen.word hts (w := .initialized (mNm qc).cls) (by rw [hndd]; simp) rfl
    have hn0 : (as'.map (cv P)).length = eb - 1 := by
      rw [List.length_map]
      have : (Value.ref a :: as').length = eb := hal
      rw [List.length_cons] at this
      omega
    have hws : wds qc = Cond.code (mNm qc) (mBy qc) (mLx qc) none :: gtb := by unfold wds; rw [hret]
    have hstk2 : ((Value.ref a :: as').reverse ++ r).map (cv P) = (as'.map (cv P)).reverse ++ .ref (pB P + a) :: r.map (cv P) := by
      rw [hstk, List.map_cons, List.reverse_cons, List.append_assoc]
      rfl
    by_cases hc1 : ec = 1
    · have w1 := nest_in (idx := idx) (y := mNm qc) hen hC.1 (by rw [hndd]; exact List.mem_cons_self) hc1
      exact sx_call (va_runIN (b := pB P + a) (As := as'.map (cv P)) (rest := r.map (cv P)) ⟨hxx, hb, hml, hown, hts⟩ hmet ⟨va_cnB (eb - 1) hts (good_gtb (ws := []) hmem (by simp)) hws rfl rfl w1 w3.2 ⟨f5, f6, f4⟩ ⟨by show mFr qc + 1 ≤ _; omega, by show 8 + (mLx qc + 11) + mLo qc ≤ _; omega⟩, hini, w2.2⟩ ⟨WD.blind, fun U hU hW => ⟨rfl, hwd U hU hW⟩⟩ rfl hn0 hsz hstk2 hroom (hen.dec rfl) ⟨hcR, hsR⟩) hS k' T hT X
    · have w1 := hen.word hts (w := .methodLink (mNm q).cls idx (mNm qc)) (by rw [hndd]; unfold mLink; rw [if_neg hc1]; exact List.mem_cons_self) rfl
      exact sx_call (va_runI (b := pB P + a) (As := as'.map (cv P)) (rest := r.map (cv P)) ⟨hxx, hb, hml, hown, hts⟩ hmet (cwI (eb - 1) hts (good_gtb (ws := []) hmem (by simp)) hws rfl rfl w3.2 w1.2 w2.2 hini ⟨f5, f6, f4⟩ ⟨by show mFr qc + 1 ≤ _; omega, by show 8 + (mLx qc + 11) + mLo qc ≤ _; omega⟩) ⟨WD.blind, fun U hU hW => ⟨rfl, hwd U hU hW⟩⟩ rfl hn0 hsz hstk2 hroom (hen.dec rfl) ⟨hcR, hsR⟩) hS k' T hT X
  · have hi' : ins = .invokevirtual idx := hi
    subst hi'
    have hst := hen.2.2.2
    unfold stat at hst
    have hq' : mtab[ea]? = some qc := hq
    have h99' : ¬ ec = 99 := h99
    simp only [eA, eC, hq', h99', if_false, Bool.and_eq_true, decide_eq_true_eq] at hst
    obtain ⟨hst, hcls⟩ := hst
    obtain ⟨f1, f2, f3, f4, f5, f6⟩ := fitC_inv hq hst
    have hndd : need (mNm q).cls (.invokevirtual idx, len, ea, eb, ec, ep) = [.methodLink (mNm q).cls idx (mNm qc), .instanceMethod (mNm qc), .selects (mNm qc).cls (mNm qc) (mNm qc), .initialized (mNm qc).cls] := by
      unfold need
      simp only [eA, hq']
    have w1 := hen.word hts (w := .methodLink (mNm q).cls idx (mNm qc)) (by rw [hndd]; simp) rfl
    have w2 := hen.word hts (w := .instanceMethod (mNm qc)) (by rw [hndd]; simp) rfl
    have w3 := hen.word hts (w := .selects (mNm qc).cls (mNm qc) (mNm qc)) (by rw [hndd]; simp) rfl
    have w4 := hen.word hts (w := .initialized (mNm qc).cls) (by rw [hndd]; simp) rfl
    have hn0 : (as'.map (cv P)).length = eb - 1 := by
      rw [List.length_map]
      have : (Value.ref a :: as').length = eb := hal
      rw [List.length_cons] at this
      omega
    have hstk2 : ((Value.ref a :: as').reverse ++ r).map (cv P) = (as'.map (cv P)).reverse ++ .ref (pB P + a) :: r.map (cv P) := by
      rw [hstk, List.map_cons, List.reverse_cons, List.append_assoc]
      rfl
    have hcls : (classes[ec.toNat]?).map (fun k => k.1) = some (mNm qc).cls := of_decide_eq_true hcls
    obtain ⟨oc, os⟩ := o
    have hoc' : oc = ec.toNat := hoc
    cases hcl : classes[oc]? with
    | none => rw [← hoc', hcl] at hcls; cases hcls
    | some cc =>
      rw [← hoc', hcl] at hcls
      have hcn : cc.1 = (mNm qc).cls := Option.some.inj hcls
      have hrecv := va_recv hK hP hcl (conc_at (P := P) ho)
      rw [hcn] at hrecv
      refine sx_call (va_runV (b := pB P + a) (C := (mNm qc).cls) (As := as'.map (cv P)) (rest := r.map (cv P)) ⟨hxx, hb, hml, hown, hts⟩ hmet (cwV (eb - 1) hts (good_gtb (ws := [_, _, _, _]) hmem ?_) rfl rfl rfl ⟨rfl, f5, f6, f4⟩ ⟨by show mFr qc + 1 ≤ _; omega, by show 8 + (mLx qc + 11) + mLo qc ≤ _; omega⟩) ⟨WD.blind, hrecv, fun U hU hW => ⟨rfl, hwd U hU hW⟩⟩ rfl hn0 hsz hstk2 hroom (hen.dec rfl) ⟨hcR, hsR⟩) hS k' T hT X
      intro w hw
      simp only [List.mem_cons, List.not_mem_nil, or_false] at hw
      rcases hw with rfl | rfl | rfl | rfl
      · exact w1.1
      · exact w2.1
      · exact w3.1
      · exact w4.1
  · have hi' : ins = .invokevirtual idx := hi
    subst hi'
    have hst := hen.2.2.2
    unfold stat at hst
    have hq' : mtab[ea]? = some qc := hq
    have h99' : ec = 99 := h99
    simp only [eA, eC, hq', h99', if_true, Bool.and_eq_true, decide_eq_true_eq] at hst
    obtain ⟨hst, hcls⟩ := hst
    obtain ⟨f1, f2, f3, f4, f5, f6⟩ := fitC_inv hq hst
    have hndd : need (mNm q).cls (.invokevirtual idx, len, ea, eb, ec, ep) = [.methodLink (mNm q).cls idx (mNm qc), .instanceMethod (mNm qc), .selects (mNm qc).cls (mNm qc) (mNm qc), .initialized (mNm qc).cls] := by
      unfold need
      simp only [eA, hq']
    have w1 := hen.word hts (w := .methodLink (mNm q).cls idx (mNm qc)) (by rw [hndd]; simp) rfl
    have w2 := hen.word hts (w := .instanceMethod (mNm qc)) (by rw [hndd]; simp) rfl
    have w3 := hen.word hts (w := .selects (mNm qc).cls (mNm qc) (mNm qc)) (by rw [hndd]; simp) rfl
    have w4 := hen.word hts (w := .initialized (mNm qc).cls) (by rw [hndd]; simp) rfl
    have hn0 : (as'.map (cv P)).length = eb - 1 := by
      rw [List.length_map]
      have : (Value.retAddr 1 :: as').length = eb := hal
      rw [List.length_cons] at this
      omega
    have hstk2 : ((Value.retAddr 1 :: as').reverse ++ r).map (cv P) = (as'.map (cv P)).reverse ++ .ref (pC P 1) :: r.map (cv P) := by
      rw [hstk, List.map_cons, List.reverse_cons, List.append_assoc]
      rfl
    have hrecv : ∃ cell : Cell, H[pC P 1]? = some cell ∧ cell.vm.isStatics = false ∧ s.vm.findClass (mNm qc).cls = some cell.cls := by
      obtain ⟨cell, z1, z2, z3, -⟩ := hC.2.2.2.2.2.1.kept hS.2.1
      exact ⟨cell, z1, z2, by rw [hcls]; exact z3⟩
    refine sx_call (va_runV (b := pC P 1) (C := (mNm qc).cls) (As := as'.map (cv P)) (rest := r.map (cv P)) ⟨hxx, hb, hml, hown, hts⟩ hmet (cwV (eb - 1) hts (good_gtb (ws := [_, _, _, _]) hmem ?_) rfl rfl rfl ⟨rfl, f5, f6, f4⟩ ⟨by show mFr qc + 1 ≤ _; omega, by show 8 + (mLx qc + 11) + mLo qc ≤ _; omega⟩) ⟨WD.blind, hrecv, fun U hU hW => ⟨rfl, hwd U hU hW⟩⟩ rfl hn0 hsz hstk2 hroom (hen.dec rfl) ⟨hcR, hsR⟩) hS k' T hT X
    intro w hw
    simp only [List.mem_cons, List.not_mem_nil, or_false] at hw
    rcases hw with rfl | rfl | rfl | rfl
    · exact w1.1
    · exact w2.1
    · exact w3.1
    · exact w4.1
end SIMD
/-- THE MACHINE OVER PLAIN CELLS IS THE MACHINE -/
theorem sim (P : prm) (l : Launch) : ∀ n, SimW P l n
  | 0 => by
    intro i pc q ls st hp hp2 rv hq h
    cases h
  | n + 1 => by
    have IH := sim P l n
    intro i pc q ls st hp hp2 rv hq h p e R s m args below meth c H locs cells slots Q lsr FX hl hP hS hcount hcR hsR hret
    have hmono := exec_mono h
    unfold exec at h
    rw [hq] at h
    cases hen0 : ctab i pc with
    | none => rw [hen0] at h; cases h
    | some en =>
      rw [hen0] at h
      have hen := ctab_ok hq hen0
      dsimp only at h
      split at h
      · rename_i pc2 ls2 st2 hA
        exact simA FX hen hl hP hS (by omega) (by omega) hA (fun lsr2 hl2 => IH i pc2 q ls2 st2 hp hp2 rv hq h p e R s m args below meth c H locs cells slots Q lsr2 FX hl2 hP hS hcount hcR hsR hret)
      · split at h
        · rename_i st2 hp1 hB
          have m1 := stpB_mono hB
          have m2 := exec_mono h
          refine simB FX hen hl.size hP hS hcount hB (by omega) (by omega) (fun H1 locs1 hP1 hS1 => ?_)
          refine IH i (pc + en.2.1) q ls st2 hp1 hp2 rv hq h p e R s m args below meth c H1 locs1 _ _ Q lsr FX hl hP1 hS1 (by omega) (by omega) (by omega) (fun H2 locs2 pc2 lsr2 r1 r2 r3 => ?_)
          have := hret H2 locs2 pc2 lsr2 r1 r2 r3
          rw [show cells + (hp1.1.length - hp.1.length) + (hp2.1.length - hp1.1.length) = cells + (hp2.1.length - hp.1.length) by omega, show slots + (hp1.2 - hp.2) + (hp2.2 - hp1.2) = slots + (hp2.2 - hp.2) by omega]
          exact this
        · split at h
          · rename_i j as r hC
            split at h
            · rename_i qj hqj
              split at h
              · rename_i hcond
                simp only [Bool.and_eq_true, decide_eq_true_eq] at hcond
                split at h
                · rename_i rv1 hp1 hx1
                  have m1 := exec_mono hx1
                  have m2 := exec_mono h
                  refine simC IH FX hen hl.size hP hS hcount hC hqj hcond.2 hcond.1 hx1 (by omega) (by omega) (fun H1 locs1 hP1 hS1 => ?_)
                  refine IH i (pc + 3) q ls (rv1.toList ++ r) hp1 hp2 rv hq h p e R s m args below meth c H1 locs1 _ _ Q lsr FX hl hP1 hS1 (by omega) (by omega) (by omega) (fun H2 locs2 pc2 lsr2 r1 r2 r3 => ?_)
                  have := hret H2 locs2 pc2 lsr2 r1 r2 r3
                  rw [show cells + (hp1.1.length - hp.1.length) + (hp2.1.length - hp1.1.length) = cells + (hp2.1.length - hp.1.length) by omega, show slots + (hp1.2 - hp.2) + (hp2.2 - hp1.2) = slots + (hp2.2 - hp.2) by omega]
                  exact this
                · cases h
              · cases h
            · cases h
          · obtain ⟨v, h1, h2⟩ := map_some_inv h
            cases h2
            obtain ⟨rfl, h3⟩ := stpR_inv hen h1
            have := hret H locs pc lsr h3 hP hS
            rw [Nat.sub_self, Nat.sub_self] at this
            exact this
end
section
/-! THE CLAIM OUT OF ONE WALK OF THE LAW'S BODY. Your part is whole_start (and what it stands on); all else here is the same for every law, but numbers. -/
def R_law : String := "HeavyChainsLaw"
def lw_P (b : Addr) (xs : List Int32) (args : Array Value) (s : State) : Prop := args = #[.ref b] ∧ s.IntsAt b xs ∧ xs.length ≤ 2560 ∧ (Jvm.Cond.and given_1 narrow_1).before args s = true
def lw_Q (_ : Array Value) (s : State) (o : Outcome) (t : State) : Prop := o = .returned (some (.int 1)) ∧ Framed s o t [] 600000 7302250
def lw_Z (below : List Frame) (a : Array Value) (s : State) : State → Prop := fun t => ∃ o, t.status = .running ∧ Ended t below o ∧ lw_Q a s o t
/-- the law's own end, with 1 on the stack, nothing written that was there before, its room as the claim has it -/
theorem lw_ret {p : Program} {l : Launch} {e : Env} {s : State} {m : MethodId} {below : List Frame} {meth : Method} {c : Code} {b : Nat} (hx : p.tables.exec = Jvm.exec) (hb : c.code = code) (hr : meth.sig.returnType = ret) (hlocks : meth.locks = false) {pc : Nat} {H : Heap} {ls : Array Slot} (hdg : decode code pc = .ok (.ireturn, 1)) : W p l e room_1 s m #[Value.ref b] below meth c H [] 600000 7302250 (lw_Z below #[Value.ref b] s) (F0 m pc ls [.int 1]) := by
  intro T hT X
  obtain ⟨fs, hret, hrun, hended, hW, hframe⟩ := X.leave (v := some (.int 1)) (hlocks := hlocks) (fun h => by rw [hr] at h; cases h)
  have hmeth' : T.vm.method? m = some meth := X.method'
  refine ⟨T.setFrames fs, ?_, .returned (some (.int 1)), hrun, hended, rfl, ⟨_, rfl⟩, hW, hframe⟩
  jvm_step X.here [X.here.top, hx, hb, hdg, hmeth', hr, ret, narrow_b1]
  (try refine ⟨rfl, ?_⟩); (try refine ⟨rfl, ?_⟩)
  first | (intro acts; rw [hret _ acts rfl rfl rfl]) | rw [hret _ _ rfl rfl rfl]
  exact Steps.refl _
/-- what holds at the law's entry: the machine, the code, the tables' words (any of lw_tbl by 'hts w (by decide +kernel)'), the script of L ints xs at the cell b, what the Statement gives of the start (any of its parts by flat_of_before) -/
def lw_At (p : Program) (s : State) (m : MethodId) (meth : Method) (c : Code) (b L : Nat) (xs : Nat → Int32) : Prop :=
  p.tables.exec = Jvm.exec ∧ c.code = code ∧ meth.sig.returnType = ret ∧ c.maxLocals = 4 ∧ s.vm.findClass R_law = some m.cls ∧ (∀ w ∈ lw_tbl, w.before #[Value.ref b] s = true) ∧ va_X b L xs s s.heap ∧ b < s.heap.size ∧ meth.locks = false ∧ (Jvm.Cond.and given_1 narrow_1).before #[Value.ref b] s = true
/-- the pure claim: over plain cells the law comes to its end, with 1 -/
def PureAll : Prop := ∀ (L : Nat) (xs : Nat → Int32), L ≤ 2560 → ∃ (n : Nat) (hp : hh), exec L xs n 0 0 [some (.retAddr 0), none, none, none] [] ([], 0) = some (some (.int 1), hp) ∧ hp.1.length ≤ 600000 ∧ hp.2 ≤ 7302250
set_option maxHeartbeats 4000000 in
theorem whole_of (pure_all : PureAll) {p : Program} {e : Env} {s : State} {m : MethodId} {below : List Frame} {meth : Method} {c : Code} (l : Launch) {b L : Nat} {xs : Nat → Int32} (hL : L ≤ 2560) (C0 : lw_At p s m meth c b L xs) : W p l e room_1 s m #[Value.ref b] below meth c s.heap [] 0 0 (lw_Z below #[Value.ref b] s) (entryFrame m ([Value.ref b] : List Value).toArray 4) := by
  obtain ⟨hx, hb, hr, hml, hown, hts, hX, hbl, hlocks, hgv⟩ := id C0
  have hs := flat_of_before _ hgv
  have hA : ∀ a : Nat, a < s.heap.size → ¬ (s.heap.size ≤ a) := fun a h => by omega
  obtain ⟨e0, f0, k0⟩ := u_known (C := cn0) (T := ct0) (N := 3) (n := 3) hts cw0 (hts (.instantiable cn0 3) (List.mem_of_getElem? (i := 85) (by decide +kernel)))
  obtain ⟨e1, f1, k1⟩ := u_known (C := cn1) (T := ct1) (N := 2) (n := 2) hts cw1 (hts (.instantiable cn1 2) (List.mem_of_getElem? (i := 62) (by decide +kernel)))
  obtain ⟨e2, f2, k2⟩ := u_known (C := cn2) (T := ct2) (N := 1) (n := 1) hts cw2 (hts (.instantiable cn2 1) (List.mem_of_getElem? (i := 255) (by decide +kernel)))
  obtain ⟨e3, f3, k3⟩ := u_known (C := cn3) (T := ct3) (N := 3) (n := 3) hts cw3 (hts (.instantiable cn3 3) (List.mem_of_getElem? (i := 79) (by decide +kernel)))
  obtain ⟨e4, f4, k4⟩ := u_known (C := cn4) (T := ct4) (N := 3) (n := 3) hts cw4 (hts (.instantiable cn4 3) (List.mem_of_getElem? (i := 205) (by decide +kernel)))
  obtain ⟨e5, f5, k5⟩ := u_known (C := cn5) (T := ct5) (N := 3) (n := 3) hts cw5 (hts (.instantiable cn5 3) (List.mem_of_getElem? (i := 182) (by decide +kernel)))
  obtain ⟨e6, f6, k6⟩ := u_known (C := cn6) (T := ct6) (N := 6) (n := 6) hts cw6 (hts (.instantiable cn6 6) (List.mem_of_getElem? (i := 226) (by decide +kernel)))
  obtain ⟨e7, f7, k7⟩ := u_known (C := cn7) (T := ct7) (N := 10) (n := 10) hts cw7 (hts (.instantiable cn7 10) (List.mem_of_getElem? (i := 123) (by decide +kernel)))
  obtain ⟨e8, f8, k8⟩ := u_known (C := cn8) (T := ct8) (N := 6) (n := 6) hts cw8 (hts (.instantiable cn8 6) (List.mem_of_getElem? (i := 265) (by decide +kernel)))
  obtain ⟨e9, f9, k9⟩ := u_known (C := cn9) (T := ct9) (N := 11) (n := 11) hts cw9 (hts (.instantiable cn9 11) (List.mem_of_getElem? (i := 54) (by decide +kernel)))
  obtain ⟨e10, f10, k10⟩ := u_known (C := cn10) (T := ct10) (N := 25) (n := 25) hts cw10 (hts (.instantiable cn10 25) (List.mem_of_getElem? (i := 698) (by decide +kernel)))
  obtain ⟨G, hG⟩ : ∃ G : va_G, ∀ (k : Nat) (q : vw_C), classes[k]? = some q → u_Kn s q.1 q.2.1 q.2.2 (G.1 k) (G.2 k) := by
    refine ⟨(fun k => [e0, e1, e2, e3, e4, e5, e6, e7, e8, e9, e10].getD k 0, fun k => [f0, f1, f2, f3, f4, f5, f6, f7, f8, f9, f10].getD k (fun _ => 0)), ?_⟩
    intro k q h
    match k, h with
    | 0, h => cases h; exact k0
    | 1, h => cases h; exact k1
    | 2, h => cases h; exact k2
    | 3, h => cases h; exact k3
    | 4, h => cases h; exact k4
    | 5, h => cases h; exact k5
    | 6, h => cases h; exact k6
    | 7, h => cases h; exact k7
    | 8, h => cases h; exact k8
    | 9, h => cases h; exact k9
    | 10, h => cases h; exact k10
    | k + 11, h => simp [classes] at h
  have hprim : ∀ ty : FieldType, (Cond.arrayClass ty).before #[Value.ref b] s = true → (∀ cA, s.vm.findClass ("[" ++ ty.toString) = some cA → va_RA s cA ty) → ∃ cA : ClassId, ArrOfT s cA ty ∧ va_RA s cA ty := by
    intro ty h h2
    obtain ⟨cA, kA, comp, g1, g2, g3⟩ := Cond.arrayClass_spec h
    exact ⟨cA, fun n z => ⟨fun k h => (by cases h), kA, g2, comp, g3⟩, h2 cA g1⟩
  obtain ⟨cI, tI⟩ := hprim .int (hts _ (List.mem_of_getElem? (i := 108) (by decide +kernel))) (fun _ h => h)
  obtain ⟨cZ, tZ⟩ := hprim .boolean (hts _ (List.mem_of_getElem? (i := 253) (by decide +kernel))) (fun _ h => h)
  obtain ⟨cC, tC⟩ := hprim .char (hts _ (List.mem_of_getElem? (i := 77) (by decide +kernel))) (fun _ h => h)
  have hao : (Cond.arrayOver (.object cn0)).before #[Value.ref b] s = true := hts _ (List.mem_of_getElem? (i := 191) (by decide +kernel))
  obtain ⟨cO, tO⟩ : ∃ cA : ClassId, ArrOfT s cA (.object cn0) ∧ va_RA s cA (.object cn0) := by
    obtain ⟨comp, cA, kA, g1, g2, g3, g4, g5⟩ := Cond.arrayOver_spec hao
    exact ⟨cA, fun n z => ⟨fun k h => (by cases h), kA, g3, comp, g4⟩, kA, comp, g3, g4, g1, g5⟩
  obtain ⟨adK, adV, hstr, hev⟩ := vk_Sof (args := #[Value.ref b]) (s := s) (N := 1) (tm := fun _ => .string hostN 80) (len := [60]) (byt := [sB]) (A := fun q => s.heap.size ≤ q)
    (fun i hi => by obtain rfl : i = 0 := by omega
                    decide)
    (fun i hi => hs _ (by decide +kernel))
    (fun i hi => hs _ (by decide +kernel))
    (fun i hi => hs _ (by decide +kernel))
    (fun i hi => by obtain rfl : i = 0 := by omega
                    exact hs _ (by decide +kernel))
    (fun i hi j hj => by
      obtain rfl : i = 0 := by omega
      have key : ∀ j, j < 60 → (Cond.eq (.elem (.field (.string hostN 80) "java/lang/String" "value" "[B") (.int (Int32.ofNat j))) (.int (([sB].getD 0 []).getD j 0))) ∈ flatC (Jvm.Cond.and given_1 narrow_1) := by decide +kernel
      exact hs _ (key j hj))
    (fun i j hi hj h => by omega) hA
  have hstr0 := hstr.1 0 (by omega)
  have hev0 := hev 0 (by omega)
  have hcs := va_Zof (A := fun q => s.heap.size ≤ q) (hts (.laysStatic "java/lang/String" "COMPACT_STRINGS" "Z") (List.mem_of_getElem? (i := 302) (by decide +kernel))) (hts (.initialized "java/lang/String") (List.mem_of_getElem? (i := 47) (by decide +kernel))) (va_eqi (z := 1) (hs _ (by decide +kernel))) hA
  have hfq := va_Zqof (A := fun q => s.heap.size ≤ q) (hts (.laysStatic "jdk/internal/util/Preconditions" "SIOOBE_FORMATTER" "Ljava/util/function/BiFunction;") (List.mem_of_getElem? (i := 318) (by decide +kernel))) (hts (.initialized "jdk/internal/util/Preconditions") (List.mem_of_getElem? (i := 49) (by decide +kernel))) (hs _ (by decide +kernel)) hA
  obtain ⟨fm, hfm, hfc⟩ : ∃ fm : Value, va_Z "jdk/internal/util/Preconditions" "SIOOBE_FORMATTER" "Ljava/util/function/BiFunction;" fm (fun q => s.heap.size ≤ q) s s.heap ∧ fm.category = 1 := by
    rcases hfq with h | ⟨t, h⟩
    · exact ⟨_, h, rfl⟩
    · exact ⟨_, h, rfl⟩
  let P : prm := (s.heap.size, fun k => if k = 0 then b else if k = 1 then adK 0 else adV 0, fm, fun k => if k = 0 then cI else if k = 1 then cZ else if k = 2 then cC else cO, G, L, xs)
  have hK : va_K (pG P) classes (tys P) s := by
    refine ⟨hG, fun k q h => ?_⟩
    match k, h with
    | 0, h => cases h; exact tI
    | 1, h => cases h; exact tZ
    | 2, h => cases h; exact tC
    | 3, h => cases h; exact tO
    | k + 4, h => simp [tys] at h
  have hnst : ∀ w ∈ nst, va_Nw w s := by
    intro w hw
    obtain ⟨x1, x2, x3, x4, rfl⟩ := nst_form hw
    exact va_Nw.of rfl (hts _ (List.mem_filter.mp hw).1)
  have hsr : (Cond.stringRef hostN 80 fTx).before #[Value.ref b] s = true := hts _ (List.mem_of_getElem? (i := 292) (by decide +kernel))
  have hC : Cst P s s.heap := ⟨hnst, va_AO.of hao, vk_R.of hsr hev0, hcs, hfm, hstr0.1, hstr0.2.1, hstr0.2.2.1, hstr0.2.2.2, hX, hbl⟩
  obtain ⟨n, hp, hex, hp1, hp2⟩ := pure_all L xs hL
  have FX : Fx P mi0 p room_1 s m #[Value.ref b] meth c := ⟨hx, hb, hml, hown, fun w hw => hts w (gtb_in hw), hK, hC, by decide, by decide, fun z => absurd z (by decide), hfc, Nat.le_refl _⟩
  have hl := hasL.entry (P := P) hfc (as := [.retAddr 0]) (n := 4) (by decide)
  rw [lg_entry_eq]
  have hP : va_P (pG P) classes (conc P ([] : List hcel)) s.heap := fun k q h => by simp [conc] at h
  refine sim P l n 0 0 mi0 [some (.retAddr 0), none, none, none] [] ([], 0) hp (some (.int 1)) rfl hex p e room_1 s m #[Value.ref b] below meth c s.heap [] 0 0 (lw_Z below #[Value.ref b] s) _ FX hl hP va_S.rf rfl (by show 0 + (hp.1.length - 0) ≤ 600000; omega) (by show 0 + (hp.2 - 0) ≤ 7302250; omega) ?_
  intro H1 locs1 pc1 lsr1 hret hP1 hS1
  refine va_forget (fun q hq => hS1.2.2 q hq) ?_
  refine W.widen (k := 600000) (n := 7302250) (by show 0 + (hp.1.length - 0) ≤ 600000; omega) (by show 0 + (hp.2 - 0) ≤ 7302250; omega) ?_
  exact lw_ret hx hb hr hlocks hret.2
end
section
/-! the cells of the two objects: what is where is fixed, what they hold is a function -/
abbrev scel : Type := (Nat × Nat) ⊕ (List Nat) ⊕ (Nat × List Nat)
abbrev mem : Type := (Nat → Nat → Int32) × Int64
def fvl (M : mem) (a k c : Nat) : Value := match c with
  | 0 => .int (M.1 a k)
  | 1 => .long M.2
  | r + 2 => .ref r
def fvs (M : mem) (a : Nat) : Nat → List Nat → List Value
  | _, [] => []
  | k, c :: r => fvl M a k c :: fvs M a (k + 1) r
def scl (M : mem) (a : Nat) (s : scel) : hcel := match s with
  | .inl q => .inl (q.1, q.2, .inl (M.1 a))
  | .inr (.inl rs) => .inl (3, rs.length, .inr (fun j => rs[j]?))
  | .inr (.inr o) => .inr (o.1, fvs M a 0 o.2)
def encL (M : mem) : Nat → List scel → List hcel
  | _, [] => []
  | a, s :: r => scl M a s :: encL M (a + 1) r
def skel : List scel := [.inr (.inr (9, [3, 5, 11, 20, 24, 28, 62, 72, 74, 78, 80])),
  .inr (.inr (1, [4, 0])),
  .inl (2, 200),
  .inr (.inr (3, [0, 6, 7])),
  .inl (0, 30),
  .inr (.inr (0, [8, 9, 10])),
  .inl (0, 30),
  .inl (0, 30),
  .inl (0, 30),
  .inr (.inr (7, [0, 0, 12, 13, 14, 15, 16, 17, 18, 19])),
  .inl (0, 30),
  .inl (0, 30),
  .inl (0, 30),
  .inl (0, 30),
  .inl (0, 30),
  .inl (0, 30),
  .inl (0, 30),
  .inl (0, 30),
  .inr (.inr (0, [21, 22, 23])),
  .inl (0, 30),
  .inl (0, 30),
  .inl (0, 30),
  .inr (.inr (0, [25, 26, 27])),
  .inl (0, 30),
  .inl (0, 30),
  .inl (0, 30),
  .inr (.inr (5, [29, 0, 0])),
  .inr (.inl [28, 32, 36, 40, 44, 48, 52, 56]),
  .inr (.inr (0, [31, 32, 33])),
  .inl (0, 30),
  .inl (0, 30),
  .inl (0, 30),
  .inr (.inr (0, [35, 36, 37])),
  .inl (0, 30),
  .inl (0, 30),
  .inl (0, 30),
  .inr (.inr (0, [39, 40, 41])),
  .inl (0, 30),
  .inl (0, 30),
  .inl (0, 30),
  .inr (.inr (0, [43, 44, 45])),
  .inl (0, 30),
  .inl (0, 30),
  .inl (0, 30),
  .inr (.inr (0, [47, 48, 49])),
  .inl (0, 30),
  .inl (0, 30),
  .inl (0, 30),
  .inr (.inr (0, [51, 52, 53])),
  .inl (0, 30),
  .inl (0, 30),
  .inl (0, 30),
  .inr (.inr (0, [55, 56, 57])),
  .inl (0, 30),
  .inl (0, 30),
  .inl (0, 30),
  .inr (.inr (0, [59, 60, 61])),
  .inl (0, 30),
  .inl (0, 30),
  .inl (0, 30),
  .inr (.inr (5, [63, 0, 0])),
  .inr (.inl [62, 66]),
  .inr (.inr (0, [65, 66, 67])),
  .inl (0, 30),
  .inl (0, 30),
  .inl (0, 30),
  .inr (.inr (0, [69, 70, 71])),
  .inl (0, 30),
  .inl (0, 30),
  .inl (0, 30),
  .inr (.inr (4, [73, 0, 0])),
  .inl (0, 30),
  .inr (.inr (6, [75, 76, 77, 0, 0, 0])),
  .inl (0, 30),
  .inl (0, 30),
  .inl (1, 30),
  .inr (.inr (2, [79])),
  .inl (1, 30),
  .inr (.inr (8, [81, 82, 83, 84, 0, 0])),
  .inl (0, 12),
  .inl (0, 12),
  .inl (0, 12),
  .inl (0, 12),
  .inr (.inr (10, [86, 0, 87, 88, 89, 90, 91, 92, 93, 0, 94, 0, 0, 95, 0, 0, 96, 0, 1, 97, 0, 0, 98, 99, 0])),
  .inl (0, 90),
  .inl (0, 30),
  .inl (0, 30),
  .inl (0, 30),
  .inl (0, 30),
  .inl (0, 30),
  .inl (0, 30),
  .inl (0, 30),
  .inl (0, 200),
  .inl (0, 60),
  .inl (0, 720),
  .inl (0, 48),
  .inl (0, 30),
  .inl (0, 180)]
def slotsN : Nat := 3498

def enc (M : mem) : hh := (encL M 0 skel, slotsN)
theorem encL_at {M : mem} : ∀ (l : List scel) (b a : Nat), (encL M b l)[a]? = (l[a]?).map (scl M (b + a))
  | [], b, a => by simp [encL]
  | s :: r, b, 0 => by simp [encL]
  | s :: r, b, a + 1 => by
    simp only [encL, List.getElem?_cons_succ]
    rw [encL_at r (b + 1) a, show b + 1 + a = b + (a + 1) by omega]
theorem enc_at {M : mem} {a : Nat} {s : scel} (h : skel[a]? = some s) : (enc M).1[a]? = some (scl M a s) := by
  show (encL M 0 skel)[a]? = _
  rw [encL_at, h, Nat.zero_add]
  rfl
theorem encL_len {M : mem} : ∀ (l : List scel) (b : Nat), (encL M b l).length = l.length
  | [], _ => rfl
  | s :: r, b => by simp [encL, encL_len r (b + 1)]
theorem fvs_at {M : mem} {a : Nat} : ∀ (l : List Nat) (b k : Nat), (fvs M a b l)[k]? = (l[k]?).map (fvl M a (b + k))
  | [], b, k => by simp [fvs]
  | s :: r, b, 0 => by simp [fvs]
  | s :: r, b, k + 1 => by
    simp only [fvs, List.getElem?_cons_succ]
    rw [fvs_at r (b + 1) k, show b + 1 + k = b + (k + 1) by omega]
theorem fvs_len {M : mem} {a : Nat} : ∀ (l : List Nat) (b : Nat), (fvs M a b l).length = l.length
  | [], _ => rfl
  | s :: r, b => by simp [fvs, fvs_len r (b + 1)]
/-- one number told anew -/
def upM (M : mem) (a j : Nat) (v : Int32) : mem := (fun b k => if b = a ∧ k = j then v else M.1 b k, M.2)
theorem upM_at (M : mem) (a j : Nat) (v : Int32) (b k : Nat) : (upM M a j v).1 b k = if b = a ∧ k = j then v else M.1 b k := rfl
theorem upM_2 (M : mem) (a j : Nat) (v : Int32) : (upM M a j v).2 = M.2 := rfl
/-- a row of 30 copied -/
def cpM (M : mem) (a0 a : Nat) : mem := (fun b k => if b = a ∧ k < 30 then M.1 a0 k else M.1 b k, M.2)
theorem enc_ext {M N : mem} {a : Nat} {c : hcel} {s : scel} (hs : skel[a]? = some s) (h1 : c = scl N a s) (h2 : ∀ b s2, b ≠ a → skel[b]? = some s2 → scl M b s2 = scl N b s2) : ((enc M).1.set a c, slotsN) = enc N := by
  show (_, slotsN) = (encL N 0 skel, slotsN)
  congr 1
  apply List.ext_getElem?
  intro b
  show ((encL M 0 skel).set a c)[b]? = (encL N 0 skel)[b]?
  rw [List.getElem?_set, encL_len, encL_at, encL_at, Nat.zero_add]
  by_cases hb : a = b
  · subst hb
    have := (List.getElem?_eq_some_iff.mp hs).1
    rw [if_pos rfl, if_pos this, hs, h1]
    rfl
  · rw [if_neg hb]
    cases hk : skel[b]? with
    | none => rfl
    | some s2 =>
      show some _ = some _
      rw [h2 b s2 (fun z => hb z.symm) hk]
theorem fvs_ext {M N : mem} {a b : Nat} (h2 : M.2 = N.2) (h : ∀ k, M.1 a k = N.1 a k) : ∀ (l : List Nat) (b : Nat), fvs M a b l = fvs N a b l
  | [], _ => rfl
  | c :: r, b => by
    simp only [fvs]
    rw [fvs_ext (b := b) h2 h r (b + 1)]
    congr 1
    match c with
    | 0 => show Value.int _ = Value.int _; rw [h]
    | 1 => show Value.long _ = Value.long _; rw [h2]
    | c + 2 => rfl
theorem scl_ext {M N : mem} {a : Nat} (h2 : M.2 = N.2) (h : ∀ k, M.1 a k = N.1 a k) (s : scel) : scl M a s = scl N a s := by
  match s with
  | .inl q => show Sum.inl (q.1, q.2, Sum.inl (M.1 a)) = Sum.inl (q.1, q.2, Sum.inl (N.1 a)); rw [show M.1 a = N.1 a from funext h]
  | .inr (.inl rs) => rfl
  | .inr (.inr o) => show Sum.inr (o.1, fvs M a 0 o.2) = Sum.inr (o.1, fvs N a 0 o.2); rw [fvs_ext (b := 0) h2 h]
theorem enc_setA {M : mem} {a t n j : Nat} {v : Int32} (hs : skel[a]? = some (.inl (t, n))) : ((enc M).1.set a (.inl (t, n, .inl (upd (M.1 a) j v))), slotsN) = enc (upM M a j v) := by
  refine enc_ext hs ?_ (fun b s2 hb _ => scl_ext (M := M) (N := upM M a j v) rfl (fun k => ?_) s2)
  · show _ = Sum.inl (t, n, Sum.inl ((upM M a j v).1 a))
    congr 4
    funext k
    show (if k = j then v else M.1 a k) = if a = a ∧ k = j then v else M.1 a k
    simp
  · show M.1 b k = if b = a ∧ k = j then v else M.1 b k
    rw [if_neg (fun z => hb z.1)]
theorem enc_setC {M : mem} {a a0 t n : Nat} (hs : skel[a]? = some (.inl (t, n))) : ((enc M).1.set a (.inl (t, n, .inl (va_cpy (M.1 a0) (M.1 a) 0 0 30))), slotsN) = enc (cpM M a0 a) := by
  refine enc_ext hs ?_ (fun b s2 hb _ => scl_ext (M := M) (N := cpM M a0 a) rfl (fun k => ?_) s2)
  · show _ = Sum.inl (t, n, Sum.inl ((cpM M a0 a).1 a))
    congr 4
    funext k
    show (if 0 ≤ k ∧ k < 0 + 30 then M.1 a0 (0 + (k - 0)) else M.1 a k) = if a = a ∧ k < 30 then M.1 a0 k else M.1 a k
    simp
  · show M.1 b k = if b = a ∧ k < 30 then M.1 a0 k else M.1 b k
    rw [if_neg (fun z => hb z.1)]
theorem enc_setF {M : mem} {a ci k : Nat} {cs : List Nat} {v : Int32} (hs : skel[a]? = some (.inr (.inr (ci, cs)))) (hk : cs[k]? = some 0) : ((enc M).1.set a (.inr (ci, (fvs M a 0 cs).set k (.int v))), slotsN) = enc (upM M a k v) := by
  refine enc_ext hs ?_ (fun b s2 hb _ => scl_ext (M := M) (N := upM M a k v) rfl (fun j => ?_) s2)
  · show _ = Sum.inr (ci, fvs (upM M a k v) a 0 cs)
    congr 2
    apply List.ext_getElem?
    intro j
    rw [List.getElem?_set, fvs_at, fvs_at, fvs_len, Nat.zero_add]
    by_cases hj : k = j
    · subst hj
      have := (List.getElem?_eq_some_iff.mp hk).1
      rw [if_pos rfl, if_pos this, hk]
      show some (Value.int v) = some (Value.int (if a = a ∧ k = k then v else M.1 a k))
      simp
    · rw [if_neg hj]
      cases hc : cs[j]? with
      | none => rfl
      | some c =>
        show some _ = some _
        congr 1
        match c with
        | 0 =>
          show Value.int (M.1 a j) = Value.int (if a = a ∧ j = k then v else M.1 a j)
          rw [if_neg (fun z => hj z.2.symm)]
        | 1 => rfl
        | c + 2 => rfl
  · show M.1 b j = if b = a ∧ j = k then v else M.1 b j
    rw [if_neg (fun z => hb z.1)]
theorem one_long : ∀ b, b < skel.length → b ≠ 83 → ∀ ci cs, skel[b]? = some (.inr (.inr (ci, cs))) → (1 : Nat) ∉ cs := by
  have : skel.zipIdx.all (fun q => decide (q.2 = 83) || (match q.1 with | .inr (.inr o) => !(o.2.contains 1) | _ => true)) = true := by decide +kernel
  intro b hb hne ci cs h hm
  have h2 := List.all_eq_true.mp this (_, b) (List.mem_zipIdx_iff_getElem?.mpr h)
  simp [hne] at h2
  exact h2 hm
theorem fvs_ext2 {M N : mem} {a : Nat} (h : ∀ k, M.1 a k = N.1 a k) : ∀ (l : List Nat) (b : Nat), (1 : Nat) ∉ l → fvs M a b l = fvs N a b l
  | [], _, _ => rfl
  | c :: r, b, hm => by
    simp only [fvs]
    rw [fvs_ext2 h r (b + 1) (fun z => hm (List.mem_cons_of_mem _ z))]
    congr 1
    match c with
    | 0 => show Value.int _ = Value.int _; rw [h]
    | 1 => exact absurd List.mem_cons_self hm
    | c + 2 => rfl
theorem enc_setL {M : mem} {v : Int64} {ci : Nat} {cs : List Nat} (hs : skel[83]? = some (.inr (.inr (ci, cs)))) : ((enc M).1.set 83 (.inr (ci, (fvs M 83 0 cs).set 18 (.long v))), slotsN) = enc (M.1, v) := by
  have hcs : skel[83]? = some (.inr (.inr (10, [86, 0, 87, 88, 89, 90, 91, 92, 93, 0, 94, 0, 0, 95, 0, 0, 96, 0, 1, 97, 0, 0, 98, 99, 0]))) := rfl
  have he : Sum.inr (Sum.inr (ci, cs)) = (Sum.inr (Sum.inr (10, [86, 0, 87, 88, 89, 90, 91, 92, 93, 0, 94, 0, 0, 95, 0, 0, 96, 0, 1, 97, 0, 0, 98, 99, 0])) : scel) := Option.some.inj (hs.symm.trans hcs)
  cases he
  refine enc_ext hs rfl (fun b s2 hb h2 => ?_)
  match s2, h2 with
  | .inl q, _ => rfl
  | .inr (.inl rs), _ => rfl
  | .inr (.inr o), h2 =>
    show Sum.inr (o.1, fvs M b 0 o.2) = Sum.inr (o.1, fvs (M.1, v) b 0 o.2)
    rw [fvs_ext2 (M := M) (N := (M.1, v)) (fun _ => rfl) o.2 0 (one_long b (List.getElem?_eq_some_iff.mp h2).1 hb o.1 o.2 h2)]
end
section
/-! runs, without fuel -/
def exB (f : Nat → Nat → lcs → List Value → hh → Option (Option Value × hh)) (L : Nat) (xs : Nat → Int32) (i pc : Nat) (ls : lcs) (st : List Value) (hp : hh) : Option (Option Value × hh) :=
    match mtab[i]?, ctab i pc with
    | some q, some en =>
      (match stpA L xs en pc ls st hp with
      | some (pc2, ls2, st2) => f i pc2 ls2 st2 hp
      | none =>
        (match stpB en st hp with
        | some (st2, hp2) => f i (pc + en.2.1) ls st2 hp2
        | none =>
          (match stpC en st hp with
          | some (j, as, r) =>
            (match mtab[j]? with
            | some qj =>
              if decide ((ent0 (mLx qj) as).length = mLx qj) && decide (0 < j) then
                (match f j 0 (ent0 (mLx qj) as) [] hp with
                | some (rv, hp2) => f i (pc + 3) ls (rv.toList ++ r) hp2
                | none => none)
              else none
            | none => none)
          | none => (stpR q en st).map (fun rv => (rv, hp)))))
    | _, _ => none
theorem exec_succ (L : Nat) (xs : Nat → Int32) (n i pc : Nat) (ls : lcs) (st : List Value) (hp : hh) : exec L xs (n + 1) i pc ls st hp = exB (exec L xs n) L xs i pc ls st hp := rfl
theorem exB_mono {f g : Nat → Nat → lcs → List Value → hh → Option (Option Value × hh)} (hfg : ∀ i pc ls st hp r, f i pc ls st hp = some r → g i pc ls st hp = some r) {L : Nat} {xs : Nat → Int32} {i pc : Nat} {ls : lcs} {st : List Value} {hp : hh} {r : Option Value × hh} (h : exB f L xs i pc ls st hp = some r) : exB g L xs i pc ls st hp = some r := by
  unfold exB at h ⊢
  split at h
  · split at h
    · exact hfg _ _ _ _ _ _ h
    · split at h
      · exact hfg _ _ _ _ _ _ h
      · split at h
        · split at h
          · split at h
            · rename_i hc
              rw [if_pos hc]
              split at h
              · rename_i hx
                rw [hfg _ _ _ _ _ _ hx]
                exact hfg _ _ _ _ _ _ h
              · cases h
            · cases h
          · cases h
        · exact h
  · cases h
theorem exec_more {L : Nat} {xs : Nat → Int32} : ∀ {n i pc : Nat} {ls : lcs} {st : List Value} {hp : hh} {r : Option Value × hh}, exec L xs n i pc ls st hp = some r → exec L xs (n + 1) i pc ls st hp = some r
  | 0, i, pc, ls, st, hp, r, h => by cases h
  | n + 1, i, pc, ls, st, hp, r, h => by
    rw [exec_succ] at h ⊢
    exact exB_mono (fun _ _ _ _ _ _ z => exec_more z) h
theorem exec_le {L : Nat} {xs : Nat → Int32} {n i pc : Nat} {ls : lcs} {st : List Value} {hp : hh} {r : Option Value × hh} (h : exec L xs n i pc ls st hp = some r) : ∀ k, exec L xs (n + k) i pc ls st hp = some r
  | 0 => h
  | k + 1 => exec_more (exec_le h k)
abbrev env : Type := Nat × (Nat → Int32)
def Rn (E : env) (i pc : Nat) (ls : lcs) (st : List Value) (hp : hh) (rv : Option Value) (hp2 : hh) : Prop := ∃ n, exec E.1 E.2 n i pc ls st hp = some (rv, hp2)
def cdOf (i : Nat) : Option (List (Nat × ent)) := (mtab[i]?).map mCd
/-- steps that leave the cells as they are -/
def stA (E : env) (cd : List (Nat × ent)) (hp : hh) : Nat → Nat → lcs → List Value → Option (Nat × lcs × List Value)
  | 0, pc, ls, st => some (pc, ls, st)
  | n + 1, pc, ls, st => match lku pc cd with
    | some en => (match stpA E.1 E.2 en pc ls st hp with
      | some (pc2, ls2, st2) => stA E cd hp n pc2 ls2 st2
      | none => none)
    | none => none
section RULES
variable {E : env} {i pc pc2 : Nat} {ls ls2 : lcs} {st st2 : List Value} {hp hp1 hp2 : hh} {rv : Option Value} {cd : List (Nat × ent)} {en : ent}
theorem cd_q (hq : cdOf i = some cd) : ∃ q, mtab[i]? = some q ∧ mCd q = cd := map_some_inv hq
theorem cd_ctab (hq : cdOf i = some cd) (h : lku pc cd = some en) : ∃ q, mtab[i]? = some q ∧ ctab i pc = some en := by
  obtain ⟨q, h1, h2⟩ := cd_q hq
  refine ⟨q, h1, ?_⟩
  unfold ctab
  rw [h1, ← h, ← h2]
theorem N_A1 (hq : cdOf i = some cd) (h : lku pc cd = some en) (hA : stpA E.1 E.2 en pc ls st hp = some (pc2, ls2, st2)) (k : Rn E i pc2 ls2 st2 hp rv hp2) : Rn E i pc ls st hp rv hp2 := by
  obtain ⟨q, h1, h2⟩ := cd_ctab hq h
  obtain ⟨n, k⟩ := k
  refine ⟨n + 1, ?_⟩
  rw [exec_succ, exB]
  simp only [h1, h2, hA]
  exact k
theorem N_S (hq : cdOf i = some cd) : ∀ (n : Nat) {pc : Nat} {ls : lcs} {st : List Value}, stA E cd hp n pc ls st = some (pc2, ls2, st2) → Rn E i pc2 ls2 st2 hp rv hp2 → Rn E i pc ls st hp rv hp2
  | 0, pc, ls, st, h, k => by cases h; exact k
  | n + 1, pc, ls, st, h, k => by
    unfold stA at h
    split at h
    · rename_i en hen
      split at h
      · rename_i pc3 ls3 st3 hA
        exact N_A1 hq hen hA (N_S hq n h k)
      · cases h
    · cases h
theorem N_B1 (hq : cdOf i = some cd) (h : lku pc cd = some en) (hA : stpA E.1 E.2 en pc ls st hp = none) (hB : stpB en st hp = some (st2, hp1)) (k : Rn E i (pc + en.2.1) ls st2 hp1 rv hp2) : Rn E i pc ls st hp rv hp2 := by
  obtain ⟨q, h1, h2⟩ := cd_ctab hq h
  obtain ⟨n, k⟩ := k
  refine ⟨n + 1, ?_⟩
  rw [exec_succ, exB]
  simp only [h1, h2, hA, hB]
  exact k
theorem N_C1 {j : Nat} {as r : List Value} {qj : minfo} {rv1 : Option Value} (hq : cdOf i = some cd) (h : lku pc cd = some en) (hA : stpA E.1 E.2 en pc ls st hp = none) (hB : stpB en st hp = none) (hC : stpC en st hp = some (j, as, r)) (hj : mtab[j]? = some qj) (hc : (decide ((ent0 (mLx qj) as).length = mLx qj) && decide (0 < j)) = true) (hx : Rn E j 0 (ent0 (mLx qj) as) [] hp rv1 hp1) (k : Rn E i (pc + 3) ls (rv1.toList ++ r) hp1 rv hp2) : Rn E i pc ls st hp rv hp2 := by
  obtain ⟨q, h1, h2⟩ := cd_ctab hq h
  obtain ⟨n, hx⟩ := hx
  obtain ⟨n2, k⟩ := k
  refine ⟨n + n2 + 1, ?_⟩
  have e1 := exec_le hx n2
  have e2 := exec_le k n
  rw [Nat.add_comm n2 n] at e2
  rw [exec_succ, exB]
  simp only [h1, h2, hA, hB, hC, hj, hc, if_true, e1]
  exact e2
theorem N_R1 {q : minfo} (hm : mtab[i]? = some q) (hq : cdOf i = some cd) (h : lku pc cd = some en) (hA : stpA E.1 E.2 en pc ls st hp = none) (hB : stpB en st hp = none) (hC : stpC en st hp = none) (hR : stpR q en st = some rv) : Rn E i pc ls st hp rv hp := by
  obtain ⟨q', h1, h2⟩ := cd_ctab hq h
  cases hm.symm.trans h1
  refine ⟨1, ?_⟩
  rw [exec_succ, exB]
  simp only [hm, h2, hA, hB, hC, hR, Option.map_some]
end RULES
/-! locals that nobody reads any more may be forgotten -/
def lsle : lcs → lcs → Prop
  | [], [] => True
  | none :: r, _ :: s => lsle r s
  | some v :: r, w :: s => w = some v ∧ lsle r s
  | _, _ => False
theorem lsle_len : ∀ {a b : lcs}, lsle a b → a.length = b.length
  | [], [], _ => rfl
  | [], _ :: _, h => h.elim
  | none :: _, [], h => h.elim
  | some _ :: _, [], h => h.elim
  | none :: r, w :: s, h => by
    have := lsle_len (a := r) (b := s) h
    simp [this]
  | some v :: r, w :: s, h => by
    have := lsle_len (a := r) (b := s) h.2
    simp [this]
theorem lsle_get : ∀ {a b : lcs}, lsle a b → ∀ {k : Nat} {v : Value}, a[k]? = some (some v) → b[k]? = some (some v)
  | [], [], _, k, v, h => by simp at h
  | [], _ :: _, h, _, _, _ => h.elim
  | none :: _, [], h, _, _, _ => h.elim
  | some _ :: _, [], h, _, _, _ => h.elim
  | none :: r, w :: s, h, 0, v, hv => by simp at hv
  | none :: r, w :: s, h, k + 1, v, hv => by
    simp only [List.getElem?_cons_succ] at hv ⊢
    exact lsle_get (a := r) (b := s) h hv
  | some x :: r, w :: s, h, 0, v, hv => by
    simp at hv ⊢
    rw [h.1, hv]
  | some x :: r, w :: s, h, k + 1, v, hv => by
    simp only [List.getElem?_cons_succ] at hv ⊢
    exact lsle_get (a := r) (b := s) h.2 hv
theorem lsle_mk : ∀ {a b : lcs}, a.length = b.length → (∀ (k : Nat) (v : Value), a[k]? = some (some v) → b[k]? = some (some v)) → lsle a b
  | [], [], _, _ => trivial
  | [], _ :: _, h, _ => by simp at h
  | _ :: _, [], h, _ => by simp at h
  | none :: r, w :: s, h, hv => lsle_mk (a := r) (b := s) (by simpa using h) (fun k v h2 => by have := hv (k + 1) v (by simpa using h2); simpa using this)
  | some x :: r, w :: s, h, hv => ⟨by have := hv 0 x rfl; simpa using this, lsle_mk (a := r) (b := s) (by simpa using h) (fun k v h2 => by have := hv (k + 1) v (by simpa using h2); simpa using this)⟩
theorem lsle_lGet {a b : lcs} (h : lsle a b) {k : Nat} {v : Value} (hv : lGet a k = some v) : lGet b k = some v := lGet_iff.mpr (lsle_get h (lGet_iff.mp hv))
theorem lsle_clr {a b : lcs} (h : lsle a b) (i : Nat) : lsle (clr a i) (clr b i) := by
  refine lsle_mk (by rw [clr_len, clr_len]; exact lsle_len h) (fun k v hv => ?_)
  unfold clr at hv ⊢
  split
  · exact lsle_get h hv
  · rename_i j
    dsimp only at hv
    by_cases hkj : k = j
    · subst hkj
      split at hv
      · rename_i w hw
        rw [lsle_lGet h hw]
        split at hv
        · rw [List.getElem?_set, if_pos rfl] at hv
          split at hv <;> cases hv
        · rename_i hc
          dsimp only
          rw [if_neg hc]
          exact lsle_get h hv
      · rename_i hw
        rw [lGet_iff.mpr hv] at hw
        cases hw
    · have hv2 : a[k]? = some (some v) := by
        split at hv
        · split at hv
          · rw [List.getElem?_set, if_neg (fun z => hkj z.symm)] at hv
            exact hv
          · exact hv
        · exact hv
      have hb := lsle_get h hv2
      split
      · split
        · rw [List.getElem?_set, if_neg (fun z => hkj z.symm)]
          exact hb
        · exact hb
      · exact hb
theorem lsle_set {a b : lcs} (h : lsle a b) (i : Nat) (v : Option Value) : lsle (a.set i v) (b.set i v) := by
  refine lsle_mk (by rw [List.length_set, List.length_set]; exact lsle_len h) (fun k w hw => ?_)
  rw [List.getElem?_set] at hw ⊢
  rw [← lsle_len h]
  by_cases hk : i = k
  · rw [if_pos hk] at hw ⊢
    exact hw
  · rw [if_neg hk] at hw ⊢
    exact lsle_get h hw
theorem lsle_lSet {a b a2 : lcs} (h : lsle a b) {i : Nat} {v : Value} (hs : lSet a i v = some a2) : ∃ b2, lSet b i v = some b2 ∧ lsle a2 b2 := by
  unfold lSet at hs ⊢
  rw [← lsle_len h]
  split at hs
  · rename_i hc
    cases hs
    exact ⟨_, if_pos hc, lsle_set (lsle_clr h i) i _⟩
  · cases hs
theorem lsle_lSet2 {a b a2 : lcs} (h : lsle a b) {i : Nat} {v : Value} (hs : lSet2 a i v = some a2) : ∃ b2, lSet2 b i v = some b2 ∧ lsle a2 b2 := by
  unfold lSet2 at hs ⊢
  rw [← lsle_len h]
  split at hs
  · rename_i hc
    cases hs
    exact ⟨_, if_pos hc, lsle_set (lsle_set (lsle_clr h i) i _) _ _⟩
  · cases hs
theorem stpA_le {L : Nat} {xs : Nat → Int32} {en : ent} {pc pc2 : Nat} {ls ls' l2 : lcs} {st st2 : List Value} {hp : hh} (hle : lsle ls ls') (h : stpA L xs en pc ls st hp = some (pc2, l2, st2)) : ∃ l3, stpA L xs en pc ls' st hp = some (pc2, l3, st2) ∧ lsle l2 l3 := by
  have ldI : ∀ {k n : Nat}, stLdI ls k n pc st = some (pc2, l2, st2) → ∃ l3, stLdI ls' k n pc st = some (pc2, l3, st2) ∧ lsle l2 l3 := by
    intro k n h
    obtain ⟨x, h1, rfl, rfl, rfl⟩ := stLdI_inv h
    exact ⟨ls', by unfold stLdI; rw [lsle_lGet hle h1], hle⟩
  have ldL : ∀ {k n : Nat}, stLdL ls k n pc st = some (pc2, l2, st2) → ∃ l3, stLdL ls' k n pc st = some (pc2, l3, st2) ∧ lsle l2 l3 := by
    intro k n h
    obtain ⟨x, h1, rfl, rfl, rfl⟩ := stLdL_inv h
    exact ⟨ls', by unfold stLdL; rw [lsle_lGet hle h1], hle⟩
  have ldA : ∀ {k n : Nat}, stLdA ls k n pc st = some (pc2, l2, st2) → ∃ l3, stLdA ls' k n pc st = some (pc2, l3, st2) ∧ lsle l2 l3 := by
    intro k n h
    unfold stLdA at h ⊢
    split at h
    · rename_i x hx
      cases h
      exact ⟨ls', by rw [lsle_lGet hle hx], hle⟩
    · rename_i x hx
      split at h
      · rename_i hc
        cases h
        exact ⟨ls', by rw [lsle_lGet hle hx]; exact if_pos hc, hle⟩
      · cases h
    · cases h
  have stI : ∀ {k n : Nat}, stStI ls k n pc st = some (pc2, l2, st2) → ∃ l3, stStI ls' k n pc st = some (pc2, l3, st2) ∧ lsle l2 l3 := by
    intro k n h
    obtain ⟨x, rfl, h1, rfl⟩ := stStI_inv h
    obtain ⟨b2, h2, h3⟩ := lsle_lSet hle h1
    exact ⟨b2, by unfold stStI; simp [h2], h3⟩
  have stL : ∀ {k n : Nat}, stStL ls k n pc st = some (pc2, l2, st2) → ∃ l3, stStL ls' k n pc st = some (pc2, l3, st2) ∧ lsle l2 l3 := by
    intro k n h
    obtain ⟨x, rfl, h1, rfl⟩ := stStL_inv h
    obtain ⟨b2, h2, h3⟩ := lsle_lSet2 hle h1
    exact ⟨b2, by unfold stStL; simp [h2], h3⟩
  have stAA : ∀ {k n : Nat}, stStA ls k n pc st = some (pc2, l2, st2) → ∃ l3, stStA ls' k n pc st = some (pc2, l3, st2) ∧ lsle l2 l3 := by
    intro k n h
    obtain ⟨x, rfl, h1, rfl⟩ := stStA_inv h
    obtain ⟨b2, h2, h3⟩ := lsle_lSet hle h1
    exact ⟨b2, by unfold stStA; simp [h2], h3⟩
  have mp : ∀ {α : Type} {o : Option α} {f g : α → Nat × lcs × List Value}, o.map f = some (pc2, l2, st2) → (∀ x, (g x).1 = (f x).1 ∧ (f x).2.1 = ls ∧ (g x).2.1 = ls' ∧ (g x).2.2 = (f x).2.2) → ∃ l3, o.map g = some (pc2, l3, st2) ∧ lsle l2 l3 := by
    intro α o f g h hg
    obtain ⟨x, rfl, h2⟩ := map_some_inv h
    obtain ⟨g1, g2, g3, g4⟩ := hg x
    rw [h2] at g1 g2 g4
    dsimp only at g1 g2 g4
    refine ⟨ls', ?_, by rw [g2]; exact hle⟩
    show some (g x) = _
    rw [← g1, ← g3, ← g4]
  unfold stpA at h ⊢
  split at h
  · exact ldI h
  · exact ldI h
  · exact ldL h
  · exact ldL h
  · exact ldA h
  · exact ldA h
  · exact stI h
  · exact stI h
  · exact stL h
  · exact stL h
  · exact stAA h
  · exact stAA h
  · split at h
    · rename_i x hx1
      obtain ⟨l4, h1, h2⟩ := map_some_inv h
      cases h2
      obtain ⟨b2, h2, h3⟩ := lsle_lSet hle h1
      exact ⟨b2, by rw [lsle_lGet hle hx1]; simp [h2], h3⟩
    · cases h
  · cases h; exact ⟨_, rfl, hle⟩
  · cases h; exact ⟨_, rfl, hle⟩
  · cases h; exact ⟨_, rfl, hle⟩
  · cases h; exact ⟨_, rfl, hle⟩
  · cases h; exact ⟨_, rfl, hle⟩
  · cases h; exact ⟨_, rfl, hle⟩
  · split at h
    · cases h; exact ⟨_, rfl, hle⟩
    · cases h
  · split at h
    · cases h; exact ⟨_, rfl, hle⟩
    · cases h
  · split at h
    · split at h
      · rename_i hc
        rw [if_pos hc]
        exact mp h (fun _ => ⟨rfl, rfl, rfl, rfl⟩)
      · rename_i hc
        rw [if_neg hc]
        split at h
        · exact mp h (fun _ => ⟨rfl, rfl, rfl, rfl⟩)
        · cases h
    · cases h
  · split at h
    · exact mp h (fun _ => ⟨rfl, rfl, rfl, rfl⟩)
    · cases h
  · split at h
    · split at h
      · rename_i hc
        cases h
        exact ⟨_, if_pos hc, hle⟩
      · cases h
    · cases h
  · split at h
    · split at h
      · rename_i hc
        cases h
        exact ⟨_, if_pos hc, hle⟩
      · rename_i hc
        rw [if_neg hc]
        split at h
        · rename_i hc
          cases h
          exact ⟨_, if_pos hc, hle⟩
        · cases h
    · cases h
  · exact mp h (fun _ => ⟨rfl, rfl, rfl, rfl⟩)
  · exact mp h (fun _ => ⟨rfl, rfl, rfl, rfl⟩)
  · exact mp h (fun _ => ⟨rfl, rfl, rfl, rfl⟩)
  · exact mp h (fun _ => ⟨rfl, rfl, rfl, rfl⟩)
  · exact mp h (fun _ => ⟨rfl, rfl, rfl, rfl⟩)
  · exact mp h (fun _ => ⟨rfl, rfl, rfl, rfl⟩)
  · exact mp h (fun _ => ⟨rfl, rfl, rfl, rfl⟩)
/-- the instructions over the locals -/
def isLoc (en : ent) : Bool := match en.1 with
  | .iload_n _ | .iload _ | .lload_n _ | .lload _ | .aload_n _ | .aload _ | .istore_n _ | .istore _ | .lstore_n _ | .lstore _ | .astore_n _ | .astore _ | .iinc .. => true
  | _ => false
theorem loc_B {en : ent} {st : List Value} {hp : hh} (h : isLoc en = true) : stpB en st hp = none ∧ stpC en st hp = none ∧ ∀ q, stpR q en st = none := by
  obtain ⟨ins, len, ea, eb, ec, ep⟩ := en
  unfold isLoc at h
  dsimp only at h
  split at h <;> first | (cases h; done) | exact ⟨rfl, by unfold stpC; split <;> rfl, fun _ => rfl⟩
theorem map_none {α β γ : Type} {o : Option α} {f : α → β} {g : α → γ} (h : o.map f = none) : o.map g = none := by
  cases o with
  | none => rfl
  | some x => cases h
theorem loc_A {L : Nat} {xs : Nat → Int32} {en : ent} {pc : Nat} {ls ls' : lcs} {st : List Value} {hp : hh} (hn : isLoc en = false) (h : stpA L xs en pc ls st hp = none) : stpA L xs en pc ls' st hp = none := by
  obtain ⟨ins, len, ea, eb, ec, ep⟩ := en
  unfold isLoc at hn
  unfold stpA at h ⊢
  dsimp only at h hn ⊢
  split at h
  · cases hn
  · cases hn
  · cases hn
  · cases hn
  · cases hn
  · cases hn
  · cases hn
  · cases hn
  · cases hn
  · cases hn
  · cases hn
  · cases hn
  · cases hn
  · cases h
  · cases h
  · cases h
  · cases h
  · cases h
  · cases h
  · split at h
    · cases h
    · rfl
  · split at h
    · cases h
    · rfl
  · split at h
    · split at h
      · rename_i hc
        rw [if_pos hc]
        exact map_none h
      · rename_i hc
        rw [if_neg hc]
        split at h
        · exact map_none h
        · rfl
    · rfl
  · split at h
    · exact map_none h
    · rfl
  · split at h
    · split at h
      · cases h
      · rename_i hc
        rw [if_neg hc]
    · rfl
  · split at h
    · split at h
      · cases h
      · rename_i hc
        rw [if_neg hc]
        split at h
        · cases h
        · rename_i hc
          rw [if_neg hc]
    · rfl
  · exact map_none h
  · exact map_none h
  · exact map_none h
  · exact map_none h
  · exact map_none h
  · exact map_none h
  · exact map_none h
theorem exec_weak {L : Nat} {xs : Nat → Int32} : ∀ {n i pc : Nat} {ls ls' : lcs} {st : List Value} {hp : hh} {r : Option Value × hh}, lsle ls ls' → exec L xs n i pc ls st hp = some r → exec L xs n i pc ls' st hp = some r
  | 0, i, pc, ls, ls', st, hp, r, _, h => by cases h
  | n + 1, i, pc, ls, ls', st, hp, r, hle, h => by
    rw [exec_succ] at h ⊢
    unfold exB at h ⊢
    split at h
    · rename_i q en hq hen
      split at h
      · rename_i pc2 l2 st2 hA
        obtain ⟨l3, h1, h2⟩ := stpA_le hle hA
        rw [h1]
        exact exec_weak h2 h
      · rename_i hA
        by_cases hl : isLoc en = true
        · obtain ⟨b1, b2, b3⟩ := loc_B (st := st) (hp := hp) hl
          rw [b1, b2, b3] at h
          cases h
        · rw [loc_A (ls' := ls') (by simpa using hl) hA]
          dsimp only
          split at h
          · rename_i hB
            exact exec_weak hle h
          · split at h
            · split at h
              · split at h
                · rename_i hc
                  rw [if_pos hc]
                  split at h
                  · exact exec_weak hle h
                  · cases h
                · cases h
              · cases h
            · exact h
    · cases h
theorem Rn_weak {E : env} {i pc : Nat} {ls ls' : lcs} {st : List Value} {hp hp2 : hh} {rv : Option Value} (hle : lsle ls ls') (h : Rn E i pc ls st hp rv hp2) : Rn E i pc ls' st hp rv hp2 := by
  obtain ⟨n, h⟩ := h
  exact ⟨n, exec_weak hle h⟩
/-! the same over the cells of the two objects -/
abbrev vi (x : Int32) : Option Value := some (.int x)
abbrev vl (x : Int64) : Option Value := some (.long x)
abbrev vr (a : Nat) : Option Value := some (.ref a)
abbrev vn : Option Value := none
def Rm (E : env) (i pc : Nat) (ls : lcs) (st : List Value) (M : mem) (rv : Option Value) (M2 : mem) : Prop := Rn E i pc ls st (enc M) rv (enc M2)
theorem R_w {E : env} {i pc : Nat} {ls ls' : lcs} {st : List Value} {M M2 : mem} {rv : Option Value} (hle : lsle ls ls') (h : Rm E i pc ls st M rv M2) : Rm E i pc ls' st M rv M2 := Rn_weak hle h
def inR (x : Int32) (n : Nat) : Prop := inB x n = true
section MRULES
variable {E : env} {i pc pc2 : Nat} {ls ls2 : lcs} {st st2 : List Value} {M M1 M2 : mem} {rv : Option Value} {cd : List (Nat × ent)} {a b len : Nat} {c : Int} {pl : List Nat}
theorem R_S (hq : cdOf i = some cd) (n : Nat) (h : stA E cd (enc M) n pc ls st = some (pc2, ls2, st2)) (k : Rm E i pc2 ls2 st2 M rv M2) : Rm E i pc ls st M rv M2 := N_S hq n h k
theorem R_ial {x : Int32} {ad n : Nat} (hq : cdOf i = some cd) (h : lku pc cd = some (.iaload, len, a, b, c, pl)) (hs : skel[ad]? = some (.inl (0, n))) (hi : inR x n) (k : Rm E i (pc + 1) ls (.int (M.1 ad x.toNatClampNeg) :: st) M rv M2) : Rm E i pc ls (.int x :: .ref ad :: st) M rv M2 := by
  refine N_A1 hq h ?_ k
  simp [stpA, stRd, enc_at hs, scl, show inB x n = true from hi]
theorem R_bal {x : Int32} {ad n : Nat} (hq : cdOf i = some cd) (h : lku pc cd = some (.baload, len, a, b, c, pl)) (hs : skel[ad]? = some (.inl (1, n))) (hi : inR x n) (k : Rm E i (pc + 1) ls (.int (M.1 ad x.toNatClampNeg) :: st) M rv M2) : Rm E i pc ls (.int x :: .ref ad :: st) M rv M2 := by
  refine N_A1 hq h ?_ k
  simp [stpA, stRd, enc_at hs, scl, show inB x n = true from hi]
theorem R_cal {x : Int32} {ad n : Nat} (hq : cdOf i = some cd) (h : lku pc cd = some (.caload, len, a, b, c, pl)) (hs : skel[ad]? = some (.inl (2, n))) (hi : inR x n) (k : Rm E i (pc + 1) ls (.int (M.1 ad x.toNatClampNeg) :: st) M rv M2) : Rm E i pc ls (.int x :: .ref ad :: st) M rv M2 := by
  refine N_A1 hq h ?_ k
  simp [stpA, stRd, enc_at hs, scl, show inB x n = true from hi]
theorem R_aal {x : Int32} {ad y : Nat} {rs : List Nat} (hq : cdOf i = some cd) (h : lku pc cd = some (.aaload, len, a, b, c, pl)) (hs : skel[ad]? = some (.inr (.inl rs))) (hi : inR x rs.length) (hy : rs[x.toNatClampNeg]? = some y) (k : Rm E i (pc + 1) ls (.ref y :: st) M rv M2) : Rm E i pc ls (.int x :: .ref ad :: st) M rv M2 := by
  refine N_A1 hq h ?_ k
  simp [stpA, stRd, enc_at hs, scl, show inB x rs.length = true from hi, hy]
theorem R_gf {ad ci ix : Nat} {cs : List Nat} {v : Value} (hq : cdOf i = some cd) (h : lku pc cd = some (.getfield ix, len, a, b, c, pl)) (hs : skel[ad]? = some (.inr (.inr (ci, cs)))) (h99 : ¬ a = 99) (ha : ci = a) (hv : (cs[b]?).map (fvl M ad b) = some v) (k : Rm E i (pc + 3) ls (v :: st) M rv M2) : Rm E i pc ls (.ref ad :: st) M rv M2 := by
  refine N_A1 hq h ?_ k
  have : (fvs M ad 0 cs)[b]? = some v := by rw [fvs_at, Nat.zero_add]; exact hv
  simp [stpA, stRd, enc_at hs, scl, eA, eB, h99, ha, this]
theorem R_len {ad t n : Nat} (hq : cdOf i = some cd) (h : lku pc cd = some (.arraylength, len, a, b, c, pl)) (hs : skel[ad]? = some (.inl (t, n))) (ht : t < 4) (k : Rm E i (pc + 1) ls (.int (Int32.ofNat n) :: st) M rv M2) : Rm E i pc ls (.ref ad :: st) M rv M2 := by
  refine N_A1 hq h ?_ k
  simp [stpA, stRd, enc_at hs, scl, ht]
theorem R_ias {x v : Int32} {ad n : Nat} (hq : cdOf i = some cd) (h : lku pc cd = some (.iastore, 1, a, b, c, pl)) (hs : skel[ad]? = some (.inl (0, n))) (hi : inR x n) (k : Rm E i (pc + 1) ls st (upM M ad x.toNatClampNeg v) rv M2) : Rm E i pc ls (.int v :: .int x :: .ref ad :: st) M rv M2 := by
  refine N_B1 (hp1 := enc (upM M ad x.toNatClampNeg v)) hq h rfl ?_ k
  simp only [stpB, enc_at hs, scl, show inB x n = true from hi, decide_true, Bool.and_self, if_true]
  exact congrArg some (congrArg (Prod.mk st) (enc_setA hs))
theorem R_bas {x v : Int32} {ad n : Nat} (hq : cdOf i = some cd) (h : lku pc cd = some (.bastore, 1, a, b, c, pl)) (hs : skel[ad]? = some (.inl (1, n))) (hi : inR x n) (k : Rm E i (pc + 1) ls st (upM M ad x.toNatClampNeg (vp_nar .boolean v)) rv M2) : Rm E i pc ls (.int v :: .int x :: .ref ad :: st) M rv M2 := by
  refine N_B1 (hp1 := enc (upM M ad x.toNatClampNeg (vp_nar .boolean v))) hq h rfl ?_ k
  simp only [stpB, enc_at hs, scl, show inB x n = true from hi, decide_true, Bool.and_self, if_true]
  exact congrArg some (congrArg (Prod.mk st) (enc_setA hs))
theorem R_cas {x v : Int32} {ad n : Nat} (hq : cdOf i = some cd) (h : lku pc cd = some (.castore, 1, a, b, c, pl)) (hs : skel[ad]? = some (.inl (2, n))) (hi : inR x n) (k : Rm E i (pc + 1) ls st (upM M ad x.toNatClampNeg (vp_nar .char v)) rv M2) : Rm E i pc ls (.int v :: .int x :: .ref ad :: st) M rv M2 := by
  refine N_B1 (hp1 := enc (upM M ad x.toNatClampNeg (vp_nar .char v))) hq h rfl ?_ k
  simp only [stpB, enc_at hs, scl, show inB x n = true from hi, decide_true, Bool.and_self, if_true]
  exact congrArg some (congrArg (Prod.mk st) (enc_setA hs))
theorem R_pf {v : Int32} {ad ci ix : Nat} {cs : List Nat} (hq : cdOf i = some cd) (h : lku pc cd = some (.putfield ix, 3, a, b, c, pl)) (hs : skel[ad]? = some (.inr (.inr (ci, cs)))) (ha : ci = a) (hk : cs[b]? = some 0) (ht : fTy a b = some .int) (k : Rm E i (pc + 3) ls st (upM M ad b v) rv M2) : Rm E i pc ls (.int v :: .ref ad :: st) M rv M2 := by
  refine N_B1 (hp1 := enc (upM M ad b v)) hq h rfl ?_ k
  have hlt : b < (fvs M ad 0 cs).length := by rw [fvs_len]; exact (List.getElem?_eq_some_iff.mp hk).1
  simp only [stpB, enc_at hs, scl, eA, eB, ht, ha, okv, hlt, decide_true, Bool.and_self, if_true]
  subst ha
  exact congrArg some (congrArg (Prod.mk st) (enc_setF hs hk))
theorem R_pl {v : Int64} {ix : Nat} (hq : cdOf i = some cd) (h : lku pc cd = some (.putfield ix, 3, 10, 18, c, pl)) (k : Rm E i (pc + 3) ls st (M.1, v) rv M2) : Rm E i pc ls (.long v :: .ref 83 :: st) M rv M2 := by
  refine N_B1 (hp1 := enc (M.1, v)) hq h rfl ?_ k
  have hs : skel[83]? = some (.inr (.inr (10, [86, 0, 87, 88, 89, 90, 91, 92, 93, 0, 94, 0, 0, 95, 0, 0, 96, 0, 1, 97, 0, 0, 98, 99, 0]))) := rfl
  have ht : fTy 10 18 = some .long := rfl
  have hlt : 18 < (fvs M 83 0 [86, 0, 87, 88, 89, 90, 91, 92, 93, 0, 94, 0, 0, 95, 0, 0, 96, 0, 1, 97, 0, 0, 98, 99, 0]).length := by rw [fvs_len]; decide
  simp only [stpB, enc_at hs, scl, eA, eB, ht, okv, hlt, decide_true, Bool.and_self, if_true]
  exact congrArg some (congrArg (Prod.mk st) (enc_setL hs))
theorem R_cpy {ad ad0 ix : Nat} (hq : cdOf i = some cd) (h : lku pc cd = some (.invokestatic ix, 3, 9001, b, c, pl)) (hs0 : skel[ad0]? = some (.inl (0, 30))) (hs : skel[ad]? = some (.inl (0, 30))) (hst : catS st ≤ 8) (k : Rm E i (pc + 3) ls st (cpM M ad0 ad) rv M2) : Rm E i pc ls (.int 30 :: .int 0 :: .ref ad :: .int 0 :: .ref ad0 :: st) M rv M2 := by
  refine N_B1 (hp1 := enc (cpM M ad0 ad)) hq h rfl ?_ k
  simp only [stpB, enc_at hs, enc_at hs0, scl, eA, hst, decide_true, Bool.and_true]
  exact congrArg some (congrArg (Prod.mk st) (enc_setC hs))
theorem R_call {j ix : Nat} {as r : List Value} {qj : minfo} {rv1 : Option Value} {en : ent} (hq : cdOf i = some cd) (h : lku pc cd = some en) (hA : stpA E.1 E.2 en pc ls st (enc M) = none) (hB : stpB en st (enc M) = none) (hC : stpC en st (enc M) = some (j, as, r)) (hj : mtab[j]? = some qj) (hc : (decide ((ent0 (mLx qj) as).length = mLx qj) && decide (0 < j)) = true) (hx : Rm E j 0 (ent0 (mLx qj) as) [] M rv1 M1) (k : Rm E i (pc + 3) ls (rv1.toList ++ r) M1 rv M2) : Rm E i pc ls st M rv M2 := N_C1 hq h hA hB hC hj hc hx k
theorem R_ret {en : ent} {q : minfo} (hm : mtab[i]? = some q) (hq : cdOf i = some cd) (h : lku pc cd = some en) (hA : stpA E.1 E.2 en pc ls st (enc M) = none) (hB : stpB en st (enc M) = none) (hC : stpC en st (enc M) = none) (hR : stpR q en st = some rv) : Rm E i pc ls st M rv M := N_R1 hm hq h hA hB hC hR
theorem R_if {x : Int32} {cc : ClassFile.Cond} {off : Int} (hq : cdOf i = some cd) (h : lku pc cd = some (.ifCond cc off, len, a, b, c, pl)) (k : Rm E i (if cmpB cc x 0 then a else pc + 3) ls st M rv M2) : Rm E i pc ls (.int x :: st) M rv M2 := N_A1 hq h rfl k
theorem R_ic {x y : Int32} {cc : ClassFile.Cond} {off : Int} (hq : cdOf i = some cd) (h : lku pc cd = some (.if_icmp cc off, len, a, b, c, pl)) (k : Rm E i (if cmpB cc x y then a else pc + 3) ls st M rv M2) : Rm E i pc ls (.int y :: .int x :: st) M rv M2 := N_A1 hq h rfl k
theorem R_ift {x : Int32} {cc : ClassFile.Cond} {off : Int} (hq : cdOf i = some cd) (h : lku pc cd = some (.ifCond cc off, len, a, b, c, pl)) (hc : cmpB cc x 0 = true) (k : Rm E i a ls st M rv M2) : Rm E i pc ls (.int x :: st) M rv M2 := R_if hq h (by rw [hc]; exact k)
theorem R_iff {x : Int32} {cc : ClassFile.Cond} {off : Int} (hq : cdOf i = some cd) (h : lku pc cd = some (.ifCond cc off, len, a, b, c, pl)) (hc : cmpB cc x 0 = false) (k : Rm E i (pc + 3) ls st M rv M2) : Rm E i pc ls (.int x :: st) M rv M2 := R_if hq h (by rw [hc]; exact k)
theorem R_ict {x y : Int32} {cc : ClassFile.Cond} {off : Int} (hq : cdOf i = some cd) (h : lku pc cd = some (.if_icmp cc off, len, a, b, c, pl)) (hc : cmpB cc x y = true) (k : Rm E i a ls st M rv M2) : Rm E i pc ls (.int y :: .int x :: st) M rv M2 := R_ic hq h (by rw [hc]; exact k)
theorem R_icf {x y : Int32} {cc : ClassFile.Cond} {off : Int} (hq : cdOf i = some cd) (h : lku pc cd = some (.if_icmp cc off, len, a, b, c, pl)) (hc : cmpB cc x y = false) (k : Rm E i (pc + 3) ls st M rv M2) : Rm E i pc ls (.int y :: .int x :: st) M rv M2 := R_ic hq h (by rw [hc]; exact k)
theorem R_tsd {x : Int32} {d lo hi : Int} {offs : Array Int} {t : Nat} (hq : cdOf i = some cd) (h : lku pc cd = some (.tableswitch d lo hi offs, len, a, b, c, pl)) (hc : x.toInt < lo ∨ hi < x.toInt) (ht : tgtS pc d = some t) (k : Rm E i t ls st M rv M2) : Rm E i pc ls (.int x :: st) M rv M2 := by
  refine N_A1 hq h ?_ k
  simp only [stpA, if_pos hc, ht, Option.map_some]
theorem R_top {x y : Int32} (h : x = y) (k : Rm E i pc ls (.int y :: st) M rv M2) : Rm E i pc ls (.int x :: st) M rv M2 := by rw [h]; exact k
theorem R_dv {x y z : Int32} {en : ent} (hq : cdOf i = some cd) (h : lku pc cd = some en) (hi : en.1 = .idiv ∧ z = x / y ∨ en.1 = .irem ∧ z = x - x / y * y) (hy : ¬ y = 0) (k : Rm E i (pc + 1) ls (.int z :: st) M rv M2) : Rm E i pc ls (.int y :: .int x :: st) M rv M2 := by
  refine N_A1 hq h ?_ k
  rcases hi with ⟨h1, rfl⟩ | ⟨h1, rfl⟩ <;> simp [stpA, h1, stAr, hy]
end MRULES
end
