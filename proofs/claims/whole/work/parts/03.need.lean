/-! what an entry of code needs of the tables, and that it has it -/
def hostN : String := "HeavyChains"
def fTx : String := "p0011223344556;w5082719364028;f1213141512131;g3021045670123;"
def noMH (y : MethodName) : Bool := decide (y.cls ≠ "java/lang/invoke/MethodHandle") && decide (y.cls ≠ "java/lang/invoke/VarHandle")
def mLink (own : String) (idx : Nat) (y : MethodName) (c : Int) : Cond := if c = 1 then .methodLinkNest own idx y hostN else .methodLink own idx y
def need (own : String) (e : ent) : List Cond :=
  match e.1 with
  | .getfield idx => if eA e = 99 then (if eB e = 0 then [.fieldLink own idx "java/lang/String" "code\x72" "B"] else [.fieldLink own idx "java/lang/String" "value" "[B"]) else
      match classes[eA e]? with
      | some c => [.fieldLink own idx (c.2.1 (eB e)).1 (c.2.1 (eB e)).2.1 (c.2.1 (eB e)).2.2.1]
      | none => []
  | .putfield idx =>
      match classes[eA e]? with
      | some c => [.fieldLink own idx (c.2.1 (eB e)).1 (c.2.1 (eB e)).2.1 (c.2.1 (eB e)).2.2.1]
      | none => []
  | .getstatic idx => if eA e = 0 then [.fieldLink own idx "java/lang/String" "COMPACT_STRINGS" "Z"] else [.fieldLink own idx "jdk/internal/util/Preconditions" "SIOOBE_FORMATTER" "Ljava/util/function/BiFunction;"]
  | .ldc idx => if eA e = 0 then [.constant own idx (Int32.ofInt (eC e))] else [.stringRef own idx fTx]
  | .ldc2_w idx => [.constantLong own idx (Int64.ofInt (eC e))]
  | .new idx =>
      match classes[eA e]? with
      | some c => [.classLink own idx c.1, .instantiable c.1 c.2.2, .initialized c.1]
      | none => []
  | .newarray t => [.arrayClass (newarray.typeOf t)]
  | .anewarray idx => [.classLink own idx cn0, .arrayOver (.object cn0)]
  | .invokevirtual idx =>
      match mtab[eA e]? with
      | some q => [.methodLink own idx (mNm q), .instanceMethod (mNm q), .selects (mNm q).cls (mNm q) (mNm q), .initialized (mNm q).cls]
      | none => []
  | .invokestatic idx =>
      if eA e = 9001 then [.methodLink own idx arraycopyName, .native arraycopyName, .static arraycopyName, .initialized "java/lang/System"] else
      if eA e = 9002 then [.methodLink own idx Lib.Math.max.name, .static Lib.Math.max.name, .initialized "java/lang/Math", .code Lib.Math.max.name Lib.Math.max.code 2 (some .int)] else
      if eA e = 9003 then [.methodLink own idx Lib.Math.min.name, .static Lib.Math.min.name, .initialized "java/lang/Math", .code Lib.Math.min.name Lib.Math.min.code 2 (some .int)] else
      match mtab[eA e]? with
      | some q => [mLink own idx (mNm q) (eC e), .static (mNm q), .initialized (mNm q).cls]
      | none => []
  | .invokespecial idx =>
      if eA e = 9000 then [.methodLink own idx objectInit, .instanceMethod objectInit, .code objectInit ⟨#[0xb1]⟩ 1 none] else
      match mtab[eA e]? with
      | some q => [mLink own idx (mNm q) (eC e), .instanceMethod (mNm q), .initialized (mNm q).cls]
      | none => []
  | _ => []
def nArgs (y : MethodName) : Option Nat := (parseMethodDescriptor y.desc).map (fun d => d.parameters.length)
/-- a call that fits its caller's room -/
def fitC (q : minfo) (e : ent) (k : Nat) : Bool :=
  match mtab[eA e]? with
  | some c => decide (mFr c + 1 ≤ mFr q) && decide (8 + (mLx c + 11) + mLo c ≤ mLo q) && decide (k ≤ eB e) && decide (nArgs (mNm c) = some (eB e - k)) && noMH (mNm c)
  | none => decide (9999 ≤ eA e)
def ilen : Instr → Nat
  | .iload _ | .lload _ | .aload _ | .istore _ | .lstore _ | .astore _ | .bipush _ | .ldc _ | .newarray _ => 2
  | .sipush _ | .ldc2_w _ | .iinc .. | .ifCond .. | .if_icmp .. | .goto _ | .getfield _ | .putfield _ | .getstatic _ | .new _ | .anewarray _ | .invokevirtual _ | .invokestatic _ | .invokespecial _ => 3
  | _ => 1
def lenOk (e : ent) : Bool := match e.1 with
  | .tableswitch .. => true
  | .lookupswitch .. => true
  | i => decide (e.2.1 = ilen i)
def isSpec : Cond → Bool
  | .methodLinkNest .. => true
  | .arrayOver _ => true
  | .stringRef .. => true
  | _ => false
def stat (q : minfo) (pc : Nat) (e : ent) : Bool :=
  match e.1 with
  | .goto off => decide ((pc : Int) + off = (eA e : Int))
  | .ifCond _ off => decide ((pc : Int) + off = (eA e : Int))
  | .if_icmp _ off => decide ((pc : Int) + off = (eA e : Int))
  | .lookupswitch _ ps => (ps.toList.zip (ps.toList.drop 1)).all (fun (a, next) => a.1 < next.1)
  | .getfield _ => decide (eA e = 99) || (match classes[eA e]? with | some c => decide (eB e < c.2.2) | none => false)
  | .putfield _ => (match classes[eA e]? with | some c => decide (eB e < c.2.2) && (!(c.2.1 (eB e)).2.2.2 || (decide ((mNm q).name = "<init>") && decide ((c.2.1 (eB e)).1 = (mNm q).cls))) | none => false)
  | .new _ => (match classes[eA e]? with | some _ => true | none => false)
  | .newarray t => (match t with | .int => decide (eA e = 0) | .boolean => decide (eA e = 1) | .char => decide (eA e = 2) | _ => false)
  | .invokevirtual _ => fitC q e 1 && (match mtab[eA e]? with | some c => (if eC e = 99 then decide ((mNm c).cls = "java/lang/String") else decide ((classes[(eC e).toNat]?).map (fun k => k.1) = some (mNm c).cls)) | none => true)
  | .invokestatic _ => if eA e = 9001 ∨ eA e = 9002 ∨ eA e = 9003 then decide (1 ≤ mFr q) && decide (8 + (nativeFrameWords "java/lang/System" "arraycopy" 5 + 13) ≤ mLo q) else fitC q e 0
  | .invokespecial _ => if eA e = 9000 then decide (1 ≤ mFr q) && decide (20 ≤ mLo q) else fitC q e 1 && (match mtab[eA e]? with | some c => decide ((mNm c).name = "<init>") && decide (mRt c = none) | none => true)
  | _ => true
def chkE (q : minfo) (pe : Nat × ent) : Bool :=
  decide (decode (mBy q) pe.1 = .ok (pe.2.1, pe.2.2.1)) && decide ((eP pe.2).map (fun p => lw_tbl[p]?) = (need (mNm q).cls pe.2).map some) && (need (mNm q).cls pe.2).all (fun w => goodWord w || isSpec w) && lenOk pe.2 && stat q pe.1 pe.2
