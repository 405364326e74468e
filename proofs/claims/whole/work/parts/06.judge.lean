/-! ===== the judgement, and its step ===== -/
def xSL : List (String × Int64) := [("WORD_NAME", 464134), ("RULE_NAME", 369932), ("AGREE_NAME", 682484), ("IS_NAME", 262)]
def xStat (sa : Nat) (A : Nat → Prop) (U : State) (H : Heap) : Prop := (∀ q ∈ xSL, va_Z "TreeSchoolModel" q.1 "J" (.long q.2) A U H) ∧ va_Z "TreeSchoolModel" "FIVES" "[I" (.ref sa) A U H ∧ va_T .int sa 4 (fun j => .int (xfv j)) A U H
theorem xStat.moved {sa : Nat} {A : Nat → Prop} {u U : State} {H : Heap} (hvm : u.vm.Alike U.vm) (h : xStat sa A u H) : xStat sa A U H := ⟨fun q hq => (h.1 q hq).moved hvm, h.2.1.moved hvm, h.2.2.moved hvm⟩
theorem xStat.kept {sa : Nat} {A : Nat → Prop} {U : State} {H H1 : Heap} (h : xStat sa A U H) (hq : ∀ a : Nat, a < H.size → ¬ A a → H1[a]? = H[a]?) : xStat sa A U H1 := ⟨fun q z => (h.1 q z).kept hq, h.2.1.kept hq, h.2.2.kept hq⟩
theorem xStat.narrow {sa : Nat} {A B : Nat → Prop} {U : State} {H : Heap} (h : xStat sa A U H) (hAB : ∀ q, B q → A q) : xStat sa B U H := ⟨fun q z => (h.1 q z).narrow hAB, h.2.1.narrow hAB, h.2.2.narrow hAB⟩
def xWs (TB : List Cond) (r : XMeth) : List Cond := .code (xY r) (xC r) (xML r) (xRT r) :: TB
def xRoom (r : XMeth) (d : Nat) : Room := { frames := d, cells := xMC r, slots := xMS r, locals := 60 * d }
def xQc (ad0 : Nat → Nat) (n0 mc : Nat) (sa : Nat) (cid : Nat → ClassId) (D : va_G) (cl : List vw_C) (A : Nat → Prop) (Ret : Option Value → XW → Prop) : Array Value → State → Outcome → State → Prop := fun _ st oc t =>
  (∃ (v : Option Value) (w : XW) (ad : Nat → Nat), (∀ j : Nat, j < n0 → ad j = ad0 j) ∧ (mc = 0 → ad = ad0) ∧ n0 ≤ w.length ∧ oc = .returned (v.map (rV ad sa)) ∧ Ret v w ∧ va_P D cl (cw ad sa cid w) t.heap ∧ va_D A (cw ad sa cid w)) ∧ va_F A st t
/-- how many bytes an instruction has, where that is fixed -/
def xln : Instr → Nat
  | .bipush _ => 2
  | .sipush _ => 3
  | .ldc _ => 2
  | .ldc_w _ => 3
  | .ldc2_w _ => 3
  | .iload _ => 2
  | .lload _ => 2
  | .aload _ => 2
  | .istore _ => 2
  | .lstore _ => 2
  | .astore _ => 2
  | .iinc _ _ => 3
  | .goto _ => 3
  | .ifCond _ _ => 3
  | .if_icmp _ _ => 3
  | .getfield _ => 3
  | .putfield _ => 3
  | .getstatic _ => 3
  | .newarray _ => 2
  | .new _ => 3
  | .invokevirtual _ => 3
  | .invokestatic _ => 3
  | .invokespecial _ => 3
  | .tableswitch _ _ _ _ => 0
  | _ => 1
def xtk (pc : Nat) : Instr → List Nat → Bool
  | .goto o, [t] => decide ((pc : Int) + o = (t : Int))
  | .ifCond _ o, [t] => decide ((pc : Int) + o = (t : Int))
  | .if_icmp _ o, [t] => decide ((pc : Int) + o = (t : Int))
  | .tableswitch df lo hi os, d :: ts => decide ((pc : Int) + df = (d : Int)) && decide (os.toList.map (fun o => (pc : Int) + o) = ts.map (fun t : Nat => Int.ofNat t)) && decide (hi = lo + ts.length - 1) && decide (0 ≤ lo) && decide (hi < 1000) && Nat.ble 1 ts.length
  | .goto _, _ => false
  | .ifCond _ _, _ => false
  | .if_icmp _ _, _ => false
  | .tableswitch _ _ _ _, _ => false
  | _, _ => true
def xvk (po : Nat → Option XP) : Instr → Int32 → Bool
  | .iconst n, v => decide (Int32.ofInt n = v)
  | .bipush n, v => decide ((Int8.ofInt n).toInt32 = v)
  | .sipush n, v => decide ((Int16.ofInt n).toInt32 = v)
  | .iinc _ n, v => decide (Int32.ofInt n = v)
  | .ldc ix, v => match po ix with
    | some (9, _, _, _, z) => decide (z = v.toInt64)
    | _ => true
  | .ldc_w ix, v => match po ix with
    | some (9, _, _, _, z) => decide (z = v.toInt64)
    | _ => true
  | _, _ => true
/-- a row is what the bytes say -/
def xRowOk (c : ByteArray) (po : Nat → Option XP) (pc : Nat) : XRow → Bool
  | (i, len, nx, tg, _, cv) => decide (decode c pc = .ok (i, len)) && Nat.beq nx (pc + len) && (Nat.beq (xln i) 0 || Nat.beq len (xln i)) && xtk pc i tg && xvk po i cv
/-- of what type a field must be that has a tag -/
def xTagOk (own : String) (f : String × String × String × Bool) : Nat → Bool
  | 0 => decide (f.2.2.1 = "I") && !f.2.2.2
  | 1 => decide (f.2.2.1 = "J") && !f.2.2.2
  | 2 => decide (f.2.2.1 = "Z") && !f.2.2.2
  | 3 => (match parseFieldDescriptor f.2.2.1 with | some (.object _) => true | some (.array _) => true | _ => false) && !f.2.2.2
  | 7 => (match parseFieldDescriptor f.2.2.1 with | some (.object _) => true | some (.array _) => true | _ => false) && f.2.2.2 && decide (f.1 = own)
  | 8 => f.2.2.2
  | _ => false

/-- what a pool entry stands for -/
def xPoolOk (TB NW : List Cond) (cl : List vw_C) (df : Nat → List Value) (mR : Nat → XMeth) (own : String) (ix : Nat) : XP → Prop
  | (0, ci, k, tag, _) => ∃ q : vw_C, cl[ci]? = some q ∧ k < q.2.2 ∧ Cond.fieldLink own ix q.1 (q.2.1 k).2.1 (q.2.1 k).2.2.1 ∈ TB ∧ (q.2.1 k).1 = q.1 ∧ xTagOk own (q.2.1 k) tag = true
  | (1, ci, k, tag, _) => ∃ q : vw_C, cl[ci]? = some q ∧ k < q.2.2 ∧ (∃ h, Cond.fieldLinkNest own ix q.1 (q.2.1 k).2.1 (q.2.1 k).2.2.1 h ∈ NW) ∧ (q.2.1 k).1 = q.1 ∧ xTagOk own (q.2.1 k) tag = true ∧ tag ≠ 7
  | (2, k, n, ci, _) => (cl[ci]?.map fun q => q.1) = some (xY (mR k)).cls ∧ Cond.methodLink own ix (xY (mR k)) ∈ TB ∧ Cond.instanceMethod (xY (mR k)) ∈ TB ∧ Cond.selects (xY (mR k)).cls (xY (mR k)) (xY (mR k)) ∈ TB ∧ (parseMethodDescriptor (xY (mR k)).desc).map (fun d => d.parameters.length) = some n
  | (3, k, n, ci, _) => (cl[ci]?.map fun q => q.1) = some (xY (mR k)).cls ∧ (∃ h, Cond.methodLinkNest own ix (xY (mR k)) h ∈ NW) ∧ Cond.instanceMethod (xY (mR k)) ∈ TB ∧ Cond.selects (xY (mR k)).cls (xY (mR k)) (xY (mR k)) ∈ TB ∧ (parseMethodDescriptor (xY (mR k)).desc).map (fun d => d.parameters.length) = some n
  | (4, k, n, _, _) => Cond.methodLink own ix (xY (mR k)) ∈ TB ∧ Cond.static (xY (mR k)) ∈ TB ∧ (parseMethodDescriptor (xY (mR k)).desc).map (fun d => d.parameters.length) = some n
  | (5, k, n, _, _) => (∃ h, Cond.methodLinkNest own ix (xY (mR k)) h ∈ NW) ∧ Cond.static (xY (mR k)) ∈ TB ∧ (parseMethodDescriptor (xY (mR k)).desc).map (fun d => d.parameters.length) = some n
  | (6, k, n, _, _) => (xY (mR k)).name = "<init>" ∧ xRT (mR k) = none ∧ Cond.methodLink own ix (xY (mR k)) ∈ TB ∧ Cond.instanceMethod (xY (mR k)) ∈ TB ∧ (parseMethodDescriptor (xY (mR k)).desc).map (fun d => d.parameters.length) = some n
  | (7, k, n, _, _) => (xY (mR k)).name = "<init>" ∧ xRT (mR k) = none ∧ (∃ h, Cond.methodLinkNest own ix (xY (mR k)) h ∈ NW) ∧ Cond.instanceMethod (xY (mR k)) ∈ TB ∧ (parseMethodDescriptor (xY (mR k)).desc).map (fun d => d.parameters.length) = some n
  | (8, _, _, _, _) => Cond.methodLink own ix Lib.objectInit ∈ TB
  | (9, _, _, _, z) => Cond.constant own ix z.toInt32 ∈ TB
  | (10, _, _, _, z) => Cond.constantLong own ix z ∈ TB
  | (11, _, _, _, z) => ∃ n, (n, z) ∈ xSL ∧ Cond.fieldLink own ix "TreeSchoolModel" n "J" ∈ TB
  | (12, _, _, _, _) => Cond.fieldLink own ix "TreeSchoolModel" "FIVES" "[I" ∈ TB
  | (13, _, _, _, _) => Cond.methodLink own ix Lib.Math.max.name ∈ TB ∧ Cond.static Lib.Math.max.name ∈ TB ∧ Cond.code Lib.Math.max.name Lib.Math.max.code 2 (some .int) ∈ TB
  | (14, _, _, _, _) => Cond.methodLink own ix Lib.Math.min.name ∈ TB ∧ Cond.static Lib.Math.min.name ∈ TB ∧ Cond.code Lib.Math.min.name Lib.Math.min.code 2 (some .int) ∈ TB
  | (15, _, _, _, _) => Cond.methodLink own ix Lib.MathLoose.min_long.x ∈ TB ∧ Cond.static Lib.MathLoose.min_long.x ∈ TB ∧ Cond.code Lib.MathLoose.min_long.x Lib.MathLoose.min_long.code 4 (some .long) ∈ TB
  | (16, _, _, _, _) => Cond.methodLink own ix arraycopyName ∈ TB ∧ Cond.native arraycopyName ∈ TB ∧ Cond.static arraycopyName ∈ TB ∧ Cond.initialized "java/lang/System" ∈ TB
  | (17, ci, n, _, _) => ∃ q : vw_C, cl[ci]? = some q ∧ n = q.2.2 ∧ Cond.classLink own ix q.1 ∈ TB ∧ Cond.instantiable q.1 q.2.2 ∈ TB ∧ Cond.initialized q.1 ∈ TB
  | _ => False
/-- what must hold of the tables -/
def xOK (TB NW : List Cond) (cl : List vw_C) (df : Nat → List Value) (al : Nat → Nat × Nat) (mR : Nat → XMeth) : Prop :=
  (∀ k pc row, xFE (mR k) pc = some row → xRowOk (xC (mR k)) (xPO (mR k)) pc row = true) ∧
  (∀ k ix e, xPO (mR k) ix = some e → xPoolOk TB NW cl df mR (xY (mR k)).cls ix e) ∧
  (∀ w ∈ TB, goodWord w = true) ∧
  (∀ w ∈ NW, (∃ a i b n d h, w = Cond.fieldLinkNest a i b n d h) ∨ ∃ a i x h, w = Cond.methodLinkNest a i x h) ∧
  (∀ k, Cond.code (xY (mR k)) (xC (mR k)) (xML (mR k)) (xRT (mR k)) ∈ TB ∧ Cond.initialized (xY (mR k)).cls ∈ TB ∧ ((xY (mR k)).cls ≠ "java/lang/invoke/MethodHandle" ∧ (xY (mR k)).cls ≠ "java/lang/invoke/VarHandle") ∧ plainName (xY (mR k)).cls = true ∧ xML (mR k) ≤ 40 ∧ (xIN (mR k) = true → (xY (mR k)).name = "<init>") ∧ al k = (xMC (mR k), xMS (mR k))) ∧
  (∀ ci q, cl[ci]? = some q → (∀ w ∈ u_ws q.1 q.2.1 q.2.2, w ∈ TB) ∧ (∀ a, a < q.2.2 → ∀ b, b < q.2.2 → a ≠ b → (q.2.1 a).2.1 ≠ (q.2.1 b).2.1) ∧ ∃ ty0 : Nat → FieldType, (∀ k, k < q.2.2 → parseFieldDescriptor (q.2.1 k).2.2.1 = some (ty0 k)) ∧ (∀ k, k < q.2.2 → defaultValue (ty0 k) = vp_V (df ci) k) ∧ ∀ v ∈ df ci, ∀ (ad : Nat → Nat) (sa : Nat), rV ad sa v = v) ∧
  (Cond.instanceMethod Lib.objectInit ∈ TB ∧ Cond.code Lib.objectInit ⟨#[0xb1]⟩ 1 none ∈ TB ∧ Cond.initialized "java/lang/Math" ∈ TB ∧ Cond.arrayClass .int ∈ TB ∧ Cond.arrayClass .long ∈ TB ∧ Cond.arrayClass .byte ∈ TB ∧ Cond.arrayClass .boolean ∈ TB)
section XG
variable (l : Launch) (TB NW : List Cond) (cl : List vw_C) (df : Nat → List Value) (al : Nat → Nat × Nat) (mR : Nat → XMeth)
/-- a method's contract at a world: from there it returns, with Q -/
def xXC (d k : Nat) (args : List Value) (w : XW) (Q : Option Value → XW → Prop) : Prop :=
  ∀ (dC : Nat → ClassId) (dI : Nat → Nat → Nat) (cid : Nat → ClassId) (ad : Nat → Nat) (sa sz : Nat), Met l (xY (mR k)) (xWs TB (mR k)) (xRoom (mR k) (d + 1))
    (va_Pc (args.map (rV ad sa)) (fun U => U.heap.size = sz ∧ va_P (dC, dI) cl (cw ad sa cid w) U.heap ∧ va_K (dC, dI) cl (xTys cid) U ∧ va_D (fun _ => True) (cw ad sa cid w) ∧ (∀ z ∈ NW, va_Nw z U) ∧ xStat sa (va_A (cw ad sa cid w) sz) U U.heap))
    (xQc ad w.length (xMC (mR k)) sa cid (dC, dI) cl (va_A (cw ad sa cid w) sz) Q) (xMC (mR k)) (xMS (mR k)) (va_A (cw ad sa cid w) sz)
def xcl (d k : Nat) (args : List Value) (w : XW) (Q : Option Value → XW → Prop) : Prop := match d with
  | 0 => False
  | d' + 1 => xXC l TB NW cl mR d' k args w Q
/-- what holds at every place of a method's run -/
def xFix (d k : Nat) (p : Program) (s : State) (m : MethodId) (args : Array Value) (meth : Method) (c : Code) (A : Nat → Prop) (D : va_G) (cid : Nat → ClassId) (sa : Nat) : Prop :=
  p.tables.exec = Jvm.exec ∧ c.code = xC (mR k) ∧ meth.sig.returnType = xRT (mR k) ∧ c.maxLocals = xML (mR k) ∧ s.vm.findClass (xY (mR k)).cls = some m.cls ∧ (∀ w ∈ xWs TB (mR k), w.before args s = true) ∧ meth.locks = false ∧ meth.name = (xY (mR k)).name ∧ (∀ z ∈ NW, va_Nw z s) ∧ va_K D cl (xTys cid) s ∧ (∀ q : Nat, s.heap.size ≤ q → A q) ∧ xStat sa A s s.heap
/-- the machine at a place of method k, with the world w: it comes to the end, with Ret -/
def xWG (d k : Nat) (Ret : Option Value → XW → Prop) (pc : Nat) (L : XLs) (st : List Value) (w : XW) (nc ns : Nat) : Prop :=
  ∀ (p : Program) (e : Env) (s : State) (m : MethodId) (args : Array Value) (below : List Frame) (meth : Method) (c : Code) (A : Nat → Prop) (D : va_G) (cid : Nat → ClassId) (ad0 : Nat → Nat) (n0 sa : Nat) (ad : Nat → Nat) (H : Heap) (locs : List Loc) (ls : Array Slot),
    xFix TB NW cl mR d k p s m args meth c A D cid sa → (∀ j : Nat, j < n0 → ad j = ad0 j) → (nc = 0 → ad = ad0) → n0 ≤ w.length →
    va_P D cl (cw ad sa cid w) H → va_D A (cw ad sa cid w) → va_S A s.heap H locs → xLv ad sa ls (xML (mR k)) L →
    W p l e (xRoom (mR k) (d + 1)) s m args below meth c H locs nc ns (MQ below (xQc ad0 n0 (xMC (mR k)) sa cid D cl A Ret) args s (xMC (mR k)) (xMS (mR k)) A) (F0 m pc ls (st.map (rV ad sa)))
end XG
