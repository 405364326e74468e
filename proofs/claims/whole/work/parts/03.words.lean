/-! ===== the interpreter's words: rows of a method, its pool, one step as a predicate transformer ===== -/
abbrev XLs : Type := List (Option Value)
abbrev XW : Type := List va_E
/-- instruction, its length, the next place, targets, which locals stay (none told: all), the constant -/
abbrev XRow : Type := Instr × Nat × Nat × List Nat × List Bool × Int32
/-- a pool entry: kind (0 field, 1 a nest mate's, 2 3 virtual, 4 5 static, 6 7 init, 8 Object's, 9 int, 10 long, 11 static long, 12 the static table, 13 max, 14 min, 15 min of longs, 16 arraycopy, 17 new), class or method, slot or arguments, tag or class, constant -/
abbrev XP : Type := Nat × Nat × Nat × Nat × Int64
def xat {α : Type} : List α → Nat → Option α
  | [], _ => none
  | a :: _, 0 => some a
  | _ :: r, n + 1 => xat r n
def xmask : List Bool → XLs → XLs
  | [], L => L
  | _ :: _, [] => []
  | b :: m, o :: r => (bif b then o else none) :: xmask m r
def xnl : Option Value → Option Value
  | some (.long _) => none
  | some (.double _) => none
  | o => o
def xst1 (v : Value) : Nat → XLs → XLs
  | _, [] => []
  | 0, _ :: r => some v :: r
  | 1, o :: r => xnl o :: xst1 v 0 r
  | i + 2, o :: r => o :: xst1 v (i + 1) r
def xst2 (v : Value) : Nat → XLs → XLs
  | _, [] => []
  | 0, _ :: [] => [none]
  | 0, _ :: _ :: r => some v :: none :: r
  | 1, o :: r => xnl o :: xst2 v 0 r
  | i + 2, o :: r => o :: xst2 v (i + 1) r
def xcat : List Value → Nat
  | [] => 0
  | v :: r => v.category + xcat r
def xI1 (st : List Value) (f : Int32 → List Value → Prop) : Prop := match st with
  | .int x :: r => f x r
  | _ => False
def xI2 (st : List Value) (f : Int32 → Int32 → List Value → Prop) : Prop := match st with
  | .int y :: .int x :: r => f x y r
  | _ => False
def xJ1 (st : List Value) (f : Int64 → List Value → Prop) : Prop := match st with
  | .long x :: r => f x r
  | _ => False
def xJ2 (st : List Value) (f : Int64 → Int64 → List Value → Prop) : Prop := match st with
  | .long y :: .long x :: r => f x y r
  | _ => False
def xJI (st : List Value) (f : Int64 → Int32 → List Value → Prop) : Prop := match st with
  | .int y :: .long x :: r => f x y r
  | _ => False
def xP1 (st : List Value) (f : Nat → List Value → Prop) : Prop := match st with
  | .ref p :: r => f p r
  | _ => False
def xIP (st : List Value) (f : Int32 → Nat → List Value → Prop) (g : Int32 → List Value → Prop) : Prop := match st with
  | .int i :: .ref p :: r => f i p r
  | .int i :: .retAddr _ :: r => g i r
  | _ => False
def xIIP (st : List Value) (f : Int32 → Int32 → Nat → List Value → Prop) : Prop := match st with
  | .int v :: .int i :: .ref p :: r => f v i p r
  | _ => False
def xJIP (st : List Value) (f : Int64 → Int32 → Nat → List Value → Prop) : Prop := match st with
  | .long v :: .int i :: .ref p :: r => f v i p r
  | _ => False
def xVP (st : List Value) (f : Value → Nat → List Value → Prop) : Prop := match st with
  | v :: .ref p :: r => f v p r
  | _ => False
def xV1 (st : List Value) (f : Value → List Value → Prop) : Prop := match st with
  | .int x :: r => f (.int x) r
  | .ref p :: r => f (.ref p) r
  | _ => False
def xV2 (st : List Value) (f : Value → Value → List Value → Prop) : Prop := match st with
  | .int x :: .ref p :: r => f (.int x) (.ref p) r
  | _ => False
def xOb (w : XW) (p : Nat) (f : Nat → List Value → Prop) : Prop := match xat w p with
  | some (.inr (ci, fs)) => f ci fs
  | _ => False
def xAr (w : XW) (p : Nat) (f : Nat → Nat → (Nat → Int32) → Prop) : Prop := match xat w p with
  | some (.inl (t, n, .inl g)) => f t n g
  | _ => False
def xAl (w : XW) (p : Nat) (f : Nat → Nat → (Nat → Int64) → Prop) : Prop := match xat w p with
  | some (.inl (t, n, .inr (.inl g))) => f t n g
  | _ => False
def xLn (w : XW) (p : Nat) (f : Nat → Nat → Prop) : Prop := match xat w p with
  | some (.inl (t, n, _)) => f t n
  | _ => False
def xlI (L : XLs) (i : Nat) (f : Int32 → Prop) : Prop := match xat L i with
  | some (some (.int x)) => f x
  | _ => False
def xlJ (L : XLs) (i : Nat) (f : Int64 → Prop) : Prop := match xat L i with
  | some (some (.long x)) => f x
  | _ => False
def xlP (L : XLs) (i : Nat) (f : Nat → Prop) : Prop := match xat L i with
  | some (some (.ref x)) => f x
  | _ => False
abbrev xin (i : Int32) (n : Nat) : Prop := 0 ≤ i.toInt ∧ i.toInt < (n : Int)
def xfv : Nat → Int32
  | 0 => 125
  | 1 => 25
  | 2 => 5
  | _ => 1
def xpo (o : Option XP) (k : Nat) (f : Nat → Nat → Nat → Int64 → Prop) : Prop := match o with
  | some (kd, a, b, c, z) => bif Nat.beq kd k then f a b c z else False
  | none => False
/-- of two kinds that stand side by side: the plain one and a nest mate's -/
def xpo2 (o : Option XP) (k : Nat) (f : Nat → Nat → Nat → Int64 → Prop) : Prop := match o with
  | some (kd, a, b, c, z) => bif Nat.beq kd k then f a b c z else bif Nat.beq kd (k + 1) then f a b c z else False
  | none => False
def xfit (ini : Bool) (tag : Nat) (v : Value) (K : Prop) : Prop := match tag, v with
  | 0, .int _ => K
  | 1, .long _ => K
  | 2, .int b => (b = 0 ∨ b = 1) ∧ K
  | 3, .ref _ => K
  | 3, .null => K
  | 7, .ref _ => bif ini then K else False
  | _, _ => False
def xsw (x lo : Int32) (X : Nat → Prop) (df : Nat) : List Nat → Prop
  | [] => X df
  | t :: r => if x = lo then X t else xsw x (lo + 1) X df r
def xty : ArrayType → Nat
  | .int => 0
  | .long => 1
  | .byte => 2
  | .boolean => 3
  | _ => 9
def xz : Nat → (Nat → Int32) ⊕ (Nat → Int64) ⊕ (Nat → UInt32) ⊕ (Nat → UInt64) ⊕ (Nat → Option Nat)
  | 1 => .inr (.inl (fun _ => 0))
  | _ => .inl (fun _ => 0)
def xret (ret : Option FieldType) (v : Int32) (K : Prop) : Prop := match ret with
  | some .int => K
  | some .boolean => (v = 0 ∨ v = 1) ∧ K
  | _ => False
def xt1 (tg : List Nat) (f : Nat → Prop) : Prop := match tg with
  | [t] => f t
  | _ => False
def xwv (n : Nat) : Value → Bool
  | .ref p => Nat.ble (p + 1) n
  | _ => true
def xws (n : Nat) : List Value → Bool
  | [] => true
  | v :: r => xwv n v && xws n r
def xwL (n : Nat) : XLs → Bool
  | [] => true
  | none :: r => xwL n r
  | some v :: r => xwv n v && xwL n r
def xww (n : Nat) : XW → Bool
  | [] => true
  | .inl _ :: r => xww n r
  | .inr o :: r => xws n o.2 && xww n r
section XF
variable (ml : Nat) (po : Nat → Option XP) (ret : Option FieldType) (ini : Bool) (mc ms : Nat) (df : Nat → List Value) (al : Nat → Nat × Nat) (call : Nat → List Value → XW → (Option Value → XW → Prop) → Prop) (Ret : Option Value → XW → Prop)
/-- one instruction: what must hold, and what must hold of the state behind it -/
def xF1 (X : Nat → XLs → List Value → XW → Nat → Nat → Prop) (i : Instr) (nx : Nat) (tg : List Nat) (cv : Int32) (L : XLs) (st : List Value) (w : XW) (nc ns : Nat) : Prop := match i with
  | .iconst _ => X nx L (.int cv :: st) w nc ns
  | .bipush _ => X nx L (.int cv :: st) w nc ns
  | .sipush _ => X nx L (.int cv :: st) w nc ns
  | .ldc ix => xpo (po ix) 9 fun _ _ _ _ => X nx L (.int cv :: st) w nc ns
  | .ldc_w ix => xpo (po ix) 9 fun _ _ _ _ => X nx L (.int cv :: st) w nc ns
  | .ldc2_w ix => xpo (po ix) 10 fun _ _ _ z => X nx L (.long z :: st) w nc ns
  | .lconst n => X nx L (.long (bif Nat.beq n.val 0 then 0 else 1) :: st) w nc ns
  | .iload j => xlI L j fun x => X nx L (.int x :: st) w nc ns
  | .iload_n j => xlI L j.val fun x => X nx L (.int x :: st) w nc ns
  | .lload j => xlJ L j fun x => X nx L (.long x :: st) w nc ns
  | .lload_n j => xlJ L j.val fun x => X nx L (.long x :: st) w nc ns
  | .aload j => xlP L j fun x => X nx L (.ref x :: st) w nc ns
  | .aload_n j => xlP L j.val fun x => X nx L (.ref x :: st) w nc ns
  | .istore j => bif Nat.ble (j + 1) ml then xI1 st fun x r => X nx (xst1 (.int x) j L) r w nc ns else False
  | .istore_n j => bif Nat.ble (j.val + 1) ml then xI1 st fun x r => X nx (xst1 (.int x) j.val L) r w nc ns else False
  | .lstore j => bif Nat.ble (j + 2) ml then xJ1 st fun x r => X nx (xst2 (.long x) j L) r w nc ns else False
  | .lstore_n j => bif Nat.ble (j.val + 2) ml then xJ1 st fun x r => X nx (xst2 (.long x) j.val L) r w nc ns else False
  | .astore j => bif Nat.ble (j + 1) ml then xP1 st fun x r => X nx (xst1 (.ref x) j L) r w nc ns else False
  | .astore_n j => bif Nat.ble (j.val + 1) ml then xP1 st fun x r => X nx (xst1 (.ref x) j.val L) r w nc ns else False
  | .iinc j _ => bif Nat.ble (j + 1) ml then xlI L j fun x => X nx (xst1 (.int (x + cv)) j L) st w nc ns else False
  | .iadd => xI2 st fun x y r => X nx L (.int (x + y) :: r) w nc ns
  | .isub => xI2 st fun x y r => X nx L (.int (x - y) :: r) w nc ns
  | .imul => xI2 st fun x y r => X nx L (.int (x * y) :: r) w nc ns
  | .iand => xI2 st fun x y r => X nx L (.int (x &&& y) :: r) w nc ns
  | .ior => xI2 st fun x y r => X nx L (.int (x ||| y) :: r) w nc ns
  | .ixor => xI2 st fun x y r => X nx L (.int (x ^^^ y) :: r) w nc ns
  | .idiv => xI2 st fun x y r => ¬ y = 0 ∧ X nx L (.int (x / y) :: r) w nc ns
  | .irem => xI2 st fun x y r => ¬ y = 0 ∧ X nx L (.int (x - x / y * y) :: r) w nc ns
  | .ishl => xI2 st fun x y r => X nx L (.int (x <<< (y &&& 31)) :: r) w nc ns
  | .ishr => xI2 st fun x y r => X nx L (.int (x >>> (y &&& 31)) :: r) w nc ns
  | .iushr => xI2 st fun x y r => X nx L (.int ((x.toUInt32 >>> (y.toUInt32 &&& Int32.toUInt32 31)).toInt32) :: r) w nc ns
  | .ladd => xJ2 st fun x y r => X nx L (.long (x + y) :: r) w nc ns
  | .lsub => xJ2 st fun x y r => X nx L (.long (x - y) :: r) w nc ns
  | .lmul => xJ2 st fun x y r => X nx L (.long (x * y) :: r) w nc ns
  | .land => xJ2 st fun x y r => X nx L (.long (x &&& y) :: r) w nc ns
  | .ldiv => xJ2 st fun x y r => ¬ y = 0 ∧ X nx L (.long (x / y) :: r) w nc ns
  | .lrem => xJ2 st fun x y r => ¬ y = 0 ∧ X nx L (.long (x - x / y * y) :: r) w nc ns
  | .lshl => xJI st fun x y r => X nx L (.long (x <<< (y.toInt64 &&& 63)) :: r) w nc ns
  | .lshr => xJI st fun x y r => X nx L (.long (x >>> (y.toInt64 &&& 63)) :: r) w nc ns
  | .lcmp => xJ2 st fun x y r => X nx L (.int (lg_cmp x y) :: r) w nc ns
  | .i2l => xI1 st fun x r => X nx L (.long x.toInt64 :: r) w nc ns
  | .l2i => xJ1 st fun x r => X nx L (.int x.toInt32 :: r) w nc ns
  | .i2b => xI1 st fun x r => X nx L (.int x.toInt8.toInt32 :: r) w nc ns
  | .dup => xV1 st fun v r => X nx L (v :: v :: r) w nc ns
  | .dup2 => xV2 st fun u v r => X nx L (u :: v :: u :: v :: r) w nc ns
  | .pop => xV1 st fun _ r => X nx L r w nc ns
  | .goto _ => xt1 tg fun t => X t L st w nc ns
  | .ifCond .eq _ => xt1 tg fun t => xI1 st fun x r => if x = 0 then X t L r w nc ns else X nx L r w nc ns
  | .ifCond .ne _ => xt1 tg fun t => xI1 st fun x r => if x = 0 then X nx L r w nc ns else X t L r w nc ns
  | .ifCond .lt _ => xt1 tg fun t => xI1 st fun x r => if x < 0 then X t L r w nc ns else X nx L r w nc ns
  | .ifCond .ge _ => xt1 tg fun t => xI1 st fun x r => if 0 ≤ x then X t L r w nc ns else X nx L r w nc ns
  | .ifCond .gt _ => xt1 tg fun t => xI1 st fun x r => if 0 < x then X t L r w nc ns else X nx L r w nc ns
  | .ifCond .le _ => xt1 tg fun t => xI1 st fun x r => if x ≤ 0 then X t L r w nc ns else X nx L r w nc ns
  | .if_icmp .eq _ => xt1 tg fun t => xI2 st fun x y r => if x = y then X t L r w nc ns else X nx L r w nc ns
  | .if_icmp .ne _ => xt1 tg fun t => xI2 st fun x y r => if x = y then X nx L r w nc ns else X t L r w nc ns
  | .if_icmp .lt _ => xt1 tg fun t => xI2 st fun x y r => if x < y then X t L r w nc ns else X nx L r w nc ns
  | .if_icmp .ge _ => xt1 tg fun t => xI2 st fun x y r => if y ≤ x then X t L r w nc ns else X nx L r w nc ns
  | .if_icmp .gt _ => xt1 tg fun t => xI2 st fun x y r => if y < x then X t L r w nc ns else X nx L r w nc ns
  | .if_icmp .le _ => xt1 tg fun t => xI2 st fun x y r => if x ≤ y then X t L r w nc ns else X nx L r w nc ns
  | .getfield ix => xpo2 (po ix) 0 fun ci k _ _ => xP1 st fun p r => xOb w p fun c fs => bif Nat.beq c ci then (match xat fs k with | some v => X nx L (v :: r) w nc ns | none => False) else False
  | .putfield ix => xpo2 (po ix) 0 fun ci k tag _ => xVP st fun v p r => xOb w p fun c fs => bif Nat.beq c ci then (match xat fs k with | some _ => xfit ini tag v (X nx L r (w.set p (.inr (c, fs.set k v))) nc ns) | none => False) else False
  | .getstatic ix => match po ix with
    | some (11, _, _, _, z) => X nx L (.long z :: st) w nc ns
    | some (12, _, _, _, _) => X nx L (.retAddr 0 :: st) w nc ns
    | _ => False
  | .iaload => xIP st (fun i p r => xAr w p fun t n g => bif Nat.beq t 0 then xin i n ∧ X nx L (.int (g i.toNatClampNeg) :: r) w nc ns else False) (fun i r => xin i 4 ∧ X nx L (.int (xfv i.toNatClampNeg) :: r) w nc ns)
  | .baload => xIP st (fun i p r => xAr w p fun t n g => bif Nat.beq t 2 then xin i n ∧ X nx L (.int (g i.toNatClampNeg) :: r) w nc ns else bif Nat.beq t 3 then xin i n ∧ X nx L (.int (g i.toNatClampNeg) :: r) w nc ns else False) (fun _ _ => False)
  | .laload => xIP st (fun i p r => xAl w p fun t n g => bif Nat.beq t 1 then xin i n ∧ X nx L (.long (g i.toNatClampNeg) :: r) w nc ns else False) (fun _ _ => False)
  | .iastore => xIIP st fun v i p r => xAr w p fun t n g => bif Nat.beq t 0 then xin i n ∧ X nx L r (w.set p (.inl (t, n, .inl (upd g i.toNatClampNeg v)))) nc ns else False
  | .bastore => xIIP st fun v i p r => xAr w p fun t n g => bif Nat.beq t 2 then xin i n ∧ X nx L r (w.set p (.inl (t, n, .inl (upd g i.toNatClampNeg (vp_nar .byte v))))) nc ns else bif Nat.beq t 3 then xin i n ∧ X nx L r (w.set p (.inl (t, n, .inl (upd g i.toNatClampNeg (vp_nar .boolean v))))) nc ns else False
  | .lastore => xJIP st fun v i p r => xAl w p fun t n g => bif Nat.beq t 1 then xin i n ∧ X nx L r (w.set p (.inl (t, n, .inr (.inl (vp_updL g i.toNatClampNeg v))))) nc ns else False
  | .arraylength => xP1 st fun p r => xLn w p fun t n => bif Nat.ble t 3 then X nx L (.int (Int32.ofNat n) :: r) w nc ns else False
  | .newarray a => xt1 tg fun n => xI1 st fun x r => bif Nat.ble (xty a) 3 && Nat.ble n 60000000 && Nat.ble (nc + 1) mc && Nat.ble (ns + n) ms && xwL w.length L && xws w.length r && xww w.length w then x = Int32.ofNat n ∧ X nx L (.ref w.length :: r) (w ++ [.inl (xty a, n, xz (xty a))]) (nc + 1) (ns + n) else False
  | .new ix => xpo (po ix) 17 fun ci n _ _ => bif Nat.ble (nc + 1) mc && Nat.ble (ns + n) ms && xwL w.length L && xws w.length st && xww w.length w then X nx L (.ref w.length :: st) (w ++ [.inr (ci, df ci)]) (nc + 1) (ns + n) else False
  | .invokevirtual ix => xpo2 (po ix) 2 fun k n ci _ => match st.drop n with
    | .ref p :: r => xOb w p fun c _ => bif Nat.beq c ci && Nat.ble (xcat r) 8 && Nat.ble (nc + (al k).1) mc && Nat.ble (ns + (al k).2) ms && (Nat.beq (al k).1 0 || (xwL w.length L && xws w.length r)) then call k (.ref p :: (st.take n).reverse) w (fun v w' => X nx L (v.toList ++ r) w' (nc + (al k).1) (ns + (al k).2)) else False
    | _ => False
  | .invokestatic ix => match po ix with
    | some (4, k, n, _, _) => bif Nat.ble n st.length && Nat.ble (xcat (st.drop n)) 8 && Nat.ble (nc + (al k).1) mc && Nat.ble (ns + (al k).2) ms && (Nat.beq (al k).1 0 || (xwL w.length L && xws w.length (st.drop n))) then call k (st.take n).reverse w (fun v w' => X nx L (v.toList ++ st.drop n) w' (nc + (al k).1) (ns + (al k).2)) else False
    | some (5, k, n, _, _) => bif Nat.ble n st.length && Nat.ble (xcat (st.drop n)) 8 && Nat.ble (nc + (al k).1) mc && Nat.ble (ns + (al k).2) ms && (Nat.beq (al k).1 0 || (xwL w.length L && xws w.length (st.drop n))) then call k (st.take n).reverse w (fun v w' => X nx L (v.toList ++ st.drop n) w' (nc + (al k).1) (ns + (al k).2)) else False
    | some (13, _, _, _, _) => xI2 st fun x y r => bif Nat.ble (xcat r) 8 && Nat.ble nc mc && Nat.ble ns ms then X nx L (.int (if x < y then y else x) :: r) w nc ns else False
    | some (14, _, _, _, _) => xI2 st fun x y r => bif Nat.ble (xcat r) 8 && Nat.ble nc mc && Nat.ble ns ms then X nx L (.int (if y < x then y else x) :: r) w nc ns else False
    | some (15, _, _, _, _) => xJ2 st fun x y r => bif Nat.ble (xcat r) 8 && Nat.ble nc mc && Nat.ble ns ms then X nx L (.long (if y < x then y else x) :: r) w nc ns else False
    | some (16, _, _, _, _) => match st with
      | .int n :: .int dp :: .ref q :: .int sp :: .ref p :: r => bif Nat.ble (xcat r) 8 then xAl w p fun t n0 f => xAl w q fun t1 n1 g => bif Nat.beq t 1 && Nat.beq t1 1 then (0 ≤ sp.toInt ∧ 0 ≤ dp.toInt ∧ 0 ≤ n.toInt ∧ sp.toInt + n.toInt ≤ (n0 : Int) ∧ dp.toInt + n.toInt ≤ (n1 : Int)) ∧ X nx L r (w.set q (.inl (t1, n1, .inr (.inl (va_cpy f g sp.toNatClampNeg dp.toNatClampNeg n.toNatClampNeg))))) nc ns else False else False
      | _ => False
    | _ => False
  | .invokespecial ix => match po ix with
    | some (6, k, n, _, _) => (match st.drop n with
      | .ref p :: r => bif Nat.ble (xcat r) 8 && Nat.ble (nc + (al k).1) mc && Nat.ble (ns + (al k).2) ms && (Nat.beq (al k).1 0 || (xwL w.length L && xws w.length r)) then call k (.ref p :: (st.take n).reverse) w (fun v w' => X nx L (v.toList ++ r) w' (nc + (al k).1) (ns + (al k).2)) else False
      | _ => False)
    | some (7, k, n, _, _) => (match st.drop n with
      | .ref p :: r => bif Nat.ble (xcat r) 8 && Nat.ble (nc + (al k).1) mc && Nat.ble (ns + (al k).2) ms && (Nat.beq (al k).1 0 || (xwL w.length L && xws w.length r)) then call k (.ref p :: (st.take n).reverse) w (fun v w' => X nx L (v.toList ++ r) w' (nc + (al k).1) (ns + (al k).2)) else False
      | _ => False)
    | some (8, _, _, _, _) => xP1 st fun _ r => bif Nat.ble (xcat r) 8 then X nx L r w nc ns else False
    | _ => False
  | .tableswitch _ lo _ _ => xI1 st fun x r => match tg with
    | d :: ts => xsw x (Int32.ofInt lo) (fun t => X t L r w nc ns) d ts
    | [] => False
  | .ireturn => match st with
    | [.int v] => bif Nat.ble nc mc && Nat.ble ns ms then xret ret v (Ret (some (.int v)) w) else False
    | _ => False
  | .lreturn => match ret, st with
    | some .long, [.long v] => bif Nat.ble nc mc && Nat.ble ns ms then Ret (some (.long v)) w else False
    | _, _ => False
  | .return_ => match ret, st with
    | none, [] => bif Nat.ble nc mc && Nat.ble ns ms then Ret none w else False
    | _, _ => False
  | _ => False
variable (fe : Nat → Option XRow)
def xF (X : Nat → XLs → List Value → XW → Nat → Nat → Prop) (pc : Nat) (L : XLs) (st : List Value) (w : XW) (nc ns : Nat) : Prop := match fe pc with
  | none => False
  | some (i, _, nx, tg, mq, cv) => xF1 ml po ret ini mc ms df al call Ret X i nx tg cv (xmask mq L) st w nc ns
def xmk (pc : Nat) : List Bool := match fe pc with
  | some (_, _, _, _, mq, _) => mq
  | none => []
def xmem (pc : Nat) : List Nat → Bool
  | [] => false
  | a :: r => bif Nat.beq a pc then true else xmem pc r
/-- n steps at most, up to a place where it is to stop -/
def xrun (stops : List Nat) (X : Nat → XLs → List Value → XW → Nat → Nat → Prop) : Nat → Nat → XLs → List Value → XW → Nat → Nat → Prop
  | 0 => fun _ _ _ _ _ _ => False
  | n + 1 => fun pc L st w nc ns => bif xmem pc stops then X pc (xmask (xmk fe pc) L) st w nc ns else xF ml po ret ini mc ms df al call Ret fe (xrun stops X n) pc L st w nc ns
end XF
