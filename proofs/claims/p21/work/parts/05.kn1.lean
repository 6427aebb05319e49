/-! ===== AN INTERPRETER OF THE BYTECODE (own): states are lists; what it computes the machine does (the parts behind) ===== -/
/-- a cell: an object (its class's place in vwCl, its fields), an array of ints of some width (its type's tag, what it holds), an array of references -/
abbrev kE : Type := (Nat × List Value) ⊕ ((Nat × List Int32) ⊕ (Nat × List (Option Nat)))
abbrev kM : Type := List kE
abbrev kL : Type := List (Nat × Value)
/-- what a method ends with: an answer, or a class of exceptions -/
abbrev kO : Type := Option Value ⊕ Nat
/-- the next state, or an end, or a call: (method, arguments, the stack behind, the instruction's length) -/
abbrev kR : Type := (Nat × kL × List Value × kM) ⊕ ((kO × kM) ⊕ (Nat × List Value × List Value × Nat))
abbrev kI : Type := Instr × Nat × Nat
/-- addresses below 1000 are cells that were there before; the k-th new cell is 1000 + k -/
def kLook (xm : Nat → Option kE) (mem : kM) (r : Nat) : Option kE := if r < 1000 then xm r else mem[r - 1000]?
/-- two references that are not the same: one is a new cell, and the other is not the class object (cell 2) -/
def kNm (x y : Option Nat) : Bool := (x.all (fun r => 1000 ≤ r) && y.all (fun r => r != 2)) || (y.all (fun r => 1000 ≤ r) && x.all (fun r => r != 2))
def kNew (mem : kM) : Nat := 1000 + mem.length
def kLv (lv : kL) (i : Nat) : Option Value := (lv.find? (fun q => q.1 == i)).map (fun q => q.2)
def kPut1 (lv : kL) (i : Nat) (v : Value) : kL := (i, v) :: lv.filter (fun q => !(q.1 == i) && !(q.1 + 1 == i && q.2.category == 2))
def kPut2 (lv : kL) (i : Nat) (v : Value) : kL := (i, v) :: lv.filter (fun q => !(q.1 == i) && (!(q.1 == i + 1) && !(q.1 + 1 == i && q.2.category == 2)))
def kNx (pc : Nat) (lv : kL) (st : List Value) (mem : kM) : Option kR := some (.inl (pc, lv, st, mem))
def kTopI (st : List Value) (k : Int32 → List Value → Option kR) : Option kR := match st with
  | .int x :: r => k x r
  | _ => none
def kTopJ (st : List Value) (k : Int64 → List Value → Option kR) : Option kR := match st with
  | .long x :: r => k x r
  | _ => none
def kTopF (st : List Value) (k : UInt32 → List Value → Option kR) : Option kR := match st with
  | .float x :: r => k x r
  | _ => none
def kTopD (st : List Value) (k : UInt64 → List Value → Option kR) : Option kR := match st with
  | .double x :: r => k x r
  | _ => none
def kTopA (st : List Value) (k : Nat → List Value → Option kR) : Option kR := match st with
  | .ref x :: r => k x r
  | _ => none
/-- a reference or null -/
def kTopQ (st : List Value) (k : Option Nat → List Value → Option kR) : Option kR := match st with
  | .ref x :: r => k (some x) r
  | .null :: r => k none r
  | _ => none
def kRf (r : Option Nat) : Value := match r with
  | none => .null
  | some a => .ref a
def kTop1 (st : List Value) (k : Value → List Value → Option kR) : Option kR := match st with
  | v :: r => if v.category == 1 then k v r else none
  | _ => none
def kIf (c : Jvm.ClassFile.Cond) (x y : Int32) : Bool := match c with
  | .eq => x == y
  | .ne => !(x == y)
  | .lt => decide (x < y)
  | .ge => !decide (x < y)
  | .gt => decide (y < x)
  | .le => !decide (y < x)
def kFin32 (r : UInt32) : Bool := decide (r &&& 0x7fffffff ≤ 0x7f800000)
def kFin64 (r : UInt64) : Bool := decide (r &&& 0x7fffffffffffffff ≤ 0x7ff0000000000000)
/-- what may be stored in a field of a type as it is -/
def kFits (ty : FieldType) (v : Value) : Bool := match ty, v with
  | .int, .int _ => true
  | .long, .long _ => true
  | .object _, .null => true
  | .object _, .ref _ => true
  | .array _, .null => true
  | .array _, .ref _ => true
  | ty, .int x => Jvm.fits ty (.int x) && decide (Jvm.narrow ty (.int x) = .int x)
  | _, _ => false
def kTag : ArrayType → Option Nat
  | .int => some 0
  | .byte => some 1
  | _ => none
def kRetI (rt : Option FieldType) (x : Int32) : Bool := match rt with
  | some .int => true
  | some ty => decide (Jvm.narrow ty (.int x) = .int x)
  | none => false
def kUnI (st : List Value) (pc : Nat) (lv : kL) (mem : kM) (f : Int32 → Value) : Option kR := kTopI st fun x st => kNx (pc + 1) lv (f x :: st) mem
def kBinI (st : List Value) (pc : Nat) (lv : kL) (mem : kM) (f : Int32 → Int32 → Option Value) : Option kR := kTopI st fun y st => kTopI st fun x st => match f x y with
  | some v => kNx (pc + 1) lv (v :: st) mem
  | none => none
def kLoad (lv : kL) (i : Nat) (pc' : Nat) (st : List Value) (mem : kM) (ok : Value → Bool) : Option kR := match kLv lv i with
  | some v => if ok v then kNx pc' lv (v :: st) mem else none
  | none => none
def kIsI (v : Value) : Bool := match v with
  | .int _ => true
  | _ => false
def kIsJ (v : Value) : Bool := match v with
  | .long _ => true
  | _ => false
def kIsF (v : Value) : Bool := match v with
  | .float _ => true
  | _ => false
def kIsD (v : Value) : Bool := match v with
  | .double _ => true
  | _ => false
def kIsA (v : Value) : Bool := match v with
  | .ref _ => true
  | .null => true
  | _ => false
/-- the number of locals of the method bounds where one may be stored -/
def kSto1 (nL : Nat) (lv : kL) (i : Nat) (pc' : Nat) (st : List Value) (mem : kM) (ok : Value → Bool) : Option kR := match st with
  | v :: st => if ok v && decide (i < nL) then kNx pc' (kPut1 lv i v) st mem else none
  | _ => none
def kSto2 (nL : Nat) (lv : kL) (i : Nat) (pc' : Nat) (st : List Value) (mem : kM) (ok : Value → Bool) : Option kR := match st with
  | v :: st => if ok v && decide (i + 1 < nL) then kNx pc' (kPut2 lv i v) st mem else none
  | _ => none
def kInB (j : Int32) (n : Nat) : Bool := !decide (j < 0) && decide (j.toNatClampNeg < n)
/-- may a reference be put into an array of that tag (2: of Object, 3: of Work) -/
def kStOk (xm : Nat → Option kE) (mem : kM) (t : Nat) (v : Option Nat) : Bool := match v with
  | none => true
  | some r => match kLook xm mem r with
    | some (.inl (ci, _)) => decide (ci < 1000) && (t == 2 || (t == 3 && ci == 10))
    | some (.inr (.inl (0, _))) => decide (1000 ≤ r) && t == 2
    | _ => false
def kCpy {α : Type} (xs ys : List α) (sp dp n : Nat) : List α := ys.take dp ++ ((xs.drop sp).take n ++ ys.drop (dp + n))
def kOkR (sp dp n : Int32) (l0 l1 : Nat) : Bool := !decide (sp < 0) && !decide (dp < 0) && !decide (n < 0) && decide (sp.toNatClampNeg + n.toNatClampNeg ≤ l0) && decide (dp.toNatClampNeg + n.toNatClampNeg ≤ l1)
def kSpec (xm : Nat → Option kE) (k : Nat) (pc : Nat) (lv : kL) (st : List Value) (mem : kM) : Option kR := match k with
  | 9000 => kTopA st fun _ st => kNx (pc + 3) lv st mem
  | 9001 => match st with
    | .int n :: .int dp :: .ref d :: .int sp :: .ref s :: st => match kLook xm mem s, kLook xm mem d with
      | some (.inr (.inl (t0, xs))), some (.inr (.inl (t1, ys))) =>
        if t0 == t1 && (t0 == 0 || t0 == 1) && decide (1000 ≤ s) && decide (1000 ≤ d) && kOkR sp dp n xs.length ys.length && (t0 == 0 || ((xs.drop sp.toNatClampNeg).take n.toNatClampNeg).all (fun x => fits .byte (.int x))) then
          kNx (pc + 3) lv st (mem.set (d - 1000) (.inr (.inl (t1, kCpy xs ys sp.toNatClampNeg dp.toNatClampNeg n.toNatClampNeg)))) else none
      | some (.inr (.inr (t0, xs))), some (.inr (.inr (t1, ys))) =>
        if (t0 == 2 || t0 == 3) && (t1 == 2 || t1 == 3) && (decide (1000 ≤ s) || n == 0) && decide (1000 ≤ d) && kOkR sp dp n xs.length ys.length && ((xs.drop sp.toNatClampNeg).take n.toNatClampNeg).all (fun x => kStOk xm mem t1 x) then
          kNx (pc + 3) lv st (mem.set (d - 1000) (.inr (.inr (t1, kCpy xs ys sp.toNatClampNeg dp.toNatClampNeg n.toNatClampNeg)))) else none
      | _, _ => none
    | _ => none
  | 9002 => kTopA st fun a st => match kLook xm mem a with
    | some (.inr (.inl (0, xs))) => if 1000 ≤ a then kNx (pc + 3) lv (.ref (kNew mem) :: st) (mem ++ [.inr (.inl (0, xs))]) else none
    | _ => none
  | 9004 => kTopA st fun a st => match kLook xm mem a with
    | some (.inr (.inl (1, xs))) => if decide (1000 ≤ a) && xs.all (fun x => fits .byte (.int x)) then kNx (pc + 3) lv (.ref (kNew mem) :: st) (mem ++ [.inr (.inl (1, xs))]) else none
    | _ => none
  | 9003 => kTopA st fun a st => match kLook xm mem a with
    | some (.inr (.inr (2, _))) => kNx (pc + 3) lv (.ref 2 :: st) mem
    | _ => none
  | _ => none
/-- what is asked of the receiver: 0 there is none, 50 any object, ci + 1 one of that class -/
def kRcOk (xm : Nat → Option kE) (mem : kM) (rc : Nat) (args : List Value) : Bool := match args with
  | .ref r :: _ => rc == 0 || rc == 50 || (match kLook xm mem r with
    | some (.inl (ci, _)) => ci + 1 == rc && decide (ci < 1000)
    | _ => false)
  | _ => rc == 0
/-- a call: method k, b = its arguments' number (the receiver among them) + 100 * what is asked of the receiver, the instruction's length len -/
def kCall (xm : Nat → Option kE) (k b len : Nat) (pc : Nat) (lv : kL) (st : List Value) (mem : kM) : Option kR :=
  if 9000 ≤ k then (if ((st.map fun v => v.category).sum ≤ 100) then kSpec xm k pc lv st mem else none) else
  if b % 100 ≤ st.length && decide (((st.drop (b % 100)).map fun v => v.category).sum ≤ 8) && kRcOk xm mem (b / 100) (st.take (b % 100)).reverse then some (.inr (.inr (k, (st.take (b % 100)).reverse, st.drop (b % 100), len))) else none
/-- one instruction; dfl: the fields with which an object of a class begins; fty: a field's type -/
def kStep (xm : Nat → Option kE) (sm : Nat → Option Value) (dfl : Nat → Option (List Value)) (fty : Nat → Nat → FieldType) (nL : Nat) (rt : Option FieldType) (ins : Instr) (a b : Nat) (pc : Nat) (lv : kL) (st : List Value) (mem : kM) : Option kR :=
  match ins with
  | .iconst n => kNx (pc + 1) lv (.int (Int32.ofInt n) :: st) mem
  | .bipush n => kNx (pc + 2) lv (.int (Int8.ofInt n).toInt32 :: st) mem
  | .sipush n => kNx (pc + 3) lv (.int (Int16.ofInt n).toInt32 :: st) mem
  | .aconst_null => kNx (pc + 1) lv (.null :: st) mem
  | .ldc _ => match a with
    | 0 => kNx (pc + 2) lv (.int (Int32.ofNat b) :: st) mem
    | 1 => kNx (pc + 2) lv (.float (UInt32.ofNat b) :: st) mem
    | 2 => kNx (pc + 2) lv (.ref 2 :: st) mem
    | _ => none
  | .ldc_w _ => match a with
    | 0 => kNx (pc + 3) lv (.int (Int32.ofNat b) :: st) mem
    | 1 => kNx (pc + 3) lv (.float (UInt32.ofNat b) :: st) mem
    | _ => none
  | .ldc2_w _ => match a with
    | 0 => kNx (pc + 3) lv (.long (Int64.ofNat b) :: st) mem
    | 1 => kNx (pc + 3) lv (.double (UInt64.ofNat b) :: st) mem
    | _ => none
  | .iload_n k => kLoad lv k (pc + 1) st mem kIsI
  | .iload i => kLoad lv i (pc + 2) st mem kIsI
  | .lload_n k => kLoad lv k (pc + 1) st mem kIsJ
  | .lload i => kLoad lv i (pc + 2) st mem kIsJ
  | .fload_n k => kLoad lv k (pc + 1) st mem kIsF
  | .dload_n k => kLoad lv k (pc + 1) st mem kIsD
  | .dload i => kLoad lv i (pc + 2) st mem kIsD
  | .aload_n k => kLoad lv k (pc + 1) st mem kIsA
  | .aload i => kLoad lv i (pc + 2) st mem kIsA
  | .istore_n k => kSto1 nL lv k (pc + 1) st mem kIsI
  | .istore i => kSto1 nL lv i (pc + 2) st mem kIsI
  | .fstore_n k => kSto1 nL lv k (pc + 1) st mem kIsF
  | .astore_n k => kSto1 nL lv k (pc + 1) st mem kIsA
  | .astore i => kSto1 nL lv i (pc + 2) st mem kIsA
  | .lstore_n k => kSto2 nL lv k (pc + 1) st mem kIsJ
  | .lstore i => kSto2 nL lv i (pc + 2) st mem kIsJ
  | .dstore i => kSto2 nL lv i (pc + 2) st mem kIsD
  | .iinc i n => match kLv lv i with
    | some (.int x) => if i < nL then kNx (pc + 3) (kPut1 lv i (.int (x + Int32.ofInt n))) st mem else none
    | _ => none
  | .iadd => kBinI st pc lv mem fun x y => some (.int (x + y))
  | .isub => kBinI st pc lv mem fun x y => some (.int (x - y))
  | .imul => kBinI st pc lv mem fun x y => some (.int (x * y))
  | .iand => kBinI st pc lv mem fun x y => some (.int (x &&& y))
  | .ior => kBinI st pc lv mem fun x y => some (.int (x ||| y))
  | .ixor => kBinI st pc lv mem fun x y => some (.int (x ^^^ y))
  | .ishl => kBinI st pc lv mem fun x y => some (.int (x <<< (y &&& 31)))
  | .ishr => kBinI st pc lv mem fun x y => some (.int (x >>> (y &&& 31)))
  | .idiv => kBinI st pc lv mem fun x y => if y == 0 then none else some (.int (x / y))
  | .irem => kBinI st pc lv mem fun x y => if y == 0 then none else some (.int (x - x / y * y))
  | .ineg => kUnI st pc lv mem fun x => .int (-x)
  | .i2l => kUnI st pc lv mem fun x => .long x.toInt64
  | .i2b => kUnI st pc lv mem fun x => .int x.toInt8.toInt32
  | .i2c => kUnI st pc lv mem fun x => .int (x.toUInt32 % 65536).toInt32
  | .i2f => kUnI st pc lv mem fun x => .float (FP.i2f x)
  | .i2d => kUnI st pc lv mem fun x => .double (FP.i2d x)
  | .ladd => kTopJ st fun y st => kTopJ st fun x st => kNx (pc + 1) lv (.long (x + y) :: st) mem
  | .lmul => kTopJ st fun y st => kTopJ st fun x st => kNx (pc + 1) lv (.long (x * y) :: st) mem
  | .lcmp => kTopJ st fun y st => kTopJ st fun x st => kNx (pc + 1) lv (.int (lg_cmp x y) :: st) mem
  | .fmul => kTopF st fun y st => kTopF st fun x st => if kFin32 (FP.fmul x y) then kNx (pc + 1) lv (.float (FP.fmul x y) :: st) mem else none
  | .fsub => kTopF st fun y st => kTopF st fun x st => if kFin32 (FP.fsub x y) then kNx (pc + 1) lv (.float (FP.fsub x y) :: st) mem else none
  | .f2l => kTopF st fun x st => kNx (pc + 1) lv (.long (FP.f2l x) :: st) mem
  | .f2d => kTopF st fun x st => if kFin64 (FP.f2d x) then kNx (pc + 1) lv (.double (FP.f2d x) :: st) mem else none
  | .ddiv => kTopD st fun y st => kTopD st fun x st => if kFin64 (FP.ddiv x y) then kNx (pc + 1) lv (.double (FP.ddiv x y) :: st) mem else none
  | .dmul => kTopD st fun y st => kTopD st fun x st => if kFin64 (FP.dmul x y) then kNx (pc + 1) lv (.double (FP.dmul x y) :: st) mem else none
  | .dsub => kTopD st fun y st => kTopD st fun x st => if kFin64 (FP.dsub x y) then kNx (pc + 1) lv (.double (FP.dsub x y) :: st) mem else none
  | .dcmp op => kTopD st fun y st => kTopD st fun x st => kNx (pc + 1) lv (.int (Op.cmpValue (FP.dcmp x y) op) :: st) mem
  | .dup => kTop1 st fun v st => kNx (pc + 1) lv (v :: v :: st) mem
  | .pop => kTop1 st fun _ st => kNx (pc + 1) lv st mem
  | .pop2 => match st with
    | .long _ :: st => kNx (pc + 1) lv st mem
    | .double _ :: st => kNx (pc + 1) lv st mem
    | _ => none
  | .dup_x1 => kTop1 st fun v st => kTop1 st fun w st => kNx (pc + 1) lv (v :: w :: v :: st) mem
  | .dup2 => kTop1 st fun v st => kTop1 st fun w st => kNx (pc + 1) lv (v :: w :: v :: w :: st) mem
  | .goto _ => kNx a lv st mem
  | .ifCond c _ => kTopI st fun x st => kNx (if kIf c x 0 then a else pc + 3) lv st mem
  | .if_icmp c _ => kTopI st fun y st => kTopI st fun x st => kNx (if kIf c x y then a else pc + 3) lv st mem
  | .ifnull _ => kTopQ st fun q st => kNx (if q.isNone then a else pc + 3) lv st mem
  | .ifnonnull _ => kTopQ st fun q st => kNx (if q.isNone then pc + 3 else a) lv st mem
  | .if_acmp c _ => kTopQ st fun y st => kTopQ st fun x st =>
    if x == y then kNx (match c with | .eq => a | .ne => pc + 3) lv st mem
    else if kNm x y then kNx (match c with | .eq => pc + 3 | .ne => a) lv st mem else none
  | .tableswitch d lo hi offs => kTopI st fun x st =>
    if x.toInt < lo || hi < x.toInt then kNx ((pc : Int) + d).toNat lv st mem else match offs[(x.toInt - lo).toNat]? with
    | some o => kNx ((pc : Int) + o).toNat lv st mem
    | none => none
  | .getstatic _ => match sm a with
    | some v => kNx (pc + 3) lv (v :: st) mem
    | none => none
  | .getfield _ => kTopA st fun r st => match kLook xm mem r with
    | some (.inl (ci, fs)) => if ci == a then match fs[b]? with
      | some v => kNx (pc + 3) lv (v :: st) mem
      | none => none
      else none
    | _ => none
  | .putfield _ => match st with
    | v :: .ref r :: st => match kLook xm mem r with
      | some (.inl (ci, fs)) => if ci == a && decide (1000 ≤ r) && decide (b < fs.length) && kFits (fty a b) v then kNx (pc + 3) lv st (mem.set (r - 1000) (.inl (ci, fs.set b v))) else none
      | _ => none
    | _ => none
  | .new _ => if 5000 ≤ a then (match st with
    | [] => some (.inr (.inl (.inr (a - 5000), mem ++ [.inl (1000, [.null, .null, .null, .null, .null, .null])])))
    | _ => none) else match dfl a with
    | some fs => kNx (pc + 3) lv (.ref (kNew mem) :: st) (mem ++ [.inl (a, fs)])
    | none => none
  | .newarray ty => kTopI st fun n st => match kTag ty with
    | some t => if !decide (n < 0) && decide (n.toNatClampNeg ≤ 16777216) then kNx (pc + 2) lv (.ref (kNew mem) :: st) (mem ++ [.inr (.inl (t, List.replicate n.toNatClampNeg 0))]) else none
    | none => none
  | .anewarray _ => kTopI st fun n st =>
    if !decide (n < 0) && decide (n.toNatClampNeg ≤ 16777216) then kNx (pc + 3) lv (.ref (kNew mem) :: st) (mem ++ [.inr (.inr (a, List.replicate n.toNatClampNeg none))]) else none
  | .arraylength => kTopA st fun r st => match kLook xm mem r with
    | some (.inr (.inl (t, xs))) => if decide (t < 2) then kNx (pc + 1) lv (.int (Int32.ofNat xs.length) :: st) mem else none
    | some (.inr (.inr (t, xs))) => if t == 2 || t == 3 then kNx (pc + 1) lv (.int (Int32.ofNat xs.length) :: st) mem else none
    | _ => none
  | .iaload => kTopI st fun j st => kTopA st fun r st => match kLook xm mem r with
    | some (.inr (.inl (0, xs))) => if kInB j xs.length then kNx (pc + 1) lv (.int (xs.getD j.toNatClampNeg 0) :: st) mem else none
    | _ => none
  | .baload => kTopI st fun j st => kTopA st fun r st => match kLook xm mem r with
    | some (.inr (.inl (1, xs))) => if kInB j xs.length then kNx (pc + 1) lv (.int (xs.getD j.toNatClampNeg 0) :: st) mem else none
    | _ => none
  | .iastore => kTopI st fun x st => kTopI st fun j st => kTopA st fun r st => match kLook xm mem r with
    | some (.inr (.inl (0, xs))) => if kInB j xs.length && decide (1000 ≤ r) then kNx (pc + 1) lv st (mem.set (r - 1000) (.inr (.inl (0, xs.set j.toNatClampNeg x)))) else none
    | _ => none
  | .bastore => kTopI st fun x st => kTopI st fun j st => kTopA st fun r st => match kLook xm mem r with
    | some (.inr (.inl (1, xs))) => if kInB j xs.length && decide (1000 ≤ r) then kNx (pc + 1) lv st (mem.set (r - 1000) (.inr (.inl (1, xs.set j.toNatClampNeg x.toInt8.toInt32)))) else none
    | _ => none
  | .aaload => kTopI st fun j st => kTopA st fun r st => match kLook xm mem r with
    | some (.inr (.inr (t, xs))) => if kInB j xs.length && (t == 2 || t == 3 || (t == 4 && decide (r < 1000))) then kNx (pc + 1) lv (kRf (xs.getD j.toNatClampNeg none) :: st) mem else none
    | _ => none
  | .aastore => kTopQ st fun v st => kTopI st fun j st => kTopA st fun r st => match kLook xm mem r with
    | some (.inr (.inr (t, xs))) => if kInB j xs.length && decide (1000 ≤ r) && (t == 2 || t == 3) && kStOk xm mem t v then kNx (pc + 1) lv st (mem.set (r - 1000) (.inr (.inr (t, xs.set j.toNatClampNeg v)))) else none
    | _ => none
  | .checkcast _ => match st with
    | .null :: st => kNx (pc + 3) lv (.null :: st) mem
    | .ref r :: st => match kLook xm mem r with
      | some (.inl (ci, _)) => if a == 0 && ci == b then kNx (pc + 3) lv (.ref r :: st) mem else none
      | some (.inr (.inl (t, _))) => if a == 1 && t == b && decide (1000 ≤ r) then kNx (pc + 3) lv (.ref r :: st) mem else none
      | some (.inr (.inr (t, _))) => if a == 2 && t == b && decide (1000 ≤ r) then kNx (pc + 3) lv (.ref r :: st) mem else none
      | none => none
    | _ => none
  | .invokevirtual _ => kCall xm a b 3 pc lv st mem
  | .invokespecial _ => kCall xm a b 3 pc lv st mem
  | .invokestatic _ => kCall xm a b 3 pc lv st mem
  | .invokeinterface _ _ => kCall xm a b 5 pc lv st mem
  | .ireturn => match st with
    | [.int x] => if kRetI rt x then some (.inr (.inl (.inl (some (.int x)), mem))) else none
    | _ => none
  | .lreturn => match st with
    | [.long x] => if rt == some .long then some (.inr (.inl (.inl (some (.long x)), mem))) else none
    | _ => none
  | .freturn => match st with
    | [.float x] => if rt == some .float then some (.inr (.inl (.inl (some (.float x)), mem))) else none
    | _ => none
  | .dreturn => match st with
    | [.double x] => if rt == some .double then some (.inr (.inl (.inl (some (.double x)), mem))) else none
    | _ => none
  | .areturn => match st with
    | [.ref r] => some (.inr (.inl (.inl (some (.ref r)), mem)))
    | [.null] => some (.inr (.inl (.inl (some .null), mem)))
    | _ => none
  | .return_ => match st with
    | [] => if rt == none then some (.inr (.inl (.inl none, mem))) else none
    | _ => none
  | _ => none
/-- what the tables say: the instruction at a place; the number of locals; the answer's type; the handler that takes a class of exceptions at a place (its place, the local into which it puts the exception) -/
abbrev kT : Type := (Nat → Nat → Option kI) × (Nat → Nat) × (Nat → Option FieldType) × (Nat → Nat → Nat → Option (Nat × Nat))
section KRUN
variable (xm : Nat → Option kE) (sm : Nat → Option Value) (dfl : Nat → Option (List Value)) (fty : Nat → Nat → FieldType) (G : kT)
def kLoop (call : Nat → List Value → kM → Option (kO × kM)) (mi : Nat) : Nat → Nat → kL → List Value → kM → Option (kO × kM)
  | 0, _, _, _, _ => none
  | f + 1, pc, lv, st, mem => match G.1 mi pc with
    | none => none
    | some (ins, a, b) => match kStep xm sm dfl fty (G.2.1 mi) (G.2.2.1 mi) ins a b pc lv st mem with
      | none => none
      | some (.inl (pc', lv', st', mem')) => kLoop call mi f pc' lv' st' mem'
      | some (.inr (.inl r)) => some r
      | some (.inr (.inr (y, args, rest, len))) => match call y args mem with
        | none => none
        | some (.inl v, m1) => kLoop call mi f (pc + len) lv (v.toList ++ rest) m1
        | some (.inr E, m1) => match G.2.2.2 mi pc E with
          | none => none
          | some (h, i) => kLoop call mi f h (lv.filter (fun q => !(q.1 == i) && !(q.1 + 1 == i && q.2.category == 2))) [] m1
def kExec (F : Nat) : Nat → Nat → List Value → kM → Option (kO × kM)
  | 0, _, _, _ => none
  | d + 1, y, args, mem => if (args.map fun v => v.category).sum ≤ G.2.1 y then kLoop xm sm dfl fty G (kExec F d) y F 0 (lv_args 0 args) [] mem else none
/-- more steps, the same end -/
theorem kLoop_le {c1 c2 : Nat → List Value → kM → Option (kO × kM)} (hc : ∀ y args mem r, c1 y args mem = some r → c2 y args mem = some r) (mi : Nat) : ∀ (f g : Nat), f ≤ g → ∀ pc lv st mem r, kLoop xm sm dfl fty G c1 mi f pc lv st mem = some r → kLoop xm sm dfl fty G c2 mi g pc lv st mem = some r := by
  intro f
  induction f with
  | zero => intro g _ pc lv st mem r h; cases h
  | succ f ih =>
    intro g hg pc lv st mem r h
    obtain ⟨g, rfl⟩ : ∃ g', g = g' + 1 := ⟨g - 1, by omega⟩
    rw [kLoop] at h ⊢
    have hg' : f ≤ g := by omega
    cases hG : G.1 mi pc with
    | none => rw [hG] at h; cases h
    | some x =>
      obtain ⟨ins, a, b⟩ := x
      rw [hG] at h
      dsimp only at h ⊢
      cases hs : kStep xm sm dfl fty (G.2.1 mi) (G.2.2.1 mi) ins a b pc lv st mem with
      | none => rw [hs] at h; cases h
      | some q =>
        rw [hs] at h
        rcases q with ⟨pc', lv', st', mem'⟩ | q | ⟨y, args, rest, len⟩
        · exact ih g hg' _ _ _ _ _ h
        · exact h
        · dsimp only at h ⊢
          cases hcc : c1 y args mem with
          | none => rw [hcc] at h; cases h
          | some z =>
            rw [hcc] at h
            rw [hc _ _ _ _ hcc]
            obtain ⟨o | E, m1⟩ := z
            · exact ih g hg' _ _ _ _ _ h
            · dsimp only at h ⊢
              cases hh : G.2.2.2 mi pc E with
              | none => rw [hh] at h; cases h
              | some w =>
                rw [hh] at h
                exact ih g hg' _ _ _ _ _ h
theorem kExec_le {F1 F2 : Nat} (hF : F1 ≤ F2) : ∀ (d1 d2 : Nat), d1 ≤ d2 → ∀ y args mem r, kExec xm sm dfl fty G F1 d1 y args mem = some r → kExec xm sm dfl fty G F2 d2 y args mem = some r := by
  intro d1
  induction d1 with
  | zero => intro d2 _ y args mem r h; cases h
  | succ d ih =>
    intro d2 hd y args mem r h
    obtain ⟨d2, rfl⟩ : ∃ g', d2 = g' + 1 := ⟨d2 - 1, by omega⟩
    rw [kExec] at h ⊢
    split at h
    · rename_i hc
      rw [if_pos hc]
      exact kLoop_le xm sm dfl fty G (fun y args mem r h => ih d2 (by omega) y args mem r h) y F1 F2 hF _ _ _ _ _ h
    · cases h
end KRUN
