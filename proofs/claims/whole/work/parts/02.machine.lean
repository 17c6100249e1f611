/-! A SMALL MACHINE OVER LISTS (M1): references are places in a list of cells. What it does, the JVM does too (part 03). -/
/-- an instruction; its pc; its length; two numbers (field: class, place; call: method, how many it takes; jump: target); a constant; a switch's targets -/
abbrev xI : Type := Instr × Nat × Nat × Nat × Nat × Int × List Nat
abbrev aE : Type := (FieldType × vp_A) ⊕ (Nat × List Value)
abbrev aH : Type := List aE
abbrev aL : Type := List (Option Value)
/-- the script's reference -/
def sCR : Nat := 1000000
def a_get (L : aL) (k : Nat) : Option Value := match L[k]? with
  | some (some v) => some v
  | _ => none
def a_kill (L : aL) (k : Nat) : aL := match k with
  | 0 => L
  | j + 1 => match a_get L j with
    | some v => if v.category = 2 then L.set j none else L
    | none => L
def a_set1 (L : aL) (k : Nat) (v : Value) : aL := (a_kill L k).set k (some v)
def a_set2 (L : aL) (k : Nat) (v : Value) : aL := ((a_kill L k).set k (some v)).set (k + 1) none
/-- what changes the stack alone -/
def a_pure (x : Instr) (z : Int) (S : List Value) : Option (List Value) := match x with
  | .iconst n => some (.int (Int32.ofInt n) :: S)
  | .bipush n => some (.int (Int8.ofInt n).toInt32 :: S)
  | .sipush n => some (.int (Int16.ofInt n).toInt32 :: S)
  | .lconst n => some (.long (Int64.ofNat (n : Nat)) :: S)
  | .ldc _ => some (.int (Int32.ofInt z) :: S)
  | .ldc_w _ => some (.int (Int32.ofInt z) :: S)
  | .ldc2_w _ => some (.long (Int64.ofInt z) :: S)
  | .iadd => match S with | .int y :: .int x :: R => some (.int (x + y) :: R) | _ => none
  | .isub => match S with | .int y :: .int x :: R => some (.int (x - y) :: R) | _ => none
  | .imul => match S with | .int y :: .int x :: R => some (.int (x * y) :: R) | _ => none
  | .iand => match S with | .int y :: .int x :: R => some (.int (x &&& y) :: R) | _ => none
  | .ior => match S with | .int y :: .int x :: R => some (.int (x ||| y) :: R) | _ => none
  | .ixor => match S with | .int y :: .int x :: R => some (.int (x ^^^ y) :: R) | _ => none
  | .idiv => match S with | .int y :: .int x :: R => if y = 0 then none else some (.int (x / y) :: R) | _ => none
  | .irem => match S with | .int y :: .int x :: R => if y = 0 then none else some (.int (x - x / y * y) :: R) | _ => none
  | .ishl => match S with | .int y :: .int x :: R => some (.int (x <<< (y &&& 31)) :: R) | _ => none
  | .ishr => match S with | .int y :: .int x :: R => some (.int (x >>> (y &&& 31)) :: R) | _ => none
  | .iushr => match S with | .int y :: .int x :: R => some (.int (x.toUInt32 >>> (y.toUInt32 &&& Int32.toUInt32 31)).toInt32 :: R) | _ => none
  | .ladd => match S with | .long y :: .long x :: R => some (.long (x + y) :: R) | _ => none
  | .lsub => match S with | .long y :: .long x :: R => some (.long (x - y) :: R) | _ => none
  | .lmul => match S with | .long y :: .long x :: R => some (.long (x * y) :: R) | _ => none
  | .lor => match S with | .long y :: .long x :: R => some (.long (x ||| y) :: R) | _ => none
  | .ldiv => match S with | .long y :: .long x :: R => if y = 0 then none else some (.long (x / y) :: R) | _ => none
  | .lrem => match S with | .long y :: .long x :: R => if y = 0 then none else some (.long (x - x / y * y) :: R) | _ => none
  | .lneg => match S with | .long x :: R => some (.long (-x) :: R) | _ => none
  | .lshl => match S with | .int y :: .long x :: R => some (.long (x <<< (y.toInt64 &&& 63)) :: R) | _ => none
  | .lcmp => match S with | .long y :: .long x :: R => some (.int (lg_cmp x y) :: R) | _ => none
  | .i2l => match S with | .int x :: R => some (.long x.toInt64 :: R) | _ => none
  | .l2i => match S with | .long x :: R => some (.int x.toInt32 :: R) | _ => none
  | .dup => match S with | v :: R => if v.category = 1 then some (v :: v :: R) else none | _ => none
  | .pop => match S with | v :: R => if v.category = 1 then some R else none | _ => none
  | .dup2 => match S with | v :: w :: R => if v.category = 1 ∧ w.category = 1 then some (v :: w :: v :: w :: R) else if v.category = 2 then some (v :: v :: w :: R) else none | _ => none
  | _ => none
/-- what puts a local onto the stack -/
def a_load (x : Instr) (L : aL) : Option Value := match x with
  | .iload k => match a_get L k with | some (.int v) => some (.int v) | _ => none
  | .iload_n k => match a_get L k with | some (.int v) => some (.int v) | _ => none
  | .lload k => match a_get L k with | some (.long v) => some (.long v) | _ => none
  | .lload_n k => match a_get L k with | some (.long v) => some (.long v) | _ => none
  | .aload k => match a_get L k with | some (.ref v) => some (.ref v) | _ => none
  | .aload_n k => match a_get L k with | some (.ref v) => some (.ref v) | _ => none
  | _ => none
/-- what changes a local -/
def a_store (x : Instr) (L : aL) (S : List Value) : Option (aL × List Value) := match x with
  | .istore k => match S with | .int v :: R => if k < L.length then some (a_set1 L k (.int v), R) else none | _ => none
  | .istore_n k => match S with | .int v :: R => if (k : Nat) < L.length then some (a_set1 L k (.int v), R) else none | _ => none
  | .lstore k => match S with | .long v :: R => if k + 1 < L.length then some (a_set2 L k (.long v), R) else none | _ => none
  | .lstore_n k => match S with | .long v :: R => if (k : Nat) + 1 < L.length then some (a_set2 L k (.long v), R) else none | _ => none
  | .astore k => match S with | .ref v :: R => if k < L.length then some (a_set1 L k (.ref v), R) else none | _ => none
  | .astore_n k => match S with | .ref v :: R => if (k : Nat) < L.length then some (a_set1 L k (.ref v), R) else none | _ => none
  | .iinc k z => match a_get L k with | some (.int v) => if k < L.length then some (a_set1 L k (.int (v + Int32.ofInt z)), S) else none | _ => none
  | _ => none
/-- what jumps: whether, and the stack behind it -/
def a_br (x : Instr) (S : List Value) : Option (Bool × List Value) := match x with
  | .goto _ => some (true, S)
  | .ifCond .eq _ => match S with | .int v :: R => some (decide (v = 0), R) | _ => none
  | .ifCond .ne _ => match S with | .int v :: R => some (!decide (v = 0), R) | _ => none
  | .ifCond .lt _ => match S with | .int v :: R => some (decide (v < 0), R) | _ => none
  | .ifCond .ge _ => match S with | .int v :: R => some (decide (0 ≤ v), R) | _ => none
  | .ifCond .gt _ => match S with | .int v :: R => some (decide (0 < v), R) | _ => none
  | .ifCond .le _ => match S with | .int v :: R => some (decide (v ≤ 0), R) | _ => none
  | .if_icmp .eq _ => match S with | .int y :: .int x :: R => some (decide (x = y), R) | _ => none
  | .if_icmp .ne _ => match S with | .int y :: .int x :: R => some (!decide (x = y), R) | _ => none
  | .if_icmp .lt _ => match S with | .int y :: .int x :: R => some (decide (x < y), R) | _ => none
  | .if_icmp .ge _ => match S with | .int y :: .int x :: R => some (decide (y ≤ x), R) | _ => none
  | .if_icmp .gt _ => match S with | .int y :: .int x :: R => some (decide (y < x), R) | _ => none
  | .if_icmp .le _ => match S with | .int y :: .int x :: R => some (decide (x ≤ y), R) | _ => none
  | _ => none
/-- which target a switch takes: the first of the list is the default -/
def a_sw (lo : Int) (hi : Int) (tg : List Nat) (v : Int32) : Option Nat := if v.toInt < lo ∨ hi < v.toInt then tg[0]? else tg[(v.toInt - lo).toNat + 1]?
/-- the types of the fields, by class and place -/
def a_ty (ci k : Nat) : FieldType := match ci with
  | 0 => tyX0 k | 1 => tyX1 k | 2 => tyX2 k | 3 => tyX3 k | 4 => tyX4 k | 5 => tyX5 k | 6 => tyX6 k | 7 => tyX7 k | 8 => tyX8 k | 9 => tyX9 k | 10 => tyX10 k | 11 => tyX11 k | _ => tyX12 k
/-- a value that a field of the type takes as it is -/
def a_fit (ty : FieldType) (v : Value) : Bool := match v with
  | .int x => decide (narrow ty (.int x) = .int x) && fits ty (.int x)
  | .long x => fits ty (.long x)
  | .ref _ => fits ty .null
  | _ => false
def a_isRef (ty : FieldType) : Bool := match ty with
  | .object _ => true
  | .array _ => true
  | _ => false
def a_cell (h : aH) (n : Nat) : Option aE := if n = sCR then none else h[n]?
/-- reads of the heap -/
def a_read (xs : Nat × (Nat → Int32)) (x : xI) (S : List Value) (h : aH) : Option (List Value) := match x.1 with
  | .getfield _ => match S with
    | .ref n :: R => match a_cell h n with
      | some (.inr (c, fs)) => if c = x.2.2.2.1 then (match fs[x.2.2.2.2.1]? with | some v => some (v :: R) | none => none) else none
      | _ => none
    | _ => none
  | .iaload => match S with
    | .int j :: .ref n :: R => if n = sCR then (if ¬ (j < 0 ∨ xs.1 ≤ j.toNatClampNeg) then some (.int (xs.2 j.toNatClampNeg) :: R) else none) else match a_cell h n with
      | some (.inl (ty, len, .inl f)) => if ty = .int ∧ ¬ (j < 0 ∨ len ≤ j.toNatClampNeg) then some (.int (f j.toNatClampNeg) :: R) else none
      | _ => none
    | _ => none
  | .laload => match S with
    | .int j :: .ref n :: R => match a_cell h n with
      | some (.inl (ty, len, .inr (.inl f))) => if ty = .long ∧ ¬ (j < 0 ∨ len ≤ j.toNatClampNeg) then some (.long (f j.toNatClampNeg) :: R) else none
      | _ => none
    | _ => none
  | .aaload => match S with
    | .int j :: .ref n :: R => match a_cell h n with
      | some (.inl (ty, len, .inr (.inr (.inr (.inr f))))) => if a_isRef ty = true ∧ ¬ (j < 0 ∨ len ≤ j.toNatClampNeg) then (match f j.toNatClampNeg with | some k => some (.ref k :: R) | none => none) else none
      | _ => none
    | _ => none
  | .arraylength => match S with
    | .ref n :: R => if n = sCR then some (.int (Int32.ofNat xs.1) :: R) else match a_cell h n with
      | some (.inl (_, len, _)) => some (.int (Int32.ofNat len) :: R)
      | _ => none
    | _ => none
  | _ => none
def a_isCls (ci : Nat) (ty : FieldType) : Bool := match vwCl[ci]? with
  | some r => decide (ty = .object r.1)
  | none => false
/-- writes of the heap -/
def a_write (x : xI) (S : List Value) (h : aH) : Option (List Value × aH) := match x.1 with
  | .putfield _ => match S with
    | v :: .ref n :: R => match a_cell h n with
      | some (.inr (c, fs)) => if c = x.2.2.2.1 ∧ x.2.2.2.2.1 < fs.length ∧ a_fit (a_ty x.2.2.2.1 x.2.2.2.2.1) v = true then some (R, h.set n (.inr (c, fs.set x.2.2.2.2.1 v))) else none
      | _ => none
    | _ => none
  | .iastore => match S with
    | .int v :: .int j :: .ref n :: R => match a_cell h n with
      | some (.inl (ty, len, .inl f)) => if ty = .int ∧ ¬ (j < 0 ∨ len ≤ j.toNatClampNeg) then some (R, h.set n (.inl (ty, len, .inl (upd f j.toNatClampNeg v)))) else none
      | _ => none
    | _ => none
  | .lastore => match S with
    | .long v :: .int j :: .ref n :: R => match a_cell h n with
      | some (.inl (ty, len, .inr (.inl f))) => if ty = .long ∧ ¬ (j < 0 ∨ len ≤ j.toNatClampNeg) then some (R, h.set n (.inl (ty, len, .inr (.inl (vp_updL f j.toNatClampNeg v))))) else none
      | _ => none
    | _ => none
  | .aastore => match S with
    | .ref v :: .int j :: .ref n :: R => match a_cell h n, a_cell h v with
      | some (.inl (ty, len, .inr (.inr (.inr (.inr f))))), some (.inr (ci, _)) => if a_isCls ci ty = true ∧ ¬ (j < 0 ∨ len ≤ j.toNatClampNeg) then some (R, h.set n (.inl (ty, len, .inr (.inr (.inr (.inr (va_up f j.toNatClampNeg (some v)))))))) else none
      | _, _ => none
    | _ => none
  | _ => none
/-- an array of n zeros -/
def a_zero (ty : FieldType) (n : Nat) : Option vp_A := match ty with
  | .int => some (n, .inl (fun _ => 0))
  | .long => some (n, .inr (.inl (fun _ => 0)))
  | _ => none
/-- what a class's fields are at first -/
def a_new (ci : Nat) : Option (List Value) := match vwCl[ci]? with
  | some (_, _, N) => some ((List.range N).map (fun k => defaultValue (a_ty ci k)))
  | none => none
/-- what makes cells: the stack, the heap, how many cells and slots it takes -/
def a_make (x : xI) (S : List Value) (h : aH) : Option (List Value × aH × Nat × Nat) := if sCR ≤ h.length + 100 then none else match x.1 with
  | .new _ => match a_new x.2.2.2.1 with
    | some fs => some (.ref h.length :: S, h ++ [.inr (x.2.2.2.1, fs)], 1, fs.length)
    | none => none
  | .newarray ty => match S with
    | .int n :: R => if ¬ n < 0 ∧ n.toNatClampNeg * componentBytes (newarray.typeOf ty) ≤ 536870912 then (match a_zero (newarray.typeOf ty) n.toNatClampNeg with
      | some a => some (.ref h.length :: R, h ++ [.inl (newarray.typeOf ty, a)], 1, n.toNatClampNeg)
      | none => none) else none
    | _ => none
  | .anewarray _ => match S with
    | .int n :: R => match vwCl[x.2.2.2.1]? with
      | some r => if ¬ n < 0 ∧ n.toNatClampNeg * 4 ≤ 536870912 then some (.ref h.length :: R, h ++ [.inl (.object r.1, n.toNatClampNeg, .inr (.inr (.inr (.inr (fun _ => none)))))], 1, n.toNatClampNeg) else none
      | none => none
    | _ => none
  | .multianewarray _ _ => match S with
    | .int k :: .int n :: R => if ¬ n < 0 ∧ ¬ k < 0 ∧ n.toNatClampNeg ≤ 50 ∧ n.toNatClampNeg * 4 ≤ 536870912 ∧ k.toNatClampNeg * 8 ≤ 536870912 then
        some (.ref h.length :: R, (h ++ [.inl (.array .long, n.toNatClampNeg, .inr (.inr (.inr (.inr (fun i => if i < n.toNatClampNeg then some (h.length + 1 + i) else none)))))]) ++ (List.range n.toNatClampNeg).map (fun _ => .inl (.long, k.toNatClampNeg, .inr (.inl (fun _ => 0)))), 1 + n.toNatClampNeg, n.toNatClampNeg + n.toNatClampNeg * k.toNatClampNeg) else none
    | _ => none
  | _ => none
/-- System.arraycopy over ints and longs -/
def a_copy (S : List Value) (h : aH) : Option (List Value × aH) := match S with
  | .int n :: .int dp :: .ref d :: .int sp :: .ref a :: R => match a_cell h a, a_cell h d with
    | some (.inl (ty, n0, .inl f)), some (.inl (ty1, n1, .inl g)) => if ty = .int ∧ ty1 = .int ∧ ¬ sp < 0 ∧ ¬ dp < 0 ∧ ¬ n < 0 ∧ sp.toNatClampNeg + n.toNatClampNeg ≤ n0 ∧ dp.toNatClampNeg + n.toNatClampNeg ≤ n1 then some (R, h.set d (.inl (.int, n1, .inl (va_cpy f g sp.toNatClampNeg dp.toNatClampNeg n.toNatClampNeg)))) else none
    | some (.inl (ty, n0, .inr (.inl f))), some (.inl (ty1, n1, .inr (.inl g))) => if ty = .long ∧ ty1 = .long ∧ ¬ sp < 0 ∧ ¬ dp < 0 ∧ ¬ n < 0 ∧ sp.toNatClampNeg + n.toNatClampNeg ≤ n0 ∧ dp.toNatClampNeg + n.toNatClampNeg ≤ n1 then some (R, h.set d (.inl (.long, n1, .inr (.inl (va_cpy f g sp.toNatClampNeg dp.toNatClampNeg n.toNatClampNeg))))) else none
    | _, _ => none
  | _ => none
/-- how many words stand on a stack -/
def a_words (S : List Value) : Nat := (S.map fun v => v.category).sum
/-- an answer that a method of the type may give: the stack at its return -/
def a_ret (x : Instr) (rt : Option FieldType) (S : List Value) : Option (Option Value) := match x with
  | .return_ => if rt = none ∧ S = [] then some none else none
  | .ireturn => match S with | [.int v] => (match rt with | some ty => if narrow ty (.int v) = .int v then some (some (.int v)) else none | none => none) | _ => none
  | .lreturn => match S with | [.long v] => if rt = some .long then some (some (.long v)) else none | _ => none
  | .areturn => match S with | [.ref v] => (match rt with | some ty => if a_isRef ty = true then some (some (.ref v)) else none | none => none) | _ => none
  | _ => none
/-- a method: its name, code, locals, answer's type, how many arguments it takes, cells and slots that it may make, its instructions -/
abbrev aM : Type := MethodName × ByteArray × Nat × Option FieldType × Nat × (Nat × Nat) × List xI
/-- which arguments, as the locals begin -/
def a_args : List Value → aL
  | [] => []
  | v :: r => if v.category = 2 then some v :: none :: a_args r else some v :: a_args r
def a_locals (maxL : Nat) (vs : List Value) : aL := a_args vs ++ List.replicate (maxL - (a_args vs).length) none
/-- the receiver is an object of class z -/
def a_rcv (h : aH) (z : Int) (args : List Value) : Bool := match args with
  | .ref n :: _ => match a_cell h n with
    | some (.inr (ci, _)) => decide ((ci : Int) = z)
    | _ => false
  | _ => false
def a_isR (args : List Value) : Bool := match args with
  | .ref _ :: _ => true
  | _ => false
/-- calls that aren't methods of the table -/
def idInit : Nat := 1000
def idCopy : Nat := 1001
/-- THE MACHINE, goal first: from instruction i it comes to a return with Q. C: what calls do -/
def wp1 (xs : Nat × (Nat → Int32)) (C : Nat → List Value → aH → (Option Value → aH → Prop) → Prop) (MT : List aM) (tbl : List xI) (rt : Option FieldType) (Q : Option Value → aH → Prop) : Nat → Nat → aL → List Value → aH → Nat → Nat → Prop
  | 0, _, _, _, _, _, _ => False
  | n + 1, i, L, S, h, bc, bs => match tbl[i]? with
    | none => False
    | some x => match x.1 with
      | .invokevirtual _ => a_rcv h x.2.2.2.2.2.1 (S.take x.2.2.2.2.1).reverse = true ∧ a_words (S.drop x.2.2.2.2.1) ≤ 8 ∧ x.2.2.2.2.1 ≤ S.length ∧ ∃ M, MT[x.2.2.2.1]? = some M ∧ M.2.2.2.2.2.1.1 ≤ bc ∧ M.2.2.2.2.2.1.2 ≤ bs ∧ C x.2.2.2.1 (S.take x.2.2.2.2.1).reverse h (fun r h' => wp1 xs C MT tbl rt Q n (i + 1) L (r.toList ++ S.drop x.2.2.2.2.1) h' (bc - M.2.2.2.2.2.1.1) (bs - M.2.2.2.2.2.1.2))
      | .invokestatic _ => if x.2.2.2.1 = idCopy then (∃ R h', a_copy S h = some (R, h') ∧ a_words R ≤ 8 ∧ wp1 xs C MT tbl rt Q n (i + 1) L R h' bc bs) else
        a_words (S.drop x.2.2.2.2.1) ≤ 8 ∧ x.2.2.2.2.1 ≤ S.length ∧ ∃ M, MT[x.2.2.2.1]? = some M ∧ M.2.2.2.2.2.1.1 ≤ bc ∧ M.2.2.2.2.2.1.2 ≤ bs ∧ C x.2.2.2.1 (S.take x.2.2.2.2.1).reverse h (fun r h' => wp1 xs C MT tbl rt Q n (i + 1) L (r.toList ++ S.drop x.2.2.2.2.1) h' (bc - M.2.2.2.2.2.1.1) (bs - M.2.2.2.2.2.1.2))
      | .invokespecial _ => if x.2.2.2.1 = idInit then (∃ v R, S = .ref v :: R ∧ a_words R ≤ 8 ∧ wp1 xs C MT tbl rt Q n (i + 1) L R h bc bs) else
        a_isR (S.take x.2.2.2.2.1).reverse = true ∧ a_words (S.drop x.2.2.2.2.1) ≤ 8 ∧ x.2.2.2.2.1 ≤ S.length ∧ ∃ M, MT[x.2.2.2.1]? = some M ∧ M.2.2.2.2.2.1.1 ≤ bc ∧ M.2.2.2.2.2.1.2 ≤ bs ∧ C x.2.2.2.1 (S.take x.2.2.2.2.1).reverse h (fun r h' => wp1 xs C MT tbl rt Q n (i + 1) L (r.toList ++ S.drop x.2.2.2.2.1) h' (bc - M.2.2.2.2.2.1.1) (bs - M.2.2.2.2.2.1.2))
      | .tableswitch _ lo hi _ => match S with
        | .int v :: R => (match a_sw lo hi x.2.2.2.2.2.2 v with | some j => wp1 xs C MT tbl rt Q n j L R h bc bs | none => False)
        | _ => False
      | _ => match a_ret x.1 rt S with
        | some r => Q r h
        | none => match a_pure x.1 x.2.2.2.2.2.1 S with
          | some R => wp1 xs C MT tbl rt Q n (i + 1) L R h bc bs
          | none => match a_load x.1 L with
            | some v => wp1 xs C MT tbl rt Q n (i + 1) L (v :: S) h bc bs
            | none => match a_store x.1 L S with
              | some (L', R) => wp1 xs C MT tbl rt Q n (i + 1) L' R h bc bs
              | none => match a_br x.1 S with
                | some (b, R) => wp1 xs C MT tbl rt Q n (if b then x.2.2.2.1 else i + 1) L R h bc bs
                | none => match a_read xs x S h with
                  | some R => wp1 xs C MT tbl rt Q n (i + 1) L R h bc bs
                  | none => match a_write x S h with
                    | some (R, h') => wp1 xs C MT tbl rt Q n (i + 1) L R h' bc bs
                    | none => match a_make x S h with
                      | some (R, h', kc, ks) => kc ≤ bc ∧ ks ≤ bs ∧ wp1 xs C MT tbl rt Q n (i + 1) L R h' (bc - kc) (bs - ks)
                      | none => False
/-- a call of method j, at most d calls deep; P: what is known of some methods otherwise -/
def call1 (xs : Nat × (Nat → Int32)) (MT : List aM) (P : Nat → Nat → List Value → aH → (Option Value → aH → Prop) → Prop) : Nat → Nat → List Value → aH → (Option Value → aH → Prop) → Prop
  | 0, j, args, h, Q => P 0 j args h Q
  | d + 1, j, args, h, Q => P (d + 1) j args h Q ∨ ∃ M, MT[j]? = some M ∧ args.length = M.2.2.2.2.1 ∧ (a_args args).length ≤ M.2.2.1 ∧ ∃ n, wp1 xs (call1 xs MT P d) MT M.2.2.2.2.2.2 M.2.2.2.1 Q n 0 (a_locals M.2.2.1 args) [] h M.2.2.2.2.2.1.1 M.2.2.2.2.2.1.2
