/-! THE ABSTRACT MACHINE ("z"): a heap of numbered cells, one instruction, blocks of code between cuts, runs. -/
/-- ints and longs by cell and place -/
abbrev zIJ : Type := (Nat → Nat → Int32) × (Nat → Nat → Int64)
abbrev zLs : Type := List (Nat × Value)
abbrev zRes : Type := Option Value × zIJ
/-- pc, instruction, next pc, numbers of help, a constant -/
abbrev zEn : Type := Nat × Instr × Nat × List Nat × Value
/-- what an instruction does: 0 on, 1 jump, 2 branch, 3 call, 4 return, 5 switch; guard or condition; target; arguments; locals, stack, heap -/
abbrev zO : Type := Nat × Bool × Nat × List Value × zLs × List Value × zIJ
def zlv (i : Nat) : zLs → Option Value
  | [] => none
  | e :: r => cond (Nat.beq e.1 i) (some e.2) (zlv i r)
def zst (L : zLs) (i : Nat) (v : Value) : zLs := (i, v) :: L.filter (fun q => !(q.1 == i) && !(q.1 + 1 == i && q.2.category == 2))
def zst2 (L : zLs) (i : Nat) (v : Value) : zLs := (i, v) :: L.filter (fun q => !(q.1 == i) && (!(q.1 == i + 1) && !(q.1 + 1 == i && q.2.category == 2)))
/-- the field types of the classes by their numbers -/
def zty (ci k : Nat) : FieldType := match ci with
  | 0 => tyX0 k
  | 1 => tyX1 k
  | 2 => tyX2 k
  | 3 => tyX3 k
  | 4 => tyX4 k
  | 5 => tyX5 k
  | 6 => tyX6 k
  | 7 => tyX7 k
  | 8 => tyX8 k
  | 9 => tyX9 k
  | 10 => tyX10 k
  | 11 => tyX11 k
  | _ => tyX12 k
/-- the value of field j of cell k, of that type -/
def zfv (h : zIJ) (k j : Nat) (ty : FieldType) : Value := match ty with
  | .int => .int (h.1 k j)
  | .boolean => .int (h.1 k j)
  | .long => .long (h.2 k j)
  | _ => .ref (zRf k j)
def zup {α : Type} (f : Nat → Nat → α) (k j : Nat) (x : α) : Nat → Nat → α := fun a b => cond (Nat.beq a k) (cond (Nat.beq b j) x (f a b)) (f a b)
def zrow {α : Type} (f : Nat → Nat → α) (k : Nat) (g : Nat → α) : Nat → Nat → α := fun a b => cond (Nat.beq a k) (g b) (f a b)
def zsI (h : zIJ) (k j : Nat) (x : Int32) : zIJ := (zup h.1 k j x, h.2)
def zsL (h : zIJ) (k j : Nat) (x : Int64) : zIJ := (h.1, zup h.2 k j x)
/-- an index is in range -/
def zin (i : Int32) (n : Nat) : Bool := decide (0 ≤ i.toInt ∧ i.toInt < n)
def zbit (x : Int32) : Bool := decide (x = 0) || decide (x = 1)
/-- the two tables of the class -/
def zLE (j : Nat) : Int32 := match j with
  | 0 | 1 | 2 | 3 | 4 | 5 | 6 | 7 => 0
  | 8 | 9 | 10 | 11 | 12 | 13 | 14 => 1
  | 15 | 16 | 17 | 18 | 19 | 20 => 2
  | 21 | 22 | 23 | 24 | 25 => 3
  | 26 | 27 | 28 | 29 => 4
  | 30 | 31 | 32 => 5
  | 33 | 34 => 6
  | _ => 7
def zGE (j : Nat) : Int32 := match j with
  | 0 => 1
  | 1 | 8 => 2
  | 2 | 9 | 15 => 3
  | 3 | 10 | 16 | 21 => 4
  | 4 | 11 | 17 | 22 | 26 => 5
  | 5 | 12 | 18 | 23 | 27 | 30 => 6
  | 6 | 13 | 19 | 24 | 28 | 31 | 33 => 7
  | _ => 8
/-- kinds: below 100 objects; 100 ints, 101 longs, 102 to 105 references; 110 the script, 111 and 112 the two tables -/
def zlen (h : zIJ) (a : Nat) : Nat := cond (Nat.beq (zC a).1 110) (h.1 a 5000).toNatClampNeg (zC a).2
def zrd (h : zIJ) (a j : Nat) : Int32 := cond (Nat.beq (zC a).1 111) (zLE j) (cond (Nat.beq (zC a).1 112) (zGE j) (h.1 a j))
def zisI (t : Nat) : Bool := Nat.beq t 100 || (Nat.ble 110 t && Nat.ble t 112)
def zisR (t : Nat) : Bool := Nat.ble 102 t && Nat.ble t 105
def zgo0 (L : zLs) (S : List Value) (h : zIJ) : Option zO := some (0, true, 0, [], L, S, h)
def zgoG (b : Bool) (L : zLs) (S : List Value) (h : zIJ) : Option zO := some (0, b, 0, [], L, S, h)
def zbI (f : Int32 → Int32 → Int32) (L : zLs) (S : List Value) (h : zIJ) : Option zO := match S with
  | .int y :: .int x :: r => zgo0 L (.int (f x y) :: r) h
  | _ => none
def zbL (f : Int64 → Int64 → Int64) (L : zLs) (S : List Value) (h : zIJ) : Option zO := match S with
  | .long y :: .long x :: r => zgo0 L (.long (f x y) :: r) h
  | _ => none
def zsh (f : Int64 → Int32 → Int64) (L : zLs) (S : List Value) (h : zIJ) : Option zO := match S with
  | .int y :: .long x :: r => zgo0 L (.long (f x y) :: r) h
  | _ => none
def zdI (f : Int32 → Int32 → Int32) (L : zLs) (S : List Value) (h : zIJ) : Option zO := match S with
  | .int y :: .int x :: r => zgoG (!decide (y = 0)) L (.int (f x y) :: r) h
  | _ => none
def zdL (f : Int64 → Int64 → Int64) (L : zLs) (S : List Value) (h : zIJ) : Option zO := match S with
  | .long y :: .long x :: r => zgoG (!decide (y = 0)) L (.long (f x y) :: r) h
  | _ => none
def zuI (f : Int32 → Int32) (L : zLs) (S : List Value) (h : zIJ) : Option zO := match S with
  | .int x :: r => zgo0 L (.int (f x) :: r) h
  | _ => none
def zif1 (f : Int32 → Bool) (hs : List Nat) (L : zLs) (S : List Value) (h : zIJ) : Option zO := match S, hs with
  | .int x :: r, [t] => some (2, f x, t, [], L, r, h)
  | _, _ => none
def zif2 (f : Int32 → Int32 → Bool) (hs : List Nat) (L : zLs) (S : List Value) (h : zIJ) : Option zO := match S, hs with
  | .int y :: .int x :: r, [t] => some (2, f x y, t, [], L, r, h)
  | _, _ => none
def zldI (i : Nat) (L : zLs) (S : List Value) (h : zIJ) : Option zO := match zlv i L with
  | some (.int x) => zgo0 L (.int x :: S) h
  | _ => none
def zldL (i : Nat) (L : zLs) (S : List Value) (h : zIJ) : Option zO := match zlv i L with
  | some (.long x) => zgo0 L (.long x :: S) h
  | _ => none
def zldA (i : Nat) (L : zLs) (S : List Value) (h : zIJ) : Option zO := match zlv i L with
  | some (.ref x) => zgo0 L (.ref x :: S) h
  | _ => none
def zstI (n i : Nat) (L : zLs) (S : List Value) (h : zIJ) : Option zO := match S with
  | .int x :: r => cond (Nat.blt i n) (zgo0 (zst L i (.int x)) r h) none
  | _ => none
def zstL (n i : Nat) (L : zLs) (S : List Value) (h : zIJ) : Option zO := match S with
  | .long x :: r => cond (Nat.blt (i + 1) n) (zgo0 (zst2 L i (.long x)) r h) none
  | _ => none
def zstA (n i : Nat) (L : zLs) (S : List Value) (h : zIJ) : Option zO := match S with
  | .ref x :: r => cond (Nat.blt i n) (zgo0 (zst L i (.ref x)) r h) none
  | _ => none
def zinc (n i : Nat) (v : Value) (L : zLs) (S : List Value) (h : zIJ) : Option zO := match zlv i L, v with
  | some (.int x), .int d => cond (Nat.blt i n) (zgo0 (zst L i (.int (x + d))) S h) none
  | _, _ => none
def zgf (hs : List Nat) (L : zLs) (S : List Value) (h : zIJ) : Option zO := match S, hs with
  | .ref a :: r, ci :: j :: _ => zgoG (Nat.beq (zC a).1 ci) L (zfv h a j (zty ci j) :: r) h
  | _, _ => none
def zpfT (ty : FieldType) (g : Bool) (a j : Nat) (v : Value) (L : zLs) (S : List Value) (h : zIJ) : Option zO := match ty, v with
  | .int, .int x => zgoG g L S (zsI h a j x)
  | .boolean, .int x => zgoG (g && zbit x) L S (zsI h a j x)
  | .long, .long x => zgoG g L S (zsL h a j x)
  | _, _ => none
def zpf (hs : List Nat) (L : zLs) (S : List Value) (h : zIJ) : Option zO := match S, hs with
  | v :: .ref a :: r, ci :: j :: _ => zpfT (zty ci j) (Nat.beq (zC a).1 ci) a j v L r h
  | _, _ => none
def zai (L : zLs) (S : List Value) (h : zIJ) : Option zO := match S with
  | .int i :: .ref a :: r => zgoG (zisI (zC a).1 && zin i (zlen h a)) L (.int (zrd h a i.toNatClampNeg) :: r) h
  | _ => none
def zal (L : zLs) (S : List Value) (h : zIJ) : Option zO := match S with
  | .int i :: .ref a :: r => zgoG (Nat.beq (zC a).1 101 && zin i (zC a).2) L (.long (h.2 a i.toNatClampNeg) :: r) h
  | _ => none
def zaa (L : zLs) (S : List Value) (h : zIJ) : Option zO := match S with
  | .int i :: .ref a :: r => zgoG (zisR (zC a).1 && zin i (zC a).2) L (.ref (zRf a i.toNatClampNeg) :: r) h
  | _ => none
def zsi (L : zLs) (S : List Value) (h : zIJ) : Option zO := match S with
  | .int x :: .int i :: .ref a :: r => zgoG (Nat.beq (zC a).1 100 && zin i (zC a).2) L r (zsI h a i.toNatClampNeg x)
  | _ => none
def zsl (L : zLs) (S : List Value) (h : zIJ) : Option zO := match S with
  | .long x :: .int i :: .ref a :: r => zgoG (Nat.beq (zC a).1 101 && zin i (zC a).2) L r (zsL h a i.toNatClampNeg x)
  | _ => none
def zan (L : zLs) (S : List Value) (h : zIJ) : Option zO := match S with
  | .ref a :: r => zgoG (zisI (zC a).1 || Nat.beq (zC a).1 101) L (.int (Int32.ofNat (zlen h a)) :: r) h
  | _ => none
def zdup (L : zLs) (S : List Value) (h : zIJ) : Option zO := match S with
  | v :: r => cond (Nat.beq v.category 1) (zgo0 L (v :: v :: r) h) none
  | _ => none
def zdup2 (L : zLs) (S : List Value) (h : zIJ) : Option zO := match S with
  | v :: r => cond (Nat.beq v.category 2) (zgo0 L (v :: v :: r) h) (match r with
    | w :: r2 => cond (Nat.beq w.category 1) (zgo0 L (v :: w :: v :: w :: r2) h) none
    | _ => none)
  | _ => none
def zcmpS (L : zLs) (S : List Value) (h : zIJ) : Option zO := match S with
  | .long y :: .long x :: r => zgo0 L (.int (lg_cmp x y) :: r) h
  | _ => none
def zi2l (L : zLs) (S : List Value) (h : zIJ) : Option zO := match S with
  | .int x :: r => zgo0 L (.long x.toInt64 :: r) h
  | _ => none
def zl2i (L : zLs) (S : List Value) (h : zIJ) : Option zO := match S with
  | .long x :: r => zgo0 L (.int x.toInt32 :: r) h
  | _ => none
def zrI (rt : Option FieldType) (L : zLs) (S : List Value) (h : zIJ) : Option zO := match S, rt with
  | [.int x], some .int => some (4, true, 0, [.int x], L, [], h)
  | [.int x], some .boolean => some (4, zbit x, 0, [.int x], L, [], h)
  | _, _ => none
def zrL (rt : Option FieldType) (L : zLs) (S : List Value) (h : zIJ) : Option zO := match S, rt with
  | [.long x], some .long => some (4, true, 0, [.long x], L, [], h)
  | _, _ => none
def zrV (rt : Option FieldType) (L : zLs) (S : List Value) (h : zIJ) : Option zO := match S, rt with
  | [], none => some (4, true, 0, [], L, [], h)
  | _, _ => none
def zcst (v : Value) (L : zLs) (S : List Value) (h : zIJ) : Option zO := match v with
  | .int x => zgo0 L (.int x :: S) h
  | .long x => zgo0 L (.long x :: S) h
  | _ => none
/-- the n topmost values, the deepest first, and what is below -/
def zpop : Nat → List Value → List Value → Option (List Value × List Value)
  | 0, acc, S => some (acc, S)
  | _ + 1, _, [] => none
  | n + 1, acc, v :: r => zpop n (v :: acc) r
def zcat (S : List Value) : Nat := match S with
  | [] => 0
  | v :: r => v.category + zcat r
def zjump (hs : List Nat) (L : zLs) (S : List Value) (h : zIJ) : Option zO := match hs with
  | [t] => some (1, true, t, [], L, S, h)
  | _ => none
/-- calls: numbers of help are callee, arguments, kind of answer, its level, class of the receiver, places of words -/
def zinv (virt : Bool) (hs : List Nat) (L : zLs) (S : List Value) (h : zIJ) : Option zO := match hs with
  | m :: na :: _ :: _ :: ci :: _ => (match zpop na [] S with
    | some (as, r) => cond (Nat.ble (zcat r) 8) (cond virt (match as with
      | .ref a :: _ => some (3, Nat.beq (zC a).1 ci, m, as, L, r, h)
      | _ => none) (some (3, true, m, as, L, r, h))) none
    | none => none)
  | _ => none
def zcpI (h : zIJ) (a sp d dp n : Nat) : zIJ := (zrow h.1 d (va_cpy (h.1 a) (h.1 d) sp dp n), h.2)
def zcpL (h : zIJ) (a sp d dp n : Nat) : zIJ := (h.1, zrow h.2 d (va_cpy (h.2 a) (h.2 d) sp dp n))
def zcpG (la ld : Nat) (sp dp n : Int32) : Bool := decide (0 ≤ sp.toInt ∧ 0 ≤ dp.toInt ∧ 0 ≤ n.toInt ∧ sp.toInt + n.toInt ≤ la ∧ dp.toInt + n.toInt ≤ ld)
def zcp (hs : List Nat) (L : zLs) (S : List Value) (h : zIJ) : Option zO := match S, hs with
  | .int n :: .int dp :: .ref d :: .int sp :: .ref a :: r, _ :: k :: _ => cond (Nat.ble (zcat r) 8) (cond (Nat.beq k 100)
      (zgoG (Nat.beq (zC a).1 100 && Nat.beq (zC d).1 100 && zcpG (zC a).2 (zC d).2 sp dp n) L r (zcpI h a sp.toNatClampNeg d dp.toNatClampNeg n.toNatClampNeg))
      (zgoG (Nat.beq (zC a).1 101 && Nat.beq (zC d).1 101 && zcpG (zC a).2 (zC d).2 sp dp n) L r (zcpL h a sp.toNatClampNeg d dp.toNatClampNeg n.toNatClampNeg))) none
  | _, _ => none
def zstat (hs : List Nat) (L : zLs) (S : List Value) (h : zIJ) : Option zO := match hs with
  | k :: _ => zgo0 L (.ref k :: S) h
  | _ => none
def zmxI (x y : Int32) : Int32 := if x < y then y else x
def zmnI (x y : Int32) : Int32 := if y < x then y else x
def zabI (x : Int32) : Int32 := if 0 ≤ x then x else 0 - x
def zmxL (x y : Int64) : Int64 := if y < x then x else y
def zmnL (x y : Int64) : Int64 := if y < x then y else x
def zm2I (f : Int32 → Int32 → Int32) (L : zLs) (S : List Value) (h : zIJ) : Option zO := match S with
  | .int y :: .int x :: r => cond (Nat.ble (zcat r) 8) (zgo0 L (.int (f x y) :: r) h) none
  | _ => none
def zm1I (f : Int32 → Int32) (L : zLs) (S : List Value) (h : zIJ) : Option zO := match S with
  | .int x :: r => cond (Nat.ble (zcat r) 8) (zgo0 L (.int (f x) :: r) h) none
  | _ => none
def zm2L (f : Int64 → Int64 → Int64) (L : zLs) (S : List Value) (h : zIJ) : Option zO := match S with
  | .long y :: .long x :: r => cond (Nat.ble (zcat r) 8) (zgo0 L (.long (f x y) :: r) h) none
  | _ => none
/-- what is no code of ours: 990 to 994 Math's max, min, abs of ints, max, min of longs; 999 System.arraycopy -/
def zbuilt (m : Nat) (hs : List Nat) (L : zLs) (S : List Value) (h : zIJ) : Option zO :=
  cond (Nat.beq m 990) (zm2I zmxI L S h) (cond (Nat.beq m 991) (zm2I zmnI L S h) (cond (Nat.beq m 992) (zm1I zabI L S h) (cond (Nat.beq m 993) (zm2L zmxL L S h) (cond (Nat.beq m 994) (zm2L zmnL L S h) (cond (Nat.beq m 999) (zcp hs L S h) none)))))
def zisv (hs : List Nat) (L : zLs) (S : List Value) (h : zIJ) : Option zO := match hs with
  | m :: _ => cond (Nat.ble 990 m) (zbuilt m hs L S h) (zinv false hs L S h)
  | _ => none
def zswi (L : zLs) (S : List Value) (h : zIJ) : Option zO := match S with
  | .int x :: r => some (5, true, 0, [.int x], L, r, h)
  | _ => none
def zex (n : Nat) (rt : Option FieldType) (e : zEn) (L : zLs) (S : List Value) (h : zIJ) : Option zO :=
  match e.2.1 with
  | .iconst _ => zcst e.2.2.2.2 L S h
  | .bipush _ => zcst e.2.2.2.2 L S h
  | .sipush _ => zcst e.2.2.2.2 L S h
  | .lconst _ => zcst e.2.2.2.2 L S h
  | .ldc _ => zcst e.2.2.2.2 L S h
  | .ldc_w _ => zcst e.2.2.2.2 L S h
  | .ldc2_w _ => zcst e.2.2.2.2 L S h
  | .iload_n i => zldI i L S h
  | .iload i => zldI i L S h
  | .lload_n i => zldL i L S h
  | .lload i => zldL i L S h
  | .aload_n i => zldA i L S h
  | .aload i => zldA i L S h
  | .istore_n i => zstI n i L S h
  | .istore i => zstI n i L S h
  | .lstore_n i => zstL n i L S h
  | .lstore i => zstL n i L S h
  | .astore_n i => zstA n i L S h
  | .astore i => zstA n i L S h
  | .iinc i _ => zinc n i e.2.2.2.2 L S h
  | .iadd => zbI (fun x y => x + y) L S h
  | .isub => zbI (fun x y => x - y) L S h
  | .imul => zbI (fun x y => x * y) L S h
  | .iand => zbI (fun x y => x &&& y) L S h
  | .ior => zbI (fun x y => x ||| y) L S h
  | .ixor => zbI (fun x y => x ^^^ y) L S h
  | .ishl => zbI (fun x y => x <<< (y &&& 31)) L S h
  | .ishr => zbI (fun x y => x >>> (y &&& 31)) L S h
  | .iushr => zbI (fun x y => (x.toUInt32 >>> (y.toUInt32 &&& Int32.toUInt32 31)).toInt32) L S h
  | .idiv => zdI (fun x y => x / y) L S h
  | .irem => zdI (fun x y => x - x / y * y) L S h
  | .ineg => zuI (fun x => -x) L S h
  | .ladd => zbL (fun x y => x + y) L S h
  | .lsub => zbL (fun x y => x - y) L S h
  | .lmul => zbL (fun x y => x * y) L S h
  | .land => zbL (fun x y => x &&& y) L S h
  | .lor => zbL (fun x y => x ||| y) L S h
  | .lxor => zbL (fun x y => x ^^^ y) L S h
  | .ldiv => zdL (fun x y => x / y) L S h
  | .lrem => zdL (fun x y => x - x / y * y) L S h
  | .lshl => zsh (fun x y => x <<< (y.toInt64 &&& 63)) L S h
  | .lshr => zsh (fun x y => x >>> (y.toInt64 &&& 63)) L S h
  | .lushr => zsh (fun x y => (x.toUInt64 >>> (y.toInt64.toUInt64 &&& Int64.toUInt64 63)).toInt64) L S h
  | .lcmp => zcmpS L S h
  | .i2l => zi2l L S h
  | .l2i => zl2i L S h
  | .i2b => zuI (fun x => x.toInt8.toInt32) L S h
  | .dup => zdup L S h
  | .dup2 => zdup2 L S h
  | .goto _ => zjump e.2.2.2.1 L S h
  | .ifCond c _ => (match c with
    | .eq => zif1 (fun x => decide (x = 0)) e.2.2.2.1 L S h
    | .ne => zif1 (fun x => !decide (x = 0)) e.2.2.2.1 L S h
    | .lt => zif1 (fun x => decide (x < 0)) e.2.2.2.1 L S h
    | .ge => zif1 (fun x => decide (0 ≤ x)) e.2.2.2.1 L S h
    | .gt => zif1 (fun x => decide (0 < x)) e.2.2.2.1 L S h
    | .le => zif1 (fun x => decide (x ≤ 0)) e.2.2.2.1 L S h)
  | .if_icmp c _ => (match c with
    | .eq => zif2 (fun x y => decide (x = y)) e.2.2.2.1 L S h
    | .ne => zif2 (fun x y => !decide (x = y)) e.2.2.2.1 L S h
    | .lt => zif2 (fun x y => decide (x < y)) e.2.2.2.1 L S h
    | .ge => zif2 (fun x y => decide (y ≤ x)) e.2.2.2.1 L S h
    | .gt => zif2 (fun x y => decide (y < x)) e.2.2.2.1 L S h
    | .le => zif2 (fun x y => decide (x ≤ y)) e.2.2.2.1 L S h)
  | .getfield _ => zgf e.2.2.2.1 L S h
  | .putfield _ => zpf e.2.2.2.1 L S h
  | .getstatic _ => zstat e.2.2.2.1 L S h
  | .iaload => zai L S h
  | .laload => zal L S h
  | .aaload => zaa L S h
  | .iastore => zsi L S h
  | .lastore => zsl L S h
  | .arraylength => zan L S h
  | .ireturn => zrI rt L S h
  | .lreturn => zrL rt L S h
  | .return_ => zrV rt L S h
  | .invokevirtual _ => zinv true e.2.2.2.1 L S h
  | .invokestatic _ => zisv e.2.2.2.1 L S h
  | .tableswitch _ _ _ _ => zswi L S h
  | _ => none
/-- cuts: a pc, and the locals that are still wanted there -/
abbrev zCu : Type := List (Nat × List Nat)
def zcut (t : Nat) : zCu → Option (List Nat)
  | [] => none
  | e :: r => cond (Nat.beq e.1 t) (some e.2) (zcut t r)
def zpick (L : zLs) : List Nat → Option (List Value)
  | [] => some []
  | i :: r => match zlv i L with
    | none => none
    | some v => match zpick L r with
      | none => none
      | some vs => some (v :: vs)
def zzip : List Nat → List Value → Option zLs
  | [], [] => some []
  | i :: r, v :: vs => match zzip r vs with
    | none => none
    | some L => some ((i, v) :: L)
  | _, _ => none
/-- what a call answers goes on -/
def zaV (r : Option zRes) (k : zIJ → Option zRes) : Option zRes := match r with
  | some (none, h) => k h
  | _ => none
def zaI (r : Option zRes) (k : Int32 → zIJ → Option zRes) : Option zRes := match r with
  | some (some (.int x), h) => k x h
  | _ => none
def zaL (r : Option zRes) (k : Int64 → zIJ → Option zRes) : Option zRes := match r with
  | some (some (.long x), h) => k x h
  | _ => none
def zgo (cu : zCu) (K : Nat → List Value → zIJ → Option zRes) (k : Nat → zLs → List Value → zIJ → Option zRes) (t : Nat) (L : zLs) (S : List Value) (h : zIJ) : Option zRes :=
  match zcut t cu with
  | some lv => (match S with
    | [] => (match zpick L lv with
      | some vs => K t vs h
      | none => none)
    | _ => none)
  | none => k t L S h
def zsw (x : Int32) (k : Nat → Option zRes) (dflt : Nat) : Int → List Nat → Option zRes
  | _, [] => k dflt
  | lo, t :: ts => cond (decide (x.toInt = lo)) (k t) (zsw x k dflt (lo + 1) ts)
def zdsw (as : List Value) (i : Instr) (hs : List Nat) (k : Nat → Option zRes) : Option zRes := match as, i, hs with
  | [.int x], .tableswitch _ lo _ _, d :: ts => zsw x k d lo ts
  | _, _, _ => none
/-- the level of a call: that of the method, and of the one that calls itself its depth too -/
def zlev (m lv : Nat) (as : List Value) : Nat := cond (Nat.beq m zLI) (match as with
  | [_, _, .int e] => e.toNatClampNeg + lv
  | _ => lv) lv
/-- one instruction and on -/
def zdo (n : Nat) (rt : Option FieldType) (lev : Nat) (cu : zCu) (K : Nat → List Value → zIJ → Option zRes) (C : Nat → List Value → zIJ → Option zRes) (e : zEn) (k : Nat → zLs → List Value → zIJ → Option zRes) (L : zLs) (S : List Value) (h : zIJ) : Option zRes :=
  match zex n rt e L S h with
  | none => none
  | some (tag, b, t, as, L', S', h') => match tag with
    | 0 => cond b (zgo cu K k e.2.2.1 L' S' h') none
    | 1 => zgo cu K k t L' S' h'
    | 2 => cond b (zgo cu K k t L' S' h') (zgo cu K k e.2.2.1 L' S' h')
    | 3 => (match e.2.2.2.1 with
      | _ :: _ :: rk :: lv :: _ => cond b (cond (Nat.blt (zlev t lv as) lev) (match rk with
        | 0 => zaV (C t as h') (fun h2 => zgo cu K k e.2.2.1 L' S' h2)
        | 1 => zaI (C t as h') (fun x h2 => zgo cu K k e.2.2.1 L' (.int x :: S') h2)
        | _ => zaL (C t as h') (fun x h2 => zgo cu K k e.2.2.1 L' (.long x :: S') h2)) none) none
      | _ => none)
    | 4 => cond b (match as with
      | [] => some (none, h')
      | v :: _ => some (some v, h')) none
    | _ => zdsw as e.2.1 e.2.2.2.1 (fun t2 => zgo cu K k t2 L' S' h')
/-- a block: from pc t on, forward, up to a cut or a return -/
def zblk (n : Nat) (rt : Option FieldType) (lev : Nat) (cu : zCu) (K : Nat → List Value → zIJ → Option zRes) (C : Nat → List Value → zIJ → Option zRes) : List zEn → Nat → zLs → List Value → zIJ → Option zRes
  | [], _, _, _, _ => none
  | e :: r, t, L, S, h => cond (Nat.beq e.1 t) (zdo n rt lev cu K C e (fun t2 L2 S2 h2 => zblk n rt lev cu K C r t2 L2 S2 h2) L S h) (zblk n rt lev cu K C r t L S h)
/-- a method: locals, what it returns, level, cuts (its entry is the first), code -/
abbrev zM : Type := Nat × Option FieldType × Nat × zCu × List zEn
def zat (M : zM) (lev : Nat) (K : Nat → List Value → zIJ → Option zRes) (C : Nat → List Value → zIJ → Option zRes) (pc : Nat) (vs : List Value) (h : zIJ) : Option zRes :=
  match pc with
  | 0 => cond (Nat.ble (zcat vs) M.1) (zblk M.1 M.2.1 lev M.2.2.2.1 K C M.2.2.2.2 0 (lv_args 0 vs) [] h) none
  | q + 1 => (match zcut (q + 1) M.2.2.2.1 with
    | none => none
    | some lv => (match zzip lv vs with
      | none => none
      | some L => zblk M.1 M.2.1 lev M.2.2.2.1 K C M.2.2.2.2 (q + 1) L [] h))
def zrun (Ms : Nat → zM) : Nat → Nat → Nat → List Value → zIJ → Option zRes
  | 0, _, _, _, _ => none
  | F + 1, m, pc, vs, h => zat (Ms m) (zlev m (Ms m).2.2.1 vs) (fun pc2 vs2 h2 => zrun Ms F m pc2 vs2 h2) (fun m2 as h2 => zrun Ms F m2 0 as h2) pc vs h
/-! the limit of runs, and its one equation -/
theorem zgo_mono {cu : zCu} {K K' : Nat → List Value → zIJ → Option zRes} {k k' : Nat → zLs → List Value → zIJ → Option zRes} (hK : ∀ t vs h x, K t vs h = some x → K' t vs h = some x) {t : Nat} {L : zLs} {S : List Value} {h : zIJ} {x : zRes} (hk : k t L S h = some x → k' t L S h = some x) (hx : zgo cu K k t L S h = some x) : zgo cu K' k' t L S h = some x := by
  unfold zgo at hx ⊢
  cases hc : zcut t cu with
  | none => rw [hc] at hx; exact hk hx
  | some lv =>
    rw [hc] at hx
    cases S with
    | cons a r => cases hx
    | nil =>
      cases hp : zpick L lv with
      | none => simp only [hp] at hx; cases hx
      | some vs => simp only [hp] at hx ⊢; exact hK _ _ _ _ hx
theorem zsw_mono {x : Int32} {k k' : Nat → Option zRes} {d : Nat} {r : zRes} (hk : ∀ t, k t = some r → k' t = some r) : ∀ (ts : List Nat) (lo : Int), zsw x k d lo ts = some r → zsw x k' d lo ts = some r
  | [], lo, h => hk _ h
  | t :: ts, lo, h => by
    unfold zsw at h ⊢
    cases hd : decide (x.toInt = lo) with
    | true => rw [hd] at h; exact hk _ h
    | false => rw [hd] at h; exact zsw_mono hk ts _ h
theorem zdsw_mono {as : List Value} {i : Instr} {hs : List Nat} {k k' : Nat → Option zRes} {r : zRes} (hk : ∀ t, k t = some r → k' t = some r) (hx : zdsw as i hs k = some r) : zdsw as i hs k' = some r := by
  unfold zdsw at hx ⊢
  split at hx
  · exact zsw_mono hk _ _ hx
  · cases hx
theorem zaV_mono {r r' : Option zRes} {k k' : zIJ → Option zRes} {x : zRes} (hr : ∀ y, r = some y → r' = some y) (hk : ∀ h, k h = some x → k' h = some x) (hx : zaV r k = some x) : zaV r' k' = some x := by
  cases r with
  | none => cases hx
  | some y =>
    rw [hr y rfl]
    obtain ⟨v, h⟩ := y
    cases v with
    | none => exact hk _ hx
    | some v => cases hx
theorem zaI_mono {r r' : Option zRes} {k k' : Int32 → zIJ → Option zRes} {x : zRes} (hr : ∀ y, r = some y → r' = some y) (hk : ∀ v h, k v h = some x → k' v h = some x) (hx : zaI r k = some x) : zaI r' k' = some x := by
  cases r with
  | none => cases hx
  | some y =>
    rw [hr y rfl]
    obtain ⟨v, h⟩ := y
    cases v with
    | none => cases hx
    | some v => cases v <;> first | exact hk _ _ hx | cases hx
theorem zaL_mono {r r' : Option zRes} {k k' : Int64 → zIJ → Option zRes} {x : zRes} (hr : ∀ y, r = some y → r' = some y) (hk : ∀ v h, k v h = some x → k' v h = some x) (hx : zaL r k = some x) : zaL r' k' = some x := by
  cases r with
  | none => cases hx
  | some y =>
    rw [hr y rfl]
    obtain ⟨v, h⟩ := y
    cases v with
    | none => cases hx
    | some v => cases v <;> first | exact hk _ _ hx | cases hx
theorem zcond {α : Type} {b : Bool} {x : α} {a : Option α} (h : cond b a none = some x) : b = true ∧ a = some x := by
  cases b with
  | true => exact ⟨rfl, h⟩
  | false => cases h
theorem zdo_mono {n : Nat} {rt : Option FieldType} {lev : Nat} {cu : zCu} {K K' C C' : Nat → List Value → zIJ → Option zRes} {e : zEn} {k k' : Nat → zLs → List Value → zIJ → Option zRes} {L : zLs} {S : List Value} {h : zIJ} {x : zRes}
    (hK : ∀ t vs h x, K t vs h = some x → K' t vs h = some x) (hC : ∀ t vs h x, C t vs h = some x → C' t vs h = some x) (hk : ∀ t L S h, k t L S h = some x → k' t L S h = some x) (hx : zdo n rt lev cu K C e k L S h = some x) : zdo n rt lev cu K' C' e k' L S h = some x := by
  unfold zdo at hx ⊢
  cases ho : zex n rt e L S h with
  | none => rw [ho] at hx; cases hx
  | some o =>
    rw [ho] at hx
    obtain ⟨tag, b, t, as, L', S', h'⟩ := o
    match tag, hx with
    | 0, hx =>
      obtain ⟨hb, hx⟩ := zcond hx
      subst hb
      exact zgo_mono hK (hk _ _ _ _) hx
    | 1, hx => exact zgo_mono hK (hk _ _ _ _) hx
    | 2, hx =>
      cases b with
      | true => exact zgo_mono hK (hk _ _ _ _) hx
      | false => exact zgo_mono hK (hk _ _ _ _) hx
    | 3, hx =>
      dsimp only at hx ⊢
      match hh : e.2.2.2.1, hx with
      | m :: na :: rk :: lv :: w, hx =>
        dsimp only at hx ⊢
        obtain ⟨hb, hx⟩ := zcond hx
        obtain ⟨hb2, hx⟩ := zcond hx
        rw [hb, hb2]
        match rk, hx with
        | 0, hx => exact zaV_mono (hC _ _ _) (fun _ => zgo_mono hK (hk _ _ _ _)) hx
        | 1, hx => exact zaI_mono (hC _ _ _) (fun _ _ => zgo_mono hK (hk _ _ _ _)) hx
        | _ + 2, hx => exact zaL_mono (hC _ _ _) (fun _ _ => zgo_mono hK (hk _ _ _ _)) hx
      | [], hx => cases hx
      | [_], hx => cases hx
      | [_, _], hx => cases hx
      | [_, _, _], hx => cases hx
    | 4, hx => exact hx
    | q + 5, hx =>
      have hx : zdsw as e.2.1 e.2.2.2.1 (fun t2 => zgo cu K k t2 L' S' h') = some x := hx
      show zdsw as e.2.1 e.2.2.2.1 (fun t2 => zgo cu K' k' t2 L' S' h') = some x
      exact zdsw_mono (fun t => zgo_mono hK (hk _ _ _ _)) hx
theorem zblk_mono {n : Nat} {rt : Option FieldType} {lev : Nat} {cu : zCu} {K K' C C' : Nat → List Value → zIJ → Option zRes} {x : zRes}
    (hK : ∀ t vs h x, K t vs h = some x → K' t vs h = some x) (hC : ∀ t vs h x, C t vs h = some x → C' t vs h = some x) : ∀ (co : List zEn) (t : Nat) (L : zLs) (S : List Value) (h : zIJ), zblk n rt lev cu K C co t L S h = some x → zblk n rt lev cu K' C' co t L S h = some x
  | [], _, _, _, _, hx => by cases hx
  | e :: r, t, L, S, h, hx => by
    unfold zblk at hx ⊢
    cases hb : Nat.beq e.1 t with
    | true => rw [hb] at hx; exact zdo_mono hK hC (zblk_mono hK hC r) hx
    | false => rw [hb] at hx; exact zblk_mono hK hC r _ _ _ _ hx
theorem zat_mono {M : zM} {lev : Nat} {K K' C C' : Nat → List Value → zIJ → Option zRes} {x : zRes} {pc : Nat} {vs : List Value} {h : zIJ}
    (hK : ∀ t vs h x, K t vs h = some x → K' t vs h = some x) (hC : ∀ t vs h x, C t vs h = some x → C' t vs h = some x) (hx : zat M lev K C pc vs h = some x) : zat M lev K' C' pc vs h = some x := by
  cases pc with
  | zero =>
    obtain ⟨hb, hx⟩ := zcond (show cond (Nat.ble (zcat vs) M.1) (zblk M.1 M.2.1 lev M.2.2.2.1 K C M.2.2.2.2 0 (lv_args 0 vs) [] h) none = some x from hx)
    show cond (Nat.ble (zcat vs) M.1) (zblk M.1 M.2.1 lev M.2.2.2.1 K' C' M.2.2.2.2 0 (lv_args 0 vs) [] h) none = some x
    rw [hb]
    exact zblk_mono hK hC _ _ _ _ _ hx
  | succ q =>
    unfold zat at hx ⊢
    dsimp only at hx ⊢
    cases h1 : zcut (q + 1) M.2.2.2.1 with
    | none => rw [h1] at hx; cases hx
    | some lv =>
      simp only [h1] at hx ⊢
      cases h2 : zzip lv vs with
      | none => rw [h2] at hx; cases hx
      | some L => rw [h2] at hx; exact zblk_mono hK hC _ _ _ _ _ hx
theorem zrun_s {Ms : Nat → zM} : ∀ (F m pc : Nat) (vs : List Value) (h : zIJ) (x : zRes), zrun Ms F m pc vs h = some x → zrun Ms (F + 1) m pc vs h = some x
  | 0, _, _, _, _, _, hx => by cases hx
  | F + 1, m, pc, vs, h, x, hx => zat_mono (fun t vs h x => zrun_s F m t vs h x) (fun t vs h x => zrun_s F t 0 vs h x) hx
theorem zrun_le {Ms : Nat → zM} {F G : Nat} (hle : F ≤ G) {m pc : Nat} {vs : List Value} {h : zIJ} {x : zRes} (hx : zrun Ms F m pc vs h = some x) : zrun Ms G m pc vs h = some x := by
  induction hle with
  | refl => exact hx
  | step _ ih => exact zrun_s _ _ _ _ _ _ ih
/-- a rising row of functions and its limit -/
def zUp {α β : Type} (f : Nat → α → Option β) : Prop := ∀ F G a x, F ≤ G → f F a = some x → f G a = some x
theorem zgo_lim {cu : zCu} {K : Nat → List Value → zIJ → Option zRes} {KF : Nat → Nat → List Value → zIJ → Option zRes} {k : Nat → zLs → List Value → zIJ → Option zRes} {kF : Nat → Nat → zLs → List Value → zIJ → Option zRes}
    (hK : ∀ t vs h x, K t vs h = some x → ∃ F, KF F t vs h = some x) {t : Nat} {L : zLs} {S : List Value} {h : zIJ} {x : zRes} (hk : k t L S h = some x → ∃ F, kF F t L S h = some x) (hx : zgo cu K k t L S h = some x) : ∃ F, zgo cu (KF F) (kF F) t L S h = some x := by
  unfold zgo at hx ⊢
  cases hc : zcut t cu with
  | none => rw [hc] at hx; exact hk hx
  | some lv =>
    rw [hc] at hx
    cases S with
    | cons a r => cases hx
    | nil =>
      cases hp : zpick L lv with
      | none => simp only [hp] at hx; cases hx
      | some vs => simp only [hp] at hx ⊢; exact hK _ _ _ _ hx
theorem zsw_lim {x : Int32} {k : Nat → Option zRes} {kF : Nat → Nat → Option zRes} {d : Nat} {r : zRes} (hk : ∀ t, k t = some r → ∃ F, kF F t = some r) : ∀ (ts : List Nat) (lo : Int), zsw x k d lo ts = some r → ∃ F, zsw x (kF F) d lo ts = some r
  | [], lo, h => hk _ h
  | t :: ts, lo, h => by
    unfold zsw at h ⊢
    cases hd : decide (x.toInt = lo) with
    | true => rw [hd] at h; exact hk _ h
    | false => rw [hd] at h; exact zsw_lim hk ts _ h
theorem zdsw_lim {as : List Value} {i : Instr} {hs : List Nat} {k : Nat → Option zRes} {kF : Nat → Nat → Option zRes} {r : zRes} (hk : ∀ t, k t = some r → ∃ F, kF F t = some r) (hx : zdsw as i hs k = some r) : ∃ F, zdsw as i hs (kF F) = some r := by
  unfold zdsw at hx ⊢
  split at hx
  · exact zsw_lim hk _ _ hx
  · cases hx
theorem zdo_lim {n : Nat} {rt : Option FieldType} {lev : Nat} {cu : zCu} {K C : Nat → List Value → zIJ → Option zRes} {KF CF : Nat → Nat → List Value → zIJ → Option zRes} {e : zEn} {k : Nat → zLs → List Value → zIJ → Option zRes} {kF : Nat → Nat → zLs → List Value → zIJ → Option zRes} {L : zLs} {S : List Value} {h : zIJ} {x : zRes}
    (mK : ∀ F G t vs h x, F ≤ G → KF F t vs h = some x → KF G t vs h = some x) (mC : ∀ F G t vs h x, F ≤ G → CF F t vs h = some x → CF G t vs h = some x) (mk : ∀ F G t L S h, F ≤ G → kF F t L S h = some x → kF G t L S h = some x)
    (hK : ∀ t vs h x, K t vs h = some x → ∃ F, KF F t vs h = some x) (hC : ∀ t vs h x, C t vs h = some x → ∃ F, CF F t vs h = some x) (hk : ∀ t L S h, k t L S h = some x → ∃ F, kF F t L S h = some x) (hx : zdo n rt lev cu K C e k L S h = some x) : ∃ F, zdo n rt lev cu (KF F) (CF F) e (kF F) L S h = some x := by
  unfold zdo at hx ⊢
  cases ho : zex n rt e L S h with
  | none => rw [ho] at hx; cases hx
  | some o =>
    rw [ho] at hx
    obtain ⟨tag, b, t, as, L', S', h'⟩ := o
    match tag, hx with
    | 0, hx =>
      obtain ⟨hb, hx⟩ := zcond hx
      subst hb
      exact zgo_lim hK (hk _ _ _ _) hx
    | 1, hx => exact zgo_lim hK (hk _ _ _ _) hx
    | 2, hx =>
      cases b with
      | true => exact zgo_lim hK (hk _ _ _ _) hx
      | false => exact zgo_lim hK (hk _ _ _ _) hx
    | 3, hx =>
      dsimp only at hx ⊢
      match hh : e.2.2.2.1, hx with
      | m :: na :: rk :: lv :: w, hx =>
        dsimp only at hx ⊢
        obtain ⟨hb, hx⟩ := zcond hx
        obtain ⟨hb2, hx⟩ := zcond hx
        rw [hb, hb2]
        cases hr : C t as h' with
        | none =>
          rw [hr] at hx
          match rk, hx with
          | 0, hx => cases hx
          | 1, hx => cases hx
          | _ + 2, hx => cases hx
        | some y =>
          obtain ⟨F1, h1⟩ := hC _ _ _ _ hr
          obtain ⟨v, h2⟩ := y
          rw [hr] at hx
          match rk, v, hx with
          | 0, none, hx =>
            obtain ⟨F2, h3⟩ := zgo_lim hK (hk _ _ _ _) hx
            refine ⟨max F1 F2, ?_⟩
            show zaV (CF (max F1 F2) t as h') _ = some x
            rw [mC _ _ _ _ _ _ (Nat.le_max_left _ _) h1]
            exact zgo_mono (fun t vs h x => mK F2 (max F1 F2) t vs h x (Nat.le_max_right _ _)) (mk F2 (max F1 F2) _ _ _ _ (Nat.le_max_right _ _)) h3
          | 0, some v, hx => cases hx
          | 1, none, hx => cases hx
          | 1, some (.int z), hx =>
            have hx : zgo cu K k e.2.2.1 L' (.int z :: S') h2 = some x := hx
            obtain ⟨F2, h3⟩ := zgo_lim hK (hk _ _ _ _) hx
            refine ⟨max F1 F2, ?_⟩
            show zaI (CF (max F1 F2) t as h') _ = some x
            rw [mC _ _ _ _ _ _ (Nat.le_max_left _ _) h1]
            exact zgo_mono (fun t vs h x => mK F2 (max F1 F2) t vs h x (Nat.le_max_right _ _)) (mk F2 (max F1 F2) _ _ _ _ (Nat.le_max_right _ _)) h3
          | 1, some (.long z), hx => cases hx
          | 1, some (.float z), hx => cases hx
          | 1, some (.double z), hx => cases hx
          | 1, some .null, hx => cases hx
          | 1, some (.ref z), hx => cases hx
          | 1, some (.retAddr z), hx => cases hx
          | _ + 2, none, hx => cases hx
          | _ + 2, some (.long z), hx =>
            have hx : zgo cu K k e.2.2.1 L' (.long z :: S') h2 = some x := hx
            obtain ⟨F2, h3⟩ := zgo_lim hK (hk _ _ _ _) hx
            refine ⟨max F1 F2, ?_⟩
            show zaL (CF (max F1 F2) t as h') _ = some x
            rw [mC _ _ _ _ _ _ (Nat.le_max_left _ _) h1]
            exact zgo_mono (fun t vs h x => mK F2 (max F1 F2) t vs h x (Nat.le_max_right _ _)) (mk F2 (max F1 F2) _ _ _ _ (Nat.le_max_right _ _)) h3
          | _ + 2, some (.int z), hx => cases hx
          | _ + 2, some (.float z), hx => cases hx
          | _ + 2, some (.double z), hx => cases hx
          | _ + 2, some .null, hx => cases hx
          | _ + 2, some (.ref z), hx => cases hx
          | _ + 2, some (.retAddr z), hx => cases hx
      | [], hx => cases hx
      | [_], hx => cases hx
      | [_, _], hx => cases hx
      | [_, _, _], hx => cases hx
    | 4, hx => exact ⟨0, hx⟩
    | q + 5, hx =>
      have hx : zdsw as e.2.1 e.2.2.2.1 (fun t2 => zgo cu K k t2 L' S' h') = some x := hx
      show ∃ F, zdsw as e.2.1 e.2.2.2.1 (fun t2 => zgo cu (KF F) (kF F) t2 L' S' h') = some x
      exact zdsw_lim (kF := fun F t2 => zgo cu (KF F) (kF F) t2 L' S' h') (fun t => zgo_lim hK (hk _ _ _ _)) hx
theorem zblk_lim {n : Nat} {rt : Option FieldType} {lev : Nat} {cu : zCu} {K C : Nat → List Value → zIJ → Option zRes} {KF CF : Nat → Nat → List Value → zIJ → Option zRes} {x : zRes}
    (mK : ∀ F G t vs h x, F ≤ G → KF F t vs h = some x → KF G t vs h = some x) (mC : ∀ F G t vs h x, F ≤ G → CF F t vs h = some x → CF G t vs h = some x)
    (hK : ∀ t vs h x, K t vs h = some x → ∃ F, KF F t vs h = some x) (hC : ∀ t vs h x, C t vs h = some x → ∃ F, CF F t vs h = some x) : ∀ (co : List zEn) (t : Nat) (L : zLs) (S : List Value) (h : zIJ), zblk n rt lev cu K C co t L S h = some x → ∃ F, zblk n rt lev cu (KF F) (CF F) co t L S h = some x
  | [], _, _, _, _, hx => by cases hx
  | e :: r, t, L, S, h, hx => by
    unfold zblk at hx ⊢
    cases hb : Nat.beq e.1 t with
    | true =>
      rw [hb] at hx
      exact zdo_lim (kF := fun F t2 L2 S2 h2 => zblk n rt lev cu (KF F) (CF F) r t2 L2 S2 h2) mK mC (fun F G t L S h hle => zblk_mono (fun t vs h x => mK _ _ t vs h x hle) (fun t vs h x => mC _ _ t vs h x hle) r t L S h) hK hC (zblk_lim mK mC hK hC r) hx
    | false => rw [hb] at hx; exact zblk_lim mK mC hK hC r _ _ _ _ hx
/-- what a method's part from pc on answers, if it ends -/
noncomputable def zevM (Ms : Nat → zM) (m pc : Nat) (vs : List Value) (h : zIJ) : Option zRes := by
  classical exact if hx : ∃ x, ∃ F, zrun Ms F m pc vs h = some x then some (Classical.choose hx) else none
theorem zevM_of {Ms : Nat → zM} {F m pc : Nat} {vs : List Value} {h : zIJ} {x : zRes} (hx : zrun Ms F m pc vs h = some x) : zevM Ms m pc vs h = some x := by
  unfold zevM
  have he : ∃ x, ∃ F, zrun Ms F m pc vs h = some x := ⟨x, F, hx⟩
  rw [dif_pos he]
  obtain ⟨G, hG⟩ := Classical.choose_spec he
  have a := zrun_le (Nat.le_max_left F G) hx
  have b := zrun_le (Nat.le_max_right F G) hG
  rw [a] at b
  exact b.symm
theorem zevM_run {Ms : Nat → zM} {m pc : Nat} {vs : List Value} {h : zIJ} {x : zRes} (hx : zevM Ms m pc vs h = some x) : ∃ F, zrun Ms F m pc vs h = some x := by
  unfold zevM at hx
  split at hx
  · rename_i he
    have e := Option.some.inj hx
    rw [← e]
    exact Classical.choose_spec he
  · cases hx
theorem zevM_eq (Ms : Nat → zM) (m pc : Nat) (vs : List Value) (h : zIJ) : zevM Ms m pc vs h = zat (Ms m) (zlev m (Ms m).2.2.1 vs) (fun pc2 vs2 h2 => zevM Ms m pc2 vs2 h2) (fun m2 as h2 => zevM Ms m2 0 as h2) pc vs h := by
  apply Option.ext
  intro x
  constructor
  · intro hx
    obtain ⟨F, hF⟩ := zevM_run hx
    cases F with
    | zero => cases hF
    | succ F => exact zat_mono (fun t vs h x hh => zevM_of hh) (fun t vs h x hh => zevM_of hh) hF
  · intro hx
    have key : ∀ (t : Nat) (L : zLs), zblk (Ms m).1 (Ms m).2.1 (zlev m (Ms m).2.2.1 vs) (Ms m).2.2.2.1 (fun pc2 vs2 h2 => zevM Ms m pc2 vs2 h2) (fun m2 as h2 => zevM Ms m2 0 as h2) (Ms m).2.2.2.2 t L [] h = some x → ∃ F, zblk (Ms m).1 (Ms m).2.1 (zlev m (Ms m).2.2.1 vs) (Ms m).2.2.2.1 (fun pc2 vs2 h2 => zrun Ms F m pc2 vs2 h2) (fun m2 as h2 => zrun Ms F m2 0 as h2) (Ms m).2.2.2.2 t L [] h = some x :=
      fun t L hx => zblk_lim (KF := fun F pc2 vs2 h2 => zrun Ms F m pc2 vs2 h2) (CF := fun F m2 as h2 => zrun Ms F m2 0 as h2) (fun F G t vs h x hle hh => zrun_le hle hh) (fun F G t vs h x hle hh => zrun_le hle hh) (fun t vs h x hh => zevM_run hh) (fun t vs h x hh => zevM_run hh) _ _ _ _ _ hx
    cases pc with
    | zero =>
      obtain ⟨hb, hx⟩ := zcond (show cond (Nat.ble (zcat vs) (Ms m).1) (zblk (Ms m).1 (Ms m).2.1 (zlev m (Ms m).2.2.1 vs) (Ms m).2.2.2.1 _ _ (Ms m).2.2.2.2 0 (lv_args 0 vs) [] h) none = some x from hx)
      obtain ⟨F, hF⟩ := key _ _ hx
      refine zevM_of (F := F + 1) ?_
      show cond (Nat.ble (zcat vs) (Ms m).1) (zblk (Ms m).1 (Ms m).2.1 (zlev m (Ms m).2.2.1 vs) (Ms m).2.2.2.1 _ _ (Ms m).2.2.2.2 0 (lv_args 0 vs) [] h) none = some x
      rw [hb]
      exact hF
    | succ q =>
      unfold zat at hx
      dsimp only at hx
      cases h1 : zcut (q + 1) (Ms m).2.2.2.1 with
      | none => rw [h1] at hx; cases hx
      | some lv =>
        simp only [h1] at hx
        cases h2 : zzip lv vs with
        | none => rw [h2] at hx; cases hx
        | some L =>
          rw [h2] at hx
          obtain ⟨F, hF⟩ := key _ _ hx
          refine zevM_of (F := F + 1) ?_
          show zat (Ms m) _ _ _ (q + 1) vs h = some x
          unfold zat
          simp only [h1, h2]
          exact hF
