/-! THE MACHINE OF MAKING ("y"): the cells come in the order of the layout; N are there; which references are set; which ints are written. -/
abbrev yS : Type := Nat × List (Nat × Nat) × List (Nat × Nat × Int32)
def yI : List (Nat × Nat × Int32) → Nat → Nat → Int32
  | [], _, _ => 0
  | (a, b, x) :: r, k, j => cond (Nat.beq a k && Nat.beq b j) x (yI r k j)
def yA : List (Nat × Nat) → Nat → Nat → Bool
  | [], _, _ => false
  | (a, b) :: r, k, j => cond (Nat.beq a k && Nat.beq b j) true (yA r k j)
def yg (x0 : Nat → Int32) (V : List (Nat × Nat × Int32)) : zIJ := (fun k j => cond (Nat.beq k 0) (x0 j) (yI V k j), fun _ _ => 0)
def yrv (A : List (Nat × Nat)) (k j : Nat) : Value := cond (yA A k j) (.ref (zRf k j)) .null
def yfv (g : zIJ) (A : List (Nat × Nat)) (k j : Nat) (ty : FieldType) : Value := match ty with
  | .int => .int (g.1 k j)
  | .boolean => .int (g.1 k j)
  | .long => .long (g.2 k j)
  | _ => yrv A k j
def yref (ty : FieldType) : Bool := match ty with
  | .int => false
  | .boolean => false
  | .long => false
  | _ => true
def yall (N kd k : Nat) : Nat → Bool
  | 0 => true
  | i + 1 => decide (zC (N + 1 + i) = (kd, k)) && (Nat.beq (zRf N i) (N + 1 + i) && yall N kd k i)
abbrev yO : Type := Nat × zLs × List Value × yS
def yput (ci j a : Nat) (v : Value) (nx : Nat) (L : zLs) (r : List Value) (st : yS) : Option yO := match v with
  | .int x => cond (decide (zty ci j = .int) || (decide (zty ci j = .boolean) && zbit x)) (some (nx, L, r, (st.1, st.2.1, (a, j, x) :: st.2.2))) none
  | .long x => cond (decide (zty ci j = .long) && decide (x = 0)) (some (nx, L, r, st)) none
  | .ref b => cond (yref (zty ci j) && (Nat.beq (zRf a j) b)) (some (nx, L, r, (st.1, (a, j) :: st.2.1, st.2.2))) none
  | _ => none
def yex (n : Nat) (e : zEn) (L : zLs) (S : List Value) (st : yS) : Option yO := match e with
  | (_, .iconst _, nx, _, .int x) => some (nx, L, .int x :: S, st)
  | (_, .bipush _, nx, _, .int x) => some (nx, L, .int x :: S, st)
  | (_, .sipush _, nx, _, .int x) => some (nx, L, .int x :: S, st)
  | (_, .lconst _, nx, _, .long x) => some (nx, L, .long x :: S, st)
  | (_, .aload_n i, nx, _, _) => (match zlv i L with
    | some (.ref a) => some (nx, L, .ref a :: S, st)
    | _ => none)
  | (_, .iload_n i, nx, _, _) => (match zlv i L with
    | some (.int a) => some (nx, L, .int a :: S, st)
    | _ => none)
  | (_, .istore_n i, nx, _, _) => (match S with
    | .int x :: r => cond (Nat.blt i n) (some (nx, zst L i (.int x), r, st)) none
    | _ => none)
  | (_, .astore_n i, nx, _, _) => (match S with
    | .ref x :: r => cond (Nat.blt i n) (some (nx, zst L i (.ref x), r, st)) none
    | _ => none)
  | (_, .iinc i _, nx, _, .int d) => (match zlv i L with
    | some (.int x) => cond (Nat.blt i n) (some (nx, zst L i (.int (x + d)), S, st)) none
    | _ => none)
  | (_, .dup, nx, _, _) => (match S with
    | .ref a :: r => some (nx, L, .ref a :: .ref a :: r, st)
    | _ => none)
  | (_, .if_icmp .ge _, nx, [t], _) => (match S with
    | .int y :: .int x :: r => some (cond (decide (y ≤ x)) t nx, L, r, st)
    | _ => none)
  | (_, .goto _, _, [t], _) => some (t, L, S, st)
  | (_, .new _, nx, ci :: nf :: _, _) => cond (decide (zC st.1 = (ci, nf))) (some (nx, L, .ref st.1 :: S, (st.1 + 1, st.2))) none
  | (_, .newarray _, nx, kd :: _, _) => (match S with
    | .int len :: r => cond (decide (0 ≤ len.toInt) && decide (zC st.1 = (kd, len.toNatClampNeg))) (some (nx, L, .ref st.1 :: r, (st.1 + 1, st.2))) none
    | _ => none)
  | (_, .anewarray _, nx, kd :: _, _) => (match S with
    | .int len :: r => cond (decide (0 ≤ len.toInt) && decide (zC st.1 = (kd, len.toNatClampNeg))) (some (nx, L, .ref st.1 :: r, (st.1 + 1, st.2))) none
    | _ => none)
  | (_, .multianewarray _ _, nx, kd :: ki :: _, _) => (match S with
    | .int k :: .int c :: r => cond ((decide (0 < c.toInt) && decide (0 ≤ k.toInt)) && (decide (zC st.1 = (kd, c.toNatClampNeg)) && yall st.1 ki k.toNatClampNeg c.toNatClampNeg)) (some (nx, L, .ref st.1 :: r, (st.1 + (1 + c.toNatClampNeg), (List.range c.toNatClampNeg).map (fun i => (st.1, i)) ++ st.2.1, st.2.2))) none
    | _ => none)
  | (_, .putfield _, nx, ci :: j :: _, _) => (match S with
    | v :: .ref a :: r => cond (Nat.beq (zC a).1 ci && Nat.blt a st.1) (yput ci j a v nx L r st) none
    | _ => none)
  | (_, .getfield _, nx, ci :: j :: _, _) => (match S with
    | .ref a :: r => cond (Nat.beq (zC a).1 ci && (Nat.blt a st.1 && (yref (zty ci j) && yA st.2.1 a j))) (some (nx, L, .ref (zRf a j) :: r, st)) none
    | _ => none)
  | (_, .iastore, nx, _, _) => (match S with
    | .int x :: .int i :: .ref a :: r => cond (Nat.beq (zC a).1 100 && (Nat.blt a st.1 && zin i (zC a).2)) (some (nx, L, r, (st.1, st.2.1, (a, i.toNatClampNeg, x) :: st.2.2))) none
    | _ => none)
  | (_, .aastore, nx, _, _) => (match S with
    | .ref v :: .int i :: .ref a :: r => cond (((Nat.beq (zC a).1 102 && Nat.beq (zC v).1 0) || (Nat.beq (zC a).1 103 && Nat.beq (zC v).1 8)) && ((Nat.blt a st.1 && Nat.blt v st.1) && (zin i (zC a).2 && Nat.beq (zRf a i.toNatClampNeg) v))) (some (nx, L, r, (st.1, (a, i.toNatClampNeg) :: st.2.1, st.2.2))) none
    | _ => none)
  | _ => none
def ylk (pc : Nat) : List zEn → Option zEn
  | [] => none
  | e :: r => cond (Nat.beq e.1 pc) (some e) (ylk pc r)
/-- a constructor of class ci from pc on, up to its end -/
def yrun : Nat → Nat → Nat → zLs → List Value → yS → Option yS
  | 0, _, _, _, _, _ => none
  | F + 1, ci, pc, L, S, st => match ylk pc (yMs ci).2 with
    | none => none
    | some e => match e.2.1, e.2.2.2.1, S with
      | .return_, _, [] => some st
      | .invokespecial _, q :: _, .ref a :: r => cond (Nat.beq q 998) (cond (Nat.ble (zcat r) 8) (yrun F ci e.2.2.1 L r st) none) (cond (Nat.blt q 13 && (Nat.beq (zC a).1 q && (Nat.blt a st.1 && Nat.ble (zcat r) 8))) (match yrun F q 0 [(0, .ref a)] [] st with
        | none => none
        | some st2 => yrun F ci e.2.2.1 L r st2) none)
      | _, _, _ => match yex (yMs ci).1 e L S st with
        | none => none
        | some o => yrun F ci o.1 o.2.1 o.2.2.1 o.2.2.2
/-- what stands when both are made -/
def yEnd (st : yS) : Bool := Nat.beq st.1 zNc && ((List.range zNc).all (fun k => cond (Nat.blt (zC k).1 100) ((List.range (zC k).2).all (fun j => !yref (zty (zC k).1 j) || yA st.2.1 k j)) (cond (zisR (zC k).1) ((List.range (zC k).2).all (fun j => yA st.2.1 k j)) true)))
def yMake : Option yS := match yrun 1000 11 0 [(0, .ref 3)] [] (4, [], []) with
  | none => none
  | some st => cond (decide (zC st.1 = (12, 30))) (yrun 1000 12 0 [(0, .ref st.1)] [] (st.1 + 1, st.2)) none
theorem yMake_ok : (match yMake with | none => false | some st => yEnd st) = true := by decide +kernel
