/-! THE ABSTRACT MACHINE ("z"): heap, frames, blocks of straight code, and the judgement zY over the kit's W. -/
/-- words that a method may hand on to the methods that it calls -/
def zTG : List Cond := lw_tbl.filter goodWord
theorem zTG_in {w : Cond} (h : w ∈ lw_tbl) (hg : goodWord w = true) : w ∈ zTG := List.mem_filter.mpr ⟨h, hg⟩
theorem zTG_sub {w : Cond} (h : w ∈ zTG) : w ∈ lw_tbl := (List.mem_filter.mp h).1
theorem zTG_good : GoodIn zTG zTG := fun _ h => ⟨h, good_of_word (List.mem_filter.mp h).2⟩
/-- an entry of a method's code: pc, instruction, length, three numbers of help, a constant -/
abbrev zEn : Type := Nat × Instr × Nat × (Nat × Nat × Nat) × Value
/-- a method: name, bytes, locals, what it returns, its code -/
abbrev zM : Type := MethodName × ByteArray × Nat × Option FieldType × List zEn
/-- the heap: cells (kind, length), ints, longs, references by cell and place -/
abbrev zH : Type := List (Nat × Nat) × (Nat → Nat → Int32) × (Nat → Nat → Int64) × (Nat → Nat → Option Nat)
/-- the addresses of script and tables, classes and slots, array classes, the heap at the law's start -/
abbrev zE : Type := (Nat × Nat × Nat) × va_G × (Nat → ClassId) × Heap
abbrev zLs : Type := List (Nat × Value)
def zad (E : zE) (k : Nat) : Nat := if k = 0 then E.1.1 else if k = 1 then E.1.2.1 else if k = 2 then E.1.2.2 else E.2.2.2.size + (k - 3)
def zv (E : zE) (v : Value) : Value := match v with
  | .ref k => .ref (zad E k)
  | w => w
def zl (E : zE) (L : zLs) : zLs := L.map (fun q => (q.1, zv E q.2))
/-- place k of a list -/
def zget {α : Type} : List α → Nat → Option α
  | [], _ => none
  | a :: _, 0 => some a
  | _ :: r, n + 1 => zget r n
theorem zget_eq {α : Type} : ∀ (l : List α) (k : Nat), zget l k = l[k]?
  | [], k => by simp [zget]
  | a :: r, 0 => by simp [zget]
  | a :: r, k + 1 => by simp [zget, zget_eq r k]
def zlk (pc : Nat) : List zEn → Option (Instr × Nat × (Nat × Nat × Nat) × Value)
  | [] => none
  | e :: r => cond (Nat.beq e.1 pc) (some e.2) (zlk pc r)
theorem zlk_mem {pc : Nat} {q : Instr × Nat × (Nat × Nat × Nat) × Value} : ∀ {co : List zEn}, zlk pc co = some q → (pc, q) ∈ co
  | [], h => by cases h
  | e :: r, h => by
    unfold zlk at h
    cases hb : Nat.beq e.1 pc with
    | true =>
      rw [hb] at h
      have h1 : e.2 = q := Option.some.inj h
      have h2 : e.1 = pc := Nat.eq_of_beq_eq_true hb
      rw [← h1, ← h2]
      exact List.mem_cons_self
    | false =>
      rw [hb] at h
      exact List.mem_cons_of_mem _ (zlk_mem h)
def zlv (i : Nat) : zLs → Option Value
  | [] => none
  | e :: r => cond (Nat.beq e.1 i) (some e.2) (zlv i r)
theorem zlv_mem {i : Nat} {v : Value} : ∀ {L : zLs}, zlv i L = some v → (i, v) ∈ L
  | [], h => by cases h
  | e :: r, h => by
    unfold zlv at h
    cases hb : Nat.beq e.1 i with
    | true =>
      rw [hb] at h
      have h1 : e.2 = v := Option.some.inj h
      have h2 : e.1 = i := Nat.eq_of_beq_eq_true hb
      rw [← h1, ← h2]
      exact List.mem_cons_self
    | false =>
      rw [hb] at h
      exact List.mem_cons_of_mem _ (zlv_mem h)
/-- stores of one word, of two words -/
def zst (L : zLs) (i : Nat) (v : Value) : zLs := (i, v) :: L.filter (fun q => !(q.1 == i) && !(q.1 + 1 == i && q.2.category == 2))
def zst2 (L : zLs) (i : Nat) (v : Value) : zLs := (i, v) :: L.filter (fun q => !(q.1 == i) && (!(q.1 == i + 1) && !(q.1 + 1 == i && q.2.category == 2)))
/-- the field types of the classes by their numbers -/
def zty (ci k : Nat) : FieldType := match ci with
  | 0 => tyX0 k
  | 1 => tyX1 k
  | 2 => tyX2 k
  | 3 => tyX3 k
  | 4 => tyX4 k
  | 5 => tyX5 k
  | 6 => tyX6 k
  | 7 => tyX7 k
  | 8 => tyX8 k
  | 9 => tyX9 k
  | 10 => tyX10 k
  | 11 => tyX11 k
  | _ => tyX12 k
def zrf (r : Option Nat) : Value := match r with
  | some a => .ref a
  | none => .null
/-- the value of field j of cell k, of that type -/
def zfv (h : zH) (k j : Nat) (ty : FieldType) : Value := match ty with
  | .int => .int (h.2.1 k j)
  | .boolean => .int (h.2.1 k j)
  | .long => .long (h.2.2.1 k j)
  | _ => zrf (h.2.2.2 k j)
def zup {α : Type} (f : Nat → Nat → α) (k j : Nat) (x : α) : Nat → Nat → α := fun a b => if a = k then (if b = j then x else f a b) else f a b
def zsI (h : zH) (k j : Nat) (x : Int32) : zH := (h.1, zup h.2.1 k j x, h.2.2)
def zsL (h : zH) (k j : Nat) (x : Int64) : zH := (h.1, h.2.1, zup h.2.2.1 k j x, h.2.2.2)
def zsR (h : zH) (k j : Nat) (x : Option Nat) : zH := (h.1, h.2.1, h.2.2.1, zup h.2.2.2 k j x)
def zlt (h : zH) (a ci : Nat) : Bool := match zget h.1 a with
  | some q => Nat.beq q.1 ci
  | none => false
abbrev zKn : Type := Nat → zLs → List Value → zH → Prop
abbrev zKr : Type := Option Value → zH → Prop
def zbI (f : Int32 → Int32 → Int32) (S : List Value) (k : List Value → Prop) : Prop := match S with
  | .int y :: .int x :: r => k (.int (f x y) :: r)
  | _ => False
def zbL (f : Int64 → Int64 → Int64) (S : List Value) (k : List Value → Prop) : Prop := match S with
  | .long y :: .long x :: r => k (.long (f x y) :: r)
  | _ => False
def zsh (f : Int64 → Int32 → Int64) (S : List Value) (k : List Value → Prop) : Prop := match S with
  | .int y :: .long x :: r => k (.long (f x y) :: r)
  | _ => False
def zif (P : Int32 → Prop) (S : List Value) (kt kf : List Value → Prop) : Prop := match S with
  | .int x :: r => (P x → kt r) ∧ (¬ P x → kf r)
  | _ => False
def zic (P : Int32 → Int32 → Prop) (S : List Value) (kt kf : List Value → Prop) : Prop := match S with
  | .int y :: .int x :: r => (P x y → kt r) ∧ (¬ P x y → kf r)
  | _ => False
def zldI (L : zLs) (i : Nat) (k : Value → Prop) : Prop := match zlv i L with
  | some (.int x) => k (.int x)
  | _ => False
def zldL (L : zLs) (i : Nat) (k : Value → Prop) : Prop := match zlv i L with
  | some (.long x) => k (.long x)
  | _ => False
def zldA (L : zLs) (i : Nat) (k : Value → Prop) : Prop := match zlv i L with
  | some (.ref x) => k (.ref x)
  | some .null => k .null
  | _ => False
def zstI (n : Nat) (L : zLs) (i : Nat) (S : List Value) (k : zLs → List Value → Prop) : Prop := match S with
  | .int x :: r => i < n ∧ k (zst L i (.int x)) r
  | _ => False
def zstL (n : Nat) (L : zLs) (i : Nat) (S : List Value) (k : zLs → List Value → Prop) : Prop := match S with
  | .long x :: r => i + 1 < n ∧ k (zst2 L i (.long x)) r
  | _ => False
def zstA (n : Nat) (L : zLs) (i : Nat) (S : List Value) (k : zLs → List Value → Prop) : Prop := match S with
  | .ref x :: r => i < n ∧ k (zst L i (.ref x)) r
  | .null :: r => i < n ∧ k (zst L i .null) r
  | _ => False
def zgf (h : zH) (ci j : Nat) (S : List Value) (k : List Value → Prop) : Prop := match S with
  | .ref a :: r => cond (zlt h a ci) (k (zfv h a j (zty ci j) :: r)) False
  | _ => False
def zpfT (ty : FieldType) (h : zH) (a j : Nat) (v : Value) (k : zH → Prop) : Prop := match ty, v with
  | .int, .int x => k (zsI h a j x)
  | .boolean, .int x => (x = 0 ∨ x = 1) ∧ k (zsI h a j x)
  | .long, .long x => k (zsL h a j x)
  | _, _ => False
def zpf (h : zH) (ci j : Nat) (S : List Value) (k : List Value → zH → Prop) : Prop := match S with
  | v :: .ref a :: r => cond (zlt h a ci) (zpfT (zty ci j) h a j v (k r)) False
  | _ => False
def zai (h : zH) (S : List Value) (k : List Value → Prop) : Prop := match S with
  | .int i :: .ref a :: r => (match zget h.1 a with
    | some q => cond (Nat.beq q.1 100 || Nat.beq q.1 110) (vp_in i q.2 ∧ k (.int (h.2.1 a i.toNatClampNeg) :: r)) False
    | none => False)
  | _ => False
def zal (h : zH) (S : List Value) (k : List Value → Prop) : Prop := match S with
  | .int i :: .ref a :: r => (match zget h.1 a with
    | some q => cond (Nat.beq q.1 101) (vp_in i q.2 ∧ k (.long (h.2.2.1 a i.toNatClampNeg) :: r)) False
    | none => False)
  | _ => False
def zaa (h : zH) (S : List Value) (k : List Value → Prop) : Prop := match S with
  | .int i :: .ref a :: r => (match zget h.1 a with
    | some q => cond (Nat.ble 102 q.1 && Nat.ble q.1 105) (vp_in i q.2 ∧ k (zrf (h.2.2.2 a i.toNatClampNeg) :: r)) False
    | none => False)
  | _ => False
def zsi (h : zH) (S : List Value) (k : List Value → zH → Prop) : Prop := match S with
  | .int x :: .int i :: .ref a :: r => (match zget h.1 a with
    | some q => cond (Nat.beq q.1 100) (vp_in i q.2 ∧ k r (zsI h a i.toNatClampNeg x)) False
    | none => False)
  | _ => False
def zsl (h : zH) (S : List Value) (k : List Value → zH → Prop) : Prop := match S with
  | .long x :: .int i :: .ref a :: r => (match zget h.1 a with
    | some q => cond (Nat.beq q.1 101) (vp_in i q.2 ∧ k r (zsL h a i.toNatClampNeg x)) False
    | none => False)
  | _ => False
def zan (h : zH) (S : List Value) (k : List Value → Prop) : Prop := match S with
  | .ref a :: r => (match zget h.1 a with
    | some q => cond (Nat.ble 100 q.1) (k (.int (Int32.ofNat q.2) :: r)) False
    | none => False)
  | _ => False
def zdup (S : List Value) (k : List Value → Prop) : Prop := match S with
  | v :: r => cond (Nat.beq v.category 1) (k (v :: v :: r)) False
  | _ => False
def zdup2 (S : List Value) (k : List Value → Prop) : Prop := match S with
  | v :: r => cond (Nat.beq v.category 2) (k (v :: v :: r)) (match r with
    | w :: r2 => cond (Nat.beq w.category 1) (k (v :: w :: v :: w :: r2)) False
    | _ => False)
  | _ => False
/-- a switch: keys from lo on, the targets, the other target -/
def zsw (x : Int32) (k : Nat → Prop) (dflt : Nat) : Int → List Nat → Prop
  | lo, [] => k dflt
  | lo, t :: ts => (x.toInt = lo → k t) ∧ (¬ x.toInt = lo → zsw x k dflt (lo + 1) ts)
def zswS (S : List Value) (k : Nat → List Value → Prop) (dflt : Nat) (lo : Int) (ts : List Nat) : Prop := match S with
  | .int x :: r => zsw x (fun t => k t r) dflt lo ts
  | _ => False
def zuI (f : Int32 → Int32) (S : List Value) (k : List Value → Prop) : Prop := match S with
  | .int x :: r => k (.int (f x) :: r)
  | _ => False
def zdvI (f : Int32 → Int32 → Int32) (S : List Value) (k : List Value → Prop) : Prop := match S with
  | .int y :: .int x :: r => ¬ y = 0 ∧ k (.int (f x y) :: r)
  | _ => False
def zdvL (f : Int64 → Int64 → Int64) (S : List Value) (k : List Value → Prop) : Prop := match S with
  | .long y :: .long x :: r => ¬ y = 0 ∧ k (.long (f x y) :: r)
  | _ => False
def zcmpS (S : List Value) (k : List Value → Prop) : Prop := match S with
  | .long y :: .long x :: r => k (.int (lg_cmp x y) :: r)
  | _ => False
def zi2l (S : List Value) (k : List Value → Prop) : Prop := match S with
  | .int x :: r => k (.long x.toInt64 :: r)
  | _ => False
def zl2i (S : List Value) (k : List Value → Prop) : Prop := match S with
  | .long x :: r => k (.int x.toInt32 :: r)
  | _ => False
def zinc (n : Nat) (L : zLs) (i : Nat) (d : Int32) (k : zLs → Prop) : Prop := match zlv i L with
  | some (.int x) => i < n ∧ k (zst L i (.int (x + d)))
  | _ => False
def zrI (rt : Option FieldType) (S : List Value) (k : Option Value → Prop) : Prop := match S, rt with
  | [.int x], some .int => k (some (.int x))
  | [.int x], some .boolean => x &&& 1 = x ∧ k (some (.int x))
  | _, _ => False
def zrL (rt : Option FieldType) (S : List Value) (k : Option Value → Prop) : Prop := match S, rt with
  | [.long x], some .long => k (some (.long x))
  | _, _ => False
def zrV (rt : Option FieldType) (S : List Value) (k : Option Value → Prop) : Prop := match S, rt with
  | [], none => k none
  | _, _ => False
def zcst (v : Value) (k : Prop) : Prop := match v with
  | .int _ => k
  | .long _ => k
  | _ => False
/-- one instruction; n: the method's locals, rt: what it returns -/
def zstep (n : Nat) (rt : Option FieldType) (q : Instr × Nat × (Nat × Nat × Nat) × Value) (pc : Nat) (L : zLs) (S : List Value) (h : zH) (kr : Option Value → Prop) (k : zKn) : Prop :=
  match q.1 with
  | .iconst _ => k (pc + 1) L (q.2.2.2 :: S) h
  | .bipush _ => k (pc + 2) L (q.2.2.2 :: S) h
  | .sipush _ => k (pc + 3) L (q.2.2.2 :: S) h
  | .lconst _ => k (pc + 1) L (q.2.2.2 :: S) h
  | .ldc _ => k (pc + 2) L (q.2.2.2 :: S) h
  | .ldc_w _ => k (pc + 3) L (q.2.2.2 :: S) h
  | .ldc2_w _ => k (pc + 3) L (q.2.2.2 :: S) h
  | .iload_n i => zldI L i (fun v => k (pc + 1) L (v :: S) h)
  | .iload i => zldI L i (fun v => k (pc + 2) L (v :: S) h)
  | .lload_n i => zldL L i (fun v => k (pc + 1) L (v :: S) h)
  | .lload i => zldL L i (fun v => k (pc + 2) L (v :: S) h)
  | .aload_n i => zldA L i (fun v => k (pc + 1) L (v :: S) h)
  | .aload i => zldA L i (fun v => k (pc + 2) L (v :: S) h)
  | .istore_n i => zstI n L i S (fun L' r => k (pc + 1) L' r h)
  | .istore i => zstI n L i S (fun L' r => k (pc + 2) L' r h)
  | .lstore_n i => zstL n L i S (fun L' r => k (pc + 1) L' r h)
  | .lstore i => zstL n L i S (fun L' r => k (pc + 2) L' r h)
  | .astore_n i => zstA n L i S (fun L' r => k (pc + 1) L' r h)
  | .astore i => zstA n L i S (fun L' r => k (pc + 2) L' r h)
  | .iinc i _ => zinc n L i (match q.2.2.2 with | .int d => d | _ => 0) (fun L' => k (pc + 3) L' S h)
  | .iadd => zbI (fun x y => x + y) S (fun r => k (pc + 1) L r h)
  | .isub => zbI (fun x y => x - y) S (fun r => k (pc + 1) L r h)
  | .imul => zbI (fun x y => x * y) S (fun r => k (pc + 1) L r h)
  | .iand => zbI (fun x y => x &&& y) S (fun r => k (pc + 1) L r h)
  | .ior => zbI (fun x y => x ||| y) S (fun r => k (pc + 1) L r h)
  | .ixor => zbI (fun x y => x ^^^ y) S (fun r => k (pc + 1) L r h)
  | .ishl => zbI (fun x y => x <<< (y &&& 31)) S (fun r => k (pc + 1) L r h)
  | .ishr => zbI (fun x y => x >>> (y &&& 31)) S (fun r => k (pc + 1) L r h)
  | .iushr => zbI (fun x y => (x.toUInt32 >>> (y.toUInt32 &&& Int32.toUInt32 31)).toInt32) S (fun r => k (pc + 1) L r h)
  | .idiv => zdvI (fun x y => x / y) S (fun r => k (pc + 1) L r h)
  | .irem => zdvI (fun x y => x - x / y * y) S (fun r => k (pc + 1) L r h)
  | .ineg => zuI (fun x => -x) S (fun r => k (pc + 1) L r h)
  | .ladd => zbL (fun x y => x + y) S (fun r => k (pc + 1) L r h)
  | .lsub => zbL (fun x y => x - y) S (fun r => k (pc + 1) L r h)
  | .lmul => zbL (fun x y => x * y) S (fun r => k (pc + 1) L r h)
  | .land => zbL (fun x y => x &&& y) S (fun r => k (pc + 1) L r h)
  | .lor => zbL (fun x y => x ||| y) S (fun r => k (pc + 1) L r h)
  | .lxor => zbL (fun x y => x ^^^ y) S (fun r => k (pc + 1) L r h)
  | .ldiv => zdvL (fun x y => x / y) S (fun r => k (pc + 1) L r h)
  | .lrem => zdvL (fun x y => x - x / y * y) S (fun r => k (pc + 1) L r h)
  | .lshl => zsh (fun x y => x <<< (y.toInt64 &&& 63)) S (fun r => k (pc + 1) L r h)
  | .lshr => zsh (fun x y => x >>> (y.toInt64 &&& 63)) S (fun r => k (pc + 1) L r h)
  | .lushr => zsh (fun x y => (x.toUInt64 >>> (y.toInt64.toUInt64 &&& Int64.toUInt64 63)).toInt64) S (fun r => k (pc + 1) L r h)
  | .lcmp => zcmpS S (fun r => k (pc + 1) L r h)
  | .i2l => zi2l S (fun r => k (pc + 1) L r h)
  | .l2i => zl2i S (fun r => k (pc + 1) L r h)
  | .i2b => zuI (fun x => x.toInt8.toInt32) S (fun r => k (pc + 1) L r h)
  | .dup => zdup S (fun r => k (pc + 1) L r h)
  | .dup2 => zdup2 S (fun r => k (pc + 1) L r h)
  | .goto _ => k q.2.2.1.1 L S h
  | .ifCond c _ => (match c with
    | .eq => zif (fun x => x = 0) S (fun r => k q.2.2.1.1 L r h) (fun r => k (pc + 3) L r h)
    | .ne => zif (fun x => x ≠ 0) S (fun r => k q.2.2.1.1 L r h) (fun r => k (pc + 3) L r h)
    | .lt => zif (fun x => x < 0) S (fun r => k q.2.2.1.1 L r h) (fun r => k (pc + 3) L r h)
    | .ge => zif (fun x => 0 ≤ x) S (fun r => k q.2.2.1.1 L r h) (fun r => k (pc + 3) L r h)
    | .gt => zif (fun x => 0 < x) S (fun r => k q.2.2.1.1 L r h) (fun r => k (pc + 3) L r h)
    | .le => zif (fun x => x ≤ 0) S (fun r => k q.2.2.1.1 L r h) (fun r => k (pc + 3) L r h))
  | .if_icmp c _ => (match c with
    | .eq => zic (fun x y => x = y) S (fun r => k q.2.2.1.1 L r h) (fun r => k (pc + 3) L r h)
    | .ne => zic (fun x y => x ≠ y) S (fun r => k q.2.2.1.1 L r h) (fun r => k (pc + 3) L r h)
    | .lt => zic (fun x y => x < y) S (fun r => k q.2.2.1.1 L r h) (fun r => k (pc + 3) L r h)
    | .ge => zic (fun x y => y ≤ x) S (fun r => k q.2.2.1.1 L r h) (fun r => k (pc + 3) L r h)
    | .gt => zic (fun x y => y < x) S (fun r => k q.2.2.1.1 L r h) (fun r => k (pc + 3) L r h)
    | .le => zic (fun x y => x ≤ y) S (fun r => k q.2.2.1.1 L r h) (fun r => k (pc + 3) L r h))
  | .getfield _ => zgf h q.2.2.1.1 q.2.2.1.2.1 S (fun r => k (pc + 3) L r h)
  | .putfield _ => zpf h q.2.2.1.1 q.2.2.1.2.1 S (fun r h' => k (pc + 3) L r h')
  | .getstatic _ => k (pc + 3) L (.ref q.2.2.1.1 :: S) h
  | .iaload => zai h S (fun r => k (pc + 1) L r h)
  | .laload => zal h S (fun r => k (pc + 1) L r h)
  | .aaload => zaa h S (fun r => k (pc + 1) L r h)
  | .iastore => zsi h S (fun r h' => k (pc + 1) L r h')
  | .lastore => zsl h S (fun r h' => k (pc + 1) L r h')
  | .arraylength => zan h S (fun r => k (pc + 1) L r h)
  | .ireturn => zrI rt S kr
  | .lreturn => zrL rt S kr
  | .return_ => zrV rt S kr
  | _ => False
/-- instructions that end a block -/
def zstop (i : Instr) : Bool := match i with
  | .invokevirtual _ => true
  | .invokestatic _ => true
  | .invokespecial _ => true
  | .new _ => true
  | .newarray _ => true
  | .anewarray _ => true
  | .multianewarray _ _ => true
  | .aastore => true
  | .tableswitch _ _ _ _ => true
  | _ => false
def zmem (pc : Nat) : List Nat → Bool
  | [] => false
  | a :: r => cond (Nat.beq a pc) true (zmem pc r)
/-- a block: at most that many instructions, up to a call, a stop, a return -/
def zB (n : Nat) (rt : Option FieldType) (co : List zEn) (st : List Nat) (kr : zKr) (k : zKn) : Nat → zKn
  | 0, pc, L, S, h => k pc L S h
  | f + 1, pc, L, S, h => match zlk pc co with
    | none => False
    | some q => cond (zstop q.1) (k pc L S h) (zstep n rt q pc L S h (fun v => kr v h) (fun pc' L' S' h' => cond (zmem pc' st) (k pc' L' S' h') (zB n rt co st kr k f pc' L' S' h')))
