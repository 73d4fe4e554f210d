/-! multianewarray with two counts: the outer array, then each inner one, put into its place. -/
section ZMU
variable {E : CtlPost} {e : Env} {d : Bool} {acts : List Action} {s : State}
theorem ym_new {c comp : ClassId} {n : Nat} {v : Value} {k : Class} {type : FieldType} {Q : Addr → Pre} (hk : s.vm.classes[c]? = some k) (hkind : k.kind = .array comp type) (hfv : fits type v = true) (hdv : v.isDefault = true)
    (hlimit : ¬ n > e.platform.arrayLengthLimit) (hheap : ¬ n * componentBytes type > e.platform.maxHeapBytes) (h1 : s.heap.size < e.platform.maxCells) (h2 : s.slotsUsed + n ≤ e.platform.maxSlots)
    (hq : Q s.heap.size d acts (s.pushCell { cls := c, slots := Array.replicate n v, vm := .none })) : wp (Jvm.newArray c n v) Q E e d acts s := by
  have hfit : ∀ i w, (Array.replicate n v)[i]? = some w → s.fitsSlot c .none i w = true := by
    intro i w hv
    simp only [Array.getElem?_replicate] at hv
    split at hv
    · cases hv; simp [State.fitsSlot, State.slotType?, hk, hkind, hfv]
    · cases hv
  have hdef : allocActs (Array.replicate n v) s.heap.size acts = acts := by
    have hall : ((Array.replicate n v).all (·.isDefault)) = true := by
      rw [Array.all_replicate]; split <;> simp [hdv]
    unfold allocActs; rw [if_pos hall]
  simp only [Jvm.newArray, Jvm.arrayFits, wp_bind', W.ask, hlimit, W.theClass, hk, hkind, hheap, W.alloc, W.stop, W.ite, if_false, wp_pure', Array.size_replicate, hdef, Option.some.injEq, exists_eq_left']
  first
    | exact ⟨h1, h2, hfit, hq⟩
    | (rw [if_neg (by omega)]; exact ⟨h1, h2, hfit, hq⟩)
theorem ym_make1 {c comp : ClassId} {n : Int32} {k : Class} {type : FieldType} {Q : Addr → Pre} (hk : s.vm.classes[c]? = some k) (hkind : k.kind = .array comp type) (hn : ¬ n < 0) (hfv : fits type (defaultValue type) = true) (hdv : (defaultValue type).isDefault = true)
    (hlimit : ¬ n.toNatClampNeg > e.platform.arrayLengthLimit) (hheap : ¬ n.toNatClampNeg * componentBytes type > e.platform.maxHeapBytes) (h1 : s.heap.size < e.platform.maxCells) (h2 : s.slotsUsed + n.toNatClampNeg ≤ e.platform.maxSlots)
    (hq : Q s.heap.size d acts (s.pushCell { cls := c, slots := Array.replicate n.toNatClampNeg (defaultValue type), vm := .none })) : wp (Op.multianewarray.make c [n]) Q E e d acts s := by
  unfold Op.multianewarray.make
  simp only [hn, if_false, wp_bind', W.theClass, hk, hkind, Option.some.injEq, exists_eq_left', W.ite, wp_pure']
  exact ym_new hk hkind hfv hdv hlimit hheap h1 h2 hq
/-- the outer array after i inner ones -/
def ymS (s : State) (c ci : ClassId) (n k : Nat) (v : Value) : Nat → State
  | 0 => s.pushCell { cls := c, slots := Array.replicate n .null, vm := .none }
  | i + 1 => ((ymS s c ci n k v i).pushCell { cls := ci, slots := Array.replicate k v, vm := .none }).setCell s.heap.size ((arrV c n (fun j => if j < i then .ref (s.heap.size + 1 + j) else .null)).setSlot i (.ref (s.heap.size + 1 + i)))
theorem ymS_spec (s : State) (c ci : ClassId) (n k : Nat) (v : Value) : ∀ i, (ymS s c ci n k v i).heap.size = s.heap.size + 1 + i ∧ (ymS s c ci n k v i).heap[s.heap.size]? = some (arrV c n (fun j => if j < i then .ref (s.heap.size + 1 + j) else .null)) ∧ (ymS s c ci n k v i).vm = s.vm ∧ (∀ q : Nat, q < s.heap.size → (ymS s c ci n k v i).heap[q]? = s.heap[q]?) ∧ ∀ j, j < i → (ymS s c ci n k v i).heap[s.heap.size + 1 + j]? = some { cls := ci, slots := Array.replicate k v, vm := .none }
  | 0 => by
    refine ⟨by show (s.pushCell _).heap.size = _; rw [size_pushCell], ?_, rfl, fun q hq => State.heap_pushCell_of_lt _ _ hq, fun j hj => absurd hj (Nat.not_lt_zero _)⟩
    show (s.pushCell _).heap[s.heap.size]? = _
    rw [State.heap_pushCell_size, arrV_new]
    rfl
  | i + 1 => by
    obtain ⟨h1, h2, h3, h4, h5⟩ := ymS_spec s c ci n k v i
    have hlt : s.heap.size < ((ymS s c ci n k v i).pushCell { cls := ci, slots := Array.replicate k v, vm := .none }).heap.size := by rw [size_pushCell, h1]; omega
    refine ⟨?_, ?_, h3, fun q hq => ?_, fun j hj => ?_⟩
    · show (State.setCell _ _ _).heap.size = _
      rw [size_setCell, size_pushCell, h1]
      omega
    · show (State.setCell _ _ _).heap[s.heap.size]? = _
      rw [heapAt_setCell_self _ hlt, arrV_store]
      congr 2
      funext j
      unfold updV
      by_cases e : j = i
      · rw [if_pos e, if_pos (by omega), e]
      · rw [if_neg e]
        by_cases e2 : j < i
        · dsimp only; rw [if_pos e2, if_pos (by omega)]
        · dsimp only; rw [if_neg e2, if_neg (by omega)]
    · show (State.setCell _ _ _).heap[q]? = _
      rw [heapAt_setCell_ne _ (show s.heap.size ≠ q by omega), State.heap_pushCell_of_lt _ _ (show q < (ymS s c ci n k v i).heap.size by rw [h1]; omega)]
      exact h4 q hq
    · show (State.setCell _ _ _).heap[s.heap.size + 1 + j]? = _
      rw [heapAt_setCell_ne _ (show s.heap.size ≠ s.heap.size + 1 + j by omega)]
      by_cases e : j = i
      · rw [e, ← h1]
        exact State.heap_pushCell_size _ _
      · rw [State.heap_pushCell_of_lt _ _ (show s.heap.size + 1 + j < (ymS s c ci n k v i).heap.size by rw [h1]; omega)]
        exact h5 j (by omega)
theorem ym_make2 {c comp comp2 : ClassId} {n m : Int32} {k k2 : Class} {type type2 : FieldType} {Q : Addr → Pre} (hk : s.vm.classes[c]? = some k) (hkind : k.kind = .array comp type) (href : type.isReference = true) (hk2 : s.vm.classes[comp]? = some k2) (hkind2 : k2.kind = .array comp2 type2) (hn : ¬ n < 0) (hm : ¬ m < 0) (hn0 : n ≠ 0)
    (hfv : fits type2 (defaultValue type2) = true) (hdv : (defaultValue type2).isDefault = true)
    (hl1 : ¬ n.toNatClampNeg > e.platform.arrayLengthLimit) (hh1 : ¬ n.toNatClampNeg * componentBytes type > e.platform.maxHeapBytes) (hl2 : ¬ m.toNatClampNeg > e.platform.arrayLengthLimit) (hh2 : ¬ m.toNatClampNeg * componentBytes type2 > e.platform.maxHeapBytes)
    (hr0 : s.heap.size < e.platform.maxCells ∧ s.slotsUsed + n.toNatClampNeg ≤ e.platform.maxSlots)
    (hr : ∀ i, i < n.toNatClampNeg → (ymS s c comp n.toNatClampNeg m.toNatClampNeg (defaultValue type2) i).heap.size < e.platform.maxCells ∧ (ymS s c comp n.toNatClampNeg m.toNatClampNeg (defaultValue type2) i).slotsUsed + m.toNatClampNeg ≤ e.platform.maxSlots)
    (hq : ∀ d acts, Q s.heap.size d acts (ymS s c comp n.toNatClampNeg m.toNatClampNeg (defaultValue type2) n.toNatClampNeg)) : wp (Op.multianewarray.make c [n, m]) Q E e d acts s := by
  have hnull : fits type .null = true := by cases type <;> simp [FieldType.isReference] at href <;> rfl
  have hnr : ∀ a : Addr, fits type (.ref a) = true := fun a => by cases type <;> simp [FieldType.isReference] at href <;> rfl
  have hne : (n == 0) = false := by simpa using hn0
  unfold Op.multianewarray.make
  simp only [hn, if_false, wp_bind', W.theClass, hk, hkind, Option.some.injEq, exists_eq_left', W.ite, wp_pure', hne, Bool.false_eq_true]
  refine ym_new hk hkind hnull rfl hl1 hh1 hr0.1 hr0.2 ?_
  simp only [Std.Legacy.Range.forIn_eq_forIn_range', Std.Legacy.Range.size, wp_bind']
  refine wp_forIn_inv (fun rest s' => ∃ i, i ≤ n.toNatClampNeg ∧ rest = List.range' i (n.toNatClampNeg - i) ∧ s' = ymS s c comp n.toNatClampNeg m.toNatClampNeg (defaultValue type2) i) _ _ ⟨0, Nat.zero_le _, by simp, rfl⟩ ?_ ?_
  · rintro x rest s' d' acts' Q' ⟨i, hi, hrest, rfl⟩ hQ'
    have hlt : i < n.toNatClampNeg := by
      rcases Nat.lt_or_ge i n.toNatClampNeg with h | h
      · exact h
      · rw [show n.toNatClampNeg - i = 0 by omega] at hrest
        cases hrest
    obtain ⟨h1, h2, h3, h4, h5⟩ := ymS_spec s c comp n.toNatClampNeg m.toNatClampNeg (defaultValue type2) i
    rw [show n.toNatClampNeg - i = (n.toNatClampNeg - (i + 1)) + 1 by omega, List.range'_succ] at hrest
    injection hrest with hx hrest
    subst hx
    simp only [wp_bind', W.writeLoc, wp_pure']
    refine ym_make1 (by rw [h3]; exact hk2) hkind2 hm hfv hdv hl2 hh2 (hr _ hlt).1 (hr _ hlt).2 ?_
    have hlt2 : s.heap.size < (ymS s c comp n.toNatClampNeg m.toNatClampNeg (defaultValue type2) x).heap.size := by rw [h1]; omega
    refine ⟨arrV c n.toNatClampNeg (fun j => if j < x then .ref (s.heap.size + 1 + j) else .null), ?_, (fun h => by cases h), (by rw [arrV_size]; exact hlt), ?_, ?_⟩
    · rw [State.heap_pushCell_of_lt _ _ hlt2]
      exact h2
    · show State.fitsSlot _ c .none x _ = true
      simp [State.fitsSlot, State.slotType?, State.pushCell, h3, hk, hkind, hnr]
    · rw [h1]
      exact hQ' _ _ _ ⟨x + 1, hlt, hrest, rfl⟩
  · rintro s' d' acts' ⟨i, hi, hrest, rfl⟩
    have : i = n.toNatClampNeg := by
      have := congrArg List.length hrest
      simp at this
      omega
    subst this
    exact hq _ _
end ZMU
section ZMW
variable {p : Program} {l : Launch} {e : Env} {R : Room} {s : State} {m : MethodId} {args : Array Value} {below : List Frame} {meth : Method} {c : Code} {H : Heap} {locs : List Loc} {cells slots : Nat} {Q : State → Prop}
theorem multianewarray.wp_cold {Q : Unit → Pre} {E : CtlPost} {d : Bool} {acts : List Action} {s : State} {f : JFrame} {index dims c : Nat} {vm' : Vm} (hs : s.topJava?.isSome) (hg : (Jvm.resolveClass f.method.cls index).Gives e.toSetting s.vm (.ok c) vm') (hr : vm'.classReady f.method.cls index c)
    (hsz : vm'.classes.size ≤ s.vm.classes.size := by no_record) :
    wp (Op.multianewarray.sem index dims) Q E e d acts (s.setTop f) ↔ wp (Op.multianewarray.sem index dims) Q E e d acts ((s.setVm vm').setTop f) := by
  simp only [Op.multianewarray.sem, wp_bind']
  exact W.resolveClassAt_transfer (s := s.setTop f) (State.method?_setTop f hs) hg hr
/-- the stages of it stand -/
theorem ym_stand {T : State} {cO cI : ClassId} {n k : Nat} {v : Value} (X : Stand p l e R s m args below meth c T locs cells slots) : ∀ i, i ≤ n → ∃ L, Stand p l e R s m args below meth c (ymS T cO cI n k v i) (locs ++ L) (cells + (1 + i)) (slots + (n + i * k)) ∧ ∀ q ∈ L, q.base = T.heap.size
  | 0, _ => by
    have h := X.pushed { cls := cO, slots := Array.replicate n .null, vm := .none }
    refine ⟨[], ?_, fun q hq => by cases hq⟩
    rw [List.append_nil]
    simpa [ymS] using h
  | i + 1, hi => by
    obtain ⟨L, X1, hL⟩ := ym_stand (cO := cO) (cI := cI) (n := n) (k := k) (v := v) X i (by omega)
    have X2 := X1.pushed { cls := cI, slots := Array.replicate k v, vm := .none }
    obtain ⟨h1, h2, -⟩ := ymS_spec T cO cI n k v i
    have X3 := X2.stored (a := T.heap.size) (cell := arrV cO n (fun j => if j < i then .ref (T.heap.size + 1 + j) else .null)) (by rw [State.heap_pushCell_of_lt _ _ (show T.heap.size < (ymS T cO cI n k v i).heap.size by rw [h1]; omega)]; exact h2) i (.ref (T.heap.size + 1 + i))
    refine ⟨L ++ [⟨T.heap.size, i⟩], ?_, fun q hq => ?_⟩
    · rw [← List.append_assoc]
      have e1 : cells + (1 + i) + 1 = cells + (1 + (i + 1)) := by omega
      have e2 : slots + (n + i * k) + (Array.replicate k v).size = slots + (n + (i + 1) * k) := by
        rw [Array.size_replicate, Nat.succ_mul]
        omega
      rw [← e1, ← e2]
      exact X3
    · rcases List.mem_append.mp hq with h | h
      · exact hL q h
      · rw [List.mem_singleton.mp h]
theorem ym_sem {Q : Unit → Pre} {E : CtlPost} {d : Bool} {acts : List Action} {s : State} {f : JFrame} {index c : Nat} {n m : Int32} {rest : List Value} (hs : s.topJava?.isSome) (hr : s.vm.classReady f.method.cls index c) (hstack : f.stack = .int m :: .int n :: rest) :
    wp (Op.multianewarray.sem index 2) Q E e d acts (s.setTop f) ↔ wp (Op.multianewarray.make c [n, m]) (fun a => wp (do mark "op.multianewarray"; pushRef a) Q E e) E e true acts (s.setTop { f with stack := rest }) := by
  simp only [Op.multianewarray.sem, wp_bind', W.resolveClassAt_ready (State.method?_setTop f hs) hr]
  simp [popN, hstack, hs]
theorem ymS_top (s : State) (f : JFrame) (c ci : ClassId) (n k : Nat) (v : Value) : ∀ i, ymS (s.setTop f) c ci n k v i = (ymS s c ci n k v i).setTop f
  | 0 => by
    show (s.setTop f).pushCell _ = (s.pushCell _).setTop f
    rw [State.pushCell_setTop]
  | i + 1 => by
    show ((ymS (s.setTop f) c ci n k v i).pushCell _).setCell (s.setTop f).heap.size _ = (((ymS s c ci n k v i).pushCell _).setCell s.heap.size _).setTop f
    rw [ymS_top s f c ci n k v i, State.pushCell_setTop, State.heap_setTop, State.setCell_setTop]
theorem W_mnew {cc : ByteArray} (hexec : p.tables.exec = Jvm.exec) (hb : c.code = cc) {own C : String} {index : Nat} (hown : s.vm.findClass own = some m.cls) (hclink : (Cond.classLink own index C).before args s = true)
    {cO cI comp2 : ClassId} {kO kI : Class} {t : FieldType} (hfc : s.vm.findClass C = some cO) (hkO : s.vm.classes[cO]? = some kO) (hkindO : kO.kind = .array cI (.array t)) (hkI : s.vm.classes[cI]? = some kI) (hkindI : kI.kind = .array comp2 t) (ht : t = .int ∨ t = .long)
    {n k : Int32} {N K : Nat} (hN : n.toNatClampNeg = N) (hK : k.toNatClampNeg = K) (hn : ¬ n < 0) (hk : ¬ k < 0) (hn0 : n ≠ 0) (hN1 : N ≤ 10000) (hK1 : K ≤ 10000) (hcells : cells + (1 + N) ≤ R.cells) (hslots : slots + (N + N * K) ≤ R.slots)
    {pc : Nat} {ls : Array Slot} {rest : List Value} (hdg : decode cc pc = .ok (.multianewarray index 2, 4))
    (kk : ∀ (H' : Heap) (L : List Loc), H'.size = H.size + 1 + N → H'[H.size]? = some (arrV cO N (fun j => .ref (H.size + 1 + j))) → (∀ q : Nat, q < H.size → H'[q]? = H[q]?) → (∀ j, j < N → H'[H.size + 1 + j]? = some (arrV cI K (fun _ => defaultValue t))) → (∀ q ∈ L, q.base = H.size) →
      W p l e R s m args below meth c H' (locs ++ L) (cells + (1 + N)) (slots + (N + N * K)) Q (F0 m (pc + 4) ls (.ref H.size :: rest))) : W p l e R s m args below meth c H locs cells slots Q (F0 m pc ls (.int k :: .int n :: rest)) := by
  subst hN; subst hK
  intro T hT X
  subst hT
  have hpl : e.platform.magicAccessors = ({} : Platform).magicAccessors := by rw [X.admits.platform]
  obtain ⟨c0, hfcc, hcl⟩ := Cond.classLink_spec hown hclink e.platform hpl
  cases hfc.symm.trans hfcc
  obtain ⟨hg₁, hwarm₁, hready₁⟩ := State.classEntry (e := e) X.warmed hcl
  generalize T.vm.noted m.cls index (.cls cO) = vm₁ at hg₁ hwarm₁ hready₁
  have hal : s.vm.Alike vm₁ := hwarm₁.alike
  obtain ⟨kO₁, hkO₁, heO⟩ := hal.2.2 _ _ hkO
  obtain ⟨kI₁, hkI₁, heI⟩ := hal.2.2 _ _ hkI
  have hkindO₁ : kO₁.kind = .array cI (.array t) := by rw [heO]; exact hkindO
  have hkindI₁ : kI₁.kind = .array comp2 t := by rw [heI]; exact hkindI
  have X₁ := X.noted hwarm₁
  have hst := fun i hi => ym_stand (cO := cO) (cI := cI) (n := n.toNatClampNeg) (k := k.toNatClampNeg) (v := defaultValue t) X₁ i hi
  obtain ⟨L, XL, hL⟩ := hst n.toNatClampNeg (Nat.le_refl _)
  obtain ⟨z1, z2, z3, z4, z5⟩ := ymS_spec (T.setVm vm₁) cO cI n.toNatClampNeg k.toNatClampNeg (defaultValue t) n.toNatClampNeg
  have hlim : ∀ z, z ≤ 10000 → ¬ z > e.platform.arrayLengthLimit := fun z hz => by rw [Launch.admits_arrayLengthLimit X.admits]; omega
  have hhp : ∀ z (ty : FieldType), z ≤ 10000 → ¬ z * componentBytes ty > e.platform.maxHeapBytes := fun z ty hz => by
    rw [Launch.admits_maxHeapBytes X.admits]
    have hb8 : componentBytes ty ≤ 8 := by cases ty <;> exact Nat.le_of_ble_eq_true rfl
    have := Nat.mul_le_mul hz hb8
    omega
  obtain ⟨t9, a9, b9⟩ := kk (ymS (T.setVm vm₁) cO cI n.toNatClampNeg k.toNatClampNeg (defaultValue t) n.toNatClampNeg).heap L z1 (by
      rw [show (T.heap.size) = (T.setVm vm₁).heap.size from rfl, z2]
      congr 1
      unfold arrV
      congr 1
      apply Array.ext
      · simp
      · intro j h1 h2
        simp only [Array.getElem_ofFn]
        rw [if_pos (by simpa using h1)]) z4 (fun j hj => by rw [← arrV_new]; exact z5 j hj) hL _ rfl XL
  refine ⟨t9, ?_, b9⟩
  jvm_step X.here [hexec, hb, hdg, multianewarray.wp_cold (e := e) (s := T) (f := F0 m pc ls (.int k :: .int n :: rest)) X.here.top hg₁ hready₁, ym_sem (e := e) (s := T.setVm vm₁) (f := F0 m pc ls (.int k :: .int n :: rest)) (rest := rest) X.here.top hready₁ rfl]
  have hra := X₁.roomAbove (a := 1) (b := n.toNatClampNeg) (by omega) (by omega)
  refine ym_make2 (s := (T.setVm vm₁).setTop _) (show vm₁.classes[cO]? = some kO₁ from hkO₁) hkindO₁ rfl (show vm₁.classes[cI]? = some kI₁ from hkI₁) hkindI₁ hn hk hn0 (by rcases ht with rfl | rfl <;> rfl) (by rcases ht with rfl | rfl <;> rfl) (hlim _ hN1) (hhp _ _ hN1) (hlim _ hK1) (hhp _ _ hK1) ⟨?_, ?_⟩ (fun i hi => ?_) (fun d acts => ?_)
  · rw [State.heap_setTop]
    exact hra.1
  · rw [State.slotsUsed_setTop]
    exact hra.2
  · obtain ⟨Li, Xi, -⟩ := hst i (by omega)
    have hmul : (i + 1) * k.toNatClampNeg ≤ n.toNatClampNeg * k.toNatClampNeg := Nat.mul_le_mul_right _ (by omega)
    rw [Nat.succ_mul] at hmul
    have hri := Xi.roomAbove (a := 1) (b := k.toNatClampNeg) (by omega) (by omega)
    rw [ymS_top, State.heap_setTop, State.slotsUsed_setTop]
    exact ⟨hri.1, hri.2⟩
  · rw [ymS_top, State.heap_setTop]
    have htop : (ymS (T.setVm vm₁) cO cI n.toNatClampNeg k.toNatClampNeg (defaultValue t) n.toNatClampNeg).topJava?.isSome := XL.here.top
    simp [htop]
    intro acts2
    simpa [jvm, htop] using a9
end ZMW
