/-! One instruction of the abstract machine is one of the machine. -/
section ZS
variable {p : Program} {l : Launch} {e : Env} {R : Room} {s : State} {m : MethodId} {args : Array Value} {below : List Frame} {meth : Method} {c : Code} {Q : State → Prop} {E : zE} {n : Nat} {cc : ByteArray} {own : String} {rt : Option FieldType} {kc ks : Nat}
/-- the machine, at pc with these locals and this stack, over this heap, comes to Q -/
def zN (p : Program) (l : Launch) (e : Env) (R : Room) (s : State) (m : MethodId) (args : Array Value) (below : List Frame) (meth : Method) (c : Code) (Q : State → Prop) (E : zE) (kc ks n pc : Nat) (L : zLs) (S : List Value) (h : zIJ) : Prop :=
  ∀ (H : Heap) (locs : List Loc) (ls : Array Slot), zR E s h H → (∀ q ∈ locs, E.2.2.2.size ≤ q.base) → lv_has ls n (zl E L) → W p l e R s m args below meth c H locs kc ks Q (F0 m pc ls (S.map (zv E)))
/-- what stands through a method -/
def zX (p : Program) (R : Room) (kc ks : Nat) (s : State) (m : MethodId) (args : Array Value) (meth : Method) (c : Code) (cc : ByteArray) (n : Nat) (own : String) (rt : Option FieldType) (E : zE) : Prop :=
  p.tables.exec = Jvm.exec ∧ c.code = cc ∧ c.maxLocals = n ∧ s.vm.findClass own = some m.cls ∧ (∀ w ∈ zTG, w.before args s = true) ∧ zF E s ∧ meth.locks = false ∧ meth.sig.returnType = rt ∧ 1 ≤ R.frames ∧ 64 ≤ R.locals ∧ kc ≤ R.cells ∧ ks ≤ R.slots
theorem zlv_mem {i : Nat} {v : Value} : ∀ {L : zLs}, zlv i L = some v → (i, v) ∈ L
  | [], h => by cases h
  | e :: r, h => by
    unfold zlv at h
    cases hb : Nat.beq e.1 i with
    | true =>
      rw [hb] at h
      have h1 : e.2 = v := Option.some.inj h
      have h2 : e.1 = i := Nat.eq_of_beq_eq_true hb
      rw [← h1, ← h2]
      exact List.mem_cons_self
    | false =>
      rw [hb] at h
      exact List.mem_cons_of_mem _ (zlv_mem h)
theorem zl_at {L : zLs} {ls : Array Slot} {i : Nat} {v : Value} (hl : lv_has ls n (zl E L)) (h : zlv i L = some v) : ls[i]? = some (.val (zv E v)) :=
  hl.2.2 (i, zv E v) (List.mem_map.mpr ⟨(i, v), zlv_mem h, rfl⟩)
theorem zv_cat (v : Value) : (zv E v).category = v.category := by cases v <;> rfl
theorem zl_st (L : zLs) (i : Nat) (v : Value) : (i, zv E v) :: (zl E L).filter (fun q => !(q.1 == i) && !(q.1 + 1 == i && q.2.category == 2)) = zl E (zst L i v) := by
  unfold zst zl
  rw [List.map_cons, List.filter_map]
  congr 2
  apply List.filter_congr
  intro q _
  simp [zv_cat]
theorem zl_st2 (L : zLs) (i : Nat) (v : Value) : (i, zv E v) :: (zl E L).filter (fun q => !(q.1 == i) && (!(q.1 == i + 1) && !(q.1 + 1 == i && q.2.category == 2))) = zl E (zst2 L i v) := by
  unfold zst2 zl
  rw [List.map_cons, List.filter_map]
  congr 2
  apply List.filter_congr
  intro q _
  simp [zv_cat]
theorem zl_k {L : zLs} {i : Nat} {v : Value} (h : zlv i L = some v) : ∃ k : Nat, (zl E L)[k]? = some (i, zv E v) := List.getElem?_of_mem (List.mem_map.mpr ⟨(i, v), zlv_mem h, rfl⟩)
/-- an instruction that goes on: from the state behind it to the state ahead -/
def zOn (p : Program) (l : Launch) (e : Env) (R : Room) (s : State) (m : MethodId) (args : Array Value) (below : List Frame) (meth : Method) (c : Code) (Q : State → Prop) (E : zE) (kc ks n pc nx : Nat) (L : zLs) (S : List Value) (h : zIJ) (o : zO) : Prop := match o with
  | (0, b, _, _, L', S', h') => b = true → zN p l e R s m args below meth c Q E kc ks n nx L' S' h' → zN p l e R s m args below meth c Q E kc ks n pc L S h
  | (1, _, t, _, L', S', h') => zN p l e R s m args below meth c Q E kc ks n t L' S' h' → zN p l e R s m args below meth c Q E kc ks n pc L S h
  | (2, b, t, _, L', S', h') => (b = true → zN p l e R s m args below meth c Q E kc ks n t L' S' h') → (b = false → zN p l e R s m args below meth c Q E kc ks n nx L' S' h') → zN p l e R s m args below meth c Q E kc ks n pc L S h
  | _ => True

theorem zs_iadd {pc nx : Nat} {hs : List Nat} {v : Value} {L : zLs} {S : List Value} {h : zIJ} {o : zO} (X : zX p R kc ks s m args meth c cc n own rt E) (hd : decode cc pc = .ok (.iadd, 1)) (hx : nx = pc + 1) (hz : zex n rt (pc, .iadd, nx, hs, v) L S h = some o) : zOn p l e R s m args below meth c Q E kc ks n pc nx L S h o := by
  match S, hz with
  | .int y :: .int x :: r, hz =>
    cases hz
    subst hx
    intro _ k H locs ls hR hf hl
    exact lv_iadd X.1 X.2.1 hd (k H locs ls hR hf hl)
theorem zs_isub {pc nx : Nat} {hs : List Nat} {v : Value} {L : zLs} {S : List Value} {h : zIJ} {o : zO} (X : zX p R kc ks s m args meth c cc n own rt E) (hd : decode cc pc = .ok (.isub, 1)) (hx : nx = pc + 1) (hz : zex n rt (pc, .isub, nx, hs, v) L S h = some o) : zOn p l e R s m args below meth c Q E kc ks n pc nx L S h o := by
  match S, hz with
  | .int y :: .int x :: r, hz =>
    cases hz
    subst hx
    intro _ k H locs ls hR hf hl
    exact lv_isub X.1 X.2.1 hd (k H locs ls hR hf hl)
theorem zs_imul {pc nx : Nat} {hs : List Nat} {v : Value} {L : zLs} {S : List Value} {h : zIJ} {o : zO} (X : zX p R kc ks s m args meth c cc n own rt E) (hd : decode cc pc = .ok (.imul, 1)) (hx : nx = pc + 1) (hz : zex n rt (pc, .imul, nx, hs, v) L S h = some o) : zOn p l e R s m args below meth c Q E kc ks n pc nx L S h o := by
  match S, hz with
  | .int y :: .int x :: r, hz =>
    cases hz
    subst hx
    intro _ k H locs ls hR hf hl
    exact lv_imul X.1 X.2.1 hd (k H locs ls hR hf hl)
theorem zs_iand {pc nx : Nat} {hs : List Nat} {v : Value} {L : zLs} {S : List Value} {h : zIJ} {o : zO} (X : zX p R kc ks s m args meth c cc n own rt E) (hd : decode cc pc = .ok (.iand, 1)) (hx : nx = pc + 1) (hz : zex n rt (pc, .iand, nx, hs, v) L S h = some o) : zOn p l e R s m args below meth c Q E kc ks n pc nx L S h o := by
  match S, hz with
  | .int y :: .int x :: r, hz =>
    cases hz
    subst hx
    intro _ k H locs ls hR hf hl
    exact lv_iand X.1 X.2.1 hd (k H locs ls hR hf hl)
theorem zs_ior {pc nx : Nat} {hs : List Nat} {v : Value} {L : zLs} {S : List Value} {h : zIJ} {o : zO} (X : zX p R kc ks s m args meth c cc n own rt E) (hd : decode cc pc = .ok (.ior, 1)) (hx : nx = pc + 1) (hz : zex n rt (pc, .ior, nx, hs, v) L S h = some o) : zOn p l e R s m args below meth c Q E kc ks n pc nx L S h o := by
  match S, hz with
  | .int y :: .int x :: r, hz =>
    cases hz
    subst hx
    intro _ k H locs ls hR hf hl
    exact lv_ior X.1 X.2.1 hd (k H locs ls hR hf hl)
theorem zs_ixor {pc nx : Nat} {hs : List Nat} {v : Value} {L : zLs} {S : List Value} {h : zIJ} {o : zO} (X : zX p R kc ks s m args meth c cc n own rt E) (hd : decode cc pc = .ok (.ixor, 1)) (hx : nx = pc + 1) (hz : zex n rt (pc, .ixor, nx, hs, v) L S h = some o) : zOn p l e R s m args below meth c Q E kc ks n pc nx L S h o := by
  match S, hz with
  | .int y :: .int x :: r, hz =>
    cases hz
    subst hx
    intro _ k H locs ls hR hf hl
    exact lv_ixor X.1 X.2.1 hd (k H locs ls hR hf hl)
theorem zs_ishl {pc nx : Nat} {hs : List Nat} {v : Value} {L : zLs} {S : List Value} {h : zIJ} {o : zO} (X : zX p R kc ks s m args meth c cc n own rt E) (hd : decode cc pc = .ok (.ishl, 1)) (hx : nx = pc + 1) (hz : zex n rt (pc, .ishl, nx, hs, v) L S h = some o) : zOn p l e R s m args below meth c Q E kc ks n pc nx L S h o := by
  match S, hz with
  | .int y :: .int x :: r, hz =>
    cases hz
    subst hx
    intro _ k H locs ls hR hf hl
    exact lv_ishl X.1 X.2.1 hd (k H locs ls hR hf hl)
theorem zs_ishr {pc nx : Nat} {hs : List Nat} {v : Value} {L : zLs} {S : List Value} {h : zIJ} {o : zO} (X : zX p R kc ks s m args meth c cc n own rt E) (hd : decode cc pc = .ok (.ishr, 1)) (hx : nx = pc + 1) (hz : zex n rt (pc, .ishr, nx, hs, v) L S h = some o) : zOn p l e R s m args below meth c Q E kc ks n pc nx L S h o := by
  match S, hz with
  | .int y :: .int x :: r, hz =>
    cases hz
    subst hx
    intro _ k H locs ls hR hf hl
    exact lv_ishr X.1 X.2.1 hd (k H locs ls hR hf hl)
theorem zs_ladd {pc nx : Nat} {hs : List Nat} {v : Value} {L : zLs} {S : List Value} {h : zIJ} {o : zO} (X : zX p R kc ks s m args meth c cc n own rt E) (hd : decode cc pc = .ok (.ladd, 1)) (hx : nx = pc + 1) (hz : zex n rt (pc, .ladd, nx, hs, v) L S h = some o) : zOn p l e R s m args below meth c Q E kc ks n pc nx L S h o := by
  match S, hz with
  | .long y :: .long x :: r, hz =>
    cases hz
    subst hx
    intro _ k H locs ls hR hf hl
    exact lv_ladd X.1 X.2.1 hd (k H locs ls hR hf hl)
theorem zs_lsub {pc nx : Nat} {hs : List Nat} {v : Value} {L : zLs} {S : List Value} {h : zIJ} {o : zO} (X : zX p R kc ks s m args meth c cc n own rt E) (hd : decode cc pc = .ok (.lsub, 1)) (hx : nx = pc + 1) (hz : zex n rt (pc, .lsub, nx, hs, v) L S h = some o) : zOn p l e R s m args below meth c Q E kc ks n pc nx L S h o := by
  match S, hz with
  | .long y :: .long x :: r, hz =>
    cases hz
    subst hx
    intro _ k H locs ls hR hf hl
    exact lv_lsub X.1 X.2.1 hd (k H locs ls hR hf hl)
theorem zs_lmul {pc nx : Nat} {hs : List Nat} {v : Value} {L : zLs} {S : List Value} {h : zIJ} {o : zO} (X : zX p R kc ks s m args meth c cc n own rt E) (hd : decode cc pc = .ok (.lmul, 1)) (hx : nx = pc + 1) (hz : zex n rt (pc, .lmul, nx, hs, v) L S h = some o) : zOn p l e R s m args below meth c Q E kc ks n pc nx L S h o := by
  match S, hz with
  | .long y :: .long x :: r, hz =>
    cases hz
    subst hx
    intro _ k H locs ls hR hf hl
    exact lv_lmul X.1 X.2.1 hd (k H locs ls hR hf hl)
theorem zs_land {pc nx : Nat} {hs : List Nat} {v : Value} {L : zLs} {S : List Value} {h : zIJ} {o : zO} (X : zX p R kc ks s m args meth c cc n own rt E) (hd : decode cc pc = .ok (.land, 1)) (hx : nx = pc + 1) (hz : zex n rt (pc, .land, nx, hs, v) L S h = some o) : zOn p l e R s m args below meth c Q E kc ks n pc nx L S h o := by
  match S, hz with
  | .long y :: .long x :: r, hz =>
    cases hz
    subst hx
    intro _ k H locs ls hR hf hl
    exact lv_land X.1 X.2.1 hd (k H locs ls hR hf hl)
theorem zs_lor {pc nx : Nat} {hs : List Nat} {v : Value} {L : zLs} {S : List Value} {h : zIJ} {o : zO} (X : zX p R kc ks s m args meth c cc n own rt E) (hd : decode cc pc = .ok (.lor, 1)) (hx : nx = pc + 1) (hz : zex n rt (pc, .lor, nx, hs, v) L S h = some o) : zOn p l e R s m args below meth c Q E kc ks n pc nx L S h o := by
  match S, hz with
  | .long y :: .long x :: r, hz =>
    cases hz
    subst hx
    intro _ k H locs ls hR hf hl
    exact lv_lor X.1 X.2.1 hd (k H locs ls hR hf hl)
theorem zs_lxor {pc nx : Nat} {hs : List Nat} {v : Value} {L : zLs} {S : List Value} {h : zIJ} {o : zO} (X : zX p R kc ks s m args meth c cc n own rt E) (hd : decode cc pc = .ok (.lxor, 1)) (hx : nx = pc + 1) (hz : zex n rt (pc, .lxor, nx, hs, v) L S h = some o) : zOn p l e R s m args below meth c Q E kc ks n pc nx L S h o := by
  match S, hz with
  | .long y :: .long x :: r, hz =>
    cases hz
    subst hx
    intro _ k H locs ls hR hf hl
    exact lv_lxor X.1 X.2.1 hd (k H locs ls hR hf hl)
theorem zs_iushr {pc nx : Nat} {hs : List Nat} {v : Value} {L : zLs} {S : List Value} {h : zIJ} {o : zO} (X : zX p R kc ks s m args meth c cc n own rt E) (hd : decode cc pc = .ok (.iushr, 1)) (hx : nx = pc + 1) (hz : zex n rt (pc, .iushr, nx, hs, v) L S h = some o) : zOn p l e R s m args below meth c Q E kc ks n pc nx L S h o := by
  match S, hz with
  | .int y :: .int x :: r, hz =>
    cases hz
    subst hx
    intro _ k H locs ls hR hf hl
    exact lv_iushr X.1 X.2.1 hd rfl (k H locs ls hR hf hl)
theorem zs_lshl {pc nx : Nat} {hs : List Nat} {v : Value} {L : zLs} {S : List Value} {h : zIJ} {o : zO} (X : zX p R kc ks s m args meth c cc n own rt E) (hd : decode cc pc = .ok (.lshl, 1)) (hx : nx = pc + 1) (hz : zex n rt (pc, .lshl, nx, hs, v) L S h = some o) : zOn p l e R s m args below meth c Q E kc ks n pc nx L S h o := by
  match S, hz with
  | .int y :: .long x :: r, hz =>
    cases hz
    subst hx
    intro _ k H locs ls hR hf hl
    exact lv_lshl X.1 X.2.1 hd rfl (k H locs ls hR hf hl)
theorem zs_lshr {pc nx : Nat} {hs : List Nat} {v : Value} {L : zLs} {S : List Value} {h : zIJ} {o : zO} (X : zX p R kc ks s m args meth c cc n own rt E) (hd : decode cc pc = .ok (.lshr, 1)) (hx : nx = pc + 1) (hz : zex n rt (pc, .lshr, nx, hs, v) L S h = some o) : zOn p l e R s m args below meth c Q E kc ks n pc nx L S h o := by
  match S, hz with
  | .int y :: .long x :: r, hz =>
    cases hz
    subst hx
    intro _ k H locs ls hR hf hl
    exact lv_lshr X.1 X.2.1 hd rfl (k H locs ls hR hf hl)
theorem zs_lushr {pc nx : Nat} {hs : List Nat} {v : Value} {L : zLs} {S : List Value} {h : zIJ} {o : zO} (X : zX p R kc ks s m args meth c cc n own rt E) (hd : decode cc pc = .ok (.lushr, 1)) (hx : nx = pc + 1) (hz : zex n rt (pc, .lushr, nx, hs, v) L S h = some o) : zOn p l e R s m args below meth c Q E kc ks n pc nx L S h o := by
  match S, hz with
  | .int y :: .long x :: r, hz =>
    cases hz
    subst hx
    intro _ k H locs ls hR hf hl
    exact lv_lushr X.1 X.2.1 hd rfl (k H locs ls hR hf hl)
theorem zs_idiv {pc nx : Nat} {hs : List Nat} {v : Value} {L : zLs} {S : List Value} {h : zIJ} {o : zO} (X : zX p R kc ks s m args meth c cc n own rt E) (hd : decode cc pc = .ok (.idiv, 1)) (hx : nx = pc + 1) (hz : zex n rt (pc, .idiv, nx, hs, v) L S h = some o) : zOn p l e R s m args below meth c Q E kc ks n pc nx L S h o := by
  match S, hz with
  | .int y :: .int x :: r, hz =>
    cases hz
    subst hx
    intro hb k H locs ls hR hf hl
    exact lv_idiv X.1 X.2.1 hd (by simpa using hb) (k H locs ls hR hf hl)
theorem zs_irem {pc nx : Nat} {hs : List Nat} {v : Value} {L : zLs} {S : List Value} {h : zIJ} {o : zO} (X : zX p R kc ks s m args meth c cc n own rt E) (hd : decode cc pc = .ok (.irem, 1)) (hx : nx = pc + 1) (hz : zex n rt (pc, .irem, nx, hs, v) L S h = some o) : zOn p l e R s m args below meth c Q E kc ks n pc nx L S h o := by
  match S, hz with
  | .int y :: .int x :: r, hz =>
    cases hz
    subst hx
    intro hb k H locs ls hR hf hl
    exact lv_irem X.1 X.2.1 hd (by simpa using hb) (k H locs ls hR hf hl)
theorem zs_ldiv {pc nx : Nat} {hs : List Nat} {v : Value} {L : zLs} {S : List Value} {h : zIJ} {o : zO} (X : zX p R kc ks s m args meth c cc n own rt E) (hd : decode cc pc = .ok (.ldiv, 1)) (hx : nx = pc + 1) (hz : zex n rt (pc, .ldiv, nx, hs, v) L S h = some o) : zOn p l e R s m args below meth c Q E kc ks n pc nx L S h o := by
  match S, hz with
  | .long y :: .long x :: r, hz =>
    cases hz
    subst hx
    intro hb k H locs ls hR hf hl
    exact lv_ldiv X.1 X.2.1 hd (by simpa using hb) (k H locs ls hR hf hl)
theorem zs_lrem {pc nx : Nat} {hs : List Nat} {v : Value} {L : zLs} {S : List Value} {h : zIJ} {o : zO} (X : zX p R kc ks s m args meth c cc n own rt E) (hd : decode cc pc = .ok (.lrem, 1)) (hx : nx = pc + 1) (hz : zex n rt (pc, .lrem, nx, hs, v) L S h = some o) : zOn p l e R s m args below meth c Q E kc ks n pc nx L S h o := by
  match S, hz with
  | .long y :: .long x :: r, hz =>
    cases hz
    subst hx
    intro hb k H locs ls hR hf hl
    exact lv_lrem X.1 X.2.1 hd (by simpa using hb) (k H locs ls hR hf hl)
theorem zs_ineg {pc nx : Nat} {hs : List Nat} {v : Value} {L : zLs} {S : List Value} {h : zIJ} {o : zO} (X : zX p R kc ks s m args meth c cc n own rt E) (hd : decode cc pc = .ok (.ineg, 1)) (hx : nx = pc + 1) (hz : zex n rt (pc, .ineg, nx, hs, v) L S h = some o) : zOn p l e R s m args below meth c Q E kc ks n pc nx L S h o := by
  match S, hz with
  | .int x :: r, hz =>
    cases hz
    subst hx
    intro _ k H locs ls hR hf hl
    exact lv_ineg X.1 X.2.1 hd (k H locs ls hR hf hl)
theorem zs_i2l {pc nx : Nat} {hs : List Nat} {v : Value} {L : zLs} {S : List Value} {h : zIJ} {o : zO} (X : zX p R kc ks s m args meth c cc n own rt E) (hd : decode cc pc = .ok (.i2l, 1)) (hx : nx = pc + 1) (hz : zex n rt (pc, .i2l, nx, hs, v) L S h = some o) : zOn p l e R s m args below meth c Q E kc ks n pc nx L S h o := by
  match S, hz with
  | .int x :: r, hz =>
    cases hz
    subst hx
    intro _ k H locs ls hR hf hl
    exact lv_i2l X.1 X.2.1 hd rfl (k H locs ls hR hf hl)
theorem zs_l2i {pc nx : Nat} {hs : List Nat} {v : Value} {L : zLs} {S : List Value} {h : zIJ} {o : zO} (X : zX p R kc ks s m args meth c cc n own rt E) (hd : decode cc pc = .ok (.l2i, 1)) (hx : nx = pc + 1) (hz : zex n rt (pc, .l2i, nx, hs, v) L S h = some o) : zOn p l e R s m args below meth c Q E kc ks n pc nx L S h o := by
  match S, hz with
  | .long x :: r, hz =>
    cases hz
    subst hx
    intro _ k H locs ls hR hf hl
    exact lv_l2i X.1 X.2.1 hd rfl (k H locs ls hR hf hl)
theorem zs_i2b {pc nx : Nat} {hs : List Nat} {v : Value} {L : zLs} {S : List Value} {h : zIJ} {o : zO} (X : zX p R kc ks s m args meth c cc n own rt E) (hd : decode cc pc = .ok (.i2b, 1)) (hx : nx = pc + 1) (hz : zex n rt (pc, .i2b, nx, hs, v) L S h = some o) : zOn p l e R s m args below meth c Q E kc ks n pc nx L S h o := by
  match S, hz with
  | .int x :: r, hz =>
    cases hz
    subst hx
    intro _ k H locs ls hR hf hl
    exact lv_i2b X.1 X.2.1 hd rfl (k H locs ls hR hf hl)
theorem zs_lcmp {pc nx : Nat} {hs : List Nat} {v : Value} {L : zLs} {S : List Value} {h : zIJ} {o : zO} (X : zX p R kc ks s m args meth c cc n own rt E) (hd : decode cc pc = .ok (.lcmp, 1)) (hx : nx = pc + 1) (hz : zex n rt (pc, .lcmp, nx, hs, v) L S h = some o) : zOn p l e R s m args below meth c Q E kc ks n pc nx L S h o := by
  match S, hz with
  | .long y :: .long x :: r, hz =>
    cases hz
    subst hx
    intro _ k H locs ls hR hf hl
    exact W.lcmp X.1 X.2.1 hd (k H locs ls hR hf hl)
theorem zs_iconst {i : Int} {pc nx : Nat} {hs : List Nat} {v : Value} {L : zLs} {S : List Value} {h : zIJ} {o : zO} (X : zX p R kc ks s m args meth c cc n own rt E) (hd : decode cc pc = .ok (.iconst i, 1)) (hx : nx = pc + 1) (hv : v = .int (Int32.ofInt i)) (hz : zex n rt (pc, .iconst i, nx, hs, v) L S h = some o) : zOn p l e R s m args below meth c Q E kc ks n pc nx L S h o := by
  subst hv
  cases hz
  subst hx
  intro _ k H locs ls hR hf hl
  exact lv_iconst X.1 X.2.1 hd rfl (k H locs ls hR hf hl)
theorem zs_bipush {i : Int} {pc nx : Nat} {hs : List Nat} {v : Value} {L : zLs} {S : List Value} {h : zIJ} {o : zO} (X : zX p R kc ks s m args meth c cc n own rt E) (hd : decode cc pc = .ok (.bipush i, 2)) (hx : nx = pc + 2) (hv : v = .int (Int8.ofInt i).toInt32) (hz : zex n rt (pc, .bipush i, nx, hs, v) L S h = some o) : zOn p l e R s m args below meth c Q E kc ks n pc nx L S h o := by
  subst hv
  cases hz
  subst hx
  intro _ k H locs ls hR hf hl
  exact lv_bipush X.1 X.2.1 hd rfl (k H locs ls hR hf hl)
theorem zs_sipush {i : Int} {pc nx : Nat} {hs : List Nat} {v : Value} {L : zLs} {S : List Value} {h : zIJ} {o : zO} (X : zX p R kc ks s m args meth c cc n own rt E) (hd : decode cc pc = .ok (.sipush i, 3)) (hx : nx = pc + 3) (hv : v = .int (Int16.ofInt i).toInt32) (hz : zex n rt (pc, .sipush i, nx, hs, v) L S h = some o) : zOn p l e R s m args below meth c Q E kc ks n pc nx L S h o := by
  subst hv
  cases hz
  subst hx
  intro _ k H locs ls hR hf hl
  exact lv_sipush X.1 X.2.1 hd rfl (k H locs ls hR hf hl)
theorem zs_lconst {i : Fin 2} {pc nx : Nat} {hs : List Nat} {v : Value} {L : zLs} {S : List Value} {h : zIJ} {o : zO} (X : zX p R kc ks s m args meth c cc n own rt E) (hd : decode cc pc = .ok (.lconst i, 1)) (hx : nx = pc + 1) (hv : v = .long (Int64.ofNat (i : Nat))) (hz : zex n rt (pc, .lconst i, nx, hs, v) L S h = some o) : zOn p l e R s m args below meth c Q E kc ks n pc nx L S h o := by
  subst hv
  cases hz
  subst hx
  intro _ k H locs ls hR hf hl
  exact lv_lconst X.1 X.2.1 hd rfl (k H locs ls hR hf hl)
theorem zs_ldc {i : Nat} {z : Int32} {pc nx : Nat} {hs : List Nat} {v : Value} {L : zLs} {S : List Value} {h : zIJ} {o : zO} (X : zX p R kc ks s m args meth c cc n own rt E) (hd : decode cc pc = .ok (.ldc i, 2)) (hx : nx = pc + 2) (hv : v = .int z) (hw : Cond.constant own i z ∈ zTG) (hz : zex n rt (pc, .ldc i, nx, hs, v) L S h = some o) : zOn p l e R s m args below meth c Q E kc ks n pc nx L S h o := by
  subst hv
  cases hz
  subst hx
  intro _ k H locs ls hR hf hl
  exact lv_ldc X.1 X.2.1 X.2.2.2.1 (X.2.2.2.2.1 _ hw) hd (k H locs ls hR hf hl)
theorem zs_ldc_w {i : Nat} {z : Int32} {pc nx : Nat} {hs : List Nat} {v : Value} {L : zLs} {S : List Value} {h : zIJ} {o : zO} (X : zX p R kc ks s m args meth c cc n own rt E) (hd : decode cc pc = .ok (.ldc_w i, 3)) (hx : nx = pc + 3) (hv : v = .int z) (hw : Cond.constant own i z ∈ zTG) (hz : zex n rt (pc, .ldc_w i, nx, hs, v) L S h = some o) : zOn p l e R s m args below meth c Q E kc ks n pc nx L S h o := by
  subst hv
  cases hz
  subst hx
  intro _ k H locs ls hR hf hl
  exact lv_ldcw X.1 X.2.1 X.2.2.2.1 (X.2.2.2.2.1 _ hw) hd (k H locs ls hR hf hl)
theorem zs_ldc2_w {i : Nat} {z : Int64} {pc nx : Nat} {hs : List Nat} {v : Value} {L : zLs} {S : List Value} {h : zIJ} {o : zO} (X : zX p R kc ks s m args meth c cc n own rt E) (hd : decode cc pc = .ok (.ldc2_w i, 3)) (hx : nx = pc + 3) (hv : v = .long z) (hw : Cond.constantLong own i z ∈ zTG) (hz : zex n rt (pc, .ldc2_w i, nx, hs, v) L S h = some o) : zOn p l e R s m args below meth c Q E kc ks n pc nx L S h o := by
  subst hv
  cases hz
  subst hx
  intro _ k H locs ls hR hf hl
  exact lv_ldc2 X.1 X.2.1 X.2.2.2.1 (X.2.2.2.2.1 _ hw) hd (k H locs ls hR hf hl)
theorem zs_iload_n {i : Fin 4} {pc nx : Nat} {hs : List Nat} {v : Value} {L : zLs} {S : List Value} {h : zIJ} {o : zO} (X : zX p R kc ks s m args meth c cc n own rt E) (hd : decode cc pc = .ok (.iload_n i, 1)) (hx : nx = pc + 1) (hz : zex n rt (pc, .iload_n i, nx, hs, v) L S h = some o) : zOn p l e R s m args below meth c Q E kc ks n pc nx L S h o := by
  unfold zex at hz
  dsimp only at hz
  unfold zldI at hz
  split at hz
  · rename_i x hx2
    cases hz
    subst hx
    intro _ k H locs ls hR hf hl
    exact lv_iload_n X.1 X.2.1 hd rfl (zl_at hl hx2) (k H locs ls hR hf hl)
  · cases hz
theorem zs_iload {i : Nat} {pc nx : Nat} {hs : List Nat} {v : Value} {L : zLs} {S : List Value} {h : zIJ} {o : zO} (X : zX p R kc ks s m args meth c cc n own rt E) (hd : decode cc pc = .ok (.iload i, 2)) (hx : nx = pc + 2) (hz : zex n rt (pc, .iload i, nx, hs, v) L S h = some o) : zOn p l e R s m args below meth c Q E kc ks n pc nx L S h o := by
  unfold zex at hz
  dsimp only at hz
  unfold zldI at hz
  split at hz
  · rename_i x hx2
    cases hz
    subst hx
    intro _ k H locs ls hR hf hl
    exact lv_iload X.1 X.2.1 hd (zl_at hl hx2) (k H locs ls hR hf hl)
  · cases hz
theorem zs_lload_n {i : Fin 4} {pc nx : Nat} {hs : List Nat} {v : Value} {L : zLs} {S : List Value} {h : zIJ} {o : zO} (X : zX p R kc ks s m args meth c cc n own rt E) (hd : decode cc pc = .ok (.lload_n i, 1)) (hx : nx = pc + 1) (hz : zex n rt (pc, .lload_n i, nx, hs, v) L S h = some o) : zOn p l e R s m args below meth c Q E kc ks n pc nx L S h o := by
  unfold zex at hz
  dsimp only at hz
  unfold zldL at hz
  split at hz
  · rename_i x hx2
    cases hz
    subst hx
    intro _ k H locs ls hR hf hl
    exact lv_lload_n X.1 X.2.1 hd rfl (zl_at hl hx2) (k H locs ls hR hf hl)
  · cases hz
theorem zs_lload {i : Nat} {pc nx : Nat} {hs : List Nat} {v : Value} {L : zLs} {S : List Value} {h : zIJ} {o : zO} (X : zX p R kc ks s m args meth c cc n own rt E) (hd : decode cc pc = .ok (.lload i, 2)) (hx : nx = pc + 2) (hz : zex n rt (pc, .lload i, nx, hs, v) L S h = some o) : zOn p l e R s m args below meth c Q E kc ks n pc nx L S h o := by
  unfold zex at hz
  dsimp only at hz
  unfold zldL at hz
  split at hz
  · rename_i x hx2
    cases hz
    subst hx
    intro _ k H locs ls hR hf hl
    exact lv_lload X.1 X.2.1 hd (zl_at hl hx2) (k H locs ls hR hf hl)
  · cases hz
theorem zs_aload_n {i : Fin 4} {pc nx : Nat} {hs : List Nat} {v : Value} {L : zLs} {S : List Value} {h : zIJ} {o : zO} (X : zX p R kc ks s m args meth c cc n own rt E) (hd : decode cc pc = .ok (.aload_n i, 1)) (hx : nx = pc + 1) (hz : zex n rt (pc, .aload_n i, nx, hs, v) L S h = some o) : zOn p l e R s m args below meth c Q E kc ks n pc nx L S h o := by
  unfold zex at hz
  dsimp only at hz
  unfold zldA at hz
  split at hz
  · rename_i x hx2
    cases hz
    subst hx
    intro _ k H locs ls hR hf hl
    exact lv_aload_n X.1 X.2.1 hd rfl (zl_at hl hx2) (k H locs ls hR hf hl)
  · cases hz
theorem zs_aload {i : Nat} {pc nx : Nat} {hs : List Nat} {v : Value} {L : zLs} {S : List Value} {h : zIJ} {o : zO} (X : zX p R kc ks s m args meth c cc n own rt E) (hd : decode cc pc = .ok (.aload i, 2)) (hx : nx = pc + 2) (hz : zex n rt (pc, .aload i, nx, hs, v) L S h = some o) : zOn p l e R s m args below meth c Q E kc ks n pc nx L S h o := by
  unfold zex at hz
  dsimp only at hz
  unfold zldA at hz
  split at hz
  · rename_i x hx2
    cases hz
    subst hx
    intro _ k H locs ls hR hf hl
    exact lv_aload X.1 X.2.1 hd (zl_at hl hx2) (k H locs ls hR hf hl)
  · cases hz
theorem zs_istore_n {i : Fin 4} {pc nx : Nat} {hs : List Nat} {v : Value} {L : zLs} {S : List Value} {h : zIJ} {o : zO} (X : zX p R kc ks s m args meth c cc n own rt E) (hd : decode cc pc = .ok (.istore_n i, 1)) (hx : nx = pc + 1) (hz : zex n rt (pc, .istore_n i, nx, hs, v) L S h = some o) : zOn p l e R s m args below meth c Q E kc ks n pc nx L S h o := by
  match S, hz with
  | .int x :: r, hz =>
    obtain ⟨hb, hz⟩ := zcond (show cond (Nat.blt _ n) _ none = some o from hz)
    cases hz
    subst hx
    intro _ k H locs ls hR hf hl
    exact lv_istore_n X.1 X.2.1 hd rfl hl (Nat.blt_eq.mp hb) (zl_st L i (.int x)) (fun ls' hl' => k H locs ls' hR hf hl')
theorem zs_istore {i : Nat} {pc nx : Nat} {hs : List Nat} {v : Value} {L : zLs} {S : List Value} {h : zIJ} {o : zO} (X : zX p R kc ks s m args meth c cc n own rt E) (hd : decode cc pc = .ok (.istore i, 2)) (hx : nx = pc + 2) (hz : zex n rt (pc, .istore i, nx, hs, v) L S h = some o) : zOn p l e R s m args below meth c Q E kc ks n pc nx L S h o := by
  match S, hz with
  | .int x :: r, hz =>
    obtain ⟨hb, hz⟩ := zcond (show cond (Nat.blt _ n) _ none = some o from hz)
    cases hz
    subst hx
    intro _ k H locs ls hR hf hl
    exact lv_istore X.1 X.2.1 hd hl (Nat.blt_eq.mp hb) (zl_st L i (.int x)) (fun ls' hl' => k H locs ls' hR hf hl')
theorem zs_astore_n {i : Fin 4} {pc nx : Nat} {hs : List Nat} {v : Value} {L : zLs} {S : List Value} {h : zIJ} {o : zO} (X : zX p R kc ks s m args meth c cc n own rt E) (hd : decode cc pc = .ok (.astore_n i, 1)) (hx : nx = pc + 1) (hz : zex n rt (pc, .astore_n i, nx, hs, v) L S h = some o) : zOn p l e R s m args below meth c Q E kc ks n pc nx L S h o := by
  match S, hz with
  | .ref x :: r, hz =>
    obtain ⟨hb, hz⟩ := zcond (show cond (Nat.blt _ n) _ none = some o from hz)
    cases hz
    subst hx
    intro _ k H locs ls hR hf hl
    exact lv_astore_n X.1 X.2.1 hd rfl hl (Nat.blt_eq.mp hb) (zl_st L i (.ref x)) (fun ls' hl' => k H locs ls' hR hf hl')
theorem zs_astore {i : Nat} {pc nx : Nat} {hs : List Nat} {v : Value} {L : zLs} {S : List Value} {h : zIJ} {o : zO} (X : zX p R kc ks s m args meth c cc n own rt E) (hd : decode cc pc = .ok (.astore i, 2)) (hx : nx = pc + 2) (hz : zex n rt (pc, .astore i, nx, hs, v) L S h = some o) : zOn p l e R s m args below meth c Q E kc ks n pc nx L S h o := by
  match S, hz with
  | .ref x :: r, hz =>
    obtain ⟨hb, hz⟩ := zcond (show cond (Nat.blt _ n) _ none = some o from hz)
    cases hz
    subst hx
    intro _ k H locs ls hR hf hl
    exact lv_astore X.1 X.2.1 hd hl (Nat.blt_eq.mp hb) (zl_st L i (.ref x)) (fun ls' hl' => k H locs ls' hR hf hl')
theorem zs_lstore_n {i : Fin 4} {pc nx : Nat} {hs : List Nat} {v : Value} {L : zLs} {S : List Value} {h : zIJ} {o : zO} (X : zX p R kc ks s m args meth c cc n own rt E) (hd : decode cc pc = .ok (.lstore_n i, 1)) (hx : nx = pc + 1) (hz : zex n rt (pc, .lstore_n i, nx, hs, v) L S h = some o) : zOn p l e R s m args below meth c Q E kc ks n pc nx L S h o := by
  match S, hz with
  | .long x :: r, hz =>
    obtain ⟨hb, hz⟩ := zcond (show cond (Nat.blt _ n) _ none = some o from hz)
    cases hz
    subst hx
    intro _ k H locs ls hR hf hl
    exact lv_lstore_n X.1 X.2.1 hd rfl hl (Nat.blt_eq.mp hb) (zl_st2 L i (.long x)) (fun ls' hl' => k H locs ls' hR hf hl')
theorem zs_lstore {i : Nat} {pc nx : Nat} {hs : List Nat} {v : Value} {L : zLs} {S : List Value} {h : zIJ} {o : zO} (X : zX p R kc ks s m args meth c cc n own rt E) (hd : decode cc pc = .ok (.lstore i, 2)) (hx : nx = pc + 2) (hz : zex n rt (pc, .lstore i, nx, hs, v) L S h = some o) : zOn p l e R s m args below meth c Q E kc ks n pc nx L S h o := by
  match S, hz with
  | .long x :: r, hz =>
    obtain ⟨hb, hz⟩ := zcond (show cond (Nat.blt _ n) _ none = some o from hz)
    cases hz
    subst hx
    intro _ k H locs ls hR hf hl
    exact lv_lstore X.1 X.2.1 hd hl (Nat.blt_eq.mp hb) (zl_st2 L i (.long x)) (fun ls' hl' => k H locs ls' hR hf hl')
theorem zs_iinc {i : Nat} {d : Int} {pc nx : Nat} {hs : List Nat} {v : Value} {L : zLs} {S : List Value} {h : zIJ} {o : zO} (X : zX p R kc ks s m args meth c cc n own rt E) (hd : decode cc pc = .ok (.iinc i d, 3)) (hx : nx = pc + 3) (hv : v = .int (Int32.ofInt d)) (hz : zex n rt (pc, .iinc i d, nx, hs, v) L S h = some o) : zOn p l e R s m args below meth c Q E kc ks n pc nx L S h o := by
  subst hv
  unfold zex at hz
  dsimp only at hz
  unfold zinc at hz
  split at hz
  · rename_i x y z hx2 hx3
    cases hx3
    obtain ⟨hb, hz⟩ := zcond hz
    cases hz
    subst hx
    intro _ k H locs ls hR hf hl
    obtain ⟨q, hq⟩ := zl_k (E := E) hx2
    exact lv_iinc X.1 X.2.1 hd hl hq rfl (Nat.blt_eq.mp hb) (zl_st L i (.int _)) (fun ls' hl' => k H locs ls' hR hf hl')
  · cases hz
theorem zs_dup {pc nx : Nat} {hs : List Nat} {v : Value} {L : zLs} {S : List Value} {h : zIJ} {o : zO} (X : zX p R kc ks s m args meth c cc n own rt E) (hd : decode cc pc = .ok (.dup, 1)) (hx : nx = pc + 1) (hz : zex n rt (pc, .dup, nx, hs, v) L S h = some o) : zOn p l e R s m args below meth c Q E kc ks n pc nx L S h o := by
  match S, hz with
  | w :: r, hz =>
    obtain ⟨hb, hz⟩ := zcond (show cond (Nat.beq w.category 1) _ none = some o from hz)
    cases hz
    subst hx
    intro _ k H locs ls hR hf hl
    exact lv_dup X.1 X.2.1 hd (by rw [zv_cat]; exact Nat.eq_of_beq_eq_true hb) (k H locs ls hR hf hl)
theorem zs_dup2 {pc nx : Nat} {hs : List Nat} {v : Value} {L : zLs} {S : List Value} {h : zIJ} {o : zO} (X : zX p R kc ks s m args meth c cc n own rt E) (hd : decode cc pc = .ok (.dup2, 1)) (hx : nx = pc + 1) (hz : zex n rt (pc, .dup2, nx, hs, v) L S h = some o) : zOn p l e R s m args below meth c Q E kc ks n pc nx L S h o := by
  match S, hz with
  | w :: r, hz =>
    subst hx
    cases hb : Nat.beq w.category 2 with
    | true =>
      have hz : zgo0 L (w :: w :: r) h = some o := by
        have h2 : cond (Nat.beq w.category 2) (zgo0 L (w :: w :: r) h) _ = some o := hz
        rw [hb] at h2
        exact h2
      cases hz
      intro _ k H locs ls hR hf hl
      exact lv_dup2_2 X.1 X.2.1 hd (by rw [zv_cat]; exact Nat.eq_of_beq_eq_true hb) (k H locs ls hR hf hl)
    | false =>
      match r, hz with
      | [], hz =>
        have h2 : cond (Nat.beq w.category 2) (zgo0 L (w :: w :: []) h) none = some o := hz
        rw [hb] at h2
        cases h2
      | u :: r2, hz =>
        have h2 : cond (Nat.beq w.category 2) (zgo0 L (w :: w :: u :: r2) h) (cond (Nat.beq u.category 1) (zgo0 L (w :: u :: w :: u :: r2) h) none) = some o := hz
        rw [hb] at h2
        obtain ⟨hb2, hz⟩ := zcond (show cond (Nat.beq u.category 1) _ none = some o from h2)
        cases hz
        intro _ k H locs ls hR hf hl
        have hc1 : w.category = 1 := by
          rcases lv_cat w with h | h
          · exact h
          · rw [h] at hb; cases hb
        exact lv_dup2_11 X.1 X.2.1 hd (by rw [zv_cat]; exact hc1) (by rw [zv_cat]; exact Nat.eq_of_beq_eq_true hb2) (k H locs ls hR hf hl)
theorem zs_goto {off : Int} {pc nx : Nat} {hs : List Nat} {v : Value} {L : zLs} {S : List Value} {h : zIJ} {o : zO} (X : zX p R kc ks s m args meth c cc n own rt E) (hd : decode cc pc = .ok (.goto off, 3)) (ht : ∀ t, hs = [t] → (pc : Int) + off = (t : Int)) (hz : zex n rt (pc, .goto off, nx, hs, v) L S h = some o) : zOn p l e R s m args below meth c Q E kc ks n pc nx L S h o := by
  match hs, hz with
  | [t], hz =>
    cases hz
    intro k H locs ls hR hf hl
    exact lv_goto X.1 X.2.1 hd (ht t rfl) (k H locs ls hR hf hl)
theorem zs_ifCond_eq {off : Int} {pc nx : Nat} {hs : List Nat} {v : Value} {L : zLs} {S : List Value} {h : zIJ} {o : zO} (X : zX p R kc ks s m args meth c cc n own rt E) (hd : decode cc pc = .ok (.ifCond .eq off, 3)) (hx : nx = pc + 3) (ht : ∀ t, hs = [t] → (pc : Int) + off = (t : Int)) (hz : zex n rt (pc, .ifCond .eq off, nx, hs, v) L S h = some o) : zOn p l e R s m args below meth c Q E kc ks n pc nx L S h o := by
  match S, hs, hz with
  | .int x :: r, [t], hz =>
    cases hz
    subst hx
    intro kt kf H locs ls hR hf hl
    exact lv_if_eq X.1 X.2.1 hd (ht t rfl) (fun q => kt (by simpa using q) H locs ls hR hf hl) (fun q => kf (by simpa using q) H locs ls hR hf hl)
theorem zs_if_icmp_eq {off : Int} {pc nx : Nat} {hs : List Nat} {v : Value} {L : zLs} {S : List Value} {h : zIJ} {o : zO} (X : zX p R kc ks s m args meth c cc n own rt E) (hd : decode cc pc = .ok (.if_icmp .eq off, 3)) (hx : nx = pc + 3) (ht : ∀ t, hs = [t] → (pc : Int) + off = (t : Int)) (hz : zex n rt (pc, .if_icmp .eq off, nx, hs, v) L S h = some o) : zOn p l e R s m args below meth c Q E kc ks n pc nx L S h o := by
  match S, hs, hz with
  | .int y :: .int x :: r, [t], hz =>
    cases hz
    subst hx
    intro kt kf H locs ls hR hf hl
    exact lv_icmp_eq X.1 X.2.1 hd (ht t rfl) (fun q => kt (by simpa using q) H locs ls hR hf hl) (fun q => kf (by simpa using q) H locs ls hR hf hl)
theorem zs_ifCond_ne {off : Int} {pc nx : Nat} {hs : List Nat} {v : Value} {L : zLs} {S : List Value} {h : zIJ} {o : zO} (X : zX p R kc ks s m args meth c cc n own rt E) (hd : decode cc pc = .ok (.ifCond .ne off, 3)) (hx : nx = pc + 3) (ht : ∀ t, hs = [t] → (pc : Int) + off = (t : Int)) (hz : zex n rt (pc, .ifCond .ne off, nx, hs, v) L S h = some o) : zOn p l e R s m args below meth c Q E kc ks n pc nx L S h o := by
  match S, hs, hz with
  | .int x :: r, [t], hz =>
    cases hz
    subst hx
    intro kt kf H locs ls hR hf hl
    exact lv_if_ne X.1 X.2.1 hd (ht t rfl) (fun q => kt (by simpa using q) H locs ls hR hf hl) (fun q => kf (by simpa using q) H locs ls hR hf hl)
theorem zs_if_icmp_ne {off : Int} {pc nx : Nat} {hs : List Nat} {v : Value} {L : zLs} {S : List Value} {h : zIJ} {o : zO} (X : zX p R kc ks s m args meth c cc n own rt E) (hd : decode cc pc = .ok (.if_icmp .ne off, 3)) (hx : nx = pc + 3) (ht : ∀ t, hs = [t] → (pc : Int) + off = (t : Int)) (hz : zex n rt (pc, .if_icmp .ne off, nx, hs, v) L S h = some o) : zOn p l e R s m args below meth c Q E kc ks n pc nx L S h o := by
  match S, hs, hz with
  | .int y :: .int x :: r, [t], hz =>
    cases hz
    subst hx
    intro kt kf H locs ls hR hf hl
    exact lv_icmp_ne X.1 X.2.1 hd (ht t rfl) (fun q => kt (by simpa using q) H locs ls hR hf hl) (fun q => kf (by simpa using q) H locs ls hR hf hl)
theorem zs_ifCond_lt {off : Int} {pc nx : Nat} {hs : List Nat} {v : Value} {L : zLs} {S : List Value} {h : zIJ} {o : zO} (X : zX p R kc ks s m args meth c cc n own rt E) (hd : decode cc pc = .ok (.ifCond .lt off, 3)) (hx : nx = pc + 3) (ht : ∀ t, hs = [t] → (pc : Int) + off = (t : Int)) (hz : zex n rt (pc, .ifCond .lt off, nx, hs, v) L S h = some o) : zOn p l e R s m args below meth c Q E kc ks n pc nx L S h o := by
  match S, hs, hz with
  | .int x :: r, [t], hz =>
    cases hz
    subst hx
    intro kt kf H locs ls hR hf hl
    exact lv_if_lt X.1 X.2.1 hd (ht t rfl) (fun q => kt (by simpa using q) H locs ls hR hf hl) (fun q => kf (by simpa using q) H locs ls hR hf hl)
theorem zs_if_icmp_lt {off : Int} {pc nx : Nat} {hs : List Nat} {v : Value} {L : zLs} {S : List Value} {h : zIJ} {o : zO} (X : zX p R kc ks s m args meth c cc n own rt E) (hd : decode cc pc = .ok (.if_icmp .lt off, 3)) (hx : nx = pc + 3) (ht : ∀ t, hs = [t] → (pc : Int) + off = (t : Int)) (hz : zex n rt (pc, .if_icmp .lt off, nx, hs, v) L S h = some o) : zOn p l e R s m args below meth c Q E kc ks n pc nx L S h o := by
  match S, hs, hz with
  | .int y :: .int x :: r, [t], hz =>
    cases hz
    subst hx
    intro kt kf H locs ls hR hf hl
    exact lv_icmp_lt X.1 X.2.1 hd (ht t rfl) (fun q => kt (by simpa using q) H locs ls hR hf hl) (fun q => kf (by simpa using q) H locs ls hR hf hl)
theorem zs_ifCond_ge {off : Int} {pc nx : Nat} {hs : List Nat} {v : Value} {L : zLs} {S : List Value} {h : zIJ} {o : zO} (X : zX p R kc ks s m args meth c cc n own rt E) (hd : decode cc pc = .ok (.ifCond .ge off, 3)) (hx : nx = pc + 3) (ht : ∀ t, hs = [t] → (pc : Int) + off = (t : Int)) (hz : zex n rt (pc, .ifCond .ge off, nx, hs, v) L S h = some o) : zOn p l e R s m args below meth c Q E kc ks n pc nx L S h o := by
  match S, hs, hz with
  | .int x :: r, [t], hz =>
    cases hz
    subst hx
    intro kt kf H locs ls hR hf hl
    exact lv_if_ge X.1 X.2.1 hd (ht t rfl) (fun q => kt (by simpa using q) H locs ls hR hf hl) (fun q => kf (by simpa using q) H locs ls hR hf hl)
theorem zs_if_icmp_ge {off : Int} {pc nx : Nat} {hs : List Nat} {v : Value} {L : zLs} {S : List Value} {h : zIJ} {o : zO} (X : zX p R kc ks s m args meth c cc n own rt E) (hd : decode cc pc = .ok (.if_icmp .ge off, 3)) (hx : nx = pc + 3) (ht : ∀ t, hs = [t] → (pc : Int) + off = (t : Int)) (hz : zex n rt (pc, .if_icmp .ge off, nx, hs, v) L S h = some o) : zOn p l e R s m args below meth c Q E kc ks n pc nx L S h o := by
  match S, hs, hz with
  | .int y :: .int x :: r, [t], hz =>
    cases hz
    subst hx
    intro kt kf H locs ls hR hf hl
    exact lv_icmp_ge X.1 X.2.1 hd (ht t rfl) (fun q => kt (by simpa using q) H locs ls hR hf hl) (fun q => kf (by simpa using q) H locs ls hR hf hl)
theorem zs_ifCond_gt {off : Int} {pc nx : Nat} {hs : List Nat} {v : Value} {L : zLs} {S : List Value} {h : zIJ} {o : zO} (X : zX p R kc ks s m args meth c cc n own rt E) (hd : decode cc pc = .ok (.ifCond .gt off, 3)) (hx : nx = pc + 3) (ht : ∀ t, hs = [t] → (pc : Int) + off = (t : Int)) (hz : zex n rt (pc, .ifCond .gt off, nx, hs, v) L S h = some o) : zOn p l e R s m args below meth c Q E kc ks n pc nx L S h o := by
  match S, hs, hz with
  | .int x :: r, [t], hz =>
    cases hz
    subst hx
    intro kt kf H locs ls hR hf hl
    exact lv_if_gt X.1 X.2.1 hd (ht t rfl) (fun q => kt (by simpa using q) H locs ls hR hf hl) (fun q => kf (by simpa using q) H locs ls hR hf hl)
theorem zs_if_icmp_gt {off : Int} {pc nx : Nat} {hs : List Nat} {v : Value} {L : zLs} {S : List Value} {h : zIJ} {o : zO} (X : zX p R kc ks s m args meth c cc n own rt E) (hd : decode cc pc = .ok (.if_icmp .gt off, 3)) (hx : nx = pc + 3) (ht : ∀ t, hs = [t] → (pc : Int) + off = (t : Int)) (hz : zex n rt (pc, .if_icmp .gt off, nx, hs, v) L S h = some o) : zOn p l e R s m args below meth c Q E kc ks n pc nx L S h o := by
  match S, hs, hz with
  | .int y :: .int x :: r, [t], hz =>
    cases hz
    subst hx
    intro kt kf H locs ls hR hf hl
    exact lv_icmp_gt X.1 X.2.1 hd (ht t rfl) (fun q => kt (by simpa using q) H locs ls hR hf hl) (fun q => kf (by simpa using q) H locs ls hR hf hl)
theorem zs_ifCond_le {off : Int} {pc nx : Nat} {hs : List Nat} {v : Value} {L : zLs} {S : List Value} {h : zIJ} {o : zO} (X : zX p R kc ks s m args meth c cc n own rt E) (hd : decode cc pc = .ok (.ifCond .le off, 3)) (hx : nx = pc + 3) (ht : ∀ t, hs = [t] → (pc : Int) + off = (t : Int)) (hz : zex n rt (pc, .ifCond .le off, nx, hs, v) L S h = some o) : zOn p l e R s m args below meth c Q E kc ks n pc nx L S h o := by
  match S, hs, hz with
  | .int x :: r, [t], hz =>
    cases hz
    subst hx
    intro kt kf H locs ls hR hf hl
    exact lv_if_le X.1 X.2.1 hd (ht t rfl) (fun q => kt (by simpa using q) H locs ls hR hf hl) (fun q => kf (by simpa using q) H locs ls hR hf hl)
theorem zs_if_icmp_le {off : Int} {pc nx : Nat} {hs : List Nat} {v : Value} {L : zLs} {S : List Value} {h : zIJ} {o : zO} (X : zX p R kc ks s m args meth c cc n own rt E) (hd : decode cc pc = .ok (.if_icmp .le off, 3)) (hx : nx = pc + 3) (ht : ∀ t, hs = [t] → (pc : Int) + off = (t : Int)) (hz : zex n rt (pc, .if_icmp .le off, nx, hs, v) L S h = some o) : zOn p l e R s m args below meth c Q E kc ks n pc nx L S h o := by
  match S, hs, hz with
  | .int y :: .int x :: r, [t], hz =>
    cases hz
    subst hx
    intro kt kf H locs ls hR hf hl
    exact lv_icmp_le X.1 X.2.1 hd (ht t rfl) (fun q => kt (by simpa using q) H locs ls hR hf hl) (fun q => kf (by simpa using q) H locs ls hR hf hl)
end ZS
