/-! Instructions of the machine of making. -/
def zcum : Nat → Nat
  | 0 => 0
  | k + 1 => zcum k + (zC k).2
theorem zcum_le {a b : Nat} (h : a ≤ b) : zcum a ≤ zcum b := by
  induction h with
  | refl => exact Nat.le_refl _
  | step _ ih => exact Nat.le_trans ih (Nat.le_add_right _ _)
def ycls (ci : Nat) : String := match vwCl[ci]? with
  | some r => r.1
  | none => ""
noncomputable def yokI (own : String) (pc : Nat) (ins : Instr) (nx : Nat) (hs : List Nat) (v : Value) : Bool := match ins with
  | .iconst i => Nat.beq nx (pc + 1) && decide (v = .int (Int32.ofInt i))
  | .bipush i => Nat.beq nx (pc + 2) && decide (v = .int (Int8.ofInt i).toInt32)
  | .sipush i => Nat.beq nx (pc + 3) && decide (v = .int (Int16.ofInt i).toInt32)
  | .lconst i => Nat.beq nx (pc + 1) && decide (v = .long (Int64.ofNat (i : Nat)))
  | .aload_n _ | .iload_n _ | .istore_n _ | .astore_n _ | .dup | .iastore | .aastore | .return_ => Nat.beq nx (pc + 1)
  | .iinc _ d => Nat.beq nx (pc + 3) && decide (v = .int (Int32.ofInt d))
  | .goto off => Nat.beq nx (pc + 3) && zokT pc off hs
  | .if_icmp _ off => Nat.beq nx (pc + 3) && zokT pc off hs
  | .getfield i => Nat.beq nx (pc + 3) && zokF true own i hs
  | .putfield i => Nat.beq nx (pc + 3) && (zokF true own i hs && decide ((hs.head?).map ycls = some own))
  | .new i => Nat.beq nx (pc + 3) && (match hs with
    | [ci, nf, p1, p2, p3] => Nat.blt ci 13 && (zword p1 (.classLink own i (ycls ci)) && (zword p2 (.instantiable (ycls ci) nf) && zword p3 (.initialized (ycls ci))))
    | _ => false)
  | .newarray ty => Nat.beq nx (pc + 2) && (match ty, hs with
    | .int, [kd, pl] => Nat.beq kd 100 && zword pl (.arrayClass .int)
    | .long, [kd, pl] => Nat.beq kd 101 && zword pl (.arrayClass .long)
    | _, _ => false)
  | .anewarray i => Nat.beq nx (pc + 3) && (match hs with
    | [kd, pl] => (Nat.beq kd 102 && zword pl (.classLink own i RX0)) || (Nat.beq kd 103 && zword pl (.classLink own i RX8))
    | _ => false)
  | .multianewarray i d => Nat.beq nx (pc + 4) && (Nat.beq d 2 && (match hs with
    | [kd, ki, pl] => (Nat.beq kd 104 && (Nat.beq ki 100 && zword pl (.classLink own i "[[I"))) || (Nat.beq kd 105 && (Nat.beq ki 101 && zword pl (.classLink own i "[[J")))
    | _ => false))
  | .invokespecial i => Nat.beq nx (pc + 3) && (match hs with
    | [q, pl] => Nat.beq q 998 && zword pl (.methodLink own i Lib.objectInit)
    | [q, pl, nest] => Nat.blt q 13 && zokL own i (yIs q).1 pl nest
    | _ => false)
  | _ => false
noncomputable def yokE (own : String) (cc : ByteArray) (e : zEn) : Bool := decide (decode cc e.1 = .ok (e.2.1, e.2.2.1 - e.1)) && yokI own e.1 e.2.1 e.2.2.1 e.2.2.2.1 e.2.2.2.2
noncomputable def yokM (k : Nat) : Bool := (match (yIs k).2.2.2 with
    | [p0, p1, p2] => zword p0 (.code (yIs k).1 (yIs k).2.1 (yMs k).1 none) && (zword p1 (.initialized (yIs k).1.cls) && zword p2 (.instanceMethod (yIs k).1))
    | _ => false) && (decide ((yIs k).1.cls ≠ "java/lang/invoke/MethodHandle" ∧ (yIs k).1.cls ≠ "java/lang/invoke/VarHandle") && (plainName (yIs k).1.cls && (Nat.ble (yMs k).1 45 && ((yMs k).2.all (yokE (yIs k).1.cls (yIs k).2.1) && (decide ((yIs k).1.name = "<init>") && (decide ((yIs k).1.desc = "()V") && (decide (ycls k = (yIs k).1.cls) && Nat.ble 1 (yMs k).1)))))))
theorem yok_all : (List.range 13).all yokM = true := by decide +kernel
theorem yok_law : yLaw.all (yokE "MarkedSweepsLaw" code) = true := by decide +kernel
section YS
variable {p : Program} {l : Launch} {e : Env} {R : Room} {s : State} {m : MethodId} {args : Array Value} {below : List Frame} {meth : Method} {c : Code} {Q : State → Prop} {E : zE} {n : Nat} {cc : ByteArray} {own : String} {x0 : Nat → Int32} {N0 : Nat}
def yN (p : Program) (l : Launch) (e : Env) (R : Room) (s : State) (m : MethodId) (args : Array Value) (below : List Frame) (meth : Method) (c : Code) (Q : State → Prop) (E : zE) (x0 : Nat → Int32) (N0 n pc : Nat) (L : zLs) (S : List Value) (st : yS) : Prop :=
  ∀ (H : Heap) (locs : List Loc) (ls : Array Slot), yR E s x0 st H → (∀ q ∈ locs, E.2.2.2.size ≤ q.base) → lv_has ls n (zl E L) → W p l e R s m args below meth c H locs (st.1 - N0) (zcum st.1 - zcum N0) Q (F0 m pc ls (S.map (zv E)))
def yX (p : Program) (R : Room) (s : State) (m : MethodId) (args : Array Value) (meth : Method) (c : Code) (cc : ByteArray) (n : Nat) (own : String) (E : zE) : Prop :=
  p.tables.exec = Jvm.exec ∧ c.code = cc ∧ c.maxLocals = n ∧ s.vm.findClass own = some m.cls ∧ (∀ w ∈ zTG, w.before args s = true) ∧ yF E s ∧ 1 ≤ R.frames ∧ 64 ≤ R.locals
/-- a new object -/
theorem ys_new {i pc ci nf : Nat} {L : zLs} {S : List Value} {st : yS} (X : yX p R s m args meth c cc n own E) (hd : decode cc pc = .ok (.new i, 3)) (hci : ci < 13) (hw1 : Cond.classLink own i (ycls ci) ∈ zTG) (hw2 : Cond.instantiable (ycls ci) nf ∈ zTG) (hw3 : Cond.initialized (ycls ci) ∈ zTG) (hz : zC st.1 = (ci, nf)) (h0 : N0 ≤ st.1) (hrc : st.1 + 1 - N0 ≤ R.cells) (hrs : zcum (st.1 + 1) - zcum N0 ≤ R.slots)
    (k : yN p l e R s m args below meth c Q E x0 N0 n (pc + 3) L (.ref st.1 :: S) (st.1 + 1, st.2)) : yN p l e R s m args below meth c Q E x0 N0 n pc L S st := by
  intro H locs ls hR hf hl
  obtain ⟨hx, hcc, hml, hown, hts, hF, -⟩ := X
  have hcum : zcum (st.1 + 1) = zcum st.1 + nf := by show zcum st.1 + (zC st.1).2 = _; rw [hz]
  have hle := zcum_le h0
  refine W.newc hx hcc hown (hts _ hw1) (hts _ hw2) (hts _ hw3) rfl hd (by omega) (by omega) fun cC kC h1 h2 h3 h4 => ?_
  have hcl : ∃ T : u_T, vwCl[ci]? = some (ycls ci, T, nf) := by
    have hnf : ∀ c, c < 13 → ∀ n, Cond.instantiable (ycls c) n ∈ zTG → n = ((vwCl[c]?).map (fun r => r.2.2)).getD 0 := by
      intro c hc n hn
      have hn2 := List.mem_filter.mp hn
      have : ∀ c, c < 13 → (lw_tbl.filter goodWord).all (fun w => match w with | .instantiable C k => !decide (C = ycls c) || Nat.beq k (((vwCl[c]?).map (fun r => r.2.2)).getD 0) | _ => true) = true := by decide +kernel
      have h9 := List.all_eq_true.mp (this c hc) _ hn
      simpa using h9
    have e1 := hnf ci hci nf hw2
    have hlt : ci < vwCl.length := hci
    refine ⟨(vwCl[ci]'hlt).2.1, ?_⟩
    rw [List.getElem?_eq_getElem hlt] at e1 ⊢
    unfold ycls
    rw [List.getElem?_eq_getElem hlt]
    rw [e1]
    rfl
  obtain ⟨T, hcl⟩ := hcl
  obtain ⟨hin, hty, -⟩ := zcls_all ci hci _ T nf hcl
  have hKn := hF.1.1.1 ci _ hcl
  cases hKn.2.1.symm.trans h1
  have hsz := yR_sz hR
  have hob := u_born (H := H.push { cls := E.2.1.1 ci, slots := kC.instanceTypes.map defaultValue, vm := .none }) (o := zad E st.1) (zty ci) hts hin hKn h2 (by rw [← hsz, Array.getElem?_push_size]; rfl) hty
  have hgo := k (H.push { cls := E.2.1.1 ci, slots := kC.instanceTypes.map defaultValue, vm := .none }) locs ls (yR_new (d := 1) hR rfl rfl (fun _ _ _ => rfl) (by rw [Array.size_push]) (fun q hq => by rw [Array.getElem?_push, if_neg (Nat.ne_of_lt hq)]) (fun k h5 h6 => by
      have : k = st.1 := by omega
      subst this
      unfold ycell
      rw [hz, if_pos (show ci < 100 by omega)]
      refine ⟨_, hcl, rfl, hob.to (fun j hj => ?_)⟩
      have hv : ∀ j, (yg x0 st.2.2).1 st.1 j = 0 := fun j => by
        show cond (Nat.beq st.1 0) (x0 j) (yI st.2.2 st.1 j) = 0
        rw [zbeqf (by have := hR.1.2; omega)]
        exact yI_none hR.2.2.2.2.2 j
      have ha : ∀ j, yrv st.2.1 st.1 j = .null := fun j => by unfold yrv; rw [yA_none hR.2.2.2.2.1 j]; rfl
      have hall : ∀ ty : FieldType, (∃ d, parseFieldDescriptor d = some ty) → defaultValue ty = zv E (yfv (yg x0 st.2.2) st.2.1 st.1 j ty) ∨ ty = .byte ∨ ty = .char ∨ ty = .short ∨ ty = .float ∨ ty = .double := by
        intro ty _
        unfold yfv
        cases ty
        case int => left; show Value.int 0 = .int _; rw [hv]
        case boolean => left; show Value.int 0 = .int _; rw [hv]
        case long => left; rfl
        case object => left; dsimp only; rw [ha]; rfl
        case array => left; dsimp only; rw [ha]; rfl
        all_goals simp
      have hno : ∀ c, c < 13 → ∀ j, j < (((vwCl[c]?).map (fun r => r.2.2)).getD 0) → ¬ (zty c j = .byte ∨ zty c j = .char ∨ zty c j = .short ∨ zty c j = .float ∨ zty c j = .double) := by decide +kernel
      rcases hall (zty ci j) ⟨_, hty j hj⟩ with h | h
      · exact h
      · exact absurd h (hno ci hci j (by rw [hcl]; exact hj))) (fun q hq => by have := hR.2.2.2.2.1 q hq; omega)) hf hl
  rw [hsz]
  have e1 : st.1 - N0 + 1 = st.1 + 1 - N0 := by omega
  have e2 : zcum st.1 - zcum N0 + nf = zcum (st.1 + 1) - zcum N0 := by omega
  rw [e1, e2]
  exact hgo
end YS
