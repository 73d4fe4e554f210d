/-! The heap of the abstract machine beside the machine's own; the context of a method. -/
def zNw (w : Cond) : Bool := match w with
  | .fieldLinkNest _ _ _ _ _ _ => true
  | .methodLinkNest _ _ _ _ => true
  | _ => false
def zNest : List Cond := lw_tbl.filter zNw
def zTys (E : zE) : List (ClassId × FieldType) := [(E.2.2.1 0, .int), (E.2.2.1 1, .long), (E.2.2.1 2, .object RX0), (E.2.2.1 3, .object RX8), (E.2.2.1 4, .array .int), (E.2.2.1 5, .array .long)]
/-- cell k of kind t and length n stands in H -/
def zcell (E : zE) (s : State) (h : zH) (k t n : Nat) (H : Heap) : Prop :=
  if t < 100 then ∃ r : vw_C, vwCl[t]? = some r ∧ r.2.2 = n ∧ t_OB (zad E k) (E.2.1.1 t) n (E.2.1.2 t) H (fun j => zv E (zfv h k j (zty t j)))
  else if t = 100 then H[zad E k]? = some (arrV (E.2.2.1 0) n (fun j => .int (h.2.1 k j)))
  else if t = 101 then H[zad E k]? = some (arrV (E.2.2.1 1) n (fun j => .long (h.2.2.1 k j)))
  else if t < 106 then H[zad E k]? = some (arrV (E.2.2.1 (t - 100)) n (fun j => zv E (zrf (h.2.2.2 k j))))
  else t = 110 ∧ ∃ cell : Cell, H[zad E k]? = some cell ∧ s.isArrayOf cell .int ∧ cell.vm ≠ .unknown ∧ n ≤ cell.slots.size ∧ cell.slots.size.toInt32 = Int32.ofNat n ∧ ∀ j, j < n → cell.slots[j]? = some (.int (h.2.1 k j))
def zR (E : zE) (s : State) (h : zH) (H : Heap) : Prop :=
  H.size + 3 = E.2.2.2.size + h.1.length ∧ 3 ≤ h.1.length ∧ (E.1.1 < E.2.2.2.size ∧ E.1.2.1 < E.2.2.2.size ∧ E.1.2.2 < E.2.2.2.size) ∧ (∀ q : Nat, q < E.2.2.2.size → H[q]? = E.2.2.2[q]?) ∧
  ∀ k t n : Nat, h.1[k]? = some (t, n) → (t = 110 ∨ 3 ≤ k) ∧ zcell E s h k t n H
def zAOA (ty : FieldType) (U : State) : Prop := (Cond.arrayOver (.array ty)).before #[] U = true
theorem zAOA.moved {ty : FieldType} {u U : State} (hvm : u.vm.Alike U.vm) (h : zAOA ty u) : zAOA ty U := by
  obtain ⟨comp, c, k, h1, h2, h3, h4, h5⟩ := arrayOverA_spec h
  obtain ⟨k', hk', he⟩ := hvm.2.2 _ _ h3
  have hi : (U.vm.classes.findIdx? fun (x : Class) => match x.kind with | .array component _ => component == comp | _ => false) = some c := by
    rw [← va_idx_bare]
    first | rw [hvm.bare_eq] | rw [← hvm.bare_eq]
    rw [va_idx_bare]
    exact h2
  have hkind : k'.kind = .array comp (.array ty) := by rw [he]; exact h4
  have f1 : U.vm.findClass (FieldType.array ty).toString = some comp := by rw [hvm.findClass]; exact h1
  have f2 : U.vm.findClass ("[" ++ (FieldType.array ty).toString) = some c := by rw [hvm.findClass]; exact h5
  unfold zAOA Cond.before Cond.holds
  simp only [Cond.value]
  rw [f1, Option.bind_some]
  refine (congrArg (fun o : Option Nat => (o.bind (fun c => (U.vm.classes[c]?).map fun (k : Class) => match k.kind with | .array _ ty' => decide (ty' = FieldType.array ty) && decide (U.vm.findClass ("[" ++ (FieldType.array ty).toString) = some c) | _ => false) == some true)) hi).trans ?_
  simp [hk', hkind, f2]
/-- what a method takes from its caller of the tables: classes, nest links, the two static arrays -/
def zF (E : zE) (s : State) : Prop :=
  va_K E.2.1 vwCl (zTys E) s ∧ (∀ w ∈ zNest, va_Nw w s) ∧ (va_AO RX0 s ∧ va_AO RX8 s ∧ zAOA .int s ∧ zAOA .long s) ∧
  va_Z "MarkedSweeps" "LESSER_END" "[I" (.ref E.1.2.1) (fun q => E.2.2.2.size ≤ q) s E.2.2.2 ∧ va_Z "MarkedSweeps" "GREATER_END" "[I" (.ref E.1.2.2) (fun q => E.2.2.2.size ≤ q) s E.2.2.2
theorem zcell_s {E : zE} {s U : State} {h : zH} {k t n : Nat} {H : Heap} (hvm : s.vm.Alike U.vm) (hc : zcell E s h k t n H) : zcell E U h k t n H := by
  unfold zcell at hc ⊢
  split
  · rename_i h1; rw [if_pos h1] at hc; exact hc
  · rename_i h1; rw [if_neg h1] at hc
    split
    · rename_i h2; rw [if_pos h2] at hc; exact hc
    · rename_i h2; rw [if_neg h2] at hc
      split
      · rename_i h3; rw [if_pos h3] at hc; exact hc
      · rename_i h3; rw [if_neg h3] at hc
        split
        · rename_i h4; rw [if_pos h4] at hc; exact hc
        · rename_i h4; rw [if_neg h4] at hc
          obtain ⟨ht, cell, c1, c2, c3⟩ := hc
          exact ⟨ht, cell, c1, State.isArrayOf_alike hvm c2, c3⟩
theorem zR_s {E : zE} {s U : State} {h : zH} {H : Heap} (hvm : s.vm.Alike U.vm) (hR : zR E s h H) : zR E U h H :=
  ⟨hR.1, hR.2.1, hR.2.2.1, hR.2.2.2.1, fun k t n hk => ⟨(hR.2.2.2.2 k t n hk).1, zcell_s hvm (hR.2.2.2.2 k t n hk).2⟩⟩
theorem zF_s {E : zE} {s U : State} (hW : s.WarmedH U.vm) (h : zF E s) : zF E U := by
  obtain ⟨h1, h2, ⟨a1, a2, a3, a4⟩, h3, h4⟩ := h
  refine ⟨va_K.moved hW.alike h1, fun w hw => ?_, ⟨a1.moved hW.alike, a2.moved hW.alike, a3.moved hW.alike, a4.moved hW.alike⟩, h3.moved hW.alike, h4.moved hW.alike⟩
  have hn := (List.mem_filter.mp hw).2
  have h9 := h2 w hw
  cases w <;> first | exact h9.warmF hW | exact h9.warmM hW | (exact absurd hn (by simp [zNw]))
theorem zF_v {E : zE} {s U : State} (hv : s.vm = U.vm) (h : zF E s) : zF E U := by
  obtain ⟨h1, h2, ⟨a1, a2, a3, a4⟩, h3, h4⟩ := h
  have hal : s.vm.Alike U.vm := by rw [hv]; exact Vm.Alike.refl _
  refine ⟨va_K.moved hal h1, fun w hw => ?_, ⟨a1.moved hal, a2.moved hal, a3.moved hal, a4.moved hal⟩, h3.moved hal, h4.moved hal⟩
  have hn := (List.mem_filter.mp hw).2
  refine va_Nw.same ?_ hv (h2 w hw)
  cases w <;> first | rfl | (exact absurd hn (by simp [zNw]))
