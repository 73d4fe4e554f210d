/-! The heap of the abstract machine beside the machine's own; what a method takes from the tables. -/
/-- words that a method may hand on to the methods that it calls -/
def zTG : List Cond := lw_tbl.filter goodWord
theorem zTG_in {w : Cond} (h : w ∈ lw_tbl) (hg : goodWord w = true) : w ∈ zTG := List.mem_filter.mpr ⟨h, hg⟩
theorem zTG_sub {w : Cond} (h : w ∈ zTG) : w ∈ lw_tbl := (List.mem_filter.mp h).1
theorem zTG_good : GoodIn zTG zTG := fun _ h => ⟨h, good_of_word (List.mem_filter.mp h).2⟩
theorem zTG_at {i : Nat} {w : Cond} (h : lw_tbl[i]? = some w) (hg : goodWord w = true) : w ∈ zTG := zTG_in (List.mem_of_getElem? h) hg
def zNw (w : Cond) : Bool := match w with
  | .fieldLinkNest _ _ _ _ _ _ => true
  | .methodLinkNest _ _ _ _ => true
  | _ => false
def zNest : List Cond := lw_tbl.filter zNw
theorem zNest_at {i : Nat} {w : Cond} (h : lw_tbl[i]? = some w) (hg : zNw w = true) : w ∈ zNest := List.mem_filter.mpr ⟨List.mem_of_getElem? h, hg⟩
/-- the addresses of script and tables, classes and slots, array classes, the heap at the law's start -/
abbrev zE : Type := (Nat × Nat × Nat) × va_G × (Nat → ClassId) × Heap
def zad (E : zE) (k : Nat) : Nat := if k = 0 then E.1.1 else if k = 1 then E.1.2.1 else if k = 2 then E.1.2.2 else E.2.2.2.size + (k - 3)
def zv (E : zE) (v : Value) : Value := match v with
  | .ref k => .ref (zad E k)
  | w => w
def zl (E : zE) (L : zLs) : zLs := L.map (fun q => (q.1, zv E q.2))
def zTys (E : zE) : List (ClassId × FieldType) := [(E.2.2.1 0, .int), (E.2.2.1 1, .long), (E.2.2.1 2, .object RX0), (E.2.2.1 3, .object RX8), (E.2.2.1 4, .array .int), (E.2.2.1 5, .array .long)]
/-- an array that is only read -/
def zro (E : zE) (s : State) (k n : Nat) (f : Nat → Int32) (H : Heap) : Prop := ∃ cell : Cell, H[zad E k]? = some cell ∧ s.isArrayOf cell .int ∧ cell.vm ≠ .unknown ∧ cell.slots.size = n ∧ ∀ j, j < n → cell.slots[j]? = some (.int (f j))
/-- cell k, of kind t and length n, stands in H -/
def zcell (E : zE) (s : State) (h : zIJ) (k t n : Nat) (H : Heap) : Prop :=
  if t < 100 then ∃ r : vw_C, vwCl[t]? = some r ∧ r.2.2 = n ∧ t_OB (zad E k) (E.2.1.1 t) n (E.2.1.2 t) H (fun j => zv E (zfv h k j (zty t j)))
  else if t = 100 then H[zad E k]? = some (arrV (E.2.2.1 0) n (fun j => .int (h.1 k j)))
  else if t = 101 then H[zad E k]? = some (arrV (E.2.2.1 1) n (fun j => .long (h.2 k j)))
  else if t < 106 then H[zad E k]? = some (arrV (E.2.2.1 (t - 100)) n (fun j => .ref (zad E (zRf k j))))
  else if t = 110 then zro E s k (h.1 k 5000).toNatClampNeg (h.1 k) H
  else if t = 111 then zro E s k n zLE H
  else zro E s k n zGE H
def zR (E : zE) (s : State) (h : zIJ) (H : Heap) : Prop :=
  H.size + 3 = E.2.2.2.size + zNc ∧ (E.1.1 < E.2.2.2.size ∧ E.1.2.1 < E.2.2.2.size ∧ E.1.2.2 < E.2.2.2.size) ∧ (∀ q : Nat, q < E.2.2.2.size → H[q]? = E.2.2.2[q]?) ∧
  ∀ k : Nat, k < zNc → zcell E s h k (zC k).1 (zC k).2 H
/-- what a method takes from its caller of the tables: classes, nest links, the two static arrays -/
def zF (E : zE) (s : State) : Prop :=
  va_K E.2.1 vwCl (zTys E) s ∧ (∀ w ∈ zNest, va_Nw w s) ∧
  va_Z "MarkedSweeps" "LESSER_END" "[I" (.ref E.1.2.1) (fun q => E.2.2.2.size ≤ q) s E.2.2.2 ∧ va_Z "MarkedSweeps" "GREATER_END" "[I" (.ref E.1.2.2) (fun q => E.2.2.2.size ≤ q) s E.2.2.2
theorem zro_s {E : zE} {s U : State} {k n : Nat} {f : Nat → Int32} {H : Heap} (hvm : s.vm.Alike U.vm) (hc : zro E s k n f H) : zro E U k n f H := by
  obtain ⟨cell, c1, c2, c3⟩ := hc
  exact ⟨cell, c1, State.isArrayOf_alike hvm c2, c3⟩
theorem zcell_s {E : zE} {s U : State} {h : zIJ} {k t n : Nat} {H : Heap} (hvm : s.vm.Alike U.vm) (hc : zcell E s h k t n H) : zcell E U h k t n H := by
  unfold zcell at hc ⊢
  split
  · rename_i h1; rw [if_pos h1] at hc; exact hc
  · rename_i h1; rw [if_neg h1] at hc
    split
    · rename_i h2; rw [if_pos h2] at hc; exact hc
    · rename_i h2; rw [if_neg h2] at hc
      split
      · rename_i h3; rw [if_pos h3] at hc; exact hc
      · rename_i h3; rw [if_neg h3] at hc
        split
        · rename_i h4; rw [if_pos h4] at hc; exact hc
        · rename_i h4; rw [if_neg h4] at hc
          split
          · rename_i h5; rw [if_pos h5] at hc; exact zro_s hvm hc
          · rename_i h5; rw [if_neg h5] at hc
            split
            · rename_i h6; rw [if_pos h6] at hc; exact zro_s hvm hc
            · rename_i h6; rw [if_neg h6] at hc; exact zro_s hvm hc
theorem zR_s {E : zE} {s U : State} {h : zIJ} {H : Heap} (hvm : s.vm.Alike U.vm) (hR : zR E s h H) : zR E U h H :=
  ⟨hR.1, hR.2.1, hR.2.2.1, fun k hk => zcell_s hvm (hR.2.2.2 k hk)⟩
theorem zF_s {E : zE} {s U : State} (hW : s.WarmedH U.vm) (h : zF E s) : zF E U := by
  obtain ⟨h1, h2, h3, h4⟩ := h
  refine ⟨va_K.moved hW.alike h1, fun w hw => ?_, h3.moved hW.alike, h4.moved hW.alike⟩
  have hn := (List.mem_filter.mp hw).2
  have h9 := h2 w hw
  cases w <;> first | exact h9.warmF hW | exact h9.warmM hW | (exact absurd hn (by simp [zNw]))
theorem zF_v {E : zE} {s U : State} (hv : s.vm = U.vm) (h : zF E s) : zF E U := by
  obtain ⟨h1, h2, h3, h4⟩ := h
  have hal : s.vm.Alike U.vm := by rw [hv]; exact Vm.Alike.refl _
  refine ⟨va_K.moved hal h1, fun w hw => ?_, h3.moved hal, h4.moved hal⟩
  have hn := (List.mem_filter.mp hw).2
  refine va_Nw.same ?_ hv (h2 w hw)
  cases w <;> first | rfl | (exact absurd hn (by simp [zNw]))
/-- cells of the layout: below 3 they are those that are only read -/
theorem zC_lo : ∀ k, k < 3 → 110 ≤ (zC k).1 := by decide +kernel
theorem zC_hi : ∀ k, k < zNc → 3 ≤ k → (zC k).1 < 106 := by decide +kernel
theorem zC_out {k : Nat} (h : zNc ≤ k) : zC k = (999, 0) := by
  have h2 : 350 ≤ k := h
  have e : Nat.blt k 350 = false := by
    cases hc : Nat.blt k 350 with
    | false => rfl
    | true => exact absurd (Nat.blt_eq.mp hc) (by omega)
  unfold zC
  rw [e]
  rfl
theorem zC_in {k t : Nat} (h : (zC k).1 = t) (ht : t < 999) : k < zNc := by
  rcases Nat.lt_or_ge k zNc with h1 | h1
  · exact h1
  · rw [zC_out h1] at h
    have : (999 : Nat) = t := h
    omega
theorem zC_3 {k t : Nat} (h : (zC k).1 = t) (ht : t < 110) : 3 ≤ k := by
  rcases Nat.lt_or_ge k 3 with h1 | h1
  · have := zC_lo k h1
    omega
  · exact h1
theorem zad_hi {E : zE} {k : Nat} (h : 3 ≤ k) : zad E k = E.2.2.2.size + (k - 3) := by
  unfold zad
  rw [if_neg (by omega), if_neg (by omega), if_neg (by omega)]
theorem zad_lo {E : zE} {k : Nat} (hE : E.1.1 < E.2.2.2.size ∧ E.1.2.1 < E.2.2.2.size ∧ E.1.2.2 < E.2.2.2.size) (h : k < 3) : zad E k < E.2.2.2.size := by
  unfold zad
  split
  · exact hE.1
  · split
    · exact hE.2.1
    · split
      · exact hE.2.2
      · omega
theorem zad_ne {E : zE} {a k : Nat} (hE : E.1.1 < E.2.2.2.size ∧ E.1.2.1 < E.2.2.2.size ∧ E.1.2.2 < E.2.2.2.size) (ha : 3 ≤ a) (h : k ≠ a) : zad E k ≠ zad E a := by
  rcases Nat.lt_or_ge k 3 with h3 | h3
  · have := zad_lo (E := E) hE h3
    rw [zad_hi ha]
    omega
  · rw [zad_hi h3, zad_hi ha]
    omega
/-- a cell stays when its row and its place in the heap stay -/
theorem zcell_keep {E : zE} {s : State} {h h' : zIJ} {k t n : Nat} {H H' : Heap} (hI : h'.1 k = h.1 k) (hJ : h'.2 k = h.2 k) (hH : H'[zad E k]? = H[zad E k]?) (hc : zcell E s h k t n H) : zcell E s h' k t n H' := by
  have hf : ∀ (j : Nat) (ty : FieldType), zfv h' k j ty = zfv h k j ty := fun j ty => by
    unfold zfv
    rw [hI, hJ]
  unfold zcell zro at hc ⊢
  rw [hI, hJ, hH]
  split
  · rename_i h1; rw [if_pos h1] at hc
    obtain ⟨r, r1, r2, r3⟩ := hc
    exact ⟨r, r1, r2, (r3.kept hH).to (fun j _ => by rw [hf])⟩
  · rename_i h1; rw [if_neg h1] at hc; exact hc
/-- one cell of the heap is written -/
theorem zR_set {E : zE} {s : State} {h h' : zIJ} {H H' : Heap} {a : Nat} (hR : zR E s h H) (ha : 3 ≤ a) (hI : ∀ k, k ≠ a → h'.1 k = h.1 k) (hJ : ∀ k, k ≠ a → h'.2 k = h.2 k) (hz : H'.size = H.size) (hq : ∀ q, q ≠ zad E a → H'[q]? = H[q]?) (hc : a < zNc → zcell E s h' a (zC a).1 (zC a).2 H') : zR E s h' H' := by
  obtain ⟨h1, h2, h3, h4⟩ := hR
  refine ⟨by rw [hz]; exact h1, h2, fun q hq' => ?_, fun k hk => ?_⟩
  · rw [hq q (by rw [zad_hi ha]; omega)]
    exact h3 q hq'
  · by_cases e : k = a
    · subst e; exact hc hk
    · exact zcell_keep (hI k e) (hJ k e) (hq _ (zad_ne h2 ha e)) (h4 k hk)
theorem zbeqf {k a : Nat} (h : k ≠ a) : Nat.beq k a = false := by
  cases hc : Nat.beq k a with
  | false => rfl
  | true => exact absurd (Nat.eq_of_beq_eq_true hc) h
theorem zbeqt (k : Nat) : Nat.beq k k = true := Nat.beq_refl k
theorem zup_other {α : Type} {f : Nat → Nat → α} {a j k : Nat} {x : α} (h : k ≠ a) : zup f a j x k = f k := by
  funext b
  have := zbeqf h
  simp [zup, this]
theorem zup_self {α : Type} {f : Nat → Nat → α} {a j : Nat} {x : α} (b : Nat) : zup f a j x a b = if b = j then x else f a b := by
  by_cases h : b = j
  · subst h; simp [zup, zbeqt]
  · have := zbeqf h
    simp [zup, this, h]
theorem zrow_other {α : Type} {f : Nat → Nat → α} {a k : Nat} {g : Nat → α} (h : k ≠ a) : zrow f a g k = f k := by
  funext b
  have := zbeqf h
  simp [zrow, this]
theorem zrow_self {α : Type} {f : Nat → Nat → α} {a : Nat} {g : Nat → α} : zrow f a g a = g := by
  funext b
  simp [zrow, zbeqt]
theorem zin_in {i : Int32} {n : Nat} (h : zin i n = true) : vp_in i n := vp_in_iff.mpr (of_decide_eq_true h)
theorem vp_lt {i : Int32} {n : Nat} (h : vp_in i n) : i.toNatClampNeg < n := Nat.not_le.mp fun q => h (Or.inr q)
