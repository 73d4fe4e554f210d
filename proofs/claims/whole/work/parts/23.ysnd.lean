/-! The machine of making beside the machine's own heap. -/
def ycell (E : zE) (s : State) (g : zIJ) (A : List (Nat × Nat)) (k t n : Nat) (H : Heap) : Prop :=
  if t < 100 then ∃ r : vw_C, vwCl[t]? = some r ∧ r.2.2 = n ∧ t_OB (zad E k) (E.2.1.1 t) n (E.2.1.2 t) H (fun j => zv E (yfv g A k j (zty t j)))
  else if 102 ≤ t ∧ t < 106 then H[zad E k]? = some (arrV (E.2.2.1 (t - 100)) n (fun j => zv E (yrv A k j)))
  else zcell E s g k t n H
def yR (E : zE) (s : State) (x0 : Nat → Int32) (st : yS) (H : Heap) : Prop :=
  (H.size + 3 = E.2.2.2.size + st.1 ∧ 3 ≤ st.1) ∧ (E.1.1 < E.2.2.2.size ∧ E.1.2.1 < E.2.2.2.size ∧ E.1.2.2 < E.2.2.2.size) ∧ (∀ q : Nat, q < E.2.2.2.size → H[q]? = E.2.2.2[q]?) ∧
  (∀ k : Nat, k < st.1 → ycell E s (yg x0 st.2.2) st.2.1 k (zC k).1 (zC k).2 H) ∧ (∀ q ∈ st.2.1, q.1 < st.1) ∧ (∀ q ∈ st.2.2, q.1 < st.1)
/-- what a constructor takes from its caller of the tables -/
def yF (E : zE) (s : State) : Prop := zF E s ∧ (va_AO RX0 s ∧ va_AO RX8 s) ∧ (∃ k, s.vm.classes[E.2.2.1 4]? = some k ∧ k.kind = .array (E.2.2.1 0) (.array .int)) ∧ (∃ k, s.vm.classes[E.2.2.1 5]? = some k ∧ k.kind = .array (E.2.2.1 1) (.array .long))
theorem ykind_s {s U : State} (hvm : s.vm.Alike U.vm) {a b : ClassId} {t : FieldType} (h : ∃ k, s.vm.classes[a]? = some k ∧ k.kind = .array b t) : ∃ k, U.vm.classes[a]? = some k ∧ k.kind = .array b t := by
  obtain ⟨k, h1, h2⟩ := h
  obtain ⟨k', hk', he⟩ := hvm.2.2 _ _ h1
  exact ⟨k', hk', by rw [he]; exact h2⟩
theorem yF_s {E : zE} {s U : State} (hW : s.WarmedH U.vm) (h : yF E s) : yF E U := ⟨zF_s hW h.1, ⟨h.2.1.1.moved hW.alike, h.2.1.2.moved hW.alike⟩, ykind_s hW.alike h.2.2.1, ykind_s hW.alike h.2.2.2⟩
theorem yF_v {E : zE} {s U : State} (hv : s.vm = U.vm) (h : yF E s) : yF E U := by
  have hal : s.vm.Alike U.vm := by rw [hv]; exact Vm.Alike.refl _
  exact ⟨zF_v hv h.1, ⟨h.2.1.1.moved hal, h.2.1.2.moved hal⟩, ykind_s hal h.2.2.1, ykind_s hal h.2.2.2⟩
theorem ycell_s {E : zE} {s U : State} {g : zIJ} {A : List (Nat × Nat)} {k t n : Nat} {H : Heap} (hvm : s.vm.Alike U.vm) (hc : ycell E s g A k t n H) : ycell E U g A k t n H := by
  unfold ycell at hc ⊢
  split
  · rename_i h1; rw [if_pos h1] at hc; exact hc
  · rename_i h1; rw [if_neg h1] at hc
    split
    · rename_i h2; rw [if_pos h2] at hc; exact hc
    · rename_i h2; rw [if_neg h2] at hc; exact zcell_s hvm hc
theorem yR_s {E : zE} {s U : State} {x0 : Nat → Int32} {st : yS} {H : Heap} (hvm : s.vm.Alike U.vm) (hR : yR E s x0 st H) : yR E U x0 st H :=
  ⟨hR.1, hR.2.1, hR.2.2.1, fun k hk => ycell_s hvm (hR.2.2.2.1 k hk), hR.2.2.2.2⟩
theorem ycell_keep {E : zE} {s : State} {g g' : zIJ} {A A' : List (Nat × Nat)} {k t n : Nat} {H H' : Heap} (hI : g'.1 k = g.1 k) (hJ : g'.2 k = g.2 k) (hA : ∀ j, yA A' k j = yA A k j) (hH : H'[zad E k]? = H[zad E k]?) (hc : ycell E s g A k t n H) : ycell E s g' A' k t n H' := by
  have hr : ∀ j, yrv A' k j = yrv A k j := fun j => by unfold yrv; rw [hA]
  have hf : ∀ (j : Nat) (ty : FieldType), yfv g' A' k j ty = yfv g A k j ty := fun j ty => by
    unfold yfv
    rw [hI, hJ, hr]
  unfold ycell at hc ⊢
  split
  · rename_i h1; rw [if_pos h1] at hc
    obtain ⟨r, r1, r2, r3⟩ := hc
    exact ⟨r, r1, r2, (r3.kept hH).to (fun j _ => by rw [hf])⟩
  · rename_i h1; rw [if_neg h1] at hc
    split
    · rename_i h2; rw [if_pos h2] at hc
      rw [hH, hc]
      congr 2
      funext j
      rw [hr]
    · rename_i h2; rw [if_neg h2] at hc
      exact zcell_keep hI hJ hH hc
theorem yI_other {V : List (Nat × Nat × Int32)} {a j k : Nat} {x : Int32} (h : k ≠ a) (b : Nat) : yI ((a, j, x) :: V) k b = yI V k b := by
  show cond (Nat.beq a k && Nat.beq j b) x (yI V k b) = _
  rw [zbeqf (Ne.symm h)]
  rfl
theorem yI_self {V : List (Nat × Nat × Int32)} {a j : Nat} {x : Int32} (b : Nat) : yI ((a, j, x) :: V) a b = if b = j then x else yI V a b := by
  show cond (Nat.beq a a && Nat.beq j b) x (yI V a b) = _
  rw [zbeqt]
  by_cases h : b = j
  · subst h; rw [zbeqt, if_pos rfl]; rfl
  · rw [zbeqf (Ne.symm h), if_neg h]; rfl
theorem yA_other {A : List (Nat × Nat)} {a j k : Nat} (h : k ≠ a) (b : Nat) : yA ((a, j) :: A) k b = yA A k b := by
  show cond (Nat.beq a k && Nat.beq j b) true (yA A k b) = _
  rw [zbeqf (Ne.symm h)]
  rfl
theorem yA_self {A : List (Nat × Nat)} {a j : Nat} (b : Nat) : yA ((a, j) :: A) a b = if b = j then true else yA A a b := by
  show cond (Nat.beq a a && Nat.beq j b) true (yA A a b) = _
  rw [zbeqt]
  by_cases h : b = j
  · subst h; rw [zbeqt, if_pos rfl]; rfl
  · rw [zbeqf (Ne.symm h), if_neg h]; rfl
theorem yI_none {k : Nat} : ∀ {V : List (Nat × Nat × Int32)}, (∀ q ∈ V, q.1 < k) → ∀ j, yI V k j = 0
  | [], _, _ => rfl
  | (a, b, x) :: r, h, j => by
    have := h (a, b, x) List.mem_cons_self
    rw [yI_other (by dsimp only at this; omega)]
    exact yI_none (fun q hq => h q (List.mem_cons_of_mem _ hq)) j
theorem yA_none {k : Nat} : ∀ {A : List (Nat × Nat)}, (∀ q ∈ A, q.1 < k) → ∀ j, yA A k j = false
  | [], _, _ => rfl
  | (a, b) :: r, h, j => by
    have := h (a, b) List.mem_cons_self
    rw [yA_other (by dsimp only at this; omega)]
    exact yA_none (fun q hq => h q (List.mem_cons_of_mem _ hq)) j
/-- one cell is written -/
theorem yR_set {E : zE} {s : State} {x0 : Nat → Int32} {st st' : yS} {H H' : Heap} {a : Nat} (hR : yR E s x0 st H) (ha : 3 ≤ a) (hN : st'.1 = st.1) (hI : ∀ k, k ≠ a → (yg x0 st'.2.2).1 k = (yg x0 st.2.2).1 k) (hA : ∀ k j, k ≠ a → yA st'.2.1 k j = yA st.2.1 k j) (hz : H'.size = H.size) (hq : ∀ q, q ≠ zad E a → H'[q]? = H[q]?) (hc : ycell E s (yg x0 st'.2.2) st'.2.1 a (zC a).1 (zC a).2 H') (hA2 : ∀ q ∈ st'.2.1, q.1 < st.1) (hV2 : ∀ q ∈ st'.2.2, q.1 < st.1) : yR E s x0 st' H' := by
  obtain ⟨h1, h2, h3, h4, h5, h6⟩ := hR
  refine ⟨⟨by rw [hz, hN]; exact h1.1, by rw [hN]; exact h1.2⟩, h2, fun q hq' => ?_, fun k hk => ?_, by rw [hN]; exact hA2, by rw [hN]; exact hV2⟩
  · rw [hq q (by rw [zad_hi ha]; omega)]
    exact h3 q hq'
  · by_cases e : k = a
    · subst e; exact hc
    · exact ycell_keep (hI k e) rfl (fun j => hA k j e) (hq _ (zad_ne h2 ha e)) (h4 k (by rw [← hN]; exact hk))
/-- cells come behind all that are there -/
theorem yR_new {E : zE} {s : State} {x0 : Nat → Int32} {st st' : yS} {H H' : Heap} {d : Nat} (hR : yR E s x0 st H) (hN : st'.1 = st.1 + d) (hV : st'.2.2 = st.2.2) (hA : ∀ k j, k < st.1 → yA st'.2.1 k j = yA st.2.1 k j) (hz : H'.size = H.size + d) (hq : ∀ q, q < H.size → H'[q]? = H[q]?) (hc : ∀ k, st.1 ≤ k → k < st.1 + d → ycell E s (yg x0 st'.2.2) st'.2.1 k (zC k).1 (zC k).2 H') (hA2 : ∀ q ∈ st'.2.1, q.1 < st.1 + d) : yR E s x0 st' H' := by
  obtain ⟨h1, h2, h3, h4, h5, h6⟩ := hR
  have hsz : E.2.2.2.size ≤ H.size := by omega
  refine ⟨⟨by rw [hz, hN]; omega, by rw [hN]; omega⟩, h2, fun q hq' => ?_, fun k hk => ?_, by rw [hN]; exact hA2, fun q hq' => by rw [hN]; rw [hV] at hq'; have := h6 q hq'; omega⟩
  · rw [hq q (by omega)]
    exact h3 q hq'
  · rcases Nat.lt_or_ge k st.1 with h | h
    · have h4' := h4 k h
      rw [← hV] at h4'
      refine ycell_keep rfl rfl (fun j => hA k j h) (hq _ ?_) h4'
      rcases Nat.lt_or_ge k 3 with h9 | h9
      · have := zad_lo (E := E) h2 h9
        omega
      · rw [zad_hi h9]
        omega
    · exact hc k h (by omega)
theorem yR_sz {E : zE} {s : State} {x0 : Nat → Int32} {st : yS} {H : Heap} (hR : yR E s x0 st H) : H.size = zad E st.1 := by
  rw [zad_hi hR.1.2]
  have := hR.1.1
  have := hR.1.2
  omega
