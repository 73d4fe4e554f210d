/-! The hull: who comes behind whom; it closes. -/
/-- b comes behind a on the hull: all others lie left -/
def HB (X Y : Nat → Int) (n a b : Nat) : Prop := b < n ∧ b ≠ a ∧ ∀ c, c < n → c ≠ a → c ≠ b → oXY X Y a b c = true
section
variable {X Y : Nat → Int} {n : Nat}
theorem dt_neg (a b c : Nat) : dt (fun i => - X i) (fun i => - Y i) a b c = dt X Y a b c := by unfold dt; grind
theorem oXY_neg : oXY (fun i => - X i) (fun i => - Y i) = oXY X Y := by
  funext a b c
  unfold oXY
  rw [dt_neg]
theorem ext_first (h : GP X Y n) {p : Nat} {S : List Nat} (hp : p < n) (hS : ∀ a, a ∈ S → a < n ∧ a ≠ p ∧ ahd X Y p a) : Ext (oXY X Y) p S := by
  have h2 : GP (fun i => - X i) (fun i => - Y i) n := fun a b c ha hb hc n1 n2 n3 => by rw [dt_neg]; exact h a b c ha hb hc n1 n2 n3
  have := ext_xy (X := fun i => - X i) (Y := fun i => - Y i) h2 (p := p) (S := S) hp (fun a ha => by
    obtain ⟨q1, q2, q3⟩ := hS a ha
    refine ⟨q1, q2, ?_⟩
    unfold ahd at q3 ⊢
    show - X a < - X p ∨ (- X a = - X p ∧ - Y a < - Y p)
    omega)
  rw [oXY_neg] at this
  exact this
theorem hb_one (h : GP X Y n) {a b b' : Nat} (ha : a < n) (h1 : HB X Y n a b) (h2 : HB X Y n a b') : b = b' := by
  apply Classical.byContradiction
  intro e
  have q1 := h1.2.2 b' h2.1 h2.2.1 (Ne.symm e)
  have q2 := h2.2.2 b h1.1 h1.2.1 e
  rw [cr4 (cc_xy h) ha h1.1 h2.1 (Ne.symm h1.2.1) (Ne.symm h2.2.1) e, q1] at q2
  cases q2
theorem hb_inj (h : GP X Y n) {a b c : Nat} (ha : a < n) (hb : b < n) (h1 : HB X Y n a c) (h2 : HB X Y n b c) : a = b := by
  apply Classical.byContradiction
  intro e
  have q1 := h1.2.2 b hb (Ne.symm e) (Ne.symm h2.2.1)
  have q2 := h2.2.2 a ha e (Ne.symm h1.2.1)
  rw [cr5 (cc_xy h) ha h1.1 hb (Ne.symm h1.2.1) e h2.2.1, q1] at q2
  cases q2
/-- least in the order round p -/
theorem hb_min (h : GP X Y n) {p : Nat} (hp : p < n) {Q : Nat → Prop} (hQ : ∀ x, Q x → x < n ∧ x ≠ p) (htr : ∀ x y z, Q x → Q y → Q z → x ≠ y → y ≠ z → x ≠ z → oXY X Y p x y = true → oXY X Y p y z = true → oXY X Y p x z = true) (hex : ∃ x, Q x) : ∃ m, Q m ∧ ∀ y, Q y → y ≠ m → oXY X Y p m y = true := by
  have C := cc_xy h
  obtain ⟨x, hx⟩ := hex
  have asym : ∀ {x y}, Q x → Q y → x ≠ y → oXY X Y p x y = true → oXY X Y p y x = false := by
    intro x y qx qy nxy o
    rw [cr4 C hp (hQ x qx).1 (hQ y qy).1 (Ne.symm (hQ x qx).2) (Ne.symm (hQ y qy).2) nxy, o]; rfl
  obtain ⟨m, hm, qm, hmin⟩ := ex_min (X := Q) (R := fun x y => x ≠ y ∧ oXY X Y p x y = true) (fun x _ r => r.1 rfl) (fun x y z qx qy qz r1 r2 => by
    have nxz : x ≠ z := by
      intro e
      subst e
      have := asym qx qy r1.1 r1.2
      rw [r2.2] at this; cases this
    exact ⟨nxz, htr x y z qx qy qz r1.1 r2.1 nxz r1.2 r2.2⟩) (List.range n) ⟨x, List.mem_range.mpr (hQ x hx).1, hx⟩
  refine ⟨m, qm, fun y qy nym => ?_⟩
  have := hmin y (List.mem_range.mpr (hQ y qy).1) qy
  cases o : oXY X Y p m y with
  | true => rfl
  | false =>
    exfalso
    refine this ⟨nym, ?_⟩
    rw [cr4 C hp (hQ m qm).1 (hQ y qy).1 (Ne.symm (hQ m qm).2) (Ne.symm (hQ y qy).2) (Ne.symm nym), o]; rfl
theorem hb_first (h : GP X Y n) (h2 : 2 ≤ n) {p : Nat} (hp : p < n) (hf : ∀ a, a < n → a ≠ p → ahd X Y p a) : ∃ b, HB X Y n p b := by
  have E := ext_first h (p := p) (S := (List.range n).filter (fun x => !Nat.beq x p)) hp (fun a ha => by
    obtain ⟨q1, q2⟩ := List.mem_filter.mp ha
    have q1 := List.mem_range.mp q1
    rw [beq_d, Bool.not_eq_true', decide_eq_false_iff_not] at q2
    exact ⟨q1, q2, hf a q1 q2⟩)
  have mem : ∀ x, x < n → x ≠ p → x ∈ (List.range n).filter (fun x => !Nat.beq x p) := fun x q1 q2 => List.mem_filter.mpr ⟨List.mem_range.mpr q1, by rw [nbeq_f q2]; rfl⟩
  obtain ⟨m, qm, hm⟩ := hb_min h hp (Q := fun x => x < n ∧ x ≠ p) (fun x q => q) (fun x y z qx qy qz n1 n2 n3 o1 o2 => E x y z (mem x qx.1 qx.2) (mem y qy.1 qy.2) (mem z qz.1 qz.2) n1 n3 n2 o1 o2) (by
    by_cases e : p = 0
    · exact ⟨1, by omega, by omega⟩
    · exact ⟨0, by omega, by omega⟩)
  exact ⟨m, qm.1, qm.2, fun c q1 q2 q3 => hm c ⟨q1, q2⟩ q3⟩
theorem hb_next (h : GP X Y n) {a b : Nat} (ha : a < n) (hab : HB X Y n a b) : ∃ c, HB X Y n b c := by
  have C := cc_xy h
  by_cases e2 : ∃ x, x < n ∧ x ≠ a ∧ x ≠ b
  · obtain ⟨m, qm, hm⟩ := hb_min h hab.1 (Q := fun x => x < n ∧ x ≠ a ∧ x ≠ b) (fun x q => ⟨q.1, q.2.2⟩) (fun x y z qx qy qz n1 n2 n3 o1 o2 => by
      have pa : (fun x => x < n) a := ha
      have pb : (fun x => x < n) b := hab.1
      have px : (fun x => x < n) x := qx.1
      have py : (fun x => x < n) y := qy.1
      have pz : (fun x => x < n) z := qz.1
      have nab : a ≠ b := Ne.symm hab.2.1
      have k1 := qx.2.1
      have k2 := qx.2.2
      have k3 := qy.2.1
      have k4 := qy.2.2
      have k5 := qz.2.1
      have k6 := qz.2.2
      exact bt (fun e => tB C (hab.2.2 x qx.1 k1 k2) (hab.2.2 y qy.1 k3 k4) (hab.2.2 z qz.1 k5 k6) o1 o2 e)) e2
    refine ⟨m, qm.1, qm.2.2, fun c q1 q2 q3 => ?_⟩
    by_cases e : c = a
    · subst e
      exact (cr1 C ha hab.1 qm.1 (Ne.symm hab.2.1) (Ne.symm qm.2.1) (Ne.symm qm.2.2)).trans (hab.2.2 m qm.1 qm.2.1 qm.2.2)
    · exact hm c ⟨q1, e, q2⟩ q3
  · refine ⟨a, ha, Ne.symm hab.2.1, fun c q1 q2 q3 => ?_⟩
    exact (e2 ⟨c, q1, q3, q2⟩).elim
/-- the hull as a row -/
noncomputable def hSeq (X Y : Nat → Int) (n f : Nat) : Nat → Nat
  | 0 => f
  | k + 1 => Classical.epsilon (fun b => HB X Y n (hSeq X Y n f k) b)
theorem hs_all (h : GP X Y n) (h2 : 2 ≤ n) {f : Nat} (hf : f < n) (hff : ∀ a, a < n → a ≠ f → ahd X Y f a) : ∀ k, hSeq X Y n f k < n ∧ HB X Y n (hSeq X Y n f k) (hSeq X Y n f (k + 1))
  | 0 => ⟨hf, Classical.epsilon_spec (hb_first h h2 hf hff)⟩
  | k + 1 => by
    obtain ⟨q1, q2⟩ := hs_all h h2 hf hff k
    exact ⟨q2.1, Classical.epsilon_spec (hb_next h q1 q2)⟩
theorem hs_back (h : GP X Y n) (h2 : 2 ≤ n) {f : Nat} (hf : f < n) (hff : ∀ a, a < n → a ≠ f → ahd X Y f a) : ∀ (i d : Nat), hSeq X Y n f i = hSeq X Y n f (i + d) → hSeq X Y n f 0 = hSeq X Y n f d
  | 0, d, e => by rw [Nat.zero_add] at e; exact e
  | i + 1, d, e => by
    refine hs_back h h2 hf hff i d ?_
    have q1 := hs_all h h2 hf hff i
    have q2 := hs_all h h2 hf hff (i + d)
    rw [show i + 1 + d = i + d + 1 from by omega] at e
    rw [← e] at q2
    exact hb_inj h q1.1 q2.1 q1.2 q2.2
/-- where it closes first -/
theorem hs_len (h : GP X Y n) (h2 : 2 ≤ n) {f : Nat} (hf : f < n) (hff : ∀ a, a < n → a ≠ f → ahd X Y f a) : ∃ m, 1 ≤ m ∧ m ≤ n ∧ hSeq X Y n f m = f ∧ ∀ i j, i < m → j < m → hSeq X Y n f i = hSeq X Y n f j → i = j := by
  have rep : ∃ d, 1 ≤ d ∧ d ≤ n ∧ hSeq X Y n f d = f := by
    apply Classical.byContradiction
    intro hn
    -- all of 0 .. n differ
    have inj : ∀ i j, i < j → j < n + 1 → hSeq X Y n f i ≠ hSeq X Y n f j := fun i j hij hj e => hn ⟨j - i, by omega, by omega, by
      have := hs_back h h2 hf hff i (j - i) (by rw [show i + (j - i) = j from by omega]; exact e)
      exact this.symm⟩
    have hole : ∀ (m N : Nat) (F : Nat → Nat), (∀ i, i < N → F i < m) → (∀ i j, i < j → j < N → F i ≠ F j) → N ≤ m := by
      intro m N F h1 h3
      have nd : ((List.range N).map F).Nodup := by
        rw [List.nodup_iff_pairwise_ne, List.pairwise_map]
        exact (List.pairwise_lt_range).imp_of_mem (fun {a b} ha hb hab => h3 a b hab (List.mem_range.mp hb))
      have sub : ∀ x, x ∈ (List.range N).map F → x ∈ List.range m := by
        intro x hx
        obtain ⟨i, hi, rfl⟩ := List.mem_map.mp hx
        exact List.mem_range.mpr (h1 i (List.mem_range.mp hi))
      have := nd.length_le_of_subset sub
      simpa using this
    have := hole n (n + 1) (hSeq X Y n f) (fun i _ => (hs_all h h2 hf hff i).1) inj
    omega
  obtain ⟨d, d1, d2, d3⟩ := rep
  obtain ⟨m, hm, ⟨m1, m2⟩, hmin⟩ := ex_min (X := fun k => 1 ≤ k ∧ hSeq X Y n f k = f) (R := fun x y => x < y) (fun x _ r => Nat.lt_irrefl x r) (fun x y z _ _ _ r s => Nat.lt_trans r s) (List.range (n + 1)) ⟨d, List.mem_range.mpr (by omega), d1, d3⟩
  have hmn := List.mem_range.mp hm
  refine ⟨m, m1, by omega, m2, ?_⟩
  have key : ∀ i j, i < j → j < m → hSeq X Y n f i ≠ hSeq X Y n f j := by
    intro i j hij hj e
    have := hs_back h h2 hf hff i (j - i) (by rw [show i + (j - i) = j from by omega]; exact e)
    exact hmin (j - i) (List.mem_range.mpr (by omega)) ⟨by omega, this.symm⟩ (by omega)
  intro i j hi hj e
  rcases Nat.lt_trichotomy i j with q | q | q
  · exact (key i j q hj e).elim
  · exact q
  · exact (key j i q hi e.symm).elim
end
