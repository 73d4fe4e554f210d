/-! Points and marks that change: free places, musts that cross. -/
def dq (X Y : Nat → Int) (a b : Nat) (x y : Int) : Int := (X b - X a) * (y - Y a) - (Y b - Y a) * (x - X a)
def FreeM (X Y : Nat → Int) (n p : Nat) (x y : Int) : Prop := ∀ a, a < n → a ≠ p → ¬ (X a = x ∧ Y a = y) ∧ ∀ b, a < b → b < n → b ≠ p → dq X Y a b x y ≠ 0
theorem dq_sml {X Y : Nat → Int} {n : Nat} (h : Near X Y n) {a b : Nat} {x y : Int} (ha : a < n) (hb : b < n) (hx : -99 ≤ x ∧ x ≤ 99) (hy : -99 ≤ y ∧ y ≤ 99) : Sml (dq X Y a b x y) := by
  have h1 := h a ha
  have h2 := h b hb
  have key : ∀ x y : Int, -198 ≤ x → x ≤ 198 → -198 ≤ y → y ≤ 198 → -39204 ≤ x * y ∧ x * y ≤ 39204 := by
    intro x y x1 x2 y1 y2
    have : (x * y).natAbs ≤ 198 * 198 := by
      rw [Int.natAbs_mul]
      exact Nat.mul_le_mul (by omega) (by omega)
    omega
  have k1 := key (X b - X a) (y - Y a) (by omega) (by omega) (by omega) (by omega)
  have k2 := key (Y b - Y a) (x - X a) (by omega) (by omega) (by omega) (by omega)
  unfold Sml dq
  omega
theorem free_cg {X Y X' Y' : Nat → Int} {n n' p : Nat} {x y : Int} (e : ∀ i, i < n → i ≠ p → i < n' ∧ X' i = X i ∧ Y' i = Y i) (h : FreeM X' Y' n' p x y) : FreeM X Y n p x y := by
  intro a ha na
  obtain ⟨a1, a2, a3⟩ := e a ha na
  have := h a a1 na
  rw [a2, a3] at this
  refine ⟨this.1, fun b hab hb nb => ?_⟩
  obtain ⟨b1, b2, b3⟩ := e b hb nb
  have q := this.2 b hab b1 nb
  unfold dq at q ⊢
  rw [a2, a3, b2, b3] at q
  exact q
theorem cI_de {x y : Int} (hx : Sml x) (hy : Sml y) : decide (cI x = cI y) = decide (x = y) := decide_eq_decide.mpr (cI_inj hx hy)
theorem cI_d0 {x : Int} (hx : Sml x) : decide (cI x = 0) = decide (x = 0) := by
  rw [cI_0]
  exact cI_de hx (by unfold Sml; omega)
theorem cdec_cg {p q : Prop} (h : p ↔ q) : cdec p = cdec q := by rw [propext h]
theorem c_isFree {g : zIJ} {n : Nat} {X Y : Nat → Int} (h : CB g n X Y) (hN : Near X Y n) {x y : Int} (hx : -99 ≤ x ∧ x ≤ 99) (hy : -99 ≤ y ∧ y ≤ 99) {sk : Int32} {p : Nat} (hs : ∀ a, a < n → decide (nI a = sk) = decide (a = p)) : zev mX0_isFree 0 [.ref 4, .int (cI x), .int (cI y), .int sk] g = some (some (.int (bI (cdec (FreeM X Y n p x y)))), g) := by
  obtain ⟨hn, h4, hxy⟩ := h
  have sx : Sml x := by unfold Sml; omega
  have sy : Sml y := by unfold Sml; omega
  have inner : ∀ a, a < n → ∀ k i, i + k = n → zev mX0_isFree 51 [.ref 4, .int (cI x), .int (cI y), .int sk, .int (nI a), .int (nI i)] g = cond (cdec (∀ j, i ≤ j → j < n → (j ≠ p → dq X Y a j x y ≠ 0))) (zev mX0_isFree 3 [.ref 4, .int (cI x), .int (cI y), .int sk, .int (nI (a + 1))] g) (some (some (.int 0), g)) := by
    intro a ha
    refine zall (F := fun i => zev mX0_isFree 51 [.ref 4, .int (cI x), .int (cI y), .int sk, .int (nI a), .int (nI i)] g) (Q := fun j => j ≠ p → dq X Y a j x y ≠ 0) (fun i hi => ?_) ?_
    · show zev mX0_isFree 51 _ g = _
      rw [uX0_isFree_51, h4, decide_eq_false (nI_ge (a := i) (b := n) hi (by omega)), hs i hi, zin_n (by omega : a < 9) (by omega), zin_n (by omega : i < 9) (by omega), nI_clamp (by omega : a < 2 ^ 31), nI_clamp (by omega : i < 2 ^ 31), (hxy a ha).1, (hxy a ha).2, (hxy i hi).1, (hxy i hi).2, c_side, zaI_some]
      simp only [nI_1]
      show cond false _ (cond (decide (i = p)) _ (cond (!decide (cI (dq X Y a i x y) = 0)) _ _)) = _
      rw [cI_d0 (dq_sml hN ha hi hx hy)]
      by_cases e : i = p
      · rw [decide_eq_true e, cdec_t (fun z => absurd e z)]; rfl
      · by_cases d : dq X Y a i x y = 0
        · rw [decide_eq_false e, decide_eq_true d, cdec_f (fun z => z e d)]; rfl
        · rw [decide_eq_false e, decide_eq_false d, cdec_t (fun _ => d)]; rfl
    · show zev mX0_isFree 51 _ g = _
      rw [uX0_isFree_51, h4, decide_eq_true (nI_le (Nat.le_refl n) (by omega)), nI_1]; rfl
  have outer := zall (F := fun i => zev mX0_isFree 3 [.ref 4, .int (cI x), .int (cI y), .int sk, .int (nI i)] g) (R0 := some (some (.int 0), g)) (R1 := some (some (.int 1), g)) (n := n) (Q := fun a => a ≠ p → ¬ (X a = x ∧ Y a = y) ∧ ∀ j, a + 1 ≤ j → j < n → (j ≠ p → dq X Y a j x y ≠ 0)) (fun i hi => ?_) ?_ n 0 (by omega)
  · have o2 : zev mX0_isFree 3 [.ref 4, .int (cI x), .int (cI y), .int sk, .int (nI 0)] g = _ := outer
    rw [uX0_isFree_0]
    refine o2.trans ?_
    by_cases q : FreeM X Y n p x y
    · rw [cdec_t q, cdec_t (fun j _ hj nj => ⟨(q j hj nj).1, fun b hb => (q j hj nj).2 b (by omega)⟩)]; rfl
    · rw [cdec_f q, cdec_f (fun z => q (fun a ha na => ⟨(z a (by omega) ha na).1, fun b hb => (z a (by omega) ha na).2 b (by omega)⟩))]; rfl
  · show zev mX0_isFree 3 _ g = _
    rw [uX0_isFree_3, h4, decide_eq_false (nI_ge (a := i) (b := n) hi (by omega)), hs i hi, zin_n (by omega : i < 9) (by omega), nI_clamp (by omega : i < 2 ^ 31), (hxy i hi).1, (hxy i hi).2, cI_de (x_sml hN hi).1 sx, cI_de (x_sml hN hi).2 sy]
    simp only [nI_1]
    rw [inner i hi (n - (i + 1)) (i + 1) (by omega)]
    by_cases e : i = p
    · rw [decide_eq_true e, cdec_t (q := i ≠ p → ¬ (X i = x ∧ Y i = y) ∧ ∀ j, i + 1 ≤ j → j < n → (j ≠ p → dq X Y i j x y ≠ 0)) (fun z => absurd e z)]; rfl
    · rw [decide_eq_false e]
      by_cases d1 : X i = x
      · by_cases d2 : Y i = y
        · rw [decide_eq_true d1, decide_eq_true d2, cdec_f (q := i ≠ p → ¬ (X i = x ∧ Y i = y) ∧ ∀ j, i + 1 ≤ j → j < n → (j ≠ p → dq X Y i j x y ≠ 0)) (fun z => (z e).1 ⟨d1, d2⟩)]; rfl
        · rw [decide_eq_true d1, decide_eq_false d2, cdec_cg (q := i ≠ p → ¬ (X i = x ∧ Y i = y) ∧ ∀ j, i + 1 ≤ j → j < n → (j ≠ p → dq X Y i j x y ≠ 0)) ⟨fun z _ => ⟨fun w => d2 w.2, z⟩, fun z => (z e).2⟩]; rfl
      · rw [decide_eq_false d1, cdec_cg (q := i ≠ p → ¬ (X i = x ∧ Y i = y) ∧ ∀ j, i + 1 ≤ j → j < n → (j ≠ p → dq X Y i j x y ≠ 0)) ⟨fun z _ => ⟨fun w => d1 w.1, z⟩, fun z => (z e).2⟩]; rfl
  · show zev mX0_isFree 3 _ g = _
    rw [uX0_isFree_3, h4, decide_eq_true (nI_le (Nat.le_refl n) (by omega))]; rfl
theorem r_isFree {g : zIJ} {n : Nat} {X Y : Nat → Int} (h : RB g n X Y) (hN : Near X Y n) {p : Nat} (hp : p < n) : zev mX12_isFree 0 [.ref 250, .int (nI p)] g = some (some (.int (bI (cdec (FreeM X Y n p (X p) (Y p))))), g) := by
  have hn := h.1
  have hx : -99 ≤ X p ∧ X p ≤ 99 := ⟨(hN p hp).1, (hN p hp).2.1⟩
  have hy : -99 ≤ Y p ∧ Y p ≤ 99 := (hN p hp).2.2
  have inner : ∀ a, a < n → ∀ k i, i + k = n → zev mX12_isFree 47 [.ref 250, .int (nI p), .int (nI a), .int (nI i)] g = cond (cdec (∀ j, i ≤ j → j < n → (a ≠ p → j ≠ p → dq X Y a j (X p) (Y p) ≠ 0))) (zev mX12_isFree 2 [.ref 250, .int (nI p), .int (nI (a + 1))] g) (some (some (.int 0), g)) := by
    intro a ha
    refine zall (F := fun i => zev mX12_isFree 47 [.ref 250, .int (nI p), .int (nI a), .int (nI i)] g) (Q := fun j => a ≠ p → j ≠ p → dq X Y a j (X p) (Y p) ≠ 0) (fun i hi => ?_) ?_
    · show zev mX12_isFree 47 _ g = _
      rw [uX12_isFree_47, r_points h, zaI_some, decide_eq_false (nI_ge (a := i) (b := n) hi (by omega)), nI_de (by omega : a < 2 ^ 31) (by omega : p < 2 ^ 31), nI_de (by omega : i < 2 ^ 31) (by omega : p < 2 ^ 31), r_x h ha, zaI_some, r_y h ha, zaI_some, r_x h hi, zaI_some, r_y h hi, zaI_some, r_x h hp, zaI_some, r_y h hp, zaI_some, r_side, zaI_some]
      simp only [nI_1]
      show cond false _ (cond (decide (a = p)) _ (cond (decide (i = p)) _ (cond (!decide (cI (dq X Y a i (X p) (Y p)) = 0)) _ _))) = _
      rw [cI_d0 (dq_sml hN ha hi hx hy)]
      by_cases e0 : a = p
      · rw [decide_eq_true e0, cdec_t (fun z => absurd e0 z)]; rfl
      · by_cases e : i = p
        · rw [decide_eq_false e0, decide_eq_true e, cdec_t (fun _ z => absurd e z)]; rfl
        · by_cases d : dq X Y a i (X p) (Y p) = 0
          · rw [decide_eq_false e0, decide_eq_false e, decide_eq_true d, cdec_f (fun z => z e0 e d)]; rfl
          · rw [decide_eq_false e0, decide_eq_false e, decide_eq_false d, cdec_t (fun _ _ => d)]; rfl
    · show zev mX12_isFree 47 _ g = _
      rw [uX12_isFree_47, r_points h, zaI_some, decide_eq_true (nI_le (Nat.le_refl n) (by omega)), nI_1]; rfl
  have outer := zall (F := fun i => zev mX12_isFree 2 [.ref 250, .int (nI p), .int (nI i)] g) (R0 := some (some (.int 0), g)) (R1 := some (some (.int 1), g)) (n := n) (Q := fun a => (a ≠ p → ¬ (X a = X p ∧ Y a = Y p)) ∧ ∀ j, a + 1 ≤ j → j < n → (a ≠ p → j ≠ p → dq X Y a j (X p) (Y p) ≠ 0)) (fun i hi => ?_) ?_ n 0 (by omega)
  · have o2 : zev mX12_isFree 2 [.ref 250, .int (nI p), .int (nI 0)] g = _ := outer
    rw [uX12_isFree_0]
    refine o2.trans ?_
    by_cases q : FreeM X Y n p (X p) (Y p)
    · rw [cdec_t q, cdec_t (fun j _ hj => ⟨fun nj => (q j hj nj).1, fun b hb hb2 nj => (q j hj nj).2 b (by omega) hb2⟩)]; rfl
    · rw [cdec_f q, cdec_f (fun z => q (fun a ha na => ⟨(z a (by omega) ha).1 na, fun b hb hb2 => (z a (by omega) ha).2 b (by omega) hb2 na⟩))]; rfl
  · show zev mX12_isFree 2 _ g = _
    rw [uX12_isFree_2, r_points h, zaI_some, decide_eq_false (nI_ge (a := i) (b := n) hi (by omega)), nI_de (by omega : i < 2 ^ 31) (by omega : p < 2 ^ 31), r_x h hi, zaI_some, r_x h hp, zaI_some, r_y h hi, zaI_some, r_y h hp, zaI_some, cI_de (x_sml hN hi).1 (x_sml hN hp).1, cI_de (x_sml hN hi).2 (x_sml hN hp).2]
    simp only [nI_1]
    rw [inner i hi (n - (i + 1)) (i + 1) (by omega)]
    by_cases e : i = p
    · rw [decide_eq_true e, cdec_cg (q := (i ≠ p → ¬ (X i = X p ∧ Y i = Y p)) ∧ ∀ j, i + 1 ≤ j → j < n → (i ≠ p → j ≠ p → dq X Y i j (X p) (Y p) ≠ 0)) ⟨fun z => ⟨fun w => absurd e w, z⟩, fun z => z.2⟩]; rfl
    · rw [decide_eq_false e]
      by_cases d1 : X i = X p
      · by_cases d2 : Y i = Y p
        · rw [decide_eq_true d1, decide_eq_true d2, cdec_f (q := (i ≠ p → ¬ (X i = X p ∧ Y i = Y p)) ∧ ∀ j, i + 1 ≤ j → j < n → (i ≠ p → j ≠ p → dq X Y i j (X p) (Y p) ≠ 0)) (fun z => z.1 e ⟨d1, d2⟩)]; rfl
        · rw [decide_eq_true d1, decide_eq_false d2, cdec_cg (q := (i ≠ p → ¬ (X i = X p ∧ Y i = Y p)) ∧ ∀ j, i + 1 ≤ j → j < n → (i ≠ p → j ≠ p → dq X Y i j (X p) (Y p) ≠ 0)) ⟨fun z => ⟨fun _ w => d2 w.2, z⟩, fun z => z.2⟩]; rfl
      · rw [decide_eq_false d1, cdec_cg (q := (i ≠ p → ¬ (X i = X p ∧ Y i = Y p)) ∧ ∀ j, i + 1 ≤ j → j < n → (i ≠ p → j ≠ p → dq X Y i j (X p) (Y p) ≠ 0)) ⟨fun z => ⟨fun _ w => d1 w.1, z⟩, fun z => z.2⟩]; rfl
  · show zev mX12_isFree 2 _ g = _
    rw [uX12_isFree_2, r_points h, zaI_some, decide_eq_true (nI_le (Nat.le_refl n) (by omega))]; rfl
/-- two musts cross -/
def MC (X Y : Nat → Int) (s : Nat → Int32) : Prop := ∃ e f, e < 36 ∧ f < 36 ∧ s (20 + e) = 1 ∧ s (20 + f) = 1 ∧ crs (oXY X Y) (eLo e) (eHi e) (eLo f) (eHi f) = true
theorem c_mustCross {g : zIJ} {n : Nat} {X Y : Nat → Int} {s : Nat → Int32} (h : CB g n X Y) (hN : Near X Y n) (hm : MksOK s n) (h6 : g.2 4 6 = lN (mM s 1)) : zev mX0_mustCross 0 [.ref 4] g = some (some (.int (bI (cdec (MC X Y s)))), g) := by
  have inner : ∀ e, e < 36 → ∀ k i, i + k = 36 → zev mX0_mustCross 12 [.ref 4, .int (nI e), .int (nI i)] g = cond (cdec (∀ j, i ≤ j → j < 36 → ¬ (s (20 + e) = 1 ∧ s (20 + j) = 1 ∧ crs (oXY X Y) (eLo e) (eHi e) (eLo j) (eHi j) = true))) (zev mX0_mustCross 2 [.ref 4, .int (nI (e + 1))] g) (some (some (.int 1), g)) := by
    intro e he
    refine zall (F := fun i => zev mX0_mustCross 12 [.ref 4, .int (nI e), .int (nI i)] g) (Q := fun j => ¬ (s (20 + e) = 1 ∧ s (20 + j) = 1 ∧ crs (oXY X Y) (eLo e) (eHi e) (eLo j) (eHi j) = true)) (fun i hi => ?_) ?_
    · show zev mX0_mustCross 12 _ g = _
      rw [uX0_mustCross_12, lit36 hi, h6, c_holds g (mM s 1) (by omega : e < 64), zaI_some, bI_0, mM_at he, h6, c_holds g (mM s 1) (by omega : i < 64), zaI_some, bI_0, mM_at hi]
      simp only [nI_1]
      by_cases q1 : s (20 + e) = 1
      · by_cases q2 : s (20 + i) = 1
        · have l1 : eHi e < n := by
            refine Nat.lt_of_not_le (fun z => ?_)
            have := (hm e he).2 z
            rw [q1] at this
            exact absurd this (by decide)
          have l2 : eHi i < n := by
            refine Nat.lt_of_not_le (fun z => ?_)
            have := (hm i hi).2 z
            rw [q2] at this
            exact absurd this (by decide)
          rw [decide_eq_true q1, decide_eq_true q2, c_doCross h hN he hi l1 l2, zaI_some, bI_0]
          cases q3 : crs (oXY X Y) (eLo e) (eHi e) (eLo i) (eHi i) with
          | true => rw [cdec_f (fun z => z ⟨q1, q2, rfl⟩)]; rfl
          | false => rw [cdec_t (fun z => absurd z.2.2 (by decide))]; rfl
        · rw [decide_eq_true q1, decide_eq_false q2, cdec_t (fun z => q2 z.2.1)]; rfl
      · rw [decide_eq_false q1, cdec_t (fun z => q1 z.1)]; rfl
    · show zev mX0_mustCross 12 _ g = _
      rw [uX0_mustCross_12, show decide ((36 : Int32) ≤ nI 36) = true from rfl, nI_1]; rfl
  have outer := zall (F := fun i => zev mX0_mustCross 2 [.ref 4, .int (nI i)] g) (R0 := some (some (.int 1), g)) (R1 := some (some (.int 0), g)) (n := 36) (Q := fun e => ∀ j, e + 1 ≤ j → j < 36 → ¬ (s (20 + e) = 1 ∧ s (20 + j) = 1 ∧ crs (oXY X Y) (eLo e) (eHi e) (eLo j) (eHi j) = true)) (fun i hi => ?_) ?_ 36 0 (by omega)
  · have o2 : zev mX0_mustCross 2 [.ref 4, .int (nI 0)] g = _ := outer
    rw [uX0_mustCross_0]
    refine o2.trans ?_
    by_cases q : MC X Y s
    · rw [cdec_t q, cdec_f (fun z => ?_)]
      · rfl
      · obtain ⟨e, f, he, hf, q1, q2, q3⟩ := q
        rcases Nat.lt_trichotomy e f with l | l | l
        · exact z e (by omega) he f (by omega) hf ⟨q1, q2, q3⟩
        · subst l
          rw [crs_self] at q3
          exact absurd q3 (by decide)
        · exact z f (by omega) hf e (by omega) he ⟨q2, q1, by rw [crs_sw]; exact q3⟩
    · rw [cdec_f q, cdec_t (fun e _ he f _ hf z => q ⟨e, f, he, hf, z.1, z.2.1, z.2.2⟩)]; rfl
  · show zev mX0_mustCross 2 _ g = _
    rw [uX0_mustCross_2, lit36 hi, nI_1]
    exact inner i hi (36 - (i + 1)) (i + 1) (by omega)
  · show zev mX0_mustCross 2 _ g = _
    rw [uX0_mustCross_2]; rfl
theorem zall2 {β : Type} {F : Nat → β} {R0 R1 : β} {n lo : Nat} {Q : Nat → Prop} (hs : ∀ i, lo ≤ i → i < n → F i = cond (cdec (Q i)) (F (i + 1)) R0) (he : F n = R1) : ∀ (k i : Nat), i + k = n → lo ≤ i → F i = cond (cdec (∀ j, i ≤ j → j < n → Q j)) R1 R0
  | 0, i, e, _ => by
    have : i = n := by omega
    subst this
    rw [he, cdec_t (fun j h1 h2 => by omega)]; rfl
  | k + 1, i, e, l => by
    rw [hs i l (by omega)]
    by_cases q : Q i
    · rw [cdec_t q]
      show F (i + 1) = _
      rw [zall2 hs he k (i + 1) (by omega) (by omega)]
      by_cases q2 : ∀ j, i + 1 ≤ j → j < n → Q j
      · rw [cdec_t q2, cdec_t (fun j h1 h2 => by
          by_cases e : j = i
          · subst e; exact q
          · exact q2 j (by omega) h2)]
      · rw [cdec_f q2, cdec_f (fun q3 => q2 (fun j h1 h2 => q3 j (by omega) h2))]
    · rw [cdec_f q, cdec_f (fun q3 => q (q3 i (Nat.le_refl i) (by omega)))]
      rfl
theorem r_mustCross {g : zIJ} {n : Nat} {X Y : Nat → Int} {s : Nat → Int32} (h : RB g n X Y) (hN : Near X Y n) (hm : MksOK s n) (hs : ∀ e, e < 36 → g.1 251 (20 + e) = s (20 + e)) : zev mX12_doMustsCross 0 [.ref 250] g = some (some (.int (bI (cdec (MC X Y s)))), g) := by
  have hn := h.1
  have l4 : ∀ a b, a < b → b < n → ∀ c, c < n → ∀ k i, i + k = n → c + 1 ≤ i → zev mX12_doMustsCross 37 [.ref 250, .int (nI a), .int (nI b), .int (nI c), .int (nI i)] g = cond (cdec (∀ j, i ≤ j → j < n → ¬ (s (20 + eN a b) = 1 ∧ s (20 + eN c j) = 1 ∧ crs (oXY X Y) a b c j = true))) (zev mX12_doMustsCross 24 [.ref 250, .int (nI a), .int (nI b), .int (nI (c + 1))] g) (some (some (.int 1), g)) := by
    intro a b hab hb c hc
    have e36 := eN_lt (by omega : a < 9) (by omega : b < 9) (by omega)
    refine zall2 (F := fun i => zev mX12_doMustsCross 37 [.ref 250, .int (nI a), .int (nI b), .int (nI c), .int (nI i)] g) (Q := fun j => ¬ (s (20 + eN a b) = 1 ∧ s (20 + eN c j) = 1 ∧ crs (oXY X Y) a b c j = true)) (fun i hl hi => ?_) ?_
    · have f36 := eN_lt (by omega : c < 9) (by omega : i < 9) (by omega)
      show zev mX12_doMustsCross 37 _ g = _
      rw [uX12_doMustsCross_37, r_points h, zaI_some, decide_eq_false (nI_ge (a := i) (b := n) hi (by omega)), r_edge g (by omega : a < 9) (by omega : b < 9) (by omega), zaI_some, add20 e36, zin_n (by omega : 20 + eN a b < 72) (by omega), nI_clamp (by omega : 20 + eN a b < 2 ^ 31), hs _ e36, r_edge g (by omega : c < 9) (by omega : i < 9) (by omega), zaI_some, add20 f36, zin_n (by omega : 20 + eN c i < 72) (by omega), nI_clamp (by omega : 20 + eN c i < 2 ^ 31), hs _ f36, r_doCross h hN (by omega) hb hc hi, zaI_some, bI_0]
      simp only [nI_1]
      by_cases q1 : s (20 + eN a b) = 1
      · by_cases q2 : s (20 + eN c i) = 1
        · rw [decide_eq_true q1, decide_eq_true q2]
          cases q3 : crs (oXY X Y) a b c i with
          | true => rw [cdec_f (fun z => z ⟨q1, q2, rfl⟩)]; rfl
          | false => rw [cdec_t (fun z => absurd z.2.2 (by decide))]; rfl
        · rw [decide_eq_true q1, decide_eq_false q2, cdec_t (fun z => q2 z.2.1)]; rfl
      · rw [decide_eq_false q1, cdec_t (fun z => q1 z.1)]; rfl
    · show zev mX12_doMustsCross 37 _ g = _
      rw [uX12_doMustsCross_37, r_points h, zaI_some, decide_eq_true (nI_le (Nat.le_refl n) (by omega)), nI_1]; rfl
  have l3 : ∀ a b, a < b → b < n → zev mX12_doMustsCross 24 [.ref 250, .int (nI a), .int (nI b), .int (nI 0)] g = cond (cdec (∀ c, 0 ≤ c → c < n → ∀ j, c + 1 ≤ j → j < n → ¬ (s (20 + eN a b) = 1 ∧ s (20 + eN c j) = 1 ∧ crs (oXY X Y) a b c j = true))) (zev mX12_doMustsCross 14 [.ref 250, .int (nI a), .int (nI (b + 1))] g) (some (some (.int 1), g)) := by
    intro a b hab hb
    refine zall (F := fun i => zev mX12_doMustsCross 24 [.ref 250, .int (nI a), .int (nI b), .int (nI i)] g) (Q := fun c => ∀ j, c + 1 ≤ j → j < n → ¬ (s (20 + eN a b) = 1 ∧ s (20 + eN c j) = 1 ∧ crs (oXY X Y) a b c j = true)) (fun i hi => ?_) ?_ n 0 (by omega)
    · show zev mX12_doMustsCross 24 _ g = _
      rw [uX12_doMustsCross_24, r_points h, zaI_some, decide_eq_false (nI_ge (a := i) (b := n) hi (by omega))]
      simp only [nI_1]
      exact l4 a b hab hb i hi (n - (i + 1)) (i + 1) (by omega) (by omega)
    · show zev mX12_doMustsCross 24 _ g = _
      rw [uX12_doMustsCross_24, r_points h, zaI_some, decide_eq_true (nI_le (Nat.le_refl n) (by omega)), nI_1]; rfl
  have l2 : ∀ a, a < n → ∀ k i, i + k = n → a + 1 ≤ i → zev mX12_doMustsCross 14 [.ref 250, .int (nI a), .int (nI i)] g = cond (cdec (∀ b, i ≤ b → b < n → ∀ c, 0 ≤ c → c < n → ∀ j, c + 1 ≤ j → j < n → ¬ (s (20 + eN a b) = 1 ∧ s (20 + eN c j) = 1 ∧ crs (oXY X Y) a b c j = true))) (zev mX12_doMustsCross 2 [.ref 250, .int (nI (a + 1))] g) (some (some (.int 1), g)) := by
    intro a ha
    refine zall2 (F := fun i => zev mX12_doMustsCross 14 [.ref 250, .int (nI a), .int (nI i)] g) (Q := fun b => ∀ c, 0 ≤ c → c < n → ∀ j, c + 1 ≤ j → j < n → ¬ (s (20 + eN a b) = 1 ∧ s (20 + eN c j) = 1 ∧ crs (oXY X Y) a b c j = true)) (fun i hl hi => ?_) ?_
    · show zev mX12_doMustsCross 14 _ g = _
      rw [uX12_doMustsCross_14, r_points h, zaI_some, decide_eq_false (nI_ge (a := i) (b := n) hi (by omega))]
      exact l3 a i (by omega) hi
    · show zev mX12_doMustsCross 14 _ g = _
      rw [uX12_doMustsCross_14, r_points h, zaI_some, decide_eq_true (nI_le (Nat.le_refl n) (by omega)), nI_1]; rfl
  have l1 := zall (F := fun i => zev mX12_doMustsCross 2 [.ref 250, .int (nI i)] g) (R0 := some (some (.int 1), g)) (R1 := some (some (.int 0), g)) (n := n) (Q := fun a => ∀ b, a + 1 ≤ b → b < n → ∀ c, 0 ≤ c → c < n → ∀ j, c + 1 ≤ j → j < n → ¬ (s (20 + eN a b) = 1 ∧ s (20 + eN c j) = 1 ∧ crs (oXY X Y) a b c j = true)) (fun i hi => ?_) ?_ n 0 (by omega)
  · have o2 : zev mX12_doMustsCross 2 [.ref 250, .int (nI 0)] g = _ := l1
    rw [uX12_doMustsCross_0]
    refine o2.trans ?_
    by_cases q : MC X Y s
    · rw [cdec_t q, cdec_f (fun z => ?_)]
      · rfl
      · obtain ⟨e, f, he, hf, q1, q2, q3⟩ := q
        have b1 : eHi e < n := by
          refine Nat.lt_of_not_le (fun z => ?_)
          have := (hm e he).2 z
          rw [q1] at this
          exact absurd this (by decide)
        have b2 : eHi f < n := by
          refine Nat.lt_of_not_le (fun z => ?_)
          have := (hm f hf).2 z
          rw [q2] at this
          exact absurd this (by decide)
        obtain ⟨e1, e2, e3, e4⟩ := edge_of he
        obtain ⟨f1, f2, f3, f4⟩ := edge_of hf
        exact z (eLo e) (by omega) (by omega) (eHi e) (by omega) b1 (eLo f) (by omega) (by omega) (eHi f) (by omega) b2 ⟨by rw [e3]; exact q1, by rw [f3]; exact q2, q3⟩
    · rw [cdec_f q, cdec_t (fun a _ ha b hb hb2 c _ hc d hd hd2 z => q ?_)]
      · rfl
      · obtain ⟨e1, e2, e3, e4, e5⟩ := edge_at (by omega : a < 9) (by omega : b < 9) (by omega)
        obtain ⟨f1, f2, f3, f4, f5⟩ := edge_at (by omega : c < 9) (by omega : d < 9) (by omega)
        refine ⟨eN a b, eN c d, e1, f1, z.1, z.2.1, ?_⟩
        rw [e3, e4, f3, f4, Nat.min_eq_left (by omega), Nat.max_eq_right (by omega), Nat.min_eq_left (by omega), Nat.max_eq_right (by omega)]
        exact z.2.2
  · show zev mX12_doMustsCross 2 _ g = _
    rw [uX12_doMustsCross_2, r_points h, zaI_some, decide_eq_false (nI_ge (a := i) (b := n) hi (by omega)), nI_1]
    exact l2 i hi (n - (i + 1)) (i + 1) (by omega) (by omega)
  · show zev mX12_doMustsCross 2 _ g = _
    rw [uX12_doMustsCross_2, r_points h, zaI_some, decide_eq_true (nI_le (Nat.le_refl n) (by omega))]; rfl
