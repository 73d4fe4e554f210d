/-! What the list holds: all nets, rising. -/
section
variable {can must barred : Nat} {cr : Nat → Nat}
theorem opn_at (set i : Nat) : ∀ e, (opn can barred cr set e).testBit i = (decide (i < e) && (can.testBit i && !barred.testBit i && Nat.beq (cr i &&& set) 0))
  | 0 => by simp [opn]
  | k + 1 => by
    unfold opn
    rw [Nat.testBit_or, opn_at set i k]
    by_cases e : i = k
    · subst e
      rw [decide_eq_false (Nat.lt_irrefl i), decide_eq_true (Nat.lt_succ_self i)]
      cases (can.testBit i && !barred.testBit i && Nat.beq (cr i &&& set) 0) with
      | false => simp
      | true => simp [Nat.testBit_two_pow_self]
    · have h2 : (cond (can.testBit k && !barred.testBit k && Nat.beq (cr k &&& set) 0) (2 ^ k) 0).testBit i = false := by
        cases (can.testBit k && !barred.testBit k && Nat.beq (cr k &&& set) 0) with
        | false => simp
        | true => exact Nat.testBit_two_pow_of_ne (Ne.symm e)
      rw [h2, Bool.or_false]
      congr 1
      by_cases q : i < k
      · rw [decide_eq_true q, decide_eq_true (by omega : i < k + 1)]
      · rw [decide_eq_false q, decide_eq_false (by omega : ¬ i < k + 1)]
theorem and_ne {a b : Nat} : (a &&& b ≠ 0) ↔ ∃ i, a.testBit i = true ∧ b.testBit i = true := by
  constructor
  · intro h
    obtain ⟨i, hi⟩ := Nat.exists_testBit_of_ne_zero h
    rw [Nat.testBit_and, Bool.and_eq_true] at hi
    exact ⟨i, hi⟩
  · intro ⟨i, h1, h2⟩ e
    have : (a &&& b).testBit i = true := by rw [Nat.testBit_and, h1, h2]; rfl
    rw [e] at this
    simp at this
theorem and_eq {a b : Nat} : (a &&& b = 0) ↔ ∀ i, a.testBit i = true → b.testBit i = true → False := by
  constructor
  · intro h i h1 h2
    exact and_ne.mpr ⟨i, h1, h2⟩ h
  · intro h
    apply Classical.byContradiction
    intro hn
    obtain ⟨i, h1, h2⟩ := and_ne.mp hn
    exact h i h1 h2
/-- t goes on from set, the edges below e being open -/
def Vld (can must barred : Nat) (cr : Nat → Nat) (e set t : Nat) : Prop :=
  t < 2 ^ 36 ∧ (∀ i, e ≤ i → t.testBit i = set.testBit i) ∧ (∀ k, k < e → t.testBit k = true → can.testBit k = true ∧ barred.testBit k = false) ∧
  (∀ k, k < e → can.testBit k = true → must.testBit k = true → t.testBit k = true) ∧ (∀ k, k < e → t.testBit k = true → ∀ j, k < j → t.testBit j = true → (cr k).testBit j = false) ∧
  (∀ k, k < 36 → can.testBit k = true → t.testBit k = false → cr k &&& t ≠ 0)
theorem vld_me {e set t : Nat} (hs : ∀ i, i < e → set.testBit i = false) (h : Vld can must barred cr e set t) : ME can barred cr set e = true := by
  obtain ⟨h1, h2, h3, h4, h5, h6⟩ := h
  refine cdec_t (fun k hk hk36 hc hks => ?_)
  have := h6 k hk36 hc (by rw [h2 k hk]; exact hks)
  obtain ⟨i, i1, i2⟩ := and_ne.mp this
  refine and_ne.mpr ⟨i, i1, ?_⟩
  rw [Nat.testBit_or]
  by_cases q : e ≤ i
  · rw [← h2 i q, i2]; rfl
  · rw [opn_at, decide_eq_true (by omega : i < e), (h3 i (by omega) i2).1, (h3 i (by omega) i2).2]
    have : Nat.beq (cr i &&& set) 0 = true := by
      rw [nbeq_d]
      refine decide_eq_true (and_eq.mpr (fun j j1 j2 => ?_))
      have jl : e ≤ j := by
        apply Classical.byContradiction
        intro hn
        rw [hs j (by omega)] at j2; cases j2
      have := h5 i (by omega) i2 j (by omega) (by rw [h2 j jl]; exact j2)
      rw [j1] at this; cases this
    rw [this]
    simp
theorem set_or {set k : Nat} (i : Nat) : (set ||| 2 ^ k).testBit i = (set.testBit i || decide (i = k)) := by
  rw [Nat.testBit_or]
  by_cases e : i = k
  · subst e; rw [Nat.testBit_two_pow_self, decide_eq_true rfl]
  · rw [Nat.testBit_two_pow_of_ne (Ne.symm e), decide_eq_false e]
theorem lst_mem : ∀ (e set t : Nat), e ≤ 36 → set < 2 ^ 36 → (∀ i, i < e → set.testBit i = false) → (t ∈ LSt can must barred cr e set ↔ Vld can must barred cr e set t)
  | 0, set, t, _, hs36, hs => by
    unfold LSt
    constructor
    · intro h
      cases hm : ME can barred cr set 0 with
      | false => rw [hm] at h; cases h
      | true =>
        rw [hm] at h
        have e : t = set := by
          rcases List.mem_cons.mp h with e | e
          · exact e
          · cases e
        subst e
        have hm := cdec_of hm
        refine ⟨hs36, fun i _ => rfl, fun k hk => by omega, fun k hk => by omega, fun k hk => by omega, fun k hk hc ht => ?_⟩
        have := hm k (by omega) hk hc ht
        simpa [opn] using this
    · intro h
      have e : t = set := bit_ext h.1 hs36 (fun i _ => h.2.1 i (by omega))
      subst e
      rw [vld_me hs h]
      exact List.mem_cons_self
  | k + 1, set, t, he, hs36, hs => by
    have hs0 : ∀ i, i < k → set.testBit i = false := fun i hi => hs i (by omega)
    have hor : set ||| 2 ^ k < 2 ^ 36 := or_lt36 hs36 (Nat.pow_lt_pow_right (by omega) (by omega))
    have hs1 : ∀ i, i < k → (set ||| 2 ^ k).testBit i = false := fun i hi => by rw [set_or, hs i (by omega), decide_eq_false (by omega)]; rfl
    have ih0 := lst_mem k set t (by omega) hs36 hs0
    have ih1 := lst_mem k (set ||| 2 ^ k) t (by omega) hor hs1
    -- from a smaller set on
    have up0 : Vld can must barred cr k set t → (can.testBit k = true → must.testBit k = false) → Vld can must barred cr (k + 1) set t := by
      intro h hmu
      obtain ⟨h1, h2, h3, h4, h5, h6⟩ := h
      have tk : t.testBit k = false := by rw [h2 k (Nat.le_refl k)]; exact hs k (by omega)
      refine ⟨h1, fun i hi => h2 i (by omega), fun j hj ht => ?_, fun j hj hc hm => ?_, fun j hj ht => ?_, h6⟩
      · by_cases q : j = k
        · subst q; rw [tk] at ht; cases ht
        · exact h3 j (by omega) ht
      · by_cases q : j = k
        · subst q; rw [hmu hc] at hm; cases hm
        · exact h4 j (by omega) hc hm
      · by_cases q : j = k
        · subst q; rw [tk] at ht; cases ht
        · exact h5 j (by omega) ht
    have up1 : Vld can must barred cr k (set ||| 2 ^ k) t → can.testBit k = true → barred.testBit k = false → cr k &&& set = 0 → Vld can must barred cr (k + 1) set t := by
      intro h hc hb hx
      obtain ⟨h1, h2, h3, h4, h5, h6⟩ := h
      have tk : t.testBit k = true := by rw [h2 k (Nat.le_refl k), set_or, decide_eq_true rfl]; simp
      refine ⟨h1, fun i hi => ?_, fun j hj ht => ?_, fun j hj hc hm => ?_, fun j hj ht l hl htl => ?_, h6⟩
      · rw [h2 i (by omega), set_or, decide_eq_false (by omega : ¬ i = k)]; simp
      · by_cases q : j = k
        · subst q; exact ⟨hc, hb⟩
        · exact h3 j (by omega) ht
      · by_cases q : j = k
        · subst q; exact tk
        · exact h4 j (by omega) hc hm
      · by_cases q : j = k
        · subst q
          rw [h2 l (by omega), set_or, decide_eq_false (by omega : ¬ l = j), Bool.or_false] at htl
          cases hcr : (cr j).testBit l with
          | false => rfl
          | true => exact (and_eq.mp hx l hcr htl).elim
        · exact h5 j (by omega) ht l hl htl
    have dn : Vld can must barred cr (k + 1) set t → t.testBit k = false → Vld can must barred cr k set t := by
      intro h tk
      obtain ⟨h1, h2, h3, h4, h5, h6⟩ := h
      refine ⟨h1, fun i hi => ?_, fun j hj => h3 j (by omega), fun j hj => h4 j (by omega), fun j hj => h5 j (by omega), h6⟩
      by_cases q : i = k
      · subst q; rw [tk, hs i (by omega)]
      · exact h2 i (by omega)
    have dn1 : Vld can must barred cr (k + 1) set t → t.testBit k = true → Vld can must barred cr k (set ||| 2 ^ k) t := by
      intro h tk
      obtain ⟨h1, h2, h3, h4, h5, h6⟩ := h
      refine ⟨h1, fun i hi => ?_, fun j hj => h3 j (by omega), fun j hj => h4 j (by omega), fun j hj => h5 j (by omega), h6⟩
      by_cases q : i = k
      · subst q; rw [tk, set_or, decide_eq_true rfl]; simp
      · rw [h2 i (by omega), set_or, decide_eq_false q]; simp
    unfold LSt
    constructor
    · intro h
      cases hm : ME can barred cr set (k + 1) with
      | false => rw [hm] at h; cases h
      | true =>
        rw [hm] at h
        cases hc : can.testBit k with
        | false =>
          rw [hc] at h
          exact up0 (ih0.mp h) (fun q => by rw [hc] at q; cases q)
        | true =>
          rw [hc] at h
          rcases List.mem_append.mp h with h | h
          · cases hmu : must.testBit k with
            | true => rw [hmu] at h; cases h
            | false => rw [hmu] at h; exact up0 (ih0.mp h) (fun _ => hmu)
          · cases hb : barred.testBit k with
            | true => rw [hb] at h; cases h
            | false =>
              cases hx : Nat.beq (cr k &&& set) 0 with
              | false => rw [hb, hx] at h; cases h
              | true =>
                rw [hb, hx] at h
                exact up1 (ih1.mp h) hc hb (Nat.eq_of_beq_eq_true hx)
    · intro h
      rw [vld_me hs h]
      have h0 := h
      obtain ⟨h1, h2, h3, h4, h5, h6⟩ := h
      cases tk : t.testBit k with
      | false =>
        have m0 := ih0.mpr (dn h0 tk)
        cases hc : can.testBit k with
        | false => exact m0
        | true =>
          refine List.mem_append_left _ ?_
          cases hmu : must.testBit k with
          | true =>
            have := h4 k (by omega) hc hmu
            rw [tk] at this; cases this
          | false => exact m0
      | true =>
        have m1 := ih1.mpr (dn1 h0 tk)
        obtain ⟨hc, hb⟩ := h3 k (by omega) tk
        rw [hc]
        refine List.mem_append_right _ ?_
        have hx : cr k &&& set = 0 := and_eq.mpr (fun j j1 j2 => by
          have jl : k + 1 ≤ j := by
            apply Classical.byContradiction
            intro hn
            rw [hs j (by omega)] at j2; cases j2
          have := h5 k (by omega) tk j (by omega) (by rw [h2 j jl]; exact j2)
          rw [j1] at this; cases this)
        rw [hb, nbeq_d, decide_eq_true hx]
        exact m1
theorem lt_bit {x y : Nat} (k : Nat) (hx : x.testBit k = false) (hy : y.testBit k = true) (h : ∀ j, k < j → x.testBit j = y.testBit j) : x < y := by
  have e : x / 2 ^ k / 2 = y / 2 ^ k / 2 := by
    apply Nat.eq_of_testBit_eq
    intro i
    have : ∀ z : Nat, (z / 2 ^ k / 2).testBit i = z.testBit (k + 1 + i) := by
      intro z
      have h1 : z / 2 ^ k / 2 = z / 2 ^ (k + 1) := by rw [Nat.div_div_eq_div_mul, Nat.pow_succ]
      rw [h1, ← Nat.shiftRight_eq_div_pow, Nat.testBit_shiftRight]
    rw [this, this]
    exact h _ (by omega)
  rw [Nat.testBit_eq_decide_div_mod_eq] at hx hy
  have hx := of_decide_eq_false hx
  have hy := of_decide_eq_true hy
  apply Classical.byContradiction
  intro hn
  have : y / 2 ^ k ≤ x / 2 ^ k := Nat.div_le_div_right (by omega)
  omega
theorem lst_sorted : ∀ (e set : Nat), e ≤ 36 → set < 2 ^ 36 → (∀ i, i < e → set.testBit i = false) → (LSt can must barred cr e set).Pairwise (fun x y => x < y)
  | 0, set, _, _, _ => by
    unfold LSt
    cases ME can barred cr set 0 with
    | false => exact List.Pairwise.nil
    | true => exact List.pairwise_singleton _ _
  | k + 1, set, he, hs36, hs => by
    have hs0 : ∀ i, i < k → set.testBit i = false := fun i hi => hs i (by omega)
    have hor : set ||| 2 ^ k < 2 ^ 36 := or_lt36 hs36 (Nat.pow_lt_pow_right (by omega) (by omega))
    have hs1 : ∀ i, i < k → (set ||| 2 ^ k).testBit i = false := fun i hi => by rw [set_or, hs i (by omega), decide_eq_false (by omega)]; rfl
    have ih0 := lst_sorted k set (by omega) hs36 hs0
    have ih1 := lst_sorted k (set ||| 2 ^ k) (by omega) hor hs1
    unfold LSt
    cases ME can barred cr set (k + 1) with
    | false => exact List.Pairwise.nil
    | true =>
      cases can.testBit k with
      | false => exact ih0
      | true =>
        refine List.pairwise_append.mpr ⟨?_, ?_, fun x hx y hy => ?_⟩
        · cases must.testBit k with
          | true => exact List.Pairwise.nil
          | false => exact ih0
        · cases (!barred.testBit k && Nat.beq (cr k &&& set) 0) with
          | true => exact ih1
          | false => exact List.Pairwise.nil
        · have hx : x ∈ LSt can must barred cr k set := by
            cases hq : must.testBit k with
            | true => rw [hq] at hx; cases hx
            | false => rw [hq] at hx; exact hx
          have hy : y ∈ LSt can must barred cr k (set ||| 2 ^ k) := by
            cases hq : (!barred.testBit k && Nat.beq (cr k &&& set) 0) with
            | true => rw [hq] at hy; exact hy
            | false => rw [hq] at hy; cases hy
          have vx := (lst_mem k set x (by omega) hs36 hs0).mp hx
          have vy := (lst_mem k (set ||| 2 ^ k) y (by omega) hor hs1).mp hy
          refine lt_bit k ?_ ?_ (fun j hj => ?_)
          · rw [vx.2.1 k (Nat.le_refl k)]; exact hs k (by omega)
          · rw [vy.2.1 k (Nat.le_refl k), set_or, decide_eq_true rfl]; simp
          · rw [vx.2.1 j (by omega), vy.2.1 j (by omega), set_or, decide_eq_false (by omega : ¬ j = k)]; simp
end
