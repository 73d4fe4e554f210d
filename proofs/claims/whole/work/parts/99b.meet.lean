/-! The class's nets: searching, meeting. -/
theorem half_i : ∀ j, j < 11 → nI (2 ^ j) >>> ((1 : Int32) &&& 31) = nI (2 ^ j / 2) := by decide +kernel
theorem c_spot {g : zIJ} {t N K : Nat} {b : Int64} (ht : zC t = (101, 800)) (hN : N ≤ 800) (hK : K ≤ N) (hv : ∀ i, i < N → ((g.2 t i).toInt < b.toInt ↔ i < K)) : zev mX3_spotIn 0 [.ref t, .int (nI N), .long b] g = some (some (.int (nI K)), g) := by
  rw [uX3_spotIn_0]
  have run : ∀ (j s : Nat), j < 11 → s ≤ K → K < s + 2 ^ (j + 1) → s ≤ 2000 → zev mX3_spotIn 8 [.ref t, .int (nI N), .long b, .int (nI s), .int (nI (2 ^ j))] g = some (some (.int (nI K)), g) := by
    intro j
    induction j with
    | zero =>
      intro s _ h1 h2 _
      have fin : ∀ s2, s2 = K → zev mX3_spotIn 8 [.ref t, .int (nI N), .long b, .int (nI s2), .int (nI (2 ^ 0 / 2))] g = some (some (.int (nI K)), g) := by
        intro s2 e
        subst e
        rw [uX3_spotIn_8]; rfl
      rw [uX3_spotIn_8, decide_eq_false (nI_nle (by omega) (by omega)), nI_add, half_i 0 (by omega)]
      by_cases q : N < s + 2 ^ 0
      · rw [decide_eq_true (nI_lt q (by omega))]
        exact fin s (by omega)
      · rw [decide_eq_false (nI_nlt (by omega) (by omega)), show nI (s + 2 ^ 0) - 1 = nI s from nI_pred s, ht]
        show cond (Nat.beq 101 101 && zin (nI s) 800) _ none = _
        rw [zin_n (by omega) (by omega), nI_clamp (by omega), cmp_ge]
        by_cases q2 : s < K
        · have := (hv s (by omega)).mpr q2
          rw [decide_eq_false (by omega : ¬ b.toInt ≤ (g.2 t s).toInt)]
          exact fin (s + 2 ^ 0) (by omega)
        · have : ¬ (g.2 t s).toInt < b.toInt := fun k => q2 ((hv s (by omega)).mp k)
          rw [decide_eq_true (by omega : b.toInt ≤ (g.2 t s).toInt)]
          exact fin s (by omega)
    | succ j ih =>
      intro s hj h1 h2 h3
      have p : 2 ^ (j + 1) = 2 * 2 ^ j := by rw [Nat.pow_succ]; omega
      have p2 : 2 ^ (j + 1 + 1) = 2 * 2 ^ (j + 1) := by rw [Nat.pow_succ]; omega
      have pos : 0 < 2 ^ j := Nat.two_pow_pos j
      have top : 2 ^ (j + 1) ≤ 2 ^ 10 := Nat.pow_le_pow_right (by omega) (by omega)
      have hlf : 2 ^ (j + 1) / 2 = 2 ^ j := by omega
      rw [uX3_spotIn_8, decide_eq_false (nI_nle (by omega) (by omega)), nI_add, half_i (j + 1) hj, hlf]
      by_cases q : N < s + 2 ^ (j + 1)
      · rw [decide_eq_true (nI_lt q (by omega))]
        exact ih s (by omega) h1 (by omega) h3
      · obtain ⟨d, hd⟩ : ∃ d, s + 2 ^ (j + 1) = d + 1 := ⟨s + 2 ^ (j + 1) - 1, by omega⟩
        rw [decide_eq_false (nI_nlt (by omega) (by omega)), hd, nI_pred d, ht]
        show cond (Nat.beq 101 101 && zin (nI d) 800) _ none = _
        rw [zin_n (by omega) (by omega), nI_clamp (by omega), cmp_ge]
        by_cases q2 : d < K
        · have := (hv d (by omega)).mpr q2
          rw [decide_eq_false (by omega : ¬ b.toInt ≤ (g.2 t d).toInt)]
          exact ih (d + 1) (by omega) (by omega) (by omega) (by omega)
        · have : ¬ (g.2 t d).toInt < b.toInt := fun k => q2 ((hv d (by omega)).mp k)
          rw [decide_eq_true (by omega : b.toInt ≤ (g.2 t d).toInt)]
          exact ih s (by omega) h1 (by omega) h3
  have := run 10 0 (by omega) (by omega) (by omega) (by omega)
  exact this
/-- where a number stands in a rising row -/
theorem sp_ex : ∀ (L : List Nat) (x : Nat), L.Pairwise (fun a b => a < b) → ∃ K, K ≤ L.length ∧ ∀ i (h : i < L.length), (L[i] < x ↔ i < K)
  | [], x, _ => ⟨0, Nat.le_refl _, fun i h => by simp at h⟩
  | a :: L, x, hp => by
    obtain ⟨h1, h2⟩ := List.pairwise_cons.mp hp
    by_cases q : a < x
    · obtain ⟨K, k1, k2⟩ := sp_ex L x h2
      refine ⟨K + 1, by rw [List.length_cons]; omega, fun i h => ?_⟩
      cases i with
      | zero => exact ⟨fun _ => by omega, fun _ => q⟩
      | succ i =>
        have := k2 i (by simpa using h)
        simp only [List.getElem_cons_succ]
        rw [this]
        omega
    · refine ⟨0, Nat.zero_le _, fun i h => ⟨fun k => ?_, fun k => by omega⟩⟩
      exfalso
      cases i with
      | zero => exact q k
      | succ i =>
        have h3 : i < L.length := by simpa using h
        have := h1 L[i] (List.getElem_mem h3)
        simp only [List.getElem_cons_succ] at k
        omega
/-- the class's list: L rising, W as they were met -/
def NW (g : zIJ) (L W : List Nat) : Prop := g.1 219 2 = nI L.length ∧ L.length ≤ 800 ∧ (∀ i (h : i < L.length), g.2 220 i = lN L[i]) ∧ L.Pairwise (fun a b => a < b) ∧ (∀ x, x ∈ L → x < 2 ^ 36) ∧ W.length = L.length ∧ (∀ i (h : i < W.length), g.2 221 i = lN W[i]) ∧ ∀ x, x ∈ W ↔ x ∈ L
def tNw (k j : Nat) : Bool := Nat.beq k 220 || (Nat.beq k 221 || (Nat.beq k 219 && Nat.beq j 2))
theorem cpL_row (g : zIJ) (a sp d dp n j : Nat) : (zcpL g a sp d dp n).2 d j = if dp ≤ j ∧ j < dp + n then g.2 a (sp + (j - dp)) else g.2 d j := by
  unfold zcpL
  show zrow g.2 d (va_cpy (g.2 a) (g.2 d) sp dp n) d j = _
  rw [zrow_self]
  rfl
theorem cpL_oth (g : zIJ) (a sp d dp n : Nat) {k : Nat} (h : k ≠ d) : (zcpL g a sp d dp n).2 k = g.2 k := by
  unfold zcpL
  show zrow g.2 d (va_cpy (g.2 a) (g.2 d) sp dp n) k = _
  exact zrow_other h
theorem fr_cpL {t : Nat → Nat → Bool} (g : zIJ) (a sp d dp n : Nat) (h : ∀ j, t d j = true) : zFr t g (zcpL g a sp d dp n) := by
  intro k j q
  refine ⟨rfl, ?_⟩
  by_cases e : k = d
  · rw [e, h j] at q; cases q
  · rw [cpL_oth g a sp d dp n e]
theorem nI_sub {a b : Nat} (h : b ≤ a) : nI a - nI b = nI (a - b) := by
  have e : ((a - b : Nat) : Int) = (a : Int) - (b : Int) := by omega
  rw [nI_cI, nI_cI, nI_cI, cI_sub, e]
/-- with x at its place -/
def insK (L : List Nat) (K x : Nat) : List Nat := L.take K ++ x :: L.drop K
theorem insK_len {L : List Nat} {K : Nat} (h : K ≤ L.length) (x : Nat) : (insK L K x).length = L.length + 1 := by
  unfold insK
  rw [List.length_append, List.length_cons, List.length_take, List.length_drop]
  omega
theorem app_get (x : Nat) (D : List Nat) : ∀ (A : List Nat) (i : Nat), (A ++ x :: D)[i]? = if i < A.length then A[i]? else if i = A.length then some x else D[i - A.length - 1]?
  | [], 0 => rfl
  | [], i + 1 => by simp
  | a :: A, 0 => by simp
  | a :: A, i + 1 => by
    have := app_get x D A i
    simp only [List.cons_append, List.getElem?_cons_succ, List.length_cons]
    rw [this]
    by_cases q : i < A.length
    · have q' : i + 1 < A.length + 1 := by omega
      rw [if_pos q, if_pos q']
    · have q' : ¬ i + 1 < A.length + 1 := by omega
      rw [if_neg q, if_neg q']
      by_cases q2 : i = A.length
      · have q3 : i + 1 = A.length + 1 := by omega
        rw [if_pos q2, if_pos q3]
      · have q3 : ¬ i + 1 = A.length + 1 := by omega
        rw [if_neg q2, if_neg q3, show i + 1 - (A.length + 1) - 1 = i - A.length - 1 from by omega]
theorem insK_get {L : List Nat} {K : Nat} (h : K ≤ L.length) (x i : Nat) : (insK L K x)[i]? = if i < K then L[i]? else if i = K then some x else L[i - 1]? := by
  unfold insK
  have e1 : (L.take K).length = K := by rw [List.length_take]; omega
  rw [app_get, e1]
  by_cases q : i < K
  · rw [if_pos q, if_pos q, List.getElem?_take_of_lt q]
  · rw [if_neg q, if_neg q]
    by_cases q2 : i = K
    · rw [if_pos q2, if_pos q2]
    · rw [if_neg q2, if_neg q2, List.getElem?_drop, show K + (i - K - 1) = i - 1 from by omega]
theorem insK_mem {L : List Nat} {K x y : Nat} : y ∈ insK L K x ↔ y = x ∨ y ∈ L := by
  unfold insK
  rw [List.mem_append, List.mem_cons]
  constructor
  · intro h
    rcases h with h | h | h
    · exact Or.inr (List.mem_of_mem_take h)
    · exact Or.inl h
    · exact Or.inr (List.mem_of_mem_drop h)
  · intro h
    rcases h with h | h
    · exact Or.inr (Or.inl h)
    · rw [← List.take_append_drop K L, List.mem_append] at h
      rcases h with h | h
      · exact Or.inl h
      · exact Or.inr (Or.inr h)
theorem insK_sorted {L : List Nat} {K x : Nat} (hL : L.Pairwise (fun a b => a < b)) (hK : K ≤ L.length) (hk : ∀ i (h : i < L.length), (L[i] < x ↔ i < K)) (hx : x ∉ L) : (insK L K x).Pairwise (fun a b => a < b) := by
  unfold insK
  have h0 := hL
  rw [← List.take_append_drop K L, List.pairwise_append] at h0
  have lo : ∀ a, a ∈ L.take K → a < x := by
    intro a ha
    obtain ⟨i, hi, e⟩ := List.getElem_of_mem ha
    rw [List.length_take] at hi
    rw [List.getElem_take] at e
    have := (hk i (by omega)).mpr (by omega)
    rw [e] at this
    exact this
  have hi : ∀ a, a ∈ L.drop K → x < a := by
    intro a ha
    have ne : a ≠ x := fun e => hx (e ▸ List.mem_of_mem_drop ha)
    obtain ⟨i, hi, e⟩ := List.getElem_of_mem ha
    rw [List.length_drop] at hi
    rw [List.getElem_drop] at e
    have : ¬ L[K + i]'(by omega) < x := fun q => by have := (hk (K + i) (by omega)).mp q; omega
    rw [e] at this
    omega
  refine List.pairwise_append.mpr ⟨h0.1, List.pairwise_cons.mpr ⟨hi, h0.2.1⟩, fun a ha b hb => ?_⟩
  rcases List.mem_cons.mp hb with e | e
  · rw [e]; exact lo a ha
  · exact h0.2.2 a ha b e
theorem c_meet {g : zIJ} {L W : List Nat} {x : Nat} (h : NW g L W) (hx : x < 2 ^ 36) (hroom : x ∉ L → L.length < 800) : ∃ g' L' W', zev mX3_meet 0 [.ref 219, .long (lN x)] g = some (none, g') ∧ zFr tNw g g' ∧ NW g' L' W' ∧ (∀ y, y ∈ L' ↔ y = x ∨ y ∈ L) ∧ (∀ i (h : i < W.length), ∃ h' : i < W'.length, W'[i] = W[i]) := by
  obtain ⟨h1, h2, h3, h4, h5, h6, h7, h8⟩ := h
  obtain ⟨K, k1, k2⟩ := sp_ex L x h4
  have hv : ∀ i, i < L.length → ((g.2 220 i).toInt < (lN x).toInt ↔ i < K) := by
    intro i hi
    have xi := h5 L[i] (List.getElem_mem hi)
    rw [h3 i hi, lN_toI (by omega), lN_toI (by omega), ← k2 i hi]
    omega
  have sp := c_spot (g := g) (t := 220) (b := lN x) rfl h2 k1 hv
  rw [uX3_meet_0, h1, sp, zaI_some, h1]
  by_cases hm : x ∈ L
  · -- known
    obtain ⟨i, hi, e⟩ := List.getElem_of_mem hm
    have iK : i = K := by
      have q1 : ¬ i < K := fun q => by have := (k2 i hi).mpr q; omega
      by_cases q2 : i = K
      · exact q2
      · exfalso
        have hK : K < L.length := by omega
        have q3 : ¬ L[K] < x := fun q => by have := (k2 K hK).mp q; omega
        have := List.pairwise_iff_getElem.mp h4 K i hK hi (by omega)
        omega
    subst iK
    rw [decide_eq_false (nI_ge hi (by omega)), zin_n (by omega) (by omega), nI_clamp (by omega), cmp_eq, h3 i hi, e, decide_eq_true rfl]
    exact ⟨g, L, W, rfl, fr_refl _ g, ⟨h1, h2, h3, h4, h5, h6, h7, h8⟩, fun y => ⟨fun q => Or.inr q, fun q => by
      rcases q with q | q
      · rw [q]; exact hm
      · exact q⟩, fun i hi => ⟨hi, rfl⟩⟩
  · have room := hroom hm
    -- both ways lead to 36
    have to36 : cond (decide (nI L.length ≤ nI K)) (zev mX3_meet 36 [.ref 219, .long (lN x), .int (nI K)] g) (cond (zin (nI K) 800) (cond (!decide (lg_cmp (g.2 220 (nI K).toNatClampNeg) (lN x) = 0)) (zev mX3_meet 36 [.ref 219, .long (lN x), .int (nI K)] g) (some (none, g))) none) = zev mX3_meet 36 [.ref 219, .long (lN x), .int (nI K)] g := by
      by_cases q : K < L.length
      · have xi := h5 L[K] (List.getElem_mem q)
        rw [decide_eq_false (nI_ge q (by omega)), zin_n (by omega) (by omega), nI_clamp (by omega), cmp_eq, h3 K q, decide_eq_false (fun k => hm (by
          have := (lN_inj (by omega) (by omega)).mp k
          rw [← this]; exact List.getElem_mem q))]
        rfl
      · rw [decide_eq_true (nI_le (by omega) (by omega))]; rfl
    have ev : zev mX3_meet 36 [.ref 219, .long (lN x), .int (nI K)] g = some (none, zsI (zsL (zsL (zcpL g 220 K 220 (K + 1) (L.length - K)) 220 K (lN x)) 221 L.length (lN x)) 219 2 (nI (L.length + 1))) := by
      rw [uX3_meet_36, h1, decide_eq_true (show nI L.length < (800 : Int32) from nI_lt (a := L.length) (b := 800) room (by omega)), nI_1, nI_sub k1]
      have cg : zcpG 800 800 (nI K) (nI (K + 1)) (nI (L.length - K)) = true := by
        refine decide_eq_true ?_
        rw [nI_toInt (by omega), nI_toInt (by omega), nI_toInt (by omega)]
        omega
      rw [cg, zin_n (by omega : K < 800) (by omega), nI_clamp (by omega : K < 2 ^ 31), nI_clamp (by omega : K + 1 < 2 ^ 31), nI_clamp (by omega : L.length - K < 2 ^ 31)]
      have r1 : (zsL (zcpL g 220 K 220 (K + 1) (L.length - K)) 220 K (lN x)).1 219 2 = nI L.length := h1
      have r2 : (zsL (zsL (zcpL g 220 K 220 (K + 1) (L.length - K)) 220 K (lN x)) 221 L.length (lN x)).1 219 2 = nI L.length := h1
      rw [r1, zin_n (by omega : L.length < 800) (by omega), nI_clamp (by omega : L.length < 2 ^ 31), r2, nI_1]
      rfl
    have il := insK_len k1 x
    refine ⟨zsI (zsL (zsL (zcpL g 220 K 220 (K + 1) (L.length - K)) 220 K (lN x)) 221 L.length (lN x)) 219 2 (nI (L.length + 1)), insK L K x, W ++ [x], ?_, fr_tr (fr_tr (fr_tr (fr_cpL g 220 K 220 (K + 1) (L.length - K) (fun j => rfl)) (fr_L _ _ rfl)) (fr_L _ _ rfl)) (fr_I _ _ rfl), ⟨?_, by omega, fun i hi => ?_, insK_sorted h4 k1 k2 hm, fun y hy => ?_, ?_, fun i hi => ?_, fun y => ?_⟩, fun y => insK_mem, fun i hi => ?_⟩
    · refine Eq.trans ?_ ev
      refine Eq.trans ?_ to36
      rfl
    · rw [zI_same, il]
    · show (zsL (zsL (zcpL g 220 K 220 (K + 1) (L.length - K)) 220 K (lN x)) 221 L.length (lN x)).2 220 i = _
      have eg := List.getElem?_eq_getElem hi
      rw [insK_get k1] at eg
      rw [zL_row _ _ (by decide : (220 : Nat) ≠ 221)]
      by_cases q2 : i = K
      · rw [if_neg (by omega), if_pos q2] at eg
        have eg := Option.some.inj eg
        rw [← eg, q2, zL_same]
      · rw [zL_col _ _ q2, cpL_row]
        by_cases q : i < K
        · rw [if_pos q, List.getElem?_eq_getElem (by omega : i < L.length)] at eg
          have eg := Option.some.inj eg
          rw [if_neg (by omega), h3 i (by omega), eg]
        · rw [if_neg q, if_neg q2, List.getElem?_eq_getElem (by omega : i - 1 < L.length)] at eg
          have eg := Option.some.inj eg
          rw [if_pos (by omega), show K + (i - (K + 1)) = i - 1 from by omega, h3 (i - 1) (by omega), eg]
    · rcases insK_mem.mp hy with e | e
      · rw [e]; exact hx
      · exact h5 y e
    · rw [List.length_append, h6, il]; rfl
    · show (zsL (zsL (zcpL g 220 K 220 (K + 1) (L.length - K)) 220 K (lN x)) 221 L.length (lN x)).2 221 i = _
      rw [List.length_append, h6] at hi
      have hi : i < L.length + 1 := hi
      by_cases q : i = L.length
      · subst q
        rw [zL_same]
        congr 1
        rw [List.getElem_append_right (by omega)]
        simp [h6]
      · rw [zL_col _ _ q, zL_row _ _ (by decide : (221 : Nat) ≠ 220), cpL_oth _ _ _ _ _ _ (by decide : (221 : Nat) ≠ 220), h7 i (by omega)]
        congr 1
        rw [List.getElem_append_left (by omega)]
    · rw [List.mem_append, insK_mem, h8]
      constructor
      · intro q
        rcases q with q | q
        · exact Or.inr q
        · exact Or.inl (List.mem_singleton.mp q)
      · intro q
        rcases q with q | q
        · exact Or.inr (List.mem_singleton.mpr q)
        · exact Or.inl q
    · exact ⟨by rw [List.length_append]; omega, List.getElem_append_left hi⟩
