/-! Polygons: the whole one (corners 0 .. m-1) and its two pieces at an edge i, j. -/
def sQ (i j p : Nat) : Bool := decide (i ≤ p ∧ p ≤ j)
def nQ (i j p : Nat) : Nat := if p = j then i else p + 1
def vQ (i j p : Nat) : Nat := if p = i then j else p - 1
def sR (m i j p : Nat) : Bool := decide (p < m ∧ (p ≤ i ∨ j ≤ p))
def nR (m i j p : Nat) : Nat := if p = i then j else if p = m - 1 then 0 else p + 1
def vRg (m i j p : Nat) : Nat := if p = j then i else if p = 0 then m - 1 else p - 1
theorem tel_Q (F : Nat → Bool) {i j : Nat} (hij : i < j) : ∀ n, xorR (fun p => sQ i j p && (F p ^^ F (nQ i j p))) n = cond (decide (i < n ∧ n ≤ j)) (F i ^^ F n) false
  | 0 => by rw [decide_eq_false (by omega)]; rfl
  | n + 1 => by
    show (xorR (fun p => sQ i j p && (F p ^^ F (nQ i j p))) n ^^ (sQ i j n && (F n ^^ F (nQ i j n)))) = _
    rw [tel_Q F hij n]
    unfold sQ nQ
    by_cases c1 : n < i
    · rw [decide_eq_false (by omega), decide_eq_false (by omega), decide_eq_false (by omega)]; rfl
    · by_cases c2 : n = i
      · subst c2
        rw [decide_eq_false (by omega), decide_eq_true (by omega), decide_eq_true (by omega), if_neg (by omega)]
        cases F n <;> cases F (n + 1) <;> rfl
      · by_cases c3 : n < j
        · rw [decide_eq_true (by omega), decide_eq_true (by omega), decide_eq_true (by omega), if_neg (by omega)]
          show ((F i ^^ F n) ^^ (F n ^^ F (n + 1))) = (F i ^^ F (n + 1))
          cases F i <;> cases F n <;> cases F (n + 1) <;> rfl
        · by_cases c4 : n = j
          · subst c4
            rw [decide_eq_true (by omega), decide_eq_true (by omega), decide_eq_false (by omega), if_pos rfl]
            show ((F i ^^ F n) ^^ (F n ^^ F i)) = false
            cases F i <;> cases F n <;> rfl
          · rw [decide_eq_false (by omega), decide_eq_false (by omega), decide_eq_false (by omega)]; rfl
theorem tel_q (F : Nat → Bool) {i j m : Nat} (hij : i < j) (hj : j < m) : pgS (sQ i j) (nQ i j) m (fun p q => F p ^^ F q) = false := by
  unfold pgS
  rw [tel_Q F hij m, decide_eq_false (by omega)]; rfl
theorem spl_QR {i j m : Nat} (hij : i + 2 ≤ j) (hj : j < m) {h : Nat → Nat → Bool} (hs : h i j = h j i) : pgS (sQ 0 (m - 1)) (nQ 0 (m - 1)) m h = (pgS (sQ i j) (nQ i j) m h ^^ pgS (sR m i j) (nR m i j) m h) := by
  unfold pgS
  rw [← xorR_xor]
  have e : xorR (fun p => sQ i j p && h p (nQ i j p) ^^ sR m i j p && h p (nR m i j p)) m = xorR (fun p => (sQ 0 (m - 1) p && h p (nQ 0 (m - 1) p)) ^^ ((p == i && h i j) ^^ (p == j && h j i))) m := by
    refine xorR_eq m (fun p hp => ?_)
    unfold sQ nQ sR nR
    rw [decide_eq_true (by omega : 0 ≤ p ∧ p ≤ m - 1)]
    by_cases c2 : p = i
    · subst c2
      rw [decide_eq_true (by omega), decide_eq_true (by omega), if_neg (by omega), if_pos rfl, if_neg (by omega), beq_self_eq_true, beq_eq_false_iff_ne.mpr (by omega)]
      cases h p (p + 1) <;> cases h p j <;> cases h j p <;> rfl
    · by_cases c4 : p = j
      · subst c4
        rw [decide_eq_true (by omega), decide_eq_true (by omega), if_pos rfl, if_neg (by omega), beq_self_eq_true, beq_eq_false_iff_ne.mpr (by omega)]
        cases h p i <;> cases h p (if p = m - 1 then 0 else p + 1) <;> cases h i p <;> rfl
      · rw [beq_eq_false_iff_ne.mpr c2, beq_eq_false_iff_ne.mpr c4, if_neg c2, if_neg c4]
        by_cases c1 : i < p ∧ p < j
        · rw [decide_eq_true (by omega), decide_eq_false (by omega), if_neg (by omega : ¬ p = m - 1)]
          cases h p (p + 1) <;> rfl
        · rw [decide_eq_false (by omega), decide_eq_true (by omega)]
          cases h p (if p = m - 1 then 0 else p + 1) <;> rfl
  rw [e, xorR_xor, xorR_xor, xorR_1 (f := fun p => p == i && h i j) (a := i) m (by omega) (fun p _ n => by rw [beq_eq_false_iff_ne.mpr n]; rfl), xorR_1 (f := fun p => p == j && h j i) (a := j) m (by omega) (fun p _ n => by rw [beq_eq_false_iff_ne.mpr n]; rfl), beq_self_eq_true, beq_self_eq_true, hs]
  cases h j i <;> cases xorR (fun p => sQ 0 (m - 1) p && h p (nQ 0 (m - 1) p)) m <;> rfl
/-- corners 0 .. m-1 are those of a polygon; m is a point far away -/
def Plg (P : Nat → Prop) (o : Nat → Nat → Nat → Bool) (m : Nat) : Prop := CC P o ∧ (∀ p, p ≤ m → P p) ∧ 3 ≤ m ∧ ∀ p q, p < m → q < m → crs o p (nQ 0 (m - 1) p) q (nQ 0 (m - 1) q) = false
section
variable {P : Nat → Prop} {o : Nat → Nat → Nat → Bool} {m : Nat}
theorem nQ_lt {p : Nat} (hm : 3 ≤ m) (hp : p < m) : nQ 0 (m - 1) p < m := by unfold nQ; split <;> omega
theorem pg_1Q {i j p : Nat} (hij : i + 2 ≤ j) (hj : j < m) (hp : sQ i j p = true) : p < m ∧ sQ i j (nQ i j p) = true ∧ sQ i j (vQ i j p) = true ∧ nQ i j (vQ i j p) = p ∧ vQ i j (nQ i j p) = p ∧ nQ i j p ≠ p ∧ nQ i j p ≠ vQ i j p := by
  have h := of_decide_eq_true hp
  unfold sQ
  refine ⟨by omega, decide_eq_true ?_, decide_eq_true ?_, ?_, ?_, ?_, ?_⟩
  · unfold nQ; split <;> omega
  · unfold vQ; split <;> omega
  · unfold nQ vQ
    by_cases z : p = i
    · rw [if_pos z, if_pos rfl, z]
    · rw [if_neg z, if_neg (by omega)]; omega
  · unfold nQ vQ
    by_cases z : p = j
    · rw [if_pos z, if_pos rfl, z]
    · rw [if_neg z, if_neg (by omega)]; omega
  · unfold nQ; split <;> omega
  · unfold nQ vQ
    by_cases z : p = j
    · rw [if_pos z, if_neg (by omega)]; omega
    · rw [if_neg z]; split <;> omega
theorem pg_1R {i j p : Nat} (hij : i + 2 ≤ j) (hj : j < m) (hn : ¬ (i = 0 ∧ j = m - 1)) (hp : sR m i j p = true) : p < m ∧ sR m i j (nR m i j p) = true ∧ sR m i j (vRg m i j p) = true ∧ nR m i j (vRg m i j p) = p ∧ vRg m i j (nR m i j p) = p ∧ nR m i j p ≠ p ∧ nR m i j p ≠ vRg m i j p := by
  have h := of_decide_eq_true hp
  unfold sR
  refine ⟨by omega, decide_eq_true ?_, decide_eq_true ?_, ?_, ?_, ?_, ?_⟩
  · unfold nR; split
    · omega
    · split <;> omega
  · unfold vRg; split
    · omega
    · split <;> omega
  · unfold nR vRg
    by_cases z : p = j
    · rw [if_pos z, if_pos rfl, z]
    · rw [if_neg z]
      by_cases y : p = 0
      · rw [if_pos y, if_neg (by omega), if_pos rfl, y]
      · rw [if_neg y, if_neg (by omega), if_neg (by omega)]; omega
  · unfold nR vRg
    by_cases z : p = i
    · rw [if_pos z, if_pos rfl, z]
    · rw [if_neg z]
      by_cases y : p = m - 1
      · rw [if_pos y, if_neg (by omega), if_pos rfl, y]
      · rw [if_neg y, if_neg (by omega), if_neg (by omega)]; omega
  · unfold nR; split
    · omega
    · split <;> omega
  · unfold nR vRg
    by_cases z : p = i
    · rw [if_pos z, if_neg (by omega)]; split <;> omega
    · rw [if_neg z]
      by_cases y : p = m - 1
      · rw [if_pos y]
        by_cases w : p = j
        · rw [if_pos w]; omega
        · rw [if_neg w, if_neg (by omega)]; omega
      · rw [if_neg y]
        by_cases w : p = j
        · rw [if_pos w]; omega
        · rw [if_neg w]; split <;> omega
theorem pg_P (h : Plg P o m) : PG o m (sQ 0 (m - 1)) (nQ 0 (m - 1)) (vQ 0 (m - 1)) := by
  obtain ⟨C, hP, h3, hS⟩ := h
  refine ⟨fun p hp => pg_1Q (by omega) (by omega) hp, fun F => tel_q F (by omega) (by omega), fun p q hp hq => ?_, 0, decide_eq_true (by omega), fun Z z0 zs q hq => ?_⟩
  · have := of_decide_eq_true hp
    have := of_decide_eq_true hq
    exact hS p q (by omega) (by omega)
  · have hq' := of_decide_eq_true hq
    have lp : ∀ t, t ≤ m - 1 → Z t := fun t => by
      induction t with
      | zero => intro _; exact z0
      | succ t ih =>
        intro ht
        have := zs t (decide_eq_true (by omega)) (ih (by omega))
        unfold nQ at this
        rw [if_neg (by omega)] at this
        exact this
    exact lp q (by omega)
/-- i, j is an edge between corners that crosses no side -/
def Fre (o : Nat → Nat → Nat → Bool) (m i j : Nat) : Prop := ∀ p, p < m → crs o i j p (nQ 0 (m - 1) p) = false
theorem pg_Q (h : Plg P o m) {i j : Nat} (hij : i + 2 ≤ j) (hj : j < m) (hf : Fre o m i j) : PG o m (sQ i j) (nQ i j) (vQ i j) := by
  obtain ⟨C, hP, h3, hS⟩ := h
  refine ⟨fun p hp => pg_1Q hij hj hp, fun F => tel_q F (by omega) (by omega), fun p q hp hq => ?_, i, decide_eq_true (by omega), fun Z z0 zs q hq => ?_⟩
  · have kp := of_decide_eq_true hp
    have kq := of_decide_eq_true hq
    have e : ∀ t, t < j → nQ i j t = nQ 0 (m - 1) t := fun t ht => by unfold nQ; rw [if_neg (by omega), if_neg (by omega)]
    have ej : nQ i j j = i := by unfold nQ; rw [if_pos rfl]
    by_cases c1 : p = j
    · by_cases c2 : q = j
      · rw [c1, c2]; exact crs_self _ _
      · rw [c1, ej, e q (by omega), crs_l C (hP i (by omega)) (hP j (by omega)) (hP q (by omega)) (hP _ (by have := nQ_lt (p := q) h3 (by omega); omega)) (by omega)]
        exact hf q (by omega)
    · by_cases c2 : q = j
      · rw [c2, ej, e p (by omega), crs_sw, crs_l C (hP i (by omega)) (hP j (by omega)) (hP p (by omega)) (hP _ (by have := nQ_lt (p := p) h3 (by omega); omega)) (by omega)]
        exact hf p (by omega)
      · rw [e p (by omega), e q (by omega)]
        exact hS p q (by omega) (by omega)
  · have hq' := of_decide_eq_true hq
    have lp : ∀ t, i + t ≤ j → Z (i + t) := fun t => by
      induction t with
      | zero => intro _; exact z0
      | succ t ih =>
        intro ht
        have := zs (i + t) (decide_eq_true (by omega)) (ih (by omega))
        unfold nQ at this
        rw [if_neg (by omega)] at this
        exact this
    have := lp (q - i) (by omega)
    rw [show i + (q - i) = q from by omega] at this
    exact this
theorem pg_R (h : Plg P o m) {i j : Nat} (hij : i + 2 ≤ j) (hj : j < m) (hn : ¬ (i = 0 ∧ j = m - 1)) (hf : Fre o m i j) : PG o m (sR m i j) (nR m i j) (vRg m i j) := by
  have hPq := pg_Q h hij hj hf
  obtain ⟨C, hP, h3, hS⟩ := h
  refine ⟨fun p hp => pg_1R hij hj hn hp, fun F => ?_, fun p q hp hq => ?_, j, decide_eq_true (by omega), fun Z z0 zs q hq => ?_⟩
  · have e := spl_QR (m := m) hij hj (h := fun p q => F p ^^ F q) (Bool.xor_comm _ _)
    rw [tel_q F (by omega) (by omega), tel_q F (by omega) hj, Bool.false_xor] at e
    exact e.symm
  · have kp := of_decide_eq_true hp
    have kq := of_decide_eq_true hq
    have e : ∀ t, t ≠ i → nR m i j t = nQ 0 (m - 1) t := fun t ht => by unfold nR nQ; rw [if_neg ht]
    have ei : nR m i j i = j := by unfold nR; rw [if_pos rfl]
    by_cases c1 : p = i
    · by_cases c2 : q = i
      · rw [c1, c2]; exact crs_self _ _
      · rw [c1, ei, e q c2]
        exact hf q (by omega)
    · by_cases c2 : q = i
      · rw [c2, ei, e p c1, crs_sw]
        exact hf p (by omega)
      · rw [e p c1, e q c2]
        exact hS p q (by omega) (by omega)
  · have hq' := of_decide_eq_true hq
    have l1 : ∀ t, j + t < m → Z (j + t) := fun t => by
      induction t with
      | zero => intro _; exact z0
      | succ t ih =>
        intro ht
        have := zs (j + t) (decide_eq_true (by omega)) (ih (by omega))
        unfold nR at this
        rw [if_neg (by omega), if_neg (by omega)] at this
        exact this
    have zm := l1 (m - 1 - j) (by omega)
    rw [show j + (m - 1 - j) = m - 1 from by omega] at zm
    have z00 : Z 0 := by
      have := zs (m - 1) (decide_eq_true (by omega)) zm
      unfold nR at this
      rw [if_neg (by omega), if_pos rfl] at this
      exact this
    have l2 : ∀ t, t ≤ i → Z t := fun t => by
      induction t with
      | zero => intro _; exact z00
      | succ t ih =>
        intro ht
        have := zs t (decide_eq_true (by omega)) (ih (by omega))
        unfold nR at this
        rw [if_neg (by omega), if_neg (by omega)] at this
        exact this
    by_cases c : q ≤ i
    · exact l2 q c
    · have := l1 (q - j) (by omega)
      rw [show j + (q - j) = q from by omega] at this
      exact this
end
