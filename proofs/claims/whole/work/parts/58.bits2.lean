/-! The machine counts in every world what Gcnt counts there. -/
theorem prv_lt' {f : Nat → Bool} (h0 : f 0 = true) : ∀ c, 0 < c → prv f c < c
  | 0, h => by omega
  | c + 1, _ => by
    unfold prv
    cases hc : f c with
    | true => exact Nat.lt_succ_self c
    | false =>
      have c0 : 0 < c := by
        cases c with
        | zero => rw [h0] at hc; cases hc
        | succ d => omega
      have := prv_lt' h0 c c0
      show prv f c < c + 1
      omega
theorem nxtA_in {f : Nat → Bool} {b : Nat} (hb : f b = true) : ∀ k i, i ≤ b → b < i + k → i ≤ nxtA f k i ∧ nxtA f k i ≤ b
  | 0, i, h, h2 => by omega
  | k + 1, i, h, h2 => by
    unfold nxtA
    cases hi : f i with
    | true => exact ⟨Nat.le_refl _, h⟩
    | false =>
      have : i ≠ b := fun e => by rw [e, hb] at hi; cases hi
      have := nxtA_in hb k (i + 1) (by omega) (by omega)
      show i ≤ nxtA f k (i + 1) ∧ nxtA f k (i + 1) ≤ b
      omega
theorem nxt_gt {f : Nat → Bool} {m c : Nat} (hm : f (m - 1) = true) (h : c < m - 1) : c < nxt f m c ∧ nxt f m c < m := by
  have := nxtA_in hm (m - (c + 1)) (c + 1) (by omega) (by omega)
  unfold nxt
  omega
theorem fmk_0 (m x : Nat) : fmk m x 0 = true := by simp [fmk]
theorem fmk_m (m x : Nat) : fmk m x (m - 1) = true := by simp [fmk]
theorem fmk_fl {m x i : Nat} (hi : i < m - 2) : fup (fmk m x) (i + 1) (!fmk m x (i + 1)) = fmk m (x ^^^ 2 ^ i) := by
  funext j
  by_cases e : j = i + 1
  · subst e
    rw [fup_s]
    unfold fmk
    rw [nbeq_f (by omega), nbeq_f (by omega : i + 1 ≠ m - 1), nblt_t (by omega : i + 1 < m - 1)]
    simp [Nat.testBit_xor, Nat.testBit_two_pow_self]
  · rw [fup_o e]
    unfold fmk
    by_cases e0 : j = 0
    · subst e0; simp
    · have : (x ^^^ 2 ^ i).testBit (j - 1) = x.testBit (j - 1) := by
        rw [Nat.testBit_xor, Nat.testBit_two_pow_of_ne (by omega)]
        simp
      rw [this]
theorem sumR_add (h k : Nat → Nat) : ∀ n, sumR (fun i => h i + k i) n = sumR h n + sumR k n
  | 0 => rfl
  | n + 1 => by
    unfold sumR
    rw [sumR_add h k n]
    omega
theorem sumR_eq {h k : Nat → Nat} : ∀ n, (∀ i, i < n → h i = k i) → sumR h n = sumR k n
  | 0, _ => rfl
  | n + 1, hh => by
    unfold sumR
    rw [sumR_eq n (fun i hi => hh i (by omega)), hh n (by omega)]
theorem nth_map {α β : Type} (F : α → β) (d : β) (d2 : α) : ∀ (l : List α) (i : Nat), i < l.length → nth (l.map F) d i = F (nth l d2 i)
  | [], i, h => by simp at h
  | a :: l, 0, h => rfl
  | a :: l, i + 1, h => by
    have := nth_map F d d2 l i (by simpa using h)
    exact this
theorem nth_get (d : Nat) : ∀ (l : List Nat) (i : Nat) (h : i < l.length), nth l d i = l[i]
  | [], i, h => by simp at h
  | a :: l, 0, h => rfl
  | a :: l, i + 1, h => by
    have := nth_get d l i (by simpa using h)
    exact this
theorem nth_range {β : Type} (F : Nat → β) (d : β) (n i : Nat) (h : i < n) : nth ((List.range n).map F) d i = F i := by
  rw [nth_map F d 0 (List.range n) i (by simpa using h), nth_get 0 (List.range n) i (by simpa using h)]
  simp
section
variable {V : Nat → Nat → Nat → Nat} {ones m w : Nat} {o : Nat → Nat → Nat → Bool}
theorem vAll_at (h1 : ones.testBit w = true) (h : Nat → Nat) : ∀ n, (vAll ones h n).testBit w = (List.range n).all (fun i => (h i).testBit w)
  | 0 => by simp [vAll, h1]
  | n + 1 => by
    unfold vAll
    rw [Nat.testBit_and, vAll_at h1 h n, List.range_succ, List.all_append]
    simp
theorem all_eq {p q : Nat → Bool} : ∀ l : List Nat, (∀ i, i ∈ l → p i = q i) → l.all p = l.all q
  | [], _ => rfl
  | a :: l, h => by
    rw [List.all_cons, List.all_cons, h a List.mem_cons_self, all_eq l (fun i hi => h i (List.mem_cons_of_mem _ hi))]
/-- V tells o in world w -/
def VW (V : Nat → Nat → Nat → Nat) (ones m w : Nat) (o : Nat → Nat → Nat → Bool) : Prop := ones.testBit w = true ∧ ∀ a c b, a < c → c < b → b < m → (V a c b).testBit w = o a c b
theorem blt_d (a b : Nat) : Nat.blt a b = decide (a < b) := by
  by_cases h : a < b
  · rw [nblt_t h, decide_eq_true h]
  · rw [nblt_f h, decide_eq_false h]
theorem vI_at (H : VW V ones m w o) {a c b : Nat} (h1 : a < c) (h2 : c < b) (h3 : b < m) : (vI V ones m a c b).testBit w = okI o m a c b := by
  unfold vI okI
  rw [Nat.testBit_and, vAll_at H.1, H.2 a c b h1 h2 h3]
  congr 1
  refine all_eq _ (fun d hd => ?_)
  have dm := List.mem_range.mp hd
  rw [blt_d, blt_d, blt_d, blt_d]
  by_cases e1 : a < d ∧ d < c
  · rw [decide_eq_true e1.1, decide_eq_true e1.2, decide_eq_false (by omega : ¬ c < d)]
    show ((ones ^^^ V a d b) ||| V a d c).testBit w = _
    rw [Nat.testBit_or, Nat.testBit_xor, H.1, H.2 a d b e1.1 (by omega) h3, H.2 a d c e1.1 e1.2 (by omega)]
    simp
  by_cases e2 : c < d ∧ d < b
  · rw [decide_eq_true e2.1, decide_eq_true e2.2, decide_eq_false (by omega : ¬ d < c)]
    rw [Bool.and_false]
    show ((ones ^^^ V a d b) ||| V c d b).testBit w = _
    rw [Nat.testBit_or, Nat.testBit_xor, H.1, H.2 a d b (by omega) e2.2 h3, H.2 c d b e2.1 e2.2 h3]
    simp
  have f1 : (decide (a < d) && decide (d < c)) = false := by
    rw [Bool.and_eq_false_iff]
    by_cases e : a < d
    · exact Or.inr (decide_eq_false (fun q => e1 ⟨e, q⟩))
    · exact Or.inl (decide_eq_false e)
  have f2 : (decide (c < d) && decide (d < b)) = false := by
    rw [Bool.and_eq_false_iff]
    by_cases e : c < d
    · exact Or.inr (decide_eq_false (fun q => e2 ⟨e, q⟩))
    · exact Or.inl (decide_eq_false e)
  rw [f1, f2]
  exact H.1
theorem vR_at (H : VW V ones m w o) {a c b : Nat} (h1 : a < c) (h2 : c < b) (h3 : b < m) : (vR V ones m a c b).testBit w = okR o m a c b := by
  unfold vR okR
  rw [Nat.testBit_and, vAll_at H.1, Nat.testBit_xor, H.1, H.2 a c b h1 h2 h3, Bool.true_xor]
  congr 1
  refine all_eq _ (fun d hd => ?_)
  have dm := List.mem_range.mp hd
  rw [blt_d, blt_d, blt_d, blt_d]
  by_cases e1 : a < d ∧ d < c
  · rw [decide_eq_true e1.1, decide_eq_true e1.2, decide_eq_false (by omega : ¬ c < d)]
    show ((ones ^^^ V a d c) ||| V a d b).testBit w = _
    rw [Nat.testBit_or, Nat.testBit_xor, H.1, H.2 a d b e1.1 (by omega) h3, H.2 a d c e1.1 e1.2 (by omega)]
    simp
  by_cases e2 : c < d ∧ d < b
  · rw [decide_eq_true e2.1, decide_eq_true e2.2, decide_eq_false (by omega : ¬ d < c)]
    rw [Bool.and_false]
    show ((ones ^^^ V c d b) ||| V a d b).testBit w = _
    rw [Nat.testBit_or, Nat.testBit_xor, H.1, H.2 a d b (by omega) e2.2 h3, H.2 c d b e2.1 e2.2 h3]
    simp
  have f1 : (decide (a < d) && decide (d < c)) = false := by
    rw [Bool.and_eq_false_iff]
    by_cases e : a < d
    · exact Or.inr (decide_eq_false (fun q => e1 ⟨e, q⟩))
    · exact Or.inl (decide_eq_false e)
  have f2 : (decide (c < d) && decide (d < b)) = false := by
    rw [Bool.and_eq_false_iff]
    by_cases e : c < d
    · exact Or.inr (decide_eq_false (fun q => e2 ⟨e, q⟩))
    · exact Or.inl (decide_eq_false e)
  rw [f1, f2]
  exact H.1
/-- the triple round i + 1 on the path x -/
theorem tri_in (x : Nat) {i : Nat} (hi : i < m - 2) : prv (fmk m x) (i + 1) < i + 1 ∧ i + 1 < nxt (fmk m x) m (i + 1) ∧ nxt (fmk m x) m (i + 1) < m := by
  have h1 := prv_lt' (fmk_0 m x) (i + 1) (by omega)
  have h2 := nxt_gt (fmk_m m x) (by omega : i + 1 < m - 1)
  exact ⟨h1, h2.1, h2.2⟩
theorem vTop_at (H : VW V ones m w o) (x : Nat) : (vTop V ones m (fmk m x)).testBit w = topC o m (fmk m x) := by
  unfold vTop topC
  rw [vAll_at H.1]
  refine all_eq _ (fun i hi => ?_)
  have him := List.mem_range.mp hi
  obtain ⟨t1, t2, t3⟩ := tri_in x him
  have e := H.2 _ _ _ t1 t2 t3
  cases fmk m x (i + 1) with
  | true => show (V _ _ _).testBit w = _; rw [e]; simp
  | false =>
    show (ones ^^^ V _ _ _).testBit w = _
    rw [Nat.testBit_xor, H.1, e]; simp
theorem vSt_at (H : VW V ones m w o) (x : Nat) : (vSt V ones m (fmk m x)).testBit w = stC o m (fmk m x) := by
  unfold vSt stC
  rw [vAll_at H.1]
  refine all_eq _ (fun i hi => ?_)
  have him := List.mem_range.mp hi
  obtain ⟨t1, t2, t3⟩ := tri_in x him
  have e := H.2 _ _ _ t1 t2 t3
  cases fmk m x (i + 1) with
  | true => show ones.testBit w = _; rw [H.1]; rfl
  | false => show (V _ _ _).testBit w = _; rw [e]; rfl
theorem vC_at (H : VW V ones m w o) (x : Nat) {i : Nat} (hi : i < m - 2) : (vC V ones m (fmk m x) (i + 1)).testBit w = okC o m (fmk m x) (i + 1) := by
  unfold vC okC
  obtain ⟨t1, t2, t3⟩ := tri_in x hi
  cases fmk m x (i + 1) with
  | true => exact vR_at H t1 t2 t3
  | false => exact vI_at H t1 t2 t3
/-- what term i of path x comes to -/
noncomputable def trmV (t : bTab) (V : Nat → Nat → Nat → Nat) (ones m x w i : Nat) : Nat := cond ((vC V ones m (fmk m x) (i + 1)).testBit w) (bsv (bGet t (x ^^^ 2 ^ i) (m - 2 - prv (fmk m x) (i + 1))) w) 0
theorem bTerms_at (t : bTab) (x a : Nat) : ∀ (k : Nat) (acc : List Nat), bsv (bTerms t (bGrp V ones m x a k) acc) w = bsv acc w + sumR (fun i => cond (Nat.beq (keyC (fmk m x) (i + 1) / 2) a) (trmV t V ones m x w i) 0) k
  | 0, acc => by
    show bsv acc w = bsv acc w + 0
    omega
  | k + 1, acc => by
    unfold bGrp sumR
    cases h : Nat.beq (keyC (fmk m x) (k + 1) / 2) a with
    | false =>
      show bsv (bTerms t (bGrp V ones m x a k) acc) w = _
      rw [bTerms_at t x a k acc]
      show _ = _ + (_ + 0)
      omega
    | true =>
      show bsv (bTerms t (_ :: bGrp V ones m x a k) acc) w = _
      rw [bTerms_c, bTerms_at t x a k, bsv_add, bsv_mask]
      show _ = _ + (_ + trmV t V ones m x w k)
      unfold trmV
      simp
      omega
theorem bRow_at (t : bTab) (x : Nat) : ∀ (n j : Nat) (acc : List Nat), j < n → bsv (nth (bRow t (bGrps V ones m x n) acc) [] j) w = bsv acc w + sumR (fun i => cond (Nat.blt (keyC (fmk m x) (i + 1) / 2) n && Nat.ble (n - 1 - j) (keyC (fmk m x) (i + 1) / 2)) (trmV t V ones m x w i) 0) (m - 2)
  | 0, j, acc, h => by omega
  | n + 1, 0, acc, _ => by
    unfold bGrps
    show bsv (bTerms t (bGrp V ones m x n (m - 2)) acc) w = _
    rw [bTerms_at]
    congr 1
    refine sumR_eq _ (fun i _ => ?_)
    congr 1
    show _ = (Nat.blt _ (n + 1) && Nat.ble (n + 1 - 1 - 0) _)
    have e0 : n + 1 - 1 - 0 = n := by omega
    rw [e0]
    by_cases e : keyC (fmk m x) (i + 1) / 2 = n
    · rw [e]; simp [Nat.blt]
    · rw [nbeq_f e]
      by_cases e2 : keyC (fmk m x) (i + 1) / 2 < n + 1
      · have : Nat.ble n (keyC (fmk m x) (i + 1) / 2) = false := bf (fun q => by have := Nat.ble_eq.mp q; omega)
        rw [this]; simp
      · rw [nblt_f e2]; rfl
  | n + 1, j + 1, acc, h => by
    unfold bGrps
    show bsv (nth (bRow t (bGrps V ones m x n) (bTerms t (bGrp V ones m x n (m - 2)) acc)) [] j) w = _
    rw [bRow_at t x n j _ (by omega), bTerms_at, Nat.add_assoc, ← sumR_add]
    congr 1
    refine sumR_eq _ (fun i _ => ?_)
    have e0 : n + 1 - 1 - (j + 1) = n - 1 - j := by omega
    rw [e0]
    by_cases e : keyC (fmk m x) (i + 1) / 2 = n
    · have h1 : Nat.ble (n - 1 - j) n = true := Nat.ble_eq.mpr (by omega)
      rw [e, nblt_f (Nat.lt_irrefl n), nblt_t (Nat.lt_succ_self n), h1]
      have : Nat.beq n n = true := Nat.beq_refl n
      rw [this]
      simp
    · rw [nbeq_f e]
      by_cases e2 : keyC (fmk m x) (i + 1) / 2 < n
      · rw [nblt_t e2, nblt_t (by omega : keyC (fmk m x) (i + 1) / 2 < n + 1)]
        show 0 + _ = _
        omega
      · rw [nblt_f e2, nblt_f (by omega : ¬ keyC (fmk m x) (i + 1) / 2 < n + 1)]
        rfl
theorem keyC_lt (x : Nat) {i : Nat} (hi : i < m - 2) : keyC (fmk m x) (i + 1) / 2 < m - 1 := by
  unfold keyC
  have := (tri_in (m := m) x hi).1
  cases fmk m x (i + 1) with
  | true => show 2 * (i + 1) / 2 < _; omega
  | false => show (2 * prv (fmk m x) (i + 1) + 1) / 2 < _; omega
theorem xor_lt {x i n : Nat} (hx : x < 2 ^ n) (hi : i < n) : x ^^^ 2 ^ i < 2 ^ n := Nat.xor_lt_two_pow hx (Nat.pow_lt_pow_right (by omega) hi)
theorem bLayers_at (H : VW V ones m w o) : ∀ (n x j : Nat), x < 2 ^ (m - 2) → j < m - 1 → bsv (bGet (bLayers (bProg V ones m) n) x j) w = Gcnt o m n (fmk m x) (2 * (m - 2 - j))
  | 0, x, j, hx, hj => by
    unfold bLayers bZero bGet bProg Gcnt
    rw [List.map_map, nth_range _ _ _ _ hx]
    show bsv (nth ((bGrps V ones m x (m - 1)).map _) [] j) w = _
    have hlen : ∀ n, (bGrps V ones m x n).length = n := by
      intro n
      induction n with
      | zero => rfl
      | succ n ih => unfold bGrps; rw [List.length_cons, ih]
    rw [nth_map _ _ [] _ _ (by rw [hlen]; exact hj)]
    show (cond ((vTop V ones m (fmk m x)).testBit w) 1 0) + 2 * 0 = _
    rw [vTop_at H]
    omega
  | n + 1, x, j, hx, hj => by
    unfold bLayers bLayer
    show bsv (nth (nth (((List.range (2 ^ (m - 2))).map _).map _) [] x) [] j) w = _
    rw [List.map_map, nth_range _ _ _ _ hx]
    show bsv (nth (bRow (bLayers (bProg V ones m) n) (bGrps V ones m x (m - 1)) [vTop V ones m (fmk m x)]) [] j) w = _
    rw [bRow_at _ _ _ _ _ hj]
    unfold Gcnt
    have e1 : bsv [vTop V ones m (fmk m x)] w = cond (topC o m (fmk m x)) 1 0 := by
      show (cond ((vTop V ones m (fmk m x)).testBit w) 1 0) + 2 * 0 = _
      rw [vTop_at H]; omega
    rw [e1]
    congr 1
    refine sumR_eq _ (fun i hi => ?_)
    rw [nblt_t (keyC_lt x hi), Bool.true_and, fmk_fl hi]
    unfold trmV
    rw [vC_at H x hi]
    have hp := (tri_in (m := m) x hi).1
    rw [bLayers_at H n (x ^^^ 2 ^ i) (m - 2 - prv (fmk m x) (i + 1)) (xor_lt hx hi) (by omega)]
    have e2 : m - 2 - (m - 2 - prv (fmk m x) (i + 1)) = prv (fmk m x) (i + 1) := by omega
    rw [e2]
    have e3 : Nat.ble (m - 1 - 1 - j) (keyC (fmk m x) (i + 1) / 2) = Nat.ble (2 * (m - 2 - j)) (keyC (fmk m x) (i + 1)) := by
      by_cases e : 2 * (m - 2 - j) ≤ keyC (fmk m x) (i + 1)
      · rw [Nat.ble_eq.mpr e, Nat.ble_eq.mpr (by omega)]
      · have q1 : Nat.ble (2 * (m - 2 - j)) (keyC (fmk m x) (i + 1)) = false := bf (fun q => e (Nat.ble_eq.mp q))
        have q2 : Nat.ble (m - 1 - 1 - j) (keyC (fmk m x) (i + 1) / 2) = false := bf (fun q => by have := Nat.ble_eq.mp q; omega)
        rw [q1, q2]
    rw [e3]
    cases Nat.ble (2 * (m - 2 - j)) (keyC (fmk m x) (i + 1)) with
    | true => rfl
    | false => rfl
theorem bSum_at (t : bTab) (j : Nat) (S : Nat → Nat) : ∀ (n : Nat) (acc : List Nat) , bsv (bSum t ((List.range n).map (fun x => (x, S x))) acc j) w = bsv acc w + sumR (fun x => cond ((S x).testBit w) (bsv (bGet t x j) w) 0) n := by
  have gen : ∀ (l : List (Nat × Nat)) (e : Nat × Nat) (acc : List Nat), bsv (bSum t (l ++ [e]) acc j) w = bsv (bSum t l acc j) w + cond (e.2.testBit w) (bsv (bGet t e.1 j) w) 0 := by
    intro l e
    induction l with
    | nil =>
      intro acc
      show bsv (bsAdd acc (bsMask e.2 (bGet t e.1 j)) 0) w = _
      rw [bsv_add, bsv_mask]
      simp [bSum]
    | cons a l ih =>
      intro acc
      show bsv (bSum t (l ++ [e]) _ j) w = bsv (bSum t l _ j) w + _
      exact ih _
  intro n
  induction n with
  | zero => intro acc; simp [bSum, sumR]
  | succ n ih =>
    intro acc
    rw [List.range_succ, List.map_append]
    show bsv (bSum t (_ ++ [(n, S n)]) acc j) w = _
    rw [gen, ih]
    show _ + _ = _ + (sumR _ n + cond ((S n).testBit w) (bsv (bGet t n j) w) 0)
    rw [Nat.add_assoc]
theorem bTotal_at (H : VW V ones m w o) (hm : 2 ≤ m) : bsv (bTotal V ones m) w = sumR (fun x => cond (stC o m (fmk m x)) (Gcnt o m (2 * (m - 2)) (fmk m x) 0) 0) (2 ^ (m - 2)) := by
  unfold bTotal
  rw [bSum_at _ _ (fun x => vSt V ones m (fmk m x))]
  show 0 + _ = _
  rw [Nat.zero_add]
  refine sumR_eq _ (fun x hx => ?_)
  rw [vSt_at H, bLayers_at H _ _ _ hx (by omega)]
  have : 2 * (m - 2 - (m - 2)) = 0 := by omega
  rw [this]
end
