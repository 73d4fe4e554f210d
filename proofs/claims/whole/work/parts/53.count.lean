/-! Counting nets by their sweeps. -/
def prv (f : Nat → Bool) : Nat → Nat
  | 0 => 0
  | c + 1 => if f c then c else prv f c
def nxtA (f : Nat → Bool) : Nat → Nat → Nat
  | 0, i => i
  | k + 1, i => if f i then i else nxtA f k (i + 1)
def nxt (f : Nat → Bool) (m c : Nat) : Nat := nxtA f (m - (c + 1)) (c + 1)
theorem prv_of {f : Nat → Bool} {a : Nat} (ha : f a = true) : ∀ c, a < c → (∀ d, a < d → d < c → f d = false) → prv f c = a
  | 0, h, _ => by omega
  | c + 1, h, hn => by
    unfold prv
    by_cases e : c = a
    · subst e; rw [ha]; rfl
    · rw [hn c (by omega) (by omega)]
      exact prv_of ha c (by omega) (fun d d1 d2 => hn d d1 (by omega))
theorem nxtA_of {f : Nat → Bool} {b : Nat} (hb : f b = true) : ∀ k i, i ≤ b → b < i + k → (∀ d, i ≤ d → d < b → f d = false) → nxtA f k i = b
  | 0, i, h, h2, _ => by omega
  | k + 1, i, h, h2, hn => by
    unfold nxtA
    by_cases e : i = b
    · subst e; rw [hb]; rfl
    · rw [hn i (Nat.le_refl _) (by omega)]
      exact nxtA_of hb k (i + 1) (by omega) (by omega) (fun d d1 d2 => hn d (by omega) d2)
theorem prv_in {f : Nat → Bool} {a c b : Nat} (h : Cons f a b) (h1 : a < c) (h2 : c < b) : prv f c = a := prv_of h.1 c h1 (fun d d1 d2 => h.2.2.2 d d1 (by omega))
theorem prv_at {f : Nat → Bool} {a c : Nat} (h : Cons f a c) : prv f c = a := prv_of h.1 c h.2.2.1 (fun d d1 d2 => h.2.2.2 d d1 d2)
theorem nxt_in {f : Nat → Bool} {m a c b : Nat} (h : Cons f a b) (h1 : a < c) (h2 : c < b) (hb : b < m) : nxt f m c = b := nxtA_of h.2.1 _ _ (by omega) (by omega) (fun d d1 d2 => h.2.2.2 d (by omega) d2)
theorem nxt_at {f : Nat → Bool} {m c b : Nat} (h : Cons f c b) (hb : b < m) : nxt f m c = b := by
  have := h.2.2.1
  exact nxtA_of h.2.1 _ _ (by omega) (by omega) (fun d d1 d2 => h.2.2.2 d (by omega) d2)
/-- the next and the last on the path round c -/
theorem cons_span {f : Nat → Bool} {m c : Nat} (h0 : f 0 = true) (hm : f (m - 1) = true) (hc : 0 < c) (hcm : c < m - 1) (h : f c = false) : ∃ a b, Cons f a b ∧ a < c ∧ c < b ∧ b < m := by
  obtain ⟨a, ha, ⟨a1, a2⟩, hamax⟩ := ex_min (X := fun x => x < c ∧ f x = true) (R := fun x y => y < x) (fun x _ r => Nat.lt_irrefl x r) (fun x y z _ _ _ r s => Nat.lt_trans s r) (List.range c) ⟨0, List.mem_range.mpr hc, hc, h0⟩
  obtain ⟨b, hb, ⟨b1, b2⟩, hbmin⟩ := ex_min (X := fun x => c < x ∧ f x = true) (R := fun x y => x < y) (fun x _ r => Nat.lt_irrefl x r) (fun x y z _ _ _ r s => Nat.lt_trans r s) (List.range m) ⟨m - 1, List.mem_range.mpr (by omega), hcm, hm⟩
  have hbm := List.mem_range.mp hb
  refine ⟨a, b, ⟨a2, b2, by omega, fun d d1 d2 => bf (fun e => ?_)⟩, a1, b1, hbm⟩
  by_cases q : d < c
  · exact hamax d (List.mem_range.mpr q) ⟨q, e⟩ d1
  · by_cases q2 : d = c
    · subst q2; rw [h] at e; cases e
    · exact hbmin d (List.mem_range.mpr (by omega)) ⟨by omega, e⟩ d2
def okI (o : Nat → Nat → Nat → Bool) (m a c b : Nat) : Bool := o a c b && (List.range m).all (fun d => (!(decide (a < d) && decide (d < c)) || (!o a d b || o a d c)) && (!(decide (c < d) && decide (d < b)) || (!o a d b || o c d b)))
def okR (o : Nat → Nat → Nat → Bool) (m a c b : Nat) : Bool := !o a c b && (List.range m).all (fun d => (!(decide (a < d) && decide (d < c)) || (!o a d c || o a d b)) && (!(decide (c < d) && decide (d < b)) || (!o c d b || o a d b)))
def okC (o : Nat → Nat → Nat → Bool) (m : Nat) (f : Nat → Bool) (c : Nat) : Bool := cond (f c) (okR o m (prv f c) c (nxt f m c)) (okI o m (prv f c) c (nxt f m c))
def keyC (f : Nat → Bool) (c : Nat) : Nat := cond (f c) (2 * c) (2 * prv f c + 1)
def topC (o : Nat → Nat → Nat → Bool) (m : Nat) (f : Nat → Bool) : Bool := (List.range (m - 2)).all (fun i => o (prv f (i + 1)) (i + 1) (nxt f m (i + 1)) == f (i + 1))
def sumR (h : Nat → Nat) : Nat → Nat
  | 0 => 0
  | n + 1 => sumR h n + h n
def Gcnt (o : Nat → Nat → Nat → Bool) (m : Nat) : Nat → (Nat → Bool) → Nat → Nat
  | 0, f, _ => cond (topC o m f) 1 0
  | n + 1, f, k => cond (topC o m f) 1 0 + sumR (fun i => cond (Nat.ble k (keyC f (i + 1)) && okC o m f (i + 1)) (Gcnt o m n (fup f (i + 1) (!f (i + 1))) (2 * prv f (i + 1))) 0) (m - 2)
theorem sumR_le {h k : Nat → Nat} : ∀ n, (∀ i, i < n → h i ≤ k i) → sumR h n ≤ sumR k n
  | 0, _ => Nat.le_refl _
  | n + 1, hh => Nat.add_le_add (sumR_le n (fun i hi => hh i (by omega))) (hh n (by omega))
theorem sumR_lt {h k : Nat → Nat} : ∀ n, (∀ i, i < n → h i ≤ k i) → (∃ i, i < n ∧ h i < k i) → sumR h n < sumR k n
  | 0, _, q => by obtain ⟨i, hi, _⟩ := q; omega
  | n + 1, hh, q => by
    obtain ⟨i, hi, hl⟩ := q
    unfold sumR
    have h1 := hh n (by omega)
    by_cases e : i = n
    · subst e
      have := sumR_le i (fun j hj => hh j (by omega))
      omega
    · have := sumR_lt n (fun j hj => hh j (by omega)) ⟨i, by omega, hl⟩
      omega
theorem sumR_c {h : Nat → Nat} {v : Nat} : ∀ n, (∀ i, i < n → h i ≤ v) → sumR h n ≤ n * v
  | 0, _ => by unfold sumR; omega
  | n + 1, hh => by
    have := sumR_c (h := h) n (fun i hi => hh i (by omega))
    have := hh n (by omega)
    unfold sumR
    rw [Nat.add_mul]
    omega
/-- a row split by what each of it chooses -/
theorem split_len {α : Type} (ch : α → Nat) : ∀ (ts : List α) (n : Nat), (∀ t, t ∈ ts → ch t < n) → ts.length = sumR (fun i => (ts.filter (fun t => decide (ch t = i))).length) n
  | [], n, _ => by
    have : ∀ n, sumR (fun i => (([] : List α).filter (fun t => decide (ch t = i))).length) n = 0 := by
      intro n
      induction n with
      | zero => rfl
      | succ n ih => unfold sumR; rw [ih]; rfl
    rw [this]; rfl
  | t :: ts, n, h => by
    have ih := split_len ch ts n (fun s hs => h s (List.mem_cons_of_mem _ hs))
    have ht := h t List.mem_cons_self
    rw [List.length_cons, ih]
    have key : ∀ n, sumR (fun i => ((t :: ts).filter (fun t => decide (ch t = i))).length) n = sumR (fun i => (ts.filter (fun t => decide (ch t = i))).length) n + (if ch t < n then 1 else 0) := by
      intro n
      induction n with
      | zero => rfl
      | succ n ihn =>
        unfold sumR
        rw [ihn, List.filter_cons]
        by_cases e : ch t = n
        · have e1 : decide (ch t = n) = true := decide_eq_true e
          rw [e1]
          have e2 : ¬ ch t < n := by omega
          have e3 : ch t < n + 1 := by omega
          simp only [e2, e3, if_true, if_false, List.length_cons]
          omega
        · have e1 : decide (ch t = n) = false := decide_eq_false e
          rw [e1]
          by_cases e2 : ch t < n
          · have e3 : ch t < n + 1 := by omega
            simp only [e2, e3, if_true]
            simp
            omega
          · have e3 : ¬ ch t < n + 1 := by omega
            simp only [e2, e3, if_false]
            simp
    rw [key, if_pos ht]
