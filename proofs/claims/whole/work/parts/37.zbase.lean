/-! Reading and going on in the abstract machine. -/
theorem zI_same (g : zIJ) (k j : Nat) (x : Int32) : (zsI g k j x).1 k j = x := by
  show zup g.1 k j x k j = x
  rw [zup_self, if_pos rfl]
theorem zI_col {k j b : Nat} (g : zIJ) (x : Int32) (h : b ≠ j) : (zsI g k j x).1 k b = g.1 k b := by
  show zup g.1 k j x k b = _
  rw [zup_self, if_neg h]
theorem zI_row {k j a : Nat} (g : zIJ) (x : Int32) (h : a ≠ k) : (zsI g k j x).1 a = g.1 a := zup_other h
theorem zI_at {k j a b : Nat} (g : zIJ) (x : Int32) : (zsI g k j x).1 a b = if a = k ∧ b = j then x else g.1 a b := by
  by_cases h : a = k
  · subst h
    by_cases h2 : b = j
    · subst h2
      rw [zI_same, if_pos ⟨rfl, rfl⟩]
    · rw [zI_col g x h2, if_neg (fun q => h2 q.2)]
  · rw [zI_row g x h, if_neg (fun q => h q.1)]
theorem zI_2 (g : zIJ) (k j : Nat) (x : Int32) : (zsI g k j x).2 = g.2 := rfl
theorem zL_1 (g : zIJ) (k j : Nat) (x : Int64) : (zsL g k j x).1 = g.1 := rfl
theorem zL_same (g : zIJ) (k j : Nat) (x : Int64) : (zsL g k j x).2 k j = x := by
  show zup g.2 k j x k j = x
  rw [zup_self, if_pos rfl]
theorem zL_col {k j b : Nat} (g : zIJ) (x : Int64) (h : b ≠ j) : (zsL g k j x).2 k b = g.2 k b := by
  show zup g.2 k j x k b = _
  rw [zup_self, if_neg h]
theorem zL_row {k j a : Nat} (g : zIJ) (x : Int64) (h : a ≠ k) : (zsL g k j x).2 a = g.2 a := zup_other h
theorem zL_at {k j a b : Nat} (g : zIJ) (x : Int64) : (zsL g k j x).2 a b = if a = k ∧ b = j then x else g.2 a b := by
  by_cases h : a = k
  · subst h
    by_cases h2 : b = j
    · subst h2
      rw [zL_same, if_pos ⟨rfl, rfl⟩]
    · rw [zL_col g x h2, if_neg (fun q => h2 q.2)]
  · rw [zL_row g x h, if_neg (fun q => h q.1)]
theorem zI_id (g : zIJ) (k j : Nat) : zsI g k j (g.1 k j) = g := by
  obtain ⟨g1, g2⟩ := g
  refine Prod.ext ?_ rfl
  funext a b
  rw [zI_at]
  split
  · rename_i h; obtain ⟨rfl, rfl⟩ := h; rfl
  · rfl
theorem zL_id (g : zIJ) (k j : Nat) : zsL g k j (g.2 k j) = g := by
  obtain ⟨g1, g2⟩ := g
  refine Prod.ext rfl ?_
  funext a b
  rw [zL_at]
  split
  · rename_i h; obtain ⟨rfl, rfl⟩ := h; rfl
  · rfl
theorem zI_II (g : zIJ) (k j : Nat) (x y : Int32) : zsI (zsI g k j x) k j y = zsI g k j y := by
  refine Prod.ext ?_ rfl
  funext a b
  rw [zI_at, zI_at, zI_at]
  split <;> rfl
theorem zL_LL (g : zIJ) (k j : Nat) (x y : Int64) : zsL (zsL g k j x) k j y = zsL g k j y := by
  refine Prod.ext rfl ?_
  funext a b
  rw [zL_at, zL_at, zL_at]
  split <;> rfl
theorem zaI_some (x : Int32) (g : zIJ) (k : Int32 → zIJ → Option zRes) : zaI (some (some (.int x), g)) k = k x g := rfl
theorem zaL_some (x : Int64) (g : zIJ) (k : Int64 → zIJ → Option zRes) : zaL (some (some (.long x), g)) k = k x g := rfl
theorem zaV_some (g : zIJ) (k : zIJ → Option zRes) : zaV (some (none, g)) k = k g := rfl
theorem zcond_t {α : Type} {b : Bool} {x y : α} (h : b = true) : cond b x y = x := by rw [h]; rfl
theorem zcond_f {α : Type} {b : Bool} {x y : α} (h : b = false) : cond b x y = y := by rw [h]; rfl
theorem zin_n {i n : Nat} (h : i < n) (hi : i < 2 ^ 31) : zin (nI i) n = true := by
  refine decide_eq_true ?_
  rw [nI_toInt hi]
  omega
theorem zin_f {i n : Nat} (h : n ≤ i) (hi : i < 2 ^ 31) : zin (nI i) n = false := by
  refine decide_eq_false ?_
  rw [nI_toInt hi]
  omega
theorem zin_of {x : Int32} {n : Nat} (h : zin x n = true) (hn : n < 2 ^ 31) : ∃ i, i < n ∧ x = nI i := by
  have h2 := of_decide_eq_true h
  obtain ⟨j, hj, e⟩ := nI_of (x := x) (fun hlt => by
    have := Int32.lt_iff_toInt_lt.mp hlt
    have h0 : (0 : Int32).toInt = 0 := rfl
    omega)
  refine ⟨j, ?_, e⟩
  rw [e, nI_toInt hj] at h2
  omega
