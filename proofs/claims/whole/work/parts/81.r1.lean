/-! The reference: numbers in bounds, edges, findings. -/
theorem cmp_lt (x y : Int64) : decide (lg_cmp x y < 0) = decide (x.toInt < y.toInt) := by
  unfold lg_cmp
  by_cases h : x > y
  · have h2 := Int64.lt_iff_toInt_lt.mp h
    rw [if_pos h, decide_eq_false (by omega : ¬ x.toInt < y.toInt)]; rfl
  · rw [if_neg h]
    have h2 : ¬ y.toInt < x.toInt := fun k => h (Int64.lt_iff_toInt_lt.mpr k)
    by_cases e : x = y
    · subst e; rw [if_pos rfl, decide_eq_false h2]; rfl
    · rw [if_neg e]
      have : x.toInt ≠ y.toInt := fun k => e (Int64.toInt_inj.mp k)
      rw [decide_eq_true (by omega : x.toInt < y.toInt)]; rfl
theorem cmp_gt (x y : Int64) : decide (0 < lg_cmp x y) = decide (y.toInt < x.toInt) := by
  unfold lg_cmp
  by_cases h : x > y
  · have h2 := Int64.lt_iff_toInt_lt.mp h
    rw [if_pos h, decide_eq_true h2]; rfl
  · rw [if_neg h]
    have h2 : ¬ y.toInt < x.toInt := fun k => h (Int64.lt_iff_toInt_lt.mpr k)
    rw [decide_eq_false h2]
    by_cases e : x = y
    · subst e; rw [if_pos rfl]; rfl
    · rw [if_neg e]; rfl
theorem cmp_eq (x y : Int64) : decide (lg_cmp x y = 0) = decide (x = y) := by
  unfold lg_cmp
  by_cases h : x > y
  · have h2 := Int64.lt_iff_toInt_lt.mp h
    rw [if_pos h, decide_eq_false (show ¬ x = y from fun e => by subst e; omega)]; rfl
  · rw [if_neg h]
    by_cases e : x = y
    · subst e; rw [if_pos rfl, decide_eq_true (rfl : x = x)]; rfl
    · rw [if_neg e, decide_eq_false e]; rfl
theorem cmp_ge (x y : Int64) : decide (0 ≤ lg_cmp x y) = decide (y.toInt ≤ x.toInt) := by
  unfold lg_cmp
  by_cases h : x > y
  · have h2 := Int64.lt_iff_toInt_lt.mp h
    rw [if_pos h, decide_eq_true (by omega : y.toInt ≤ x.toInt)]; rfl
  · rw [if_neg h]
    have h2 : ¬ y.toInt < x.toInt := fun k => h (Int64.lt_iff_toInt_lt.mpr k)
    by_cases e : x = y
    · subst e; rw [if_pos rfl, decide_eq_true (Int.le_refl _)]; rfl
    · rw [if_neg e]
      have : x.toInt ≠ y.toInt := fun k => e (Int64.toInt_inj.mp k)
      rw [decide_eq_false (by omega : ¬ y.toInt ≤ x.toInt)]; rfl
theorem cmp_le (x y : Int64) : decide (lg_cmp x y ≤ 0) = decide (x.toInt ≤ y.toInt) := by
  unfold lg_cmp
  by_cases h : x > y
  · have h2 := Int64.lt_iff_toInt_lt.mp h
    rw [if_pos h, decide_eq_false (by omega : ¬ x.toInt ≤ y.toInt)]; rfl
  · rw [if_neg h]
    have h2 : ¬ y.toInt < x.toInt := fun k => h (Int64.lt_iff_toInt_lt.mpr k)
    rw [decide_eq_true (by omega : x.toInt ≤ y.toInt)]
    by_cases e : x = y
    · subst e; rw [if_pos rfl]; rfl
    · rw [if_neg e]; rfl
theorem r_in (g : zIJ) (b0 b2 b4 : Int64) : zev mX12_in 0 [.long b0, .long b2, .long b4] g = some (some (.int (bI (decide (b2.toInt ≤ b0.toInt ∧ b0.toInt ≤ b4.toInt)))), g) := by
  rw [uX12_in_0, cmp_lt, cmp_gt]
  by_cases h1 : b0.toInt < b2.toInt
  · rw [decide_eq_true h1, decide_eq_false (by omega : ¬ (b2.toInt ≤ b0.toInt ∧ b0.toInt ≤ b4.toInt))]; rfl
  · rw [decide_eq_false h1]
    by_cases h2 : b4.toInt < b0.toInt
    · rw [decide_eq_true h2, decide_eq_false (by omega : ¬ (b2.toInt ≤ b0.toInt ∧ b0.toInt ≤ b4.toInt))]; rfl
    · rw [decide_eq_false h2, decide_eq_true (by omega : (b2.toInt ≤ b0.toInt ∧ b0.toInt ≤ b4.toInt))]; rfl
/-- in for ints, the bounds being small numbers -/
theorem r_inI (g : zIJ) (a : Int32) {lo hi : Int64} {l h : Int} (hl : lo.toInt = l) (hh : hi.toInt = h) : zev mX12_in 0 [.long a.toInt64, .long lo, .long hi] g = some (some (.int (bI (decide (l ≤ a.toInt ∧ a.toInt ≤ h)))), g) := by
  rw [r_in, hl, hh, Int32.toInt_toInt64]
theorem zin_d (a : Int32) (n : Nat) : decide (0 ≤ a.toInt ∧ a.toInt ≤ (n : Int) - 1) = zin a n := by
  unfold zin
  by_cases q : 0 ≤ a.toInt ∧ a.toInt < n
  · rw [decide_eq_true q, decide_eq_true (by omega)]
  · rw [decide_eq_false q, decide_eq_false (by omega)]
theorem pred_l {n : Nat} (h : n < 2 ^ 31) : (nI n - 1).toInt64.toInt = (n : Int) - 1 := by
  rw [Int32.toInt_toInt64]
  cases n with
  | zero => rfl
  | succ k => rw [nI_pred, nI_toInt (by omega)]; omega
section
variable {g : zIJ} {n : Nat} {X Y : Nat → Int}
theorem r_isPoint (h : RB g n X Y) (a : Int32) : zev mX12_isPoint 0 [.ref 250, .long a.toInt64] g = some (some (.int (bI (zin a n))), g) := by
  have := h.1
  rw [uX12_isPoint_0, r_points h, zaI_some, r_inI g a rfl (pred_l (by omega)), zaI_some, bI_bit]
  show some (some (Value.int (bI (decide (0 ≤ a.toInt ∧ a.toInt ≤ (n : Int) - 1)))), g) = _
  rw [zin_d]
theorem r_areTwo (h : RB g n X Y) (a b : Int32) : zev mX12_areTwo 0 [.ref 250, .int a, .int b] g = some (some (.int (bI (zin a n && (zin b n && !decide (a = b))))), g) := by
  rw [uX12_areTwo_0, r_isPoint h, zaI_some, r_isPoint h, zaI_some, bI_0, bI_0]
  cases zin a n <;> cases zin b n <;> cases decide (a = b) <;> rfl
/-- two points -/
theorem two_of {a b : Int32} (hn : n ≤ 9) (h : (zin a n && (zin b n && !decide (a = b))) = true) : ∃ i j, i < n ∧ j < n ∧ i ≠ j ∧ a = nI i ∧ b = nI j := by
  rw [Bool.and_eq_true, Bool.and_eq_true] at h
  obtain ⟨h1, h2, h3⟩ := h
  obtain ⟨i, hi, ei⟩ := zin_of h1 (by omega)
  obtain ⟨j, hj, ej⟩ := zin_of h2 (by omega)
  refine ⟨i, j, hi, hj, fun e => ?_, ei, ej⟩
  rw [ei, ej, e] at h3
  simp at h3
theorem two_mk {i j : Nat} (hn : n ≤ 9) (hi : i < n) (hj : j < n) (n1 : i ≠ j) : (zin (nI i) n && (zin (nI j) n && !decide (nI i = nI j))) = true := by
  rw [zin_n hi (by omega), zin_n hj (by omega), nI_de (by omega) (by omega), decide_eq_false n1]; rfl
theorem r_isPlace (g : zIJ) (a b : Int32) : zev mX12_isPlace 0 [.int a, .int b] g = some (some (.int (bI (decide (-99 ≤ a.toInt ∧ a.toInt ≤ 99) && decide (-99 ≤ b.toInt ∧ b.toInt ≤ 99)))), g) := by
  rw [uX12_isPlace_0, r_inI g a (l := -99) (h := 99) rfl rfl, zaI_some, r_inI g b (l := -99) (h := 99) rfl rfl, zaI_some, bI_0, bI_0]
  cases decide (-99 ≤ a.toInt ∧ a.toInt ≤ 99) <;> cases decide (-99 ≤ b.toInt ∧ b.toInt ≤ 99) <;> rfl
end
/-! edges by their numbers -/
def eN (i j : Nat) : Nat := cond (Nat.blt i j) (i * (17 - i) / 2 + j - i - 1) (j * (17 - j) / 2 + i - j - 1)
def eLo (e : Nat) : Nat := (zLE e).toNatClampNeg
def eHi (e : Nat) : Nat := (zGE e).toNatClampNeg
theorem edge_chk : (List.range 9).all (fun i => (List.range 9).all (fun j => Nat.beq i j || (Nat.blt (eN i j) 36 && (Nat.beq (eN j i) (eN i j) && (Nat.beq (eLo (eN i j)) (min i j) && (Nat.beq (eHi (eN i j)) (max i j) && decide ((((((zmnI (nI i) (nI j)) * (17 - (zmnI (nI i) (nI j)))) / 2) + (zmxI (nI i) (nI j))) - (zmnI (nI i) (nI j))) - 1 = nI (eN i j)))))))) = true := by decide +kernel
theorem edge_inv : (List.range 36).all (fun e => Nat.blt (eLo e) (eHi e) && (Nat.blt (eHi e) 9 && (Nat.beq (eN (eLo e) (eHi e)) e && (decide (zLE e = nI (eLo e)) && decide (zGE e = nI (eHi e)))))) = true := by decide +kernel
theorem edge_at {i j : Nat} (hi : i < 9) (hj : j < 9) (n : i ≠ j) : eN i j < 36 ∧ eN j i = eN i j ∧ eLo (eN i j) = min i j ∧ eHi (eN i j) = max i j ∧ (((((zmnI (nI i) (nI j)) * (17 - (zmnI (nI i) (nI j)))) / 2) + (zmxI (nI i) (nI j))) - (zmnI (nI i) (nI j))) - 1 = nI (eN i j) := by
  have h := edge_chk
  rw [List.all_eq_true] at h
  have h := h i (List.mem_range.mpr hi)
  rw [List.all_eq_true] at h
  have h := h j (List.mem_range.mpr hj)
  rw [nbeq_f n, Bool.false_or, Bool.and_eq_true, Bool.and_eq_true, Bool.and_eq_true, Bool.and_eq_true] at h
  exact ⟨Nat.ble_eq.mp h.1, Nat.eq_of_beq_eq_true h.2.1, Nat.eq_of_beq_eq_true h.2.2.1, Nat.eq_of_beq_eq_true h.2.2.2.1, of_decide_eq_true h.2.2.2.2⟩
theorem edge_of {e : Nat} (he : e < 36) : eLo e < eHi e ∧ eHi e < 9 ∧ eN (eLo e) (eHi e) = e ∧ zLE e = nI (eLo e) ∧ zGE e = nI (eHi e) := by
  have h := edge_inv
  rw [List.all_eq_true] at h
  have h := h e (List.mem_range.mpr he)
  rw [Bool.and_eq_true, Bool.and_eq_true, Bool.and_eq_true, Bool.and_eq_true] at h
  exact ⟨Nat.ble_eq.mp h.1, Nat.ble_eq.mp h.2.1, Nat.eq_of_beq_eq_true h.2.2.1, of_decide_eq_true h.2.2.2.1, of_decide_eq_true h.2.2.2.2⟩
theorem eN_lt {i j : Nat} (hi : i < 9) (hj : j < 9) (n : i ≠ j) : eN i j < 36 := (edge_at hi hj n).1
theorem eN_sy {i j : Nat} (hi : i < 9) (hj : j < 9) (n : i ≠ j) : eN j i = eN i j := (edge_at hi hj n).2.1
/-- an edge's number tells its ends -/
theorem eN_inj {i j a b : Nat} (hi : i < 9) (hj : j < 9) (n : i ≠ j) (ha : a < 9) (hb : b < 9) (m : a ≠ b) (h : eN i j = eN a b) : (i = a ∧ j = b) ∨ (i = b ∧ j = a) := by
  have h1 := edge_at hi hj n
  have h2 := edge_at ha hb m
  rw [h] at h1
  have e1 := h1.2.2.1.symm.trans h2.2.2.1
  have e2 := h1.2.2.2.1.symm.trans h2.2.2.2.1
  omega
theorem r_edge (g : zIJ) {i j : Nat} (hi : i < 9) (hj : j < 9) (n : i ≠ j) : zev mX12_edge 0 [.int (nI i), .int (nI j)] g = some (some (.int (nI (eN i j))), g) := by
  rw [uX12_edge_0, (edge_at hi hj n).2.2.2.2]
/-! sets of edges, told as longs -/
theorem lN_and (a b : Nat) : lN a &&& lN b = lN (a &&& b) := by
  apply Int64.toBitVec_inj.mp
  show (BitVec.ofNat 64 a) &&& (BitVec.ofNat 64 b) = BitVec.ofNat 64 (a &&& b)
  apply BitVec.eq_of_toNat_eq
  rw [BitVec.toNat_and, BitVec.toNat_ofNat, BitVec.toNat_ofNat, BitVec.toNat_ofNat, ← Nat.and_mod_two_pow]
theorem lN_or (a b : Nat) : lN a ||| lN b = lN (a ||| b) := by
  apply Int64.toBitVec_inj.mp
  show (BitVec.ofNat 64 a) ||| (BitVec.ofNat 64 b) = BitVec.ofNat 64 (a ||| b)
  apply BitVec.eq_of_toNat_eq
  rw [BitVec.toNat_or, BitVec.toNat_ofNat, BitVec.toNat_ofNat, BitVec.toNat_ofNat, ← Nat.or_mod_two_pow]
theorem bit_chk : (List.range 63).all (fun k => decide ((1 : Int64) <<< ((nI k).toInt64 &&& 63) = lN (2 ^ k))) = true := by decide +kernel
theorem bit_l {k : Nat} (h : k < 63) : (1 : Int64) <<< ((nI k).toInt64 &&& 63) = lN (2 ^ k) := by
  have q := bit_chk
  rw [List.all_eq_true] at q
  exact of_decide_eq_true (q k (List.mem_range.mpr h))
