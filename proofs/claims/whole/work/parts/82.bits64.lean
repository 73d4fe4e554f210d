/-! Bits of longs and ints. -/
theorem s6_l : ∀ n, n < 64 → (((nI n).toInt64 &&& 63).toBitVec.smod 64).toNat = n := by decide +kernel
theorem s6_u : ∀ n, n < 64 → (((nI n).toInt64.toUInt64 &&& Int64.toUInt64 63).toBitVec % 64).toNat = n := by decide +kernel
theorem s5_l : ∀ n, n < 32 → ((nI n &&& 31).toBitVec.smod 32).toNat = n := by decide +kernel
theorem l_and1 (y : Int64) : decide (y &&& 1 = 1) = y.toBitVec.getLsbD 0 := by
  cases h : y.toBitVec.getLsbD 0 with
  | true =>
    refine decide_eq_true (Int64.toBitVec_inj.mp ?_)
    show y.toBitVec &&& 1#64 = 1#64
    rw [BitVec.and_one_eq_setWidth_ofBool_getLsbD, h]; rfl
  | false =>
    refine decide_eq_false (fun e => ?_)
    have e2 := Int64.toBitVec_inj.mpr e
    have e3 : y.toBitVec &&& 1#64 = 1#64 := e2
    rw [BitVec.and_one_eq_setWidth_ofBool_getLsbD, h] at e3
    exact absurd e3 (by decide)
theorem l_and0 (y : Int64) : decide (y &&& 1 = 0) = !y.toBitVec.getLsbD 0 := by
  cases h : y.toBitVec.getLsbD 0 with
  | true =>
    refine decide_eq_false (fun e => ?_)
    have e2 := Int64.toBitVec_inj.mpr e
    have e3 : y.toBitVec &&& 1#64 = 0#64 := e2
    rw [BitVec.and_one_eq_setWidth_ofBool_getLsbD, h] at e3
    exact absurd e3 (by decide)
  | false =>
    refine decide_eq_true (Int64.toBitVec_inj.mp ?_)
    show y.toBitVec &&& 1#64 = 0#64
    rw [BitVec.and_one_eq_setWidth_ofBool_getLsbD, h]; rfl
theorem i_and1 (y : Int32) : decide (y &&& 1 = 1) = y.toBitVec.getLsbD 0 := by
  cases h : y.toBitVec.getLsbD 0 with
  | true =>
    refine decide_eq_true (Int32.toBitVec_inj.mp ?_)
    show y.toBitVec &&& 1#32 = 1#32
    rw [BitVec.and_one_eq_setWidth_ofBool_getLsbD, h]; rfl
  | false =>
    refine decide_eq_false (fun e => ?_)
    have e2 := Int32.toBitVec_inj.mpr e
    have e3 : y.toBitVec &&& 1#32 = 1#32 := e2
    rw [BitVec.and_one_eq_setWidth_ofBool_getLsbD, h] at e3
    exact absurd e3 (by decide)
theorem i_and0 (y : Int32) : decide (y &&& 1 = 0) = !y.toBitVec.getLsbD 0 := by
  cases h : y.toBitVec.getLsbD 0 with
  | true =>
    refine decide_eq_false (fun e => ?_)
    have e2 := Int32.toBitVec_inj.mpr e
    have e3 : y.toBitVec &&& 1#32 = 0#32 := e2
    rw [BitVec.and_one_eq_setWidth_ofBool_getLsbD, h] at e3
    exact absurd e3 (by decide)
  | false =>
    refine decide_eq_true (Int32.toBitVec_inj.mp ?_)
    show y.toBitVec &&& 1#32 = 0#32
    rw [BitVec.and_one_eq_setWidth_ofBool_getLsbD, h]; rfl
theorem i_and1v (y : Int32) : y &&& 1 = bI (y.toBitVec.getLsbD 0) := by
  cases h : y.toBitVec.getLsbD 0 with
  | true => have := i_and1 y; rw [h] at this; exact of_decide_eq_true this
  | false => have := i_and0 y; rw [h] at this; exact of_decide_eq_true this
theorem l_sshr0 {n : Nat} (hn : n < 64) (x : Int64) : (x >>> ((nI n).toInt64 &&& 63)).toBitVec.getLsbD 0 = x.toBitVec.getLsbD n := by
  rw [Int64.toBitVec_shiftRight]
  show (x.toBitVec.sshiftRight (((nI n).toInt64 &&& 63).toBitVec.smod 64).toNat).getLsbD 0 = _
  rw [s6_l n hn, BitVec.getLsbD_sshiftRight]
  simp [hn]
theorem l_ushr0 {n : Nat} (hn : n < 64) (x : Int64) : ((x.toUInt64 >>> ((nI n).toInt64.toUInt64 &&& Int64.toUInt64 63)).toInt64).toBitVec.getLsbD 0 = x.toBitVec.getLsbD n := by
  show (x.toUInt64 >>> ((nI n).toInt64.toUInt64 &&& Int64.toUInt64 63)).toBitVec.getLsbD 0 = x.toUInt64.toBitVec.getLsbD n
  rw [UInt64.toBitVec_shiftRight]
  show (x.toUInt64.toBitVec >>> (((nI n).toInt64.toUInt64 &&& Int64.toUInt64 63).toBitVec % 64).toNat).getLsbD 0 = _
  rw [s6_u n hn, BitVec.getLsbD_ushiftRight, Nat.add_zero]
theorem i_sshr0 {n : Nat} (hn : n < 32) (x : Int32) : (x >>> (nI n &&& 31)).toBitVec.getLsbD 0 = x.toBitVec.getLsbD n := by
  rw [Int32.toBitVec_shiftRight]
  show (x.toBitVec.sshiftRight ((nI n &&& 31).toBitVec.smod 32).toNat).getLsbD 0 = _
  rw [s5_l n hn, BitVec.getLsbD_sshiftRight]
  simp [hn]
theorem lN_bit {x k : Nat} (hk : k < 64) : (lN x).toBitVec.getLsbD k = x.testBit k := by
  show (BitVec.ofNat 64 x).getLsbD k = _
  rw [BitVec.getLsbD_ofNat]
  simp [hk]
theorem nI_bit {x k : Nat} (hk : k < 32) : (nI x).toBitVec.getLsbD k = x.testBit k := by
  show (BitVec.ofNat 32 x).getLsbD k = _
  rw [BitVec.getLsbD_ofNat]
  simp [hk]
theorem r_has (g : zIJ) (x : Nat) {k : Nat} (hk : k < 64) : zev mX12_has 0 [.long (lN x), .int (nI k)] g = some (some (.int (bI (x.testBit k))), g) := by
  rw [uX12_has_0, cmp_eq, l_and1, l_sshr0 hk, lN_bit hk]
  cases x.testBit k <;> rfl
theorem sh1_i : ∀ k, k < 31 → (1 : Int32) <<< (nI k &&& 31) = nI (2 ^ k) := by decide +kernel
theorem nI_and (a b : Nat) : nI a &&& nI b = nI (a &&& b) := by
  apply Int32.toBitVec_inj.mp
  show (BitVec.ofNat 32 a) &&& (BitVec.ofNat 32 b) = BitVec.ofNat 32 (a &&& b)
  apply BitVec.eq_of_toNat_eq
  rw [BitVec.toNat_and, BitVec.toNat_ofNat, BitVec.toNat_ofNat, BitVec.toNat_ofNat, ← Nat.and_mod_two_pow]
theorem nI_or (a b : Nat) : nI a ||| nI b = nI (a ||| b) := by
  apply Int32.toBitVec_inj.mp
  show (BitVec.ofNat 32 a) ||| (BitVec.ofNat 32 b) = BitVec.ofNat 32 (a ||| b)
  apply BitVec.eq_of_toNat_eq
  rw [BitVec.toNat_or, BitVec.toNat_ofNat, BitVec.toNat_ofNat, BitVec.toNat_ofNat, ← Nat.or_mod_two_pow]
theorem nI_xor (a b : Nat) : nI a ^^^ nI b = nI (a ^^^ b) := by
  apply Int32.toBitVec_inj.mp
  show (BitVec.ofNat 32 a) ^^^ (BitVec.ofNat 32 b) = BitVec.ofNat 32 (a ^^^ b)
  apply BitVec.eq_of_toNat_eq
  rw [BitVec.toNat_xor, BitVec.toNat_ofNat, BitVec.toNat_ofNat, BitVec.toNat_ofNat, ← Nat.xor_mod_two_pow]
theorem lN_xor' (a b : Nat) : lN a ^^^ lN b = lN (a ^^^ b) := by
  apply Int64.toBitVec_inj.mp
  show (BitVec.ofNat 64 a) ^^^ (BitVec.ofNat 64 b) = BitVec.ofNat 64 (a ^^^ b)
  apply BitVec.eq_of_toNat_eq
  rw [BitVec.toNat_xor, BitVec.toNat_ofNat, BitVec.toNat_ofNat, BitVec.toNat_ofNat, ← Nat.xor_mod_two_pow]
theorem lN_andn (a b : Nat) : lN a &&& (lN b ^^^ (-1)) = lN (a &&& (a ^^^ b)) := by
  rw [← lN_and, ← lN_xor']
  apply Int64.toBitVec_inj.mp
  apply BitVec.eq_of_getLsbD_eq
  intro i hi
  rw [Int64.toBitVec_and, Int64.toBitVec_xor, Int64.toBitVec_and, Int64.toBitVec_xor, BitVec.getLsbD_and, BitVec.getLsbD_xor, BitVec.getLsbD_and, BitVec.getLsbD_xor]
  have : (-1 : Int64).toBitVec.getLsbD i = true := (by decide +kernel : ∀ i, i < 64 → (-1 : Int64).toBitVec.getLsbD i = true) i hi
  rw [this]
  cases (lN a).toBitVec.getLsbD i <;> cases (lN b).toBitVec.getLsbD i <;> rfl
theorem nI_andn (a b : Nat) : nI a &&& (nI b ^^^ (-1)) = nI (a &&& (a ^^^ b)) := by
  rw [← nI_and, ← nI_xor]
  apply Int32.toBitVec_inj.mp
  apply BitVec.eq_of_getLsbD_eq
  intro i hi
  rw [Int32.toBitVec_and, Int32.toBitVec_xor, Int32.toBitVec_and, Int32.toBitVec_xor, BitVec.getLsbD_and, BitVec.getLsbD_xor, BitVec.getLsbD_and, BitVec.getLsbD_xor]
  have : (-1 : Int32).toBitVec.getLsbD i = true := (by decide +kernel : ∀ i, i < 32 → (-1 : Int32).toBitVec.getLsbD i = true) i hi
  rw [this]
  cases (nI a).toBitVec.getLsbD i <;> cases (nI b).toBitVec.getLsbD i <;> rfl
theorem lN_0 {x : Nat} (h : x < 2 ^ 64) : decide (lN x = 0) = decide (x = 0) := by
  by_cases e : x = 0
  · subst e; rfl
  · rw [decide_eq_false e, decide_eq_false (fun k => e (by
      have := congrArg (fun y : Int64 => y.toBitVec.toNat) k
      have h2 : (lN x).toBitVec.toNat = x := by show (BitVec.ofNat 64 x).toNat = x; rw [BitVec.toNat_ofNat]; exact Nat.mod_eq_of_lt h
      have h3 : (lN x).toBitVec.toNat = 0 := this
      omega))]
theorem lN_inj {x y : Nat} (hx : x < 2 ^ 64) (hy : y < 2 ^ 64) : (lN x = lN y) ↔ x = y := by
  constructor
  · intro k
    have := congrArg (fun y : Int64 => y.toBitVec.toNat) k
    have h2 : (lN x).toBitVec.toNat = x := by show (BitVec.ofNat 64 x).toNat = x; rw [BitVec.toNat_ofNat]; exact Nat.mod_eq_of_lt hx
    have h3 : (lN y).toBitVec.toNat = y := by show (BitVec.ofNat 64 y).toNat = y; rw [BitVec.toNat_ofNat]; exact Nat.mod_eq_of_lt hy
    have h4 : (lN x).toBitVec.toNat = (lN y).toBitVec.toNat := this
    omega
  · intro h; rw [h]
theorem lN_toI {x : Nat} (h : x < 2 ^ 63) : (lN x).toInt = (x : Int) := by
  have h2 : (lN x).toBitVec.toNat = x := by show (BitVec.ofNat 64 x).toNat = x; rw [BitVec.toNat_ofNat]; exact Nat.mod_eq_of_lt (by omega)
  show (lN x).toBitVec.toInt = _
  rw [BitVec.toInt_eq_toNat_cond, h2, if_pos (by omega)]
theorem bit_lt {x n : Nat} (h : ∀ i, n ≤ i → x.testBit i = false) : x < 2 ^ n := Nat.lt_pow_two_of_testBit x h
theorem bit_ext {x y n : Nat} (hx : x < 2 ^ n) (hy : y < 2 ^ n) (h : ∀ i, i < n → x.testBit i = y.testBit i) : x = y := by
  apply Nat.eq_of_testBit_eq
  intro i
  by_cases q : i < n
  · exact h i q
  · rw [Nat.testBit_lt_two_pow (Nat.lt_of_lt_of_le hx (Nat.pow_le_pow_right (by omega) (by omega))), Nat.testBit_lt_two_pow (Nat.lt_of_lt_of_le hy (Nat.pow_le_pow_right (by omega) (by omega)))]
