/-! Measures: one step, a chain. -/
def inR (x : Int) : Bool := decide (-9223372036854775808 ≤ x ∧ x < 9223372036854775808)
theorem i64_lo (a : Int64) : -9223372036854775808 ≤ a.toInt := Int64.le_toInt a
theorem i64_hi (a : Int64) : a.toInt < 9223372036854775808 := Int64.toInt_lt a
theorem i64_of {a b : Int64} (h : a.toInt = b.toInt) : a = b := Int64.toInt_inj.mp h
theorem i64_mulR {a b : Int64} (h : inR (a.toInt * b.toInt) = true) : (a * b).toInt = a.toInt * b.toInt := by
  have h' := of_decide_eq_true h
  rw [Int64.toInt_mul]
  exact Int.bmod_eq_of_le (by omega) (by omega)
theorem i64_mulM (a b : Int64) : (a * b).toInt % 18446744073709551616 = (a.toInt * b.toInt) % 18446744073709551616 := by
  rw [Int64.toInt_mul]
  exact Int.bmod_emod
theorem mul_ok {a b : Int64} (ha : a ≠ 0) : (decide (a = -1 ∧ b = -9223372036854775808) || !decide ((a * b) / a = b)) = !inR (a.toInt * b.toInt) := by
  have a0 : a.toInt ≠ 0 := fun z => ha (i64_of z)
  have la := i64_lo a
  have ua := i64_hi a
  have lb := i64_lo b
  have ub := i64_hi b
  have m1 : (-1 : Int64).toInt = -1 := rfl
  have mm : (-9223372036854775808 : Int64).toInt = -9223372036854775808 := rfl
  cases q : inR (a.toInt * b.toInt) with
  | true =>
    have hp := i64_mulR q
    have e : (a * b) / a = b := by
      refine i64_of ?_
      rw [Int64.toInt_div, hp, Int.mul_tdiv_cancel_left _ a0]
      exact Int.bmod_eq_of_le (by omega) (by omega)
    have n1 : ¬ (a = -1 ∧ b = -9223372036854775808) := fun z => by
      have h' := of_decide_eq_true q
      rw [z.1, z.2, m1, mm] at h'
      omega
    rw [decide_eq_true e, decide_eq_false n1]; rfl
  | false =>
    have h' := of_decide_eq_false q
    show _ = true
    by_cases n1 : a = -1 ∧ b = -9223372036854775808
    · rw [decide_eq_true n1]; rfl
    · refine Bool.or_eq_true_iff.mpr (Or.inr ?_)
      rw [decide_eq_false]
      · rfl
      intro e
      have lp := i64_lo (a * b)
      have up := i64_hi (a * b)
      have mp := i64_mulM a b
      have ed := congrArg Int64.toInt e
      rw [Int64.toInt_div] at ed
      have tm := Int.mul_tdiv_add_tmod (a * b).toInt a.toInt
      have na := Int.natAbs_tmod (a * b).toInt a.toInt
      have nl : (a * b).toInt.natAbs % a.toInt.natAbs < a.toInt.natAbs := Nat.mod_lt _ (by omega)
      by_cases c : a.toInt = -1 ∧ (a * b).toInt = -9223372036854775808
      · rw [c.1, c.2] at ed
        have : b.toInt = -9223372036854775808 := by rw [← ed]; decide
        exact n1 ⟨i64_of (c.1.trans m1.symm), i64_of (this.trans mm.symm)⟩
      · have bd : ((a * b).toInt.tdiv a.toInt).natAbs = (a * b).toInt.natAbs / a.toInt.natAbs := Int.natAbs_tdiv _ _
        have dl : (a * b).toInt.natAbs / a.toInt.natAbs ≤ (a * b).toInt.natAbs := Nat.div_le_self _ _
        have inr : -9223372036854775808 ≤ (a * b).toInt.tdiv a.toInt ∧ (a * b).toInt.tdiv a.toInt < 9223372036854775808 := by
          refine ⟨by omega, ?_⟩
          refine Classical.byContradiction (fun z => c ?_)
          have e1 : (a * b).toInt = -9223372036854775808 := by omega
          refine ⟨?_, e1⟩
          have e2 : (a * b).toInt.tdiv a.toInt = 9223372036854775808 := by omega
          rw [e2] at tm
          omega
        rw [Int.bmod_eq_of_le (by omega) (by omega)] at ed
        rw [ed] at tm
        omega
def pov (a b : Int64) : Bool := decide (((a ^^^ (a + b)) &&& (b ^^^ (a + b))).toInt < 0)
def mov (a b : Int64) : Bool := decide (((a ^^^ b) &&& (a ^^^ (a - b))).toInt < 0)
def tov (a b : Int64) : Bool := !inR (a.toInt * b.toInt)
def stV (a b : Int32) (v : Int64) : Int64 × Bool := cond (decide (a.toInt = 0)) (v + b.toInt64, pov v b.toInt64) (cond (decide (a.toInt = 1)) (v * b.toInt64, tov v b.toInt64) (cond (decide (a.toInt = 2)) (cond (decide (b = 0)) v (v - v / b.toInt64 * b.toInt64), false) (cond (decide (a.toInt = 3)) (zmxL v b.toInt64, false) (cond (decide (a.toInt = 4)) (zmnL v b.toInt64, false) (cond (decide (a.toInt = 5)) (b.toInt64 - v, mov b.toInt64 v) (v * v, tov v v))))))
def mset (g : zIJ) (v : Int64) (o : Bool) : zIJ := zsL (zsI g 232 3 (bI o)) 232 2 v
theorem mset_3 (g : zIJ) (v : Int64) (o : Bool) : (mset g v o).1 232 3 = bI o := by unfold mset; rw [zL_1, zI_same]
theorem mset_2 (g : zIJ) (v : Int64) (o : Bool) : (mset g v o).2 232 2 = v := by unfold mset; rw [zL_same]
theorem mset_I (g : zIJ) (v : Int64) (o p : Bool) : zsI (mset g v o) 232 3 (bI p) = mset g v p := by
  show zsL (zsI (zsI g 232 3 (bI o)) 232 3 (bI p)) 232 2 v = _
  rw [zI_II]; rfl
theorem mset_L (g : zIJ) (v w : Int64) (o : Bool) : zsL (mset g v o) 232 2 w = mset g w o := by
  unfold mset
  rw [zL_LL]
theorem ge0 (x : Int64) : decide (0 ≤ lg_cmp x 0) = !decide (x.toInt < 0) := by
  rw [cmp_ge, show (0 : Int64).toInt = 0 from rfl]
  by_cases q : x.toInt < 0
  · rw [decide_eq_true q, decide_eq_false (by omega)]; rfl
  · rw [decide_eq_false q, decide_eq_true (by omega)]; rfl
theorem z64_0 (b : Int32) : decide (b.toInt64 = 0) = decide (b = 0) := decide_eq_decide.mpr ⟨fun z => by
  have := congrArg Int64.toInt z
  rw [Int32.toInt_toInt64] at this
  exact Int32.toInt_inj.mp this, fun z => by rw [z]; rfl⟩
section
variable {g : zIJ} {v : Int64}
theorem c_plus (n : Int64) : zev mX2_plus 0 [.ref 232, .long n] (mset g v false) = some (none, mset g (v + n) (pov v n)) := by
  rw [uX2_plus_0, mset_3, mset_2, ge0, show (0 : Int32) = bI false from rfl, show (1 : Int32) = bI true from rfl, mset_I, mset_I, mset_L, mset_L]
  unfold pov
  cases decide (((v ^^^ (v + n)) &&& (n ^^^ (v + n))).toInt < 0) <;> rfl
theorem c_takenFrom (n : Int64) : zev mX2_takenFrom 0 [.ref 232, .long n] (mset g v false) = some (none, mset g (n - v) (mov n v)) := by
  rw [uX2_takenFrom_0, mset_3, mset_2, ge0, show (0 : Int32) = bI false from rfl, show (1 : Int32) = bI true from rfl, mset_I, mset_I, mset_L, mset_L]
  unfold mov
  cases decide (((n ^^^ v) &&& (n ^^^ (n - v))).toInt < 0) <;> rfl
theorem mul_comm64 (a b : Int64) : a * b = b * a := i64_of (by rw [Int64.toInt_mul, Int64.toInt_mul, Int.mul_comm])
theorem tov_sy (a b : Int64) : tov a b = tov b a := by unfold tov; rw [Int.mul_comm]
theorem c_times (n : Int64) : zev mX2_times 0 [.ref 232, .long n] (mset g v false) = some (none, mset g (v * n) (tov v n)) := by
  have t47 : zev mX2_times 47 [.ref 232, .long n] (mset g v false) = some (none, mset g (v * n) true) := by
    rw [uX2_times_47, mset_3, show (0 : Int32) = bI false from rfl, show (1 : Int32) = bI true from rfl, mset_I, mset_2, mset_L]; rfl
  by_cases n0 : n = 0
  · rw [uX2_times_0, cmp_eq, decide_eq_true n0, mset_L]
    subst n0
    have e1 : v * 0 = 0 := i64_of (by rw [Int64.toInt_mul, show (0 : Int64).toInt = 0 from rfl, Int.mul_zero]; rfl)
    have e2 : tov v 0 = false := by unfold tov; rw [show (0 : Int64).toInt = 0 from rfl, Int.mul_zero]; rfl
    rw [e1, e2]; rfl
  · have t31 : zev mX2_times 31 [.ref 232, .long n] (mset g v false) = some (none, mset g (v * n) (!decide (v * n / n = v))) := by
      rw [uX2_times_31, decide_eq_false n0, mset_3, mset_2, cmp_eq, t47, show (0 : Int32) = bI false from rfl, show (1 : Int32) = bI true from rfl, mset_I, mset_I, mset_2, mset_2, mset_L, mset_L]
      cases decide (v * n / n = v) <;> rfl
    rw [uX2_times_0, cmp_eq, decide_eq_false n0, cmp_eq, mset_2, cmp_eq, t31, t47, tov_sy]
    have k := mul_ok (a := n) (b := v) n0
    unfold tov
    rw [← k, mul_comm64 n v]
    by_cases q1 : v = -9223372036854775808
    · by_cases q2 : n = -1
      · rw [decide_eq_true q1, decide_eq_true q2, decide_eq_true (show n = -1 ∧ v = -9223372036854775808 from ⟨q2, q1⟩)]; rfl
      · rw [decide_eq_true q1, decide_eq_false q2, decide_eq_false (show ¬ (n = -1 ∧ v = -9223372036854775808) from fun z => q2 z.1)]; rfl
    · rw [decide_eq_false q1, decide_eq_false (show ¬ (n = -1 ∧ v = -9223372036854775808) from fun z => q1 z.2)]; rfl
theorem sq_in (x : Int) (h1 : -9223372036854775808 ≤ x) (h2 : x < 9223372036854775808) : inR (x * x) = decide (-3037000499 ≤ x ∧ x ≤ 3037000499) := by
  unfold inR
  by_cases q : -3037000499 ≤ x ∧ x ≤ 3037000499
  · rw [decide_eq_true q, decide_eq_true]
    have : (x * x).natAbs ≤ 3037000499 * 3037000499 := by
      rw [Int.natAbs_mul]
      exact Nat.mul_le_mul (by omega) (by omega)
    have p : 0 ≤ x * x := by
      rcases Int.le_total 0 x with z | z
      · exact Int.mul_nonneg z z
      · exact Int.mul_nonneg_of_nonpos_of_nonpos z z
    omega
  · rw [decide_eq_false q, decide_eq_false]
    have : 3037000500 * 3037000500 ≤ (x * x).natAbs := by
      rw [Int.natAbs_mul]
      exact Nat.mul_le_mul (by omega) (by omega)
    omega
theorem c_square : zev mX2_square 0 [.ref 232] (mset g v false) = some (none, mset g (v * v) (tov v v)) := by
  have k := sq_in v.toInt (i64_lo v) (i64_hi v)
  unfold tov
  rw [k, uX2_square_0, mset_3, mset_2, cmp_gt, cmp_ge, show (3037000499 : Int64).toInt = 3037000499 from rfl, show (-3037000499 : Int64).toInt = -3037000499 from rfl, show (0 : Int32) = bI false from rfl, show (1 : Int32) = bI true from rfl, mset_I, mset_I, mset_2, mset_2, mset_L, mset_L]
  by_cases q1 : 3037000499 < v.toInt
  · rw [decide_eq_true q1, decide_eq_false (show ¬ (-3037000499 ≤ v.toInt ∧ v.toInt ≤ 3037000499) by omega)]; rfl
  · by_cases q2 : -3037000499 ≤ v.toInt
    · rw [decide_eq_false q1, decide_eq_true q2, decide_eq_true (show (-3037000499 ≤ v.toInt ∧ v.toInt ≤ 3037000499) by omega)]; rfl
    · rw [decide_eq_false q1, decide_eq_false q2, decide_eq_false (show ¬ (-3037000499 ≤ v.toInt ∧ v.toInt ≤ 3037000499) by omega)]; rfl
theorem c_takeStep (a b : Int32) : zev mX2_takeStep 0 [.ref 232, .int a, .int b] (mset g v false) = some (none, mset g (stV a b v).1 (stV a b v).2) := by
  unfold stV
  rw [uX2_takeStep_0, c_plus, zaV_some, c_times, zaV_some, c_takenFrom, zaV_some, c_square, zaV_some, mset_2, mset_L, mset_L, mset_L, mset_L, z64_0]
  cases decide (a.toInt = 0)
  · cases decide (a.toInt = 1)
    · cases decide (a.toInt = 2)
      · cases decide (a.toInt = 3)
        · cases decide (a.toInt = 4)
          · cases decide (a.toInt = 5) <;> rfl
          · rfl
        · rfl
      · cases decide (b = 0) <;> rfl
    · rfl
  · rfl
/-! the reference -/
def rset (g : zIJ) (o : Bool) : zIJ := zsI g 250 21 (bI o)
theorem rset_v (g : zIJ) (o : Bool) : (rset g o).1 250 21 = bI o := zI_same _ _ _ _
theorem rset_r (g : zIJ) (o p : Bool) : zsI (rset g o) 250 21 (bI p) = rset g p := zI_II _ _ _ _ _
theorem bI_or (o p : Bool) : bI o ||| bI p = bI (o || p) := by cases o <;> cases p <;> rfl
theorem r_plus (o : Bool) (a b : Int64) : zev mX12_plus 0 [.ref 250, .long a, .long b] (rset g o) = some (some (.long (a + b)), rset g (o || pov a b)) := by
  rw [uX12_plus_0, rset_v, ge0, show (0 : Int32) = bI false from rfl, show (1 : Int32) = bI true from rfl, bI_or, bI_or, bI_bit, bI_bit, rset_r, rset_r]
  unfold pov
  cases decide (((a ^^^ (a + b)) &&& (b ^^^ (a + b))).toInt < 0) <;> rfl
theorem r_minus (o : Bool) (a b : Int64) : zev mX12_minus 0 [.ref 250, .long a, .long b] (rset g o) = some (some (.long (a - b)), rset g (o || mov a b)) := by
  rw [uX12_minus_0, rset_v, ge0, show (0 : Int32) = bI false from rfl, show (1 : Int32) = bI true from rfl, bI_or, bI_or, bI_bit, bI_bit, rset_r, rset_r]
  unfold mov
  cases decide (((a ^^^ b) &&& (a ^^^ (a - b))).toInt < 0) <;> rfl
theorem r_times (o : Bool) (a b : Int64) : zev mX12_times 0 [.ref 250, .long a, .long b] (rset g o) = some (some (.long (a * b)), rset g (o || tov a b)) := by
  rw [uX12_times_0, rset_v, cmp_eq, cmp_eq, cmp_eq, cmp_eq, show (0 : Int32) = bI false from rfl, show (1 : Int32) = bI true from rfl, bI_or, bI_or, bI_bit, bI_bit, rset_r, rset_r]
  by_cases a0 : a = 0
  · have e2 : tov a b = false := by unfold tov; rw [a0, show (0 : Int64).toInt = 0 from rfl, Int.zero_mul]; rfl
    rw [decide_eq_true a0, e2]; rfl
  · have k := mul_ok (a := a) (b := b) a0
    unfold tov
    rw [← k, decide_eq_false a0]
    by_cases q1 : a = -1
    · by_cases q2 : b = -9223372036854775808
      · rw [decide_eq_true q1, decide_eq_true q2, decide_eq_true (show a = -1 ∧ b = -9223372036854775808 from ⟨q1, q2⟩)]; cases o <;> rfl
      · rw [decide_eq_true q1, decide_eq_false q2, decide_eq_false (show ¬ (a = -1 ∧ b = -9223372036854775808) from fun z => q2 z.2)]
        cases decide (a * b / a = b) <;> rfl
    · rw [decide_eq_false q1, decide_eq_false (show ¬ (a = -1 ∧ b = -9223372036854775808) from fun z => q1 z.1)]
      cases decide (a * b / a = b) <;> rfl
end
