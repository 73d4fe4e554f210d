/-! How many bits: the JDK's count. -/
def mk8 (c : Nat) : Nat → Nat
  | 0 => 0
  | k + 1 => c + 256 * mk8 c k
theorem and_spl {a m c n : Nat} (ha : a < 256) (hm : m < 256) : (a + 256 * c) &&& (m + 256 * n) = (a &&& m) + 256 * (c &&& n) := by
  have e : ∀ x y : Nat, x < 256 → ∀ i, (x + 256 * y).testBit i = if i < 8 then x.testBit i else y.testBit (i - 8) := by
    intro x y hx i
    have := Nat.testBit_two_pow_mul_add y (i := 8) (b := x) hx i
    rw [Nat.add_comm]
    exact this
  have hlt : a &&& m < 256 := Nat.lt_of_le_of_lt Nat.and_le_left ha
  apply Nat.eq_of_testBit_eq
  intro i
  rw [Nat.testBit_and, e a c ha, e m n hm, e _ _ hlt]
  by_cases q : i < 8
  · rw [if_pos q, if_pos q, if_pos q, Nat.testBit_and]
  · rw [if_neg q, if_neg q, if_neg q, Nat.testBit_and]
def st1 (b : Nat) : Nat := b - ((b / 2) &&& 85)
def st2 (b : Nat) : Nat := (b &&& 51) + ((b / 4) &&& 51)
def st3 (b : Nat) : Nat := (b + b / 16) &&& 15
def sg1 (k x : Nat) : Nat := x - ((x / 2) &&& mk8 85 k)
def sg2 (k x : Nat) : Nat := (x &&& mk8 51 k) + ((x / 4) &&& mk8 51 k)
def sg3 (k x : Nat) : Nat := (x + x / 16) &&& mk8 15 k
theorem st1_c : (List.range 128).all (fun v => Nat.beq ((v + 128) &&& 85) (v &&& 85)) = true := by decide +kernel
theorem st2_c : (List.range 64).all (fun v => Nat.beq ((v + 64) &&& 51) (v &&& 51) && (Nat.beq ((v + 128) &&& 51) (v &&& 51) && Nat.beq ((v + 192) &&& 51) (v &&& 51))) = true := by decide +kernel
theorem st3_c : (List.range 69).all (fun b => Nat.beq ((b + b / 16 + 16) &&& 15) ((b + b / 16) &&& 15) && (Nat.beq ((b + b / 16 + 32) &&& 15) ((b + b / 16) &&& 15) && (Nat.beq ((b + b / 16 + 48) &&& 15) ((b + b / 16) &&& 15) && Nat.beq ((b + b / 16 + 64) &&& 15) ((b + b / 16) &&& 15)))) = true := by decide +kernel
theorem st_all : (List.range 256).all (fun b => Nat.blt (st1 b) 256 && (Nat.ble (st2 (st1 b)) 68 && (Nat.ble (st2 (st1 b) % 16) 4 && (Nat.beq (st3 (st2 (st1 b))) (sumR (fun i => cond (b.testBit i) 1 0) 8) && Nat.ble (st3 (st2 (st1 b))) 8)))) = true := by decide +kernel
theorem st_at {b : Nat} (hb : b < 256) : st1 b < 256 ∧ st2 (st1 b) ≤ 68 ∧ st2 (st1 b) % 16 ≤ 4 ∧ st3 (st2 (st1 b)) = sumR (fun i => cond (b.testBit i) 1 0) 8 ∧ st3 (st2 (st1 b)) ≤ 8 := by
  have h := st_all
  rw [List.all_eq_true] at h
  have h := h b (List.mem_range.mpr hb)
  rw [Bool.and_eq_true, Bool.and_eq_true, Bool.and_eq_true, Bool.and_eq_true] at h
  exact ⟨Nat.ble_eq.mp h.1, Nat.ble_eq.mp h.2.1, Nat.ble_eq.mp h.2.2.1, Nat.eq_of_beq_eq_true h.2.2.2.1, Nat.ble_eq.mp h.2.2.2.2⟩
theorem sg1_s {b : Nat} (hb : b < 256) (r k : Nat) : sg1 (k + 1) (b + 256 * r) = st1 b + 256 * sg1 k r := by
  have h := st1_c
  rw [List.all_eq_true] at h
  have h := Nat.eq_of_beq_eq_true (h (b / 2) (List.mem_range.mpr (by omega)))
  unfold sg1 st1
  rw [show mk8 85 (k + 1) = 85 + 256 * mk8 85 k from rfl]
  have e : (b + 256 * r) / 2 = (b / 2 + 128 * (r % 2)) + 256 * (r / 2) := by omega
  rw [e, and_spl (by omega) (by omega)]
  have e2 : (b / 2 + 128 * (r % 2)) &&& 85 = (b / 2) &&& 85 := by
    rcases Nat.mod_two_eq_zero_or_one r with q | q
    · rw [q]; rfl
    · rw [q]; exact h
  rw [e2]
  have l1 : (b / 2) &&& 85 ≤ b / 2 := Nat.and_le_left
  have l2 : (r / 2) &&& mk8 85 k ≤ r / 2 := Nat.and_le_left
  omega
theorem sg2_s {b : Nat} (hb : b < 256) (r k : Nat) : sg2 (k + 1) (b + 256 * r) = st2 b + 256 * sg2 k r := by
  have h := st2_c
  rw [List.all_eq_true] at h
  have h := h (b / 4) (List.mem_range.mpr (by omega))
  rw [Bool.and_eq_true, Bool.and_eq_true] at h
  unfold sg2 st2
  rw [show mk8 51 (k + 1) = 51 + 256 * mk8 51 k from rfl]
  have e : (b + 256 * r) / 4 = (b / 4 + 64 * (r % 4)) + 256 * (r / 4) := by omega
  rw [e, and_spl (a := b) (c := r) hb (by omega), and_spl (a := b / 4 + 64 * (r % 4)) (c := r / 4) (by omega) (by omega)]
  have e2 : (b / 4 + 64 * (r % 4)) &&& 51 = (b / 4) &&& 51 := by
    have : r % 4 = 0 ∨ r % 4 = 1 ∨ r % 4 = 2 ∨ r % 4 = 3 := by omega
    rcases this with q | q | q | q
    · rw [q]; rfl
    · rw [q]; exact Nat.eq_of_beq_eq_true h.1
    · rw [q]; exact Nat.eq_of_beq_eq_true h.2.1
    · rw [q]; exact Nat.eq_of_beq_eq_true h.2.2
  rw [e2]
  omega
theorem sg3_s {b : Nat} (hb : b ≤ 68) {r : Nat} (hr : r % 16 ≤ 4) (k : Nat) : sg3 (k + 1) (b + 256 * r) = st3 b + 256 * sg3 k r := by
  have h := st3_c
  rw [List.all_eq_true] at h
  have h := h b (List.mem_range.mpr (by omega))
  rw [Bool.and_eq_true, Bool.and_eq_true, Bool.and_eq_true] at h
  unfold sg3 st3
  rw [show mk8 15 (k + 1) = 15 + 256 * mk8 15 k from rfl]
  have e : b + 256 * r + (b + 256 * r) / 16 = (b + b / 16 + 16 * (r % 16)) + 256 * (r + r / 16) := by omega
  rw [e, and_spl (by omega) (by omega)]
  have e2 : (b + b / 16 + 16 * (r % 16)) &&& 15 = (b + b / 16) &&& 15 := by
    have : r % 16 = 0 ∨ r % 16 = 1 ∨ r % 16 = 2 ∨ r % 16 = 3 ∨ r % 16 = 4 := by omega
    rcases this with q | q | q | q | q
    · rw [q]; rfl
    · rw [q]; exact Nat.eq_of_beq_eq_true h.1
    · rw [q]; exact Nat.eq_of_beq_eq_true h.2.1
    · rw [q]; exact Nat.eq_of_beq_eq_true h.2.2.1
    · rw [q]; exact Nat.eq_of_beq_eq_true h.2.2.2
  rw [e2]
theorem sg2_m {b : Nat} (hb : b < 256) (r k : Nat) : sg2 (k + 1) (st1 b + 256 * r) % 16 = st2 (st1 b) % 16 := by
  rw [sg2_s (st_at hb).1]
  omega
/-- all three at once, byte by byte -/
theorem sg_s {b : Nat} (hb : b < 256) {r k : Nat} (hr : sg2 k (sg1 k r) % 16 ≤ 4) : sg3 (k + 1) (sg2 (k + 1) (sg1 (k + 1) (b + 256 * r))) = st3 (st2 (st1 b)) + 256 * sg3 k (sg2 k (sg1 k r)) := by
  rw [sg1_s hb, sg2_s (st_at hb).1, sg3_s (st_at hb).2.1 hr]
theorem sg_m {b : Nat} (hb : b < 256) (r k : Nat) : sg2 (k + 1) (sg1 (k + 1) (b + 256 * r)) % 16 ≤ 4 := by
  rw [sg1_s hb, sg2_m hb]
  exact (st_at hb).2.2.1
theorem sg_0 (k : Nat) : sg2 k (sg1 k 0) % 16 ≤ 4 ∧ sg3 k (sg2 k (sg1 k 0)) = 0 := by
  have e1 : sg1 k 0 = 0 := by unfold sg1; simp
  have e2 : sg2 k 0 = 0 := by unfold sg2; simp
  have e3 : sg3 k 0 = 0 := by unfold sg3; simp
  rw [e1, e2, e3]
  exact ⟨by omega, rfl⟩
def bcN (x : Nat) : Nat := sumR (fun i => cond (x.testBit i) 1 0) 40
theorem sumR_spl (f : Nat → Nat) (m : Nat) : ∀ k, sumR f (m + k) = sumR f m + sumR (fun i => f (m + i)) k
  | 0 => rfl
  | k + 1 => by
    show sumR f (m + k) + f (m + k) = _
    rw [sumR_spl f m k]
    show _ = _ + (sumR (fun i => f (m + i)) k + f (m + k))
    omega
theorem bc_byte {b : Nat} (hb : b < 256) (r k : Nat) : sumR (fun i => cond ((b + 256 * r).testBit i) 1 0) (8 + k) = sumR (fun i => cond (b.testBit i) 1 0) 8 + sumR (fun i => cond (r.testBit i) 1 0) k := by
  have e : ∀ i, (b + 256 * r).testBit i = if i < 8 then b.testBit i else r.testBit (i - 8) := by
    intro i
    have := Nat.testBit_two_pow_mul_add r (i := 8) (b := b) hb i
    rw [Nat.add_comm]
    exact this
  rw [sumR_spl]
  congr 1
  · exact sumR_eq 8 (fun i hi => by rw [e, if_pos hi])
  · exact sumR_eq k (fun i _ => by rw [e, if_neg (by omega), show 8 + i - 8 = i from by omega])
theorem sg_all {x : Nat} (hx : x < 2 ^ 40) : ∃ p0 p1 p2 p3 p4, sg3 8 (sg2 8 (sg1 8 x)) = p0 + 256 * (p1 + 256 * (p2 + 256 * (p3 + 256 * p4))) ∧ p0 ≤ 8 ∧ p1 ≤ 8 ∧ p2 ≤ 8 ∧ p3 ≤ 8 ∧ p4 ≤ 8 ∧ bcN x = p0 + p1 + p2 + p3 + p4 := by
  obtain ⟨b0, r0, h0, e0⟩ : ∃ b r, b < 256 ∧ x = b + 256 * r := ⟨x % 256, x / 256, by omega, by omega⟩
  obtain ⟨b1, r1, h1, e1⟩ : ∃ b r, b < 256 ∧ r0 = b + 256 * r := ⟨r0 % 256, r0 / 256, by omega, by omega⟩
  obtain ⟨b2, r2, h2, e2⟩ : ∃ b r, b < 256 ∧ r1 = b + 256 * r := ⟨r1 % 256, r1 / 256, by omega, by omega⟩
  obtain ⟨b3, b4, h3, e3⟩ : ∃ b r, b < 256 ∧ r2 = b + 256 * r := ⟨r2 % 256, r2 / 256, by omega, by omega⟩
  have h4 : b4 < 256 := by omega
  subst e3; subst e2; subst e1; subst e0
  have z := sg_0 3
  have e4 : b4 = b4 + 256 * 0 := by omega
  have m4 : sg2 4 (sg1 4 b4) % 16 ≤ 4 := by rw [e4]; exact sg_m h4 0 3
  have v4 : sg3 4 (sg2 4 (sg1 4 b4)) = st3 (st2 (st1 b4)) := by
    have := sg_s h4 (r := 0) (k := 3) z.1
    rw [z.2, ← e4] at this
    omega
  have v3 := sg_s h3 (r := b4) (k := 4) m4
  have m3 := sg_m h3 b4 4
  have v2 := sg_s h2 (r := b3 + 256 * b4) (k := 5) m3
  have m2 := sg_m h2 (b3 + 256 * b4) 5
  have v1 := sg_s h1 (r := b2 + 256 * (b3 + 256 * b4)) (k := 6) m2
  have m1 := sg_m h1 (b2 + 256 * (b3 + 256 * b4)) 6
  have v0 := sg_s h0 (r := b1 + 256 * (b2 + 256 * (b3 + 256 * b4))) (k := 7) m1
  refine ⟨_, _, _, _, _, ?_, (st_at h0).2.2.2.2, (st_at h1).2.2.2.2, (st_at h2).2.2.2.2, (st_at h3).2.2.2.2, (st_at h4).2.2.2.2, ?_⟩
  · rw [v0, v1, v2, v3, v4]
  · unfold bcN
    rw [show (40 : Nat) = 8 + (8 + (8 + (8 + 8))) from rfl, bc_byte h0, bc_byte h1, bc_byte h2, bc_byte h3, (st_at h0).2.2.2.1, (st_at h1).2.2.2.1, (st_at h2).2.2.2.1, (st_at h3).2.2.2.1, (st_at h4).2.2.2.1]
    omega
theorem lN_ush {x k : Nat} (hx : x < 2 ^ 64) (hk : k < 64) : ((lN x).toUInt64 >>> ((nI k).toInt64.toUInt64 &&& Int64.toUInt64 63)).toInt64 = lN (x / 2 ^ k) := by
  apply Int64.toBitVec_inj.mp
  show ((lN x).toUInt64 >>> ((nI k).toInt64.toUInt64 &&& Int64.toUInt64 63)).toBitVec = BitVec.ofNat 64 (x / 2 ^ k)
  rw [UInt64.toBitVec_shiftRight]
  show (BitVec.ofNat 64 x) >>> (((nI k).toInt64.toUInt64 &&& Int64.toUInt64 63).toBitVec % 64).toNat = _
  rw [s6_u k hk]
  apply BitVec.eq_of_toNat_eq
  rw [BitVec.toNat_ushiftRight, BitVec.toNat_ofNat, BitVec.toNat_ofNat, Nat.mod_eq_of_lt hx, Nat.shiftRight_eq_div_pow, Nat.mod_eq_of_lt (Nat.lt_of_le_of_lt (Nat.div_le_self _ _) hx)]
theorem mk8_5 : (6148914691236517205 : Int64) = lN (mk8 85 8) := by decide +kernel
theorem mk8_3 : (3689348814741910323 : Int64) = lN (mk8 51 8) := by decide +kernel
theorem mk8_f : (1085102592571150095 : Int64) = lN (mk8 15 8) := by decide +kernel
theorem lN_sub' {a b : Nat} (h : b ≤ a) : lN a - lN b = lN (a - b) := lN_sub h
theorem j_bitCount (g : zIJ) {x : Nat} (hx : x < 2 ^ 40) : zev mJ13_bitCount_95d88 0 [.long (lN x)] g = some (some (.int (nI (bcN x))), g) := by
  have s1 : sg1 8 x ≤ x := by unfold sg1; omega
  obtain ⟨p0, p1, p2, p3, p4, e, l0, l1, l2, l3, l4, eb⟩ := sg_all hx
  rw [uJ13_bitCount_95d88_0, mk8_5, show ((1 : Int32)) = nI 1 from rfl, lN_ush (by omega) (by omega), lN_and, lN_sub' (Nat.le_trans Nat.and_le_left (by omega))]
  show zev mJ13_bitCount_95d88 10 [.long (lN (sg1 8 x))] g = _
  have s2 : sg2 8 (sg1 8 x) < 2 ^ 42 := by
    unfold sg2
    have h1 : sg1 8 x &&& mk8 51 8 ≤ sg1 8 x := Nat.and_le_left
    have h2 : (sg1 8 x / 4) &&& mk8 51 8 ≤ sg1 8 x / 4 := Nat.and_le_left
    omega
  rw [uJ13_bitCount_95d88_10, mk8_3, show ((2 : Int32)) = nI 2 from rfl, lN_ush (by omega) (by omega), lN_and, lN_and, lN_add]
  show zev mJ13_bitCount_95d88 24 [.long (lN (sg2 8 (sg1 8 x)))] g = _
  rw [uJ13_bitCount_95d88_24, mk8_f, show ((4 : Int32)) = nI 4 from rfl, lN_ush (by omega) (by omega), lN_add, lN_and]
  show zev mJ13_bitCount_95d88 34 [.long (lN (sg3 8 (sg2 8 (sg1 8 x))))] g = _
  rw [e]
  generalize hy : p0 + 256 * (p1 + 256 * (p2 + 256 * (p3 + 256 * p4))) = y
  have y1 : y < 2 ^ 40 := by omega
  rw [uJ13_bitCount_95d88_34, show ((8 : Int32)) = nI 8 from rfl, lN_ush (by omega) (by omega), lN_add]
  have d1 : y / 2 ^ 8 = p1 + 256 * (p2 + 256 * (p3 + 256 * p4)) := by omega
  rw [uJ13_bitCount_95d88_41, show ((16 : Int32)) = nI 16 from rfl, lN_ush (by omega) (by omega), lN_add]
  generalize hy1 : y + y / 2 ^ 8 = z1
  have z1l : z1 < 2 ^ 41 := by omega
  rw [uJ13_bitCount_95d88_48, show ((32 : Int32)) = nI 32 from rfl, lN_ush (by omega) (by omega), lN_add]
  generalize hy2 : z1 + z1 / 2 ^ 16 = z2
  have z2l : z2 < 2 ^ 42 := by omega
  rw [uJ13_bitCount_95d88_55, lN_i, show ((127 : Int32)) = nI 127 from rfl, nI_and, show (127 : Nat) = 2 ^ 7 - 1 from rfl, Nat.and_two_pow_sub_one_eq_mod, eb]
  have z1e : z1 = (p0 + p1) + 256 * (p1 + p2) + 65536 * (p2 + p3) + 16777216 * (p3 + p4) + 4294967296 * p4 := by omega
  have z1d : z1 / 2 ^ 16 = (p2 + p3) + 256 * (p3 + p4) + 65536 * p4 := by
    clear hy2 z2l hy1 d1 hy y1
    omega
  have z2e : z2 = (p0 + p1 + p2 + p3) + 256 * (p1 + p2 + p3 + p4) + 65536 * (p2 + p3 + p4) + 16777216 * (p3 + p4) + 4294967296 * p4 := by
    rw [z1d] at hy2
    omega
  have z2d : z2 / 2 ^ 32 = p4 := by
    clear hy2 z2l hy1 d1 hy y1 z1e z1d
    omega
  have : (z2 + z2 / 2 ^ 32) % 2 ^ 7 = p0 + p1 + p2 + p3 + p4 := by
    rw [z2d]
    clear hy2 z2l hy1 d1 hy y1 z1e z1d z2d
    omega
  rw [this]
