/-! Polygons: a point far away, and a point near the middle of each edge. -/
theorem cc_P {X Y : Nat → Int} {P : Nat → Prop} (h : ∀ a b c, P a → P b → P c → a ≠ b → a ≠ c → b ≠ c → dt X Y a b c ≠ 0) : CC P (oXY X Y) := by
  refine ⟨?_, ?_, ?_⟩
  · intro a b c pa pb pc nab nac nbc
    have h0 := h a b c pa pb pc nab nac nbc
    refine ⟨?_, ?_⟩
    · unfold oXY; rw [dt_rot]
    · unfold oXY
      rw [dt_sw]
      by_cases q : 0 < dt X Y a b c
      · rw [decide_eq_true q, decide_eq_false (by omega)]; rfl
      · rw [decide_eq_false q, decide_eq_true (by omega)]; rfl
  · intro a b c d pa pb pc pd nab nac nad nbc nbd ncd
    have h1 := h a b c pa pb pc nab nac nbc
    have h2 := h a b d pa pb pd nab nad nbd
    have h3 := h a c d pa pc pd nac nad ncd
    have h4 := h b c d pb pc pd nbc nbd ncd
    have e := dt_4 (X := X) (Y := Y) a b c d
    unfold oXY ccFA
    by_cases q1 : 0 < dt X Y a b c <;> by_cases q2 : 0 < dt X Y a b d <;> by_cases q3 : 0 < dt X Y a c d <;> by_cases q4 : 0 < dt X Y b c d <;> simp [q1, q2, q3, q4] <;> omega
  · intro t a b c d pt pa pb pc pd nta ntb ntc ntd nab nac nad nbc nbd ncd
    have h1 := h t a b pt pa pb nta ntb nab
    have h2 := h t a c pt pa pc nta ntc nac
    have h3 := h t a d pt pa pd nta ntd nad
    have h4 := h t b c pt pb pc ntb ntc nbc
    have h5 := h t b d pt pb pd ntb ntd nbd
    have h6 := h t c d pt pc pd ntc ntd ncd
    have e := dt_5 (X := X) (Y := Y) t a b c d
    apply bt
    intro hf
    unfold ccFG oXY at hf
    simp only [Bool.not_eq_false', Bool.or_eq_true, Bool.and_eq_true, beq_iff_eq, bne_iff_ne] at hf
    rcases hf with ⟨⟨k1, k2⟩, k3⟩ | ⟨⟨k1, k2⟩, k3⟩
    · have := mul_same h1 h6 k1
      have := mul_diff h2 h5 k2
      have := mul_same h3 h4 k3
      omega
    · have := mul_diff h1 h6 k1
      have := mul_same h2 h5 k2
      have := mul_diff h3 h4 k3
      omega
theorem mulB {x y : Int} {h k : Nat} (h1 : x.natAbs ≤ h) (h2 : y.natAbs ≤ k) : (x * y).natAbs ≤ h * k := by
  rw [Int.natAbs_mul]
  exact Nat.mul_le_mul h1 h2
theorem mulP {x y l : Int} (hx : 1 ≤ x) (hy : l ≤ y) (hl : 0 ≤ l) : l ≤ x * y := by
  have := Int.mul_le_mul_of_nonneg_right (c := y) hx (by omega)
  omega
theorem mulN {x y l : Int} (hx : x ≤ -1) (hy : l ≤ y) (hl : 0 ≤ l) : x * y ≤ -l := by
  have := Int.mul_le_mul_of_nonneg_right (c := y) hx (by omega)
  omega
def eX (X : Nat → Int) (m k : Nat) : Int := if k < m then 2000000000 * X k else if k = m then 2000000000 * 1000000 else 1000000000 * (X (eLo (k - m - 1)) + X (eHi (k - m - 1))) + 1
def eY (Y : Nat → Int) (m k : Nat) : Int := if k < m then 2000000000 * Y k else if k = m then 2000000000 * 1000 else 1000000000 * (Y (eLo (k - m - 1)) + Y (eHi (k - m - 1))) + 1000
/-- q lies below p -/
def blw (X Y : Nat → Int) (p q : Nat) : Prop := Y q < Y p ∨ (Y q = Y p ∧ X p < X q)
section
variable {X Y : Nat → Int} {m : Nat}
theorem eX_c {p : Nat} (h : p < m) : eX X m p = 2000000000 * X p := by unfold eX; rw [if_pos h]
theorem eY_c {p : Nat} (h : p < m) : eY Y m p = 2000000000 * Y p := by unfold eY; rw [if_pos h]
theorem eX_f : eX X m m = 2000000000 * 1000000 := by unfold eX; rw [if_neg (by omega), if_pos rfl]
theorem eY_f : eY Y m m = 2000000000 * 1000 := by unfold eY; rw [if_neg (by omega), if_pos rfl]
theorem eX_m (e : Nat) : eX X m (m + 1 + e) = 1000000000 * (X (eLo e) + X (eHi e)) + 1 := by unfold eX; rw [if_neg (by omega), if_neg (by omega), show m + 1 + e - m - 1 = e from by omega]
theorem eY_m (e : Nat) : eY Y m (m + 1 + e) = 1000000000 * (Y (eLo e) + Y (eHi e)) + 1000 := by unfold eY; rw [if_neg (by omega), if_neg (by omega), show m + 1 + e - m - 1 = e from by omega]
theorem e_ccc {p q s : Nat} (hp : p < m) (hq : q < m) (hs : s < m) : dt (eX X m) (eY Y m) p q s = 4000000000000000000 * dt X Y p q s := by
  unfold dt
  rw [eX_c hp, eX_c hq, eX_c hs, eY_c hp, eY_c hq, eY_c hs]
  grind
theorem o_ccc {p q s : Nat} (hp : p < m) (hq : q < m) (hs : s < m) : oXY (eX X m) (eY Y m) p q s = oXY X Y p q s := by
  unfold oXY
  rw [e_ccc hp hq hs]
  exact decide_eq_decide.mpr ⟨fun z => by omega, fun z => by omega⟩
theorem e_ccf {p q : Nat} (hp : p < m) (hq : q < m) : dt (eX X m) (eY Y m) p q m = 4000000000000000000 * ((X q - X p) * (1000 - Y p) - (Y q - Y p) * (1000000 - X p)) := by
  unfold dt
  rw [eX_c hp, eX_c hq, eX_f, eY_c hp, eY_c hq, eY_f]
  grind
theorem e_cmf {p : Nat} (e : Nat) (hp : p < m) : dt (eX X m) (eY Y m) p (m + 1 + e) m = 2000000000 * (1000000000 * ((X (eLo e) + X (eHi e) - 2 * X p) * (1000 - Y p)) + (1000 - Y p) - 1000000000 * ((Y (eLo e) + Y (eHi e) - 2 * Y p) * (1000000 - X p)) - 1000 * (1000000 - X p)) := by
  unfold dt
  rw [eX_c hp, eX_m, eX_f, eY_c hp, eY_m, eY_f]
  grind
def mdD (X Y : Nat → Int) (e p q : Nat) : Int := dt X Y p q (eLo e) + dt X Y p q (eHi e)
theorem e_ccm {p q : Nat} (e : Nat) (hp : p < m) (hq : q < m) : dt (eX X m) (eY Y m) p q (m + 1 + e) = 2000000000 * (1000000000 * mdD X Y e p q + 1000 * (X q - X p) - (Y q - Y p)) := by
  unfold mdD dt
  rw [eX_c hp, eX_c hq, eX_m, eY_c hp, eY_c hq, eY_m]
  grind
theorem s_ccf (hN : Near X Y m) (hd : Dist X Y m) {p q : Nat} (hp : p < m) (hq : q < m) (ne : p ≠ q) : (dt (eX X m) (eY Y m) p q m ≠ 0) ∧ (0 < dt (eX X m) (eY Y m) p q m ↔ blw X Y p q) := by
  have k1 := hN p hp
  have k2 := hN q hq
  have kd := hd p q hp hq ne
  rw [e_ccf hp hq]
  unfold blw
  have b1 := mulB (x := X q - X p) (y := 1000 - Y p) (h := 198) (k := 1099) (by omega) (by omega)
  rcases Int.lt_trichotomy (Y q) (Y p) with z | z | z
  · have b2 := mulN (x := Y q - Y p) (y := 1000000 - X p) (l := 999901) (by omega) (by omega) (by omega)
    omega
  · have e0 : Y q - Y p = 0 := by omega
    rw [e0, Int.zero_mul]
    rcases Int.lt_trichotomy (X q) (X p) with y | y | y
    · have b2 := mulN (x := X q - X p) (y := 1000 - Y p) (l := 901) (by omega) (by omega) (by omega)
      omega
    · omega
    · have b2 := mulP (x := X q - X p) (y := 1000 - Y p) (l := 901) (by omega) (by omega) (by omega)
      omega
  · have b2 := mulP (x := Y q - Y p) (y := 1000000 - X p) (l := 999901) (by omega) (by omega) (by omega)
    omega
theorem s_cmf (hN : Near X Y m) {e p : Nat} (ha : eLo e < m) (hb : eHi e < m) (hp : p < m) (ne : X (eLo e) + X (eHi e) ≠ 2 * X p ∨ Y (eLo e) + Y (eHi e) ≠ 2 * Y p) : (dt (eX X m) (eY Y m) p (m + 1 + e) m ≠ 0) ∧ (0 < dt (eX X m) (eY Y m) p (m + 1 + e) m ↔ (Y (eLo e) + Y (eHi e) < 2 * Y p ∨ (Y (eLo e) + Y (eHi e) = 2 * Y p ∧ 2 * X p < X (eLo e) + X (eHi e)))) := by
  have k1 := hN p hp
  have k2 := hN _ ha
  have k3 := hN _ hb
  rw [e_cmf e hp]
  have b1 := mulB (x := X (eLo e) + X (eHi e) - 2 * X p) (y := 1000 - Y p) (h := 396) (k := 1099) (by omega) (by omega)
  rcases Int.lt_trichotomy (Y (eLo e) + Y (eHi e)) (2 * Y p) with z | z | z
  · have b2 := mulN (x := Y (eLo e) + Y (eHi e) - 2 * Y p) (y := 1000000 - X p) (l := 999901) (by omega) (by omega) (by omega)
    omega
  · have e0 : Y (eLo e) + Y (eHi e) - 2 * Y p = 0 := by omega
    rw [e0, Int.zero_mul]
    rcases Int.lt_trichotomy (X (eLo e) + X (eHi e)) (2 * X p) with y | y | y
    · have b2 := mulN (x := X (eLo e) + X (eHi e) - 2 * X p) (y := 1000 - Y p) (l := 901) (by omega) (by omega) (by omega)
      omega
    · omega
    · have b2 := mulP (x := X (eLo e) + X (eHi e) - 2 * X p) (y := 1000 - Y p) (l := 901) (by omega) (by omega) (by omega)
      omega
  · have b2 := mulP (x := Y (eLo e) + Y (eHi e) - 2 * Y p) (y := 1000000 - X p) (l := 999901) (by omega) (by omega) (by omega)
    omega
theorem s_ccm (hN : Near X Y m) (hd : Dist X Y m) {e p q : Nat} (hp : p < m) (hq : q < m) (ne : p ≠ q) : (dt (eX X m) (eY Y m) p q (m + 1 + e) ≠ 0) ∧ (mdD X Y e p q ≠ 0 → (0 < dt (eX X m) (eY Y m) p q (m + 1 + e) ↔ 0 < mdD X Y e p q)) := by
  have k1 := hN p hp
  have k2 := hN q hq
  have kd := hd p q hp hq ne
  rw [e_ccm e hp hq]
  refine ⟨?_, fun z => ?_⟩
  · omega
  · omega
/-- no corner in the middle of an edge -/
theorem mid_ne (hG : GP X Y m) (hd : Dist X Y m) {e p : Nat} (ha : eLo e < m) (hb : eHi e < m) (nab : eLo e ≠ eHi e) (hp : p < m) : X (eLo e) + X (eHi e) ≠ 2 * X p ∨ Y (eLo e) + Y (eHi e) ≠ 2 * Y p := by
  have kd := hd _ _ ha hb nab
  by_cases e1 : p = eLo e
  · rw [e1]; omega
  · by_cases e2 : p = eHi e
    · rw [e2]; omega
    · refine Decidable.byContradiction (fun z => ?_)
      have z1 : X (eHi e) = 2 * X p - X (eLo e) := by omega
      have z2 : Y (eHi e) = 2 * Y p - Y (eLo e) := by omega
      refine hG _ _ p ha hb hp nab (Ne.symm e1) (Ne.symm e2) ?_
      unfold dt
      rw [z1, z2]
      grind
def eP (m e x : Nat) : Prop := x < m ∨ x = m ∨ x = m + 1 + e
theorem e_cc (hN : Near X Y m) (hG : GP X Y m) (hd : Dist X Y m) {e : Nat} (ha : eLo e < m) (hb : eHi e < m) (nab : eLo e ≠ eHi e) : CC (eP m e) (oXY (eX X m) (eY Y m)) := by
  have F0 : ∀ p q s, p < m → q < m → s < m → p ≠ q → p ≠ s → q ≠ s → dt (eX X m) (eY Y m) p q s ≠ 0 := fun p q s hp hq hs n1 n2 n3 => by
    have := hG p q s hp hq hs n1 n2 n3
    rw [e_ccc hp hq hs]; omega
  have F1 : ∀ p q, p < m → q < m → p ≠ q → dt (eX X m) (eY Y m) p q m ≠ 0 := fun p q hp hq n => (s_ccf hN hd hp hq n).1
  have F2 : ∀ p q, p < m → q < m → p ≠ q → dt (eX X m) (eY Y m) p q (m + 1 + e) ≠ 0 := fun p q hp hq n => (s_ccm hN hd hp hq n).1
  have F3 : ∀ p, p < m → dt (eX X m) (eY Y m) p (m + 1 + e) m ≠ 0 := fun p hp => (s_cmf hN ha hb hp (mid_ne hG hd ha hb nab hp)).1
  have F4 : ∀ p, p < m → dt (eX X m) (eY Y m) (m + 1 + e) p m ≠ 0 := fun p hp z => F3 p hp (by rw [dt_sw] at z; omega)
  refine cc_P (fun a b c pa pb pc nab nac nbc => ?_)
  rcases pa with a1 | a1 | a1 <;> rcases pb with b1 | b1 | b1 <;> rcases pc with c1 | c1 | c1
  · exact F0 a b c a1 b1 c1 nab nac nbc
  · rw [c1]; exact F1 a b a1 b1 nab
  · rw [c1]; exact F2 a b a1 b1 nab
  · rw [b1, dt_rot c a m]; exact F1 c a c1 a1 nac.symm
  · omega
  · rw [b1, c1, dt_rot (m + 1 + e) a m]; exact F4 a a1
  · rw [b1, dt_rot c a (m + 1 + e)]; exact F2 c a c1 a1 nac.symm
  · rw [b1, c1]; exact F3 a a1
  · omega
  · rw [a1, ← dt_rot m b c]; exact F1 b c b1 c1 nbc
  · omega
  · rw [a1, c1, ← dt_rot m b (m + 1 + e)]; exact F3 b b1
  · omega
  · omega
  · omega
  · rw [a1, b1, ← dt_rot m (m + 1 + e) c]; exact F4 c c1
  · omega
  · omega
  · rw [a1, ← dt_rot (m + 1 + e) b c]; exact F2 b c b1 c1 nbc
  · rw [a1, c1]; exact F4 b b1
  · omega
  · rw [a1, b1, dt_rot c (m + 1 + e) m]; exact F3 c c1
  · omega
  · omega
  · omega
  · omega
  · omega
end
