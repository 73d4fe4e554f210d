/-! CONTRACTS. Tools: loops; whole numbers in ints; the reference's points. -/
def bI (b : Bool) : Int32 := cond b 1 0
theorem bI_0 (b : Bool) : decide (bI b = 0) = !b := by cases b <;> rfl
theorem bI_1 (b : Bool) : decide (bI b = 1) = b := by cases b <;> rfl
theorem bI_bit (b : Bool) : zbit (bI b) = true := by cases b <;> rfl
theorem zall {β : Type} {F : Nat → β} {R0 R1 : β} {n : Nat} {Q : Nat → Prop} (hs : ∀ i, i < n → F i = cond (cdec (Q i)) (F (i + 1)) R0) (he : F n = R1) : ∀ (k i : Nat), i + k = n → F i = cond (cdec (∀ j, i ≤ j → j < n → Q j)) R1 R0
  | 0, i, h => by
    have : i = n := by omega
    subst this
    rw [he, cdec_t (fun j h1 h2 => by omega)]
    rfl
  | k + 1, i, h => by
    rw [hs i (by omega)]
    by_cases q : Q i
    · rw [cdec_t q]
      show F (i + 1) = _
      rw [zall hs he k (i + 1) (by omega)]
      by_cases q2 : ∀ j, i + 1 ≤ j → j < n → Q j
      · rw [cdec_t q2, cdec_t (fun j h1 h2 => by
          by_cases e : j = i
          · subst e; exact q
          · exact q2 j (by omega) h2)]
      · rw [cdec_f q2, cdec_f (fun q3 => q2 (fun j h1 h2 => q3 j (by omega) h2))]
    · rw [cdec_f q, cdec_f (fun q3 => q (q3 i (Nat.le_refl i) (by omega)))]
      rfl
/-- the first of which it holds -/
theorem zfind {β : Type} {F R : Nat → β} {Rn : β} {n : Nat} {Q : Nat → Prop} (hs : ∀ i, i < n → F i = cond (cdec (Q i)) (R i) (F (i + 1))) (he : F n = Rn) : ∀ (k i : Nat), i + k = n → ((∀ j, i ≤ j → j < n → ¬ Q j) ∧ F i = Rn) ∨ ∃ j, i ≤ j ∧ j < n ∧ Q j ∧ (∀ l, i ≤ l → l < j → ¬ Q l) ∧ F i = R j
  | 0, i, h => by
    have : i = n := by omega
    subst this
    exact Or.inl ⟨fun j h1 h2 => by omega, he⟩
  | k + 1, i, h => by
    rw [hs i (by omega)]
    by_cases q : Q i
    · rw [cdec_t q]
      exact Or.inr ⟨i, Nat.le_refl _, by omega, q, fun l h1 h2 => by omega, rfl⟩
    · rw [cdec_f q]
      rcases zfind hs he k (i + 1) (by omega) with ⟨h1, h2⟩ | ⟨j, h1, h2, h3, h4, h5⟩
      · refine Or.inl ⟨fun j a b => ?_, h2⟩
        by_cases e : j = i
        · subst e; exact q
        · exact h1 j (by omega) b
      · refine Or.inr ⟨j, by omega, h2, h3, fun l a b => ?_, h5⟩
        by_cases e : l = i
        · subst e; exact q
        · exact h4 l (by omega) b
/-- a state that goes round -/
def itr {σ : Type} (h : Nat → σ → σ) : Nat → Nat → σ → σ
  | 0, _, s => s
  | k + 1, i, s => itr h k (i + 1) (h i s)
theorem ziter {σ β : Type} {F : Nat → σ → β} {R : σ → β} {n : Nat} {h : Nat → σ → σ} (hs : ∀ i s, i < n → F i s = F (i + 1) (h i s)) (he : ∀ s, F n s = R s) : ∀ (k i : Nat) (s : σ), i + k = n → F i s = R (itr h k i s)
  | 0, i, s, e => by
    have : i = n := by omega
    subst this
    exact he s
  | k + 1, i, s, e => by
    rw [hs i s (by omega), ziter hs he k (i + 1) _ (by omega)]
    rfl
theorem cdec_b (b : Bool) : cdec (b = true) = b := by
  cases b
  · exact cdec_f (fun h => nomatch h)
  · exact cdec_t rfl
theorem cdec_bf (b : Bool) : cdec (b = false) = !b := by
  cases b
  · exact cdec_t rfl
  · exact cdec_f (fun h => nomatch h)
/-! ints -/
def cI (x : Int) : Int32 := Int32.ofInt x
theorem cI_toInt {x : Int} (h1 : -2147483648 ≤ x) (h2 : x < 2147483648) : (cI x).toInt = x := Int32.toInt_ofInt_of_le (by omega) (by omega)
theorem cI_add (x y : Int) : cI x + cI y = cI (x + y) := (Int32.ofInt_add x y).symm
theorem cI_sub (x y : Int) : cI x - cI y = cI (x - y) := (Int32.ofInt_sub x y).symm
theorem cI_mul (x y : Int) : cI x * cI y = cI (x * y) := (Int32.ofInt_mul x y).symm
theorem cI_0 : (0 : Int32) = cI 0 := rfl
def Sml (x : Int) : Prop := -1000000000 ≤ x ∧ x ≤ 1000000000
theorem cI_lt {x y : Int} (hx : Sml x) (hy : Sml y) : (cI x < cI y) ↔ x < y := by
  unfold Sml at hx hy
  rw [Int32.lt_iff_toInt_lt, cI_toInt (by omega) (by omega), cI_toInt (by omega) (by omega)]
theorem cI_le {x y : Int} (hx : Sml x) (hy : Sml y) : (cI x ≤ cI y) ↔ x ≤ y := by
  unfold Sml at hx hy
  rw [Int32.le_iff_toInt_le, cI_toInt (by omega) (by omega), cI_toInt (by omega) (by omega)]
theorem cI_inj {x y : Int} (hx : Sml x) (hy : Sml y) : (cI x = cI y) ↔ x = y := by
  unfold Sml at hx hy
  constructor
  · intro h
    have := congrArg Int32.toInt h
    rw [cI_toInt (by omega) (by omega), cI_toInt (by omega) (by omega)] at this
    exact this
  · intro h; rw [h]
theorem cI_le0 {x : Int} (hx : Sml x) : (cI x ≤ 0) ↔ x ≤ 0 := by
  rw [cI_0]
  exact cI_le hx ⟨by omega, by omega⟩
theorem nI_cI (n : Nat) : nI n = cI n := by
  unfold nI cI
  exact (Int32.ofInt_eq_ofNat).symm
/-! The reference's points. -/
/-- the coordinates are near -/
def Near (X Y : Nat → Int) (n : Nat) : Prop := ∀ i, i < n → -99 ≤ X i ∧ X i ≤ 99 ∧ -99 ≤ Y i ∧ Y i ≤ 99
def RB (g : zIJ) (n : Nat) (X Y : Nat → Int) : Prop := n ≤ 9 ∧ g.1 251 0 = nI n ∧ ∀ i, i < n → g.1 251 (2 + 2 * i) = cI (X i) ∧ g.1 251 (3 + 2 * i) = cI (Y i)
section
variable {g : zIJ} {n : Nat} {X Y : Nat → Int}
theorem dt_sml (h : Near X Y n) {a b c : Nat} (ha : a < n) (hb : b < n) (hc : c < n) : Sml (dt X Y a b c) := by
  have h1 := h a ha
  have h2 := h b hb
  have h3 := h c hc
  have key : ∀ x y : Int, -198 ≤ x → x ≤ 198 → -198 ≤ y → y ≤ 198 → -39204 ≤ x * y ∧ x * y ≤ 39204 := by
    intro x y x1 x2 y1 y2
    have : (x * y).natAbs ≤ 198 * 198 := by
      rw [Int.natAbs_mul]
      exact Nat.mul_le_mul (by omega) (by omega)
    omega
  have k1 := key (X b - X a) (Y c - Y a) (by omega) (by omega) (by omega) (by omega)
  have k2 := key (Y b - Y a) (X c - X a) (by omega) (by omega) (by omega) (by omega)
  unfold Sml dt
  omega
theorem x_sml (h : Near X Y n) {a : Nat} (ha : a < n) : Sml (X a) ∧ Sml (Y a) := by
  have h1 := h a ha
  unfold Sml
  omega
theorem r_points (h : RB g n X Y) : zev mX12_points 0 [.ref 250] g = some (some (.int (nI n)), g) := by
  rw [uX12_points_0]
  show some (some (Value.int (g.1 251 0)), g) = _
  rw [h.2.1]
theorem i_2 {i : Nat} (h : i < 1000) : (2 : Int32) + 2 * nI i = nI (2 + 2 * i) := by
  show nI 2 + nI 2 * nI i = _
  rw [← nI_add]
  congr 1
  exact (Int32.ofNat_mul 2 i).symm
theorem i_21 (i : Nat) : nI (2 + 2 * i) + 1 = nI (3 + 2 * i) := by
  rw [nI_1]; congr 1; omega
theorem r_x (h : RB g n X Y) {i : Nat} (hi : i < n) : zev mX12_x 0 [.ref 250, .int (nI i)] g = some (some (.int (cI (X i))), g) := by
  have := h.1
  rw [uX12_x_0, i_2 (by omega), zin_n (by omega) (by omega), nI_clamp (by omega), (h.2.2 i hi).1]
  rfl
theorem r_y (h : RB g n X Y) {i : Nat} (hi : i < n) : zev mX12_y 0 [.ref 250, .int (nI i)] g = some (some (.int (cI (Y i))), g) := by
  have := h.1
  rw [uX12_y_0, i_2 (by omega), i_21, zin_n (by omega) (by omega), nI_clamp (by omega), (h.2.2 i hi).2]
  rfl
theorem r_side (g : zIJ) (a b c d e f : Int) : zev mX12_side 0 [.int (cI a), .int (cI b), .int (cI c), .int (cI d), .int (cI e), .int (cI f)] g = some (some (.int (cI ((c - a) * (f - b) - (d - b) * (e - a)))), g) := by
  rw [uX12_side_0, cI_sub, cI_sub, cI_sub, cI_sub, cI_mul, cI_mul, cI_sub]
def tI (b : Bool) : Int32 := cond b 1 (-1)
theorem tI_eq (a b : Bool) : decide (tI a = tI b) = (a == b) := by cases a <;> cases b <;> rfl
theorem tI_1 (a : Bool) : decide (tI a = 1) = a := by cases a <;> rfl
theorem r_turnOf (h : RB g n X Y) (hN : Near X Y n) {a b c : Nat} (ha : a < n) (hb : b < n) (hc : c < n) : zev mX12_turnOf 0 [.ref 250, .int (nI a), .int (nI b), .int (nI c)] g = some (some (.int (tI (oXY X Y a b c))), g) := by
  rw [uX12_turnOf_0, r_x h ha, zaI_some, r_y h ha, zaI_some, r_x h hb, zaI_some, r_y h hb, zaI_some, r_x h hc, zaI_some, r_y h hc, zaI_some, r_side, zaI_some]
  have hs := dt_sml hN ha hb hc
  unfold dt at hs
  by_cases q : 0 < dt X Y a b c
  · have q2 := q
    unfold dt at q2
    rw [decide_eq_false (fun k => by have := (cI_le0 hs).mp k; omega)]
    unfold oXY
    rw [decide_eq_true q]
    rfl
  · have q2 := q
    unfold dt at q2
    rw [decide_eq_true ((cI_le0 hs).mpr (by omega))]
    unfold oXY
    rw [decide_eq_false q]
    rfl
def ahB (X Y : Nat → Int) (a b : Nat) : Bool := decide (X a < X b) || (decide (X a = X b) && decide (Y a < Y b))
theorem r_isAhead (h : RB g n X Y) (hN : Near X Y n) {a b : Nat} (ha : a < n) (hb : b < n) : zev mX12_isAhead 0 [.ref 250, .int (nI a), .int (nI b)] g = some (some (.int (bI (ahB X Y a b))), g) := by
  have sa := x_sml hN ha
  have sb := x_sml hN hb
  rw [uX12_isAhead_0, r_x h ha, zaI_some, r_x h hb, zaI_some, r_x h ha, zaI_some, r_x h hb, zaI_some, r_y h ha, zaI_some, r_y h hb, zaI_some]
  unfold ahB
  simp only [cI_lt sa.1 sb.1, cI_inj sa.1 sb.1, cI_le sb.2 sa.2]
  by_cases q1 : X a < X b
  · simp [q1, bI]
  · by_cases q2 : X a = X b
    · by_cases q3 : Y b ≤ Y a
      · have : ¬ Y a < Y b := by omega
        simp [q2, q3, this, bI]
      · have : Y a < Y b := by omega
        simp [q2, q3, this, bI]
    · simp [q1, q2, bI]
theorem nI_de {a b : Nat} (ha : a < 2 ^ 31) (hb : b < 2 ^ 31) : decide (nI a = nI b) = decide (a = b) := by
  by_cases q : a = b
  · subst q; simp
  · rw [decide_eq_false q, decide_eq_false (fun k => q ((nI_eq ha hb).mp k))]
theorem r_isWithin (h : RB g n X Y) (hN : Near X Y n) {p a b c : Nat} (hp : p < n) (ha : a < n) (hb : b < n) (hc : c < n) : zev mX12_isWithin 0 [.ref 250, .int (nI p), .int (nI a), .int (nI b), .int (nI c)] g = some (some (.int (bI (wit (oXY X Y) p a b c))), g) := by
  have := h.1
  rw [uX12_isWithin_0, r_turnOf h hN ha hb hc, zaI_some, r_turnOf h hN ha hb hp, zaI_some, r_turnOf h hN hb hc hp, zaI_some, r_turnOf h hN hc ha hp, zaI_some]
  rw [nI_de (by omega) (by omega), nI_de (by omega) (by omega), nI_de (by omega) (by omega), tI_eq, tI_eq, tI_eq]
  unfold wit ccFW
  by_cases e1 : p = a
  · simp [e1, bI]
  by_cases e2 : p = b
  · simp [e2, bI]
  by_cases e3 : p = c
  · simp [e3, bI]
  rw [decide_eq_false e1, decide_eq_false e2, decide_eq_false e3, bne_iff_ne.mpr e1, bne_iff_ne.mpr e2, bne_iff_ne.mpr e3]
  cases (oXY X Y a b p == oXY X Y a b c) <;> cases (oXY X Y b c p == oXY X Y a b c) <;> cases (oXY X Y c a p == oXY X Y a b c) <;> rfl
theorem r_doCross (h : RB g n X Y) (hN : Near X Y n) {a b c d : Nat} (ha : a < n) (hb : b < n) (hc : c < n) (hd : d < n) : zev mX12_doCross 0 [.ref 250, .int (nI a), .int (nI b), .int (nI c), .int (nI d)] g = some (some (.int (bI (crs (oXY X Y) a b c d))), g) := by
  have := h.1
  rw [uX12_doCross_0, r_turnOf h hN ha hb hc, zaI_some, r_turnOf h hN ha hb hd, zaI_some, r_turnOf h hN hc hd ha, zaI_some, r_turnOf h hN hc hd hb, zaI_some]
  rw [nI_de (by omega) (by omega), nI_de (by omega) (by omega), nI_de (by omega) (by omega), nI_de (by omega) (by omega), tI_eq, tI_eq]
  unfold crs ccFC
  by_cases e1 : a = c
  · simp [e1, bI]
  by_cases e2 : a = d
  · simp [e2, bI]
  by_cases e3 : b = c
  · simp [e3, bI]
  by_cases e4 : b = d
  · simp [e4, bI]
  rw [decide_eq_false e1, decide_eq_false e2, decide_eq_false e3, decide_eq_false e4, bne_iff_ne.mpr e1, bne_iff_ne.mpr e2, bne_iff_ne.mpr e3, bne_iff_ne.mpr e4]
  cases oXY X Y a b c <;> cases oXY X Y a b d <;> cases oXY X Y c d a <;> cases oXY X Y c d b <;> rfl
end
