/-! The class: its board, edges, bits. -/
def CB (g : zIJ) (n : Nat) (X Y : Nat → Int) : Prop := n ≤ 9 ∧ g.1 4 4 = nI n ∧ ∀ i, i < n → g.1 5 i = cI (X i) ∧ g.1 6 i = cI (Y i)
theorem cb_of {g g' : zIJ} {n : Nat} {X Y : Nat → Int} (h : CB g n X Y) (e4 : g'.1 4 = g.1 4) (e5 : g'.1 5 = g.1 5) (e6 : g'.1 6 = g.1 6) : CB g' n X Y := by
  unfold CB
  rw [e4, e5, e6]
  exact h
theorem c_side (g : zIJ) (a b c d e f : Int) : zev mX11_side 0 [.int (cI a), .int (cI b), .int (cI c), .int (cI d), .int (cI e), .int (cI f)] g = some (some (.int (cI ((c - a) * (f - b) - (d - b) * (e - a)))), g) := by
  rw [uX11_side_0, cI_sub, cI_sub, cI_sub, cI_sub, cI_mul, cI_mul, cI_sub]
theorem c_edgeOf (g : zIJ) {i j : Nat} (hi : i < 9) (hj : j < 9) (n : i ≠ j) : zev mX11_edgeOf 0 [.int (nI i), .int (nI j)] g = some (some (.int (nI (eN i j))), g) := by
  rw [uX11_edgeOf_0, (edge_at hi hj n).2.2.2.2]
theorem c_holds (g : zIJ) (x : Nat) {k : Nat} (hk : k < 64) : zev mX11_holds 0 [.long (lN x), .int (nI k)] g = some (some (.int (bI (x.testBit k))), g) := by
  rw [uX11_holds_0, cmp_eq, l_and0, l_ushr0 hk, lN_bit hk]
  cases x.testBit k <;> rfl
theorem c_finding (g : zIJ) {k : Nat} (hk : k < 8) : zev mX11_finding 0 [.ref 3, .int (nI k)] g = some (some (.int ((-1000001) - nI k)), zsI g 241 k (g.1 241 k + 1)) := by
  rw [uX11_finding_0, zin_n hk (by omega), nI_clamp (by omega)]; rfl
theorem r_finds (g : zIJ) {k : Nat} (hk : k < 8) : zev mX12_finds 0 [.ref 250, .int (nI k)] g = some (some (.int ((-1000001) - nI k)), zsI g 293 k (g.1 293 k + 1)) := by
  rw [uX12_finds_0, zin_n hk (by omega), nI_clamp (by omega)]; rfl
theorem c_longFinding (g : zIJ) {k : Nat} (hk : k < 8) : zev mX11_longFinding 0 [.ref 3, .int (nI k)] g = some (some (.long ((-1000000000000000001) - (nI k).toInt64)), zsI g 241 k (g.1 241 k + 1)) := by
  rw [uX11_longFinding_0, zin_n hk (by omega), nI_clamp (by omega)]; rfl
theorem r_findsLong (g : zIJ) {k : Nat} (hk : k < 8) : zev mX12_findsLong 0 [.ref 250, .int (nI k)] g = some (some (.long ((-1000000000000000001) - (nI k).toInt64)), zsI g 293 k (g.1 293 k + 1)) := by
  rw [uX12_findsLong_0, zin_n hk (by omega), nI_clamp (by omega)]; rfl
section
variable {g : zIJ} {n : Nat} {X Y : Nat → Int}
theorem zin_c (a : Int32) (hn : n ≤ 9) : cond (decide (a < 0)) false (!decide (nI n ≤ a)) = zin a n := by
  unfold zin
  have h0 : (0 : Int32).toInt = 0 := rfl
  by_cases q : a < 0
  · have := Int32.lt_iff_toInt_lt.mp q
    rw [decide_eq_true q, decide_eq_false (show ¬ (0 ≤ a.toInt ∧ a.toInt < (n : Int)) from by omega)]; rfl
  · have q1 : ¬ a.toInt < 0 := fun k => q (Int32.lt_iff_toInt_lt.mpr (by rw [h0]; exact k))
    rw [decide_eq_false q]
    by_cases q2 : nI n ≤ a
    · have := Int32.le_iff_toInt_le.mp q2
      rw [nI_toInt (by omega)] at this
      rw [decide_eq_true q2, decide_eq_false (show ¬ (0 ≤ a.toInt ∧ a.toInt < (n : Int)) from by omega)]; rfl
    · have q3 : ¬ (n : Int) ≤ a.toInt := fun k => q2 (Int32.le_iff_toInt_le.mpr (by rw [nI_toInt (by omega)]; exact k))
      rw [decide_eq_false q2, decide_eq_true (show (0 ≤ a.toInt ∧ a.toInt < (n : Int)) from by omega)]; rfl
theorem c_isPoint (h : CB g n X Y) (a : Int32) : zev mX0_isPoint 0 [.ref 4, .int a] g = some (some (.int (bI (zin a n))), g) := by
  rw [uX0_isPoint_0, h.2.1, ← zin_c a h.1]
  cases decide (a < 0) <;> cases decide (nI n ≤ a) <;> rfl
theorem c_isPair (h : CB g n X Y) (a b : Int32) : zev mX0_isPair 0 [.ref 4, .int a, .int b] g = some (some (.int (bI (zin a n && (zin b n && !decide (a = b))))), g) := by
  rw [uX0_isPair_0, c_isPoint h, zaI_some, c_isPoint h, zaI_some, bI_0, bI_0]
  cases zin a n <;> cases zin b n <;> cases decide (a = b) <;> rfl
theorem c_turnsLeft (h : CB g n X Y) (hN : Near X Y n) {a b c : Nat} (ha : a < n) (hb : b < n) (hc : c < n) : zev mX0_turnsLeft 0 [.ref 4, .int (nI a), .int (nI b), .int (nI c)] g = some (some (.int (bI (oXY X Y a b c))), g) := by
  have hn := h.1
  rw [uX0_turnsLeft_0, zin_n (by omega) (by omega), zin_n (by omega) (by omega), zin_n (by omega) (by omega), nI_clamp (by omega), nI_clamp (by omega), nI_clamp (by omega), (h.2.2 a ha).1, (h.2.2 a ha).2, (h.2.2 b hb).1, (h.2.2 b hb).2, (h.2.2 c hc).1, (h.2.2 c hc).2, c_side, zaI_some]
  have hs := dt_sml hN ha hb hc
  unfold dt at hs
  by_cases q : 0 < dt X Y a b c
  · have q2 := q
    unfold dt at q2
    rw [decide_eq_false (fun k => by have := (cI_le0 hs).mp k; omega)]
    unfold oXY
    rw [decide_eq_true q]
    rfl
  · have q2 := q
    unfold dt at q2
    rw [decide_eq_true ((cI_le0 hs).mpr (by omega))]
    unfold oXY
    rw [decide_eq_false q]
    rfl
theorem bI_eq (a b : Bool) : decide (bI a = bI b) = (a == b) := by cases a <;> cases b <;> rfl
/-- two edges by their numbers -/
theorem c_doCross (h : CB g n X Y) (hN : Near X Y n) {e f : Nat} (he : e < 36) (hf : f < 36) (hen : eHi e < n) (hfn : eHi f < n) : zev mX0_doCross 0 [.ref 4, .int (nI e), .int (nI f)] g = some (some (.int (bI (crs (oXY X Y) (eLo e) (eHi e) (eLo f) (eHi f)))), g) := by
  have hn := h.1
  obtain ⟨l1, l2, l3, l4, l5⟩ := edge_of he
  obtain ⟨k1, k2, k3, k4, k5⟩ := edge_of hf
  have T := fun {a b c : Nat} (ha : a < n) (hb : b < n) (hc : c < n) => c_turnsLeft h hN ha hb hc
  rw [uX0_doCross_0, zin_n he (by omega), zin_n hf (by omega), nI_clamp (by omega), nI_clamp (by omega), l4, l5, k4, k5]
  rw [nI_de (by omega) (by omega), nI_de (by omega) (by omega), nI_de (by omega) (by omega), nI_de (by omega) (by omega)]
  rw [T (by omega : eLo e < n) hen (by omega : eLo f < n), zaI_some, T (by omega : eLo e < n) hen hfn, zaI_some, T (by omega : eLo f < n) hfn (by omega : eLo e < n), zaI_some, T (by omega : eLo f < n) hfn hen, zaI_some, bI_eq, bI_eq]
  have D : zev mX0_doCross 53 [.ref 4, .int (nI (eLo e)), .int (nI (eHi e)), .int (nI (eLo f)), .int (nI (eHi f))] g = some (some (.int 0), g) := by rw [uX0_doCross_53]; rfl
  rw [D]
  unfold crs ccFC
  by_cases e1 : eLo e = eLo f
  · simp [e1, bI]
  by_cases e2 : eLo e = eHi f
  · simp [e2, bI]
  by_cases e3 : eHi e = eLo f
  · simp [e3, bI]
  by_cases e4 : eHi e = eHi f
  · simp [e4, bI]
  rw [decide_eq_false e1, decide_eq_false e2, decide_eq_false e3, decide_eq_false e4, bne_iff_ne.mpr e1, bne_iff_ne.mpr e2, bne_iff_ne.mpr e3, bne_iff_ne.mpr e4]
  cases oXY X Y (eLo e) (eHi e) (eLo f) <;> cases oXY X Y (eLo e) (eHi e) (eHi f) <;> cases oXY X Y (eLo f) (eHi f) (eLo e) <;> cases oXY X Y (eLo f) (eHi f) (eHi e) <;> rfl
end
/-! filling a row -/
theorem va_no : True := trivial
theorem fill_l {t N : Nat} (ht : (zC t) = (101, N)) (hN : N < 2 ^ 31) (v : Int64) (g : zIJ) : ∃ g', zev mJ7_fill_d0a16 0 [.ref t, .long v] g = some (none, g') ∧ (∀ i, i < N → g'.2 t i = v) ∧ zFr (fun k j => Nat.beq k t && Nat.blt j N) g g' := by
  rw [uJ7_fill_d0a16_0]
  have hl : zlen g t = N := by unfold zlen; rw [ht]; rfl
  rw [hl, ht]
  show ∃ g', zev mJ7_fill_d0a16 6 [.ref t, .long v, .int (nI 0), .int (nI N)] g = _ ∧ _
  refine zloop (F := fun i g' => zev mJ7_fill_d0a16 6 [.ref t, .long v, .int (nI i), .int (nI N)] g') (I := fun i g' => (∀ j, j < i → g'.2 t j = v) ∧ zFr (fun k j => Nat.beq k t && Nat.blt j N) g g') (Post := fun r => ∃ g', r = some (none, g') ∧ (∀ i, i < N → g'.2 t i = v) ∧ zFr (fun k j => Nat.beq k t && Nat.blt j N) g g') (lo := 0) (n := N) (fun i g1 _ hi I1 => ?_) (fun g1 I1 => ?_) N 0 g (Nat.le_refl _) (by omega) ⟨fun j hj => by omega, fr_refl _ g⟩
  · refine ⟨zsL g1 t i v, ?_, fun j hj => ?_, fr_tr I1.2 (fr_L g1 v (by show (Nat.beq t t && Nat.blt i N) = true; rw [Nat.beq_refl, nblt_t hi]; rfl))⟩
    · rw [uJ7_fill_d0a16_6, decide_eq_false (nI_ge hi hN), ht]
      show cond (Nat.beq 101 101 && zin (nI i) N) _ _ = _
      rw [zin_n hi (by omega), nI_clamp (by omega), nI_1]
      rfl
    · by_cases e : j = i
      · subst e; exact zL_same _ _ _ _
      · rw [zL_col _ _ e]; exact I1.1 j (by omega)
  · refine ⟨g1, ?_, I1.1, I1.2⟩
    rw [uJ7_fill_d0a16_6, decide_eq_true (nI_le (Nat.le_refl N) hN)]; rfl
theorem fill_i {t N : Nat} (ht : (zC t) = (100, N)) (hN : N < 2 ^ 31) (v : Int32) (g : zIJ) : ∃ g', zev mJ7_fill_53178 0 [.ref t, .int v] g = some (none, g') ∧ (∀ i, i < N → g'.1 t i = v) ∧ zFr (fun k j => Nat.beq k t && Nat.blt j N) g g' := by
  rw [uJ7_fill_53178_0]
  have hl : zlen g t = N := by unfold zlen; rw [ht]; rfl
  rw [hl, ht]
  show ∃ g', zev mJ7_fill_53178 5 [.ref t, .int v, .int (nI 0), .int (nI N)] g = _ ∧ _
  refine zloop (F := fun i g' => zev mJ7_fill_53178 5 [.ref t, .int v, .int (nI i), .int (nI N)] g') (I := fun i g' => (∀ j, j < i → g'.1 t j = v) ∧ zFr (fun k j => Nat.beq k t && Nat.blt j N) g g') (Post := fun r => ∃ g', r = some (none, g') ∧ (∀ i, i < N → g'.1 t i = v) ∧ zFr (fun k j => Nat.beq k t && Nat.blt j N) g g') (lo := 0) (n := N) (fun i g1 _ hi I1 => ?_) (fun g1 I1 => ?_) N 0 g (Nat.le_refl _) (by omega) ⟨fun j hj => by omega, fr_refl _ g⟩
  · refine ⟨zsI g1 t i v, ?_, fun j hj => ?_, fr_tr I1.2 (fr_I g1 v (by show (Nat.beq t t && Nat.blt i N) = true; rw [Nat.beq_refl, nblt_t hi]; rfl))⟩
    · rw [uJ7_fill_53178_5, decide_eq_false (nI_ge hi hN), ht]
      show cond (Nat.beq 100 100 && zin (nI i) N) _ _ = _
      rw [zin_n hi (by omega), nI_clamp (by omega), nI_1]
      rfl
    · by_cases e : j = i
      · subst e; exact zI_same _ _ _ _
      · rw [zI_col _ _ e]; exact I1.1 j (by omega)
  · refine ⟨g1, ?_, I1.1, I1.2⟩
    rw [uJ7_fill_53178_5, decide_eq_true (nI_le (Nat.le_refl N) hN)]; rfl
