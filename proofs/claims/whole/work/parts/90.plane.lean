/-! The class's plane: order, sides. -/
def PX (g : zIJ) (n : Nat) (X Y : Nat → Int) : Prop := n ≤ 9 ∧ g.1 211 7 = nI n ∧ ∀ i, i < n → g.1 212 i = cI (X i) ∧ g.1 213 i = cI (Y i)
theorem px_of {g g' : zIJ} {n : Nat} {X Y : Nat → Int} (h : PX g n X Y) (e1 : g'.1 211 7 = g.1 211 7) (e2 : g'.1 212 = g.1 212) (e3 : g'.1 213 = g.1 213) : PX g' n X Y := by
  unfold PX
  rw [e1, e2, e3]
  exact h
theorem itr_sum (f : Nat → Nat) : ∀ k i, itr (fun j s => s + f j) k i (sumR f i) = sumR f (i + k)
  | 0, _ => rfl
  | k + 1, i => by
    have := itr_sum f k (i + 1)
    rw [show i + (k + 1) = i + 1 + k from by omega]
    exact this
/-- how many are ahead of i -/
def plc (X Y : Nat → Int) (n i : Nat) : Nat := sumR (fun j => cond (ahB X Y j i) 1 0) n
theorem ahB_iff {X Y : Nat → Int} {a b : Nat} : ahB X Y a b = true ↔ ahd X Y a b := by
  unfold ahB ahd
  simp
theorem ahB_f {X Y : Nat → Int} {a b : Nat} : ahB X Y a b = false ↔ ¬ ahd X Y a b := by
  rw [← ahB_iff]
  cases ahB X Y a b <;> simp
section
variable {X Y : Nat → Int} {n : Nat}
theorem plc_lt {i : Nat} (hi : i < n) : plc X Y n i < n := by
  have := sumR_lt (h := fun j => cond (ahB X Y j i) 1 0) (k := fun _ => 1) n (fun j _ => by cases ahB X Y j i <;> decide) ⟨i, hi, by rw [ahB_f.mpr ahd_irr]; decide⟩
  have e : ∀ n, sumR (fun _ => 1) n = n := by
    intro n
    induction n with
    | zero => rfl
    | succ n ih => unfold sumR; rw [ih]
  rw [e] at this
  exact this
theorem plc_mono {i j : Nat} (hi : i < n) (h : ahd X Y i j) : plc X Y n i < plc X Y n j := by
  refine sumR_lt n (fun k _ => ?_) ⟨i, hi, ?_⟩
  · cases q : ahB X Y k i with
    | false => exact Nat.zero_le _
    | true => rw [ahB_iff.mpr (ahd_tr (ahB_iff.mp q) h)]; exact Nat.le_refl _
  · rw [ahB_f.mpr ahd_irr, ahB_iff.mpr h]; decide
theorem plc_inj (hd : Dist X Y n) {i j : Nat} (hi : i < n) (hj : j < n) (h : i ≠ j) : plc X Y n i ≠ plc X Y n j := by
  rcases ahd_tot (hd i j hi hj h) with q | q
  · have := plc_mono hi q; omega
  · have := plc_mono hj q; omega
theorem plc_iff (hd : Dist X Y n) {i j : Nat} (hi : i < n) (hj : j < n) : plc X Y n i < plc X Y n j ↔ ahd X Y i j := by
  constructor
  · intro h
    by_cases e : i = j
    · subst e; omega
    · rcases ahd_tot (hd i j hi hj e) with q | q
      · exact q
      · have := plc_mono hj q; omega
  · exact plc_mono hi
end
section
variable {g : zIJ} {n : Nat} {X Y : Nat → Int}
theorem c_isOf (h : PX g n X Y) {n' : Nat} {X' Y' : Nat → Int} (hb : CB g n' X' Y') (hN : Near X Y n) (hN' : Near X' Y' n') : zev mX5_isOf 0 [.ref 211, .ref 4] g = some (some (.int (bI (cdec (n = n' ∧ ∀ i, i < n → X i = X' i ∧ Y i = Y' i)))), g) := by
  have hn := h.1
  have hn' := hb.1
  rw [uX5_isOf_0, h.2.1, hb.2.1, nI_de (by omega) (by omega)]
  by_cases e : n = n'
  · subst e
    rw [decide_eq_true rfl]
    have step : ∀ i, 0 ≤ i → i < n → zev mX5_isOf 15 [.ref 211, .ref 4, .int (nI i)] g = cond (cdec (X i = X' i ∧ Y i = Y' i)) (zev mX5_isOf 15 [.ref 211, .ref 4, .int (nI (i + 1))] g) (some (some (.int 0), g)) := by
      intro i _ hi
      have s1 := x_sml hN hi
      have s2 := x_sml hN' hi
      rw [uX5_isOf_15, h.2.1, nle_d hn hi, zin_n (by omega) (by omega), nI_clamp (by omega), (h.2.2 i hi).1, (hb.2.2 i hi).1, (h.2.2 i hi).2, (hb.2.2 i hi).2, nI_1]
      by_cases q1 : X i = X' i
      · by_cases q2 : Y i = Y' i
        · rw [cdec_t ⟨q1, q2⟩, decide_eq_true (by rw [q1]), decide_eq_true (show cI (Y i) = cI (Y' i) from by rw [q2])]; rfl
        · rw [cdec_f (fun q => q2 q.2), decide_eq_true (by rw [q1]), decide_eq_false (fun k => q2 ((cI_inj s1.2 s2.2).mp k))]; rfl
      · rw [cdec_f (fun q => q1 q.1), decide_eq_false (fun k => q1 ((cI_inj s1.1 s2.1).mp k))]; rfl
    have stop : zev mX5_isOf 15 [.ref 211, .ref 4, .int (nI n)] g = some (some (.int 1), g) := by
      rw [uX5_isOf_15, h.2.1, le_d hn]; rfl
    have := zals (F := fun i => zev mX5_isOf 15 [.ref 211, .ref 4, .int (nI i)] g) (lo := 0) step stop n 0 (Nat.le_refl _) (by omega)
    refine Eq.trans this ?_
    by_cases q : ∀ i, i < n → X i = X' i ∧ Y i = Y' i
    · rw [cdec_t (q := ∀ j, 0 ≤ j → j < n → X j = X' j ∧ Y j = Y' j) (fun j _ hj => q j hj), cdec_t ⟨rfl, q⟩]; rfl
    · rw [cdec_f (q := ∀ j, 0 ≤ j → j < n → X j = X' j ∧ Y j = Y' j) (fun k => q (fun j hj => k j (by omega) hj)), cdec_f (fun k => q k.2)]; rfl
  · rw [decide_eq_false e, cdec_f (fun k => e k.1)]; rfl
theorem c_ord1 (h : PX g n X Y) (hN : Near X Y n) {i : Nat} (hi : i < n) : zev mX5_findOrder 14 [.ref 211, .int (nI i), .int 0, .int 0] g = zev mX5_findOrder 2 [.ref 211, .int (nI (i + 1))] (zsI (zsI g 215 i (nI (plc X Y n i))) 214 (plc X Y n i) (nI i)) := by
  have hn := h.1
  have key := zit (F := fun j s => zev mX5_findOrder 14 [.ref 211, .int (nI i), .int (nI s), .int (nI j)] g) (lo := 0) (n := n) (R := fun s => cond (zin (nI s) 9) (zev mX5_findOrder 2 [.ref 211, .int (nI (i + 1))] (zsI (zsI g 215 i (nI s)) 214 (nI s).toNatClampNeg (nI i))) none) (h := fun j s => s + cond (ahB X Y j i) 1 0) (fun j s _ hj => by
      have s1 := x_sml hN hi
      have s2 := x_sml hN hj
      rw [uX5_findOrder_14, h.2.1, nle_d hn hj, zin_n (by omega : i < 9) (by omega), zin_n (by omega : j < 9) (by omega), nI_clamp (by omega : i < 2 ^ 31), nI_clamp (by omega : j < 2 ^ 31), (h.2.2 i hi).1, (h.2.2 i hi).2, (h.2.2 j hj).1, (h.2.2 j hj).2]
      simp only [nI_1]
      unfold ahB
      by_cases q1 : X j < X i
      · rw [decide_eq_true ((cI_lt s2.1 s1.1).mpr q1), decide_eq_true q1]; rfl
      · rw [decide_eq_false (fun k => q1 ((cI_lt s2.1 s1.1).mp k)), decide_eq_false q1]
        by_cases q2 : X j = X i
        · rw [decide_eq_true (show cI (X j) = cI (X i) from by rw [q2]), decide_eq_true q2]
          by_cases q3 : Y i ≤ Y j
          · rw [decide_eq_true ((cI_le s1.2 s2.2).mpr q3), decide_eq_false (show ¬ Y j < Y i from by omega)]; rfl
          · rw [decide_eq_false (fun k => q3 ((cI_le s1.2 s2.2).mp k)), decide_eq_true (show Y j < Y i from by omega)]; rfl
        · rw [decide_eq_false (fun k => q2 ((cI_inj s2.1 s1.1).mp k)), decide_eq_false q2]; rfl) (fun s => by
      rw [uX5_findOrder_14, h.2.1, le_d hn, zin_n (by omega : i < 9) (by omega), nI_clamp (by omega : i < 2 ^ 31)]
      simp only [nI_1]
      rfl) n 0 0 (Nat.le_refl _) (by omega)
  refine Eq.trans key ?_
  have e : itr (fun j s => s + cond (ahB X Y j i) 1 0) n 0 0 = plc X Y n i := by
    have := itr_sum (fun j => cond (ahB X Y j i) 1 0) n 0
    rw [Nat.zero_add] at this
    exact this
  rw [e]
  have := plc_lt (X := X) (Y := Y) hi
  rw [zin_n (by omega) (by omega), nI_clamp (by omega)]
  rfl
def tOr (k _j : Nat) : Bool := Nat.beq k 214 || Nat.beq k 215
theorem c_findOrder (h : PX g n X Y) (hN : Near X Y n) (hd : Dist X Y n) : ∃ g', zev mX5_findOrder 0 [.ref 211] g = some (none, g') ∧ zFr tOr g g' ∧ (∀ i, i < n → g'.1 215 i = nI (plc X Y n i)) ∧ ∀ i, i < n → g'.1 214 (plc X Y n i) = nI i := by
  have hn := h.1
  rw [uX5_findOrder_0]
  refine zloop (F := fun i g' => zev mX5_findOrder 2 [.ref 211, .int (nI i)] g') (I := fun i g' => zFr tOr g g' ∧ (∀ j, j < i → g'.1 215 j = nI (plc X Y n j)) ∧ ∀ j, j < i → g'.1 214 (plc X Y n j) = nI j) (Post := fun r => ∃ g', r = some (none, g') ∧ zFr tOr g g' ∧ (∀ i, i < n → g'.1 215 i = nI (plc X Y n i)) ∧ ∀ i, i < n → g'.1 214 (plc X Y n i) = nI i) (lo := 0) (n := n) (fun i g1 _ hi I1 => ?_) (fun g1 I1 => ?_) n 0 g (Nat.le_refl _) (by omega) ⟨fr_refl _ g, fun j hj => by omega, fun j hj => by omega⟩
  · have h1 : PX g1 n X Y := px_of h (I1.1 211 7 rfl).1 (funext fun j => (I1.1 212 j rfl).1) (funext fun j => (I1.1 213 j rfl).1)
    refine ⟨zsI (zsI g1 215 i (nI (plc X Y n i))) 214 (plc X Y n i) (nI i), ?_, fr_tr I1.1 (fr_tr (fr_I g1 _ rfl) (fr_I _ _ rfl)), fun j hj => ?_, fun j hj => ?_⟩
    · rw [uX5_findOrder_2, h1.2.1, nle_d hn hi]
      exact c_ord1 h1 hN hi
    · rw [zI_row _ _ (by decide : (215 : Nat) ≠ 214)]
      by_cases e : j = i
      · subst e; exact zI_same _ _ _ _
      · rw [zI_col _ _ e]; exact I1.2.1 j (by omega)
    · by_cases e : j = i
      · subst e; exact zI_same _ _ _ _
      · rw [zI_col _ _ (plc_inj hd (by omega) hi e), zI_row _ _ (by decide : (214 : Nat) ≠ 215)]
        exact I1.2.2 j (by omega)
  · have h1 : PX g1 n X Y := px_of h (I1.1 211 7 rfl).1 (funext fun j => (I1.1 212 j rfl).1) (funext fun j => (I1.1 213 j rfl).1)
    refine ⟨g1, ?_, I1⟩
    rw [uX5_findOrder_2, h1.2.1, le_d hn]
    rfl
end
