/-! The class's splits. -/
section
variable {g : zIJ} {n m : Nat} {X Y : Nat → Int} {c q : Nat → Nat}
theorem sd_cc (hn : n ≤ 9) (hc : Cor n m c) (e : Nat) : (sdM c m m).testBit e = true ↔ ∃ t, t < m ∧ eN (ccN X Y c m t) (ccN X Y c m (nxC m t)) = e := by
  rw [sdM_at]
  have h3 := hc.1
  rcases cc_or X Y c m with z | z
  · rw [z]
  · rw [z]
    have k := rev_ex (c := c) (m := m) (Q := fun x y => x < 9 ∧ y < 9 ∧ x ≠ y ∧ eN x y = e) h3.1 (fun x y w => ⟨w.2.1, w.1, w.2.2.1.symm, by rw [eN_sy w.1 w.2.1 w.2.2.1]; exact w.2.2.2⟩)
    constructor
    · intro ⟨t, ht, w⟩
      have nl : nxC m t < m := nx_lt (by omega)
      have a1 := hc.2.1 t ht
      have a2 := hc.2.1 _ nl
      obtain ⟨j, hj, y⟩ := k.mpr ⟨t, ht, by omega, by omega, cor_ne hc ht, w⟩
      exact ⟨j, hj, y.2.2.2⟩
    · intro ⟨t, ht, w⟩
      have nl : nxC m t < m := nx_lt (by omega)
      have ni := nx_ne (m := m) (i := t) (by omega) ht
      have a1 := hc.2.1 (m - 1 - t) (by omega)
      have a2 := hc.2.1 (m - 1 - nxC m t) (by omega)
      obtain ⟨j, hj, y⟩ := k.mp ⟨t, ht, by omega, by omega, fun z => (by have := hc.2.2 _ _ (by omega) (by omega) z; omega), w⟩
      exact ⟨j, hj, y.2.2.2⟩
theorem cc_ne (C : Cor n m q) {i j : Nat} (hi : i < m) (hj : j < m) (ne : i ≠ j) : q i ≠ q j := fun z => ne (C.2.2 _ _ hi hj z)
theorem sd_ij (hn : n ≤ 9) (hc : Cor n m c) {i j : Nat} (hij : i + 2 ≤ j) (hj : j < m) : (sdM c m m).testBit (eN (ccN X Y c m i) (ccN X Y c m j)) = decide (i = 0 ∧ j = m - 1) := by
  have C := cc_cor (X := X) (Y := Y) hc
  have h3 := hc.1
  have a1 := C.2.1 i (by omega)
  have a2 := C.2.1 j hj
  rw [Bool.eq_iff_iff, sd_cc (X := X) (Y := Y) hn hc, decide_eq_true_iff]
  constructor
  · intro ⟨t, ht, e⟩
    have nl : nxC m t < m := nx_lt (by omega)
    have b1 := C.2.1 t ht
    have b2 := C.2.1 _ nl
    rcases eN_inj (by omega) (by omega) (cor_ne C ht) (by omega) (by omega) (cc_ne C (by omega) hj (by omega)) e with z | z
    · have e1 := C.2.2 _ _ ht (by omega) z.1
      have e2 := C.2.2 _ _ nl hj z.2
      unfold nxC at e2
      split at e2 <;> omega
    · have e1 := C.2.2 _ _ ht hj z.1
      have e2 := C.2.2 _ _ nl (by omega) z.2
      unfold nxC at e2
      split at e2 <;> omega
  · intro z
    refine ⟨j, hj, ?_⟩
    rw [show nxC m j = i from by unfold nxC; rw [if_neg (by omega)]; omega]
    exact eN_sy (by omega) (by omega) (cc_ne C (by omega) hj (by omega))
theorem cr_ij (hG : GP X Y n) (hn : n ≤ 9) (hc : Cor n m c) {i j : Nat} (hij : i < j) (hj : j < m) : crM X Y n (eN (ccN X Y c m i) (ccN X Y c m j)) &&& sdM c m m = 0 ↔ Fre (oXY (eX (fun j => X (ccN X Y c m j)) m) (eY (fun j => Y (ccN X Y c m j)) m)) m i j := by
  have C := cc_cor (X := X) (Y := Y) hc
  have h3 := hc.1
  have ne := cc_ne C (by omega : i < m) hj (by omega)
  have e : ∀ t, t < m → (crM X Y n (eN (ccN X Y c m i) (ccN X Y c m j))).testBit (eN (ccN X Y c m t) (ccN X Y c m (nxC m t))) = crs (oXY (eX (fun j => X (ccN X Y c m j)) m) (eY (fun j => Y (ccN X Y c m j)) m)) i j t (nQ 0 (m - 1) t) := fun t ht => by
    have nl : nxC m t < m := nx_lt (by omega)
    rw [cr_uv hG hn (C.2.1 i (by omega)) (C.2.1 j hj) (C.2.1 t ht) (C.2.1 _ nl) ne (cor_ne C ht), nx_Q ht, crs_e (by omega) hj ht (nQ_lt h3.1 ht), crs_re (r := ccN X Y c m) C.2.2 (by omega) hj ht (nQ_lt h3.1 ht)]
  rw [and_eq]
  constructor
  · intro k t ht
    refine bf (fun z => k _ ?_ ((sd_cc (X := X) (Y := Y) hn hc _).mpr ⟨t, ht, rfl⟩))
    rw [e t ht]
    exact z
  · intro k x h1 h2
    obtain ⟨t, ht, et⟩ := (sd_cc (X := X) (Y := Y) hn hc x).mp h2
    rw [← et, e t ht, k t ht] at h1
    cases h1
theorem D_ij {i j : Nat} (hij : i + 2 ≤ j) (hj : j < m) (ne : ¬ (i = 0 ∧ j = m - 1)) : DcN X Y c m i j = (cdec (Fre (oXY (eX (fun j => X (ccN X Y c m j)) m) (eY (fun j => Y (ccN X Y c m j)) m)) m i j) && linL (oXY X Y) (ccN X Y c m i) (ccN X Y c m (vQ 0 (m - 1) i)) (ccN X Y c m (nQ 0 (m - 1) i)) (ccN X Y c m j)) := by
  have vl := vP_lt (m := m) (p := i) (by omega) (by omega)
  have nl := nQ_lt (m := m) (p := i) (by omega) (by omega)
  have e : linL (oXY (eX (fun j => X (ccN X Y c m j)) m) (eY (fun j => Y (ccN X Y c m j)) m)) i (vQ 0 (m - 1) i) (nQ 0 (m - 1) i) j = linL (oXY X Y) (ccN X Y c m i) (ccN X Y c m (vQ 0 (m - 1) i)) (ccN X Y c m (nQ 0 (m - 1) i)) (ccN X Y c m j) := by
    unfold linL
    rw [o_ccc vl (by omega) nl, o_ccc (by omega) hj vl, o_ccc hj (by omega) nl, o_ccc (by omega) hj nl, o_ccc hj (by omega) vl]
    rfl
  rw [Bool.eq_iff_iff, Bool.and_eq_true, ← e]
  exact ⟨fun z => ⟨cdec_t (cdec_of z).2.1, (cdec_of z).2.2⟩, fun z => cdec_t ⟨⟨hij, hj, ne⟩, cdec_of z.1, z.2⟩⟩
theorem c_aheadP (h2 : g.1 234 2 = nI m) (hm : m ≤ 9) {i : Nat} (hi : i < m) : zev mX6_ahead 0 [.ref 234, .int (nI i)] g = some (some (.int (nI (vQ 0 (m - 1) i))), g) := by
  rw [uX6_ahead_0, h2]
  unfold vQ
  by_cases e : i = 0
  · rw [if_pos e, e, show decide (nI 0 ≤ 0) = true from rfl, show nI m - 1 = nI (m - 1) from nI_sub (a := m) (b := 1) (by omega)]; rfl
  · rw [if_neg e, show decide (nI i ≤ 0) = false from decide_eq_false (nI_ge (a := 0) (b := i) (by omega) (by omega)), show nI i - 1 = nI (i - 1) from nI_sub (a := i) (b := 1) (by omega)]; rfl
theorem c_leaves (h : POK g n X Y) (C : Cor n m q) (h2 : g.1 234 2 = nI m) (hp : ∀ j, j < m → g.1 235 j = nI (q j)) {i j : Nat} (hij : i + 2 ≤ j) (hj : j < m) (nn : ¬ (i = 0 ∧ j = m - 1)) : zev mX6_leavesInward 0 [.ref 234, .int (nI i), .int (nI j), .ref 211] g = some (some (.int (bI (linL (oXY X Y) (q i) (q (vQ 0 (m - 1) i)) (q (nQ 0 (m - 1) i)) (q j)))), g) := by
  have hn := h.1.1
  have m9 := C.1
  have vl := vP_lt (m := m) (p := i) (by omega) (by omega)
  have nl := nQ_lt (m := m) (p := i) (by omega) (by omega)
  have kk := vQ_lt (m := m) (p := i) (by omega) (by omega)
  have vj : vQ 0 (m - 1) i ≠ j := by unfold vQ; split <;> omega
  have nj : nQ 0 (m - 1) i ≠ j := by rw [nP_in (by omega)]; omega
  have pi := C.2.1 i (by omega)
  have pj := C.2.1 j hj
  have pv := C.2.1 _ vl
  have pn := C.2.1 _ nl
  have l1 := c_isLeft h pv pi pn (cc_ne C vl (by omega) kk.2.2.1) (cc_ne C vl nl kk.2.2.2.1) (cc_ne C (by omega) nl kk.2.2.2.2.symm)
  have l2 := c_isLeft h pi pj pv (cc_ne C (by omega) hj (by omega)) (cc_ne C (by omega) vl kk.2.2.1.symm) (cc_ne C hj vl vj.symm)
  have l3 := c_isLeft h pj pi pn (cc_ne C hj (by omega) (by omega)) (cc_ne C hj nl nj.symm) (cc_ne C (by omega) nl kk.2.2.2.2.symm)
  have l4 := c_isLeft h pi pj pn (cc_ne C (by omega) hj (by omega)) (cc_ne C (by omega) nl kk.2.2.2.2.symm) (cc_ne C hj nl nj.symm)
  have l5 := c_isLeft h pj pi pv (cc_ne C hj (by omega) (by omega)) (cc_ne C hj vl vj.symm) (cc_ne C (by omega) vl kk.2.2.1.symm)
  rw [uX6_leavesInward_0, zin_n (by omega : i < 9) (by omega), zin_n (by omega : j < 9) (by omega), c_aheadP h2 (by omega) (by omega : i < m), zaI_some, zin_n (by omega : vQ 0 (m - 1) i < 9) (by omega), c_behindP h2 (by omega) (by omega : i < m), zaI_some, nx_Q (by omega : i < m), zin_n (by omega : nQ 0 (m - 1) i < 9) (by omega), nI_clamp (by omega : i < 2 ^ 31), nI_clamp (by omega : j < 2 ^ 31), nI_clamp (by omega : vQ 0 (m - 1) i < 2 ^ 31), nI_clamp (by omega : nQ 0 (m - 1) i < 2 ^ 31), hp i (by omega), hp j hj, hp _ vl, hp _ nl, l1, zaI_some, bI_0]
  unfold linL
  cases o1 : oXY X Y (q (vQ 0 (m - 1) i)) (q i) (q (nQ 0 (m - 1) i)) with
  | false =>
    simp only [Bool.not_false, cond_true, cond_false, l4, l5, zaI_some, bI_0]
    cases oXY X Y (q i) (q j) (q (nQ 0 (m - 1) i)) <;> cases oXY X Y (q j) (q i) (q (vQ 0 (m - 1) i)) <;> rfl
  | true =>
    simp only [Bool.not_true, cond_true, cond_false, l2, l3, zaI_some, bI_0]
    cases oXY X Y (q i) (q j) (q (vQ 0 (m - 1) i)) <;> cases oXY X Y (q j) (q i) (q (nQ 0 (m - 1) i)) <;> rfl
theorem c_joined (h : POK g n X Y) (hc : Cor n m c) (ps : PolS g X Y m c) {i j : Nat} (hij : i + 2 ≤ j) (hj : j < m) : zev mX6_isJoined 0 [.ref 234, .int (nI i), .int (nI j), .ref 211] g = some (some (.int (bI (jnD m (DcN X Y c m) i j))), g) := by
  have hn := h.1.1
  have hG := h.2.1.2.2.1
  have C := cc_cor (X := X) (Y := Y) hc
  have m9 := hc.1
  have pi := C.2.1 i (by omega)
  have pj := C.2.1 j hj
  have ne := cc_ne C (by omega : i < m) hj (by omega)
  have e36 := eN_lt (by omega : ccN X Y c m i < 9) (by omega : ccN X Y c m j < 9) ne
  have hp : ∀ j, j < m → g.1 235 j = nI (ccN X Y c m j) := ps.2.2.2.2
  have al : crM X Y n (eN (ccN X Y c m i) (ccN X Y c m j)) &&& sdM c m m < 2 ^ 64 := Nat.lt_of_le_of_lt Nat.and_le_left (Nat.lt_trans (crM_lt _) (by omega))
  rw [uX6_isJoined_0, zin_n (by omega : i < 9) (by omega), zin_n (by omega : j < 9) (by omega), nI_clamp (by omega : i < 2 ^ 31), nI_clamp (by omega : j < 2 ^ 31), hp i (by omega), hp j hj, c_edgeOf g (by omega : ccN X Y c m i < 9) (by omega : ccN X Y c m j < 9) ne, zaI_some, ps.2.2.1, c_holds g _ (by omega : eN (ccN X Y c m i) (ccN X Y c m j) < 64), zaI_some, bI_0, sd_ij hn hc hij hj]
  unfold jnD
  by_cases z : i = 0 ∧ j = m - 1
  · rw [decide_eq_true z]; rfl
  · rw [decide_eq_false z, Bool.not_not, zin_n e36 (by omega), nI_clamp (by omega : eN (ccN X Y c m i) (ccN X Y c m j) < 2 ^ 31), h.2.2.2.2.2.1 _ e36, ps.2.2.1, lN_and, cmp_eq, lN_0 al, c_leaves h C ps.1 hp hij hj z, zaI_some, bI_0, D_ij hij hj z]
    by_cases f : Fre (oXY (eX (fun j => X (ccN X Y c m j)) m) (eY (fun j => Y (ccN X Y c m j)) m)) m i j
    · rw [decide_eq_true ((cr_ij hG hn hc (by omega) hj).mpr f), cdec_t f]
      cases linL (oXY X Y) (ccN X Y c m i) (ccN X Y c m (vQ 0 (m - 1) i)) (ccN X Y c m (nQ 0 (m - 1) i)) (ccN X Y c m j) <;> rfl
    · rw [decide_eq_false (fun y => f ((cr_ij hG hn hc (by omega) hj).mp y)), cdec_f f]; rfl
theorem c_between (h : POK g n X Y) (hc : Cor n m c) (ps : PolS g X Y m c) {i j : Nat} (hij : i + 2 ≤ j) (hj : j < m) (tab : ∀ k, i < k → k < j → g.1 236 (i * 9 + k) = nI (SCD m (DcN X Y c m) 9 i k) ∧ g.1 236 (k * 9 + j) = nI (SCD m (DcN X Y c m) 9 k j)) : zev mX6_splitsBetween 0 [.ref 234, .int (nI i), .int (nI j), .ref 211] g = some (some (.int (nI (SCD m (DcN X Y c m) 9 i j))), g) := by
  have hn := h.1.1
  have m9 := hc.1
  have lp : ∀ d k, k + d = j → i < k → zev mX6_splitsBetween 18 [.ref 234, .int (nI i), .int (nI j), .int (nI (sumR (fun t => SCD m (DcN X Y c m) 9 i (i + 1 + t) * SCD m (DcN X Y c m) 9 (i + 1 + t) j) (k - i - 1))), .int (nI k)] g = some (some (.int (nI (sumR (fun t => SCD m (DcN X Y c m) 9 i (i + 1 + t) * SCD m (DcN X Y c m) 9 (i + 1 + t) j) (j - i - 1)))), g) := by
    intro d
    induction d with
    | zero =>
      intro k e1 e2
      have e : k = j := by omega
      rw [e, uX6_splitsBetween_18, decide_eq_true (nI_le (Nat.le_refl j) (by omega))]; rfl
    | succ d ih =>
      intro k e1 e2
      have t := tab k e2 (by omega)
      have a1 : nI i * 9 + nI k = nI (i * 9 + k) := by rw [show nI i * 9 = nI (i * 9) from nI_mul i 9, nI_add]
      have a2 : nI k * 9 + nI j = nI (k * 9 + j) := by rw [show nI k * 9 = nI (k * 9) from nI_mul k 9, nI_add]
      have s := sumR_s (fun t => SCD m (DcN X Y c m) 9 i (i + 1 + t) * SCD m (DcN X Y c m) 9 (i + 1 + t) j) (k - i - 1)
      have s' : sumR (fun t => SCD m (DcN X Y c m) 9 i (i + 1 + t) * SCD m (DcN X Y c m) 9 (i + 1 + t) j) (k + 1 - i - 1) = sumR (fun t => SCD m (DcN X Y c m) 9 i (i + 1 + t) * SCD m (DcN X Y c m) 9 (i + 1 + t) j) (k - i - 1) + SCD m (DcN X Y c m) 9 i k * SCD m (DcN X Y c m) 9 k j := by
        rw [show k + 1 - i - 1 = k - i - 1 + 1 from by omega, s, show i + 1 + (k - i - 1) = k from by omega]
      have r := ih (k + 1) (by omega) (by omega)
      rw [s'] at r
      rw [uX6_splitsBetween_18, decide_eq_false (nI_ge (a := k) (b := j) (by omega) (by omega)), a1, a2, zin_n (by omega : i * 9 + k < 81) (by omega), zin_n (by omega : k * 9 + j < 81) (by omega), nI_clamp (by omega : i * 9 + k < 2 ^ 31), nI_clamp (by omega : k * 9 + j < 2 ^ 31), t.1, t.2, nI_mul, nI_add, nI_1]
      exact r
  rw [uX6_splitsBetween_0, c_joined h hc ps hij hj, zaI_some, bI_0, sc_r hij (by omega)]
  cases jnD m (DcN X Y c m) i j with
  | false => rfl
  | true =>
    have r := lp (j - (i + 1)) (i + 1) (by omega) (by omega)
    rw [show i + 1 - i - 1 = 0 from by omega] at r
    rw [nI_1]
    exact r
def t236 (k _j : Nat) : Bool := Nat.beq k 236
theorem fr_t236 {g g' : zIJ} (f : zFr t236 g g') : zFr tPo g g' := fr_le f (fun a b z => by
  unfold tPo at z
  unfold t236
  have := of_decide_eq_false z
  exact nbeq_f (by omega))
theorem ps_236 {g' : zIJ} (f : zFr t236 g g') (ps : PolS g X Y m c) : PolS g' X Y m c := ⟨(f 234 2 rfl).1.trans ps.1, (f 234 3 rfl).1.trans ps.2.1, (f 234 4 rfl).2.trans ps.2.2.1, (f 234 5 rfl).1.trans ps.2.2.2.1, fun j hj => (f 235 j rfl).1.trans (ps.2.2.2.2 j hj)⟩
theorem c_splitCount (h : POK g n X Y) (hc : Cor n m c) (ps : PolS g X Y m c) : ∃ g', zev mX6_splitCount 0 [.ref 234, .ref 211] g = some (some (.int (nI (SCD m (DcN X Y c m) 9 0 (m - 1)))), g') ∧ zFr tPo g g' := by
  have hn := h.1.1
  have m9 := hc.1
  rw [uX6_splitCount_0]
  refine zloop (F := fun gap g1 => zev mX6_splitCount 2 [.ref 234, .ref 211, .int (nI gap)] g1) (I := fun gap g1 => zFr t236 g g1 ∧ ∀ i j, i < j → j < m → j < i + gap → g1.1 236 (i * 9 + j) = nI (SCD m (DcN X Y c m) 9 i j)) (Post := fun r => ∃ g', r = some (some (.int (nI (SCD m (DcN X Y c m) 9 0 (m - 1)))), g') ∧ zFr tPo g g') (lo := 1) (n := m) (fun gap g1 hg1 hg2 I1 => ?_) (fun g1 I1 => ?_) (m - 1) 1 g (Nat.le_refl _) (by omega) ⟨fr_refl _ g, fun i j h1 h2 h3 => by omega⟩
  · have b2 := (ps_236 I1.1 ps).1
    have e1 : zev mX6_splitCount 2 [.ref 234, .ref 211, .int (nI gap)] g1 = zev mX6_splitCount 12 [.ref 234, .ref 211, .int (nI gap), .int (nI 0)] g1 := by
      rw [uX6_splitCount_2, b2, decide_eq_false (nI_ge (a := gap) (b := m) hg2 (by omega))]; rfl
    have inn : ∃ s', zev mX6_splitCount 12 [.ref 234, .ref 211, .int (nI gap), .int (nI 0)] g1 = zev mX6_splitCount 2 [.ref 234, .ref 211, .int (nI (gap + 1))] s' ∧ zFr t236 g s' ∧ ∀ i j, i < j → j < m → j < i + (gap + 1) → s'.1 236 (i * 9 + j) = nI (SCD m (DcN X Y c m) 9 i j) := by
      refine zloop (F := fun i g1 => zev mX6_splitCount 12 [.ref 234, .ref 211, .int (nI gap), .int (nI i)] g1) (I := fun i g1 => zFr t236 g g1 ∧ ∀ i' j, i' < j → j < m → (j < i' + gap ∨ (j = i' + gap ∧ i' < i)) → g1.1 236 (i' * 9 + j) = nI (SCD m (DcN X Y c m) 9 i' j)) (Post := fun r => ∃ s', r = zev mX6_splitCount 2 [.ref 234, .ref 211, .int (nI (gap + 1))] s' ∧ zFr t236 g s' ∧ ∀ i j, i < j → j < m → j < i + (gap + 1) → s'.1 236 (i * 9 + j) = nI (SCD m (DcN X Y c m) 9 i j)) (lo := 0) (n := m - gap) (fun i g2 _ hi I2 => ?_) (fun g2 I2 => ?_) (m - gap) 0 g1 (Nat.le_refl _) (by omega) ⟨I1.1, fun i j h1 h2 h3 => I1.2 i j h1 h2 (by omega)⟩
      · have p2 := ps_236 I2.1 ps
        have k2 := pok_po h (fr_t236 I2.1)
        have ad : nI i + nI gap = nI (i + gap) := nI_add i gap
        have ix : nI i * 9 + nI (i + gap) = nI (i * 9 + (i + gap)) := by rw [show nI i * 9 = nI (i * 9) from nI_mul i 9, nI_add]
        refine ⟨zsI g2 236 (i * 9 + (i + gap)) (nI (SCD m (DcN X Y c m) 9 i (i + gap))), ?_, fr_tr I2.1 (fr_I _ _ rfl), fun i' j h1 h2 h3 => ?_⟩
        · show zev mX6_splitCount 12 [.ref 234, .ref 211, .int (nI gap), .int (nI i)] g2 = zev mX6_splitCount 12 [.ref 234, .ref 211, .int (nI gap), .int (nI (i + 1))] _
          rw [uX6_splitCount_12, p2.1, ad, decide_eq_false (nI_ge (a := i + gap) (b := m) (by omega) (by omega)), ix, zin_n (by omega : i * 9 + (i + gap) < 81) (by omega), nI_clamp (by omega : i * 9 + (i + gap) < 2 ^ 31), nI_1, nI_1]
          by_cases e1 : gap = 1
          · subst e1
            rw [show decide (nI 1 = 1) = true from rfl, sc_1]; rfl
          · rw [show decide (nI gap = 1) = false from decide_eq_false (fun z => e1 ((nI_eq (a := gap) (b := 1) (by omega) (by omega)).mp z)), c_between (i := i) (j := i + gap) k2 hc p2 (by omega) (by omega) (fun k h1 h2 => ⟨I2.2 i k h1 (by omega) (by omega), I2.2 k (i + gap) h2 (by omega) (by omega)⟩), zaI_some]; rfl
        · rw [zI_at]
          by_cases e : i' = i ∧ j = i + gap
          · rw [if_pos ⟨rfl, by omega⟩, e.1, e.2]
          · rw [if_neg (by omega)]
            exact I2.2 i' j h1 h2 (by omega)
      · have p2 := ps_236 I2.1 ps
        refine ⟨g2, ?_, I2.1, fun i j h1 h2 h3 => I2.2 i j h1 h2 (by omega)⟩
        show zev mX6_splitCount 12 [.ref 234, .ref 211, .int (nI gap), .int (nI (m - gap))] g2 = _
        rw [uX6_splitCount_12, p2.1, nI_add, decide_eq_true (nI_le (by omega : m ≤ m - gap + gap) (by omega)), nI_1]; rfl
    obtain ⟨s', q1, q2⟩ := inn
    exact ⟨s', e1.trans q1, q2⟩
  · have p1 := ps_236 I1.1 ps
    refine ⟨g1, ?_, fr_t236 I1.1⟩
    have en := I1.2 0 (m - 1) (by omega) (by omega) (by omega)
    rw [show 0 * 9 + (m - 1) = m - 1 from by omega] at en
    show zev mX6_splitCount 2 [.ref 234, .ref 211, .int (nI m)] g1 = _
    rw [uX6_splitCount_2, p1.1, decide_eq_true (nI_le (Nat.le_refl m) (by omega)), show decide ((3 : Int32) ≤ nI m) = true from decide_eq_true (nI_le (a := 3) (b := m) (by omega) (by omega)), show nI m - 1 = nI (m - 1) from nI_sub (a := m) (b := 1) (by omega), zin_n (by omega : m - 1 < 81) (by omega), nI_clamp (by omega : m - 1 < 2 ^ 31), en]; rfl
end
