/-! What lies inside. -/
theorem sd2_dt (X Y : Nat → Int) (a b p : Nat) : sd2 X Y a b (2 * X p) (2 * Y p) = 4 * dt X Y a b p := by unfold sd2 dt; grind
theorem hz_sy (X Y : Nat → Int) (px py : Int) (a b : Nat) : hz X Y px py a b = hz X Y px py b a := by
  unfold hz
  by_cases q1 : Y b ≤ Y a
  · by_cases q2 : Y a ≤ Y b
    · rw [decide_eq_true q1, decide_eq_true q2]
      have e : Y a = Y b := by omega
      by_cases z : 2 * Y b ≤ py
      · rw [decide_eq_false (show ¬ py < 2 * Y a by omega), decide_eq_false (show ¬ py < 2 * Y b by omega)]
        cases decide (2 * Y b ≤ py) <;> cases decide (2 * Y a ≤ py) <;> rfl
      · rw [decide_eq_false z, decide_eq_false (show ¬ 2 * Y a ≤ py by omega)]; rfl
    · rw [decide_eq_true q1, decide_eq_false q2]; rfl
  · rw [decide_eq_false q1, decide_eq_true (show Y a ≤ Y b by omega)]; rfl
section
variable {g : zIJ} {n m : Nat} {X Y : Nat → Int} {c : Nat → Nat}
theorem hz_pt (hG : GP X Y n) {a b p : Nat} (ha : a < n) (hb : b < n) (hp : p < n) (nab : a ≠ b) (nap : a ≠ p) (nbp : b ≠ p) : hz X Y (2 * X p) (2 * Y p) a b = ((decide (Y a ≤ Y p) != decide (Y b ≤ Y p)) && (oXY X Y a b p == !decide (Y b ≤ Y a))) := by
  have d := hG a b p ha hb hp nab nap nbp
  have sw := dt_sw (X := X) (Y := Y) a b p
  unfold hz oXY
  rw [sd2_dt, sd2_dt, show decide (2 * Y b ≤ 2 * Y p) = decide (Y b ≤ Y p) from decide_eq_decide.mpr ⟨fun z => by omega, fun z => by omega⟩, show decide (2 * Y a ≤ 2 * Y p) = decide (Y a ≤ Y p) from decide_eq_decide.mpr ⟨fun z => by omega, fun z => by omega⟩, show decide (2 * Y p < 2 * Y a) = !decide (Y a ≤ Y p) from by
    by_cases z : Y a ≤ Y p
    · rw [decide_eq_true z, decide_eq_false (by omega)]; rfl
    · rw [decide_eq_false z, decide_eq_true (by omega)]; rfl, show decide (2 * Y p < 2 * Y b) = !decide (Y b ≤ Y p) from by
    by_cases z : Y b ≤ Y p
    · rw [decide_eq_true z, decide_eq_false (by omega)]; rfl
    · rw [decide_eq_false z, decide_eq_true (by omega)]; rfl, show decide (0 < 4 * dt X Y a b p) = decide (0 < dt X Y a b p) from decide_eq_decide.mpr ⟨fun z => by omega, fun z => by omega⟩, show decide (0 < 4 * dt X Y b a p) = !decide (0 < dt X Y a b p) from by
    by_cases z : 0 < dt X Y a b p
    · rw [decide_eq_true z, decide_eq_false (by omega)]; rfl
    · rw [decide_eq_false z, decide_eq_true (by omega)]; rfl]
  by_cases q : Y b ≤ Y a
  · rw [decide_eq_true q]
    by_cases z1 : Y a ≤ Y p
    · rw [decide_eq_true z1, decide_eq_true (show Y b ≤ Y p by omega)]
      cases decide (0 < dt X Y a b p) <;> rfl
    · rw [decide_eq_false z1]
      cases decide (Y b ≤ Y p) <;> cases decide (0 < dt X Y a b p) <;> rfl
  · rw [decide_eq_false q]
    by_cases z1 : Y b ≤ Y p
    · rw [decide_eq_true z1, decide_eq_true (show Y a ≤ Y p by omega)]
      cases decide (0 < dt X Y a b p) <;> rfl
    · rw [decide_eq_false z1]
      cases decide (Y a ≤ Y p) <;> cases decide (0 < dt X Y a b p) <;> rfl
theorem c_insideC (h : POK g n X Y) (hc : Cor n m c) (h2 : g.1 234 2 = nI m) (hp : ∀ j, j < m → g.1 235 j = nI (c j)) {p : Nat} (hpn : p < n) (np : ∀ j, j < m → c j ≠ p) : zev mX6_isInside 0 [.ref 234, .int (nI p), .ref 211] g = some (some (.int (bI (xorR (fun i => hz X Y (2 * X p) (2 * Y p) (c i) (c (nxC m i))) m))), g) := by
  have hn := h.1.1
  have m9 := hc.1
  have hG := h.2.1.2.2.1
  have hN := h.2.1.2.1
  have dle : ∀ x y : Int, Sml x → Sml y → decide (cI x ≤ cI y) = decide (x ≤ y) := fun x y hx hy => decide_eq_decide.mpr (cI_le hx hy)
  rw [uX6_isInside_0, zin_n (by omega : p < 9) (by omega), nI_clamp (by omega : p < 2 ^ 31), (h.1.2.2 p hpn).2]
  have z := ziter (F := fun i v => zev mX6_isInside 13 [.ref 234, .int (nI p), .ref 211, .int (bI v), .int (cI (Y p)), .int (nI i)] g) (R := fun v => some (some (.int (bI v)), g)) (n := m) (h := fun i v => xor v (hz X Y (2 * X p) (2 * Y p) (c i) (c (nxC m i)))) (fun i v hi => by
    have nl := nx_lt (m := m) (i := i) (by omega)
    have ci := hc.2.1 i hi
    have cn := hc.2.1 _ nl
    have ne := cor_ne hc hi
    have il := c_isLeft h ci cn hpn ne (np i hi) (np _ nl)
    have e1 : g.1 213 (c i) = cI (Y (c i)) := (h.1.2.2 _ ci).2
    have e2 : g.1 213 (c (nxC m i)) = cI (Y (c (nxC m i))) := (h.1.2.2 _ cn).2
    show zev mX6_isInside 13 _ g = zev mX6_isInside 13 _ g
    rw [uX6_isInside_13, h2, decide_eq_false (nI_ge (a := i) (b := m) hi (by omega)), zin_n (by omega : i < 9) (by omega), c_behindP h2 (by omega) hi, zaI_some, zin_n (by omega : nxC m i < 9) (by omega), nI_clamp (by omega : i < 2 ^ 31), nI_clamp (by omega : nxC m i < 2 ^ 31), hp i hi, hp _ nl, zin_n (by omega : c i < 9) (by omega), zin_n (by omega : c (nxC m i) < 9) (by omega), nI_clamp (by omega : c i < 2 ^ 31), nI_clamp (by omega : c (nxC m i) < 2 ^ 31), e1, e2]
    simp only [il, zaI_some, nI_1]
    rw [dle _ _ (x_sml hN cn).2 (x_sml hN ci).2, dle _ _ (x_sml hN ci).2 (x_sml hN hpn).2, dle _ _ (x_sml hN cn).2 (x_sml hN hpn).2, hz_pt hG ci cn hpn ne (np i hi) (np _ nl)]
    cases decide (Y (c (nxC m i)) ≤ Y (c i)) <;> cases decide (Y (c i) ≤ Y p) <;> cases decide (Y (c (nxC m i)) ≤ Y p) <;> cases oXY X Y (c i) (c (nxC m i)) p <;> cases v <;> rfl) (fun v => by
    show zev mX6_isInside 13 _ g = _
    rw [uX6_isInside_13, h2, decide_eq_true (nI_le (Nat.le_refl m) (by omega)), bI_bit]; rfl) m 0 false (by omega)
  refine Eq.trans z ?_
  rw [show itr (fun i v => xor v (hz X Y (2 * X p) (2 * Y p) (c i) (c (nxC m i)))) m 0 false = xorR (fun i => hz X Y (2 * X p) (2 * Y p) (c i) (c (nxC m i))) (0 + m) from xorR_it _ m 0, Nat.zero_add]
theorem cor_rev (h : Cor n m c) : Cor n m (fun j => c (m - 1 - j)) := ⟨h.1, fun i hi => h.2.1 _ (by omega), fun i j hi hj e => by
  have := h.2.2 _ _ (by omega) (by omega) e
  omega⟩
/-- whichever way it lies -/
theorem c_inside (h : POK g n X Y) (hc : Cor n m c) (ps : PolS g X Y m c) {p : Nat} (hpn : p < n) (np : ∀ j, j < m → c j ≠ p) : zev mX6_isInside 0 [.ref 234, .int (nI p), .ref 211] g = some (some (.int (bI (xorR (fun i => hz X Y (2 * X p) (2 * Y p) (c i) (c (nxC m i))) m))), g) := by
  obtain ⟨h2, h3, h4, h5, h6⟩ := ps
  have m9 := hc.1
  cases ds : decide (0 ≤ arS X Y c m) with
  | true =>
    rw [ds] at h6
    exact c_insideC h hc h2 h6 hpn np
  | false =>
    rw [ds] at h6
    have k := c_insideC h (cor_rev hc) h2 h6 hpn (fun j hj => np _ (by omega))
    rw [k]
    have r := xorR_round (m := m) (by omega) (H := fun a b => hz X Y (2 * X p) (2 * Y p) a b) (fun a b => hz_sy X Y _ _ a b) c
    rw [show xorR (fun i => hz X Y (2 * X p) (2 * Y p) ((fun j => c (m - 1 - j)) i) ((fun j => c (m - 1 - j)) (nxC m i))) m = _ from r]
noncomputable def inM (X Y : Nat → Int) (m : Nat) (c : Nat → Nat) (n : Nat) : Int32 := itr (fun p s => cond (cdec (∃ j, j < m ∧ c j = p)) s (cond (xorR (fun i => hz X Y (2 * X p) (2 * Y p) (c i) (c (nxC m i))) m) (s ||| ((1 : Int32) <<< (nI p &&& 31))) s)) n 0 0
theorem c_pointsInside (h : POK g n X Y) (hc : Cor n m c) (ps : PolS g X Y m c) : zev mX6_pointsInside 0 [.ref 234, .ref 211] g = some (some (.int (inM X Y m c n)), g) := by
  have hn := h.1.1
  have m9 := hc.1
  rw [uX6_pointsInside_0]
  exact ziter (F := fun p s => zev mX6_pointsInside 4 [.ref 234, .ref 211, .int s, .int (nI p)] g) (R := fun s => some (some (.int s), g)) (n := n) (h := fun p s => cond (cdec (∃ j, j < m ∧ c j = p)) s (cond (xorR (fun i => hz X Y (2 * X p) (2 * Y p) (c i) (c (nxC m i))) m) (s ||| ((1 : Int32) <<< (nI p &&& 31))) s)) (fun p s hp => by
    have bt : (hMsk c m).testBit p = cdec (∃ j, j < m ∧ c j = p) := by
      by_cases q : ∃ j, j < m ∧ c j = p
      · rw [cdec_t q]; exact (hMsk_at c p m).mpr q
      · rw [cdec_f q]
        cases z : (hMsk c m).testBit p with
        | false => rfl
        | true => exact absurd ((hMsk_at c p m).mp z) q
    show zev mX6_pointsInside 4 _ g = zev mX6_pointsInside 4 _ g
    rw [uX6_pointsInside_4, h.1.2.1, decide_eq_false (nI_ge (a := p) (b := n) hp (by omega)), ps.2.1, i_and0, i_sshr0 (by omega), nI_bit (by omega), bt, nI_1]
    by_cases q : ∃ j, j < m ∧ c j = p
    · rw [cdec_t q]; rfl
    · rw [cdec_f q, c_inside h hc ps hp (fun j hj e => q ⟨j, hj, e⟩), zaI_some, bI_0]
      cases xorR (fun i => hz X Y (2 * X p) (2 * Y p) (c i) (c (nxC m i))) m <;> rfl) (fun s => by
    show zev mX6_pointsInside 4 _ g = _
    rw [uX6_pointsInside_4, h.1.2.1, decide_eq_true (nI_le (Nat.le_refl n) (by omega))]; rfl) n 0 0 (by omega)
theorem r_within (h : RB g n X Y) (hN : Near X Y n) (hc : Cor n m c) (hp : PR g c m) : zev mX12_within 21 [.ref 250, .int 0, .int (nI 0)] g = some (some (.int (inM X Y m c n)), g) := by
  have hn := h.1
  have m9 := hc.1
  exact ziter (F := fun p s => zev mX12_within 21 [.ref 250, .int s, .int (nI p)] g) (R := fun s => some (some (.int s), g)) (n := n) (h := fun p s => cond (cdec (∃ j, j < m ∧ c j = p)) s (cond (xorR (fun i => hz X Y (2 * X p) (2 * Y p) (c i) (c (nxC m i))) m) (s ||| ((1 : Int32) <<< (nI p &&& 31))) s)) (fun p s hpn => by
    have b1 := hN p hpn
    have o0 : s ||| 0 = s := Int32.or_zero
    show zev mX12_within 21 _ g = zev mX12_within 21 _ g
    rw [uX12_within_21, r_points h, zaI_some, decide_eq_false (nI_ge (a := p) (b := n) hpn (by omega)), r_isCorner hp (by omega) (fun j hj => by have := hc.2.1 j hj; omega) (by omega : p < 9), zaI_some, bI_0, r_x h hpn, zaI_some, r_y h hpn, zaI_some, c2_mul, c2_mul, r_isInside h hN hc hp (by omega) (by omega), zaI_some, bI_0, o0, nI_1]
    cases cdec (∃ j, j < m ∧ c j = p) <;> cases xorR (fun i => hz X Y (2 * X p) (2 * Y p) (c i) (c (nxC m i))) m <;> rfl) (fun s => by
    show zev mX12_within 21 _ g = _
    rw [uX12_within_21, r_points h, zaI_some, decide_eq_true (nI_le (Nat.le_refl n) (by omega))]; rfl) n 0 0 (by omega)
end
theorem p_within (a : Int32) : PairC (fun g => zev mX11_within 0 [.ref 3, .int a] g) (fun g => zev mX12_within 0 [.ref 250, .int a] g) := by
  intro σ g t hw h ht
  obtain ⟨g1, x1, f1, c1, k1⟩ := c_refP hw h ht a
  cases wp : whyP σ a with
  | some k =>
    have k8 := whyP_some wp
    obtain ⟨w1, w2, w3⟩ := nI_whyI k8
    refine ⟨fI k, fdn σ k, wfs_fdn hw k, ?_, fun g' r => ?_⟩
    · show COk (zev mX11_within 0 _ g) _ _ _ _
      rw [uX11_within_0, x1, zaI_some, wp, w1]
      exact cok_le (cok_find (k := k) c1 f1 k8) (by omega : t + 1 ≤ t + 2)
    · show ROk (zev mX12_within 0 _ g') _ _ _
      obtain ⟨g2, x2, f2, r2, _⟩ := r_whyP hw r a
      rw [uX12_within_0, x2, zaI_some, wp, w2]
      exact rok_find (k := k) r2 hw (fr_ud f2 (fun a b q => by have := of_decide_eq_true q; omega)) k8
  | none =>
    obtain ⟨q, hq, e, pq, ip, ps⟩ := k1 wp
    subst e
    refine ⟨.int (inM (XS σ.s) (YS σ.s) (σ.si q) (cN (σ.ce q)) (nS σ.s)), σ, hw, ?_, fun g' r => ?_⟩
    · show COk (zev mX11_within 0 _ g) _ _ _ _
      rw [uX11_within_0, x1, zaI_some, wp, c_pointsInside ip.2.1 (pol_cor pq) ps]
      exact cok_of c1 f1 (by omega)
    · show ROk (zev mX12_within 0 _ g') _ _ _
      obtain ⟨g2, x2, f2, r2, pr⟩ := r_whyP hw r (nI q)
      have pp := pr q hq rfl pq (whyP_none hq wp).2
      rw [uX12_within_0, x2, zaI_some, wp]
      show ROk (zev mX12_within 21 [.ref 250, .int 0, .int (nI 0)] g2) _ _ _
      rw [r_within (rb_s r2.1.1 hw.1) hw.1.2.1.2.1 (pol_cor pq) pp]
      exact rok_of r2 (fr_ud f2 (fun a b q => by have := of_decide_eq_true q; omega))
