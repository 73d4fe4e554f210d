/-! Polygons: area, what lies inside. -/
theorem r_whyP {g : zIJ} {σ : zS} (hw : Wfs σ) (h : RI g σ) (a : Int32) : ∃ g', zev mX12_whyNot 0 [.ref 250, .int a] g = some (some (.int (whyI (whyP σ a))), g') ∧ zFr tPr g g' ∧ RI g' σ ∧ ∀ q, q < 4 → a = nI q → PolQ σ q → σ.so q ≠ -1 → PR g' (cN (σ.ce q)) (σ.si q) := by
  cases qa : zin a 4 with
  | false =>
    refine ⟨g, ?_, fr_refl _ g, h, fun q hq e => ?_⟩
    · unfold whyP
      rw [uX12_whyNot_0, r_isSheet, zaI_some, qa]; rfl
    · rw [e, zin_n hq (by omega)] at qa
      exact absurd qa (by decide)
  | true =>
    obtain ⟨q, hq, eq⟩ := zin_of qa (by omega)
    subst eq
    have cl : (nI q).toNatClampNeg = q := nI_clamp (by omega)
    have so := (h.1.2.2.2.2.2.2 q hq).1
    have same : ∀ q', q' < 4 → nI q = nI q' → q' = q := fun q' h1 h2 => (of_decide_eq_true (by rw [← nI_de (by omega : q < 2 ^ 31) (by omega : q' < 2 ^ 31)]; exact decide_eq_true h2 : decide (q = q') = true)).symm
    cases mi : decide (σ.so q = -1) with
    | true =>
      refine ⟨g, ?_, fr_refl _ g, h, fun q' h1 h2 _ ne => ?_⟩
      · unfold whyP
        rw [uX12_whyNot_0, r_isSheet, zaI_some, qa, cl, so, so_d hw hq, mi]; rfl
      · rw [same q' h1 h2] at ne
        exact absurd (of_decide_eq_true mi) ne
    | false =>
      obtain ⟨g1, x1, f1, r1⟩ := r_isPolygon hw h hq
      refine ⟨g1, ?_, f1, ri_pr h hw f1, fun q' h1 h2 hp _ => ?_⟩
      · unfold whyP
        rw [uX12_whyNot_0, r_isSheet, zaI_some, qa, cl, so, so_d hw hq, mi, x1, zaI_some]
        cases cdec (PolQ σ q) <;> rfl
      · rw [same q' h1 h2] at hp ⊢
        exact r1 hp
theorem whyP_none {σ : zS} {q : Nat} (hq : q < 4) (h : whyP σ (nI q) = none) : PolQ σ q ∧ σ.so q ≠ -1 := by
  revert h
  unfold whyP
  rw [zin_n hq (by omega), nI_clamp (by omega : q < 2 ^ 31)]
  by_cases mi : σ.so q = -1
  · rw [decide_eq_true mi]
    intro h; cases h
  · rw [decide_eq_false mi]
    by_cases p : PolQ σ q
    · intro _; exact ⟨p, mi⟩
    · rw [cdec_f p]
      intro h; cases h
theorem nI_whyI {k : Nat} (hk : k < 8) : decide (0 ≤ whyI (some k)) = true ∧ decide (whyI (some k) < 0) = false ∧ whyI (some k) = nI k := ⟨nI_0le (by omega), decide_eq_false (nI_n0 (by omega)), rfl⟩
theorem r_areaL {g : zIJ} {n m : Nat} {X Y : Nat → Int} {c : Nat → Nat} (h : RB g n X Y) (hc : Cor n m c) (hp : PR g c m) : zev mX12_area 21 [.ref 250, .int 0, .int (nI 0)] g = some (some (.int (zabI (arS X Y c m))), g) := by
  have hn := h.1
  have m9 := hc.1
  exact ziter (F := fun i s => zev mX12_area 21 [.ref 250, .int s, .int (nI i)] g) (R := fun s => some (some (.int (zabI s)), g)) (n := m) (h := fun i s => s + (cI (X (c i)) * cI (Y (c (nxC m i))) - cI (X (c (nxC m i))) * cI (Y (c i)))) (fun i s hi => by
    have nl := nx_lt (m := m) (i := i) (by omega)
    have ci := hc.2.1 i hi
    have cn := hc.2.1 _ nl
    obtain ⟨k1, k2⟩ := r_cornerAt hp (by omega) (by omega) hi
    show zev mX12_area 21 _ g = zev mX12_area 21 _ g
    rw [uX12_area_21, hp.1, decide_eq_false (nI_ge (a := i) (b := m) hi (by omega)), k1, zaI_some, r_x h ci, zaI_some]
    simp only [nI_1]
    rw [k2, zaI_some, r_y h cn, zaI_some, k2, zaI_some, r_x h cn, zaI_some, k1, zaI_some, r_y h ci, zaI_some]
    rfl) (fun s => by
    show zev mX12_area 21 _ g = _
    rw [uX12_area_21, hp.1, decide_eq_true (nI_le (Nat.le_refl m) (by omega))]; rfl) m 0 0 (by omega)
theorem pol_cor {σ : zS} {q : Nat} (h : PolQ σ q) : Cor (nS σ.s) (σ.si q) (cN (σ.ce q)) := cor_of h.1.1 h.2.1
theorem p_area (a : Int32) : PairC (fun g => zev mX11_area 0 [.ref 3, .int a] g) (fun g => zev mX12_area 0 [.ref 250, .int a] g) := by
  intro σ g t hw h ht
  obtain ⟨g1, x1, f1, c1, k1⟩ := c_refP hw h ht a
  cases wp : whyP σ a with
  | some k =>
    have k8 := whyP_some wp
    obtain ⟨w1, w2, w3⟩ := nI_whyI k8
    refine ⟨fI k, fdn σ k, wfs_fdn hw k, ?_, fun g' r => ?_⟩
    · show COk (zev mX11_area 0 _ g) _ _ _ _
      rw [uX11_area_0, x1, zaI_some, wp, w1]
      exact cok_le (cok_find (k := k) c1 f1 k8) (by omega : t + 1 ≤ t + 2)
    · show ROk (zev mX12_area 0 _ g') _ _ _
      obtain ⟨g2, x2, f2, r2, _⟩ := r_whyP hw r a
      rw [uX12_area_0, x2, zaI_some, wp, w2]
      exact rok_find (k := k) r2 hw (fr_ud f2 (fun a b q => by have := of_decide_eq_true q; omega)) k8
  | none =>
    obtain ⟨q, hq, e, pq, ip, ps⟩ := k1 wp
    subst e
    refine ⟨.int (zabI (arS (XS σ.s) (YS σ.s) (cN (σ.ce q)) (σ.si q))), σ, hw, ?_, fun g' r => ?_⟩
    · show COk (zev mX11_area 0 _ g) _ _ _ _
      rw [uX11_area_0, x1, zaI_some, wp, ps.2.2.2.1]
      exact cok_of c1 f1 (by omega)
    · show ROk (zev mX12_area 0 _ g') _ _ _
      obtain ⟨g2, x2, f2, r2, pr⟩ := r_whyP hw r (nI q)
      have pp := pr q hq rfl pq (whyP_none hq wp).2
      rw [uX12_area_0, x2, zaI_some, wp]
      show ROk (zev mX12_area 21 [.ref 250, .int 0, .int (nI 0)] g2) _ _ _
      rw [r_areaL (rb_s r2.1.1 hw.1) (pol_cor pq) pp]
      exact rok_of r2 (fr_ud f2 (fun a b q => by have := of_decide_eq_true q; omega))
/-! parity -/
def xorR (f : Nat → Bool) : Nat → Bool
  | 0 => false
  | n + 1 => xor (xorR f n) (f n)
theorem xorR_it (f : Nat → Bool) : ∀ k i, itr (fun j v => xor v (f j)) k i (xorR f i) = xorR f (i + k)
  | 0, i => rfl
  | k + 1, i => by
    show itr (fun j v => xor v (f j)) k (i + 1) (xor (xorR f i) (f i)) = _
    rw [show xor (xorR f i) (f i) = xorR f (i + 1) from rfl, xorR_it f k (i + 1), show i + 1 + k = i + (k + 1) from by omega]
theorem xorR_eq {f f' : Nat → Bool} : ∀ n, (∀ i, i < n → f i = f' i) → xorR f n = xorR f' n
  | 0, _ => rfl
  | n + 1, h => by
    show xor (xorR f n) (f n) = xor (xorR f' n) (f' n)
    rw [xorR_eq n (fun i hi => h i (by omega)), h n (by omega)]
theorem xorR_0 (f : Nat → Bool) : ∀ n, xorR f (n + 1) = xor (f 0) (xorR (fun i => f (i + 1)) n)
  | 0 => by
    show xor false (f 0) = xor (f 0) false
    cases f 0 <;> rfl
  | n + 1 => by
    show xor (xorR f (n + 1)) (f (n + 1)) = xor (f 0) (xor (xorR (fun i => f (i + 1)) n) (f (n + 1)))
    rw [xorR_0 f n, Bool.xor_assoc]
theorem xorR_rev : ∀ (n : Nat) (f : Nat → Bool), xorR (fun i => f (n - 1 - i)) n = xorR f n
  | 0, _ => rfl
  | n + 1, f => by
    rw [xorR_0]
    show xor (f (n + 1 - 1 - 0)) (xorR (fun i => f (n + 1 - 1 - (i + 1))) n) = xor (xorR f n) (f n)
    rw [xorR_eq (f' := fun i => f (n - 1 - i)) n (fun i hi => by rw [show n + 1 - 1 - (i + 1) = n - 1 - i from by omega]), xorR_rev n f, show n + 1 - 1 - 0 = n from by omega, Bool.xor_comm]
/-- round the other way it is the same -/
theorem xorR_round {m : Nat} (hm : 1 ≤ m) {H : Nat → Nat → Bool} (hs : ∀ a b, H a b = H b a) (c : Nat → Nat) : xorR (fun i => H (c (m - 1 - i)) (c (m - 1 - nxC m i))) m = xorR (fun i => H (c i) (c (nxC m i))) m := by
  obtain ⟨k, ek⟩ : ∃ k, m = k + 1 := ⟨m - 1, by omega⟩
  subst ek
  show xor (xorR (fun i => H (c (k + 1 - 1 - i)) (c (k + 1 - 1 - nxC (k + 1) i))) k) (H (c (k + 1 - 1 - k)) (c (k + 1 - 1 - nxC (k + 1) k))) = xor (xorR (fun i => H (c i) (c (nxC (k + 1) i))) k) (H (c k) (c (nxC (k + 1) k)))
  have e1 : xorR (fun i => H (c (k + 1 - 1 - i)) (c (k + 1 - 1 - nxC (k + 1) i))) k = xorR (fun i => H (c (k - 1 - i)) (c (k - 1 - i + 1))) k := xorR_eq k (fun i hi => by
    unfold nxC
    rw [if_pos (by omega), hs, show k + 1 - 1 - (i + 1) = k - 1 - i from by omega, show k + 1 - 1 - i = k - 1 - i + 1 from by omega])
  have e2 : xorR (fun i => H (c i) (c (nxC (k + 1) i))) k = xorR (fun i => H (c i) (c (i + 1))) k := xorR_eq k (fun i hi => by
    unfold nxC
    rw [if_pos (by omega)])
  have e3 : nxC (k + 1) k = 0 := by unfold nxC; rw [if_neg (by omega)]
  rw [e1, e2, e3, xorR_rev k (fun i => H (c i) (c (i + 1))), show k + 1 - 1 - k = 0 from by omega, show k + 1 - 1 - 0 = k from by omega, hs]
def sd2 (X Y : Nat → Int) (a b : Nat) (px py : Int) : Int := (2 * X b - 2 * X a) * (py - 2 * Y a) - (2 * Y b - 2 * Y a) * (px - 2 * X a)
def hz (X Y : Nat → Int) (px py : Int) (a b : Nat) : Bool := cond (decide (Y b ≤ Y a)) (decide (2 * Y b ≤ py) && (decide (py < 2 * Y a) && decide (0 < sd2 X Y b a px py))) (decide (2 * Y a ≤ py) && (decide (py < 2 * Y b) && decide (0 < sd2 X Y a b px py)))
theorem sd2_sml {X Y : Nat → Int} {n a b : Nat} {px py : Int} (hN : Near X Y n) (ha : a < n) (hb : b < n) (h1 : -400 ≤ px ∧ px ≤ 400) (h2 : -400 ≤ py ∧ py ≤ 400) : Sml (sd2 X Y a b px py) := by
  have k1 := hN a ha
  have k2 := hN b hb
  have key : ∀ x y : Int, -1000 ≤ x → x ≤ 1000 → -1000 ≤ y → y ≤ 1000 → -1000000 ≤ x * y ∧ x * y ≤ 1000000 := by
    intro x y x1 x2 y1 y2
    have : (x * y).natAbs ≤ 1000 * 1000 := by
      rw [Int.natAbs_mul]
      exact Nat.mul_le_mul (by omega) (by omega)
    omega
  have q1 := key (2 * X b - 2 * X a) (py - 2 * Y a) (by omega) (by omega) (by omega) (by omega)
  have q2 := key (2 * Y b - 2 * Y a) (px - 2 * X a) (by omega) (by omega) (by omega) (by omega)
  unfold Sml sd2
  omega
theorem c2_mul (x : Int) : (2 : Int32) * cI x = cI (2 * x) := cI_mul 2 x
theorem r_isInside {g : zIJ} {n m : Nat} {X Y : Nat → Int} {c : Nat → Nat} (h : RB g n X Y) (hN : Near X Y n) (hc : Cor n m c) (hp : PR g c m) {px py : Int} (h1 : -400 ≤ px ∧ px ≤ 400) (h2 : -400 ≤ py ∧ py ≤ 400) : zev mX12_isInside 0 [.ref 250, .int (cI px), .int (cI py)] g = some (some (.int (bI (xorR (fun i => hz X Y px py (c i) (c (nxC m i))) m))), g) := by
  have hn := h.1
  have m9 := hc.1
  rw [uX12_isInside_0]
  have z := ziter (F := fun i v => zev mX12_isInside 5 [.ref 250, .int (cI px), .int (cI py), .int (bI v), .int (nI i)] g) (R := fun v => some (some (.int (bI v)), g)) (n := m) (h := fun i v => xor v (hz X Y px py (c i) (c (nxC m i)))) (fun i v hi => by
    have nl := nx_lt (m := m) (i := i) (by omega)
    have ci := hc.2.1 i hi
    have cn := hc.2.1 _ nl
    obtain ⟨k1, k2⟩ := r_cornerAt hp (by omega) (by omega) hi
    have ya := (x_sml hN ci).2
    have yb := (x_sml hN cn).2
    have b1 := hN _ ci
    have b2 := hN _ cn
    have sp : Sml py := by unfold Sml; omega
    have dle : ∀ x y : Int, Sml x → Sml y → decide (cI x ≤ cI y) = decide (x ≤ y) := fun x y hx hy => decide_eq_decide.mpr (cI_le hx hy)
    have dlt : ∀ x y : Int, Sml x → Sml y → decide (cI x < cI y) = decide (x < y) := fun x y hx hy => decide_eq_decide.mpr (cI_lt hx hy)
    show zev mX12_isInside 5 _ g = zev mX12_isInside 5 _ g
    rw [uX12_isInside_5, hp.1, decide_eq_false (nI_ge (a := i) (b := m) hi (by omega)), k1, zaI_some]
    simp only [nI_1]
    rw [k2, zaI_some]
    simp only [r_y h ci, r_y h cn, r_x h ci, r_x h cn, zaI_some, c2_mul, r_side]
    rw [dle _ _ yb ya, dlt _ _ sp (by unfold Sml; omega), dlt _ _ sp (by unfold Sml; omega)]
    have s1 := sd2_sml (a := c i) (b := c (nxC m i)) hN ci cn h1 h2
    have s2 := sd2_sml (a := c (nxC m i)) (b := c i) hN cn ci h1 h2
    have d1 : decide (cI ((2 * X (c (nxC m i)) - 2 * X (c i)) * (py - 2 * Y (c i)) - (2 * Y (c (nxC m i)) - 2 * Y (c i)) * (px - 2 * X (c i))) ≤ 0) = !decide (0 < sd2 X Y (c i) (c (nxC m i)) px py) := by
      show decide (cI (sd2 X Y (c i) (c (nxC m i)) px py) ≤ 0) = _
      rw [show decide (cI (sd2 X Y (c i) (c (nxC m i)) px py) ≤ 0) = decide (sd2 X Y (c i) (c (nxC m i)) px py ≤ 0) from decide_eq_decide.mpr (cI_le0 s1)]
      by_cases z : 0 < sd2 X Y (c i) (c (nxC m i)) px py
      · rw [decide_eq_true z, decide_eq_false (by omega)]; rfl
      · rw [decide_eq_false z, decide_eq_true (by omega)]; rfl
    have d2 : decide (cI ((2 * X (c i) - 2 * X (c (nxC m i))) * (py - 2 * Y (c (nxC m i))) - (2 * Y (c i) - 2 * Y (c (nxC m i))) * (px - 2 * X (c (nxC m i)))) ≤ 0) = !decide (0 < sd2 X Y (c (nxC m i)) (c i) px py) := by
      show decide (cI (sd2 X Y (c (nxC m i)) (c i) px py) ≤ 0) = _
      rw [show decide (cI (sd2 X Y (c (nxC m i)) (c i) px py) ≤ 0) = decide (sd2 X Y (c (nxC m i)) (c i) px py ≤ 0) from decide_eq_decide.mpr (cI_le0 s2)]
      by_cases z : 0 < sd2 X Y (c (nxC m i)) (c i) px py
      · rw [decide_eq_true z, decide_eq_false (by omega)]; rfl
      · rw [decide_eq_false z, decide_eq_true (by omega)]; rfl
    rw [d1, d2]
    have x0 : bI v ^^^ 0 = bI v := by cases v <;> rfl
    have x1 : bI v ^^^ 1 = bI (xor v true) := by cases v <;> rfl
    rw [x0, x1]
    unfold hz
    rw [show decide (2 * Y (c (nxC m i)) ≤ py) = !decide (py < 2 * Y (c (nxC m i))) from by
      by_cases z : py < 2 * Y (c (nxC m i))
      · rw [decide_eq_true z, decide_eq_false (by omega)]; rfl
      · rw [decide_eq_false z, decide_eq_true (by omega)]; rfl, show decide (2 * Y (c i) ≤ py) = !decide (py < 2 * Y (c i)) from by
      by_cases z : py < 2 * Y (c i)
      · rw [decide_eq_true z, decide_eq_false (by omega)]; rfl
      · rw [decide_eq_false z, decide_eq_true (by omega)]; rfl]
    cases decide (Y (c (nxC m i)) ≤ Y (c i)) <;> cases decide (py < 2 * Y (c (nxC m i))) <;> cases decide (py < 2 * Y (c i)) <;> cases decide (0 < sd2 X Y (c i) (c (nxC m i)) px py) <;> cases decide (0 < sd2 X Y (c (nxC m i)) (c i) px py) <;> cases v <;> rfl) (fun v => by
    show zev mX12_isInside 5 _ g = _
    rw [uX12_isInside_5, hp.1, decide_eq_true (nI_le (Nat.le_refl m) (by omega)), bI_bit]; rfl) m 0 false (by omega)
  refine Eq.trans z ?_
  rw [show itr (fun i v => xor v (hz X Y px py (c i) (c (nxC m i)))) m 0 false = xorR (fun i => hz X Y px py (c i) (c (nxC m i))) (0 + m) from xorR_it _ m 0, Nat.zero_add]
