/-! Polygons: why not; area. -/
def PolQ (σ : zS) (q : Nat) : Prop := Pol (XS σ.s) (YS σ.s) (nS σ.s) (σ.si q) (σ.ce q)
noncomputable def whyP (σ : zS) (a : Int32) : Option Nat := cond (zin a 4) (cond (decide (σ.so a.toNatClampNeg = -1)) (some 5) (cond (cdec (PolQ σ a.toNatClampNeg)) none (some 4))) (some 0)
theorem c_refP {g : zIJ} {σ : zS} {t : Nat} (hw : Wfs σ) (h : CI g σ t) (ht : t ≤ 1000000) (a : Int32) : ∃ g', zev mX11_refusedPolygon 0 [.ref 3, .int a] g = some (some (.int (whyI (whyP σ a))), g') ∧ zFr tC g g' ∧ CI g' σ (t + 1) ∧ (whyP σ a = none → ∃ q, q < 4 ∧ a = nI q ∧ PolQ σ q ∧ CIp g' σ (t + 1) ∧ PolS g' (XS σ.s) (YS σ.s) (σ.si q) (cN (σ.ce q))) := by
  cases qa : zin a 4 with
  | false =>
    have e : whyP σ a = some 0 := by unfold whyP; rw [qa]; rfl
    refine ⟨g, ?_, fr_refl _ g, ci_le h (by omega), fun z => by rw [e] at z; cases z⟩
    rw [uX11_refusedPolygon_0, c_isSheet, zaI_some, qa, e]; rfl
  | true =>
    obtain ⟨q, hq, eq⟩ := zin_of qa (by omega)
    subst eq
    have cl : (nI q).toNatClampNeg = q := nI_clamp (by omega)
    have z1 := (zC_sh q hq).1
    cases mi : decide (σ.so q = -1) with
    | true =>
      have e : whyP σ (nI q) = some 5 := by unfold whyP; rw [qa, cl, mi]; rfl
      refine ⟨g, ?_, fr_refl _ g, ci_le h (by omega), fun z => by rw [e] at z; cases z⟩
      rw [uX11_refusedPolygon_0, c_isSheet, zaI_some, qa, cl, z1, c_isMissing h.1 hq, zaI_some, mi, e]; rfl
    | false =>
      obtain ⟨g1, x1, f1, ip⟩ := c_fol hw h ht
      have h7 := ip.1.2.2.2.2.2.2 q hq
      obtain ⟨g2, x2, f2, r2⟩ := c_read ip.2.1 hq h7.2.1 ((hw.2.2.2.2.2 q hq).1) h7.2.2
      have fw : zFr tW g1 g2 := fr_ud f2 (fun a b z => by have := of_decide_eq_true z; omega)
      have ip2 := cip_w ip fw
      have ff := fr_tr f1 (fr_wc fw)
      have hd : zev mX11_refusedPolygon 0 [.ref 3, .int (nI q)] g = cond (cdec (PolQ σ q)) (some (some (.int (-1)), g2)) (some (some (.int 4), g2)) := by
        rw [uX11_refusedPolygon_0, c_isSheet, zaI_some, qa, cl, z1, c_isMissing h.1 hq, zaI_some, mi, x1, zaV_some, x2, zaI_some, bI_0]
        show cond _ _ _ = cond (cdec (Pol (XS σ.s) (YS σ.s) (nS σ.s) (σ.si q) (σ.ce q))) _ _
        cases cdec (Pol (XS σ.s) (YS σ.s) (nS σ.s) (σ.si q) (σ.ce q)) <;> rfl
      by_cases pq : PolQ σ q
      · have e : whyP σ (nI q) = none := by unfold whyP; rw [qa, cl, mi, cdec_t pq]; rfl
        refine ⟨g2, ?_, ff, cip_ci ip2, fun _ => ⟨q, hq, rfl, pq, ip2, r2 pq⟩⟩
        rw [hd, cdec_t pq, e]; rfl
      · have e : whyP σ (nI q) = some 4 := by unfold whyP; rw [qa, cl, mi, cdec_f pq]; rfl
        refine ⟨g2, ?_, ff, cip_ci ip2, fun z => by rw [e] at z; cases z⟩
        rw [hd, cdec_f pq, e]; rfl
theorem whyP_some {σ : zS} {a : Int32} {k : Nat} (h : whyP σ a = some k) : k < 8 := by
  revert h
  unfold whyP
  cases zin a 4
  · intro h; cases h; decide
  · cases decide (σ.so a.toNatClampNeg = -1)
    · cases cdec (PolQ σ a.toNatClampNeg)
      · intro h; cases h; decide
      · intro h; cases h
    · intro h; cases h; decide
/-! the reference -/
def PR (g : zIJ) (c : Nat → Nat) (m : Nat) : Prop := g.1 250 22 = nI m ∧ ∀ j, j < m → g.1 300 j = nI (c j)
def tPr (k j : Nat) : Bool := decide (k = 300 ∨ (k = 250 ∧ j = 22))
theorem ri_pr {g g' : zIJ} {σ : zS} (h : RI g σ) (hw : Wfs σ) (f : zFr tPr g g') : RI g' σ := by
  have f' : ∀ k j, ¬ (k = 300 ∨ (k = 250 ∧ j = 22)) → g'.1 k j = g.1 k j ∧ g'.2 k j = g.2 k j := fun k j hk => f k j (decide_eq_false hk)
  exact ri_fr h hw (fr_ud f (fun a b q => by have := of_decide_eq_true q; omega)) (f' _ _ (by omega)).1 (f' _ _ (by omega)).1 (funext fun j => (f' _ _ (by omega)).2)
theorem modN : ∀ m, m < 10 → ∀ k, k < 11 → 0 < m → nI k - nI k / nI m * nI m = nI (k % m) := by decide +kernel
section
variable {g : zIJ} {n m : Nat} {X Y : Nat → Int} {c : Nat → Nat}
theorem rb_pr {g' : zIJ} (h : RB g n X Y) (f : zFr tPr g g') : RB g' n X Y := by
  have f' : ∀ j, g'.1 251 j = g.1 251 j := fun j => (f 251 j (decide_eq_false (by omega))).1
  exact ⟨h.1, by rw [f']; exact h.2.1, fun i hi => ⟨by rw [f']; exact (h.2.2 i hi).1, by rw [f']; exact (h.2.2 i hi).2⟩⟩
theorem r_isCorner (hp : PR g c m) (hm : m ≤ 9) (hc : ∀ j, j < m → c j < 9) {p : Nat} (hp9 : p < 9) : zev mX12_isCorner 0 [.ref 250, .int (nI p)] g = some (some (.int (bI (cdec (∃ j, j < m ∧ c j = p)))), g) := by
  rw [uX12_isCorner_0]
  have z := zall (F := fun i => zev mX12_isCorner 2 [.ref 250, .int (nI p), .int (nI i)] g) (R0 := some (some (.int 1), g)) (R1 := some (some (.int 0), g)) (n := m) (Q := fun i => c i ≠ p) (fun i hi => by
    have := hc i hi
    show zev mX12_isCorner 2 _ g = _
    rw [uX12_isCorner_2, hp.1, decide_eq_false (nI_ge (a := i) (b := m) hi (by omega)), zin_n (by omega : i < 9) (by omega), nI_clamp (by omega : i < 2 ^ 31), hp.2 i hi, nI_de (by omega) (by omega), nI_1]
    by_cases e : c i = p
    · rw [decide_eq_true e, cdec_f (fun y => y e)]; rfl
    · rw [decide_eq_false e, cdec_t e]; rfl) (by
    show zev mX12_isCorner 2 _ g = _
    rw [uX12_isCorner_2, hp.1, decide_eq_true (nI_le (Nat.le_refl m) (by omega))]; rfl) m 0 (by omega)
  refine Eq.trans z ?_
  by_cases q : ∃ j, j < m ∧ c j = p
  · obtain ⟨j, hj, e⟩ := q
    rw [cdec_t (q := ∃ j, j < m ∧ c j = p) ⟨j, hj, e⟩, cdec_f (q := ∀ j, 0 ≤ j → j < m → c j ≠ p) (fun y => y j (by omega) hj e)]; rfl
  · rw [cdec_f q, cdec_t (q := ∀ j, 0 ≤ j → j < m → c j ≠ p) (fun j _ hj e => q ⟨j, hj, e⟩)]; rfl
theorem nx_mod {i : Nat} (hi : i < m) : (i + 1) % m = nxC m i := by
  unfold nxC
  by_cases q : i + 1 < m
  · rw [if_pos q, Nat.mod_eq_of_lt q]
  · rw [if_neg q, show i + 1 = m from by omega, Nat.mod_self]
theorem r_cornerAt (hp : PR g c m) (h0 : 0 < m) (hm : m ≤ 9) {i : Nat} (hi : i < m) : zev mX12_cornerAt 0 [.ref 250, .int (nI i)] g = some (some (.int (nI (c i))), g) ∧ zev mX12_cornerAt 0 [.ref 250, .int (nI (i + 1))] g = some (some (.int (nI (c (nxC m i)))), g) := by
  have d0 : decide (nI m = 0) = false := by rw [show (0 : Int32) = nI 0 from rfl, nI_de (by omega) (by omega), decide_eq_false (by omega)]
  have nl := nx_lt (m := m) (i := i) h0
  constructor
  · rw [uX12_cornerAt_0, hp.1, d0, modN m (by omega) i (by omega) h0, Nat.mod_eq_of_lt hi, zin_n (by omega : i < 9) (by omega), nI_clamp (by omega : i < 2 ^ 31), hp.2 i hi]; rfl
  · rw [uX12_cornerAt_0, hp.1, d0, modN m (by omega) (i + 1) (by omega) h0, nx_mod hi, zin_n (by omega : nxC m i < 9) (by omega), nI_clamp (by omega : nxC m i < 2 ^ 31), hp.2 _ nl]; rfl
theorem r_isPointL (h : RB g n X Y) (v : Int64) : zev mX12_isPoint 0 [.ref 250, .long v] g = some (some (.int (bI (decide (0 ≤ v.toInt ∧ v.toInt < n)))), g) := by
  have hn := h.1
  rw [uX12_isPoint_0, r_points h, zaI_some, r_in, zaI_some, bI_bit, pred_l (by omega), show (0 : Int64).toInt = 0 from rfl]
  show some (some (Value.int (bI (decide (0 ≤ v.toInt ∧ v.toInt ≤ (n : Int) - 1)))), g) = _
  rw [show decide (0 ≤ v.toInt ∧ v.toInt ≤ (n : Int) - 1) = decide (0 ≤ v.toInt ∧ v.toInt < (n : Int)) from decide_eq_decide.mpr ⟨fun z => by omega, fun z => by omega⟩]
theorem r_poly107 (h : RB g n X Y) (hN : Near X Y n) (hc : Cor n m c) (hp : PR g c m) : zev mX12_isPolygon 107 [.ref 250, .int (nI 0)] g = some (some (.int (bI (cdec (SOK X Y m c)))), g) := by
  have hn := h.1
  have m9 := hc.1
  have inner : ∀ i, i < m → zev mX12_isPolygon 117 [.ref 250, .int (nI i), .int (nI 0)] g = cond (cdec (∀ j, 0 ≤ j → j < m → crs (oXY X Y) (c i) (c (nxC m i)) (c j) (c (nxC m j)) = false)) (zev mX12_isPolygon 107 [.ref 250, .int (nI (i + 1))] g) (some (some (.int 0), g)) := by
    intro i hi
    refine zall (F := fun j => zev mX12_isPolygon 117 [.ref 250, .int (nI i), .int (nI j)] g) (Q := fun j => crs (oXY X Y) (c i) (c (nxC m i)) (c j) (c (nxC m j)) = false) (fun j hj => ?_) ?_ m 0 (by omega)
    · show zev mX12_isPolygon 117 _ g = _
      rw [uX12_isPolygon_117, hp.1, decide_eq_false (nI_ge (a := j) (b := m) hj (by omega)), (r_cornerAt hp (by omega) (by omega) hi).1, zaI_some]
      simp only [nI_1]
      rw [(r_cornerAt hp (by omega) (by omega) hi).2, zaI_some, (r_cornerAt hp (by omega) (by omega) hj).1, zaI_some, (r_cornerAt hp (by omega) (by omega) hj).2, zaI_some, r_doCross h hN (hc.2.1 i hi) (hc.2.1 _ (nx_lt (by omega))) (hc.2.1 j hj) (hc.2.1 _ (nx_lt (by omega))), zaI_some, bI_0, cdec_bf]
      rfl
    · show zev mX12_isPolygon 117 _ g = _
      rw [uX12_isPolygon_117, hp.1, decide_eq_true (nI_le (Nat.le_refl m) (by omega)), nI_1]; rfl
  have outer := zall (F := fun i => zev mX12_isPolygon 107 [.ref 250, .int (nI i)] g) (R0 := some (some (.int 0), g)) (R1 := some (some (.int 1), g)) (n := m) (Q := fun i => ∀ j, 0 ≤ j → j < m → crs (oXY X Y) (c i) (c (nxC m i)) (c j) (c (nxC m j)) = false) (fun i hi => by
    show zev mX12_isPolygon 107 _ g = _
    rw [uX12_isPolygon_107, hp.1, decide_eq_false (nI_ge (a := i) (b := m) hi (by omega))]
    exact inner i hi) (by
    show zev mX12_isPolygon 107 _ g = _
    rw [uX12_isPolygon_107, hp.1, decide_eq_true (nI_le (Nat.le_refl m) (by omega))]; rfl) m 0 (by omega)
  refine Eq.trans outer ?_
  rw [cdec_cg (q := SOK X Y m c) ⟨fun z i j hi hj => z i (by omega) hi j (by omega) hj, fun z i _ hi j _ hj => z i j hi hj⟩]
  cases cdec (SOK X Y m c) <;> rfl
end
theorem r_isPolygon {g : zIJ} {σ : zS} (hw : Wfs σ) (h : RI g σ) {q : Nat} (hq : q < 4) : ∃ g', zev mX12_isPolygon 0 [.ref 250, .int (nI q)] g = some (some (.int (bI (cdec (PolQ σ q)))), g') ∧ zFr tPr g g' ∧ (PolQ σ q → PR g' (cN (σ.ce q)) (σ.si q)) := by
  have hn := wf_n hw.1
  have hN := hw.1.2.1.2.1
  obtain ⟨n, en⟩ : ∃ n, n = nS σ.s := ⟨_, rfl⟩
  obtain ⟨m, em⟩ : ∃ m, m = σ.si q := ⟨_, rfl⟩
  obtain ⟨ce, ec⟩ : ∃ ce, ce = σ.ce q := ⟨_, rfl⟩
  have m40 : m ≤ 40 := by rw [em]; exact (hw.2.2.2.2.2 q hq).1
  have rb := rb_s h.1.1 hw.1
  have h7 := h.1.2.2.2.2.2.2 q hq
  have cl : (nI q).toNatClampNeg = q := nI_clamp (by omega)
  have zc := zC_ce q hq
  unfold PolQ
  rw [← em, ← ec] at h7 ⊢
  rw [← en] at rb hN hn ⊢
  have hd : zev mX12_isPolygon 0 [.ref 250, .int (nI q)] g = cond (decide (3 ≤ m ∧ m ≤ 9)) (zev mX12_isPolygon 28 [.ref 250, .int (nI q), .int (nI 0)] (zsI g 250 22 0)) (some (some (.int 0), g)) := by
    rw [uX12_isPolygon_0, zin_n hq (by omega), cl, h7.2.1, r_inI g (nI m) (lo := 3) (l := 3) (hi := 9) (h := 9) rfl rfl, zaI_some, nI_toInt (by omega), bI_0, show decide ((3 : Int) ≤ (m : Int) ∧ (m : Int) ≤ 9) = decide (3 ≤ m ∧ m ≤ 9) from decide_eq_decide.mpr ⟨fun z => by omega, fun z => by omega⟩]
    cases decide (3 ≤ m ∧ m ≤ 9) <;> rfl
  by_cases k1 : 3 ≤ m ∧ m ≤ 9
  · rw [decide_eq_true k1] at hd
    have lp : ∀ (d i : Nat) (g1 : zIJ), i + d = m → zFr tPr g g1 → PR g1 (cN ce) i → (∀ j, j < i → 0 ≤ (ce j).toInt ∧ (ce j).toInt < n ∧ ∀ l, l < j → cN ce l ≠ cN ce j) → ∃ g', zev mX12_isPolygon 28 [.ref 250, .int (nI q), .int (nI i)] g1 = some (some (.int (bI (cdec (COK n m ce ∧ SOK (XS σ.s) (YS σ.s) m (cN ce))))), g') ∧ zFr tPr g g' ∧ (COK n m ce ∧ SOK (XS σ.s) (YS σ.s) m (cN ce) → PR g' (cN ce) m) := by
      intro d
      induction d with
      | zero =>
        intro i g1 ei f1 pr ok
        have : i = m := by omega
        subst this
        have okk : COK n i ce := ok
        have e43 : g1.1 343 q = nI i := by rw [(f1 _ _ (decide_eq_false (by omega))).1]; exact h7.2.1
        refine ⟨g1, ?_, f1, fun _ => pr⟩
        rw [uX12_isPolygon_28, zin_n hq (by omega), cl, e43, decide_eq_true (nI_le (Nat.le_refl i) (by omega))]
        show zev mX12_isPolygon 107 [.ref 250, .int (nI 0)] g1 = _
        rw [r_poly107 (rb_pr rb f1) hN (cor_of k1.1 okk) pr, cdec_cg (p := COK n i ce ∧ SOK (XS σ.s) (YS σ.s) i (cN ce)) (q := SOK (XS σ.s) (YS σ.s) i (cN ce)) ⟨fun z => z.2, fun z => ⟨okk, z⟩⟩]
      | succ d ih =>
        intro i g1 ei f1 pr ok
        have hi : i < m := by omega
        have e43 : g1.1 343 q = nI m := by rw [(f1 _ _ (decide_eq_false (by omega))).1]; exact h7.2.1
        have ev : g1.2 (345 + q) i = ce i := by rw [(f1 _ _ (decide_eq_false (by omega))).2]; exact h7.2.2 i (by omega)
        have pt := r_isPointL (rb_pr rb f1) (ce i)
        by_cases v : 0 ≤ (ce i).toInt ∧ (ce i).toInt < n
        · have ei32 : (ce i).toInt32 = nI (cN ce i) := l2i v.1 v.2 (by omega)
          have c9 : cN ce i < 9 := by unfold cN; omega
          have ic := r_isCorner (p := cN ce i) pr (by omega) (fun j hj => by have := ok j hj; unfold cN; omega) c9
          by_cases ex : ∃ j, j < i ∧ cN ce j = cN ce i
          · obtain ⟨j, hj, ej⟩ := ex
            have no : ¬ (COK n m ce ∧ SOK (XS σ.s) (YS σ.s) m (cN ce)) := fun z => absurd ej ((z.1 i hi).2.2 j hj)
            refine ⟨g1, ?_, f1, fun z => absurd z no⟩
            rw [uX12_isPolygon_28, zin_n hq (by omega), cl, e43, decide_eq_false (nI_ge (a := i) (b := m) hi (by omega)), zc, nI_clamp (by omega : i < 2 ^ 31), ev, pt, zaI_some, decide_eq_true v, ev, ei32, ic, zaI_some, cdec_t ⟨j, hj, ej⟩, cdec_f no]
            rw [show (Nat.beq ((101, 40) : Nat × Nat).1 101 && zin (nI i) ((101, 40) : Nat × Nat).2) = true from (zin_n (by omega) (by omega) : zin (nI i) 40 = true)]; rfl
          · obtain ⟨g2, eg⟩ : ∃ g2, g2 = zsI (zsI g1 300 i (nI (cN ce i))) 250 22 (nI (i + 1)) := ⟨_, rfl⟩
            have pr2 : PR g2 (cN ce) (i + 1) := by
              rw [eg]
              refine ⟨zI_same _ _ _ _, fun j hj => ?_⟩
              rw [zI_at, if_neg (by omega), zI_at]
              by_cases z : j = i
              · rw [if_pos ⟨rfl, z⟩, z]
              · rw [if_neg (fun y => z y.2)]; exact pr.2 j (by omega)
            obtain ⟨g', x', r'⟩ := ih (i + 1) g2 (by omega) (by rw [eg]; exact fr_tr f1 (fr_tr (fr_I _ _ rfl) (fr_I _ _ rfl))) pr2 (fun j hj => by
              by_cases z : j = i
              · subst z; exact ⟨v.1, v.2, fun l hl e => ex ⟨l, hl, e⟩⟩
              · exact ok j (by omega))
            refine ⟨g', ?_, r'⟩
            rw [← x', uX12_isPolygon_28, zin_n hq (by omega), cl, e43, decide_eq_false (nI_ge (a := i) (b := m) hi (by omega)), zc, nI_clamp (by omega : i < 2 ^ 31), ev, pt, zaI_some, decide_eq_true v, ev, ei32, ic, zaI_some, cdec_f ex, ev, ei32, pr.1, zin_n (by omega : i < 9) (by omega), nI_clamp (by omega : i < 2 ^ 31), show (zsI g1 300 i (nI (cN ce i))).1 250 22 = nI i from by rw [zI_at, if_neg (by omega)]; exact pr.1, nI_1, ← eg]
            rw [show (Nat.beq ((101, 40) : Nat × Nat).1 101 && zin (nI i) ((101, 40) : Nat × Nat).2) = true from (zin_n (by omega) (by omega) : zin (nI i) 40 = true)]; rfl
        · have no : ¬ (COK n m ce ∧ SOK (XS σ.s) (YS σ.s) m (cN ce)) := fun z => v ⟨(z.1 i hi).1, (z.1 i hi).2.1⟩
          refine ⟨g1, ?_, f1, fun z => absurd z no⟩
          rw [uX12_isPolygon_28, zin_n hq (by omega), cl, e43, decide_eq_false (nI_ge (a := i) (b := m) hi (by omega)), zc, nI_clamp (by omega : i < 2 ^ 31), ev, pt, zaI_some, decide_eq_false v, cdec_f no]
          rw [show (Nat.beq ((101, 40) : Nat × Nat).1 101 && zin (nI i) ((101, 40) : Nat × Nat).2) = true from (zin_n (by omega) (by omega) : zin (nI i) 40 = true)]; rfl
    obtain ⟨g', x', f', r'⟩ := lp m 0 (zsI g 250 22 0) (by omega) (fr_I g _ rfl) ⟨zI_same _ _ _ _, fun j hj => by omega⟩ (fun j hj => by omega)
    refine ⟨g', ?_, f', fun z => r' z.2⟩
    rw [hd]
    show zev mX12_isPolygon 28 _ _ = _
    rw [x', cdec_cg (p := Pol (XS σ.s) (YS σ.s) n m ce) (q := COK n m ce ∧ SOK (XS σ.s) (YS σ.s) m (cN ce)) ⟨fun z => z.2, fun z => ⟨k1, z⟩⟩]
  · rw [decide_eq_false k1] at hd
    refine ⟨g, ?_, fr_refl _ g, fun z => absurd z.1 k1⟩
    rw [hd, cdec_f (fun z => k1 z.1)]; rfl
