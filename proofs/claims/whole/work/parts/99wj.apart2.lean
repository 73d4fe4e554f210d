/-! apart: the reference's search; the call. -/
def MemR (g : zIJ) (N : Nat) (dz q : Nat → Nat) (m : Nat) : Prop := (∀ x, x < N → g.1 298 x = cI ((dz x : Int) - 1)) ∧ ∀ i, i < m → g.1 299 i = nI (q i)
def tFr (k _j : Nat) : Bool := decide (k = 298 ∨ k = 299)
theorem rin_fr {g g' : zIJ} {σ : zS} (h : RIn g σ) (hw : Wfs σ) (f : zFr tFr g g') : RIn g' σ := by
  have f' : ∀ k j, k ≠ 298 → k ≠ 299 → g'.1 k j = g.1 k j ∧ g'.2 k j = g.2 k j := fun k j k1 k2 => f k j (decide_eq_false (by omega))
  exact ⟨ri0_fr h.1 hw (fr_ud f (fun a b q => by have := of_decide_eq_true q; omega)), (f' _ _ (by omega) (by omega)).1.trans h.2.1, rld_fr h.2.2 (f' _ _ (by omega) (by omega)).1 (funext fun j => (f' _ _ (by omega) (by omega)).2)⟩
theorem r_around {g : zIJ} {σ : zS} {k l : Nat} {dz q : Nat → Nat} {m at' : Nat} (hs : Wfs σ) (h : RIn g σ) (hm : MemR g (nsL σ.s).length dz q m) (hb : BI (NbF σ.s) (nsL σ.s).length k dz q m at') (ha : at' < m) : ∃ g' dz' q' m', zev mX12_apart 82 [.ref 250, .int (nI l), .int (nI m), .int (nI at'), .int (nI 0)] g = zev mX12_apart 64 [.ref 250, .int (nI l), .int (nI m'), .int (nI (at' + 1))] g' ∧ zFr tFr g g' ∧ MemR g' (nsL σ.s).length dz' q' m' ∧ BI (NbF σ.s) (nsL σ.s).length k dz' q' m' (at' + 1) := by
  have ok := nsL_ok hs.1
  have l8 := ok.1
  have hn := wf_n hs.1
  obtain ⟨x, ex⟩ : ∃ x, x = q at' := ⟨_, rfl⟩
  have xN : x < (nsL σ.s).length := by rw [ex]; exact (hb.2.1 at' ha).1
  obtain ⟨w, ew⟩ : ∃ w, w = wL σ.s x := ⟨_, rfl⟩
  have ew2 : w = (nsL σ.s)[x] := by rw [ew, wL_at xN]
  have wm : w ∈ nsL σ.s := by rw [ew2]; exact List.getElem_mem xN
  have rbf : ∀ g1, zFr tFr g g1 → RB g1 (nS σ.s) (XS σ.s) (YS σ.s) := fun g1 f1 => rb_s (rin_fr h hs f1).1.1 hs.1
  refine zloop (F := fun a (p : Nat × zIJ) => zev mX12_apart 82 [.ref 250, .int (nI l), .int (nI p.1), .int (nI at'), .int (nI a)] p.2) (I := fun a p => ∃ dz q, MemR p.2 (nsL σ.s).length dz q p.1 ∧ BI (NbF σ.s) (nsL σ.s).length k dz q p.1 at' ∧ at' < p.1 ∧ q at' = x ∧ zFr tFr g p.2 ∧ ∀ f, f < 36 → f < ix a (a + 1) → eHi f < nS σ.s → ∀ y, flV σ.s w f = nI y → y < (nsL σ.s).length → dz y ≠ 0) (Post := fun r => ∃ g' dz' q' m', r = zev mX12_apart 64 [.ref 250, .int (nI l), .int (nI m'), .int (nI (at' + 1))] g' ∧ zFr tFr g g' ∧ MemR g' (nsL σ.s).length dz' q' m' ∧ BI (NbF σ.s) (nsL σ.s).length k dz' q' m' (at' + 1)) (lo := 0) (n := nS σ.s) (fun a p _ hA I1 => ?_) (fun p I1 => ?_) (nS σ.s) 0 (m, g) (Nat.le_refl _) (by omega) ⟨dz, q, hm, hb, ha, ex.symm, fr_refl _ g, fun f _ hf => absurd hf (Nat.not_lt_zero f)⟩
  · obtain ⟨dz, q, m1, b1, a1, q1, f1, cv⟩ := I1
    have c1 := ix_chk a (by omega)
    have inner : ∃ p' : Nat × zIJ, zev mX12_apart 97 [.ref 250, .int (nI l), .int (nI p.1), .int (nI at'), .int (nI a), .int (nI (a + 1))] p.2 = zev mX12_apart 82 [.ref 250, .int (nI l), .int (nI p'.1), .int (nI at'), .int (nI (a + 1))] p'.2 ∧ ∃ dz q, MemR p'.2 (nsL σ.s).length dz q p'.1 ∧ BI (NbF σ.s) (nsL σ.s).length k dz q p'.1 at' ∧ at' < p'.1 ∧ q at' = x ∧ zFr tFr g p'.2 ∧ ∀ f, f < 36 → f < ix (a + 1) (a + 2) → eHi f < nS σ.s → ∀ y, flV σ.s w f = nI y → y < (nsL σ.s).length → dz y ≠ 0 := by
      refine zloop (F := fun b (p : Nat × zIJ) => zev mX12_apart 97 [.ref 250, .int (nI l), .int (nI p.1), .int (nI at'), .int (nI a), .int (nI b)] p.2) (I := fun b p => ∃ dz q, MemR p.2 (nsL σ.s).length dz q p.1 ∧ BI (NbF σ.s) (nsL σ.s).length k dz q p.1 at' ∧ at' < p.1 ∧ q at' = x ∧ zFr tFr g p.2 ∧ ∀ f, f < 36 → f < ix a b → eHi f < nS σ.s → ∀ y, flV σ.s w f = nI y → y < (nsL σ.s).length → dz y ≠ 0) (Post := fun r => ∃ p' : Nat × zIJ, r = zev mX12_apart 82 [.ref 250, .int (nI l), .int (nI p'.1), .int (nI at'), .int (nI (a + 1))] p'.2 ∧ ∃ dz q, MemR p'.2 (nsL σ.s).length dz q p'.1 ∧ BI (NbF σ.s) (nsL σ.s).length k dz q p'.1 at' ∧ at' < p'.1 ∧ q at' = x ∧ zFr tFr g p'.2 ∧ ∀ f, f < 36 → f < ix (a + 1) (a + 2) → eHi f < nS σ.s → ∀ y, flV σ.s w f = nI y → y < (nsL σ.s).length → dz y ≠ 0) (lo := a + 1) (n := nS σ.s) (fun b p lb hB I2 => ?_) (fun p I2 => ?_) (nS σ.s - (a + 1)) (a + 1) p (Nat.le_refl _) (by omega) ⟨dz, q, m1, b1, a1, q1, f1, cv⟩
      · obtain ⟨dz, q, m1, b1, a1, q1, f1, cv⟩ := I2
        have c3 := ix_eN a (by omega) b (by omega) (by omega)
        have nab : a ≠ b := by omega
        have e36 := eN_lt (by omega : a < 9) (by omega : b < 9) nab
        rw [c3.1] at e36
        have n1 := rin_fr h hs f1
        have pm := b1.1
        have gen : zev mX12_apart 97 [.ref 250, .int (nI l), .int (nI p.1), .int (nI at'), .int (nI a), .int (nI b)] p.2 = cond (decide (flV σ.s w (ix a b) < 0)) (zev mX12_apart 97 [.ref 250, .int (nI l), .int (nI p.1), .int (nI at'), .int (nI a), .int (nI (b + 1))] p.2) (cond (zin (flV σ.s w (ix a b)) 5000) (cond (decide ((p.2.1 298 (flV σ.s w (ix a b)).toNatClampNeg) < 0)) (zev mX12_apart 97 [.ref 250, .int (nI l), .int (nI (p.1 + 1)), .int (nI at'), .int (nI a), .int (nI (b + 1))] (zsI (zsI p.2 298 (flV σ.s w (ix a b)).toNatClampNeg (cI (((dz x + 1 : Nat) : Int) - 1))) 299 p.1 (flV σ.s w (ix a b)))) (zev mX12_apart 97 [.ref 250, .int (nI l), .int (nI p.1), .int (nI at'), .int (nI a), .int (nI (b + 1))] p.2)) none) := by
          have e99 : p.2.1 299 at' = nI x := by rw [m1.2 at' a1, q1]
          rw [uX12_apart_97, r_points (rbf p.2 f1), zaI_some, decide_eq_false (nI_ge (a := b) (b := nS σ.s) hB (by omega)), zin_n (by omega : at' < 5000) (by omega), nI_clamp (by omega : at' < 2 ^ 31), e99, r_flipped hs n1 xN ew2 (by omega) hB nab, zaI_some, e99, zin_n (by omega : x < 5000) (by omega), nI_clamp (by omega : x < 2 ^ 31), c3.1]
          by_cases pl : p.1 < 5000
          · rw [zin_n pl (by omega), nI_clamp (by omega : p.1 < 2 ^ 31), m1.1 x xN, dz_s]
            simp only [nI_1]
            cases decide (flV σ.s w (ix a b) < 0) <;> cases zin (flV σ.s w (ix a b)) 5000 <;> cases decide ((p.2.1 298 (flV σ.s w (ix a b)).toNatClampNeg) < 0) <;> rfl
          · omega
        have cov : ∀ (dz' : Nat → Nat), (∀ y, dz y ≠ 0 → dz' y ≠ 0) → (∀ y, flV σ.s w (ix a b) = nI y → y < (nsL σ.s).length → dz' y ≠ 0) → ∀ f, f < 36 → f < ix a (b + 1) → eHi f < nS σ.s → ∀ y, flV σ.s w f = nI y → y < (nsL σ.s).length → dz' y ≠ 0 := by
          intro dz' mono dy f hf1 hf2 hf3 y h1 h2
          by_cases ee : f = ix a b
          · rw [ee] at h1; exact dy y h1 h2
          · rw [c3.2] at hf2
            exact mono y (cv f hf1 (by omega) hf3 y h1 h2)
        rcases flV_or (f := ix a b) hs.1 wm with e | ⟨y, hy, e⟩
        · rw [e] at gen
          refine ⟨p, gen, dz, q, m1, b1, a1, q1, f1, cov dz (fun y z => z) (fun y h1 h2 => ?_)⟩
          rw [e] at h1
          have := nI_m1 (by omega : y < 2 ^ 31)
          rw [decide_eq_true h1.symm] at this
          exact absurd this (by decide)
        · have le := bi_le b1 hy
          rw [e, show decide (nI y < 0) = false from decide_eq_false (nI_n0 (by omega)), zin_n (by omega : y < 5000) (by omega), nI_clamp (by omega : y < 2 ^ 31), m1.1 y hy, dz_1 (by omega)] at gen
          have same : ∀ y', flV σ.s w (ix a b) = nI y' → y' < (nsL σ.s).length → y' = y := fun y' h1 h2 => by
            rw [e] at h1
            exact (of_decide_eq_true (by rw [← nI_de (by omega : y < 2 ^ 31) (by omega : y' < 2 ^ 31)]; exact decide_eq_true h1 : decide (y = y') = true)).symm
          have hh : eHi (ix a b) < nS σ.s := by rw [← c3.1, (edge_at (by omega : a < 9) (by omega : b < 9) nab).2.2.2.1]; omega
          have nb : NbF σ.s (q at') y := ⟨ix a b, e36, hh, hy, by rw [q1]; exact xN, by rw [q1, ← ew]; exact e⟩
          by_cases dy : dz y = 0
          · have lt := bi_lt b1 hy dy
            obtain ⟨b5, d5, q5⟩ := bi_meet b1 a1 hy nb dy
            rw [q1] at b5 d5
            rw [decide_eq_true dy] at gen
            refine ⟨(p.1 + 1, zsI (zsI p.2 298 y (cI (((dz x + 1 : Nat) : Int) - 1))) 299 p.1 (nI y)), gen, updN dz y (dz x + 1), updN q p.1 y, ⟨fun x' hx' => ?_, fun i hi => ?_⟩, b5, Nat.lt_succ_of_lt a1, by rw [q5 at' a1, q1], fr_tr f1 (fr_tr (fr_I _ _ rfl) (fr_I _ _ rfl)), cov _ (fun y hy => by rw [d5 y hy]; exact hy) (fun y' h1 h2 => by rw [same y' h1 h2, updN_y]; omega)⟩
            · show (zsI (zsI p.2 298 y (cI (((dz x + 1 : Nat) : Int) - 1))) 299 p.1 (nI y)).1 298 x' = _
              rw [zI_at, if_neg (by omega), zI_at]
              by_cases z : x' = y
              · rw [if_pos ⟨rfl, z⟩, z, updN_y]
              · rw [if_neg (fun c => z c.2), updN_o z]; exact m1.1 x' hx'
            · show (zsI (zsI p.2 298 y (cI (((dz x + 1 : Nat) : Int) - 1))) 299 p.1 (nI y)).1 299 i = _
              have hi' : i < p.1 + 1 := hi
              rw [zI_at]
              by_cases z : i = p.1
              · rw [if_pos ⟨rfl, z⟩, z, updN_y]
              · rw [if_neg (fun c => z c.2), zI_at, if_neg (by omega), updN_o z]; exact m1.2 i (by omega)
          · rw [decide_eq_false dy] at gen
            exact ⟨p, gen, dz, q, m1, b1, a1, q1, f1, cov dz (fun y z => z) (fun y' h1 h2 => by rw [same y' h1 h2]; exact dy)⟩
      · obtain ⟨dz, q, m1, b1, a1, q1, f1, cv⟩ := I2
        have c2 := ix_le a (by omega) (nS σ.s) (by omega) hA
        refine ⟨p, ?_, dz, q, m1, b1, a1, q1, f1, fun f hf1 hf2 hf3 => ?_⟩
        · show zev mX12_apart 97 _ p.2 = _
          rw [uX12_apart_97, r_points (rbf p.2 f1), zaI_some, decide_eq_true (nI_le (Nat.le_refl (nS σ.s)) (by omega)), nI_1]; rfl
        · by_cases z : f < ix a (nS σ.s)
          · exact cv f hf1 z hf3
          · have := ix_ge (nS σ.s) (by omega) a hA f hf1 (by omega) (by rw [c1.1]; exact hf2)
            omega
    obtain ⟨p', x', I'⟩ := inner
    refine ⟨p', ?_, I'⟩
    show zev mX12_apart 82 _ p.2 = _
    rw [uX12_apart_82, r_points (rbf p.2 f1), zaI_some, decide_eq_false (nI_ge (a := a) (b := nS σ.s) hA (by omega))]
    simp only [nI_1]
    exact x'
  · obtain ⟨dz, q, m1, b1, a1, q1, f1, cv⟩ := I1
    have c1 := ix_end (nS σ.s) (by omega)
    refine ⟨p.2, dz, q, p.1, ?_, f1, m1, bi_next b1 a1 (fun y ny => ?_)⟩
    · show zev mX12_apart 82 _ p.2 = _
      rw [uX12_apart_82, r_points (rbf p.2 f1), zaI_some, decide_eq_true (nI_le (Nat.le_refl (nS σ.s)) (by omega)), nI_1]; rfl
    · obtain ⟨f, n1, n2, n3, n4, n5⟩ := ny
      refine ⟨n3, ?_⟩
      rw [q1, ← ew] at n5
      refine cv f n1 (Nat.lt_of_not_le (fun z => ?_)) n2 y n5 n3
      have := c1.2 f n1 z
      omega
theorem r_apart {g : zIJ} {σ : zS} {k l : Nat} (hs : Wfs σ) (h : RIn g σ) (hk : k < (nsL σ.s).length) (hl : l < (nsL σ.s).length) : ∃ (g' : zIJ) (z : Nat), zev mX12_apart 24 [.ref 250, .int (nI k), .int (nI l), .int (nI 0)] g = zev mX12_apart 191 [.ref 250, .int (nI l)] g' ∧ zFr tFr g g' ∧ g'.1 298 l = cI ((z : Int) - 1) ∧ Ans (NbF σ.s) k l z ∧ z ≤ 800 := by
  have ok := nsL_ok hs.1
  have l8 := ok.1
  have start : ∃ g2, zev mX12_apart 24 [.ref 250, .int (nI k), .int (nI l), .int (nI 0)] g = zev mX12_apart 64 [.ref 250, .int (nI l), .int (nI 1), .int (nI 0)] g2 ∧ zFr tFr g g2 ∧ MemR g2 (nsL σ.s).length (updN (fun _ => 0) k 1) (fun _ => k) 1 := by
    refine zloop (F := fun i g1 => zev mX12_apart 24 [.ref 250, .int (nI k), .int (nI l), .int (nI i)] g1) (I := fun i g1 => zFr tFr g g1 ∧ ∀ x, x < i → g1.1 298 x = -1) (Post := fun r => ∃ g2, r = zev mX12_apart 64 [.ref 250, .int (nI l), .int (nI 1), .int (nI 0)] g2 ∧ zFr tFr g g2 ∧ MemR g2 (nsL σ.s).length (updN (fun _ => 0) k 1) (fun _ => k) 1) (lo := 0) (n := (nsL σ.s).length) (fun i g1 _ hi I1 => ?_) (fun g1 I1 => ?_) (nsL σ.s).length 0 g (Nat.le_refl _) (by omega) ⟨fr_refl _ g, fun x hx => by omega⟩
    · obtain ⟨f1, v1⟩ := I1
      have e14 : g1.1 250 14 = nI (nsL σ.s).length := (rin_fr h hs f1).2.2.1
      refine ⟨zsI g1 298 i (-1), ?_, fr_tr f1 (fr_I _ _ rfl), fun x hx => ?_⟩
      · rw [uX12_apart_24, e14, decide_eq_false (nI_ge (a := i) (b := (nsL σ.s).length) hi (by omega)), zin_n (by omega : i < 5000) (by omega), nI_clamp (by omega : i < 2 ^ 31), nI_1]; rfl
      · rw [zI_at]
        by_cases z : x = i
        · rw [if_pos ⟨rfl, z⟩]
        · rw [if_neg (fun c => z c.2)]; exact v1 x (by omega)
    · obtain ⟨f1, v1⟩ := I1
      have e14 : g1.1 250 14 = nI (nsL σ.s).length := (rin_fr h hs f1).2.2.1
      refine ⟨zsI (zsI g1 298 k 0) 299 0 (nI k), ?_, fr_tr f1 (fr_tr (fr_I _ _ rfl) (fr_I _ _ rfl)), fun x hx => ?_, fun i hi => ?_⟩
      · rw [uX12_apart_24, e14, decide_eq_true (nI_le (Nat.le_refl _) (by omega)), zin_n (by omega : k < 5000) (by omega), nI_clamp (by omega : k < 2 ^ 31)]; rfl
      · rw [zI_at, if_neg (by omega), zI_at]
        by_cases z : x = k
        · rw [if_pos ⟨rfl, z⟩, z, updN_y]; rfl
        · rw [if_neg (fun c => z c.2), updN_o z, v1 x hx]; rfl
      · have : i = 0 := by omega
        rw [this, zI_same]
  obtain ⟨g2, x2, f2, m2⟩ := start
  have fin : ∀ (c a : Nat) (g3 : zIJ) (dz q : Nat → Nat) (m : Nat), (nsL σ.s).length ≤ a + c → zFr tFr g g3 → MemR g3 (nsL σ.s).length dz q m → BI (NbF σ.s) (nsL σ.s).length k dz q m a → ∃ (g' : zIJ) (z : Nat), zev mX12_apart 64 [.ref 250, .int (nI l), .int (nI m), .int (nI a)] g3 = zev mX12_apart 191 [.ref 250, .int (nI l)] g' ∧ zFr tFr g g' ∧ g'.1 298 l = cI ((z : Int) - 1) ∧ Ans (NbF σ.s) k l z ∧ z ≤ 800 := by
    intro c
    induction c with
    | zero =>
      intro a g3 dz q m hc f3 m3 b3
      have hm := b3.1
      have an := bi_ans b3 (nb_N σ.s) hl (Or.inl (by omega))
      refine ⟨g3, dz l, ?_, f3, m3.1 l hl, an.1, by omega⟩
      rw [uX12_apart_64, decide_eq_true (nI_le (by omega : m ≤ a) (by omega))]; rfl
    | succ c ih =>
      intro a g3 dz q m hc f3 m3 b3
      have hm := b3.1
      by_cases ma : m ≤ a
      · have an := bi_ans b3 (nb_N σ.s) hl (Or.inl ma)
        refine ⟨g3, dz l, ?_, f3, m3.1 l hl, an.1, by omega⟩
        rw [uX12_apart_64, decide_eq_true (nI_le ma (by omega))]; rfl
      · have le := bi_le b3 hl
        by_cases dl : dz l = 0
        · obtain ⟨g4, dz', q', m', x4, f4, m4, b4⟩ := r_around (l := l) hs (rin_fr h hs f3) m3 b3 (by omega)
          obtain ⟨g', z, e, r⟩ := ih (a + 1) g4 dz' q' m' (by omega) (fr_tr f3 f4) m4 b4
          refine ⟨g', z, ?_, r⟩
          rw [uX12_apart_64, decide_eq_false (nI_ge (a := a) (b := m) (by omega) (by omega)), zin_n (by omega : l < 5000) (by omega), nI_clamp (by omega : l < 2 ^ 31), m3.1 l hl, dz_0 (by omega), decide_eq_false (show ¬ dz l ≠ 0 from fun y => y dl)]
          exact x4.trans e
        · have an := bi_ans b3 (nb_N σ.s) hl (Or.inr dl)
          refine ⟨g3, dz l, ?_, f3, m3.1 l hl, an.1, by omega⟩
          rw [uX12_apart_64, decide_eq_false (nI_ge (a := a) (b := m) (by omega) (by omega)), zin_n (by omega : l < 5000) (by omega), nI_clamp (by omega : l < 2 ^ 31), m3.1 l hl, dz_0 (by omega), decide_eq_true dl]; rfl
  obtain ⟨g', z, e, r⟩ := fin (nsL σ.s).length 0 g2 _ _ 1 (by omega) f2 m2 (bi_start hk)
  exact ⟨g', z, x2.trans e, r⟩
theorem cin_again {g : zIJ} {σ : zS} {t : Nat} (hw : Wfs σ) (h : CIn g σ t) (ht : t ≤ 1000000) (a : Int32) : ∃ g', zev mX11_isNet 0 [.ref 3, .int a] g = some (some (.int (bI (zin a (nsL σ.s).length))), g') ∧ zFr tC g g' ∧ CIn g' σ (t + 1) := c_isNet hw (cin_ci h) ht a
/-- as PairC, for runs that are shorter -/
def PairL (c r : zIJ → Option zRes) : Prop := ∀ (σ : zS) (g : zIJ) (t : Nat), Wfs σ → CI g σ t → t ≤ 900000 → ∃ v σ', Wfs σ' ∧ COk (c g) g v σ' (t + 2) ∧ ∀ g', RI g' σ → ROk (r g') g' v σ'
theorem pl_c {c r : zIJ → Option zRes} (h : PairC c r) : PairL c r := fun σ g t hw hc ht => h σ g t hw hc (by omega)
theorem p_apart (a b : Int32) : PairL (fun g => zev mX11_apart 0 [.ref 3, .int a, .int b] g) (fun g => zev mX12_apart 0 [.ref 250, .int a, .int b] g) := by
  intro σ g t hw h ht
  have l8 := (nsL_ok hw.1).1
  obtain ⟨g1, x1, f1, n1⟩ := c_isNet hw h (by omega) a
  cases q1 : zin a (nsL σ.s).length with
  | false =>
    refine ⟨fI 3, fdn σ 3, wfs_fdn hw 3, ?_, fun g' r => ?_⟩
    · show COk (zev mX11_apart 0 _ g) _ _ _ _
      rw [uX11_apart_0, x1, zaI_some, q1]
      exact cok_le (cok_find (k := 3) (cin_ci n1) f1 (by omega)) (by omega : t + 1 ≤ t + 2)
    · show ROk (zev mX12_apart 0 _ g') _ _ _
      obtain ⟨g2, x2, f2, n2⟩ := r_isNet hw r a
      rw [uX12_apart_0, x2, zaI_some, q1]
      exact rok_find (k := 3) (rin_ri n2) hw f2 (by omega)
  | true =>
    have ht2 : t + 1 ≤ 1000000 := by omega
    · obtain ⟨g3, x3, f3, n3⟩ := cin_again hw n1 ht2 b
      cases q2 : zin b (nsL σ.s).length with
      | false =>
        refine ⟨fI 3, fdn σ 3, wfs_fdn hw 3, ?_, fun g' r => ?_⟩
        · show COk (zev mX11_apart 0 _ g) _ _ _ _
          rw [uX11_apart_0, x1, zaI_some, q1, x3, zaI_some, q2]
          exact cok_le (cok_find (k := 3) (cin_ci n3) (fr_tr f1 f3) (by omega)) (by omega : t + 1 + 1 ≤ t + 2)
        · show ROk (zev mX12_apart 0 _ g') _ _ _
          obtain ⟨g2, x2, f2, n2⟩ := r_isNet hw r a
          obtain ⟨g4, x4, f4, n4⟩ := r_isNet hw (rin_ri n2) b
          rw [uX12_apart_0, x2, zaI_some, q1, x4, zaI_some, q2]
          exact rok_find (k := 3) (rin_ri n4) hw (fr_tr f2 f4) (by omega)
      | true =>
        obtain ⟨k, hk, ek⟩ := zin_of q1 (by omega)
        obtain ⟨l, hl, el⟩ := zin_of q2 (by omega)
        subst ek el
        obtain ⟨g5, z, x5, f5, an, z8⟩ := c_fewest hw n3 hk hl
        have ic := cin_ci (cin_sr n3 f5)
        have fc : zFr tC g g5 := fr_tr f1 (fr_tr f3 (fr_ud f5 (fun a b q => by have := of_decide_eq_true q; omega)))
        have cc : zev mX11_apart 0 [.ref 3, .int (nI k), .int (nI l)] g = cond (decide (z ≠ 0)) (some (some (.int (cI ((z : Int) - 1))), g5)) (zaI (zev mX11_finding 0 [.ref 3, .int 3] g5) fun x10 g9 => some (some (.int x10), g9)) := by
          rw [uX11_apart_0, x1, zaI_some, q1, x3, zaI_some, q2, x5, zaI_some, dz_0 (by omega)]; rfl
        have rr : ∀ g', RI g' σ → ∃ g6, zFr tR g' g6 ∧ RI g6 σ ∧ zev mX12_apart 0 [.ref 250, .int (nI k), .int (nI l)] g' = cond (decide (z ≠ 0)) (some (some (.int (cI ((z : Int) - 1))), g6)) (zaI (zev mX12_finds 0 [.ref 250, .int 3] g6) fun x10 g9 => some (some (.int x10), g9)) := fun g' r => by
          obtain ⟨g2, x2, f2, n2⟩ := r_isNet hw r (nI k)
          obtain ⟨g4, x4, f4, n4⟩ := r_isNet hw (rin_ri n2) (nI l)
          obtain ⟨g6, z', x6, f6, e6, an', _⟩ := r_apart hw n4 hk hl
          have ez := ans_uq an' an
          subst ez
          refine ⟨g6, fr_tr f2 (fr_tr f4 (fr_ud f6 (fun a b q => by have := of_decide_eq_true q; omega))), rin_ri (rin_fr n4 hw f6), ?_⟩
          rw [uX12_apart_0, x2, zaI_some, q1, x4, zaI_some, q2]
          refine Eq.trans (show _ = zev mX12_apart 24 [.ref 250, .int (nI k), .int (nI l), .int (nI 0)] g4 from rfl) (x6.trans ?_)
          rw [uX12_apart_191, zin_n (by omega : l < 5000) (by omega), nI_clamp (by omega : l < 2 ^ 31), e6, dz_0 (by omega)]; rfl
        by_cases z0 : z = 0
        · rw [decide_eq_false (show ¬ z ≠ 0 from fun y => y z0)] at cc
          refine ⟨fI 3, fdn σ 3, wfs_fdn hw 3, ?_, fun g' r => ?_⟩
          · show COk (zev mX11_apart 0 _ g) _ _ _ _
            rw [cc]
            exact cok_le (cok_find (k := 3) ic fc (by omega)) (by omega : t + 1 + 1 ≤ t + 2)
          · show ROk (zev mX12_apart 0 _ g') _ _ _
            obtain ⟨g6, f6, r6, e6⟩ := rr g' r
            rw [e6, decide_eq_false (show ¬ z ≠ 0 from fun y => y z0)]
            exact rok_find (k := 3) r6 hw f6 (by omega)
        · rw [decide_eq_true z0] at cc
          refine ⟨.int (cI ((z : Int) - 1)), σ, hw, ?_, fun g' r => ?_⟩
          · show COk (zev mX11_apart 0 _ g) _ _ _ _
            rw [cc]
            exact cok_of ic fc (by omega)
          · show ROk (zev mX12_apart 0 _ g') _ _ _
            obtain ⟨g6, f6, r6, e6⟩ := rr g' r
            rw [e6, decide_eq_true z0]
            exact rok_of r6 f6
