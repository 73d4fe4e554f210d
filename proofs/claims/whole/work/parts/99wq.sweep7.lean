/-! path and advance. -/
def pthL : Nat → List (Nat × Nat × Nat) → Nat → Nat
  | P, [], _ => P
  | P, _ :: _, 0 => P
  | _, r :: R, T + 1 => pthL r.1 R T
theorem pthL_0 (P : Nat) (R : List (Nat × Nat × Nat)) : pthL P R 0 = P := by cases R <;> rfl
theorem pthL_s : ∀ (R : List (Nat × Nat × Nat)) (P i : Nat) (h : i < R.length), pthL P R (i + 1) = R[i].1
  | [], _, _, h => absurd h (Nat.not_lt_zero _)
  | r :: R, P, 0, _ => pthL_0 r.1 R
  | r :: R, P, i + 1, h => pthL_s R r.1 i (Nat.lt_of_succ_lt_succ h)
theorem sw_path {g : zIJ} {X Y : Nat → Int} {n w P : Nat} {R : List (Nat × Nat × Nat)} (h0 : g.1 227 0 = nI P) (h : ∀ i (h : i < R.length), g.1 227 (i + 1) = nI R[i].1 ∧ g.1 228 i = nI R[i].2.1 ∧ g.1 229 i = nI R[i].2.2) {T : Nat} (hT : T ≤ R.length) : g.1 227 T = nI (pthL P R T) := by
  cases T with
  | zero => rw [h0, pthL_0]
  | succ T => rw [(h T hT).1, pthL_s R P T hT]
def tSq (k j : Nat) : Bool := decide (k = 294 ∨ (k = 250 ∧ (j = 6 ∨ j = 18 ∨ j = 19 ∨ j = 20)))
theorem rin_sq {g g' : zIJ} {σ : zS} (h : RIn g σ) (hw : Wfs σ) (f : zFr tSq g g') : RIn g' σ := by
  have f' : ∀ k j, ¬ (k = 294 ∨ (k = 250 ∧ (j = 6 ∨ j = 18 ∨ j = 19 ∨ j = 20))) → g'.1 k j = g.1 k j ∧ g'.2 k j = g.2 k j := fun k j hk => f k j (decide_eq_false hk)
  exact ⟨ri0_fr h.1 hw (fr_ud f (fun a b q => by have := of_decide_eq_true q; omega)), (f' _ _ (by omega)).1.trans h.2.1, rld_fr h.2.2 (f' _ _ (by omega)).1 (funext fun j => (f' _ _ (by omega)).2)⟩
theorem adv3_fr (g : zIJ) (r : Nat × Nat × Nat) : zFr tSq g (adv3 g r) := fr_tr (fr_tr (fr_I g _ rfl) (fr_I _ _ rfl)) (fr_I _ _ rfl)
theorem r_firstPath {g : zIJ} {n m k : Nat} {X Y : Nat → Int} {s : Nat → Nat} (h : RB g n X Y) (hN : Near X Y n) (hG : GP X Y n) (hd : Dist X Y n) (hH : Hul X Y n m s) (hk : k < m) (hl : Lst X Y n (s k)) : ∃ g', zev mX12_firstPath 0 [.ref 250] g = some (some (.int (nI (hMsk s (k + 1)))), g') ∧ zFr tSq g g' := by
  have hn := h.1
  obtain ⟨g1, x1, f1, hR⟩ := r_findsHull h hN hG hd hH
  have f1' : zFr tSq g g1 := fr_ud f1 (fun a b q => by
    simp only [tRh, Bool.or_eq_true, Bool.and_eq_true, Nat.beq_eq] at q
    omega)
  have rb1 : RB g1 n X Y := by
    have f' : ∀ j, g1.1 251 j = g.1 251 j := fun j => (f1' 251 j (decide_eq_false (by omega))).1
    exact ⟨h.1, by rw [f']; exact h.2.1, fun i hi => ⟨by rw [f']; exact (h.2.2 i hi).1, by rw [f']; exact (h.2.2 i hi).2⟩⟩
  have lt := hl.1
  obtain ⟨h4, h5, h6, h8⟩ : 1 ≤ m ∧ m ≤ n ∧ (∀ k, k < m → s k < n) ∧ (∀ i j, i < m → j < m → s i = s j → i = j) := by
    rcases hH with ⟨z, _⟩ | ⟨h1, h2, h3, h4, h5, _⟩
    · omega
    · exact ⟨h2, h3, h4, h5⟩
  refine ⟨g1, ?_, f1'⟩
  rw [uX12_firstPath_0, x1, zaV_some]
  have go : ∀ (d j : Nat), j + d = k → zev mX12_firstPath 8 [.ref 250, .int (nI (hMsk s j)), .int (nI j)] g1 = some (some (.int (nI (hMsk s (k + 1)))), g1) := by
    intro d
    induction d with
    | zero =>
      intro j ej
      have : j = k := by omega
      subst this
      rw [uX12_firstPath_8, hR.1, decide_eq_false (nI_ge (a := j) (b := m) hk (by omega)), zin_n (by omega : j < 9) (by omega), nI_clamp (by omega : j < 2 ^ 31), hR.2 j hk, r_last rb1 hN hd hl, zaI_some, decide_eq_true (rfl : nI (s j) = nI (s j)), i_or2 (by omega : s j < 9), hMsk_s]; rfl
    | succ d ih =>
      intro j ej
      have sj := h6 j (by omega)
      have ne : s j ≠ s k := fun z => by
        have := h8 j k (by omega) hk z
        omega
      rw [uX12_firstPath_8, hR.1, decide_eq_false (nI_ge (a := j) (b := m) (by omega) (by omega)), zin_n (by omega : j < 9) (by omega), nI_clamp (by omega : j < 2 ^ 31), hR.2 j (by omega), r_last rb1 hN hd hl, zaI_some, nI_de (by omega) (by omega), decide_eq_false ne, i_or2 (by omega : s j < 9), ← hMsk_s, nI_1]
      exact ih (j + 1) (by omega)
  exact go k 0 (by omega)
theorem r_sw34 (g : zIJ) (t : Int32) {j : Nat} (hj : j ≤ 20) : zev mX12_sweeps 34 [.int t, .int (nI j)] g = some (some (.int (bI (decide (t.toInt = j)))), g) := by
  rw [uX12_sweeps_34, lt_d t 0, show (0 : Int32).toInt = 0 from rfl]
  by_cases q : t.toInt < 0
  · rw [decide_eq_true q, decide_eq_false (show ¬ t.toInt = j by omega)]; rfl
  · have e : (nI j = t) ↔ t.toInt = j := by
      rw [← Int32.toInt_inj, nI_toInt (by omega)]
      exact ⟨Eq.symm, Eq.symm⟩
    rw [decide_eq_false q]
    by_cases z : t.toInt = j
    · rw [decide_eq_true z, decide_eq_true (e.mpr z)]; rfl
    · rw [decide_eq_false z, decide_eq_false (fun y => z (e.mp y))]; rfl
section
variable {σ : zS} {w k : Nat}
theorem r_sw10 (hs : Wfs σ) (hw : w < 2 ^ 36) (N : Net (oXY (XS σ.s) (YS σ.s)) (List.range (nS σ.s)) (Em w)) (h3 : 3 ≤ nS σ.s) (hk : k < 5000) (t : Int32) : ∀ (R : List (Nat × Nat × Nat)) (P j : Nat) (g : zIJ), RIn g σ → g.2 297 k = lN w → g.1 250 18 = nI P → (∀ f, Fst (XS σ.s) (YS σ.s) (nS σ.s) f → P.testBit f = true) → Swp (XS σ.s) (YS σ.s) (nS σ.s) w P R → j + R.length ≤ 13 → ∃ g2, zev mX12_sweeps 10 [.ref 250, .int (nI k), .int t, .int (nI j)] g = some (some (.int (bI (decide ((j : Int) ≤ t.toInt ∧ t.toInt ≤ j + R.length)))), g2) ∧ zFr tSq g g2 ∧ ∀ T : Nat, t.toInt = j + (T : Int) → T ≤ R.length → (T = 0 → g2 = g) ∧ g2.1 250 18 = nI (pthL P R T) ∧ ∀ T' : Nat, T = T' + 1 → g2.1 250 19 = nI (R.getD T' (0, 0, 0)).2.1 ∧ g2.1 250 20 = nI (R.getD T' (0, 0, 0)).2.2
  | R, P, j, g, hr, h97, hP, pf, sw, hl => by
    obtain ⟨p1, p2, p3, p4, p5⟩ := hs.1.2.1
    have rb := rb_s hr.1.1 hs.1
    have le : decide (t ≤ nI j) = decide (t.toInt ≤ j) := by rw [led, nI_toInt (by omega)]
    by_cases q : t.toInt ≤ j
    · refine ⟨g, ?_, fr_refl _ g, fun T hT hT2 => ⟨fun _ => rfl, ?_, fun T' e => by omega⟩⟩
      · rw [uX12_sweeps_10, le, decide_eq_true q]
        show zev mX12_sweeps 34 _ g = _
        rw [r_sw34 g t (by omega)]
        congr 5
        exact decide_eq_decide.mpr ⟨fun z => by omega, fun z => by omega⟩
      · have : T = 0 := by omega
        subst this
        rw [pthL_0]; exact hP
    · cases R with
      | nil =>
        rcases r_adv (w := w) rb p2 p4 (by omega) hP pf with ⟨r, ad, _⟩ | ⟨_, e1⟩
        · exact absurd ad (sw r)
        · refine ⟨g, ?_, fr_refl _ g, fun T hT hT2 => ?_⟩
          · rw [uX12_sweeps_10, le, decide_eq_false q, zin_n hk (by omega), nI_clamp (by omega : k < 2 ^ 31), h97, e1, zaI_some]
            show zev mX12_sweeps 34 _ g = _
            rw [r_sw34 g t (by omega)]
            congr 5
            exact decide_eq_decide.mpr ⟨fun z => by omega, fun z => by
              have : ((([] : List (Nat × Nat × Nat)).length : Nat) : Int) = 0 := rfl
              omega⟩
          · have : T = 0 := Nat.le_zero.mp hT2
            omega
      | cons r R =>
        have hl' : j + (R.length + 1) ≤ 13 := hl
        rcases r_adv (w := w) rb p2 p4 (by omega) hP pf with ⟨r0, ad, e1⟩ | ⟨no, _⟩
        · have er := adv_uq p3 p4 p1 hw N ad sw.1
          subst er
          obtain ⟨g2, x2, f2, r2⟩ := r_sw10 hs hw N h3 hk t R r0.1 (j + 1) (adv3 g r0) (rin_sq hr hs (adv3_fr g r0)) (by rw [(adv3_o (by omega)).2]; exact h97) (adv3_18 g r0) (adv_fst ad pf) sw.2 (by omega)
          refine ⟨g2, ?_, fr_tr (adv3_fr g r0) f2, fun T hT hT2 => ?_⟩
          · rw [uX12_sweeps_10, le, decide_eq_false q, zin_n hk (by omega), nI_clamp (by omega : k < 2 ^ 31), h97, e1, zaI_some, nI_1]
            refine Eq.trans x2 ?_
            congr 5
            exact decide_eq_decide.mpr ⟨fun z => by
              have : (((r0 :: R).length : Nat) : Int) = (R.length : Int) + 1 := rfl
              omega, fun z => by
              have : (((r0 :: R).length : Nat) : Int) = (R.length : Int) + 1 := rfl
              omega⟩
          · have hT2' : T ≤ R.length + 1 := hT2
            obtain ⟨T1, e⟩ : ∃ T1, T = T1 + 1 := ⟨T - 1, by omega⟩
            subst e
            obtain ⟨z1, z2, z3⟩ := r2 T1 (by omega) (by omega)
            refine ⟨fun z => by omega, z2, fun T' e' => ?_⟩
            have : T' = T1 := by omega
            subst this
            cases T' with
            | zero =>
              rw [z1 rfl]
              exact ⟨adv3_19 g r0, adv3_20 g r0⟩
            | succ T2 => exact z3 T2 rfl
        · exact absurd sw.1 (no r)
end
theorem low_fst {X Y : Nat → Int} {n P : Nat} (h0 : 0 < n) (h : LowP X Y n P) : ∀ f, Fst X Y n f → P.testBit f = true := by
  intro f hf
  obtain ⟨m, s, k, hH, hk, _, e⟩ := h
  rw [e]
  refine (hMsk_at s f (k + 1)).mpr ⟨0, by omega, ?_⟩
  rcases hH with ⟨z, _⟩ | ⟨h1, _⟩
  · omega
  · exact fst_one h1 hf
theorem r_sweeps {g : zIJ} {σ : zS} {k w P : Nat} {R : List (Nat × Nat × Nat)} (hs : Wfs σ) (h : RIn g σ) (hk : k < (nsL σ.s).length) (ew : w = (nsL σ.s)[k]) (lP : LowP (XS σ.s) (YS σ.s) (nS σ.s) P) (sR : Swp (XS σ.s) (YS σ.s) (nS σ.s) w P R) (lR : R.length ≤ 13) (t : Int32) : ∃ g2, zev mX12_sweeps 0 [.ref 250, .int (nI k), .int t] g = some (some (.int (bI (decide (0 ≤ t.toInt ∧ t.toInt ≤ R.length)))), g2) ∧ zFr tSq g g2 ∧ RIn g2 σ ∧ ∀ T : Nat, t.toInt = T → T ≤ R.length → g2.1 250 18 = nI (pthL P R T) ∧ ∀ T' : Nat, T = T' + 1 → g2.1 250 19 = nI (R.getD T' (0, 0, 0)).2.1 ∧ g2.1 250 20 = nI (R.getD T' (0, 0, 0)).2.2 := by
  have ok := nsL_ok hs.1
  have wm : w ∈ nsL σ.s := by rw [ew]; exact List.getElem_mem hk
  obtain ⟨n3, w36, wN, _⟩ := nsL_in hs.1 wm
  obtain ⟨p1, p2, p3, p4, p5⟩ := hs.1.2.1
  have l8 := ok.1
  have lP2 := lP
  obtain ⟨m, s, kk, hH, hkk, hl, eP⟩ := lP
  obtain ⟨g1, x1, f1⟩ := r_firstPath (rb_s h.1.1 hs.1) p2 p3 p4 hH hkk hl
  rw [← eP] at x1
  have f2 : zFr tSq g (zsI g1 250 18 (nI P)) := fr_tr f1 (fr_I g1 _ rfl)
  have r2 := rin_sq h hs f2
  obtain ⟨g3, x3, f3, q3⟩ := r_sw10 hs w36 wN n3 (by omega : k < 5000) t R P 0 (zsI g1 250 18 (nI P)) r2 (by rw [ew]; exact r2.2.2.2 k hk) (zI_same _ _ _ _) (low_fst (by omega) lP2) sR (by omega)
  have ff := fr_tr f2 f3
  refine ⟨g3, ?_, ff, rin_sq h hs ff, fun T hT hT2 => ?_⟩
  · rw [uX12_sweeps_0, x1, zaI_some]
    refine Eq.trans x3 ?_
    congr 5
    exact decide_eq_decide.mpr ⟨fun z => by omega, fun z => by omega⟩
  · obtain ⟨_, z2, z3⟩ := q3 T (by omega) hT2
    exact ⟨z2, z3⟩
