/-! Polygons: what the middle of an edge sees to its right. -/
theorem no2 {u v s t : Int} (hu : 0 < u) (hv : 0 ≤ v) (h : 0 < s * t) (e : u * t + v * s = 0) : False := by
  rcases Int.lt_trichotomy s 0 with z | z | z
  · have t0 : t < 0 := by
      refine Decidable.byContradiction (fun y => ?_)
      have := Int.mul_nonpos_of_nonpos_of_nonneg (a := s) (b := t) (by omega) (by omega)
      omega
    have := Int.mul_neg_of_pos_of_neg hu t0
    have := Int.mul_nonpos_of_nonneg_of_nonpos (a := v) (b := s) hv (by omega)
    omega
  · rw [z, Int.zero_mul] at h; omega
  · have t0 : 0 < t := by
      refine Decidable.byContradiction (fun y => ?_)
      have := Int.mul_nonpos_of_nonneg_of_nonpos (a := s) (b := t) (by omega) (by omega)
      omega
    have := Int.mul_pos hu t0
    have := Int.mul_nonneg (a := v) (b := s) hv (by omega)
    omega
section
variable {X Y : Nat → Int} {m : Nat}
theorem dt_aba (a b : Nat) : dt X Y a b a = 0 := by unfold dt; grind
theorem dt_abb (a b : Nat) : dt X Y a b b = 0 := by unfold dt; grind
theorem id_y (e p q : Nat) : (2 * Y p - (Y (eLo e) + Y (eHi e))) * dt X Y (eLo e) (eHi e) q + (Y (eLo e) + Y (eHi e) - 2 * Y q) * dt X Y (eLo e) (eHi e) p = (Y (eHi e) - Y (eLo e)) * mdD X Y e p q := by unfold mdD dt; grind
theorem id_x (e p q : Nat) : (2 * X p - (X (eLo e) + X (eHi e))) * dt X Y (eLo e) (eHi e) q + (X (eLo e) + X (eHi e) - 2 * X q) * dt X Y (eLo e) (eHi e) p = (X (eHi e) - X (eLo e)) * mdD X Y e p q := by unfold mdD dt; grind
theorem md_p (e p q : Nat) : mdD X Y e p q = (X q - X p) * (Y (eLo e) + Y (eHi e) - 2 * Y p) - (Y q - Y p) * (X (eLo e) + X (eHi e) - 2 * X p) := by unfold mdD dt; grind
theorem md_q (e p q : Nat) : mdD X Y e p q = (X q - X p) * (Y (eLo e) + Y (eHi e) - 2 * Y q) - (Y q - Y p) * (X (eLo e) + X (eHi e) - 2 * X q) := by unfold mdD dt; grind
theorem md_sd (e p q : Nat) : sd2 X Y q p (X (eLo e) + X (eHi e)) (Y (eLo e) + Y (eHi e)) = -2 * mdD X Y e p q := by unfold sd2 mdD dt; grind
theorem md_D (hG : GP X Y m) {e p q : Nat} (ha : eLo e < m) (hb : eHi e < m) (nab : eLo e ≠ eHi e) (hp : p < m) (hq : q < m) (npq : p ≠ q) (n1 : ¬ (p = eLo e ∧ q = eHi e)) (n2 : ¬ (p = eHi e ∧ q = eLo e)) (hc : crs (oXY X Y) (eLo e) (eHi e) p q = false) (h0 : mdD X Y e p q = 0) : 0 < dt X Y (eLo e) (eHi e) p * dt X Y (eLo e) (eHi e) q := by
  unfold mdD at h0
  by_cases e1 : p = eLo e
  · subst e1
    rw [dt_aba] at h0
    exact absurd (by omega) (hG _ q _ hp hq hb npq nab (fun z => n1 ⟨rfl, z⟩))
  · by_cases e2 : p = eHi e
    · subst e2
      rw [dt_aba] at h0
      exact absurd (by omega) (hG _ q _ hp hq ha npq nab.symm (fun z => n2 ⟨rfl, z⟩))
    · by_cases e3 : q = eLo e
      · subst e3
        rw [dt_abb] at h0
        exact absurd (by omega) (hG p _ _ hp hq hb npq e2 nab)
      · by_cases e4 : q = eHi e
        · subst e4
          rw [dt_abb] at h0
          exact absurd (by omega) (hG p _ _ hp hq ha npq e1 nab.symm)
        · have d1 := hG p q _ hp hq ha npq e1 e3
          have d2 := hG p q _ hp hq hb npq e2 e4
          have d3 := hG _ _ p ha hb hp nab (Ne.symm e1) (Ne.symm e2)
          have d4 := hG _ _ q ha hb hq nab (Ne.symm e3) (Ne.symm e4)
          rw [crsD (Ne.symm e1) (Ne.symm e3) (Ne.symm e2) (Ne.symm e4)] at hc
          unfold ccFC oXY at hc
          refine mul_same d3 d4 ?_
          have ne : (decide (0 < dt X Y p q (eLo e)) != decide (0 < dt X Y p q (eHi e))) = true := by
            by_cases z : 0 < dt X Y p q (eLo e)
            · rw [decide_eq_true z, decide_eq_false (by omega)]; rfl
            · rw [decide_eq_false z, decide_eq_true (by omega)]; rfl
          rw [ne, Bool.and_true] at hc
          revert hc
          cases decide (0 < dt X Y (eLo e) (eHi e) p) <;> cases decide (0 < dt X Y (eLo e) (eHi e) q) <;> decide
theorem s_kmp (hN : Near X Y m) (hG : GP X Y m) (hd : Dist X Y m) {e p : Nat} (ha : eLo e < m) (hb : eHi e < m) (nab : eLo e ≠ eHi e) (hp : p < m) : oXY (eX X m) (eY Y m) (m + 1 + e) m p = decide (Y (eLo e) + Y (eHi e) < 2 * Y p ∨ (Y (eLo e) + Y (eHi e) = 2 * Y p ∧ 2 * X p < X (eLo e) + X (eHi e))) := by
  unfold oXY
  rw [dt_rot p (m + 1 + e) m]
  exact decide_eq_decide.mpr (s_cmf hN ha hb hp (mid_ne hG hd ha hb nab hp)).2
theorem md_hz1 (hN : Near X Y m) (hG : GP X Y m) (hd : Dist X Y m) {e p q : Nat} (ha : eLo e < m) (hb : eHi e < m) (nab : eLo e ≠ eHi e) (hp : p < m) (hq : q < m) (npq : p ≠ q) (n1 : ¬ (p = eLo e ∧ q = eHi e)) (n2 : ¬ (p = eHi e ∧ q = eLo e)) (hc : crs (oXY X Y) (eLo e) (eHi e) p q = false) (hy : Y q ≤ Y p) : crs (oXY (eX X m) (eY Y m)) (m + 1 + e) m p q = hz X Y (X (eLo e) + X (eHi e)) (Y (eLo e) + Y (eHi e)) p q := by
  have kp := s_kmp hN hG hd ha hb nab hp
  have kq := s_kmp hN hG hd ha hb nab hq
  have ne1 := mid_ne hG hd ha hb nab hp
  have ne2 := mid_ne hG hd ha hb nab hq
  have kw : oXY (eX X m) (eY Y m) p q m = decide (Y q < Y p ∨ (Y q = Y p ∧ X p < X q)) := decide_eq_decide.mpr (s_ccf hN hd hp hq npq).2
  have km := (s_ccm (e := e) hN hd hp hq npq).2
  have d0 := md_D hG ha hb nab hp hq npq n1 n2 hc
  have iy := id_y (X := X) (Y := Y) e p q
  have ix := id_x (X := X) (Y := Y) e p q
  have mp := md_p (X := X) (Y := Y) e p q
  have mq := md_q (X := X) (Y := Y) e p q
  rw [crsD (by omega) (by omega) (by omega) (by omega)]
  unfold hz
  rw [decide_eq_true hy, md_sd]
  show ccFC _ _ _ _ = (decide (2 * Y q ≤ Y (eLo e) + Y (eHi e)) && (decide (Y (eLo e) + Y (eHi e) < 2 * Y p) && decide (0 < -2 * mdD X Y e p q)))
  obtain ⟨My, eMy⟩ : ∃ v, v = Y (eLo e) + Y (eHi e) := ⟨_, rfl⟩
  obtain ⟨Mx, eMx⟩ : ∃ v, v = X (eLo e) + X (eHi e) := ⟨_, rfl⟩
  obtain ⟨D, eD⟩ : ∃ v, v = mdD X Y e p q := ⟨_, rfl⟩
  rw [← eMy, ← eMx] at kp kq ne1 ne2
  rw [← eMy] at iy ⊢
  rw [← eMx] at ix
  rw [← eD] at iy ix km d0 ⊢
  rw [← eD, ← eMy, ← eMx] at mp mq
  have zk : D ≠ 0 → oXY (eX X m) (eY Y m) p q (m + 1 + e) = decide (0 < D) := fun z => decide_eq_decide.mpr (km z)
  by_cases c1 : My < 2 * Y q
  · rw [kp, kq, decide_eq_true (Or.inl (by omega)), decide_eq_true (Or.inl c1), decide_eq_false (by omega : ¬ 2 * Y q ≤ My)]; rfl
  · rw [decide_eq_true (by omega : 2 * Y q ≤ My), Bool.true_and]
    by_cases c2 : My < 2 * Y p
    · rw [decide_eq_true c2, Bool.true_and, kp, decide_eq_true (Or.inl c2), kw, decide_eq_true (Or.inl (by omega) : Y q < Y p ∨ (Y q = Y p ∧ X p < X q))]
      have dn : D ≠ 0 := fun z => by
        have gg := d0 z
        rw [z, Int.mul_zero] at iy
        exact no2 (u := 2 * Y p - My) (v := My - 2 * Y q) (by omega) (by omega) gg iy
      rw [zk dn, kq]
      by_cases c3 : My = 2 * Y q
      · have e0 : My - 2 * Y q = 0 := by omega
        rw [e0, Int.mul_zero] at mq
        by_cases c4 : 2 * X q < Mx
        · have := Int.mul_neg_of_neg_of_pos (a := Y q - Y p) (b := Mx - 2 * X q) (by omega) (by omega)
          rw [decide_eq_true (Or.inr ⟨c3, c4⟩), decide_eq_false (by omega : ¬ 0 < -2 * D)]; rfl
        · have := Int.mul_pos_of_neg_of_neg (a := Y q - Y p) (b := Mx - 2 * X q) (by omega) (by omega)
          rw [decide_eq_false (by omega), decide_eq_true (by omega : 0 < -2 * D), decide_eq_false (by omega : ¬ 0 < D)]; rfl
      · rw [decide_eq_false (by omega)]
        by_cases c4 : 0 < D
        · rw [decide_eq_true c4, decide_eq_false (by omega)]; rfl
        · rw [decide_eq_false c4, decide_eq_true (by omega)]; rfl
    · rw [decide_eq_false c2, Bool.false_and]
      by_cases c3 : My = 2 * Y p
      · have e0 : My - 2 * Y p = 0 := by omega
        rw [e0, Int.mul_zero] at mp
        by_cases c4 : 2 * Y q < My
        · rw [kq, decide_eq_false (by omega), kp, kw, decide_eq_true (Or.inl (by omega) : Y q < Y p ∨ (Y q = Y p ∧ X p < X q))]
          by_cases c5 : 2 * X p < Mx
          · have := Int.mul_neg_of_neg_of_pos (a := Y q - Y p) (b := Mx - 2 * X p) (by omega) (by omega)
            rw [decide_eq_true (Or.inr ⟨c3, c5⟩), zk (by omega), decide_eq_true (by omega : 0 < D)]; rfl
          · rw [decide_eq_false (by omega)]; rfl
        · have e1 : Y q - Y p = 0 := by omega
          rw [e1, Int.zero_mul] at mp
          have z : D = 0 := by omega
          have gg := d0 z
          rw [z, Int.mul_zero] at ix
          rw [kp, kq]
          by_cases c5 : 2 * X p < Mx
          · by_cases c6 : 2 * X q < Mx
            · rw [decide_eq_true (Or.inr ⟨c3, c5⟩), decide_eq_true (Or.inr ⟨by omega, c6⟩)]; rfl
            · exfalso
              refine no2 (u := Mx - 2 * X p) (v := 2 * X q - Mx) (by omega) (by omega) gg ?_
              rw [show Mx - 2 * X p = -(2 * X p - Mx) from by omega, show 2 * X q - Mx = -(Mx - 2 * X q) from by omega, Int.neg_mul, Int.neg_mul]
              omega
          · by_cases c6 : 2 * X q < Mx
            · exact (no2 (u := 2 * X p - Mx) (v := Mx - 2 * X q) (by omega) (by omega) gg ix).elim
            · rw [decide_eq_false (by omega), decide_eq_false (by omega)]; rfl
      · rw [kp, kq, decide_eq_false (by omega), decide_eq_false (by omega)]; rfl
theorem md_hz (hN : Near X Y m) (hG : GP X Y m) (hd : Dist X Y m) {e p q : Nat} (ha : eLo e < m) (hb : eHi e < m) (nab : eLo e ≠ eHi e) (hp : p < m) (hq : q < m) (npq : p ≠ q) (n1 : ¬ (p = eLo e ∧ q = eHi e)) (n2 : ¬ (p = eHi e ∧ q = eLo e)) (hc : crs (oXY X Y) (eLo e) (eHi e) p q = false) : crs (oXY (eX X m) (eY Y m)) (m + 1 + e) m p q = hz X Y (X (eLo e) + X (eHi e)) (Y (eLo e) + Y (eHi e)) p q := by
  by_cases hy : Y q ≤ Y p
  · exact md_hz1 hN hG hd ha hb nab hp hq npq n1 n2 hc hy
  · rw [hz_sy, ← crs_r (e_cc hN hG hd ha hb nab) (Or.inr (Or.inr rfl)) (Or.inr (Or.inl rfl)) (Or.inl hp) (Or.inl hq) npq]
    exact md_hz1 hN hG hd ha hb nab hq hp npq.symm (fun z => n2 ⟨z.2, z.1⟩) (fun z => n1 ⟨z.2, z.1⟩) (by rw [crs_r (cc_xy hG) ha hb hp hq npq]; exact hc) (by omega)
theorem md_s (hN : Near X Y m) (hG : GP X Y m) (hd : Dist X Y m) {e s : Nat} (ha : eLo e < m) (hb : eHi e < m) (nab : eLo e ≠ eHi e) (hs : s < m) (n1 : s ≠ eLo e) (n2 : s ≠ eHi e) : oXY (eX X m) (eY Y m) (m + 1 + e) (eLo e) s = oXY (eX X m) (eY Y m) (eHi e) (eLo e) s ∧ oXY (eX X m) (eY Y m) (m + 1 + e) (eHi e) s = oXY (eX X m) (eY Y m) (eLo e) (eHi e) s := by
  rw [o_ccc hb ha hs, o_ccc ha hb hs]
  unfold oXY
  have d1 := hG (eLo e) s (eHi e) ha hs hb n1.symm nab n2
  have d2 := hG (eHi e) s (eLo e) hb hs ha n2.symm nab.symm n1
  have k1 := (s_ccm (e := e) hN hd ha hs n1.symm).2
  have k2 := (s_ccm (e := e) hN hd hb hs n2.symm).2
  unfold mdD at k1 k2
  rw [dt_aba] at k1 k2
  rw [← dt_rot (m + 1 + e) (eLo e) s, ← dt_rot (m + 1 + e) (eHi e) s, ← dt_rot (eHi e) (eLo e) s, ← dt_rot (eLo e) (eHi e) s]
  refine ⟨decide_eq_decide.mpr ?_, decide_eq_decide.mpr ?_⟩
  · rw [k1 (by omega)]; omega
  · rw [k2 (by omega)]; omega
/-- the middle of an edge that crosses no side -/
theorem md_par (hN : Near X Y m) (hG : GP X Y m) (hd : Dist X Y m) {e : Nat} (ha : eLo e < m) (hb : eHi e < m) (nab : eLo e ≠ eHi e) {S : Nat → Bool} {nx pv : Nat → Nat} (G : PG (oXY (eX X m) (eY Y m)) m S nx pv) (sa : S (eLo e) = true) (sb : S (eHi e) = true) (n1 : nx (eLo e) ≠ eHi e) (n2 : nx (eHi e) ≠ eLo e) (hc : ∀ p, S p = true → crs (oXY X Y) (eLo e) (eHi e) p (nx p) = false) : pgS S nx m (hz X Y (X (eLo e) + X (eHi e)) (Y (eLo e) + Y (eHi e))) = (pK (oXY (eX X m) (eY Y m)) S nx pv m m (eLo e) ^^ linL (oXY (eX X m) (eY Y m)) (eLo e) (pv (eLo e)) (nx (eLo e)) (eHi e)) := by
  have C := e_cc hN hG hd ha hb nab
  have pk : eP m e (m + 1 + e) := Or.inr (Or.inr rfl)
  have H : PGx (eP m e) (oXY (eX X m) (eY Y m)) m S nx pv m := ⟨C, fun p hp => ⟨Or.inl (G.1 p hp).1, by have := (G.1 p hp).1; omega⟩, Or.inr (Or.inl rfl), G⟩
  have sk : S (m + 1 + e) = false := by
    cases q : S (m + 1 + e) with
    | false => rfl
    | true => have := (G.1 _ q).1; omega
  have ga := G.1 _ sa
  have gb := G.1 _ sb
  have key := pg_x3 H pk (by omega) sk sa
  have side : ∀ p, S p = true → ¬ (p = eLo e ∧ nx p = eHi e) ∧ ¬ (p = eHi e ∧ nx p = eLo e) := fun p hp => ⟨fun z => n1 (by rw [← z.1]; exact z.2), fun z => n2 (by rw [← z.1]; exact z.2)⟩
  have x0 : pX (oXY (eX X m) (eY Y m)) S nx m (m + 1 + e) (eLo e) = false := pgS_0 (fun p hp => by
    have gp := G.1 p hp
    have gq := G.1 _ gp.2.1
    have npq := gp.2.2.2.2.2.1
    have hs := side p hp
    show crs _ (m + 1 + e) (eLo e) p (nx p) = false
    by_cases e1 : p = eLo e
    · rw [e1, crs_p2]
    · by_cases e2 : nx p = eLo e
      · rw [e2, crs_p4]
      · by_cases e3 : p = eHi e
        · have nq : nx p ≠ eHi e := fun z => npq (by rw [z, e3])
          have ms := md_s hN hG hd ha hb nab gq.1 e2 nq
          rw [e3]
          rw [e3] at e2 ms gq nq
          exact pg_midA C (Or.inl hb) (Or.inl ha) pk (Or.inl gq.1) nab.symm (by omega) nq.symm (by omega) (Ne.symm e2) (by have := gq.1; omega) ms.1 ms.2
        · by_cases e4 : nx p = eHi e
          · have ms := md_s hN hG hd ha hb nab gp.1 e1 e3
            rw [e4, ← crs_r C pk (Or.inl ha) (Or.inl gp.1) (Or.inl hb) e3]
            exact pg_midA C (Or.inl hb) (Or.inl ha) pk (Or.inl gp.1) nab.symm (by omega) (Ne.symm e3) (by omega) (Ne.symm e1) (by have := gp.1; omega) ms.1 ms.2
          · have ms1 := md_s hN hG hd ha hb nab gp.1 e1 e3
            have ms2 := md_s hN hG hd ha hb nab gq.1 e2 e4
            refine pg_mid C (Or.inl hb) (Or.inl ha) pk (Or.inl gp.1) (Or.inl gq.1) nab.symm (by omega) (Ne.symm e3) (Ne.symm e4) (by omega) (Ne.symm e1) (Ne.symm e2) (by have := gp.1; omega) (by have := gq.1; omega) npq.symm ms1.1 ms2.1 ms1.2 ms2.2 ?_
            have z := hc p hp
            rw [crsD (Ne.symm e1) (Ne.symm e2) (Ne.symm e3) (Ne.symm e4)] at z
            rw [crs_l C (Or.inl ha) (Or.inl hb) (Or.inl gp.1) (Or.inl gq.1) nab, crsD (Ne.symm e1) (Ne.symm e2) (Ne.symm e3) (Ne.symm e4), o_ccc ha hb gp.1, o_ccc ha hb gq.1, o_ccc gp.1 gq.1 ha, o_ccc gp.1 gq.1 hb]
            exact z)
  have x1 : pX (oXY (eX X m) (eY Y m)) S nx m (m + 1 + e) m = pgS S nx m (hz X Y (X (eLo e) + X (eHi e)) (Y (eLo e) + Y (eHi e))) := pgS_eq (fun p hp => by
    have gp := G.1 p hp
    have gq := G.1 _ gp.2.1
    have hs := side p hp
    exact md_hz hN hG hd ha hb nab gp.1 gq.1 gp.2.2.2.2.2.1.symm hs.1 hs.2 (hc p hp))
  have l1 : linL (oXY (eX X m) (eY Y m)) (eLo e) (pv (eLo e)) (nx (eLo e)) (m + 1 + e) = linL (oXY (eX X m) (eY Y m)) (eLo e) (pv (eLo e)) (nx (eLo e)) (eHi e) := by
    have gu := G.1 _ ga.2.2.1
    have gv := G.1 _ ga.2.1
    have nu : pv (eLo e) ≠ eHi e := fun z => n2 (by rw [← z]; exact ga.2.2.2.1)
    have nu2 : pv (eLo e) ≠ eLo e := pg_ne H sa
    have ms1 := md_s hN hG hd ha hb nab gu.1 nu2 nu
    have ms2 := md_s hN hG hd ha hb nab gv.1 ga.2.2.2.2.2.1 n1
    have sw : ∀ s, s < m → s ≠ eLo e → s ≠ eHi e → oXY (eX X m) (eY Y m) (eLo e) (m + 1 + e) s = oXY (eX X m) (eY Y m) (eLo e) (eHi e) s := fun s hs h1 h2 => by
      rw [cr3 C pk (Or.inl ha) (Or.inl hs) (by omega) (by omega) h1.symm, (md_s hN hG hd ha hb nab hs h1 h2).1, cr3 C (Or.inl hb) (Or.inl ha) (Or.inl hs) nab.symm h2.symm h1.symm]
    unfold linL
    rw [ms1.1, ms2.1, sw _ gu.1 nu2 nu, sw _ gv.1 ga.2.2.2.2.2.1 n1]
  rw [x0, l1, x1] at key
  revert key
  cases pK (oXY (eX X m) (eY Y m)) S nx pv m m (eLo e) <;> cases linL (oXY (eX X m) (eY Y m)) (eLo e) (pv (eLo e)) (nx (eLo e)) (eHi e) <;> cases pgS S nx m (hz X Y (X (eLo e) + X (eHi e)) (Y (eLo e) + Y (eHi e))) <;> decide
end
