/-! path, advance: the calls. -/
theorem fr_swc {g g' : zIJ} (f : zFr tSw g g') : zFr tC g g' := fr_ud f (fun a b q => by have := of_decide_eq_true q; omega)
theorem fr_sqr {g g' : zIJ} (f : zFr tSq g g') : zFr tR g g' := fr_ud f (fun a b q => by have := of_decide_eq_true q; omega)
theorem getD_r {R : List (Nat × Nat × Nat)} {i : Nat} (h : i < R.length) : R.getD i (0, 0, 0) = R[i] := by simp [List.getD, h]
theorem p_path (a b : Int32) : PairC (fun g => zev mX11_path 0 [.ref 3, .int a, .int b] g) (fun g => zev mX12_path 0 [.ref 250, .int a, .int b] g) := by
  intro σ g t hw h ht
  have l8 := (nsL_ok hw.1).1
  obtain ⟨g1, x1, f1, n1⟩ := c_isNet hw h ht a
  cases q1 : zin a (nsL σ.s).length with
  | false =>
    refine ⟨fI 3, fdn σ 3, wfs_fdn hw 3, ?_, fun g' r => ?_⟩
    · show COk (zev mX11_path 0 _ g) _ _ _ _
      rw [uX11_path_0, x1, zaI_some, q1]
      exact cok_le (cok_find (k := 3) (cin_ci n1) f1 (by omega)) (by omega : t + 1 ≤ t + 2)
    · show ROk (zev mX12_path 0 _ g') _ _ _
      obtain ⟨g2, x2, f2, n2⟩ := r_isNet hw r a
      rw [uX12_path_0, x2, zaI_some, q1]
      exact rok_find (k := 3) (rin_ri n2) hw f2 (by omega)
  | true =>
    obtain ⟨k, hk, ek⟩ := zin_of q1 (by omega)
    subst ek
    obtain ⟨w, ew⟩ : ∃ w, w = (nsL σ.s)[k] := ⟨_, rfl⟩
    have wm : w ∈ nsL σ.s := by rw [ew]; exact List.getElem_mem hk
    obtain ⟨g3, x3, f3, n3, P, R, lP, sR, lR, e3, e0, ent⟩ := c_sfollow hw n1 (by omega) wm
    have ic := cin_ci n3
    have fc := fr_tr f1 (fr_swc f3)
    have hd : zev mX11_path 0 [.ref 3, .int (nI k), .int b] g = cond (decide (b < 0)) (zaI (zev mX11_finding 0 [.ref 3, .int 3] g3) fun x5 g4 => some (some (.int x5), g4)) (cond (decide (b ≤ nI R.length)) (cond (zin b 14) (some (some (.int (g3.1 227 b.toNatClampNeg)), g3)) none) (zaI (zev mX11_finding 0 [.ref 3, .int 3] g3) fun x7 g6 => some (some (.int x7), g6))) := by
      rw [uX11_path_0, x1, zaI_some, q1, zin_n (by omega : k < 800) (by omega), nI_clamp (by omega : k < 2 ^ 31), n1.2.1.2 k hk, ← ew, x3, zaV_some, e3]; rfl
    rw [lt_d b 0, led b (nI R.length), nI_toInt (by omega), show (0 : Int32).toInt = 0 from rfl] at hd
    have rr : ∀ g', RI g' σ → ∃ g2 g4, zFr tR g' g4 ∧ RI g4 σ ∧ zev mX12_path 0 [.ref 250, .int (nI k), .int b] g' = cond (decide (0 ≤ b.toInt ∧ b.toInt ≤ R.length)) (some (some (.int (g4.1 250 18)), g4)) (zaI (zev mX12_finds 0 [.ref 250, .int 3] g4) fun x8 g7 => some (some (.int x8), g7)) ∧ g2 = g' ∧ ∀ T : Nat, b.toInt = T → T ≤ R.length → g4.1 250 18 = nI (pthL P R T) := fun g' r => by
      obtain ⟨g2, x2, f2, n2⟩ := r_isNet hw r (nI k)
      obtain ⟨g4, x4, f4, n4, q4⟩ := r_sweeps hw n2 hk ew lP sR lR b
      refine ⟨g', g4, fr_tr f2 (fr_sqr f4), rin_ri n4, ?_, rfl, fun T h1 h2 => (q4 T h1 h2).1⟩
      rw [uX12_path_0, x2, zaI_some, q1, x4, zaI_some, bI_0]
      cases decide (0 ≤ b.toInt ∧ b.toInt ≤ (R.length : Int)) <;> rfl
    by_cases q : 0 ≤ b.toInt ∧ b.toInt ≤ R.length
    · obtain ⟨T, hT, eT⟩ := i_small (k := R.length) q.1 q.2 (by omega)
      subst eT
      refine ⟨.int (nI (pthL P R T)), σ, hw, ?_, fun g' r => ?_⟩
      · show COk (zev mX11_path 0 _ g) _ _ _ _
        rw [hd, decide_eq_false (show ¬ (nI T).toInt < 0 by omega), decide_eq_true q.2, zin_n (by omega : T < 14) (by omega), nI_clamp (by omega : T < 2 ^ 31), sw_path (X := XS σ.s) (Y := YS σ.s) (n := nS σ.s) (w := w) e0 ent hT]
        exact cok_of ic fc (by omega)
      · show ROk (zev mX12_path 0 _ g') _ _ _
        obtain ⟨_, g4, f4, r4, e4, _, q4⟩ := rr g' r
        rw [e4, decide_eq_true q, q4 T (nI_toInt (by omega)) hT]
        exact rok_of r4 f4
    · refine ⟨fI 3, fdn σ 3, wfs_fdn hw 3, ?_, fun g' r => ?_⟩
      · show COk (zev mX11_path 0 _ g) _ _ _ _
        have fd := cok_le (cok_find (k := 3) ic fc (by omega)) (by omega : t + 1 ≤ t + 2)
        rw [hd]
        by_cases z : b.toInt < 0
        · rw [decide_eq_true z]; exact fd
        · rw [decide_eq_false z, decide_eq_false (show ¬ b.toInt ≤ (R.length : Int) by omega)]; exact fd
      · show ROk (zev mX12_path 0 _ g') _ _ _
        obtain ⟨_, g4, f4, r4, e4, _, q4⟩ := rr g' r
        rw [e4, decide_eq_false q]
        exact rok_find (k := 3) r4 hw f4 (by omega)
theorem p_advance (a b c : Int32) : PairC (fun g => zev mX11_advance 0 [.ref 3, .int a, .int b, .int c] g) (fun g => zev mX12_advance 0 [.ref 250, .int a, .int b, .int c] g) := by
  intro σ g t hw h ht
  have l8 := (nsL_ok hw.1).1
  by_cases q0 : 0 ≤ c.toInt ∧ c.toInt ≤ 1
  · have c0 : decide (c < 0) = false := by rw [lt_d]; exact decide_eq_false (by have : (0 : Int32).toInt = 0 := rfl; omega)
    have c1 : decide (c ≤ 1) = true := by rw [led]; exact decide_eq_true (by have : (1 : Int32).toInt = 1 := rfl; omega)
    obtain ⟨g1, x1, f1, n1⟩ := c_isNet hw h ht a
    cases q1 : zin a (nsL σ.s).length with
    | false =>
      refine ⟨fI 3, fdn σ 3, wfs_fdn hw 3, ?_, fun g' r => ?_⟩
      · show COk (zev mX11_advance 0 _ g) _ _ _ _
        rw [uX11_advance_0, c0, c1, x1, zaI_some, q1]
        exact cok_le (cok_find (k := 3) (cin_ci n1) f1 (by omega)) (by omega : t + 1 ≤ t + 2)
      · show ROk (zev mX12_advance 0 _ g') _ _ _
        obtain ⟨g2, x2, f2, n2⟩ := r_isNet hw r a
        rw [uX12_advance_0, r_inI g' c (lo := 0) (l := 0) (hi := 1) (h := 1) rfl rfl, zaI_some, decide_eq_true q0, x2, zaI_some, q1]
        exact rok_find (k := 3) (rin_ri n2) hw f2 (by omega)
    | true =>
      obtain ⟨k, hk, ek⟩ := zin_of q1 (by omega)
      subst ek
      obtain ⟨w, ew⟩ : ∃ w, w = (nsL σ.s)[k] := ⟨_, rfl⟩
      have wm : w ∈ nsL σ.s := by rw [ew]; exact List.getElem_mem hk
      obtain ⟨g3, x3, f3, n3, P, R, lP, sR, lR, e3, e0, ent⟩ := c_sfollow hw n1 (by omega) wm
      have ic := cin_ci n3
      have fc := fr_tr f1 (fr_swc f3)
      have hd : zev mX11_advance 0 [.ref 3, .int (nI k), .int b, .int c] g = cond (decide (b.toInt < 0)) (zaI (zev mX11_finding 0 [.ref 3, .int 3] g3) fun x7 g6 => some (some (.int x7), g6)) (cond (decide (b.toInt < (R.length : Int))) (cond (!decide (c = 0)) (cond (zin b 13) (some (some (.int (g3.1 229 b.toNatClampNeg)), g3)) none) (cond (zin b 13) (some (some (.int (g3.1 228 b.toNatClampNeg)), g3)) none)) (zaI (zev mX11_finding 0 [.ref 3, .int 3] g3) fun x9 g8 => some (some (.int x9), g8))) := by
        rw [uX11_advance_0, c0, c1, x1, zaI_some, q1, zin_n (by omega : k < 800) (by omega), nI_clamp (by omega : k < 2 ^ 31), n1.2.1.2 k hk, ← ew, x3, zaV_some, e3, lt_d b 0, lt_d b (nI R.length), nI_toInt (by omega), show (0 : Int32).toInt = 0 from rfl]; rfl
      by_cases q : 0 ≤ b.toInt ∧ b.toInt < R.length
      · obtain ⟨T, hT, eT⟩ := i_small (k := R.length) q.1 (by omega) (by omega)
        subst eT
        have tt : (nI T).toInt = T := nI_toInt (by omega)
        have hT' : T < R.length := by omega
        refine ⟨.int (cond (decide (c = 0)) (nI R[T].2.1) (nI R[T].2.2)), σ, hw, ?_, fun g' r => ?_⟩
        · show COk (zev mX11_advance 0 _ g) _ _ _ _
          rw [hd, decide_eq_false (show ¬ (nI T).toInt < 0 by omega), decide_eq_true q.2, zin_n (by omega : T < 13) (by omega), nI_clamp (by omega : T < 2 ^ 31), (ent T hT').2.1, (ent T hT').2.2]
          cases decide (c = 0)
          · exact cok_of ic fc (by omega)
          · exact cok_of ic fc (by omega)
        · show ROk (zev mX12_advance 0 _ g') _ _ _
          obtain ⟨g2, x2, f2, n2⟩ := r_isNet hw r (nI k)
          obtain ⟨g4, x4, f4, n4, q4⟩ := r_sweeps hw n2 hk ew lP sR lR (nI (T + 1))
          have t1 : (nI (T + 1)).toInt = ((T + 1 : Nat) : Int) := nI_toInt (by omega)
          have qq := (q4 (T + 1) t1 hT').2 T rfl
          rw [getD_r hT'] at qq
          have mx : decide (nI T = 2147483647) = false := by
            rw [show (2147483647 : Int32) = nI 2147483647 from rfl, nI_de (by omega) (by omega), decide_eq_false (by omega)]
          rw [uX12_advance_0, r_inI g' c (lo := 0) (l := 0) (hi := 1) (h := 1) rfl rfl, zaI_some, decide_eq_true q0, x2, zaI_some, q1, show decide (nI T < 0) = false from decide_eq_false (nI_n0 (by omega)), mx, nI_1, x4, zaI_some, decide_eq_true (show 0 ≤ (nI (T + 1)).toInt ∧ (nI (T + 1)).toInt ≤ (R.length : Int) by omega), qq.1, qq.2]
          cases decide (c = 0)
          · exact rok_of (rin_ri n4) (fr_tr f2 (fr_sqr f4))
          · exact rok_of (rin_ri n4) (fr_tr f2 (fr_sqr f4))
      · refine ⟨fI 3, fdn σ 3, wfs_fdn hw 3, ?_, fun g' r => ?_⟩
        · show COk (zev mX11_advance 0 _ g) _ _ _ _
          have fd := cok_le (cok_find (k := 3) ic fc (by omega)) (by omega : t + 1 ≤ t + 2)
          rw [hd]
          by_cases z : b.toInt < 0
          · rw [decide_eq_true z]; exact fd
          · rw [decide_eq_false z, decide_eq_false (show ¬ b.toInt < (R.length : Int) by omega)]; exact fd
        · show ROk (zev mX12_advance 0 _ g') _ _ _
          obtain ⟨g2, x2, f2, n2⟩ := r_isNet hw r (nI k)
          rw [uX12_advance_0, r_inI g' c (lo := 0) (l := 0) (hi := 1) (h := 1) rfl rfl, zaI_some, decide_eq_true q0, x2, zaI_some, q1, lt_d b 0, show (0 : Int32).toInt = 0 from rfl]
          by_cases z : b.toInt < 0
          · rw [decide_eq_true z]
            exact rok_find (k := 3) (rin_ri n2) hw f2 (by omega)
          · rw [decide_eq_false z]
            by_cases mx : b = 2147483647
            · rw [decide_eq_true mx]
              exact rok_find (k := 3) (rin_ri n2) hw f2 (by omega)
            · have b1 : (b + 1).toInt = b.toInt + 1 := by
                have ne : b.toInt ≠ 2147483647 := fun y => mx (Int32.toInt_inj.mp y)
                have hi := Int32.toInt_lt b
                have lo := Int32.le_toInt b
                rw [Int32.toInt_add, show (1 : Int32).toInt = 1 from rfl]
                exact Int.bmod_eq_of_le (by omega) (by omega)
              obtain ⟨g4, x4, f4, n4, q4⟩ := r_sweeps hw n2 hk ew lP sR lR (b + 1)
              rw [decide_eq_false mx, x4, zaI_some, decide_eq_false (show ¬ (0 ≤ (b + 1).toInt ∧ (b + 1).toInt ≤ (R.length : Int)) by omega)]
              exact rok_find (k := 3) (rin_ri n4) hw (fr_tr f2 (fr_sqr f4)) (by omega)
  · refine ⟨fI 0, fdn σ 0, wfs_fdn hw 0, ?_, fun g' r => ?_⟩
    · show COk (zev mX11_advance 0 _ g) _ _ _ _
      have fd := cok_le (cok_find (k := 0) h (fr_refl _ g) (by omega)) (by omega : t ≤ t + 2)
      rw [uX11_advance_0, lt_d c 0, led c 1, show (0 : Int32).toInt = 0 from rfl, show (1 : Int32).toInt = 1 from rfl]
      by_cases z : c.toInt < 0
      · rw [decide_eq_true z]; exact fd
      · rw [decide_eq_false z, decide_eq_false (show ¬ c.toInt ≤ 1 by omega)]; exact fd
    · show ROk (zev mX12_advance 0 _ g') _ _ _
      rw [uX12_advance_0, r_inI g' c (lo := 0) (l := 0) (hi := 1) (h := 1) rfl rfl, zaI_some, decide_eq_false q0]
      exact rok_find (k := 0) r hw (fr_refl tR g') (by omega)
