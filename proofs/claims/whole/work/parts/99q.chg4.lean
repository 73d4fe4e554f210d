/-! move, drop, mark. -/
theorem z4_id (g : zIJ) (i : Nat) (x y : Int32) : zsI (zsI (zsI (zsI g 5 i x) 6 i y) 5 i (g.1 5 i)) 6 i (g.1 6 i) = g := by
  refine Prod.ext (funext fun k => funext fun j => ?_) rfl
  rw [zI_at, zI_at, zI_at, zI_at]
  by_cases q1 : k = 6 ∧ j = i
  · rw [if_pos q1, q1.1, q1.2]
  · rw [if_neg q1]
    by_cases q2 : k = 5 ∧ j = i
    · rw [if_pos q2, q2.1, q2.2]
    · rw [if_neg q2, if_neg q1, if_neg q2]
theorem p_move (a b c : Int32) : PairC (fun g => zev mX11_move 0 [.ref 3, .int a, .int b, .int c] g) (fun g => zev mX12_move 0 [.ref 250, .int a, .int b, .int c] g) := by
  intro σ g t hw h ht
  have hn := wf_n hw.1
  have cb := cb_s h.1.1 hw.1
  cases q0 : zin a (nS σ.s) with
  | false =>
    refine ⟨fI 0, fdn σ 0, wfs_fdn hw 0, ?_, fun g' r => ?_⟩
    · show COk (zev mX11_move 0 _ g) _ _ _ _
      rw [uX11_move_0, c_isPoint cb, zaI_some, q0]
      exact cok_le (cok_find (k := 0) h (fr_refl _ g) (by omega)) (by omega : t ≤ t + 2)
    · show ROk (zev mX12_move 0 _ g') _ _ _
      rw [uX12_move_0, r_isPoint (rb_s r.1.1 hw.1), zaI_some, q0]
      exact rok_find (k := 0) r hw (fr_refl tR g') (by omega)
  | true =>
    obtain ⟨i, hi, eai⟩ := zin_of q0 (by omega)
    subst eai
    by_cases q1 : -99 ≤ b.toInt ∧ b.toInt ≤ 99
    · by_cases q2 : -99 ≤ c.toInt ∧ c.toInt ≤ 99
      · obtain ⟨x, ex⟩ : ∃ x, x = b.toInt := ⟨_, rfl⟩
        obtain ⟨y, ey⟩ : ∃ y, y = c.toInt := ⟨_, rfl⟩
        have ea : b = cI x := by rw [ex]; exact (Int32.ofInt_toInt b).symm
        have eb : c = cI y := by rw [ey]; exact (Int32.ofInt_toInt c).symm
        have da : decide (-99 ≤ b.toInt ∧ b.toInt ≤ 99) = true := decide_eq_true q1
        have db : decide (-99 ≤ c.toInt ∧ c.toInt ≤ 99) = true := decide_eq_true q2
        rw [← ex] at q1
        rw [← ey] at q2
        obtain ⟨s', es⟩ : ∃ s' : Nat → Int32, s' = fun k => if k = 2 + 2 * i then b else if k = 3 + 2 * i then c else σ.s k := ⟨_, rfl⟩
        have s0 : s' 0 = nI (nS σ.s) := by rw [es]; show (if 0 = 2 + 2 * i then _ else _) = _; rw [if_neg (by omega), if_neg (by omega)]; exact hw.1.1
        have sx : s' (2 + 2 * i) = b := by rw [es]; exact if_pos rfl
        have sy : s' (3 + 2 * i) = c := by rw [es]; show (if 3 + 2 * i = 2 + 2 * i then _ else _) = _; rw [if_neg (by omega), if_pos rfl]
        have so : ∀ k, k ≠ 0 → k ≠ 2 + 2 * i → k ≠ 3 + 2 * i → s' k = σ.s k := fun k k1 k2 k3 => by
          rw [es]
          show (if k = 2 + 2 * i then _ else _) = _
          rw [if_neg k2, if_neg k3]
        obtain ⟨w1, w2, w3, w4, w5, w6⟩ := wf_pt (p := i) (n' := nS σ.s) hw.1 (by omega) hi (by omega) (fun i hi ni => by omega) s0 (sx.trans ea) (sy.trans eb) so q1 q2
        have cf : zev mX0_isFree 0 [.ref 4, .int b, .int c, .int (nI i)] g = some (some (.int (bI (cdec (FreeM (XS σ.s) (YS σ.s) (nS σ.s) i x y)))), g) := by
          rw [ea, eb]
          exact c_isFree cb hw.1.2.1.2.1 q1 q2 (fun k hk => by rw [nI_de (by omega) (by omega)])
        have cw : zev mX0_wouldCross 0 [.ref 4, .int (nI i), .int b, .int c] g = some (some (.int (bI (cdec (MC (mvX (XS σ.s) i x) (mvX (YS σ.s) i y) σ.s)))), g) := by
          have cbm : CB (zsI (zsI g 5 i b) 6 i c) (nS σ.s) (mvX (XS σ.s) i x) (mvX (YS σ.s) i y) := by
            refine ⟨hn, ?_, fun k hk => ⟨?_, ?_⟩⟩
            · rw [zI_at, if_neg (by omega), zI_at, if_neg (by omega)]; exact cb.2.1
            · rw [zI_at, if_neg (by omega), zI_at]
              by_cases e : k = i
              · rw [if_pos ⟨rfl, e⟩, e, mv_p]; exact ea
              · rw [if_neg (fun z => e z.2), mv_o e]; exact (cb.2.2 k hk).1
            · rw [zI_at]
              by_cases e : k = i
              · rw [if_pos ⟨rfl, e⟩, e, mv_p]; exact eb
              · rw [if_neg (fun z => e z.2), zI_at, if_neg (by omega), mv_o e]; exact (cb.2.2 k hk).2
          rw [uX0_wouldCross_0, zin_n (by omega : i < 9) (by omega), nI_clamp (by omega : i < 2 ^ 31), c_mustCross cbm w4 w5 h.1.1.2.2.2.2.1, zaI_some, bI_bit, z4_id]
          rfl
        have rpre : ∀ g', RI g' σ → ∃ g2, Mid g' g2 σ ∧ RBo g2 251 s' ∧ zev mX12_move 0 [.ref 250, .int (nI i), .int b, .int c] g' = cond (cdec (FreeM (XS σ.s) (YS σ.s) (nS σ.s) i x y)) (cond (cdec (MC (mvX (XS σ.s) i x) (mvX (YS σ.s) i y) σ.s)) (zaV (zev mX12_laysBack 0 [.ref 250] g2) fun g16 => zaI (zev mX12_finds 0 [.ref 250, .int 4] g16) fun x18 g17 => some (some (.int x18), g17)) (zaV (zev mX12_changes 0 [.ref 250] g2) fun g15 => some (some (.int 1), g15))) (zaV (zev mX12_laysBack 0 [.ref 250] g2) fun g16 => zaI (zev mX12_finds 0 [.ref 250, .int 4] g16) fun x18 g17 => some (some (.int x18), g17)) := by
          intro g' r
          have rb := rb_s r.1.1 hw.1
          obtain ⟨g1, x1, m1, b1⟩ := mid_aside r
          have bo : RBo (zsI (zsI g1 251 (2 + 2 * i) b) 251 (3 + 2 * i) c) 251 s' := by
            intro k hk
            rw [zI_at, zI_at]
            by_cases k3 : k = 3 + 2 * i
            · rw [if_pos ⟨rfl, k3⟩, k3, sy]
            · rw [if_neg (fun z => k3 z.2)]
              by_cases k2 : k = 2 + 2 * i
              · rw [if_pos ⟨rfl, k2⟩, k2, sx]
              · rw [if_neg (fun z => k2 z.2)]
                by_cases k0 : k = 0
                · rw [k0, s0, b1 0 (by omega)]; exact hw.1.1
                · rw [so k k0 k2 k3]; exact b1 k hk
          refine ⟨_, mid_I (mid_I m1 (2 + 2 * i) b) (3 + 2 * i) c, bo, ?_⟩
          rw [uX12_move_0, r_isPoint rb, zaI_some, q0, r_isPlace, zaI_some, da, db, x1, zaV_some, i_2 (by omega), zin_n (by omega : 2 + 2 * i < 72) (by omega), nI_clamp (by omega : 2 + 2 * i < 2 ^ 31), i_21, zin_n (by omega : 3 + 2 * i < 72) (by omega), nI_clamp (by omega : 3 + 2 * i < 2 ^ 31)]
          generalize hG : zsI (zsI g1 251 (2 + 2 * i) b) 251 (3 + 2 * i) c = G at bo ⊢
          have rG : RB G (nS σ.s) (mvX (XS σ.s) i x) (mvX (YS σ.s) i y) := by
            refine ⟨by omega, by rw [bo 0 (by omega), s0], fun k hk => ?_⟩
            rw [bo _ (by omega), bo _ (by omega)]
            by_cases e : k = i
            · rw [e, mv_p, mv_p, sx, sy]; exact ⟨ea, eb⟩
            · rw [mv_o e, mv_o e, so _ (by omega) (by omega) (by omega), so _ (by omega) (by omega) (by omega), (xs_in (by omega)).1, (xs_in (by omega)).2]; exact ⟨rfl, rfl⟩
          have fr := r_isFree rG w4 hi
          rw [mv_p, mv_p] at fr
          show zaI (zev mX12_isFree 0 [.ref 250, .int (nI i)] G) _ = _
          rw [fr, zaI_some, bI_0, cdec_cg (q := FreeM (XS σ.s) (YS σ.s) (nS σ.s) i x y) ⟨free_cg (fun i hi ni => ⟨by omega, mv_o ni, mv_o ni⟩), free_cg (fun i hi ni => ⟨by omega, (mv_o ni).symm, (mv_o ni).symm⟩)⟩, r_mustCross rG w4 w5 (fun e he => by rw [bo _ (by omega), so _ (by omega) (by omega) (by omega)]), zaI_some, bI_0]
          cases cdec (FreeM (XS σ.s) (YS σ.s) (nS σ.s) i x y) <;> cases cdec (MC (mvX (XS σ.s) i x) (mvX (YS σ.s) i y) σ.s) <;> rfl
        by_cases q4 : FreeM (XS σ.s) (YS σ.s) (nS σ.s) i x y
        · by_cases q5 : MC (mvX (XS σ.s) i x) (mvX (YS σ.s) i y) σ.s
          · refine ⟨fI 4, fdn σ 4, wfs_fdn hw 4, ?_, fun g' r => ?_⟩
            · show COk (zev mX11_move 0 _ g) _ _ _ _
              rw [uX11_move_0, c_isPoint cb, zaI_some, q0, near_d, zaI_some, da, near_d, zaI_some, db, cf, zaI_some, cdec_t q4, cw, zaI_some, cdec_t q5]
              exact cok_le (cok_find (k := 4) h (fr_refl _ g) (by omega)) (by omega : t ≤ t + 2)
            · show ROk (zev mX12_move 0 _ g') _ _ _
              obtain ⟨g2, m2, b2, e2⟩ := rpre g' r
              obtain ⟨g3, x3, f3, r3⟩ := mid_back r hw m2
              rw [e2, cdec_t q4, cdec_t q5]
              show ROk (zaV (zev mX12_laysBack 0 [.ref 250] g2) _) _ _ _
              rw [x3, zaV_some]
              exact rok_find (k := 4) r3 hw f3 (by omega)
          · have wf' := w6 q4 q5
            refine ⟨.int 1, pushed σ s', wfs_pushed hw wf', ?_, fun g' r => ?_⟩
            · show COk (zev mX11_move 0 _ g) _ _ _ _
              obtain ⟨g1, x1, f1, c1⟩ := c_keep h hw
              rw [uX11_move_0, c_isPoint cb, zaI_some, q0, near_d, zaI_some, da, near_d, zaI_some, db, cf, zaI_some, cdec_t q4, cw, zaI_some, cdec_f q5, x1, zaV_some, zin_n (by omega : i < 9) (by omega), nI_clamp (by omega : i < 2 ^ 31)]
              have cb2 : CBo (zsI (zsI g1 5 i b) 6 i c) 4 s' := by
                refine cbo_pt (g' := zsI (zsI g1 5 i b) 6 i c) c1.1.1 (by omega : i < 9) ?_ sx sy so (fun k => ?_) (fun k => ?_) ?_ (fun k => ⟨?_, ?_⟩) rfl
                · rw [zI_at, if_neg (by omega), zI_at, if_neg (by omega), s0, c1.1.1.1]; exact hw.1.1
                · rw [zI_at, if_neg (by omega), zI_at]
                  by_cases e : k = i
                  · rw [if_pos ⟨rfl, e⟩, if_pos e]
                  · rw [if_neg (fun z => e z.2), if_neg e]
                · rw [zI_at]
                  by_cases e : k = i
                  · rw [if_pos ⟨rfl, e⟩, if_pos e]
                  · rw [if_neg (fun z => e z.2), if_neg e, zI_at, if_neg (by omega)]
                · rw [zI_at, if_neg (by omega), zI_at, if_neg (by omega)]
                · rw [zI_at, if_neg (by omega), zI_at, if_neg (by omega)]
                · rw [zI_at, if_neg (by omega), zI_at, if_neg (by omega)]
              exact cok_of (t := t) (ci_s (g' := zsI (zsI g1 5 i b) 6 i c) c1 (fun k j hk => ⟨by rw [zI_at, if_neg (by omega), zI_at, if_neg (by omega)], rfl⟩) cb2) (fr_tr f1 (fr_tr (fr_I g1 b rfl) (fr_I _ c rfl))) (by omega)
            · show ROk (zev mX12_move 0 _ g') _ _ _
              obtain ⟨g2, m2, b2, e2⟩ := rpre g' r
              obtain ⟨g3, x3, f3, r3⟩ := mid_chg r hw m2 b2
              rw [e2, cdec_t q4, cdec_f q5]
              show ROk (zaV (zev mX12_changes 0 [.ref 250] g2) _) _ _ _
              rw [x3, zaV_some]
              exact rok_of r3 f3
        · refine ⟨fI 4, fdn σ 4, wfs_fdn hw 4, ?_, fun g' r => ?_⟩
          · show COk (zev mX11_move 0 _ g) _ _ _ _
            rw [uX11_move_0, c_isPoint cb, zaI_some, q0, near_d, zaI_some, da, near_d, zaI_some, db, cf, zaI_some, cdec_f q4]
            exact cok_le (cok_find (k := 4) h (fr_refl _ g) (by omega)) (by omega : t ≤ t + 2)
          · show ROk (zev mX12_move 0 _ g') _ _ _
            obtain ⟨g2, m2, b2, e2⟩ := rpre g' r
            obtain ⟨g3, x3, f3, r3⟩ := mid_back r hw m2
            rw [e2, cdec_f q4]
            show ROk (zaV (zev mX12_laysBack 0 [.ref 250] g2) _) _ _ _
            rw [x3, zaV_some]
            exact rok_find (k := 4) r3 hw f3 (by omega)
      · refine ⟨fI 0, fdn σ 0, wfs_fdn hw 0, ?_, fun g' r => ?_⟩
        · show COk (zev mX11_move 0 _ g) _ _ _ _
          rw [uX11_move_0, c_isPoint cb, zaI_some, q0, near_d, zaI_some, decide_eq_true q1, near_d, zaI_some, decide_eq_false q2]
          exact cok_le (cok_find (k := 0) h (fr_refl _ g) (by omega)) (by omega : t ≤ t + 2)
        · show ROk (zev mX12_move 0 _ g') _ _ _
          rw [uX12_move_0, r_isPoint (rb_s r.1.1 hw.1), zaI_some, q0, r_isPlace, zaI_some, decide_eq_true q1, decide_eq_false q2]
          exact rok_find (k := 0) r hw (fr_refl tR g') (by omega)
    · refine ⟨fI 0, fdn σ 0, wfs_fdn hw 0, ?_, fun g' r => ?_⟩
      · show COk (zev mX11_move 0 _ g) _ _ _ _
        rw [uX11_move_0, c_isPoint cb, zaI_some, q0, near_d, zaI_some, decide_eq_false q1]
        exact cok_le (cok_find (k := 0) h (fr_refl _ g) (by omega)) (by omega : t ≤ t + 2)
      · show ROk (zev mX12_move 0 _ g') _ _ _
        rw [uX12_move_0, r_isPoint (rb_s r.1.1 hw.1), zaI_some, q0, r_isPlace, zaI_some, decide_eq_false q1]
        exact rok_find (k := 0) r hw (fr_refl tR g') (by omega)
/-- the edges at a point -/
def atM (i : Nat) : Nat := mkM (fun e => Nat.beq (eLo e) i || Nat.beq (eHi e) i) 36
theorem atM_at {i e : Nat} (he : e < 36) : (atM i).testBit e = (decide (eLo e = i) || decide (eHi e = i)) := by
  unfold atM
  rw [mkM_at, decide_eq_true he, beq_d, beq_d]; rfl
theorem eat_chk : ∀ i, i < 9 → itr (fun j s => cond (Nat.beq j i) s (s ||| 2 ^ eN i j)) 9 0 0 = atM i := by decide +kernel
theorem c_edgesAt (g : zIJ) {i : Nat} (hi : i < 9) : zev mX11_edgesAt 0 [.int (nI i)] g = some (some (.long (lN (atM i))), g) := by
  have z := ziter (F := fun j s => zev mX11_edgesAt 4 [.int (nI i), .long (lN s), .int (nI j)] g) (R := fun s => some (some (.long (lN s)), g)) (n := 9) (h := fun j s => cond (Nat.beq j i) s (s ||| 2 ^ eN i j)) (fun j s hj => ?_) (fun s => ?_) 9 0 0 (by omega)
  · rw [uX11_edgesAt_0]
    refine Eq.trans z ?_
    rw [eat_chk i hi]
  · show zev mX11_edgesAt 4 _ g = zev mX11_edgesAt 4 _ g
    rw [uX11_edgesAt_4, show decide ((9 : Int32) ≤ nI j) = false from decide_eq_false (nI_ge (a := j) (b := 9) hj (by omega)), nI_de (by omega) (by omega), nI_1, beq_d]
    by_cases e : j = i
    · rw [decide_eq_true e]; rfl
    · rw [decide_eq_false e, c_edgeOf g hi hj (fun z => e z.symm), zaI_some, bit_l (by have := eN_lt hi hj (fun z => e z.symm); omega), lN_or]; rfl
  · show zev mX11_edgesAt 4 _ g = _
    rw [uX11_edgesAt_4]; rfl
