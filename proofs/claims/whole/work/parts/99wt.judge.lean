/-! judge. -/
def jdV (rm : Nat) (row : Nat → Nat → Int32) : List (Nat × Nat × Nat) → Nat → Int32
  | [], j => cond (decide (rm ≤ j)) 0 (nI (1 + j))
  | r :: R, j => cond (decide (rm ≤ j)) (nI (1 + j)) (cond (decide (row j 0 = nI r.2.1)) (cond (decide (row j 1 = nI r.2.2)) (jdV rm row R (j + 1)) (nI (1 + j))) (nI (1 + j)))
section
variable {n w k : Nat} {X Y : Nat → Int}
theorem r_jd (hG : GP X Y n) (hd : Dist X Y n) (hN : Near X Y n) (hn : n ≤ 9) (h0 : 0 < n) (hw : w < 2 ^ 36) (N : Net (oXY X Y) (List.range n) (Em w)) (hk : k < 5000) {rm : Nat} {row : Nat → Nat → Int32} (h13 : rm ≤ 13) : ∀ (R : List (Nat × Nat × Nat)) (P j : Nat) (g : zIJ), RB g n X Y → g.2 297 k = lN w → g.1 250 18 = nI P → g.1 250 24 = nI rm → (∀ i, i < rm → g.1 (302 + i) 0 = row i 0 ∧ g.1 (302 + i) 1 = row i 1) → (∀ f, Fst X Y n f → P.testBit f = true) → Swp X Y n w P R → j + R.length ≤ 13 → ∃ g2, zev mX12_judge 24 [.ref 250, .int (nI k), .int (nI j)] g = some (some (.int (jdV rm row R j)), g2) ∧ zFr tSq g g2
  | [], P, j, g, rb, h97, hP, h24, hr, pf, sw, hl => by
    have hj : j ≤ 13 := hl
    rcases r_adv (w := w) rb hN hd h0 hP pf with ⟨r, ad, _⟩ | ⟨_, e1⟩
    · exact absurd ad (sw r)
    · refine ⟨g, ?_, fr_refl _ g⟩
      rw [uX12_judge_24, zin_n hk (by omega), nI_clamp (by omega : k < 2 ^ 31), h97, e1, zaI_some, h24, show (1 : Int32) + nI j = nI (1 + j) from nI_add 1 j]
      unfold jdV
      by_cases q : rm ≤ j
      · rw [decide_eq_true (nI_le q (by omega)), decide_eq_true q]; rfl
      · rw [decide_eq_false (nI_ge (a := j) (b := rm) (by omega) (by omega)), decide_eq_false q]; rfl
  | r :: R, P, j, g, rb, h97, hP, h24, hr, pf, sw, hl => by
    have hl' : j + (R.length + 1) ≤ 13 := hl
    rcases r_adv (w := w) rb hN hd h0 hP pf with ⟨r0, ad, e1⟩ | ⟨no, _⟩
    · have er := adv_uq hG hd hn hw N ad sw.1
      subst er
      have a24 : (adv3 g r0).1 250 24 = nI rm := by rw [(adv3_o (by omega)).1]; exact h24
      have fa := adv3_fr g r0
      by_cases q : rm ≤ j
      · refine ⟨adv3 g r0, ?_, fa⟩
        rw [uX12_judge_24, zin_n hk (by omega), nI_clamp (by omega : k < 2 ^ 31), h97, e1, zaI_some, a24, decide_eq_true (nI_le q (by omega)), show (1 : Int32) + nI j = nI (1 + j) from nI_add 1 j]
        unfold jdV
        rw [decide_eq_true q]; rfl
      · have zr := zC_row j (by omega)
        have rd : ∀ c, zrd (adv3 g r0) (302 + j) c = g.1 (302 + j) c := fun c => by
          unfold zrd
          rw [zr]
          show (adv3 g r0).1 (302 + j) c = _
          exact (adv3_o (by omega)).1
        have zl : zlen (adv3 g r0) (302 + j) = 2 := by unfold zlen; rw [zr]; rfl
        have hrj := hr j (by omega)
        have gen : zev mX12_judge 24 [.ref 250, .int (nI k), .int (nI j)] g = cond (decide (row j 0 = nI r0.2.1)) (cond (decide (row j 1 = nI r0.2.2)) (zev mX12_judge 24 [.ref 250, .int (nI k), .int (nI (j + 1))] (adv3 g r0)) (some (some (.int (nI (1 + j))), adv3 g r0))) (some (some (.int (nI (1 + j))), adv3 g r0)) := by
          rw [uX12_judge_24, zin_n hk (by omega), nI_clamp (by omega : k < 2 ^ 31), h97, e1, zaI_some, a24, decide_eq_false (nI_ge (a := j) (b := rm) (by omega) (by omega)), show (1 : Int32) + nI j = nI (1 + j) from nI_add 1 j, zin_n (by omega : j < 40) (by omega), nI_clamp (by omega : j < 2 ^ 31), zl, zr, show (0 : Int32).toNatClampNeg = 0 from rfl, show (1 : Int32).toNatClampNeg = 1 from rfl, rd, rd, hrj.1, hrj.2, adv3_19, adv3_20, nI_1]
          cases decide (row j 0 = nI r0.2.1)
          · rfl
          · cases decide (row j 1 = nI r0.2.2) <;> rfl
        obtain ⟨g2, x2, f2⟩ := r_jd (row := row) hG hd hN hn h0 hw N hk h13 R r0.1 (j + 1) (adv3 g r0) (rb_adv rb r0) (by rw [(adv3_o (by omega)).2]; exact h97) (adv3_18 g r0) a24 (fun i hi => ⟨by rw [(adv3_o (by omega)).1]; exact (hr i hi).1, by rw [(adv3_o (by omega)).1]; exact (hr i hi).2⟩) (adv_fst ad pf) sw.2 (by omega)
        have ev : jdV rm row (r0 :: R) j = cond (decide (row j 0 = nI r0.2.1)) (cond (decide (row j 1 = nI r0.2.2)) (jdV rm row R (j + 1)) (nI (1 + j))) (nI (1 + j)) := by
          show cond (decide (rm ≤ j)) _ _ = _
          rw [decide_eq_false q]; rfl
        rw [gen, ev, x2]
        cases decide (row j 0 = nI r0.2.1)
        · exact ⟨adv3 g r0, rfl, fa⟩
        · cases decide (row j 1 = nI r0.2.2)
          · exact ⟨adv3 g r0, rfl, fa⟩
          · exact ⟨g2, rfl, fr_tr fa f2⟩
    · exact absurd sw.1 (no r)
end
theorem c_jd {g : zIJ} {rm : Nat} {row : Nat → Nat → Int32} {R : List (Nat × Nat × Nat)} (h13 : rm ≤ 13) (l13 : R.length ≤ 13) (h2 : g.1 237 2 = nI rm) (hr : ∀ i, i < rm → g.1 238 i = row i 0 ∧ g.1 239 i = row i 1) (e3 : g.1 226 3 = nI R.length) (ent : ∀ i (h : i < R.length), g.1 227 (i + 1) = nI R[i].1 ∧ g.1 228 i = nI R[i].2.1 ∧ g.1 229 i = nI R[i].2.2) : ∀ (d i : Nat), i + d = min rm R.length → ∃ x, zev mX7_firstUnlike 14 [.ref 237, .ref 226, .int (nI (min rm R.length)), .int (nI i)] g = some (some (.int x), g) ∧ x + 1 = jdV rm row (R.drop i) i
  | 0, i, e => by
    have ei : i = min rm R.length := by omega
    have st : zev mX7_firstUnlike 14 [.ref 237, .ref 226, .int (nI (min rm R.length)), .int (nI i)] g = cond (!decide (rm = R.length)) (some (some (.int (nI i)), g)) (some (some (.int (-1)), g)) := by
      rw [uX7_firstUnlike_14, ← ei, decide_eq_true (nI_le (Nat.le_refl i) (by omega)), h2, e3, nI_de (by omega) (by omega)]; rfl
    rcases Nat.lt_trichotomy rm R.length with q | q | q
    · refine ⟨nI i, by rw [st, decide_eq_false (by omega)]; rfl, ?_⟩
      have il : i < R.length := by omega
      rw [List.drop_eq_getElem_cons il]
      show _ = cond (decide (rm ≤ i)) _ _
      rw [decide_eq_true (by omega), nI_1, Nat.add_comm i 1]; rfl
    · refine ⟨-1, by rw [st, decide_eq_true q]; rfl, ?_⟩
      rw [List.drop_eq_nil_of_le (by omega)]
      show _ = cond (decide (rm ≤ i)) _ _
      rw [decide_eq_true (by omega)]; rfl
    · refine ⟨nI i, by rw [st, decide_eq_false (by omega)]; rfl, ?_⟩
      rw [List.drop_eq_nil_of_le (by omega)]
      show _ = cond (decide (rm ≤ i)) _ _
      rw [decide_eq_false (by omega), nI_1, Nat.add_comm i 1]; rfl
  | d + 1, i, e => by
    have il : i < R.length := by omega
    have ir : i < rm := by omega
    obtain ⟨x, x1, x2⟩ := c_jd h13 l13 h2 hr e3 ent d (i + 1) (by omega)
    have gen : zev mX7_firstUnlike 14 [.ref 237, .ref 226, .int (nI (min rm R.length)), .int (nI i)] g = cond (decide (row i 0 = nI R[i].2.1)) (cond (decide (row i 1 = nI R[i].2.2)) (zev mX7_firstUnlike 14 [.ref 237, .ref 226, .int (nI (min rm R.length)), .int (nI (i + 1))] g) (some (some (.int (nI i)), g))) (some (some (.int (nI i)), g)) := by
      rw [uX7_firstUnlike_14, decide_eq_false (nI_ge (a := i) (b := min rm R.length) (by omega) (by omega)), zin_n (by omega : i < 13) (by omega), nI_clamp (by omega : i < 2 ^ 31), (hr i ir).1, (hr i ir).2, (ent i il).2.1, (ent i il).2.2, nI_1]
      cases decide (row i 0 = nI R[i].2.1) <;> cases decide (row i 1 = nI R[i].2.2) <;> rfl
    have ev : jdV rm row (R.drop i) i = cond (decide (row i 0 = nI R[i].2.1)) (cond (decide (row i 1 = nI R[i].2.2)) (jdV rm row (R.drop (i + 1)) (i + 1)) (nI (1 + i))) (nI (1 + i)) := by
      rw [List.drop_eq_getElem_cons il]
      show cond (decide (rm ≤ i)) _ _ = _
      rw [decide_eq_false (by omega)]; rfl
    rw [gen, ev]
    have ad : nI i + 1 = nI (1 + i) := by rw [nI_1, Nat.add_comm]
    cases decide (row i 0 = nI R[i].2.1)
    · exact ⟨nI i, rfl, ad⟩
    · cases decide (row i 1 = nI R[i].2.2)
      · exact ⟨nI i, rfl, ad⟩
      · exact ⟨x, x1, x2⟩
theorem p_judge (a : Int32) : PairC (fun g => zev mX11_judge 0 [.ref 3, .int a] g) (fun g => zev mX12_judge 0 [.ref 250, .int a] g) := by
  intro σ g t hw h ht
  have l8 := (nsL_ok hw.1).1
  obtain ⟨g1, x1, f1, n1⟩ := c_isNet hw h ht a
  cases q1 : zin a (nsL σ.s).length with
  | false =>
    refine ⟨fI 3, fdn σ 3, wfs_fdn hw 3, ?_, fun g' r => ?_⟩
    · show COk (zev mX11_judge 0 _ g) _ _ _ _
      rw [uX11_judge_0, x1, zaI_some, q1]
      exact cok_le (cok_find (k := 3) (cin_ci n1) f1 (by omega)) (by omega : t + 1 ≤ t + 2)
    · show ROk (zev mX12_judge 0 _ g') _ _ _
      obtain ⟨g2, x2, f2, n2⟩ := r_isNet hw r a
      rw [uX12_judge_0, x2, zaI_some, q1]
      exact rok_find (k := 3) (rin_ri n2) hw f2 (by omega)
  | true =>
    obtain ⟨k, hk, ek⟩ := zin_of q1 (by omega)
    subst ek
    obtain ⟨w, ew⟩ : ∃ w, w = (nsL σ.s)[k] := ⟨_, rfl⟩
    have wm : w ∈ nsL σ.s := by rw [ew]; exact List.getElem_mem hk
    obtain ⟨n3', w36, wN, _⟩ := nsL_in hw.1 wm
    obtain ⟨p1, p2, p3, p4, p5⟩ := hw.1.2.1
    have r13 := hw.2.2.2.2.1
    obtain ⟨g3, x3, f3, n3, P, R, lP, sR, lR, e3, e0, ent⟩ := c_sfollow hw n1 (by omega) wm
    have ic := cin_ci n3
    have fc := fr_tr f1 (fr_swc f3)
    refine ⟨.int (jdV σ.rm σ.row R 0), σ, hw, ?_, fun g' r => ?_⟩
    · show COk (zev mX11_judge 0 _ g) _ _ _ _
      have h6 := ic.1.2.2.2.2.2.1
      obtain ⟨x, x4, e4⟩ := c_jd r13 lR h6.1 h6.2 e3 ent (min σ.rm R.length) 0 (by omega)
      have mn : zmnI (nI σ.rm) (nI R.length) = nI (min σ.rm R.length) := by
        unfold zmnI
        by_cases q : R.length < σ.rm
        · rw [if_pos (nI_lt q (by omega)), Nat.min_eq_right (by omega)]
        · rw [if_neg (nI_nlt (by omega : σ.rm ≤ R.length) (by omega)), Nat.min_eq_left (by omega)]
      rw [uX11_judge_0, x1, zaI_some, q1, zin_n (by omega : k < 800) (by omega), nI_clamp (by omega : k < 2 ^ 31), n1.2.1.2 k hk, ← ew, x3, zaV_some, uX7_firstUnlike_0, h6.1, e3, mn]
      show COk (zaI (zev mX7_firstUnlike 14 [.ref 237, .ref 226, .int (nI (min σ.rm R.length)), .int (nI 0)] g3) fun x5 g4 => some (some (.int (x5 + 1)), g4)) _ _ _ _
      rw [x4, zaI_some, e4]
      exact cok_of ic fc (by omega)
    · show ROk (zev mX12_judge 0 _ g') _ _ _
      obtain ⟨g2, x2, f2, n2⟩ := r_isNet hw r (nI k)
      have lP2 := lP
      obtain ⟨m, s, kk, hH, hkk, hl, eP⟩ := lP
      obtain ⟨g4, x4, f4⟩ := r_firstPath (rb_s n2.1.1 hw.1) p2 p3 p4 hH hkk hl
      rw [← eP] at x4
      have f5 : zFr tSq g2 (zsI g4 250 18 (nI P)) := fr_tr f4 (fr_I g4 _ rfl)
      have r5 := rin_sq n2 hw f5
      have h6 := r5.1.2.2.2.2.2.1
      obtain ⟨g6, x6, f6⟩ := r_jd (k := k) (row := σ.row) p3 p4 p2 p1 (by omega) w36 wN (by omega) r13 R P 0 (zsI g4 250 18 (nI P)) (rb_s r5.1.1 hw.1) (by rw [ew]; exact r5.2.2.2 k hk) (zI_same _ _ _ _) h6.1 h6.2 (low_fst (by omega) lP2) sR (by omega)
      rw [uX12_judge_0, x2, zaI_some, q1, x4, zaI_some]
      show ROk (zev mX12_judge 24 [.ref 250, .int (nI k), .int (nI 0)] (zsI g4 250 18 (nI P))) _ _ _
      rw [x6]
      exact rok_of (rin_ri (rin_sq r5 hw f6)) (fr_tr f2 (fr_sqr (fr_tr f5 f6)))
