/-! drop and mark. -/
theorem r_pts {g : zIJ} {n : Nat} (e : g.1 251 0 = nI n) : zev mX12_points 0 [.ref 250] g = some (some (.int (nI n)), g) := by
  rw [uX12_points_0]
  show some (some (Value.int (g.1 251 0)), _) = _
  rw [e]
def dropS (s : Nat → Int32) (m : Nat) : Nat → Int32 := fun k => if k = 0 then nI m else if 20 ≤ k ∧ k < 56 ∧ eHi (k - 20) = m then 0 else s k
theorem dropS_0 (s : Nat → Int32) (m : Nat) : dropS s m 0 = nI m := rfl
theorem dropS_o {s : Nat → Int32} {m k : Nat} (h0 : k ≠ 0) (h : k < 20 ∨ 56 ≤ k) : dropS s m k = s k := by
  unfold dropS
  rw [if_neg h0, if_neg (by omega)]
theorem dropS_m {s : Nat → Int32} {m e : Nat} (he : e < 36) : dropS s m (20 + e) = if eHi e = m then 0 else s (20 + e) := by
  unfold dropS
  rw [if_neg (by omega), show 20 + e - 20 = e from by omega]
  by_cases q : eHi e = m
  · rw [if_pos ⟨by omega, by omega, q⟩, if_pos q]
  · rw [if_neg (fun z => q z.2.2), if_neg q]
theorem drop_ag {s : Nat → Int32} {m : Nat} (hn : nS s = m + 1) (h9 : m + 1 ≤ 9) : nS (dropS s m) = m ∧ (∀ i, i < m → XS (dropS s m) i = XS s i ∧ YS (dropS s m) i = YS s i) ∧ ∀ i, m ≤ i → XS (dropS s m) i = 0 ∧ YS (dropS s m) i = 0 := by
  have n0 : nS (dropS s m) = m := by unfold nS; rw [dropS_0]; exact nI_clamp (by omega)
  refine ⟨n0, fun i hi => ⟨?_, ?_⟩, fun i hi => ⟨?_, ?_⟩⟩
  · unfold XS
    rw [n0, hn, if_pos hi, if_pos (by omega), dropS_o (by omega) (by omega)]
  · unfold YS
    rw [n0, hn, if_pos hi, if_pos (by omega), dropS_o (by omega) (by omega)]
  · unfold XS
    rw [n0, if_neg (by omega)]
  · unfold YS
    rw [n0, if_neg (by omega)]
theorem wf_drop {s : Nat → Int32} {m : Nat} (h : Wf s) (hn : nS s = m + 1) : Wf (dropS s m) := by
  obtain ⟨h1, ⟨p1, p2, p3, p4, p5⟩, h3, h4, h5⟩ := h
  obtain ⟨n0, ag, ze⟩ := drop_ag hn (by omega)
  have o : ∀ x y z, x < m → y < m → z < m → dt (XS (dropS s m)) (YS (dropS s m)) x y z = dt (XS s) (YS s) x y z := fun x y z hx hy hz => by
    unfold dt
    rw [(ag x hx).1, (ag x hx).2, (ag y hy).1, (ag y hy).2, (ag z hz).1, (ag z hz).2]
  have mk : ∀ e, e < 36 → dropS s m (20 + e) = 1 → s (20 + e) = 1 ∧ eHi e < m := fun e he q => by
    rw [dropS_m he] at q
    by_cases z : eHi e = m
    · rw [if_pos z] at q
      exact absurd q (by decide)
    · rw [if_neg z] at q
      have := mk_hi h3 he q
      exact ⟨q, by omega⟩
  unfold Wf Pts
  rw [n0]
  refine ⟨rfl, ⟨by omega, fun i hi => ?_, fun a b c ha hb hc nab nac nbc => ?_, fun a b ha hb nab => ?_, ze⟩, fun e he => ?_, fun e f he hf q1 q2 => ?_, ?_⟩
  · rw [(ag i hi).1, (ag i hi).2]; exact p2 i (by omega)
  · rw [o a b c ha hb hc]; exact p3 a b c (by omega) (by omega) (by omega) nab nac nbc
  · rw [(ag a ha).1, (ag a ha).2, (ag b hb).1, (ag b hb).2]; exact p4 a b (by omega) (by omega) nab
  · rw [dropS_m he]
    by_cases z : eHi e = m
    · rw [if_pos z]; exact ⟨Or.inl rfl, fun _ => rfl⟩
    · rw [if_neg z]; exact ⟨(h3 e he).1, fun q => (h3 e he).2 (by omega)⟩
  · obtain ⟨e1, e2⟩ := mk e he q1
    obtain ⟨f1, f2⟩ := mk f hf q2
    have := (edge_of he).1
    have := (edge_of hf).1
    rw [crs_cg (n := m) (o := oXY (XS s) (YS s)) (fun x y z hx hy hz => by unfold oXY; rw [o x y z hx hy hz]) (by omega) e2 (by omega) f2]
    exact h4 e f he hf e1 f1
  · obtain ⟨k, k8, ek⟩ := h5
    exact ⟨k, k8, by rw [dropS_o (by omega) (by omega)]; exact ek⟩
theorem mM_drop {s : Nat → Int32} {m : Nat} {v : Int32} (hm : MksOK s (m + 1)) (hv : v ≠ 0) : mM s v &&& (mM s v ^^^ atM m) = mM (dropS s m) v := by
  refine bit_ext (n := 36) (Nat.lt_of_le_of_lt Nat.and_le_left (mM_lt _ _)) (mM_lt _ _) (fun e he => ?_)
  rw [Nat.testBit_and, Nat.testBit_xor, mM_at he, mM_at he, atM_at he, dropS_m he]
  by_cases z : eHi e = m
  · rw [if_pos z, decide_eq_true z, decide_eq_false (show ¬ (0 : Int32) = v from fun w => hv w.symm)]
    cases decide (s (20 + e) = v) <;> cases decide (eLo e = m) <;> rfl
  · rw [if_neg z, decide_eq_false z]
    by_cases w : eLo e = m
    · have h0 := (hm e he).2 (by have := (edge_of he).1; omega)
      rw [h0, decide_eq_false (show ¬ (0 : Int32) = v from fun w => hv w.symm)]; rfl
    · rw [decide_eq_false w]
      cases decide (s (20 + e) = v) <;> rfl
theorem p_drop : PairC (fun g => zev mX11_drop 0 [.ref 3] g) (fun g => zev mX12_drop 0 [.ref 250] g) := by
  intro σ g t hw h ht
  have hn := wf_n hw.1
  have cb := cb_s h.1.1 hw.1
  have c4 := cb.2.1
  cases q0 : nS σ.s with
  | zero =>
    refine ⟨fI 3, fdn σ 3, wfs_fdn hw 3, ?_, fun g' r => ?_⟩
    · show COk (zev mX11_drop 0 _ g) _ _ _ _
      rw [uX11_drop_0, c4, q0]
      exact cok_le (cok_find (k := 3) h (fr_refl _ g) (by omega)) (by omega : t ≤ t + 2)
    · show ROk (zev mX12_drop 0 _ g') _ _ _
      rw [uX12_drop_0, r_points (rb_s r.1.1 hw.1), zaI_some, q0]
      exact rok_find (k := 3) r hw (fr_refl tR g') (by omega)
  | succ m =>
    have wf' := wf_drop hw.1 q0
    have hm : MksOK σ.s (m + 1) := by rw [← q0]; exact hw.1.2.2.1
    have d0 : decide (nI (m + 1) = 0) = false := by rw [show (0 : Int32) = nI 0 from rfl, nI_de (by omega) (by omega), decide_eq_false (by omega)]
    refine ⟨.int (nI m), pushed σ (dropS σ.s m), wfs_pushed hw wf', ?_, fun g' r => ?_⟩
    · show COk (zev mX11_drop 0 _ g) _ _ _ _
      obtain ⟨g1, x1, f1, c1⟩ := c_keep h hw
      have d4 : g1.1 4 4 = nI (m + 1) := by rw [← q0]; exact c1.1.1.1.trans hw.1.1
      have d6 : (zsI g1 4 4 (nI m)).2 4 6 = lN (mM σ.s 1) := c1.1.1.2.2.2.2.1
      have d7 : ∀ v, (zsL (zsI g1 4 4 (nI m)) 4 6 v).2 4 7 = lN (mM σ.s 2) := fun v => (zL_col _ _ (by decide : (7 : Nat) ≠ 6)).trans c1.1.1.2.2.2.2.2
      rw [uX11_drop_0, c4, q0, d0, x1, zaV_some, uX0_removeLastPoint_0, d4, show decide (nI (m + 1) ≤ 0) = false from decide_eq_false (nI_ge (a := 0) (b := m + 1) (by omega) (by omega)), show nI (m + 1) - 1 = nI m from nI_pred _, zI_same, c_edgesAt _ (by omega : m < 9), zaL_some, d6, lN_andn, mM_drop hm (by decide), show (zsL (zsI g1 4 4 (nI m)) 4 6 (lN (mM (dropS σ.s m) 1))).1 4 4 = nI m from by rw [zL_1, zI_same], c_edgesAt _ (by omega : m < 9), zaL_some, d7, lN_andn, mM_drop hm (by decide)]
      have cb2 : CBo (zsL (zsL (zsI g1 4 4 (nI m)) 4 6 (lN (mM (dropS σ.s m) 1))) 4 7 (lN (mM (dropS σ.s m) 2))) 4 (dropS σ.s m) := by
        obtain ⟨b1, b2, b3, b4, b5, b6⟩ := c1.1.1
        refine ⟨?_, ?_, fun i hi => ⟨?_, ?_⟩, fun i hi => ⟨?_, ?_⟩, ?_, ?_⟩
        · rw [zL_1, zL_1, zI_same, dropS_0]
        · rw [zL_1, zL_1, zI_at, if_neg (by omega), dropS_o (by omega) (by omega)]; exact b2
        · rw [zL_1, zL_1, zI_at, if_neg (by omega), dropS_o (by omega) (by omega)]; exact (b3 i hi).1
        · rw [zL_1, zL_1, zI_at, if_neg (by omega), dropS_o (by omega) (by omega)]; exact (b3 i hi).2
        · rw [zL_1, zL_1, zI_at, if_neg (by omega), dropS_o (by omega) (by omega)]; exact (b4 i hi).1
        · rw [zL_1, zL_1, zI_at, if_neg (by omega), dropS_o (by omega) (by omega)]; exact (b4 i hi).2
        · rw [zL_at, if_neg (by omega), zL_same]
        · rw [zL_same]
      show COk (some (some (Value.int ((zsL (zsL (zsI g1 4 4 (nI m)) 4 6 (lN (mM (dropS σ.s m) 1))) 4 7 (lN (mM (dropS σ.s m) 2))).1 4 4)), zsL (zsL (zsI g1 4 4 (nI m)) 4 6 (lN (mM (dropS σ.s m) 1))) 4 7 (lN (mM (dropS σ.s m) 2)))) g _ _ _
      rw [zL_1, zL_1, zI_same]
      exact cok_of (t := t) (ci_s (g' := zsL (zsL (zsI g1 4 4 (nI m)) 4 6 (lN (mM (dropS σ.s m) 1))) 4 7 (lN (mM (dropS σ.s m) 2))) c1 (fun k j hk => ⟨by rw [zL_1, zL_1, zI_at, if_neg (by omega)], by rw [zL_at, if_neg (by omega), zL_at, if_neg (by omega)]; rfl⟩) cb2) (fr_tr f1 (fr_tr (fr_tr (fr_I g1 (nI m) rfl) (fr_L _ _ rfl)) (fr_L _ _ rfl))) (by omega)
    · show ROk (zev mX12_drop 0 _ g') _ _ _
      obtain ⟨g1, x1, m1, b1⟩ := mid_aside r
      have e0 : g1.1 251 0 = nI (m + 1) := by rw [b1 0 (by omega), hw.1.1, q0]
      rw [uX12_drop_0, r_points (rb_s r.1.1 hw.1), zaI_some, q0, d0, x1, zaV_some, show (0 : Int32).toNatClampNeg = 0 from rfl, e0, show nI (m + 1) - 1 = nI m from nI_pred _]
      have run : ∃ g2, zev mX12_drop 29 [.ref 250, .int (nI 0)] (zsI g1 251 0 (nI m)) = (zaV (zev mX12_changes 0 [.ref 250] g2) fun g3 => zaI (zev mX12_points 0 [.ref 250] g3) fun x5 g4 => some (some (.int x5), g4)) ∧ Mid g' g2 σ ∧ RBo g2 251 (dropS σ.s m) := by
        refine zloop (F := fun k g2 => zev mX12_drop 29 [.ref 250, .int (nI k)] g2) (I := fun k g2 => Mid g' g2 σ ∧ ∀ j, j < 72 → g2.1 251 j = if j = 0 then nI m else if 20 ≤ j ∧ j < 56 ∧ eHi (j - 20) = m ∧ eLo (j - 20) < k then 0 else σ.s j) (Post := fun r => ∃ g2, r = (zaV (zev mX12_changes 0 [.ref 250] g2) fun g3 => zaI (zev mX12_points 0 [.ref 250] g3) fun x5 g4 => some (some (.int x5), g4)) ∧ Mid g' g2 σ ∧ RBo g2 251 (dropS σ.s m)) (lo := 0) (n := m) (fun k g2 _ hk I1 => ?_) (fun g2 I1 => ?_) m 0 _ (Nat.le_refl _) (by omega) ⟨mid_I m1 0 (nI m), fun j hj => ?_⟩
        · have p0 : g2.1 251 0 = nI m := I1.2 0 (by omega)
          have ea := edge_at (by omega : k < 9) (by omega : m < 9) (by omega)
          refine ⟨zsI g2 251 (20 + eN k m) 0, ?_, mid_I I1.1 _ _, fun j hj => ?_⟩
          · rw [uX12_drop_29, r_pts p0, zaI_some, decide_eq_false (nI_ge (a := k) (b := m) hk (by omega)), r_pts p0, zaI_some, r_edge g2 (by omega : k < 9) (by omega : m < 9) (by omega), zaI_some, add20 ea.1, zin_n (by omega : 20 + eN k m < 72) (by omega), nI_clamp (by omega : 20 + eN k m < 2 ^ 31), nI_1]
            rfl
          · rw [zI_at]
            by_cases z : j = 20 + eN k m
            · rw [if_pos ⟨rfl, z⟩, if_neg (by omega), if_pos]
              refine ⟨by omega, by omega, ?_, ?_⟩
              · rw [z, show 20 + eN k m - 20 = eN k m from by omega, ea.2.2.2.1]; omega
              · rw [z, show 20 + eN k m - 20 = eN k m from by omega, ea.2.2.1]; omega
            · rw [if_neg (fun w => z w.2), I1.2 j hj]
              by_cases z0 : j = 0
              · rw [if_pos z0, if_pos z0]
              · rw [if_neg z0, if_neg z0]
                by_cases z1 : 20 ≤ j ∧ j < 56 ∧ eHi (j - 20) = m ∧ eLo (j - 20) < k
                · rw [if_pos z1, if_pos ⟨z1.1, z1.2.1, z1.2.2.1, by omega⟩]
                · rw [if_neg z1, if_neg (fun w => z1 ⟨w.1, w.2.1, w.2.2.1, ?_⟩)]
                  have ej := edge_of (by omega : j - 20 < 36)
                  have : eLo (j - 20) ≠ k := fun y => by
                    have e3 := ej.2.2.1
                    rw [y, w.2.2.1] at e3
                    omega
                  omega
        · refine ⟨g2, ?_, I1.1, fun j hj => ?_⟩
          · rw [uX12_drop_29, r_pts (I1.2 0 (by omega)), zaI_some, decide_eq_true (nI_le (Nat.le_refl m) (by omega))]; rfl
          · rw [I1.2 j hj]
            unfold dropS
            by_cases z0 : j = 0
            · rw [if_pos z0, if_pos z0]
            · rw [if_neg z0, if_neg z0]
              by_cases z1 : 20 ≤ j ∧ j < 56 ∧ eHi (j - 20) = m
              · have ej := edge_of (by omega : j - 20 < 36)
                rw [if_pos z1, if_pos ⟨z1.1, z1.2.1, z1.2.2, by omega⟩]
              · rw [if_neg z1, if_neg (fun w => z1 ⟨w.1, w.2.1, w.2.2.1⟩)]
        · rw [zI_at]
          by_cases z0 : j = 0
          · rw [if_pos ⟨rfl, z0⟩, if_pos z0]
          · rw [if_neg (fun w => z0 w.2), if_neg z0, if_neg (by omega)]; exact b1 j hj
      obtain ⟨g2, e2, m2, b2⟩ := run
      obtain ⟨g3, x3, f3, r3⟩ := mid_chg r hw m2 b2
      show ROk (zev mX12_drop 29 [.ref 250, .int (nI 0)] (zsI g1 251 0 (nI m))) _ _ _
      rw [e2, x3, zaV_some, r_pts (show g3.1 251 0 = nI m from r3.1.1 0 (by omega)), zaI_some]
      exact rok_of r3 f3
/-! mark -/
def mkS (s : Nat → Int32) (e : Nat) (v : Int32) : Nat → Int32 := fun k => if k = 20 + e then v else s k
theorem mkS_o {s : Nat → Int32} {e k : Nat} {v : Int32} (h : k ≠ 20 + e) : mkS s e v k = s k := if_neg h
theorem mkS_e (s : Nat → Int32) (e : Nat) (v : Int32) : mkS s e v (20 + e) = v := if_pos rfl
theorem mM_or {s : Nat → Int32} {e : Nat} {v : Int32} (he : e < 36) : mM s v ||| 2 ^ e = mM (mkS s e v) v := by
  refine bit_ext (n := 36) (Nat.or_lt_two_pow (mM_lt _ _) (Nat.pow_lt_pow_right (by omega) he)) (mM_lt _ _) (fun f hf => ?_)
  rw [Nat.testBit_or, Nat.testBit_two_pow, mM_at hf, mM_at hf]
  by_cases z : f = e
  · rw [z, mkS_e, decide_eq_true (rfl : e = e), decide_eq_true (rfl : v = v), Bool.or_true]
  · rw [mkS_o (by omega), decide_eq_false (show ¬ e = f from fun w => z w.symm), Bool.or_false]
theorem mM_an {s : Nat → Int32} {e : Nat} {v w : Int32} (hv : v ≠ w) : mM s w &&& (mM s w ^^^ 2 ^ e) = mM (mkS s e v) w := by
  refine bit_ext (n := 36) (Nat.lt_of_le_of_lt Nat.and_le_left (mM_lt _ _)) (mM_lt _ _) (fun f hf => ?_)
  rw [Nat.testBit_and, Nat.testBit_xor, Nat.testBit_two_pow, mM_at hf, mM_at hf]
  by_cases z : f = e
  · rw [z, mkS_e, decide_eq_true (rfl : e = e), decide_eq_false hv]
    cases decide (s (20 + e) = w) <;> rfl
  · rw [mkS_o (by omega), decide_eq_false (show ¬ e = f from fun w => z w.symm)]
    cases decide (s (20 + f) = w) <;> rfl
theorem c_setMark {g : zIJ} {s : Nat → Int32} {e j : Nat} (he : e < 36) (hj : j ≤ 2) (h6 : g.2 4 6 = lN (mM s 1)) (h7 : g.2 4 7 = lN (mM s 2)) : zev mX0_setMark 0 [.ref 4, .int (nI e), .int (nI j)] g = some (none, zsL (zsL g 4 6 (lN (mM (mkS s e (nI j)) 1))) 4 7 (lN (mM (mkS s e (nI j)) 2))) := by
  have c7 : ∀ v, (zsL g 4 6 v).2 4 7 = lN (mM s 2) := fun v => (zL_col _ _ (by decide : (7 : Nat) ≠ 6)).trans h7
  rw [uX0_setMark_0, bit_l (by omega : e < 63), h6]
  simp only [c7]
  have hc : j = 0 ∨ j = 1 ∨ j = 2 := by omega
  rcases hc with q | q | q
  · subst q
    show some (none, zsL (zsL g 4 6 (lN (mM s 1) &&& (lN (2 ^ e) ^^^ (-1)))) 4 7 (lN (mM s 2) &&& (lN (2 ^ e) ^^^ (-1)))) = some (none, zsL (zsL g 4 6 (lN (mM (mkS s e 0) 1))) 4 7 (lN (mM (mkS s e 0) 2)))
    rw [lN_andn, lN_andn, mM_an (v := 0) (by decide), mM_an (v := 0) (by decide)]
  · subst q
    show some (none, zsL (zsL g 4 6 (lN (mM s 1) ||| lN (2 ^ e))) 4 7 (lN (mM s 2) &&& (lN (2 ^ e) ^^^ (-1)))) = some (none, zsL (zsL g 4 6 (lN (mM (mkS s e 1) 1))) 4 7 (lN (mM (mkS s e 1) 2)))
    rw [lN_or, lN_andn, mM_or he, mM_an (v := 1) (by decide)]
  · subst q
    show some (none, zsL (zsL g 4 6 (lN (mM s 1) &&& (lN (2 ^ e) ^^^ (-1)))) 4 7 (lN (mM s 2) ||| lN (2 ^ e))) = some (none, zsL (zsL g 4 6 (lN (mM (mkS s e 2) 1))) 4 7 (lN (mM (mkS s e 2) 2)))
    rw [lN_andn, lN_or, mM_or he, mM_an (v := 2) (by decide)]
theorem wf_mark {s : Nat → Int32} {e : Nat} {v : Int32} (h : Wf s) (he : e < 36) (hh : eHi e < nS s) (hv : v = 0 ∨ v = 1 ∨ v = 2) : nS (mkS s e v) = nS s ∧ XS (mkS s e v) = XS s ∧ YS (mkS s e v) = YS s ∧ MksOK (mkS s e v) (nS s) ∧ (¬ MC (XS s) (YS s) (mkS s e v) → Wf (mkS s e v)) ∧ (v ≠ 1 → ¬ MC (XS s) (YS s) (mkS s e v)) := by
  have hmc := wf_mc h
  obtain ⟨h1, ⟨p1, p2, p3, p4, p5⟩, h3, h4, h5⟩ := h
  have n0 : nS (mkS s e v) = nS s := by unfold nS; rw [mkS_o (by omega)]
  have x0 : XS (mkS s e v) = XS s := by
    funext i
    unfold XS
    rw [n0]
    by_cases q : i < nS s
    · rw [if_pos q, if_pos q, mkS_o (by omega)]
    · rw [if_neg q, if_neg q]
  have y0 : YS (mkS s e v) = YS s := by
    funext i
    unfold YS
    rw [n0]
    by_cases q : i < nS s
    · rw [if_pos q, if_pos q, mkS_o (by omega)]
    · rw [if_neg q, if_neg q]
  have mk : MksOK (mkS s e v) (nS s) := fun f hf => by
    by_cases q : f = e
    · rw [q, mkS_e]; exact ⟨hv, fun z => by omega⟩
    · rw [mkS_o (by omega)]; exact h3 f hf
  refine ⟨n0, x0, y0, mk, fun hc => ?_, fun v1 ⟨a, b, ha, hb, q1, q2, q3⟩ => ?_⟩
  · unfold Wf
    rw [n0, x0, y0]
    refine ⟨?_, ⟨p1, p2, p3, p4, p5⟩, mk, mc_f hc, ?_⟩
    · rw [mkS_o (by omega)]; exact h1
    · obtain ⟨k, k8, ek⟩ := h5
      exact ⟨k, k8, by rw [mkS_o (by omega)]; exact ek⟩
  · have na : a ≠ e := fun z => by rw [z, mkS_e] at q1; exact v1 q1
    have nb : b ≠ e := fun z => by rw [z, mkS_e] at q2; exact v1 q2
    rw [mkS_o (by omega)] at q1
    rw [mkS_o (by omega)] at q2
    exact hmc ⟨a, b, ha, hb, q1, q2, q3⟩
theorem mark_mc {s : Nat → Int32} {e : Nat} (h : Wf s) (he : e < 36) (hh : eHi e < nS s) : MC (XS s) (YS s) (mkS s e 1) ↔ ¬ crM (XS s) (YS s) (nS s) e &&& mM s 1 = 0 := by
  have hmc := wf_mc h
  have bt : ∀ f, f < 36 → ((crM (XS s) (YS s) (nS s) e &&& mM s 1).testBit f = true ↔ s (20 + f) = 1 ∧ crs (oXY (XS s) (YS s)) (eLo e) (eHi e) (eLo f) (eHi f) = true) := fun f hf => by
    rw [Nat.testBit_and, crM_at hf, mM_at hf, Bool.and_eq_true, Bool.and_eq_true, Bool.and_eq_true, decide_eq_true_iff, decide_eq_true_iff, decide_eq_true_iff]
    exact ⟨fun z => ⟨z.2, z.1.2.2⟩, fun z => ⟨⟨hh, mk_hi h.2.2.1 hf z.1, z.2⟩, z.1⟩⟩
  constructor
  · intro ⟨a, b, ha, hb, q1, q2, q3⟩ z
    have zb : ∀ f, f < 36 → ¬ (s (20 + f) = 1 ∧ crs (oXY (XS s) (YS s)) (eLo e) (eHi e) (eLo f) (eHi f) = true) := fun f hf w => by
      have := (bt f hf).mpr w
      rw [z, Nat.zero_testBit] at this
      exact absurd this (by decide)
    by_cases na : a = e
    · by_cases nb : b = e
      · rw [na, nb, crs_self] at q3
        exact absurd q3 (by decide)
      · rw [mkS_o (by omega)] at q2
        rw [na] at q3
        exact zb b hb ⟨q2, q3⟩
    · rw [mkS_o (by omega)] at q1
      by_cases nb : b = e
      · rw [nb, crs_sw] at q3
        exact zb a ha ⟨q1, q3⟩
      · rw [mkS_o (by omega)] at q2
        exact hmc ⟨a, b, ha, hb, q1, q2, q3⟩
  · intro z
    refine Classical.byContradiction (fun w => z (bit_ext (n := 36) (Nat.lt_of_le_of_lt Nat.and_le_left (crM_lt _)) (by decide) (fun f hf => ?_)))
    rw [Nat.zero_testBit]
    cases q : (crM (XS s) (YS s) (nS s) e &&& mM s 1).testBit f with
    | false => rfl
    | true =>
      obtain ⟨z1, z2⟩ := (bt f hf).mp q
      refine absurd ⟨e, f, he, hf, mkS_e _ _ _, ?_, z2⟩ w
      by_cases nf : f = e
      · rw [nf, mkS_e]
      · rw [mkS_o (by omega)]; exact z1
theorem p_mark (a b c : Int32) : PairC (fun g => zev mX11_mark 0 [.ref 3, .int a, .int b, .int c] g) (fun g => zev mX12_mark 0 [.ref 250, .int a, .int b, .int c] g) := by
  intro σ g t hw h ht
  have hn := wf_n hw.1
  have cb := cb_s h.1.1 hw.1
  have bad : ∀ (P : (zin a (nS σ.s) && (zin b (nS σ.s) && !decide (a = b))) = false ∨ ((zin a (nS σ.s) && (zin b (nS σ.s) && !decide (a = b))) = true ∧ ¬ (0 ≤ c.toInt ∧ c.toInt ≤ 2))), ∃ v σ', Wfs σ' ∧ COk (zev mX11_mark 0 [.ref 3, .int a, .int b, .int c] g) g v σ' (t + 2) ∧ ∀ g', RI g' σ → ROk (zev mX12_mark 0 [.ref 250, .int a, .int b, .int c] g') g' v σ' := by
    intro P
    have fd := cok_le (cok_find (k := 0) h (fr_refl _ g) (by omega)) (by omega : t ≤ t + 2)
    refine ⟨fI 0, fdn σ 0, wfs_fdn hw 0, ?_, fun g' r => ?_⟩
    · rcases P with q1 | ⟨q1, q2⟩
      · rw [uX11_mark_0, c_isPair cb, zaI_some, q1]
        exact fd
      · rw [uX11_mark_0, c_isPair cb, zaI_some, q1, lt_d c 0, led c 2, show (0 : Int32).toInt = 0 from rfl, show (2 : Int32).toInt = 2 from rfl]
        by_cases z : c.toInt < 0
        · rw [decide_eq_true z]; exact fd
        · rw [decide_eq_false z, decide_eq_false (show ¬ c.toInt ≤ 2 by omega)]; exact fd
    · rcases P with q1 | ⟨q1, q2⟩
      · rw [uX12_mark_0, r_areTwo (rb_s r.1.1 hw.1), zaI_some, q1]
        exact rok_find (k := 0) r hw (fr_refl tR g') (by omega)
      · rw [uX12_mark_0, r_areTwo (rb_s r.1.1 hw.1), zaI_some, q1, r_inI g' c (lo := 0) (l := 0) (hi := 2) (h := 2) rfl rfl, zaI_some, decide_eq_false q2]
        exact rok_find (k := 0) r hw (fr_refl tR g') (by omega)
  cases q1 : (zin a (nS σ.s) && (zin b (nS σ.s) && !decide (a = b))) with
  | false => exact bad (Or.inl q1)
  | true =>
    by_cases q2 : 0 ≤ c.toInt ∧ c.toInt ≤ 2
    · obtain ⟨i, j, hi, hj, nij, e1, e2⟩ := two_of hn q1
      obtain ⟨v, v2, ev⟩ := i_small (k := 2) q2.1 q2.2 (by omega)
      subst e1 e2 ev
      have ea := edge_at (by omega : i < 9) (by omega : j < 9) nij
      have hh : eHi (eN i j) < nS σ.s := by rw [ea.2.2.2.1]; omega
      have hv : nI v = 0 ∨ nI v = 1 ∨ nI v = 2 := by
        have : v = 0 ∨ v = 1 ∨ v = 2 := by omega
        rcases this with z | z | z
        · rw [z]; exact Or.inl rfl
        · rw [z]; exact Or.inr (Or.inl rfl)
        · rw [z]; exact Or.inr (Or.inr rfl)
      obtain ⟨w1, w2, w3, w4, w5, w6⟩ := wf_mark hw.1 ea.1 hh hv
      obtain ⟨e, ee⟩ : ∃ e, e = eN i j := ⟨_, rfl⟩
      have he := ea.1
      rw [← ee] at hh w1 w2 w3 w4 w5 w6 he
      obtain ⟨g1, x1, f1, ip⟩ := c_fol hw h ht
      have ci1 := cip_ci ip
      have d1 : decide (nI v < 0) = false := decide_eq_false (nI_n0 (by omega))
      have d2 : decide (nI v ≤ 2) = true := decide_eq_true (nI_le (a := v) (b := 2) v2 (by omega))
      have r12 : ∀ g', zev mX12_in 0 [.long (nI v).toInt64, .long 0, .long 2] g' = some (some (.int (bI true)), g') := fun g' => by
        rw [r_inI g' (nI v) (lo := 0) (l := 0) (hi := 2) (h := 2) rfl rfl, decide_eq_true q2]
      have d217 : g1.2 217 e = lN (crM (XS σ.s) (YS σ.s) (nS σ.s) e) := ip.2.1.2.2.2.2.2.1 e he
      have d46 : g1.2 4 6 = lN (mM σ.s 1) := ip.1.1.2.2.2.2.1
      have anl : crM (XS σ.s) (YS σ.s) (nS σ.s) e &&& mM σ.s 1 < 2 ^ 64 := Nat.lt_of_le_of_lt Nat.and_le_left (Nat.lt_trans (crM_lt _) (by omega))
      have good : ¬ MC (XS σ.s) (YS σ.s) (mkS σ.s e (nI v)) → ∃ v' σ', Wfs σ' ∧ COk (zev mX11_mark 79 [.ref 3, .int (nI v), .int (nI e)] g1) g v' σ' (t + 2) ∧ ∀ g', RI g' σ → ∀ g2, Mid g' g2 σ → RBo g2 251 (mkS σ.s e (nI v)) → ROk (zaV (zev mX12_changes 0 [.ref 250] g2) fun g12 => some (some (.int (σ.s (20 + e))), g12)) g' v' σ' := by
        intro hc
        have wf' := w5 hc
        refine ⟨.int (σ.s (20 + e)), pushed σ (mkS σ.s e (nI v)), wfs_pushed hw wf', ?_, fun g' r g2 m2 b2 => ?_⟩
        · obtain ⟨g3, x3, f3, c3⟩ := c_keep ci1 hw
          rw [uX11_mark_79, x3, zaV_some, c_markAt c3.1.1 hw.1.2.2.1 he, zaI_some, c_setMark (s := σ.s) he v2 c3.1.1.2.2.2.2.1 c3.1.1.2.2.2.2.2, zaV_some]
          have cb2 : CBo (zsL (zsL g3 4 6 (lN (mM (mkS σ.s e (nI v)) 1))) 4 7 (lN (mM (mkS σ.s e (nI v)) 2))) 4 (mkS σ.s e (nI v)) := by
            obtain ⟨b1, b2, b3, b4, b5, b6⟩ := c3.1.1
            refine ⟨?_, ?_, fun i hi => ⟨?_, ?_⟩, fun i hi => ⟨?_, ?_⟩, ?_, ?_⟩
            · rw [zL_1, zL_1, mkS_o (by omega)]; exact b1
            · rw [zL_1, zL_1, mkS_o (by omega)]; exact b2
            · rw [zL_1, zL_1, mkS_o (by omega)]; exact (b3 i hi).1
            · rw [zL_1, zL_1, mkS_o (by omega)]; exact (b3 i hi).2
            · rw [zL_1, zL_1, mkS_o (by omega)]; exact (b4 i hi).1
            · rw [zL_1, zL_1, mkS_o (by omega)]; exact (b4 i hi).2
            · rw [zL_at, if_neg (by omega), zL_same]
            · rw [zL_same]
          exact cok_of (t := t + 1) (ci_s (g' := zsL (zsL g3 4 6 (lN (mM (mkS σ.s e (nI v)) 1))) 4 7 (lN (mM (mkS σ.s e (nI v)) 2))) c3 (fun k j hk => ⟨by rw [zL_1, zL_1], by rw [zL_at, if_neg (by omega), zL_at, if_neg (by omega)]⟩) cb2) (fr_tr f1 (fr_tr f3 (fr_tr (fr_L _ _ rfl) (fr_L _ _ rfl)))) (by omega)
        · obtain ⟨g3, x3, f3, r3⟩ := mid_chg r hw m2 b2
          rw [x3, zaV_some]
          exact rok_of r3 f3
      have rpre : ∀ g', RI g' σ → ∃ g2, Mid g' g2 σ ∧ RBo g2 251 (mkS σ.s e (nI v)) ∧ zev mX12_mark 0 [.ref 250, .int (nI i), .int (nI j), .int (nI v)] g' = cond (!decide (nI v = 1)) (zaV (zev mX12_changes 0 [.ref 250] g2) fun g12 => some (some (.int (σ.s (20 + e))), g12)) (cond (cdec (MC (XS σ.s) (YS σ.s) (mkS σ.s e (nI v)))) (zaV (zev mX12_laysBack 0 [.ref 250] g2) fun g16 => zaI (zev mX12_finds 0 [.ref 250, .int 4] g16) fun x18 g17 => some (some (.int x18), g17)) (zaV (zev mX12_changes 0 [.ref 250] g2) fun g12 => some (some (.int (σ.s (20 + e))), g12))) := by
        intro g' r
        have rb := rb_s r.1.1 hw.1
        obtain ⟨g2, x2, m2, b2⟩ := mid_aside r
        have bo : RBo (zsI g2 251 (20 + e) (nI v)) 251 (mkS σ.s e (nI v)) := by
          intro k hk
          rw [zI_at]
          by_cases z : k = 20 + e
          · rw [if_pos ⟨rfl, z⟩, z, mkS_e]
          · rw [if_neg (fun w => z w.2), mkS_o z]; exact b2 k hk
        refine ⟨_, mid_I m2 (20 + e) (nI v), bo, ?_⟩
        have rG : RB (zsI g2 251 (20 + e) (nI v)) (nS σ.s) (XS σ.s) (YS σ.s) := by
          refine ⟨hn, ?_, fun k hk => ?_⟩
          · rw [bo 0 (by omega), mkS_o (by omega)]; exact hw.1.1
          · rw [bo _ (by omega), bo _ (by omega), mkS_o (by omega), mkS_o (by omega), (xs_in hk).1, (xs_in hk).2]; exact ⟨rfl, rfl⟩
        rw [uX12_mark_0, r_areTwo rb, zaI_some, q1, r12, zaI_some, x2, zaV_some, r_edge g2 (by omega : i < 9) (by omega : j < 9) nij, zaI_some, ← ee, add20 he, zin_n (by omega : 20 + e < 72) (by omega), r_edge g2 (by omega : i < 9) (by omega : j < 9) nij, zaI_some, ← ee, add20 he, zin_n (by omega : 20 + e < 72) (by omega), nI_clamp (by omega : 20 + e < 2 ^ 31), b2 (20 + e) (by omega), r_mustCross rG hw.1.2.1.2.1 w4 (fun f hf => bo _ (by omega)), zaI_some, bI_0]
        cases decide (nI v = 1) <;> cases cdec (MC (XS σ.s) (YS σ.s) (mkS σ.s e (nI v))) <;> rfl
      by_cases q3 : v = 1
      · subst q3
        have mc : MC (XS σ.s) (YS σ.s) (mkS σ.s e 1) ↔ _ := mark_mc hw.1 he hh
        by_cases q4 : crM (XS σ.s) (YS σ.s) (nS σ.s) e &&& mM σ.s 1 = 0
        · have hc : ¬ MC (XS σ.s) (YS σ.s) (mkS σ.s e (nI 1)) := fun z => mc.mp z q4
          obtain ⟨v', σ', wf', cg, rg⟩ := good hc
          refine ⟨v', σ', wf', ?_, fun g' r => ?_⟩
          · show COk (zev mX11_mark 0 _ g) _ _ _ _
            rw [uX11_mark_0, c_isPair cb, zaI_some, q1, d1, d2, x1, zaV_some, c_edgeOf g1 (by omega : i < 9) (by omega : j < 9) nij, zaI_some, ← ee, zin_n (by omega : e < 36) (by omega), nI_clamp (by omega : e < 2 ^ 31), d217, d46, lN_and, cmp_eq, lN_0 anl, decide_eq_true q4]
            exact cg
          · show ROk (zev mX12_mark 0 _ g') _ _ _
            obtain ⟨g2, m2, b2, e2⟩ := rpre g' r
            rw [e2, cdec_f hc]
            exact rg g' r g2 m2 b2
        · have hc : MC (XS σ.s) (YS σ.s) (mkS σ.s e (nI 1)) := mc.mpr q4
          refine ⟨fI 4, fdn σ 4, wfs_fdn hw 4, ?_, fun g' r => ?_⟩
          · show COk (zev mX11_mark 0 _ g) _ _ _ _
            rw [uX11_mark_0, c_isPair cb, zaI_some, q1, d1, d2, x1, zaV_some, c_edgeOf g1 (by omega : i < 9) (by omega : j < 9) nij, zaI_some, ← ee, zin_n (by omega : e < 36) (by omega), nI_clamp (by omega : e < 2 ^ 31), d217, d46, lN_and, cmp_eq, lN_0 anl, decide_eq_false q4]
            exact cok_le (cok_find (k := 4) ci1 f1 (by omega)) (by omega : t + 1 ≤ t + 2)
          · show ROk (zev mX12_mark 0 _ g') _ _ _
            obtain ⟨g2, m2, b2, e2⟩ := rpre g' r
            obtain ⟨g3, x3, f3, r3⟩ := mid_back r hw m2
            rw [e2, cdec_t hc]
            show ROk (zaV (zev mX12_laysBack 0 [.ref 250] g2) _) _ _ _
            rw [x3, zaV_some]
            exact rok_find (k := 4) r3 hw f3 (by omega)
      · have d3 : decide (nI v = 1) = false := by rw [show (1 : Int32) = nI 1 from rfl, nI_de (by omega) (by omega), decide_eq_false q3]
        have n1 : nI v ≠ 1 := of_decide_eq_false d3
        obtain ⟨v', σ', wf', cg, rg⟩ := good (w6 n1)
        refine ⟨v', σ', wf', ?_, fun g' r => ?_⟩
        · show COk (zev mX11_mark 0 _ g) _ _ _ _
          rw [uX11_mark_0, c_isPair cb, zaI_some, q1, d1, d2, x1, zaV_some, c_edgeOf g1 (by omega : i < 9) (by omega : j < 9) nij, zaI_some, ← ee, d3]
          exact cg
        · show ROk (zev mX12_mark 0 _ g') _ _ _
          obtain ⟨g2, m2, b2, e2⟩ := rpre g' r
          rw [e2, d3]
          exact rg g' r g2 m2 b2
    · exact bad (Or.inr ⟨q1, q2⟩)
