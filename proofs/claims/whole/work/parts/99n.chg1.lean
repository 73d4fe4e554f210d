/-! Calls: undo, step, clear, drop. -/
def undone (σ : zS) : zS := zmk (σ.kp ((σ.fi + (σ.un - 1)) % 40)) σ.kp σ.fi (σ.un - 1) σ.z σ.fd σ.rm σ.row σ.so σ.si σ.ce
theorem wfs_undone {σ : zS} (h : Wfs σ) : Wfs (undone σ) := by
  obtain ⟨w1, w2, w3, w4, w5, w6⟩ := h
  exact ⟨w2 _ (by omega), w2, w3, Nat.le_trans (Nat.sub_le _ _) w4, w5, w6⟩
theorem p_undo : PairC (fun g => zev mX11_undo 0 [.ref 3] g) (fun g => zev mX12_undo 0 [.ref 250] g) := by
  intro σ g t hw h ht
  have w3 := hw.2.2.1
  have w4 := hw.2.2.2.1
  by_cases z : σ.un = 0
  · refine ⟨fI 3, fdn σ 3, wfs_fdn hw 3, ?_, fun g' r => ?_⟩
    · show COk (zev mX11_undo 0 _ g) _ _ _ _
      rw [uX11_undo_0, h.1.2.2.1.2, z]
      exact cok_le (cok_find (k := 3) h (fr_refl _ g) (by omega)) (by omega : t ≤ t + 2)
    · show ROk (zev mX12_undo 0 _ g') _ _ _
      rw [uX12_undo_0, r.1.2.2.1.2, z]
      exact rok_find (k := 3) r hw (fr_refl tR g') (by omega)
  · have zn : decide (nI σ.un = 0) = false := by
      rw [show (0 : Int32) = nI 0 from rfl, nI_de (by omega) (by omega), decide_eq_false z]
    have pr : nI σ.un - 1 = nI (σ.un - 1) := by
      rw [show σ.un = (σ.un - 1) + 1 from by omega, nI_pred]; rfl
    have at40 : (σ.fi + (σ.un - 1)) % 40 < 40 := by omega
    have z2 := zC_kp _ at40
    refine ⟨.int (nI (σ.un - 1)), undone σ, wfs_undone hw, ?_, fun g' r => ?_⟩
    · show COk (zev mX11_undo 0 _ g) _ _ _ _
      obtain ⟨⟨h1, h2, h3, h4, h5, h6, h7⟩, hc⟩ := h
      have nx : nI ((σ.fi + σ.un) % 40) + 40 - 1 - (nI ((σ.fi + σ.un) % 40) + 40 - 1) / 40 * 40 = nI ((σ.fi + (σ.un - 1)) % 40) := by
        have : nI ((σ.fi + σ.un) % 40) + 40 - 1 = nI ((σ.fi + σ.un) % 40 + 39) := by
          rw [show nI ((σ.fi + σ.un) % 40) + 40 = nI ((σ.fi + σ.un) % 40 + 39 + 1) from nI_add _ 40, nI_pred]
        rw [this, mod40 _ (by omega)]
        congr 1
        omega
      obtain ⟨g1, e1, f1, c1⟩ := c_become (g := zsI g 9 1 (nI ((σ.fi + (σ.un - 1)) % 40))) zb_4 (zb_i _ at40) (by omega)
      have n2 : g1.1 9 2 = nI σ.un := by rw [(f1 9 2 (by omega)).1, zI_col _ _ (by decide : (2 : Nat) ≠ 1)]; exact h3.2
      rw [uX11_undo_0, h3.2, zn, uX4_bringBack_0, h3.2, show decide (nI σ.un ≤ 0) = false from decide_eq_false (nI_ge (a := 0) (b := σ.un) (by omega) (by omega)), h3.1, nx, zI_same, zin_n at40 (by omega), nI_clamp (by omega : (σ.fi + (σ.un - 1)) % 40 < 2 ^ 31), e1, zaV_some, n2, pr]
      have sm : ∀ lo hi, ¬ (4 ≤ hi ∧ lo ≤ 9) → Sm lo hi g (zsI g1 9 2 (nI (σ.un - 1))) := fun lo hi hh => sm_tr (fun k j k1 k2 => by
        have := f1 k j (by omega)
        rw [this.1, this.2, zI_at, if_neg (by omega)]
        exact ⟨rfl, rfl⟩) (sm_I g1 _ (by omega))
      show COk (some (some (Value.int ((zsI g1 9 2 (nI (σ.un - 1))).1 9 2)), zsI g1 9 2 (nI (σ.un - 1)))) g _ _ _
      rw [zI_same]
      have ci : CI (zsI g1 9 2 (nI (σ.un - 1))) (undone σ) t := by
        refine ⟨⟨?_, ci_2 h2 (sm _ _ (by omega)), ⟨?_, zI_same _ _ _ _⟩, ci_4 h4 (sm _ _ (by omega)), ci_5 h5 (sm _ _ (by omega)), ci_6 h6 (sm _ _ (by omega)), ci_7 h7 (sm _ _ (by omega))⟩, ci_c hc (sm _ _ (by omega))⟩
        · have := c1 (σ.kp ((σ.fi + (σ.un - 1)) % 40)) (cbo_fr (h2 _ at40) (fun k j k1 k2 => ⟨by rw [zI_at, if_neg (by omega)], rfl⟩))
          exact cbo_fr this (fun k j k1 k2 => ⟨by rw [zI_at, if_neg (by omega)], rfl⟩)
        · rw [zI_col _ _ (by decide : (1 : Nat) ≠ 2), (f1 9 1 (by omega)).1, zI_same]
          rfl
      refine cok_of ci (fun k j hk => ?_) (by omega)
      · have := of_decide_eq_false hk
        rw [zI_at, if_neg (by omega), zI_2, (f1 k j (by omega)).1, (f1 k j (by omega)).2, zI_at, if_neg (by omega)]
        exact ⟨rfl, rfl⟩
    · show ROk (zev mX12_undo 0 _ g') _ _ _
      obtain ⟨⟨h1, h2, h3, h4, h5, h6, h7⟩, hl⟩ := r
      rw [uX12_undo_0, h3.2, zn, pr, zI_same, zI_col _ _ (by decide : (2 : Nat) ≠ 3), h3.1, nI_add, mod40 _ (by omega)]
      have run : ∃ g2, zev mX12_undo 38 [.ref 250, .int (nI ((σ.fi + (σ.un - 1)) % 40)), .int 0] (zsI g' 250 3 (nI (σ.un - 1))) = some (some (.int (nI (σ.un - 1))), g2) ∧ (∀ k j, k ≠ 251 → ¬ (k = 250 ∧ (j = 3 ∨ j = 15)) → g2.1 k j = g'.1 k j) ∧ g2.2 = g'.2 ∧ g2.1 250 3 = nI (σ.un - 1) ∧ g2.1 250 15 = 0 ∧ ∀ k, k < 72 → g2.1 251 k = σ.kp ((σ.fi + (σ.un - 1)) % 40) k := by
        refine zloop (F := fun k g2 => zev mX12_undo 38 [.ref 250, .int (nI ((σ.fi + (σ.un - 1)) % 40)), .int (nI k)] g2) (I := fun k g2 => (∀ k j, k ≠ 251 → ¬ (k = 250 ∧ j = 3) → g2.1 k j = g'.1 k j) ∧ g2.2 = g'.2 ∧ g2.1 250 3 = nI (σ.un - 1) ∧ ∀ l, l < k → g2.1 251 l = σ.kp ((σ.fi + (σ.un - 1)) % 40) l) (Post := fun r => ∃ g2, r = some (some (.int (nI (σ.un - 1))), g2) ∧ (∀ k j, k ≠ 251 → ¬ (k = 250 ∧ (j = 3 ∨ j = 15)) → g2.1 k j = g'.1 k j) ∧ g2.2 = g'.2 ∧ g2.1 250 3 = nI (σ.un - 1) ∧ g2.1 250 15 = 0 ∧ ∀ k, k < 72 → g2.1 251 k = σ.kp ((σ.fi + (σ.un - 1)) % 40) k) (lo := 0) (n := 72) (fun k g1 _ hk I1 => ?_) (fun g1 I1 => ?_) 72 0 _ (Nat.le_refl _) (by omega) ⟨fun k j k1 k2 => by rw [zI_at, if_neg (by omega)], rfl, zI_same _ _ _ _, fun l hl => by omega⟩
        · refine ⟨zsI g1 251 k (σ.kp ((σ.fi + (σ.un - 1)) % 40) k), ?_, fun a b ha hb => ?_, I1.2.1, ?_, fun l hl => ?_⟩
          · rw [uX12_undo_38, show decide (72 ≤ nI k) = false from decide_eq_false (nI_ge (a := k) (b := 72) hk (by omega)), zin_n hk (by omega), zin_n at40 (by omega), nI_clamp (by omega : k < 2 ^ 31), nI_clamp (by omega : (σ.fi + (σ.un - 1)) % 40 < 2 ^ 31)]
            unfold zlen zrd
            rw [z2, I1.1 (253 + (σ.fi + (σ.un - 1)) % 40) k (by omega) (by omega), h2 _ at40 k hk, nI_1]
            show cond (true && zin (nI k) 72) _ _ = _
            rw [zin_n hk (by omega)]
            rfl
          · rw [zI_at, if_neg (by omega)]; exact I1.1 a b ha hb
          · rw [zI_at, if_neg (by omega)]; exact I1.2.2.1
          · rw [zI_at]
            by_cases e : l = k
            · rw [if_pos ⟨rfl, e⟩, e]
            · rw [if_neg (by omega)]; exact I1.2.2.2 l (by omega)
        · refine ⟨zsI g1 250 15 0, ?_, fun k j k1 k2 => ?_, I1.2.1, ?_, zI_same _ _ _ _, fun k hk => ?_⟩
          · rw [uX12_undo_38, zI_col _ _ (by decide : (3 : Nat) ≠ 15), I1.2.2.1]; rfl
          · rw [zI_at, if_neg (by omega)]; exact I1.1 k j k1 (by omega)
          · rw [zI_col _ _ (by decide : (3 : Nat) ≠ 15)]; exact I1.2.2.1
          · rw [zI_at, if_neg (by omega)]; exact I1.2.2.2 k hk
      obtain ⟨g2, e2, f2, b2, u2, l2, v2⟩ := run
      refine ⟨g2, e2, fun k j hk => ?_, ⟨⟨v2, ri_2 h2 (fun k j k1 k2 => ⟨f2 k j (by omega) (by omega), by rw [b2]⟩), ⟨?_, u2⟩, ?_, ri_5 h5 (fun k j k1 k2 => ⟨f2 k j (by omega) (by omega), by rw [b2]⟩), ⟨?_, ri_6 h6.2 hw.2.2.2.2.1 (fun k j k1 k2 => ⟨f2 k j (by omega) (by omega), by rw [b2]⟩)⟩, ri_7 h7 (fun k j k1 k2 => ⟨f2 k j (by omega) (by omega), by rw [b2]⟩)⟩, Or.inl l2⟩⟩
      · have := of_decide_eq_false hk
        exact ⟨f2 k j (by omega) (by omega), by rw [b2]⟩
      · rw [f2 250 2 (by omega) (by omega)]; exact h3.1
      · rw [f2 250 4 (by omega) (by omega)]; exact h4
      · rw [f2 250 24 (by omega) (by omega)]; exact h6.1
/-! boards that are like another -/
theorem wf_like {s s' : Nat → Int32} (h : Wf s) (e : ∀ k, k < 56 → k ≠ 1 → s' k = s k) (hm : ∃ m, m ≤ 8 ∧ s' 1 = nI m) : Wf s' := by
  have n0 : nS s' = nS s := by unfold nS; rw [e 0 (by omega) (by omega)]
  have n9 := wf_n h
  have x0 : XS s' = XS s := by
    funext i
    unfold XS
    rw [n0]
    by_cases q : i < nS s
    · rw [if_pos q, if_pos q, e _ (by omega) (by omega)]
    · rw [if_neg q, if_neg q]
  have y0 : YS s' = YS s := by
    funext i
    unfold YS
    rw [n0]
    by_cases q : i < nS s
    · rw [if_pos q, if_pos q, e _ (by omega) (by omega)]
    · rw [if_neg q, if_neg q]
  obtain ⟨h1, h2, h3, h4, h5⟩ := h
  refine ⟨?_, ?_, fun f hf => ?_, fun f g hf hg q1 q2 => ?_, hm⟩
  · rw [n0, e 0 (by omega) (by omega)]; exact h1
  · rw [n0, x0, y0]; exact h2
  · rw [n0, e _ (by omega) (by omega)]; exact h3 f hf
  · rw [x0, y0]
    rw [e _ (by omega) (by omega)] at q1
    rw [e _ (by omega) (by omega)] at q2
    exact h4 f g hf hg q1 q2
theorem cbo_like {g g' : zIJ} {s s' : Nat → Int32} (h : CBo g 4 s) (e : ∀ k, k < 56 → k ≠ 1 → s' k = s k) (h5 : g'.1 4 5 = s' 1) (h4 : g'.1 4 4 = g.1 4 4) (hx : ∀ i, g'.1 5 i = g.1 5 i ∧ g'.1 6 i = g.1 6 i) (h2 : g'.2 = g.2) (hs : ∀ i, i < 8 → g'.1 7 i = s' (56 + 2 * i) ∧ g'.1 8 i = s' (57 + 2 * i)) : CBo g' 4 s' := by
  have m1 : ∀ v, mM s' v = mM s v := fun v => bit_ext (mM_lt _ _) (mM_lt _ _) (fun i hi => by rw [mM_at hi, mM_at hi, e _ (by omega) (by omega)])
  refine ⟨?_, h5, fun i hi => ⟨?_, ?_⟩, hs, ?_, ?_⟩
  · rw [h4, e 0 (by omega) (by omega)]; exact h.1
  · rw [(hx i).1, e _ (by omega) (by omega)]; exact (h.2.2.1 i hi).1
  · rw [(hx i).2, e _ (by omega) (by omega)]; exact (h.2.2.1 i hi).2
  · rw [h2, m1]; exact h.2.2.2.2.1
  · rw [h2, m1]; exact h.2.2.2.2.2
theorem p_clear : PairC (fun g => zev mX11_clear 0 [.ref 3] g) (fun g => zev mX12_clear 0 [.ref 250] g) := by
  intro σ g t hw h ht
  have e1 : ∀ k, k < 56 → k ≠ 1 → (fun k => if k = 1 then 0 else σ.s k) k = σ.s k := fun k _ hk => if_neg hk
  refine ⟨.int (σ.s 1), pushed σ (fun k => if k = 1 then 0 else σ.s k), wfs_pushed hw (wf_like hw.1 e1 ⟨0, by omega, rfl⟩), ?_, fun g' r => ?_⟩
  · show COk (zev mX11_clear 0 _ g) _ _ _ _
    obtain ⟨g1, x1, f1, c1⟩ := c_keep h hw
    rw [uX11_clear_0, x1, zaV_some, c1.1.1.2.1]
    have cb : CBo (zsI g1 4 5 0) 4 (fun k => if k = 1 then 0 else σ.s k) := by
      refine cbo_like (g' := zsI g1 4 5 0) c1.1.1 e1 (zI_same _ _ _ _) (zI_col _ _ (by decide : (4 : Nat) ≠ 5)) (fun i => ⟨by rw [zI_at, if_neg (by omega)], by rw [zI_at, if_neg (by omega)]⟩) rfl (fun i hi => ⟨?_, ?_⟩)
      · rw [zI_at, if_neg (by omega)]
        show _ = if 56 + 2 * i = 1 then 0 else σ.s (56 + 2 * i)
        rw [if_neg (by omega)]; exact (c1.1.1.2.2.2.1 i hi).1
      · rw [zI_at, if_neg (by omega)]
        show _ = if 57 + 2 * i = 1 then 0 else σ.s (57 + 2 * i)
        rw [if_neg (by omega)]; exact (c1.1.1.2.2.2.1 i hi).2
    exact cok_of (t := t) (ci_s (g' := zsI g1 4 5 0) c1 (fun k j hk => ⟨by rw [zI_at, if_neg (by omega)], rfl⟩) cb) (fr_tr f1 (fr_I g1 0 rfl)) (by omega)
  · show ROk (zev mX12_clear 0 _ g') _ _ _
    obtain ⟨g1, x1, m1, b1⟩ := mid_aside r
    rw [uX12_clear_0, x1, zaV_some, show (1 : Int32).toNatClampNeg = 1 from rfl, b1 1 (by omega)]
    obtain ⟨g2, x2, f2, r2⟩ := mid_chg (s' := fun k => if k = 1 then 0 else σ.s k) r hw (mid_I m1 1 0) (fun k hk => by
      rw [zI_at]
      show _ = if k = 1 then 0 else σ.s k
      by_cases e : k = 1
      · rw [if_pos ⟨rfl, e⟩, if_pos e]
      · rw [if_neg (by omega), if_neg e]; exact b1 k hk)
    rw [x2]
    exact rok_of r2 f2
theorem near_d (a : Int32) (g : zIJ) : zev mX11_isNear 0 [.int a] g = some (some (.int (bI (decide (-99 ≤ a.toInt ∧ a.toInt ≤ 99)))), g) := by
  have e1 : (-99 : Int32).toInt = -99 := rfl
  have e2 : (99 : Int32).toInt = 99 := rfl
  rw [uX11_isNear_0, lt_d, lt_d, e1, e2]
  by_cases q1 : a.toInt < -99
  · rw [decide_eq_true q1, decide_eq_false (show ¬ (-99 ≤ a.toInt ∧ a.toInt ≤ 99) by omega)]; rfl
  · by_cases q2 : 99 < a.toInt
    · rw [decide_eq_false q1, decide_eq_true q2, decide_eq_false (show ¬ (-99 ≤ a.toInt ∧ a.toInt ≤ 99) by omega)]; rfl
    · rw [decide_eq_false q1, decide_eq_false q2, decide_eq_true (show (-99 ≤ a.toInt ∧ a.toInt ≤ 99) by omega)]; rfl
theorem p_step (a b : Int32) : PairC (fun g => zev mX11_step 0 [.ref 3, .int a, .int b] g) (fun g => zev mX12_step 0 [.ref 250, .int a, .int b] g) := by
  intro σ g t hw h ht
  obtain ⟨m, m8, em⟩ := hw.1.2.2.2.2
  have c5 : g.1 4 5 = nI m := h.1.1.2.1.trans em
  have e0 : (0 : Int32).toInt = 0 := rfl
  have e6 : (6 : Int32).toInt = 6 := rfl
  have r1 : ∀ g', RI g' σ → g'.1 251 1 = nI m := fun g' r => (r.1.1 1 (by omega)).trans em
  by_cases q1 : 0 ≤ a.toInt ∧ a.toInt ≤ 6
  · have a0 : decide (a < 0) = false := by rw [lt_d]; exact decide_eq_false (by omega)
    have a6 : decide (6 < a) = false := by rw [lt_d]; exact decide_eq_false (by omega)
    by_cases q2 : -99 ≤ b.toInt ∧ b.toInt ≤ 99
    · by_cases q3 : m = 8
      · refine ⟨fI 1, fdn σ 1, wfs_fdn hw 1, ?_, fun g' r => ?_⟩
        · show COk (zev mX11_step 0 _ g) _ _ _ _
          rw [uX11_step_0, a0, a6, near_d, zaI_some, decide_eq_true q2, c5, q3]
          exact cok_le (cok_find (k := 1) h (fr_refl _ g) (by omega)) (by omega : t ≤ t + 2)
        · show ROk (zev mX12_step 0 _ g') _ _ _
          rw [uX12_step_0, r_inI g' a (lo := 0) (l := 0) (hi := 6) (h := 6) rfl rfl, zaI_some, decide_eq_true q1, r_inI g' b (lo := -99) (l := -99) (hi := 99) (h := 99) rfl rfl, zaI_some, decide_eq_true q2, show (1 : Int32).toNatClampNeg = 1 from rfl, r1 g' r, q3]
          exact rok_find (k := 1) r hw (fr_refl tR g') (by omega)
      · have e1 : ∀ k, k < 56 → k ≠ 1 → (fun k => if k = 1 then nI (m + 1) else if k = 56 + 2 * m then a else if k = 57 + 2 * m then b else σ.s k) k = σ.s k := fun k h1 hk => by
          show (if k = 1 then nI (m + 1) else if k = 56 + 2 * m then a else if k = 57 + 2 * m then b else σ.s k) = _
          rw [if_neg hk, if_neg (by omega), if_neg (by omega)]
        refine ⟨.int (nI (m + 1)), pushed σ (fun k => if k = 1 then nI (m + 1) else if k = 56 + 2 * m then a else if k = 57 + 2 * m then b else σ.s k), wfs_pushed hw (wf_like hw.1 e1 ⟨m + 1, by omega, rfl⟩), ?_, fun g' r => ?_⟩
        · show COk (zev mX11_step 0 _ g) _ _ _ _
          obtain ⟨g1, x1, f1, c1⟩ := c_keep h hw
          have d5 : g1.1 4 5 = nI m := c1.1.1.2.1.trans em
          rw [uX11_step_0, a0, a6, near_d, zaI_some, decide_eq_true q2, c5, show decide (nI m < 8) = true from decide_eq_true (nI_lt (a := m) (b := 8) (by omega) (by omega)), x1, zaV_some, uX0_addStep_0, d5, show decide (8 ≤ nI m) = false from decide_eq_false (nI_ge (a := m) (b := 8) (by omega) (by omega)), zin_n (by omega : m < 8) (by omega), nI_clamp (by omega : m < 2 ^ 31), show (zsI g1 7 m a).1 4 5 = nI m from d5, zin_n (by omega : m < 8) (by omega), nI_clamp (by omega : m < 2 ^ 31), show (zsI (zsI g1 7 m a) 8 m b).1 4 5 = nI m from d5, nI_1]
          show COk (some (some (Value.int ((zsI (zsI (zsI g1 7 m a) 8 m b) 4 5 (nI (m + 1))).1 4 5)), zsI (zsI (zsI g1 7 m a) 8 m b) 4 5 (nI (m + 1)))) g _ _ _
          rw [zI_same]
          have cb : CBo (zsI (zsI (zsI g1 7 m a) 8 m b) 4 5 (nI (m + 1))) 4 (fun k => if k = 1 then nI (m + 1) else if k = 56 + 2 * m then a else if k = 57 + 2 * m then b else σ.s k) := by
            refine cbo_like (g' := zsI (zsI (zsI g1 7 m a) 8 m b) 4 5 (nI (m + 1))) c1.1.1 e1 (zI_same _ _ _ _) ?_ (fun i => ⟨?_, ?_⟩) rfl (fun i hi => ⟨?_, ?_⟩)
            · rw [zI_at, if_neg (by omega), zI_at, if_neg (by omega), zI_at, if_neg (by omega)]
            · rw [zI_at, if_neg (by omega), zI_at, if_neg (by omega), zI_at, if_neg (by omega)]
            · rw [zI_at, if_neg (by omega), zI_at, if_neg (by omega), zI_at, if_neg (by omega)]
            · rw [zI_at, if_neg (by omega), zI_at, if_neg (by omega), zI_at]
              show _ = if 56 + 2 * i = 1 then nI (m + 1) else if 56 + 2 * i = 56 + 2 * m then a else if 56 + 2 * i = 57 + 2 * m then b else σ.s (56 + 2 * i)
              rw [if_neg (by omega : ¬ 56 + 2 * i = 1), if_neg (by omega : ¬ 56 + 2 * i = 57 + 2 * m)]
              by_cases e : i = m
              · rw [if_pos ⟨rfl, e⟩, if_pos (by omega)]
              · rw [if_neg (by omega), if_neg (by omega)]; exact (c1.1.1.2.2.2.1 i hi).1
            · rw [zI_at, if_neg (by omega), zI_at]
              show _ = if 57 + 2 * i = 1 then nI (m + 1) else if 57 + 2 * i = 56 + 2 * m then a else if 57 + 2 * i = 57 + 2 * m then b else σ.s (57 + 2 * i)
              rw [if_neg (by omega : ¬ 57 + 2 * i = 1), if_neg (by omega : ¬ 57 + 2 * i = 56 + 2 * m)]
              by_cases e : i = m
              · rw [if_pos ⟨rfl, e⟩, if_pos (by omega)]
              · rw [if_neg (by omega), if_neg (by omega), zI_at, if_neg (by omega)]; exact (c1.1.1.2.2.2.1 i hi).2
          exact cok_of (t := t) (ci_s (g' := zsI (zsI (zsI g1 7 m a) 8 m b) 4 5 (nI (m + 1))) c1 (fun k j hk => ⟨by rw [zI_at, if_neg (by omega), zI_at, if_neg (by omega), zI_at, if_neg (by omega)], rfl⟩) cb) (fr_tr f1 (fr_tr (fr_tr (fr_I g1 a rfl) (fr_I _ b rfl)) (fr_I _ (nI (m + 1)) rfl))) (by omega)
        · show ROk (zev mX12_step 0 _ g') _ _ _
          obtain ⟨g1, x1, m1, b1⟩ := mid_aside r
          have d1 : g1.1 251 1 = nI m := (b1 1 (by omega)).trans em
          have i56 : (56 : Int32) + 2 * nI m = nI (56 + 2 * m) := by
            show nI 56 + nI 2 * nI m = _
            rw [← nI_add]
            congr 1
            exact (Int32.ofNat_mul 2 m).symm
          have i57 : nI (56 + 2 * m) + 1 = nI (57 + 2 * m) := by rw [nI_1]; congr 1; omega
          rw [uX12_step_0, r_inI g' a (lo := 0) (l := 0) (hi := 6) (h := 6) rfl rfl, zaI_some, decide_eq_true q1, r_inI g' b (lo := -99) (l := -99) (hi := 99) (h := 99) rfl rfl, zaI_some, decide_eq_true q2, show (1 : Int32).toNatClampNeg = 1 from rfl, r1 g' r, show decide (nI m = 8) = false from by rw [show (8 : Int32) = nI 8 from rfl, nI_de (by omega) (by omega), decide_eq_false q3], x1, zaV_some, d1, i56, zin_n (by omega : 56 + 2 * m < 72) (by omega), nI_clamp (by omega : 56 + 2 * m < 2 ^ 31), show (zsI g1 251 (56 + 2 * m) a).1 251 1 = nI m from by rw [zI_at, if_neg (by omega)]; exact d1, i56, i57, zin_n (by omega : 57 + 2 * m < 72) (by omega), nI_clamp (by omega : 57 + 2 * m < 2 ^ 31), show (zsI (zsI g1 251 (56 + 2 * m) a) 251 (57 + 2 * m) b).1 251 1 = nI m from by rw [zI_at, if_neg (by omega), zI_at, if_neg (by omega)]; exact d1, nI_1]
          obtain ⟨g2, x2, f2, r2⟩ := mid_chg (s' := fun k => if k = 1 then nI (m + 1) else if k = 56 + 2 * m then a else if k = 57 + 2 * m then b else σ.s k) r hw (mid_I (mid_I (mid_I m1 (56 + 2 * m) a) (57 + 2 * m) b) 1 (nI (m + 1))) (fun k hk => by
            rw [zI_at, zI_at, zI_at]
            show _ = if k = 1 then nI (m + 1) else if k = 56 + 2 * m then a else if k = 57 + 2 * m then b else σ.s k
            by_cases z1 : k = 1
            · rw [if_pos ⟨rfl, z1⟩, if_pos z1]
            · rw [if_neg (by omega), if_neg z1]
              by_cases z2 : k = 57 + 2 * m
              · rw [if_pos ⟨rfl, z2⟩, if_neg (by omega), if_pos z2]
              · rw [if_neg (by omega), if_neg z2]
                by_cases z3 : k = 56 + 2 * m
                · rw [if_pos ⟨rfl, z3⟩, if_pos z3]
                · rw [if_neg (by omega), if_neg z3]; exact b1 k hk)
          rw [x2]
          show ROk (some (some (Value.int (g2.1 251 1)), g2)) _ _ _
          rw [show g2.1 251 1 = nI (m + 1) from r2.1.1 1 (by omega)]
          exact rok_of r2 f2
    · refine ⟨fI 0, fdn σ 0, wfs_fdn hw 0, ?_, fun g' r => ?_⟩
      · show COk (zev mX11_step 0 _ g) _ _ _ _
        rw [uX11_step_0, a0, a6, near_d, zaI_some, decide_eq_false q2]
        exact cok_le (cok_find (k := 0) h (fr_refl _ g) (by omega)) (by omega : t ≤ t + 2)
      · show ROk (zev mX12_step 0 _ g') _ _ _
        rw [uX12_step_0, r_inI g' a (lo := 0) (l := 0) (hi := 6) (h := 6) rfl rfl, zaI_some, decide_eq_true q1, r_inI g' b (lo := -99) (l := -99) (hi := 99) (h := 99) rfl rfl, zaI_some, decide_eq_false q2]
        exact rok_find (k := 0) r hw (fr_refl tR g') (by omega)
  · refine ⟨fI 0, fdn σ 0, wfs_fdn hw 0, ?_, fun g' r => ?_⟩
    · show COk (zev mX11_step 0 _ g) _ _ _ _
      have fd := cok_le (cok_find (k := 0) h (fr_refl _ g) (by omega)) (by omega : t ≤ t + 2)
      rw [uX11_step_0, lt_d a 0, lt_d 6 a, e0, e6]
      by_cases z : a.toInt < 0
      · rw [decide_eq_true z]; exact fd
      · rw [decide_eq_false z, decide_eq_true (show 6 < a.toInt by omega)]; exact fd
    · show ROk (zev mX12_step 0 _ g') _ _ _
      rw [uX12_step_0, r_inI g' a (lo := 0) (l := 0) (hi := 6) (h := 6) rfl rfl, zaI_some, decide_eq_false q1]
      exact rok_find (k := 0) r hw (fr_refl tR g') (by omega)
