/-! What is kept, and brought back: keep, changes, undo; step, clear. -/
def ZB (o : Nat) : Prop := (zC o).1 = 0 ∧ zRf o 0 = o + 1 ∧ zRf o 1 = o + 2 ∧ zRf o 2 = o + 3 ∧ zRf o 3 = o + 4 ∧ zC (o + 1) = (100, 9) ∧ zC (o + 2) = (100, 9) ∧ zC (o + 3) = (100, 8) ∧ zC (o + 4) = (100, 8)
theorem zb_4 : ZB 4 := by unfold ZB; decide +kernel
theorem zb_i : ∀ i, i < 40 → ZB (11 + 5 * i) := by unfold ZB; decide +kernel
theorem cp_ex (g : zIJ) (a d n : Nat) : (∀ k j, k ≠ d → (zcpI g a 0 d 0 n).1 k j = g.1 k j) ∧ (zcpI g a 0 d 0 n).2 = g.2 ∧ ∀ i, i < n → (zcpI g a 0 d 0 n).1 d i = g.1 a i := by
  refine ⟨fun k j hk => by rw [cpI_oth _ _ _ _ _ _ hk], rfl, fun i hi => ?_⟩
  rw [cpI_row, if_pos (by omega), show 0 + (i - 0) = i from by omega]
theorem c_become {g : zIJ} {o p : Nat} (zo : ZB o) (zp : ZB p) (ho : o + 4 < p ∨ p + 4 < o) : ∃ g', zev mX0_become 0 [.ref o, .ref p] g = some (none, g') ∧ (∀ k j, (k < o ∨ o + 4 < k) → g'.1 k j = g.1 k j ∧ g'.2 k j = g.2 k j) ∧ ∀ s, CBo g p s → CBo g' o s := by
  obtain ⟨o0, o1, o2, o3, o4, o5, o6, o7, o8⟩ := zo
  obtain ⟨p0, p1, p2, p3, p4, p5, p6, p7, p8⟩ := zp
  obtain ⟨g1, x1, f1, b1, v1⟩ : ∃ g1, zev mX0_become 0 [.ref o, .ref p] g = zev mX0_become 15 [.ref o, .ref p] g1 ∧ (∀ k j, k ≠ o + 1 → g1.1 k j = g.1 k j) ∧ g1.2 = g.2 ∧ ∀ i, i < 9 → g1.1 (o + 1) i = g.1 (p + 1) i := ⟨zcpI g (p + 1) 0 (o + 1) 0 9, by rw [uX0_become_0, p0, o0, p1, o1, p5, o5]; rfl, cp_ex g (p + 1) (o + 1) 9⟩
  obtain ⟨g2, x2, f2, b2, v2⟩ : ∃ g2, zev mX0_become 15 [.ref o, .ref p] g1 = zev mX0_become 30 [.ref o, .ref p] g2 ∧ (∀ k j, k ≠ o + 2 → g2.1 k j = g1.1 k j) ∧ g2.2 = g1.2 ∧ ∀ i, i < 9 → g2.1 (o + 2) i = g1.1 (p + 2) i := ⟨zcpI g1 (p + 2) 0 (o + 2) 0 9, by rw [uX0_become_15, p0, o0, p2, o2, p6, o6]; rfl, cp_ex g1 (p + 2) (o + 2) 9⟩
  obtain ⟨g3, x3, f3, b3, v3⟩ : ∃ g3, zev mX0_become 30 [.ref o, .ref p] g2 = zev mX0_become 45 [.ref o, .ref p] g3 ∧ (∀ k j, k ≠ o + 3 → g3.1 k j = g2.1 k j) ∧ g3.2 = g2.2 ∧ ∀ i, i < 8 → g3.1 (o + 3) i = g2.1 (p + 3) i := ⟨zcpI g2 (p + 3) 0 (o + 3) 0 8, by rw [uX0_become_30, p0, o0, p3, o3, p7, o7]; rfl, cp_ex g2 (p + 3) (o + 3) 8⟩
  obtain ⟨g4, x4, f4, b4, v4⟩ : ∃ g4, zev mX0_become 45 [.ref o, .ref p] g3 = zev mX0_become 60 [.ref o, .ref p] g4 ∧ (∀ k j, k ≠ o + 4 → g4.1 k j = g3.1 k j) ∧ g4.2 = g3.2 ∧ ∀ i, i < 8 → g4.1 (o + 4) i = g3.1 (p + 4) i := ⟨zcpI g3 (p + 4) 0 (o + 4) 0 8, by rw [uX0_become_45, p0, o0, p4, o4, p8, o8]; rfl, cp_ex g3 (p + 4) (o + 4) 8⟩
  have x5 : zev mX0_become 60 [.ref o, .ref p] g4 = zev mX0_become 68 [.ref o, .ref p] (zsI g4 o 4 (g4.1 p 4)) := by rw [uX0_become_60, p0, o0]; rfl
  have x6 : ∀ g, zev mX0_become 68 [.ref o, .ref p] g = zev mX0_become 76 [.ref o, .ref p] (zsI g o 5 (g.1 p 5)) := fun g => by rw [uX0_become_68, p0, o0]; rfl
  have x7 : ∀ g, zev mX0_become 76 [.ref o, .ref p] g = zev mX0_become 84 [.ref o, .ref p] (zsL g o 6 (g.2 p 6)) := fun g => by rw [uX0_become_76, p0, o0]; rfl
  have x8 : ∀ g, zev mX0_become 84 [.ref o, .ref p] g = some (none, zsL g o 7 (g.2 p 7)) := fun g => by rw [uX0_become_84, p0, o0, uX0_become_92]; rfl
  rw [x1, x2, x3, x4, x5, x6, x7, x8]
  have bb : g4.2 = g.2 := by rw [b4, b3, b2, b1]
  have ff : ∀ k j, (k ≤ o ∨ o + 4 < k) → g4.1 k j = g.1 k j := fun k j hk => by rw [f4 k j (by omega), f3 k j (by omega), f2 k j (by omega), f1 k j (by omega)]
  refine ⟨_, rfl, fun k j hk => ⟨?_, ?_⟩, fun s h => ⟨?_, ?_, fun i hi => ⟨?_, ?_⟩, fun i hi => ⟨?_, ?_⟩, ?_, ?_⟩⟩
  · rw [zL_1, zL_1, zI_at, if_neg (by omega), zI_at, if_neg (by omega), ff k j (by omega)]
  · rw [zL_at, if_neg (by omega), zL_at, if_neg (by omega), zI_2, zI_2, bb]
  · rw [zL_1, zL_1, zI_at, if_neg (by omega), zI_at, if_pos ⟨rfl, rfl⟩, ff p 4 (by omega)]; exact h.1
  · rw [zL_1, zL_1, zI_at, if_pos ⟨rfl, rfl⟩, zI_at, if_neg (by omega), ff p 5 (by omega)]; exact h.2.1
  · rw [zL_1, zL_1, zI_at, if_neg (by omega), zI_at, if_neg (by omega), f4 _ _ (by omega), f3 _ _ (by omega), f2 _ _ (by omega), v1 i hi]; exact (h.2.2.1 i hi).1
  · rw [zL_1, zL_1, zI_at, if_neg (by omega), zI_at, if_neg (by omega), f4 _ _ (by omega), f3 _ _ (by omega), v2 i hi, f1 _ _ (by omega)]; exact (h.2.2.1 i hi).2
  · rw [zL_1, zL_1, zI_at, if_neg (by omega), zI_at, if_neg (by omega), f4 _ _ (by omega), v3 i hi, f2 _ _ (by omega), f1 _ _ (by omega)]; exact (h.2.2.2.1 i hi).1
  · rw [zL_1, zL_1, zI_at, if_neg (by omega), zI_at, if_neg (by omega), v4 i hi, f3 _ _ (by omega), f2 _ _ (by omega), f1 _ _ (by omega)]; exact (h.2.2.2.1 i hi).2
  · rw [zL_at, if_neg (by omega), zL_at, if_pos ⟨rfl, rfl⟩, zI_2, zI_2, bb]; exact h.2.2.2.2.1
  · rw [zL_at, if_pos ⟨rfl, rfl⟩, zL_at, if_neg (by omega), zI_2, zI_2, bb]; exact h.2.2.2.2.2
theorem mod40 : ∀ x, x < 200 → nI x - nI x / 40 * 40 = nI (x % 40) := by decide +kernel
/-- the state after a change to s' -/
def pushed (σ : zS) (s' : Nat → Int32) : zS := zmk s' (fun i => if i = (σ.fi + σ.un) % 40 then σ.s else σ.kp i) (if σ.un = 40 then (σ.fi + 1) % 40 else σ.fi) (if σ.un = 40 then 40 else σ.un + 1) σ.z σ.fd σ.rm σ.row σ.so σ.si σ.ce
theorem wfs_pushed {σ : zS} (h : Wfs σ) {s' : Nat → Int32} (hs : Wf s') : Wfs (pushed σ s') := by
  obtain ⟨w1, w2, w3, w4, w5, w6⟩ := h
  refine ⟨hs, fun i hi => ?_, ?_, ?_, w5, w6⟩
  · show Wf (if i = (σ.fi + σ.un) % 40 then σ.s else σ.kp i)
    by_cases e : i = (σ.fi + σ.un) % 40
    · rw [if_pos e]; exact w1
    · rw [if_neg e]; exact w2 i hi
  · show (if σ.un = 40 then (σ.fi + 1) % 40 else σ.fi) < 40
    by_cases e : σ.un = 40
    · rw [if_pos e]; omega
    · rw [if_neg e]; exact w3
  · show (if σ.un = 40 then 40 else σ.un + 1) ≤ 40
    by_cases e : σ.un = 40
    · rw [if_pos e]; omega
    · rw [if_neg e]; omega
theorem c_keep {g : zIJ} {σ : zS} {t : Nat} (h : CI g σ t) (hw : Wfs σ) : ∃ g', zev mX4_keep 0 [.ref 9, .ref 4] g = some (none, g') ∧ zFr tC g g' ∧ CI g' (pushed σ σ.s) t := by
  obtain ⟨⟨h1, h2, h3, h4, h5, h6, h7⟩, hc⟩ := h
  have w3 := hw.2.2.1
  have w4 := hw.2.2.2.1
  have at40 : (σ.fi + σ.un) % 40 < 40 := by omega
  obtain ⟨g1, e1, f1, c1⟩ := c_become (g := g) (zb_i _ at40) zb_4 (by omega)
  have n1 : g1.1 9 1 = nI ((σ.fi + σ.un) % 40) := by rw [(f1 9 1 (by omega)).1]; exact h3.1
  have n2 : g1.1 9 2 = nI σ.un := by rw [(f1 9 2 (by omega)).1]; exact h3.2
  have mn : zmnI (nI σ.un + 1) 40 = nI (if σ.un = 40 then 40 else σ.un + 1) := by
    rw [nI_1]
    unfold zmnI
    by_cases e : σ.un = 40
    · rw [e, if_pos (by decide), if_pos rfl]; rfl
    · rw [if_neg e, if_neg]
      intro k
      rw [Int32.lt_iff_toInt_lt, nI_toInt (by omega : σ.un + 1 < 2 ^ 31)] at k
      have : (40 : Int32).toInt = 40 := rfl
      omega
  have sm : ∀ lo hi, (hi < 9 ∨ 210 < lo) → Sm lo hi g (zsI (zsI g1 9 1 (nI (((σ.fi + σ.un) % 40 + 1) % 40))) 9 2 (nI (if σ.un = 40 then 40 else σ.un + 1))) := fun lo hi hh => sm_tr (sm_tr (fun k j k1 k2 => f1 k j (by omega)) (sm_I g1 _ (by omega))) (sm_I _ _ (by omega))
  refine ⟨zsI (zsI g1 9 1 (nI (((σ.fi + σ.un) % 40 + 1) % 40))) 9 2 (nI (if σ.un = 40 then 40 else σ.un + 1)), ?_, ?_, ⟨ci_1 h1 (sm _ _ (by omega)), fun i hi => ?_, ⟨?_, ?_⟩, ci_4 h4 (sm _ _ (by omega)), ci_5 h5 (sm _ _ (by omega)), ci_6 h6 (sm _ _ (by omega)), ci_7 h7 (sm _ _ (by omega))⟩, ci_c hc (sm _ _ (by omega))⟩
  · rw [uX4_keep_0, h3.1, zin_n at40 (by omega), nI_clamp (by omega : (σ.fi + σ.un) % 40 < 2 ^ 31), (zb_i _ at40).1, e1, zaV_some, n1, nI_1, mod40 _ (by omega), zI_col _ _ (by decide : (2 : Nat) ≠ 1), n2, mn]
    rfl
  · refine fr_tr (fr_tr (fun k j hk => f1 k j ?_) (fr_I g1 _ rfl)) (fr_I _ _ rfl)
    have := of_decide_eq_false hk
    omega
  · have sm2 : ∀ k j, k ≠ 9 → (zsI (zsI g1 9 1 (nI (((σ.fi + σ.un) % 40 + 1) % 40))) 9 2 (nI (if σ.un = 40 then 40 else σ.un + 1))).1 k j = g1.1 k j ∧ (zsI (zsI g1 9 1 (nI (((σ.fi + σ.un) % 40 + 1) % 40))) 9 2 (nI (if σ.un = 40 then 40 else σ.un + 1))).2 k j = g1.2 k j := fun k j hk => ⟨by rw [zI_at, if_neg (by omega), zI_at, if_neg (by omega)], rfl⟩
    show CBo _ (11 + 5 * i) (if i = (σ.fi + σ.un) % 40 then σ.s else σ.kp i)
    by_cases e : i = (σ.fi + σ.un) % 40
    · rw [if_pos e]
      have := c1 σ.s h1
      rw [← e] at this
      exact cbo_fr this (fun k j k1 k2 => sm2 k j (by omega))
    · rw [if_neg e]
      refine cbo_fr (h2 i hi) (fun k j k1 k2 => ?_)
      rw [(sm2 k j (by omega)).1, (sm2 k j (by omega)).2]
      exact f1 k j (by omega)
  · rw [zI_col _ _ (by decide : (1 : Nat) ≠ 2), zI_same]
    show _ = nI (((if σ.un = 40 then (σ.fi + 1) % 40 else σ.fi) + (if σ.un = 40 then 40 else σ.un + 1)) % 40)
    congr 1
    by_cases e : σ.un = 40
    · rw [if_pos e, if_pos e]; omega
    · rw [if_neg e, if_neg e]; omega
  · rw [zI_same]; rfl
def sets (σ : zS) (s' : Nat → Int32) : zS := zmk s' σ.kp σ.fi σ.un σ.z σ.fd σ.rm σ.row σ.so σ.si σ.ce
theorem ci_s {g g' : zIJ} {σ : zS} {t : Nat} {s' : Nat → Int32} (h : CI g σ t) (f : ∀ k j, (k < 4 ∨ 8 < k) → g'.1 k j = g.1 k j ∧ g'.2 k j = g.2 k j) (hb : CBo g' 4 s') : CI g' (sets σ s') t := by
  obtain ⟨⟨h1, h2, h3, h4, h5, h6, h7⟩, hc⟩ := h
  exact ⟨⟨hb, ci_2 h2 (fun k j k1 k2 => f k j (by omega)), ci_3 h3 (fun k j k1 k2 => f k j (by omega)), ci_4 h4 (fun k j k1 k2 => f k j (by omega)), ci_5 h5 (fun k j k1 k2 => f k j (by omega)), ci_6 h6 (fun k j k1 k2 => f k j (by omega)), ci_7 h7 (fun k j k1 k2 => f k j (by omega))⟩, ci_c hc (fun k j k1 k2 => f k j (by omega))⟩
/-! the reference -/
theorem r_aside (g : zIJ) : ∃ g', zev mX12_laysAside 0 [.ref 250] g = some (none, g') ∧ (∀ k j, k ≠ 295 → g'.1 k j = g.1 k j) ∧ g'.2 = g.2 ∧ ∀ k, k < 72 → g'.1 295 k = g.1 251 k := by
  rw [uX12_laysAside_0]
  refine zloop (F := fun k g' => zev mX12_laysAside 2 [.ref 250, .int (nI k)] g') (I := fun k g' => (∀ k j, k ≠ 295 → g'.1 k j = g.1 k j) ∧ g'.2 = g.2 ∧ ∀ l, l < k → g'.1 295 l = g.1 251 l) (Post := fun r => ∃ g', r = some (none, g') ∧ (∀ k j, k ≠ 295 → g'.1 k j = g.1 k j) ∧ g'.2 = g.2 ∧ ∀ k, k < 72 → g'.1 295 k = g.1 251 k) (lo := 0) (n := 72) (fun k g1 _ hk I1 => ?_) (fun g1 I1 => ?_) 72 0 g (Nat.le_refl _) (by omega) ⟨fun _ _ _ => rfl, rfl, fun l hl => by omega⟩
  · refine ⟨zsI g1 295 k (g.1 251 k), ?_, fun a b ha => ?_, I1.2.1, fun l hl => ?_⟩
    · rw [uX12_laysAside_2, show decide (72 ≤ nI k) = false from decide_eq_false (nI_ge (a := k) (b := 72) hk (by omega)), zin_n hk (by omega), nI_clamp (by omega : k < 2 ^ 31), I1.1 251 k (by omega), nI_1]
      rfl
    · rw [zI_at, if_neg (by omega)]; exact I1.1 a b ha
    · rw [zI_at]
      by_cases e : l = k
      · rw [if_pos ⟨rfl, e⟩, e]
      · rw [if_neg (by omega)]; exact I1.2.2 l (by omega)
  · exact ⟨g1, by rw [uX12_laysAside_2]; rfl, I1⟩
theorem r_back (g : zIJ) : ∃ g', zev mX12_laysBack 0 [.ref 250] g = some (none, g') ∧ (∀ k j, k ≠ 251 → g'.1 k j = g.1 k j) ∧ g'.2 = g.2 ∧ ∀ k, k < 72 → g'.1 251 k = g.1 295 k := by
  rw [uX12_laysBack_0]
  refine zloop (F := fun k g' => zev mX12_laysBack 2 [.ref 250, .int (nI k)] g') (I := fun k g' => (∀ k j, k ≠ 251 → g'.1 k j = g.1 k j) ∧ g'.2 = g.2 ∧ ∀ l, l < k → g'.1 251 l = g.1 295 l) (Post := fun r => ∃ g', r = some (none, g') ∧ (∀ k j, k ≠ 251 → g'.1 k j = g.1 k j) ∧ g'.2 = g.2 ∧ ∀ k, k < 72 → g'.1 251 k = g.1 295 k) (lo := 0) (n := 72) (fun k g1 _ hk I1 => ?_) (fun g1 I1 => ?_) 72 0 g (Nat.le_refl _) (by omega) ⟨fun _ _ _ => rfl, rfl, fun l hl => by omega⟩
  · refine ⟨zsI g1 251 k (g.1 295 k), ?_, fun a b ha => ?_, I1.2.1, fun l hl => ?_⟩
    · rw [uX12_laysBack_2, show decide (72 ≤ nI k) = false from decide_eq_false (nI_ge (a := k) (b := 72) hk (by omega)), zin_n hk (by omega), nI_clamp (by omega : k < 2 ^ 31), I1.1 295 k (by omega), nI_1]
      rfl
    · rw [zI_at, if_neg (by omega)]; exact I1.1 a b ha
    · rw [zI_at]
      by_cases e : l = k
      · rw [if_pos ⟨rfl, e⟩, e]
      · rw [if_neg (by omega)]; exact I1.2.2 l (by omega)
  · exact ⟨g1, by rw [uX12_laysBack_2]; rfl, I1⟩
theorem zC_kp : ∀ i, i < 40 → zC (253 + i) = (100, 72) := by decide +kernel
/-- between laying aside and the end: the board alone is touched -/
def Mid (g g2 : zIJ) (σ : zS) : Prop := (∀ k j, k ≠ 251 → k ≠ 295 → g2.1 k j = g.1 k j) ∧ g2.2 = g.2 ∧ ∀ k, k < 72 → g2.1 295 k = σ.s k
theorem mid_aside {g : zIJ} {σ : zS} (h : RI g σ) : ∃ g', zev mX12_laysAside 0 [.ref 250] g = some (none, g') ∧ Mid g g' σ ∧ RBo g' 251 σ.s := by
  obtain ⟨g', e, f, b, v⟩ := r_aside g
  exact ⟨g', e, ⟨fun k j _ hk => f k j hk, b, fun k hk => (v k hk).trans (h.1.1 k hk)⟩, fun k hk => by rw [f 251 k (by omega)]; exact h.1.1 k hk⟩
theorem mid_I {g g2 : zIJ} {σ : zS} (h : Mid g g2 σ) (j : Nat) (x : Int32) : Mid g (zsI g2 251 j x) σ := ⟨fun k i h1 h2 => by rw [zI_at, if_neg (by omega)]; exact h.1 k i h1 h2, h.2.1, fun k hk => by rw [zI_at, if_neg (by omega)]; exact h.2.2 k hk⟩
theorem mid_back {g g2 : zIJ} {σ : zS} (h : RI g σ) (hw : Wfs σ) (m : Mid g g2 σ) : ∃ g', zev mX12_laysBack 0 [.ref 250] g2 = some (none, g') ∧ zFr tR g g' ∧ RI g' σ := by
  obtain ⟨g', e, f, b, v⟩ := r_back g2
  have ff : ∀ k j, k ≠ 251 → k ≠ 295 → g'.1 k j = g.1 k j ∧ g'.2 k j = g.2 k j := fun k j h1 h2 => ⟨by rw [f k j h1, m.1 k j h1 h2], by rw [b, m.2.1]⟩
  have f251 : ∀ k, k < 72 → g'.1 251 k = g.1 251 k := fun k hk => by rw [v k hk, m.2.2 k hk, h.1.1 k hk]
  refine ⟨g', e, fun k j hk => ff k j (by have := of_decide_eq_false hk; omega) (by have := of_decide_eq_false hk; omega), ?_⟩
  obtain ⟨⟨h1, h2, h3, h4, h5, h6, h7⟩, hl⟩ := h
  refine ⟨⟨fun k hk => by rw [f251 k hk]; exact h1 k hk, ri_2 h2 (fun k j k1 k2 => ff k j (by omega) (by omega)), ⟨?_, ?_⟩, ?_, ri_5 h5 (fun k j k1 k2 => ff k j (by omega) (by omega)), ⟨?_, ri_6 h6.2 hw.2.2.2.2.1 (fun k j k1 k2 => ff k j (by omega) (by omega))⟩, ri_7 h7 (fun k j k1 k2 => ff k j (by omega) (by omega))⟩, ?_⟩
  · rw [(ff _ _ (by omega) (by omega)).1]; exact h3.1
  · rw [(ff _ _ (by omega) (by omega)).1]; exact h3.2
  · rw [(ff _ _ (by omega) (by omega)).1]; exact h4
  · rw [(ff _ _ (by omega) (by omega)).1]; exact h6.1
  · rw [(ff 250 15 (by omega) (by omega)).1]
    rcases hl with k | ⟨k, l⟩
    · exact Or.inl k
    · exact Or.inr ⟨k, rld_fr l (ff _ _ (by omega) (by omega)).1 (funext fun j => (ff _ _ (by omega) (by omega)).2)⟩
theorem mid_chg {g g2 : zIJ} {σ : zS} {s' : Nat → Int32} (h : RI g σ) (hw : Wfs σ) (m : Mid g g2 σ) (hb : RBo g2 251 s') : ∃ g', zev mX12_changes 0 [.ref 250] g2 = some (none, g') ∧ zFr tR g g' ∧ RI g' (pushed σ s') := by
  have w3 := hw.2.2.1
  have w4 := hw.2.2.2.1
  have at40 : (σ.fi + σ.un) % 40 < 40 := by omega
  have n2 : g2.1 250 2 = nI σ.fi := by rw [m.1 _ _ (by omega) (by omega)]; exact h.1.2.2.1.1
  have n3 : g2.1 250 3 = nI σ.un := by rw [m.1 _ _ (by omega) (by omega)]; exact h.1.2.2.1.2
  have z := zC_kp _ at40
  have loop : ∀ g3, (∀ k, k < 72 → g3.1 295 k = σ.s k) → ∃ g', zev mX12_changes 50 [.ref 250, .int (nI ((σ.fi + σ.un) % 40)), .int 0] g3 = some (none, zsI g' 250 15 0) ∧ (∀ k j, k ≠ 253 + (σ.fi + σ.un) % 40 → g'.1 k j = g3.1 k j) ∧ g'.2 = g3.2 ∧ ∀ k, k < 72 → g'.1 (253 + (σ.fi + σ.un) % 40) k = σ.s k := by
    intro g3 hv
    refine zloop (F := fun k g' => zev mX12_changes 50 [.ref 250, .int (nI ((σ.fi + σ.un) % 40)), .int (nI k)] g') (I := fun k g' => (∀ k j, k ≠ 253 + (σ.fi + σ.un) % 40 → g'.1 k j = g3.1 k j) ∧ g'.2 = g3.2 ∧ ∀ l, l < k → g'.1 (253 + (σ.fi + σ.un) % 40) l = σ.s l) (Post := fun r => ∃ g', r = some (none, zsI g' 250 15 0) ∧ (∀ k j, k ≠ 253 + (σ.fi + σ.un) % 40 → g'.1 k j = g3.1 k j) ∧ g'.2 = g3.2 ∧ ∀ k, k < 72 → g'.1 (253 + (σ.fi + σ.un) % 40) k = σ.s k) (lo := 0) (n := 72) (fun k g1 _ hk I1 => ?_) (fun g1 I1 => ?_) 72 0 g3 (Nat.le_refl _) (by omega) ⟨fun _ _ _ => rfl, rfl, fun l hl => by omega⟩
    · refine ⟨zsI g1 (253 + (σ.fi + σ.un) % 40) k (σ.s k), ?_, fun a b ha => ?_, I1.2.1, fun l hl => ?_⟩
      · rw [uX12_changes_50, show decide (72 ≤ nI k) = false from decide_eq_false (nI_ge (a := k) (b := 72) hk (by omega)), zin_n hk (by omega), zin_n at40 (by omega), nI_clamp (by omega : k < 2 ^ 31), nI_clamp (by omega : (σ.fi + σ.un) % 40 < 2 ^ 31), z, I1.1 295 k (by omega), hv k hk, nI_1]
        show cond (true && zin (nI k) 72) _ _ = _
        rw [zin_n hk (by omega)]
        rfl
      · rw [zI_at, if_neg (by omega)]; exact I1.1 a b ha
      · rw [zI_at]
        by_cases e : l = k
        · rw [if_pos ⟨rfl, e⟩, e]
        · rw [if_neg (by omega)]; exact I1.2.2 l (by omega)
    · exact ⟨g1, by rw [uX12_changes_50]; rfl, I1⟩
  have fin : ∀ g3, (∀ k j, ¬ (k = 250 ∧ (j = 2 ∨ j = 3)) → g3.1 k j = g2.1 k j) → g3.2 = g2.2 → g3.1 250 2 = nI (if σ.un = 40 then (σ.fi + 1) % 40 else σ.fi) → g3.1 250 3 = nI (if σ.un = 40 then 40 else σ.un + 1) → ∃ g', zev mX12_changes 50 [.ref 250, .int (nI ((σ.fi + σ.un) % 40)), .int 0] g3 = some (none, g') ∧ zFr tR g g' ∧ RI g' (pushed σ s') := by
    intro g3 k1 k2 k3 k4
    obtain ⟨g', e, f, b, v⟩ := loop g3 (fun k hk => by rw [k1 _ _ (by omega)]; exact m.2.2 k hk)
    obtain ⟨⟨h1, h2, h3, h4, h5, h6, h7⟩, hl⟩ := h
    have ff : ∀ k j, k ≠ 251 → k ≠ 295 → k ≠ 253 + (σ.fi + σ.un) % 40 → k ≠ 250 → (zsI g' 250 15 0).1 k j = g.1 k j ∧ (zsI g' 250 15 0).2 k j = g.2 k j := fun k j q1 q2 q3 q4 => ⟨by rw [zI_at, if_neg (by omega), f k j q3, k1 k j (by omega), m.1 k j q1 q2], by rw [zI_2, b, k2, m.2.1]⟩
    have f250 : ∀ j, j ≠ 2 → j ≠ 3 → j ≠ 15 → (zsI g' 250 15 0).1 250 j = g.1 250 j := fun j q1 q2 q3 => by rw [zI_at, if_neg (by omega), f 250 j (by omega), k1 250 j (by omega), m.1 250 j (by omega) (by omega)]
    refine ⟨_, e, fun k j hk => ?_, ⟨⟨fun k hk => ?_, fun i hi k hk => ?_, ⟨?_, ?_⟩, ?_, ri_5 h5 (fun k j q1 q2 => ff k j (by omega) (by omega) (by omega) (by omega)), ⟨?_, ri_6 h6.2 hw.2.2.2.2.1 (fun k j q1 q2 => ff k j (by omega) (by omega) (by omega) (by omega))⟩, ri_7 h7 (fun k j q1 q2 => ff k j (by omega) (by omega) (by omega) (by omega))⟩, Or.inl (zI_same _ _ _ _)⟩⟩
    · have := of_decide_eq_false hk
      exact ff k j (by omega) (by omega) (by omega) (by omega)
    · rw [zI_at, if_neg (by omega), f 251 k (by omega), k1 251 k (by omega)]; exact hb k hk
    · show _ = (if i = (σ.fi + σ.un) % 40 then σ.s else σ.kp i) k
      by_cases e : i = (σ.fi + σ.un) % 40
      · rw [if_pos e, zI_at, if_neg (by omega), e]; exact v k hk
      · rw [if_neg e, (ff (253 + i) k (by omega) (by omega) (by omega) (by omega)).1]; exact h2 i hi k hk
    · rw [zI_at, if_neg (by omega), f 250 2 (by omega), k3]; rfl
    · rw [zI_at, if_neg (by omega), f 250 3 (by omega), k4]; rfl
    · rw [f250 4 (by omega) (by omega) (by omega)]; exact h4
    · rw [f250 24 (by omega) (by omega) (by omega)]; exact h6.1
  rw [uX12_changes_0, n2, n3, nI_add, mod40 _ (by omega), show (40 : Int32) = nI 40 from rfl, nI_de (by omega) (by omega)]
  by_cases e : σ.un = 40
  · rw [decide_eq_true e]
    show ∃ g', zev mX12_changes 50 [.ref 250, .int (nI ((σ.fi + σ.un) % 40)), .int 0] (zsI g2 250 2 (nI σ.fi + 1 - (nI σ.fi + 1) / 40 * 40)) = some (none, g') ∧ zFr tR g g' ∧ RI g' (pushed σ s')
    rw [nI_1, mod40 _ (by omega)]
    refine fin _ (fun k j hk => by rw [zI_at, if_neg (by omega)]) rfl ?_ ?_
    · rw [zI_same, if_pos e]
    · rw [zI_col _ _ (by decide : (3 : Nat) ≠ 2), n3, if_pos e, e]
  · rw [decide_eq_false e, nI_1]
    refine fin _ (fun k j hk => by rw [zI_at, if_neg (by omega)]) rfl ?_ ?_
    · rw [zI_col _ _ (by decide : (2 : Nat) ≠ 3), n2, if_neg e]
    · rw [zI_same, if_neg e]
