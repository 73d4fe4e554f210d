/-! prove and judge. -/
def rowsR (R : List (Nat × Nat × Nat)) : Nat → Nat → Int32 := fun i j => if j = 0 then nI (R.getD i (0, 0, 0)).2.1 else nI (R.getD i (0, 0, 0)).2.2
def setrows (σ : zS) (R : List (Nat × Nat × Nat)) : zS := zmk σ.s σ.kp σ.fi σ.un σ.z σ.fd R.length (rowsR R) σ.so σ.si σ.ce
theorem wfs_rows {σ : zS} (h : Wfs σ) {R : List (Nat × Nat × Nat)} (hR : R.length ≤ 13) : Wfs (setrows σ R) := ⟨h.1, h.2.1, h.2.2.1, h.2.2.2.1, hR, h.2.2.2.2.2⟩
theorem c_take {g : zIJ} {m : Nat} (hm : g.1 226 3 = nI m) (h13 : m ≤ 13) : ∃ g', zev mX7_take 0 [.ref 237, .ref 226] g = some (none, g') ∧ (∀ k j, (k < 237 ∨ 239 < k) → g'.1 k j = g.1 k j) ∧ g'.2 = g.2 ∧ g'.1 237 2 = nI m ∧ ∀ i, i < m → g'.1 238 i = g.1 228 i ∧ g'.1 239 i = g.1 229 i := by
  have e1 : (zsI g 237 2 (nI m)).1 237 2 = nI m := zI_same _ _ _ _
  have z0 : (0 : Int32).toNatClampNeg = 0 := rfl
  have cm : (nI m).toNatClampNeg = m := nI_clamp (by omega)
  have gd : zcpG 13 13 0 0 (nI m) = true := by
    have : ∀ m, m ≤ 13 → zcpG 13 13 0 0 (nI m) = true := by decide +kernel
    exact this m h13
  have e2 : (zcpI (zsI g 237 2 (nI m)) 228 0 238 0 m).1 237 2 = nI m := by
    rw [cpI_oth _ _ _ _ _ _ (by decide : (237 : Nat) ≠ 238)]; exact e1
  obtain ⟨a1, a2, a3⟩ := cp_ex (zsI g 237 2 (nI m)) 228 238 m
  obtain ⟨b1, b2, b3⟩ := cp_ex (zcpI (zsI g 237 2 (nI m)) 228 0 238 0 m) 229 239 m
  refine ⟨zcpI (zcpI (zsI g 237 2 (nI m)) 228 0 238 0 m) 229 0 239 0 m, ?_, fun k j hk => ?_, ?_, ?_, fun i hi => ⟨?_, ?_⟩⟩
  · rw [uX7_take_0, hm, e1, gd, z0, cm, e2, gd, cm]; rfl
  · rw [b1 k j (by omega), a1 k j (by omega), zI_at, if_neg (by omega)]
  · rw [b2, a2]; rfl
  · rw [b1 237 2 (by omega)]; exact e2
  · rw [b1 238 i (by omega), a3 i hi, zI_at, if_neg (by omega)]
  · rw [b3 i hi, a1 229 i (by omega), zI_at, if_neg (by omega)]
theorem ci_rows {g g' : zIJ} {σ : zS} {t : Nat} {R : List (Nat × Nat × Nat)} (h : CI g σ t) (f : ∀ k j, (k < 237 ∨ 239 < k) → g'.1 k j = g.1 k j) (f2 : g'.2 = g.2) (e : g'.1 237 2 = nI R.length) (er : ∀ i, i < R.length → g'.1 238 i = rowsR R i 0 ∧ g'.1 239 i = rowsR R i 1) : CI g' (setrows σ R) t := by
  obtain ⟨⟨h1, h2, h3, h4, h5, h6, h7⟩, hc⟩ := h
  have sm : ∀ lo hi, (hi < 237 ∨ 239 < lo) → Sm lo hi g g' := fun lo hi hh k j k1 k2 => ⟨f k j (by omega), by rw [f2]⟩
  exact ⟨⟨ci_1 h1 (sm _ _ (by omega)), ci_2 h2 (sm _ _ (by omega)), ci_3 h3 (sm _ _ (by omega)), ci_4 h4 (sm _ _ (by omega)), ci_5 h5 (sm _ _ (by omega)), ⟨e, er⟩, ci_7 h7 (sm _ _ (by omega))⟩, ci_c hc (sm _ _ (by omega))⟩
def tPv (k j : Nat) : Bool := decide (k = 294 ∨ (k = 250 ∧ (j = 6 ∨ j = 18 ∨ j = 19 ∨ j = 20 ∨ j = 24)) ∨ (302 ≤ k ∧ k ≤ 341))
section
variable {n w k : Nat} {X Y : Nat → Int}
theorem r_pv (hG : GP X Y n) (hd : Dist X Y n) (hN : Near X Y n) (hn : n ≤ 9) (h0 : 0 < n) (hw : w < 2 ^ 36) (N : Net (oXY X Y) (List.range n) (Em w)) (hk : k < 5000) : ∀ (R : List (Nat × Nat × Nat)) (P j : Nat) (g : zIJ), RB g n X Y → g.2 297 k = lN w → g.1 250 18 = nI P → g.1 250 24 = nI j → (∀ f, Fst X Y n f → P.testBit f = true) → Swp X Y n w P R → j + R.length ≤ 13 → ∃ g2, zev mX12_prove 27 [.ref 250, .int (nI k)] g = some (some (.int (nI (j + R.length))), g2) ∧ zFr tPv g g2 ∧ g2.1 250 24 = nI (j + R.length) ∧ (∀ i c, i < j → g2.1 (302 + i) c = g.1 (302 + i) c) ∧ ∀ i, i < R.length → g2.1 (302 + (j + i)) 0 = nI (R.getD i (0, 0, 0)).2.1 ∧ g2.1 (302 + (j + i)) 1 = nI (R.getD i (0, 0, 0)).2.2
  | [], P, j, g, rb, h97, hP, h24, pf, sw, hl => by
    rcases r_adv (w := w) rb hN hd h0 hP pf with ⟨r, ad, _⟩ | ⟨_, e1⟩
    · exact absurd ad (sw r)
    · refine ⟨g, ?_, fr_refl _ g, h24, fun i c _ => rfl, fun i hi => absurd hi (Nat.not_lt_zero i)⟩
      rw [uX12_prove_27, zin_n hk (by omega), nI_clamp (by omega : k < 2 ^ 31), h97, e1, zaI_some, h24]; rfl
  | r :: R, P, j, g, rb, h97, hP, h24, pf, sw, hl => by
    have hl' : j + (R.length + 1) ≤ 13 := hl
    rcases r_adv (w := w) rb hN hd h0 hP pf with ⟨r0, ad, e1⟩ | ⟨no, _⟩
    · have er := adv_uq hG hd hn hw N ad sw.1
      subst er
      have zr := zC_row j (by omega)
      obtain ⟨ga, ea⟩ : ∃ ga, ga = adv3 g r0 := ⟨_, rfl⟩
      have a24 : ga.1 250 24 = nI j := by rw [ea, (adv3_o (by omega)).1]; exact h24
      have a19 : ga.1 250 19 = nI r0.2.1 := by rw [ea]; exact adv3_19 g r0
      have a20 : ga.1 250 20 = nI r0.2.2 := by rw [ea]; exact adv3_20 g r0
      have w24 : ∀ v, (zsI ga (302 + j) 0 v).1 250 24 = nI j := fun v => by rw [zI_at, if_neg (by omega)]; exact a24
      have w20 : ∀ v, (zsI ga (302 + j) 0 v).1 250 20 = nI r0.2.2 := fun v => by rw [zI_at, if_neg (by omega)]; exact a20
      have v24 : ∀ v u, (zsI (zsI ga (302 + j) 0 v) (302 + j) 1 u).1 250 24 = nI j := fun v u => by rw [zI_at, if_neg (by omega)]; exact w24 v
      obtain ⟨gb, eb⟩ : ∃ gb, gb = zsI (zsI (zsI ga (302 + j) 0 (nI r0.2.1)) (302 + j) 1 (nI r0.2.2)) 250 24 (nI (j + 1)) := ⟨_, rfl⟩
      have fb : zFr tPv g gb := by
        have fa : zFr tPv g ga := by
          rw [ea]
          exact fr_ud (adv3_fr g r0) (fun a b q => by have := of_decide_eq_true q; omega)
        refine fr_tr fa ?_
        rw [eb]
        refine fr_tr (fr_tr (fr_I ga _ ?_) (fr_I _ _ ?_)) (fr_I _ _ rfl)
        · exact decide_eq_true (by omega)
        · exact decide_eq_true (by omega)
      have rbb : RB gb n X Y := by
        have f' : ∀ c, gb.1 251 c = g.1 251 c := fun c => (fb 251 c (decide_eq_false (by omega))).1
        exact ⟨rb.1, by rw [f']; exact rb.2.1, fun i hi => ⟨by rw [f']; exact (rb.2.2 i hi).1, by rw [f']; exact (rb.2.2 i hi).2⟩⟩
      have b18 : gb.1 250 18 = nI r0.1 := by
        rw [eb, zI_at, if_neg (by omega), zI_at, if_neg (by omega), zI_at, if_neg (by omega), ea]; exact adv3_18 g r0
      obtain ⟨g2, x2, f2, q1, q2, q3⟩ := r_pv hG hd hN hn h0 hw N hk R r0.1 (j + 1) gb rbb (by rw [(fb 297 k (decide_eq_false (by omega))).2]; exact h97) b18 (by rw [eb, zI_same]) (adv_fst ad pf) sw.2 (by omega)
      have le : j + 1 + R.length = j + (r0 :: R).length := by show j + 1 + R.length = j + (R.length + 1); omega
      refine ⟨g2, ?_, fr_tr fb f2, by rw [q1, le], fun i c hi => ?_, fun i hi => ?_⟩
      · rw [uX12_prove_27, zin_n hk (by omega), nI_clamp (by omega : k < 2 ^ 31), h97, e1, zaI_some, ← ea, a24, zin_n (by omega : j < 40) (by omega), nI_clamp (by omega : j < 2 ^ 31), zr, a19, show (0 : Int32).toNatClampNeg = 0 from rfl, w24, zin_n (by omega : j < 40) (by omega), nI_clamp (by omega : j < 2 ^ 31), zr, w20, show (1 : Int32).toNatClampNeg = 1 from rfl, v24, nI_1, ← eb, ← le]
        exact x2
      · rw [q2 i c (by omega), eb, zI_at, if_neg (by omega), zI_at, if_neg (by omega), zI_at, if_neg (by omega), ea, (adv3_o (by omega)).1]
      · cases i with
        | zero =>
          show g2.1 (302 + (j + 0)) 0 = nI r0.2.1 ∧ g2.1 (302 + (j + 0)) 1 = nI r0.2.2
          rw [Nat.add_zero, q2 j 0 (by omega), q2 j 1 (by omega), eb]
          refine ⟨?_, ?_⟩
          · rw [zI_at, if_neg (by omega), zI_at, if_neg (by omega), zI_same]
          · rw [zI_at, if_neg (by omega), zI_same]
        | succ i =>
          have := q3 i (Nat.lt_of_succ_lt_succ hi)
          rw [show j + (i + 1) = j + 1 + i from by omega]
          exact this
    · exact absurd sw.1 (no r)
end
theorem p_prove (a : Int32) : PairC (fun g => zev mX11_prove 0 [.ref 3, .int a] g) (fun g => zev mX12_prove 0 [.ref 250, .int a] g) := by
  intro σ g t hw h ht
  have l8 := (nsL_ok hw.1).1
  obtain ⟨g1, x1, f1, n1⟩ := c_isNet hw h ht a
  cases q1 : zin a (nsL σ.s).length with
  | false =>
    refine ⟨fI 3, fdn σ 3, wfs_fdn hw 3, ?_, fun g' r => ?_⟩
    · show COk (zev mX11_prove 0 _ g) _ _ _ _
      rw [uX11_prove_0, x1, zaI_some, q1]
      exact cok_le (cok_find (k := 3) (cin_ci n1) f1 (by omega)) (by omega : t + 1 ≤ t + 2)
    · show ROk (zev mX12_prove 0 _ g') _ _ _
      obtain ⟨g2, x2, f2, n2⟩ := r_isNet hw r a
      rw [uX12_prove_0, x2, zaI_some, q1]
      exact rok_find (k := 3) (rin_ri n2) hw f2 (by omega)
  | true =>
    obtain ⟨k, hk, ek⟩ := zin_of q1 (by omega)
    subst ek
    obtain ⟨w, ew⟩ : ∃ w, w = (nsL σ.s)[k] := ⟨_, rfl⟩
    have wm : w ∈ nsL σ.s := by rw [ew]; exact List.getElem_mem hk
    obtain ⟨n3', w36, wN, _⟩ := nsL_in hw.1 wm
    obtain ⟨p1, p2, p3, p4, p5⟩ := hw.1.2.1
    obtain ⟨g3, x3, f3, n3, P, R, lP, sR, lR, e3, e0, ent⟩ := c_sfollow hw n1 (by omega) wm
    have ic := cin_ci n3
    have fc := fr_tr f1 (fr_swc f3)
    refine ⟨.int (nI R.length), setrows σ R, wfs_rows hw lR, ?_, fun g' r => ?_⟩
    · show COk (zev mX11_prove 0 _ g) _ _ _ _
      obtain ⟨g4, x4, f4, f42, e4, er⟩ := c_take e3 lR
      rw [uX11_prove_0, x1, zaI_some, q1, zin_n (by omega : k < 800) (by omega), nI_clamp (by omega : k < 2 ^ 31), n1.2.1.2 k hk, ← ew, x3, zaV_some, x4, zaV_some, e4]
      refine ⟨g4, rfl, fr_tr fc (fun k j hk => ?_), ci_le (ci_rows ic f4 f42 e4 (fun i hi => ?_)) (by omega : t + 1 ≤ t + 2)⟩
      · have := of_decide_eq_false hk
        exact ⟨f4 k j (by omega), by rw [f42]⟩
      · rw [(er i hi).1, (er i hi).2, (ent i hi).2.1, (ent i hi).2.2, ← getD_r hi]
        exact ⟨rfl, rfl⟩
    · show ROk (zev mX12_prove 0 _ g') _ _ _
      obtain ⟨g2, x2, f2, n2⟩ := r_isNet hw r (nI k)
      have lP2 := lP
      obtain ⟨m, s, kk, hH, hkk, hl, eP⟩ := lP
      obtain ⟨g4, x4, f4⟩ := r_firstPath (rb_s n2.1.1 hw.1) p2 p3 p4 hH hkk hl
      rw [← eP] at x4
      obtain ⟨g5, eg⟩ : ∃ g5, g5 = zsI (zsI g4 250 18 (nI P)) 250 24 0 := ⟨_, rfl⟩
      have f5 : zFr tPv g2 g5 := by
        rw [eg]
        exact fr_tr (fr_ud f4 (fun a b q => by have := of_decide_eq_true q; omega)) (fr_tr (fr_I g4 _ rfl) (fr_I _ _ rfl))
      have rb5 : RB g5 (nS σ.s) (XS σ.s) (YS σ.s) := by
        have f' : ∀ c, g5.1 251 c = g2.1 251 c := fun c => (f5 251 c (decide_eq_false (by omega))).1
        have rb := rb_s n2.1.1 hw.1
        exact ⟨rb.1, by rw [f']; exact rb.2.1, fun i hi => ⟨by rw [f']; exact (rb.2.2 i hi).1, by rw [f']; exact (rb.2.2 i hi).2⟩⟩
      obtain ⟨g6, x6, f6, z1, z2, z3⟩ := r_pv (k := k) p3 p4 p2 p1 (by omega) w36 wN (by omega) R P 0 g5 rb5 (by rw [(f5 297 k (decide_eq_false (by omega))).2, ew]; exact n2.2.2.2 k hk) (by rw [eg, zI_at, if_neg (by omega), zI_same]) (by rw [eg, zI_same]; rfl) (low_fst (by omega) lP2) sR (by omega)
      rw [Nat.zero_add] at x6 z1
      have ff := fr_tr f5 f6
      have f' : ∀ k j, ¬ (k = 294 ∨ (k = 250 ∧ (j = 6 ∨ j = 18 ∨ j = 19 ∨ j = 20 ∨ j = 24)) ∨ (302 ≤ k ∧ k ≤ 341)) → g6.1 k j = g2.1 k j ∧ g6.2 k j = g2.2 k j := fun k j hk => ff k j (decide_eq_false hk)
      obtain ⟨h1, h2, h3, h4, h5, h6, h7⟩ := n2.1
      have sm : ∀ lo hi, (251 ≤ lo ∧ hi ≤ 293) ∨ 342 ≤ lo → Sm lo hi g2 g6 := fun lo hi hh k j k1 k2 => f' k j (by omega)
      rw [uX12_prove_0, x2, zaI_some, q1, x4, zaI_some, ← eg]
      show ROk (zev mX12_prove 27 [.ref 250, .int (nI k)] g5) _ _ _
      rw [x6]
      refine ⟨g6, rfl, fr_tr f2 (fr_ud ff (fun a b q => by have := of_decide_eq_true q; omega)), ⟨ri_1 h1 (sm _ _ (by omega)), ri_2 h2 (sm _ _ (by omega)), ⟨?_, ?_⟩, ?_, ri_5 h5 (sm _ _ (by omega)), ⟨z1, fun i hi => ?_⟩, ri_7 h7 (sm _ _ (by omega))⟩, Or.inr ⟨?_, ?_⟩⟩
      · rw [(f' _ _ (by omega)).1]; exact h3.1
      · rw [(f' _ _ (by omega)).1]; exact h3.2
      · rw [(f' _ _ (by omega)).1]; exact h4
      · have := z3 i hi
        rw [Nat.zero_add] at this
        exact this
      · rw [(f' _ _ (by omega)).1]; exact n2.2.1
      · exact rld_fr n2.2.2 (f' _ _ (by omega)).1 (funext fun j => (f' _ _ (by omega)).2)
