/-! Calls: sheet, write, item, copy. -/
theorem zC_sh : ∀ q, q < 4 → (zC (242 + 2 * q)).1 = 8 ∧ zRf (242 + 2 * q) 0 = 243 + 2 * q ∧ zC (243 + 2 * q) = (101, 40) := by decide +kernel
theorem zC_ce : ∀ q, q < 4 → zC (345 + q) = (101, 40) := by decide +kernel
theorem c_isSheet (g : zIJ) (a : Int32) : zev mX11_isSheet 0 [.int a] g = some (some (.int (bI (zin a 4))), g) := by
  rw [uX11_isSheet_0, show decide (4 ≤ a) = decide (nI 4 ≤ a) from rfl, ← zin_g a (by omega : 4 < 2 ^ 31)]
  cases decide (a < 0) <;> cases decide (nI 4 ≤ a) <;> rfl
theorem r_isSheet (g : zIJ) (a : Int32) : zev mX12_isSheet 0 [.int a] g = some (some (.int (bI (zin a 4))), g) := by
  rw [uX12_isSheet_0, r_inI g a (lo := 0) (l := 0) (hi := 3) (h := 3) rfl rfl, zaI_some, show decide (0 ≤ a.toInt ∧ a.toInt ≤ 3) = zin a 4 from by unfold zin; exact decide_eq_decide.mpr (by omega), bI_bit]
  rfl
def setsh (σ : zS) (q : Nat) (so : Int32) (si : Nat) : zS := zmk σ.s σ.kp σ.fi σ.un σ.z σ.fd σ.rm σ.row (fun a => if a = q then so else σ.so a) (fun a => if a = q then si else σ.si a) (fun a b => if a = q then 0 else σ.ce a b)
theorem wfs_setsh {σ : zS} (h : Wfs σ) {q : Nat} {so : Int32} {si : Nat} (h1 : si ≤ 40) (h2 : so = -1 ∨ so = 0 ∨ so = 1 ∨ so = 2) : Wfs (setsh σ q so si) := by
  obtain ⟨w1, w2, w3, w4, w5, w6⟩ := h
  refine ⟨w1, w2, w3, w4, w5, fun a ha => ?_⟩
  show (if a = q then si else σ.si a) ≤ 40 ∧ ((if a = q then so else σ.so a) = -1 ∨ (if a = q then so else σ.so a) = 0 ∨ (if a = q then so else σ.so a) = 1 ∨ (if a = q then so else σ.so a) = 2)
  by_cases e : a = q
  · rw [if_pos e, if_pos e]; exact ⟨h1, h2⟩
  · rw [if_neg e, if_neg e]; exact w6 a ha
theorem c_lay {g : zIJ} {σ : zS} {t q : Nat} (h : CI g σ t) (hq : q < 4) (so : Int32) (si : Nat) : ∃ g', zev mX8_lay 0 [.ref (242 + 2 * q), .int so, .int (nI si)] g = some (none, g') ∧ zFr tC g g' ∧ CI g' (setsh σ q so si) t := by
  obtain ⟨z1, z2, z3⟩ := zC_sh q hq
  obtain ⟨g1, e1, v1, f1⟩ := fill_l z3 (by omega) 0 g
  obtain ⟨⟨h1, h2, h3, h4, h5, h6, h7⟩, hc⟩ := h
  have f1' : ∀ k j, k ≠ 243 + 2 * q → g1.1 k j = g.1 k j ∧ g1.2 k j = g.2 k j := fun k j hk => f1 k j (by show (Nat.beq k (243 + 2 * q) && Nat.blt j 40) = false; rw [nbeq_f hk]; rfl)
  have sm : ∀ lo hi, (hi < 242 ∨ 249 < lo) → Sm lo hi g (zsI (zsI g1 (242 + 2 * q) 1 so) (242 + 2 * q) 2 (nI si)) := fun lo hi hh => sm_tr (sm_tr (fun k j k1 k2 => f1' k j (by omega)) (sm_I g1 so (by omega))) (sm_I _ (nI si) (by omega))
  refine ⟨zsI (zsI g1 (242 + 2 * q) 1 so) (242 + 2 * q) 2 (nI si), ?_, ?_, ⟨ci_1 h1 (sm _ _ (by omega)), ci_2 h2 (sm _ _ (by omega)), ci_3 h3 (sm _ _ (by omega)), ci_4 h4 (sm _ _ (by omega)), ci_5 h5 (sm _ _ (by omega)), ci_6 h6 (sm _ _ (by omega)), fun a ha => ⟨?_, ?_, fun i hi => ?_⟩⟩, ci_c hc (sm _ _ (by omega))⟩
  · rw [uX8_lay_0, z1, z2, e1, zaV_some]
    rfl
  · refine fr_tr (fr_tr (fr_ud f1 (fun k j hk => ?_)) (fr_I g1 so (decide_eq_true (by omega)))) (fr_I _ (nI si) (decide_eq_true (by omega)))
    simp only [Bool.and_eq_true, Nat.beq_eq] at hk
    omega
  · rw [zI_at, if_neg (by omega), zI_at]
    show _ = if a = q then so else σ.so a
    by_cases e : a = q
    · rw [if_pos (by omega), if_pos e]
    · rw [if_neg (by omega), if_neg e, (f1' _ _ (by omega)).1]; exact (h7 a ha).1
  · rw [zI_at]
    show _ = nI (if a = q then si else σ.si a)
    by_cases e : a = q
    · rw [if_pos (by omega), if_pos e]
    · rw [if_neg (by omega), if_neg e, zI_at, if_neg (by omega), (f1' _ _ (by omega)).1]; exact (h7 a ha).2.1
  · show g1.2 (243 + 2 * a) i = if a = q then 0 else σ.ce a i
    by_cases e : a = q
    · rw [if_pos e, e]; exact v1 i hi
    · rw [if_neg e, (f1' _ _ (by omega)).2]; exact (h7 a ha).2.2 i hi
theorem r_sheet58 {g : zIJ} {σ : zS} {q : Nat} (h : RI g σ) (hw : Wfs σ) (hq : q < 4) (so : Int32) {si : Nat} (hs : si ≤ 40) (n : Int32) (hn : (decide (0 ≤ so) = true ∧ n = nI si) ∨ (decide (0 ≤ so) = false ∧ si = 0)) : ROk (zev mX12_sheet 58 [.ref 250, .int (nI q), .int so, .int n] g) g (.int (nI si)) (setsh σ q so si) := by
  have e58 : zev mX12_sheet 58 [.ref 250, .int (nI q), .int so, .int n] g = zev mX12_sheet 83 [.ref 250, .int (nI q), .int 0] (zsI (zsI g 342 q so) 343 q (nI si)) := by
    rw [uX12_sheet_58, zin_n hq (by omega), nI_clamp (by omega : q < 2 ^ 31)]
    rcases hn with ⟨k1, k2⟩ | ⟨k1, k2⟩
    · rw [k1, k2]; rfl
    · rw [k1, k2]; rfl
  rw [e58]
  have z3 := zC_ce q hq
  obtain ⟨⟨h1, h2, h3, h4, h5, h6, h7⟩, hl⟩ := h
  have fr0 : zFr (fun k j => decide (342 ≤ k ∧ k ≤ 343)) g (zsI (zsI g 342 q so) 343 q (nI si)) := fr_tr (fr_I g so rfl) (fr_I _ (nI si) rfl)
  have i42 : ∀ a, (zsI (zsI g 342 q so) 343 q (nI si)).1 342 a = if a = q then so else g.1 342 a := fun a => by
    rw [zI_at, if_neg (by omega), zI_at]
    by_cases e : a = q
    · rw [if_pos ⟨rfl, e⟩, if_pos e]
    · rw [if_neg (fun z => e z.2), if_neg e]
  have i43 : ∀ a, (zsI (zsI g 342 q so) 343 q (nI si)).1 343 a = if a = q then nI si else g.1 343 a := fun a => by
    rw [zI_at]
    by_cases e : a = q
    · rw [if_pos ⟨rfl, e⟩, if_pos e]
    · rw [if_neg (fun z => e z.2), if_neg e, zI_at, if_neg (by omega)]
  generalize zsI (zsI g 342 q so) 343 q (nI si) = g0 at fr0 i42 i43
  have run : ∃ g', zev mX12_sheet 83 [.ref 250, .int (nI q), .int 0] g0 = some (some (.int (nI si)), g') ∧ zFr (fun k j => decide (k = 345 + q)) g0 g' ∧ ∀ i, i < 40 → g'.2 (345 + q) i = 0 := by
    refine zloop (F := fun k g' => zev mX12_sheet 83 [.ref 250, .int (nI q), .int (nI k)] g') (I := fun k g' => zFr (fun k j => decide (k = 345 + q)) g0 g' ∧ ∀ i, i < k → g'.2 (345 + q) i = 0) (Post := fun r => ∃ g', r = some (some (.int (nI si)), g') ∧ zFr (fun k j => decide (k = 345 + q)) g0 g' ∧ ∀ i, i < 40 → g'.2 (345 + q) i = 0) (lo := 0) (n := 40) (fun k g1 _ hk I1 => ?_) (fun g1 I1 => ?_) 40 0 g0 (Nat.le_refl _) (by omega) ⟨fr_refl _ _, fun i hi => by omega⟩
    · refine ⟨zsL g1 (345 + q) k 0, ?_, fr_tr I1.1 (fr_L g1 0 (decide_eq_true rfl)), fun i hi => ?_⟩
      · rw [uX12_sheet_83, show decide (40 ≤ nI k) = false from decide_eq_false (nI_ge (a := k) (b := 40) hk (by omega)), zin_n hq (by omega), nI_clamp (by omega : q < 2 ^ 31), nI_clamp (by omega : k < 2 ^ 31), z3]
        show cond (true && zin (nI k) 40) _ _ = _
        rw [zin_n hk (by omega), nI_1]
        rfl
      · rw [zL_at]
        by_cases e : i = k
        · rw [if_pos ⟨rfl, e⟩]
        · rw [if_neg (fun z => e z.2)]; exact I1.2 i (by omega)
    · refine ⟨g1, ?_, I1⟩
      rw [uX12_sheet_83, zin_n hq (by omega), nI_clamp (by omega : q < 2 ^ 31), (I1.1 343 q (decide_eq_false (by omega))).1, i43, if_pos rfl]
      rfl
  obtain ⟨g', e', f', v'⟩ := run
  have sm : ∀ k j, ¬ (342 ≤ k ∧ k ≤ 348) → g'.1 k j = g.1 k j ∧ g'.2 k j = g.2 k j := fun k j hk => ⟨((f' k j (decide_eq_false (by omega))).1).trans ((fr0 k j (decide_eq_false (by omega))).1), ((f' k j (decide_eq_false (by omega))).2).trans ((fr0 k j (decide_eq_false (by omega))).2)⟩
  refine ⟨g', e', fr_tr (fr_ud fr0 (fun k j hk => by have := of_decide_eq_true hk; omega)) (fr_ud f' (fun k j hk => by have := of_decide_eq_true hk; omega)), ⟨ri_1 h1 (fun k j k1 k2 => sm k j (by omega)), ri_2 h2 (fun k j k1 k2 => sm k j (by omega)), ⟨?_, ?_⟩, ?_, ri_5 h5 (fun k j k1 k2 => sm k j (by omega)), ⟨?_, ri_6 h6.2 hw.2.2.2.2.1 (fun k j k1 k2 => sm k j (by omega))⟩, fun a ha => ⟨?_, ?_, fun i hi => ?_⟩⟩, ?_⟩
  · rw [(sm _ _ (by omega)).1]; exact h3.1
  · rw [(sm _ _ (by omega)).1]; exact h3.2
  · rw [(sm _ _ (by omega)).1]; exact h4
  · rw [(sm _ _ (by omega)).1]; exact h6.1
  · rw [(f' _ _ (decide_eq_false (by omega))).1, i42]
    show _ = if a = q then so else σ.so a
    by_cases e : a = q
    · rw [if_pos e, if_pos e]
    · rw [if_neg e, if_neg e]; exact (h7 a ha).1
  · rw [(f' _ _ (decide_eq_false (by omega))).1, i43]
    show _ = nI (if a = q then si else σ.si a)
    by_cases e : a = q
    · rw [if_pos e, if_pos e]
    · rw [if_neg e, if_neg e]; exact (h7 a ha).2.1
  · show _ = if a = q then 0 else σ.ce a i
    by_cases e : a = q
    · rw [if_pos e, e]; exact v' i hi
    · rw [if_neg e, (f' _ _ (decide_eq_false (by omega))).2, (fr0 _ _ (decide_eq_false (by omega))).2]; exact (h7 a ha).2.2 i hi
  · rw [(sm _ _ (by omega)).1]
    rcases hl with k | ⟨k, l⟩
    · exact Or.inl k
    · exact Or.inr ⟨k, rld_fr l (sm _ _ (by omega)).1 (funext fun j => (sm _ _ (by omega)).2)⟩
theorem p_sheet (a b c : Int32) : PairC (fun g => zev mX11_sheet 0 [.ref 3, .int a, .int b, .int c] g) (fun g => zev mX12_sheet 0 [.ref 250, .int a, .int b, .int c] g) := by
  intro σ g t hw h ht
  have em : (-1 : Int32).toInt = -1 := rfl
  have e0 : (0 : Int32).toInt = 0 := rfl
  have e2 : (2 : Int32).toInt = 2 := rfl
  have e40 : (40 : Int32).toInt = 40 := rfl
  cases q1 : zin a 4 with
  | false =>
    refine ⟨fI 0, fdn σ 0, wfs_fdn hw 0, ?_, fun g' r => ?_⟩
    · show COk (zev mX11_sheet 0 _ g) _ _ _ _
      rw [uX11_sheet_0, c_isSheet, zaI_some, q1]
      exact cok_le (cok_find (k := 0) h (fr_refl _ g) (by omega)) (by omega : t ≤ t + 2)
    · show ROk (zev mX12_sheet 0 _ g') _ _ _
      rw [uX12_sheet_0, r_isSheet, zaI_some, q1]
      exact rok_find (k := 0) r hw (fr_refl tR g') (by omega)
  | true =>
    by_cases q2 : -1 ≤ b.toInt ∧ b.toInt ≤ 2
    · have b1 : decide (b < -1) = false := by rw [lt_d]; exact decide_eq_false (by omega)
      have b2 : decide (b ≤ 2) = true := by rw [led]; exact decide_eq_true (by omega)
      obtain ⟨q, hq, e⟩ := zin_of q1 (by omega)
      subst e
      obtain ⟨z1, z2, z3⟩ := zC_sh q hq
      by_cases q3 : b = -1
      · subst q3
        obtain ⟨g1, e1, f1, c1⟩ := c_lay h hq (-1) 0
        refine ⟨.int 0, setsh σ q (-1) 0, wfs_setsh hw (by omega) (Or.inl rfl), ?_, fun g' r => ?_⟩
        · show COk (zev mX11_sheet 0 _ g) _ _ _ _
          rw [uX11_sheet_0, c_isSheet, zaI_some, q1, nI_clamp (by omega : q < 2 ^ 31), z1]
          show COk (zaV (zev mX8_lay 0 [.ref (242 + 2 * q), .int (-1), .int (nI 0)] g) _) g _ _ _
          rw [e1, zaV_some]
          exact cok_of c1 f1 (by omega)
        · show ROk (zev mX12_sheet 0 _ g') _ _ _
          rw [uX12_sheet_0, r_isSheet, zaI_some, q1, r_inI g' (-1) (lo := -1) (l := -1) (hi := 2) (h := 2) rfl rfl, zaI_some]
          show ROk (zev mX12_sheet 42 [.ref 250, .int (nI q), .int (-1), .int c] g') _ _ _
          rw [uX12_sheet_42]
          exact r_sheet58 r hw hq (-1) (si := 0) (by omega) c (Or.inr ⟨rfl, rfl⟩)
      · have bp : 0 ≤ b.toInt := by
          have : b.toInt ≠ -1 := fun k => q3 (Int32.toInt_inj.mp (by rw [k, em]))
          omega
        have b0 : decide (b < 0) = false := by rw [lt_d]; exact decide_eq_false (by omega)
        have b0' : decide (0 ≤ b) = true := by rw [led]; exact decide_eq_true (by omega)
        by_cases q4 : 0 ≤ c.toInt
        · have c0 : decide (0 ≤ c) = true := by rw [led]; exact decide_eq_true (by omega)
          by_cases q5 : c.toInt ≤ 40
          · have c4 : decide (c ≤ 40) = true := by rw [led]; exact decide_eq_true (by omega)
            obtain ⟨n, hn, e⟩ := i_small (k := 40) q4 q5 (by omega)
            subst e
            obtain ⟨k, hk, eb⟩ := i_small (k := 2) bp q2.2 (by omega)
            have b3 : b = -1 ∨ b = 0 ∨ b = 1 ∨ b = 2 := by
              have : k = 0 ∨ k = 1 ∨ k = 2 := by omega
              rcases this with e | e | e <;> subst e
              · exact Or.inr (Or.inl eb)
              · exact Or.inr (Or.inr (Or.inl eb))
              · exact Or.inr (Or.inr (Or.inr eb))
            obtain ⟨g1, e1, f1, c1⟩ := c_lay h hq b n
            refine ⟨.int (nI n), setsh σ q b n, wfs_setsh hw hn b3, ?_, fun g' r => ?_⟩
            · show COk (zev mX11_sheet 0 _ g) _ _ _ _
              rw [uX11_sheet_0, c_isSheet, zaI_some, q1, b1, b2, decide_eq_false q3, c0, c4, nI_clamp (by omega : q < 2 ^ 31), z1, e1, zaV_some]
              exact cok_of c1 f1 (by omega)
            · show ROk (zev mX12_sheet 0 _ g') _ _ _
              rw [uX12_sheet_0, r_isSheet, zaI_some, q1, r_inI g' b (lo := -1) (l := -1) (hi := 2) (h := 2) rfl rfl, zaI_some, decide_eq_true q2, b0, c0]
              show ROk (zev mX12_sheet 42 [.ref 250, .int (nI q), .int b, .int (nI n)] g') _ _ _
              rw [uX12_sheet_42, b0, c4]
              exact r_sheet58 r hw hq b (si := n) hn (nI n) (Or.inl ⟨b0', rfl⟩)
          · have c4 : decide (c ≤ 40) = false := by rw [led]; exact decide_eq_false (by omega)
            refine ⟨fI 0, fdn σ 0, wfs_fdn hw 0, ?_, fun g' r => ?_⟩
            · show COk (zev mX11_sheet 0 _ g) _ _ _ _
              rw [uX11_sheet_0, c_isSheet, zaI_some, q1, b1, b2, decide_eq_false q3, c0, c4]
              exact cok_le (cok_find (k := 0) h (fr_refl _ g) (by omega)) (by omega : t ≤ t + 2)
            · show ROk (zev mX12_sheet 0 _ g') _ _ _
              rw [uX12_sheet_0, r_isSheet, zaI_some, q1, r_inI g' b (lo := -1) (l := -1) (hi := 2) (h := 2) rfl rfl, zaI_some, decide_eq_true q2, b0, c0]
              show ROk (zev mX12_sheet 42 [.ref 250, .int (nI q), .int b, .int c] g') _ _ _
              rw [uX12_sheet_42, b0, c4]
              exact rok_find (k := 0) r hw (fr_refl tR g') (by omega)
        · have c0 : decide (0 ≤ c) = false := by rw [led]; exact decide_eq_false (by omega)
          refine ⟨fI 6, fdn σ 6, wfs_fdn hw 6, ?_, fun g' r => ?_⟩
          · show COk (zev mX11_sheet 0 _ g) _ _ _ _
            rw [uX11_sheet_0, c_isSheet, zaI_some, q1, b1, b2, decide_eq_false q3, c0]
            exact cok_le (cok_find (k := 6) h (fr_refl _ g) (by omega)) (by omega : t ≤ t + 2)
          · show ROk (zev mX12_sheet 0 _ g') _ _ _
            rw [uX12_sheet_0, r_isSheet, zaI_some, q1, r_inI g' b (lo := -1) (l := -1) (hi := 2) (h := 2) rfl rfl, zaI_some, decide_eq_true q2, b0, c0]
            exact rok_find (k := 6) r hw (fr_refl tR g') (by omega)
    · refine ⟨fI 0, fdn σ 0, wfs_fdn hw 0, ?_, fun g' r => ?_⟩
      · show COk (zev mX11_sheet 0 _ g) _ _ _ _
        have fd := cok_le (cok_find (k := 0) h (fr_refl _ g) (by omega)) (by omega : t ≤ t + 2)
        rw [uX11_sheet_0, c_isSheet, zaI_some, q1, lt_d, led b 2]
        by_cases z : b.toInt < (-1 : Int32).toInt
        · rw [decide_eq_true z]; exact fd
        · rw [decide_eq_false z, decide_eq_false (show ¬ b.toInt ≤ (2 : Int32).toInt by omega)]; exact fd
      · show ROk (zev mX12_sheet 0 _ g') _ _ _
        rw [uX12_sheet_0, r_isSheet, zaI_some, q1, r_inI g' b (lo := -1) (l := -1) (hi := 2) (h := 2) rfl rfl, zaI_some, decide_eq_false q2]
        exact rok_find (k := 0) r hw (fr_refl tR g') (by omega)
/-- why a number of a sheet can't be had: 0, 5, or none -/
def whyN (σ : zS) (a b : Int32) : Option Nat := cond (zin a 4) (cond (decide (σ.so a.toNatClampNeg = -1)) (some 5) (cond (zin b (σ.si a.toNatClampNeg)) none (some 0))) (some 0)
def whyI (o : Option Nat) : Int32 := match o with
  | none => -1
  | some k => nI k
theorem so_d {σ : zS} (hw : Wfs σ) {q : Nat} (hq : q < 4) : decide (0 ≤ σ.so q) = !decide (σ.so q = -1) := by
  rcases (hw.2.2.2.2.2 q hq).2 with e | e | e | e <;> rw [e] <;> rfl
theorem c_isMissing {g : zIJ} {σ : zS} (h : CI0 g σ) {q : Nat} (hq : q < 4) : zev mX8_isMissing 0 [.ref (242 + 2 * q)] g = some (some (.int (bI (decide (σ.so q = -1)))), g) := by
  rw [uX8_isMissing_0, (zC_sh q hq).1, (h.2.2.2.2.2.2 q hq).1]
  cases decide (σ.so q = -1) <;> rfl
theorem c_refN {g : zIJ} {σ : zS} (h : CI0 g σ) (hw : Wfs σ) (a b : Int32) : zev mX11_refusedNumber 0 [.ref 3, .int a, .int b] g = some (some (.int (whyI (whyN σ a b))), g) := by
  unfold whyN
  rw [uX11_refusedNumber_0, c_isSheet, zaI_some]
  cases q1 : zin a 4 with
  | false => rfl
  | true =>
    obtain ⟨q, hq, e⟩ := zin_of q1 (by omega)
    subst e
    obtain ⟨z1, z2, z3⟩ := zC_sh q hq
    have s40 := (hw.2.2.2.2.2 q hq).1
    rw [nI_clamp (by omega : q < 2 ^ 31), z1, c_isMissing h hq, zaI_some, (h.2.2.2.2.2.2 q hq).2.1, ← zin_g b (by omega : σ.si q < 2 ^ 31)]
    have e1 : decide (b < nI (σ.si q)) = !decide (nI (σ.si q) ≤ b) := by
      rw [lt_d, led]
      by_cases z : b.toInt < (nI (σ.si q)).toInt
      · rw [decide_eq_true z, decide_eq_false (by omega)]; rfl
      · rw [decide_eq_false z, decide_eq_true (by omega)]; rfl
    rw [e1]
    cases decide (σ.so q = -1) with
    | true => rfl
    | false => cases decide (b < 0) <;> cases decide (nI (σ.si q) ≤ b) <;> rfl
theorem r_whyN {g : zIJ} {σ : zS} (h : RI0 g σ) (hw : Wfs σ) (a b : Int32) : zev mX12_whyNot_ 0 [.ref 250, .int a, .int b] g = some (some (.int (whyI (whyN σ a b))), g) := by
  unfold whyN
  rw [uX12_whyNot__0, r_isSheet, zaI_some]
  cases q1 : zin a 4 with
  | false => rfl
  | true =>
    obtain ⟨q, hq, e⟩ := zin_of q1 (by omega)
    subst e
    have s40 := (hw.2.2.2.2.2 q hq).1
    rw [nI_clamp (by omega : q < 2 ^ 31), (h.2.2.2.2.2.2 q hq).1, (h.2.2.2.2.2.2 q hq).2.1, so_d hw hq, r_inI g b (lo := 0) (l := 0) rfl (pred_l (by omega : σ.si q < 2 ^ 31)), zin_d, zaI_some]
    cases decide (σ.so q = -1) <;> cases zin b (σ.si q) <;> rfl
theorem whyN_some {σ : zS} {a b : Int32} {k : Nat} (h : whyN σ a b = some k) : k = 0 ∨ k = 5 := by
  unfold whyN at h
  cases q1 : zin a 4 with
  | false => rw [q1] at h; exact Or.inl (Option.some.inj h).symm
  | true =>
    rw [q1] at h
    cases q2 : decide (σ.so a.toNatClampNeg = -1) with
    | true => rw [q2] at h; exact Or.inr (Option.some.inj h).symm
    | false =>
      rw [q2] at h
      cases q3 : zin b (σ.si a.toNatClampNeg) with
      | true => rw [q3] at h; cases h
      | false => rw [q3] at h; exact Or.inl (Option.some.inj h).symm
theorem whyN_none {σ : zS} (hw : Wfs σ) {a b : Int32} (h : whyN σ a b = none) : ∃ q i, q < 4 ∧ a = nI q ∧ i < σ.si q ∧ b = nI i := by
  unfold whyN at h
  cases q1 : zin a 4 with
  | false => rw [q1] at h; cases h
  | true =>
    rw [q1] at h
    obtain ⟨q, hq, e⟩ := zin_of q1 (by omega)
    subst e
    rw [nI_clamp (by omega : q < 2 ^ 31)] at h
    have s40 := (hw.2.2.2.2.2 q hq).1
    cases q2 : decide (σ.so q = -1) with
    | true => rw [q2] at h; cases h
    | false =>
      rw [q2] at h
      cases q3 : zin b (σ.si q) with
      | false => rw [q3] at h; cases h
      | true =>
        obtain ⟨i, hi, e⟩ := zin_of q3 (by omega)
        exact ⟨q, i, hq, rfl, hi, e⟩
theorem p_item (a b : Int32) : PairC (fun g => zev mX11_item 0 [.ref 3, .int a, .int b] g) (fun g => zev mX12_item 0 [.ref 250, .int a, .int b] g) := by
  intro σ g t hw h ht
  cases w : whyN σ a b with
  | some k =>
    have k05 := whyN_some w
    refine ⟨fL k, fdn σ k, wfs_fdn hw k, ?_, fun g' r => ?_⟩
    · show COk (zev mX11_item 0 _ g) _ _ _ _
      rw [uX11_item_0, c_refN h.1 hw, zaI_some, w, show whyI (some k) = nI k from rfl, nI_0le (by omega : k < 2 ^ 31)]
      exact cok_le (cok_findL h (fr_refl _ g) (by omega)) (by omega : t ≤ t + 2)
    · show ROk (zev mX12_item 0 _ g') _ _ _
      rw [uX12_item_0, r_whyN r.1 hw, zaI_some, w, show whyI (some k) = nI k from rfl, show decide (nI k < 0) = false from decide_eq_false (nI_n0 (by omega))]
      exact rok_findL r hw (fr_refl tR g') (by omega)
  | none =>
    obtain ⟨q, i, hq, ea, hi, eb⟩ := whyN_none hw w
    have s40 := (hw.2.2.2.2.2 q hq).1
    obtain ⟨z1, z2, z3⟩ := zC_sh q hq
    have z4 := zC_ce q hq
    refine ⟨.long (σ.ce q i), σ, hw, ?_, fun g' r => ?_⟩
    · show COk (zev mX11_item 0 _ g) _ _ _ _
      rw [uX11_item_0, c_refN h.1 hw, zaI_some, w, ea, eb, zin_n hq (by omega), nI_clamp (by omega : q < 2 ^ 31), nI_clamp (by omega : i < 2 ^ 31), z1, z2, z3, (h.1.2.2.2.2.2.2 q hq).2.2 i (by omega)]
      show COk (cond (true && zin (nI i) 40) _ _) g _ _ _
      rw [zin_n (by omega : i < 40) (by omega)]
      exact cok_of h (fr_refl _ g) (by omega)
    · show ROk (zev mX12_item 0 _ g') _ _ _
      rw [uX12_item_0, r_whyN r.1 hw, zaI_some, w, ea, eb, zin_n hq (by omega), nI_clamp (by omega : q < 2 ^ 31), nI_clamp (by omega : i < 2 ^ 31), z4, (r.1.2.2.2.2.2.2 q hq).2.2 i (by omega)]
      show ROk (cond (true && zin (nI i) 40) _ _) g' _ _
      rw [zin_n (by omega : i < 40) (by omega)]
      exact rok_of r (fr_refl _ _)
