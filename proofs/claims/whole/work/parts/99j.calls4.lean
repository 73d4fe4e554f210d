/-! Calls: status, stepOf, row, alter, sheet, write, item, copy. -/
theorem p_status (a : Int32) : PairC (fun g => zev mX11_status 0 [.ref 3, .int a] g) (fun g => zev mX12_status 0 [.ref 250, .int a] g) := by
  intro σ g t hw h ht
  have e0 : (0 : Int32).toInt = 0 := rfl
  have e8 : (8 : Int32).toInt = 8 := rfl
  have em : (-1 : Int32).toInt = -1 := rfl
  by_cases q : -1 ≤ a.toInt ∧ a.toInt ≤ 7
  · by_cases qm : a.toInt < 0
    · have ea : a = -1 := Int32.toInt_inj.mp (by rw [em]; omega)
      subst ea
      refine ⟨.int (itr (fun k c => c + σ.fd k) 8 0 0), σ, hw, ?_, fun g' r => ?_⟩
      · show COk (zev mX11_status 0 _ g) _ _ _ _
        rw [uX11_status_0]
        have := zit (F := fun k c => zev mX11_status 32 [.ref 3, .int c, .int (nI k)] g) (lo := 0) (n := 8) (R := fun c => some (some (.int c), g)) (h := fun k c => c + σ.fd k) (fun k c _ hk => by
          rw [uX11_status_32, show decide (8 ≤ nI k) = false from decide_eq_false (nI_ge (a := k) (b := 8) hk (by omega)), zin_n hk (by omega), nI_clamp (by omega : k < 2 ^ 31), h.1.2.2.2.2.1 k hk, nI_1]
          rfl) (fun c => by rw [uX11_status_32]; rfl) 8 0 0 (Nat.le_refl _) (by omega)
        show COk (zev mX11_status 32 [.ref 3, .int 0, .int (nI 0)] g) g _ _ _
        rw [this]
        exact cok_of h (fr_refl _ g) (by omega)
      · show ROk (zev mX12_status 0 _ g') _ _ _
        rw [uX12_status_0, r_inI g' (-1) (lo := -1) (l := -1) (hi := 7) (h := 7) rfl rfl, zaI_some]
        have := zit (F := fun k c => zev mX12_status 24 [.ref 250, .int (-1), .int c, .int (nI k)] g') (lo := 0) (n := 8) (R := fun c => some (some (.int c), g')) (h := fun k c => c + σ.fd k) (fun k c _ hk => by
          rw [uX12_status_24, show decide (8 ≤ nI k) = false from decide_eq_false (nI_ge (a := k) (b := 8) hk (by omega)), zin_n hk (by omega), nI_clamp (by omega : k < 2 ^ 31), r.1.2.2.2.2.1 k hk, nI_1]
          rfl) (fun c => by rw [uX12_status_24]; rfl) 8 0 0 (Nat.le_refl _) (by omega)
        show ROk (zev mX12_status 24 [.ref 250, .int (-1), .int 0, .int (nI 0)] g') g' _ _
        rw [this]
        exact rok_of r (fr_refl _ _)
    · obtain ⟨j, hj, e⟩ := i_small (k := 7) (by omega) q.2 (by omega)
      subst e
      have c0 : decide (nI j < 0) = false := decide_eq_false (nI_n0 (by omega))
      refine ⟨.int (σ.fd j), σ, hw, ?_, fun g' r => ?_⟩
      · show COk (zev mX11_status 0 _ g) _ _ _ _
        rw [uX11_status_0, show decide (nI j < -1) = false from decide_eq_false (fun k => by rw [Int32.lt_iff_toInt_lt, em] at k; omega), show decide (nI j < 8) = true from decide_eq_true (nI_lt (a := j) (b := 8) (by omega) (by omega)), c0, zin_n (by omega : j < 8) (by omega), nI_clamp (by omega : j < 2 ^ 31), h.1.2.2.2.2.1 j (by omega)]
        exact cok_of h (fr_refl _ g) (by omega)
      · show ROk (zev mX12_status 0 _ g') _ _ _
        rw [uX12_status_0, r_inI g' (nI j) (lo := -1) (l := -1) (hi := 7) (h := 7) rfl rfl, zaI_some, decide_eq_true q]
        have := zit (F := fun k c => zev mX12_status 24 [.ref 250, .int (nI j), .int c, .int (nI k)] g') (lo := 0) (n := 8) (R := fun c => some (some (.int c), g')) (h := fun k c => c + cond (decide (j = k)) (σ.fd k) 0) (fun k c _ hk => by
          rw [uX12_status_24, show decide (8 ≤ nI k) = false from decide_eq_false (nI_ge (a := k) (b := 8) hk (by omega)), c0, nI_de (by omega) (by omega), zin_n hk (by omega), nI_clamp (by omega : k < 2 ^ 31), r.1.2.2.2.2.1 k hk]
          simp only [nI_1]
          cases decide (j = k) <;> rfl) (fun c => by rw [uX12_status_24]; rfl) 8 0 0 (Nat.le_refl _) (by omega)
        show ROk (zev mX12_status 24 [.ref 250, .int (nI j), .int 0, .int (nI 0)] g') g' _ _
        rw [this]
        have e : itr (fun k c => c + cond (decide (j = k)) (σ.fd k) 0) 8 0 (0 : Int32) = σ.fd j := by
          have : j = 0 ∨ j = 1 ∨ j = 2 ∨ j = 3 ∨ j = 4 ∨ j = 5 ∨ j = 6 ∨ j = 7 := by omega
          rcases this with e | e | e | e | e | e | e | e <;> subst e <;> simp [itr]
        rw [e]
        exact rok_of r (fr_refl _ _)
  · refine ⟨fI 0, fdn σ 0, wfs_fdn hw 0, ?_, fun g' r => ?_⟩
    · show COk (zev mX11_status 0 _ g) _ _ _ _
      have fd := cok_le (cok_find (k := 0) h (fr_refl _ g) (by omega)) (by omega : t ≤ t + 2)
      rw [uX11_status_0, lt_d, em]
      by_cases q3 : a.toInt < -1
      · rw [decide_eq_true q3]; exact fd
      · rw [decide_eq_false q3, lt_d a 8, e8, decide_eq_false (show ¬ a.toInt < 8 by omega)]; exact fd
    · show ROk (zev mX12_status 0 _ g') _ _ _
      rw [uX12_status_0, r_inI g' a (lo := -1) (l := -1) (hi := 7) (h := 7) rfl rfl, zaI_some, decide_eq_false q]
      exact rok_find (k := 0) r hw (fr_refl _ _) (by omega)
theorem zin2 (b : Int32) : decide (0 ≤ b.toInt ∧ b.toInt ≤ 1) = zin b 2 := by
  unfold zin
  exact decide_eq_decide.mpr (by omega)
theorem zin2c (b : Int32) : cond (decide (b < 0)) false (decide (b ≤ 1)) = zin b 2 := by
  rw [lt_d, led, ← zin2]
  have e0 : (0 : Int32).toInt = 0 := rfl
  have e1 : (1 : Int32).toInt = 1 := rfl
  rw [e0, e1]
  by_cases q : b.toInt < 0
  · rw [decide_eq_true q, decide_eq_false (show ¬ (0 ≤ b.toInt ∧ b.toInt ≤ 1) by omega)]; rfl
  · rw [decide_eq_false q]
    exact decide_eq_decide.mpr (by omega)
theorem bit2 {j : Nat} (h : j < 2) : j = 0 ∨ j = 1 := by omega
theorem p_stepOf (a b : Int32) : PairC (fun g => zev mX11_stepOf 0 [.ref 3, .int a, .int b] g) (fun g => zev mX12_stepOf 0 [.ref 250, .int a, .int b] g) := by
  intro σ g t hw h ht
  obtain ⟨m, m8, em⟩ := hw.1.2.2.2.2
  have c5 : g.1 4 5 = nI m := h.1.1.2.1.trans em
  have no : (zin a m && zin b 2) = false → ∃ v σ', Wfs σ' ∧ COk (zev mX11_stepOf 0 [.ref 3, .int a, .int b] g) g v σ' (t + 2) ∧ ∀ g', RI g' σ → ROk (zev mX12_stepOf 0 [.ref 250, .int a, .int b] g') g' v σ' := by
    intro q
    refine ⟨fI 0, fdn σ 0, wfs_fdn hw 0, ?_, fun g' r => ?_⟩
    · have fd := cok_le (cok_find (k := 0) h (fr_refl _ g) (by omega)) (by omega : t ≤ t + 2)
      rw [uX11_stepOf_0, c5]
      rw [← zin_g a (by omega : m < 2 ^ 31), ← zin2c] at q
      cases z1 : decide (a < 0) with
      | true => exact fd
      | false =>
        cases z2 : decide (nI m ≤ a) with
        | true => exact fd
        | false =>
          cases z3 : decide (b < 0) with
          | true => exact fd
          | false =>
            rw [z1, z2, z3] at q
            rw [show decide (b ≤ 1) = false from q]
            exact fd
    · have fd := rok_find (k := 0) r hw (fr_refl tR g') (by omega)
      rw [uX12_stepOf_0, show (1 : Int32).toNatClampNeg = 1 from rfl, r.1.1 1 (by omega), em, r_inI g' a (lo := 0) (l := 0) rfl (pred_l (by omega : m < 2 ^ 31)), zin_d, zaI_some, r_inI g' b (lo := 0) (l := 0) (hi := 1) (h := 1) rfl rfl, zin2, zaI_some]
      cases z1 : zin a m with
      | false => exact fd
      | true =>
        rw [z1] at q
        rw [show zin b 2 = false from q]
        exact fd
  cases q1 : zin a m with
  | false => exact no (by rw [q1]; rfl)
  | true =>
    cases q2 : zin b 2 with
    | false => exact no (by rw [q1, q2]; rfl)
    | true =>
      clear no
      obtain ⟨i, hi, e⟩ := zin_of q1 (by omega)
      subst e
      obtain ⟨j, hj, e⟩ := zin_of q2 (by omega)
      subst e
      refine ⟨.int (σ.s (56 + 2 * i + j)), σ, hw, ?_, fun g' r => ?_⟩
      · show COk (zev mX11_stepOf 0 _ g) _ _ _ _
        rw [uX11_stepOf_0, c5, decide_eq_false (nI_ge hi (by omega)), show decide (nI i < 0) = false from decide_eq_false (nI_n0 (by omega)), zin_n (by omega : i < 8) (by omega), nI_clamp (by omega : i < 2 ^ 31), (h.1.1.2.2.2.1 i (by omega)).1, (h.1.1.2.2.2.1 i (by omega)).2]
        rcases bit2 hj with e | e
        · subst e
          exact cok_of h (fr_refl _ g) (by omega)
        · subst e
          rw [show 56 + 2 * i + 1 = 57 + 2 * i from by omega]
          exact cok_of h (fr_refl _ g) (by omega)
      · show ROk (zev mX12_stepOf 0 _ g') _ _ _
        have e56 : (56 : Int32) + 2 * nI i + nI j = nI (56 + 2 * i + j) := by
          rw [← nI_add, ← nI_add]
          congr 2
          exact (Int32.ofNat_mul 2 i).symm
        rw [uX12_stepOf_0, show (1 : Int32).toNatClampNeg = 1 from rfl, r.1.1 1 (by omega), em, r_inI g' (nI i) (lo := 0) (l := 0) rfl (pred_l (by omega : m < 2 ^ 31)), zin_d, q1, zaI_some, r_inI g' (nI j) (lo := 0) (l := 0) (hi := 1) (h := 1) rfl rfl, zin2, q2, zaI_some, e56, zin_n (by omega : 56 + 2 * i + j < 72) (by omega), nI_clamp (by omega : 56 + 2 * i + j < 2 ^ 31), r.1.1 _ (by omega)]
        exact rok_of r (fr_refl _ _)
theorem c_has {g : zIJ} {rm : Nat} (h : g.1 237 2 = nI rm) (hr : rm < 2 ^ 31) (a b : Int32) : zev mX7_has 0 [.ref 237, .int a, .int b] g = some (some (.int (bI (zin a rm && zin b 2))), g) := by
  have e1 : decide (1 < b) = !decide (b ≤ 1) := by
    rw [lt_d, led]
    by_cases z : b.toInt ≤ (1 : Int32).toInt
    · rw [decide_eq_true z, decide_eq_false (by omega)]; rfl
    · rw [decide_eq_false z, decide_eq_true (by omega)]; rfl
  rw [uX7_has_0, h, ← zin_g a hr, ← zin2c, e1]
  cases decide (a < 0) <;> cases decide (nI rm ≤ a) <;> cases decide (b < 0) <;> cases decide (b ≤ 1) <;> rfl
theorem r_isRow {g : zIJ} {rm : Nat} (h : g.1 250 24 = nI rm) (hr : rm < 2 ^ 31) (a b : Int32) : zev mX12_isRow 0 [.ref 250, .int a, .int b] g = some (some (.int (bI (zin a rm && zin b 2))), g) := by
  rw [uX12_isRow_0, h, r_inI g a (lo := 0) (l := 0) rfl (pred_l hr), zin_d, zaI_some, r_inI g b (lo := 0) (l := 0) (hi := 1) (h := 1) rfl rfl, zin2, zaI_some]
  cases zin a rm <;> cases zin b 2 <;> rfl
theorem zC_row : ∀ i, i < 40 → zC (302 + i) = (100, 2) := by decide +kernel
def setrow (σ : zS) (i j : Nat) (v : Int32) : zS := zmk σ.s σ.kp σ.fi σ.un σ.z σ.fd σ.rm (fun a b => if a = i ∧ b = j then v else σ.row a b) σ.so σ.si σ.ce
theorem p_row (a b : Int32) : PairC (fun g => zev mX11_row 0 [.ref 3, .int a, .int b] g) (fun g => zev mX12_row 0 [.ref 250, .int a, .int b] g) := by
  intro σ g t hw h ht
  have r13 := hw.2.2.2.2.1
  cases q : (zin a σ.rm && zin b 2) with
  | false =>
    refine ⟨fI 0, fdn σ 0, wfs_fdn hw 0, ?_, fun g' r => ?_⟩
    · show COk (zev mX11_row 0 _ g) _ _ _ _
      rw [uX11_row_0, c_has h.1.2.2.2.2.2.1.1 (by omega), zaI_some, q]
      exact cok_le (cok_find (k := 0) h (fr_refl _ g) (by omega)) (by omega : t ≤ t + 2)
    · show ROk (zev mX12_row 0 _ g') _ _ _
      rw [uX12_row_0, r_isRow r.1.2.2.2.2.2.1.1 (by omega), zaI_some, q]
      exact rok_find (k := 0) r hw (fr_refl tR g') (by omega)
  | true =>
    have q' := Bool.and_eq_true_iff.mp q
    obtain ⟨i, hi, e⟩ := zin_of q'.1 (by omega)
    subst e
    obtain ⟨j, hj, e⟩ := zin_of q'.2 (by omega)
    subst e
    refine ⟨.int (σ.row i j), σ, hw, ?_, fun g' r => ?_⟩
    · show COk (zev mX11_row 0 _ g) _ _ _ _
      rw [uX11_row_0, c_has h.1.2.2.2.2.2.1.1 (by omega), zaI_some, q, zin_n (by omega : i < 13) (by omega), nI_clamp (by omega : i < 2 ^ 31), (h.1.2.2.2.2.2.1.2 i hi).1, (h.1.2.2.2.2.2.1.2 i hi).2]
      rcases bit2 hj with e | e <;> subst e <;> exact cok_of h (fr_refl _ g) (by omega)
    · show ROk (zev mX12_row 0 _ g') _ _ _
      have zz := zC_row i (by omega)
      rw [uX12_row_0, r_isRow r.1.2.2.2.2.2.1.1 (by omega), zaI_some, q, zin_n (by omega : i < 40) (by omega), nI_clamp (by omega : i < 2 ^ 31), nI_clamp (by omega : j < 2 ^ 31)]
      unfold zlen zrd
      rw [zz]
      have := (r.1.2.2.2.2.2.1.2 i hi)
      rcases bit2 hj with e | e <;> subst e
      · show ROk (some (some (Value.int (g'.1 (302 + i) 0)), g')) g' _ _
        rw [this.1]
        exact rok_of r (fr_refl _ _)
      · show ROk (some (some (Value.int (g'.1 (302 + i) 1)), g')) g' _ _
        rw [this.2]
        exact rok_of r (fr_refl _ _)
theorem p_alter (a b v : Int32) : PairC (fun g => zev mX11_alter 0 [.ref 3, .int a, .int b, .int v] g) (fun g => zev mX12_alter 0 [.ref 250, .int a, .int b, .int v] g) := by
  intro σ g t hw h ht
  have r13 := hw.2.2.2.2.1
  cases q : (zin a σ.rm && zin b 2) with
  | false =>
    refine ⟨fI 0, fdn σ 0, wfs_fdn hw 0, ?_, fun g' r => ?_⟩
    · show COk (zev mX11_alter 0 _ g) _ _ _ _
      rw [uX11_alter_0, c_has h.1.2.2.2.2.2.1.1 (by omega), zaI_some, q]
      exact cok_le (cok_find (k := 0) h (fr_refl _ g) (by omega)) (by omega : t ≤ t + 2)
    · show ROk (zev mX12_alter 0 _ g') _ _ _
      rw [uX12_alter_0, r_isRow r.1.2.2.2.2.2.1.1 (by omega), zaI_some, q]
      exact rok_find (k := 0) r hw (fr_refl tR g') (by omega)
  | true =>
    have q' := Bool.and_eq_true_iff.mp q
    obtain ⟨i, hi, e⟩ := zin_of q'.1 (by omega)
    subst e
    obtain ⟨j, hj, e⟩ := zin_of q'.2 (by omega)
    subst e
    refine ⟨.int (σ.row i j), setrow σ i j v, hw, ?_, fun g' r => ?_⟩
    · show COk (zev mX11_alter 0 _ g) _ _ _ _
      rw [uX11_alter_0, c_has h.1.2.2.2.2.2.1.1 (by omega), zaI_some, q, zin_n (by omega : i < 13) (by omega), nI_clamp (by omega : i < 2 ^ 31), (h.1.2.2.2.2.2.1.2 i hi).1, (h.1.2.2.2.2.2.1.2 i hi).2]
      obtain ⟨⟨h1, h2, h3, h4, h5, h6, h7⟩, hc⟩ := h
      have ci : CI (zsI g (238 + j) i v) (setrow σ i j v) t := by
        refine ⟨⟨ci_1 h1 (sm_I g v (by omega)), ci_2 h2 (sm_I g v (by omega)), ci_3 h3 (sm_I g v (by omega)), ci_4 h4 (sm_I g v (by omega)), ci_5 h5 (sm_I g v (by omega)), ⟨?_, fun k hk => ⟨?_, ?_⟩⟩, ci_7 h7 (sm_I g v (by omega))⟩, ci_c hc (sm_I g v (by omega))⟩
        · rw [zI_at, if_neg (by omega)]; exact h6.1
        · rw [zI_at]
          show _ = if k = i ∧ 0 = j then v else σ.row k 0
          by_cases z : k = i ∧ 0 = j
          · rw [if_pos (by omega), if_pos z]
          · rw [if_neg (by omega), if_neg z]; exact (h6.2 k hk).1
        · rw [zI_at]
          show _ = if k = i ∧ 1 = j then v else σ.row k 1
          by_cases z : k = i ∧ 1 = j
          · rw [if_pos (by omega), if_pos z]
          · rw [if_neg (by omega), if_neg z]; exact (h6.2 k hk).2
      rcases bit2 hj with e | e <;> subst e <;> exact cok_of ci (fr_I g v rfl) (by omega)
    · show ROk (zev mX12_alter 0 _ g') _ _ _
      have zz := zC_row i (by omega)
      rw [uX12_alter_0, r_isRow r.1.2.2.2.2.2.1.1 (by omega), zaI_some, q, zin_n (by omega : i < 40) (by omega), nI_clamp (by omega : i < 2 ^ 31), nI_clamp (by omega : j < 2 ^ 31)]
      unfold zlen zrd
      rw [zz]
      have old : g'.1 (302 + i) j = σ.row i j := by
        rcases bit2 hj with e | e <;> subst e
        · exact (r.1.2.2.2.2.2.1.2 i hi).1
        · exact (r.1.2.2.2.2.2.1.2 i hi).2
      obtain ⟨⟨h1, h2, h3, h4, h5, h6, h7⟩, hl⟩ := r
      have ri : RI (zsI g' (302 + i) j v) (setrow σ i j v) := by
        have n250 : ∀ k, (zsI g' (302 + i) j v).1 250 k = g'.1 250 k := fun k => by rw [zI_at, if_neg (by omega)]
        refine ⟨⟨ri_1 h1 (sm_I g' v (by omega)), ri_2 h2 (sm_I g' v (by omega)), ⟨?_, ?_⟩, ?_, ri_5 h5 (sm_I g' v (by omega)), ⟨?_, fun k hk => ⟨?_, ?_⟩⟩, ri_7 h7 (sm_I g' v (by omega))⟩, ?_⟩
        · rw [n250]; exact h3.1
        · rw [n250]; exact h3.2
        · rw [n250]; exact h4
        · rw [n250]; exact h6.1
        · rw [zI_at]
          show _ = if k = i ∧ 0 = j then v else σ.row k 0
          by_cases z : k = i ∧ 0 = j
          · rw [if_pos (by omega), if_pos z]
          · rw [if_neg (by omega), if_neg z]; exact (h6.2 k hk).1
        · rw [zI_at]
          show _ = if k = i ∧ 1 = j then v else σ.row k 1
          by_cases z : k = i ∧ 1 = j
          · rw [if_pos (by omega), if_pos z]
          · rw [if_neg (by omega), if_neg z]; exact (h6.2 k hk).2
        · rw [n250]
          rcases hl with q | ⟨q, l⟩
          · exact Or.inl q
          · exact Or.inr ⟨q, rld_fr l (n250 14) rfl⟩
      have fr : zFr tR g' (zsI g' (302 + i) j v) := fr_I g' v (decide_eq_true (by omega))
      rw [← old]
      rcases bit2 hj with e | e
      · subst e
        exact rok_of ri fr
      · subst e
        exact rok_of ri fr
