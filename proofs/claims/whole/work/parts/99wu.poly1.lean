/-! Polygons are read. -/
def cN (ce : Nat → Int64) (i : Nat) : Nat := (ce i).toInt.toNat
def nxC (m i : Nat) : Nat := if i + 1 < m then i + 1 else 0
def COK (n m : Nat) (ce : Nat → Int64) : Prop := ∀ i, i < m → 0 ≤ (ce i).toInt ∧ (ce i).toInt < n ∧ ∀ j, j < i → cN ce j ≠ cN ce i
def SOK (X Y : Nat → Int) (m : Nat) (c : Nat → Nat) : Prop := ∀ i j, i < m → j < m → crs (oXY X Y) (c i) (c (nxC m i)) (c j) (c (nxC m j)) = false
def Pol (X Y : Nat → Int) (n m : Nat) (ce : Nat → Int64) : Prop := (3 ≤ m ∧ m ≤ 9) ∧ COK n m ce ∧ SOK X Y m (cN ce)
theorem l2i {v : Int64} {n : Nat} (h0 : 0 ≤ v.toInt) (h1 : v.toInt < n) (hn : n ≤ 9) : v.toInt32 = nI v.toInt.toNat := by
  refine Int32.toInt_inj.mp ?_
  rw [nI_toInt (by omega), Int64.toInt_toInt32]
  rw [Int.bmod_eq_of_le (by omega) (by omega)]
  omega
theorem cok_lt {n m : Nat} {ce : Nat → Int64} (h : COK n m ce) {i : Nat} (hi : i < m) : cN ce i < n := by
  have := h i hi
  unfold cN
  omega
theorem cok_inj {n m : Nat} {ce : Nat → Int64} (h : COK n m ce) {i j : Nat} (hi : i < m) (hj : j < m) (e : cN ce i = cN ce j) : i = j := by
  rcases Nat.lt_trichotomy i j with q | q | q
  · exact absurd e ((h j hj).2.2 i q)
  · exact q
  · exact absurd e.symm ((h i hi).2.2 j q)
theorem cor_le {n m : Nat} {ce : Nat → Int64} (h : COK n m ce) : m ≤ n := by
  refine Nat.le_of_not_lt (fun q => ?_)
  obtain ⟨i, hi, e⟩ := inj_surj n (cN ce) (fun i hi => cok_lt h (by omega)) (fun i j hi hj => cok_inj h (by omega) (by omega)) (cN ce n) (cok_lt h q)
  have := cok_inj h (by omega) q e
  omega
theorem nx_lt {m i : Nat} (hm : 0 < m) : nxC m i < m := by
  unfold nxC
  split <;> omega
theorem nx_ne {m i : Nat} (hm : 2 ≤ m) (hi : i < m) : nxC m i ≠ i := by
  unfold nxC
  split <;> omega
def tPo (k _j : Nat) : Bool := decide (234 ≤ k ∧ k ≤ 236)
/-- the corners as read -/
def PC (g : zIJ) (c : Nat → Nat) (i : Nat) : Prop := g.1 234 2 = nI i ∧ g.1 234 3 = nI (hMsk c i) ∧ ∀ j, j < i → g.1 235 j = nI (c j)
section
variable {g : zIJ} {n : Nat} {X Y : Nat → Int}
theorem pok_po {g' : zIJ} (h : POK g n X Y) (f : zFr tPo g g') : POK g' n X Y := pok_of h (fun k j k1 k2 _ => f k j (decide_eq_false (by omega)))
theorem c_readCorners (h : POK g n X Y) {q m : Nat} {ce : Nat → Int64} (hq : q < 4) (hm : g.1 (242 + 2 * q) 2 = nI m) (hm40 : m ≤ 40) (hc : ∀ i, i < 40 → g.2 (243 + 2 * q) i = ce i) : ∃ g', zev mX6_readCorners 0 [.ref 234, .ref (242 + 2 * q), .ref 211] g = some (some (.int (bI (cdec ((3 ≤ m ∧ m ≤ 9) ∧ COK n m ce)))), g') ∧ zFr tPo g g' ∧ ((3 ≤ m ∧ m ≤ 9) ∧ COK n m ce → PC g' (cN ce) m) := by
  have hn := h.1.1
  have h7 := h.1.2.1
  obtain ⟨z1, z2, z3⟩ := zC_sh q hq
  have e0 : ∀ j, (zsI (zsI g 234 2 0) 234 3 0).1 (242 + 2 * q) j = g.1 (242 + 2 * q) j := fun j => by rw [zI_at, if_neg (by omega), zI_at, if_neg (by omega)]
  have f0 : zFr tPo g (zsI (zsI g 234 2 0) 234 3 0) := fr_tr (fr_I g _ rfl) (fr_I _ _ rfl)
  have e7 : (zsI (zsI g 234 2 0) 234 3 0).1 211 7 = nI n := h7
  have hd : zev mX6_readCorners 0 [.ref 234, .ref (242 + 2 * q), .ref 211] g = cond (decide (nI m < 3)) (some (some (.int 0), zsI (zsI g 234 2 0) 234 3 0)) (cond (decide (nI m ≤ nI n)) (zev mX6_readCorners 33 [.ref 234, .ref (242 + 2 * q), .ref 211, .int (nI 0)] (zsI (zsI g 234 2 0) 234 3 0)) (some (some (.int 0), zsI (zsI g 234 2 0) 234 3 0))) := by
    rw [uX6_readCorners_0, z1, e0, hm, e7]; rfl
  by_cases m3 : m < 3
  · refine ⟨zsI (zsI g 234 2 0) 234 3 0, ?_, f0, fun z => by omega⟩
    rw [hd, show decide (nI m < 3) = true from decide_eq_true (nI_lt (a := m) (b := 3) m3 (by omega)), cdec_f (fun z => by omega)]; rfl
  · by_cases mn : m ≤ n
    · rw [show decide (nI m < 3) = false from decide_eq_false (nI_nlt (a := m) (b := 3) (by omega) (by omega)), decide_eq_true (nI_le mn (by omega))] at hd
      have lp : ∀ (d i : Nat) (g1 : zIJ), i + d = m → zFr tPo g g1 → PC g1 (cN ce) i → (∀ j, j < i → 0 ≤ (ce j).toInt ∧ (ce j).toInt < n ∧ ∀ l, l < j → cN ce l ≠ cN ce j) → ∃ g', zev mX6_readCorners 33 [.ref 234, .ref (242 + 2 * q), .ref 211, .int (nI i)] g1 = some (some (.int (bI (cdec (COK n m ce)))), g') ∧ zFr tPo g g' ∧ (COK n m ce → PC g' (cN ce) m) := by
        intro d
        induction d with
        | zero =>
          intro i g1 ei f1 pc ok
          have : i = m := by omega
          subst this
          have em : g1.1 (242 + 2 * q) 2 = nI i := by rw [(f1 _ _ (decide_eq_false (by omega))).1]; exact hm
          refine ⟨g1, ?_, f1, fun _ => pc⟩
          have okk : COK n i ce := ok
          rw [uX6_readCorners_33, z1, em, decide_eq_true (nI_le (Nat.le_refl i) (by omega)), cdec_t okk]; rfl
        | succ d ih =>
          intro i g1 ei f1 pc ok
          have em : g1.1 (242 + 2 * q) 2 = nI m := by rw [(f1 _ _ (decide_eq_false (by omega))).1]; exact hm
          have ev : g1.2 (243 + 2 * q) i = ce i := by rw [(f1 _ _ (decide_eq_false (by omega))).2]; exact hc i (by omega)
          have e7' : g1.1 211 7 = nI n := (pok_po h f1).1.2.1
          have hd1 : zev mX6_readCorners 33 [.ref 234, .ref (242 + 2 * q), .ref 211, .int (nI i)] g1 = cond (decide ((ce i).toInt < 0)) (some (some (.int 0), g1)) (cond (decide ((ce i).toInt < (n : Int))) (cond (decide ((((g1.1 234 3) >>> (((ce i).toInt32) &&& 31)) &&& 1) = 0)) (cond (zin (g1.1 234 2) 9) (zev mX6_readCorners 33 [.ref 234, .ref (242 + 2 * q), .ref 211, .int (nI (i + 1))] (zsI (zsI (zsI g1 235 ((g1.1 234 2).toNatClampNeg) ((ce i).toInt32)) 234 3 (((zsI g1 235 ((g1.1 234 2).toNatClampNeg) ((ce i).toInt32)).1 234 3) ||| ((1 : Int32) <<< (((ce i).toInt32) &&& 31)))) 234 2 (((zsI (zsI g1 235 ((g1.1 234 2).toNatClampNeg) ((ce i).toInt32)) 234 3 (((zsI g1 235 ((g1.1 234 2).toNatClampNeg) ((ce i).toInt32)).1 234 3) ||| ((1 : Int32) <<< (((ce i).toInt32) &&& 31)))).1 234 2) + 1))) none) (some (some (.int 0), g1))) (some (some (.int 0), g1))) := by
            rw [uX6_readCorners_33, z1, em, decide_eq_false (nI_ge (a := i) (b := m) (by omega) (by omega)), z2, z3, nI_clamp (by omega : i < 2 ^ 31), ev, cmp_lt, cmp_lt, e7', show (0 : Int64).toInt = 0 from rfl, Int32.toInt_toInt64, nI_toInt (by omega), nI_1]
            show cond true (cond false _ (cond true (cond (true && zin (nI i) 40) _ _) _)) _ = _
            rw [zin_n (by omega : i < 40) (by omega)]; rfl
          by_cases v0 : (ce i).toInt < 0
          · refine ⟨g1, ?_, f1, fun z => by have := z i (by omega); omega⟩
            rw [hd1, decide_eq_true v0, cdec_f (fun z => by have := z i (by omega); omega)]; rfl
          · by_cases v1 : (ce i).toInt < n
            · have ei32 : (ce i).toInt32 = nI (cN ce i) := l2i (by omega) v1 (by omega)
              have cl : cN ce i < n := by unfold cN; omega
              rw [decide_eq_false v0, decide_eq_true v1, ei32, pc.2.1, i_and0, i_sshr0 (by omega), nI_bit (by omega)] at hd1
              cases bt : (hMsk (cN ce) i).testBit (cN ce i) with
              | true =>
                obtain ⟨j, hj, ej⟩ := (hMsk_at (cN ce) (cN ce i) i).mp bt
                refine ⟨g1, ?_, f1, fun z => absurd ej ((z i (by omega)).2.2 j hj)⟩
                rw [hd1, bt, cdec_f (fun z => absurd ej ((z i (by omega)).2.2 j hj))]; rfl
              | false =>
                have nw : ∀ l, l < i → cN ce l ≠ cN ce i := fun l hl e => by
                  rw [(hMsk_at (cN ce) (cN ce i) i).mpr ⟨l, hl, e⟩] at bt
                  exact absurd bt (by decide)
                obtain ⟨g2, eg⟩ : ∃ g2, g2 = zsI (zsI (zsI g1 235 i (nI (cN ce i))) 234 3 (nI (hMsk (cN ce) (i + 1)))) 234 2 (nI (i + 1)) := ⟨_, rfl⟩
                have pc2 : PC g2 (cN ce) (i + 1) := by
                  rw [eg]
                  refine ⟨zI_same _ _ _ _, by rw [zI_at, if_neg (by omega), zI_same], fun j hj => ?_⟩
                  rw [zI_at, if_neg (by omega), zI_at, if_neg (by omega), zI_at]
                  by_cases z : j = i
                  · rw [if_pos ⟨rfl, z⟩, z]
                  · rw [if_neg (fun y => z y.2)]; exact pc.2.2 j (by omega)
                obtain ⟨g', x', r'⟩ := ih (i + 1) g2 (by omega) (by rw [eg]; exact fr_tr f1 (fr_tr (fr_tr (fr_I _ _ rfl) (fr_I _ _ rfl)) (fr_I _ _ rfl))) pc2 (fun j hj => by
                  by_cases z : j = i
                  · subst z; exact ⟨by omega, v1, nw⟩
                  · exact ok j (by omega))
                refine ⟨g', ?_, r'⟩
                rw [hd1, bt, pc.1, zin_n (by omega : i < 9) (by omega), nI_clamp (by omega : i < 2 ^ 31), show (zsI g1 235 i (nI (cN ce i))).1 234 3 = nI (hMsk (cN ce) i) from pc.2.1, i_or2 (by omega : cN ce i < 9), ← hMsk_s, show ∀ v, (zsI (zsI g1 235 i (nI (cN ce i))) 234 3 v).1 234 2 = nI i from fun v => pc.1, nI_1, ← eg]
                exact x'
            · refine ⟨g1, ?_, f1, fun z => by have := z i (by omega); omega⟩
              rw [hd1, decide_eq_false v0, decide_eq_false v1, cdec_f (fun z => by have := z i (by omega); omega)]; rfl
      obtain ⟨g', x', f', r'⟩ := lp m 0 (zsI (zsI g 234 2 0) 234 3 0) (by omega) f0 ⟨by rw [zI_at, if_neg (by omega), zI_same]; rfl, zI_same _ _ _ _, fun j hj => by omega⟩ (fun j hj => by omega)
      refine ⟨g', ?_, f', fun z => r' z.2⟩
      rw [hd]
      show zev mX6_readCorners 33 _ _ = _
      rw [x', cdec_cg (p := (3 ≤ m ∧ m ≤ 9) ∧ COK n m ce) (q := COK n m ce) ⟨fun z => z.2, fun z => ⟨by omega, z⟩⟩]
    · refine ⟨zsI (zsI g 234 2 0) 234 3 0, ?_, f0, fun z => absurd (cor_le z.2) mn⟩
      rw [hd, show decide (nI m < 3) = false from decide_eq_false (nI_nlt (a := m) (b := 3) (by omega) (by omega)), decide_eq_false (nI_ge (a := n) (b := m) (by omega) (by omega)), cdec_f (fun z => absurd (cor_le z.2) mn)]; rfl
end
