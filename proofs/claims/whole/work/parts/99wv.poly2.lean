/-! Polygons: sides, area, turning round. -/
def sdM (c : Nat → Nat) (m : Nat) : Nat → Nat
  | 0 => 0
  | i + 1 => sdM c m i ||| 2 ^ eN (c i) (c (nxC m i))
theorem sdM_at (c : Nat → Nat) (m e : Nat) : ∀ i, (sdM c m i).testBit e = true ↔ ∃ j, j < i ∧ eN (c j) (c (nxC m j)) = e
  | 0 => by
    rw [show sdM c m 0 = 0 from rfl, Nat.zero_testBit]
    exact ⟨fun z => absurd z (by decide), fun ⟨j, hj, _⟩ => by omega⟩
  | i + 1 => by
    show (sdM c m i ||| 2 ^ eN (c i) (c (nxC m i))).testBit e = true ↔ _
    rw [Nat.testBit_or, Nat.testBit_two_pow, Bool.or_eq_true, sdM_at c m e i, decide_eq_true_iff]
    constructor
    · intro h
      rcases h with ⟨j, hj, ej⟩ | h
      · exact ⟨j, by omega, ej⟩
      · exact ⟨i, by omega, h⟩
    · intro ⟨j, hj, ej⟩
      by_cases z : j = i
      · subst z; exact Or.inr ej
      · exact Or.inl ⟨j, by omega, ej⟩
def arS (X Y : Nat → Int) (c : Nat → Nat) (m : Nat) : Int32 := itr (fun i s => s + (cI (X (c i)) * cI (Y (c (nxC m i))) - cI (X (c (nxC m i))) * cI (Y (c i)))) m 0 0
section
variable {g : zIJ} {n m : Nat} {X Y : Nat → Int} {c : Nat → Nat}
/-- corners of a polygon -/
def Cor (n m : Nat) (c : Nat → Nat) : Prop := (3 ≤ m ∧ m ≤ n) ∧ (∀ i, i < m → c i < n) ∧ ∀ i j, i < m → j < m → c i = c j → i = j
theorem cor_of {ce : Nat → Int64} (h3 : 3 ≤ m) (h : COK n m ce) : Cor n m (cN ce) := ⟨⟨h3, cor_le h⟩, fun i hi => cok_lt h hi, fun i j hi hj => cok_inj h hi hj⟩
theorem cor_ne (h : Cor n m c) {i : Nat} (hi : i < m) : c i ≠ c (nxC m i) := fun e => nx_ne (by have := h.1; omega) hi (h.2.2 _ _ (nx_lt (by omega)) hi e.symm)
theorem c_behindP (h2 : g.1 234 2 = nI m) (hm : m ≤ 9) {i : Nat} (hi : i < m) : zev mX6_behind 0 [.ref 234, .int (nI i)] g = some (some (.int (nI (nxC m i))), g) := by
  rw [uX6_behind_0, h2, nI_1]
  unfold nxC
  by_cases q : i + 1 < m
  · rw [if_pos q, decide_eq_false (nI_ge (a := i + 1) (b := m) q (by omega))]; rfl
  · rw [if_neg q, decide_eq_true (nI_le (by omega : m ≤ i + 1) (by omega))]; rfl
theorem c_readSides (h : POK g n X Y) (hc : Cor n m c) (hp : PC g c m) : ∃ g', zev mX6_readSides 0 [.ref 234, .ref 211] g = some (some (.int (bI (cdec (SOK X Y m c)))), g') ∧ g'.1 = g.1 ∧ zFr tPo g g' ∧ (SOK X Y m c → g'.2 234 4 = lN (sdM c m m)) := by
  have hn := h.1.1
  have hG := h.2.1.2.2.1
  have m9 := hc.1
  rw [uX6_readSides_0]
  have lp : ∀ (d i : Nat) (g1 : zIJ), i + d = m → g1.1 = g.1 → zFr tPo g g1 → g1.2 234 4 = lN (sdM c m i) → (∀ a b, a < i → b < i → crs (oXY X Y) (c a) (c (nxC m a)) (c b) (c (nxC m b)) = false) → ∃ g', zev mX6_readSides 7 [.ref 234, .ref 211, .int (nI i)] g1 = some (some (.int (bI (cdec (SOK X Y m c)))), g') ∧ g'.1 = g.1 ∧ zFr tPo g g' ∧ (SOK X Y m c → g'.2 234 4 = lN (sdM c m m)) := by
    intro d
    induction d with
    | zero =>
      intro i g1 ei e1 f1 e4 ok
      have : i = m := by omega
      subst this
      have okk : SOK X Y i c := fun a b ha hb => ok a b ha hb
      refine ⟨g1, ?_, e1, f1, fun _ => e4⟩
      rw [uX6_readSides_7, e1, hp.1, decide_eq_true (nI_le (Nat.le_refl i) (by omega)), cdec_t okk]; rfl
    | succ d ih =>
      intro i g1 ei e1 f1 e4 ok
      have hi : i < m := by omega
      have nl := nx_lt (m := m) (i := i) (by omega)
      have ci := hc.2.1 i hi
      have cn := hc.2.1 _ nl
      have ne := cor_ne hc hi
      have e36 := eN_lt (by omega : c i < 9) (by omega : c (nxC m i) < 9) ne
      have p1 := pok_po h f1
      have b2 : g1.1 234 2 = nI m := by rw [e1]; exact hp.1
      have r1 : g1.1 235 i = nI (c i) := by rw [e1]; exact hp.2.2 i hi
      have r2 : g1.1 235 (nxC m i) = nI (c (nxC m i)) := by rw [e1]; exact hp.2.2 _ nl
      have al : crM X Y n (eN (c i) (c (nxC m i))) &&& sdM c m i < 2 ^ 64 := Nat.lt_of_le_of_lt Nat.and_le_left (Nat.lt_trans (crM_lt _) (by omega))
      have hd : zev mX6_readSides 7 [.ref 234, .ref 211, .int (nI i)] g1 = cond (decide (crM X Y n (eN (c i) (c (nxC m i))) &&& sdM c m i = 0)) (zev mX6_readSides 7 [.ref 234, .ref 211, .int (nI (i + 1))] (zsL g1 234 4 (lN (sdM c m (i + 1))))) (some (some (.int 0), g1)) := by
        rw [uX6_readSides_7, b2, decide_eq_false (nI_ge (a := i) (b := m) hi (by omega)), zin_n (by omega : i < 9) (by omega), c_behindP b2 (by omega) hi, zaI_some, zin_n (by omega : nxC m i < 9) (by omega), nI_clamp (by omega : i < 2 ^ 31), nI_clamp (by omega : nxC m i < 2 ^ 31), r1, r2, c_edgeOf g1 (by omega : c i < 9) (by omega : c (nxC m i) < 9) ne, zaI_some, zin_n e36 (by omega), nI_clamp (by omega : eN (c i) (c (nxC m i)) < 2 ^ 31), p1.2.2.2.2.2.1 _ e36, e4, lN_and, cmp_eq, lN_0 al, bit_l (by omega : eN (c i) (c (nxC m i)) < 63), lN_or, nI_1]
        rfl
      have key : crM X Y n (eN (c i) (c (nxC m i))) &&& sdM c m i = 0 ↔ ∀ b, b < i → crs (oXY X Y) (c i) (c (nxC m i)) (c b) (c (nxC m b)) = false := by
        constructor
        · intro z b hb
          have nb := nx_lt (m := m) (i := b) (by omega)
          have neb := cor_ne hc (by omega : b < m)
          have e36b := eN_lt (by have := hc.2.1 b (by omega); omega : c b < 9) (by have := hc.2.1 _ nb; omega : c (nxC m b) < 9) neb
          have bt : (crM X Y n (eN (c i) (c (nxC m i))) &&& sdM c m i).testBit (eN (c b) (c (nxC m b))) = false := by rw [z, Nat.zero_testBit]
          rw [Nat.testBit_and, cr_uv hG hn ci cn (hc.2.1 b (by omega)) (hc.2.1 _ nb) ne neb, (sdM_at c m _ i).mpr ⟨b, hb, rfl⟩, Bool.and_true] at bt
          exact bt
        · intro z
          refine bit_ext (n := 36) (Nat.lt_of_le_of_lt Nat.and_le_left (crM_lt _)) (by decide) (fun e he => ?_)
          rw [Nat.zero_testBit, Nat.testBit_and]
          cases q : (sdM c m i).testBit e with
          | false => rw [Bool.and_false]
          | true =>
            obtain ⟨b, hb, eb⟩ := (sdM_at c m e i).mp q
            have nb := nx_lt (m := m) (i := b) (by omega)
            rw [← eb, cr_uv hG hn ci cn (hc.2.1 b (by omega)) (hc.2.1 _ nb) ne (cor_ne hc (by omega : b < m)), z b hb]; rfl
      by_cases q : crM X Y n (eN (c i) (c (nxC m i))) &&& sdM c m i = 0
      · have z := key.mp q
        rw [decide_eq_true q] at hd
        obtain ⟨g', x', r'⟩ := ih (i + 1) (zsL g1 234 4 (lN (sdM c m (i + 1)))) (by omega) e1 (fr_tr f1 (fr_L _ _ rfl)) (zL_same _ _ _ _) (fun a b ha hb => by
          by_cases ea : a = i
          · by_cases eb : b = i
            · rw [ea, eb, crs_self]
            · rw [ea]; exact z b (by omega)
          · by_cases eb : b = i
            · rw [eb, crs_sw]; exact z a (by omega)
            · exact ok a b (by omega) (by omega))
        exact ⟨g', hd.trans x', r'⟩
      · have no : ¬ SOK X Y m c := fun s => q (key.mpr (fun b hb => s i b hi (by omega)))
        rw [decide_eq_false q] at hd
        refine ⟨g1, ?_, e1, f1, fun s => absurd s no⟩
        rw [hd, cdec_f no]; rfl
  exact lp m 0 (zsL g 234 4 0) (by omega) rfl (fr_L g _ rfl) (by rw [zL_same]; rfl) (fun a b ha => by omega)
theorem c_signedArea (h : POK g n X Y) (hc : Cor n m c) (hp : PC g c m) : zev mX6_signedArea 0 [.ref 234, .ref 211] g = some (some (.int (arS X Y c m)), g) := by
  have hn := h.1.1
  have m9 := hc.1
  rw [uX6_signedArea_0]
  have z := ziter (F := fun i s => zev mX6_signedArea 4 [.ref 234, .ref 211, .int s, .int (nI i)] g) (R := fun s => some (some (.int s), g)) (n := m) (h := fun i s => s + (cI (X (c i)) * cI (Y (c (nxC m i))) - cI (X (c (nxC m i))) * cI (Y (c i)))) (fun i s hi => by
    have nl := nx_lt (m := m) (i := i) (by omega)
    have ci := hc.2.1 i hi
    have cn := hc.2.1 _ nl
    show zev mX6_signedArea 4 _ g = zev mX6_signedArea 4 _ g
    rw [uX6_signedArea_4, hp.1, decide_eq_false (nI_ge (a := i) (b := m) hi (by omega)), zin_n (by omega : i < 9) (by omega), c_behindP hp.1 (by omega) hi, zaI_some, zin_n (by omega : nxC m i < 9) (by omega), nI_clamp (by omega : i < 2 ^ 31), nI_clamp (by omega : nxC m i < 2 ^ 31), hp.2.2 i hi, hp.2.2 _ nl, zin_n (by omega : c i < 9) (by omega), zin_n (by omega : c (nxC m i) < 9) (by omega), nI_clamp (by omega : c i < 2 ^ 31), nI_clamp (by omega : c (nxC m i) < 2 ^ 31), (h.1.2.2 _ ci).1, (h.1.2.2 _ ci).2, (h.1.2.2 _ cn).1, (h.1.2.2 _ cn).2, nI_1]
    rfl) (fun s => by
    show zev mX6_signedArea 4 _ g = _
    rw [uX6_signedArea_4, hp.1, decide_eq_true (nI_le (Nat.le_refl m) (by omega))]; rfl) m 0 0 (by omega)
  exact z
theorem half9 : ∀ m, m < 10 → nI m / 2 = nI (m / 2) := by decide +kernel
theorem c_turnRound (h2 : g.1 234 2 = nI m) (hm : m ≤ 9) (hp : ∀ j, j < m → g.1 235 j = nI (c j)) : ∃ g', zev mX6_turnRound 0 [.ref 234] g = some (none, g') ∧ (∀ k j, k ≠ 235 → g'.1 k j = g.1 k j) ∧ g'.2 = g.2 ∧ ∀ j, j < m → g'.1 235 j = nI (c (m - 1 - j)) := by
  rw [uX6_turnRound_0]
  refine zloop (F := fun i g1 => zev mX6_turnRound 2 [.ref 234, .int (nI i)] g1) (I := fun i g1 => (∀ k j, k ≠ 235 → g1.1 k j = g.1 k j) ∧ g1.2 = g.2 ∧ ∀ j, j < m → g1.1 235 j = nI (if j < i ∨ m - 1 - j < i then c (m - 1 - j) else c j)) (Post := fun r => ∃ g', r = some (none, g') ∧ (∀ k j, k ≠ 235 → g'.1 k j = g.1 k j) ∧ g'.2 = g.2 ∧ ∀ j, j < m → g'.1 235 j = nI (c (m - 1 - j))) (lo := 0) (n := m / 2) (fun i g1 _ hi I1 => ?_) (fun g1 I1 => ?_) (m / 2) 0 g (Nat.le_refl _) (by omega) ⟨fun k j _ => rfl, rfl, fun j hj => by rw [if_neg (by omega)]; exact hp j hj⟩
  · obtain ⟨o1, o2, o3⟩ := I1
    have b2 : g1.1 234 2 = nI m := by rw [o1 234 2 (by omega)]; exact h2
    have ri : g1.1 235 i = nI (c i) := by rw [o3 i (by omega), if_neg (by omega)]
    have rj : g1.1 235 (m - 1 - i) = nI (c (m - 1 - i)) := by rw [o3 (m - 1 - i) (by omega), if_neg (by omega)]
    have im : nI m - 1 - nI i = nI (m - 1 - i) := by
      rw [show nI m - 1 = nI (m - 1) from nI_sub (a := m) (b := 1) (by omega), nI_sub (by omega)]
    refine ⟨zsI (zsI g1 235 i (nI (c (m - 1 - i)))) 235 (m - 1 - i) (nI (c i)), ?_, fun k j hk => ?_, o2, fun j hj => ?_⟩
    · rw [uX6_turnRound_2, b2, half9 m (by omega), decide_eq_false (nI_ge (a := i) (b := m / 2) hi (by omega)), im, zin_n (by omega : i < 9) (by omega), zin_n (by omega : m - 1 - i < 9) (by omega), nI_clamp (by omega : i < 2 ^ 31), nI_clamp (by omega : m - 1 - i < 2 ^ 31), rj, ri, show ∀ v, (zsI g1 235 i v).1 234 2 = nI m from fun v => by rw [zI_at, if_neg (by omega)]; exact b2, im, zin_n (by omega : m - 1 - i < 9) (by omega), nI_clamp (by omega : m - 1 - i < 2 ^ 31), nI_1]
      rfl
    · rw [zI_at, if_neg (by omega), zI_at, if_neg (by omega)]; exact o1 k j hk
    · rw [zI_at]
      by_cases e1 : j = m - 1 - i
      · rw [if_pos ⟨rfl, e1⟩, if_pos (by omega), show m - 1 - j = i from by omega]
      · rw [if_neg (fun y => e1 y.2), zI_at]
        by_cases e2 : j = i
        · rw [if_pos ⟨rfl, e2⟩, if_pos (by omega), e2]
        · rw [if_neg (fun y => e2 y.2), o3 j hj]
          by_cases z : j < i ∨ m - 1 - j < i
          · rw [if_pos z, if_pos (by omega)]
          · rw [if_neg z, if_neg (by omega)]
  · obtain ⟨o1, o2, o3⟩ := I1
    have b2 : g1.1 234 2 = nI m := by rw [o1 234 2 (by omega)]; exact h2
    refine ⟨g1, ?_, o1, o2, fun j hj => ?_⟩
    · rw [uX6_turnRound_2, b2, half9 m (by omega), decide_eq_true (nI_le (Nat.le_refl _) (by omega))]; rfl
    · rw [o3 j hj]
      by_cases z : j < m / 2 ∨ m - 1 - j < m / 2
      · rw [if_pos z]
      · rw [if_neg z, show m - 1 - j = j from by omega]
/-- the polygon as the class holds it -/
def PolS (g : zIJ) (X Y : Nat → Int) (m : Nat) (c : Nat → Nat) : Prop := g.1 234 2 = nI m ∧ g.1 234 3 = nI (hMsk c m) ∧ g.2 234 4 = lN (sdM c m m) ∧ g.1 234 5 = zabI (arS X Y c m) ∧ ∀ j, j < m → g.1 235 j = nI (cond (decide (0 ≤ arS X Y c m)) (c j) (c (m - 1 - j)))
theorem c_read (h : POK g n X Y) {q : Nat} {ce : Nat → Int64} (hq : q < 4) (hm : g.1 (242 + 2 * q) 2 = nI m) (hm40 : m ≤ 40) (hc : ∀ i, i < 40 → g.2 (243 + 2 * q) i = ce i) : ∃ g', zev mX6_read 0 [.ref 234, .ref (242 + 2 * q), .ref 211] g = some (some (.int (bI (cdec (Pol X Y n m ce)))), g') ∧ zFr tPo g g' ∧ (Pol X Y n m ce → PolS g' X Y m (cN ce)) := by
  have hn := h.1.1
  obtain ⟨g1, x1, f1, r1⟩ := c_readCorners h hq hm hm40 hc
  rw [uX6_read_0, x1, zaI_some, bI_0]
  by_cases k1 : (3 ≤ m ∧ m ≤ 9) ∧ COK n m ce
  · have cr := cor_of k1.1.1 k1.2
    have p1 := pok_po h f1
    obtain ⟨g2, x2, e2, f2, r2⟩ := c_readSides p1 cr (r1 k1)
    rw [cdec_t k1, x2]
    by_cases k2 : SOK X Y m (cN ce)
    · have pol : Pol X Y n m ce := ⟨k1.1, k1.2, k2⟩
      have pc2 : PC g2 (cN ce) m := by unfold PC; rw [e2]; exact r1 k1
      have p2 := pok_po p1 f2
      have sa := c_signedArea p2 cr pc2
      obtain ⟨g3, eg⟩ : ∃ g3, g3 = zsI g2 234 5 (arS X Y (cN ce) m) := ⟨_, rfl⟩
      have f3 : zFr tPo g g3 := by rw [eg]; exact fr_tr f1 (fr_tr f2 (fr_I _ _ rfl))
      have v5 : g3.1 234 5 = arS X Y (cN ce) m := by rw [eg, zI_same]
      have o3 : ∀ k j, ¬ (k = 234 ∧ j = 5) → g3.1 k j = g2.1 k j := fun k j hk => by rw [eg, zI_at, if_neg hk]
      have s4 : g3.2 234 4 = lN (sdM (cN ce) m m) := by rw [eg]; exact r2 k2
      rw [zaI_some, cdec_t k2, sa, zaI_some, cdec_t pol, ← eg, v5]
      show ∃ g', cond (decide (0 ≤ arS X Y (cN ce) m)) (some (some (Value.int 1), g3)) (zaV (zev mX6_turnRound 0 [.ref 234] g3) fun g7 => some (some (.int 1), zsI g7 234 5 (-(g7.1 234 5)))) = _ ∧ _
      cases ds : decide (0 ≤ arS X Y (cN ce) m) with
      | true =>
        refine ⟨g3, rfl, f3, fun _ => ⟨?_, ?_, s4, ?_, fun j hj => ?_⟩⟩
        · rw [o3 _ _ (by omega)]; exact pc2.1
        · rw [o3 _ _ (by omega)]; exact pc2.2.1
        · rw [v5]
          unfold zabI
          rw [if_pos (of_decide_eq_true ds)]
        · rw [ds, o3 _ _ (by omega)]; exact pc2.2.2 j hj
      | false =>
        obtain ⟨g4, x4, o4, o42, r4⟩ := c_turnRound (g := g3) (m := m) (c := cN ce) (by rw [o3 _ _ (by omega)]; exact pc2.1) (by omega) (fun j hj => by rw [o3 _ _ (by omega)]; exact pc2.2.2 j hj)
        have w5 : g4.1 234 5 = arS X Y (cN ce) m := by rw [o4 _ _ (by omega)]; exact v5
        refine ⟨zsI g4 234 5 (-(arS X Y (cN ce) m)), ?_, fr_tr f3 (fr_tr (fun k j hk => ?_) (fr_I _ _ rfl)), fun _ => ⟨?_, ?_, ?_, ?_, fun j hj => ?_⟩⟩
        · show zaV (zev mX6_turnRound 0 [.ref 234] g3) _ = _
          rw [x4, zaV_some, w5]; rfl
        · have := of_decide_eq_false hk
          exact ⟨o4 k j (by omega), by rw [o42]⟩
        · rw [zI_at, if_neg (by omega), o4 _ _ (by omega), o3 _ _ (by omega)]; exact pc2.1
        · rw [zI_at, if_neg (by omega), o4 _ _ (by omega), o3 _ _ (by omega)]; exact pc2.2.1
        · rw [zI_2, o42]; exact s4
        · rw [zI_same]
          unfold zabI
          rw [if_neg (of_decide_eq_false ds), Int32.zero_sub]
        · rw [ds, zI_at, if_neg (by omega)]; exact r4 j hj
    · refine ⟨g2, ?_, fr_tr f1 f2, fun z => absurd z.2.2 k2⟩
      rw [zaI_some, cdec_f k2, cdec_f (fun z => k2 z.2.2)]; rfl
  · refine ⟨g1, ?_, f1, fun z => absurd ⟨z.1, z.2.1⟩ k1⟩
    rw [cdec_f k1, cdec_f (fun z => k1 ⟨z.1, z.2.1⟩)]; rfl
end
