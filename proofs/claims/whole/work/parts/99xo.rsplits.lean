/-! The reference's splits. -/
section
variable {g : zIJ} {n m : Nat} {X Y : Nat → Int} {c : Nat → Nat}
theorem r_isSide (hp : PR g c m) (h0 : 0 < m) (hm : m ≤ 9) (hc : ∀ j, j < m → c j < 9) {a b : Nat} (ha : a < 9) (hb : b < 9) : zev mX12_isSide 0 [.ref 250, .int (nI a), .int (nI b)] g = some (some (.int (bI (cdec (∃ i, i < m ∧ ((c i = a ∧ c (nxC m i) = b) ∨ (c i = b ∧ c (nxC m i) = a)))))), g) := by
  rw [uX12_isSide_0]
  have z := zall (F := fun i => zev mX12_isSide 2 [.ref 250, .int (nI a), .int (nI b), .int (nI i)] g) (R0 := some (some (.int 1), g)) (R1 := some (some (.int 0), g)) (n := m) (Q := fun i => ¬ ((c i = a ∧ c (nxC m i) = b) ∨ (c i = b ∧ c (nxC m i) = a))) (fun i hi => by
    have ci := hc i hi
    have cn := hc _ (nx_lt (m := m) (i := i) h0)
    have r := r_cornerAt hp h0 hm hi
    have s30 : zev mX12_isSide 30 [.ref 250, .int (nI a), .int (nI b), .int (nI i)] g = cond (decide (c i = b) && decide (c (nxC m i) = a)) (some (some (.int 1), g)) (zev mX12_isSide 2 [.ref 250, .int (nI a), .int (nI b), .int (nI (i + 1))] g) := by
      rw [uX12_isSide_30, r.1, zaI_some, nI_1, r.2, zaI_some, nI_de (by omega) (by omega), nI_de (by omega) (by omega)]
      cases decide (c i = b) <;> cases decide (c (nxC m i) = a) <;> rfl
    show zev mX12_isSide 2 [.ref 250, .int (nI a), .int (nI b), .int (nI i)] g = _
    rw [uX12_isSide_2, hp.1, decide_eq_false (nI_ge (a := i) (b := m) hi (by omega)), r.1, zaI_some, nI_1, r.2, zaI_some, nI_de (by omega) (by omega), nI_de (by omega) (by omega), s30]
    by_cases q : (c i = a ∧ c (nxC m i) = b) ∨ (c i = b ∧ c (nxC m i) = a)
    · have hf : ¬ ¬ ((c i = a ∧ c (nxC m i) = b) ∨ (c i = b ∧ c (nxC m i) = a)) := fun y => y q
      rw [cdec_f hf]
      rcases q with q | q
      · rw [decide_eq_true q.1, decide_eq_true q.2]; rfl
      · rw [decide_eq_true q.1, decide_eq_true q.2]
        cases decide (c i = a) <;> cases decide (c (nxC m i) = b) <;> rfl
    · rw [cdec_t q]
      by_cases e1 : c i = a
      · have e2 : ¬ c (nxC m i) = b := fun z => q (Or.inl ⟨e1, z⟩)
        have e3 : ¬ (c i = b ∧ c (nxC m i) = a) := fun z => q (Or.inr z)
        rw [← Bool.decide_and, decide_eq_false e3, decide_eq_true e1, decide_eq_false e2]; rfl
      · have e3 : ¬ (c i = b ∧ c (nxC m i) = a) := fun z => q (Or.inr z)
        rw [← Bool.decide_and, decide_eq_false e3, decide_eq_false e1]; rfl) (by
    show zev mX12_isSide 2 [.ref 250, .int (nI a), .int (nI b), .int (nI m)] g = _
    rw [uX12_isSide_2, hp.1, decide_eq_true (nI_le (Nat.le_refl m) (by omega))]; rfl) m 0 (by omega)
  refine Eq.trans z ?_
  by_cases q : ∃ i, i < m ∧ ((c i = a ∧ c (nxC m i) = b) ∨ (c i = b ∧ c (nxC m i) = a))
  · rw [cdec_t q]
    obtain ⟨j, hj, e⟩ := q
    rw [cdec_f (q := ∀ j, 0 ≤ j → j < m → ¬ ((c j = a ∧ c (nxC m j) = b) ∨ (c j = b ∧ c (nxC m j) = a))) (fun y => y j (by omega) hj e)]; rfl
  · rw [cdec_f q, cdec_t (q := ∀ j, 0 ≤ j → j < m → ¬ ((c j = a ∧ c (nxC m j) = b) ∨ (c j = b ∧ c (nxC m j) = a))) (fun j _ hj e => q ⟨j, hj, e⟩)]; rfl
theorem r_runsInside (h : RB g n X Y) (hN : Near X Y n) (hc : Cor n m c) (hp : PR g c m) {a b : Nat} (ha : a < n) (hb : b < n) : zev mX12_runsInside 0 [.ref 250, .int (nI a), .int (nI b)] g = some (some (.int (bI (riB X Y c m a b))), g) := by
  have hn := h.1
  have m9 := hc.1
  have ka := hN a ha
  have kb := hN b hb
  rw [uX12_runsInside_0, r_isSide hp (by omega) (by omega) (fun j hj => by have := hc.2.1 j hj; omega) (by omega) (by omega), zaI_some, bI_0]
  have z := zall (F := fun i => zev mX12_runsInside 13 [.ref 250, .int (nI a), .int (nI b), .int (nI i)] g) (R0 := some (some (.int 0), g)) (R1 := some (some (.int (bI (xorR (fun i => hz X Y (X a + X b) (Y a + Y b) (c i) (c (nxC m i))) m))), g)) (n := m) (Q := fun i => crs (oXY X Y) a b (c i) (c (nxC m i)) = false) (fun i hi => by
    have r := r_cornerAt hp (by omega) (by omega) hi
    show zev mX12_runsInside 13 [.ref 250, .int (nI a), .int (nI b), .int (nI i)] g = _
    rw [uX12_runsInside_13, hp.1, decide_eq_false (nI_ge (a := i) (b := m) hi (by omega)), r.1, zaI_some, nI_1, r.2, zaI_some, r_doCross h hN ha hb (hc.2.1 i hi) (hc.2.1 _ (nx_lt (by omega))), zaI_some, bI_0, cdec_bf]
    rfl) (by
    show zev mX12_runsInside 13 [.ref 250, .int (nI a), .int (nI b), .int (nI m)] g = _
    rw [uX12_runsInside_13, hp.1, decide_eq_true (nI_le (Nat.le_refl m) (by omega)), r_x h ha, zaI_some, r_x h hb, zaI_some, r_y h ha, zaI_some, r_y h hb, zaI_some, cI_add, cI_add, r_isInside h hN hc hp (by omega) (by omega), zaI_some, bI_bit]
    rfl) m 0 (by omega)
  have zz : zev mX12_runsInside 13 [.ref 250, .int (nI a), .int (nI b), .int 0] g = cond (cdec (∀ i, i < m → crs (oXY X Y) a b (c i) (c (nxC m i)) = false)) (some (some (.int (bI (xorR (fun i => hz X Y (X a + X b) (Y a + Y b) (c i) (c (nxC m i))) m))), g)) (some (some (.int 0), g)) := by
    refine Eq.trans z ?_
    rw [cdec_cg (q := ∀ i, i < m → crs (oXY X Y) a b (c i) (c (nxC m i)) = false) ⟨fun y i hi => y i (by omega) hi, fun y i _ hi => y i hi⟩]
  rw [zz]
  unfold riB
  cases cdec (∃ i, i < m ∧ ((c i = a ∧ c (nxC m i) = b) ∨ (c i = b ∧ c (nxC m i) = a))) <;> cases cdec (∀ i, i < m → crs (oXY X Y) a b (c i) (c (nxC m i)) = false) <;> rfl
theorem wr3_1 (g : zIJ) (c m b c' : Nat) : zsL (wr3 g c m b) 250 10 (lN c') = wr3 g c' m b := by
  unfold wr3
  refine Prod.ext rfl ?_
  funext k j
  simp only [zL_at]
  by_cases e : k = 250
  · by_cases e1 : j = 12
    · simp [e, e1]
    by_cases e2 : j = 11
    · simp [e, e2]
    by_cases e3 : j = 10
    · simp [e, e3]
    simp [e, e1, e2, e3]
  · simp [e]
/-- one more edge that runs inside -/
noncomputable def upP (X Y : Nat → Int) (c : Nat → Nat) (m a b t : Nat) : Nat := t ||| cond (riB X Y c m (c a) (c b)) (2 ^ eN (c a) (c b)) 0
theorem r_sp55 (h : RB g n X Y) (hN : Near X Y n) (hc : Cor n m c) (hp : PR g c m) {a b : Nat} (hab : a < b) (hb : b < m) (t : Nat) : zev mX12_splits 55 [.ref 250, .int (nI a), .int (nI b)] (wr3 g t 0 0) = zev mX12_splits 55 [.ref 250, .int (nI a), .int (nI (b + 1))] (wr3 g (upP X Y c m a b t) 0 0) := by
  have hn := h.1
  have m9 := hc.1
  have h' : RB (wr3 g t 0 0) n X Y := rb_of h rfl
  have hp' : PR (wr3 g t 0 0) c m := hp
  have ca := hc.2.1 a (by omega)
  have cb := hc.2.1 b hb
  have ne : c a ≠ c b := fun z => by have := hc.2.2 _ _ (by omega) hb z; omega
  have e36 := eN_lt (by omega : c a < 9) (by omega : c b < 9) ne
  rw [uX12_splits_55, hp'.1, decide_eq_false (nI_ge (a := b) (b := m) hb (by omega)), zin_n (by omega : a < 9) (by omega), zin_n (by omega : b < 9) (by omega), nI_clamp (by omega : a < 2 ^ 31), nI_clamp (by omega : b < 2 ^ 31), hp'.2 a (by omega), hp'.2 b hb, r_runsInside h' hN hc hp' ca cb, zaI_some, bI_0, hp'.2 a (by omega), hp'.2 b hb, r_edge _ (by omega) (by omega) ne, zaI_some, bit_l (by omega : eN (c a) (c b) < 63), wr3_10, lN_or, or0_l, nI_1, nI_1, wr3_1, wr3_1]
  unfold upP
  cases riB X Y c m (c a) (c b) with
  | false =>
    show _ = zev mX12_splits 55 _ (wr3 g (t ||| 0) 0 0)
    rw [or_zero]; rfl
  | true => rfl
theorem r_sp42 (h : RB g n X Y) (hN : Near X Y n) (hc : Cor n m c) (hp : PR g c m) {a : Nat} (ha : a < m) (t : Nat) : zev mX12_splits 42 [.ref 250, .int (nI a)] (wr3 g t 0 0) = zev mX12_splits 42 [.ref 250, .int (nI (a + 1))] (wr3 g (itr (fun b t => upP X Y c m a b t) (m - (a + 1)) (a + 1) t) 0 0) := by
  have hn := h.1
  have m9 := hc.1
  have hp' : ∀ t, (wr3 g t 0 0).1 250 22 = nI m := fun t => hp.1
  rw [uX12_splits_42, hp', decide_eq_false (nI_ge (a := a) (b := m) ha (by omega)), nI_1]
  refine zit (F := fun b t => zev mX12_splits 55 [.ref 250, .int (nI a), .int (nI b)] (wr3 g t 0 0)) (lo := a + 1) (n := m) (R := fun t => zev mX12_splits 42 [.ref 250, .int (nI (a + 1))] (wr3 g t 0 0)) (h := fun b t => upP X Y c m a b t) (fun b t h1 h2 => r_sp55 h hN hc hp (by omega) h2 t) (fun t => ?_) (m - (a + 1)) (a + 1) t (Nat.le_refl _) (by omega)
  rw [uX12_splits_55, hp', decide_eq_true (nI_le (Nat.le_refl m) (by omega)), nI_1]
  rfl
theorem can_all (hc : Cor n m c) (hn : n ≤ 9) : itr (fun a t => itr (fun b t => upP X Y c m a b t) (m - (a + 1)) (a + 1) t) m 0 0 = canP X Y c m := by
  have m9 := hc.1
  have row : ∀ a t f, (itr (fun b t => upP X Y c m a b t) (m - (a + 1)) (a + 1) t).testBit f = (t.testBit f || cdec (∃ b, a + 1 ≤ b ∧ b < a + 1 + (m - (a + 1)) ∧ (decide (f = eN (c a) (c b)) && riB X Y c m (c a) (c b)) = true)) := fun a t f => itr_bit (p := fun t => t) (q := fun b f => decide (f = eN (c a) (c b)) && riB X Y c m (c a) (c b)) (fun b t f => by
    show (upP X Y c m a b t).testBit f = _
    unfold upP
    exact or_c _) (m - (a + 1)) (a + 1) t f
  have all : ∀ f, (itr (fun a t => itr (fun b t => upP X Y c m a b t) (m - (a + 1)) (a + 1) t) m 0 0).testBit f = (Nat.testBit 0 f || cdec (∃ a, 0 ≤ a ∧ a < 0 + m ∧ cdec (∃ b, a + 1 ≤ b ∧ b < a + 1 + (m - (a + 1)) ∧ (decide (f = eN (c a) (c b)) && riB X Y c m (c a) (c b)) = true) = true)) := fun f => itr_bit (p := fun t => t) (q := fun a f => cdec (∃ b, a + 1 ≤ b ∧ b < a + 1 + (m - (a + 1)) ∧ (decide (f = eN (c a) (c b)) && riB X Y c m (c a) (c b)) = true)) (h := fun a t => itr (fun b t => upP X Y c m a b t) (m - (a + 1)) (a + 1) t) (fun a t f => row a t f) m 0 0 f
  have key : ∀ f, (itr (fun a t => itr (fun b t => upP X Y c m a b t) (m - (a + 1)) (a + 1) t) m 0 0).testBit f = true ↔ ∃ k l, k < l ∧ l < m ∧ riB X Y c m (c k) (c l) = true ∧ f = eN (c k) (c l) := by
    intro f
    rw [all f, Nat.zero_testBit, Bool.false_or]
    constructor
    · intro q
      obtain ⟨a, _, _, q⟩ := cdec_of q
      obtain ⟨b, q1, q2, q3⟩ := cdec_of q
      rw [Bool.and_eq_true, decide_eq_true_iff] at q3
      exact ⟨a, b, by omega, by omega, q3.2, q3.1⟩
    · intro ⟨a, b, q1, q2, q3, q4⟩
      exact cdec_t ⟨a, by omega, by omega, cdec_t ⟨b, by omega, by omega, by rw [Bool.and_eq_true, decide_eq_true_iff]; exact ⟨q4, q3⟩⟩⟩
  refine Nat.eq_of_testBit_eq (fun f => Bool.eq_iff_iff.mpr ?_)
  rw [key f]
  unfold canP
  rw [mkM_at, Bool.and_eq_true, decide_eq_true_iff]
  refine ⟨fun q => ⟨?_, cdec_t q⟩, fun q => cdec_of q.2⟩
  obtain ⟨k, l, h1, h2, _, h4⟩ := q
  have kn := hc.2.1 k (by omega)
  have ln := hc.2.1 l h2
  rw [h4]
  exact eN_lt (by omega) (by omega) (fun z => by have := hc.2.2 _ _ (by omega) h2 z; omega)
theorem r_splits (h : RB g n X Y) (hN : Near X Y n) (hG : GP X Y n) (hd : Dist X Y n) (hc : Cor n m c) (hs : SOK X Y m c) (hp : PR g c m) : ∃ g', (zaV (zev mX12_readsCrossings 0 [.ref 250] (zsI g 250 15 0)) fun g3 => zev mX12_splits 42 [.ref 250, .int 0] (zsL (zsL (zsL g3 250 10 0) 250 11 0) 250 12 0)) = some (some (.int (nI (SCD m (DcN X Y c m) 9 0 (m - 1)))), g') ∧ zFr tLi g g' ∧ g'.1 250 15 = 0 := by
  have hn := h.1
  have m9 := hc.1
  have h1 : RB (zsI g 250 15 0) n X Y := by
    unfold RB
    rw [zI_row _ _ (by decide : (251 : Nat) ≠ 250)]
    exact h
  obtain ⟨g2, r1, r2, r3, r4⟩ := r_reads h1 hN hG
  have h2 : RB g2 n X Y := rb_of h1 r2
  have p2 : PR g2 c m := by
    refine ⟨?_, fun j hj => ?_⟩
    · rw [r2, zI_col _ _ (by decide : (22 : Nat) ≠ 15)]; exact hp.1
    · rw [r2, zI_row _ _ (by decide : (300 : Nat) ≠ 250)]; exact hp.2 j hj
  have cnt := spl_count hN hG hd hn hc hs
  have le := sc_le (m := m) (D := DcN X Y c m) (i := 0) (j := m - 1) (by omega) (by omega)
  have lp := zit (F := fun a t => zev mX12_splits 42 [.ref 250, .int (nI a)] (wr3 g2 t 0 0)) (lo := 0) (n := m) (R := fun t => zaV (zev mX12_lists 0 [.ref 250, .long 0, .int 36] (zsI (wr3 g2 t 0 0) 250 14 0)) fun g1 => some (some (.int (g1.1 250 14)), g1)) (h := fun a t => itr (fun b t => upP X Y c m a b t) (m - (a + 1)) (a + 1) t) (fun a t _ ha => r_sp42 h2 hN hc p2 ha t) (fun t => by
    show zev mX12_splits 42 [.ref 250, .int (nI m)] (wr3 g2 t 0 0) = _
    rw [uX12_splits_42, show (wr3 g2 t 0 0).1 250 22 = nI m from p2.1, decide_eq_true (nI_le (Nat.le_refl m) (by omega))]; rfl) m 0 0 (Nat.le_refl _) (by omega)
  rw [can_all (X := X) (Y := Y) hc hn] at lp
  have rl : RLs (zsI (wr3 g2 (canP X Y c m) 0 0) 250 14 0) (canP X Y c m) 0 0 (crM X Y n) := by
    refine ⟨show (wr3 g2 (canP X Y c m) 0 0).2 250 10 = lN (canP X Y c m) from wr3_10 _ _ _ _, show (wr3 g2 (canP X Y c m) 0 0).2 250 11 = lN 0 from wr3_11 _ _ _ _, show (wr3 g2 (canP X Y c m) 0 0).2 250 12 = lN 0 from wr3_12 _ _ _ _, fun k hk hck => ?_, fun k => crM_lt k⟩
    show (wr3 g2 (canP X Y c m) 0 0).2 296 k = _
    unfold wr3
    rw [zL_row _ _ (by decide : (296 : Nat) ≠ 250), zL_row _ _ (by decide : (296 : Nat) ≠ 250), zL_row _ _ (by decide : (296 : Nat) ≠ 250)]
    refine r4 k hk ?_
    obtain ⟨i, j, q1, q2, _, q4⟩ := (can_cc hG hn hc k).mp hck
    have C := cc_cor (X := X) (Y := Y) hc
    have i1 := C.2.1 i (by omega)
    have j1 := C.2.1 j q2
    rw [q4, can_uv (by omega) (by omega) (fun z => by have := C.2.2 _ _ (by omega) q2 z; omega), decide_eq_true i1, decide_eq_true j1]; rfl
  have ls := r_lists 36 0 (zsI (wr3 g2 (canP X Y c m) 0 0) 250 14 0) 0 (Nat.le_refl _) rl (zI_same _ _ _ _) (by omega)
  have f1 : zFr tLi g (zsI g 250 15 0) := fr_I g _ rfl
  have f2 : zFr tLi (zsI g 250 15 0) g2 := fun k j t => ⟨by rw [r2], by
    by_cases e : k = 296
    · subst e; cases t
    · rw [r3 k e]⟩
  have f3 : zFr tLi g2 (wr3 g2 (canP X Y c m) 0 0) := fr_tr (fr_tr (fr_L _ _ rfl) (fr_L _ _ rfl)) (fr_L _ _ rfl)
  have f4 : zFr tLi (wr3 g2 (canP X Y c m) 0 0) (zsI (wr3 g2 (canP X Y c m) 0 0) 250 14 0) := fr_I _ _ rfl
  refine ⟨pushs (zsI (wr3 g2 (canP X Y c m) 0 0) 250 14 0) 0 (LSt (canP X Y c m) 0 0 (crM X Y n) 36 0), ?_, fr_tr f1 (fr_tr f2 (fr_tr f3 (fr_tr f4 (pushs_fr _ _ 0)))), ?_⟩
  · rw [r1, zaV_some]
    refine Eq.trans lp ?_
    show (zaV (zev mX12_lists 0 [.ref 250, .long (lN 0), .int (nI 36)] (zsI (wr3 g2 (canP X Y c m) 0 0) 250 14 0)) fun g1 => some (some (.int (g1.1 250 14)), g1)) = _
    have pn := pushs_n (LSt (canP X Y c m) 0 0 (crM X Y n) 36 0) (zsI (wr3 g2 (canP X Y c m) 0 0) 250 14 0) 0 (zI_same _ _ _ _)
    rw [Nat.zero_add, cnt] at pn
    rw [ls, zaV_some, pn]
  · have keep : ∀ (l : List Nat) (g : zIJ) (N : Nat), (pushs g N l).1 250 15 = g.1 250 15 := by
      intro l
      induction l with
      | nil => intro g N; rfl
      | cons x xs ih =>
        intro g N
        show (pushs (push g N x) (N + 1) xs).1 250 15 = _
        rw [ih]
        exact zI_col _ _ (by decide)
    rw [keep, zI_col _ _ (by decide : (15 : Nat) ≠ 14)]
    show g2.1 250 15 = 0
    rw [r2, zI_same]
end
theorem p_splits (a : Int32) : PairC (fun g => zev mX11_splits 0 [.ref 3, .int a] g) (fun g => zev mX12_splits 0 [.ref 250, .int a] g) := by
  intro σ g t hw h ht
  obtain ⟨g1, x1, f1, c1, k1⟩ := c_refP hw h ht a
  cases wp : whyP σ a with
  | some k =>
    have k8 := whyP_some wp
    obtain ⟨w1, w2, w3⟩ := nI_whyI k8
    refine ⟨fI k, fdn σ k, wfs_fdn hw k, ?_, fun g' r => ?_⟩
    · show COk (zev mX11_splits 0 _ g) _ _ _ _
      rw [uX11_splits_0, x1, zaI_some, wp, w1]
      exact cok_le (cok_find (k := k) c1 f1 k8) (by omega : t + 1 ≤ t + 2)
    · show ROk (zev mX12_splits 0 _ g') _ _ _
      obtain ⟨g2, x2, f2, r2, _⟩ := r_whyP hw r a
      rw [uX12_splits_0, x2, zaI_some, wp, w2]
      exact rok_find (k := k) r2 hw (fr_ud f2 (fun a b q => by have := of_decide_eq_true q; omega)) k8
  | none =>
    obtain ⟨q, hq, e, pq, ip, ps⟩ := k1 wp
    subst e
    refine ⟨.int (nI (SCD (σ.si q) (DcN (XS σ.s) (YS σ.s) (cN (σ.ce q)) (σ.si q)) 9 0 (σ.si q - 1))), σ, hw, ?_, fun g' r => ?_⟩
    · show COk (zev mX11_splits 0 _ g) _ _ _ _
      obtain ⟨g2, x2, f2⟩ := c_splitCount ip.2.1 (pol_cor pq) ps
      have fw : zFr tW g1 g2 := fr_ud f2 (fun a b z => by have := of_decide_eq_true z; omega)
      rw [uX11_splits_0, x1, zaI_some, wp, x2]
      exact cok_of (cip_ci (cip_w ip fw)) (fr_tr f1 (fr_wc fw)) (by omega)
    · show ROk (zev mX12_splits 0 _ g') _ _ _
      obtain ⟨g2, x2, f2, r2, pr⟩ := r_whyP hw r (nI q)
      have pp := pr q hq rfl pq (whyP_none hq wp).2
      have P := hw.1.2.1
      obtain ⟨g3, x3, f3, e3⟩ := r_splits (rb_s r2.1.1 hw.1) P.2.1 P.2.2.1 P.2.2.2.1 (pol_cor pq) pq.2.2 pp
      have fb : ∀ k j, tLi k j = true → (k = 296 ∨ k = 297 ∨ (k = 250 ∧ (j = 10 ∨ j = 11 ∨ j = 12 ∨ j = 14 ∨ j = 15))) := fun k j q => by
        simp only [tLi, Bool.and_eq_true, Bool.or_eq_true, Nat.beq_eq] at q
        omega
      rw [uX12_splits_0, x2, zaI_some, wp]
      refine ⟨g3, ?_, fr_tr (fr_ud f2 (fun a b q => by have := of_decide_eq_true q; omega)) (fr_ud f3 (fun a b q => by have := fb a b q; omega)), ri0_fr r2.1 hw (fr_ud f3 (fun a b q => by have := fb a b q; omega)), Or.inl e3⟩
      exact x3
