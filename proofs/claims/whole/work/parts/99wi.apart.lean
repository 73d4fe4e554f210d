/-! apart: both searches. -/
noncomputable def wL (s : Nat → Int32) (x : Nat) : Nat := (nsL s).getD x 0
def NbF (s : Nat → Int32) (x y : Nat) : Prop := ∃ f, f < 36 ∧ eHi f < nS s ∧ y < (nsL s).length ∧ x < (nsL s).length ∧ flV s (wL s x) f = nI y
theorem pow2_inj {f f' : Nat} (h : 2 ^ f = 2 ^ f') : f = f' := by
  have := congrArg (fun x => Nat.testBit x f) h
  have t : Nat.testBit (2 ^ f) f = Nat.testBit (2 ^ f') f := this
  rw [Nat.testBit_two_pow, Nat.testBit_two_pow, decide_eq_true rfl] at t
  exact (of_decide_eq_true t.symm).symm
theorem wL_at {s : Nat → Int32} {x : Nat} (h : x < (nsL s).length) : wL s x = (nsL s)[x] := getD_at _ _ h
theorem bi_le {Nb : Nat → Nat → Prop} {N k : Nat} {dz q : Nat → Nat} {m at' : Nat} (h : BI Nb N k dz q m at') {y : Nat} (hy : y < N) : dz y ≤ N := by
  by_cases z : dz y = 0
  · omega
  · obtain ⟨i, hi, e⟩ := h.2.2.2.1 y hy z
    have := (h.2.2.2.2.2.2.2.1 i hi).2
    have := h.1.2
    rw [e] at *
    omega
theorem dz_0 {d : Nat} (h : d ≤ 5000) : decide (0 ≤ cI ((d : Int) - 1)) = decide (d ≠ 0) := by
  have e : (0 ≤ cI ((d : Int) - 1)) ↔ d ≠ 0 := by
    rw [cI_0, cI_le (by unfold Sml; omega) (by unfold Sml; omega)]
    omega
  exact decide_eq_decide.mpr e
theorem dz_1 {d : Nat} (h : d ≤ 5000) : decide (cI ((d : Int) - 1) < 0) = decide (d = 0) := by
  have e : (cI ((d : Int) - 1) < 0) ↔ d = 0 := by
    rw [cI_0, cI_lt (by unfold Sml; omega) (by unfold Sml; omega)]
    omega
  exact decide_eq_decide.mpr e
theorem dz_s (d : Nat) : cI ((d : Int) - 1) + 1 = cI (((d + 1 : Nat) : Int) - 1) := by
  show cI ((d : Int) - 1) + cI 1 = _
  rw [cI_add]
  congr 1
  omega
def MemC (g : zIJ) (N : Nat) (dz q : Nat → Nat) (m : Nat) : Prop := g.1 223 2 = nI m ∧ (∀ x, x < N → g.1 224 x = cI ((dz x : Int) - 1)) ∧ ∀ i, i < m → g.1 225 i = nI (q i)
def tSr (k _j : Nat) : Bool := decide (223 ≤ k ∧ k ≤ 225)
theorem cin_sr {g g' : zIJ} {σ : zS} {t : Nat} (h : CIn g σ t) (f : zFr tSr g g') : CIn g' σ t := cin_w h (fr_ud f (fun k j q => by have := of_decide_eq_true q; omega))
theorem c_smeet {g : zIJ} {N : Nat} {dz q : Nat → Nat} {m y d : Nat} (h : MemC g N dz q m) (hN : N ≤ 800) (hy : y < N) (hz : dz y = 0) (hm : m < N) : ∃ g', zev mX1_meet 0 [.ref 223, .int (nI y), .int (cI (((d + 1 : Nat) : Int) - 1))] g = some (none, g') ∧ zFr tSr g g' ∧ MemC g' N (updN dz y (d + 1)) (updN q m y) (m + 1) := by
  obtain ⟨h1, h2, h3⟩ := h
  refine ⟨zsI (zsI (zsI g 224 y (cI (((d + 1 : Nat) : Int) - 1))) 225 m (nI y)) 223 2 (nI (m + 1)), ?_, fr_tr (fr_tr (fr_I g _ rfl) (fr_I _ _ rfl)) (fr_I _ _ rfl), zI_same _ _ _ _, fun x hx => ?_, fun i hi => ?_⟩
  · rw [uX1_meet_0, zin_n (by omega : y < 800) (by omega), nI_clamp (by omega : y < 2 ^ 31), h2 y hy, dz_0 (by omega), hz, h1, show decide (800 ≤ nI m) = false from decide_eq_false (nI_ge (a := m) (b := 800) (by omega) (by omega)), show ∀ v, (zsI g 224 y v).1 223 2 = nI m from fun v => h1, zin_n (by omega : m < 800) (by omega), nI_clamp (by omega : m < 2 ^ 31), show ∀ v, (zsI (zsI g 224 y v) 225 m (nI y)).1 223 2 = nI m from fun v => h1, nI_1]
    rfl
  · rw [zI_at, if_neg (by omega), zI_at, if_neg (by omega), zI_at]
    by_cases e : x = y
    · rw [if_pos ⟨rfl, e⟩, e, updN_y]
    · rw [if_neg (fun z => e z.2), updN_o e]; exact h2 x hx
  · rw [zI_at, if_neg (by omega), zI_at]
    by_cases e : i = m
    · rw [if_pos ⟨rfl, e⟩, e, updN_y]
    · rw [if_neg (fun z => e z.2), zI_at, if_neg (by omega), updN_o e]; exact h3 i (by omega)
theorem c_around {g : zIJ} {σ : zS} {t k : Nat} {dz q : Nat → Nat} {m at' : Nat} (hs : Wfs σ) (h : CIn g σ t) (hm : MemC g (nsL σ.s).length dz q m) (hb : BI (NbF σ.s) (nsL σ.s).length k dz q m at') (ha : at' < m) : ∃ g' dz' q' m', zev mX1_meetAround 0 [.ref 223, .int (nI (q at')), .ref 219, .ref 211] g = some (none, g') ∧ zFr tSr g g' ∧ MemC g' (nsL σ.s).length dz' q' m' ∧ BI (NbF σ.s) (nsL σ.s).length k dz' q' m' (at' + 1) := by
  have ok := nsL_ok hs.1
  have l8 := ok.1
  obtain ⟨x, ex⟩ : ∃ x, x = q at' := ⟨_, rfl⟩
  have xN : x < (nsL σ.s).length := by rw [ex]; exact (hb.2.1 at' ha).1
  obtain ⟨w, ew⟩ : ∃ w, w = wL σ.s x := ⟨_, rfl⟩
  have ew2 : w = (nsL σ.s)[x] := by rw [ew, wL_at xN]
  have wm : w ∈ nsL σ.s := by rw [ew2]; exact List.getElem_mem xN
  have w36 := ok.2.2 _ wm
  rw [← ex, uX1_meetAround_0, zin_n (by omega : x < 800) (by omega), nI_clamp (by omega : x < 2 ^ 31), h.2.1.2 x xN, ← ew2]
  refine zloop (F := fun e g1 => zev mX1_meetAround 11 [.ref 223, .int (nI x), .ref 219, .ref 211, .long (lN w), .int (nI e)] g1) (I := fun e g1 => ∃ dz q m, MemC g1 (nsL σ.s).length dz q m ∧ BI (NbF σ.s) (nsL σ.s).length k dz q m at' ∧ at' < m ∧ q at' = x ∧ zFr tSr g g1 ∧ ∀ e', e' < e → ∀ f y, gvU σ.s w e' = 2 ^ f → flV σ.s w f = nI y → y < (nsL σ.s).length → dz y ≠ 0) (Post := fun r => ∃ g' dz' q' m', r = some (none, g') ∧ zFr tSr g g' ∧ MemC g' (nsL σ.s).length dz' q' m' ∧ BI (NbF σ.s) (nsL σ.s).length k dz' q' m' (at' + 1)) (lo := 0) (n := 36) (fun e g1 _ he I1 => ?_) (fun g1 I1 => ?_) 36 0 g (Nat.le_refl _) (by omega) ⟨dz, q, m, hm, hb, ha, ex.symm, fr_refl _ g, fun e' he' => by omega⟩
  · obtain ⟨dz, q, m, m1, b1, a1, q1, f1, cv⟩ := I1
    have n1 := cin_sr h f1
    have vl : gvU σ.s w e < 2 ^ 64 := Nat.lt_trans (gv_lt w36 e) (by omega)
    have gen : zev mX1_meetAround 11 [.ref 223, .int (nI x), .ref 219, .ref 211, .long (lN w), .int (nI e)] g1 = cond (decide (gvU σ.s w e = 0)) (zev mX1_meetAround 11 [.ref 223, .int (nI x), .ref 219, .ref 211, .long (lN w), .int (nI (e + 1))] g1) (cond (decide (numL (nsL σ.s) (lN (w ^^^ gvU σ.s w e ^^^ 2 ^ e)) < 0)) (zev mX1_meetAround 11 [.ref 223, .int (nI x), .ref 219, .ref 211, .long (lN w), .int (nI (e + 1))] g1) (zaV (zev mX1_meet 0 [.ref 223, .int (numL (nsL σ.s) (lN (w ^^^ gvU σ.s w e ^^^ 2 ^ e))), .int (cI (((dz x + 1 : Nat) : Int) - 1))] g1) fun g5 => zev mX1_meetAround 11 [.ref 223, .int (nI x), .ref 219, .ref 211, .long (lN w), .int (nI (e + 1))] g5)) := by
      rw [uX1_meetAround_11, lit36 he, c_givenUp n1 w36 he, zaL_some, cmp_eq, lN_0 vl, bit_l (by omega : e < 63), lN_xor', lN_xor', c_find ok n1.2.1, zaI_some, zin_n (by omega : x < 800) (by omega), nI_clamp (by omega : x < 2 ^ 31), m1.2.1 x xN, dz_s]
      simp only [nI_1]
      cases decide (gvU σ.s w e = 0) <;> rfl
    rcases gv_or (s := σ.s) (w := w) e with z | ⟨f, z⟩
    · rw [z] at gen
      refine ⟨g1, gen, dz, q, m, m1, b1, a1, q1, f1, fun e' he' f y h1 => ?_⟩
      by_cases ee : e' = e
      · rw [ee, z] at h1
        have : 0 < 2 ^ f := Nat.two_pow_pos f
        omega
      · exact cv e' (by omega) f y h1
    · have f36 : f < 36 := by
        refine Nat.lt_of_not_le (fun y => ?_)
        have g1 := gv_lt (s := σ.s) w36 e
        have g2 : 2 ^ 36 ≤ 2 ^ f := Nat.pow_le_pow_right (by omega) y
        omega
      obtain ⟨fx, mk⟩ := (gv_iff hs.1 wm he f36).mp z
      obtain ⟨y, hy, _, ny⟩ := num_in hs.1 ((nw_in hs.1 wm fx).mpr mk)
      have fv := flV_t hs.1 wm fx
      have p0 : 2 ^ f ≠ 0 := Nat.ne_of_gt (Nat.two_pow_pos f)
      have ny' : numL (nsL σ.s) (lN (w ^^^ 2 ^ f ^^^ 2 ^ e)) = nI y := ny
      rw [z, decide_eq_false p0, ny', show decide (nI y < 0) = false from decide_eq_false (nI_n0 (by omega))] at gen
      have nb : NbF σ.s (q at') y := ⟨f, f36, (fx_hi hs.1 wm fx).2.1, hy, by rw [q1]; exact xN, by rw [q1, ← ew, fv, ny]⟩
      have cov : ∀ (dz' : Nat → Nat), (∀ y, dz y ≠ 0 → dz' y ≠ 0) → dz' y ≠ 0 → ∀ e', e' < e + 1 → ∀ f y, gvU σ.s w e' = 2 ^ f → flV σ.s w f = nI y → y < (nsL σ.s).length → dz' y ≠ 0 := by
        intro dz' mono dy e' he' f' y' h1 h2 h3
        by_cases ee : e' = e
        · rw [ee, z] at h1
          have ff : f = f' := pow2_inj h1
          subst ff
          rw [fv, ny] at h2
          have := of_decide_eq_true (by rw [← nI_de (by omega : y < 2 ^ 31) (by omega : y' < 2 ^ 31)]; exact decide_eq_true h2 : decide (y = y') = true)
          rw [← this]; exact dy
        · exact mono y' (cv e' (by omega) f' y' h1 h2 h3)
      by_cases dy : dz y = 0
      · have lt := bi_lt b1 hy dy
        obtain ⟨g5, x5, f5, m5⟩ := c_smeet (d := dz x) m1 l8 hy dy lt
        obtain ⟨b5, d5, q5⟩ := bi_meet b1 a1 hy nb dy
        rw [q1] at b5 d5
        have nyx : updN dz y (dz x + 1) y ≠ 0 := by rw [updN_y]; omega
        refine ⟨g5, ?_, updN dz y (dz x + 1), updN q m y, m + 1, m5, b5, by omega, by rw [q5 at' a1, q1], fr_tr f1 f5, cov _ (fun y hy => by rw [d5 y hy]; exact hy) nyx⟩
        refine gen.trans ?_
        show zaV (zev mX1_meet 0 [.ref 223, .int (nI y), .int (cI (((dz x + 1 : Nat) : Int) - 1))] g1) _ = _
        rw [x5, zaV_some]
      · refine ⟨g1, ?_, dz, q, m, m1, b1, a1, q1, f1, cov dz (fun y hy => hy) dy⟩
        refine gen.trans ?_
        show zaV (zev mX1_meet 0 [.ref 223, .int (nI y), .int (cI (((dz x + 1 : Nat) : Int) - 1))] g1) _ = _
        have le := bi_le b1 hy
        rw [uX1_meet_0, zin_n (by omega : y < 800) (by omega), nI_clamp (by omega : y < 2 ^ 31), m1.2.1 y hy, dz_0 (by omega), decide_eq_true dy]
        rfl
  · obtain ⟨dz, q, m, m1, b1, a1, q1, f1, cv⟩ := I1
    refine ⟨g1, dz, q, m, ?_, f1, m1, bi_next b1 a1 (fun y ny => ?_)⟩
    · rw [uX1_meetAround_11]; rfl
    · obtain ⟨f, n1, n2, n3, n4, n5⟩ := ny
      refine ⟨n3, ?_⟩
      rw [q1, ← ew] at n5
      have nn : decide (flV σ.s w f < 0) = false := by rw [n5]; exact decide_eq_false (nI_n0 (by omega))
      obtain ⟨e, he, hg⟩ := (flV_nn hs.1 wm n1).mp nn
      exact cv e he f y hg n5 n3
theorem nb_N (s : Nat → Int32) : ∀ x y, NbF s x y → y < (nsL s).length := fun _ _ ⟨_, _, _, h, _⟩ => h
theorem c_fewest {g : zIJ} {σ : zS} {t k l : Nat} (hs : Wfs σ) (h : CIn g σ t) (hk : k < (nsL σ.s).length) (hl : l < (nsL σ.s).length) : ∃ (g' : zIJ) (z : Nat), zev mX1_fewest 0 [.ref 223, .int (nI k), .int (nI l), .ref 219, .ref 211] g = some (some (.int (cI ((z : Int) - 1))), g') ∧ zFr tSr g g' ∧ Ans (NbF σ.s) k l z ∧ z ≤ 800 := by
  have ok := nsL_ok hs.1
  have l8 := ok.1
  obtain ⟨g1, x1, v1, f1⟩ := fill_i (t := 224) (N := 800) rfl (by omega) (-1) g
  have f1' : zFr tSr g g1 := fr_ud f1 (fun a b q => by
    simp only [Bool.and_eq_true, Nat.beq_eq] at q
    omega)
  have m0 : MemC (zsI g1 223 2 0) (nsL σ.s).length (fun _ => 0) (fun _ => k) 0 := ⟨zI_same _ _ _ _, fun x hx => by
    rw [zI_at, if_neg (by omega), v1 x (by omega)]; rfl, fun i hi => by omega⟩
  obtain ⟨g2, x2, f2, m2⟩ := c_smeet (d := 0) m0 l8 hk rfl (by omega)
  have q0 : updN (fun _ => k) 0 k = fun _ => k := by
    funext i
    unfold updN
    split <;> rfl
  rw [q0] at m2
  have b2 : BI (NbF σ.s) (nsL σ.s).length k (updN (fun _ => 0) k 1) (fun _ => k) 1 0 := bi_start hk
  rw [uX1_fewest_0, x1, zaV_some]
  show ∃ (g' : zIJ) (z : Nat), (zaV (zev mX1_meet 0 [.ref 223, .int (nI k), .int (cI (((0 + 1 : Nat) : Int) - 1))] (zsI g1 223 2 0)) _) = _ ∧ _
  rw [x2, zaV_some]
  have fin : ∀ (c a : Nat) (g3 : zIJ) (dz q : Nat → Nat) (m : Nat), (nsL σ.s).length ≤ a + c → zFr tSr g g3 → MemC g3 (nsL σ.s).length dz q m → BI (NbF σ.s) (nsL σ.s).length k dz q m a → ∃ (g' : zIJ) (z : Nat), zev mX1_fewest 22 [.ref 223, .int (nI l), .ref 219, .ref 211, .int (nI a)] g3 = some (some (.int (cI ((z : Int) - 1))), g') ∧ zFr tSr g g' ∧ Ans (NbF σ.s) k l z ∧ z ≤ 800 := by
    intro c
    induction c with
    | zero =>
      intro a g3 dz q m hc f3 m3 b3
      have hm := b3.1
      have an := bi_ans b3 (nb_N σ.s) hl (Or.inl (by omega))
      refine ⟨g3, dz l, ?_, f3, an.1, by omega⟩
      rw [uX1_fewest_22, m3.1, decide_eq_true (nI_le (by omega : m ≤ a) (by omega)), zin_n (by omega : l < 800) (by omega), nI_clamp (by omega : l < 2 ^ 31), m3.2.1 l hl]; rfl
    | succ c ih =>
      intro a g3 dz q m hc f3 m3 b3
      have hm := b3.1
      by_cases ma : m ≤ a
      · have an := bi_ans b3 (nb_N σ.s) hl (Or.inl ma)
        refine ⟨g3, dz l, ?_, f3, an.1, by omega⟩
        rw [uX1_fewest_22, m3.1, decide_eq_true (nI_le ma (by omega)), zin_n (by omega : l < 800) (by omega), nI_clamp (by omega : l < 2 ^ 31), m3.2.1 l hl]; rfl
      · have le := bi_le b3 hl
        by_cases dl : dz l = 0
        · obtain ⟨g4, dz', q', m', x4, f4, m4, b4⟩ := c_around hs (cin_sr h f3) m3 b3 (by omega)
          obtain ⟨g', z, e, r⟩ := ih (a + 1) g4 dz' q' m' (by omega) (fr_tr f3 f4) m4 b4
          refine ⟨g', z, ?_, r⟩
          rw [uX1_fewest_22, m3.1, decide_eq_false (nI_ge (a := a) (b := m) (by omega) (by omega)), show decide (800 ≤ nI a) = false from decide_eq_false (nI_ge (a := a) (b := 800) (by omega) (by omega)), zin_n (by omega : l < 800) (by omega), nI_clamp (by omega : l < 2 ^ 31), m3.2.1 l hl, dz_0 (by omega), decide_eq_false (show ¬ dz l ≠ 0 from fun y => y dl), zin_n (by omega : a < 800) (by omega), nI_clamp (by omega : a < 2 ^ 31), m3.2.2 a (by omega), x4, zaV_some, nI_1]
          exact e
        · have an := bi_ans b3 (nb_N σ.s) hl (Or.inr dl)
          refine ⟨g3, dz l, ?_, f3, an.1, by omega⟩
          rw [uX1_fewest_22, m3.1, decide_eq_false (nI_ge (a := a) (b := m) (by omega) (by omega)), show decide (800 ≤ nI a) = false from decide_eq_false (nI_ge (a := a) (b := 800) (by omega) (by omega)), zin_n (by omega : l < 800) (by omega), nI_clamp (by omega : l < 2 ^ 31), m3.2.1 l hl, dz_0 (by omega), decide_eq_true dl]; rfl
  exact fin (nsL σ.s).length 0 g2 _ _ 1 (by omega) (fr_tr f1' (fr_tr (fr_I g1 0 rfl) f2)) m2 b2
