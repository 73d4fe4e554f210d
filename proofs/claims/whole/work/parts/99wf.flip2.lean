/-! Flips: both sides. -/
noncomputable def gvU (s : Nat → Int32) (w e : Nat) : Nat := cond (cdec (∃ f, crM (XS s) (YS s) (nS s) e &&& w = 2 ^ f) && (decide ((crM (XS s) (YS s) (nS s) e &&& w) &&& mM s 1 = 0) && !(mM s 2).testBit e)) (crM (XS s) (YS s) (nS s) e &&& w) 0
def FlX (s : Nat → Int32) (w f e : Nat) : Prop := e < 36 ∧ crM (XS s) (YS s) (nS s) e &&& w = 2 ^ f
theorem bcN_le (x : Nat) : bcN x ≤ 40 := by
  have := sumR_c (h := fun i => cond (x.testBit i) 1 0) (v := 1) 40 (fun i _ => by show cond (x.testBit i) 1 0 ≤ 1; cases x.testBit i <;> decide)
  unfold bcN
  omega
theorem c_givenUp {g : zIJ} {σ : zS} {t w e : Nat} (h : CIn g σ t) (hw : w < 2 ^ 36) (he : e < 36) : zev mX3_givenUpFor 0 [.ref 219, .int (nI e), .long (lN w), .ref 211] g = some (some (.long (lN (gvU σ.s w e))), g) := by
  have xl : crM (XS σ.s) (YS σ.s) (nS σ.s) e &&& w < 2 ^ 36 := Nat.lt_of_le_of_lt Nat.and_le_right hw
  have bc := bcN_le (crM (XS σ.s) (YS σ.s) (nS σ.s) e &&& w)
  rw [uX3_givenUpFor_0, zin_n he (by omega), nI_clamp (by omega : e < 2 ^ 31), h.1.2.1.2.2.2.2.2.1 e he, lN_and, j_bitCount g (Nat.lt_trans xl (by omega)), zaI_some, h.2.2.2.1, h.2.2.2.2, lN_and, cmp_eq, lN_0 (Nat.lt_of_le_of_lt Nat.and_le_left (Nat.lt_trans xl (by omega))), c_holds g (mM σ.s 2) (by omega : e < 64), zaI_some, bI_0, show decide (nI (bcN (crM (XS σ.s) (YS σ.s) (nS σ.s) e &&& w)) = 1) = cdec (∃ f, crM (XS σ.s) (YS σ.s) (nS σ.s) e &&& w = 2 ^ f) from ?_]
  · unfold gvU
    cases cdec (∃ f, crM (XS σ.s) (YS σ.s) (nS σ.s) e &&& w = 2 ^ f) <;> cases decide ((crM (XS σ.s) (YS σ.s) (nS σ.s) e &&& w) &&& mM σ.s 1 = 0) <;> cases (mM σ.s 2).testBit e <;> rfl
  · rw [show (1 : Int32) = nI 1 from rfl, nI_de (by omega) (by omega)]
    by_cases q : bcN (crM (XS σ.s) (YS σ.s) (nS σ.s) e &&& w) = 1
    · rw [decide_eq_true q, cdec_t ((bc_one xl).mp q)]
    · rw [decide_eq_false q, cdec_f (fun z => q ((bc_one xl).mpr z))]
section
variable {s : Nat → Int32} {w f e : Nat}
theorem fx_hi (hs : Wf s) (hw : w ∈ nsL s) (h : FlX s w f e) : f < 36 ∧ eHi f < nS s ∧ eHi e < nS s ∧ w.testBit f = true := by
  obtain ⟨_, w36, wN, _⟩ := nsL_in hs hw
  have b : (crM (XS s) (YS s) (nS s) e &&& w).testBit f = true := by rw [h.2, Nat.testBit_two_pow, decide_eq_true rfl]
  rw [Nat.testBit_and, Bool.and_eq_true] at b
  have f36 := t_36 w36 b.2
  refine ⟨f36, nsL_hi hs hw f f36 b.2, ?_, b.2⟩
  have := b.1
  rw [crM_at f36, Bool.and_eq_true] at this
  exact of_decide_eq_true this.1
theorem fx_flt (hs : Wf s) (hw : w ∈ nsL s) (h : FlX s w f e) : FlT (XS s) (YS s) (nS s) w (eLo f) (eHi f) (eLo e) (eHi e) := by
  obtain ⟨h1, h2, h3, h4⟩ := fx_hi hs hw h
  obtain ⟨_, w36, wN, _⟩ := nsL_in hs hw
  obtain ⟨f1, f2, f3, f4, f5⟩ := edge_of h1
  obtain ⟨e1, e2, e3, e4, e5⟩ := edge_of h.1
  refine of_flt hs.2.1.2.2.1 hs.2.1.2.2.2.1 hs.2.1.1 w36 wN (by omega) h2 (by omega) h3 (by omega) (by omega) ?_
  rw [f3, e3]; exact h.2
theorem flt_fx (hs : Wf s) (hw : w ∈ nsL s) {a b c d : Nat} (ha : a < nS s) (hb : b < nS s) (hc : c < nS s) (hd : d < nS s) (nab : a ≠ b) (ncd : c ≠ d) (h : FlT (XS s) (YS s) (nS s) w a b c d) : FlX s w (eN a b) (eN c d) := by
  obtain ⟨_, w36, wN, _⟩ := nsL_in hs hw
  have := hs.2.1.1
  exact ⟨eN_lt (by omega) (by omega) ncd, flt_of hs.2.1.2.2.1 hs.2.1.1 w36 wN ha hb hc hd nab ncd h⟩
theorem fx_uq (hs : Wf s) (hw : w ∈ nsL s) {e' : Nat} (h : FlX s w f e) (h' : FlX s w f e') : e = e' := by
  obtain ⟨h1, h2, h3, h4⟩ := fx_hi hs hw h
  obtain ⟨_, _, k3, _⟩ := fx_hi hs hw h'
  obtain ⟨_, w36, wN, _⟩ := nsL_in hs hw
  obtain ⟨f1, f2, f3, f4, f5⟩ := edge_of h1
  obtain ⟨e1, e2, e3, e4, e5⟩ := edge_of h.1
  obtain ⟨d1, d2, d3, d4, d5⟩ := edge_of h'.1
  rcases flt_uq hs.2.1.2.2.1 hs.2.1.1 w36 wN (by omega) h2 (by omega) h3 (by omega) k3 (by omega) (fx_flt hs hw h) (fx_flt hs hw h') with ⟨z1, z2⟩ | ⟨z1, z2⟩
  · rw [← e3, ← d3, z1, z2]
  · omega
def nwF (w f e : Nat) : Nat := w ^^^ 2 ^ f ^^^ 2 ^ e
theorem nw_in (hs : Wf s) (hw : w ∈ nsL s) (h : FlX s w f e) : nwF w f e ∈ nsL s ↔ ((mM s 1).testBit f = false ∧ (mM s 2).testBit e = false) := by
  obtain ⟨h1, h2, h3, h4⟩ := fx_hi hs hw h
  obtain ⟨n3, w36, wN, wm, wb⟩ := nsL_in hs hw
  obtain ⟨p1, p2, p3, p4, p5⟩ := hs.2.1
  obtain ⟨q1, q2, q3, q4, _⟩ := flip_net p3 p4 p1 w36 wN h.1 h.2
  have bits := fun i => flip_bits q3 q4 i
  have nfe : f ≠ e := fun z => by rw [z, q3] at q4; exact absurd q4 (by decide)
  have blt : Nat.blt (nS s) 3 = false := by
    cases z : Nat.blt (nS s) 3 with
    | false => rfl
    | true => have := Nat.blt_eq.mp z; omega
  have mem : nwF w f e ∈ nsL s ↔ (nwF w f e < 2 ^ 36 ∧ Net (oXY (XS s) (YS s)) (List.range (nS s)) (Em (nwF w f e)) ∧ (∀ k, (mM s 1).testBit k = true → (nwF w f e).testBit k = true) ∧ ∀ k, (mM s 2).testBit k = true → (nwF w f e).testBit k = false) := by
    unfold nsL netsOf
    rw [blt]
    exact netL_mem p3 p1 (mM_can hs.2.2.1 (by decide))
  rw [mem]
  constructor
  · intro ⟨_, _, m1, m2⟩
    constructor
    · cases z : (mM s 1).testBit f with
      | false => rfl
      | true =>
        have := m1 f z
        rw [show (nwF w f e).testBit f = _ from bits f, decide_eq_true rfl, decide_eq_false nfe, q4] at this
        exact absurd this (by decide)
    · cases z : (mM s 2).testBit e with
      | false => rfl
      | true =>
        have := m2 e z
        rw [show (nwF w f e).testBit e = _ from bits e, decide_eq_true (rfl : e = e), Bool.or_true] at this
        exact absurd this (by decide)
  · intro ⟨m1, m2⟩
    refine ⟨q1, q2, fun k z => ?_, fun k z => ?_⟩
    · have nk : k ≠ f := fun y => by rw [y, m1] at z; exact absurd z (by decide)
      rw [show (nwF w f e).testBit k = _ from bits k, wm k z, decide_eq_false nk]; rfl
    · have nk : k ≠ e := fun y => by rw [y, m2] at z; exact absurd z (by decide)
      rw [show (nwF w f e).testBit k = _ from bits k, wb k z, decide_eq_false nk]; rfl
noncomputable def flV (s : Nat → Int32) (w f : Nat) : Int32 := @dite Int32 (∃ e, FlX s w f e) (Classical.propDecidable _) (fun h => numL (nsL s) (lN (nwF w f (Classical.choose h)))) (fun _ => -1)
theorem flV_t (hs : Wf s) (hw : w ∈ nsL s) (h : FlX s w f e) : flV s w f = numL (nsL s) (lN (nwF w f e)) := by
  have ex : ∃ e, FlX s w f e := ⟨e, h⟩
  unfold flV
  rw [dif_pos ex, fx_uq hs hw (Classical.choose_spec ex) h]
theorem flV_f (h : ¬ ∃ e, FlX s w f e) : flV s w f = -1 := by
  unfold flV
  rw [dif_neg h]
theorem num_no (hs : Wf s) {x : Nat} (hx : x < 2 ^ 36) (h : x ∉ nsL s) : numL (nsL s) (lN x) = -1 := by
  have ok := nsL_ok hs
  rcases numL_or ok (lN x) with ⟨i, hi, e1, _⟩ | ⟨_, e⟩
  · have := ok.2.2 _ (List.getElem_mem hi)
    rw [lN_inj (Nat.lt_trans this (by omega)) (Nat.lt_trans hx (by omega))] at e1
    exact absurd (e1 ▸ List.getElem_mem hi) h
  · exact e
theorem num_in (hs : Wf s) {x : Nat} (h : x ∈ nsL s) : ∃ i, ∃ hi : i < (nsL s).length, (nsL s)[i] = x ∧ numL (nsL s) (lN x) = nI i := by
  have ok := nsL_ok hs
  have hx := ok.2.2 _ h
  rcases numL_or ok (lN x) with ⟨i, hi, e1, e2⟩ | ⟨no, _⟩
  · have := ok.2.2 _ (List.getElem_mem hi)
    rw [lN_inj (Nat.lt_trans this (by omega)) (Nat.lt_trans hx (by omega))] at e1
    exact ⟨i, hi, e1, e2⟩
  · obtain ⟨i, hi, e⟩ := List.getElem_of_mem h
    exact absurd (by rw [e]) (no i hi)
theorem nw_lt (hs : Wf s) (hw : w ∈ nsL s) (h : FlX s w f e) : nwF w f e < 2 ^ 36 := by
  obtain ⟨n3, w36, wN, wm, wb⟩ := nsL_in hs hw
  obtain ⟨p1, p2, p3, p4, p5⟩ := hs.2.1
  exact (flip_net p3 p4 p1 w36 wN h.1 h.2).1
/-- what goes when e comes -/
theorem gv_iff (hs : Wf s) (hw : w ∈ nsL s) (he : e < 36) (hf : f < 36) : gvU s w e = 2 ^ f ↔ (FlX s w f e ∧ (mM s 1).testBit f = false ∧ (mM s 2).testBit e = false) := by
  have an : ∀ f', ((2 ^ f' &&& mM s 1 = 0) ↔ (mM s 1).testBit f' = false) := fun f' => by
    constructor
    · intro z
      have : (2 ^ f' &&& mM s 1).testBit f' = false := by rw [z, Nat.zero_testBit]
      rw [Nat.testBit_and, Nat.testBit_two_pow, decide_eq_true rfl] at this
      exact this
    · intro z
      apply Nat.eq_of_testBit_eq
      intro i
      rw [Nat.zero_testBit, Nat.testBit_and, Nat.testBit_two_pow]
      by_cases e : f' = i
      · rw [← e, z, Bool.and_false]
      · rw [decide_eq_false e]; rfl
  constructor
  · intro h
    unfold gvU at h
    cases q : (cdec (∃ f, crM (XS s) (YS s) (nS s) e &&& w = 2 ^ f) && (decide ((crM (XS s) (YS s) (nS s) e &&& w) &&& mM s 1 = 0) && !(mM s 2).testBit e)) with
    | false =>
      rw [q] at h
      have : 0 < 2 ^ f := Nat.two_pow_pos f
      have h' : 0 = 2 ^ f := h
      omega
    | true =>
      rw [q] at h
      have h' : crM (XS s) (YS s) (nS s) e &&& w = 2 ^ f := h
      rw [h'] at q
      simp only [Bool.and_eq_true, decide_eq_true_eq, Bool.not_eq_true'] at q
      exact ⟨⟨he, h'⟩, (an f).mp q.2.1, q.2.2⟩
  · intro ⟨h1, h2, h3⟩
    unfold gvU
    rw [cdec_t ⟨f, h1.2⟩, h1.2, decide_eq_true ((an f).mpr h2), h3]; rfl
theorem gv_or (e : Nat) : gvU s w e = 0 ∨ ∃ f, gvU s w e = 2 ^ f := by
  unfold gvU
  cases q : (cdec (∃ f, crM (XS s) (YS s) (nS s) e &&& w = 2 ^ f) && (decide ((crM (XS s) (YS s) (nS s) e &&& w) &&& mM s 1 = 0) && !(mM s 2).testBit e)) with
  | false => exact Or.inl rfl
  | true =>
    rw [Bool.and_eq_true] at q
    exact Or.inr (cdec_of q.1)
theorem gv_lt (hw : w < 2 ^ 36) (e : Nat) : gvU s w e < 2 ^ 36 := by
  unfold gvU
  cases (cdec (∃ f, crM (XS s) (YS s) (nS s) e &&& w = 2 ^ f) && (decide ((crM (XS s) (YS s) (nS s) e &&& w) &&& mM s 1 = 0) && !(mM s 2).testBit e))
  · exact Nat.two_pow_pos 36
  · exact Nat.lt_of_le_of_lt Nat.and_le_right hw
end
theorem c_flipped {g : zIJ} {σ : zS} {t k f w : Nat} (hs : Wfs σ) (h : CIn g σ t) (hk : k < (nsL σ.s).length) (ew : w = (nsL σ.s)[k]) (hf : f < 36) : zev mX3_flipped 0 [.ref 219, .int (nI k), .int (nI f), .ref 211] g = some (some (.int (flV σ.s w f)), g) := by
  have ok := nsL_ok hs.1
  have wm : w ∈ nsL σ.s := by rw [ew]; exact List.getElem_mem hk
  have w36 := ok.2.2 _ wm
  have l8 := ok.1
  have p63 : ∀ x, x < 36 → 2 ^ x < 2 ^ 64 := fun x hx => Nat.pow_lt_pow_right (by omega) (by omega)
  rw [uX3_flipped_0, bit_l (by omega : f < 63)]
  rcases zfind (F := fun e => zev mX3_flipped 8 [.ref 219, .int (nI k), .ref 211, .long (lN (2 ^ f)), .int (nI e)] g) (R := fun e => some (some (.int (numL (nsL σ.s) (lN (nwF w f e)))), g)) (Rn := some (some (.int (-1)), g)) (n := 36) (Q := fun e => gvU σ.s w e = 2 ^ f) (fun e he => by
      show zev mX3_flipped 8 _ g = _
      rw [uX3_flipped_8, lit36 he, zin_n (by omega : k < 800) (by omega), nI_clamp (by omega : k < 2 ^ 31), h.2.1.2 k hk, ← ew, c_givenUp h w36 he, zaL_some, cmp_eq, nI_1, bit_l (by omega : e < 63), h.2.1.2 k hk, ← ew, lN_xor', lN_xor', c_find ok h.2.1, zaI_some]
      have dd : decide (lN (gvU σ.s w e) = lN (2 ^ f)) = cdec (gvU σ.s w e = 2 ^ f) := by
        have ii := lN_inj (x := gvU σ.s w e) (y := 2 ^ f) (Nat.lt_trans (gv_lt w36 e) (by omega)) (p63 f hf)
        by_cases q : gvU σ.s w e = 2 ^ f
        · rw [cdec_t q, decide_eq_true (ii.mpr q)]
        · rw [cdec_f q, decide_eq_false (fun z => q (ii.mp z))]
      rw [dd]
      cases cdec (gvU σ.s w e = 2 ^ f) <;> rfl) (by show zev mX3_flipped 8 _ g = _; rw [uX3_flipped_8]; rfl) 36 0 (by omega) with ⟨no, e1⟩ | ⟨j, _, hj, qj, _, e1⟩
  · refine Eq.trans e1 ?_
    by_cases q : ∃ e, FlX σ.s w f e
    · obtain ⟨e, he⟩ := q
      rw [flV_t hs.1 wm he, num_no hs.1 (nw_lt hs.1 wm he) (fun z => ?_)]
      exact no e (by omega) he.1 ((gv_iff hs.1 wm he.1 hf).mpr ⟨he, (nw_in hs.1 wm he).mp z⟩)
    · rw [flV_f q]
  · refine Eq.trans e1 ?_
    rw [flV_t hs.1 wm ((gv_iff hs.1 wm hj hf).mp qj).1]
theorem r_flipped {g : zIJ} {σ : zS} {k w a b : Nat} (hs : Wfs σ) (h : RIn g σ) (hk : k < (nsL σ.s).length) (ew : w = (nsL σ.s)[k]) (ha : a < nS σ.s) (hb : b < nS σ.s) (nab : a ≠ b) : zev mX12_flipped 0 [.ref 250, .int (nI k), .int (nI a), .int (nI b)] g = some (some (.int (flV σ.s w (eN a b))), g) := by
  have ok := nsL_ok hs.1
  have wm : w ∈ nsL σ.s := by rw [ew]; exact List.getElem_mem hk
  have w36 := ok.2.2 _ wm
  have l8 := ok.1
  have hn := wf_n hs.1
  have rb := rb_s h.1.1 hs.1
  have hN := hs.1.2.1.2.1
  have f36 := eN_lt (by omega : a < 9) (by omega : b < 9) nab
  have e97 : g.2 297 k = lN w := by rw [ew]; exact h.2.2.2 k hk
  rw [uX12_flipped_0, zin_n (by omega : k < 5000) (by omega), nI_clamp (by omega : k < 2 ^ 31), e97, r_edge g (by omega : a < 9) (by omega : b < 9) nab, zaI_some, r_has g w (by omega : eN a b < 64), zaI_some, bI_0]
  cases wf : w.testBit (eN a b) with
  | false =>
    have no : ¬ ∃ e, FlX σ.s w (eN a b) e := fun ⟨e, he⟩ => by
      rw [(fx_hi hs.1 wm he).2.2.2] at wf
      exact absurd wf (by decide)
    rw [flV_f no]; rfl
  | true =>
    obtain ⟨RES, eR⟩ : ∃ R : Option zRes, R = some (some (.int (flV σ.s w (eN a b))), g) := ⟨_, rfl⟩
    have good : ∀ c d, c < nS σ.s → d < nS σ.s → c ≠ d → FlT (XS σ.s) (YS σ.s) (nS σ.s) w a b c d → zev mX12_numberOf 0 [.ref 250, .long ((lN w &&& (lN (2 ^ eN a b) ^^^ (-1))) ||| lN (2 ^ eN c d))] g = some (some (.int (flV σ.s w (eN a b))), g) := by
      intro c d hc hd ncd ft
      have fx := flt_fx hs.1 wm ha hb hc hd nab ncd ft
      obtain ⟨p1, p2, p3, p4, p5⟩ := hs.1.2.1
      obtain ⟨_, _, wN, _⟩ := nsL_in hs.1 wm
      obtain ⟨q1, q2, q3, q4, _⟩ := flip_net p3 p4 p1 w36 wN fx.1 fx.2
      have e1 : (w &&& (w ^^^ 2 ^ eN a b)) ||| 2 ^ eN c d = nwF w (eN a b) (eN c d) := by
        apply Nat.eq_of_testBit_eq
        intro i
        rw [show (nwF w (eN a b) (eN c d)).testBit i = _ from flip_bits q3 q4 i, Nat.testBit_or, Nat.testBit_and, Nat.testBit_xor, Nat.testBit_two_pow, Nat.testBit_two_pow, show decide (i = eN a b) = decide (eN a b = i) from decide_eq_decide.mpr ⟨Eq.symm, Eq.symm⟩, show decide (i = eN c d) = decide (eN c d = i) from decide_eq_decide.mpr ⟨Eq.symm, Eq.symm⟩]
        cases w.testBit i <;> cases decide (eN a b = i) <;> rfl
      rw [lN_andn, lN_or, e1, r_numberOf ok h.2.2, flV_t hs.1 wm fx]
    have step : ∀ c, c < nS σ.s → (zev mX12_flipped 22 [.ref 250, .int (nI k), .int (nI a), .int (nI b), .int (nI c)] g = RES) ∨ (zev mX12_flipped 22 [.ref 250, .int (nI k), .int (nI a), .int (nI b), .int (nI c)] g = zev mX12_flipped 22 [.ref 250, .int (nI k), .int (nI a), .int (nI b), .int (nI (c + 1))] g ∧ ∀ d, c < d → d < nS σ.s → ¬ FlT (XS σ.s) (YS σ.s) (nS σ.s) w a b c d) := by
      intro c hc
      by_cases c1 : c = a
      · refine Or.inr ⟨?_, fun d _ _ ft => ft.1 c1⟩
        rw [uX12_flipped_22, r_points rb, zaI_some, decide_eq_false (nI_ge (a := c) (b := nS σ.s) hc (by omega)), nI_de (by omega : c < 2 ^ 31) (by omega : a < 2 ^ 31), decide_eq_true c1, nI_1]; rfl
      · by_cases c2 : c = b
        · refine Or.inr ⟨?_, fun d _ _ ft => ft.2.1 c2⟩
          rw [uX12_flipped_22, r_points rb, zaI_some, decide_eq_false (nI_ge (a := c) (b := nS σ.s) hc (by omega)), nI_de (by omega : c < 2 ^ 31) (by omega : a < 2 ^ 31), decide_eq_false c1, nI_de (by omega : c < 2 ^ 31) (by omega : b < 2 ^ 31), decide_eq_true c2, nI_1]; rfl
        · by_cases tc : Tri (XS σ.s) (YS σ.s) (nS σ.s) w a b c
          · have st : zev mX12_flipped 22 [.ref 250, .int (nI k), .int (nI a), .int (nI b), .int (nI c)] g = zev mX12_flipped 69 [.ref 250, .int (nI k), .int (nI a), .int (nI b), .int (nI c), .int (nI (c + 1))] g := by
              rw [uX12_flipped_22, r_points rb, zaI_some, decide_eq_false (nI_ge (a := c) (b := nS σ.s) hc (by omega)), nI_de (by omega : c < 2 ^ 31) (by omega : a < 2 ^ 31), decide_eq_false c1, nI_de (by omega : c < 2 ^ 31) (by omega : b < 2 ^ 31), decide_eq_false c2, zin_n (by omega : k < 5000) (by omega), nI_clamp (by omega : k < 2 ^ 31), e97, r_isTriangle rb hN ha hb hc nab (Ne.symm c1) (Ne.symm c2), zaI_some, cdec_t tc, nI_1]; rfl
            have inn : ∀ (m d : Nat), d + m = nS σ.s → c < d → (zev mX12_flipped 69 [.ref 250, .int (nI k), .int (nI a), .int (nI b), .int (nI c), .int (nI d)] g = RES) ∨ (zev mX12_flipped 69 [.ref 250, .int (nI k), .int (nI a), .int (nI b), .int (nI c), .int (nI d)] g = zev mX12_flipped 22 [.ref 250, .int (nI k), .int (nI a), .int (nI b), .int (nI (c + 1))] g ∧ ∀ d', d ≤ d' → d' < nS σ.s → ¬ FlT (XS σ.s) (YS σ.s) (nS σ.s) w a b c d') := by
              intro m
              induction m with
              | zero =>
                intro d ed lc
                refine Or.inr ⟨?_, fun d' h1 h2 => by omega⟩
                rw [uX12_flipped_69, r_points rb, zaI_some, decide_eq_true (nI_le (by omega : nS σ.s ≤ d) (by omega)), nI_1]; rfl
              | succ m ih =>
                intro d ed lc
                have hd : d < nS σ.s := by omega
                have skip : zev mX12_flipped 69 [.ref 250, .int (nI k), .int (nI a), .int (nI b), .int (nI c), .int (nI d)] g = zev mX12_flipped 69 [.ref 250, .int (nI k), .int (nI a), .int (nI b), .int (nI c), .int (nI (d + 1))] g → ¬ FlT (XS σ.s) (YS σ.s) (nS σ.s) w a b c d → (zev mX12_flipped 69 [.ref 250, .int (nI k), .int (nI a), .int (nI b), .int (nI c), .int (nI d)] g = RES) ∨ (zev mX12_flipped 69 [.ref 250, .int (nI k), .int (nI a), .int (nI b), .int (nI c), .int (nI d)] g = zev mX12_flipped 22 [.ref 250, .int (nI k), .int (nI a), .int (nI b), .int (nI (c + 1))] g ∧ ∀ d', d ≤ d' → d' < nS σ.s → ¬ FlT (XS σ.s) (YS σ.s) (nS σ.s) w a b c d') := by
                  intro e1 nf
                  rcases ih (d + 1) (by omega) (by omega) with r | ⟨r1, r2⟩
                  · exact Or.inl (e1.trans r)
                  · refine Or.inr ⟨e1.trans r1, fun d' h1 h2 => ?_⟩
                    by_cases z : d' = d
                    · rw [z]; exact nf
                    · exact r2 d' (by omega) h2
                by_cases d1 : d = a
                · refine skip ?_ (fun ft => ft.2.2.1 d1)
                  rw [uX12_flipped_69, r_points rb, zaI_some, decide_eq_false (nI_ge (a := d) (b := nS σ.s) hd (by omega)), nI_de (by omega : d < 2 ^ 31) (by omega : a < 2 ^ 31), decide_eq_true d1]
                  simp only [nI_1]
                  rfl
                · by_cases d2 : d = b
                  · refine skip ?_ (fun ft => ft.2.2.2.1 d2)
                    rw [uX12_flipped_69, r_points rb, zaI_some, decide_eq_false (nI_ge (a := d) (b := nS σ.s) hd (by omega)), nI_de (by omega : d < 2 ^ 31) (by omega : a < 2 ^ 31), decide_eq_false d1, nI_de (by omega : d < 2 ^ 31) (by omega : b < 2 ^ 31), decide_eq_true d2]
                    simp only [nI_1]
                    rfl
                  · have cd : c ≠ d := by omega
                    have gen : zev mX12_flipped 69 [.ref 250, .int (nI k), .int (nI a), .int (nI b), .int (nI c), .int (nI d)] g = cond (cdec (Tri (XS σ.s) (YS σ.s) (nS σ.s) w a b d) && crs (oXY (XS σ.s) (YS σ.s)) a b c d) (zaI (zev mX12_numberOf 0 [.ref 250, .long ((lN w &&& (lN (2 ^ eN a b) ^^^ (-1))) ||| lN (2 ^ eN c d))] g) fun x12 g11 => some (some (.int x12), g11)) (zev mX12_flipped 69 [.ref 250, .int (nI k), .int (nI a), .int (nI b), .int (nI c), .int (nI (d + 1))] g) := by
                      have e36 := eN_lt (by omega : c < 9) (by omega : d < 9) cd
                      rw [uX12_flipped_69, r_points rb, zaI_some, decide_eq_false (nI_ge (a := d) (b := nS σ.s) hd (by omega)), nI_de (by omega : d < 2 ^ 31) (by omega : a < 2 ^ 31), decide_eq_false d1, nI_de (by omega : d < 2 ^ 31) (by omega : b < 2 ^ 31), decide_eq_false d2, zin_n (by omega : k < 5000) (by omega), nI_clamp (by omega : k < 2 ^ 31), e97, r_isTriangle rb hN ha hb hd nab (Ne.symm d1) (Ne.symm d2), zaI_some, bI_0, r_doCross rb hN ha hb hc hd, zaI_some, bI_0, r_edge g (by omega : a < 9) (by omega : b < 9) nab, zaI_some, r_edge g (by omega : c < 9) (by omega : d < 9) cd, zaI_some, bit_l (by omega : eN a b < 63), bit_l (by omega : eN c d < 63), e97]
                      simp only [nI_1]
                      cases cdec (Tri (XS σ.s) (YS σ.s) (nS σ.s) w a b d) <;> cases crs (oXY (XS σ.s) (YS σ.s)) a b c d <;> rfl
                    cases q : (cdec (Tri (XS σ.s) (YS σ.s) (nS σ.s) w a b d) && crs (oXY (XS σ.s) (YS σ.s)) a b c d) with
                    | true =>
                      rw [q] at gen
                      rw [Bool.and_eq_true] at q
                      refine Or.inl (gen.trans ?_)
                      show zaI (zev mX12_numberOf 0 [.ref 250, .long ((lN w &&& (lN (2 ^ eN a b) ^^^ (-1))) ||| lN (2 ^ eN c d))] g) _ = _
                      rw [good c d hc hd cd ⟨c1, c2, d1, d2, tc, cdec_of q.1, q.2⟩, zaI_some, eR]
                    | false =>
                      rw [q] at gen
                      refine skip gen (fun ft => ?_)
                      rw [cdec_t ft.2.2.2.2.2.1, ft.2.2.2.2.2.2] at q
                      exact absurd q (by decide)
            rcases inn (nS σ.s - (c + 1)) (c + 1) (by omega) (by omega) with r | ⟨r1, r2⟩
            · exact Or.inl (st.trans r)
            · exact Or.inr ⟨st.trans r1, fun d h1 h2 => r2 d (by omega) h2⟩
          · refine Or.inr ⟨?_, fun d _ _ ft => tc ft.2.2.2.2.1⟩
            rw [uX12_flipped_22, r_points rb, zaI_some, decide_eq_false (nI_ge (a := c) (b := nS σ.s) hc (by omega)), nI_de (by omega : c < 2 ^ 31) (by omega : a < 2 ^ 31), decide_eq_false c1, nI_de (by omega : c < 2 ^ 31) (by omega : b < 2 ^ 31), decide_eq_false c2, zin_n (by omega : k < 5000) (by omega), nI_clamp (by omega : k < 2 ^ 31), e97, r_isTriangle rb hN ha hb hc nab (Ne.symm c1) (Ne.symm c2), zaI_some, cdec_f tc, nI_1]; rfl
    have all : ∀ (m c : Nat), c + m = nS σ.s → (zev mX12_flipped 22 [.ref 250, .int (nI k), .int (nI a), .int (nI b), .int (nI c)] g = RES) ∨ (zev mX12_flipped 22 [.ref 250, .int (nI k), .int (nI a), .int (nI b), .int (nI c)] g = some (some (.int (-1)), g) ∧ ∀ c' d, c ≤ c' → c' < d → d < nS σ.s → ¬ FlT (XS σ.s) (YS σ.s) (nS σ.s) w a b c' d) := by
      intro m
      induction m with
      | zero =>
        intro c ec
        refine Or.inr ⟨?_, fun c' d h1 h2 h3 => by omega⟩
        rw [uX12_flipped_22, r_points rb, zaI_some, decide_eq_true (nI_le (by omega : nS σ.s ≤ c) (by omega))]; rfl
      | succ m ih =>
        intro c ec
        rcases step c (by omega) with r | ⟨r1, r2⟩
        · exact Or.inl r
        · rcases ih (c + 1) (by omega) with y | ⟨y1, y2⟩
          · exact Or.inl (r1.trans y)
          · refine Or.inr ⟨r1.trans y1, fun c' d h1 h2 h3 => ?_⟩
            by_cases z : c' = c
            · rw [z]; exact r2 d (by omega) h3
            · exact y2 c' d (by omega) h2 h3
    show zev mX12_flipped 22 [.ref 250, .int (nI k), .int (nI a), .int (nI b), .int (nI 0)] g = _
    rcases all (nS σ.s) 0 (by omega) with r | ⟨r1, r2⟩
    · rw [r, eR]
    · have no : ¬ ∃ e, FlX σ.s w (eN a b) e := fun ⟨e, he⟩ => by
        obtain ⟨x1, x2, x3, x4⟩ := fx_hi hs.1 wm he
        obtain ⟨e1, e2, e3, e4, e5⟩ := edge_of he.1
        obtain ⟨_, _, wN, _⟩ := nsL_in hs.1 wm
        refine r2 (eLo e) (eHi e) (by omega) e1 x3 (of_flt hs.1.2.1.2.2.1 hs.1.2.1.2.2.2.1 hs.1.2.1.1 w36 wN ha hb (by omega) x3 nab (by omega) ?_)
        rw [e3]; exact he.2
      rw [r1, flV_f no]
