/-! flips and flip. -/
section
variable {s : Nat → Int32} {w f : Nat}
theorem flV_nn (hs : Wf s) (hw : w ∈ nsL s) (hf : f < 36) : decide (flV s w f < 0) = false ↔ ∃ e, e < 36 ∧ gvU s w e = 2 ^ f := by
  have l8 := (nsL_ok hs).1
  constructor
  · intro h
    by_cases q : ∃ e, FlX s w f e
    · obtain ⟨e, he⟩ := q
      by_cases z : nwF w f e ∈ nsL s
      · exact ⟨e, he.1, (gv_iff hs hw he.1 hf).mpr ⟨he, (nw_in hs hw he).mp z⟩⟩
      · rw [flV_t hs hw he, num_no hs (nw_lt hs hw he) z] at h
        exact absurd h (by decide)
    · rw [flV_f q] at h
      exact absurd h (by decide)
  · intro ⟨e, he, h⟩
    obtain ⟨h1, h2⟩ := (gv_iff hs hw he hf).mp h
    obtain ⟨i, hi, _, e2⟩ := num_in hs ((nw_in hs hw h1).mpr h2)
    rw [flV_t hs hw h1, e2]
    exact decide_eq_false (nI_n0 (by omega))
theorem flV_or (hs : Wf s) (hw : w ∈ nsL s) : flV s w f = -1 ∨ ∃ i, ∃ hi : i < (nsL s).length, flV s w f = nI i := by
  by_cases q : ∃ e, FlX s w f e
  · obtain ⟨e, he⟩ := q
    rw [flV_t hs hw he]
    by_cases z : nwF w f e ∈ nsL s
    · obtain ⟨i, hi, _, e2⟩ := num_in hs z
      exact Or.inr ⟨i, hi, e2⟩
    · exact Or.inl (num_no hs (nw_lt hs hw he) z)
  · exact Or.inl (flV_f q)
theorem itr_or (G : Nat → Nat) (b : Nat) : ∀ (k i s : Nat), (itr (fun e acc => acc ||| G e) k i s).testBit b = true ↔ (s.testBit b = true ∨ ∃ e, i ≤ e ∧ e < i + k ∧ (G e).testBit b = true)
  | 0, i, s => by
    show s.testBit b = true ↔ _
    exact ⟨Or.inl, fun h => by
      rcases h with h | ⟨e, h1, h2, _⟩
      · exact h
      · omega⟩
  | k + 1, i, s => by
    show (itr (fun e acc => acc ||| G e) k (i + 1) (s ||| G i)).testBit b = true ↔ _
    rw [itr_or G b k (i + 1) (s ||| G i), Nat.testBit_or, Bool.or_eq_true]
    constructor
    · intro h
      rcases h with (h | h) | ⟨e, h1, h2, h3⟩
      · exact Or.inl h
      · exact Or.inr ⟨i, by omega, by omega, h⟩
      · exact Or.inr ⟨e, by omega, by omega, h3⟩
    · intro h
      rcases h with h | ⟨e, h1, h2, h3⟩
      · exact Or.inl (Or.inl h)
      · by_cases z : e = i
        · rw [z] at h3; exact Or.inl (Or.inr h3)
        · exact Or.inr ⟨e, by omega, by omega, h3⟩
theorem itr_or_lt (G : Nat → Nat) (hG : ∀ e, G e < 2 ^ 36) : ∀ (k i s : Nat), s < 2 ^ 36 → itr (fun e acc => acc ||| G e) k i s < 2 ^ 36
  | 0, _, _, h => h
  | k + 1, i, s, h => itr_or_lt G hG k (i + 1) (s ||| G i) (Nat.or_lt_two_pow h (hG i))
/-- the edges ahead of k that can flip -/
noncomputable def flA (s : Nat → Int32) (w k : Nat) : Nat := mkM (fun f => decide (f < k) && (decide (eHi f < nS s) && !decide (flV s w f < 0))) 36
theorem flA_at {k : Nat} (hf : f < 36) : (flA s w k).testBit f = (decide (f < k) && (decide (eHi f < nS s) && !decide (flV s w f < 0))) := by
  unfold flA
  rw [mkM_at, decide_eq_true hf]; rfl
theorem flA_all (hs : Wf s) (hw : w ∈ nsL s) : itr (fun e acc => acc ||| gvU s w e) 36 0 0 = flA s w 36 := by
  have w36 := (nsL_ok hs).2.2 _ hw
  refine bit_ext (n := 36) (itr_or_lt _ (fun e => gv_lt w36 e) 36 0 0 (Nat.two_pow_pos 36)) (mkM_lt _ _) (fun f hf => ?_)
  rw [flA_at hf, decide_eq_true hf]
  have key : (itr (fun e acc => acc ||| gvU s w e) 36 0 0).testBit f = true ↔ (eHi f < nS s ∧ decide (flV s w f < 0) = false) := by
    rw [itr_or, Nat.zero_testBit, flV_nn hs hw hf]
    constructor
    · intro h
      rcases h with h | ⟨e, _, he, h⟩
      · exact absurd h (by decide)
      · rcases gv_or (s := s) (w := w) e with z | ⟨f', z⟩
        · rw [z, Nat.zero_testBit] at h
          exact absurd h (by decide)
        · rw [z, Nat.testBit_two_pow] at h
          have := of_decide_eq_true h
          subst this
          have he' : e < 36 := by omega
          exact ⟨(fx_hi hs hw ((gv_iff hs hw he' hf).mp z).1).2.1, e, he', z⟩
    · intro ⟨_, e, he, h⟩
      exact Or.inr ⟨e, by omega, by omega, by rw [h, Nat.testBit_two_pow, decide_eq_true rfl]⟩
  cases q : (itr (fun e acc => acc ||| gvU s w e) 36 0 0).testBit f with
  | true =>
    obtain ⟨h1, h2⟩ := key.mp q
    rw [decide_eq_true h1, h2]; rfl
  | false =>
    cases z1 : decide (eHi f < nS s) with
    | false => rfl
    | true =>
      cases z2 : decide (flV s w f < 0) with
      | true => rfl
      | false => rw [key.mpr ⟨of_decide_eq_true z1, z2⟩] at q; exact absurd q (by decide)
theorem flA_skip {k l : Nat} (hkl : k ≤ l) (h : ∀ f, f < 36 → k ≤ f → f < l → nS s ≤ eHi f) : flA s w k = flA s w l := by
  refine bit_ext (mkM_lt _ _) (mkM_lt _ _) (fun f hf => ?_)
  rw [flA_at hf, flA_at hf]
  by_cases z : f < k
  · rw [decide_eq_true z, decide_eq_true (by omega : f < l)]
  · rw [decide_eq_false z]
    by_cases y : f < l
    · have := h f hf (by omega) y
      rw [decide_eq_true y, decide_eq_false (by omega : ¬ eHi f < nS s)]; rfl
    · rw [decide_eq_false y]
theorem flA_s {k : Nat} (hk : k < 36) (hh : eHi k < nS s) : flA s w (k + 1) = flA s w k ||| cond (decide (flV s w k < 0)) 0 (2 ^ k) := by
  refine bit_ext (n := 36) (mkM_lt _ _) (Nat.or_lt_two_pow (mkM_lt _ _) (by cases decide (flV s w k < 0); exact Nat.pow_lt_pow_right (by omega) hk; exact Nat.two_pow_pos 36)) (fun f hf => ?_)
  rw [Nat.testBit_or, flA_at hf, flA_at hf]
  by_cases z : f = k
  · subst z
    rw [decide_eq_true (by omega : f < f + 1), decide_eq_false (by omega : ¬ f < f), decide_eq_true hh]
    cases decide (flV s w f < 0)
    · show true = (_ || Nat.testBit (2 ^ f) f)
      rw [Nat.testBit_two_pow, decide_eq_true rfl, Bool.or_true]
    · show false = (_ || Nat.testBit 0 f)
      rw [Nat.zero_testBit]; rfl
  · rw [show decide (f < k + 1) = decide (f < k) from decide_eq_decide.mpr (by omega)]
    cases decide (flV s w k < 0)
    · show _ = (_ || Nat.testBit (2 ^ k) f)
      rw [Nat.testBit_two_pow, decide_eq_false (show ¬ k = f from fun y => z y.symm), Bool.or_false]
    · show _ = (_ || Nat.testBit 0 f)
      rw [Nat.zero_testBit, Bool.or_false]
end
theorem c_flippable {g : zIJ} {σ : zS} {t k w : Nat} (hs : Wfs σ) (h : CIn g σ t) (hk : k < (nsL σ.s).length) (ew : w = (nsL σ.s)[k]) : zev mX3_flippable 0 [.ref 219, .int (nI k), .ref 211] g = some (some (.long (lN (flA σ.s w 36))), g) := by
  have ok := nsL_ok hs.1
  have wm : w ∈ nsL σ.s := by rw [ew]; exact List.getElem_mem hk
  have w36 := ok.2.2 _ wm
  have l8 := ok.1
  have z := ziter (F := fun e acc => zev mX3_flippable 5 [.ref 219, .int (nI k), .ref 211, .long (lN acc), .int (nI e)] g) (R := fun acc => some (some (.long (lN acc)), g)) (n := 36) (h := fun e acc => acc ||| gvU σ.s w e) (fun e acc he => by
    show zev mX3_flippable 5 _ g = zev mX3_flippable 5 _ g
    rw [uX3_flippable_5, lit36 he, zin_n (by omega : k < 800) (by omega), nI_clamp (by omega : k < 2 ^ 31), h.2.1.2 k hk, ← ew, c_givenUp h w36 he, zaL_some, lN_or, nI_1]; rfl) (fun acc => by
    show zev mX3_flippable 5 _ g = _
    rw [uX3_flippable_5]; rfl) 36 0 0 (by omega)
  rw [uX3_flippable_0]
  refine Eq.trans z ?_
  rw [flA_all hs.1 wm]
theorem r_flips {g : zIJ} {σ : zS} {k w : Nat} (hs : Wfs σ) (h : RIn g σ) (hk : k < (nsL σ.s).length) (ew : w = (nsL σ.s)[k]) : zev mX12_flips 19 [.ref 250, .int (nI k), .long (lN 0), .int (nI 0)] g = some (some (.long (lN (flA σ.s w 36))), g) := by
  have hn := wf_n hs.1
  have rb := rb_s h.1.1 hs.1
  have st0 : flA σ.s w (ix 0 1) = 0 := bit_ext (n := 36) (mkM_lt _ _) (Nat.two_pow_pos 36) (fun f hf => by
    rw [flA_at hf, Nat.zero_testBit, decide_eq_false (show ¬ f < ix 0 1 from Nat.not_lt_zero f)]; rfl)
  refine zloop (F := fun a acc => zev mX12_flips 19 [.ref 250, .int (nI k), .long (lN acc), .int (nI a)] g) (I := fun a acc => acc = flA σ.s w (ix a (a + 1))) (Post := fun r => r = some (some (.long (lN (flA σ.s w 36))), g)) (lo := 0) (n := nS σ.s) (fun a acc _ ha I1 => ?_) (fun acc I1 => ?_) (nS σ.s) 0 0 (Nat.le_refl _) (by omega) st0.symm
  · refine ⟨flA σ.s w (ix (a + 1) (a + 2)), ?_, rfl⟩
    have inner : zev mX12_flips 34 [.ref 250, .int (nI k), .long (lN acc), .int (nI a), .int (nI (a + 1))] g = zev mX12_flips 19 [.ref 250, .int (nI k), .long (lN (flA σ.s w (ix (a + 1) (a + 2)))), .int (nI (a + 1))] g := by
      refine zloop (F := fun b acc => zev mX12_flips 34 [.ref 250, .int (nI k), .long (lN acc), .int (nI a), .int (nI b)] g) (I := fun b acc => acc = flA σ.s w (ix a b)) (Post := fun r => r = zev mX12_flips 19 [.ref 250, .int (nI k), .long (lN (flA σ.s w (ix (a + 1) (a + 2)))), .int (nI (a + 1))] g) (lo := a + 1) (n := nS σ.s) (fun b acc lb hb I2 => ?_) (fun acc I2 => ?_) (nS σ.s - (a + 1)) (a + 1) acc (Nat.le_refl _) (by omega) I1
      · have c3 := ix_eN a (by omega) b (by omega) (by omega)
        have nab : a ≠ b := by omega
        have e36 := eN_lt (by omega : a < 9) (by omega : b < 9) nab
        have ea := edge_at (by omega : a < 9) (by omega : b < 9) nab
        have hh : eHi (ix a b) < nS σ.s := by rw [← c3.1, ea.2.2.2.1]; omega
        refine ⟨flA σ.s w (ix a (b + 1)), ?_, rfl⟩
        show zev mX12_flips 34 _ g = zev mX12_flips 34 _ g
        rw [c3.1] at e36
        rw [uX12_flips_34, r_points rb, zaI_some, decide_eq_false (nI_ge (a := b) (b := nS σ.s) hb (by omega)), r_flipped hs h hk ew (by omega) hb nab, zaI_some, r_edge g (by omega : a < 9) (by omega : b < 9) nab, zaI_some, c3.1, bit_l (by omega : ix a b < 63), c3.2, flA_s e36 hh, I2]
        simp only [nI_1]
        cases decide (flV σ.s w (ix a b) < 0)
        · rw [lN_or]; rfl
        · show zev mX12_flips 34 [.ref 250, .int (nI k), .long (lN (flA σ.s w (ix a b)) ||| lN 0), .int (nI a), .int (nI (b + 1))] g = _
          rw [lN_or]; rfl
      · have c1 := ix_chk a (by omega)
        have c2 := ix_le a (by omega) (nS σ.s) (by omega) ha
        show zev mX12_flips 34 _ g = _
        rw [uX12_flips_34, r_points rb, zaI_some, decide_eq_true (nI_le (Nat.le_refl (nS σ.s)) (by omega)), nI_1, I2, ← c1.1, flA_skip c2 (fun f hf h1 h2 => ix_ge (nS σ.s) (by omega) a ha f hf h1 h2)]; rfl
    show zev mX12_flips 19 _ g = _
    rw [uX12_flips_19, r_points rb, zaI_some, decide_eq_false (nI_ge (a := a) (b := nS σ.s) ha (by omega)), nI_1]
    exact inner
  · have c1 := ix_end (nS σ.s) (by omega)
    show zev mX12_flips 19 _ g = _
    rw [uX12_flips_19, r_points rb, zaI_some, decide_eq_true (nI_le (Nat.le_refl (nS σ.s)) (by omega)), I1, flA_skip c1.1 (fun f hf h1 _ => c1.2 f hf h1)]; rfl
theorem p_flips (a : Int32) : PairC (fun g => zev mX11_flips 0 [.ref 3, .int a] g) (fun g => zev mX12_flips 0 [.ref 250, .int a] g) := by
  intro σ g t hw h ht
  have l8 := (nsL_ok hw.1).1
  obtain ⟨g1, x1, f1, n1⟩ := c_isNet hw h ht a
  cases q3 : zin a (nsL σ.s).length with
  | false =>
    refine ⟨fL 3, fdn σ 3, wfs_fdn hw 3, ?_, fun g' r => ?_⟩
    · show COk (zev mX11_flips 0 _ g) _ _ _ _
      rw [uX11_flips_0, x1, zaI_some, q3]
      exact cok_le (cok_findL (k := 3) (cin_ci n1) f1 (by omega)) (by omega : t + 1 ≤ t + 2)
    · show ROk (zev mX12_flips 0 _ g') _ _ _
      obtain ⟨g2, x2, f2, n2⟩ := r_isNet hw r a
      rw [uX12_flips_0, x2, zaI_some, q3]
      exact rok_findL (k := 3) (rin_ri n2) hw f2 (by omega)
  | true =>
    obtain ⟨k, hk, ek⟩ := zin_of q3 (by omega)
    subst ek
    refine ⟨.long (lN (flA σ.s (nsL σ.s)[k] 36)), σ, hw, ?_, fun g' r => ?_⟩
    · show COk (zev mX11_flips 0 _ g) _ _ _ _
      rw [uX11_flips_0, x1, zaI_some, q3, c_flippable hw n1 hk rfl, zaL_some]
      exact cok_of (cin_ci n1) f1 (by omega)
    · show ROk (zev mX12_flips 0 _ g') _ _ _
      obtain ⟨g2, x2, f2, n2⟩ := r_isNet hw r (nI k)
      rw [uX12_flips_0, x2, zaI_some, q3]
      show ROk (zev mX12_flips 19 [.ref 250, .int (nI k), .long (lN 0), .int (nI 0)] g2) _ _ _
      rw [r_flips hw n2 hk rfl]
      exact rok_of (rin_ri n2) f2
theorem p_flip (a b c : Int32) : PairC (fun g => zev mX11_flip 0 [.ref 3, .int a, .int b, .int c] g) (fun g => zev mX12_flip 0 [.ref 250, .int a, .int b, .int c] g) := by
  intro σ g t hw h ht
  have l8 := (nsL_ok hw.1).1
  have hn := wf_n hw.1
  have cb := cb_s h.1.1 hw.1
  cases q1 : (zin b (nS σ.s) && (zin c (nS σ.s) && !decide (b = c))) with
  | false =>
    refine ⟨fI 0, fdn σ 0, wfs_fdn hw 0, ?_, fun g' r => ?_⟩
    · show COk (zev mX11_flip 0 _ g) _ _ _ _
      rw [uX11_flip_0, c_isPair cb, zaI_some, q1]
      exact cok_le (cok_find (k := 0) h (fr_refl _ g) (by omega)) (by omega : t ≤ t + 2)
    · show ROk (zev mX12_flip 0 _ g') _ _ _
      rw [uX12_flip_0, r_areTwo (rb_s r.1.1 hw.1), zaI_some, q1]
      exact rok_find (k := 0) r hw (fr_refl tR g') (by omega)
  | true =>
    obtain ⟨i, j, hi, hj, nij, e1, e2⟩ := two_of hn q1
    subst e1 e2
    have f36 := eN_lt (by omega : i < 9) (by omega : j < 9) nij
    obtain ⟨g1, x1, f1, n1⟩ := c_isNet hw h ht a
    cases q3 : zin a (nsL σ.s).length with
    | false =>
      refine ⟨fI 3, fdn σ 3, wfs_fdn hw 3, ?_, fun g' r => ?_⟩
      · show COk (zev mX11_flip 0 _ g) _ _ _ _
        rw [uX11_flip_0, c_isPair cb, zaI_some, q1, x1, zaI_some, q3]
        exact cok_le (cok_find (k := 3) (cin_ci n1) f1 (by omega)) (by omega : t + 1 ≤ t + 2)
      · show ROk (zev mX12_flip 0 _ g') _ _ _
        obtain ⟨g2, x2, f2, n2⟩ := r_isNet hw r a
        rw [uX12_flip_0, r_areTwo (rb_s r.1.1 hw.1), zaI_some, q1, x2, zaI_some, q3]
        exact rok_find (k := 3) (rin_ri n2) hw f2 (by omega)
    | true =>
      obtain ⟨k, hk, ek⟩ := zin_of q3 (by omega)
      subst ek
      have wm : (nsL σ.s)[k] ∈ nsL σ.s := List.getElem_mem hk
      have cl : zev mX11_flip 0 [.ref 3, .int (nI k), .int (nI i), .int (nI j)] g = cond (decide (0 ≤ flV σ.s (nsL σ.s)[k] (eN i j))) (some (some (.int (flV σ.s (nsL σ.s)[k] (eN i j))), g1)) (zaI (zev mX11_finding 0 [.ref 3, .int 3] g1) fun x10 g9 => some (some (.int x10), g9)) := by
        rw [uX11_flip_0, c_isPair cb, zaI_some, q1, x1, zaI_some, q3, c_edgeOf g1 (by omega : i < 9) (by omega : j < 9) nij, zaI_some, c_flipped hw n1 hk rfl f36, zaI_some]; rfl
      have rl : ∀ g', RI g' σ → ∃ g2, zFr tR g' g2 ∧ RI g2 σ ∧ zev mX12_flip 0 [.ref 250, .int (nI k), .int (nI i), .int (nI j)] g' = cond (decide (0 ≤ flV σ.s (nsL σ.s)[k] (eN i j))) (some (some (.int (flV σ.s (nsL σ.s)[k] (eN i j))), g2)) (zaI (zev mX12_finds 0 [.ref 250, .int 3] g2) fun x10 g9 => some (some (.int x10), g9)) := fun g' r => by
        obtain ⟨g2, x2, f2, n2⟩ := r_isNet hw r (nI k)
        refine ⟨g2, f2, rin_ri n2, ?_⟩
        rw [uX12_flip_0, r_areTwo (rb_s r.1.1 hw.1), zaI_some, q1, x2, zaI_some, q3, r_flipped hw n2 hk rfl hi hj nij, zaI_some]; rfl
      rcases flV_or (f := eN i j) hw.1 wm with e | ⟨m, hm, e⟩
      · rw [e] at cl
        refine ⟨fI 3, fdn σ 3, wfs_fdn hw 3, ?_, fun g' r => ?_⟩
        · show COk (zev mX11_flip 0 _ g) _ _ _ _
          rw [cl]
          exact cok_le (cok_find (k := 3) (cin_ci n1) f1 (by omega)) (by omega : t + 1 ≤ t + 2)
        · show ROk (zev mX12_flip 0 _ g') _ _ _
          obtain ⟨g2, f2, r2, e2⟩ := rl g' r
          rw [e2, e]
          exact rok_find (k := 3) r2 hw f2 (by omega)
      · rw [e, nI_0le (by omega)] at cl
        refine ⟨.int (nI m), σ, hw, ?_, fun g' r => ?_⟩
        · show COk (zev mX11_flip 0 _ g) _ _ _ _
          rw [cl]
          exact cok_of (cin_ci n1) f1 (by omega)
        · show ROk (zev mX12_flip 0 _ g') _ _ _
          obtain ⟨g2, f2, r2, e2⟩ := rl g' r
          rw [e2, e, nI_0le (by omega)]
          exact rok_of r2 f2
