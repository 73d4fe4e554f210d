/-! Calls: at, markOf, turn, crosses, hull. -/
theorem lt_d (a b : Int32) : decide (a < b) = decide (a.toInt < b.toInt) := decide_eq_decide.mpr Int32.lt_iff_toInt_lt
theorem led (a b : Int32) : decide (a ≤ b) = decide (a.toInt ≤ b.toInt) := decide_eq_decide.mpr Int32.le_iff_toInt_le
theorem nI_n0 {i : Nat} (h : i < 2 ^ 31) : ¬ nI i < 0 := by
  rw [Int32.lt_iff_toInt_lt, nI_toInt h]
  show ¬ ((i : Int) < 0)
  omega
theorem i_small {b : Int32} {k : Nat} (h1 : 0 ≤ b.toInt) (h2 : b.toInt ≤ (k : Int)) (hk : k < 2 ^ 30) : ∃ j, j ≤ k ∧ b = nI j := by
  obtain ⟨j, hj, e⟩ := zin_of (x := b) (n := k + 1) (by unfold zin; exact decide_eq_true (by omega)) (by omega)
  exact ⟨j, by omega, e⟩
theorem b_bI (b : Bool) : (cond (decide (bI b = 0)) (0 : Int32) 1) = bI b := by cases b <;> rfl
section
variable {g : zIJ} {n : Nat} {X Y : Nat → Int}
theorem r_at32 (h : RB g n X Y) (hN : Near X Y n) {i : Nat} (hi : i < n) (b : Int32) : zev mX12_at 32 [.ref 250, .int (nI i), .int b, .int 0, .int 0] g = zev mX12_at 32 [.ref 250, .int (nI i), .int b, .int (nI (plc X Y n i)), .int (nI n)] g := by
  have hn := h.1
  have := zit (F := fun k s => zev mX12_at 32 [.ref 250, .int (nI i), .int b, .int (nI s), .int (nI k)] g) (lo := 0) (n := n) (R := fun s => zev mX12_at 32 [.ref 250, .int (nI i), .int b, .int (nI s), .int (nI n)] g) (h := fun k s => s + cond (ahB X Y k i) 1 0) (fun k s _ hk => by
    rw [uX12_at_32, r_points h, zaI_some, nle_d hn hk, nI_de (by omega) (by omega), r_isAhead h hN hk hi, zaI_some, bI_0]
    simp only [nI_1]
    by_cases e : k = i
    · subst e
      have : ahB X Y k k = false := by
        rw [ahB_f]; unfold ahd; omega
      rw [decide_eq_true rfl, this]
      show zev mX12_at 32 [.ref 250, .int (nI k), .int b, .int (nI s + nI 0), .int (nI (k + 1))] g = _
      rw [nI_add]
      rfl
    · rw [decide_eq_false e]
      cases ahB X Y k i
      · show zev mX12_at 32 [.ref 250, .int (nI i), .int b, .int (nI s + nI 0), .int (nI (k + 1))] g = _
        rw [nI_add]
        rfl
      · rfl) (fun s => rfl) n 0 0 (Nat.le_refl _) (by omega)
  refine Eq.trans this ?_
  have e2 := itr_sum (fun k => cond (ahB X Y k i) 1 0) n 0
  rw [Nat.zero_add] at e2
  show zev mX12_at 32 [.ref 250, .int (nI i), .int b, .int (nI (itr _ n 0 0)), .int (nI n)] g = _
  rw [show itr (fun k s => s + cond (ahB X Y k i) 1 0) n 0 0 = plc X Y n i from e2]
theorem c_isLeft (h : POK g n X Y) {a b c : Nat} (ha : a < n) (hb : b < n) (hc : c < n) (nab : a ≠ b) (nac : a ≠ c) (nbc : b ≠ c) : zev mX5_isLeft 0 [.ref 211, .int (nI a), .int (nI b), .int (nI c)] g = some (some (.int (bI (oXY X Y a b c))), g) := by
  have hn := h.1.1
  have e9 : nI a * 9 + nI b = nI (a * 9 + b) := by
    rw [← nI_add]
    congr 1
    exact (Int32.ofNat_mul a 9).symm
  rw [uX5_isLeft_0, e9, zin_n (by omega : a * 9 + b < 81) (by omega), nI_clamp (by omega : a * 9 + b < 2 ^ 31), h.2.2.2.2.1 a b ha hb nab, i_and0, i_sshr0 (by omega : c < 32), nI_bit (by omega : c < 32), lfM_at (by omega : c < 9), decide_eq_true hc, decide_eq_false (fun e => nac e.symm), decide_eq_false (fun e => nbc e.symm)]
  cases oXY X Y a b c <;> rfl
end
theorem p_at (a b : Int32) : PairC (fun g => zev mX11_at 0 [.ref 3, .int a, .int b] g) (fun g => zev mX12_at 0 [.ref 250, .int a, .int b] g) := by
  intro σ g t hw h ht
  have cb := cb_s h.1.1 hw.1
  have hn := wf_n hw.1
  obtain ⟨w1, ⟨p1, p2, p3, p4, p5⟩, w3, w4, w5⟩ := hw.1
  cases q1 : zin a (nS σ.s) with
  | false =>
    refine ⟨fI 0, fdn σ 0, wfs_fdn hw 0, ?_, fun g' r => ?_⟩
    · show COk (zev mX11_at 0 _ g) _ _ _ _
      rw [uX11_at_0, c_isPoint cb, zaI_some, q1]
      exact cok_le (cok_find (k := 0) h (fr_refl _ g) (by omega)) (by omega)
    · show ROk (zev mX12_at 0 _ g') _ _ _
      rw [uX12_at_0, r_isPoint (rb_s r.1.1 hw.1), zaI_some, q1]
      exact rok_find (k := 0) r hw (fr_refl _ _) (by omega)
  | true =>
    by_cases q2 : 0 ≤ b.toInt ∧ b.toInt ≤ 3
    · obtain ⟨i, hi, e⟩ := zin_of q1 (by omega)
      subst e
      obtain ⟨j, hj, e⟩ := i_small (k := 3) q2.1 q2.2 (by omega)
      subst e
      obtain ⟨g1, e1, f1, hp⟩ := c_fol hw h ht
      obtain ⟨m, s, hH, hh⟩ := hp.2.1.2.2.2.2.2.2
      have cl : COk (zev mX11_at 0 [.ref 3, .int (nI i), .int (nI j)] g) g (.int (cond (Nat.beq j 0) (σ.s (2 + 2 * i)) (cond (Nat.beq j 1) (σ.s (3 + 2 * i)) (cond (Nat.beq j 2) (nI (plc (XS σ.s) (YS σ.s) (nS σ.s) i)) (bI ((hMsk s m).testBit i)))))) σ (t + 2) := by
        rw [uX11_at_0, c_isPoint cb, zaI_some, q1, e1, zaV_some, zin_n (by omega : i < 9) (by omega), nI_clamp (by omega : i < 2 ^ 31), (hp.1.1.2.2.1 i (by omega)).1, (hp.1.1.2.2.1 i (by omega)).2, hp.2.1.2.2.1 i hi, hh.2.1, i_and1v, i_sshr0 (by omega : i < 32), nI_bit (by omega : i < 32)]
        have : j = 0 ∨ j = 1 ∨ j = 2 ∨ j = 3 := by omega
        rcases this with e | e | e | e <;> subst e <;> exact cok_of (cip_ci hp) f1 (by omega)
      refine ⟨_, σ, hw, cl, fun g' r => ?_⟩
      have rb := rb_s r.1.1 hw.1
      show ROk (zev mX12_at 0 _ g') _ _ _
      have hb : (hMsk s m).testBit i = cdec (NoIn (XS σ.s) (YS σ.s) (nS σ.s) i) := by
        by_cases q : NoIn (XS σ.s) (YS σ.s) (nS σ.s) i
        · rw [cdec_t q]; exact (hMsk_at s i m).mpr ((hull_iff p3 hH hi).mpr q)
        · rw [cdec_f q]
          cases z : (hMsk s m).testBit i with
          | false => rfl
          | true => exact absurd ((hull_iff p3 hH hi).mp ((hMsk_at s i m).mp z)) q
      rw [uX12_at_0, r_isPoint rb, zaI_some, q1, r_inI g' (nI j) (lo := 0) (l := 0) (hi := 3) (h := 3) rfl rfl, zaI_some, decide_eq_true q2, r_at32 rb p2 hi, uX12_at_32, r_points rb, zaI_some, le_d hn, r_x rb hi, r_y rb hi, r_isOfHull rb p2 hi, (xs_in hi).1, (xs_in hi).2, hb]
      have : j = 0 ∨ j = 1 ∨ j = 2 ∨ j = 3 := by omega
      rcases this with e | e | e | e <;> subst e
      · exact rok_of r (fr_refl _ _)
      · exact rok_of r (fr_refl _ _)
      · exact rok_of r (fr_refl _ _)
      · cases cdec (NoIn (XS σ.s) (YS σ.s) (nS σ.s) i) <;> exact rok_of r (fr_refl _ _)
    · refine ⟨fI 0, fdn σ 0, wfs_fdn hw 0, ?_, fun g' r => ?_⟩
      · show COk (zev mX11_at 0 _ g) _ _ _ _
        rw [uX11_at_0, c_isPoint cb, zaI_some, q1, lt_d, led]
        have fd := cok_le (cok_find (k := 0) h (fr_refl _ g) (by omega)) (by omega : t ≤ t + 2)
        by_cases q3 : b.toInt < (0 : Int32).toInt
        · rw [decide_eq_true q3]; exact fd
        · have q4 : ¬ b.toInt ≤ (3 : Int32).toInt := fun k => by
            have e0 : (0 : Int32).toInt = 0 := rfl
            have e3 : (3 : Int32).toInt = 3 := rfl
            omega
          rw [decide_eq_false q3, decide_eq_false q4]; exact fd
      · show ROk (zev mX12_at 0 _ g') _ _ _
        rw [uX12_at_0, r_isPoint (rb_s r.1.1 hw.1), zaI_some, q1, r_inI g' b (lo := 0) (l := 0) (hi := 3) (h := 3) rfl rfl, zaI_some, decide_eq_false q2]
        exact rok_find (k := 0) r hw (fr_refl _ _) (by omega)
theorem mk_at {s : Nat → Int32} {n : Nat} (h : MksOK s n) {e : Nat} (he : e < 36) : (cond ((mM s 1).testBit e) (1 : Int32) (cond ((mM s 2).testBit e) 2 0)) = s (20 + e) := by
  rw [mM_at he, mM_at he]
  rcases (h e he).1 with k | k | k <;> rw [k] <;> rfl
theorem c_markAt {g : zIJ} {s : Nat → Int32} {n : Nat} (h : CBo g 4 s) (hm : MksOK s n) {e : Nat} (he : e < 36) : zev mX0_markAt 0 [.ref 4, .int (nI e)] g = some (some (.int (s (20 + e))), g) := by
  rw [uX0_markAt_0, h.2.2.2.2.1, c_holds g _ (by omega : e < 64), zaI_some, bI_0, h.2.2.2.2.2, c_holds g _ (by omega : e < 64), zaI_some, bI_0, ← mk_at hm he]
  cases (mM s 1).testBit e <;> cases (mM s 2).testBit e <;> rfl
theorem p_markOf (a b : Int32) : PairC (fun g => zev mX11_markOf 0 [.ref 3, .int a, .int b] g) (fun g => zev mX12_markOf 0 [.ref 250, .int a, .int b] g) := by
  intro σ g t hw h ht
  have cb := cb_s h.1.1 hw.1
  have hn := wf_n hw.1
  cases q1 : (zin a (nS σ.s) && (zin b (nS σ.s) && !decide (a = b))) with
  | false =>
    refine ⟨fI 0, fdn σ 0, wfs_fdn hw 0, ?_, fun g' r => ?_⟩
    · show COk (zev mX11_markOf 0 _ g) _ _ _ _
      rw [uX11_markOf_0, c_isPair cb, zaI_some, q1]
      exact cok_le (cok_find (k := 0) h (fr_refl _ g) (by omega)) (by omega)
    · show ROk (zev mX12_markOf 0 _ g') _ _ _
      rw [uX12_markOf_0, r_areTwo (rb_s r.1.1 hw.1), zaI_some, q1]
      exact rok_find (k := 0) r hw (fr_refl _ _) (by omega)
  | true =>
    obtain ⟨i, j, hi, hj, nij, e1, e2⟩ := two_of hn q1
    subst e1 e2
    have e36 := eN_lt (by omega : i < 9) (by omega : j < 9) nij
    refine ⟨.int (σ.s (20 + eN i j)), σ, hw, ?_, fun g' r => ?_⟩
    · show COk (zev mX11_markOf 0 _ g) _ _ _ _
      rw [uX11_markOf_0, c_isPair cb, zaI_some, q1, c_edgeOf g (by omega : i < 9) (by omega : j < 9) nij, zaI_some, c_markAt h.1.1 hw.1.2.2.1 e36, zaI_some]
      exact cok_of h (fr_refl _ g) (by omega)
    · show ROk (zev mX12_markOf 0 _ g') _ _ _
      rw [uX12_markOf_0, r_areTwo (rb_s r.1.1 hw.1), zaI_some, q1, r_edge g' (by omega : i < 9) (by omega : j < 9) nij, zaI_some, add20 e36, zin_n (by omega : 20 + eN i j < 72) (by omega), nI_clamp (by omega : 20 + eN i j < 2 ^ 31), r.1.1 _ (by omega)]
      exact rok_of r (fr_refl _ _)
theorem p_turn (a b c : Int32) : PairC (fun g => zev mX11_turn 0 [.ref 3, .int a, .int b, .int c] g) (fun g => zev mX12_turn 0 [.ref 250, .int a, .int b, .int c] g) := by
  intro σ g t hw h ht
  have cb := cb_s h.1.1 hw.1
  have hn := wf_n hw.1
  obtain ⟨w1, ⟨p1, p2, p3, p4, p5⟩, w3, w4, w5⟩ := hw.1
  by_cases q : zin a (nS σ.s) = true ∧ zin b (nS σ.s) = true ∧ zin c (nS σ.s) = true ∧ a ≠ b ∧ a ≠ c ∧ b ≠ c
  · obtain ⟨z1, z2, z3, n1, n2, n3⟩ := q
    obtain ⟨i, hi, e1⟩ := zin_of z1 (by omega)
    obtain ⟨j, hj, e2⟩ := zin_of z2 (by omega)
    obtain ⟨k, hk, e3⟩ := zin_of z3 (by omega)
    subst e1 e2 e3
    have m1 : i ≠ j := fun e => n1 (by rw [e])
    have m2 : i ≠ k := fun e => n2 (by rw [e])
    have m3 : j ≠ k := fun e => n3 (by rw [e])
    obtain ⟨g1, e1, f1, hp⟩ := c_fol hw h ht
    refine ⟨.int (tI (oXY (XS σ.s) (YS σ.s) i j k)), σ, hw, ?_, fun g' r => ?_⟩
    · show COk (zev mX11_turn 0 _ g) _ _ _ _
      rw [uX11_turn_0, c_isPair cb, zaI_some, z1, z2, decide_eq_false n1, c_isPair cb, zaI_some, z2, z3, decide_eq_false n3, decide_eq_false n2, e1, zaV_some, c_isLeft hp.2.1 hi hj hk m1 m2 m3, zaI_some, bI_0]
      cases oXY (XS σ.s) (YS σ.s) i j k <;> exact cok_of (cip_ci hp) f1 (by omega)
    · show ROk (zev mX12_turn 0 _ g') _ _ _
      have rb := rb_s r.1.1 hw.1
      rw [uX12_turn_0, r_areTwo rb, zaI_some, z1, z2, decide_eq_false n1, r_areTwo rb, zaI_some, z1, z3, decide_eq_false n2, decide_eq_false n3, r_turnOf rb p2 hi hj hk, zaI_some]
      exact rok_of r (fr_refl _ _)
  · refine ⟨fI 0, fdn σ 0, wfs_fdn hw 0, ?_, fun g' r => ?_⟩
    · show COk (zev mX11_turn 0 _ g) _ _ _ _
      have fd := cok_le (cok_find (k := 0) h (fr_refl _ g) (by omega)) (by omega : t ≤ t + 2)
      rw [uX11_turn_0, c_isPair cb, zaI_some]
      cases z1 : zin a (nS σ.s) with
      | false => exact fd
      | true =>
        cases z2 : zin b (nS σ.s) with
        | false => exact fd
        | true =>
          by_cases n1 : a = b
          · rw [decide_eq_true n1]; exact fd
          · rw [decide_eq_false n1]
            show COk (zaI (zev mX0_isPair 0 [.ref 4, .int b, .int c] g) _) g _ _ _
            rw [c_isPair cb, zaI_some, z2]
            cases z3 : zin c (nS σ.s) with
            | false => exact fd
            | true =>
              by_cases n3 : b = c
              · rw [decide_eq_true n3]; exact fd
              · rw [decide_eq_false n3]
                by_cases n2 : a = c
                · rw [decide_eq_true n2]; exact fd
                · exact absurd ⟨z1, z2, z3, n1, n2, n3⟩ q
    · show ROk (zev mX12_turn 0 _ g') _ _ _
      have rb := rb_s r.1.1 hw.1
      have fd := rok_find (k := 0) r hw (fr_refl tR g') (by omega)
      rw [uX12_turn_0, r_areTwo rb, zaI_some]
      cases z1 : zin a (nS σ.s) with
      | false => exact fd
      | true =>
        cases z2 : zin b (nS σ.s) with
        | false => exact fd
        | true =>
          by_cases n1 : a = b
          · rw [decide_eq_true n1]; exact fd
          · rw [decide_eq_false n1]
            show ROk (zaI (zev mX12_areTwo 0 [.ref 250, .int a, .int c] g') _) g' _ _
            rw [r_areTwo rb, zaI_some, z1]
            cases z3 : zin c (nS σ.s) with
            | false => exact fd
            | true =>
              by_cases n2 : a = c
              · rw [decide_eq_true n2]; exact fd
              · rw [decide_eq_false n2]
                by_cases n3 : b = c
                · rw [decide_eq_true n3]; exact fd
                · exact absurd ⟨z1, z2, z3, n1, n2, n3⟩ q
theorem p_crosses (a b c d : Int32) : PairC (fun g => zev mX11_crosses 0 [.ref 3, .int a, .int b, .int c, .int d] g) (fun g => zev mX12_crosses 0 [.ref 250, .int a, .int b, .int c, .int d] g) := by
  intro σ g t hw h ht
  have cb := cb_s h.1.1 hw.1
  have hn := wf_n hw.1
  obtain ⟨w1, ⟨p1, p2, p3, p4, p5⟩, w3, w4, w5⟩ := hw.1
  have no : (zin a (nS σ.s) && (zin b (nS σ.s) && !decide (a = b))) = false ∨ (zin c (nS σ.s) && (zin d (nS σ.s) && !decide (c = d))) = false → ∃ v σ', Wfs σ' ∧ COk (zev mX11_crosses 0 [.ref 3, .int a, .int b, .int c, .int d] g) g v σ' (t + 2) ∧ ∀ g', RI g' σ → ROk (zev mX12_crosses 0 [.ref 250, .int a, .int b, .int c, .int d] g') g' v σ' := by
    intro q
    refine ⟨fI 0, fdn σ 0, wfs_fdn hw 0, ?_, fun g' r => ?_⟩
    · have fd := cok_le (cok_find (k := 0) h (fr_refl _ g) (by omega)) (by omega : t ≤ t + 2)
      rw [uX11_crosses_0, c_isPair cb, zaI_some, c_isPair cb, zaI_some]
      rcases q with q | q
      · rw [q]; exact fd
      · rw [q]
        cases (zin a (nS σ.s) && (zin b (nS σ.s) && !decide (a = b))) <;> exact fd
    · have rb := rb_s r.1.1 hw.1
      have fd := rok_find (k := 0) r hw (fr_refl tR g') (by omega)
      rw [uX12_crosses_0, r_areTwo rb, zaI_some, r_areTwo rb, zaI_some]
      rcases q with q | q
      · rw [q]; exact fd
      · rw [q]
        cases (zin a (nS σ.s) && (zin b (nS σ.s) && !decide (a = b))) <;> exact fd
  cases q1 : (zin a (nS σ.s) && (zin b (nS σ.s) && !decide (a = b))) with
  | false => exact no (Or.inl q1)
  | true =>
    cases q2 : (zin c (nS σ.s) && (zin d (nS σ.s) && !decide (c = d))) with
    | false => exact no (Or.inr q2)
    | true =>
      clear no
      obtain ⟨i, j, hi, hj, nij, e1, e2⟩ := two_of hn q1
      obtain ⟨k, l, hk, hl, nkl, e3, e4⟩ := two_of hn q2
      subst e1 e2 e3 e4
      have e36 := eN_lt (by omega : i < 9) (by omega : j < 9) nij
      have f36 := eN_lt (by omega : k < 9) (by omega : l < 9) nkl
      obtain ⟨g1, e1, f1, hp⟩ := c_fol hw h ht
      refine ⟨.int (bI (crs (oXY (XS σ.s) (YS σ.s)) i j k l)), σ, hw, ?_, fun g' r => ?_⟩
      · show COk (zev mX11_crosses 0 _ g) _ _ _ _
        rw [uX11_crosses_0, c_isPair cb, zaI_some, q1, c_isPair cb, zaI_some, q2, e1, zaV_some, c_edgeOf g1 (by omega : i < 9) (by omega : j < 9) nij, zaI_some, zin_n e36 (by omega), nI_clamp (by omega : eN i j < 2 ^ 31), c_edgeOf g1 (by omega : k < 9) (by omega : l < 9) nkl, zaI_some, hp.2.1.2.2.2.2.2.1 _ e36, c_holds g1 _ (by omega : eN k l < 64), zaI_some, bI_0, cr_uv p3 p1 hi hj hk hl nij nkl]
        cases crs (oXY (XS σ.s) (YS σ.s)) i j k l <;> exact cok_of (cip_ci hp) f1 (by omega)
      · show ROk (zev mX12_crosses 0 _ g') _ _ _
        have rb := rb_s r.1.1 hw.1
        rw [uX12_crosses_0, r_areTwo rb, zaI_some, q1, r_areTwo rb, zaI_some, q2, r_doCross rb p2 hi hj hk hl, zaI_some, bI_0]
        cases crs (oXY (XS σ.s) (YS σ.s)) i j k l <;> exact rok_of r (fr_refl _ _)
theorem p_hull (a : Int32) : PairC (fun g => zev mX11_hull 0 [.ref 3, .int a] g) (fun g => zev mX12_hull 0 [.ref 250, .int a] g) := by
  intro σ g t hw h ht
  have hn := wf_n hw.1
  obtain ⟨w1, ⟨p1, p2, p3, p4, p5⟩, w3, w4, w5⟩ := hw.1
  obtain ⟨g1, e1, f1, hp⟩ := c_fol hw h ht
  obtain ⟨m, s, hH, hh⟩ := hp.2.1.2.2.2.2.2.2
  have m9 : m ≤ 9 := by
    rcases hH with ⟨_, k⟩ | ⟨_, _, k, _⟩ <;> omega
  have rr : ∀ g', RI g' σ → ∃ g2, zev mX12_findsHull 0 [.ref 250] g' = some (none, g2) ∧ zFr tR g' g2 ∧ RI g2 σ ∧ RH g2 m s := by
    intro g' r
    obtain ⟨g2, e2, f2, l2⟩ := r_findsHull (rb_s r.1.1 hw.1) p2 p3 p4 hH
    have fb : ∀ k j, tRh k j = true → (k = 294 ∨ (k = 250 ∧ j = 6)) := fun k j q => by
      simp only [tRh, Bool.and_eq_true, Bool.or_eq_true, Nat.beq_eq] at q
      omega
    exact ⟨g2, e2, fr_ud f2 (fun k j q => by have := fb k j q; omega), ri_fr r hw (fr_ud f2 (fun k j q => by have := fb k j q; omega)) (f2 250 14 rfl).1 (f2 250 15 rfl).1 (funext fun j => (f2 297 j rfl).2), l2⟩
  by_cases q : a = -1
  · subst q
    refine ⟨.int (nI m), σ, hw, ?_, fun g' r => ?_⟩
    · show COk (zev mX11_hull 0 _ g) _ _ _ _
      rw [uX11_hull_0, e1, zaV_some, hh.1]
      exact cok_of (cip_ci hp) f1 (by omega)
    · show ROk (zev mX12_hull 0 _ g') _ _ _
      obtain ⟨g2, e2, f2, r2, l2⟩ := rr g' r
      rw [uX12_hull_0, e2, zaV_some, l2.1]
      exact rok_of r2 f2
  · cases q2 : zin a m with
    | true =>
      obtain ⟨i, hi, e⟩ := zin_of q2 (by omega)
      subst e
      refine ⟨.int (nI (s i)), σ, hw, ?_, fun g' r => ?_⟩
      · show COk (zev mX11_hull 0 _ g) _ _ _ _
        rw [uX11_hull_0, e1, zaV_some, decide_eq_false q, hh.1, show decide (nI i < 0) = false from decide_eq_false (nI_n0 (by omega)), decide_eq_true (nI_lt hi (by omega)), zin_n (by omega : i < 9) (by omega), nI_clamp (by omega : i < 2 ^ 31), hh.2.2 i hi]
        exact cok_of (cip_ci hp) f1 (by omega)
      · show ROk (zev mX12_hull 0 _ g') _ _ _
        obtain ⟨g2, e2, f2, r2, l2⟩ := rr g' r
        rw [uX12_hull_0, e2, zaV_some, decide_eq_false q, l2.1, r_inI g2 (nI i) (lo := 0) (l := 0) rfl (pred_l (by omega : m < 2 ^ 31)), zin_d, q2, zaI_some, zin_n (by omega : i < 9) (by omega), nI_clamp (by omega : i < 2 ^ 31), l2.2 i hi]
        exact rok_of r2 f2
    | false =>
      refine ⟨fI 3, fdn σ 3, wfs_fdn hw 3, ?_, fun g' r => ?_⟩
      · show COk (zev mX11_hull 0 _ g) _ _ _ _
        have fd := cok_le (cok_find (k := 3) (cip_ci hp) f1 (by omega)) (by omega : t + 1 ≤ t + 2)
        rw [uX11_hull_0, e1, zaV_some, decide_eq_false q, hh.1]
        rw [← zin_g a (by omega : m < 2 ^ 31)] at q2
        have e3 : decide (a < nI m) = !decide (nI m ≤ a) := by
          rw [lt_d, led]
          by_cases z : a.toInt < (nI m).toInt
          · rw [decide_eq_true z, decide_eq_false (by omega)]; rfl
          · rw [decide_eq_false z, decide_eq_true (by omega)]; rfl
        rw [e3]
        cases z1 : decide (a < 0) with
        | true => exact fd
        | false =>
          rw [z1] at q2
          rw [show (!decide (nI m ≤ a)) = false from q2]
          exact fd
      · show ROk (zev mX12_hull 0 _ g') _ _ _
        obtain ⟨g2, e2, f2, r2, l2⟩ := rr g' r
        rw [uX12_hull_0, e2, zaV_some, decide_eq_false q, l2.1, r_inI g2 a (lo := 0) (l := 0) rfl (pred_l (by omega : m < 2 ^ 31)), zin_d, q2, zaI_some]
        exact rok_find (k := 3) r2 hw f2 (by omega)
