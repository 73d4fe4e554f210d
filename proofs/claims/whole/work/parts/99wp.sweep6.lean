/-! Sweeps: from below upward. -/
section
variable {g : zIJ} {n w : Nat} {X Y : Nat → Int} {od : Nat → Nat}
theorem hMsk_s (s : Nat → Nat) (k : Nat) : hMsk s (k + 1) = hMsk s k ||| 2 ^ s k := rfl
theorem c_lowerPath (h : POK g n X Y) (ho : Ord X Y n od) {m k : Nat} {s : Nat → Nat} (hH : Hul X Y n m s) (hP : PH g m s) (hk : k < m) (e : s k = od (n - 1)) (hn0 : 0 < n) : zev mX5_lowerPath 0 [.ref 211] g = some (some (.int (nI (hMsk s (k + 1)))), g) := by
  have hn := h.1.1
  have h7 := h.1.2.1
  obtain ⟨_, h4, h5, h6, h8, _⟩ : Fst X Y n (s 0) ∧ 1 ≤ m ∧ m ≤ n ∧ (∀ k, k < m → s k < n) ∧ (∀ i j, i < m → j < m → s i = s j → i = j) ∧ True := by
    rcases hH with ⟨z, _⟩ | ⟨h1, h2, h3, h4, h5, _⟩
    · omega
    · exact ⟨h1, h2, h3, h4, h5, trivial⟩
  have ol := (ho (n - 1) (by omega)).1
  rw [uX5_lowerPath_0]
  have go : ∀ (d j : Nat), j + d = k → zev mX5_lowerPath 4 [.ref 211, .int (nI (hMsk s j)), .int (nI j)] g = some (some (.int (nI (hMsk s (k + 1)))), g) := by
    intro d
    induction d with
    | zero =>
      intro j ej
      have : j = k := by omega
      subst this
      have sj := h6 j hk
      rw [uX5_lowerPath_4, hP.1, decide_eq_false (nI_ge (a := j) (b := m) hk (by omega)), zin_n (by omega : j < 9) (by omega), nI_clamp (by omega : j < 2 ^ 31), hP.2.2 j hk, h7, show nI n - 1 = nI (n - 1) from nI_sub (a := n) (b := 1) (by omega), zin_n (by omega : n - 1 < 9) (by omega), nI_clamp (by omega : n - 1 < 2 ^ 31), pok_od h ho (by omega : n - 1 < n), nI_de (by omega) (by omega), decide_eq_true e, i_or2 (by omega : s j < 9), hMsk_s]; rfl
    | succ d ih =>
      intro j ej
      have sj := h6 j (by omega)
      have ne : s j ≠ od (n - 1) := fun z => by
        have := h8 j k (by omega) hk (z.trans e.symm)
        omega
      rw [uX5_lowerPath_4, hP.1, decide_eq_false (nI_ge (a := j) (b := m) (by omega) (by omega)), zin_n (by omega : j < 9) (by omega), nI_clamp (by omega : j < 2 ^ 31), hP.2.2 j (by omega), h7, show nI n - 1 = nI (n - 1) from nI_sub (a := n) (b := 1) (by omega), zin_n (by omega : n - 1 < 9) (by omega), nI_clamp (by omega : n - 1 < 2 ^ 31), pok_od h ho (by omega : n - 1 < n), nI_de (by omega) (by omega), decide_eq_false ne, i_or2 (by omega : s j < 9), ← hMsk_s, nI_1]
      exact ih (j + 1) (by omega)
  exact go k 0 (by omega)
def tSw (k _j : Nat) : Bool := decide (226 ≤ k ∧ k ≤ 229)
theorem pok_sw {g' : zIJ} (h : POK g n X Y) (f : zFr tSw g g') : POK g' n X Y := pok_of h (fun k j k1 k2 _ => f k j (decide_eq_false (by omega)))
theorem cadd_fr (g : zIJ) (i : Nat) (r : Nat × Nat × Nat) : zFr tSw g (cAdd g i r) := fr_tr (fr_tr (fr_tr (fr_I g _ rfl) (fr_I _ _ rfl)) (fr_I _ _ rfl)) (fr_I _ _ rfl)
theorem sw_run (hw : w < 2 ^ 36) (N : Net (oXY X Y) (List.range n) (Em w)) (ho : Ord X Y n od) : ∀ (R : List (Nat × Nat × Nat)) (P i : Nat) (g1 : zIJ), POK g1 n X Y → SwS g1 w i P → Swp X Y n w P R → i + R.length ≤ 13 → ∃ g2, zev mX9_follow 55 [.ref 226, .ref 211, .int 1, .int (nI i)] g1 = some (none, g2) ∧ zFr tSw g1 g2 ∧ g2.1 226 3 = nI (i + R.length) ∧ g2.1 226 5 = g1.1 226 5 ∧ g2.2 = g1.2 ∧ (∀ j, j ≤ i → g2.1 227 j = g1.1 227 j) ∧ (∀ j, j < i → g2.1 228 j = g1.1 228 j ∧ g2.1 229 j = g1.1 229 j) ∧ ∀ j (h : j < R.length), g2.1 227 (i + 1 + j) = nI R[j].1 ∧ g2.1 228 (i + j) = nI R[j].2.1 ∧ g2.1 229 (i + j) = nI R[j].2.2
  | [], P, i, g1, hp, hs, sw, hl => by
    have li : i ≤ 13 := hl
    refine ⟨g1, ?_, fr_refl _ g1, hs.1, rfl, rfl, fun j _ => rfl, fun j _ => ⟨rfl, rfl⟩, fun j h => absurd h (Nat.not_lt_zero j)⟩
    by_cases e : i = 13
    · subst e
      rw [uX9_follow_55]; rfl
    · rcases c_goOn hp ho hs (by omega) with ⟨r, ad, _⟩ | ⟨_, e1⟩
      · exact absurd ad (sw r)
      · rw [uX9_follow_55, show decide (13 ≤ nI i) = false from decide_eq_false (nI_ge (a := i) (b := 13) (by omega) (by omega)), e1, zaI_some, nI_1, uX9_follow_55]
        cases decide (13 ≤ nI (i + 1)) <;> rfl
  | r :: R, P, i, g1, hp, hs, sw, hl => by
    have hl' : i + (R.length + 1) ≤ 13 := hl
    obtain ⟨p1, p2, p3, p4, p5⟩ := hp.2.1
    rcases c_goOn hp ho hs (by omega) with ⟨r0, ad, e1⟩ | ⟨no, _⟩
    · have er := adv_uq p3 p4 p1 hw N ad sw.1
      subst er
      have s2 : SwS (cAdd g1 i r0) w (i + 1) r0.1 := ⟨zI_same _ _ _ _, by
        unfold cAdd
        rw [zI_at, if_neg (by omega), zI_same], hs.2.2⟩
      obtain ⟨g2, x2, f2, q1, q2, q3, q4, q5, q6⟩ := sw_run hw N ho R r0.1 (i + 1) (cAdd g1 i r0) (pok_sw hp (cadd_fr g1 i r0)) s2 sw.2 (by omega)
      have o7 : ∀ j, j ≤ i → (cAdd g1 i r0).1 227 j = g1.1 227 j := fun j hj => by
        unfold cAdd
        rw [zI_at, if_neg (by omega), zI_at, if_neg (by omega), zI_at, if_neg (by omega), zI_at, if_neg (by omega)]
      have o8 : ∀ j, j < i → (cAdd g1 i r0).1 228 j = g1.1 228 j ∧ (cAdd g1 i r0).1 229 j = g1.1 229 j := fun j hj => by
        unfold cAdd
        refine ⟨?_, ?_⟩
        · rw [zI_at, if_neg (by omega), zI_at, if_neg (by omega), zI_at, if_neg (by omega), zI_at, if_neg (by omega)]
        · rw [zI_at, if_neg (by omega), zI_at, if_neg (by omega), zI_at, if_neg (by omega), zI_at, if_neg (by omega)]
      refine ⟨g2, ?_, fr_tr (cadd_fr g1 i r0) f2, ?_, ?_, ?_, fun j hj => ?_, fun j hj => ?_, fun j hj => ?_⟩
      · rw [uX9_follow_55, show decide (13 ≤ nI i) = false from decide_eq_false (nI_ge (a := i) (b := 13) (by omega) (by omega)), e1, zaI_some, nI_1]
        exact x2
      · rw [q1]; congr 1; show i + 1 + R.length = i + (R.length + 1); omega
      · rw [q2]
        unfold cAdd
        rw [zI_at, if_neg (by omega), zI_at, if_neg (by omega), zI_at, if_neg (by omega), zI_at, if_neg (by omega)]
      · rw [q3]; rfl
      · rw [q4 j (by omega), o7 j hj]
      · rw [(q5 j (by omega)).1, (q5 j (by omega)).2]; exact o8 j hj
      · cases j with
        | zero =>
          show g2.1 227 (i + 1) = nI r0.1 ∧ g2.1 228 i = nI r0.2.1 ∧ g2.1 229 i = nI r0.2.2
          rw [q4 (i + 1) (Nat.le_refl _), (q5 i (by omega)).1, (q5 i (by omega)).2]
          unfold cAdd
          refine ⟨?_, ?_, ?_⟩
          · rw [zI_at, if_neg (by omega), zI_same]
          · rw [zI_at, if_neg (by omega), zI_at, if_neg (by omega), zI_at, if_neg (by omega), zI_same]
          · rw [zI_at, if_neg (by omega), zI_at, if_neg (by omega), zI_same]
        | succ j =>
          have hj' : j < R.length := Nat.lt_of_succ_lt_succ hj
          have := q6 j hj'
          rw [show i + 1 + (j + 1) = i + 1 + 1 + j from by omega, show i + (j + 1) = i + 1 + j from by omega]
          exact this
    · exact absurd sw.1 (no r)
end
theorem cin_sw {g g' : zIJ} {σ : zS} {t : Nat} (h : CIn g σ t) (f : zFr tSw g g') (e5 : g'.1 226 5 = g.1 211 10) (hs : ∃ w, w < 2 ^ 36 ∧ g'.2 226 4 = lN w ∧ SwOK g' (XS σ.s) (YS σ.s) (nS σ.s) w) : CIn g' σ t := by
  obtain ⟨⟨h0, hp, hc, A, b, a1, a2, a3, b1, b2, b3, _⟩, nl, ag, m1, m2⟩ := h
  have f' : ∀ k j, (k < 226 ∨ 229 < k) → g'.1 k j = g.1 k j ∧ g'.2 k j = g.2 k j := fun k j hk => f k j (decide_eq_false (by omega))
  refine ⟨⟨ci0_fr h0 (fr_ud f (fun a b q => by have := of_decide_eq_true q; omega)), pok_sw hp f, ncI_fr hc (fun k j k1 k2 => f' k j (by omega)), A, b, ?_, a2, a3, ?_, b2, b3, A, ?_, by omega, by omega, fun _ => hs⟩, ⟨?_, fun i hi => ?_⟩, ?_, ?_, ?_⟩
  · rw [(f' _ _ (by omega)).1, a1]
  · rw [(f' _ _ (by omega)).1, b1]
  · rw [e5, a1]
  · rw [(f' _ _ (by omega)).1, nl.1]
  · rw [(f' _ _ (by omega)).2, nl.2 i hi]
  · rw [(f' _ _ (by omega)).1, (f' _ _ (by omega)).1, ag]
  · rw [(f' _ _ (by omega)).2, m1]
  · rw [(f' _ _ (by omega)).2, m2]
theorem c_sfollow {g : zIJ} {σ : zS} {t w : Nat} (hs : Wfs σ) (h : CIn g σ t) (ht : t ≤ 2000000) (hw : w ∈ nsL σ.s) : ∃ g', zev mX9_follow 0 [.ref 226, .long (lN w), .ref 211] g = some (none, g') ∧ zFr tSw g g' ∧ CIn g' σ t ∧ SwOK g' (XS σ.s) (YS σ.s) (nS σ.s) w := by
  obtain ⟨n3, w36, wN, _⟩ := nsL_in hs.1 hw
  obtain ⟨p1, p2, p3, p4, p5⟩ := hs.1.2.1
  have h' := h
  obtain ⟨⟨h0, hp, hc, A, b, a1, a2, a3, b1, b2, b3, c, c1, c2, c3, c4⟩, nl, ag, m1, m2⟩ := h
  obtain ⟨od, ho⟩ := ord_ex p4
  have fresh : ∃ g', zev mX9_follow 21 [.ref 226, .long (lN w), .ref 211] g = some (none, g') ∧ zFr tSw g g' ∧ CIn g' σ t ∧ SwOK g' (XS σ.s) (YS σ.s) (nS σ.s) w := by
    obtain ⟨m, s, hH, hPH⟩ := hp.2.2.2.2.2.2
    have ll := od_lst ho p4 (by omega : 0 < nS σ.s)
    obtain ⟨k, hk, ek⟩ := last_hull p3 hH ll
    obtain ⟨g0, eg⟩ : ∃ g0, g0 = zsI (zsI (zsL g 226 4 (lN w)) 226 5 (g.1 211 10)) 226 3 0 := ⟨_, rfl⟩
    have f0 : zFr tSw g g0 := by rw [eg]; exact fr_tr (fr_tr (fr_L g _ rfl) (fr_I _ _ rfl)) (fr_I _ _ rfl)
    have pk0 := pok_sw hp f0
    have ph0 : PH g0 m s := by
      have f' : ∀ a b, a < 226 → g0.1 a b = g.1 a b := fun a b hk => (f0 a b (decide_eq_false (by omega))).1
      exact ⟨by rw [f' _ _ (by omega)]; exact hPH.1, by rw [f' _ _ (by omega)]; exact hPH.2.1, fun k hk => by rw [f' _ _ (by omega)]; exact hPH.2.2 k hk⟩
    obtain ⟨P0, eP⟩ : ∃ P0, P0 = hMsk s (k + 1) := ⟨_, rfl⟩
    have lp := c_lowerPath pk0 ho hH ph0 hk ek (by omega)
    rw [← eP] at lp
    obtain ⟨R, sR, lR⟩ := swp_ex (w := w) p3 p4 p1 n3 hH P0
    have pk1 := pok_sw pk0 (fr_I g0 (nI P0) rfl : zFr tSw g0 (zsI g0 227 0 (nI P0)))
    have s1 : SwS (zsI g0 227 0 (nI P0)) w 0 P0 := ⟨by rw [zI_at, if_neg (by omega), eg, zI_same]; rfl, zI_same _ _ _ _, by rw [eg, zI_2, zI_2, zI_2, zL_same]⟩
    obtain ⟨g2, x2, f2, q1, q2, q3, q4, q5, q6⟩ := sw_run w36 wN ho R P0 0 (zsI g0 227 0 (nI P0)) pk1 s1 sR (by omega)
    have ok : SwOK g2 (XS σ.s) (YS σ.s) (nS σ.s) w := by
      refine ⟨P0, R, ⟨m, s, k, hH, hk, by rw [ek]; exact ll, eP⟩, sR, lR, by rw [q1, Nat.zero_add], by rw [q4 0 (by omega), zI_same], fun i hi => ?_⟩
      have := q6 i hi
      rw [show 0 + 1 + i = i + 1 from by omega, Nat.zero_add] at this
      exact this
    have e4 : g2.2 226 4 = lN w := by rw [q3]; exact s1.2.2
    have e5 : g2.1 226 5 = g.1 211 10 := by
      rw [q2, zI_at, if_neg (by omega), eg, zI_at, if_neg (by omega), zI_same]
    have ff : zFr tSw g g2 := fr_tr f0 (fr_tr (fr_I g0 (nI P0) rfl) f2)
    refine ⟨g2, ?_, ff, cin_sw h' ff e5 ⟨w, w36, e4, ok⟩, ok⟩
    rw [uX9_follow_21, show (zsL g 226 4 (lN w)).1 211 10 = g.1 211 10 from rfl, ← eg, lp, zaI_some]
    exact x2
  by_cases en : g.2 226 4 = lN w
  · by_cases ea : g.1 226 5 = g.1 211 10
    · rw [c1, a1, cI_inj (by unfold Sml; omega) (by unfold Sml; omega)] at ea
      obtain ⟨w', w1, w2, ok⟩ := c4 ea
      rw [en, lN_inj (Nat.lt_trans w36 (by omega)) (Nat.lt_trans w1 (by omega))] at w2
      subst w2
      refine ⟨g, ?_, fr_refl _ g, h', ok⟩
      rw [uX9_follow_0, cmp_eq, decide_eq_true en, c1, a1, ea, decide_eq_true (rfl : cI A = cI A)]; rfl
    · obtain ⟨g', x, r⟩ := fresh
      refine ⟨g', ?_, r⟩
      rw [uX9_follow_0, cmp_eq, decide_eq_true en, decide_eq_false ea]
      exact x
  · obtain ⟨g', x, r⟩ := fresh
    refine ⟨g', ?_, r⟩
    rw [uX9_follow_0, cmp_eq, decide_eq_false en]
    exact x
