/-! The hull as the reference finds it. -/
section
variable {g : zIJ} {n : Nat} {X Y : Nat → Int}
theorem r_first (h : RB g n X Y) (hN : Near X Y n) (hd : Dist X Y n) {f : Nat} (hf : Fst X Y n f) : zev mX12_first 0 [.ref 250] g = some (some (.int (nI f)), g) := by
  have hn := h.1
  have h1 := hf.1
  rw [uX12_first_0]
  refine zloop (F := fun i s => zev mX12_first 4 [.ref 250, .int (nI s), .int (nI i)] g) (I := fun i s => s < i ∧ s < n ∧ ∀ a, a < i → a ≠ s → ahd X Y s a) (Post := fun r => r = some (some (.int (nI f)), g)) (lo := 1) (n := n) (fun i s hi1 hi2 I1 => ?_) (fun s I1 => ?_) (n - 1) 1 0 (Nat.le_refl _) (by omega) ⟨by omega, by omega, fun a ha na => by omega⟩
  · rw [uX12_first_4, r_points h, zaI_some, nle_d hn hi2, r_isAhead h hN hi2 I1.2.1, zaI_some, bI_0]
    simp only [nI_1]
    cases q : ahB X Y i s with
    | false =>
      refine ⟨s, rfl, by omega, I1.2.1, fun a ha na => ?_⟩
      by_cases e : a = i
      · subst e
        rcases ahd_tot (hd s a I1.2.1 hi2 (Ne.symm na)) with k | k
        · exact k
        · rw [ahB_iff.mpr k] at q; cases q
      · exact I1.2.2 a (by omega) na
    | true =>
      have q := ahB_iff.mp q
      refine ⟨i, rfl, by omega, hi2, fun a ha na => ?_⟩
      by_cases e : a = s
      · subst e; exact q
      · exact ahd_tr q (I1.2.2 a (by omega) e)
  · rw [uX12_first_4, r_points h, zaI_some, le_d hn]
    have e := fst_one (X := X) (Y := Y) (n := n) ⟨I1.2.1, I1.2.2⟩ hf
    rw [e]
    rfl
/-- the last of the points -/
def Lst (X Y : Nat → Int) (n f : Nat) : Prop := f < n ∧ ∀ a, a < n → a ≠ f → ahd X Y a f
theorem lst_one {f f' : Nat} (h : Lst X Y n f) (h' : Lst X Y n f') : f = f' := by
  apply Classical.byContradiction
  intro e
  exact ahd_irr (ahd_tr (h.2 f' h'.1 (Ne.symm e)) (h'.2 f h.1 e))
theorem r_last (h : RB g n X Y) (hN : Near X Y n) (hd : Dist X Y n) {f : Nat} (hf : Lst X Y n f) : zev mX12_last 0 [.ref 250] g = some (some (.int (nI f)), g) := by
  have hn := h.1
  have h1 := hf.1
  rw [uX12_last_0]
  refine zloop (F := fun i s => zev mX12_last 4 [.ref 250, .int (nI s), .int (nI i)] g) (I := fun i s => s < i ∧ s < n ∧ ∀ a, a < i → a ≠ s → ahd X Y a s) (Post := fun r => r = some (some (.int (nI f)), g)) (lo := 1) (n := n) (fun i s hi1 hi2 I1 => ?_) (fun s I1 => ?_) (n - 1) 1 0 (Nat.le_refl _) (by omega) ⟨by omega, by omega, fun a ha na => by omega⟩
  · rw [uX12_last_4, r_points h, zaI_some, nle_d hn hi2, r_isAhead h hN I1.2.1 hi2, zaI_some, bI_0]
    simp only [nI_1]
    cases q : ahB X Y s i with
    | false =>
      refine ⟨s, rfl, by omega, I1.2.1, fun a ha na => ?_⟩
      by_cases e : a = i
      · subst e
        rcases ahd_tot (hd s a I1.2.1 hi2 (Ne.symm na)) with k | k
        · rw [ahB_iff.mpr k] at q; cases q
        · exact k
      · exact I1.2.2 a (by omega) na
    | true =>
      have q := ahB_iff.mp q
      refine ⟨i, rfl, by omega, hi2, fun a ha na => ?_⟩
      by_cases e : a = s
      · subst e; exact q
      · exact ahd_tr (I1.2.2 a (by omega) e) q
  · rw [uX12_last_4, r_points h, zaI_some, le_d hn]
    have e := lst_one (X := X) (Y := Y) (n := n) ⟨I1.2.1, I1.2.2⟩ hf
    rw [e]
    rfl
theorem r_behind (h : RB g n X Y) (hN : Near X Y n) {p : Nat} (hp : p < n) : ((∀ b, ¬ HB X Y n p b) ∧ zev mX12_behind 0 [.ref 250, .int (nI p)] g = some (some (.int (nI p)), g)) ∨ ∃ b, HB X Y n p b ∧ zev mX12_behind 0 [.ref 250, .int (nI p)] g = some (some (.int (nI b)), g) := by
  have hn := h.1
  rw [uX12_behind_0]
  have step : ∀ q, q < n → zev mX12_behind 2 [.ref 250, .int (nI p), .int (nI q)] g = cond (cdec (HB X Y n p q)) (some (some (.int (nI q)), g)) (zev mX12_behind 2 [.ref 250, .int (nI p), .int (nI (q + 1))] g) := by
    intro q hq
    rw [uX12_behind_2, r_points h, zaI_some, nle_d hn hq, nI_de (by omega) (by omega)]
    have no : ∀ r, r ≤ n → zev mX12_behind 24 [.ref 250, .int (nI p), .int (nI q), .int 0, .int (nI r)] g = zev mX12_behind 73 [.ref 250, .int (nI p), .int (nI q), .int 0] g := by
      intro r hr
      rw [uX12_behind_24, r_points h, zaI_some]
      cases decide (nI n ≤ nI r) <;> rfl
    have z0 : zev mX12_behind 73 [.ref 250, .int (nI p), .int (nI q), .int 0] g = zev mX12_behind 2 [.ref 250, .int (nI p), .int (nI (q + 1))] g := by
      rw [uX12_behind_73, nI_1]; rfl
    by_cases e : q = p
    · rw [decide_eq_true e, cdec_f (fun k => k.2.1 e)]
      exact (no 0 (by omega)).trans z0
    · rw [decide_eq_false e]
      have z1 : zev mX12_behind 73 [.ref 250, .int (nI p), .int (nI q), .int 1] g = some (some (.int (nI q)), g) := by
        rw [uX12_behind_73, r_points h, zaI_some, nI_de (by omega) (by omega), decide_eq_false e]
        cases decide ((2 : Int32) < nI n) <;> rfl
      have inner : ∀ r, 0 ≤ r → r < n → zev mX12_behind 24 [.ref 250, .int (nI p), .int (nI q), .int 1, .int (nI r)] g = cond (cdec (r ≠ p → r ≠ q → oXY X Y p q r = true)) (zev mX12_behind 24 [.ref 250, .int (nI p), .int (nI q), .int 1, .int (nI (r + 1))] g) (zev mX12_behind 73 [.ref 250, .int (nI p), .int (nI q), .int 0] g) := by
        intro r _ hr
        rw [uX12_behind_24, r_points h, zaI_some, nle_d hn hr, nI_de (by omega) (by omega), nI_de (by omega) (by omega), r_turnOf h hN hp hq hr, zaI_some, tI_1]
        simp only [nI_1]
        by_cases e1 : r = p
        · rw [decide_eq_true e1, cdec_t (fun k => (k e1).elim)]; rfl
        · rw [decide_eq_false e1]
          by_cases e2 : r = q
          · rw [decide_eq_true e2, cdec_t (fun _ k => (k e2).elim)]; rfl
          · rw [decide_eq_false e2]
            cases o : oXY X Y p q r with
            | true => rw [cdec_t (fun _ _ => rfl)]; rfl
            | false =>
              rw [cdec_f (fun k => nomatch k e1 e2)]
              exact no (r + 1) (by omega)
      have stop : zev mX12_behind 24 [.ref 250, .int (nI p), .int (nI q), .int 1, .int (nI n)] g = zev mX12_behind 73 [.ref 250, .int (nI p), .int (nI q), .int 1] g := by
        rw [uX12_behind_24, r_points h, zaI_some, le_d hn]; rfl
      have all := zals (F := fun r => zev mX12_behind 24 [.ref 250, .int (nI p), .int (nI q), .int 1, .int (nI r)] g) (lo := 0) inner stop n 0 (Nat.le_refl _) (by omega)
      refine Eq.trans all ?_
      rw [z0, z1]
      by_cases k : HB X Y n p q
      · rw [cdec_t k, cdec_t (q := ∀ j, 0 ≤ j → j < n → j ≠ p → j ≠ q → oXY X Y p q j = true) (fun j _ hj n1 n2 => k.2.2 j hj n1 n2)]
      · rw [cdec_f k, cdec_f (q := ∀ j, 0 ≤ j → j < n → j ≠ p → j ≠ q → oXY X Y p q j = true) (fun k2 => k ⟨hq, e, fun c hc n1 n2 => k2 c (by omega) hc n1 n2⟩)]
  have stop : zev mX12_behind 2 [.ref 250, .int (nI p), .int (nI n)] g = some (some (.int (nI p)), g) := by
    rw [uX12_behind_2, r_points h, zaI_some, le_d hn]; rfl
  rcases zfind (F := fun q => zev mX12_behind 2 [.ref 250, .int (nI p), .int (nI q)] g) (R := fun q => some (some (.int (nI q)), g)) step stop n 0 (by omega) with ⟨q1, q2⟩ | ⟨b, _, _, q3, _, q5⟩
  · exact Or.inl ⟨fun b hb => q1 b (by omega) hb.1 hb, q2⟩
  · exact Or.inr ⟨b, q3, q5⟩
def tRh (k j : Nat) : Bool := Nat.beq k 294 || (Nat.beq k 250 && Nat.beq j 6)
/-- the hull stands there, in the reference -/
def RH (g : zIJ) (m : Nat) (s : Nat → Nat) : Prop := g.1 250 6 = nI m ∧ ∀ k, k < m → g.1 294 k = nI (s k)
theorem r_findsHull (h : RB g n X Y) (hN : Near X Y n) (hG : GP X Y n) (hd : Dist X Y n) {m : Nat} {s : Nat → Nat} (hH : Hul X Y n m s) : ∃ g', zev mX12_findsHull 0 [.ref 250] g = some (none, g') ∧ zFr tRh g g' ∧ RH g' m s := by
  have hn := h.1
  have rb : ∀ {g' : zIJ}, zFr tRh g g' → RB g' n X Y := fun f => by
    unfold RB
    have e : ∀ j, _ = g.1 251 j := fun j => (f 251 j rfl).1
    refine ⟨hn, (e 0).trans h.2.1, fun i hi => ⟨(e _).trans (h.2.2 i hi).1, (e _).trans (h.2.2 i hi).2⟩⟩
  have f0 : zFr tRh g (zsI g 250 6 0) := fr_I g 0 rfl
  have i6 : (zsI g 250 6 0).1 250 6 = nI 0 := zI_same _ _ _ _
  rw [uX12_findsHull_0]
  generalize zsI g 250 6 0 = g0 at f0 i6
  rw [r_points (rb f0), zaI_some]
  rcases hH with ⟨e0, em⟩ | ⟨hf, m1, mn, hs, hi, hb, hcl⟩
  · subst e0; subst em
    exact ⟨g0, rfl, f0, i6, fun k hk => by omega⟩
  · rw [decide_eq_false (nI_ne0 (by omega : 0 < n) (by omega))]
    show ∃ g', (zaI (zev mX12_first 0 [.ref 250] g0) fun x4 g3 => zev mX12_findsHull 18 [.ref 250, .int x4] g3) = _ ∧ _
    rw [r_first (rb f0) hN hd hf, zaI_some]
    have run : ∀ (d k : Nat) (g1 : zIJ), k + d + 1 = m → zFr tRh g g1 → RH g1 k s → ∃ g', zev mX12_findsHull 18 [.ref 250, .int (nI (s k))] g1 = some (none, g') ∧ zFr tRh g g' ∧ RH g' m s := by
      intro d
      induction d with
      | zero =>
        intro k g1 hk f1 p1
        have sk := hs k (by omega)
        rw [uX12_findsHull_18, p1.1, zin_n (by omega : k < 9) (by omega), nI_clamp (by omega : k < 2 ^ 31)]
        have r6 : (zsI g1 294 k (nI (s k))).1 250 6 = nI k := by rw [zI_row _ _ (by decide : (250 : Nat) ≠ 294)]; exact p1.1
        rw [r6, nI_1]
        have f2 : zFr tRh g (zsI (zsI g1 294 k (nI (s k))) 250 6 (nI (k + 1))) := fr_tr f1 (fr_tr (fr_I g1 _ rfl) (fr_I _ _ rfl))
        have p2 : RH (zsI (zsI g1 294 k (nI (s k))) 250 6 (nI (k + 1))) (k + 1) s := by
          refine ⟨zI_same _ _ _ _, fun j hj => ?_⟩
          rw [zI_row _ _ (by decide : (294 : Nat) ≠ 250)]
          by_cases e : j = k
          · subst e; exact zI_same _ _ _ _
          · rw [zI_col _ _ e]; exact p1.2 j (by omega)
        generalize zsI (zsI g1 294 k (nI (s k))) 250 6 (nI (k + 1)) = g2 at f2 p2
        have hkm : k + 1 = m := by omega
        show ∃ g', (zaI (zev mX12_behind 0 [.ref 250, .int (nI (s k))] g2) fun x2 g1 => zaI (zev mX12_first 0 [.ref 250] g1) fun x4 g3 => cond (decide (x2 = x4)) (some (none, g3)) (zaI (zev mX12_points 0 [.ref 250] g3) fun x6 g5 => cond (decide (g3.1 250 6 < x6)) (zev mX12_findsHull 18 [.ref 250, .int x2] g5) (some (none, g5)))) = _ ∧ _
        rw [hkm] at p2
        have key : zev mX12_behind 0 [.ref 250, .int (nI (s k))] g2 = some (some (.int (nI (s 0))), g2) := by
          rcases r_behind (rb f2) hN sk with ⟨q1, q2⟩ | ⟨b, q1, q2⟩
          · rcases hcl with q | ⟨q3, q4⟩
            · rw [q2, show k = 0 from by omega]
            · rw [show m - 1 = k from by omega] at q4
              exact (q1 _ q4).elim
          · rcases hcl with q | ⟨q3, q4⟩
            · have := q1.1
              have := q1.2.1
              omega
            · rw [show m - 1 = k from by omega] at q4
              rw [q2, hb_one hG sk q1 q4]
        rw [key, zaI_some, r_first (rb f2) hN hd hf, zaI_some, decide_eq_true rfl]
        exact ⟨g2, rfl, f2, p2⟩
      | succ d ih =>
        intro k g1 hk f1 p1
        have sk := hs k (by omega)
        rw [uX12_findsHull_18, p1.1, zin_n (by omega : k < 9) (by omega), nI_clamp (by omega : k < 2 ^ 31)]
        have r6 : (zsI g1 294 k (nI (s k))).1 250 6 = nI k := by rw [zI_row _ _ (by decide : (250 : Nat) ≠ 294)]; exact p1.1
        rw [r6, nI_1]
        have f2 : zFr tRh g (zsI (zsI g1 294 k (nI (s k))) 250 6 (nI (k + 1))) := fr_tr f1 (fr_tr (fr_I g1 _ rfl) (fr_I _ _ rfl))
        have p2 : RH (zsI (zsI g1 294 k (nI (s k))) 250 6 (nI (k + 1))) (k + 1) s := by
          refine ⟨zI_same _ _ _ _, fun j hj => ?_⟩
          rw [zI_row _ _ (by decide : (294 : Nat) ≠ 250)]
          by_cases e : j = k
          · subst e; exact zI_same _ _ _ _
          · rw [zI_col _ _ e]; exact p1.2 j (by omega)
        generalize zsI (zsI g1 294 k (nI (s k))) 250 6 (nI (k + 1)) = g2 at f2 p2
        show ∃ g', (zaI (zev mX12_behind 0 [.ref 250, .int (nI (s k))] g2) fun x2 g1 => zaI (zev mX12_first 0 [.ref 250] g1) fun x4 g3 => cond (decide (x2 = x4)) (some (none, g3)) (zaI (zev mX12_points 0 [.ref 250] g3) fun x6 g5 => cond (decide (g3.1 250 6 < x6)) (zev mX12_findsHull 18 [.ref 250, .int x2] g5) (some (none, g5)))) = _ ∧ _
        have hk1 := hb k (by omega)
        have key : zev mX12_behind 0 [.ref 250, .int (nI (s k))] g2 = some (some (.int (nI (s (k + 1)))), g2) := by
          rcases r_behind (rb f2) hN sk with ⟨q1, q2⟩ | ⟨b, q1, q2⟩
          · exact (q1 _ hk1).elim
          · rw [q2, hb_one hG sk q1 hk1]
        have sk1 := hs (k + 1) (by omega)
        have s00 := hs 0 (by omega)
        rw [key, zaI_some, r_first (rb f2) hN hd hf, zaI_some, nI_de (by omega) (by omega), decide_eq_false (fun e => by have := hi (k + 1) 0 (by omega) (by omega) e; omega)]
        show ∃ g', (zaI (zev mX12_points 0 [.ref 250] g2) fun x6 g5 => cond (decide (g2.1 250 6 < x6)) (zev mX12_findsHull 18 [.ref 250, .int (nI (s (k + 1)))] g5) (some (none, g5))) = _ ∧ _
        rw [r_points (rb f2), zaI_some, p2.1, decide_eq_true (nI_lt (by omega : k + 1 < n) (by omega))]
        exact ih (k + 1) g2 (by omega) f2 p2
    exact run (m - 1) 0 g0 (by omega) f0 ⟨i6, fun k hk => by omega⟩
end
