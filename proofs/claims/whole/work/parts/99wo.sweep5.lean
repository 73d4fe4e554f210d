/-! Sweeps: the class goes on. -/
section
variable {g : zIJ} {n w : Nat} {X Y : Nat → Int} {od : Nat → Nat}
theorem c_comes (h : POK g n X Y) (ho : Ord X Y n od) {i P p : Nat} (hs : SwS g w i P) (hi : i < 13) (hp : p < n) : (∃ b c, NxP X Y n P (od p) b ∧ InP X Y n w (od p) b c ∧ zev mX9_comesBehind 0 [.ref 226, .int (nI p), .ref 211] g = some (some (.int 1), cAdd g i (P ^^^ 2 ^ c, 2 ^ od p ||| 2 ^ b ||| 2 ^ c, 0))) ∨ ((∀ b, NxP X Y n P (od p) b → ∀ c, ¬ InP X Y n w (od p) b c) ∧ zev mX9_comesBehind 0 [.ref 226, .int (nI p), .ref 211] g = some (some (.int 0), g)) := by
  have hn := h.1.1
  have hd := h.2.1.2.2.2.1
  have op := (ho p hp).1
  rcases c_nextOn h ho hs (by omega) hp with ⟨q, nq, e1⟩ | ⟨no, e1⟩
  · have hq := nq.2.1
    have oq := (ho q hq).1
    have nb := nxq_nxp ho hd hp nq
    have npq : od p ≠ od q := ahd_ne nb.2.2.1
    have st : zev mX9_comesBehind 0 [.ref 226, .int (nI p), .ref 211] g = zev mX9_comesBehind 38 [.ref 226, .ref 211, .int (nI q), .int (nI (od p)), .int (nI (od q)), .int (nI (p + 1))] g := by
      rw [uX9_comesBehind_0, e1, zaI_some, h.1.2.1, decide_eq_true (nI_lt (a := q) (b := n) hq (by omega)), zin_n (by omega : p < 9) (by omega), zin_n (by omega : q < 9) (by omega), nI_clamp (by omega : p < 2 ^ 31), nI_clamp (by omega : q < 2 ^ 31), pok_od h ho hp, pok_od h ho hq, nI_1]; rfl
    rw [st]
    have lp : ∀ (d r : Nat), r + d = q → p < r → (∃ c, InP X Y n w (od p) (od q) c ∧ zev mX9_comesBehind 38 [.ref 226, .ref 211, .int (nI q), .int (nI (od p)), .int (nI (od q)), .int (nI r)] g = some (some (.int 1), cAdd g i (P ^^^ 2 ^ c, 2 ^ od p ||| 2 ^ od q ||| 2 ^ c, 0))) ∨ ((∀ r', r ≤ r' → r' < q → ¬ InP X Y n w (od p) (od q) (od r')) ∧ zev mX9_comesBehind 38 [.ref 226, .ref 211, .int (nI q), .int (nI (od p)), .int (nI (od q)), .int (nI r)] g = some (some (.int 0), g)) := by
      intro d
      induction d with
      | zero =>
        intro r er pr
        refine Or.inr ⟨fun r' h1 h2 => by omega, ?_⟩
        rw [uX9_comesBehind_38, decide_eq_true (nI_le (by omega : q ≤ r) (by omega))]; rfl
      | succ d ih =>
        intro r er pr
        have hr : r < n := by omega
        have or' := (ho r hr).1
        have apr : ahd X Y (od p) (od r) := (od_ahd ho hd hp hr).mpr pr
        have arq : ahd X Y (od r) (od q) := (od_ahd ho hd hr hq).mpr (by omega)
        have gen : zev mX9_comesBehind 38 [.ref 226, .ref 211, .int (nI q), .int (nI (od p)), .int (nI (od q)), .int (nI r)] g = cond (cdec (InP X Y n w (od p) (od q) (od r))) (some (some (.int 1), cAdd g i (P ^^^ 2 ^ od r, 2 ^ od p ||| 2 ^ od q ||| 2 ^ od r, 0))) (zev mX9_comesBehind 38 [.ref 226, .ref 211, .int (nI q), .int (nI (od p)), .int (nI (od q)), .int (nI (r + 1))] g) := by
          have ad := c_add (s := 0) hs hi (by omega : od p < 9) (by omega : od q < 9) (by omega : od r < 9)
          rw [uX9_comesBehind_38, decide_eq_false (nI_ge (a := r) (b := q) (by omega) (by omega)), zin_n (by omega : r < 9) (by omega), nI_clamp (by omega : r < 2 ^ 31), pok_od h ho hr, c_isLeft h op oq or' npq (ahd_ne apr) (Ne.symm (ahd_ne arq)), zaI_some, bI_0, c_isTri h hs op oq or' npq (ahd_ne apr) (Ne.symm (ahd_ne arq)), zaI_some, bI_0, show zev mX9_add 0 [.ref 226, .int (nI (od p)), .int (nI (od q)), .int (nI (od r)), .int 0] g = _ from ad, zaV_some, nI_1]
          cases q3 : oXY X Y (od p) (od q) (od r) with
          | false => rw [cdec_f (q := InP X Y n w (od p) (od q) (od r)) (fun z => by have := z.2.2.2.1; rw [q3] at this; exact absurd this (by decide))]; rfl
          | true =>
            rw [cdec_cg (p := InP X Y n w (od p) (od q) (od r)) (q := Tri X Y n w (od p) (od q) (od r)) ⟨fun z => z.2.2.2.2, fun z => ⟨or', apr, arq, q3, z⟩⟩]
            cases cdec (Tri X Y n w (od p) (od q) (od r)) <;> rfl
        by_cases ic : InP X Y n w (od p) (od q) (od r)
        · rw [cdec_t ic] at gen
          exact Or.inl ⟨od r, ic, gen⟩
        · rw [cdec_f ic] at gen
          rcases ih (r + 1) (by omega) (by omega) with ⟨c, ic2, e2⟩ | ⟨no, e2⟩
          · exact Or.inl ⟨c, ic2, gen.trans e2⟩
          · refine Or.inr ⟨fun r' h1 h2 => ?_, gen.trans e2⟩
            by_cases z : r' = r
            · rw [z]; exact ic
            · exact no r' (by omega) h2
    rcases lp (q - (p + 1)) (p + 1) (by have := nq.1; omega) (by omega) with ⟨c, ic, e2⟩ | ⟨no, e2⟩
    · exact Or.inl ⟨od q, c, nb, ic, e2⟩
    · refine Or.inr ⟨fun b nb' c ic => ?_, e2⟩
      rw [nxp_uq nb' nb] at ic
      have hc := ic.1
      have pl := plc_lt (X := X) (Y := Y) hc
      have ec := od_plc ho hd hc
      rw [← ec] at ic
      have l1 := (od_ahd ho hd hp pl).mp ic.2.1
      have l2 := (od_ahd ho hd pl hq).mp ic.2.2.1
      exact no _ (by omega) l2 ic
  · refine Or.inr ⟨fun b nb => absurd nb (no_nxq ho hd hp no b), ?_⟩
    rw [uX9_comesBehind_0, e1, zaI_some, h.1.2.1, decide_eq_false (nI_nlt (Nat.le_refl n) (by omega))]; rfl
theorem c_goes (h : POK g n X Y) (ho : Ord X Y n od) {i P p : Nat} (hs : SwS g w i P) (hi : i < 13) (hp : p < n) (ni : ∀ b, NxP X Y n P (od p) b → ∀ c, ¬ InP X Y n w (od p) b c) : (∃ r, AdvA X Y n w P (od p) r ∧ zev mX9_goesBehind 0 [.ref 226, .int (nI p), .ref 211] g = some (some (.int 1), cAdd g i r)) ∨ ((∀ r, ¬ AdvA X Y n w P (od p) r) ∧ zev mX9_goesBehind 0 [.ref 226, .int (nI p), .ref 211] g = some (some (.int 0), g)) := by
  have hn := h.1.1
  have hd := h.2.1.2.2.2.1
  have hG := h.2.1.2.2.1
  have op := (ho p hp).1
  have h7 := h.1.2.1
  rcases c_nextOn h ho hs (by omega) hp with ⟨q, nq, e1⟩ | ⟨no, e1⟩
  · have hq := nq.2.1
    have oq := (ho q hq).1
    have nb := nxq_nxp ho hd hp nq
    have ab := nb.2.2.1
    rcases c_nextOn h ho hs (by omega) hq with ⟨s, ns, e2⟩ | ⟨no, e2⟩
    · have hs' := ns.2.1
      have os := (ho s hs').1
      have nd := nxq_nxp ho hd hq ns
      have bd := nd.2.2.1
      have ad := c_add (s := 1) hs hi (by omega : od p < 9) (by omega : od s < 9) (by omega : od q < 9)
      have g90 : zev mX9_goesBehind 90 [.ref 226, .int (nI (od p)), .int (nI (od q)), .int (nI (od s))] g = some (some (.int 0), g) := by
        rw [uX9_goesBehind_90]; rfl
      have gen : zev mX9_goesBehind 0 [.ref 226, .int (nI p), .ref 211] g = cond (oXY X Y (od p) (od q) (od s) && cdec (Tri X Y n w (od p) (od s) (od q))) (some (some (.int 1), cAdd g i (P ^^^ 2 ^ od q, 2 ^ od p ||| 2 ^ od s ||| 2 ^ od q, 1))) (some (some (.int 0), g)) := by
        rw [uX9_goesBehind_0, e1, zaI_some, e2, zaI_some, h7, decide_eq_false (nI_ge (a := q) (b := n) hq (by omega)), decide_eq_true (nI_lt (a := s) (b := n) hs' (by omega)), zin_n (by omega : p < 9) (by omega), zin_n (by omega : q < 9) (by omega), zin_n (by omega : s < 9) (by omega), nI_clamp (by omega : p < 2 ^ 31), nI_clamp (by omega : q < 2 ^ 31), nI_clamp (by omega : s < 2 ^ 31), pok_od h ho hp, pok_od h ho hq, pok_od h ho hs', c_isLeft h op oq os (ahd_ne ab) (ahd_ne (ahd_tr ab bd)) (ahd_ne bd), zaI_some, bI_0, c_isTri h hs op os oq (ahd_ne (ahd_tr ab bd)) (ahd_ne ab) (Ne.symm (ahd_ne bd)), zaI_some, bI_0, g90, show zev mX9_add 0 [.ref 226, .int (nI (od p)), .int (nI (od s)), .int (nI (od q)), .int 1] g = _ from ad, zaV_some]
        cases oXY X Y (od p) (od q) (od s) <;> cases cdec (Tri X Y n w (od p) (od s) (od q)) <;> rfl
      have oc : 2 ^ od p ||| 2 ^ od s ||| 2 ^ od q = 2 ^ od p ||| 2 ^ od q ||| 2 ^ od s := by rw [Nat.or_assoc, Nat.or_comm (2 ^ od s), ← Nat.or_assoc]
      rw [oc] at gen
      have tr : Tri X Y n w (od p) (od s) (od q) ↔ Tri X Y n w (od p) (od q) (od s) := ⟨tri_sw hG hn op os oq (ahd_ne (ahd_tr ab bd)) (ahd_ne ab) (Ne.symm (ahd_ne bd)), tri_sw hG hn op oq os (ahd_ne ab) (ahd_ne (ahd_tr ab bd)) (ahd_ne bd)⟩
      rw [cdec_cg tr] at gen
      cases q3 : oXY X Y (od p) (od q) (od s) with
      | false =>
        rw [q3] at gen
        refine Or.inr ⟨fun r ⟨b', nb', hr⟩ => ?_, gen⟩
        have e := nxp_uq nb' nb
        subst e
        rcases hr with ⟨c, ic, _⟩ | ⟨_, d', nd', o', _⟩
        · exact ni _ nb' c ic
        · rw [nxp_uq nd' nd, q3] at o'
          exact absurd o' (by decide)
      | true =>
        by_cases q4 : Tri X Y n w (od p) (od q) (od s)
        · rw [q3, cdec_t q4] at gen
          exact Or.inl ⟨_, ⟨od q, nb, Or.inr ⟨ni _ nb, od s, nd, q3, q4, rfl⟩⟩, gen⟩
        · rw [q3, cdec_f q4] at gen
          refine Or.inr ⟨fun r ⟨b', nb', hr⟩ => ?_, gen⟩
          have e := nxp_uq nb' nb
          subst e
          rcases hr with ⟨c, ic, _⟩ | ⟨_, d', nd', _, t', _⟩
          · exact ni _ nb' c ic
          · rw [nxp_uq nd' nd] at t'
            exact q4 t'
    · refine Or.inr ⟨fun r ⟨b', nb', hr⟩ => ?_, ?_⟩
      · have e := nxp_uq nb' nb
        subst e
        rcases hr with ⟨c, ic, _⟩ | ⟨_, d', nd', _⟩
        · exact ni _ nb' c ic
        · exact no_nxq ho hd hq no d' nd'
      · rw [uX9_goesBehind_0, e1, zaI_some, e2, zaI_some, h7, decide_eq_false (nI_ge (a := q) (b := n) hq (by omega)), decide_eq_false (nI_nlt (Nat.le_refl n) (by omega))]; rfl
  · refine Or.inr ⟨fun r ⟨b', nb', _⟩ => no_nxq ho hd hp no b' nb', ?_⟩
    rw [uX9_goesBehind_0, e1, zaI_some, c_nextEnd h, zaI_some, h7, decide_eq_true (nI_le (Nat.le_refl n) (by omega))]; rfl
theorem c_goOn (h : POK g n X Y) (ho : Ord X Y n od) {i P : Nat} (hs : SwS g w i P) (hi : i < 13) : (∃ r, Adv X Y n w P r ∧ zev mX9_goOn 0 [.ref 226, .ref 211] g = some (some (.int 1), cAdd g i r)) ∨ ((∀ r, ¬ Adv X Y n w P r) ∧ zev mX9_goOn 0 [.ref 226, .ref 211] g = some (some (.int 0), g)) := by
  have hn := h.1.1
  have hd := h.2.1.2.2.2.1
  have h7 := h.1.2.1
  rw [uX9_goOn_0]
  have go : ∀ (d p : Nat), p + d = n → (∀ a', a' < n → P.testBit a' = true → plc X Y n a' < p → ∀ r, ¬ AdvA X Y n w P a' r) → (∃ r, Adv X Y n w P r ∧ zev mX9_goOn 2 [.ref 226, .ref 211, .int (nI p)] g = some (some (.int 1), cAdd g i r)) ∨ ((∀ r, ¬ Adv X Y n w P r) ∧ zev mX9_goOn 2 [.ref 226, .ref 211, .int (nI p)] g = some (some (.int 0), g)) := by
    intro d
    induction d with
    | zero =>
      intro p ep mn
      refine Or.inr ⟨fun r ⟨a', ha', pa', aa, _⟩ => mn a' ha' pa' (by have := plc_lt (X := X) (Y := Y) ha'; omega) r aa, ?_⟩
      rw [uX9_goOn_2, h7, decide_eq_true (nI_le (by omega : n ≤ p) (by omega))]; rfl
    | succ d ih =>
      intro p ep mn
      have hp : p < n := by omega
      have op := (ho p hp).1
      have next : (∀ r, P.testBit (od p) = true → ¬ AdvA X Y n w P (od p) r) → ∀ a', a' < n → P.testBit a' = true → plc X Y n a' < p + 1 → ∀ r, ¬ AdvA X Y n w P a' r := by
        intro no a' ha' pa' l r
        by_cases e : plc X Y n a' = p
        · have ea : a' = od p := by rw [← od_plc ho hd ha', e]
          rw [ea] at pa' ⊢
          exact no r pa'
        · exact mn a' ha' pa' (by omega) r
      have hd7 : decide (g.1 211 7 ≤ nI p) = false := by rw [h7]; exact decide_eq_false (nI_ge (a := p) (b := n) hp (by omega))
      cases pp : P.testBit (od p) with
      | false =>
        have st : zev mX9_goOn 2 [.ref 226, .ref 211, .int (nI p)] g = zev mX9_goOn 2 [.ref 226, .ref 211, .int (nI (p + 1))] g := by
          rw [uX9_goOn_2, hd7, c_isOn h ho hs (by omega) hp, zaI_some, bI_0, pp, nI_1]; rfl
        rw [st]
        exact ih (p + 1) (by omega) (next (fun r y => by rw [pp] at y; exact absurd y (by decide)))
      | true =>
        have min : ∀ a', a' < n → P.testBit a' = true → ahd X Y a' (od p) → ∀ r', ¬ AdvA X Y n w P a' r' := fun a' ha' pa' aa => mn a' ha' pa' (by
          have := (plc_iff hd ha' op).mpr aa
          rw [(ho p hp).2] at this
          exact this)
        rcases c_comes h ho hs hi hp with ⟨b, c, nb, ic, e1⟩ | ⟨ni, e1⟩
        · refine Or.inl ⟨_, ⟨od p, op, pp, ⟨b, nb, Or.inl ⟨c, ic, rfl⟩⟩, min⟩, ?_⟩
          rw [uX9_goOn_2, hd7, c_isOn h ho hs (by omega) hp, zaI_some, bI_0, pp, e1, zaI_some]; rfl
        · rcases c_goes h ho hs hi hp ni with ⟨r, ar, e2⟩ | ⟨no, e2⟩
          · refine Or.inl ⟨r, ⟨od p, op, pp, ar, min⟩, ?_⟩
            rw [uX9_goOn_2, hd7, c_isOn h ho hs (by omega) hp, zaI_some, bI_0, pp, e1, zaI_some, e2, zaI_some]; rfl
          · have st : zev mX9_goOn 2 [.ref 226, .ref 211, .int (nI p)] g = zev mX9_goOn 2 [.ref 226, .ref 211, .int (nI (p + 1))] g := by
              rw [uX9_goOn_2, hd7, c_isOn h ho hs (by omega) hp, zaI_some, bI_0, pp, e1, zaI_some, e2, zaI_some, nI_1]; rfl
            rw [st]
            exact ih (p + 1) (by omega) (next (fun r _ => no r))
  exact go n 0 (by omega) (fun a' _ _ l => absurd l (Nat.not_lt_zero _))
theorem noin_last (hG : GP X Y n) {l : Nat} (hl : Lst X Y n l) : NoIn X Y n l := by
  intro a b c ab bc cn
  cases z : wit (oXY X Y) l a b c with
  | false => rfl
  | true =>
    obtain ⟨n1, n2, n3⟩ := wit_d z
    have t := fun {p q r} (hp : p < n) (hq : q < n) (hr : r < n) (npr : p ≠ r) (np : p ≠ l) (nq : q ≠ l) (nr : r ≠ l) (h1 : oXY X Y l p q = true) (h2 : oXY X Y l q r = true) => tr_last hG hl.1 hp hq hr npr (hl.2 p hp np) (hl.2 q hq nq) (hl.2 r hr nr) h1 h2
    have ha : a < n := by omega
    have hb : b < n := by omega
    refine (tp1 (cc_xy hG) (P := fun x => x < n) (p := l) (x := a) (y := b) (w := c) ?_ z hl.1 ha hb cn n1 n2 n3 (by omega) (by omega) (by omega)).elim
    unfold ccX3
    cases q1 : oXY X Y l a b with
    | true =>
      cases q3 : oXY X Y l b c with
      | true => rw [t ha hb cn (by omega) (Ne.symm n1) (Ne.symm n2) (Ne.symm n3) q1 q3]; rfl
      | false => cases oXY X Y l a c <;> rfl
    | false =>
      cases q3 : oXY X Y l b c with
      | true => cases oXY X Y l a c <;> rfl
      | false =>
        cases q2 : oXY X Y l a c with
        | false => rfl
        | true =>
          have k1 := o_f hG hl.1 ha hb n1 n2 (by omega) q1
          have k3 := o_f hG hl.1 hb cn n2 n3 (by omega) q3
          have k2 := t cn hb ha (by omega) (Ne.symm n3) (Ne.symm n2) (Ne.symm n1) k3 k1
          exact (o_asy q2 k2).elim
theorem last_hull (hG : GP X Y n) {m l : Nat} {s : Nat → Nat} (hH : Hul X Y n m s) (hl : Lst X Y n l) : ∃ k, k < m ∧ s k = l := (hull_iff hG hH hl.1).mpr (noin_last hG hl)
end
