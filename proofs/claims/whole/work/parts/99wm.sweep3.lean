/-! Sweeps: the reference. -/
def adv3 (g : zIJ) (r : Nat × Nat × Nat) : zIJ := zsI (zsI (zsI g 250 18 (nI r.1)) 250 19 (nI r.2.1)) 250 20 (nI r.2.2)
theorem adv3_18 (g : zIJ) (r : Nat × Nat × Nat) : (adv3 g r).1 250 18 = nI r.1 := by
  unfold adv3
  rw [zI_at, if_neg (by omega), zI_at, if_neg (by omega), zI_same]
theorem adv3_19 (g : zIJ) (r : Nat × Nat × Nat) : (adv3 g r).1 250 19 = nI r.2.1 := by
  unfold adv3
  rw [zI_at, if_neg (by omega), zI_same]
theorem adv3_20 (g : zIJ) (r : Nat × Nat × Nat) : (adv3 g r).1 250 20 = nI r.2.2 := by
  unfold adv3
  rw [zI_same]
theorem adv3_o {g : zIJ} {r : Nat × Nat × Nat} {k j : Nat} (h : ¬ (k = 250 ∧ (j = 18 ∨ j = 19 ∨ j = 20))) : (adv3 g r).1 k j = g.1 k j ∧ (adv3 g r).2 k j = g.2 k j := by
  unfold adv3
  refine ⟨?_, rfl⟩
  rw [zI_at, if_neg (by omega), zI_at, if_neg (by omega), zI_at, if_neg (by omega)]
section
variable {g : zIJ} {n w : Nat} {X Y : Nat → Int}
theorem rb_adv (h : RB g n X Y) (r : Nat × Nat × Nat) : RB (adv3 g r) n X Y := rb_250 (rb_250 (rb_250 h 18 _) 19 _) 20 _
theorem i_or2 {P c : Nat} (hc : c < 9) : nI P ||| ((1 : Int32) <<< (nI c &&& 31)) = nI (P ||| 2 ^ c) := by rw [sh1_i c (by omega), nI_or]
theorem i_three {a b c : Nat} (ha : a < 9) (hb : b < 9) (hc : c < 9) : (((1 : Int32) <<< (nI a &&& 31)) ||| ((1 : Int32) <<< (nI b &&& 31))) ||| ((1 : Int32) <<< (nI c &&& 31)) = nI (2 ^ a ||| 2 ^ b ||| 2 ^ c) := by
  rw [sh1_i a (by omega), sh1_i b (by omega), sh1_i c (by omega), nI_or, nI_or]
theorem or_x {P c : Nat} (h : P.testBit c = false) : P ||| 2 ^ c = P ^^^ 2 ^ c := by
  apply Nat.eq_of_testBit_eq
  intro i
  rw [ins_bits h, Nat.testBit_or, Nat.testBit_two_pow]
  congr 1
  exact decide_eq_decide.mpr ⟨Eq.symm, Eq.symm⟩
theorem an_x {P b : Nat} (h : P.testBit b = true) : P &&& (P ^^^ 2 ^ b) = P ^^^ 2 ^ b := by
  apply Nat.eq_of_testBit_eq
  intro i
  rw [Nat.testBit_and, rem_bits h]
  cases P.testBit i <;> rfl
theorem r_advA (h : RB g n X Y) (hN : Near X Y n) (hd : Dist X Y n) {P a : Nat} (ha : a < n) (hP : g.1 250 18 = nI P) : (∃ r, AdvA X Y n w P a r ∧ zev mX12_advances 0 [.ref 250, .long (lN w), .int (nI a)] g = some (some (.int 1), adv3 g r)) ∨ ((∀ r, ¬ AdvA X Y n w P a r) ∧ zev mX12_advances 0 [.ref 250, .long (lN w), .int (nI a)] g = some (some (.int 0), g)) := by
  have hn := h.1
  rcases r_nextOn h hN hd ha hP with ⟨b, nb, e1⟩ | ⟨no, e1⟩
  · have hb := nb.1
    have ab := nb.2.2.1
    have nab := ahd_ne ab
    have st : zev mX12_advances 0 [.ref 250, .long (lN w), .int (nI a)] g = zev mX12_advances 17 [.ref 250, .long (lN w), .int (nI a), .int (nI b), .int (nI 0)] g := by
      rw [uX12_advances_0, e1, zaI_some, nI_0le (by omega)]; rfl
    rw [st]
    rcases zfind (F := fun c => zev mX12_advances 17 [.ref 250, .long (lN w), .int (nI a), .int (nI b), .int (nI c)] g) (R := fun c => some (some (.int 1), adv3 g (P ^^^ 2 ^ c, 2 ^ a ||| 2 ^ b ||| 2 ^ c, 0))) (Rn := zev mX12_advances 17 [.ref 250, .long (lN w), .int (nI a), .int (nI b), .int (nI n)] g) (n := n) (Q := fun c => InP X Y n w a b c) (fun c hc => by
        show zev mX12_advances 17 _ g = _
        rw [uX12_advances_17, r_points h, zaI_some, decide_eq_false (nI_ge (a := c) (b := n) hc (by omega)), nI_de (by omega : c < 2 ^ 31) (by omega : a < 2 ^ 31), nI_de (by omega : c < 2 ^ 31) (by omega : b < 2 ^ 31), r_isAhead h hN ha hc, zaI_some, bI_0, r_isAhead h hN hc hb, zaI_some, bI_0, r_turnOf h hN ha hb hc, zaI_some, tI_1]
        simp only [nI_1]
        by_cases c1 : c = a
        · rw [decide_eq_true c1, cdec_f (q := InP X Y n w a b c) (fun z => by rw [c1] at z; exact ahd_irr z.2.1)]; rfl
        · by_cases c2 : c = b
          · rw [decide_eq_false c1, decide_eq_true c2, cdec_f (q := InP X Y n w a b c) (fun z => by rw [c2] at z; exact ahd_irr z.2.2.1)]; rfl
          · rw [decide_eq_false c1, decide_eq_false c2, r_isTriangle h hN ha hb hc nab (Ne.symm c1) (Ne.symm c2), zaI_some, bI_0]
            cases q1 : ahB X Y a c with
            | false => rw [cdec_f (q := InP X Y n w a b c) (fun z => ahB_f.mp q1 z.2.1)]; rfl
            | true =>
              cases q2 : ahB X Y c b with
              | false => rw [cdec_f (q := InP X Y n w a b c) (fun z => ahB_f.mp q2 z.2.2.1)]; rfl
              | true =>
                cases q3 : oXY X Y a b c with
                | false => rw [cdec_f (q := InP X Y n w a b c) (fun z => by have := z.2.2.2.1; rw [q3] at this; exact absurd this (by decide))]; rfl
                | true =>
                  have ac := ahB_iff.mp q1
                  have cb := ahB_iff.mp q2
                  rw [cdec_cg (p := InP X Y n w a b c) (q := Tri X Y n w a b c) ⟨fun z => z.2.2.2.2, fun z => ⟨hc, ac, cb, q3, z⟩⟩, hP, i_or2 (by omega), or_x (nxp_no nb hc ac cb), i_three (by omega) (by omega) (by omega)]
                  cases cdec (Tri X Y n w a b c) <;> rfl) rfl n 0 (by omega) with ⟨no, e2⟩ | ⟨c, _, hc, ic, _, e2⟩
    · refine (Eq.trans e2 rfl : zev mX12_advances 17 [.ref 250, .long (lN w), .int (nI a), .int (nI b), .int (nI 0)] g = zev mX12_advances 17 [.ref 250, .long (lN w), .int (nI a), .int (nI b), .int (nI n)] g) ▸ ?_
      have noc : ∀ c, ¬ InP X Y n w a b c := fun c z => no c (by omega) z.1 z
      have en : ∀ x, zev mX12_nextOn 0 [.ref 250, .int (nI b)] g = some (some (.int x), g) → zev mX12_advances 17 [.ref 250, .long (lN w), .int (nI a), .int (nI b), .int (nI n)] g = cond (decide (x < 0)) (some (some (.int 0), g)) (zaI (zev mX12_turnOf 0 [.ref 250, .int (nI a), .int (nI b), .int x] g) fun x6 g5 => cond (!decide (x6 = 1)) (some (some (.int 0), g5)) (zaI (zev mX12_isTriangle 0 [.ref 250, .long (lN w), .int (nI a), .int (nI b), .int x] g5) fun x8 g7 => cond (!decide (x8 = 0)) (some (some (.int 1), zsI (zsI (zsI g7 250 18 ((g7.1 250 18) &&& (((1 : Int32) <<< (nI b &&& 31)) ^^^ (-1)))) 250 19 ((((1 : Int32) <<< (nI a &&& 31)) ||| ((1 : Int32) <<< (nI b &&& 31))) ||| ((1 : Int32) <<< (x &&& 31)))) 250 20 1)) (some (some (.int 0), g7)))) := fun x ex => by
        rw [uX12_advances_17, r_points h, zaI_some, decide_eq_true (nI_le (Nat.le_refl n) (by omega)), ex]; rfl
      rcases r_nextOn h hN hd hb hP with ⟨d, nd, e3⟩ | ⟨no2, e3⟩
      · have hdn := nd.1
        have nbd := ahd_ne nd.2.2.1
        have nad := ahd_ne (ahd_tr ab nd.2.2.1)
        rw [en _ e3, show decide (nI d < 0) = false from decide_eq_false (nI_n0 (by omega)), r_turnOf h hN ha hb hdn, zaI_some, tI_1, r_isTriangle h hN ha hb hdn nab nad nbd, zaI_some, bI_0, hP, sh1_i b (by omega), nI_andn, an_x nb.2.1, ← sh1_i b (by omega), i_three (by omega) (by omega) (by omega)]
        cases q3 : oXY X Y a b d with
        | false =>
          refine Or.inr ⟨fun r ⟨b', nb', hr⟩ => ?_, rfl⟩
          have := nxp_uq nb' nb
          subst this
          rcases hr with ⟨c, ic, _⟩ | ⟨_, d', nd', o', _⟩
          · exact noc c ic
          · rw [nxp_uq nd' nd, q3] at o'
            exact absurd o' (by decide)
        | true =>
          by_cases q4 : Tri X Y n w a b d
          · rw [cdec_t q4]
            exact Or.inl ⟨(P ^^^ 2 ^ b, 2 ^ a ||| 2 ^ b ||| 2 ^ d, 1), ⟨b, nb, Or.inr ⟨noc, d, nd, q3, q4, rfl⟩⟩, rfl⟩
          · rw [cdec_f q4]
            refine Or.inr ⟨fun r ⟨b', nb', hr⟩ => ?_, rfl⟩
            have := nxp_uq nb' nb
            subst this
            rcases hr with ⟨c, ic, _⟩ | ⟨_, d', nd', _, t', _⟩
            · exact noc c ic
            · rw [nxp_uq nd' nd] at t'
              exact q4 t'
      · rw [en _ e3]
        refine Or.inr ⟨fun r ⟨b', nb', hr⟩ => ?_, rfl⟩
        have := nxp_uq nb' nb
        subst this
        rcases hr with ⟨c, ic, _⟩ | ⟨_, d', nd', _⟩
        · exact noc c ic
        · exact no2 d' nd'.1 nd'.2.1 nd'.2.2.1
    · refine Or.inl ⟨(P ^^^ 2 ^ c, 2 ^ a ||| 2 ^ b ||| 2 ^ c, 0), ⟨b, nb, Or.inl ⟨c, ic, rfl⟩⟩, ?_⟩
      exact e2
  · refine Or.inr ⟨fun r ⟨b, nb, _⟩ => no b nb.1 nb.2.1 nb.2.2.1, ?_⟩
    rw [uX12_advances_0, e1, zaI_some]; rfl
theorem r_adv (h : RB g n X Y) (hN : Near X Y n) (hd : Dist X Y n) {P : Nat} (hn0 : 0 < n) (hP : g.1 250 18 = nI P) (pf : ∀ f, Fst X Y n f → P.testBit f = true) : (∃ r, Adv X Y n w P r ∧ zev mX12_advances_ 0 [.ref 250, .long (lN w)] g = some (some (.int 1), adv3 g r)) ∨ ((∀ r, ¬ Adv X Y n w P r) ∧ zev mX12_advances_ 0 [.ref 250, .long (lN w)] g = some (some (.int 0), g)) := by
  have hn := h.1
  obtain ⟨od, ho⟩ := ord_ex hd
  have ff := od_fst ho hd hn0
  have go : ∀ (d p : Nat), p < n → n ≤ p + d → P.testBit (od p) = true → (∀ a', a' < n → P.testBit a' = true → ahd X Y a' (od p) → ∀ r, ¬ AdvA X Y n w P a' r) → ((∃ r, Adv X Y n w P r ∧ zev mX12_advances_ 5 [.ref 250, .long (lN w), .int (nI (od p))] g = some (some (.int 1), adv3 g r)) ∨ ((∀ r, ¬ Adv X Y n w P r) ∧ zev mX12_advances_ 5 [.ref 250, .long (lN w), .int (nI (od p))] g = some (some (.int 0), g))) := by
    intro d
    induction d with
    | zero => intro p hp h2; omega
    | succ d ih =>
      intro p hp h2 pp mn
      have op := (ho p hp).1
      have d0 : decide (nI (od p) < 0) = false := decide_eq_false (nI_n0 (by omega))
      rcases r_advA (w := w) h hN hd op hP with ⟨r, ar, e1⟩ | ⟨no, e1⟩
      · refine Or.inl ⟨r, ⟨od p, op, pp, ar, mn⟩, ?_⟩
        rw [uX12_advances__5, d0, e1, zaI_some]; rfl
      · have st : ∀ x, zev mX12_nextOn 0 [.ref 250, .int (nI (od p))] g = some (some (.int x), g) → zev mX12_advances_ 5 [.ref 250, .long (lN w), .int (nI (od p))] g = zev mX12_advances_ 5 [.ref 250, .long (lN w), .int x] g := fun x ex => by
          rw [uX12_advances__5, d0, e1, zaI_some, ex]; rfl
        rcases r_nextOn h hN hd op hP with ⟨b, nb, e2⟩ | ⟨no2, e2⟩
        · obtain ⟨q, q1, q2, q3, q4, q5⟩ := nxp_od ho hd hp nb
          subst q3
          rw [st _ e2]
          refine ih q q2 (by omega) q4 (fun a' ha' pa' aa r => ?_)
          by_cases e : a' = od p
          · rw [e]; exact no r
          · rcases ahd_tot (hd a' (od p) ha' op e) with y | y
            · exact mn a' ha' pa' y r
            · exact absurd (ahd_tr aa (nb.2.2.2 a' ha' pa' y (ahd_ne aa))) ahd_irr
        · refine Or.inr ⟨fun r ⟨a', ha', pa', aa, _⟩ => ?_, ?_⟩
          · by_cases e : a' = od p
            · rw [e] at aa; exact no r aa
            · rcases ahd_tot (hd a' (od p) ha' op e) with y | y
              · exact mn a' ha' pa' y r aa
              · exact no2 a' ha' pa' y
          · rw [st _ e2, uX12_advances__5]; rfl
  rw [uX12_advances__0, r_first h hN hd ff, zaI_some]
  refine go n 0 hn0 (by omega) (pf _ ff) (fun a' ha' pa' aa => ?_)
  by_cases e : a' = od 0
  · rw [e] at aa; exact absurd aa ahd_irr
  · exact absurd (ahd_tr aa (ff.2 a' ha' e)) ahd_irr
/-- the first point stays on the path -/
theorem adv_fst {P : Nat} {r : Nat × Nat × Nat} (h : Adv X Y n w P r) (pf : ∀ f, Fst X Y n f → P.testBit f = true) : ∀ f, Fst X Y n f → r.1.testBit f = true := by
  intro f hf
  obtain ⟨a, ha, pa, ⟨b, nb, h⟩, _⟩ := h
  have nf : ∀ x, ahd X Y a x → x ≠ f := fun x ax e => by
    by_cases z : a = f
    · rw [e, z] at ax; exact ahd_irr ax
    · rw [e] at ax; exact ahd_irr (ahd_tr ax (hf.2 a ha z))
  rcases h with ⟨c, ⟨hc, ac, cb, oc, _⟩, e⟩ | ⟨_, d, nd, od, _, e⟩
  · rw [e]
    show (P ^^^ 2 ^ c).testBit f = true
    rw [ins_bits (nxp_no nb hc ac cb), pf f hf]; rfl
  · rw [e]
    show (P ^^^ 2 ^ b).testBit f = true
    rw [rem_bits nb.2.1, pf f hf, decide_eq_false (fun z => nf b nb.2.2.1 z.symm)]; rfl
end
