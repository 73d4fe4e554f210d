/-! A sweep goes upward: what is below stays below. -/
section
variable {X Y : Nat → Int} {n w : Nat}
def Blw (X Y : Nat → Int) (n P p : Nat) : Prop := ∃ a b, a < n ∧ P.testBit a = true ∧ NxP X Y n P a b ∧ ahd X Y a p ∧ ahd X Y p b ∧ oXY X Y a b p = false
theorem ahd_ne {a b : Nat} (h : ahd X Y a b) : a ≠ b := fun e => by rw [e] at h; exact ahd_irr h
theorem o_rot (a b c : Nat) : oXY X Y b c a = oXY X Y a b c := by unfold oXY; rw [dt_rot]
theorem o_asy {a b c : Nat} (h : oXY X Y a b c = true) (k : oXY X Y a c b = true) : False := by
  have h := of_decide_eq_true h
  have k := of_decide_eq_true k
  have e : dt X Y a c b = - dt X Y a b c := by
    rw [dt_rot b a c, dt_sw a b c]
  omega
theorem o_f {a b c : Nat} (hG : GP X Y n) (ha : a < n) (hb : b < n) (hc : c < n) (nab : a ≠ b) (nac : a ≠ c) (nbc : b ≠ c) (h : oXY X Y a b c = false) : oXY X Y a c b = true := by
  have h := of_decide_eq_false h
  have d := hG a b c ha hb hc nab nac nbc
  have e : dt X Y a c b = - dt X Y a b c := by
    rw [dt_rot b a c, dt_sw a b c]
  exact decide_eq_true (by omega)
theorem ins_bits {P c : Nat} (pc : P.testBit c = false) (x : Nat) : (P ^^^ 2 ^ c).testBit x = (P.testBit x || decide (x = c)) := by
  rw [Nat.testBit_xor, Nat.testBit_two_pow]
  by_cases e : x = c
  · rw [e, pc, decide_eq_true rfl]; rfl
  · rw [decide_eq_false e, decide_eq_false (fun z => e z.symm)]
    cases P.testBit x <;> rfl
theorem rem_bits {P b : Nat} (pb : P.testBit b = true) (x : Nat) : (P ^^^ 2 ^ b).testBit x = (P.testBit x && !decide (x = b)) := by
  rw [Nat.testBit_xor, Nat.testBit_two_pow]
  by_cases e : x = b
  · rw [e, pb, decide_eq_true rfl]; rfl
  · rw [decide_eq_false e, decide_eq_false (fun z => e z.symm)]
    cases P.testBit x <;> rfl
theorem nxp_no {P a b c : Nat} (h : NxP X Y n P a b) (hc : c < n) (ac : ahd X Y a c) (cb : ahd X Y c b) : P.testBit c = false := by
  cases z : P.testBit c with
  | false => rfl
  | true => exact absurd (ahd_tr cb (h.2.2.2 c hc z ac (ahd_ne cb))) ahd_irr
/-- two steps of the path over one place are one -/
theorem nxp_over {P a b a0 b0 c : Nat} (hd : Dist X Y n) (ha : a < n) (ha0 : a0 < n) (pa : P.testBit a = true) (pa0 : P.testBit a0 = true) (h : NxP X Y n P a b) (h0 : NxP X Y n P a0 b0) (ac : ahd X Y a c) (cb : ahd X Y c b) (ac0 : ahd X Y a0 c) (cb0 : ahd X Y c b0) : a0 = a ∧ b0 = b := by
  have e : a0 = a := by
    refine Classical.byContradiction (fun z => ?_)
    rcases ahd_tot (hd a a0 ha ha0 (Ne.symm z)) with q | q
    · by_cases e : a0 = b
      · subst e; exact ahd_irr (ahd_tr cb ac0)
      · exact ahd_irr (ahd_tr (ahd_tr cb (h.2.2.2 a0 ha0 pa0 q e)) ac0)
    · by_cases e : a = b0
      · subst e; exact ahd_irr (ahd_tr cb0 ac)
      · exact ahd_irr (ahd_tr (ahd_tr cb0 (h0.2.2.2 a ha pa q e)) ac)
  subst e
  exact ⟨rfl, nxp_uq h0 h⟩
theorem blw_ins (hG : GP X Y n) (hd : Dist X Y n) {P a b c p : Nat} (ha : a < n) (pa : P.testBit a = true) (h : NxP X Y n P a b) (hc : c < n) (ac : ahd X Y a c) (cb : ahd X Y c b) (oc : oXY X Y a b c = true) (hp : p < n) (bp : Blw X Y n P p) : Blw X Y n (P ^^^ 2 ^ c) p := by
  have pc := nxp_no h hc ac cb
  have bits := fun x => ins_bits pc x
  have nx1 : NxP X Y n (P ^^^ 2 ^ c) a c := by
    refine ⟨hc, by rw [bits, decide_eq_true rfl, Bool.or_true], ac, fun e he pe ae ne => ?_⟩
    rw [bits, decide_eq_false ne, Bool.or_false] at pe
    by_cases eb : e = b
    · rw [eb]; exact cb
    · exact ahd_tr cb (h.2.2.2 e he pe ae eb)
  have nx2 : NxP X Y n (P ^^^ 2 ^ c) c b := by
    refine ⟨h.1, by rw [bits, h.2.1]; rfl, cb, fun e he pe ce ne => ?_⟩
    rw [bits, decide_eq_false (Ne.symm (ahd_ne ce)), Bool.or_false] at pe
    exact h.2.2.2 e he pe (ahd_tr ac ce) ne
  obtain ⟨a0, b0, ha0, pa0, h0, ap0, pb0, o0⟩ := bp
  by_cases e : a0 = a
  · subst e
    have := nxp_uq h0 h
    subst this
    have npc : p ≠ c := fun z => by rw [z, oc] at o0; exact absurd o0 (by decide)
    rcases ahd_tot (hd p c hp hc npc) with q | q
    · refine ⟨a0, c, ha0, by rw [bits, pa0]; rfl, nx1, ap0, q, ?_⟩
      cases z : oXY X Y a0 c p with
      | false => rfl
      | true =>
        have := tr_first hG ha0 h.1 hc hp (Ne.symm (ahd_ne pb0)) h.2.2.1 ac ap0 oc z
        rw [o0] at this
        exact absurd this (by decide)
    · refine ⟨c, b0, hc, by rw [bits, decide_eq_true rfl, Bool.or_true], nx2, q, pb0, ?_⟩
      cases z : oXY X Y c b0 p with
      | false => rfl
      | true =>
        have z1 : oXY X Y b0 p c = true := by rw [o_rot c b0 p]; exact z
        have z2 : oXY X Y b0 c a0 = true := by rw [o_rot a0 b0 c]; exact oc
        have z3 := tr_last hG h.1 hp hc ha0 (Ne.symm (ahd_ne ap0)) pb0 cb h.2.2.1 z1 z2
        have z4 : oXY X Y b0 a0 p = true := by
          rw [oXY_sw hG ha0 h.1 hp (ahd_ne h.2.2.1) (ahd_ne ap0) (Ne.symm (ahd_ne pb0)), o0]; rfl
        exact (o_asy z3 z4).elim
  · refine ⟨a0, b0, ha0, by rw [bits, pa0]; rfl, ⟨h0.1, by rw [bits, h0.2.1]; rfl, h0.2.2.1, fun e' he pe ae ne => ?_⟩, ap0, pb0, o0⟩
    by_cases ec : e' = c
    · subst ec
      rcases ahd_tot (hd e' b0 he h0.1 ne) with q | q
      · exact absurd (nxp_over hd ha ha0 pa pa0 h h0 ac cb ae q).1 e
      · exact q
    · rw [bits, decide_eq_false ec, Bool.or_false] at pe
      exact h0.2.2.2 e' he pe ae ne
theorem blw_no (hd : Dist X Y n) {P a b c : Nat} (ha : a < n) (pa : P.testBit a = true) (h : NxP X Y n P a b) (ac : ahd X Y a c) (cb : ahd X Y c b) (oc : oXY X Y a b c = true) : ¬ Blw X Y n P c := by
  intro ⟨a0, b0, ha0, pa0, h0, ap0, pb0, o0⟩
  obtain ⟨e1, e2⟩ := nxp_over hd ha ha0 pa pa0 h h0 ac cb ap0 pb0
  rw [e1, e2, oc] at o0
  exact absurd o0 (by decide)
theorem blw_rem (hG : GP X Y n) (hd : Dist X Y n) {P a b d : Nat} (ha : a < n) (pa : P.testBit a = true) (h : NxP X Y n P a b) (h2 : NxP X Y n P b d) (od : oXY X Y a b d = true) : (∀ p, p < n → Blw X Y n P p → Blw X Y n (P ^^^ 2 ^ b) p) ∧ Blw X Y n (P ^^^ 2 ^ b) b := by
  have bits := fun x => rem_bits h.2.1 x
  have ab := h.2.2.1
  have bd := h2.2.2.1
  have nx : NxP X Y n (P ^^^ 2 ^ b) a d := by
    refine ⟨h2.1, by rw [bits, h2.2.1, decide_eq_false (Ne.symm (ahd_ne bd))]; rfl, ahd_tr ab bd, fun e he pe ae ne => ?_⟩
    rw [bits, Bool.and_eq_true, Bool.not_eq_true', decide_eq_false_iff_not] at pe
    exact h2.2.2.2 e he pe.1 (h.2.2.2 e he pe.1 ae pe.2) ne
  have pa' : (P ^^^ 2 ^ b).testBit a = true := by rw [bits, pa, decide_eq_false (ahd_ne ab)]; rfl
  refine ⟨fun p hp bp => ?_, a, d, ha, pa', nx, ab, bd, ?_⟩
  · obtain ⟨a0, b0, ha0, pa0, h0, ap0, pb0, o0⟩ := bp
    by_cases e1 : a0 = a
    · subst e1
      have := nxp_uq h0 h
      subst this
      refine ⟨a0, d, ha0, pa', nx, ap0, ahd_tr pb0 bd, ?_⟩
      cases z : oXY X Y a0 d p with
      | false => rfl
      | true =>
        have := tr_first hG ha0 h.1 h2.1 hp (Ne.symm (ahd_ne pb0)) ab (ahd_tr ab bd) ap0 od z
        rw [o0] at this
        exact absurd this (by decide)
    · by_cases e2 : a0 = b
      · subst e2
        have := nxp_uq h0 h2
        subst this
        refine ⟨a, b0, ha, pa', nx, ahd_tr ab ap0, pb0, ?_⟩
        cases z : oXY X Y a b0 p with
        | false => rfl
        | true =>
          have z1 : oXY X Y b0 p a = true := by rw [o_rot a b0 p]; exact z
          have z2 : oXY X Y b0 a a0 = true := by rw [← o_rot b0 a a0]; exact od
          have z3 := tr_last hG h2.1 hp ha ha0 (Ne.symm (ahd_ne ap0)) pb0 (ahd_tr ab bd) bd z1 z2
          have z4 : oXY X Y b0 a0 p = true := by
            rw [oXY_sw hG ha0 h2.1 hp (ahd_ne bd) (ahd_ne ap0) (Ne.symm (ahd_ne pb0)), o0]; rfl
          exact (o_asy z3 z4).elim
      · have nb0 : b0 ≠ b := fun z => by
          rw [z] at h0
          exact e1 (nxp_pred hd ha0 ha pa0 pa h0 h)
        refine ⟨a0, b0, ha0, by rw [bits, pa0, decide_eq_false e2]; rfl, ⟨h0.1, by rw [bits, h0.2.1, decide_eq_false nb0]; rfl, h0.2.2.1, fun e he pe ae ne => ?_⟩, ap0, pb0, o0⟩
        rw [bits, Bool.and_eq_true] at pe
        exact h0.2.2.2 e he pe.1 ae ne
  · cases z : oXY X Y a d b with
    | false => rfl
    | true => exact (o_asy od z).elim
/-! how far each point has come -/
noncomputable def stt (X Y : Nat → Int) (n P p : Nat) : Nat := cond (P.testBit p) 1 (cond (cdec (Blw X Y n P p)) 2 0)
theorem stt_le (P p : Nat) : stt X Y n P p ≤ 2 := by
  unfold stt
  cases P.testBit p <;> cases cdec (Blw X Y n P p) <;> decide
/-- what happens at an advance -/
theorem adv_ev (hG : GP X Y n) (hd : Dist X Y n) {P : Nat} {r : Nat × Nat × Nat} (h : Adv X Y n w P r) : (∀ p, p < n → stt X Y n P p ≤ stt X Y n r.1 p) ∧ ∃ c, c < n ∧ ((stt X Y n P c = 0 ∧ stt X Y n r.1 c = 1 ∧ ∃ a b, a < n ∧ b < n ∧ ahd X Y a c ∧ ahd X Y c b ∧ oXY X Y a b c = true) ∨ (stt X Y n P c = 1 ∧ stt X Y n r.1 c = 2 ∧ ∃ a b, a < n ∧ b < n ∧ ahd X Y a c ∧ ahd X Y c b ∧ oXY X Y a c b = true)) := by
  obtain ⟨a, ha, pa, ⟨b, nb, h⟩, _⟩ := h
  rcases h with ⟨c, ⟨hc, ac, cb, oc, _⟩, e⟩ | ⟨_, d, nd, od, _, e⟩
  · rw [e]
    have pc := nxp_no nb hc ac cb
    have bits := fun x => ins_bits pc x
    have e0 : stt X Y n P c = 0 := by
      unfold stt
      rw [pc, cdec_f (blw_no hd ha pa nb ac cb oc)]; rfl
    have e1 : stt X Y n (P ^^^ 2 ^ c) c = 1 := by
      unfold stt
      rw [bits, decide_eq_true rfl, Bool.or_true]; rfl
    refine ⟨fun p hp => ?_, c, hc, Or.inl ⟨e0, e1, a, b, ha, nb.1, ac, cb, oc⟩⟩
    show stt X Y n P p ≤ stt X Y n (P ^^^ 2 ^ c) p
    by_cases z : p = c
    · rw [z, e0, e1]; omega
    · unfold stt
      rw [bits, decide_eq_false z, Bool.or_false]
      cases P.testBit p with
      | true => exact Nat.le_refl _
      | false =>
        by_cases bp : Blw X Y n P p
        · rw [cdec_t bp, cdec_t (blw_ins hG hd ha pa nb hc ac cb oc hp bp)]; exact Nat.le_refl _
        · rw [cdec_f bp]; exact Nat.zero_le _
  · rw [e]
    have bits := fun x => rem_bits nb.2.1 x
    obtain ⟨mono, bb⟩ := blw_rem hG hd ha pa nb nd od
    have e0 : stt X Y n P b = 1 := by
      unfold stt
      rw [nb.2.1]; rfl
    have e1 : stt X Y n (P ^^^ 2 ^ b) b = 2 := by
      unfold stt
      rw [bits, nb.2.1, decide_eq_true rfl, cdec_t bb]; rfl
    refine ⟨fun p hp => ?_, b, nb.1, Or.inr ⟨e0, e1, a, d, ha, nd.1, nb.2.2.1, nd.2.2.1, od⟩⟩
    show stt X Y n P p ≤ stt X Y n (P ^^^ 2 ^ b) p
    by_cases z : p = b
    · rw [z, e0, e1]; omega
    · unfold stt
      rw [bits, decide_eq_false z]
      cases P.testBit p with
      | true => exact Nat.le_refl _
      | false =>
        by_cases bp : Blw X Y n P p
        · rw [cdec_t bp, cdec_t (mono p hp bp)]; exact Nat.le_refl _
        · rw [cdec_f bp]; exact Nat.zero_le _
/-- a point of the hull comes, or goes, not both -/
theorem hull_one (hG : GP X Y n) {h b0 : Nat} (hh : h < n) (hb : HB X Y n h b0) (hd : Dist X Y n) : (∀ a b, a < n → b < n → ahd X Y a h → ahd X Y h b → oXY X Y a b h = true → False) ∨ (∀ a d, a < n → d < n → ahd X Y a h → ahd X Y h d → oXY X Y a h d = true → False) := by
  obtain ⟨b0n, nb0, all⟩ := hb
  rcases ahd_tot (hd h b0 hh b0n (Ne.symm nb0)) with q | q
  · refine Or.inl (fun a b ha hb ah hb2 o1 => ?_)
    have na : a ≠ h := ahd_ne ah
    have nab0 : a ≠ b0 := fun z => by rw [z] at ah; exact ahd_irr (ahd_tr ah q)
    have k1 := all a ha na nab0
    have k2 : oXY X Y h a b = true := by rw [← o_rot h a b]; exact o1
    by_cases e : b = b0
    · rw [e] at k2; exact o_asy k1 k2
    · have k3 := all b hb (Ne.symm (ahd_ne hb2)) e
      have k4 := tr_mid hG hh ha b0n hb (fun z => by rw [z] at ah; exact ahd_irr (ahd_tr ah hb2)) ah q hb2 k1 k3
      exact o_asy k4 k2
  · refine Or.inr (fun a d ha hd' ah hd2 o1 => ?_)
    have nd : d ≠ h := Ne.symm (ahd_ne hd2)
    have ndb0 : d ≠ b0 := fun z => by rw [z] at hd2; exact ahd_irr (ahd_tr hd2 q)
    have k1 := all d hd' nd ndb0
    have k2 : oXY X Y h d a = true := by rw [o_rot a h d]; exact o1
    by_cases e : a = b0
    · rw [e] at k2; exact o_asy k1 k2
    · have k3 := all a ha (ahd_ne ah) e
      have k4 := tr_mid2 hG hh hd' b0n ha (fun z => by rw [z] at hd2; exact ahd_irr (ahd_tr hd2 ah)) hd2 q ah k1 k3
      exact o_asy k4 k2
def fwt (f l h : Nat) (m : Bool) (p s : Nat) : Nat := cond (Nat.beq p f || Nat.beq p l) 0 (cond (Nat.beq p h) (cond m (s / 2) ((s + 1) / 2)) s)
theorem sum_ind {j : Nat} : ∀ n, j < n → sumR (fun p => cond (Nat.beq p j) 1 0) n = 1 := fun n hj => by
  rw [sumR_1 (p := fun p => Nat.beq p j) (fun b b' _ _ h1 h2 => (Nat.eq_of_beq_eq_true h1).trans (Nat.eq_of_beq_eq_true h2).symm), cdec_t ⟨j, hj, Nat.beq_refl j⟩]; rfl
theorem fwt_sum {f l h : Nat} {m : Bool} {s : Nat → Nat} (hn : n ≤ 9) (hf : f < n) (hl : l < n) (hh : h < n) (n1 : f ≠ l) (n2 : h ≠ f) (n3 : h ≠ l) (hs : ∀ p, s p ≤ 2) : sumR (fun p => fwt f l h m p (s p)) n ≤ 13 := by
  have key : sumR (fun p => fwt f l h m p (s p) + (cond (Nat.beq p f) 1 0 + (cond (Nat.beq p f) 1 0 + (cond (Nat.beq p l) 1 0 + (cond (Nat.beq p l) 1 0 + cond (Nat.beq p h) 1 0))))) n ≤ n * 2 := by
    refine sumR_c n (fun p _ => ?_)
    have := hs p
    show fwt f l h m p (s p) + (cond (Nat.beq p f) 1 0 + (cond (Nat.beq p f) 1 0 + (cond (Nat.beq p l) 1 0 + (cond (Nat.beq p l) 1 0 + cond (Nat.beq p h) 1 0)))) ≤ 2
    unfold fwt
    rw [beq_d, beq_d, beq_d]
    by_cases e1 : p = f
    · rw [decide_eq_true e1, decide_eq_false (fun z => n1 (e1.symm.trans z)), decide_eq_false (fun z => n2 (z.symm.trans e1))]; exact Nat.le_refl 2
    · by_cases e2 : p = l
      · rw [decide_eq_false e1, decide_eq_true e2, decide_eq_false (fun z => n3 (z.symm.trans e2))]; exact Nat.le_refl 2
      · by_cases e3 : p = h
        · rw [decide_eq_false e1, decide_eq_false e2, decide_eq_true e3]
          cases m
          · show (s p + 1) / 2 + 1 ≤ 2
            omega
          · show s p / 2 + 1 ≤ 2
            omega
        · rw [decide_eq_false e1, decide_eq_false e2, decide_eq_false e3]
          show s p + 0 ≤ 2
          omega
  rw [sumR_add, sumR_add, sumR_add, sumR_add, sumR_add, sum_ind n hf, sum_ind n hl, sum_ind n hh] at key
  omega
theorem hull_three (hG : GP X Y n) (h3 : 3 ≤ n) {m : Nat} {s : Nat → Nat} (hH : Hul X Y n m s) {l : Nat} : ∃ h b0, h < n ∧ h ≠ s 0 ∧ h ≠ l ∧ HB X Y n h b0 := by
  rcases hH with ⟨z, _⟩ | ⟨h1, h4, h5, h6, h7, h8, h9⟩
  · omega
  · have h9 : HB X Y n (s (m - 1)) (s 0) := by
      rcases h9 with ⟨z, _⟩ | ⟨_, z⟩
      · omega
      · exact z
    have m1 : m ≠ 1 := fun e => by
      rw [e] at h9
      exact h9.2.1 rfl
    have m2 : m ≠ 2 := fun e => by
      have k1 := h8 0 (by omega)
      rw [e] at h9
      have k1 : HB X Y n (s 0) (s 1) := k1
      have k2 : HB X Y n (s 1) (s 0) := h9
      have c : ∃ c, c < n ∧ c ≠ s 0 ∧ c ≠ s 1 := by
        refine Classical.byContradiction (fun z => ?_)
        have a : ∀ c, c < n → c = s 0 ∨ c = s 1 := fun c hc => by
          refine Classical.byContradiction (fun y => z ⟨c, hc, fun q => y (Or.inl q), fun q => y (Or.inr q)⟩)
        have a0 := a 0 (by omega)
        have a1 := a 1 (by omega)
        have a2 := a 2 (by omega)
        omega
      obtain ⟨c, hc, c0, c1⟩ := c
      have o1 := k1.2.2 c hc c0 c1
      have o2 := k2.2.2 c hc c1 c0
      have s1 := of_decide_eq_true o1
      have s2 := of_decide_eq_true o2
      have := dt_sw (X := X) (Y := Y) (s 0) (s 1) c
      omega
    by_cases e : s 1 = l
    · refine ⟨s 2, if 3 < m then s 3 else s 0, h6 2 (by omega), fun z => ?_, fun z => ?_, ?_⟩
      · have := h7 2 0 (by omega) (by omega) z; omega
      · have := h7 2 1 (by omega) (by omega) (z.trans e.symm); omega
      · by_cases q : 3 < m
        · rw [if_pos q]; exact h8 2 (by omega)
        · rw [if_neg q]
          have : m - 1 = 2 := by omega
          rw [this] at h9; exact h9
    · refine ⟨s 1, s 2, h6 1 (by omega), fun z => ?_, e, h8 1 (by omega)⟩
      have := h7 1 0 (by omega) (by omega) z; omega
theorem swp_ex (hG : GP X Y n) (hd : Dist X Y n) (hn : n ≤ 9) (h3 : 3 ≤ n) {m : Nat} {s : Nat → Nat} (hH : Hul X Y n m s) (P : Nat) : ∃ R, Swp X Y n w P R ∧ R.length ≤ 13 := by
  obtain ⟨od, ho⟩ := ord_ex hd
  have ff := od_fst ho hd (by omega : 0 < n)
  have ll := od_lst ho hd (by omega : 0 < n)
  obtain ⟨h, b0, hh, nh0, nhl, hb⟩ := hull_three hG h3 hH (l := od (n - 1))
  have s0 : s 0 = od 0 := by
    rcases hH with ⟨z, _⟩ | ⟨h1, _⟩
    · omega
    · exact fst_one h1 ff
  rw [s0] at nh0
  have nfl : od 0 ≠ od (n - 1) := fun z => by have := od_inj ho (by omega) (by omega) z; omega
  obtain ⟨md, one⟩ : ∃ md : Bool, (md = true → ∀ a b, a < n → b < n → ahd X Y a h → ahd X Y h b → oXY X Y a b h = true → False) ∧ (md = false → ∀ a d, a < n → d < n → ahd X Y a h → ahd X Y h d → oXY X Y a h d = true → False) := by
    rcases hull_one hG hh hb hd with q | q
    · exact ⟨true, fun _ => q, fun z => absurd z (by decide)⟩
    · exact ⟨false, fun z => absurd z (by decide), fun _ => q⟩
  have mu13 : ∀ P, sumR (fun p => fwt (od 0) (od (n - 1)) h md p (stt X Y n P p)) n ≤ 13 := fun P => fwt_sum hn ff.1 ll.1 hh nfl nh0 nhl (fun p => stt_le P p)
  have inc : ∀ P r, Adv X Y n w P r → sumR (fun p => fwt (od 0) (od (n - 1)) h md p (stt X Y n P p)) n < sumR (fun p => fwt (od 0) (od (n - 1)) h md p (stt X Y n r.1 p)) n := by
    intro P r ad
    obtain ⟨mono, c, hc, ev⟩ := adv_ev hG hd ad
    have nc0 : ∀ a, a < n → ahd X Y a c → c ≠ od 0 := fun a ha ac z => by
      by_cases e : a = od 0
      · rw [e, z] at ac; exact ahd_irr ac
      · rw [z] at ac; exact ahd_irr (ahd_tr ac (ff.2 a ha e))
    have ncl : ∀ b, b < n → ahd X Y c b → c ≠ od (n - 1) := fun b hb cb z => by
      by_cases e : b = od (n - 1)
      · rw [e, z] at cb; exact ahd_irr cb
      · rw [z] at cb; exact ahd_irr (ahd_tr cb (ll.2 b hb e))
    refine sumR_lt n (fun p hp => ?_) ⟨c, hc, ?_⟩
    · have := mono p hp
      unfold fwt
      cases (Nat.beq p (od 0) || Nat.beq p (od (n - 1)))
      · cases Nat.beq p h
        · exact this
        · cases md
          · show (stt X Y n P p + 1) / 2 ≤ (stt X Y n r.1 p + 1) / 2
            omega
          · show stt X Y n P p / 2 ≤ stt X Y n r.1 p / 2
            omega
      · exact Nat.le_refl _
    · rcases ev with ⟨e0, e1, a, b, ha, hb', ac, cb, o1⟩ | ⟨e0, e1, a, b, ha, hb', ac, cb, o1⟩
      · unfold fwt
        rw [e0, e1, beq_d, beq_d, beq_d, decide_eq_false (nc0 a ha ac), decide_eq_false (ncl b hb' cb)]
        by_cases z : c = h
        · cases hm : md with
          | true => rw [z] at ac cb o1; exact (one.1 hm a b ha hb' ac cb o1).elim
          | false => rw [decide_eq_true z]; decide
        · rw [decide_eq_false z]; exact Nat.lt_succ_self 0
      · unfold fwt
        rw [e0, e1, beq_d, beq_d, beq_d, decide_eq_false (nc0 a ha ac), decide_eq_false (ncl b hb' cb)]
        by_cases z : c = h
        · cases hm : md with
          | false => rw [z] at ac cb o1; exact (one.2 hm a b ha hb' ac cb o1).elim
          | true => rw [decide_eq_true z]; decide
        · rw [decide_eq_false z]; exact Nat.lt_succ_self 1
  have go : ∀ k P, 13 ≤ sumR (fun p => fwt (od 0) (od (n - 1)) h md p (stt X Y n P p)) n + k → ∃ R, Swp X Y n w P R ∧ R.length ≤ k := by
    intro k
    induction k with
    | zero =>
      intro P hk
      refine ⟨[], fun r ad => ?_, Nat.le_refl _⟩
      have := inc P r ad
      have := mu13 r.1
      omega
    | succ k ih =>
      intro P hk
      by_cases q : ∃ r, Adv X Y n w P r
      · obtain ⟨r, ad⟩ := q
        have := inc P r ad
        obtain ⟨R, s1, s2⟩ := ih r.1 (by omega)
        exact ⟨r :: R, ⟨ad, s1⟩, Nat.succ_le_succ s2⟩
      · exact ⟨[], fun r ad => q ⟨r, ad⟩, Nat.zero_le _⟩
  exact go 13 P (Nat.le_add_left _ _)
end
