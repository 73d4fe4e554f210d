/-! Triangles round a point. -/
theorem sumR_s (f : Nat → Nat) (n : Nat) : sumR f (n + 1) = sumR f n + f n := by simp only [sumR]
theorem sumR_z {f : Nat → Nat} (n : Nat) (h : ∀ i, i < n → f i = 0) : sumR f n = 0 := by
  induction n with
  | zero => rfl
  | succ n ih => rw [sumR_s, ih (fun i hi => h i (by omega)), h n (by omega)]
theorem sumR_swap (f : Nat → Nat → Nat) (m : Nat) : ∀ n, sumR (fun a => sumR (fun e => f a e) m) n = sumR (fun e => sumR (fun a => f a e) n) m
  | 0 => (sumR_z m (fun _ _ => rfl)).symm
  | n + 1 => by
    rw [sumR_s, sumR_swap f m n, ← sumR_add]
    exact sumR_eq m (fun e _ => (sumR_s _ _).symm)
theorem sumR_1 {p : Nat → Bool} {n : Nat} (h : ∀ b b', b < n → b' < n → p b = true → p b' = true → b = b') : sumR (fun b => cond (p b) 1 0) n = cond (cdec (∃ b, b < n ∧ p b = true)) 1 0 := by
  by_cases q : ∃ b, b < n ∧ p b = true
  · obtain ⟨j, hj, pj⟩ := q
    rw [cdec_t ⟨j, hj, pj⟩, sumR_one (h := fun b => cond (p b) 1 0) (k := fun _ => 0) n hj (fun i hi ni => ?_) (by show cond (p j) 1 0 = 0 + 1; rw [pj]; rfl), sumR_z n (fun _ _ => rfl)]
    · rfl
    · show cond (p i) 1 0 = 0
      cases z : p i with
      | false => rfl
      | true => exact absurd (h i j hi hj z pj) ni
  · rw [cdec_f q, sumR_z n (fun i hi => ?_)]
    · rfl
    · cases z : p i with
      | false => rfl
      | true => exact absurd ⟨i, hi, z⟩ q
theorem sumR_pr (f : Nat → Nat → Nat) (h0 : ∀ a, f a a = 0) : ∀ n, sumR (fun a => sumR (fun b => f a b) n) n = sumR (fun a => sumR (fun b => cond (Nat.blt a b) (f a b + f b a) 0) n) n
  | 0 => rfl
  | n + 1 => by
    have e1 : sumR (fun a => sumR (fun b => f a b) (n + 1)) n = sumR (fun a => sumR (fun b => f a b) n) n + sumR (fun a => f a n) n := by
      rw [← sumR_add]
      exact sumR_eq n (fun a _ => sumR_s _ _)
    have e2 : sumR (fun a => sumR (fun b => cond (Nat.blt a b) (f a b + f b a) 0) (n + 1)) n = sumR (fun a => sumR (fun b => cond (Nat.blt a b) (f a b + f b a) 0) n) n + sumR (fun a => f a n + f n a) n := by
      rw [← sumR_add]
      refine sumR_eq n (fun a ha => ?_)
      rw [sumR_s, Nat.blt_eq.mpr ha]; rfl
    have e3 : sumR (fun b => cond (Nat.blt n b) (f n b + f b n) 0) (n + 1) = 0 := sumR_z _ (fun b hb => by
      cases z : Nat.blt n b with
      | false => rfl
      | true => have := Nat.blt_eq.mp z; omega)
    have e4 : sumR (fun a => f a n + f n a) n = sumR (fun a => f a n) n + sumR (fun a => f n a) n := sumR_add _ _ n
    have e5 : sumR (fun b => f n b) (n + 1) = sumR (fun b => f n b) n + f n n := sumR_s _ n
    have e6 := h0 n
    have e7 := sumR_pr f h0 n
    rw [sumR_s (fun a => sumR (fun b => f a b) (n + 1)), sumR_s (fun a => sumR (fun b => cond (Nat.blt a b) (f a b + f b a) 0) (n + 1)), e1, e2, e3, e5, e4]
    omega
/-! neighbours -/
def nbB (w i a : Nat) : Bool := !Nat.beq a i && w.testBit (eN i a)
theorem at_chk : ∀ i, i < 9 → ∀ e, e < 36 → sumR (fun a => cond (!Nat.beq a i && Nat.beq (eN i a) e) 1 0) 9 = cond ((atM i).testBit e) 1 0 := by decide +kernel
theorem eN_36 : ∀ i, i < 9 → ∀ a, a < 9 → (Nat.beq a i = true ∨ eN i a < 36) := by decide +kernel
theorem deg_sum {w i : Nat} (hw : w < 2 ^ 36) (hi : i < 9) : bcN (w &&& atM i) = sumR (fun a => cond (nbB w i a) 1 0) 9 := by
  have e1 : bcN (w &&& atM i) = sumR (fun e => cond (w.testBit e) 1 0 * cond ((atM i).testBit e) 1 0) 36 := by
    unfold bcN
    rw [show 40 = 36 + 4 from rfl, sumR_spl, sumR_z 4 (fun k hk => ?_), Nat.add_zero]
    · refine sumR_eq 36 (fun e _ => ?_)
      rw [Nat.testBit_and]
      cases w.testBit e <;> cases (atM i).testBit e <;> rfl
    · rw [Nat.testBit_and, Nat.testBit_lt_two_pow (Nat.lt_of_lt_of_le hw (Nat.pow_le_pow_right (by omega) (by omega : 36 ≤ 36 + k)))]; rfl
  have e2 : sumR (fun e => cond (w.testBit e) 1 0 * cond ((atM i).testBit e) 1 0) 36 = sumR (fun e => sumR (fun a => cond (w.testBit e && (!Nat.beq a i && Nat.beq (eN i a) e)) 1 0) 9) 36 := by
    refine sumR_eq 36 (fun e he => ?_)
    rw [← at_chk i hi e he]
    cases w.testBit e
    · rw [sumR_z (f := fun a => cond (false && (!Nat.beq a i && Nat.beq (eN i a) e)) 1 0) 9 (fun a _ => rfl)]
      exact Nat.zero_mul _
    · show 1 * _ = _
      rw [Nat.one_mul]; rfl
  rw [e1, e2, ← sumR_swap]
  refine sumR_eq 9 (fun a ha => ?_)
  show sumR (fun e => cond (w.testBit e && (!Nat.beq a i && Nat.beq (eN i a) e)) 1 0) 36 = cond (nbB w i a) 1 0
  unfold nbB
  cases z : Nat.beq a i with
  | true =>
    rw [sumR_z 36 (fun e _ => by cases w.testBit e <;> rfl)]; rfl
  | false =>
    have l : eN i a < 36 := by
      rcases eN_36 i hi a ha with q | q
      · rw [z] at q; exact absurd q (by decide)
      · exact q
    rw [sumR_1 (p := fun e => w.testBit e && (!false && Nat.beq (eN i a) e)) (fun b b' _ _ h1 h2 => ?_)]
    · show _ = cond (w.testBit (eN i a)) 1 0
      cases q : w.testBit (eN i a) with
      | true =>
        rw [cdec_t ⟨eN i a, l, by show (w.testBit (eN i a) && (!false && Nat.beq (eN i a) (eN i a))) = true; rw [q, Nat.beq_refl]; rfl⟩]
      | false =>
        have no : ¬ ∃ b, b < 36 ∧ (w.testBit b && (!false && Nat.beq (eN i a) b)) = true := fun ⟨b, _, h⟩ => by
          rw [Bool.and_eq_true] at h
          have : eN i a = b := Nat.eq_of_beq_eq_true (by have := h.2; simpa using this)
          rw [this] at q
          rw [h.1] at q
          exact absurd q (by decide)
        rw [cdec_f no]
    · rw [Bool.and_eq_true] at h1 h2
      have a1 : eN i a = b := Nat.eq_of_beq_eq_true (by have := h1.2; simpa using this)
      have a2 : eN i a = b' := Nat.eq_of_beq_eq_true (by have := h2.2; simpa using this)
      exact a1.symm.trans a2
section
variable {X Y : Nat → Int} {n w i : Nat}
theorem em_b {a b : Nat} (ha : a < 9) (hb : b < 9) (nab : a ≠ b) : Em w a b ↔ w.testBit (eN a b) = true := ⟨fun h => h.2.2.2, fun h => ⟨ha, hb, nab, h⟩⟩
/-- one triangle alone on a side -/
theorem tri_uq (hG : GP X Y n) (hn : n ≤ 9) (hw : w < 2 ^ 36) (N : Net (oXY X Y) (List.range n) (Em w)) {a b z y : Nat} (ha : a < n) (hb : b < n) (hz : z < n) (hy : y < n) (nab : a ≠ b) (naz : a ≠ z) (nbz : b ≠ z) (nay : a ≠ y) (nby : b ≠ y) (tz : Tri X Y n w a b z) (ty : Tri X Y n w a b y) (o1 : oXY X Y a b z = oXY X Y a b y) : z = y := by
  refine Classical.byContradiction (fun nzy => ?_)
  have C := cc_xy hG
  have M : ∀ u v, u < n → v < n → u ≠ v → w.testBit (eN u v) = true → Em w u v := fun u v hu hv nuv b => ⟨by omega, by omega, nuv, b⟩
  have maz := M a z ha hz naz tz.2.1
  have mbz := M b z hb hz nbz tz.2.2.1
  have may := M a y ha hy nay ty.2.1
  have mby := M b y hb hy nby ty.2.2.1
  cases q : oXY X Y a b y with
  | true =>
    rw [q] at o1
    exact tf8 C (P := fun x => x < n) o1 q (ty.2.2.2 z hz) (tz.2.2.2 y hy) (net_n N maz mby) (net_n N may mbz)
  | false =>
    rw [q] at o1
    exact tf9 C (P := fun x => x < n) o1 q (ty.2.2.2 z hz) (tz.2.2.2 y hy) (net_n N maz mby) (net_n N may mbz)
theorem tri_sw (hG : GP X Y n) (hn : n ≤ 9) {a b c : Nat} (ha : a < n) (hb : b < n) (hc : c < n) (nab : a ≠ b) (nac : a ≠ c) (nbc : b ≠ c) (h : Tri X Y n w a b c) : Tri X Y n w a c b := by
  obtain ⟨t1, t2, t3, t4⟩ := h
  refine ⟨t2, t1, ?_, fun p hp => ?_⟩
  · rw [eN_sy (by omega) (by omega) nbc]; exact t3
  · rw [wit_p2 (cc_xy hG) (P := fun x => x < n) hp ha hb hc nab nac nbc]; exact t4 p hp
theorem tri_l (hG : GP X Y n) (hn : n ≤ 9) {a b c : Nat} (ha : a < n) (hb : b < n) (hc : c < n) (nab : a ≠ b) (nac : a ≠ c) (nbc : b ≠ c) (h : Tri X Y n w a b c) : Tri X Y n w b a c := by
  obtain ⟨t1, t2, t3, t4⟩ := h
  refine ⟨?_, t3, t2, fun p hp => ?_⟩
  · rw [eN_sy (by omega) (by omega) nab]; exact t1
  · rw [wit_sw (cc_xy hG) (P := fun x => x < n) hp ha hb hc nab nac nbc]; exact t4 p hp
noncomputable def tlB (X Y : Nat → Int) (n w i a b : Nat) : Bool := (!Nat.beq a i && (!Nat.beq b i && (!Nat.beq a b && oXY X Y i a b))) && cdec (Tri X Y n w i a b)
theorem tlB_iff {a b : Nat} : tlB X Y n w i a b = true ↔ (a ≠ i ∧ b ≠ i ∧ a ≠ b ∧ oXY X Y i a b = true ∧ Tri X Y n w i a b) := by
  unfold tlB
  rw [beq_d, beq_d, beq_d]
  simp only [Bool.and_eq_true, Bool.not_eq_true', decide_eq_false_iff_not]
  exact ⟨fun h => ⟨h.1.1, h.1.2.1, h.1.2.2.1, h.1.2.2.2, cdec_of h.2⟩, fun h => ⟨⟨h.1, h.2.1, h.2.2.1, h.2.2.2.1⟩, cdec_t h.2.2.2.2⟩⟩
theorem fan_l (hG : GP X Y n) (hd : Dist X Y n) (hn : n ≤ 9) (hw : w < 2 ^ 36) (N : Net (oXY X Y) (List.range n) (Em w)) (hi : i < n) {a : Nat} (ha : a < n) : sumR (fun b => cond (tlB X Y n w i a b) 1 0) n = cond (nbB w i a && cdec (∃ q, q < n ∧ q ≠ i ∧ q ≠ a ∧ oXY X Y i a q = true)) 1 0 := by
  rw [sumR_1 (fun b b' hb hb' h1 h2 => ?_)]
  · by_cases q : ∃ b, b < n ∧ tlB X Y n w i a b = true
    · obtain ⟨b, hb, tb⟩ := q
      obtain ⟨n1, n2, n3, o1, t⟩ := tlB_iff.mp tb
      rw [cdec_t ⟨b, hb, tb⟩, cdec_t ⟨b, hb, n2, Ne.symm n3, o1⟩]
      unfold nbB
      rw [beq_d, decide_eq_false n1, t.1]; rfl
    · rw [cdec_f q]
      cases z1 : nbB w i a with
      | false => rfl
      | true =>
        by_cases z2 : ∃ q, q < n ∧ q ≠ i ∧ q ≠ a ∧ oXY X Y i a q = true
        · unfold nbB at z1
          rw [beq_d, Bool.and_eq_true, Bool.not_eq_true', decide_eq_false_iff_not] at z1
          obtain ⟨q0, q1, q2, q3, q4⟩ := z2
          obtain ⟨b, b1, b2, b3, b4, b5, b6, b7⟩ := (geo_main hG hd).1 _ N i a ⟨by omega, by omega, Ne.symm z1.1, z1.2⟩ ⟨q0, List.mem_range.mpr q1, q2, q3, q4⟩
          have b1 := List.mem_range.mp b1
          exact absurd ⟨b, b1, tlB_iff.mpr ⟨z1.1, b2, Ne.symm b3, b4, z1.2, b5.2.2.2, b6.2.2.2, fun p hp => b7 p (List.mem_range.mpr hp)⟩⟩ q
        · rw [cdec_f z2]; rfl
  · obtain ⟨n1, n2, n3, o1, t⟩ := tlB_iff.mp h1
    obtain ⟨m1, m2, m3, p1, u⟩ := tlB_iff.mp h2
    exact tri_uq hG hn hw N hi ha hb hb' (Ne.symm n1) (Ne.symm n2) n3 (Ne.symm m2) m3 t u (o1.trans p1.symm)
noncomputable def tgB (X Y : Nat → Int) (n w i a b : Nat) : Bool := (!Nat.beq a i && !Nat.beq b i) && cdec (Tri X Y n w i a b)
theorem fan_pr (hG : GP X Y n) (hn : n ≤ 9) (hi : i < n) : sumR (fun a => sumR (fun b => cond (Nat.blt a b && tgB X Y n w i a b) 1 0) n) n = sumR (fun a => sumR (fun b => cond (tlB X Y n w i a b) 1 0) n) n := by
  rw [sumR_pr (fun a b => cond (tlB X Y n w i a b) 1 0) (fun a => by
    show cond (tlB X Y n w i a a) 1 0 = 0
    cases z : tlB X Y n w i a a with
    | false => rfl
    | true => exact absurd rfl (tlB_iff.mp z).2.2.1)]
  refine sumR_eq n (fun a ha => sumR_eq n (fun b hb => ?_))
  cases q : Nat.blt a b with
  | false => rfl
  | true =>
    have l := Nat.blt_eq.mp q
    show cond (tgB X Y n w i a b) 1 0 = cond (tlB X Y n w i a b) 1 0 + cond (tlB X Y n w i b a) 1 0
    cases z : tgB X Y n w i a b with
    | true =>
      unfold tgB at z
      rw [beq_d, beq_d] at z
      simp only [Bool.and_eq_true, Bool.not_eq_true', decide_eq_false_iff_not] at z
      obtain ⟨⟨n1, n2⟩, t⟩ := z
      have t := cdec_of t
      have t2 := tri_sw hG hn hi ha hb (Ne.symm n1) (Ne.symm n2) (by omega) t
      have os : oXY X Y i b a = !oXY X Y i a b := by
        have C := cc_xy hG
        have e1 := oXY_sw hG hi hb ha (Ne.symm n2) (Ne.symm n1) (by omega : b ≠ a)
        have e2 : oXY X Y b i a = oXY X Y i a b := by unfold oXY; rw [← dt_rot b i a]
        rw [← e2, e1, Bool.not_not]
      cases o1 : oXY X Y i a b with
      | true =>
        have x1 : tlB X Y n w i a b = true := tlB_iff.mpr ⟨n1, n2, by omega, o1, t⟩
        have x2 : tlB X Y n w i b a = false := by
          cases y : tlB X Y n w i b a with
          | false => rfl
          | true =>
            have := (tlB_iff.mp y).2.2.2.1
            rw [os, o1] at this
            exact absurd this (by decide)
        rw [x1, x2]; rfl
      | false =>
        have x1 : tlB X Y n w i b a = true := tlB_iff.mpr ⟨n2, n1, by omega, by rw [os, o1]; rfl, t2⟩
        have x2 : tlB X Y n w i a b = false := by
          cases y : tlB X Y n w i a b with
          | false => rfl
          | true =>
            have := (tlB_iff.mp y).2.2.2.1
            rw [o1] at this
            exact absurd this (by decide)
        rw [x1, x2]; rfl
    | false =>
      have mk : ∀ u v, (u = a ∧ v = b) ∨ (u = b ∧ v = a) → tlB X Y n w i u v = false := by
        intro u v huv
        cases y : tlB X Y n w i u v with
        | false => rfl
        | true =>
          obtain ⟨n1, n2, n3, o1, t⟩ := tlB_iff.mp y
          have tt : tgB X Y n w i a b = true := by
            unfold tgB
            rw [beq_d, beq_d]
            simp only [Bool.and_eq_true, Bool.not_eq_true', decide_eq_false_iff_not]
            rcases huv with ⟨e1, e2⟩ | ⟨e1, e2⟩
            · subst e1 e2
              exact ⟨⟨n1, n2⟩, cdec_t t⟩
            · subst e1 e2
              exact ⟨⟨n2, n1⟩, cdec_t (tri_sw hG hn hi hb ha (Ne.symm n1) (Ne.symm n2) n3 t)⟩
          rw [z] at tt
          exact absurd tt (by decide)
      rw [mk a b (Or.inl ⟨rfl, rfl⟩), mk b a (Or.inr ⟨rfl, rfl⟩)]; rfl
theorem hb_uq (hG : GP X Y n) {a a' : Nat} (ha : a < n) (ha' : a' < n) (hi : i < n) (h : HB X Y n a i) (h' : HB X Y n a' i) : a = a' := by
  refine Classical.byContradiction (fun z => ?_)
  have e1 := h.2.2 a' ha' (Ne.symm z) (Ne.symm h'.2.1)
  have e2 := h'.2.2 a ha z (Ne.symm h.2.1)
  have s1 := of_decide_eq_true e1
  have s2 := of_decide_eq_true e2
  have r1 : dt X Y a' i a = - dt X Y a i a' := by
    rw [dt_sw i a' a, ← dt_rot a i a']
  omega
theorem fan_r (hG : GP X Y n) (hn : n ≤ 9) (hw : w < 2 ^ 36) (N : Net (oXY X Y) (List.range n) (Em w)) (hi : i < n) : sumR (fun a => cond (nbB w i a && !cdec (∃ q, q < n ∧ q ≠ i ∧ q ≠ a ∧ oXY X Y i a q = true)) 1 0) n = cond (cdec (∃ a, a < n ∧ HB X Y n a i)) 1 0 := by
  have key : ∀ a, a < n → ((nbB w i a && !cdec (∃ q, q < n ∧ q ≠ i ∧ q ≠ a ∧ oXY X Y i a q = true)) = true ↔ HB X Y n a i) := by
    intro a ha
    rw [Bool.and_eq_true, Bool.not_eq_true']
    constructor
    · intro ⟨h1, h2⟩
      unfold nbB at h1
      rw [beq_d, Bool.and_eq_true, Bool.not_eq_true', decide_eq_false_iff_not] at h1
      refine ⟨hi, Ne.symm h1.1, fun c hc n1 n2 => ?_⟩
      have : oXY X Y i a c = false := by
        cases z : oXY X Y i a c with
        | false => rfl
        | true => rw [cdec_t ⟨c, hc, n2, n1, z⟩] at h2; exact absurd h2 (by decide)
      rw [oXY_sw hG hi ha hc (Ne.symm h1.1) (Ne.symm n2) (Ne.symm n1), this]; rfl
    · intro h
      have nai : i ≠ a := h.2.1
      have left : ∀ c, c < n → c ≠ i → c ≠ a → oXY X Y i a c = false := fun c hc n1 n2 => by
        have := h.2.2 c hc n2 n1
        rw [oXY_sw hG hi ha hc nai (Ne.symm n1) (Ne.symm n2)] at this
        cases z : oXY X Y i a c with
        | false => rfl
        | true => rw [z] at this; exact absurd this (by decide)
      refine ⟨?_, cdec_f (fun ⟨q, q1, q2, q3, q4⟩ => by rw [left q q1 q2 q3] at q4; exact absurd q4 (by decide))⟩
      have m : Em w i a := N.2.2 i a (List.mem_range.mpr hi) (List.mem_range.mpr ha) nai (fun c d hcd => by
        obtain ⟨c1, d1, _, _⟩ := N.1 c d hcd
        cases z : crs (oXY X Y) i a c d with
        | false => rfl
        | true =>
          obtain ⟨y1, y2, y3, y4⟩ := crs_d z
          have := crs_t1 z
          rw [left c (List.mem_range.mp c1) (Ne.symm y1) (Ne.symm y3), left d (List.mem_range.mp d1) (Ne.symm y2) (Ne.symm y4)] at this
          exact absurd this (by decide))
      unfold nbB
      rw [beq_d, decide_eq_false (Ne.symm nai), m.2.2.2]; rfl
  rw [sumR_1 (fun b b' hb hb' h1 h2 => hb_uq hG hb hb' hi ((key b hb).mp h1) ((key b' hb').mp h2))]
  have eqv : (∃ a, a < n ∧ (nbB w i a && !cdec (∃ q, q < n ∧ q ≠ i ∧ q ≠ a ∧ oXY X Y i a q = true)) = true) ↔ ∃ a, a < n ∧ HB X Y n a i := ⟨fun ⟨b, hb, h⟩ => ⟨b, hb, (key b hb).mp h⟩, fun ⟨b, hb, h⟩ => ⟨b, hb, (key b hb).mpr h⟩⟩
  rw [cdec_cg eqv]
theorem fan_all (hG : GP X Y n) (hd : Dist X Y n) (hn : n ≤ 9) (hw : w < 2 ^ 36) (N : Net (oXY X Y) (List.range n) (Em w)) (hi : i < n) : bcN (w &&& atM i) = sumR (fun a => sumR (fun b => cond (Nat.blt a b && tgB X Y n w i a b) 1 0) n) n + cond (cdec (∃ a, a < n ∧ HB X Y n a i)) 1 0 := by
  have hb : ∀ f, w.testBit f = true → f < 36 → eHi f < n := fun f h hf => by
    have := (net_ncm hG hn hw N).2.1 f h
    rw [can_at hf] at this
    exact of_decide_eq_true this
  rw [deg_sum hw (by omega), fan_pr hG hn hi, ← fan_r hG hn hw N hi, ← sumR_add, show 9 = n + (9 - n) from by omega, sumR_spl, sumR_z (9 - n) (fun k hk => ?_), Nat.add_zero]
  · refine sumR_eq n (fun a ha => ?_)
    rw [fan_l hG hd hn hw N hi ha]
    cases nbB w i a <;> cases cdec (∃ q, q < n ∧ q ≠ i ∧ q ≠ a ∧ oXY X Y i a q = true) <;> rfl
  · cases z : nbB w i (n + k) with
    | false => rfl
    | true =>
      unfold nbB at z
      rw [beq_d, Bool.and_eq_true, Bool.not_eq_true', decide_eq_false_iff_not] at z
      obtain ⟨k1, k2, k3, k4, k5⟩ := edge_at (by omega : i < 9) (by omega : n + k < 9) (Ne.symm z.1)
      have := hb _ z.2 k1
      rw [k4] at this
      omega
theorem hb_hull (hG : GP X Y n) (h2 : 2 ≤ n) {m : Nat} {s : Nat → Nat} (hH : Hul X Y n m s) (hi : i < n) : (∃ k, k < m ∧ s k = i) ↔ ∃ a, a < n ∧ HB X Y n a i := by
  rcases hH with ⟨z, _⟩ | ⟨h1, h3, h4, h5, h6, h7, h8⟩
  · omega
  · have h8 : HB X Y n (s (m - 1)) (s 0) := by
      rcases h8 with ⟨z, _⟩ | ⟨_, z⟩
      · omega
      · exact z
    constructor
    · intro ⟨k, hk, e⟩
      by_cases k0 : k = 0
      · exact ⟨s (m - 1), h5 _ (by omega), by rw [← e, k0]; exact h8⟩
      · refine ⟨s (k - 1), h5 _ (by omega), ?_⟩
        have := h7 (k - 1) (by omega)
        rw [show k - 1 + 1 = k from by omega, e] at this
        exact this
    · intro ⟨a, ha, hb⟩
      have na := hb_noin hG ha hb
      obtain ⟨k, hk, e⟩ := (hull_iff hG (Or.inr ⟨h1, h3, h4, h5, h6, h7, Or.inr ⟨h2, h8⟩⟩) ha).mpr na
      have nx : ∃ k', k' < m ∧ HB X Y n a (s k') := by
        by_cases l : k + 1 < m
        · exact ⟨k + 1, l, by rw [← e]; exact h7 k l⟩
        · exact ⟨0, by omega, by rw [← e, show k = m - 1 from by omega]; exact h8⟩
      obtain ⟨k', hk', hb'⟩ := nx
      refine ⟨k', hk', Classical.byContradiction (fun z => ?_)⟩
      have e1 := hb.2.2 (s k') hb'.1 hb'.2.1 z
      have e2 := hb'.2.2 i hi hb.2.1 (fun y => z y.symm)
      have s1 := of_decide_eq_true e1
      have s2 := of_decide_eq_true e2
      have r1 : dt X Y a (s k') i = - dt X Y a i (s k') := by
        rw [dt_rot i a (s k'), dt_sw a i (s k')]
      omega
end
section
variable {g : zIJ} {X Y : Nat → Int} {n w i : Nat}
theorem r_fan (h : RB g n X Y) (hN : Near X Y n) {k : Nat} (hk : k < 5000) (hw : g.2 297 k = lN w) (hi : i < n) : zev mX12_fan 34 [.ref 250, .int (nI k), .int (nI i), .int (nI 0), .int (nI 0)] g = some (some (.int (nI (sumR (fun a => sumR (fun b => cond (Nat.blt a b && tgB X Y n w i a b) 1 0) n) n))), g) := by
  have hn := h.1
  refine zloop (F := fun a c => zev mX12_fan 34 [.ref 250, .int (nI k), .int (nI i), .int (nI c), .int (nI a)] g) (I := fun a c => c = sumR (fun a => sumR (fun b => cond (Nat.blt a b && tgB X Y n w i a b) 1 0) n) a) (Post := fun r => r = some (some (.int (nI (sumR (fun a => sumR (fun b => cond (Nat.blt a b && tgB X Y n w i a b) 1 0) n) n))), g)) (lo := 0) (n := n) (fun a c _ ha I1 => ?_) (fun c I1 => ?_) n 0 0 (Nat.le_refl _) (by omega) rfl
  · refine ⟨c + sumR (fun b => cond (Nat.blt a b && tgB X Y n w i a b) 1 0) n, ?_, ?_⟩
    · have inner : zev mX12_fan 49 [.ref 250, .int (nI k), .int (nI i), .int (nI c), .int (nI a), .int (nI (a + 1))] g = zev mX12_fan 34 [.ref 250, .int (nI k), .int (nI i), .int (nI (c + sumR (fun b => cond (Nat.blt a b && tgB X Y n w i a b) 1 0) n)), .int (nI (a + 1))] g := by
        refine zloop (F := fun b d => zev mX12_fan 49 [.ref 250, .int (nI k), .int (nI i), .int (nI d), .int (nI a), .int (nI b)] g) (I := fun b d => d = c + sumR (fun b => cond (Nat.blt a b && tgB X Y n w i a b) 1 0) b) (Post := fun r => r = zev mX12_fan 34 [.ref 250, .int (nI k), .int (nI i), .int (nI (c + sumR (fun b => cond (Nat.blt a b && tgB X Y n w i a b) 1 0) n)), .int (nI (a + 1))] g) (lo := a + 1) (n := n) (fun b d lb hb I2 => ?_) (fun d I2 => ?_) (n - (a + 1)) (a + 1) c (Nat.le_refl _) (by omega) ?_
        · refine ⟨d + cond (Nat.blt a b && tgB X Y n w i a b) 1 0, ?_, ?_⟩
          · show zev mX12_fan 49 _ g = zev mX12_fan 49 _ g
            rw [uX12_fan_49, r_points h, zaI_some, decide_eq_false (nI_ge (a := b) (b := n) hb (by omega)), nI_de (by omega : a < 2 ^ 31) (by omega : i < 2 ^ 31), nI_de (by omega : b < 2 ^ 31) (by omega : i < 2 ^ 31), zin_n hk (by omega), nI_clamp (by omega : k < 2 ^ 31), hw, Int32.add_zero, Nat.blt_eq.mpr (by omega : a < b)]
            simp only [nI_1]
            unfold tgB
            rw [beq_d, beq_d]
            by_cases e1 : a = i
            · rw [decide_eq_true e1]; rfl
            · by_cases e2 : b = i
              · rw [decide_eq_false e1, decide_eq_true e2]; rfl
              · rw [decide_eq_false e1, decide_eq_false e2, r_isTriangle h hN hi ha hb (fun z => e1 z.symm) (fun z => e2 z.symm) (by omega), zaI_some, bI_0]
                cases cdec (Tri X Y n w i a b) <;> rfl
          · rw [sumR_s, I2, Nat.add_assoc]
        · show zev mX12_fan 49 _ g = _
          rw [uX12_fan_49, r_points h, zaI_some, decide_eq_true (nI_le (Nat.le_refl n) (by omega)), nI_1, I2]; rfl
        · rw [sumR_z (a + 1) (fun b hb => ?_), Nat.add_zero]
          cases z : Nat.blt a b with
          | false => rfl
          | true => have := Nat.blt_eq.mp z; omega
      show zev mX12_fan 34 _ g = _
      rw [uX12_fan_34, r_points h, zaI_some, decide_eq_false (nI_ge (a := a) (b := n) ha (by omega)), nI_1]
      exact inner
    · rw [sumR_s, I1]
  · show zev mX12_fan 34 _ g = _
    rw [uX12_fan_34, r_points h, zaI_some, decide_eq_true (nI_le (Nat.le_refl n) (by omega)), I1]; rfl
end
theorem p_fan (a b : Int32) : PairC (fun g => zev mX11_fan 0 [.ref 3, .int a, .int b] g) (fun g => zev mX12_fan 0 [.ref 250, .int a, .int b] g) := by
  intro σ g t hw h ht
  have hn := wf_n hw.1
  have cb := cb_s h.1.1 hw.1
  have l8 := (nsL_ok hw.1).1
  obtain ⟨p1, p2, p3, p4, p5⟩ := hw.1.2.1
  cases q0 : zin b (nS σ.s) with
  | false =>
    refine ⟨fI 0, fdn σ 0, wfs_fdn hw 0, ?_, fun g' r => ?_⟩
    · show COk (zev mX11_fan 0 _ g) _ _ _ _
      rw [uX11_fan_0, c_isPoint cb, zaI_some, q0]
      exact cok_le (cok_find (k := 0) h (fr_refl _ g) (by omega)) (by omega : t ≤ t + 2)
    · show ROk (zev mX12_fan 0 _ g') _ _ _
      rw [uX12_fan_0, r_isPoint (rb_s r.1.1 hw.1), zaI_some, q0]
      exact rok_find (k := 0) r hw (fr_refl tR g') (by omega)
  | true =>
    obtain ⟨i, hi, ei⟩ := zin_of q0 (by omega)
    subst ei
    obtain ⟨g1, x1, f1, n1⟩ := c_isNet hw h ht a
    cases q3 : zin a (nsL σ.s).length with
    | false =>
      refine ⟨fI 3, fdn σ 3, wfs_fdn hw 3, ?_, fun g' r => ?_⟩
      · show COk (zev mX11_fan 0 _ g) _ _ _ _
        rw [uX11_fan_0, c_isPoint cb, zaI_some, q0, x1, zaI_some, q3]
        exact cok_le (cok_find (k := 3) (cin_ci n1) f1 (by omega)) (by omega : t + 1 ≤ t + 2)
      · show ROk (zev mX12_fan 0 _ g') _ _ _
        obtain ⟨g2, x2, f2, n2⟩ := r_isNet hw r a
        rw [uX12_fan_0, r_isPoint (rb_s r.1.1 hw.1), zaI_some, q0, x2, zaI_some, q3]
        exact rok_find (k := 3) (rin_ri n2) hw f2 (by omega)
    | true =>
      obtain ⟨k, hk, ek⟩ := zin_of q3 (by omega)
      subst ek
      obtain ⟨w, ew⟩ : ∃ w, w = (nsL σ.s)[k] := ⟨_, rfl⟩
      have wm : w ∈ nsL σ.s := by rw [ew]; exact List.getElem_mem hk
      obtain ⟨w3, w36, wN, _⟩ := nsL_in hw.1 wm
      obtain ⟨m, s, hH, hP⟩ := n1.1.2.1.2.2.2.2.2.2
      have fa := fan_all p3 p4 p1 w36 wN hi
      obtain ⟨T, eT⟩ : ∃ T, T = sumR (fun a => sumR (fun b => cond (Nat.blt a b && tgB (XS σ.s) (YS σ.s) (nS σ.s) w i a b) 1 0) (nS σ.s)) (nS σ.s) := ⟨_, rfl⟩
      rw [← eT] at fa
      have hb : (hMsk s m).testBit i = cdec (∃ a, a < nS σ.s ∧ HB (XS σ.s) (YS σ.s) (nS σ.s) a i) := by
        by_cases q : ∃ a, a < nS σ.s ∧ HB (XS σ.s) (YS σ.s) (nS σ.s) a i
        · rw [cdec_t q]
          exact (hMsk_at s i m).mpr ((hb_hull p3 (by omega) hH hi).mpr q)
        · rw [cdec_f q]
          cases z : (hMsk s m).testBit i with
          | false => rfl
          | true => exact absurd ((hb_hull p3 (by omega) hH hi).mp ((hMsk_at s i m).mp z)) q
      refine ⟨.int (nI T), σ, hw, ?_, fun g' r => ?_⟩
      · show COk (zev mX11_fan 0 _ g) _ _ _ _
        rw [uX11_fan_0, c_isPoint cb, zaI_some, q0, x1, zaI_some, q3, zin_n (by omega : k < 800) (by omega), nI_clamp (by omega : k < 2 ^ 31), c_edgesAt g1 (by omega : i < 9), zaL_some, n1.2.1.2 k hk, ← ew, lN_and, j_bitCount g1 (Nat.lt_of_le_of_lt Nat.and_le_left (Nat.lt_trans w36 (by omega))), zaI_some, hP.2.1, i_and1v, i_sshr0 (by omega : i < 32), nI_bit (by omega : i < 32), hb, fa]
        have e : nI (T + cond (cdec (∃ a, a < nS σ.s ∧ HB (XS σ.s) (YS σ.s) (nS σ.s) a i)) 1 0) - bI (cdec (∃ a, a < nS σ.s ∧ HB (XS σ.s) (YS σ.s) (nS σ.s) a i)) = nI T := by
          cases cdec (∃ a, a < nS σ.s ∧ HB (XS σ.s) (YS σ.s) (nS σ.s) a i)
          · exact nI_sub (a := T) (b := 0) (by omega)
          · exact nI_pred T
        rw [e]
        exact cok_of (cin_ci n1) f1 (by omega)
      · show ROk (zev mX12_fan 0 _ g') _ _ _
        obtain ⟨g2, x2, f2, n2⟩ := r_isNet hw r (nI k)
        have rf := r_fan (i := i) (rb_s n2.1.1 hw.1) p2 (by omega : k < 5000) (show g2.2 297 k = lN w by rw [ew]; exact n2.2.2.2 k hk) hi
        rw [← eT] at rf
        rw [uX12_fan_0, r_isPoint (rb_s r.1.1 hw.1), zaI_some, q0, x2, zaI_some, q3]
        show ROk (zev mX12_fan 34 [.ref 250, .int (nI k), .int (nI i), .int (nI 0), .int (nI 0)] g2) _ _ _
        rw [rf]
        exact rok_of (rin_ri n2) f2
