/-! Greedy nets, flips of nets told as numbers; what is closed under flips holds all nets. -/
theorem itr_inv {σ : Type} {h : Nat → σ → σ} {I : Nat → σ → Prop} (hi : ∀ i s, I i s → I (i + 1) (h i s)) : ∀ (k i : Nat) (s : σ), I i s → I (i + k) (itr h k i s)
  | 0, i, s, q => q
  | k + 1, i, s, q => by
    have := itr_inv hi k (i + 1) (h i s) (hi i s q)
    rw [show i + (k + 1) = i + 1 + k from by omega]
    exact this
theorem sumR_one {h k : Nat → Nat} {j : Nat} : ∀ n, j < n → (∀ i, i < n → i ≠ j → h i = k i) → h j = k j + 1 → sumR h n = sumR k n + 1
  | 0, hj, _, _ => by omega
  | n + 1, hj, he, h1 => by
    unfold sumR
    by_cases e : j = n
    · subst e
      rw [sumR_eq j (fun i hi => he i (by omega) (by omega)), h1]
      omega
    · rw [sumR_one n (by omega) (fun i hi ni => he i (by omega) ni) h1, he n (by omega) (Ne.symm e)]
      omega
/-- how many edges -/
def ecN (t : Nat) : Nat := sumR (fun e => cond (t.testBit e) 1 0) 36
noncomputable def rcN (N : Nat → Nat → Prop) : Nat := sumR (fun e => cond (cdec (N (eLo e) (eHi e))) 1 0) 36
theorem em_at {t e : Nat} (he : e < 36) : Em t (eLo e) (eHi e) ↔ t.testBit e = true := by
  obtain ⟨l1, l2, l3, _, _⟩ := edge_of he
  unfold Em
  rw [l3]
  exact ⟨fun h => h.2.2.2, fun h => ⟨by omega, l2, by omega, h⟩⟩
theorem rc_em (t : Nat) : rcN (Em t) = ecN t := by
  refine sumR_eq 36 (fun e he => ?_)
  cases q : t.testBit e with
  | true => rw [cdec_t ((em_at he).mpr q)]
  | false => rw [cdec_f (fun k => by have := (em_at he).mp k; rw [q] at this; cases this)]
section
variable {X Y : Nat → Int} {n : Nat}
theorem step_rc (hn : n ≤ 9) {N N' : Nat → Nat → Prop} (nN : Net (oXY X Y) (List.range n) N) (nN' : Net (oXY X Y) (List.range n) N') (st : Step (oXY X Y) (List.range n) N N') : rcN N' = rcN N := by
  obtain ⟨a, b, c, d, hab, hc, hd, ncd, hx, only, hB⟩ := st
  obtain ⟨al, bl, nab, hba⟩ := nN.1 a b hab
  have an := List.mem_range.mp al
  have bn := List.mem_range.mp bl
  have cn := List.mem_range.mp hc
  have dn := List.mem_range.mp hd
  have e1 := edge_at (i := a) (j := b) (by omega) (by omega) nab
  have e2 := edge_at (i := c) (j := d) (by omega) (by omega) ncd
  have hcd : ¬ N c d := fun q => by
    have := nN.2.1 c d a b q hab
    rw [hx] at this; cases this
  have hdc : ¬ N d c := fun q => hcd (nN.1 d c q).2.2.2
  have diff : eN a b ≠ eN c d := fun q => by
    rcases eN_inj (by omega) (by omega) nab (by omega) (by omega) ncd q with ⟨q1, q2⟩ | ⟨q1, q2⟩
    · subst q1; subst q2; exact hcd hab
    · subst q1; subst q2; exact hdc hab
  -- the ends of an edge by its number
  have ends : ∀ {i j : Nat}, i < 9 → j < 9 → i ≠ j → ∀ (R : Nat → Nat → Prop), (R i j ↔ R j i) → (R (eLo (eN i j)) (eHi (eN i j)) ↔ R i j) := by
    intro i j hi hj nij R sy
    have q := edge_at hi hj nij
    rw [q.2.2.1, q.2.2.2.1]
    rcases Nat.lt_or_gt_of_ne nij with k | k
    · rw [Nat.min_eq_left (by omega), Nat.max_eq_right (by omega : i ≤ j)]
    · rw [Nat.min_eq_right (by omega), Nat.max_eq_left (by omega : j ≤ i)]
      exact sy.symm
  have syN : ∀ i j, N i j ↔ N j i := fun i j => ⟨fun q => (nN.1 i j q).2.2.2, fun q => (nN.1 j i q).2.2.2⟩
  have syN' : ∀ i j, N' i j ↔ N' j i := fun i j => ⟨fun q => (nN'.1 i j q).2.2.2, fun q => (nN'.1 j i q).2.2.2⟩
  have n1 : N (eLo (eN a b)) (eHi (eN a b)) := (ends (by omega) (by omega) nab N (syN a b)).mpr hab
  have n2 : ¬ N (eLo (eN c d)) (eHi (eN c d)) := fun q => hcd ((ends (by omega) (by omega) ncd N (syN c d)).mp q)
  have n3 : ¬ N' (eLo (eN a b)) (eHi (eN a b)) := fun q => by
    have q := (ends (by omega) (by omega) nab N' (syN' a b)).mp q
    rcases (hB a b).mp q with ⟨_, k⟩ | ⟨k1, k2⟩ | ⟨k1, k2⟩
    · exact k (Or.inl ⟨rfl, rfl⟩)
    · exact diff (by rw [k1, k2])
    · exact diff (by rw [k1, k2]; exact eN_sy (by omega) (by omega) ncd)
  have n4 : N' (eLo (eN c d)) (eHi (eN c d)) := (ends (by omega) (by omega) ncd N' (syN' c d)).mpr ((hB c d).mpr (Or.inr (Or.inl ⟨rfl, rfl⟩)))
  have oth : ∀ e, e < 36 → e ≠ eN a b → e ≠ eN c d → (N' (eLo e) (eHi e) ↔ N (eLo e) (eHi e)) := by
    intro e he ne1 ne2
    obtain ⟨l1, l2, l3, _, _⟩ := edge_of he
    rw [hB]
    constructor
    · intro q
      rcases q with ⟨q, _⟩ | ⟨k1, k2⟩ | ⟨k1, k2⟩
      · exact q
      · exact (ne2 (by rw [← l3, k1, k2])).elim
      · exact (ne2 (by rw [← l3, k1, k2]; exact eN_sy (by omega) (by omega) ncd)).elim
    · intro q
      refine Or.inl ⟨q, fun k => ?_⟩
      rcases k with ⟨k1, k2⟩ | ⟨k1, k2⟩
      · exact ne1 (by rw [← l3, k1, k2])
      · exact ne1 (by rw [← l3, k1, k2]; exact eN_sy (by omega) (by omega) nab)
  -- without either
  have s1 := sumR_one (h := fun e => cond (cdec (N (eLo e) (eHi e))) 1 0) (k := fun e => cond (Nat.beq e (eN a b) || Nat.beq e (eN c d)) 0 (cond (cdec (N (eLo e) (eHi e))) 1 0)) (j := eN a b) 36 e1.1 (fun e he ne => by
    show cond (cdec (N (eLo e) (eHi e))) 1 0 = cond (Nat.beq e (eN a b) || Nat.beq e (eN c d)) 0 (cond (cdec (N (eLo e) (eHi e))) 1 0)
    rw [nbeq_f ne]
    by_cases q : e = eN c d
    · subst q; rw [cdec_f n2, Nat.beq_refl]; rfl
    · rw [nbeq_f q]; rfl) (by
    show cond (cdec (N (eLo (eN a b)) (eHi (eN a b)))) 1 0 = cond (Nat.beq (eN a b) (eN a b) || _) 0 _ + 1
    rw [cdec_t n1, Nat.beq_refl]; rfl)
  have s2 := sumR_one (h := fun e => cond (cdec (N' (eLo e) (eHi e))) 1 0) (k := fun e => cond (Nat.beq e (eN a b) || Nat.beq e (eN c d)) 0 (cond (cdec (N (eLo e) (eHi e))) 1 0)) (j := eN c d) 36 e2.1 (fun e he ne => by
    show cond (cdec (N' (eLo e) (eHi e))) 1 0 = cond (Nat.beq e (eN a b) || Nat.beq e (eN c d)) 0 (cond (cdec (N (eLo e) (eHi e))) 1 0)
    rw [nbeq_f ne]
    by_cases q : e = eN a b
    · subst q; rw [cdec_f n3, Nat.beq_refl]; rfl
    · rw [nbeq_f q]
      by_cases k : N (eLo e) (eHi e)
      · rw [cdec_t k, cdec_t ((oth e he q ne).mpr k)]; rfl
      · rw [cdec_f k, cdec_f (fun k2 => k ((oth e he q ne).mp k2))]; rfl) (by
    show cond (cdec (N' (eLo (eN c d)) (eHi (eN c d)))) 1 0 = cond (_ || Nat.beq (eN c d) (eN c d)) 0 _ + 1
    rw [cdec_t n4, Nat.beq_refl, Bool.or_true]; rfl)
  unfold rcN
  rw [s1, s2]
theorem net_ec (hG : GP X Y n) (hd : Dist X Y n) (hn : n ≤ 9) {s t : Nat} (Ns : Net (oXY X Y) (List.range n) (Em s)) (Nt : Net (oXY X Y) (List.range n) (Em t)) : ecN s = ecN t := by
  have := (geo_main hG hd).2 _ _ Ns Nt (fun N => rcN N = rcN (Em s)) rfl (fun N N' a b q st => (step_rc hn a b st).trans q)
  rw [rc_em, rc_em] at this
  exact this.symm
/-- edges over the points that don't cross -/
def NCm (X Y : Nat → Int) (n t : Nat) : Prop := t < 2 ^ 36 ∧ (∀ e, t.testBit e = true → (canM n).testBit e = true) ∧ ∀ e f, t.testBit e = true → t.testBit f = true → (crM X Y n e).testBit f = false
def grd (X Y : Nat → Int) (n e m : Nat) : Nat := m ||| cond (decide (eHi e < n) && Nat.beq (crM X Y n e &&& m) 0) (2 ^ e) 0
theorem cr_sym {e f : Nat} (he : e < 36) (hf : f < 36) : (crM X Y n e).testBit f = (crM X Y n f).testBit e := by
  rw [crM_at hf, crM_at he, crs_sw]
  cases decide (eHi e < n) <;> cases decide (eHi f < n) <;> rfl
theorem cr_irr {e : Nat} (he : e < 36) : (crM X Y n e).testBit e = false := by
  rw [crM_at he, crs_self]
  simp
theorem t_36 {t k : Nat} (ht : t < 2 ^ 36) (h : t.testBit k = true) : k < 36 := by
  apply Classical.byContradiction
  intro q
  rw [Nat.testBit_lt_two_pow (Nat.lt_of_lt_of_le ht (Nat.pow_le_pow_right (by omega) (by omega)))] at h
  cases h
theorem grd_all {base : Nat} (hb : NCm X Y n base) : NCm X Y n (itr (fun e m => grd X Y n e m) 36 0 base) ∧ (∀ e, base.testBit e = true → (itr (fun e m => grd X Y n e m) 36 0 base).testBit e = true) ∧ ∀ e, e < 36 → eHi e < n → (itr (fun e m => grd X Y n e m) 36 0 base).testBit e = true ∨ crM X Y n e &&& itr (fun e m => grd X Y n e m) 36 0 base ≠ 0 := by
  have := itr_inv (h := fun e m => grd X Y n e m) (I := fun k m => k ≤ 36 → (NCm X Y n m ∧ (∀ e, base.testBit e = true → m.testBit e = true) ∧ ∀ e, e < k → eHi e < n → m.testBit e = true ∨ crM X Y n e &&& m ≠ 0)) (fun k m I hk => by
    obtain ⟨⟨i1, i2, i3⟩, i4, i5⟩ := I (by omega)
    have k36 : k < 36 := by omega
    unfold grd
    cases q : (decide (eHi k < n) && Nat.beq (crM X Y n k &&& m) 0) with
    | false =>
      show NCm X Y n (m ||| 0) ∧ (∀ e, base.testBit e = true → (m ||| 0).testBit e = true) ∧ ∀ e, e < k + 1 → eHi e < n → (m ||| 0).testBit e = true ∨ crM X Y n e &&& (m ||| 0) ≠ 0
      rw [or_zero]
      refine ⟨⟨i1, i2, i3⟩, i4, fun e he hen => ?_⟩
      by_cases c : e = k
      · subst c
        right
        rw [decide_eq_true hen, Bool.true_and, nbeq_d] at q
        exact of_decide_eq_false q
      · exact i5 e (by omega) hen
    | true =>
      rw [Bool.and_eq_true] at q
      have kn := of_decide_eq_true q.1
      have z := Nat.eq_of_beq_eq_true q.2
      have zz := and_eq.mp z
      show NCm X Y n (m ||| 2 ^ k) ∧ (∀ e, base.testBit e = true → (m ||| 2 ^ k).testBit e = true) ∧ ∀ e, e < k + 1 → eHi e < n → (m ||| 2 ^ k).testBit e = true ∨ crM X Y n e &&& (m ||| 2 ^ k) ≠ 0
      refine ⟨⟨or_lt36 i1 (Nat.pow_lt_pow_right (by omega) k36), fun e he => ?_, fun e f he hf => ?_⟩, fun e he => by rw [set_or, i4 e he]; rfl, fun e he hen => ?_⟩
      · rw [set_or, Bool.or_eq_true] at he
        rcases he with he | he
        · exact i2 e he
        · rw [of_decide_eq_true he, can_at k36]; exact decide_eq_true kn
      · rw [set_or, Bool.or_eq_true] at he hf
        rcases he with he | he <;> rcases hf with hf | hf
        · exact i3 e f he hf
        · have hf := of_decide_eq_true hf
          subst hf
          rw [cr_sym (t_36 i1 he) k36]
          cases c : (crM X Y n f).testBit e with
          | false => rfl
          | true => exact (zz e c he).elim
        · have he := of_decide_eq_true he
          subst he
          cases c : (crM X Y n e).testBit f with
          | false => rfl
          | true => exact (zz f c hf).elim
        · rw [of_decide_eq_true he, of_decide_eq_true hf]
          exact cr_irr k36
      · by_cases c : e = k
        · subst c
          left
          rw [set_or, decide_eq_true rfl]; simp
        · rcases i5 e (by omega) hen with r | r
          · left; rw [set_or, r]; rfl
          · right
            obtain ⟨i, k1, k2⟩ := and_ne.mp r
            exact and_ne.mpr ⟨i, k1, by rw [set_or, k2]; rfl⟩) 36 0 base (fun _ => ⟨hb, fun e he => he, fun e he => by omega⟩)
  exact this (by omega)
theorem ncm_net (hG : GP X Y n) (hn : n ≤ 9) {t : Nat} (h : NCm X Y n t) (hm : ∀ e, e < 36 → eHi e < n → t.testBit e = true ∨ crM X Y n e &&& t ≠ 0) : Net (oXY X Y) (List.range n) (Em t) := by
  have := (net_vld hG hn 0 0 t (fun k hk => by simp at hk)).mp ⟨h.1, fun i hi => by
    rw [Nat.testBit_lt_two_pow (Nat.lt_of_lt_of_le h.1 (Nat.pow_le_pow_right (by omega) hi))]; simp, fun k _ hk => ⟨h.2.1 k hk, by simp⟩, fun k _ _ q => by simp at q, fun k _ hk j _ hj => h.2.2 k j hk hj, fun k hk hc ht => by
      rw [can_at hk] at hc
      rcases hm k hk (of_decide_eq_true hc) with q | q
      · rw [ht] at q; cases q
      · exact q⟩
  exact this.2.1
theorem net_ncm (hG : GP X Y n) (hn : n ≤ 9) {t : Nat} (h1 : t < 2 ^ 36) (N : Net (oXY X Y) (List.range n) (Em t)) : NCm X Y n t := by
  refine ⟨h1, fun e he => ?_, fun e f he hf => ?_⟩
  · have e36 := t_36 h1 he
    have := (N.1 _ _ ((em_at e36).mpr he)).2.1
    rw [can_at e36]
    exact decide_eq_true (List.mem_range.mp this)
  · have e36 := t_36 h1 he
    have f36 := t_36 h1 hf
    rw [crM_at f36, N.2.1 _ _ _ _ ((em_at e36).mpr he) ((em_at f36).mpr hf)]
    simp
/-- a flip, as a number -/
theorem flip_bits {t e f : Nat} (he : t.testBit e = false) (hf : t.testBit f = true) (i : Nat) : (t ^^^ 2 ^ f ^^^ 2 ^ e).testBit i = ((t.testBit i && !decide (i = f)) || decide (i = e)) := by
  have b : ∀ k, (2 ^ k).testBit i = decide (i = k) := by
    intro k
    by_cases q : i = k
    · subst q; rw [Nat.testBit_two_pow_self, decide_eq_true rfl]
    · rw [Nat.testBit_two_pow_of_ne (Ne.symm q), decide_eq_false q]
  rw [Nat.testBit_xor, Nat.testBit_xor, b, b]
  by_cases q1 : i = e
  · subst q1
    rw [he, decide_eq_true rfl]
    have : ¬ i = f := fun k => by rw [k, hf] at he; cases he
    rw [decide_eq_false this]; rfl
  · rw [decide_eq_false q1]
    by_cases q2 : i = f
    · subst q2; rw [hf, decide_eq_true rfl]; rfl
    · rw [decide_eq_false q2]; simp
theorem flip_net (hG : GP X Y n) (hd : Dist X Y n) (hn : n ≤ 9) {t e f : Nat} (h1 : t < 2 ^ 36) (N : Net (oXY X Y) (List.range n) (Em t)) (he : e < 36) (hx : crM X Y n e &&& t = 2 ^ f) : (t ^^^ 2 ^ f ^^^ 2 ^ e) < 2 ^ 36 ∧ Net (oXY X Y) (List.range n) (Em (t ^^^ 2 ^ f ^^^ 2 ^ e)) ∧ t.testBit e = false ∧ t.testBit f = true ∧ eHi e < n := by
  have M := net_ncm hG hn h1 N
  have hb : ∀ i, ((crM X Y n e).testBit i && t.testBit i) = decide (i = f) := by
    intro i
    rw [← Nat.testBit_and, hx]
    by_cases q : i = f
    · subst q; rw [Nat.testBit_two_pow_self, decide_eq_true rfl]
    · rw [Nat.testBit_two_pow_of_ne (Ne.symm q), decide_eq_false q]
  have hf0 := hb f
  rw [decide_eq_true rfl, Bool.and_eq_true] at hf0
  have f36 := t_36 h1 hf0.2
  have en : eHi e < n := by
    have := hf0.1
    rw [crM_at f36, Bool.and_eq_true] at this
    exact of_decide_eq_true this.1
  have te : t.testBit e = false := by
    cases q : t.testBit e with
    | false => rfl
    | true =>
      have := M.2.2 e f q hf0.2
      rw [hf0.1] at this; cases this
  have bits := fun i => flip_bits te hf0.2 i
  have lt : (t ^^^ 2 ^ f ^^^ 2 ^ e) < 2 ^ 36 := bit_lt (fun i hi => by
    rw [bits, Nat.testBit_lt_two_pow (Nat.lt_of_lt_of_le h1 (Nat.pow_le_pow_right (by omega) hi)), decide_eq_false (by omega : ¬ i = e)]; rfl)
  have nc : NCm X Y n (t ^^^ 2 ^ f ^^^ 2 ^ e) := by
    have only : ∀ i, t.testBit i = true → i ≠ f → (crM X Y n e).testBit i = false := by
      intro i hi ni
      have := hb i
      rw [hi, decide_eq_false ni] at this
      simpa using this
    refine ⟨lt, fun i hi => ?_, fun i j hi hj => ?_⟩
    · rw [bits, Bool.or_eq_true, Bool.and_eq_true] at hi
      rcases hi with hi | hi
      · exact M.2.1 i hi.1
      · rw [of_decide_eq_true hi, can_at he]; exact decide_eq_true en
    · rw [bits, Bool.or_eq_true, Bool.and_eq_true, Bool.not_eq_true', decide_eq_false_iff_not] at hi hj
      rcases hi with hi | hi <;> rcases hj with hj | hj
      · exact M.2.2 i j hi.1 hj.1
      · rw [of_decide_eq_true hj, cr_sym (t_36 h1 hi.1) he]
        exact only i hi.1 hi.2
      · rw [of_decide_eq_true hi]
        exact only j hj.1 hj.2
      · rw [of_decide_eq_true hi, of_decide_eq_true hj]
        exact cr_irr he
  obtain ⟨g1, g2, g3⟩ := grd_all nc
  have N2 := ncm_net hG hn g1 g3
  have c1 := net_ec hG hd hn N N2
  -- as many edges as before
  have c2 : ecN (t ^^^ 2 ^ f ^^^ 2 ^ e) = ecN t := by
    have s1 := sumR_one (h := fun i => cond (t.testBit i) 1 0) (k := fun i => cond (t.testBit i && !decide (i = f)) 1 0) (j := f) 36 f36 (fun i _ ni => by
      show cond (t.testBit i) 1 0 = cond (t.testBit i && !decide (i = f)) 1 0
      rw [decide_eq_false ni]; simp) (by
      show cond (t.testBit f) 1 0 = cond (t.testBit f && !decide (f = f)) 1 0 + 1
      rw [hf0.2, decide_eq_true rfl]; rfl)
    have s2 := sumR_one (h := fun i => cond ((t ^^^ 2 ^ f ^^^ 2 ^ e).testBit i) 1 0) (k := fun i => cond (t.testBit i && !decide (i = f)) 1 0) (j := e) 36 he (fun i _ ni => by
      show cond ((t ^^^ 2 ^ f ^^^ 2 ^ e).testBit i) 1 0 = cond (t.testBit i && !decide (i = f)) 1 0
      rw [bits, decide_eq_false ni, Bool.or_false]) (by
      show cond ((t ^^^ 2 ^ f ^^^ 2 ^ e).testBit e) 1 0 = cond (t.testBit e && !decide (e = f)) 1 0 + 1
      rw [bits, te, decide_eq_true rfl]; rfl)
    unfold ecN
    rw [s1, s2]
  have eq : t ^^^ 2 ^ f ^^^ 2 ^ e = itr (fun e m => grd X Y n e m) 36 0 (t ^^^ 2 ^ f ^^^ 2 ^ e) := by
    apply Classical.byContradiction
    intro ne
    have : ∃ i, i < 36 ∧ (t ^^^ 2 ^ f ^^^ 2 ^ e).testBit i = false ∧ (itr (fun e m => grd X Y n e m) 36 0 (t ^^^ 2 ^ f ^^^ 2 ^ e)).testBit i = true := by
      apply Classical.byContradiction
      intro k
      refine ne (bit_ext lt g1.1 (fun i hi => ?_))
      cases q : (t ^^^ 2 ^ f ^^^ 2 ^ e).testBit i with
      | true => exact (g2 i q).symm
      | false =>
        cases q2 : (itr (fun e m => grd X Y n e m) 36 0 (t ^^^ 2 ^ f ^^^ 2 ^ e)).testBit i with
        | false => rfl
        | true => exact (k ⟨i, hi, q, q2⟩).elim
    obtain ⟨i, i1, i2, i3⟩ := this
    have := sumR_lt (h := fun j => cond ((t ^^^ 2 ^ f ^^^ 2 ^ e).testBit j) 1 0) (k := fun j => cond ((itr (fun e m => grd X Y n e m) 36 0 (t ^^^ 2 ^ f ^^^ 2 ^ e)).testBit j) 1 0) 36 (fun j _ => by
      cases q : (t ^^^ 2 ^ f ^^^ 2 ^ e).testBit j with
      | false => exact Nat.zero_le _
      | true => rw [g2 j q]; exact Nat.le_refl _) ⟨i, i1, by rw [i2, i3]; decide⟩
    unfold ecN at c1 c2
    omega
  exact ⟨lt, by rw [eq]; exact N2, te, hf0.2, en⟩
/-- what is closed under flips holds all nets -/
theorem closed_all (hG : GP X Y n) (hd : Dist X Y n) (hn : n ≤ 9) {L : List Nat} {t0 : Nat} (h0 : t0 ∈ L) (hL : ∀ t, t ∈ L → t < 2 ^ 36 ∧ Net (oXY X Y) (List.range n) (Em t)) (hc : ∀ t e f, t ∈ L → e < 36 → crM X Y n e &&& t = 2 ^ f → (t ^^^ 2 ^ f ^^^ 2 ^ e) ∈ L) {t : Nat} (ht : t < 2 ^ 36) (N : Net (oXY X Y) (List.range n) (Em t)) : t ∈ L := by
  have := (geo_main hG hd).2 _ _ (hL t0 h0).2 N (fun M => ∃ s, s ∈ L ∧ ∀ u v, M u v ↔ Em s u v) ⟨t0, h0, fun u v => Iff.rfl⟩ (fun M M' nM nM' q st => by
    obtain ⟨s, hs, hM⟩ := q
    obtain ⟨a, b, c, d, hab, hc', hd', ncd, hx, only, hB⟩ := st
    obtain ⟨al, bl, nab, hba⟩ := nM.1 a b hab
    have an := List.mem_range.mp al
    have bn := List.mem_range.mp bl
    have cn := List.mem_range.mp hc'
    have dn := List.mem_range.mp hd'
    have e1 := edge_at (i := a) (j := b) (by omega) (by omega) nab
    have e2 := edge_at (i := c) (j := d) (by omega) (by omega) ncd
    have sab := (hM a b).mp hab
    have s36 := (hL s hs).1
    have key : crM X Y n (eN c d) &&& s = 2 ^ eN a b := by
      refine bit_ext (n := 36) (Nat.lt_of_le_of_lt Nat.and_le_right s36) (Nat.pow_lt_pow_right (by omega) e1.1) (fun i hi => ?_)
      obtain ⟨l1, l2, l3, _, _⟩ := edge_of hi
      rw [Nat.testBit_and]
      by_cases q : i = eN a b
      · subst q
        rw [cr_uv hG hn cn dn an bn ncd nab, hx, sab.2.2.2, Nat.testBit_two_pow_self]; rfl
      · rw [Nat.testBit_two_pow_of_ne (Ne.symm q)]
        cases k : s.testBit i with
        | false => simp
        | true =>
          have hi2 := (em_at hi).mpr k
          have Mi := (hM _ _).mpr hi2
          obtain ⟨il, jl, nij, _⟩ := nM.1 _ _ Mi
          cases o : (crM X Y n (eN c d)).testBit i with
          | false => rfl
          | true =>
            exfalso
            have o2 := cr_uv hG hn cn dn (List.mem_range.mp il) (List.mem_range.mp jl) ncd nij
            rw [l3, o] at o2
            rcases only _ _ Mi o2.symm with ⟨k1, k2⟩ | ⟨k1, k2⟩
            · exact q (by rw [← l3, k1, k2])
            · exact q (by rw [← l3, k1, k2]; exact eN_sy (by omega) (by omega) nab)
    have fl := flip_net hG hd hn s36 (hL s hs).2 e2.1 key
    refine ⟨_, hc s (eN c d) (eN a b) hs e2.1 key, fun u v => ?_⟩
    rw [hB]
    have bits := fun i => flip_bits fl.2.2.1 fl.2.2.2.1 i
    constructor
    · intro q
      rcases q with ⟨q, k⟩ | ⟨k1, k2⟩ | ⟨k1, k2⟩
      · have q2 := (hM u v).mp q
        refine ⟨q2.1, q2.2.1, q2.2.2.1, ?_⟩
        rw [bits, q2.2.2.2, decide_eq_false (fun z => k (eN_inj q2.1 q2.2.1 q2.2.2.1 (by omega) (by omega) nab z))]
        rfl
      · subst k1; subst k2
        exact ⟨by omega, by omega, ncd, by rw [bits, decide_eq_true rfl]; simp⟩
      · subst k1; subst k2
        exact ⟨by omega, by omega, Ne.symm ncd, by rw [bits, eN_sy (by omega) (by omega) ncd, decide_eq_true rfl]; simp⟩
    · intro q
      obtain ⟨u9, v9, nuv, q⟩ := q
      rw [bits, Bool.or_eq_true, Bool.and_eq_true, Bool.not_eq_true', decide_eq_false_iff_not] at q
      rcases q with q | q
      · refine Or.inl ⟨(hM u v).mpr ⟨u9, v9, nuv, q.1⟩, fun k => q.2 ?_⟩
        rcases k with ⟨k1, k2⟩ | ⟨k1, k2⟩
        · rw [k1, k2]
        · rw [k1, k2]; exact eN_sy (by omega) (by omega) nab
      · exact Or.inr (eN_inj u9 v9 nuv (by omega) (by omega) ncd (of_decide_eq_true q)))
  obtain ⟨s, hs, hq⟩ := this
  rw [em_inj hG ht (hL s hs).1 N (hL s hs).2 (fun u v q => (hq u v).mp q)]
  exact hs
end
