/-! Polygons in numbers: the far point, the way round, the area. -/
theorem cc_mono {P Q : Nat → Prop} {o : Nat → Nat → Nat → Bool} (C : CC P o) (h : ∀ x, Q x → P x) : CC Q o :=
  ⟨fun a b c pa pb pc => C.1 a b c (h a pa) (h b pb) (h c pc), fun a b c d pa pb pc pd => C.2.1 a b c d (h a pa) (h b pb) (h c pc) (h d pd), fun t a b c d pt pa pb pc pd => C.2.2 t a b c d (h t pt) (h a pa) (h b pb) (h c pc) (h d pd)⟩
def PQ (X Y : Nat → Int) (m : Nat) : Prop := (3 ≤ m ∧ m ≤ 9) ∧ Near X Y m ∧ GP X Y m ∧ Dist X Y m ∧ ∀ p q, p < m → q < m → crs (oXY X Y) p (nQ 0 (m - 1) p) q (nQ 0 (m - 1) q) = false
theorem nx_Q {m i : Nat} (hi : i < m) : nxC m i = nQ 0 (m - 1) i := by
  unfold nxC nQ
  by_cases z : i = m - 1
  · rw [if_pos z, if_neg (by omega)]
  · rw [if_neg z, if_pos (by omega)]
theorem vQ_lt {m p : Nat} (h3 : 3 ≤ m) (hp : p < m) : vQ 0 (m - 1) p < m ∧ nQ 0 (m - 1) (vQ 0 (m - 1) p) = p ∧ vQ 0 (m - 1) p ≠ p ∧ vQ 0 (m - 1) p ≠ nQ 0 (m - 1) p ∧ nQ 0 (m - 1) p ≠ p := by
  have k := pg_1Q (m := m) (i := 0) (j := m - 1) (p := p) (by omega) (by omega) (decide_eq_true (by omega))
  refine ⟨vP_lt h3 hp, k.2.2.2.1, fun e => ?_, k.2.2.2.2.2.2.symm, k.2.2.2.2.2.1⟩
  have := k.2.2.2.1
  rw [e] at this
  exact k.2.2.2.2.2.1 this
section
variable {X Y : Nat → Int} {m : Nat}
theorem crs_e {a b c d : Nat} (ha : a < m) (hb : b < m) (hc : c < m) (hd : d < m) : crs (oXY (eX X m) (eY Y m)) a b c d = crs (oXY X Y) a b c d := by
  unfold crs
  rw [o_ccc ha hb hc, o_ccc ha hb hd, o_ccc hc hd ha, o_ccc hc hd hb]
theorem pq_plg (h : PQ X Y m) : Plg (fun x => x ≤ m) (oXY (eX X m) (eY Y m)) m := by
  obtain ⟨h9, hN, hG, hd, hs⟩ := h
  have e0 : eLo 0 = 0 := by decide +kernel
  have e1 : eHi 0 = 1 := by decide +kernel
  refine ⟨cc_mono (e_cc (e := 0) hN hG hd (by rw [e0]; omega) (by rw [e1]; omega) (by rw [e0, e1]; omega)) (fun x hx => ?_), fun p hp => hp, h9.1, fun p q hp hq => ?_⟩
  · show x < m ∨ x = m ∨ x = m + 1 + 0
    have : x ≤ m := hx
    omega
  · rw [crs_e hp (nQ_lt h9.1 hp) hq (nQ_lt h9.1 hq)]
    exact hs p q hp hq
theorem o_far (hN : Near X Y m) (hd : Dist X Y m) {p q : Nat} (hp : p < m) (hq : q < m) (ne : p ≠ q) : oXY (eX X m) (eY Y m) p q m = true ↔ blw X Y p q := by
  unfold oXY
  rw [decide_eq_true_iff]
  exact (s_ccf hN hd hp hq ne).2
theorem lowest (hd : Dist X Y m) : ∀ k, k + 1 ≤ m → ∃ b, b < k + 1 ∧ ∀ p, p < k + 1 → p ≠ b → blw X Y p b
  | 0, _ => ⟨0, by omega, fun p hp n => by omega⟩
  | k + 1, hk => by
    obtain ⟨b, b1, b2⟩ := lowest hd k (by omega)
    have kd := hd b (k + 1) (by omega) (by omega) (by omega)
    by_cases z : Y (k + 1) < Y b ∨ (Y (k + 1) = Y b ∧ X b < X (k + 1))
    · refine ⟨k + 1, by omega, fun p hp n => ?_⟩
      by_cases e : p = b
      · rw [e]; exact z
      · have t := b2 p (by omega) e
        unfold blw at t ⊢
        omega
    · refine ⟨b, by omega, fun p hp n => ?_⟩
      by_cases e : p = k + 1
      · rw [e]
        unfold blw
        omega
      · exact b2 p (by omega) n
theorem pq_far (h : PQ X Y m) : Far (oXY (eX X m) (eY Y m)) m := by
  obtain ⟨h9, hN, hG, hd, hs⟩ := h
  refine ⟨fun p q s hp hq hs npq nps nqs => ?_, ?_⟩
  · apply bf
    intro hw
    have w1 := eq_of_beq (wit_t1 hw)
    have w2 := eq_of_beq (wit_t2 hw)
    have w3 := eq_of_beq (wit_t3 hw)
    have f1 := o_far hN hd hp hq npq
    have f2 := o_far hN hd hq hs nqs
    have f3 := o_far hN hd hs hp nps.symm
    have d1 := hd p q hp hq npq
    have d2 := hd q s hq hs nqs
    have d3 := hd s p hs hp nps.symm
    rw [w1] at f1
    rw [w2] at f2
    rw [w3] at f3
    unfold blw at f1 f2 f3
    by_cases c : oXY (eX X m) (eY Y m) p q s = true
    · have := f1.mp c
      have := f2.mp c
      have := f3.mp c
      omega
    · have := mt f1.mpr c
      have := mt f2.mpr c
      have := mt f3.mpr c
      omega
  · obtain ⟨b, b1, b2⟩ := lowest hd (m - 1) (by omega)
    refine ⟨b, by omega, fun p q hp hq => ?_⟩
    by_cases e1 : p = b
    · rw [e1, crs_p1]
    · by_cases e2 : q = b
      · rw [e2, crs_p3]
      · have t : ∀ x, x < m → x ≠ b → oXY (eX X m) (eY Y m) b m x = true := fun x hx n => by
          have k := (o_far hN hd hx (by omega : b < m) n).mpr (b2 x (by omega) n)
          unfold oXY at k ⊢
          rw [dt_rot x b m]
          exact k
        rw [crsD (Ne.symm e1) (Ne.symm e2) (by omega) (by omega), t p hp e1, t q hq e2]
        rfl
/-- the same corners in another order -/
theorem crs_re {r : Nat → Nat} (hr : ∀ i j, i < m → j < m → r i = r j → i = j) {a b c d : Nat} (ha : a < m) (hb : b < m) (hc : c < m) (hd : d < m) : crs (oXY (fun j => X (r j)) (fun j => Y (r j))) a b c d = crs (oXY X Y) (r a) (r b) (r c) (r d) := by
  have q : ∀ x y, x < m → y < m → (r x != r y) = (x != y) := fun x y hx hy => by
    by_cases e : x = y
    · rw [e, bne_self_eq_false, bne_self_eq_false]
    · rw [bne_iff_ne.mpr e, bne_iff_ne.mpr (fun z => e (hr x y hx hy z))]
  unfold crs
  rw [q a c ha hc, q a d ha hd, q b c hb hc, q b d hb hd]
  rfl
theorem rv_n {p : Nat} (h3 : 3 ≤ m) (hp : p < m) : m - 1 - nQ 0 (m - 1) p = vQ 0 (m - 1) (m - 1 - p) ∧ m - 1 - vQ 0 (m - 1) p = nQ 0 (m - 1) (m - 1 - p) := by
  unfold nQ vQ
  by_cases z : p = m - 1
  · rw [if_pos z, if_pos (by omega), if_neg (by omega), if_neg (by omega)]; omega
  · by_cases y : p = 0
    · rw [if_neg z, if_neg (by omega), if_pos y, if_pos (by omega)]; omega
    · rw [if_neg z, if_neg (by omega), if_neg y, if_neg (by omega)]; omega
theorem pq_rev (h : PQ X Y m) : PQ (fun p => X (m - 1 - p)) (fun p => Y (m - 1 - p)) m := by
  obtain ⟨h9, hN, hG, hd, hs⟩ := h
  refine ⟨h9, fun p hp => hN _ (by omega), fun a b c ha hb hc n1 n2 n3 => ?_, fun a b ha hb n => hd _ _ (by omega) (by omega) (by omega), fun p q hp hq => ?_⟩
  · show dt X Y (m - 1 - a) (m - 1 - b) (m - 1 - c) ≠ 0
    exact hG _ _ _ (by omega) (by omega) (by omega) (by omega) (by omega) (by omega)
  · rw [crs_re (r := fun p => m - 1 - p) (fun i j hi hj e => by omega) hp (nQ_lt h9.1 hp) hq (nQ_lt h9.1 hq)]
    show crs (oXY X Y) (m - 1 - p) (m - 1 - nQ 0 (m - 1) p) (m - 1 - q) (m - 1 - nQ 0 (m - 1) q) = false
    rw [(rv_n h9.1 hp).1, (rv_n h9.1 hq).1]
    obtain ⟨a, ea⟩ : ∃ a, a = m - 1 - p := ⟨_, rfl⟩
    obtain ⟨b, eb⟩ : ∃ b, b = m - 1 - q := ⟨_, rfl⟩
    rw [← ea, ← eb]
    have ka := vQ_lt (p := a) h9.1 (by omega)
    have kb := vQ_lt (p := b) h9.1 (by omega)
    have C := cc_xy hG
    have k := hs _ _ ka.1 kb.1
    rw [ka.2.1, kb.2.1] at k
    rw [crs_l C ka.1 (show a < m from by omega) (show b < m from by omega) kb.1 ka.2.2.1, crs_r C ka.1 (show a < m from by omega) kb.1 (show b < m from by omega) kb.2.2.1]
    exact k
def rvI (m p : Nat) : Nat := if p < m then m - 1 - p else p
theorem rv_lt {a : Nat} (ha : a < m) : rvI m a = m - 1 - a := by unfold rvI; rw [if_pos ha]
theorem rv_m : rvI m m = m := by unfold rvI; rw [if_neg (by omega)]
theorem e_rvX {a : Nat} (ha : a ≤ m) : eX (fun p => X (m - 1 - p)) m a = eX X m (rvI m a) := by
  by_cases z : a < m
  · rw [eX_c z, rv_lt z, eX_c (by omega)]
  · have e : a = m := by omega
    rw [e, eX_f, rv_m, eX_f]
theorem e_rvY {a : Nat} (ha : a ≤ m) : eY (fun p => Y (m - 1 - p)) m a = eY Y m (rvI m a) := by
  by_cases z : a < m
  · rw [eY_c z, rv_lt z, eY_c (by omega)]
  · have e : a = m := by omega
    rw [e, eY_f, rv_m, eY_f]
theorem o_rv {a b c : Nat} (ha : a ≤ m) (hb : b ≤ m) (hc : c ≤ m) : oXY (eX (fun p => X (m - 1 - p)) m) (eY (fun p => Y (m - 1 - p)) m) a b c = oXY (eX X m) (eY Y m) (rvI m a) (rvI m b) (rvI m c) := by
  unfold oXY dt
  rw [e_rvX ha, e_rvX hb, e_rvX hc, e_rvY ha, e_rvY hb, e_rvY hc]
theorem crs_rv {a b c d : Nat} (ha : a ≤ m) (hb : b ≤ m) (hc : c ≤ m) (hd : d ≤ m) : crs (oXY (eX (fun p => X (m - 1 - p)) m) (eY (fun p => Y (m - 1 - p)) m)) a b c d = crs (oXY (eX X m) (eY Y m)) (rvI m a) (rvI m b) (rvI m c) (rvI m d) := by
  have q : ∀ x y, x ≤ m → y ≤ m → (rvI m x != rvI m y) = (x != y) := fun x y hx hy => by
    by_cases e : x = y
    · rw [e, bne_self_eq_false, bne_self_eq_false]
    · rw [bne_iff_ne.mpr e, bne_iff_ne.mpr]
      unfold rvI
      split <;> split <;> omega
  unfold crs
  rw [q a c ha hc, q a d ha hd, q b c hb hc, q b d hb hd, o_rv ha hb hc, o_rv ha hb hd, o_rv hc hd ha, o_rv hc hd hb]
theorem pk_H {P : Nat → Prop} {o : Nat → Nat → Nat → Bool} (C : CC P o) (hP : ∀ p, p ≤ m → P p) {b : Nat} (hb : b ≤ m) : ∃ H : Nat → Nat → Bool, (∀ x y, H x y = H y x) ∧ ∀ x y, x < m → y < m → x ≠ y → H x y = crs o b m x y := by
  refine ⟨fun x y => cond (decide (x < m ∧ y < m ∧ x ≠ y)) (crs o b m x y) false, fun x y => ?_, fun x y hx hy n => ?_⟩
  · show cond (decide (x < m ∧ y < m ∧ x ≠ y)) (crs o b m x y) false = cond (decide (y < m ∧ x < m ∧ y ≠ x)) (crs o b m y x) false
    by_cases z : x < m ∧ y < m ∧ x ≠ y
    · rw [decide_eq_true z, decide_eq_true (show y < m ∧ x < m ∧ y ≠ x from ⟨z.2.1, z.1, z.2.2.symm⟩), crs_r C (hP b hb) (hP m (Nat.le_refl m)) (hP x (by omega)) (hP y (by omega)) z.2.2]
    · rw [decide_eq_false z, decide_eq_false (show ¬ (y < m ∧ x < m ∧ y ≠ x) from fun w => z ⟨w.2.1, w.1, w.2.2.symm⟩)]
      rfl
  · show cond (decide (x < m ∧ y < m ∧ x ≠ y)) (crs o b m x y) false = _
    rw [decide_eq_true (show x < m ∧ y < m ∧ x ≠ y from ⟨hx, hy, n⟩)]
    rfl
theorem pk_X {P : Nat → Prop} {o o' : Nat → Nat → Nat → Bool} (C : CC P o) (hP : ∀ p, p ≤ m → P p) (h3 : 3 ≤ m) {b : Nat} (hb : b < m) (ho : ∀ i, i < m → crs o' b m i (nQ 0 (m - 1) i) = crs o (m - 1 - b) m (m - 1 - i) (m - 1 - nQ 0 (m - 1) i)) : pX o' (sQ 0 (m - 1)) (nQ 0 (m - 1)) m b m = pX o (sQ 0 (m - 1)) (nQ 0 (m - 1)) m (m - 1 - b) m := by
  obtain ⟨H, Hs, Ht⟩ := pk_H (m := m) C hP (b := m - 1 - b) (by omega)
  have l1 : pX o' (sQ 0 (m - 1)) (nQ 0 (m - 1)) m b m = xorR (fun i => H (m - 1 - i) (m - 1 - nxC m i)) m := by
    unfold pX pgS
    refine xorR_eq m (fun i hi => ?_)
    have k := vQ_lt (p := i) h3 hi
    have nl := nQ_lt (p := i) h3 hi
    show (sQ 0 (m - 1) i && crs o' b m i (nQ 0 (m - 1) i)) = H (m - 1 - i) (m - 1 - nxC m i)
    rw [show sQ 0 (m - 1) i = true from decide_eq_true (by omega), Bool.true_and, nx_Q hi, Ht _ _ (by omega) (by omega) (by omega), ho i hi]
  have l2 : pX o (sQ 0 (m - 1)) (nQ 0 (m - 1)) m (m - 1 - b) m = xorR (fun i => H i (nxC m i)) m := by
    unfold pX pgS
    refine xorR_eq m (fun i hi => ?_)
    have k := vQ_lt (p := i) h3 hi
    have nl := nQ_lt (p := i) h3 hi
    show (sQ 0 (m - 1) i && crs o (m - 1 - b) m i (nQ 0 (m - 1) i)) = H i (nxC m i)
    rw [show sQ 0 (m - 1) i = true from decide_eq_true (by omega), Bool.true_and, nx_Q hi, Ht _ _ hi nl k.2.2.2.2.symm]
  rw [l1, l2]
  exact xorR_round (m := m) (by omega) Hs (fun i => i)
theorem pk_l (h : PQ X Y m) {b : Nat} (hb : b < m) : linL (oXY (eX (fun p => X (m - 1 - p)) m) (eY (fun p => Y (m - 1 - p)) m)) b (vQ 0 (m - 1) b) (nQ 0 (m - 1) b) m = linL (oXY (eX X m) (eY Y m)) (m - 1 - b) (nQ 0 (m - 1) (m - 1 - b)) (vQ 0 (m - 1) (m - 1 - b)) m := by
  have h3 := h.1.1
  have kb := vQ_lt (p := b) h3 hb
  have nb := nQ_lt (p := b) h3 hb
  have r0 : rvI m b = m - 1 - b := rv_lt hb
  have r1 : rvI m (vQ 0 (m - 1) b) = nQ 0 (m - 1) (m - 1 - b) := by rw [rv_lt kb.1, (rv_n h3 hb).2]
  have r2 : rvI m (nQ 0 (m - 1) b) = vQ 0 (m - 1) (m - 1 - b) := by rw [rv_lt nb, (rv_n h3 hb).1]
  have r3 : rvI m m = m := rv_m
  unfold linL
  rw [o_rv (X := X) (Y := Y) (m := m) (a := vQ 0 (m - 1) b) (b := b) (c := nQ 0 (m - 1) b) (by omega) (by omega) (by omega), o_rv (X := X) (Y := Y) (m := m) (a := b) (b := m) (c := vQ 0 (m - 1) b) (by omega) (by omega) (by omega), o_rv (X := X) (Y := Y) (m := m) (a := m) (b := b) (c := nQ 0 (m - 1) b) (by omega) (by omega) (by omega), o_rv (X := X) (Y := Y) (m := m) (a := b) (b := m) (c := nQ 0 (m - 1) b) (by omega) (by omega) (by omega), o_rv (X := X) (Y := Y) (m := m) (a := m) (b := b) (c := vQ 0 (m - 1) b) (by omega) (by omega) (by omega), r0, r1, r2, r3]
theorem pk_rev (h : PQ X Y m) {b : Nat} (hb : b < m) : pK (oXY (eX (fun p => X (m - 1 - p)) m) (eY (fun p => Y (m - 1 - p)) m)) (sQ 0 (m - 1)) (nQ 0 (m - 1)) (vQ 0 (m - 1)) m m b = !pK (oXY (eX X m) (eY Y m)) (sQ 0 (m - 1)) (nQ 0 (m - 1)) (vQ 0 (m - 1)) m m (m - 1 - b) := by
  have h3 := h.1.1
  have C := (pq_plg h).1
  have x1 := pk_X (o' := oXY (eX (fun p => X (m - 1 - p)) m) (eY (fun p => Y (m - 1 - p)) m)) C (fun p hp => hp) h3 hb (fun i hi => by
    have nl := nQ_lt (p := i) h3 hi
    rw [crs_rv (X := X) (Y := Y) (m := m) (a := b) (b := m) (c := i) (d := nQ 0 (m - 1) i) (by omega) (Nat.le_refl m) (by omega) (by omega), rv_lt hb, rv_m, rv_lt hi, rv_lt nl])
  have k := vQ_lt (p := m - 1 - b) h3 (by omega)
  have nl := nQ_lt (p := m - 1 - b) h3 (by omega)
  have x2 := pk_l h hb
  rw [pg_rev C (show m - 1 - b ≤ m from by omega) (show vQ 0 (m - 1) (m - 1 - b) ≤ m from by omega) (show nQ 0 (m - 1) (m - 1 - b) ≤ m from by omega) (Nat.le_refl m) k.2.2.1.symm k.2.2.2.2.symm (by omega) k.2.2.2.1 (by omega) (by omega)] at x2
  unfold pK
  rw [x1, x2]
  cases pX (oXY (eX X m) (eY Y m)) (sQ 0 (m - 1)) (nQ 0 (m - 1)) m (m - 1 - b) m <;> cases linL (oXY (eX X m) (eY Y m)) (m - 1 - b) (vQ 0 (m - 1) (m - 1 - b)) (nQ 0 (m - 1) (m - 1 - b)) m <;> rfl
theorem gpl_or (h : PQ X Y m) : GPl (fun x => x ≤ m) (oXY (eX X m) (eY Y m)) m ∨ GPl (fun x => x ≤ m) (oXY (eX (fun p => X (m - 1 - p)) m) (eY (fun p => Y (m - 1 - p)) m)) m := by
  have h3 := h.1.1
  have H := gx_P (pq_plg h)
  have kc : ∀ b, b < m → pK (oXY (eX X m) (eY Y m)) (sQ 0 (m - 1)) (nQ 0 (m - 1)) (vQ 0 (m - 1)) m m b = pK (oXY (eX X m) (eY Y m)) (sQ 0 (m - 1)) (nQ 0 (m - 1)) (vQ 0 (m - 1)) m m 0 := fun b hb => pg_kc H (decide_eq_true (by omega)) (decide_eq_true (by omega))
  cases q : pK (oXY (eX X m) (eY Y m)) (sQ 0 (m - 1)) (nQ 0 (m - 1)) (vQ 0 (m - 1)) m m 0 with
  | false => exact Or.inl ⟨pq_plg h, pq_far h, fun b hb => by rw [kc b hb]; exact q⟩
  | true => exact Or.inr ⟨pq_plg (pq_rev h), pq_far (pq_rev h), fun b hb => by rw [pk_rev h hb, kc _ (by omega), q]; rfl⟩
end
