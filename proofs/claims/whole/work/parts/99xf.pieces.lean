/-! Polygons: the pieces at an inner edge; which inner edges cross. -/
theorem nP_in {m p : Nat} (h : p + 1 < m) : nQ 0 (m - 1) p = p + 1 := by unfold nQ; rw [if_neg (by omega)]
theorem vP_in {j p : Nat} (h : 0 < p) : vQ 0 j p = p - 1 := by unfold vQ; rw [if_neg (by omega)]
theorem nQ_in {i j p : Nat} (h : p < j) : nQ i j p = p + 1 := by unfold nQ; rw [if_neg (by omega)]
theorem vQ_in {i j p : Nat} (h : i < p) : vQ i j p = p - 1 := by unfold vQ; rw [if_neg (by omega)]
theorem nQ_j {i j : Nat} : nQ i j j = i := by unfold nQ; rw [if_pos rfl]
theorem vQ_i {i j : Nat} : vQ i j i = j := by unfold vQ; rw [if_pos rfl]
theorem nR_i {m i j : Nat} : nR m i j i = j := by unfold nR; rw [if_pos rfl]
theorem vR_j {m i j : Nat} : vRg m i j j = i := by unfold vRg; rw [if_pos rfl]
theorem nR_eq {m i j p : Nat} (h : p ≠ i) : nR m i j p = nQ 0 (m - 1) p := by unfold nR nQ; rw [if_neg h]
theorem vR_eq {m i j p : Nat} (h : p ≠ j) : vRg m i j p = vQ 0 (m - 1) p := by unfold vRg vQ; rw [if_neg h]
theorem vP_lt {m p : Nat} (h3 : 3 ≤ m) (h : p < m) : vQ 0 (m - 1) p < m := by unfold vQ; split <;> omega
/-- nothing lies beyond the far point; one corner is nearest -/
def Far (o : Nat → Nat → Nat → Bool) (m : Nat) : Prop := (∀ p q s, p < m → q < m → s < m → p ≠ q → p ≠ s → q ≠ s → wit o m p q s = false) ∧ ∃ b, b < m ∧ ∀ p q, p < m → q < m → crs o b m p q = false
/-- a polygon whose inside is left of it -/
def GPl (P : Nat → Prop) (o : Nat → Nat → Nat → Bool) (m : Nat) : Prop := Plg P o m ∧ Far o m ∧ ∀ b, b < m → pK o (sQ 0 (m - 1)) (nQ 0 (m - 1)) (vQ 0 (m - 1)) m m b = false
/-- an inner edge -/
def Jd (o : Nat → Nat → Nat → Bool) (m i j : Nat) : Prop := (i + 2 ≤ j ∧ j < m ∧ ¬ (i = 0 ∧ j = m - 1)) ∧ Fre o m i j ∧ linL o i (vQ 0 (m - 1) i) (nQ 0 (m - 1) i) j = true
section
variable {P : Nat → Prop} {o : Nat → Nat → Nat → Bool} {m : Nat}
theorem gx_P (h : Plg P o m) : PGx P o m (sQ 0 (m - 1)) (nQ 0 (m - 1)) (vQ 0 (m - 1)) m := ⟨h.1, fun p hp => by
  have := of_decide_eq_true hp
  have h3 := h.2.2.1
  exact ⟨h.2.1 p (by omega), by omega⟩, h.2.1 m (by omega), pg_P h⟩
theorem gx_Q (h : Plg P o m) {i j : Nat} (hij : i + 2 ≤ j) (hj : j < m) (hf : Fre o m i j) : PGx P o m (sQ i j) (nQ i j) (vQ i j) m := ⟨h.1, fun p hp => by
  have := of_decide_eq_true hp
  exact ⟨h.2.1 p (by omega), by omega⟩, h.2.1 m (by omega), pg_Q h hij hj hf⟩
theorem gx_R (h : Plg P o m) {i j : Nat} (hij : i + 2 ≤ j) (hj : j < m) (hn : ¬ (i = 0 ∧ j = m - 1)) (hf : Fre o m i j) : PGx P o m (sR m i j) (nR m i j) (vRg m i j) m := ⟨h.1, fun p hp => by
  have := of_decide_eq_true hp
  exact ⟨h.2.1 p (by omega), by omega⟩, h.2.1 m (by omega), pg_R h hij hj hn hf⟩
theorem fre_sw (h : Plg P o m) {a b : Nat} (ha : a < m) (hb : b < m) (nab : a ≠ b) (hf : Fre o m a b) : Fre o m b a := fun p hp => by
  rw [crs_l h.1 (h.2.1 a (by omega)) (h.2.1 b (by omega)) (h.2.1 p (by omega)) (h.2.1 _ (by have := nQ_lt h.2.2.1 hp; omega)) nab]
  exact hf p hp
theorem pX_P {a b : Nat} (hf : Fre o m a b) : pX o (sQ 0 (m - 1)) (nQ 0 (m - 1)) m a b = false := by
  refine xorR_z m (fun p hp => ?_)
  show (sQ 0 (m - 1) p && crs o a b p (nQ 0 (m - 1) p)) = false
  rw [hf p hp, Bool.and_false]
theorem pX_Q {i j a b : Nat} (hij : i ≤ j) (hj : j < m) (hf : Fre o m a b) : pX o (sQ i j) (nQ i j) m a b = crs o a b j i := by
  unfold pX pgS
  rw [xorR_1 (a := j) m hj (fun p hp n => ?_)]
  · rw [nQ_j, show sQ i j j = true from decide_eq_true (by omega)]; rfl
  · cases q : sQ i j p with
    | false => rfl
    | true =>
      have := of_decide_eq_true q
      have z := hf p hp
      rw [nP_in (by omega)] at z
      rw [nQ_in (by omega)]
      show (true && crs o a b p (p + 1)) = false
      rw [z]; rfl
theorem pX_R {i j a b : Nat} (hi : i < m) (hf : Fre o m a b) : pX o (sR m i j) (nR m i j) m a b = crs o a b i j := by
  unfold pX pgS
  rw [xorR_1 (a := i) m hi (fun p hp n => ?_)]
  · rw [nR_i, show sR m i j i = true from decide_eq_true (by omega)]; rfl
  · rw [nR_eq n]
    show (sR m i j p && crs o a b p (nQ 0 (m - 1) p)) = false
    rw [hf p hp, Bool.and_false]
theorem lin_sym (h : Plg P o m) {a b : Nat} (ha : a < m) (hb : b < m) (nab : a ≠ b) (n1 : nQ 0 (m - 1) a ≠ b) (n2 : nQ 0 (m - 1) b ≠ a) (hf : Fre o m a b) : linL o b (vQ 0 (m - 1) b) (nQ 0 (m - 1) b) a = linL o a (vQ 0 (m - 1) a) (nQ 0 (m - 1) a) b := by
  have h3 := h.2.2.1
  have k := pg_x2 (gx_P h) (a := a) (b := b) (decide_eq_true (by omega)) (decide_eq_true (by omega)) nab n1 n2
  rw [pX_P hf] at k
  revert k
  cases linL o b (vQ 0 (m - 1) b) (nQ 0 (m - 1) b) a <;> cases linL o a (vQ 0 (m - 1) a) (nQ 0 (m - 1) a) b <;> decide
theorem jd_ad {i j : Nat} (J : Jd o m i j) : nQ 0 (m - 1) i ≠ j ∧ nQ 0 (m - 1) j ≠ i := by
  have a := J.1
  rw [nP_in (by omega)]
  refine ⟨by omega, ?_⟩
  unfold nQ
  split <;> omega
theorem jd_sym (h : Plg P o m) {i j : Nat} (J : Jd o m i j) : linL o j (vQ 0 (m - 1) j) (nQ 0 (m - 1) j) i = true := by
  have a := J.1
  have d := jd_ad J
  rw [lin_sym h (by omega) a.2.1 (by omega) d.1 d.2 J.2.1]
  exact J.2.2
theorem jd_K (h : GPl P o m) {i j : Nat} (J : Jd o m i j) : (∀ b, sQ i j b = true → pK o (sQ i j) (nQ i j) (vQ i j) m m b = false) ∧ ∀ b, sR m i j b = true → pK o (sR m i j) (nR m i j) (vRg m i j) m m b = false := by
  obtain ⟨hp, hF, hK⟩ := h
  obtain ⟨⟨a1, a2, a3⟩, hf, jl⟩ := J
  have js := jd_sym hp ⟨⟨a1, a2, a3⟩, hf, jl⟩
  have dd := jd_ad ⟨⟨a1, a2, a3⟩, hf, jl⟩
  have h3 := hp.2.2.1
  have HQ := gx_Q hp a1 a2 hf
  have HR := gx_R hp a1 a2 a3 hf
  have iQ : sQ i j i = true := decide_eq_true (by omega)
  have iR : sR m i j i = true := decide_eq_true (by omega)
  have jQ : sQ i j j = true := decide_eq_true (by omega)
  have vi := vP_lt (p := i) h3 (by omega)
  have vj := vP_lt (p := j) h3 a2
  have nj := nQ_lt (p := j) h3 a2
  have vni : vQ 0 (m - 1) i ≠ i ∧ vQ 0 (m - 1) i ≠ j ∧ vQ 0 (m - 1) i ≠ i + 1 := by unfold vQ; split <;> omega
  have vnj : vQ 0 (m - 1) j ≠ j ∧ vQ 0 (m - 1) j ≠ i ∧ vQ 0 (m - 1) j ≠ nQ 0 (m - 1) j ∧ nQ 0 (m - 1) j ≠ j := by
    rw [vP_in (by omega)]
    unfold nQ; split <;> omega
  have ni : nQ 0 (m - 1) i = i + 1 := nP_in (by omega)
  rw [ni] at jl
  have key : pK o (sQ i j) (nQ i j) (vQ i j) m m i = pK o (sR m i j) (nR m i j) (vRg m i j) m m i := by
    have k0 := hK i (by omega)
    have sp := spl_QR a1 a2 (h := fun p q => crs o i m p q) (by rw [crs_p1, crs_p3])
    have ls := pg_spl hp.1 (hp.2.1 i (by omega)) (hp.2.1 j (by omega)) (hp.2.1 (vQ 0 (m - 1) i) (by omega)) (hp.2.1 (i + 1) (by omega)) (hp.2.1 m (by omega)) (by omega) vni.1.symm (by omega) (by omega) vni.2.1.symm (by omega) (by omega) vni.2.2 (by omega) (by omega) jl
    unfold pK pX at k0 ⊢
    rw [sp, ni, ls] at k0
    rw [nQ_in (by omega), vQ_i, nR_i, vR_eq (by omega)]
    revert k0
    cases pgS (sQ i j) (nQ i j) m (fun p q => crs o i m p q) <;> cases pgS (sR m i j) (nR m i j) m (fun p q => crs o i m p q) <;> cases linL o i j (i + 1) m <;> cases linL o i (vQ 0 (m - 1) i) j m <;> decide
  have kq : pK o (sQ i j) (nQ i j) (vQ i j) m m i = false := by
    obtain ⟨b0, hb0, hx⟩ := hF.2
    have k0 := hK b0 hb0
    have x0 : ∀ (S : Nat → Bool) (nx : Nat → Nat), (∀ p, S p = true → p < m ∧ nx p < m) → pX o S nx m b0 m = false := fun S nx hh => pgS_0 (fun p hp => hx p (nx p) (hh p hp).1 (hh p hp).2)
    have xP := x0 (sQ 0 (m - 1)) (nQ 0 (m - 1)) (fun p hp => by
      have := of_decide_eq_true hp
      exact ⟨by omega, nQ_lt h3 (by omega)⟩)
    have xQ := x0 (sQ i j) (nQ i j) (fun p hp => ⟨(HQ.2.2.2.1 p hp).1, (HQ.2.2.2.1 _ (HQ.2.2.2.1 p hp).2.1).1⟩)
    have xR := x0 (sR m i j) (nR m i j) (fun p hp => ⟨(HR.2.2.2.1 p hp).1, (HR.2.2.2.1 _ (HR.2.2.2.1 p hp).2.1).1⟩)
    unfold pK at k0
    rw [xP, Bool.false_xor] at k0
    by_cases c1 : b0 = i
    · subst c1
      unfold pK
      rw [xQ, Bool.false_xor, vQ_i, nQ_in (by omega)]
      have sb := (pg_sub hp.1 (hp.2.1 b0 (by omega)) (hp.2.1 j (by omega)) (hp.2.1 (vQ 0 (m - 1) b0) (by omega)) (hp.2.1 (b0 + 1) (by omega)) (hp.2.1 m (by omega)) (by omega) vni.1.symm (by omega) (by omega) vni.2.1.symm (by omega) (by omega) vni.2.2 (by omega) (by omega) jl).1
      rw [ni] at k0
      cases q : linL o b0 j (b0 + 1) m with
      | false => rfl
      | true => rw [sb q] at k0; exact k0
    · by_cases c2 : b0 = j
      · subst c2
        rw [pg_kc HQ iQ jQ]
        unfold pK
        rw [xQ, Bool.false_xor, nQ_j, vQ_in (by omega), ← vP_in (j := m - 1) (by omega : 0 < b0)]
        have sb := (pg_sub hp.1 (hp.2.1 b0 (by omega)) (hp.2.1 i (by omega)) (hp.2.1 (vQ 0 (m - 1) b0) (by omega)) (hp.2.1 (nQ 0 (m - 1) b0) (by omega)) (hp.2.1 m (by omega)) (by omega) vnj.1.symm vnj.2.2.2.symm (by omega) vnj.2.1.symm dd.2.symm (by omega) vnj.2.2.1 (by omega) (by omega) js).2
        cases q : linL o b0 (vQ 0 (m - 1) b0) i m with
        | false => rfl
        | true => rw [sb q] at k0; exact k0
      · by_cases c3 : i < b0 ∧ b0 < j
        · rw [pg_kc HQ (c := b0) iQ (decide_eq_true (by omega))]
          unfold pK
          rw [xQ, Bool.false_xor, nQ_in (by omega), vQ_in (by omega), ← k0, nP_in (by omega), vP_in (by omega)]
        · rw [key, pg_kc HR (c := b0) iR (decide_eq_true (by omega))]
          unfold pK
          rw [xR, Bool.false_xor, nR_eq c1, vR_eq c2, k0]
  refine ⟨fun b hb => ?_, fun b hb => ?_⟩
  · rw [pg_kc HQ hb iQ, kq]
  · rw [pg_kc HR hb iR, ← key, kq]
theorem jd_in (h : GPl P o m) {i j k l : Nat} (J : Jd o m i j) (h1 : i < k) (h2 : k + 2 ≤ l) (h3 : l < j) (hf : Fre o m k l) : crs o k l i j = false := by
  have a := J.1
  have HQ := gx_Q h.1 a.1 a.2.1 J.2.1
  have nl : nQ 0 (m - 1) l = l + 1 := nP_in (by omega)
  have nk : nQ 0 (m - 1) k = k + 1 := nP_in (by omega)
  have k1 := pg_x2 HQ (a := k) (b := l) (decide_eq_true (by omega)) (decide_eq_true (by omega)) (by omega) (by rw [nQ_in (by omega)]; omega) (by rw [nQ_in (by omega)]; omega)
  have k2 := lin_sym h.1 (a := k) (b := l) (by omega) (by omega) (by omega) (by omega) (by omega) hf
  rw [nl, nk, vP_in (by omega), vP_in (by omega)] at k2
  rw [pX_Q (by omega) a.2.1 hf, nQ_in (by omega), nQ_in (by omega), vQ_in (by omega), vQ_in (by omega), k2] at k1
  rw [crs_r h.1.1 (h.1.2.1 k (by omega)) (h.1.2.1 l (by omega)) (h.1.2.1 j (by omega)) (h.1.2.1 i (by omega)) (by omega), k1, Bool.xor_self]
theorem jd_off (h : GPl P o m) {i j k l : Nat} (J : Jd o m i j) (h1 : j < k) (h2 : k + 2 ≤ l) (h3 : l < m) (hf : Fre o m k l) : crs o k l i j = false := by
  have a := J.1
  have HR := gx_R h.1 a.1 a.2.1 a.2.2 J.2.1
  have nk : nQ 0 (m - 1) k = k + 1 := nP_in (by omega)
  have nl : nQ 0 (m - 1) l ≠ k := by unfold nQ; split <;> omega
  have k1 := pg_x2 HR (a := k) (b := l) (decide_eq_true (by omega)) (decide_eq_true (by omega)) (by omega) (by rw [nR_eq (by omega)]; omega) (by rw [nR_eq (by omega)]; exact nl)
  have k2 := lin_sym h.1 (a := k) (b := l) (by omega) (by omega) (by omega) (by omega) nl hf
  rw [pX_R (by omega) hf, nR_eq (by omega), nR_eq (by omega), vR_eq (by omega), vR_eq (by omega), k2, Bool.xor_self] at k1
  exact k1
theorem out_Q (h : GPl P o m) {i j l : Nat} (J : Jd o m i j) (hl : l < m) (h1 : l < i ∨ j < l) : pX o (sQ i j) (nQ i j) m l m = false := by
  have a := J.1
  have k0 := h.2.2 l hl
  have k1 := (jd_K h J).2 l (decide_eq_true (by omega))
  have sp := spl_QR a.1 a.2.1 (h := fun p q => crs o l m p q) (crs_r h.1.1 (h.1.2.1 l (by omega)) (h.1.2.1 m (by omega)) (h.1.2.1 j (by omega)) (h.1.2.1 i (by omega)) (by omega))
  unfold pK pX at k0 k1
  unfold pX
  rw [sp] at k0
  rw [nR_eq (by omega), vR_eq (by omega)] at k1
  revert k0 k1
  cases pgS (sQ i j) (nQ i j) m (fun p q => crs o l m p q) <;> cases pgS (sR m i j) (nR m i j) m (fun p q => crs o l m p q) <;> cases linL o l (vQ 0 (m - 1) l) (nQ 0 (m - 1) l) m <;> decide
theorem jd_x (h : GPl P o m) {i j k l : Nat} (J : Jd o m i j) (h1 : i < k) (h2 : k < j) (hl : l < m) (h3 : l < i ∨ j < l) (hf : Fre o m k l) (lk : linL o k (vQ 0 (m - 1) k) (nQ 0 (m - 1) k) l = true) : crs o k l i j = true := by
  have a := J.1
  have HQ := gx_Q h.1 a.1 a.2.1 J.2.1
  have k1 := pg_x3 HQ (a := l) (b := k) (h.1.2.1 l (by omega)) (by omega) (decide_eq_false (by omega)) (decide_eq_true (by omega))
  rw [nP_in (by omega), vP_in (by omega)] at lk
  rw [pX_Q (by omega) a.2.1 (fre_sw h.1 (by omega) hl (by omega) hf), (jd_K h J).1 k (decide_eq_true (by omega)), out_Q h J hl h3, nQ_in (by omega), vQ_in (by omega), lk] at k1
  rw [crs_l h.1.1 (h.1.2.1 l (by omega)) (h.1.2.1 k (by omega)) (h.1.2.1 i (by omega)) (h.1.2.1 j (by omega)) (by omega), crs_r h.1.1 (h.1.2.1 l (by omega)) (h.1.2.1 k (by omega)) (h.1.2.1 j (by omega)) (h.1.2.1 i (by omega)) (by omega), k1]
  rfl
end
