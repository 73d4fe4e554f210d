/-! Polygons: each inner edge has a triangle on its inner side. -/
section
variable {P : Nat → Prop} {o : Nat → Nat → Nat → Bool} {m : Nat}
theorem ed_left (h : Plg P o m) (hF : Far o m) {i j : Nat} (hij : i + 2 ≤ j) (hj : j < m) (HQ : PGx P o m (sQ i j) (nQ i j) (vQ i j) m) (kQ : pK o (sQ i j) (nQ i j) (vQ i j) m m i = false) : ∃ t, i < t ∧ t < j ∧ o j i t = true := by
  refine Classical.byContradiction (fun hn => ?_)
  have C := h.1
  have pp : ∀ p, p ≤ m → P p := h.2.1
  have ht : ∀ t, i < t → t < j → o i j t = true := fun t h1 h2 => by
    rw [cr3 C (pp j (by omega)) (pp i (by omega)) (pp t (by omega)) (by omega) (by omega) (by omega)]
    cases q : o j i t with
    | false => rfl
    | true => exact (hn ⟨t, h1, h2, q⟩).elim
  have l3 := pg_e3 C (pp i (by omega)) (pp j (by omega)) (pp (i + 1) (by omega)) (pp m (by omega)) (by omega) (by omega) (by omega) (by omega) (by omega) (by omega) (ht (i + 1) (by omega) (by omega))
  unfold pK at kQ
  rw [vQ_i, nQ_in (by omega), l3] at kQ
  cases cm : o i j m with
  | false =>
    have x0 : pX o (sQ i j) (nQ i j) m i m = false := pgS_0 (fun p hp => by
      have kp := of_decide_eq_true hp
      show crs o i m p (nQ i j p) = false
      by_cases c1 : p = i
      · rw [c1, crs_p1]
      · by_cases c2 : p = j
        · rw [c2, nQ_j, crs_p3]
        · rw [nQ_in (by omega)]
          by_cases c3 : p + 1 = j
          · rw [c3, crs_r C (pp i (by omega)) (pp m (by omega)) (pp j (by omega)) (pp p (by omega)) (by omega)]
            exact pg_e1b C (pp i (by omega)) (pp j (by omega)) (pp p (by omega)) (pp m (by omega)) (by omega) (by omega) (by omega) (by omega) (by omega) (by omega) (ht p (by omega) (by omega)) cm
          · exact pg_e1 C (pp i (by omega)) (pp j (by omega)) (pp p (by omega)) (pp (p + 1) (by omega)) (pp m (by omega)) (by omega) (by omega) (by omega) (by omega) (by omega) (by omega) (by omega) (by omega) (by omega) (by omega) (ht p (by omega) (by omega)) (ht (p + 1) (by omega) (by omega)) cm)
    rw [x0, cm] at kQ
    exact absurd (show true = false from kQ) (by decide)
  | true =>
    have tl := HQ.2.2.2.2.1 (fun p => o i m p)
    have x1 : (pgS (sQ i j) (nQ i j) m (fun p q => crs o i m p q) ^^ pgS (sQ i j) (nQ i j) m (fun p q => o i m p ^^ o i m q)) = (o i m (i + 1) ^^ o i m j) := by
      rw [← pgS_x]
      unfold pgS
      rw [xorR_2 (a := i) (b := j) m (by omega) hj (by omega) (fun p hp n1 n2 => ?_), show sQ i j i = true from decide_eq_true (by omega), show sQ i j j = true from decide_eq_true (by omega), nQ_j, nQ_in (by omega)]
      · show (true && (crs o i m i (i + 1) ^^ (o i m i ^^ o i m (i + 1))) ^^ true && (crs o i m j i ^^ (o i m j ^^ o i m i))) = _
        rw [crs_p1, crs_p3]
        cases o i m i <;> cases o i m (i + 1) <;> cases o i m j <;> rfl
      · cases q : sQ i j p with
        | false => rfl
        | true =>
          have kp := of_decide_eq_true q
          rw [nQ_in (by omega)]
          show (crs o i m p (p + 1) ^^ (o i m p ^^ o i m (p + 1))) = false
          by_cases c3 : p + 1 = j
          · rw [c3, crs_r C (pp i (by omega)) (pp m (by omega)) (pp j (by omega)) (pp p (by omega)) (by omega), pg_e2b C (pp i (by omega)) (pp j (by omega)) (pp p (by omega)) (pp m (by omega)) (by omega) (by omega) (by omega) (by omega) (by omega) (by omega) (ht p (by omega) (by omega)) cm (hF.1 i j p (by omega) (by omega) (by omega) (by omega) (by omega) (by omega))]
            cases o i m p <;> cases o i m j <;> rfl
          · rw [pg_e2 C (pp i (by omega)) (pp j (by omega)) (pp p (by omega)) (pp (p + 1) (by omega)) (pp m (by omega)) (by omega) (by omega) (by omega) (by omega) (by omega) (by omega) (by omega) (by omega) (by omega) (by omega) (ht p (by omega) (by omega)) (ht (p + 1) (by omega) (by omega)) cm (hF.1 i p (p + 1) (by omega) (by omega) (by omega) (by omega) (by omega) (by omega)), Bool.xor_self]
    rw [show pgS (sQ i j) (nQ i j) m (fun p q => o i m p ^^ o i m q) = false from tl, Bool.xor_false] at x1
    unfold pX at kQ
    rw [x1, cm] at kQ
    revert kQ
    cases o i m (i + 1) <;> cases o i m j <;> decide
/-- every net that has the sides -/
theorem apex (h : GPl P o m) {N : Nat → Nat → Prop} (net : Net o (List.range m) N) (fp : FP o (List.range m) N) (sd : ∀ p, p < m → N p (nQ 0 (m - 1) p)) {i j : Nat} (hij : i + 2 ≤ j) (hj : j < m) (hJ : (i = 0 ∧ j = m - 1) ∨ Jd o m i j) (hN : N j i) : ∃ w, i < w ∧ w < j ∧ o j i w = true ∧ N i w ∧ N w j ∧ (w = i + 1 ∨ Jd o m i w) ∧ (j = w + 1 ∨ Jd o m w j) := by
  have C := h.1.1
  have pp : ∀ p, p ≤ m → P p := h.1.2.1
  have m3 := h.1.2.2.1
  have lt : ∀ {x}, x ∈ List.range m → x < m := fun q => List.mem_range.mp q
  have fr : ∀ {a b}, N a b → Fre o m a b := fun q p hp => net.2.1 _ _ _ _ q (sd p hp)
  have sdi : N i (i + 1) := by have := sd i (by omega); rw [nP_in (by omega)] at this; exact this
  have sdj : N j (j - 1) := by
    have := sd (j - 1) (by omega)
    rw [nP_in (by omega), show j - 1 + 1 = j from by omega] at this
    exact (net.1 _ _ this).2.2.2
  have HK : PGx P o m (sQ i j) (nQ i j) (vQ i j) m ∧ (∀ b, sQ i j b = true → pK o (sQ i j) (nQ i j) (vQ i j) m m b = false) := by
    rcases hJ with ⟨e1, e2⟩ | J
    · subst e1; subst e2
      exact ⟨gx_P h.1, fun b hb => by have := of_decide_eq_true hb; exact h.2.2 b (by omega)⟩
    · exact ⟨gx_Q h.1 hij hj J.2.1, (jd_K h J).1⟩
  obtain ⟨HQ, kQ⟩ := HK
  obtain ⟨t, t1, t2, t3⟩ := ed_left h.1 h.2.1 hij hj HQ (kQ i (decide_eq_true (by omega)))
  obtain ⟨w, wl, wj, wi, ow, Njw, Niw, em⟩ := fp j i hN ⟨t, List.mem_range.mpr (by omega), by omega, by omega, t3⟩
  have wm := lt wl
  have lin1 : w ≠ i + 1 → linL o i j (i + 1) w = true := fun n1 => by
    have k1 := pg_tri4 C (pp j (by omega)) (pp i (by omega)) (pp w (by omega)) (pp (i + 1) (by omega)) (by omega) wj.symm (by omega) wi.symm (by omega) n1
    have k2 := pg_st4b C (pp i (by omega)) (pp j (by omega)) (pp w (by omega)) (pp (i + 1) (by omega)) (by omega) wi.symm (by omega) wj.symm (by omega) n1
    rw [net.2.1 _ _ _ _ Njw sdi, em (i + 1) (List.mem_range.mpr (by omega)), Bool.xor_false] at k1
    rw [← k1, ow] at k2
    revert k2
    cases linL o i j (i + 1) w <;> decide
  have lin2 : w ≠ j - 1 → linL o j (j - 1) i w = true := fun n1 => by
    have k1 := pg_tri4 C (pp i (by omega)) (pp j (by omega)) (pp w (by omega)) (pp (j - 1) (by omega)) (by omega) wi.symm (by omega) wj.symm (by omega) n1
    have k2 := pg_st4 C (pp j (by omega)) (pp i (by omega)) (pp w (by omega)) (pp (j - 1) (by omega)) (by omega) wj.symm (by omega) wi.symm (by omega) n1
    rw [net.2.1 _ _ _ _ Niw sdj, wit_sw C (pp (j - 1) (by omega)) (pp j (by omega)) (pp i (by omega)) (pp w (by omega)) (by omega) wj.symm wi.symm, em (j - 1) (List.mem_range.mpr (by omega)), Bool.xor_false] at k1
    rw [← k1, ow] at k2
    revert k2
    cases linL o j (j - 1) i w <;> decide
  have win : i < w ∧ w < j := by
    refine Decidable.byContradiction (fun z => ?_)
    have ow' : w < i ∨ j < w := by omega
    have J : Jd o m i j := by
      rcases hJ with ⟨e1, e2⟩ | J
      · omega
      · exact J
    have k1 := pg_x3 HQ (a := w) (b := i) (pp w (by omega)) (by omega) (decide_eq_false (by omega)) (decide_eq_true (by omega))
    rw [pX_Q (by omega) hj (fr (net.1 _ _ Niw).2.2.2), kQ i (decide_eq_true (by omega)), out_Q h J wm ow', vQ_i, nQ_in (by omega), lin1 (by omega), crs_p4] at k1
    exact absurd k1 (by decide)
  have Nwj := (net.1 _ _ Njw).2.2.2
  refine ⟨w, win.1, win.2, ow, Niw, Nwj, ?_, ?_⟩
  · by_cases c : w = i + 1
    · exact Or.inl c
    · refine Or.inr ⟨⟨by omega, by omega, by omega⟩, fr Niw, ?_⟩
      have l1 := lin1 c
      rcases hJ with ⟨e1, e2⟩ | J
      · rw [nP_in (by omega)]
        rw [e1, e2] at l1
        rw [e1, vQ_i]
        exact l1
      · have jl := J.2.2
        rw [nP_in (by omega)] at jl ⊢
        have vl := vP_lt (p := i) m3 (by omega)
        have vn : vQ 0 (m - 1) i ≠ i ∧ vQ 0 (m - 1) i ≠ j ∧ vQ 0 (m - 1) i ≠ i + 1 ∧ vQ 0 (m - 1) i ≠ w := by
          have := J.1
          unfold vQ
          split <;> omega
        exact (pg_sub C (pp i (by omega)) (pp j (by omega)) (pp (vQ 0 (m - 1) i) (by omega)) (pp (i + 1) (by omega)) (pp w (by omega)) (by omega) vn.1.symm (by omega) (by omega) vn.2.1.symm (by omega) (by omega) vn.2.2.1 vn.2.2.2 (by omega) jl).1 l1
  · by_cases c : j = w + 1
    · exact Or.inl c
    · have fw := fr Nwj
      have nj : nQ 0 (m - 1) j ≠ w := by unfold nQ; split <;> omega
      refine Or.inr ⟨⟨by omega, hj, by omega⟩, fw, ?_⟩
      rw [← lin_sym h.1 wm hj (by omega) (by rw [nP_in (by omega)]; omega) nj fw]
      have l2 := lin2 (by omega)
      rw [vP_in (by omega)]
      rcases hJ with ⟨e1, e2⟩ | J
      · rw [show nQ 0 (m - 1) j = i from by rw [e2, nQ_j, e1]]
        exact l2
      · have js := jd_sym h.1 J
        rw [vP_in (by omega)] at js
        have nl := nQ_lt (p := j) m3 hj
        have vn : nQ 0 (m - 1) j ≠ j ∧ nQ 0 (m - 1) j ≠ i ∧ nQ 0 (m - 1) j ≠ j - 1 := by
          have := J.1
          unfold nQ
          split <;> omega
        exact (pg_sub C (pp j (by omega)) (pp i (by omega)) (pp (j - 1) (by omega)) (pp (nQ 0 (m - 1) j) (by omega)) (pp w (by omega)) (by omega) (by omega) vn.1.symm (by omega) (by omega) vn.2.1.symm (by omega) vn.2.2.symm (by omega) nj js).2 l2
end
/-- a set of edges none of which cross -/
def Pre (o : Nat → Nat → Nat → Bool) (l : List Nat) (M : Nat → Nat → Prop) : Prop := (∀ a b, M a b → a ∈ l ∧ b ∈ l ∧ a ≠ b ∧ M b a) ∧ ∀ a b c d, M a b → M c d → crs o a b c d = false
theorem pre_add {P : Nat → Prop} {o : Nat → Nat → Nat → Bool} (C : CC P o) {l : List Nat} (hl : ∀ x, x ∈ l → P x) {M : Nat → Nat → Prop} (h : Pre o l M) {a b : Nat} (ha : a ∈ l) (hb : b ∈ l) (nab : a ≠ b) (hc : ∀ c d, M c d → crs o a b c d = false) : Pre o l (fun x y => M x y ∨ (x = a ∧ y = b) ∨ (x = b ∧ y = a)) := by
  have hc2 : ∀ c d, M c d → crs o b a c d = false := fun c d q => by
    have k := h.1 c d q
    rw [crs_l C (hl a ha) (hl b hb) (hl c k.1) (hl d k.2.1) nab]
    exact hc c d q
  refine ⟨fun x y q => ?_, fun x y z w q r => ?_⟩
  · rcases q with q | ⟨e1, e2⟩ | ⟨e1, e2⟩
    · have k := h.1 x y q
      exact ⟨k.1, k.2.1, k.2.2.1, Or.inl k.2.2.2⟩
    · subst e1; subst e2
      exact ⟨ha, hb, nab, Or.inr (Or.inr ⟨rfl, rfl⟩)⟩
    · subst e1; subst e2
      exact ⟨hb, ha, nab.symm, Or.inr (Or.inl ⟨rfl, rfl⟩)⟩
  · rcases q with q | ⟨e1, e2⟩ | ⟨e1, e2⟩
    · rcases r with r | ⟨e3, e4⟩ | ⟨e3, e4⟩
      · exact h.2 x y z w q r
      · subst e3; subst e4; rw [crs_sw]; exact hc x y q
      · subst e3; subst e4; rw [crs_sw]; exact hc2 x y q
    · subst e1; subst e2
      rcases r with r | ⟨e3, e4⟩ | ⟨e3, e4⟩
      · exact hc z w r
      · subst e3; subst e4; exact crs_self _ _
      · subst e3; subst e4; exact crs_self2 _ _
    · subst e1; subst e2
      rcases r with r | ⟨e3, e4⟩ | ⟨e3, e4⟩
      · exact hc2 z w r
      · subst e3; subst e4; exact crs_self2 _ _
      · subst e3; subst e4; exact crs_self _ _
theorem net_grow {P : Nat → Prop} {o : Nat → Nat → Nat → Bool} (C : CC P o) {l : List Nat} (hl : ∀ x, x ∈ l → P x) : ∀ (L : List (Nat × Nat)) (M : Nat → Nat → Prop), Pre o l M → ∃ N, Pre o l N ∧ (∀ a b, M a b → N a b) ∧ ∀ a b, (a, b) ∈ L → a ∈ l → b ∈ l → a ≠ b → (∀ c d, N c d → crs o a b c d = false) → N a b
  | [], M, h => ⟨M, h, fun _ _ q => q, fun a b q => by cases q⟩
  | (x, y) :: L, M, h => by
    by_cases z : x ∈ l ∧ y ∈ l ∧ x ≠ y ∧ ∀ c d, M c d → crs o x y c d = false
    · obtain ⟨N, n1, n2, n3⟩ := net_grow C hl L _ (pre_add C hl h z.1 z.2.1 z.2.2.1 z.2.2.2)
      refine ⟨N, n1, fun a b q => n2 a b (Or.inl q), fun a b q ha hb nab hc => ?_⟩
      rcases List.mem_cons.mp q with e | e
      · cases e
        exact n2 x y (Or.inr (Or.inl ⟨rfl, rfl⟩))
      · exact n3 a b e ha hb nab hc
    · obtain ⟨N, n1, n2, n3⟩ := net_grow C hl L M h
      refine ⟨N, n1, n2, fun a b q ha hb nab hc => ?_⟩
      rcases List.mem_cons.mp q with e | e
      · cases e
        exact (z ⟨ha, hb, nab, fun c d r => hc c d (n2 c d r)⟩).elim
      · exact n3 a b e ha hb nab hc
theorem net_ex {P : Nat → Prop} {o : Nat → Nat → Nat → Bool} (C : CC P o) {l : List Nat} (hl : ∀ x, x ∈ l → P x) {M : Nat → Nat → Prop} (h : Pre o l M) : ∃ N, Net o l N ∧ ∀ a b, M a b → N a b := by
  obtain ⟨N, n1, n2, n3⟩ := net_grow C hl (l.flatMap (fun a => l.map (fun b => (a, b)))) M h
  exact ⟨N, ⟨n1.1, n1.2, fun a b ha hb nab hc => n3 a b (List.mem_flatMap.mpr ⟨a, ha, List.mem_map.mpr ⟨b, hb, rfl⟩⟩) ha hb nab hc⟩, n2⟩
