/-! Splits of a polygon: inner edges in numbers. -/
theorem il_jd {P : Nat → Prop} {o : Nat → Nat → Nat → Bool} {m : Nat} (h : GPl P o m) {i j k l : Nat} (J : Jd o m i j) (K : Jd o m k l) : crs o k l i j = true ↔ IL k l i j := by
  have a := J.1
  have b := K.1
  constructor
  · intro q
    refine Classical.byContradiction (fun z => ?_)
    have ne := crs_d q
    unfold IL at z
    by_cases c1 : i < k
    · by_cases c2 : l < j
      · rw [jd_in h J c1 b.1 c2 K.2.1] at q; cases q
      · by_cases c3 : j < k
        · rw [jd_off h J c3 b.1 b.2.1 K.2.1] at q; cases q
        · omega
    · rw [crs_sw] at q
      by_cases c2 : j < l
      · rw [jd_in h K (by omega) a.1 c2 J.2.1] at q; cases q
      · by_cases c3 : l < i
        · rw [jd_off h K c3 a.1 a.2.1 J.2.1] at q; cases q
        · omega
  · intro q
    rcases q with q | q
    · rw [crs_sw]
      exact jd_x h K q.1 q.2.1 a.2.1 (Or.inr q.2.2) J.2.1 J.2.2
    · exact jd_x h J q.1 q.2.1 b.2.1 (Or.inr q.2.2) K.2.1 K.2.2
noncomputable def jdB (o : Nat → Nat → Nat → Bool) (m k l : Nat) : Bool := cdec (Jd o m k l)
theorem jd_dok {o : Nat → Nat → Nat → Bool} {m : Nat} : DOK m (jdB o m) := fun k l h => (cdec_of h).1
theorem jd_apd {X Y : Nat → Int} {m : Nat} (h : PQ X Y m) (G : GPl (fun x => x ≤ m) (oXY (eX X m) (eY Y m)) m) : APD m (jdB (oXY (eX X m) (eY Y m)) m) := by
  intro R hR hI i j hij hj hJ
  have m3 := h.1.1
  have C := G.1.1
  have hR' : ∀ k l, R k l → Jd (oXY (eX X m) (eY Y m)) m k l := fun k l q => cdec_of (hR k l q)
  have pre := pre_sd (pq_plg h)
  have rr : ∀ k l k' l', R k l → R k' l' → crs (oXY (eX X m) (eY Y m)) k l k' l' = false := fun k l k' l' q q' => bf (fun z => hI k l k' l' q q' ((il_jd G (hR' _ _ q') (hR' _ _ q)).mp z))
  have rs : ∀ k l p, R k l → p < m → crs (oXY (eX X m) (eY Y m)) k l p (nQ 0 (m - 1) p) = false := fun k l p q hp => (hR' k l q).2.1 p hp
  have hM : Pre (oXY (eX X m) (eY Y m)) (List.range m) (fun a b => sdP m a b ∨ R a b ∨ R b a) := by
    refine ⟨fun a b q => ?_, fun a b c d q q' => ?_⟩
    · rcases q with q | q | q
      · have k := pre.1 a b q
        exact ⟨k.1, k.2.1, k.2.2.1, Or.inl k.2.2.2⟩
      · have k := (hR' a b q).1
        exact ⟨List.mem_range.mpr (by omega), List.mem_range.mpr (by omega), by omega, Or.inr (Or.inr q)⟩
      · have k := (hR' b a q).1
        exact ⟨List.mem_range.mpr (by omega), List.mem_range.mpr (by omega), by omega, Or.inr (Or.inl q)⟩
    · have up : ∀ k l, R k l → k ≤ m ∧ l ≤ m ∧ k ≠ l := fun k l r => by have k := (hR' k l r).1; omega
      have sw : ∀ k l x y, R k l → sdP m x y → crs (oXY (eX X m) (eY Y m)) k l x y = false := fun k l x y r ⟨p, hp, e⟩ => by
        have u := up k l r
        have nl := nQ_lt (p := p) m3 hp
        exact crs_4 C u.1 u.2.1 (show p ≤ m from by omega) (show nQ 0 (m - 1) p ≤ m from by omega) u.2.2 (vQ_lt m3 hp).2.2.2.2.symm (rs k l p r hp) (Or.inl ⟨rfl, rfl⟩) e
      have flip : ∀ k l x y, R k l → x ≤ m → y ≤ m → crs (oXY (eX X m) (eY Y m)) k l x y = false → crs (oXY (eX X m) (eY Y m)) l k x y = false := fun k l x y r hx hy z => by
        have u := up k l r
        rw [crs_l C u.1 u.2.1 hx hy u.2.2]; exact z
      have sdm : ∀ x y, sdP m x y → x ≤ m ∧ y ≤ m := fun x y s => by
        have k := pre.1 x y s
        have k1 := List.mem_range.mp k.1
        have k2 := List.mem_range.mp k.2.1
        omega
      rcases q with q | q | q <;> rcases q' with q' | q' | q'
      · exact pre.2 a b c d q q'
      · rw [crs_sw]; exact sw c d a b q' q
      · rw [crs_sw]
        exact flip d c a b q' (sdm a b q).1 (sdm a b q).2 (sw d c a b q' q)
      · exact sw a b c d q q'
      · exact rr a b c d q q'
      · rw [crs_sw]
        have u := up a b q
        exact flip d c a b q' u.1 u.2.1 (rr d c a b q' q)
      · exact flip b a c d q (sdm c d q').1 (sdm c d q').2 (sw b a c d q q')
      · have u := up c d q'
        exact flip b a c d q u.1 u.2.1 (rr b a c d q q')
      · have u := up d c q'
        refine flip b a c d q u.2.1 u.1 ?_
        rw [crs_sw]
        have v := up b a q
        exact flip d c b a q' v.1 v.2.1 (rr d c b a q' q)
  obtain ⟨N, n1, n2, n3⟩ := pq_net h hM
  have sd : ∀ p, p < m → N p (nQ 0 (m - 1) p) := fun p hp => n3 _ _ (Or.inl ⟨p, hp, Or.inl ⟨rfl, rfl⟩⟩)
  have hN : N j i := by
    rcases hJ with ⟨e1, e2⟩ | q
    · have s0 := sd (m - 1) (by omega)
      rw [nQ_j] at s0
      rw [e1, e2]
      exact s0
    · exact n3 _ _ (Or.inr (Or.inr q))
  obtain ⟨w, w1, w2, ow, Niw, Nwj, J1, J2⟩ := apex G n1 n2 sd hij hj (hJ.imp id (fun q => hR' i j q)) hN
  refine ⟨w, w1, w2, J1.imp id (fun q => ⟨cdec_t q, fun k l r il => ?_⟩), J2.imp id (fun q => ⟨cdec_t q, fun k l r il => ?_⟩)⟩
  · have z := n1.2.1 _ _ _ _ Niw (n3 _ _ (Or.inr (Or.inl r)))
    rw [(il_jd G (hR' k l r) q).mpr il] at z
    cases z
  · have z := n1.2.1 _ _ _ _ Nwj (n3 _ _ (Or.inr (Or.inl r)))
    rw [(il_jd G (hR' k l r) q).mpr il] at z
    cases z
/-- whether the edge a, b runs inside, as the reference asks -/
noncomputable def riB (X Y : Nat → Int) (c : Nat → Nat) (m a b : Nat) : Bool := !cdec (∃ i, i < m ∧ ((c i = a ∧ c (nxC m i) = b) ∨ (c i = b ∧ c (nxC m i) = a))) && (cdec (∀ i, i < m → crs (oXY X Y) a b (c i) (c (nxC m i)) = false) && xorR (fun i => hz X Y (X a + X b) (Y a + Y b) (c i) (c (nxC m i))) m)
section
variable {X Y : Nat → Int} {n m : Nat} {c : Nat → Nat}
theorem rev_ex (h3 : 3 ≤ m) {Q : Nat → Nat → Prop} (hQ : ∀ x y, Q x y → Q y x) : (∃ i, i < m ∧ Q (c (m - 1 - i)) (c (m - 1 - nxC m i))) ↔ ∃ i, i < m ∧ Q (c i) (c (nxC m i)) := by
  constructor
  · intro ⟨i, hi, q⟩
    have k := vQ_lt (p := m - 1 - i) h3 (by omega)
    rw [nx_Q hi, (rv_n h3 hi).1] at q
    refine ⟨vQ 0 (m - 1) (m - 1 - i), k.1, ?_⟩
    rw [nx_Q k.1, k.2.1]
    exact hQ _ _ q
  · intro ⟨i, hi, q⟩
    have nl := nQ_lt (p := i) h3 hi
    rw [nx_Q hi] at q
    have hj : m - 1 - nQ 0 (m - 1) i < m := by omega
    refine ⟨m - 1 - nQ 0 (m - 1) i, hj, ?_⟩
    rw [nx_Q hj, (rv_n h3 hj).1, show m - 1 - (m - 1 - nQ 0 (m - 1) i) = nQ 0 (m - 1) i from by omega]
    have k := (pg_1Q (m := m) (i := 0) (j := m - 1) (p := i) (by omega) (by omega) (decide_eq_true (by omega))).2.2.2.2.1
    rw [k]
    exact hQ _ _ q
theorem ri_rev (hG : GP X Y n) (hc : Cor n m c) {a b : Nat} (ha : a < n) (hb : b < n) : riB X Y (fun j => c (m - 1 - j)) m a b = riB X Y c m a b := by
  have h3 := hc.1.1
  have C := cc_xy hG
  unfold riB
  have e1 : cdec (∃ i, i < m ∧ ((c (m - 1 - i) = a ∧ c (m - 1 - nxC m i) = b) ∨ (c (m - 1 - i) = b ∧ c (m - 1 - nxC m i) = a))) = cdec (∃ i, i < m ∧ ((c i = a ∧ c (nxC m i) = b) ∨ (c i = b ∧ c (nxC m i) = a))) := cdec_cg (rev_ex (Q := fun x y => (x = a ∧ y = b) ∨ (x = b ∧ y = a)) h3 (fun x y q => by
    rcases q with q | q
    · exact Or.inr ⟨q.2, q.1⟩
    · exact Or.inl ⟨q.2, q.1⟩))
  have e2 : cdec (∀ i, i < m → crs (oXY X Y) a b (c (m - 1 - i)) (c (m - 1 - nxC m i)) = false) = cdec (∀ i, i < m → crs (oXY X Y) a b (c i) (c (nxC m i)) = false) := by
    have k := rev_ex (c := c) (Q := fun x y => x < n ∧ y < n ∧ x ≠ y ∧ crs (oXY X Y) a b x y = true) h3 (fun x y q => ⟨q.2.1, q.1, q.2.2.1.symm, by rw [crs_r C ha hb q.1 q.2.1 q.2.2.1]; exact q.2.2.2⟩)
    refine cdec_cg ⟨fun q i hi => bf (fun z => ?_), fun q i hi => bf (fun z => ?_)⟩
    · obtain ⟨j, hj, y⟩ := k.mpr ⟨i, hi, hc.2.1 i hi, hc.2.1 _ (nx_lt (by omega)), cor_ne hc hi, z⟩
      have := q j hj
      rw [y.2.2.2] at this
      cases this
    · have nl : nxC m i < m := nx_lt (by omega)
      have ni := nx_ne (m := m) (i := i) (by omega) hi
      obtain ⟨j, hj, y⟩ := k.mp ⟨i, hi, hc.2.1 _ (by omega), hc.2.1 _ (by omega), fun e => (by have := hc.2.2 _ _ (by omega) (by omega) e; omega), z⟩
      have := q j hj
      rw [y.2.2.2] at this
      cases this
  have e3 : xorR (fun i => hz X Y (X a + X b) (Y a + Y b) (c (m - 1 - i)) (c (m - 1 - nxC m i))) m = xorR (fun i => hz X Y (X a + X b) (Y a + Y b) (c i) (c (nxC m i))) m := xorR_round (by omega) (fun x y => hz_sy X Y _ _ x y) c
  rw [← e1, ← e2, ← e3]
theorem ri_sym (hG : GP X Y n) (hc : Cor n m c) {a b : Nat} (ha : a < n) (hb : b < n) (nab : a ≠ b) : riB X Y c m b a = riB X Y c m a b := by
  have C := cc_xy hG
  have h3 := hc.1.1
  unfold riB
  have e1 : cdec (∃ i, i < m ∧ ((c i = b ∧ c (nxC m i) = a) ∨ (c i = a ∧ c (nxC m i) = b))) = cdec (∃ i, i < m ∧ ((c i = a ∧ c (nxC m i) = b) ∨ (c i = b ∧ c (nxC m i) = a))) := cdec_cg ⟨fun ⟨i, hi, q⟩ => ⟨i, hi, q.symm⟩, fun ⟨i, hi, q⟩ => ⟨i, hi, q.symm⟩⟩
  have e2 : cdec (∀ i, i < m → crs (oXY X Y) b a (c i) (c (nxC m i)) = false) = cdec (∀ i, i < m → crs (oXY X Y) a b (c i) (c (nxC m i)) = false) := cdec_cg ⟨fun q i hi => by
    rw [← crs_l C ha hb (hc.2.1 i hi) (hc.2.1 _ (nx_lt (by omega))) nab]; exact q i hi, fun q i hi => by
    rw [crs_l C ha hb (hc.2.1 i hi) (hc.2.1 _ (nx_lt (by omega))) nab]; exact q i hi⟩
  rw [e1, e2, Int.add_comm (X b) (X a), Int.add_comm (Y b) (Y a)]
theorem ri_jd (hc : Cor n m c) (h : PQ (fun j => X (c j)) (fun j => Y (c j)) m) (G : GPl (fun x => x ≤ m) (oXY (eX (fun j => X (c j)) m) (eY (fun j => Y (c j)) m)) m) {k l : Nat} (hkl : k < l) (hl : l < m) : riB X Y c m (c k) (c l) = true ↔ Jd (oXY (eX (fun j => X (c j)) m) (eY (fun j => Y (c j)) m)) m k l := by
  have h3 := h.1.1
  have h9 := h.1.2
  have s1 : (¬ ∃ i, i < m ∧ ((c i = c k ∧ c (nxC m i) = c l) ∨ (c i = c l ∧ c (nxC m i) = c k))) ↔ (k + 2 ≤ l ∧ l < m ∧ ¬ (k = 0 ∧ l = m - 1)) := by
    constructor
    · intro q
      refine ⟨Decidable.byContradiction (fun z => q ⟨k, by omega, Or.inl ⟨rfl, ?_⟩⟩), hl, fun z => q ⟨l, hl, Or.inr ⟨rfl, ?_⟩⟩⟩
      · unfold nxC
        rw [if_pos (by omega), show k + 1 = l from by omega]
      · unfold nxC
        rw [if_neg (by omega), z.1]
    · intro q ⟨i, hi, z⟩
      have nl : nxC m i < m := nx_lt (by omega)
      rcases z with z | z
      · have e1 := hc.2.2 _ _ hi (by omega) z.1
        have e2 := hc.2.2 _ _ nl hl z.2
        unfold nxC at e2
        split at e2 <;> omega
      · have e1 := hc.2.2 _ _ hi hl z.1
        have e2 := hc.2.2 _ _ nl (by omega) z.2
        unfold nxC at e2
        split at e2 <;> omega
  have s2 : (∀ i, i < m → crs (oXY X Y) (c k) (c l) (c i) (c (nxC m i)) = false) ↔ Fre (oXY (eX (fun j => X (c j)) m) (eY (fun j => Y (c j)) m)) m k l := by
    have e : ∀ i, i < m → crs (oXY (eX (fun j => X (c j)) m) (eY (fun j => Y (c j)) m)) k l i (nQ 0 (m - 1) i) = crs (oXY X Y) (c k) (c l) (c i) (c (nxC m i)) := fun i hi => by
      rw [crs_e (by omega) hl hi (nQ_lt h3 hi), crs_re (r := c) hc.2.2 (by omega) hl hi (nQ_lt h3 hi), nx_Q hi]
    exact ⟨fun q i hi => by rw [e i hi]; exact q i hi, fun q i hi => by rw [← e i hi]; exact q i hi⟩
  have s3 : (k + 2 ≤ l ∧ l < m ∧ ¬ (k = 0 ∧ l = m - 1)) → Fre (oXY (eX (fun j => X (c j)) m) (eY (fun j => Y (c j)) m)) m k l → xorR (fun i => hz X Y (X (c k) + X (c l)) (Y (c k) + Y (c l)) (c i) (c (nxC m i))) m = linL (oXY (eX (fun j => X (c j)) m) (eY (fun j => Y (c j)) m)) k (vQ 0 (m - 1) k) (nQ 0 (m - 1) k) l := fun q fr => by
    obtain ⟨e1, e2, e3, e4, _⟩ := edge_at (i := k) (j := l) (by omega) (by omega) (by omega)
    rw [show min k l = k from by omega] at e3
    rw [show max k l = l from by omega] at e4
    have mp := md_par (X := fun j => X (c j)) (Y := fun j => Y (c j)) (m := m) (e := eN k l) h.2.1 h.2.2.1 h.2.2.2.1 (by rw [e3]; omega) (by rw [e4]; exact hl) (by rw [e3, e4]; omega) (pg_P (pq_plg h)) (by rw [e3]; exact decide_eq_true (by omega)) (by rw [e4]; exact decide_eq_true (by omega)) (by rw [e3, e4, nP_in (by omega)]; omega) (by
      rw [e3, e4]
      unfold nQ
      split <;> omega) (fun p hp => by
      have kp := of_decide_eq_true hp
      rw [e3, e4, ← crs_e (by omega) hl (by omega) (nQ_lt h3 (by omega))]
      exact fr p (by omega))
    rw [e3, e4, G.2.2 k (by omega), Bool.false_xor] at mp
    rw [← mp]
    refine xorR_eq m (fun i hi => ?_)
    rw [show sQ 0 (m - 1) i = true from decide_eq_true (by omega), Bool.true_and, nx_Q hi]
    rfl
  unfold riB Jd
  rw [Bool.and_eq_true, Bool.and_eq_true, Bool.not_eq_true']
  constructor
  · intro ⟨q1, q2, q3⟩
    have z1 := s1.mp (fun z => by rw [cdec_t z] at q1; cases q1)
    have z2 := s2.mp (cdec_of q2)
    rw [s3 z1 z2] at q3
    exact ⟨z1, z2, q3⟩
  · intro ⟨z1, z2, z3⟩
    exact ⟨cdec_f (s1.mpr z1), cdec_t (s2.mpr z2), by rw [s3 z1 z2]; exact z3⟩
end
