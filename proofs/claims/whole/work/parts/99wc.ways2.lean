/-! Ways: both sides. -/
theorem wy_st (u D : Nat → Nat) (b : Nat → Bool) (c : Nat) : ∀ k, sumR (fun j => u j * (D j + cond (b j) 0 c)) k = sumR (fun j => u j * D j) k + sumR (fun j => cond (b j) 0 (u j)) k * c
  | 0 => by simp [sumR]
  | k + 1 => by
    simp only [sumR]
    rw [wy_st u D b c k, Nat.mul_add, Nat.add_mul]
    cases b k
    · show _ + (u k * D k + u k * c) = _ + u k * D k + (_ + u k * c)
      omega
    · show _ + (u k * D k + u k * 0) = _ + u k * D k + (_ + 0 * c)
      omega
def tWy (k _j : Nat) : Bool := decide (k = 231)
section
variable {g : zIJ} {n : Nat} {X Y : Nat → Int} {od : Nat → Nat}
theorem pok_wy {g' : zIJ} (h : POK g n X Y) (f : zFr tWy g g') : POK g' n X Y := pok_of h (fun k j k1 k2 _ => f k j (decide_eq_false (by omega)))
theorem c_total (h : POK g n X Y) (ho : Ord X Y n od) (h2 : 2 ≤ n) (B : Nat) : ∃ g', zev mX10_total 0 [.ref 230, .ref 211, .long (lN B)] g = some (some (.int (nI (wyD (fun j k => B.testBit (eN (od j) (od k))) n (n - 1) 1 0))), g') ∧ zFr tWy g g' := by
  have hn := h.1.1
  have h7 := h.1.2.1
  obtain ⟨bar, eb⟩ : ∃ bar : Nat → Nat → Bool, bar = fun j k => B.testBit (eN (od j) (od k)) := ⟨_, rfl⟩
  rw [← eb, uX10_total_0, h7, show decide (2 ≤ nI n) = true from decide_eq_true (nI_le (a := 2) (b := n) h2 (by omega))]
  show ∃ g', zev mX10_total 20 [.ref 230, .ref 211, .long (lN B), .int (nI 1)] (zsI g 231 0 1) = _ ∧ _
  refine zloop (F := fun k g1 => zev mX10_total 20 [.ref 230, .ref 211, .long (lN B), .int (nI k)] g1) (I := fun k g1 => zFr tWy g g1 ∧ ∃ u : Nat → Nat, (∀ j, j < k → g1.1 231 j = nI (u j)) ∧ sumR (fun j => u j * wyD bar n (n - k) k j) k = wyD bar n (n - 1) 1 0) (Post := fun r => ∃ g', r = some (some (.int (nI (wyD bar n (n - 1) 1 0))), g') ∧ zFr tWy g g') (lo := 1) (n := n) (fun k g1 hk1 hk I1 => ?_) (fun g1 I1 => ?_) (n - 1) 1 _ (Nat.le_refl _) (by omega) ⟨fr_I g 1 rfl, fun _ => 1, fun j hj => ?_, ?_⟩
  · obtain ⟨f1, u, hu, su⟩ := I1
    have p1 := pok_wy h f1
    have e7 : g1.1 211 7 = nI n := p1.1.2.1
    have inner : ∃ g2, zev mX10_total 40 [.ref 230, .ref 211, .long (lN B), .int (nI k), .int (nI 0)] (zsI g1 231 k 0) = zev mX10_total 20 [.ref 230, .ref 211, .long (lN B), .int (nI (k + 1))] g2 ∧ zFr tWy g g2 ∧ (∀ j, j < k → g2.1 231 j = nI (u j)) ∧ g2.1 231 k = nI (sumR (fun j => cond (bar j k) 0 (u j)) k) := by
      refine zloop (F := fun i g2 => zev mX10_total 40 [.ref 230, .ref 211, .long (lN B), .int (nI k), .int (nI i)] g2) (I := fun i g2 => zFr tWy g g2 ∧ (∀ j, j < k → g2.1 231 j = nI (u j)) ∧ g2.1 231 k = nI (sumR (fun j => cond (bar j k) 0 (u j)) i)) (Post := fun r => ∃ g2, r = zev mX10_total 20 [.ref 230, .ref 211, .long (lN B), .int (nI (k + 1))] g2 ∧ zFr tWy g g2 ∧ (∀ j, j < k → g2.1 231 j = nI (u j)) ∧ g2.1 231 k = nI (sumR (fun j => cond (bar j k) 0 (u j)) k)) (lo := 0) (n := k) (fun i g2 _ hi I2 => ?_) (fun g2 I2 => ?_) k 0 _ (Nat.le_refl _) (by omega) ⟨fr_tr f1 (fr_I g1 0 rfl), fun j hj => ?_, zI_same _ _ _ _⟩
      · obtain ⟨f2, hu2, hk2⟩ := I2
        have p2 := pok_wy h f2
        have oi := (ho i (by omega)).1
        have ok := (ho k hk).1
        have nik : od i ≠ od k := fun z => by have := od_inj ho (by omega) hk z; omega
        have e36 := eN_lt (by omega : od i < 9) (by omega : od k < 9) nik
        have bk : B.testBit (eN (od i) (od k)) = bar i k := by rw [eb]
        have st : zev mX10_total 40 [.ref 230, .ref 211, .long (lN B), .int (nI k), .int (nI i)] g2 = cond (bar i k) (zev mX10_total 40 [.ref 230, .ref 211, .long (lN B), .int (nI k), .int (nI (i + 1))] g2) (zev mX10_total 40 [.ref 230, .ref 211, .long (lN B), .int (nI k), .int (nI (i + 1))] (zsI g2 231 k (nI (sumR (fun j => cond (bar j k) 0 (u j)) i + u i)))) := by
          rw [uX10_total_40, decide_eq_false (nI_ge (a := i) (b := k) hi (by omega)), zin_n (by omega : i < 9) (by omega), zin_n (by omega : k < 9) (by omega), nI_clamp (by omega : i < 2 ^ 31), nI_clamp (by omega : k < 2 ^ 31), pok_od p2 ho (by omega : i < n), pok_od p2 ho hk, c_edgeOf g2 (by omega : od i < 9) (by omega : od k < 9) nik, zaI_some, c_holds g2 B (by omega : eN (od i) (od k) < 64), zaI_some, bI_0, bk, hk2, hu2 i hi, nI_add]
          simp only [nI_1]
          cases bar i k <;> rfl
        cases q : bar i k with
        | true =>
          rw [q] at st
          refine ⟨g2, st, f2, hu2, ?_⟩
          rw [hk2]
          simp only [sumR]
          rw [q]; rfl
        | false =>
          rw [q] at st
          refine ⟨_, st, fr_tr f2 (fr_I g2 _ rfl), fun j hj => ?_, ?_⟩
          · rw [zI_at, if_neg (by omega)]; exact hu2 j hj
          · rw [zI_same]
            simp only [sumR]
            rw [q]; rfl
      · refine ⟨g2, ?_, I2⟩
        rw [uX10_total_40, decide_eq_true (nI_le (Nat.le_refl k) (by omega)), nI_1]; rfl
      · rw [zI_at, if_neg (by omega)]; exact hu j hj
    obtain ⟨g2, x2, f2, hu2, hk2⟩ := inner
    refine ⟨g2, ?_, f2, fun j => if j = k then sumR (fun j => cond (bar j k) 0 (u j)) k else u j, fun j hj => ?_, ?_⟩
    · rw [← x2, uX10_total_20, e7, decide_eq_false (nI_ge (a := k) (b := n) hk (by omega)), zin_n (by omega : k < 9) (by omega), nI_clamp (by omega : k < 2 ^ 31)]; rfl
    · show _ = nI (if j = k then sumR (fun j => cond (bar j k) 0 (u j)) k else u j)
      by_cases e : j = k
      · rw [if_pos e, e, hk2]
      · rw [if_neg e, hu2 j (by omega)]
    · rw [← su]
      obtain ⟨d, ed⟩ : ∃ d, n - k = d + 1 := ⟨n - k - 1, by omega⟩
      rw [show n - (k + 1) = d from by omega, ed]
      show sumR (fun j => (if j = k then sumR (fun j => cond (bar j k) 0 (u j)) k else u j) * wyD bar n d (k + 1) j) k + (if k = k then sumR (fun j => cond (bar j k) 0 (u j)) k else u k) * wyD bar n d (k + 1) k = sumR (fun j => u j * (wyD bar n d (k + 1) j + cond (bar j k) 0 (wyD bar n d (k + 1) k))) k
      rw [wy_st, if_pos rfl, sumR_ex (f' := fun j => u j * wyD bar n d (k + 1) j) k (fun j hj => by rw [if_neg (by omega)])]
  · obtain ⟨f1, u, hu, su⟩ := I1
    have e7 : g1.1 211 7 = nI n := (pok_wy h f1).1.2.1
    have un : sumR (fun j => u j * wyD bar n (n - n) n j) n = u (n - 1) := by
      rw [Nat.sub_self]
      obtain ⟨m, em⟩ : ∃ m, n = m + 1 := ⟨n - 1, by omega⟩
      subst em
      show sumR (fun j => u j * (if j + 1 = m + 1 then 1 else 0)) m + u m * (if m + 1 = m + 1 then 1 else 0) = _
      have z : ∀ k, k ≤ m → sumR (fun j => u j * (if j + 1 = m + 1 then 1 else 0)) k = 0 := by
        intro k
        induction k with
        | zero => intro _; rfl
        | succ k ih =>
          intro hk
          simp only [sumR]
          rw [ih (by omega), if_neg (by omega)]; rfl
      rw [z m (by omega), if_pos rfl, Nat.mul_one, Nat.zero_add]; rfl
    refine ⟨g1, ?_, f1⟩
    rw [uX10_total_20, e7, decide_eq_true (nI_le (Nat.le_refl n) (by omega)), show nI n - 1 = nI (n - 1) from nI_sub (a := n) (b := 1) (by omega), zin_n (by omega : n - 1 < 9) (by omega), nI_clamp (by omega : n - 1 < 2 ^ 31), hu (n - 1) (by omega), ← su, un]; rfl
  · have : j = 0 := by omega
    subst this
    rw [zI_same]; rfl
  · show 0 + 1 * wyD bar n (n - 1) 1 0 = _
    omega
theorem rb_250 (h : RB g n X Y) (j : Nat) (x : Int32) : RB (zsI g 250 j x) n X Y := by
  refine ⟨h.1, ?_, fun i hi => ⟨?_, ?_⟩⟩
  · rw [zI_at, if_neg (by omega)]; exact h.2.1
  · rw [zI_at, if_neg (by omega)]; exact (h.2.2 i hi).1
  · rw [zI_at, if_neg (by omega)]; exact (h.2.2 i hi).2
/-- the way from place p on -/
def WyF (bar : Nat → Nat → Bool) (n : Nat) (od : Nat → Nat) (S p : Nat) : Prop := ∀ p' q, p ≤ p' → p' < q → q < n → S.testBit (od p') = true → S.testBit (od q) = true → (∀ r, p' < r → r < q → S.testBit (od r) = false) → bar p' q = false
theorem nxp_od (ho : Ord X Y n od) (hd : Dist X Y n) {S p b : Nat} (hp : p < n) (h : NxP X Y n S (od p) b) : ∃ q, p < q ∧ q < n ∧ b = od q ∧ S.testBit (od q) = true ∧ ∀ r, p < r → r < q → S.testBit (od r) = false := by
  obtain ⟨hb, sb, ab, mn⟩ := h
  have pl := plc_lt (X := X) (Y := Y) hb
  have eb := od_plc ho hd hb
  refine ⟨plc X Y n b, ?_, pl, eb.symm, by rw [eb]; exact sb, fun r r1 r2 => ?_⟩
  · rw [← eb] at ab
    exact (od_ahd ho hd hp pl).mp ab
  · cases z : S.testBit (od r) with
    | false => rfl
    | true =>
      have hr : r < n := by omega
      have := mn (od r) (ho r hr).1 z ((od_ahd ho hd hp hr).mpr r1) (fun y => by
        have e := (ho r hr).2
        rw [y] at e
        omega)
      rw [← eb] at this
      have := (od_ahd ho hd pl hr).mp this
      omega
theorem r_walk0 (h : RB g n X Y) (hN : Near X Y n) (hd : Dist X Y n) (ho : Ord X Y n od) (h2 : 2 ≤ n) {S : Nat} (bar : Nat → Nat → Bool) (c : Int32) : zev mX12_ways 65 [.ref 250, .int c, .int (nI S), .int 1, .int (nI (od (n - 1)))] g = zev mX12_ways 118 [.ref 250, .int c, .int (nI S), .int (bI (cdec (WyF bar n od S (n - 1))))] g := by
  have hn := h.1
  have lst := od_lst ho hd (by omega : 0 < n)
  have ol := lst.1
  have vac : WyF bar n od S (n - 1) := fun p' q h1 h3 h4 => by omega
  rw [uX12_ways_65, r_last h hN hd lst, zaI_some, nI_de (by omega) (by omega), decide_eq_true (rfl : od (n - 1) = od (n - 1)), cdec_t vac]; rfl
theorem r_walk {s : Nat → Int32} (h : RB g n X Y) (hN : Near X Y n) (hd : Dist X Y n) (ho : Ord X Y n od) (h2 : 2 ≤ n) {S : Nat} (hS : g.1 250 18 = nI S) (hm : ∀ e, e < 36 → g.1 251 (20 + e) = s (20 + e)) (sl : S.testBit (od (n - 1)) = true) (c : Int32) (d : Nat) : ∀ p, p < n → n - 1 ≤ p + d → S.testBit (od p) = true → zev mX12_ways 65 [.ref 250, .int c, .int (nI S), .int 1, .int (nI (od p))] g = zev mX12_ways 118 [.ref 250, .int c, .int (nI S), .int (bI (cdec (WyF (fun j k => (mM s 2).testBit (eN (od j) (od k))) n od S p)))] g := by
  induction d with
  | zero =>
    intro p hp hpd sp
    have pe : p = n - 1 := by omega
    rw [pe]
    exact r_walk0 h hN hd ho h2 _ c
  | succ d ih =>
    intro p hp hpd sp
    by_cases pe : p = n - 1
    · rw [pe]
      exact r_walk0 h hN hd ho h2 _ c
    · have hn := h.1
      have lst := od_lst ho hd (by omega : 0 < n)
      have ol := lst.1
      have op := (ho p hp).1
      have npl : od p ≠ od (n - 1) := fun z => pe (od_inj ho hp (by omega) z)
      rcases r_nextOn h hN hd op hS with ⟨b, nb, e1⟩ | ⟨no, _⟩
      · obtain ⟨q, q1, q2, q3, q4, q5⟩ := nxp_od ho hd hp nb
        subst q3
        have oq := (ho q q2).1
        have npq : od p ≠ od q := fun z => by have := od_inj ho hp q2 z; omega
        have e36 := eN_lt (by omega : od p < 9) (by omega : od q < 9) npq
        have st : zev mX12_ways 65 [.ref 250, .int c, .int (nI S), .int 1, .int (nI (od p))] g = cond ((mM s 2).testBit (eN (od p) (od q))) (zev mX12_ways 65 [.ref 250, .int c, .int (nI S), .int 0, .int (nI (od q))] g) (zev mX12_ways 65 [.ref 250, .int c, .int (nI S), .int 1, .int (nI (od q))] g) := by
          rw [uX12_ways_65, r_last h hN hd lst, zaI_some, nI_de (by omega : od p < 2 ^ 31) (by omega : od (n - 1) < 2 ^ 31), decide_eq_false npl, e1, zaI_some, r_edge g (by omega : od p < 9) (by omega : od q < 9) npq, zaI_some, add20 e36, zin_n (by omega : 20 + eN (od p) (od q) < 72) (by omega), nI_clamp (by omega : 20 + eN (od p) (od q) < 2 ^ 31), hm _ e36, mM_at e36]
          rfl
        rw [st]
        cases z : (mM s 2).testBit (eN (od p) (od q)) with
        | true =>
          have nf : ¬ WyF (fun j k => (mM s 2).testBit (eN (od j) (od k))) n od S p := fun w => by
            have : (mM s 2).testBit (eN (od p) (od q)) = false := w p q (by omega) q1 q2 sp q4 q5
            rw [z] at this
            exact absurd this (by decide)
          rw [cdec_f nf]
          show zev mX12_ways 65 [.ref 250, .int c, .int (nI S), .int 0, .int (nI (od q))] g = _
          rw [uX12_ways_65]; rfl
        | false =>
          show zev mX12_ways 65 [.ref 250, .int c, .int (nI S), .int 1, .int (nI (od q))] g = _
          rw [ih q q2 (by omega) q4]
          have eqv : WyF (fun j k => (mM s 2).testBit (eN (od j) (od k))) n od S q ↔ WyF (fun j k => (mM s 2).testBit (eN (od j) (od k))) n od S p := by
            refine ⟨fun w p' q' h1 h3 h4 s1 s2 s3 => ?_, fun w p' q' h1 => w p' q' (by omega)⟩
            by_cases l : q ≤ p'
            · exact w p' q' l h3 h4 s1 s2 s3
            · have pp : p' = p := by
                refine Classical.byContradiction (fun y => ?_)
                have := q5 p' (by omega) (by omega)
                rw [s1] at this
                exact absurd this (by decide)
              subst pp
              have qq : q' = q := by
                rcases Nat.lt_trichotomy q' q with y | y | y
                · have := q5 q' h3 y
                  rw [s2] at this
                  exact absurd this (by decide)
                · exact y
                · have := s3 q q1 y
                  rw [q4] at this
                  exact absurd this (by decide)
              subst qq
              exact z
          rw [cdec_cg eqv]
      · exact absurd ((od_ahd ho hd hp (by omega)).mpr (by omega)) (no (od (n - 1)) ol sl)
end
theorem r_ways {g : zIJ} {s : Nat → Int32} {od : Nat → Nat} (hb : RBo g 251 s) (hw : Wf s) (ho : Ord (XS s) (YS s) (nS s) od) (h2 : 2 ≤ nS s) : ∃ x, zev mX12_ways 0 [.ref 250] g = some (some (.int (nI (wyD (fun j k => (mM s 2).testBit (eN (od j) (od k))) (nS s) (nS s - 1) 1 0))), zsI g 250 18 x) := by
  have rb := rb_s hb hw
  have hn := wf_n hw
  have hN := hw.2.1.2.1
  have hd := hw.2.1.2.2.2.1
  have fst := od_fst ho hd (by omega : 0 < nS s)
  have lst := od_lst ho hd (by omega : 0 < nS s)
  have of := fst.1
  have ol := lst.1
  have pw : 2 ^ nS s ≤ 2 ^ 9 := Nat.pow_le_pow_right (by omega) hn
  obtain ⟨bar, eb⟩ : ∃ bar : Nat → Nat → Bool, bar = fun j k => (mM s 2).testBit (eN (od j) (od k)) := ⟨_, rfl⟩
  rw [← eb]
  rw [uX12_ways_0, r_points rb, zaI_some, show decide (2 ≤ nI (nS s)) = true from decide_eq_true (nI_le (a := 2) (b := nS s) h2 (by omega))]
  have run : ∃ x, zev mX12_ways 14 [.ref 250, .int (nI 0), .int (nI 0)] (zsI g 250 18 (g.1 250 18)) = some (some (.int (nI (sumR (fun S => cond (cdec (WyG bar (nS s) od S)) 1 0) (2 ^ nS s)))), zsI g 250 18 x) := by
    refine zloop (F := fun k (p : Nat × Int32) => zev mX12_ways 14 [.ref 250, .int (nI p.1), .int (nI k)] (zsI g 250 18 p.2)) (I := fun k p => p.1 = sumR (fun S => cond (cdec (WyG bar (nS s) od S)) 1 0) k) (Post := fun r => ∃ x, r = some (some (.int (nI (sumR (fun S => cond (cdec (WyG bar (nS s) od S)) 1 0) (2 ^ nS s)))), zsI g 250 18 x)) (lo := 0) (n := 2 ^ nS s) (fun k p _ hk I1 => ?_) (fun p I1 => ?_) (2 ^ nS s) 0 (0, g.1 250 18) (Nat.le_refl _) (by omega) rfl
    · have rG := rb_250 rb 18 (nI k)
      have step : zev mX12_ways 14 [.ref 250, .int (nI p.1), .int (nI k)] (zsI g 250 18 p.2) = cond (k.testBit (od 0) && k.testBit (od (nS s - 1))) (zev mX12_ways 65 [.ref 250, .int (nI p.1), .int (nI k), .int 1, .int (nI (od 0))] (zsI g 250 18 (nI k))) (zev mX12_ways 65 [.ref 250, .int (nI p.1), .int (nI k), .int 0, .int (nI (od 0))] (zsI g 250 18 (nI k))) := by
        rw [uX12_ways_14, r_points (rb_250 rb 18 p.2), zaI_some, sh1_i _ (by omega), decide_eq_false (nI_ge (a := k) (b := 2 ^ nS s) hk (by omega)), zI_II, r_first rG hN hd fst, zaI_some, bt1 (by omega : od 0 < 32), r_first rG hN hd fst, zaI_some, r_last rG hN hd lst, zaI_some, bt1 (by omega : od (nS s - 1) < 32), r_first rG hN hd fst, zaI_some]
        cases k.testBit (od 0) <;> cases k.testBit (od (nS s - 1)) <;> rfl
      cases q : (k.testBit (od 0) && k.testBit (od (nS s - 1))) with
      | false =>
        rw [q] at step
        refine ⟨(p.1, nI k), ?_, ?_⟩
        · refine step.trans ?_
          show zev mX12_ways 65 [.ref 250, .int (nI p.1), .int (nI k), .int 0, .int (nI (od 0))] (zsI g 250 18 (nI k)) = zev mX12_ways 14 [.ref 250, .int (nI p.1), .int (nI (k + 1))] (zsI g 250 18 (nI k))
          rw [uX12_ways_65]
          show zev mX12_ways 118 [.ref 250, .int (nI p.1), .int (nI k), .int 0] (zsI g 250 18 (nI k)) = _
          rw [uX12_ways_118, Int32.add_zero, nI_1]; rfl
        · have ng : ¬ WyG bar (nS s) od k := fun z => by rw [z.1, z.2.1] at q; exact absurd q (by decide)
          show p.1 = _
          simp only [sumR]
          rw [cdec_f ng, I1]; rfl
      | true =>
        rw [q] at step
        rw [Bool.and_eq_true] at q
        have wk := r_walk (s := s) rG hN hd ho h2 (S := k) (zI_same _ _ _ _) (fun e he => by rw [zI_at, if_neg (by omega)]; exact hb _ (by omega)) q.2 (nI p.1) (nS s) 0 (by omega) (by omega) q.1
        rw [← eb] at wk
        have eqv : WyF bar (nS s) od k 0 ↔ WyG bar (nS s) od k := ⟨fun w => ⟨q.1, q.2, fun p' q' h1 h3 => w p' q' (by omega) h1 h3⟩, fun w p' q' _ h1 h3 => w.2.2 p' q' h1 h3⟩
        rw [cdec_cg eqv] at wk
        refine ⟨(p.1 + cond (cdec (WyG bar (nS s) od k)) 1 0, nI k), ?_, ?_⟩
        · refine step.trans (wk.trans ?_)
          show _ = zev mX12_ways 14 [.ref 250, .int (nI (p.1 + cond (cdec (WyG bar (nS s) od k)) 1 0)), .int (nI (k + 1))] (zsI g 250 18 (nI k))
          rw [uX12_ways_118, bI_0, Int32.add_zero]
          simp only [nI_1]
          cases cdec (WyG bar (nS s) od k) <;> rfl
        · show p.1 + cond (cdec (WyG bar (nS s) od k)) 1 0 = _
          simp only [sumR]
          rw [I1]
    · refine ⟨p.2, ?_⟩
      show zev mX12_ways 14 [.ref 250, .int (nI p.1), .int (nI (2 ^ nS s))] (zsI g 250 18 p.2) = _
      rw [uX12_ways_14, r_points (rb_250 rb 18 p.2), zaI_some, sh1_i _ (by omega), decide_eq_true (nI_le (Nat.le_refl _) (by omega)), I1]; rfl
  rw [zI_id, wy_all ho h2] at run
  exact run
theorem p_ways : PairC (fun g => zev mX11_ways 0 [.ref 3] g) (fun g => zev mX12_ways 0 [.ref 250] g) := by
  intro σ g t hw h ht
  have hn := wf_n hw.1
  obtain ⟨g1, x1, f1, ip⟩ := c_fol hw h ht
  have d7 : g1.2 4 7 = lN (mM σ.s 2) := ip.1.1.2.2.2.2.2
  by_cases q : 2 ≤ nS σ.s
  · obtain ⟨od, ho⟩ := ord_ex hw.1.2.1.2.2.2.1
    obtain ⟨g2, x2, f2⟩ := c_total ip.2.1 ho q (mM σ.s 2)
    have fw : zFr tW g1 g2 := fr_ud f2 (fun a b z => by have := of_decide_eq_true z; omega)
    refine ⟨.int (nI (wyD (fun j k => (mM σ.s 2).testBit (eN (od j) (od k))) (nS σ.s) (nS σ.s - 1) 1 0)), σ, hw, ?_, fun g' r => ?_⟩
    · show COk (zev mX11_ways 0 _ g) _ _ _ _
      rw [uX11_ways_0, x1, zaV_some, d7, x2, zaI_some]
      exact cok_of (cip_ci (cip_w ip fw)) (fr_tr f1 (fr_wc fw)) (by omega)
    · show ROk (zev mX12_ways 0 _ g') _ _ _
      obtain ⟨x, e⟩ := r_ways r.1.1 hw.1 ho q
      rw [e]
      exact rok_of (ri_fr r hw (fr_I g' x rfl) (zI_col _ _ (by decide)) (zI_col _ _ (by decide)) rfl) (fr_I g' x rfl)
  · refine ⟨.int 0, σ, hw, ?_, fun g' r => ?_⟩
    · show COk (zev mX11_ways 0 _ g) _ _ _ _
      rw [uX11_ways_0, x1, zaV_some, uX10_total_0, ip.2.1.1.2.1, show decide (2 ≤ nI (nS σ.s)) = false from decide_eq_false (nI_ge (a := nS σ.s) (b := 2) (by omega) (by omega))]
      exact cok_of (cip_ci ip) f1 (by omega)
    · show ROk (zev mX12_ways 0 _ g') _ _ _
      rw [uX12_ways_0, r_points (rb_s r.1.1 hw.1), zaI_some, show decide (2 ≤ nI (nS σ.s)) = false from decide_eq_false (nI_ge (a := nS σ.s) (b := 2) (by omega) (by omega))]
      exact rok_of r (fr_refl tR g')
