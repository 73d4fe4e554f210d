/-! The class's nets follow plane and board. -/
theorem take_s : ∀ (l : List Nat) (i : Nat) (h : i < l.length), l.take (i + 1) = l.take i ++ [l[i]]
  | [], i, h => by simp at h
  | a :: l, 0, h => rfl
  | a :: l, i + 1, h => by
    have := take_s l i (by simpa using h)
    show a :: l.take (i + 1) = a :: (l.take i ++ [l[i]'(by simpa using h)])
    rw [this]
def fltP (mu ba t : Nat) : Bool := Nat.beq (t &&& mu) mu && Nat.beq (t &&& ba) 0
def flt (mu ba : Nat) (L : List Nat) : List Nat := L.filter (fun t => fltP mu ba t)
noncomputable def wholeL (X Y : Nat → Int) (n : Nat) : List Nat := cond (Nat.blt n 3) [] (netL X Y n 0 0)
def NLd (g : zIJ) (L : List Nat) : Prop := g.1 219 7 = nI L.length ∧ ∀ i (h : i < L.length), g.2 222 i = lN L[i]
theorem and_sub {t mu : Nat} : t &&& mu = mu ↔ ∀ k, mu.testBit k = true → t.testBit k = true := by
  constructor
  · intro h k hk
    rw [← h, Nat.testBit_and, Bool.and_eq_true] at hk
    exact hk.1
  · intro h
    apply Nat.eq_of_testBit_eq
    intro k
    rw [Nat.testBit_and]
    cases q : mu.testBit k with
    | false => simp
    | true => rw [h k q]; rfl
theorem fltP_iff {mu ba t : Nat} : fltP mu ba t = true ↔ (∀ k, mu.testBit k = true → t.testBit k = true) ∧ ∀ k, ba.testBit k = true → t.testBit k = false := by
  unfold fltP
  rw [Bool.and_eq_true]
  constructor
  · intro ⟨h1, h2⟩
    refine ⟨and_sub.mp (Nat.eq_of_beq_eq_true h1), fun k hk => ?_⟩
    cases q : t.testBit k with
    | false => rfl
    | true => exact (and_eq.mp (Nat.eq_of_beq_eq_true h2) k q hk).elim
  · intro ⟨h1, h2⟩
    have e1 : t &&& mu = mu := and_sub.mpr h1
    have e2 : t &&& ba = 0 := and_eq.mpr (fun k k1 k2 => by rw [h2 k k2] at k1; cases k1)
    rw [e1, e2]
    exact ⟨Nat.beq_refl _, rfl⟩
section
variable {X Y : Nat → Int} {n : Nat}
theorem flt_netL (hG : GP X Y n) (hn : n ≤ 9) {mu ba : Nat} (hm : ∀ k, mu.testBit k = true → (canM n).testBit k = true) : flt mu ba (netL X Y n 0 0) = netL X Y n mu ba := by
  refine sorted_ext _ _ ((netL_sorted 0 0).filter _) (netL_sorted mu ba) (fun t => ?_)
  unfold flt
  rw [List.mem_filter, netL_mem hG hn (fun k hk => by simp at hk), netL_mem hG hn hm, fltP_iff]
  constructor
  · intro ⟨⟨q1, q2, _, _⟩, q3, q4⟩
    exact ⟨q1, q2, q3, q4⟩
  · intro ⟨q1, q2, q3, q4⟩
    exact ⟨⟨q1, q2, fun k hk => by simp at hk, fun k hk => by simp at hk⟩, q3, q4⟩
end
/-- the class's lists: right, if they are of the plane's age -/
def NcI (g : zIJ) (n : Nat) (X Y : Nat → Int) : Prop := ∃ mu ba, g.2 219 4 = lN mu ∧ g.2 219 5 = lN ba ∧ mu < 2 ^ 36 ∧ ba < 2 ^ 36 ∧ (g.1 219 3 = g.1 211 10 → (∃ W, NW g (wholeL X Y n) W) ∧ NLd g (flt mu ba (wholeL X Y n)))
def tNt (k _j : Nat) : Bool := Nat.ble 219 k && Nat.ble k 222
def tFl (k j : Nat) : Bool := Nat.beq k 222 || (Nat.beq k 219 && Nat.beq j 7)
section
variable {g : zIJ} {n : Nat} {X Y : Nat → Int}
theorem nw_of {g' : zIJ} {L W : List Nat} (h : NW g L W) (e1 : g'.1 219 2 = g.1 219 2) (e2 : g'.2 220 = g.2 220) (e3 : g'.2 221 = g.2 221) : NW g' L W := by
  obtain ⟨h1, h2, h3, h4, h5, h6, h7, h8⟩ := h
  exact ⟨e1.trans h1, h2, fun i hi => by rw [e2]; exact h3 i hi, h4, h5, h6, fun i hi => by rw [e3]; exact h7 i hi, h8⟩
theorem c_filter {L W : List Nat} {mu ba : Nat} (nw : NW g L W) (h4 : g.2 219 4 = lN mu) (h5 : g.2 219 5 = lN ba) (hmu : mu < 2 ^ 36) (h7 : g.1 219 7 = nI 0) : ∃ g', zev mX3_follow 94 [.ref 219, .int 0] g = some (none, g') ∧ zFr tFl g g' ∧ NLd g' (flt mu ba L) := by
  have l8 := nw.2.1
  refine zloop (F := fun k g' => zev mX3_follow 94 [.ref 219, .int (nI k)] g') (I := fun k g' => zFr tFl g g' ∧ NLd g' (flt mu ba (L.take k))) (Post := fun r => ∃ g', r = some (none, g') ∧ zFr tFl g g' ∧ NLd g' (flt mu ba L)) (lo := 0) (n := L.length) (fun k g1 _ hk I1 => ?_) (fun g1 I1 => ?_) L.length 0 g (Nat.le_refl _) (by omega) ⟨fr_refl _ g, h7, fun i hi => by simp [flt] at hi⟩
  · have e2 : g1.1 219 2 = nI L.length := ((I1.1 219 2 rfl).1).trans nw.1
    have e4 : g1.2 219 4 = lN mu := ((I1.1 219 4 rfl).2).trans h4
    have e5 : g1.2 219 5 = lN ba := ((I1.1 219 5 rfl).2).trans h5
    have e220 : g1.2 220 k = lN L[k] := ((I1.1 220 k rfl).2).trans (nw.2.2.1 k hk)
    have xk := nw.2.2.2.2.1 L[k] (List.getElem_mem hk)
    have len : (flt mu ba (L.take k)).length ≤ k := by
      have := List.length_filter_le (fun t => fltP mu ba t) (L.take k)
      rw [List.length_take] at this
      unfold flt
      omega
    have tk := take_s L k hk
    rw [uX3_follow_94, e2, decide_eq_false (nI_ge hk (by omega)), zin_n (by omega : k < 800) (by omega), nI_clamp (by omega : k < 2 ^ 31), e220, e4, e5, lN_and, lN_and, cmp_eq, cmp_eq, lN_0 (and_lt36 xk), show decide (lN (L[k] &&& mu) = lN mu) = Nat.beq (L[k] &&& mu) mu from by
      rw [beq_d]
      by_cases q : L[k] &&& mu = mu
      · rw [decide_eq_true q, decide_eq_true (by rw [q])]
      · rw [decide_eq_false q, decide_eq_false (fun z => q ((lN_inj (and_lt36 xk) (by omega)).mp z))], ← nbeq_d, I1.2.1]
    simp only [nI_1]
    have keep : fltP mu ba L[k] = false → NLd g1 (flt mu ba (L.take (k + 1))) := by
      intro q
      have : flt mu ba (L.take (k + 1)) = flt mu ba (L.take k) := by
        unfold flt
        rw [tk, List.filter_append, List.filter_cons, q]
        simp
      rw [this]; exact I1.2
    cases q1 : Nat.beq (L[k] &&& mu) mu with
    | false => exact ⟨g1, rfl, I1.1, keep (by unfold fltP; rw [q1]; rfl)⟩
    | true =>
      cases q2 : Nat.beq (L[k] &&& ba) 0 with
      | false => exact ⟨g1, rfl, I1.1, keep (by unfold fltP; rw [q1, q2]; rfl)⟩
      | true =>
        have hq : fltP mu ba L[k] = true := by unfold fltP; rw [q1, q2]; rfl
        have this : flt mu ba (L.take (k + 1)) = flt mu ba (L.take k) ++ [L[k]] := by
          unfold flt
          rw [tk, List.filter_append, List.filter_cons, hq]
          simp
        rw [zin_n (by omega : (flt mu ba (L.take k)).length < 800) (by omega), nI_clamp (by omega : (flt mu ba (L.take k)).length < 2 ^ 31)]
        have r7 : (zsL g1 222 (flt mu ba (L.take k)).length (lN L[k])).1 219 7 = nI (flt mu ba (L.take k)).length := I1.2.1
        refine ⟨zsI (zsL g1 222 (flt mu ba (L.take k)).length (lN L[k])) 219 7 (nI ((flt mu ba (L.take k)).length + 1)), ?_, fr_tr I1.1 (fr_tr (fr_L g1 _ rfl) (fr_I _ _ rfl)), ?_, fun i hi => ?_⟩
        · rw [r7, nI_1]; rfl
        · rw [zI_same, this, List.length_append]; rfl
        · show (zsL g1 222 (flt mu ba (L.take k)).length (lN L[k])).2 222 i = _
          have hl : (flt mu ba (L.take (k + 1))).length = (flt mu ba (L.take k)).length + 1 := by rw [this, List.length_append]; rfl
          have gen : ∀ (A : List Nat) (x : Nat) (B : List Nat) (hB : B = A ++ [x]) (i : Nat) (hi : i < B.length), (∀ (h : i < A.length), B[i] = A[i]) ∧ (i = A.length → B[i] = x) := by
            intro A x B hB i hi
            subst hB
            exact ⟨fun h => List.getElem_append_left h, fun h => by subst h; simp⟩
          have gg := gen _ _ _ this i hi
          by_cases q : i = (flt mu ba (L.take k)).length
          · rw [gg.2 q, q, zL_same]
          · rw [zL_col _ _ q, gg.1 (by omega)]
            exact I1.2.2 i (by omega)
  · refine ⟨g1, ?_, I1.1, ?_⟩
    · rw [uX3_follow_94, ((I1.1 219 2 rfl).1).trans nw.1, decide_eq_true (nI_le (Nat.le_refl _) (by omega))]; rfl
    · have := I1.2
      rw [List.take_length] at this
      exact this
theorem c_findW (hp : POK g n X Y) : ∃ g' W, zev mX3_findWhole 0 [.ref 219, .ref 211] g = some (none, g') ∧ zFr tNw g g' ∧ NW g' (wholeL X Y n) W := by
  have hn := hp.1.1
  unfold wholeL
  by_cases q : n < 3
  · rw [nblt_t q]
    have e7 : (zsI g 219 2 0).1 211 7 = nI n := by rw [zI_row _ _ (by decide : (211 : Nat) ≠ 219)]; exact hp.1.2.1
    rw [uX3_findWhole_0, e7, show decide ((3 : Int32) ≤ nI n) = false from decide_eq_false (nI_ge (a := n) (b := 3) q (by omega))]
    exact ⟨_, [], rfl, fr_I g 0 rfl, zI_same _ _ _ _, by simp, fun i hi => by simp at hi, List.Pairwise.nil, fun x hx => (by cases hx), rfl, fun i hi => by simp at hi, fun x => Iff.rfl⟩
  · rw [nblt_f q]
    exact c_whole hp (by omega)
theorem c_nfollow (hp : POK g n X Y) (hc : NcI g n X Y) {mu ba : Nat} (h6 : g.2 4 6 = lN mu) (h7 : g.2 4 7 = lN ba) (hmu : mu < 2 ^ 36) (hba : ba < 2 ^ 36) : ∃ g', zev mX3_follow 0 [.ref 219, .ref 211, .ref 4] g = some (none, g') ∧ zFr tNt g g' ∧ NcI g' n X Y ∧ NLd g' (flt mu ba (wholeL X Y n)) ∧ g'.1 219 3 = g.1 211 10 ∧ g'.2 219 4 = lN mu ∧ g'.2 219 5 = lN ba := by
  obtain ⟨mu0, ba0, c4, c5, cm, cb, cc⟩ := hc
  -- from 62 on
  have from62 : ∀ (g1 : zIJ) (W : List Nat), zFr tNt g g1 → NW g1 (wholeL X Y n) W → ∃ g', zev mX3_follow 62 [.ref 219, .ref 211, .ref 4] g1 = some (none, g') ∧ zFr tNt g g' ∧ NcI g' n X Y ∧ NLd g' (flt mu ba (wholeL X Y n)) ∧ g'.1 219 3 = g.1 211 10 ∧ g'.2 219 4 = lN mu ∧ g'.2 219 5 = lN ba := by
    intro g1 W f1 nw
    have a1 : g1.1 211 10 = g.1 211 10 := (f1 211 10 rfl).1
    have b6 : g1.2 4 6 = lN mu := ((f1 4 6 rfl).2).trans h6
    have b7 : g1.2 4 7 = lN ba := ((f1 4 7 rfl).2).trans h7
    rw [uX3_follow_62]
    have r6 : (zsI g1 219 3 (g1.1 211 10)).2 4 6 = lN mu := b6
    have r7 : (zsL (zsI g1 219 3 (g1.1 211 10)) 219 4 (lN mu)).2 4 7 = lN ba := by rw [zL_row _ _ (by decide : (4 : Nat) ≠ 219)]; exact b7
    rw [r6, r7]
    have t2 : zFr tNt g1 (zsI (zsL (zsL (zsI g1 219 3 (g1.1 211 10)) 219 4 (lN mu)) 219 5 (lN ba)) 219 7 0) := fr_tr (fr_tr (fr_tr (fr_I g1 _ rfl) (fr_L _ _ rfl)) (fr_L _ _ rfl)) (fr_I _ _ rfl)
    have x4 : (zsI (zsL (zsL (zsI g1 219 3 (g1.1 211 10)) 219 4 (lN mu)) 219 5 (lN ba)) 219 7 0).2 219 4 = lN mu := by rw [zI_2, zL_col _ _ (by decide : (4 : Nat) ≠ 5), zL_same]
    have x5 : (zsI (zsL (zsL (zsI g1 219 3 (g1.1 211 10)) 219 4 (lN mu)) 219 5 (lN ba)) 219 7 0).2 219 5 = lN ba := by rw [zI_2, zL_same]
    have x7 : (zsI (zsL (zsL (zsI g1 219 3 (g1.1 211 10)) 219 4 (lN mu)) 219 5 (lN ba)) 219 7 0).1 219 7 = nI 0 := zI_same _ _ _ _
    have x3 : (zsI (zsL (zsL (zsI g1 219 3 (g1.1 211 10)) 219 4 (lN mu)) 219 5 (lN ba)) 219 7 0).1 219 3 = g.1 211 10 := by rw [zI_col _ _ (by decide : (3 : Nat) ≠ 7), zL_1, zL_1, zI_same]; exact a1
    have nw2 : NW (zsI (zsL (zsL (zsI g1 219 3 (g1.1 211 10)) 219 4 (lN mu)) 219 5 (lN ba)) 219 7 0) (wholeL X Y n) W := by
      refine nw_of nw ?_ ?_ ?_
      · rw [zI_col _ _ (by decide : (2 : Nat) ≠ 7), zL_1, zL_1, zI_col _ _ (by decide : (2 : Nat) ≠ 3)]
      · rw [zI_2, zL_row _ _ (by decide : (220 : Nat) ≠ 219), zL_row _ _ (by decide : (220 : Nat) ≠ 219), zI_2]
      · rw [zI_2, zL_row _ _ (by decide : (221 : Nat) ≠ 219), zL_row _ _ (by decide : (221 : Nat) ≠ 219), zI_2]
    generalize zsI (zsL (zsL (zsI g1 219 3 (g1.1 211 10)) 219 4 (lN mu)) 219 5 (lN ba)) 219 7 0 = g2 at t2 x4 x5 x7 x3 nw2
    obtain ⟨g3, e3, f3, l3⟩ := c_filter nw2 x4 x5 hmu x7
    have t3 : zFr tNt g2 g3 := fr_le f3 (fun a b k => by
      have n1 : a ≠ 222 := fun e => by subst e; cases k
      have n2 : a ≠ 219 := fun e => by subst e; cases k
      unfold tFl
      rw [nbeq_f n1, nbeq_f n2]; rfl)
    have y3 : g3.1 219 3 = g.1 211 10 := ((f3 219 3 rfl).1).trans x3
    have y4 : g3.2 219 4 = lN mu := ((f3 219 4 rfl).2).trans x4
    have y5 : g3.2 219 5 = lN ba := ((f3 219 5 rfl).2).trans x5
    have nw3 : NW g3 (wholeL X Y n) W := nw_of nw2 (f3 219 2 rfl).1 (funext fun j => (f3 220 j rfl).2) (funext fun j => (f3 221 j rfl).2)
    exact ⟨g3, e3, fr_tr f1 (fr_tr t2 t3), ⟨mu, ba, y4, y5, hmu, hba, fun _ => ⟨⟨W, nw3⟩, l3⟩⟩, l3, y3, y4, y5⟩
  have from46 : ∃ g', zev mX3_follow 46 [.ref 219, .ref 211, .ref 4] g = some (none, g') ∧ zFr tNt g g' ∧ NcI g' n X Y ∧ NLd g' (flt mu ba (wholeL X Y n)) ∧ g'.1 219 3 = g.1 211 10 ∧ g'.2 219 4 = lN mu ∧ g'.2 219 5 = lN ba := by
    rw [uX3_follow_46]
    by_cases q : g.1 219 3 = g.1 211 10
    · rw [decide_eq_true q]
      obtain ⟨⟨W, nw⟩, _⟩ := cc q
      exact from62 g W (fr_refl _ g) nw
    · rw [decide_eq_false q]
      obtain ⟨g1, W, e1, f1, nw⟩ := c_findW hp
      show ∃ g', (zaV (zev mX3_findWhole 0 [.ref 219, .ref 211] g) fun g1 => zev mX3_follow 62 [.ref 219, .ref 211, .ref 4] g1) = _ ∧ _
      rw [e1, zaV_some]
      exact from62 g1 W (fr_le f1 (fun a b k => by
        have n1 : a ≠ 220 := fun e => by subst e; cases k
        have n2 : a ≠ 221 := fun e => by subst e; cases k
        have n3 : a ≠ 219 := fun e => by subst e; cases k
        unfold tNw
        rw [nbeq_f n1, nbeq_f n2, nbeq_f n3]; rfl)) nw
  have from28 : zev mX3_follow 28 [.ref 219, .ref 211, .ref 4] g = zev mX3_follow 46 [.ref 219, .ref 211, .ref 4] g := by
    rw [uX3_follow_28]
    cases decide (g.1 219 3 = g.1 211 10) <;> rfl
  rw [uX3_follow_0, c4, c5, h6, h7, cmp_eq, cmp_eq, from28]
  by_cases q1 : lN mu0 = lN mu
  · rw [decide_eq_true q1]
    by_cases q2 : lN ba0 = lN ba
    · rw [decide_eq_true q2]
      by_cases q3 : g.1 219 3 = g.1 211 10
      · rw [decide_eq_true q3]
        have e1 := (lN_inj (by omega) (by omega)).mp q1
        have e2 := (lN_inj (by omega) (by omega)).mp q2
        subst e1
        subst e2
        exact ⟨g, rfl, fr_refl _ g, ⟨mu0, ba0, c4, c5, cm, cb, cc⟩, (cc q3).2, q3, c4, c5⟩
      · rw [decide_eq_false q3]
        exact from46
    · rw [decide_eq_false q2]
      exact from46
  · rw [decide_eq_false q1]
    exact from46
end
