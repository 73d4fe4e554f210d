/-! Bare triangles; empty sets. -/
section
variable {g : zIJ} {n : Nat} {X Y : Nat → Int}
theorem ab_in {a b c p : Nat} (h1 : oXY X Y a b p = true) (h2 : oXY X Y b c p = true) (h3 : oXY X Y c a p = true) : oXY X Y a b c = true := by
  have e := dt_4 (X := X) (Y := Y) a b c p
  have e1 := of_decide_eq_true h1
  have e2 := of_decide_eq_true h2
  have e3 := of_decide_eq_true h3
  have s : dt X Y c a p = - dt X Y a c p := dt_sw a c p
  exact decide_eq_true (by omega)
theorem oXY_sw (h : GP X Y n) {a b c : Nat} (ha : a < n) (hb : b < n) (hc : c < n) (nab : a ≠ b) (nac : a ≠ c) (nbc : b ≠ c) : oXY X Y b a c = !oXY X Y a b c := by
  have d := h a b c ha hb hc nab nac nbc
  have s := dt_sw (X := X) (Y := Y) a b c
  unfold oXY
  by_cases q : 0 < dt X Y a b c
  · rw [decide_eq_true q, decide_eq_false (by omega)]; rfl
  · rw [decide_eq_false q, decide_eq_true (by omega)]; rfl
theorem wit_iff (h : GP X Y n) {a b c p : Nat} (ha : a < n) (hb : b < n) (hc : c < n) (hp : p < n) (nab : a ≠ b) (nac : a ≠ c) (nbc : b ≠ c) : wit (oXY X Y) p a b c = true ↔ (p ≠ a ∧ p ≠ b ∧ p ≠ c ∧ ((oXY X Y a b p = true ∧ oXY X Y b c p = true ∧ oXY X Y c a p = true) ∨ (oXY X Y b a p = true ∧ oXY X Y c b p = true ∧ oXY X Y a c p = true))) := by
  constructor
  · intro w
    obtain ⟨n1, n2, n3⟩ := wit_d w
    have t1 := beq_iff_eq.mp (wit_t1 w)
    have t2 := beq_iff_eq.mp (wit_t2 w)
    have t3 := beq_iff_eq.mp (wit_t3 w)
    refine ⟨n1, n2, n3, ?_⟩
    cases q : oXY X Y a b c with
    | true => rw [q] at t1 t2 t3; exact Or.inl ⟨t1, t2, t3⟩
    | false =>
      rw [q] at t1 t2 t3
      refine Or.inr ⟨?_, ?_, ?_⟩
      · rw [oXY_sw h ha hb hp nab (Ne.symm n1) (Ne.symm n2), t1]; rfl
      · rw [oXY_sw h hb hc hp nbc (Ne.symm n2) (Ne.symm n3), t2]; rfl
      · rw [oXY_sw h hc ha hp (Ne.symm nac) (Ne.symm n3) (Ne.symm n1), t3]; rfl
  · intro ⟨n1, n2, n3, q⟩
    rcases q with ⟨t1, t2, t3⟩ | ⟨t1, t2, t3⟩
    · have := ab_in t1 t2 t3
      exact wit_of n1 n2 n3 (t1.trans this.symm) (t2.trans this.symm) (t3.trans this.symm)
    · have k := ab_in (X := X) (Y := Y) (a := b) (b := a) (c := c) (p := p) t1 t3 t2
      rw [oXY_sw h ha hb hc nab nac nbc] at k
      rw [oXY_sw h ha hb hp nab (Ne.symm n1) (Ne.symm n2)] at t1
      rw [oXY_sw h hb hc hp nbc (Ne.symm n2) (Ne.symm n3)] at t2
      rw [oXY_sw h hc ha hp (Ne.symm nac) (Ne.symm n3) (Ne.symm n1)] at t3
      have f1 : oXY X Y a b p = false := by cases z : oXY X Y a b p; rfl; rw [z] at t1; exact absurd t1 (by decide)
      have f2 : oXY X Y b c p = false := by cases z : oXY X Y b c p; rfl; rw [z] at t2; exact absurd t2 (by decide)
      have f3 : oXY X Y c a p = false := by cases z : oXY X Y c a p; rfl; rw [z] at t3; exact absurd t3 (by decide)
      have f4 : oXY X Y a b c = false := by cases z : oXY X Y a b c; rfl; rw [z] at k; exact absurd k (by decide)
      exact wit_of n1 n2 n3 (f1.trans f4.symm) (f2.trans f4.symm) (f3.trans f4.symm)
def Bare (X Y : Nat → Int) (n a b c : Nat) : Prop := ∀ p, p < n → wit (oXY X Y) p a b c = false
theorem lf3_0 {a b c : Nat} (hn : n ≤ 9) : (lfM X Y n a b &&& lfM X Y n b c &&& lfM X Y n c a = 0) ↔ ∀ p, p < n → p ≠ a → p ≠ b → p ≠ c → ¬ (oXY X Y a b p = true ∧ oXY X Y b c p = true ∧ oXY X Y c a p = true) := by
  constructor
  · intro z p hp n1 n2 n3 ⟨t1, t2, t3⟩
    have b : (lfM X Y n a b &&& lfM X Y n b c &&& lfM X Y n c a).testBit p = false := by rw [z, Nat.zero_testBit]
    rw [Nat.testBit_and, Nat.testBit_and, lfM_at (by omega), lfM_at (by omega), lfM_at (by omega), decide_eq_true hp, decide_eq_false n1, decide_eq_false n2, decide_eq_false n3, t1, t2, t3] at b
    exact absurd b (by decide)
  · intro h
    refine bit_ext (n := 9) (Nat.lt_of_le_of_lt Nat.and_le_right (mkM_lt _ _)) (by decide) (fun p hp => ?_)
    rw [Nat.zero_testBit]
    cases q : (lfM X Y n a b &&& lfM X Y n b c &&& lfM X Y n c a).testBit p with
    | false => rfl
    | true =>
      rw [Nat.testBit_and, Nat.testBit_and, lfM_at hp, lfM_at hp, lfM_at hp] at q
      simp only [Bool.and_eq_true, Bool.not_eq_true', decide_eq_true_eq, decide_eq_false_iff_not] at q
      exact absurd ⟨q.1.1.2.2.2, q.1.2.2.2.2, q.2.2.2.2⟩ (h p q.1.1.1 q.1.1.2.1 q.1.1.2.2.1 q.1.2.2.2.1)
theorem c_isBare (h : POK g n X Y) {a b c : Nat} (ha : a < n) (hb : b < n) (hc : c < n) (nab : a ≠ b) (nac : a ≠ c) (nbc : b ≠ c) : zev mX5_isBare 0 [.ref 211, .int (nI a), .int (nI b), .int (nI c)] g = some (some (.int (bI (cdec (Bare X Y n a b c)))), g) := by
  obtain ⟨hpx, ⟨p1, p2, p3, p4, p5⟩, _, _, hl, _⟩ := h
  have rd : ∀ u v, u < n → v < n → u ≠ v → zin (nI u * 9 + nI v) 81 = true ∧ g.1 218 (nI u * 9 + nI v).toNatClampNeg = nI (lfM X Y n u v) := fun u v hu hv nuv => by
    rw [i_9, nI_clamp (by omega : u * 9 + v < 2 ^ 31), hl u v hu hv nuv]
    exact ⟨zin_n (by omega) (by omega), rfl⟩
  rw [uX5_isBare_0, (rd a b ha hb nab).1, (rd b c hb hc nbc).1, (rd c a hc ha (Ne.symm nac)).1, (rd b a hb ha (Ne.symm nab)).1, (rd c b hc hb (Ne.symm nbc)).1, (rd a c ha hc nac).1, (rd a b ha hb nab).2, (rd b c hb hc nbc).2, (rd c a hc ha (Ne.symm nac)).2, (rd b a hb ha (Ne.symm nab)).2, (rd c b hc hb (Ne.symm nbc)).2, (rd a c ha hc nac).2, nI_and, nI_and, nI_and, nI_and]
  have s1 : lfM X Y n a b &&& lfM X Y n b c &&& lfM X Y n c a < 2 ^ 31 := Nat.lt_of_le_of_lt Nat.and_le_right (Nat.lt_trans (mkM_lt _ _) (by decide))
  have s2 : lfM X Y n b a &&& lfM X Y n c b &&& lfM X Y n a c < 2 ^ 31 := Nat.lt_of_le_of_lt Nat.and_le_right (Nat.lt_trans (mkM_lt _ _) (by decide))
  have z0 : ∀ x, x < 2 ^ 31 → decide (nI x = 0) = decide (x = 0) := fun x hx => by
    rw [show (0 : Int32) = nI 0 from rfl, nI_de hx (by omega)]
  rw [z0 _ s1, z0 _ s2, show lfM X Y n b a &&& lfM X Y n c b &&& lfM X Y n a c = lfM X Y n b a &&& lfM X Y n a c &&& lfM X Y n c b from by rw [Nat.and_assoc, Nat.and_comm (lfM X Y n c b), ← Nat.and_assoc]]
  have w := fun p (hp : p < n) => wit_iff (p := p) p3 ha hb hc hp nab nac nbc
  by_cases q1 : lfM X Y n a b &&& lfM X Y n b c &&& lfM X Y n c a = 0
  · by_cases q2 : lfM X Y n b a &&& lfM X Y n a c &&& lfM X Y n c b = 0
    · rw [decide_eq_true q1, decide_eq_true q2, cdec_t (q := Bare X Y n a b c) (fun p hp => ?_)]
      · rfl
      · cases z : wit (oXY X Y) p a b c with
        | false => rfl
        | true =>
          obtain ⟨n1, n2, n3, o⟩ := (w p hp).mp z
          rcases o with ⟨t1, t2, t3⟩ | ⟨t1, t2, t3⟩
          · exact absurd ⟨t1, t2, t3⟩ ((lf3_0 p1).mp q1 p hp n1 n2 n3)
          · exact absurd ⟨t1, t3, t2⟩ ((lf3_0 p1).mp q2 p hp n2 n1 n3)
    · rw [decide_eq_true q1, decide_eq_false q2, cdec_f (q := Bare X Y n a b c) (fun B => q2 ((lf3_0 p1).mpr (fun p hp n1 n2 n3 t => ?_)))]
      · rfl
      · have := B p hp
        rw [(w p hp).mpr ⟨n2, n1, n3, Or.inr ⟨t.1, t.2.2, t.2.1⟩⟩] at this
        exact absurd this (by decide)
  · rw [decide_eq_false q1, cdec_f (q := Bare X Y n a b c) (fun B => q1 ((lf3_0 p1).mpr (fun p hp n1 n2 n3 t => ?_)))]
    · rfl
    · have := B p hp
      rw [(w p hp).mpr ⟨n1, n2, n3, Or.inl t⟩] at this
      exact absurd this (by decide)
theorem r_bare (h : RB g n X Y) (hN : Near X Y n) {a b c : Nat} (ha : a < n) (hb : b < n) (hc : c < n) : zev mX12_isTriangle 45 [.ref 250, .int (nI a), .int (nI b), .int (nI c), .int 0] g = some (some (.int (bI (cdec (Bare X Y n a b c)))), g) := by
  have hn := h.1
  have z := zall (F := fun i => zev mX12_isTriangle 45 [.ref 250, .int (nI a), .int (nI b), .int (nI c), .int (nI i)] g) (R0 := some (some (.int 0), g)) (R1 := some (some (.int 1), g)) (n := n) (Q := fun p => wit (oXY X Y) p a b c = false) (fun i hi => ?_) ?_ n 0 (by omega)
  · refine Eq.trans z ?_
    rw [cdec_cg (q := Bare X Y n a b c) ⟨fun k p hp => k p (by omega) hp, fun k p _ hp => k p hp⟩]
    cases cdec (Bare X Y n a b c) <;> rfl
  · show zev mX12_isTriangle 45 _ g = _
    rw [uX12_isTriangle_45, r_points h, zaI_some, decide_eq_false (nI_ge (a := i) (b := n) hi (by omega)), r_isWithin h hN hi ha hb hc, zaI_some, bI_0, cdec_bf, nI_1]
    rfl
  · show zev mX12_isTriangle 45 _ g = _
    rw [uX12_isTriangle_45, r_points h, zaI_some, decide_eq_true (nI_le (Nat.le_refl n) (by omega))]; rfl
theorem r_isTriangle (h : RB g n X Y) (hN : Near X Y n) {w a b c : Nat} (ha : a < n) (hb : b < n) (hc : c < n) (nab : a ≠ b) (nac : a ≠ c) (nbc : b ≠ c) : zev mX12_isTriangle 0 [.ref 250, .long (lN w), .int (nI a), .int (nI b), .int (nI c)] g = some (some (.int (bI (cdec (Tri X Y n w a b c)))), g) := by
  have hn := h.1
  have k1 := eN_lt (by omega : a < 9) (by omega : b < 9) nab
  have k2 := eN_lt (by omega : a < 9) (by omega : c < 9) nac
  have k3 := eN_lt (by omega : b < 9) (by omega : c < 9) nbc
  rw [uX12_isTriangle_0, r_edge g (by omega : a < 9) (by omega : b < 9) nab, zaI_some, r_has g w (by omega : eN a b < 64), zaI_some, bI_0, r_edge g (by omega : a < 9) (by omega : c < 9) nac, zaI_some, r_has g w (by omega : eN a c < 64), zaI_some, bI_0, r_edge g (by omega : b < 9) (by omega : c < 9) nbc, zaI_some, r_has g w (by omega : eN b c < 64), zaI_some, bI_0, r_bare h hN ha hb hc]
  cases z1 : w.testBit (eN a b) with
  | false => rw [cdec_f (q := Tri X Y n w a b c) (fun t => by rw [t.1] at z1; exact absurd z1 (by decide))]; rfl
  | true =>
    cases z2 : w.testBit (eN a c) with
    | false => rw [cdec_f (q := Tri X Y n w a b c) (fun t => by rw [t.2.1] at z2; exact absurd z2 (by decide))]; rfl
    | true =>
      cases z3 : w.testBit (eN b c) with
      | false => rw [cdec_f (q := Tri X Y n w a b c) (fun t => by rw [t.2.2.1] at z3; exact absurd z3 (by decide))]; rfl
      | true =>
        rw [cdec_cg (p := Tri X Y n w a b c) (q := Bare X Y n a b c) ⟨fun t => t.2.2.2, fun t => ⟨z1, z2, z3, t⟩⟩]; rfl
/-- no point at all is within three of the set -/
def Holl (X Y : Nat → Int) (n S : Nat) : Prop := ∀ a, a < n → ∀ b, a + 1 ≤ b → b < n → ∀ c, b + 1 ≤ c → c < n → S.testBit a = true ∧ S.testBit b = true ∧ S.testBit c = true → Bare X Y n a b c
theorem three_in {S a b c : Nat} (ha : a < 9) (hb : b < 9) (hc : c < 9) (hS : S < 2 ^ 9) : decide (nI S &&& (((1 : Int32) <<< (nI a &&& 31)) ||| ((1 : Int32) <<< (nI b &&& 31)) ||| ((1 : Int32) <<< (nI c &&& 31))) = (((1 : Int32) <<< (nI a &&& 31)) ||| ((1 : Int32) <<< (nI b &&& 31)) ||| ((1 : Int32) <<< (nI c &&& 31)))) = (S.testBit a && (S.testBit b && S.testBit c)) := by
  have pw : ∀ k, k < 9 → 2 ^ k < 2 ^ 9 := fun k hk => Nat.pow_lt_pow_right (by omega) hk
  have lt : 2 ^ a ||| 2 ^ b ||| 2 ^ c < 2 ^ 9 := Nat.or_lt_two_pow (Nat.or_lt_two_pow (pw a ha) (pw b hb)) (pw c hc)
  rw [sh1_i a (by omega), sh1_i b (by omega), sh1_i c (by omega), nI_or, nI_or, nI_and, nI_de (Nat.lt_of_le_of_lt Nat.and_le_left (Nat.lt_trans hS (by decide))) (Nat.lt_trans lt (by decide))]
  have key : ((S &&& (2 ^ a ||| 2 ^ b ||| 2 ^ c)) = (2 ^ a ||| 2 ^ b ||| 2 ^ c)) ↔ (S.testBit a && (S.testBit b && S.testBit c)) = true := by
    rw [Bool.and_eq_true, Bool.and_eq_true]
    constructor
    · intro e
      have t : ∀ k, (2 ^ a ||| 2 ^ b ||| 2 ^ c).testBit k = true → S.testBit k = true := fun k q => by
        rw [← e, Nat.testBit_and, Bool.and_eq_true] at q
        exact q.1
      refine ⟨t a ?_, t b ?_, t c ?_⟩
      · rw [Nat.testBit_or, Nat.testBit_or, Nat.testBit_two_pow, decide_eq_true rfl]; rfl
      · rw [Nat.testBit_or, Nat.testBit_or, Nat.testBit_two_pow (n := b), decide_eq_true (rfl : b = b), Bool.or_true]; rfl
      · rw [Nat.testBit_or, Nat.testBit_two_pow (n := c), decide_eq_true (rfl : c = c), Bool.or_true]
    · intro ⟨t1, t2, t3⟩
      refine bit_ext (n := 9) (Nat.lt_of_le_of_lt Nat.and_le_left hS) lt (fun k hk => ?_)
      rw [Nat.testBit_and, Nat.testBit_or, Nat.testBit_or, Nat.testBit_two_pow, Nat.testBit_two_pow, Nat.testBit_two_pow]
      by_cases e1 : a = k
      · rw [← e1, t1]; rfl
      · by_cases e2 : b = k
        · rw [← e2, t2]; rfl
        · by_cases e3 : c = k
          · rw [← e3, t3]; rfl
          · rw [decide_eq_false e1, decide_eq_false e2, decide_eq_false e3]
            cases S.testBit k <;> rfl
  cases q : (S.testBit a && (S.testBit b && S.testBit c)) with
  | true => exact decide_eq_true (key.mpr q)
  | false => exact decide_eq_false (fun z => by rw [key.mp z] at q; exact absurd q (by decide))
theorem c_isHollow (h : POK g n X Y) {S : Nat} (hS : S < 2 ^ 9) : zev mX5_isHollow 0 [.ref 211, .int (nI S)] g = some (some (.int (bI (cdec (Holl X Y n S)))), g) := by
  have hn := h.1.1
  have h7 := h.1.2.1
  have l3 : ∀ a b, a < b → b < n → ∀ k i, i + k = n → b + 1 ≤ i → zev mX5_isHollow 27 [.ref 211, .int (nI S), .int (nI a), .int (nI b), .int (nI i)] g = cond (cdec (∀ c, i ≤ c → c < n → (S.testBit a = true ∧ S.testBit b = true ∧ S.testBit c = true → Bare X Y n a b c))) (zev mX5_isHollow 14 [.ref 211, .int (nI S), .int (nI a), .int (nI (b + 1))] g) (some (some (.int 0), g)) := by
    intro a b hab hb
    refine zall2 (F := fun i => zev mX5_isHollow 27 [.ref 211, .int (nI S), .int (nI a), .int (nI b), .int (nI i)] g) (Q := fun c => S.testBit a = true ∧ S.testBit b = true ∧ S.testBit c = true → Bare X Y n a b c) (fun i hl hi => ?_) ?_
    · show zev mX5_isHollow 27 _ g = _
      rw [uX5_isHollow_27, h7, decide_eq_false (nI_ge (a := i) (b := n) hi (by omega)), three_in (by omega) (by omega) (by omega) hS, c_isBare h (by omega : a < n) hb hi (by omega) (by omega) (by omega), zaI_some, bI_0]
      simp only [nI_1]
      cases q : (S.testBit a && (S.testBit b && S.testBit i)) with
      | false =>
        rw [cdec_t (fun z => by rw [z.1, z.2.1, z.2.2] at q; exact absurd q (by decide))]; rfl
      | true =>
        rw [Bool.and_eq_true, Bool.and_eq_true] at q
        rw [cdec_cg (p := S.testBit a = true ∧ S.testBit b = true ∧ S.testBit i = true → Bare X Y n a b i) (q := Bare X Y n a b i) ⟨fun z => z q, fun z _ => z⟩]
        cases cdec (Bare X Y n a b i) <;> rfl
    · show zev mX5_isHollow 27 _ g = _
      rw [uX5_isHollow_27, h7, decide_eq_true (nI_le (Nat.le_refl n) (by omega)), nI_1]; rfl
  have l2 : ∀ a, a < n → ∀ k i, i + k = n → a + 1 ≤ i → zev mX5_isHollow 14 [.ref 211, .int (nI S), .int (nI a), .int (nI i)] g = cond (cdec (∀ b, i ≤ b → b < n → ∀ c, b + 1 ≤ c → c < n → (S.testBit a = true ∧ S.testBit b = true ∧ S.testBit c = true → Bare X Y n a b c))) (zev mX5_isHollow 2 [.ref 211, .int (nI S), .int (nI (a + 1))] g) (some (some (.int 0), g)) := by
    intro a ha
    refine zall2 (F := fun i => zev mX5_isHollow 14 [.ref 211, .int (nI S), .int (nI a), .int (nI i)] g) (Q := fun b => ∀ c, b + 1 ≤ c → c < n → (S.testBit a = true ∧ S.testBit b = true ∧ S.testBit c = true → Bare X Y n a b c)) (fun i hl hi => ?_) ?_
    · show zev mX5_isHollow 14 _ g = _
      rw [uX5_isHollow_14, h7, decide_eq_false (nI_ge (a := i) (b := n) hi (by omega))]
      simp only [nI_1]
      exact l3 a i (by omega) hi (n - (i + 1)) (i + 1) (by omega) (by omega)
    · show zev mX5_isHollow 14 _ g = _
      rw [uX5_isHollow_14, h7, decide_eq_true (nI_le (Nat.le_refl n) (by omega)), nI_1]; rfl
  have l1 := zall (F := fun i => zev mX5_isHollow 2 [.ref 211, .int (nI S), .int (nI i)] g) (R0 := some (some (.int 0), g)) (R1 := some (some (.int 1), g)) (n := n) (Q := fun a => ∀ b, a + 1 ≤ b → b < n → ∀ c, b + 1 ≤ c → c < n → (S.testBit a = true ∧ S.testBit b = true ∧ S.testBit c = true → Bare X Y n a b c)) (fun i hi => ?_) ?_ n 0 (by omega)
  · rw [uX5_isHollow_0]
    refine Eq.trans l1 ?_
    rw [cdec_cg (q := Holl X Y n S) ⟨fun k a ha => k a (by omega) ha, fun k a _ ha => k a ha⟩]
    cases cdec (Holl X Y n S) <;> rfl
  · show zev mX5_isHollow 2 _ g = _
    rw [uX5_isHollow_2, h7, decide_eq_false (nI_ge (a := i) (b := n) hi (by omega))]
    simp only [nI_1]
    exact l2 i hi (n - (i + 1)) (i + 1) (by omega) (by omega)
  · show zev mX5_isHollow 2 _ g = _
    rw [uX5_isHollow_2, h7, decide_eq_true (nI_le (Nat.le_refl n) (by omega))]; rfl
theorem three_r {S a b c : Nat} (ha : a < 9) (hb : b < 9) (hc : c < 9) : decide ((((nI S >>> (nI a &&& 31)) &&& (nI S >>> (nI b &&& 31))) &&& (nI S >>> (nI c &&& 31))) &&& 1 = 0) = !(S.testBit a && (S.testBit b && S.testBit c)) := by
  rw [i_and0]
  congr 1
  show (((nI S >>> (nI a &&& 31)).toBitVec &&& (nI S >>> (nI b &&& 31)).toBitVec) &&& (nI S >>> (nI c &&& 31)).toBitVec).getLsbD 0 = _
  rw [BitVec.getLsbD_and, BitVec.getLsbD_and, i_sshr0 (by omega), i_sshr0 (by omega), i_sshr0 (by omega), nI_bit (by omega), nI_bit (by omega), nI_bit (by omega), Bool.and_assoc]
theorem r_isEmpty (h : RB g n X Y) (hN : Near X Y n) (S : Nat) : zev mX12_isEmpty 0 [.ref 250, .int (nI S)] g = some (some (.int (bI (cdec (Holl X Y n S)))), g) := by
  have hn := h.1
  have l4 : ∀ a b c, a < n → b < n → c < n → zev mX12_isEmpty 59 [.ref 250, .int (nI S), .int (nI a), .int (nI b), .int (nI c), .int (nI 0)] g = cond (cdec (Bare X Y n a b c)) (zev mX12_isEmpty 27 [.ref 250, .int (nI S), .int (nI a), .int (nI b), .int (nI (c + 1))] g) (some (some (.int 0), g)) := by
    intro a b c ha hb hc
    have z := zall (F := fun i => zev mX12_isEmpty 59 [.ref 250, .int (nI S), .int (nI a), .int (nI b), .int (nI c), .int (nI i)] g) (R0 := some (some (.int 0), g)) (R1 := zev mX12_isEmpty 27 [.ref 250, .int (nI S), .int (nI a), .int (nI b), .int (nI (c + 1))] g) (n := n) (Q := fun p => wit (oXY X Y) p a b c = false) (fun i hi => ?_) ?_ n 0 (by omega)
    · refine Eq.trans z ?_
      rw [cdec_cg (q := Bare X Y n a b c) ⟨fun k p hp => k p (by omega) hp, fun k p _ hp => k p hp⟩]
    · show zev mX12_isEmpty 59 _ g = _
      rw [uX12_isEmpty_59, r_points h, zaI_some, decide_eq_false (nI_ge (a := i) (b := n) hi (by omega)), r_isWithin h hN hi ha hb hc, zaI_some, bI_0, cdec_bf]
      simp only [nI_1]
      rfl
    · show zev mX12_isEmpty 59 _ g = _
      rw [uX12_isEmpty_59, r_points h, zaI_some, decide_eq_true (nI_le (Nat.le_refl n) (by omega)), nI_1]; rfl
  have l3 : ∀ a b, a < b → b < n → ∀ k i, i + k = n → b + 1 ≤ i → zev mX12_isEmpty 27 [.ref 250, .int (nI S), .int (nI a), .int (nI b), .int (nI i)] g = cond (cdec (∀ c, i ≤ c → c < n → (S.testBit a = true ∧ S.testBit b = true ∧ S.testBit c = true → Bare X Y n a b c))) (zev mX12_isEmpty 14 [.ref 250, .int (nI S), .int (nI a), .int (nI (b + 1))] g) (some (some (.int 0), g)) := by
    intro a b hab hb
    refine zall2 (F := fun i => zev mX12_isEmpty 27 [.ref 250, .int (nI S), .int (nI a), .int (nI b), .int (nI i)] g) (Q := fun c => S.testBit a = true ∧ S.testBit b = true ∧ S.testBit c = true → Bare X Y n a b c) (fun i hl hi => ?_) ?_
    · show zev mX12_isEmpty 27 _ g = _
      rw [uX12_isEmpty_27, r_points h, zaI_some, decide_eq_false (nI_ge (a := i) (b := n) hi (by omega)), three_r (by omega) (by omega) (by omega), show zev mX12_isEmpty 59 [.ref 250, .int (nI S), .int (nI a), .int (nI b), .int (nI i), .int 0] g = _ from l4 a b i (by omega) hb hi]
      simp only [nI_1]
      cases q : (S.testBit a && (S.testBit b && S.testBit i)) with
      | false =>
        rw [cdec_t (fun z => by rw [z.1, z.2.1, z.2.2] at q; exact absurd q (by decide))]; rfl
      | true =>
        rw [Bool.and_eq_true, Bool.and_eq_true] at q
        rw [cdec_cg (p := S.testBit a = true ∧ S.testBit b = true ∧ S.testBit i = true → Bare X Y n a b i) (q := Bare X Y n a b i) ⟨fun z => z q, fun z _ => z⟩]; rfl
    · show zev mX12_isEmpty 27 _ g = _
      rw [uX12_isEmpty_27, r_points h, zaI_some, decide_eq_true (nI_le (Nat.le_refl n) (by omega)), nI_1]; rfl
  have l2 : ∀ a, a < n → ∀ k i, i + k = n → a + 1 ≤ i → zev mX12_isEmpty 14 [.ref 250, .int (nI S), .int (nI a), .int (nI i)] g = cond (cdec (∀ b, i ≤ b → b < n → ∀ c, b + 1 ≤ c → c < n → (S.testBit a = true ∧ S.testBit b = true ∧ S.testBit c = true → Bare X Y n a b c))) (zev mX12_isEmpty 2 [.ref 250, .int (nI S), .int (nI (a + 1))] g) (some (some (.int 0), g)) := by
    intro a ha
    refine zall2 (F := fun i => zev mX12_isEmpty 14 [.ref 250, .int (nI S), .int (nI a), .int (nI i)] g) (Q := fun b => ∀ c, b + 1 ≤ c → c < n → (S.testBit a = true ∧ S.testBit b = true ∧ S.testBit c = true → Bare X Y n a b c)) (fun i hl hi => ?_) ?_
    · show zev mX12_isEmpty 14 _ g = _
      rw [uX12_isEmpty_14, r_points h, zaI_some, decide_eq_false (nI_ge (a := i) (b := n) hi (by omega))]
      simp only [nI_1]
      exact l3 a i (by omega) hi (n - (i + 1)) (i + 1) (by omega) (by omega)
    · show zev mX12_isEmpty 14 _ g = _
      rw [uX12_isEmpty_14, r_points h, zaI_some, decide_eq_true (nI_le (Nat.le_refl n) (by omega)), nI_1]; rfl
  have l1 := zall (F := fun i => zev mX12_isEmpty 2 [.ref 250, .int (nI S), .int (nI i)] g) (R0 := some (some (.int 0), g)) (R1 := some (some (.int 1), g)) (n := n) (Q := fun a => ∀ b, a + 1 ≤ b → b < n → ∀ c, b + 1 ≤ c → c < n → (S.testBit a = true ∧ S.testBit b = true ∧ S.testBit c = true → Bare X Y n a b c)) (fun i hi => ?_) ?_ n 0 (by omega)
  · rw [uX12_isEmpty_0]
    refine Eq.trans l1 ?_
    rw [cdec_cg (q := Holl X Y n S) ⟨fun k a ha => k a (by omega) ha, fun k a _ ha => k a ha⟩]
    cases cdec (Holl X Y n S) <;> rfl
  · show zev mX12_isEmpty 2 _ g = _
    rw [uX12_isEmpty_2, r_points h, zaI_some, decide_eq_false (nI_ge (a := i) (b := n) hi (by omega))]
    simp only [nI_1]
    exact l2 i hi (n - (i + 1)) (i + 1) (by omega) (by omega)
  · show zev mX12_isEmpty 2 _ g = _
    rw [uX12_isEmpty_2, r_points h, zaI_some, decide_eq_true (nI_le (Nat.le_refl n) (by omega))]; rfl
end
def jb1 (a0 : Int32) : Int32 := a0 - (((a0.toUInt32 >>> ((1 : Int32).toUInt32 &&& Int32.toUInt32 31)).toInt32) &&& 1431655765)
def jb2 (a0 : Int32) : Int32 := (a0 &&& 858993459) + (((a0.toUInt32 >>> ((2 : Int32).toUInt32 &&& Int32.toUInt32 31)).toInt32) &&& 858993459)
def jb3 (a0 : Int32) : Int32 := (a0 + ((a0.toUInt32 >>> ((4 : Int32).toUInt32 &&& Int32.toUInt32 31)).toInt32)) &&& 252645135
def jb4 (a0 : Int32) : Int32 := a0 + ((a0.toUInt32 >>> ((8 : Int32).toUInt32 &&& Int32.toUInt32 31)).toInt32)
def jb5 (a0 : Int32) : Int32 := a0 + ((a0.toUInt32 >>> ((16 : Int32).toUInt32 &&& Int32.toUInt32 31)).toInt32)
theorem j_bc : ∃ f : Int32 → Int32, ∀ (a : Int32) (g : zIJ), zev mJ6_bitCount_0f7a4 0 [.int a] g = some (some (.int (f a)), g) := by
  refine ⟨fun a => jb5 (jb4 (jb3 (jb2 (jb1 a)))) &&& 63, fun a g => ?_⟩
  rw [uJ6_bitCount_0f7a4_0]
  show zev mJ6_bitCount_0f7a4 10 [.int (jb1 a)] g = _
  rw [uJ6_bitCount_0f7a4_10]
  show zev mJ6_bitCount_0f7a4 24 [.int (jb2 (jb1 a))] g = _
  rw [uJ6_bitCount_0f7a4_24]
  show zev mJ6_bitCount_0f7a4 34 [.int (jb3 (jb2 (jb1 a)))] g = _
  rw [uJ6_bitCount_0f7a4_34]
  show zev mJ6_bitCount_0f7a4 41 [.int (jb4 (jb3 (jb2 (jb1 a))))] g = _
  rw [uJ6_bitCount_0f7a4_41]
  show zev mJ6_bitCount_0f7a4 48 [.int (jb5 (jb4 (jb3 (jb2 (jb1 a)))))] g = _
  rw [uJ6_bitCount_0f7a4_48]
theorem p_empty (a : Int32) : PairC (fun g => zev mX11_empty 0 [.ref 3, .int a] g) (fun g => zev mX12_empty 0 [.ref 250, .int a] g) := by
  intro σ g t hw h ht
  have hn := wf_n hw.1
  have hP := hw.1.2.1
  obtain ⟨f, hf⟩ := j_bc
  by_cases q1 : 3 ≤ a.toInt ∧ a.toInt ≤ 6
  · obtain ⟨g1, x1, f1, ip⟩ := c_fol hw h ht
    have pok := ip.2.1
    have h7 := pok.1.2.1
    have pw : 2 ^ nS σ.s ≤ 2 ^ 9 := Nat.pow_le_pow_right (by omega) hn
    obtain ⟨H, eH⟩ : ∃ H : Nat → Int32 → Int32, H = fun i s => cond (decide (f (nI i) = a) && cdec (Holl (XS σ.s) (YS σ.s) (nS σ.s) i)) (s + 1) s := ⟨_, rfl⟩
    refine ⟨.int (itr H (2 ^ nS σ.s) 0 0), σ, hw, ?_, fun g' r => ?_⟩
    · show COk (zev mX11_empty 0 _ g) _ _ _ _
      have z := ziter (F := fun i s => zev mX11_empty 32 [.ref 3, .int a, .int s, .int (nI i)] g1) (R := fun s => some (some (.int s), g1)) (n := 2 ^ nS σ.s) (h := H) (fun i s hi => ?_) (fun s => ?_) (2 ^ nS σ.s) 0 0 (by omega)
      · rw [uX11_empty_0, lt_d a 3, led a 6, show (3 : Int32).toInt = 3 from rfl, show (6 : Int32).toInt = 6 from rfl, decide_eq_false (show ¬ a.toInt < 3 by omega), decide_eq_true q1.2, x1, zaV_some]
        show COk (zev mX11_empty 32 [.ref 3, .int a, .int 0, .int (nI 0)] g1) _ _ _ _
        rw [show zev mX11_empty 32 [.ref 3, .int a, .int 0, .int (nI 0)] g1 = _ from z]
        exact cok_of (cip_ci ip) f1 (by omega)
      · show zev mX11_empty 32 _ g1 = zev mX11_empty 32 _ g1
        rw [uX11_empty_32, h7, sh1_i _ (by omega), decide_eq_false (nI_ge (a := i) (b := 2 ^ nS σ.s) hi (by omega)), hf, zaI_some, c_isHollow pok (by omega : i < 2 ^ 9), zaI_some, bI_0, eH]
        simp only [nI_1]
        cases decide (f (nI i) = a)
        · rfl
        · cases cdec (Holl (XS σ.s) (YS σ.s) (nS σ.s) i) <;> rfl
      · show zev mX11_empty 32 _ g1 = _
        rw [uX11_empty_32, h7, sh1_i _ (by omega), decide_eq_true (nI_le (Nat.le_refl _) (by omega))]; rfl
    · show ROk (zev mX12_empty 0 _ g') _ _ _
      have rb := rb_s r.1.1 hw.1
      have z := ziter (F := fun i s => zev mX12_empty 24 [.ref 250, .int a, .int s, .int (nI i)] g') (R := fun s => some (some (.int s), g')) (n := 2 ^ nS σ.s) (h := H) (fun i s hi => ?_) (fun s => ?_) (2 ^ nS σ.s) 0 0 (by omega)
      · rw [uX12_empty_0, r_inI g' a (lo := 3) (l := 3) (hi := 6) (h := 6) rfl rfl, zaI_some, decide_eq_true q1]
        show ROk (zev mX12_empty 24 [.ref 250, .int a, .int 0, .int (nI 0)] g') _ _ _
        rw [show zev mX12_empty 24 [.ref 250, .int a, .int 0, .int (nI 0)] g' = _ from z]
        exact rok_of r (fr_refl tR g')
      · show zev mX12_empty 24 _ g' = zev mX12_empty 24 _ g'
        rw [uX12_empty_24, r_points rb, zaI_some, sh1_i _ (by omega), decide_eq_false (nI_ge (a := i) (b := 2 ^ nS σ.s) hi (by omega)), hf, zaI_some, r_isEmpty rb hP.2.1, zaI_some, bI_0, Int32.add_zero, eH]
        simp only [nI_1]
        cases decide (f (nI i) = a)
        · rfl
        · cases cdec (Holl (XS σ.s) (YS σ.s) (nS σ.s) i) <;> rfl
      · show zev mX12_empty 24 _ g' = _
        rw [uX12_empty_24, r_points rb, zaI_some, sh1_i _ (by omega), decide_eq_true (nI_le (Nat.le_refl _) (by omega))]; rfl
  · refine ⟨fI 0, fdn σ 0, wfs_fdn hw 0, ?_, fun g' r => ?_⟩
    · show COk (zev mX11_empty 0 _ g) _ _ _ _
      have fd := cok_le (cok_find (k := 0) h (fr_refl _ g) (by omega)) (by omega : t ≤ t + 2)
      rw [uX11_empty_0, lt_d a 3, led a 6, show (3 : Int32).toInt = 3 from rfl, show (6 : Int32).toInt = 6 from rfl]
      by_cases z : a.toInt < 3
      · rw [decide_eq_true z]; exact fd
      · rw [decide_eq_false z, decide_eq_false (by omega)]; exact fd
    · show ROk (zev mX12_empty 0 _ g') _ _ _
      rw [uX12_empty_0, r_inI g' a (lo := 3) (l := 3) (hi := 6) (h := 6) rfl rfl, zaI_some, decide_eq_false q1]
      exact rok_find (k := 0) r hw (fr_refl tR g') (by omega)
