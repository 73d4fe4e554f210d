/-! Sweeps: the class. -/
section
variable {g : zIJ} {n w : Nat} {X Y : Nat → Int} {od : Nat → Nat}
/-- the class at size i with path P -/
def SwS (g : zIJ) (w i P : Nat) : Prop := g.1 226 3 = nI i ∧ g.1 227 i = nI P ∧ g.2 226 4 = lN w
def NxQ (n : Nat) (od : Nat → Nat) (P p q : Nat) : Prop := p < q ∧ q < n ∧ P.testBit (od q) = true ∧ ∀ r, p < r → r < q → P.testBit (od r) = false
theorem nxq_nxp (ho : Ord X Y n od) (hd : Dist X Y n) {P p q : Nat} (hp : p < n) (h : NxQ n od P p q) : NxP X Y n P (od p) (od q) := by
  obtain ⟨h1, h2, h3, h4⟩ := h
  refine ⟨(ho q h2).1, h3, (od_ahd ho hd hp h2).mpr h1, fun d hdn pd ad nd => ?_⟩
  rw [← od_plc ho hd hdn] at pd ad nd ⊢
  have pl := plc_lt (X := X) (Y := Y) hdn
  have l1 := (od_ahd ho hd hp pl).mp ad
  refine (od_ahd ho hd h2 pl).mpr ?_
  rcases Nat.lt_trichotomy q (plc X Y n d) with y | y | y
  · exact y
  · exact absurd (by rw [y]) nd
  · rw [h4 _ l1 y] at pd
    exact absurd pd (by decide)
theorem no_nxq (ho : Ord X Y n od) (hd : Dist X Y n) {P p : Nat} (hp : p < n) (h : ∀ r, p < r → r < n → P.testBit (od r) = false) (b : Nat) : ¬ NxP X Y n P (od p) b := by
  intro nb
  obtain ⟨q, q1, q2, _, q4, _⟩ := nxp_od ho hd hp nb
  rw [h q q1 q2] at q4
  exact absurd q4 (by decide)
theorem c_isOn (h : POK g n X Y) (ho : Ord X Y n od) {i P p : Nat} (hs : SwS g w i P) (hi : i < 14) (hp : p < n) : zev mX9_isOn 0 [.ref 226, .int (nI p), .ref 211] g = some (some (.int (bI (P.testBit (od p)))), g) := by
  have hn := h.1.1
  have op := (ho p hp).1
  rw [uX9_isOn_0, hs.1, zin_n hi (by omega), zin_n (by omega : p < 9) (by omega), nI_clamp (by omega : i < 2 ^ 31), nI_clamp (by omega : p < 2 ^ 31), hs.2.1, pok_od h ho hp, i_and0, i_sshr0 (by omega), nI_bit (by omega)]
  cases P.testBit (od p) <;> rfl
theorem c_nxt (h : POK g n X Y) (ho : Ord X Y n od) {i P : Nat} (hs : SwS g w i P) (hi : i < 14) : ∀ (d p : Nat), p + d = n → (∃ q, p ≤ q ∧ q < n ∧ P.testBit (od q) = true ∧ (∀ r, p ≤ r → r < q → P.testBit (od r) = false) ∧ zev mX9_nextOn 4 [.ref 226, .ref 211, .int (nI p)] g = some (some (.int (nI q)), g)) ∨ ((∀ r, p ≤ r → r < n → P.testBit (od r) = false) ∧ zev mX9_nextOn 4 [.ref 226, .ref 211, .int (nI p)] g = some (some (.int (nI n)), g))
  | 0, p, e => by
    have hn := h.1.1
    refine Or.inr ⟨fun r h1 h2 => by omega, ?_⟩
    rw [uX9_nextOn_4, h.1.2.1, decide_eq_true (nI_le (by omega : n ≤ p) (by omega))]; rfl
  | d + 1, p, e => by
    have hn := h.1.1
    have st : zev mX9_nextOn 4 [.ref 226, .ref 211, .int (nI p)] g = cond (P.testBit (od p)) (some (some (.int (nI p)), g)) (zev mX9_nextOn 4 [.ref 226, .ref 211, .int (nI (p + 1))] g) := by
      rw [uX9_nextOn_4, h.1.2.1, decide_eq_false (nI_ge (a := p) (b := n) (by omega) (by omega)), c_isOn h ho hs hi (by omega), zaI_some, bI_0, nI_1]
      cases P.testBit (od p) <;> rfl
    cases z : P.testBit (od p) with
    | true =>
      rw [z] at st
      exact Or.inl ⟨p, by omega, by omega, z, fun r h1 h2 => by omega, st⟩
    | false =>
      rw [z] at st
      rcases c_nxt h ho hs hi d (p + 1) (by omega) with ⟨q, q1, q2, q3, q4, e1⟩ | ⟨no, e1⟩
      · refine Or.inl ⟨q, by omega, q2, q3, fun r h1 h2 => ?_, st.trans e1⟩
        by_cases y : r = p
        · rw [y]; exact z
        · exact q4 r (by omega) h2
      · refine Or.inr ⟨fun r h1 h2 => ?_, st.trans e1⟩
        by_cases y : r = p
        · rw [y]; exact z
        · exact no r (by omega) h2
theorem c_nextOn (h : POK g n X Y) (ho : Ord X Y n od) {i P p : Nat} (hs : SwS g w i P) (hi : i < 14) (hp : p < n) : (∃ q, NxQ n od P p q ∧ zev mX9_nextOn 0 [.ref 226, .int (nI p), .ref 211] g = some (some (.int (nI q)), g)) ∨ ((∀ r, p < r → r < n → P.testBit (od r) = false) ∧ zev mX9_nextOn 0 [.ref 226, .int (nI p), .ref 211] g = some (some (.int (nI n)), g)) := by
  rw [uX9_nextOn_0, nI_1]
  rcases c_nxt h ho hs hi (n - (p + 1)) (p + 1) (by omega) with ⟨q, q1, q2, q3, q4, e1⟩ | ⟨no, e1⟩
  · exact Or.inl ⟨q, ⟨by omega, q2, q3, fun r h1 h2 => q4 r (by omega) h2⟩, e1⟩
  · exact Or.inr ⟨fun r h1 h2 => no r (by omega) h2, e1⟩
theorem c_nextEnd (h : POK g n X Y) : zev mX9_nextOn 0 [.ref 226, .int (nI n), .ref 211] g = some (some (.int (nI n)), g) := by
  have hn := h.1.1
  rw [uX9_nextOn_0, nI_1, uX9_nextOn_4, h.1.2.1, decide_eq_true (nI_le (by omega : n ≤ n + 1) (by omega))]; rfl
theorem c_isTri (h : POK g n X Y) {i P a b c : Nat} (hs : SwS g w i P) (ha : a < n) (hb : b < n) (hc : c < n) (nab : a ≠ b) (nac : a ≠ c) (nbc : b ≠ c) : zev mX9_isTriangle 0 [.ref 226, .int (nI a), .int (nI b), .int (nI c), .ref 211] g = some (some (.int (bI (cdec (Tri X Y n w a b c)))), g) := by
  have hn := h.1.1
  have k1 := eN_lt (by omega : a < 9) (by omega : b < 9) nab
  have k2 := eN_lt (by omega : a < 9) (by omega : c < 9) nac
  have k3 := eN_lt (by omega : b < 9) (by omega : c < 9) nbc
  rw [uX9_isTriangle_0, hs.2.2, c_edgeOf g (by omega : a < 9) (by omega : b < 9) nab, zaI_some, c_holds g w (by omega : eN a b < 64), zaI_some, bI_0, c_edgeOf g (by omega : b < 9) (by omega : c < 9) nbc, zaI_some, hs.2.2, c_holds g w (by omega : eN b c < 64), zaI_some, bI_0, c_edgeOf g (by omega : a < 9) (by omega : c < 9) nac, zaI_some, hs.2.2, c_holds g w (by omega : eN a c < 64), zaI_some, bI_0, c_isBare h ha hb hc nab nac nbc, zaI_some, bI_0]
  cases z1 : w.testBit (eN a b) with
  | false => rw [cdec_f (q := Tri X Y n w a b c) (fun t => by rw [t.1] at z1; exact absurd z1 (by decide))]; rfl
  | true =>
    cases z3 : w.testBit (eN b c) with
    | false => rw [cdec_f (q := Tri X Y n w a b c) (fun t => by rw [t.2.2.1] at z3; exact absurd z3 (by decide))]; rfl
    | true =>
      cases z2 : w.testBit (eN a c) with
      | false => rw [cdec_f (q := Tri X Y n w a b c) (fun t => by rw [t.2.1] at z2; exact absurd z2 (by decide))]; rfl
      | true =>
        rw [cdec_cg (p := Tri X Y n w a b c) (q := Bare X Y n a b c) ⟨fun t => t.2.2.2, fun t => ⟨z1, z2, z3, t⟩⟩]
        cases cdec (Bare X Y n a b c) <;> rfl
def cAdd (g : zIJ) (i : Nat) (r : Nat × Nat × Nat) : zIJ := zsI (zsI (zsI (zsI g 228 i (nI r.2.1)) 229 i (nI r.2.2)) 227 (i + 1) (nI r.1)) 226 3 (nI (i + 1))
theorem c_add {i P a b c s : Nat} (hs : SwS g w i P) (hi : i < 13) (ha : a < 9) (hb : b < 9) (hc : c < 9) : zev mX9_add 0 [.ref 226, .int (nI a), .int (nI b), .int (nI c), .int (nI s)] g = some (none, cAdd g i (P ^^^ 2 ^ c, 2 ^ a ||| 2 ^ b ||| 2 ^ c, s)) := by
  have e1 : ∀ v, (zsI g 228 i v).1 226 3 = nI i := fun v => hs.1
  have e2 : ∀ v u, (zsI (zsI g 228 i v) 229 i u).1 226 3 = nI i := fun v u => hs.1
  have e4 : ∀ v u, (zsI (zsI g 228 i v) 229 i u).1 227 i = nI P := fun v u => hs.2.1
  have e3 : ∀ (v u : Int32) (x : Int32), (zsI (zsI (zsI g 228 i v) 229 i u) 227 (i + 1) x).1 226 3 = nI i := fun v u x => hs.1
  have ci : (nI i).toNatClampNeg = i := nI_clamp (by omega)
  have ci1 : (nI (i + 1)).toNatClampNeg = i + 1 := nI_clamp (by omega)
  rw [uX9_add_0, hs.1, show decide (13 ≤ nI i) = false from decide_eq_false (nI_ge (a := i) (b := 13) hi (by omega)), i_three ha hb hc]
  simp only [ci, e1, e2, e4, nI_1, ci1, e3]
  rw [zin_n hi (by omega), zin_n (by omega : i < 14) (by omega), zin_n (by omega : i + 1 < 14) (by omega), sh1_i c (by omega), nI_xor]
  rfl
end
