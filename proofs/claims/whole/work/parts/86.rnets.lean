/-! The reference reads the crossings and lists the nets. -/
theorem zloop {σ β : Type} {F : Nat → σ → β} {I : Nat → σ → Prop} {Post : β → Prop} {lo n : Nat} (hs : ∀ i s, lo ≤ i → i < n → I i s → ∃ s', F i s = F (i + 1) s' ∧ I (i + 1) s') (he : ∀ s, I n s → Post (F n s)) : ∀ (k i : Nat) (s : σ), lo ≤ i → i + k = n → I i s → Post (F i s)
  | 0, i, s, _, h, hi => by
    have : i = n := by omega
    subst this
    exact he s hi
  | k + 1, i, s, hlo, h, hi => by
    obtain ⟨s', e, hi'⟩ := hs i s hlo (by omega) hi
    rw [e]
    exact zloop hs he k (i + 1) s' (by omega) (by omega) hi'
theorem zit {σ β : Type} {F : Nat → σ → β} {R : σ → β} {lo n : Nat} {h : Nat → σ → σ} (hs : ∀ i s, lo ≤ i → i < n → F i s = F (i + 1) (h i s)) (he : ∀ s, F n s = R s) : ∀ (k i : Nat) (s : σ), lo ≤ i → i + k = n → F i s = R (itr h k i s)
  | 0, i, s, _, e => by
    have : i = n := by omega
    subst this
    exact he s
  | k + 1, i, s, hlo, e => by
    rw [hs i s hlo (by omega), zit hs he k (i + 1) _ (by omega) (by omega)]
    rfl
theorem zals {β : Type} {F : Nat → β} {R0 R1 : β} {lo n : Nat} {Q : Nat → Prop} (hs : ∀ i, lo ≤ i → i < n → F i = cond (cdec (Q i)) (F (i + 1)) R0) (he : F n = R1) : ∀ (k i : Nat), lo ≤ i → i + k = n → F i = cond (cdec (∀ j, i ≤ j → j < n → Q j)) R1 R0
  | 0, i, _, h => by
    have : i = n := by omega
    subst this
    rw [he, cdec_t (fun j h1 h2 => by omega)]
    rfl
  | k + 1, i, hlo, h => by
    rw [hs i hlo (by omega)]
    by_cases q : Q i
    · rw [cdec_t q]
      show F (i + 1) = _
      rw [zals hs he k (i + 1) (by omega) (by omega)]
      by_cases q2 : ∀ j, i + 1 ≤ j → j < n → Q j
      · rw [cdec_t q2, cdec_t (fun j h1 h2 => by
          by_cases e : j = i
          · subst e; exact q
          · exact q2 j (by omega) h2)]
      · rw [cdec_f q2, cdec_f (fun q3 => q2 (fun j h1 h2 => q3 j (by omega) h2))]
    · rw [cdec_f q, cdec_f (fun q3 => q (q3 i (Nat.le_refl i) (by omega)))]
      rfl
theorem itr_bit {σ : Type} {h : Nat → σ → σ} {p : σ → Nat} {q : Nat → Nat → Bool} (hq : ∀ i s f, (p (h i s)).testBit f = ((p s).testBit f || q i f)) : ∀ (k i : Nat) (s : σ) (f : Nat), (p (itr h k i s)).testBit f = ((p s).testBit f || cdec (∃ j, i ≤ j ∧ j < i + k ∧ q j f = true))
  | 0, i, s, f => by
    rw [cdec_f (fun ⟨j, h1, h2, _⟩ => by omega), Bool.or_false]; rfl
  | k + 1, i, s, f => by
    show (p (itr h k (i + 1) (h i s))).testBit f = _
    rw [itr_bit hq k (i + 1), hq]
    cases q1 : q i f with
    | true =>
      rw [cdec_t (q := ∃ j, i ≤ j ∧ j < i + (k + 1) ∧ q j f = true) ⟨i, Nat.le_refl _, by omega, q1⟩]
      simp
    | false =>
      rw [Bool.or_false]
      congr 1
      by_cases e : ∃ j, i + 1 ≤ j ∧ j < i + 1 + k ∧ q j f = true
      · rw [cdec_t e, cdec_t (q := ∃ j, i ≤ j ∧ j < i + (k + 1) ∧ q j f = true) (by obtain ⟨j, a, b, c⟩ := e; exact ⟨j, by omega, by omega, c⟩)]
      · rw [cdec_f e, cdec_f (q := ∃ j, i ≤ j ∧ j < i + (k + 1) ∧ q j f = true) (fun ⟨j, a, b, c⟩ => e ⟨j, by
          have : j ≠ i := fun e2 => by rw [e2, q1] at c; cases c
          omega, by omega, c⟩)]
theorem rb_of {g g' : zIJ} {n : Nat} {X Y : Nat → Int} (h : RB g n X Y) (e : g'.1 = g.1) : RB g' n X Y := by
  unfold RB
  rw [e]
  exact h
theorem or0_l (x : Nat) : lN x ||| 0 = lN x := by show lN x ||| lN 0 = _; rw [lN_or, or_zero]
section
variable {g : zIJ} {n : Nat} {X Y : Nat → Int}
theorem nle_d {i : Nat} (hn : n ≤ 9) (hi : i < n) : decide (nI n ≤ nI i) = false := decide_eq_false (nI_ge hi (by omega))
theorem le_d (hn : n ≤ 9) : decide (nI n ≤ nI n) = true := decide_eq_true (nI_le (Nat.le_refl n) (by omega))
/-- one row of crossings -/
theorem r_read1 (h : RB g n X Y) (hN : Near X Y n) {a b c : Nat} (ha : a < n) (hb : b < n) (hc : c < n) (m : Nat) : zev mX12_readsCrossings 42 [.ref 250, .int (nI a), .int (nI b), .long (lN m), .int (nI c), .int (nI (c + 1))] g = zev mX12_readsCrossings 27 [.ref 250, .int (nI a), .int (nI b), .long (lN (itr (fun d m => m ||| cond (crs (oXY X Y) a b c d) (2 ^ eN c d) 0) (n - (c + 1)) (c + 1) m)), .int (nI (c + 1))] g := by
  have hn := h.1
  refine zit (F := fun d m => zev mX12_readsCrossings 42 [.ref 250, .int (nI a), .int (nI b), .long (lN m), .int (nI c), .int (nI d)] g) (n := n) (lo := c + 1) (R := fun m => zev mX12_readsCrossings 27 [.ref 250, .int (nI a), .int (nI b), .long (lN m), .int (nI (c + 1))] g) (h := fun d m => m ||| cond (crs (oXY X Y) a b c d) (2 ^ eN c d) 0) (fun d m h1 h2 => ?_) (fun m => ?_) (n - (c + 1)) (c + 1) m (Nat.le_refl _) (by omega)
  · rw [uX12_readsCrossings_42, r_points h, zaI_some, nle_d hn h2, r_doCross h hN ha hb hc h2, zaI_some, bI_0, r_edge g (by omega) (by omega) (by omega), zaI_some, bit_l (by have := eN_lt (i := c) (j := d) (by omega) (by omega) (by omega); omega)]
    simp only [nI_1]
    cases crs (oXY X Y) a b c d with
    | false =>
      show zev mX12_readsCrossings 42 [.ref 250, .int (nI a), .int (nI b), .long (lN m ||| 0), .int (nI c), .int (nI (d + 1))] g = zev mX12_readsCrossings 42 [.ref 250, .int (nI a), .int (nI b), .long (lN (m ||| 0)), .int (nI c), .int (nI (d + 1))] g
      rw [or0_l, or_zero]
    | true =>
      show zev mX12_readsCrossings 42 [.ref 250, .int (nI a), .int (nI b), .long (lN m ||| lN (2 ^ eN c d)), .int (nI c), .int (nI (d + 1))] g = _
      rw [lN_or]
      rfl
  · rw [uX12_readsCrossings_42, r_points h, zaI_some, le_d hn]
    simp only [nI_1]
    rfl
theorem r_read2 (h : RB g n X Y) (hN : Near X Y n) (hG : GP X Y n) {a b : Nat} (ha : a < n) (hb : b < n) (nab : a ≠ b) : zev mX12_readsCrossings 27 [.ref 250, .int (nI a), .int (nI b), .long 0, .int 0] g = zev mX12_readsCrossings 14 [.ref 250, .int (nI a), .int (nI (b + 1))] (zsL g 296 (eN a b) (lN (crM X Y n (eN a b)))) := by
  have hn := h.1
  let H : Nat → Nat → Nat := fun c m => itr (fun d m => m ||| cond (crs (oXY X Y) a b c d) (2 ^ eN c d) 0) (n - (c + 1)) (c + 1) m
  have e1 := zit (F := fun c m => zev mX12_readsCrossings 27 [.ref 250, .int (nI a), .int (nI b), .long (lN m), .int (nI c)] g) (n := n) (lo := 0) (R := fun m => zev mX12_readsCrossings 14 [.ref 250, .int (nI a), .int (nI (b + 1))] (zsL g 296 (eN a b) (lN m))) (h := H) (fun c m _ h2 => by
      rw [uX12_readsCrossings_27, r_points h, zaI_some, nle_d hn h2]
      simp only [nI_1]
      exact r_read1 h hN ha hb h2 m) (fun m => by
      have := eN_lt (i := a) (j := b) (by omega) (by omega) nab
      rw [uX12_readsCrossings_27, r_points h, zaI_some, le_d hn, r_edge g (by omega) (by omega) nab, zaI_some, zin_n (by omega) (by omega), nI_clamp (by omega)]
      simp only [nI_1]
      rfl) n 0 0 (Nat.le_refl _) (by omega)
  refine Eq.trans e1 ?_
  have e2 : itr H n 0 0 = crM X Y n (eN a b) := by
    have key : ∀ f, (itr H n 0 0).testBit f = ((0 : Nat).testBit f || cdec (∃ c, 0 ≤ c ∧ c < 0 + n ∧ cdec (∃ d, c + 1 ≤ d ∧ d < n ∧ crs (oXY X Y) a b c d = true ∧ f = eN c d) = true)) := by
      refine itr_bit (p := fun m => m) (q := fun c f => cdec (∃ d, c + 1 ≤ d ∧ d < n ∧ crs (oXY X Y) a b c d = true ∧ f = eN c d)) (fun c m f => ?_) n 0 0
      show (itr (fun d m => m ||| cond (crs (oXY X Y) a b c d) (2 ^ eN c d) 0) (n - (c + 1)) (c + 1) m).testBit f = _
      rw [itr_bit (p := fun m => m) (q := fun d f => crs (oXY X Y) a b c d && decide (f = eN c d)) (fun d m f => by
        show (m ||| cond (crs (oXY X Y) a b c d) (2 ^ eN c d) 0).testBit f = _
        cases crs (oXY X Y) a b c d with
        | false => rw [Nat.testBit_or]; simp
        | true => rw [show (m ||| cond true (2 ^ eN c d) 0) = m ||| 2 ^ eN c d from rfl, set_or]; simp)]
      congr 1
      by_cases q : ∃ d, c + 1 ≤ d ∧ d < n ∧ crs (oXY X Y) a b c d = true ∧ f = eN c d
      · rw [cdec_t q]
        obtain ⟨d, q1, q2, q3, q4⟩ := q
        exact cdec_t ⟨d, q1, by omega, by rw [q3, decide_eq_true q4]; rfl⟩
      · rw [cdec_f q]
        refine cdec_f (fun ⟨d, q1, q2, q3⟩ => q ?_)
        rw [Bool.and_eq_true] at q3
        exact ⟨d, q1, by omega, q3.1, of_decide_eq_true q3.2⟩
    have key2 : ∀ f, (itr H n 0 0).testBit f = true ↔ ∃ c d, c < d ∧ d < n ∧ crs (oXY X Y) a b c d = true ∧ f = eN c d := by
      intro f
      rw [key f]
      constructor
      · intro q
        have q : cdec (∃ c, 0 ≤ c ∧ c < 0 + n ∧ cdec (∃ d, c + 1 ≤ d ∧ d < n ∧ crs (oXY X Y) a b c d = true ∧ f = eN c d) = true) = true := by simpa using q
        obtain ⟨c, _, _, q⟩ := cdec_of q
        obtain ⟨d, q1, q2, q3, q4⟩ := cdec_of q
        exact ⟨c, d, by omega, q2, q3, q4⟩
      · intro ⟨c, d, q1, q2, q3, q4⟩
        rw [cdec_t (q := ∃ c, 0 ≤ c ∧ c < 0 + n ∧ cdec (∃ d, c + 1 ≤ d ∧ d < n ∧ crs (oXY X Y) a b c d = true ∧ f = eN c d) = true) ⟨c, by omega, by omega, cdec_t ⟨d, by omega, q2, q3, q4⟩⟩]
        simp
    have lt : itr H n 0 0 < 2 ^ 36 := bit_lt (fun i hi => by
      cases q : (itr H n 0 0).testBit i with
      | false => rfl
      | true =>
        obtain ⟨c, d, q1, q2, q3, q4⟩ := (key2 i).mp q
        have := eN_lt (i := c) (j := d) (by omega) (by omega) (by omega)
        omega)
    refine bit_ext lt (crM_lt _) (fun f hf => ?_)
    obtain ⟨l1, l2, l3, _, _⟩ := edge_of hf
    rw [Bool.eq_iff_iff, key2 f]
    constructor
    · intro ⟨c, d, q1, q2, q3, q4⟩
      rw [q4, cr_uv hG hn ha hb (by omega) q2 nab (by omega)]
      exact q3
    · intro q
      have fn : eHi f < n := by
        rw [crM_at hf, Bool.and_eq_true, Bool.and_eq_true] at q
        exact of_decide_eq_true q.2.1
      refine ⟨eLo f, eHi f, l1, fn, ?_, l3.symm⟩
      rw [← cr_uv hG hn ha hb (by omega) fn nab (by omega), l3]
      exact q
  show zev mX12_readsCrossings 14 [.ref 250, .int (nI a), .int (nI (b + 1))] (zsL g 296 (eN a b) (lN (itr H n 0 0))) = _
  rw [e2]
/-- what is read of the crossings -/
def RdC (g g' : zIJ) (X Y : Nat → Int) (n a b : Nat) : Prop := g'.1 = g.1 ∧ (∀ k, k ≠ 296 → g'.2 k = g.2 k) ∧ ∀ u v, u < v → v < n → (u < a ∨ (u = a ∧ v < b)) → g'.2 296 (eN u v) = lN (crM X Y n (eN u v))
theorem r_reads (h : RB g n X Y) (hN : Near X Y n) (hG : GP X Y n) : ∃ g', zev mX12_readsCrossings 0 [.ref 250] g = some (none, g') ∧ g'.1 = g.1 ∧ (∀ k, k ≠ 296 → g'.2 k = g.2 k) ∧ ∀ e, e < 36 → (canM n).testBit e = true → g'.2 296 e = lN (crM X Y n e) := by
  have hn := h.1
  rw [uX12_readsCrossings_0]
  refine zloop (F := fun a g' => zev mX12_readsCrossings 2 [.ref 250, .int (nI a)] g') (I := fun a g' => RdC g g' X Y n a 0) (Post := fun r => ∃ g', r = some (none, g') ∧ g'.1 = g.1 ∧ (∀ k, k ≠ 296 → g'.2 k = g.2 k) ∧ ∀ e, e < 36 → (canM n).testBit e = true → g'.2 296 e = lN (crM X Y n e)) (lo := 0) (n := n) (fun a g1 _ ha I1 => ?_) (fun g1 I1 => ?_) n 0 g (Nat.le_refl _) (by omega) ⟨rfl, fun k _ => rfl, fun u v _ _ q => by omega⟩
  · have h1 := rb_of h I1.1
    rw [uX12_readsCrossings_2, r_points h1, zaI_some, nle_d hn ha]
    simp only [nI_1]
    refine zloop (F := fun b g' => zev mX12_readsCrossings 14 [.ref 250, .int (nI a), .int (nI b)] g') (I := fun b g' => RdC g g' X Y n a b) (Post := fun r => ∃ s', r = zev mX12_readsCrossings 2 [.ref 250, .int (nI (a + 1))] s' ∧ RdC g s' X Y n (a + 1) 0) (lo := a + 1) (n := n) (fun b g2 hb1 hb2 I2 => ?_) (fun g2 I2 => ?_) (n - (a + 1)) (a + 1) g1 (Nat.le_refl _) (by omega) ⟨I1.1, I1.2.1, fun u v q1 q2 q3 => I1.2.2 u v q1 q2 (by omega)⟩
    · have h2 := rb_of h I2.1
      refine ⟨zsL g2 296 (eN a b) (lN (crM X Y n (eN a b))), ?_, I2.1, fun k hk => ?_, fun u v q1 q2 q3 => ?_⟩
      · rw [uX12_readsCrossings_14, r_points h2, zaI_some, nle_d hn hb2]
        exact r_read2 h2 hN hG ha hb2 (by omega)
      · rw [zL_row _ _ hk]; exact I2.2.1 k hk
      · by_cases e : u = a ∧ v = b
        · rw [e.1, e.2, zL_same]
        · rw [zL_col _ _ (fun q => by
            rcases eN_inj (by omega) (by omega) (by omega) (by omega) (by omega) (by omega) q with q | q <;> omega)]
          exact I2.2.2 u v q1 q2 (by omega)
    · have h2 := rb_of h I2.1
      refine ⟨g2, ?_, I2.1, I2.2.1, fun u v q1 q2 q3 => I2.2.2 u v q1 q2 (by omega)⟩
      rw [uX12_readsCrossings_14, r_points h2, zaI_some, le_d hn]
      simp only [nI_1]
      rfl
  · have h1 := rb_of h I1.1
    refine ⟨g1, ?_, I1.1, I1.2.1, fun e he hc => ?_⟩
    · rw [uX12_readsCrossings_2, r_points h1, zaI_some, le_d hn]
      rfl
    · obtain ⟨l1, l2, l3, _, _⟩ := edge_of he
      rw [can_at he] at hc
      have := I1.2.2 (eLo e) (eHi e) l1 (of_decide_eq_true hc) (Or.inl (by have := of_decide_eq_true hc; omega))
      rw [l3] at this
      exact this
end
