/-! listsNets. -/
section
variable {g : zIJ} {n : Nat} {X Y : Nat → Int}
def rowUp (s : Nat → Int32) (n a : Nat) (t : Nat × Nat × Nat) : Nat × Nat × Nat := itr (fun b t => up3 s a b t) (n - (a + 1)) (a + 1) t
theorem r_ln48 (h : RB g n X Y) {a : Nat} (ha : a < n) (t : Nat × Nat × Nat) : zev mX12_listsNets 48 [.ref 250, .int (nI a)] (wr3 g t.1 t.2.1 t.2.2) = zev mX12_listsNets 48 [.ref 250, .int (nI (a + 1))] (wr3 g (rowUp (g.1 251) n a t).1 (rowUp (g.1 251) n a t).2.1 (rowUp (g.1 251) n a t).2.2) := by
  have hn := h.1
  have h0 : ∀ t : Nat × Nat × Nat, RB (wr3 g t.1 t.2.1 t.2.2) n X Y := fun t => rb_of h rfl
  rw [uX12_listsNets_48, r_points (h0 t), zaI_some, nle_d hn ha]
  simp only [nI_1]
  refine zit (F := fun b t => zev mX12_listsNets 60 [.ref 250, .int (nI a), .int (nI b)] (wr3 g t.1 t.2.1 t.2.2)) (lo := a + 1) (n := n) (R := fun t => zev mX12_listsNets 48 [.ref 250, .int (nI (a + 1))] (wr3 g t.1 t.2.1 t.2.2)) (h := fun b t => up3 (g.1 251) a b t) (fun b t h1 h2 => r_ln60 h ha h2 (by omega) t) (fun t => ?_) (n - (a + 1)) (a + 1) t (Nat.le_refl _) (by omega)
  rw [uX12_listsNets_60, r_points (h0 t), zaI_some, le_d hn]
  simp only [nI_1]
  rfl
theorem rows_bit {s : Nat → Int32} (hn : n ≤ 9) {p : Nat × Nat × Nat → Nat} {w : Nat → Bool} (hp : ∀ a b t f, (p (up3 s a b t)).testBit f = ((p t).testBit f || (decide (f = eN a b) && w (eN a b)))) (t : Nat × Nat × Nat) (h0 : ∀ f, (p t).testBit f = false) (hw : ∀ e, e < 36 → w e = true → True) : p (itr (fun a t => rowUp s n a t) n 0 t) = mkM (fun e => Nat.blt (eHi e) n && w e) 36 := by
  have row : ∀ a t f, (p (rowUp s n a t)).testBit f = ((p t).testBit f || cdec (∃ b, a + 1 ≤ b ∧ b < n ∧ f = eN a b ∧ w f = true)) := by
    intro a t f
    unfold rowUp
    rw [itr_bit (p := p) (q := fun b f => decide (f = eN a b) && w (eN a b)) (fun b t f => hp a b t f)]
    congr 1
    by_cases q : ∃ b, a + 1 ≤ b ∧ b < n ∧ f = eN a b ∧ w f = true
    · rw [cdec_t q]
      obtain ⟨b, q1, q2, q3, q4⟩ := q
      exact cdec_t ⟨b, q1, by omega, by rw [decide_eq_true q3, ← q3, q4]; rfl⟩
    · rw [cdec_f q]
      refine cdec_f (fun ⟨b, q1, q2, q3⟩ => q ?_)
      rw [Bool.and_eq_true] at q3
      have q4 := of_decide_eq_true q3.1
      exact ⟨b, q1, by omega, q4, by rw [q4]; exact q3.2⟩
  have all := fun f => itr_bit (p := p) (q := fun a f => cdec (∃ b, a + 1 ≤ b ∧ b < n ∧ f = eN a b ∧ w f = true)) (h := fun a t => rowUp s n a t) (fun a t f => row a t f) n 0 t f
  have key : ∀ f, (p (itr (fun a t => rowUp s n a t) n 0 t)).testBit f = true ↔ ∃ a b, a < b ∧ b < n ∧ f = eN a b ∧ w f = true := by
    intro f
    rw [all f, h0 f, Bool.false_or]
    constructor
    · intro q
      obtain ⟨a, _, _, q⟩ := cdec_of q
      obtain ⟨b, q1, q2, q3, q4⟩ := cdec_of q
      exact ⟨a, b, by omega, q2, q3, q4⟩
    · intro ⟨a, b, q1, q2, q3, q4⟩
      exact cdec_t ⟨a, by omega, by omega, cdec_t ⟨b, by omega, q2, q3, q4⟩⟩
  refine bit_ext (n := 36) (bit_lt (fun i hi => ?_)) (mkM_lt _ _) (fun f hf => ?_)
  · cases q : (p (itr (fun a t => rowUp s n a t) n 0 t)).testBit i with
    | false => rfl
    | true =>
      obtain ⟨a, b, q1, q2, q3, _⟩ := (key i).mp q
      have := eN_lt (i := a) (j := b) (by omega) (by omega) (by omega)
      omega
  · rw [mkM_at, decide_eq_true hf, blt_d, Bool.true_and, Bool.eq_iff_iff, key f, Bool.and_eq_true]
    obtain ⟨l1, l2, l3, _, _⟩ := edge_of hf
    constructor
    · intro ⟨a, b, q1, q2, q3, q4⟩
      refine ⟨decide_eq_true ?_, q4⟩
      have := (edge_at (i := a) (j := b) (by omega) (by omega) (by omega)).2.2.2.1
      rw [← q3] at this
      omega
    · intro ⟨q1, q2⟩
      exact ⟨eLo f, eHi f, l1, of_decide_eq_true q1, l3.symm, q2⟩
theorem or_c {m f k : Nat} (c : Bool) : (m ||| cond c (2 ^ k) 0).testBit f = (m.testBit f || (decide (f = k) && c)) := by
  cases c with
  | false => simp
  | true =>
    show (m ||| 2 ^ k).testBit f = _
    rw [set_or]; simp
theorem rows_all {s : Nat → Int32} (hn : n ≤ 9) (hm : MksOK s n) : itr (fun a t => rowUp s n a t) n 0 (0, 0, 0) = (canM n, mM s 1, mM s 2) := by
  have e1 := rows_bit (s := s) (n := n) hn (p := fun t => t.1) (w := fun _ => true) (fun a b t f => by
    show (t.1 ||| 2 ^ eN a b).testBit f = _
    rw [set_or]; simp) (0, 0, 0) (fun f => by simp) (fun _ _ _ => trivial)
  have e2 := rows_bit (s := s) (n := n) hn (p := fun t => t.2.1) (w := fun e => decide (s (20 + e) = 1)) (fun a b t f => or_c _) (0, 0, 0) (fun f => by simp) (fun _ _ _ => trivial)
  have e3 := rows_bit (s := s) (n := n) hn (p := fun t => t.2.2) (w := fun e => decide (s (20 + e) = 2)) (fun a b t f => or_c _) (0, 0, 0) (fun f => by simp) (fun _ _ _ => trivial)
  have c1 : mkM (fun e => Nat.blt (eHi e) n && true) 36 = canM n := by unfold canM; congr 1; funext e; simp
  have cm : ∀ v : Int32, v ≠ 0 → mkM (fun e => Nat.blt (eHi e) n && decide (s (20 + e) = v)) 36 = mM s v := by
    intro v hv
    refine bit_ext (mkM_lt _ _) (mM_lt s v) (fun e he => ?_)
    rw [mkM_at, mM_at he, decide_eq_true he, blt_d, Bool.true_and]
    cases q : decide (s (20 + e) = v) with
    | false => simp
    | true =>
      have q := of_decide_eq_true q
      rw [decide_eq_true (show eHi e < n from by
        apply Classical.byContradiction
        intro h2
        exact hv (q.symm.trans ((hm e he).2 (by omega))))]
      rfl
  exact Prod.ext (e1.trans c1) (Prod.ext (e2.trans (cm 1 (by decide))) (e3.trans (cm 2 (by decide))))
theorem r_ln_all (h : RB g n X Y) (hm : MksOK (g.1 251) n) (hG : GP X Y n) (hd : Dist X Y n) (h3 : 3 ≤ n) (hc : ∀ e, e < 36 → (canM n).testBit e = true → g.2 296 e = lN (crM X Y n e)) (h0 : g.1 250 14 = 0) : zev mX12_listsNets 48 [.ref 250, .int 0] (wr3 g 0 0 0) = some (none, pushs (wr3 g (canM n) (mM (g.1 251) 1) (mM (g.1 251) 2)) 0 (netL X Y n (mM (g.1 251) 1) (mM (g.1 251) 2))) := by
  have hn := h.1
  have h0' : ∀ t : Nat × Nat × Nat, RB (wr3 g t.1 t.2.1 t.2.2) n X Y := fun t => rb_of h rfl
  have := zit (F := fun a t => zev mX12_listsNets 48 [.ref 250, .int (nI a)] (wr3 g t.1 t.2.1 t.2.2)) (lo := 0) (n := n) (R := fun t => zaV (zev mX12_lists 0 [.ref 250, .long 0, .int 36] (wr3 g t.1 t.2.1 t.2.2)) fun g3 => some (none, g3)) (h := fun a t => rowUp (g.1 251) n a t) (fun a t _ h2 => r_ln48 h h2 t) (fun t => by
    rw [uX12_listsNets_48, r_points (h0' t), zaI_some, le_d hn]; rfl) n 0 (0, 0, 0) (Nat.le_refl _) (by omega)
  refine Eq.trans this ?_
  rw [rows_all hn hm]
  have rl : RLs (wr3 g (canM n) (mM (g.1 251) 1) (mM (g.1 251) 2)) (canM n) (mM (g.1 251) 1) (mM (g.1 251) 2) (crM X Y n) := by
    refine ⟨wr3_10 _ _ _ _, wr3_11 _ _ _ _, wr3_12 _ _ _ _, fun k hk hck => ?_, fun k => crM_lt k⟩
    unfold wr3
    rw [zL_row _ _ (by decide : (296 : Nat) ≠ 250), zL_row _ _ (by decide : (296 : Nat) ≠ 250), zL_row _ _ (by decide : (296 : Nat) ≠ 250)]
    exact hc k hk hck
  have len := netL_len hG hd h3 hn (barred := mM (g.1 251) 2) (mM_can hm (v := 1) (by decide))
  have := r_lists (can := canM n) (must := mM (g.1 251) 1) (barred := mM (g.1 251) 2) (cr := crM X Y n) 36 0 (wr3 g (canM n) (mM (g.1 251) 1) (mM (g.1 251) 2)) 0 (Nat.le_refl _) rl h0 (by unfold netL at len; omega)
  show zaV (zev mX12_lists 0 [.ref 250, .long (lN 0), .int (nI 36)] _) _ = _
  rw [this]
  rfl
theorem r_listsNets (h : RB g n X Y) (hN : Near X Y n) (hG : GP X Y n) (hd : Dist X Y n) (hm : MksOK (g.1 251) n) (hc : g.1 250 15 = 0 ∨ (g.1 250 15 = 1 ∧ RLd g (netsOf X Y n (g.1 251)))) : ∃ g', zev mX12_listsNets 0 [.ref 250] g = some (none, g') ∧ zFr tLi g g' ∧ g'.1 250 15 = 1 ∧ RLd g' (netsOf X Y n (g.1 251)) := by
  have hn := h.1
  rw [uX12_listsNets_0]
  rcases hc with h15 | ⟨h15, hl⟩
  · rw [h15]
    have f0 : zFr tLi g (zsI (zsI g 250 15 1) 250 14 0) := fr_tr (fr_I g 1 rfl) (fr_I _ 0 rfl)
    have h1 : RB (zsI (zsI g 250 15 1) 250 14 0) n X Y := by
      unfold RB
      rw [zI_row _ _ (by decide : (251 : Nat) ≠ 250), zI_row _ _ (by decide : (251 : Nat) ≠ 250)]
      exact h
    have e14 : (zsI (zsI g 250 15 1) 250 14 0).1 250 14 = 0 := zI_same _ _ _ _
    have e15 : (zsI (zsI g 250 15 1) 250 14 0).1 250 15 = 1 := by rw [zI_col _ _ (by decide : (15 : Nat) ≠ 14), zI_same]
    have e251 : (zsI (zsI g 250 15 1) 250 14 0).1 251 = g.1 251 := by rw [zI_row _ _ (by decide : (251 : Nat) ≠ 250), zI_row _ _ (by decide : (251 : Nat) ≠ 250)]
    generalize zsI (zsI g 250 15 1) 250 14 0 = g1 at f0 h1 e14 e15 e251
    show ∃ g', (zaI (zev mX12_points 0 [.ref 250] g1) fun x2 g1 => _) = some (none, g') ∧ _
    rw [r_points h1, zaI_some]
    unfold netsOf
    by_cases q : n < 3
    · rw [show decide ((3 : Int32) ≤ nI n) = false from decide_eq_false (nI_ge (a := n) (b := 3) q (by omega)), nblt_t q]
      exact ⟨g1, rfl, f0, e15, e14, fun i hi => by simp at hi⟩
    · rw [show decide ((3 : Int32) ≤ nI n) = true from decide_eq_true (nI_le (a := 3) (b := n) (by omega) (by omega)), nblt_f q]
      obtain ⟨g2, r1, r2, r3, r4⟩ := r_reads h1 hN hG
      have h2 := rb_of h1 r2
      have m2 : MksOK (g2.1 251) n := by rw [r2, e251]; exact hm
      have all := r_ln_all h2 m2 hG hd (by omega) r4 (by rw [r2]; exact e14)
      have e2 : g2.1 251 = g.1 251 := by rw [r2, e251]
      rw [e2] at all
      have f2 : zFr tLi g1 g2 := fun k j t => ⟨by rw [r2], by
        by_cases e : k = 296
        · subst e; cases t
        · rw [r3 k e]⟩
      have f3 : zFr tLi g2 (wr3 g2 (canM n) (mM (g.1 251) 1) (mM (g.1 251) 2)) := fr_tr (fr_tr (fr_L _ _ rfl) (fr_L _ _ rfl)) (fr_L _ _ rfl)
      refine ⟨_, ?_, fr_tr (fr_tr f0 f2) (fr_tr f3 (pushs_fr (netL X Y n (mM (g.1 251) 1) (mM (g.1 251) 2)) _ 0)), ?_, ?_, ?_⟩
      · show (zaV (zev mX12_readsCrossings 0 [.ref 250] g1) _) = _
        rw [r1, zaV_some]
        exact all
      · have e15b : (wr3 g2 (canM n) (mM (g.1 251) 1) (mM (g.1 251) 2)).1 250 15 = 1 := by
          show g2.1 250 15 = 1
          rw [r2]; exact e15
        have keep : ∀ (l : List Nat) (g : zIJ) (N : Nat), (pushs g N l).1 250 15 = g.1 250 15 := by
          intro l
          induction l with
          | nil => intro g N; rfl
          | cons x xs ih =>
            intro g N
            show (pushs (push g N x) (N + 1) xs).1 250 15 = _
            rw [ih]
            exact zI_col _ _ (by decide)
        rw [keep]; exact e15b
      · have := pushs_n (netL X Y n (mM (g.1 251) 1) (mM (g.1 251) 2)) (wr3 g2 (canM n) (mM (g.1 251) 1) (mM (g.1 251) 2)) 0 (by show g2.1 250 14 = nI 0; rw [r2]; exact e14)
        rw [Nat.zero_add] at this
        exact this
      · intro i hi
        have := pushs_at (netL X Y n (mM (g.1 251) 1) (mM (g.1 251) 2)) (wr3 g2 (canM n) (mM (g.1 251) 1) (mM (g.1 251) 2)) 0 i hi
        rw [Nat.zero_add] at this
        exact this
  · rw [h15]
    exact ⟨g, rfl, fr_refl _ g, h15, hl⟩
end
