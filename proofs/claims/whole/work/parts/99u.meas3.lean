/-! Nets measured. -/
def foV (fold : Int) (first : Bool) (sum v : Int64) : Int64 × Bool := cond first (v, false) (cond (decide (fold = 0)) (sum + v, pov sum v) (cond (decide (fold = 1)) (zmxL sum v, false) (cond (decide (fold = 2)) (zmnL sum v, false) (sum ^^^ v, false))))
/-- the class's fold: all edges stand measured -/
def fdV (E : Nat → Int64) (w : Nat) (fold : Int) : Nat → Nat → Bool × Int64 × Bool → Bool × Int64 × Bool
  | 0, _, p => p
  | k + 1, e, p => fdV E w fold k (e + 1) (cond (w.testBit e) (false, (foV fold p.1 p.2.1 (E e)).1, p.2.2 || (foV fold p.1 p.2.1 (E e)).2) p)
/-- the reference's: each edge is measured when it comes, nothing is undone once it is over -/
def rdV (E : Nat → Int64 × Bool) (R : Nat → Int64) (w : Nat) (fold : Int) : Nat → Nat → Bool × Int64 × Bool → Bool × Int64 × Bool
  | 0, _, p => p
  | k + 1, e, p => rdV E R w fold k (e + 1) (cond (w.testBit e) (false, (foV fold p.1 p.2.1 (cond p.2.2 (R e) (E e).1)).1, (p.2.2 || (E e).2) || (foV fold p.1 p.2.1 (cond p.2.2 (R e) (E e).1)).2) p)
theorem fdV_ov {E : Nat → Int64} {w : Nat} {fold : Int} : ∀ (k e : Nat) (p : Bool × Int64 × Bool), p.2.2 = true → (fdV E w fold k e p).2.2 = true
  | 0, _, _, h => h
  | k + 1, e, p, h => by
    show (fdV E w fold k (e + 1) _).2.2 = true
    refine fdV_ov k (e + 1) _ ?_
    cases w.testBit e
    · exact h
    · show (p.2.2 || _) = true
      rw [h]; rfl
theorem rdV_ov {E : Nat → Int64 × Bool} {R : Nat → Int64} {w : Nat} {fold : Int} : ∀ (k e : Nat) (p : Bool × Int64 × Bool), p.2.2 = true → (rdV E R w fold k e p).2.2 = true
  | 0, _, _, h => h
  | k + 1, e, p, h => by
    show (rdV E R w fold k (e + 1) _).2.2 = true
    refine rdV_ov k (e + 1) _ ?_
    cases w.testBit e
    · exact h
    · show ((p.2.2 || _) || _) = true
      rw [h]; rfl
theorem rdV_edge {E : Nat → Int64 × Bool} {R : Nat → Int64} {w : Nat} {fold : Int} : ∀ (k e : Nat) (p : Bool × Int64 × Bool), (∃ f, e ≤ f ∧ f < e + k ∧ w.testBit f = true ∧ (E f).2 = true) → (rdV E R w fold k e p).2.2 = true
  | 0, e, _, h => by
    obtain ⟨f, h1, h2, _⟩ := h
    omega
  | k + 1, e, p, h => by
    obtain ⟨f, h1, h2, h3, h4⟩ := h
    show (rdV E R w fold k (e + 1) _).2.2 = true
    by_cases q : f = e
    · subst q
      refine rdV_ov k (f + 1) _ ?_
      rw [h3]
      show ((p.2.2 || (E f).2) || _) = true
      rw [h4, Bool.or_true]; rfl
    · exact rdV_edge k (e + 1) _ ⟨f, by omega, by omega, h3, h4⟩
def fEq (p q : Bool × Int64 × Bool) : Prop := p.2.2 = q.2.2 ∧ (p.2.2 = false → p = q)
theorem rd_fd {E : Nat → Int64 × Bool} {R : Nat → Int64} {w : Nat} {fold : Int} : ∀ (k e : Nat) (p q : Bool × Int64 × Bool), (∀ f, e ≤ f → f < e + k → w.testBit f = true → (E f).2 = false) → fEq p q → fEq (rdV E R w fold k e p) (fdV (fun f => (E f).1) w fold k e q)
  | 0, _, _, _, _, h => h
  | k + 1, e, p, q, hE, h => by
    show fEq (rdV E R w fold k (e + 1) _) (fdV (fun f => (E f).1) w fold k (e + 1) _)
    refine rd_fd k (e + 1) _ _ (fun f h1 h2 h3 => hE f (by omega) (by omega) h3) ?_
    cases z : w.testBit e with
    | false => exact h
    | true =>
      have ez := hE e (by omega) (by omega) z
      cases o : p.2.2 with
      | true =>
        have o2 : q.2.2 = true := by rw [← h.1]; exact o
        refine ⟨?_, fun y => ?_⟩
        · show ((true || (E e).2) || (foV fold p.1 p.2.1 (R e)).2) = (q.2.2 || (foV fold q.1 q.2.1 (E e).1).2)
          rw [o2]; rfl
        · have y' : ((true || (E e).2) || (foV fold p.1 p.2.1 (R e)).2) = false := y
          exact absurd y' (by simp)
      | false =>
        have := h.2 o
        subst this
        refine ⟨?_, fun _ => ?_⟩
        · show ((false || (E e).2) || (foV fold p.1 p.2.1 (E e).1).2) = (p.2.2 || (foV fold p.1 p.2.1 (E e).1).2)
          rw [ez, o]; rfl
        · show (false, (foV fold p.1 p.2.1 (E e).1).1, (false || (E e).2) || (foV fold p.1 p.2.1 (E e).1).2) = (false, (foV fold p.1 p.2.1 (E e).1).1, p.2.2 || (foV fold p.1 p.2.1 (E e).1).2)
          rw [ez, o]; rfl
/-- the edges of a net that are over -/
def ovM (E : Nat → Int64 × Bool) (n k : Nat) : Nat := mkM (fun f => decide (f < k) && (decide (eHi f < n) && (E f).2)) 36
noncomputable def fnV (E : Nat → Int64 × Bool) (n w : Nat) (fold : Int) : Bool × Int64 × Bool := fdV (fun f => (E f).1) w fold 36 0 (true, 0, !decide (w &&& ovM E n 36 = 0))
theorem ovM_at {E : Nat → Int64 × Bool} {n k f : Nat} (hf : f < 36) : (ovM E n k).testBit f = (decide (f < k) && (decide (eHi f < n) && (E f).2)) := by
  unfold ovM
  rw [mkM_at, decide_eq_true hf]; rfl
theorem ovM_lt (E : Nat → Int64 × Bool) (n k : Nat) : ovM E n k < 2 ^ 36 := mkM_lt _ _
/-- what the reference finds is what the class finds -/
theorem rd_fn {E : Nat → Int64 × Bool} {R : Nat → Int64} {n w : Nat} {fold : Int} (hw : ∀ f, f < 36 → w.testBit f = true → eHi f < n) (o : Bool) : fEq (rdV E R w fold 36 0 (true, 0, o)) (cond o (true, 0, true) (fnV E n w fold)) ∨ (rdV E R w fold 36 0 (true, 0, o)).2.2 = true ∧ (o || (fnV E n w fold).2.2) = true := by
  cases o with
  | true => exact Or.inr ⟨rdV_ov 36 0 _ rfl, rfl⟩
  | false =>
    by_cases q : w &&& ovM E n 36 = 0
    · refine Or.inl ?_
      unfold fnV
      rw [decide_eq_true q]
      refine rd_fd 36 0 _ _ (fun f _ hf wf => ?_) ⟨rfl, fun _ => rfl⟩
      have b : (w &&& ovM E n 36).testBit f = false := by rw [q, Nat.zero_testBit]
      rw [Nat.testBit_and, wf, ovM_at (by omega), decide_eq_true (by omega : f < 36), decide_eq_true (hw f (by omega) wf)] at b
      exact b
    · refine Or.inr ⟨?_, ?_⟩
      · have : ∃ f, f < 36 ∧ w.testBit f = true ∧ (E f).2 = true := by
          refine Classical.byContradiction (fun z => q (bit_ext (n := 36) (Nat.lt_of_le_of_lt Nat.and_le_right (ovM_lt _ _ _)) (by decide) (fun f hf => ?_)))
          rw [Nat.zero_testBit, Nat.testBit_and, ovM_at hf]
          cases z1 : w.testBit f with
          | false => rfl
          | true =>
            cases z2 : (E f).2 with
            | false => cases decide (f < 36) <;> cases decide (eHi f < n) <;> rfl
            | true => exact absurd ⟨f, hf, z1, z2⟩ z
        obtain ⟨f, hf, h1, h2⟩ := this
        exact rdV_edge 36 0 _ ⟨f, by omega, by omega, h1, h2⟩
      · rw [Bool.false_or]
        unfold fnV
        exact fdV_ov 36 0 _ (by show (!decide (w &&& ovM E n 36 = 0)) = true; rw [decide_eq_false q]; rfl)
/-- in short: over or not, and if not, which -/
theorem rd_end {E : Nat → Int64 × Bool} {R : Nat → Int64} {n w : Nat} {fold : Int} (hw : ∀ f, f < 36 → w.testBit f = true → eHi f < n) (o : Bool) : (rdV E R w fold 36 0 (true, 0, o)).2.2 = (o || (fnV E n w fold).2.2) ∧ ((o || (fnV E n w fold).2.2) = false → (rdV E R w fold 36 0 (true, 0, o)).2.1 = (fnV E n w fold).2.1) := by
  rcases rd_fn (E := E) (R := R) (fold := fold) hw o with h | ⟨h1, h2⟩
  · cases o with
    | true => exact ⟨h.1, fun z => absurd z (by simp)⟩
    | false => exact ⟨h.1, fun z => by rw [h.2 (h.1.trans z)]; rfl⟩
  · exact ⟨h1.trans h2.symm, fun z => by rw [h2] at z; exact absurd z (by decide)⟩
/-! the class -/
section
variable {g : zIJ} {s : Nat → Int32} {m : Nat}
def eM1 (s : Nat → Int32) (m : Nat) (r : Int) (e : Nat) : Int64 × Bool := eMs s m (XS s) (YS s) r (eLo e) (eHi e)
def tMt (k j : Nat) : Bool := decide (k = 232 ∨ k = 233)
theorem cbo_mt {g' : zIJ} (h : CBo g 4 s) (f : zFr tMt g g') : CBo g' 4 s := cbo_fr h (fun k j k1 k2 => f k j (decide_eq_false (by omega)))
theorem c_measureEdges (h : CBo g 4 s) (hw : Wf s) (hm : s 1 = nI m) (m8 : m ≤ 8) (r : Int32) : ∃ g', zev mX2_measureEdges 0 [.ref 232, .ref 4, .int r] g = some (none, g') ∧ zFr tMt g g' ∧ g'.2 232 1 = lN (ovM (eM1 s m r.toInt) (nS s) 36) ∧ ∀ f, f < 36 → eHi f < nS s → g'.2 233 f = (eM1 s m r.toInt f).1 := by
  have hn := wf_n hw
  rw [uX2_measureEdges_0]
  refine zloop (F := fun k g1 => zev mX2_measureEdges 7 [.ref 232, .ref 4, .int r, .int (nI k)] g1) (I := fun k g1 => zFr tMt g g1 ∧ g1.2 232 1 = lN (ovM (eM1 s m r.toInt) (nS s) k) ∧ ∀ f, f < k → eHi f < nS s → g1.2 233 f = (eM1 s m r.toInt f).1) (Post := fun x => ∃ g', x = some (none, g') ∧ zFr tMt g g' ∧ g'.2 232 1 = lN (ovM (eM1 s m r.toInt) (nS s) 36) ∧ ∀ f, f < 36 → eHi f < nS s → g'.2 233 f = (eM1 s m r.toInt f).1) (lo := 0) (n := 36) (fun k g1 _ hk I1 => ?_) (fun g1 I1 => ?_) 36 0 _ (Nat.le_refl _) (by omega) ⟨fr_L g 0 rfl, ?_, fun f hf => by omega⟩
  · obtain ⟨f1, o1, v1⟩ := I1
    have cb := cbo_mt h f1
    obtain ⟨_, e2, _, _, e5⟩ := edge_of hk
    have c4 : g1.1 4 4 = nI (nS s) := cb.1.trans hw.1
    by_cases q : eHi k < nS s
    · obtain ⟨p, ep⟩ : ∃ p, p = eM1 s m r.toInt k := ⟨_, rfl⟩
      have ov : ∀ x, (zsL (mset g1 p.1 p.2) 233 k x).2 232 1 = lN (ovM (eM1 s m r.toInt) (nS s) k) := fun x => by
        rw [zL_at, if_neg (by omega), mset_o2 (by omega)]; exact o1
      have ovs : ovM (eM1 s m r.toInt) (nS s) (k + 1) = ovM (eM1 s m r.toInt) (nS s) k ||| cond p.2 (2 ^ k) 0 := by
        refine bit_ext (n := 36) (ovM_lt _ _ _) (Nat.or_lt_two_pow (ovM_lt _ _ _) (by cases p.2; exact Nat.two_pow_pos 36; exact Nat.pow_lt_pow_right (by omega) hk)) (fun f hf => ?_)
        rw [Nat.testBit_or, ovM_at hf, ovM_at hf]
        by_cases z : f = k
        · subst z
          rw [← ep, decide_eq_true (by omega : f < f + 1), decide_eq_false (by omega : ¬ f < f), decide_eq_true q]
          cases p.2
          · show false = (_ || Nat.testBit 0 f)
            rw [Nat.zero_testBit]; rfl
          · show true = (_ || Nat.testBit (2 ^ f) f)
            rw [Nat.testBit_two_pow, decide_eq_true rfl, Bool.or_true]
        · rw [show decide (f < k + 1) = decide (f < k) from decide_eq_decide.mpr (by omega)]
          cases p.2
          · show _ = (_ || Nat.testBit 0 f)
            rw [Nat.zero_testBit, Bool.or_false]
          · show _ = (_ || Nat.testBit (2 ^ k) f)
            rw [Nat.testBit_two_pow, decide_eq_false (show ¬ k = f from fun y => z y.symm), Bool.or_false]
      refine ⟨zsL (zsL (mset g1 p.1 p.2) 233 k p.1) 232 1 (lN (ovM (eM1 s m r.toInt) (nS s) (k + 1))), ?_, ?_, ?_, fun f hf hh => ?_⟩
      · rw [uX2_measureEdges_7, lit36 hk, zin_n hk (by omega), nI_clamp (by omega : k < 2 ^ 31), e5, c4, decide_eq_false (nI_ge (a := eHi k) (b := nS s) q (by omega)), c_measureEdge cb hw hm m8 hk q, zaV_some, show eMs s m (XS s) (YS s) r.toInt (eLo k) (eHi k) = p from ep.symm, mset_2, ov, show (zsL (mset g1 p.1 p.2) 233 k p.1).1 232 3 = bI p.2 from mset_3 g1 p.1 p.2, bI_0, nI_1, ovs, bit_l (by omega : k < 63), lN_or]
        cases p.2
        · show _ = zev mX2_measureEdges 7 [.ref 232, .ref 4, .int r, .int (nI (k + 1))] (zsL _ 232 1 (lN (ovM (eM1 s m r.toInt) (nS s) k ||| 0)))
          rw [show lN (ovM (eM1 s m r.toInt) (nS s) k ||| 0) = lN (ovM (eM1 s m r.toInt) (nS s) k) ||| 0 from (lN_or _ 0).symm]; rfl
        · rfl
      · exact fr_tr f1 (fr_tr (fr_tr (fr_tr (fr_I g1 (bI p.2) rfl) (fr_L _ p.1 rfl)) (fr_L _ p.1 rfl)) (fr_L _ _ rfl))
      · rw [zL_same]
      · rw [zL_at, if_neg (by omega), zL_at]
        by_cases z : f = k
        · rw [if_pos ⟨rfl, z⟩, z, ← ep]
        · rw [if_neg (fun y => z y.2), mset_o2 (by omega)]; exact v1 f (by omega) hh
    · refine ⟨g1, ?_, f1, ?_, fun f hf hh => ?_⟩
      · rw [uX2_measureEdges_7, lit36 hk, zin_n hk (by omega), nI_clamp (by omega : k < 2 ^ 31), e5, c4, decide_eq_true (nI_le (a := nS s) (b := eHi k) (by omega) (by omega)), nI_1]; rfl
      · rw [o1]
        congr 1
        refine bit_ext (ovM_lt _ _ _) (ovM_lt _ _ _) (fun f hf => ?_)
        rw [ovM_at hf, ovM_at hf]
        by_cases z : f = k
        · rw [z, decide_eq_false q]
          cases decide (k < k + 1) <;> cases decide (k < k) <;> rfl
        · rw [show decide (f < k + 1) = decide (f < k) from decide_eq_decide.mpr (by omega)]
      · by_cases z : f = k
        · rw [z] at hh; exact absurd hh q
        · exact v1 f (by omega) hh
  · refine ⟨g1, ?_, I1⟩
    rw [uX2_measureEdges_7]; rfl
  · show (zsL g 232 1 0).2 232 1 = _
    rw [zL_same, show ovM (eM1 s m r.toInt) (nS s) 0 = 0 from bit_ext (n := 36) (ovM_lt _ _ _) (by decide) (fun f hf => by rw [ovM_at hf, Nat.zero_testBit, decide_eq_false (by omega)]; rfl)]; rfl
theorem c_foldIn (fold : Int32) (v x : Int64) : zev mX2_foldIn 0 [.ref 232, .long x, .int fold] (mset g v false) = some (none, mset g (foV fold.toInt false v x).1 (foV fold.toInt false v x).2) := by
  rw [uX2_foldIn_0, c_plus, zaV_some, mset_2, mset_L, mset_L, mset_L]
  unfold foV
  cases decide (fold.toInt = 0)
  · cases decide (fold.toInt = 1)
    · cases decide (fold.toInt = 2) <;> rfl
    · rfl
  · rfl
theorem c_mnl {E : Nat → Int64} {w : Nat} {fold : Int32} {n : Nat} (hv : ∀ f, f < 36 → eHi f < n → g.2 233 f = E f) (hw : ∀ f, f < 36 → w.testBit f = true → eHi f < n) : ∀ (k e : Nat) (p : Bool × Int64 × Bool), e + k = 36 → ∃ v', zev mX2_measureNet 31 [.ref 232, .long (lN w), .int fold, .int (bI p.1), .int (nI e)] (mset g p.2.1 p.2.2) = some (none, mset g v' (fdV E w fold.toInt k e p).2.2) ∧ ((fdV E w fold.toInt k e p).2.2 = false → v' = (fdV E w fold.toInt k e p).2.1)
  | 0, e, p, he => by
    have : e = 36 := by omega
    subst this
    refine ⟨p.2.1, ?_, fun _ => rfl⟩
    rw [uX2_measureNet_31]; rfl
  | k + 1, e, p, he => by
    cases o : p.2.2 with
    | true =>
      refine ⟨p.2.1, ?_, fun z => ?_⟩
      · rw [fdV_ov (k + 1) e p o, uX2_measureNet_31, lit36 (by omega), mset_3]; rfl
      · rw [fdV_ov (k + 1) e p o] at z; exact absurd z (by decide)
    | false =>
      show ∃ v', _ = some (none, mset g v' (fdV E w fold.toInt k (e + 1) (cond (w.testBit e) (false, (foV fold.toInt p.1 p.2.1 (E e)).1, p.2.2 || (foV fold.toInt p.1 p.2.1 (E e)).2) p)).2.2) ∧ ((fdV E w fold.toInt k (e + 1) (cond (w.testBit e) (false, (foV fold.toInt p.1 p.2.1 (E e)).1, p.2.2 || (foV fold.toInt p.1 p.2.1 (E e)).2) p)).2.2 = false → v' = (fdV E w fold.toInt k (e + 1) (cond (w.testBit e) (false, (foV fold.toInt p.1 p.2.1 (E e)).1, p.2.2 || (foV fold.toInt p.1 p.2.1 (E e)).2) p)).2.1)
      have ih := c_mnl (fold := fold) hv hw k (e + 1) (cond (w.testBit e) (false, (foV fold.toInt p.1 p.2.1 (E e)).1, p.2.2 || (foV fold.toInt p.1 p.2.1 (E e)).2) p) (by omega)
      obtain ⟨v', e1, e2⟩ := ih
      refine ⟨v', ?_, e2⟩
      rw [← e1, uX2_measureNet_31, lit36 (by omega), mset_3, c_holds _ w (by omega : e < 64), zaI_some, bI_0, bI_0]
      cases z : w.testBit e with
      | false =>
        rw [nI_1]
        show zev mX2_measureNet 31 [.ref 232, .long (lN w), .int fold, .int (bI p.1), .int (nI (e + 1))] (mset g p.2.1 false) = zev mX2_measureNet 31 [.ref 232, .long (lN w), .int fold, .int (bI p.1), .int (nI (e + 1))] (mset g p.2.1 p.2.2)
        rw [o]
      | true =>
        have rd : ∀ q, (mset g p.2.1 q).2 233 e = E e := fun q => by rw [mset_o2 (by omega)]; exact hv e (by omega) (hw e (by omega) z)
        rw [zin_n (by omega : e < 36) (by omega), nI_clamp (by omega : e < 2 ^ 31), nI_1, rd, mset_L, c_foldIn, zaV_some, o]
        cases q : p.1 <;> rfl
theorem c_measureNet {E : Nat → Int64 × Bool} {w : Nat} {n : Nat} (fold : Int32) (hv : ∀ f, f < 36 → eHi f < n → g.2 233 f = (E f).1) (h1 : g.2 232 1 = lN (ovM E n 36)) (hw : ∀ f, f < 36 → w.testBit f = true → eHi f < n) : ∃ v', zev mX2_measureNet 0 [.ref 232, .long (lN w), .int fold] g = some (none, mset g v' (fnV E n w fold.toInt).2.2) ∧ ((fnV E n w fold.toInt).2.2 = false → v' = (fnV E n w fold.toInt).2.1) := by
  obtain ⟨v', e1, e2⟩ := c_mnl (g := g) (E := fun f => (E f).1) (fold := fold) hv hw 36 0 (true, 0, !decide (w &&& ovM E n 36 = 0)) (by omega)
  refine ⟨v', ?_, e2⟩
  rw [uX2_measureNet_0, uX2_start_0, zaV_some, show zsI (zsL g 232 2 0) 232 3 0 = mset g 0 false from rfl, mset_o2 (by omega), h1, lN_and, cmp_eq, lN_0 (Nat.lt_of_le_of_lt Nat.and_le_right (Nat.lt_trans (ovM_lt E n 36) (by omega))), show (0 : Int32) = bI false from rfl, show (1 : Int32) = bI true from rfl, mset_I, mset_I]
  refine Eq.trans ?_ e1
  cases decide (w &&& ovM E n 36 = 0) <;> rfl
end
