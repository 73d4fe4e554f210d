/-! The class's plane: who lies left of what; crossings. -/
/-- those left of the way from a to b -/
def lfM (X Y : Nat → Int) (n a b : Nat) : Nat := mkM (fun c => Nat.blt c n && (!Nat.beq c a && (!Nat.beq c b && oXY X Y a b c))) 9
theorem beq_d (a b : Nat) : Nat.beq a b = decide (a = b) := by
  by_cases h : a = b
  · subst h; rw [Nat.beq_refl, decide_eq_true rfl]
  · rw [nbeq_f h, decide_eq_false h]
theorem lfM_at {X Y : Nat → Int} {n a b c : Nat} (hc : c < 9) : (lfM X Y n a b).testBit c = (decide (c < n) && (!decide (c = a) && (!decide (c = b) && oXY X Y a b c))) := by
  unfold lfM
  rw [mkM_at, decide_eq_true hc, blt_d, beq_d, beq_d]; rfl
theorem i_9 (a b : Nat) : nI a * 9 + nI b = nI (a * 9 + b) := by
  show nI a * nI 9 + nI b = _
  rw [← nI_add]
  congr 1
  exact (Int32.ofNat_mul a 9).symm
/-- the bits that are set so far -/
def LfB (g : zIJ) (B : Nat → Nat → Nat → Bool) : Prop := ∀ u v, u < 9 → v < 9 → g.1 218 (u * 9 + v) = nI (mkM (B u v) 9)
theorem mkM_up {p : Nat → Bool} {c : Nat} (hc : c < 9) : mkM p 9 ||| 2 ^ c = mkM (fun i => p i || Nat.beq i c) 9 := by
  refine bit_ext (n := 9) (Nat.or_lt_two_pow (mkM_lt _ _) (Nat.pow_lt_pow_right (by omega) hc)) (mkM_lt _ _) (fun i hi => ?_)
  rw [set_or, mkM_at, mkM_at, decide_eq_true hi, beq_d]
  rfl
theorem mkM_cg {p q : Nat → Bool} : ∀ n, (∀ i, i < n → p i = q i) → mkM p n = mkM q n
  | 0, _ => rfl
  | n + 1, h => by
    unfold mkM
    rw [mkM_cg n (fun i hi => h i (by omega)), h n (by omega)]
def put1 (B : Nat → Nat → Nat → Bool) (a b c : Nat) : Nat → Nat → Nat → Bool := fun u v w => B u v w || (Nat.beq u a && (Nat.beq v b && Nat.beq w c))
theorem lfb_put {g : zIJ} {B : Nat → Nat → Nat → Bool} (h : LfB g B) {a b c : Nat} (ha : a < 9) (hb : b < 9) (hc : c < 9) : LfB (zsI g 218 (a * 9 + b) (g.1 218 (a * 9 + b) ||| ((1 : Int32) <<< (nI c &&& 31)))) (put1 B a b c) := by
  intro u v hu hv
  by_cases e : u = a ∧ v = b
  · rw [e.1, e.2, zI_same, h a b ha hb, sh1_i c (by omega), nI_or, mkM_up hc]
    congr 1
    refine mkM_cg 9 (fun i _ => ?_)
    unfold put1
    rw [Nat.beq_refl, Nat.beq_refl]
    simp
  · rw [zI_col _ _ (by omega), h u v hu hv]
    congr 1
    refine mkM_cg 9 (fun i _ => ?_)
    unfold put1
    by_cases e1 : u = a
    · rw [nbeq_f (fun q => e ⟨e1, q⟩ : v ≠ b)]; simp
    · rw [nbeq_f e1]; simp
def tSd (k _j : Nat) : Bool := Nat.beq k 218
theorem c_setLeft {g : zIJ} {B : Nat → Nat → Nat → Bool} (h : LfB g B) {a b c : Nat} (ha : a < 9) (hb : b < 9) (hc : c < 9) : ∃ g', zev mX5_setLeftTurn 0 [.ref 211, .int (nI a), .int (nI b), .int (nI c)] g = some (none, g') ∧ zFr tSd g g' ∧ LfB g' (put1 (put1 (put1 B a b c) b c a) c a b) := by
  rw [uX5_setLeftTurn_0, i_9, i_9, i_9, zin_n (by omega : a * 9 + b < 81) (by omega), zin_n (by omega : b * 9 + c < 81) (by omega), zin_n (by omega : c * 9 + a < 81) (by omega), nI_clamp (by omega : a * 9 + b < 2 ^ 31), nI_clamp (by omega : b * 9 + c < 2 ^ 31), nI_clamp (by omega : c * 9 + a < 2 ^ 31)]
  exact ⟨_, rfl, fr_tr (fr_tr (fr_I g _ rfl) (fr_I _ _ rfl)) (fr_I _ _ rfl), lfb_put (lfb_put (lfb_put h ha hb hc) hb hc ha) hc ha hb⟩
section
variable {g : zIJ} {n : Nat} {X Y : Nat → Int}
/-- three in their order, ahead of (a, b, c) -/
def Don (a b c u v w : Nat) : Prop := min u (min v w) < a ∨ (min u (min v w) = a ∧ (u + v + w - min u (min v w) - max u (max v w) < b ∨ (u + v + w - min u (min v w) - max u (max v w) = b ∧ max u (max v w) < c)))
noncomputable def lB (X Y : Nat → Int) (n a b c : Nat) (u v w : Nat) : Bool := cdec (u < n ∧ v < n ∧ w < n ∧ u ≠ v ∧ u ≠ w ∧ v ≠ w ∧ oXY X Y u v w = true ∧ Don a b c u v w)
def SdI (g g' : zIJ) (X Y : Nat → Int) (n a b c : Nat) : Prop := zFr tSd g g' ∧ LfB g' (lB X Y n a b c)
theorem lfb_cg {g : zIJ} {B B' : Nat → Nat → Nat → Bool} (h : LfB g B) (e : ∀ u v w, u < 9 → v < 9 → w < 9 → B u v w = B' u v w) : LfB g B' := by
  intro u v hu hv
  rw [h u v hu hv]
  congr 1
  exact mkM_cg 9 (fun w hw => e u v w hu hv hw)
theorem lB_cg {a b c a' b' c' : Nat} (h : ∀ u v w, u < n → v < n → w < n → u ≠ v → u ≠ w → v ≠ w → (Don a b c u v w ↔ Don a' b' c' u v w)) (u v w : Nat) : lB X Y n a b c u v w = lB X Y n a' b' c' u v w := by
  unfold lB
  congr 1
  apply propext
  constructor
  · intro ⟨h1, h2, h3, h4, h5, h6, h7, h8⟩
    exact ⟨h1, h2, h3, h4, h5, h6, h7, (h u v w h1 h2 h3 h4 h5 h6).mp h8⟩
  · intro ⟨h1, h2, h3, h4, h5, h6, h7, h8⟩
    exact ⟨h1, h2, h3, h4, h5, h6, h7, (h u v w h1 h2 h3 h4 h5 h6).mpr h8⟩
theorem srt3 {u v w mn mx : Nat} (h1 : u < v) (h2 : v < w) : (min u (min v w) = u ∧ max u (max v w) = w) ∧ (min u (min w v) = u ∧ max u (max w v) = w) ∧ (min v (min u w) = u ∧ max v (max u w) = w) ∧ (min v (min w u) = u ∧ max v (max w u) = w) ∧ (min w (min u v) = u ∧ max w (max u v) = w) ∧ (min w (min v u) = u ∧ max w (max v u) = w) := by
  exact ⟨⟨by omega, by omega⟩, ⟨by omega, by omega⟩, ⟨by omega, by omega⟩, ⟨by omega, by omega⟩, ⟨by omega, by omega⟩, ⟨by omega, by omega⟩⟩
/-- one triple more -/
theorem lB_step (hG : GP X Y n) {a b c p q r : Nat} (hab : a < b) (hbc : b < c) (hc : c < n) (hpq : (p = a ∧ q = b ∧ r = c) ∨ (p = a ∧ q = c ∧ r = b)) (ho : oXY X Y p q r = true) (u v w : Nat) : put1 (put1 (put1 (lB X Y n a b c) p q r) q r p) r p q u v w = lB X Y n a b (c + 1) u v w := by
  have C := cc_xy hG
  have o1 : oXY X Y q r p = true := (cr1 C (a := p) (b := q) (c := r) (by omega) (by omega) (by omega) (by omega) (by omega) (by omega)).trans ho
  have o2 : oXY X Y r p q = true := (cr2 C (a := p) (b := q) (c := r) (by omega) (by omega) (by omega) (by omega) (by omega) (by omega)).trans ho
  have o3 : oXY X Y q p r = false := by rw [cr3 C (a := p) (b := q) (c := r) (by omega) (by omega) (by omega) (by omega) (by omega) (by omega), ho]; rfl
  have o4 : oXY X Y p r q = false := by rw [cr4 C (a := p) (b := q) (c := r) (by omega) (by omega) (by omega) (by omega) (by omega) (by omega), ho]; rfl
  have o5 : oXY X Y r q p = false := by rw [cr5 C (a := p) (b := q) (c := r) (by omega) (by omega) (by omega) (by omega) (by omega) (by omega), ho]; rfl
  unfold put1
  rw [beq_d, beq_d, beq_d, beq_d, beq_d, beq_d, beq_d, beq_d, beq_d, Bool.eq_iff_iff]
  simp only [Bool.or_eq_true, Bool.and_eq_true, decide_eq_true_iff]
  constructor
  · intro h
    rcases h with ((h | ⟨rfl, rfl, rfl⟩) | ⟨rfl, rfl, rfl⟩) | ⟨rfl, rfl, rfl⟩
    · obtain ⟨h1, h2, h3, h4, h5, h6, h7, h8⟩ := cdec_of h
      refine cdec_t ⟨h1, h2, h3, h4, h5, h6, h7, ?_⟩
      unfold Don at h8 ⊢
      omega
    · refine cdec_t ⟨by omega, by omega, by omega, by omega, by omega, by omega, ho, ?_⟩
      unfold Don
      omega
    · refine cdec_t ⟨by omega, by omega, by omega, by omega, by omega, by omega, o1, ?_⟩
      unfold Don
      omega
    · refine cdec_t ⟨by omega, by omega, by omega, by omega, by omega, by omega, o2, ?_⟩
      unfold Don
      omega
  · intro h
    obtain ⟨h1, h2, h3, h4, h5, h6, h7, h8⟩ := cdec_of h
    by_cases d : Don a b c u v w
    · exact Or.inl (Or.inl (Or.inl (cdec_t ⟨h1, h2, h3, h4, h5, h6, h7, d⟩)))
    · -- it is the new one
      have e3 : min u (min v w) = a ∧ u + v + w - min u (min v w) - max u (max v w) = b ∧ max u (max v w) = c := by
        unfold Don at h8 d
        generalize u + v + w - min u (min v w) - max u (max v w) = md at h8 d ⊢
        generalize min u (min v w) = mn at h8 d ⊢
        generalize max u (max v w) = mx at h8 d ⊢
        omega
      obtain ⟨f1, f2, f3⟩ := e3
      have pm : (u = a ∧ v = b ∧ w = c) ∨ (u = b ∧ v = c ∧ w = a) ∨ (u = c ∧ v = a ∧ w = b) ∨ (u = b ∧ v = a ∧ w = c) ∨ (u = a ∧ v = c ∧ w = b) ∨ (u = c ∧ v = b ∧ w = a) := by
        clear h7 h8 d ho o1 o2 o3 o4 o5 hpq h
        rcases Nat.lt_or_gt_of_ne h4 with k1 | k1 <;> rcases Nat.lt_or_gt_of_ne h5 with k2 | k2 <;> rcases Nat.lt_or_gt_of_ne h6 with k3 | k3
        · have z := (srt3 (mn := 0) (mx := 0) k1 k3).1
          rw [z.1] at f1 f2; rw [z.2] at f2 f3
          exact Or.inl ⟨f1, by omega, f3⟩
        · have z := (srt3 (mn := 0) (mx := 0) k2 k3).2.1
          rw [z.1] at f1 f2; rw [z.2] at f2 f3
          exact Or.inr (Or.inr (Or.inr (Or.inr (Or.inl ⟨f1, f3, by omega⟩))))
        · omega
        · have z := (srt3 (mn := 0) (mx := 0) k2 k1).2.2.2.1
          rw [z.1] at f1 f2; rw [z.2] at f2 f3
          exact Or.inr (Or.inl ⟨by omega, f3, f1⟩)
        · have z := (srt3 (mn := 0) (mx := 0) k1 k2).2.2.1
          rw [z.1] at f1 f2; rw [z.2] at f2 f3
          exact Or.inr (Or.inr (Or.inr (Or.inl ⟨by omega, f1, f3⟩)))
        · omega
        · have z := (srt3 (mn := 0) (mx := 0) k3 k2).2.2.2.2.1
          rw [z.1] at f1 f2; rw [z.2] at f2 f3
          exact Or.inr (Or.inr (Or.inl ⟨f3, f1, by omega⟩))
        · have z := (srt3 (mn := 0) (mx := 0) k3 k1).2.2.2.2.2
          rw [z.1] at f1 f2; rw [z.2] at f2 f3
          exact Or.inr (Or.inr (Or.inr (Or.inr (Or.inr ⟨f3, by omega, f1⟩))))
      have hs : (u = p ∧ v = q ∧ w = r) ∨ (u = q ∧ v = r ∧ w = p) ∨ (u = r ∧ v = p ∧ w = q) ∨ (u = q ∧ v = p ∧ w = r) ∨ (u = p ∧ v = r ∧ w = q) ∨ (u = r ∧ v = q ∧ w = p) := by
        rcases hpq with ⟨rfl, rfl, rfl⟩ | ⟨rfl, rfl, rfl⟩
        · exact pm
        · rcases pm with e | e | e | e | e | e
          · exact Or.inr (Or.inr (Or.inr (Or.inr (Or.inl e))))
          · exact Or.inr (Or.inr (Or.inr (Or.inr (Or.inr e))))
          · exact Or.inr (Or.inr (Or.inr (Or.inl e)))
          · exact Or.inr (Or.inr (Or.inl e))
          · exact Or.inl e
          · exact Or.inr (Or.inl e)
      rcases hs with e | e | e | ⟨rfl, rfl, rfl⟩ | ⟨rfl, rfl, rfl⟩ | ⟨rfl, rfl, rfl⟩
      · exact Or.inl (Or.inl (Or.inr e))
      · exact Or.inl (Or.inr e)
      · exact Or.inr e
      · rw [o3] at h7; cases h7
      · rw [o4] at h7; cases h7
      · rw [o5] at h7; cases h7
theorem sd_px (h : PX g n X Y) {g' : zIJ} (f : zFr tSd g g') : PX g' n X Y := px_of h (f 211 7 rfl).1 (funext fun j => (f 212 j rfl).1) (funext fun j => (f 213 j rfl).1)
theorem sd_cb (h : CB g n X Y) {g' : zIJ} (f : zFr tSd g g') : CB g' n X Y := cb_of h (funext fun j => (f 4 j rfl).1) (funext fun j => (f 5 j rfl).1) (funext fun j => (f 6 j rfl).1)
theorem c_sides (h : PX g n X Y) (hb : CB g n X Y) (hN : Near X Y n) (hG : GP X Y n) : ∃ g', zev mX5_findSides 0 [.ref 211, .ref 4] g = some (none, g') ∧ zFr tSd g g' ∧ ∀ a b, a < n → b < n → a ≠ b → g'.1 218 (a * 9 + b) = nI (lfM X Y n a b) := by
  have hn := h.1
  obtain ⟨g0, e0, z0, f0⟩ := fill_i (t := 218) (N := 81) rfl (by omega) 0 g
  rw [uX5_findSides_0, e0, zaV_some]
  have f0' : zFr tSd g g0 := fr_le f0 (fun a b q => by
    unfold tSd at q
    rw [q]; rfl)
  have i0 : SdI g g0 X Y n 0 0 0 := ⟨f0', fun u v hu hv => by
    rw [z0 (u * 9 + v) (by omega)]
    have : mkM (lB X Y n 0 0 0 u v) 9 = mkM (fun _ => false) 9 := mkM_cg 9 (fun w _ => cdec_f (fun q => by
      have := q.2.2.2.2.2.2.2
      unfold Don at this
      omega))
    rw [this]
    rfl⟩
  refine zloop (F := fun a g' => zev mX5_findSides 10 [.ref 211, .ref 4, .int (nI a)] g') (I := fun a g' => SdI g g' X Y n a 0 0) (Post := fun r => ∃ g', r = some (none, g') ∧ zFr tSd g g' ∧ ∀ a b, a < n → b < n → a ≠ b → g'.1 218 (a * 9 + b) = nI (lfM X Y n a b)) (lo := 0) (n := n) (fun a g1 _ ha I1 => ?_) (fun g1 I1 => ?_) n 0 g0 (Nat.le_refl _) (by omega) i0
  · have h1 := sd_px h I1.1
    rw [uX5_findSides_10, h1.2.1, nle_d hn ha]
    simp only [nI_1]
    refine zloop (F := fun b g' => zev mX5_findSides 22 [.ref 211, .ref 4, .int (nI a), .int (nI b)] g') (I := fun b g' => SdI g g' X Y n a b 0) (Post := fun r => ∃ s', r = zev mX5_findSides 10 [.ref 211, .ref 4, .int (nI (a + 1))] s' ∧ SdI g s' X Y n (a + 1) 0 0) (lo := a + 1) (n := n) (fun b g2 hb1 hb2 I2 => ?_) (fun g2 I2 => ?_) (n - (a + 1)) (a + 1) g1 (Nat.le_refl _) (by omega) ⟨I1.1, lfb_cg I1.2 (fun u v w _ _ _ => lB_cg (fun u v w _ _ _ _ _ _ => by unfold Don; omega) u v w)⟩
    · have h2 := sd_px h I2.1
      rw [uX5_findSides_22, h2.2.1, nle_d hn hb2]
      simp only [nI_1]
      refine zloop (F := fun c g' => zev mX5_findSides 35 [.ref 211, .ref 4, .int (nI a), .int (nI b), .int (nI c)] g') (I := fun c g' => SdI g g' X Y n a b c) (Post := fun r => ∃ s', r = zev mX5_findSides 22 [.ref 211, .ref 4, .int (nI a), .int (nI (b + 1))] s' ∧ SdI g s' X Y n a (b + 1) 0) (lo := b + 1) (n := n) (fun c g3 hc1 hc2 I3 => ?_) (fun g3 I3 => ?_) (n - (b + 1)) (b + 1) g2 (Nat.le_refl _) (by omega) ⟨I2.1, lfb_cg I2.2 (fun u v w _ _ _ => lB_cg (fun u v w _ _ _ _ _ _ => by unfold Don; omega) u v w)⟩
      · have h3 := sd_px h I3.1
        have b3 := sd_cb hb I3.1
        rw [uX5_findSides_35, h3.2.1, nle_d hn hc2, c_turnsLeft b3 hN ha (by omega) hc2, zaI_some, bI_0]
        simp only [nI_1]
        cases q : oXY X Y a b c with
        | true =>
          obtain ⟨g4, e4, f4, l4⟩ := c_setLeft I3.2 (a := a) (b := b) (c := c) (by omega) (by omega) (by omega)
          refine ⟨g4, ?_, fr_tr I3.1 f4, lfb_cg l4 (fun u v w _ _ _ => lB_step hG (by omega) (by omega) hc2 (Or.inl ⟨rfl, rfl, rfl⟩) q u v w)⟩
          show zaV (zev mX5_setLeftTurn 0 [.ref 211, .int (nI a), .int (nI b), .int (nI c)] g3) _ = _
          rw [e4, zaV_some]
        | false =>
          obtain ⟨g4, e4, f4, l4⟩ := c_setLeft I3.2 (a := a) (b := c) (c := b) (by omega) (by omega) (by omega)
          have q2 : oXY X Y a c b = true := by rw [cr4 (cc_xy hG) (a := a) (b := b) (c := c) ha hb2 hc2 (by omega) (by omega) (by omega), q]; rfl
          refine ⟨g4, ?_, fr_tr I3.1 f4, lfb_cg l4 (fun u v w _ _ _ => lB_step hG (by omega) (by omega) hc2 (Or.inr ⟨rfl, rfl, rfl⟩) q2 u v w)⟩
          show zaV (zev mX5_setLeftTurn 0 [.ref 211, .int (nI a), .int (nI c), .int (nI b)] g3) _ = _
          rw [e4, zaV_some]
      · have h3 := sd_px h I3.1
        refine ⟨g3, ?_, I3.1, lfb_cg I3.2 (fun u v w _ _ _ => lB_cg (fun u v w _ _ _ _ _ _ => by unfold Don; omega) u v w)⟩
        rw [uX5_findSides_35, h3.2.1, le_d hn]
        simp only [nI_1]
        rfl
    · have h2 := sd_px h I2.1
      refine ⟨g2, ?_, I2.1, lfb_cg I2.2 (fun u v w _ _ _ => lB_cg (fun u v w _ _ _ _ _ _ => by unfold Don; omega) u v w)⟩
      rw [uX5_findSides_22, h2.2.1, le_d hn]
      simp only [nI_1]
      rfl
  · have h1 := sd_px h I1.1
    refine ⟨g1, ?_, I1.1, fun a b ha hb nab => ?_⟩
    · rw [uX5_findSides_10, h1.2.1, le_d hn]
      rfl
    · rw [I1.2 a b (by omega) (by omega)]
      congr 1
      unfold lfM
      refine mkM_cg 9 (fun c hc => ?_)
      rw [blt_d, beq_d, beq_d, Bool.eq_iff_iff]
      simp only [Bool.and_eq_true, decide_eq_true_iff, Bool.not_eq_true', decide_eq_false_iff_not]
      constructor
      · intro q
        obtain ⟨q1, q2, q3, q4, q5, q6, q7, q8⟩ := cdec_of q
        exact ⟨q3, Ne.symm q5, Ne.symm q6, q7⟩
      · intro ⟨q1, q2, q3, q4⟩
        refine cdec_t ⟨ha, hb, q1, nab, Ne.symm q2, Ne.symm q3, q4, ?_⟩
        unfold Don
        omega
end
